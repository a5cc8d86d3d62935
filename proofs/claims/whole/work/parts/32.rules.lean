section WPR
variable {E : am_E} {k M pc : Nat} {L L' : am_L} {st st' r : List Value} {h h' : am_H} {Q : Option Value → am_H → Prop}
/-- plain instructions whose outcome is seen by computing -/
theorem wp_g {n pc' : Nat} (hs : am_go E M n pc L st h = some (pc', L', st', h')) (w : wp E k M pc' L' st' h' Q) : wp E k M pc L st h Q := wp_go hs w
theorem wp_add {a b : Int} (hc : am_code M pc = some .iadd) (w : wp E k M (pc + 1) L (.int (iI (a + b)) :: r) h Q) : wp E k M pc L (.int (iI b) :: .int (iI a) :: r) h Q := wp_i2 (f := fun x y => x + y) hc (fun _ => rfl) (iI_add a b) w
theorem wp_sub {a b : Int} (hc : am_code M pc = some .isub) (w : wp E k M (pc + 1) L (.int (iI (a - b)) :: r) h Q) : wp E k M pc L (.int (iI b) :: .int (iI a) :: r) h Q := wp_i2 (f := fun x y => x - y) hc (fun _ => rfl) (iI_sub a b) w
theorem wp_mul {a b : Int} (hc : am_code M pc = some .imul) (w : wp E k M (pc + 1) L (.int (iI (a * b)) :: r) h Q) : wp E k M pc L (.int (iI b) :: .int (iI a) :: r) h Q := wp_i2 (f := fun x y => x * y) hc (fun _ => rfl) (iI_mul a b) w
theorem wp_neg {a : Int} (hc : am_code M pc = some .ineg) (w : wp E k M (pc + 1) L (.int (iI (-a)) :: r) h Q) : wp E k M pc L (.int (iI a) :: r) h Q := by
  refine wp_s (q := (pc + 1, L, .int (-iI a) :: r, h)) hc rfl ?_
  rw [iI_neg]
  exact w
theorem iI_div {a b : Int} (a1 : 0 ≤ a) (a2 : a < 2147483648) (b1 : 0 < b) (b2 : b < 2147483648) : iI a / iI b = iI (a / b) := by
  have ha : a = ((a.toNat : Nat) : Int) := by omega
  have hb : b = ((b.toNat : Nat) : Int) := by omega
  rw [ha, hb]
  have e1 : ∀ n : Nat, iI (n : Int) = nI n := fun n => Int32.ofInt_eq_ofNat
  rw [e1, e1, pk_div (by omega) (by omega) (by omega), ← e1]
  rfl
theorem iI_rem {a b : Int} (a1 : 0 ≤ a) (a2 : a < 2147483648) (b1 : 0 < b) (b2 : b < 2147483648) : iI a - iI a / iI b * iI b = iI (a % b) := by
  rw [iI_div a1 a2 b1 b2, iI_mul, iI_sub]
  congr 1
  have := Int.mul_ediv_add_emod a b
  rw [Int.mul_comm] at this
  omega
theorem iI_ne0 {b : Int} (b1 : 0 < b) (b2 : b < 2147483648) : ¬ iI b = 0 := by
  rw [show (0 : Int32) = iI 0 from rfl, iI_eq (by omega) b2 (by omega) (by omega)]
  omega
theorem wp_div {a b : Int} (hc : am_code M pc = some .idiv) (a1 : 0 ≤ a) (a2 : a < 2147483648) (b1 : 0 < b) (b2 : b < 2147483648) (w : wp E k M (pc + 1) L (.int (iI (a / b)) :: r) h Q) : wp E k M pc L (.int (iI b) :: .int (iI a) :: r) h Q := by
  refine wp_s (q := (pc + 1, L, .int (iI (a / b)) :: r, h)) hc ?_ w
  simp only [am_s, am_dv, if_neg (iI_ne0 b1 b2), iI_div a1 a2 b1 b2]
theorem wp_rem {a b : Int} (hc : am_code M pc = some .irem) (a1 : 0 ≤ a) (a2 : a < 2147483648) (b1 : 0 < b) (b2 : b < 2147483648) (w : wp E k M (pc + 1) L (.int (iI (a % b)) :: r) h Q) : wp E k M pc L (.int (iI b) :: .int (iI a) :: r) h Q := by
  refine wp_s (q := (pc + 1, L, .int (iI (a % b)) :: r, h)) hc ?_ w
  simp only [am_s, am_dv, if_neg (iI_ne0 b1 b2), iI_rem a1 a2 b1 b2]
theorem wp_iinc {j : Nat} {n a : Int} (hc : am_code M pc = some (.iinc j n)) (hl : am_get L j = some (.int (iI a))) (hp : am_put1 L j (.int (iI (a + n))) = some L') (w : wp E k M (pc + 3) L' st h Q) : wp E k M pc L st h Q := by
  refine wp_s (q := (pc + 3, L', st, h)) hc ?_ w
  have e1 : iI a + Int32.ofInt n = iI (a + n) := iI_add a n
  simp only [am_s, hl, e1, am_sto, hp]
theorem wp_iret {v : Int32} (hc : am_code M pc = some .ireturn) (hr : am_rets.getD M none = some .int) (hq : Q (some (.int v)) h) : wp E k M pc L [.int v] h Q :=
  wp_ret hc rfl (by simp only [am_rt, hr]; exact if_pos rfl) hq
theorem wp_zret {z : Int} (hc : am_code M pc = some .ireturn) (hr : am_rets.getD M none = some .boolean) (hz : z = 0 ∨ z = 1) (hq : Q (some (.int (iI z))) h) : wp E k M pc L [.int (iI z)] h Q :=
  wp_ret hc rfl (by rcases hz with rfl | rfl <;> (simp only [am_rt, hr]; rfl)) hq
theorem wp_vret (hc : am_code M pc = some .return_) (hr : am_rets.getD M none = none) (hq : Q none h) : wp E k M pc L [] h Q :=
  wp_ret hc rfl (by simp only [am_rt, hr, if_true]) hq
theorem wp_lret {v : Int64} (hc : am_code M pc = some .lreturn) (hr : am_rets.getD M none = some .long) (hq : Q (some (.long v)) h) : wp E k M pc L [.long v] h Q :=
  wp_ret hc rfl (by simp only [am_rt, hr, if_true]) hq
theorem wp_aret {a : Nat} {C : String} (hc : am_code M pc = some .areturn) (hr : am_rets.getD M none = some (.object C)) (hq : Q (some (.ref a)) h) : wp E k M pc L [.ref a] h Q :=
  wp_ret hc rfl (by simp only [am_rt, hr]) hq
theorem wp_nret {C : String} (hc : am_code M pc = some .areturn) (hr : am_rets.getD M none = some (.object C)) (hq : Q (some .null) h) : wp E k M pc L [.null] h Q :=
  wp_ret hc rfl (by simp only [am_rt, hr]) hq
/-- a call of a method of an object -/
theorem wp_cv {idx M' kd p b ci : Nat} {fs As rest : List Value} {Q1 : Option Value → am_H → Prop} (hc : am_code M pc = some (.invokevirtual idx)) (hm : am_mth (am_own1 M) idx = some (M', kd, p)) (hh : h[b]? = some (cO ci fs)) (hb : b < 1000000) (h1 : am_srts.getD M' 9 = 0) (h2 : am_nps.getD M' 0 = As.length) (h3 : am_own1 M' = ci) (h4 : (rest.map fun v => v.category).sum ≤ 8) (h5 : (am_sl (.ref b :: As)).length ≤ am_mls.getD M' 0)
    (w1 : wp E k M' 0 (am_entry (.ref b :: As) (am_mls.getD M' 0)) [] h Q1) (w : ∀ r1 h1, Q1 r1 h1 → wp E (k + 1) M (pc + 3) L (r1.toList ++ rest) h1 Q) : wp E (k + 1) M pc L (As.reverse ++ .ref b :: rest) h Q := by
  refine wp_call (M' := M') (vs := .ref b :: As) (rest := rest) hc rfl rfl ?_ w1 w
  have e1 : (As.reverse ++ Value.ref b :: rest).drop As.length = .ref b :: rest := by rw [← List.length_reverse, List.drop_left]
  have e2 : (As.reverse ++ Value.ref b :: rest).take As.length = As.reverse := by rw [← List.length_reverse, List.take_left]
  have e3 : am_clsOf h b = some (am_own1 M') := by
    unfold am_clsOf
    rw [if_pos hb, hh, h3]
    rfl
  simp only [am_cl, hm, h2, e1, e2, List.reverse_reverse]
  rw [if_pos ⟨h1, by rw [List.length_append, List.length_reverse]; omega, e3, h4, h5⟩]
theorem wp_cs {idx M' kd p : Nat} {As rest : List Value} {Q1 : Option Value → am_H → Prop} (hc : am_code M pc = some (.invokestatic idx)) (hm : am_mth (am_own1 M) idx = some (M', kd, p)) (h1 : am_srts.getD M' 9 = 1) (h2 : am_nps.getD M' 0 = As.length) (h4 : (rest.map fun v => v.category).sum ≤ 8) (h5 : (am_sl As).length ≤ am_mls.getD M' 0)
    (w1 : wp E k M' 0 (am_entry As (am_mls.getD M' 0)) [] h Q1) (w : ∀ r1 h1, Q1 r1 h1 → wp E (k + 1) M (pc + 3) L (r1.toList ++ rest) h1 Q) : wp E (k + 1) M pc L (As.reverse ++ rest) h Q := by
  refine wp_call (M' := M') (vs := As) (rest := rest) hc rfl rfl ?_ w1 w
  have e1 : (As.reverse ++ rest).drop As.length = rest := by rw [← List.length_reverse, List.drop_left]
  have e2 : (As.reverse ++ rest).take As.length = As.reverse := by rw [← List.length_reverse, List.take_left]
  simp only [am_cl, hm, h2, e1, e2, List.reverse_reverse]
  rw [if_pos ⟨h1, by rw [List.length_append, List.length_reverse]; omega, h4, h5⟩]
end WPR
/-- an answer, and the heap as it was -/
def aI (z : Int) (h : am_H) : Option Value → am_H → Prop := fun r h' => r = some (.int (iI z)) ∧ h' = h
