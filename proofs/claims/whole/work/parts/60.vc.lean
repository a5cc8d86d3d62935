/-! ===== what a run of a method must meet, as a statement about memory (m), grids (γ) and what lies behind (t) ===== -/
abbrev rJ (z : Int) : Prop := -2147483648 ≤ z ∧ z < 2147483648
abbrev rK (z : Int) : Prop := -9223372036854775808 ≤ z ∧ z < 9223372036854775808
abbrev MM : Type := Nat → Nat → Int
abbrev GM : Type := Nat → Nat × Nat × (Nat → Int)
def pI (Q : Int → MM → GM → am_H → Prop) : Option Value → am_H → Prop := fun r h' => ∃ v m' γ' t', r = some (.int (iI v)) ∧ rJ v ∧ ST h' m' γ' t' ∧ Q v m' γ' t'
def pL (Q : Int → MM → GM → am_H → Prop) : Option Value → am_H → Prop := fun r h' => ∃ v m' γ' t', r = some (.long (lI v)) ∧ rK v ∧ ST h' m' γ' t' ∧ Q v m' γ' t'
def pV (Q : MM → GM → am_H → Prop) : Option Value → am_H → Prop := fun r h' => ∃ m' γ' t', r = none ∧ ST h' m' γ' t' ∧ Q m' γ' t'
def oV : Option Nat → Value
  | none => .null
  | some a => .ref a
def pA (Q : Option Nat → MM → GM → am_H → Prop) : Option Value → am_H → Prop := fun r h' => ∃ o m' γ' t', r = some (oV o) ∧ ST h' m' γ' t' ∧ Q o m' γ' t'
/-- from a place in a method on -/
def TT (P : Option Value → am_H → Prop) (E : am_E) (k M pc : Nat) (L : am_L) (st : List Value) (m : MM) (γ : GM) (t : am_H) : Prop := ∀ h, ST h m γ t → wp E k M pc L st h P
def TI (E : am_E) (k M : Nat) (As : List Value) (m : MM) (γ : GM) (t : am_H) (Q : Int → MM → GM → am_H → Prop) : Prop := TT (pI Q) E k M 0 (am_entry As (am_mls.getD M 0)) [] m γ t
def TL (E : am_E) (k M : Nat) (As : List Value) (m : MM) (γ : GM) (t : am_H) (Q : Int → MM → GM → am_H → Prop) : Prop := TT (pL Q) E k M 0 (am_entry As (am_mls.getD M 0)) [] m γ t
def TV (E : am_E) (k M : Nat) (As : List Value) (m : MM) (γ : GM) (t : am_H) (Q : MM → GM → am_H → Prop) : Prop := TT (pV Q) E k M 0 (am_entry As (am_mls.getD M 0)) [] m γ t
def TA (E : am_E) (k M : Nat) (As : List Value) (m : MM) (γ : GM) (t : am_H) (Q : Option Nat → MM → GM → am_H → Prop) : Prop := TT (pA Q) E k M 0 (am_entry As (am_mls.getD M 0)) [] m γ t
/-! bits -/
def bAnd (a b : Int) : Int := (iI a &&& iI b).toInt
def bOr (a b : Int) : Int := (iI a ||| iI b).toInt
def bXor (a b : Int) : Int := (iI a ^^^ iI b).toInt
def bShl (a b : Int) : Int := (iI a <<< (iI b &&& 31)).toInt
def bShr (a b : Int) : Int := (iI a >>> (iI b &&& 31)).toInt
def bUshr (a b : Int) : Int := ((iI a).toUInt32 >>> ((iI b).toUInt32 &&& Int32.toUInt32 31)).toInt32.toInt
def bChr (a : Int) : Int := ((iI a).toUInt32 % 65536).toInt32.toInt
def bByt (a : Int) : Int := (iI a).toInt8.toInt32.toInt
def lAnd (a b : Int) : Int := (lI a &&& lI b).toInt
def lOr (a b : Int) : Int := (lI a ||| lI b).toInt
def lShl (a b : Int) : Int := (lI a <<< ((iI b).toInt64 &&& 63)).toInt
def lShr (a b : Int) : Int := (lI a >>> ((iI b).toInt64 &&& 63)).toInt
def lUshr (a b : Int) : Int := ((lI a).toUInt64 >>> ((iI b).toInt64.toUInt64 &&& Int64.toUInt64 63)).toInt64.toInt
def lcI (a b : Int) : Int := if b < a then 1 else if a = b then 0 else -1
theorem i32_rg (x : Int32) : rJ x.toInt := ⟨Int32.le_toInt x, Int32.toInt_lt x⟩
theorem i64_rg (x : Int64) : rK x.toInt := ⟨Int64.le_toInt x, Int64.toInt_lt x⟩
theorem lcI_rg (a b : Int) : rJ (lcI a b) := by unfold lcI; split; omega; split <;> omega
theorem lI_toInt {z : Int} (h : rK z) : (lI z).toInt = z := Int64.toInt_ofInt_of_le h.1 h.2
theorem lI_add (a b : Int) : lI a + lI b = lI (a + b) := (Int64.ofInt_add a b).symm
theorem lI_sub (a b : Int) : lI a - lI b = lI (a - b) := (Int64.ofInt_sub a b).symm
theorem lI_mul (a b : Int) : lI a * lI b = lI (a * b) := (Int64.ofInt_mul a b).symm
theorem lI_neg (a : Int) : -lI a = lI (-a) := (Int64.ofInt_neg a).symm
theorem iI_tdiv {a b : Int} (ha : rJ a) (hb : rJ b) : iI a / iI b = iI (a.tdiv b) := by
  rw [← Int32.toInt_inj, Int32.toInt_div, iI_toInt ha.1 ha.2, iI_toInt hb.1 hb.2, Int32.toInt_ofInt]
theorem lI_tdiv {a b : Int} (ha : rK a) (hb : rK b) : lI a / lI b = lI (a.tdiv b) := by
  rw [← Int64.toInt_inj, Int64.toInt_div, lI_toInt ha, lI_toInt hb, Int64.toInt_ofInt]
theorem iI_tmod {a b : Int} (ha : rJ a) (hb : rJ b) : iI a - iI a / iI b * iI b = iI (a.tmod b) := by
  rw [iI_tdiv ha hb, iI_mul, iI_sub, Int.tmod_def, Int.mul_comm]
theorem iI_ne0' {b : Int} (hb : rJ b) (h : b ≠ 0) : iI b ≠ 0 := fun e => h (by
  have : (iI b).toInt = (0 : Int32).toInt := by rw [e]
  rw [iI_toInt hb.1 hb.2] at this
  exact this)
theorem lI_ne0 {b : Int} (hb : rK b) (h : b ≠ 0) : lI b ≠ 0 := fun e => h (by
  have : (lI b).toInt = (0 : Int64).toInt := by rw [e]
  rw [lI_toInt hb] at this
  exact this)
section WPV
variable {E : am_E} {k M pc : Nat} {L L' : am_L} {st r : List Value} {h : am_H} {m : MM} {γ : GM} {t : am_H} {Q : Option Value → am_H → Prop}
theorem wp_bAnd {a b : Int} (hc : am_code M pc = some .iand) (w : wp E k M (pc + 1) L (.int (iI (bAnd a b)) :: r) h Q) : wp E k M pc L (.int (iI b) :: .int (iI a) :: r) h Q := wp_i2 (f := fun x y => x &&& y) hc (fun _ => rfl) (Int32.ofInt_toInt _).symm w
theorem wp_bOr {a b : Int} (hc : am_code M pc = some .ior) (w : wp E k M (pc + 1) L (.int (iI (bOr a b)) :: r) h Q) : wp E k M pc L (.int (iI b) :: .int (iI a) :: r) h Q := wp_i2 (f := fun x y => x ||| y) hc (fun _ => rfl) (Int32.ofInt_toInt _).symm w
theorem wp_bXor {a b : Int} (hc : am_code M pc = some .ixor) (w : wp E k M (pc + 1) L (.int (iI (bXor a b)) :: r) h Q) : wp E k M pc L (.int (iI b) :: .int (iI a) :: r) h Q := wp_i2 (f := fun x y => x ^^^ y) hc (fun _ => rfl) (Int32.ofInt_toInt _).symm w
theorem wp_bShl {a b : Int} (hc : am_code M pc = some .ishl) (w : wp E k M (pc + 1) L (.int (iI (bShl a b)) :: r) h Q) : wp E k M pc L (.int (iI b) :: .int (iI a) :: r) h Q := wp_i2 (f := fun x y => x <<< (y &&& 31)) hc (fun _ => rfl) (Int32.ofInt_toInt _).symm w
theorem wp_bShr {a b : Int} (hc : am_code M pc = some .ishr) (w : wp E k M (pc + 1) L (.int (iI (bShr a b)) :: r) h Q) : wp E k M pc L (.int (iI b) :: .int (iI a) :: r) h Q := wp_i2 (f := fun x y => x >>> (y &&& 31)) hc (fun _ => rfl) (Int32.ofInt_toInt _).symm w
theorem wp_bUshr {a b : Int} (hc : am_code M pc = some .iushr) (w : wp E k M (pc + 1) L (.int (iI (bUshr a b)) :: r) h Q) : wp E k M pc L (.int (iI b) :: .int (iI a) :: r) h Q := wp_i2 (f := fun x y => (x.toUInt32 >>> (y.toUInt32 &&& Int32.toUInt32 31)).toInt32) hc (fun _ => rfl) (Int32.ofInt_toInt _).symm w
theorem wp_bByt {a : Int} (hc : am_code M pc = some .i2b) (w : wp E k M (pc + 1) L (.int (iI (bByt a)) :: r) h Q) : wp E k M pc L (.int (iI a) :: r) h Q := by
  refine wp_s (q := (pc + 1, L, .int (iI a).toInt8.toInt32 :: r, h)) hc rfl ?_
  rw [show (iI a).toInt8.toInt32 = iI (bByt a) from (Int32.ofInt_toInt _).symm]
  exact w
theorem wp_bChr {a : Int} (hc : am_code M pc = some .i2c) (w : wp E k M (pc + 1) L (.int (iI (bChr a)) :: r) h Q) : wp E k M pc L (.int (iI a) :: r) h Q := by
  refine wp_s (q := (pc + 1, L, .int ((iI a).toUInt32 % 65536).toInt32 :: r, h)) hc rfl ?_
  rw [show ((iI a).toUInt32 % 65536).toInt32 = iI (bChr a) from (Int32.ofInt_toInt _).symm]
  exact w
theorem wp_divt {a b : Int} (hc : am_code M pc = some .idiv) (ha : rJ a) (hb : rJ b) (h0 : b ≠ 0) (w : wp E k M (pc + 1) L (.int (iI (a.tdiv b)) :: r) h Q) : wp E k M pc L (.int (iI b) :: .int (iI a) :: r) h Q := by
  refine wp_s (q := (pc + 1, L, .int (iI (a.tdiv b)) :: r, h)) hc ?_ w
  simp only [am_s, am_dv, if_neg (iI_ne0' hb h0), iI_tdiv ha hb]
theorem wp_remt {a b : Int} (hc : am_code M pc = some .irem) (ha : rJ a) (hb : rJ b) (h0 : b ≠ 0) (w : wp E k M (pc + 1) L (.int (iI (a.tmod b)) :: r) h Q) : wp E k M pc L (.int (iI b) :: .int (iI a) :: r) h Q := by
  refine wp_s (q := (pc + 1, L, .int (iI (a.tmod b)) :: r, h)) hc ?_ w
  simp only [am_s, am_dv, if_neg (iI_ne0' hb h0), iI_tmod ha hb]
theorem wp_l2 {i : Instr} {a b c : Int64} {f : Int64 → Int64 → Int64} (hc : am_code M pc = some i) (hi : ∀ st, am_s E M i pc L st h = am_ll f pc L st h) (hf : f a b = c) (w : wp E k M (pc + 1) L (.long c :: r) h Q) : wp E k M pc L (.long b :: .long a :: r) h Q := by
  subst hf
  exact wp_s (q := (pc + 1, L, .long (f a b) :: r, h)) hc (by rw [hi]; rfl) w
theorem wp_ladd {a b : Int} (hc : am_code M pc = some .ladd) (w : wp E k M (pc + 1) L (.long (lI (a + b)) :: r) h Q) : wp E k M pc L (.long (lI b) :: .long (lI a) :: r) h Q := wp_l2 (f := fun x y => x + y) hc (fun _ => rfl) (lI_add a b) w
theorem wp_lsub {a b : Int} (hc : am_code M pc = some .lsub) (w : wp E k M (pc + 1) L (.long (lI (a - b)) :: r) h Q) : wp E k M pc L (.long (lI b) :: .long (lI a) :: r) h Q := wp_l2 (f := fun x y => x - y) hc (fun _ => rfl) (lI_sub a b) w
theorem wp_lmul {a b : Int} (hc : am_code M pc = some .lmul) (w : wp E k M (pc + 1) L (.long (lI (a * b)) :: r) h Q) : wp E k M pc L (.long (lI b) :: .long (lI a) :: r) h Q := wp_l2 (f := fun x y => x * y) hc (fun _ => rfl) (lI_mul a b) w
theorem wp_lAnd {a b : Int} (hc : am_code M pc = some .land) (w : wp E k M (pc + 1) L (.long (lI (lAnd a b)) :: r) h Q) : wp E k M pc L (.long (lI b) :: .long (lI a) :: r) h Q := wp_l2 (f := fun x y => x &&& y) hc (fun _ => rfl) (Int64.ofInt_toInt _).symm w
theorem wp_lOr {a b : Int} (hc : am_code M pc = some .lor) (w : wp E k M (pc + 1) L (.long (lI (lOr a b)) :: r) h Q) : wp E k M pc L (.long (lI b) :: .long (lI a) :: r) h Q := wp_l2 (f := fun x y => x ||| y) hc (fun _ => rfl) (Int64.ofInt_toInt _).symm w
theorem wp_l3 {i : Instr} {a c : Int64} {b : Int32} {f : Int64 → Int32 → Int64} (hc : am_code M pc = some i) (hi : ∀ st, am_s E M i pc L st h = am_li f pc L st h) (hf : f a b = c) (w : wp E k M (pc + 1) L (.long c :: r) h Q) : wp E k M pc L (.int b :: .long a :: r) h Q := by
  subst hf
  exact wp_s (q := (pc + 1, L, .long (f a b) :: r, h)) hc (by rw [hi]; rfl) w
theorem wp_lShl {a b : Int} (hc : am_code M pc = some .lshl) (w : wp E k M (pc + 1) L (.long (lI (lShl a b)) :: r) h Q) : wp E k M pc L (.int (iI b) :: .long (lI a) :: r) h Q := wp_l3 (f := fun x y => x <<< (y.toInt64 &&& 63)) hc (fun _ => rfl) (Int64.ofInt_toInt _).symm w
theorem wp_lShr {a b : Int} (hc : am_code M pc = some .lshr) (w : wp E k M (pc + 1) L (.long (lI (lShr a b)) :: r) h Q) : wp E k M pc L (.int (iI b) :: .long (lI a) :: r) h Q := wp_l3 (f := fun x y => x >>> (y.toInt64 &&& 63)) hc (fun _ => rfl) (Int64.ofInt_toInt _).symm w
theorem wp_lUshr {a b : Int} (hc : am_code M pc = some .lushr) (w : wp E k M (pc + 1) L (.long (lI (lUshr a b)) :: r) h Q) : wp E k M pc L (.int (iI b) :: .long (lI a) :: r) h Q := wp_l3 (f := fun x y => (x.toUInt64 >>> (y.toInt64.toUInt64 &&& Int64.toUInt64 63)).toInt64) hc (fun _ => rfl) (Int64.ofInt_toInt _).symm w
theorem wp_ldivt {a b : Int} (hc : am_code M pc = some .ldiv) (ha : rK a) (hb : rK b) (h0 : b ≠ 0) (w : wp E k M (pc + 1) L (.long (lI (a.tdiv b)) :: r) h Q) : wp E k M pc L (.long (lI b) :: .long (lI a) :: r) h Q := by
  refine wp_s (q := (pc + 1, L, .long (lI (a.tdiv b)) :: r, h)) hc ?_ w
  simp only [am_s, if_neg (lI_ne0 hb h0), lI_tdiv ha hb]
theorem wp_lneg {a : Int} (hc : am_code M pc = some .lneg) (w : wp E k M (pc + 1) L (.long (lI (-a)) :: r) h Q) : wp E k M pc L (.long (lI a) :: r) h Q := by
  refine wp_s (q := (pc + 1, L, .long (-lI a) :: r, h)) hc rfl ?_
  rw [lI_neg]
  exact w
theorem wp_i2l {a : Int} (hc : am_code M pc = some .i2l) (ha : rJ a) (w : wp E k M (pc + 1) L (.long (lI a) :: r) h Q) : wp E k M pc L (.int (iI a) :: r) h Q := by
  refine wp_s (q := (pc + 1, L, .long (iI a).toInt64 :: r, h)) hc rfl ?_
  have : (iI a).toInt64 = lI a := by
    rw [← Int64.toInt_inj, Int32.toInt_toInt64, iI_toInt ha.1 ha.2, lI_toInt (by omega)]
  rw [this]
  exact w
theorem lg_cmpI {a b : Int} (ha : rK a) (hb : rK b) : lg_cmp (lI a) (lI b) = iI (lcI a b) := by
  have h1 : (lI a > lI b) ↔ b < a := by rw [gt_iff_lt, Int64.lt_iff_toInt_lt, lI_toInt ha, lI_toInt hb]
  have h2 : (lI a = lI b) ↔ a = b := by rw [← Int64.toInt_inj, lI_toInt ha, lI_toInt hb]
  unfold lg_cmp lcI
  simp only [h1, h2]
  split
  · rfl
  · split <;> rfl
theorem wp_lcmp {a b : Int} (hc : am_code M pc = some .lcmp) (ha : rK a) (hb : rK b) (w : wp E k M (pc + 1) L (.int (iI (lcI a b)) :: r) h Q) : wp E k M pc L (.long (lI b) :: .long (lI a) :: r) h Q := by
  refine wp_s (q := (pc + 1, L, .int (iI (lcI a b)) :: r, h)) hc ?_ w
  simp only [am_s, lg_cmpI ha hb]
/-- a call of a method of a text -/
def isS (a : Nat) : Prop := ∃ k, k < 27 ∧ a = 1000000 + 2 * k
theorem wp_cvS {idx M' kd p b : Nat} {As rest : List Value} {Q1 : Option Value → am_H → Prop} (hc : am_code M pc = some (.invokevirtual idx)) (hm : am_mth (am_own1 M) idx = some (M', kd, p)) (hb : isS b) (h1 : am_srts.getD M' 9 = 0) (h2 : am_nps.getD M' 0 = As.length) (h3 : am_own1 M' = 11) (h4 : (rest.map fun v => v.category).sum ≤ 8) (h5 : (am_sl (.ref b :: As)).length ≤ am_mls.getD M' 0)
    (w1 : wp E k M' 0 (am_entry (.ref b :: As) (am_mls.getD M' 0)) [] h Q1) (w : ∀ r1 h1, Q1 r1 h1 → wp E (k + 1) M (pc + 3) L (r1.toList ++ rest) h1 Q) : wp E (k + 1) M pc L (As.reverse ++ .ref b :: rest) h Q := by
  refine wp_call (M' := M') (vs := .ref b :: As) (rest := rest) hc rfl rfl ?_ w1 w
  have e1 : (As.reverse ++ Value.ref b :: rest).drop As.length = .ref b :: rest := by rw [← List.length_reverse, List.drop_left]
  have e2 : (As.reverse ++ Value.ref b :: rest).take As.length = As.reverse := by rw [← List.length_reverse, List.take_left]
  have e3 : am_clsOf h b = some (am_own1 M') := by
    obtain ⟨k, hk, rfl⟩ := hb
    unfold am_clsOf
    rw [if_neg (by omega), if_pos (by omega), h3]
  simp only [am_cl, hm, h2, e1, e2, List.reverse_reverse]
  rw [if_pos ⟨h1, by rw [List.length_append, List.length_reverse]; omega, e3, h4, h5⟩]
/-- a new row behind all others -/
theorem wp_newI {n : Nat} (hc : am_code M pc = some (.newarray .int)) (hn : n ≤ 1000) (S : ST h m γ t) (hl : t.length < 900000) (w : ∀ h1, ST h1 m γ (t ++ [cI n (fun _ => 0)]) → wp E k M (pc + 2) L (.ref (195 + t.length) :: r) h1 Q) : wp E k M pc L (.int (iI (n : Int)) :: r) h Q := by
  have hlen := S.2.2.1.1
  refine wp_s (q := (pc + 2, L, .ref h.length :: r, h ++ [cI n (fun _ => 0)])) hc ?_ ?_
  · have e1 : (iI (n : Int)).toNatClampNeg = n := by rw [iI_nat (by omega) (by omega)]; omega
    have e2 : ¬ (iI (n : Int) < 0) := by
      rw [show (0 : Int32) = iI 0 from rfl, iI_lt (by omega) (by omega) (by omega) (by omega)]
      omega
    simp only [am_s, e1]
    rw [if_neg (fun q => q.elim e2 (fun q => by omega))]
    unfold am_grow
    show (if h.length < 1000000 then _ else none) = _
    rw [if_pos (by omega)]
    rfl
  · show wp E k M (pc + 2) L (.ref h.length :: r) (h ++ [cI n (fun _ => 0)]) Q
    rw [hlen]
    refine w _ ⟨fun a ha => ?_, fun g hg => ?_, ⟨by simp [hlen]; omega, fun b hb => ?_⟩, S.2.2.2⟩
    · rw [List.getElem?_append_left (by unfold ncel at ha; omega)]
      exact S.1 a ha
    · exact (S.2.1 g hg).same (fun b h2 h3 => List.getElem?_append_left (by unfold isg at hg; omega))
    · rcases Nat.lt_or_ge b h.length with h1 | h1
      · rw [List.getElem?_append_left h1, S.2.2.1.2 b hb, List.getElem?_append_left (by omega)]
      · rw [List.getElem?_append_right h1, List.getElem?_append_right (by omega)]
        rw [show b - 195 - t.length = b - h.length by omega]
theorem ST.tl {t0 : am_H} {c : am_C} (S : ST h m γ (t0 ++ [c])) : h[195 + t0.length]? = some c := by
  rw [S.2.2.1.2 _ (by omega), show 195 + t0.length - 195 = t0.length by omega, List.getElem?_append_right (Nat.le_refl _), Nat.sub_self]
  rfl
theorem ST.setT {t0 : am_H} {c c1 : am_C} {h1 : am_H} (S : ST h m γ (t0 ++ [c])) (hl : h1.length = h.length) (hz : h1[195 + t0.length]? = some c1) (hf : ∀ b : Nat, b ≠ 195 + t0.length → h1[b]? = h[b]?) : ST h1 m γ (t0 ++ [c1]) := by
  refine ⟨fun a ha => ?_, fun g hg => ?_, ⟨?_, fun b hb => ?_⟩, S.2.2.2⟩
  · rw [hf a (by unfold ncel at ha; omega)]
    exact S.1 a ha
  · exact (S.2.1 g hg).same (fun b h2 h3 => hf b (by unfold isg at hg; omega))
  · rw [hl, S.2.2.1.1]
    simp
  · by_cases hb2 : b = 195 + t0.length
    · subst hb2
      rw [hz, show 195 + t0.length - 195 = t0.length by omega, List.getElem?_append_right (Nat.le_refl _), Nat.sub_self]
      rfl
    · rw [hf b hb2, S.2.2.1.2 b hb]
      rcases Nat.lt_or_ge (b - 195) t0.length with h1 | h1
      · rw [List.getElem?_append_left h1, List.getElem?_append_left h1]
      · rw [List.getElem?_append_right h1, List.getElem?_append_right h1, List.getElem?_eq_none (by simp; omega), List.getElem?_eq_none (by simp; omega)]
theorem isg_lt {g : Nat} (hg : isg g) : g < 1000000 := by unfold isg at hg; omega
theorem isg_146 {i : Nat} (h : i < 3) : isg (146 + 4 * i) := by unfold isg; omega
theorem isg_106 {i : Nat} (h : i < 10) : isg (106 + 4 * i) := by unfold isg; omega
theorem nc_53 {i : Nat} (h : i < 24) : ncel (53 + i) := by unfold ncel; omega
theorem nc_37 {i : Nat} (h : i < 13) : ncel (37 + i) := by unfold ncel; omega
theorem nc_83 {i : Nat} (h : i < 16) : ncel (83 + i) := by unfold ncel; omega
theorem nl_53 {i : Nat} (h : i < 24) : ¬ lcel (53 + i) := by unfold lcel; omega
theorem nl_37 {i : Nat} (h : i < 13) : ¬ lcel (37 + i) := by unfold lcel; omega
theorem lc_83 {i : Nat} (h : i < 16) : lcel (83 + i) := by unfold lcel; omega
theorem lay_53 : ∀ {i : Nat}, i < 24 → lay (53 + i) = (0, 40, []) := by decide
theorem lay_37 : ∀ {i : Nat}, i < 13 → lay (37 + i) = (0, 17, []) := by decide
theorem lay_83 : ∀ {i : Nat}, i < 16 → lay (83 + i) = (3, 16, []) := by decide
theorem wp_cret {z : Int} (hc : am_code M pc = some .ireturn) (hr : am_rets.getD M none = some .char) (hz : 0 ≤ z ∧ z < 65536) (hq : Q (some (.int (iI z))) h) : wp E k M pc L [.int (iI z)] h Q := by
  refine wp_ret hc rfl ?_ hq
  have e : ((iI z).toUInt32 % 65536).toInt32 = iI z := by
    have h1 : (iI z).toUInt32 = UInt32.ofNat z.toNat := by
      rw [iI_nI hz.1]
      rfl
    have h2 : UInt32.ofNat z.toNat % 65536 = UInt32.ofNat z.toNat := by
      rw [← UInt32.toNat_inj, UInt32.toNat_mod]
      simp only [UInt32.toNat_ofNat']
      show z.toNat % 4294967296 % 65536 = z.toNat % 4294967296
      omega
    rw [h1, h2, ← h1]
    rfl
  simp only [am_rt, hr]
  exact if_pos (congrArg Value.int e)
end WPV
theorem ts0 {z lo a : Int} (h : lo = a + 1) : z < lo ∨ a < z := by omega
theorem ts {z lo a b : Int} (h : z < lo ∨ a < z) (c : ¬ z = b) (e : b = a + 1) : z < lo ∨ b < z := by omega
