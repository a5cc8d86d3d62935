/-! ===== ranks modulo p: the class ===== -/
def RKI (p : Nat) (N : Int) (M : Nat → Nat → Int) (f n c : Nat) : Prop := N * ((p ^ f : Nat) : Int) = ((p ^ c : Nat) : Int) * CNT p M f n c ∧ (∀ r, f ≤ r → r < n → ∀ j, j < c → M r j % (p : Int) = 0)
theorem RKI_np {p : Nat} {N : Int} {M : Nat → Nat → Int} {f n c : Nat} (h : RKI p N M f n c) (hc : c < 48) (h0 : ∀ r, f ≤ r → r < n → M r c % (p : Int) = 0) : RKI p N M f n (c + 1) := by
  refine ⟨?_, fun r h1 h2 j hj => ?_⟩
  · rw [h.1, cnt_np hc h0, Nat.pow_succ, Int.natCast_mul, Int.mul_assoc]
  · by_cases q : j = c
    · rw [q]; exact h0 r h1 h2
    · exact h.2 r h1 h2 j (by omega)
theorem RKI_pv {p : Nat} (hp : pr6 p) {N : Int} {M M' : Nat → Nat → Int} {f n c : Nat} (h : RKI p N M f n c) (hc : c < 48) (hf : f < n) (hs : ∀ y, sat p M f n y ↔ sat p M' f n y) (h0 : M' f c % (p : Int) ≠ 0) (h1 : ∀ r, f + 1 ≤ r → r < n → ∀ j, j < c + 1 → M' r j % (p : Int) = 0) : RKI p N M' (f + 1) n (c + 1) := by
  refine ⟨?_, h1⟩
  rw [← cnt_pv hp hc hf h0 (fun r a b => h1 r a b c (by omega)), ← cnt_eq hs, Nat.pow_succ, Int.natCast_mul, ← Int.mul_assoc, h.1, Nat.pow_succ, Int.natCast_mul]
  grind
theorem RKI_end {p : Nat} {N : Int} {M : Nat → Nat → Int} {f n c : Nat} (h : RKI p N M f n c) (hc : c ≤ 48) (h0 : ∀ r, f ≤ r → r < n → ∀ j, j < 48 → M r j % (p : Int) = 0) : N * ((p ^ f : Nat) : Int) = ((p ^ 48 : Nat) : Int) := by
  rw [h.1, cnt_z h0, ← Int.natCast_mul, ← Nat.pow_add, show c + (48 - c) = 48 by omega]
theorem RKI_congr {p : Nat} {N : Int} {M M' : Nat → Nat → Int} {f n c : Nat} (h : RKI p N M f n c) (e : ∀ r, r < n → ∀ j, j < 48 → M' r j = M r j) (hc : c ≤ 48) : RKI p N M' f n c := by
  refine ⟨?_, fun r h1 h2 j hj => by rw [e r h2 j (by omega)]; exact h.2 r h1 h2 j hj⟩
  rw [h.1]
  rw [cnt_eq (M := M) (M' := M') (fun y => ?_)]
  have l : ∀ r, r < n → lnr M' r y = lnr M r y := fun r hr => sumN_congr (fun j hj => by rw [e r hr j hj])
  exact ⟨fun w r h1 h2 => by rw [l r h2]; exact w r h1 h2, fun w r h1 h2 => by rw [← l r h2]; exact w r h1 h2⟩
theorem fm_D : ∀ n, n < 801 → ∀ p, p < 14 → (decide (p = 0) || (decide (bXor (((n : Nat) : Int) - 400) ((p : Nat) : Int) < 0) == decide (((n : Nat) : Int) - 400 < 0))) = true := by decide +kernel
section FM
variable {E : am_E} {k : Nat} {m : MM} {γ : GM} {t : am_H}
theorem S_fm {Q : Int → MM → GM → am_H → Prop} {x : Int} {p : Nat} (hp : pr6 p) (hx : -400 ≤ x ∧ x ≤ 400) (hQ : 0 ≤ x % (p : Int) ∧ x % (p : Int) < p → Q (x % (p : Int)) m γ t) : TI E k 309 [.int (iI x), .int (iI (p : Int))] m γ t Q := by
  have hp0 : 0 < p ∧ p < 14 := by unfold pr6 at hp; omega
  have m1 := Int.emod_nonneg x (show (p : Int) ≠ 0 by omega)
  have m2 := Int.emod_lt_of_pos x (show (0 : Int) < (p : Int) by omega)
  have hQ := hQ ⟨m1, m2⟩
  have hb := fm_D (x + 400).toNat (by omega) p hp0.2
  rw [show (((x + 400).toNat : Nat) : Int) - 400 = x by omega, decide_eq_false (show ¬ p = 0 by omega), Bool.false_or, beq_iff_eq, decide_eq_decide] at hb
  refine vc_J9_floorMod_7cf53 (by omega) (by omega) ⟨by omega, fun c => ?_, fun c => ?_⟩
  · have hx0 := hb.mp c
    have e1 : Int.tmod x (p : Int) = -((-x) % (p : Int)) := by
      rw [← Int.tmod_eq_emod_of_nonneg (show 0 ≤ -x by omega), Int.neg_tmod, Int.neg_neg]
    have n1 := Int.emod_nonneg (-x) (show (p : Int) ≠ 0 by omega)
    have n2 := Int.emod_lt_of_pos (-x) (show (0 : Int) < (p : Int) by omega)
    have d1 := Int.emod_add_mul_ediv x p
    have d2 := Int.emod_add_mul_ediv (-x) p
    have key : x % (p : Int) = if (-x) % (p : Int) = 0 then 0 else (p : Int) - (-x) % (p : Int) := by
      have h3 : ((-x) % (p : Int) + x % (p : Int)) % (p : Int) = 0 := by
        rw [← Int.add_emod, show -x + x = 0 by omega, Int.zero_emod]
      split
      · next h => rw [h, Int.zero_add, Int.emod_emod] at h3; exact h3
      · next h =>
        have h4 : (-x) % (p : Int) + x % (p : Int) < 2 * (p : Int) := by omega
        rcases Int.lt_or_le ((-x) % (p : Int) + x % (p : Int)) (p : Int) with q | q
        · rw [Int.emod_eq_of_lt (by omega) q] at h3
          omega
        · have h5 : ((-x) % (p : Int) + x % (p : Int) - (p : Int)) % (p : Int) = 0 := by
            rw [Int.sub_emod, h3, Int.emod_self]
            rfl
          rw [Int.emod_eq_of_lt (by omega) (by omega)] at h5
          omega
    rw [e1]
    refine ⟨by omega, fun c2 => ?_, fun c2 => ⟨by omega, ?_⟩⟩
    · rw [if_pos (by omega)] at key
      rw [show -((-x) % (p : Int)) = 0 by omega, ← key]
      exact hQ
    · rw [if_neg (by omega)] at key
      rw [show -((-x) % (p : Int)) + (p : Int) = x % (p : Int) by omega]
      exact hQ
  · have hx0 : 0 ≤ x := by
      rcases Int.lt_or_le x 0 with q | q
      · exact absurd (hb.mpr q) c
      · exact q
    rw [Int.tmod_eq_emod_of_nonneg hx0]
    exact ⟨by omega, hQ⟩
/-- the class's table -/
def TBC (m : MM) (r j : Nat) : Int := if j < 40 then m (53 + r) j else 0
theorem S_rowWith {Q : Int → MM → GM → am_H → Prop} {p : Nat} (f c n : Nat) (hp : pr6 p) (hfn : f ≤ n) (hn : n ≤ 24) (hc : c < 40) (h1 : m 51 1 = (n : Int)) (hb : ∀ r j, r < n → j < 40 → -2 ≤ m (53 + r) j ∧ m (53 + r) j ≤ 12) (q1 : (∀ r, f ≤ r → r < n → TBC m r c % (p : Int) = 0) → Q (-1) m γ t) (q2 : ∀ r, f ≤ r → r < n → TBC m r c % (p : Int) ≠ 0 → Q (r : Int) m γ t) : TI E (k + 1) 12 [.ref 51, .int (iI (f : Int)), .int (iI (c : Int)), .int (iI (p : Int))] m γ t Q := by
  have hp0 : 2 ≤ p ∧ p < 14 := by unfold pr6 at hp; omega
  have hT : ∀ r, TBC m r c = m (53 + r) c := fun r => if_pos hc
  refine vc_X1_rowWith (by omega) (by omega) (by omega) ⟨fun z => absurd z (by omega), fun _ => ⟨fun z => absurd z (by omega), fun _ => ?_⟩⟩
  have w := upN (n := n) (P := fun r => f ≤ r → (∀ r', f ≤ r' → r' < r → TBC m r' c % (p : Int) = 0) → hd_X1_rowWith_14 E k (f : Int) (c : Int) (p : Int) (c : Int) (p : Int) (r : Int) m γ t Q) (fun _ hz => ?_) (fun r hr ih => fun hfr hz => ?_) f hfn (Nat.le_refl _) (fun r' a b => absurd b (by omega))
  · exact w
  · exact vc_X1_rowWith_14 (by omega) (by omega) (by omega) (by omega) (by omega) (by omega) ⟨fun z => absurd z (by rw [h1]; omega), fun _ => q1 hz⟩
  · have hv := hb r c hr hc
    refine vc_X1_rowWith_14 (by omega) (by omega) (by omega) (by omega) (by omega) (by omega) ⟨fun _ => ⟨fun _ => ⟨by omega, by omega, ?_⟩, fun z => absurd (by omega) z⟩, fun z => absurd (by rw [h1]; omega) z⟩
    rw [Int.toNat_natCast, Int.toNat_natCast]
    refine S_fm hp (by omega) (fun _ => ⟨fun z => ih (by omega) (fun r' a b => ?_), fun z => q2 r hfr hr (by rw [hT]; exact z)⟩)
    by_cases q : r' = r
    · rw [q, hT]; exact z
    · exact hz r' a (by omega)
theorem S_swapRows {Q : MM → GM → am_H → Prop} (a b : Nat) (ha : a < 24) (hb : b < 24) (hQ : ∀ m1, (∀ x, ¬ (53 ≤ x ∧ x ≤ 76) → m1 x = m x) → (∀ j, j < 40 → m1 (53 + a) j = m (53 + b) j ∧ m1 (53 + b) j = m (53 + a) j) → (∀ r, r < 24 → r ≠ a → r ≠ b → m1 (53 + r) = m (53 + r)) → Q m1 γ t) : TV E k 11 [.ref 51, .int (iI (a : Int)), .int (iI (b : Int))] m γ t Q := by
  refine vc_X1_swapRows (by omega) (by omega) ⟨fun z => absurd z (by omega), fun _ => ⟨fun z => absurd z (by omega), fun _ => ⟨fun _ => ⟨fun _ => ?_, fun z => absurd (by omega) z⟩, fun z => absurd (by omega) z⟩⟩⟩
  refine upN (n := 40) (P := fun j => ∀ m1 : MM, (∀ x, ¬ (53 ≤ x ∧ x ≤ 76) → m1 x = m x) → (∀ i, i < 40 → m1 (53 + a) i = (if i < j then m (53 + b) i else m (53 + a) i) ∧ m1 (53 + b) i = (if i < j then m (53 + a) i else m (53 + b) i)) → (∀ r, r < 24 → r ≠ a → r ≠ b → m1 (53 + r) = m (53 + r)) → hd_X1_swapRows_23 E k (a : Int) (b : Int) (a : Int) (b : Int) (j : Int) m1 γ t Q) ?_ (fun j hj ih => ?_) 0 (Nat.zero_le _) m (fun _ _ => rfl) (fun i hi => by rw [if_neg (Nat.not_lt_zero i), if_neg (Nat.not_lt_zero i)]; exact ⟨rfl, rfl⟩) (fun _ _ _ _ => rfl)
  · intro m1 f1 s1 o1
    refine vc_X1_swapRows_23 (by omega) (by omega) (by omega) (by omega) (by omega) ⟨fun z => absurd z (by omega), fun _ => hQ m1 f1 (fun i hi => ?_) o1⟩
    have := s1 i hi
    rw [if_pos hi, if_pos hi] at this
    exact this
  · intro m1 f1 s1 o1
    refine vc_X1_swapRows_23 (by omega) (by omega) (by omega) (by omega) (by omega) ⟨fun _ => ⟨by omega, by omega, by omega, by omega, by omega, by omega, fun m2 h2 => ⟨by omega, by omega, fun m3 h3 => ?_⟩⟩, fun z => absurd (by omega) z⟩
    rw [Int.toNat_natCast, Int.toNat_natCast, Int.toNat_natCast] at h3
    rw [Int.toNat_natCast, Int.toNat_natCast, Int.toNat_natCast] at h2
    have sj := s1 j hj
    rw [if_neg (Nat.lt_irrefl j), if_neg (Nat.lt_irrefl j)] at sj
    refine ih m3 (fun x hx => by rw [h3, up_ne (by omega), h2, up_ne (by omega)]; exact f1 x hx) (fun i hi => ?_) (fun r hr h4 h5 => by rw [h3, up_ne (by omega), h2, up_ne (by omega)]; exact o1 r hr h4 h5)
    have si := s1 i hi
    refine ⟨?_, ?_⟩
    · by_cases q : i = j
      · subst q
        rw [if_pos (Nat.lt_succ_self i)]
        by_cases qa : a = b
        · subst qa
          rw [h3, up2, if_pos ⟨rfl, rfl⟩]
          exact sj.1
        · rw [h3, up2, if_neg (fun z => qa z.1), h2, up2, if_pos ⟨rfl, rfl⟩]
          exact sj.2
      · rw [h3, up2, if_neg (fun z => q z.2), h2, up2, if_neg (fun z => q z.2), si.1]
        by_cases q2 : i < j
        · rw [if_pos q2, if_pos (by omega)]
        · rw [if_neg q2, if_neg (by omega)]
    · by_cases q : i = j
      · subst q
        rw [if_pos (Nat.lt_succ_self i), h3, up2, if_pos ⟨rfl, rfl⟩]
        exact sj.1
      · rw [h3, up2, if_neg (fun z => q z.2), h2, up2, if_neg (fun z => q z.2), si.2]
        by_cases q2 : i < j
        · rw [if_pos q2, if_pos (by omega)]
        · rw [if_neg q2, if_neg (by omega)]
theorem mul_sm {x y : Int} (hx : -2 ≤ x ∧ x ≤ 12) (hy : -2 ≤ y ∧ y ≤ 12) : -24 ≤ x * y ∧ x * y ≤ 144 := by
  have h1 : ∀ a : Nat, a < 15 → ∀ b : Nat, b < 15 → -24 ≤ ((a : Int) - 2) * ((b : Int) - 2) ∧ ((a : Int) - 2) * ((b : Int) - 2) ≤ 144 := by decide +kernel
  have := h1 (x + 2).toNat (by omega) (y + 2).toNat (by omega)
  rw [show (((x + 2).toNat : Nat) : Int) - 2 = x by omega, show (((y + 2).toNat : Nat) : Int) - 2 = y by omega] at this
  exact this
theorem S_clearBelow {Q : MM → GM → am_H → Prop} {p : Nat} (f c n A : Nat) (hp : pr6 p) (hf : f < n) (hn : n ≤ 24) (hc : c < A) (hA : A ≤ 40) (h1 : m 51 1 = (n : Int)) (h2 : m 51 2 = (A : Int)) (hb : ∀ r j, r < n → j < 40 → -2 ≤ m (53 + r) j ∧ m (53 + r) j ≤ 12) (hQ : ∀ m1, (∀ x, ¬ (53 ≤ x ∧ x ≤ 76) → m1 x = m x) → (∀ r, r < n → ∀ j, j < 40 → m1 (53 + r) j = if f < r ∧ j < A then (m (53 + r) j * m (53 + f) c - m (53 + f) j * m (53 + r) c) % (p : Int) else m (53 + r) j) → Q m1 γ t) : TV E (k + 1) 13 [.ref 51, .int (iI (f : Int)), .int (iI (c : Int)), .int (iI (p : Int))] m γ t Q := by
  have hp0 : 2 ≤ p ∧ p < 14 := by unfold pr6 at hp; omega
  have bl := hb f c hf (by omega)
  refine vc_X1_clearBelow (by omega) (by omega) (by omega) ⟨fun z => absurd z (by omega), fun _ => ⟨fun _ => ⟨fun z => absurd z (by omega), fun _ => ⟨by omega, by omega, ?_⟩⟩, fun z => absurd (by omega) z⟩⟩
  rw [Int.toNat_natCast, Int.toNat_natCast]
  have w := upN (n := n) (P := fun i => f + 1 ≤ i → ∀ m1 : MM, (∀ x, ¬ (53 ≤ x ∧ x ≤ 76) → m1 x = m x) → (∀ r, r < n → ∀ j, j < 40 → m1 (53 + r) j = if (f < r ∧ r < i) ∧ j < A then (m (53 + r) j * m (53 + f) c - m (53 + f) j * m (53 + r) c) % (p : Int) else m (53 + r) j) → hd_X1_clearBelow_31 E k (f : Int) (c : Int) (p : Int) (f : Int) (c : Int) (p : Int) (m (53 + f) c) (i : Int) m1 γ t Q) (fun _ m1 f1 v1 => ?_) (fun i hi ih => fun hfi m1 f1 v1 => ?_) (f + 1) (by omega) (Nat.le_refl _) m (fun _ _ => rfl) (fun r hr j hj => by rw [if_neg (by omega)])
  · exact w
  · refine vc_X1_clearBelow_31 (by omega) (by omega) (by omega) (by omega) (by omega) (by omega) (by omega) (by omega) ⟨fun z => absurd z (by rw [f1 51 (by decide), h1]; omega), fun _ => hQ m1 f1 (fun r hr j hj => ?_)⟩
    rw [v1 r hr j hj]
    by_cases q : f < r ∧ j < A
    · rw [if_pos q, if_pos (by omega)]
    · rw [if_neg q, if_neg (by omega)]
  · have bi := hb i c hi (by omega)
    have e1 : m1 (53 + i) c = m (53 + i) c := by rw [v1 i hi c (by omega), if_neg (by omega)]
    refine vc_X1_clearBelow_31 (by omega) (by omega) (by omega) (by omega) (by omega) (by omega) (by omega) (by omega) ⟨fun _ => ⟨fun _ => ⟨by omega, by omega, ?_⟩, fun z => absurd (by omega) z⟩, fun z => absurd (by rw [f1 51 (by decide), h1]; omega) z⟩
    rw [Int.toNat_natCast, Int.toNat_natCast, e1]
    refine upN (n := A) (P := fun jj => ∀ m2 : MM, (∀ x, ¬ (53 ≤ x ∧ x ≤ 76) → m2 x = m x) → (∀ r, r < n → ∀ j, j < 40 → m2 (53 + r) j = if ((f < r ∧ r < i) ∧ j < A) ∨ (r = i ∧ j < jj) then (m (53 + r) j * m (53 + f) c - m (53 + f) j * m (53 + r) c) % (p : Int) else m (53 + r) j) → hd_X1_clearBelow_61 E k (f : Int) (c : Int) (p : Int) (f : Int) (c : Int) (p : Int) (m (53 + f) c) (i : Int) (m (53 + i) c) (jj : Int) m2 γ t Q) (fun m2 f2 v2 => ?_) (fun jj hjj ih2 => fun m2 f2 v2 => ?_) 0 (Nat.zero_le _) m1 f1 (fun r hr j hj => by
      rw [v1 r hr j hj]
      by_cases q : (f < r ∧ r < i) ∧ j < A
      · rw [if_pos q, if_pos (Or.inl q)]
      · rw [if_neg q, if_neg (by omega)])
    · refine vc_X1_clearBelow_61 (by omega) (by omega) (by omega) (by omega) (by omega) (by omega) (by omega) (by omega) (by omega) (by omega) ⟨fun z => absurd z (by rw [f2 51 (by decide), h2]; omega), fun _ => ih (by omega) m2 f2 (fun r hr j hj => ?_)⟩
      rw [v2 r hr j hj]
      by_cases q : (f < r ∧ r < i + 1) ∧ j < A
      · rw [if_pos (by omega), if_pos q]
      · rw [if_neg (by omega), if_neg q]
    · have e2 : m2 (53 + i) jj = m (53 + i) jj := by rw [v2 i hi jj (by omega), if_neg (by omega)]
      have e3 : m2 (53 + f) jj = m (53 + f) jj := by rw [v2 f hf jj (by omega), if_neg (by omega)]
      have p1 := mul_sm (hb i jj hi (by omega)) bl
      have p2 := mul_sm (hb f jj hf (by omega)) bi
      refine vc_X1_clearBelow_61 (by omega) (by omega) (by omega) (by omega) (by omega) (by omega) (by omega) (by omega) (by omega) (by omega) ⟨fun _ => ⟨fun _ => ⟨by omega, by omega, by omega, by omega, by omega, ?_⟩, fun z => absurd (by omega) z⟩, fun z => absurd (by rw [f2 51 (by decide), h2]; omega) z⟩
      rw [Int.toNat_natCast, Int.toNat_natCast, Int.toNat_natCast, e2, e3]
      refine S_fm hp (by omega) (fun hr => ⟨by omega, fun m3 h3 => ih2 m3 (fun x hx => by rw [h3, up_ne (by omega)]; exact f2 x hx) (fun r hr2 j hj => ?_)⟩)
      rw [h3, up2]
      by_cases q : r = i ∧ j = jj
      · rw [if_pos q, q.1, q.2, if_pos (by omega)]
      · rw [if_neg q, v2 r hr2 j hj]
        by_cases q2 : ((f < r ∧ r < i) ∧ j < A) ∨ (r = i ∧ j < jj)
        · rw [if_pos q2, if_pos (by omega)]
        · rw [if_neg q2, if_neg (by omega)]
theorem S_rankC {Q : Int → MM → GM → am_H → Prop} {p : Nat} {N : Int} (n A : Nat) (hp : pr6 p) (hn : n ≤ 24) (hA : A ≤ 40) (h1 : m 51 1 = (n : Int)) (h2 : m 51 2 = (A : Int)) (hb : ∀ r j, r < n → j < 40 → -2 ≤ m (53 + r) j ∧ m (53 + r) j ≤ 12) (hz : ∀ r j, r < n → A ≤ j → j < 40 → m (53 + r) j = 0) (hN : CNT p (TBC m) 0 n 0 = N) (hQ : ∀ (f : Nat) (m1 : MM), f ≤ 24 → N * ((p ^ f : Nat) : Int) = ((p ^ 48 : Nat) : Int) → (∀ x, ¬ (53 ≤ x ∧ x ≤ 76) → m1 x = m x) → Q (f : Int) m1 γ t) : TI E (k + 2) 10 [.ref 51, .int (iI (p : Int))] m γ t Q := by
  have hp0 : 0 < p ∧ p < 14 := by unfold pr6 at hp; omega
  refine vc_X1_rank (by omega) ?_
  refine upN (n := A) (P := fun c => ∀ (f : Nat) (m1 : MM), f ≤ n → (∀ x, ¬ (53 ≤ x ∧ x ≤ 76) → m1 x = m x) → (∀ r j, r < n → j < 40 → -2 ≤ m1 (53 + r) j ∧ m1 (53 + r) j ≤ 12) → (∀ r j, r < n → A ≤ j → j < 40 → m1 (53 + r) j = 0) → RKI p N (TBC m1) f n c → hd_X1_rank_4 E (k + 1) (p : Int) (p : Int) (f : Int) (c : Int) m1 γ t Q) ?_ (fun c hc ih => ?_) 0 (Nat.zero_le _) 0 m (Nat.zero_le _) (fun _ _ => rfl) hb hz ⟨by rw [hN, Nat.pow_zero]; show N * 1 = 1 * N; omega, fun r _ _ j hj => absurd hj (Nat.not_lt_zero j)⟩
  · intro f m1 hfn f1 b1 z1 R1
    refine vc_X1_rank_4 (by omega) (by omega) (by omega) (by omega) ⟨fun z => absurd z (by rw [f1 51 (by decide), h2]; omega), fun _ => hQ f m1 (by omega) (RKI_end R1 (by omega) (fun r a b j hj => ?_)) f1⟩
    rcases Nat.lt_or_ge j A with q | q
    · exact R1.2 r a b j q
    · unfold TBC
      split
      · next h => rw [z1 r j b q h]; exact Int.zero_emod _
      · exact Int.zero_emod _
  · intro f m1 hfn f1 b1 z1 R1
    have hTc : ∀ (m' : MM) r, TBC m' r c = m' (53 + r) c := fun m' r => if_pos (by omega)
    refine vc_X1_rank_4 (by omega) (by omega) (by omega) (by omega) ⟨fun _ => ⟨fun _ => ?_, fun z => absurd (by omega) z⟩, fun z => absurd (by rw [f1 51 (by decide), h2]; omega) z⟩
    refine S_rowWith f c n hp hfn hn (by omega) (by rw [f1 51 (by decide)]; exact h1) b1 (fun h0 => ⟨fun _ => ih f m1 hfn f1 b1 z1 (RKI_np R1 (by omega) h0), fun z => absurd rfl z⟩) (fun r hfr hrn hr0 => ⟨fun z => absurd z (by omega), fun _ => ?_⟩)
    refine S_swapRows r f (by omega) (by omega) (fun m2 f2 s2 o2 => ?_)
    have fA : ∀ x, ¬ (53 ≤ x ∧ x ≤ 76) → m2 x = m x := fun x hx => (f2 x hx).trans (f1 x hx)
    have b2 : ∀ r' j, r' < n → j < 40 → -2 ≤ m2 (53 + r') j ∧ m2 (53 + r') j ≤ 12 := fun r' j hr' hj => by
      by_cases q1 : r' = r
      · rw [q1, (s2 j hj).1]; exact b1 f j (by omega) hj
      · by_cases q2 : r' = f
        · rw [q2, (s2 j hj).2]; exact b1 r j hrn hj
        · rw [o2 r' (by omega) q1 q2]; exact b1 r' j hr' hj
    have z2 : ∀ r' j, r' < n → A ≤ j → j < 40 → m2 (53 + r') j = 0 := fun r' j hr' ha hj => by
      by_cases q1 : r' = r
      · rw [q1, (s2 j hj).1]; exact z1 f j (by omega) ha hj
      · by_cases q2 : r' = f
        · rw [q2, (s2 j hj).2]; exact z1 r j hrn ha hj
        · rw [o2 r' (by omega) q1 q2]; exact z1 r' j hr' ha hj
    have sw : ∀ y, sat p (TBC m1) f n y ↔ sat p (TBC m2) f n y := sat_swap hfr hrn (Nat.le_refl f) (by omega) (fun j hj => by
      unfold TBC
      split
      · next h => exact (s2 j h).1
      · rfl) (fun j hj => by
      unfold TBC
      split
      · next h => exact (s2 j h).2
      · rfl) (fun r' a b j hj => ?_)
    · have l2 : TBC m2 f c % (p : Int) ≠ 0 := by
        rw [hTc, (s2 c (by omega)).2, ← hTc m1 r]
        exact hr0
      have low2 : ∀ r', f ≤ r' → r' < n → ∀ j, j < c → TBC m2 r' j % (p : Int) = 0 := fun r' a b j hj => by
        have e : TBC m2 r' j = m2 (53 + r') j := if_pos (by omega)
        have e' : ∀ x, TBC m1 x j = m1 (53 + x) j := fun x => if_pos (by omega)
        rw [e]
        by_cases q1 : r' = r
        · rw [q1, (s2 j (by omega)).1, ← e']; exact R1.2 f (Nat.le_refl f) (by omega) j hj
        · by_cases q2 : r' = f
          · rw [q2, (s2 j (by omega)).2, ← e']; exact R1.2 r hfr hrn j hj
          · rw [o2 r' (by omega) q1 q2, ← e']; exact R1.2 r' a b j hj
      refine S_clearBelow f c n A hp (by omega) hn hc hA (by rw [fA 51 (by decide)]; exact h1) (by rw [fA 51 (by decide)]; exact h2) b2 (fun m3 f3 v3 => ?_)
      refine ih (f + 1) m3 (by omega) (fun x hx => (f3 x hx).trans (fA x hx)) (fun r' j hr' hj => ?_) (fun r' j hr' ha hj => ?_) (RKI_pv hp R1 (by omega) (by omega) (fun y => (sw y).trans (sat_mix hp (by omega) (uf := 1) (by
        unfold pr6 at hp
        rcases hp with rfl | rfl | rfl | rfl | rfl | rfl <;> decide) (fun j hj => ?_) (fun r' a b => ⟨TBC m2 f c, -TBC m2 r' c, l2, fun j hj => ?_⟩) y)) ?_ (fun r' a b j hj => ?_))
      · rw [v3 r' hr' j hj]
        split
        · have e1 := Int.emod_nonneg (m2 (53 + r') j * m2 (53 + f) c - m2 (53 + f) j * m2 (53 + r') c) (show (p : Int) ≠ 0 by omega)
          have e2 := Int.emod_lt_of_pos (m2 (53 + r') j * m2 (53 + f) c - m2 (53 + f) j * m2 (53 + r') c) (show (0 : Int) < (p : Int) by omega)
          omega
        · exact b2 r' j hr' hj
      · rw [v3 r' hr' j hj, if_neg (by omega)]
        exact z2 r' j hr' ha hj
      · rw [Int.one_mul]
        unfold TBC
        split
        · next h => rw [v3 f (by omega) j h, if_neg (by omega)]
        · rfl
      · have eC : TBC m2 f c = m2 (53 + f) c := hTc m2 f
        have eC' : TBC m2 r' c = m2 (53 + r') c := hTc m2 r'
        rcases Nat.lt_or_ge j A with q | q
        · have e1 : ∀ (m' : MM) x, TBC m' x j = m' (53 + x) j := fun m' x => if_pos (by omega)
          rw [e1, e1, e1, eC, eC', v3 r' b j (by omega), if_pos ⟨a, q⟩, Int.emod_emod]
          have : m2 (53 + r') j * m2 (53 + f) c - m2 (53 + f) j * m2 (53 + r') c = m2 (53 + f) c * m2 (53 + r') j + -m2 (53 + r') c * m2 (53 + f) j := by grind
          rw [this]
        · have e0 : ∀ (m' : MM), (∀ r' j, r' < n → A ≤ j → j < 40 → m' (53 + r') j = 0) → ∀ x, x < n → TBC m' x j = 0 := fun m' hz' x hx => by
            unfold TBC
            split
            · next h => exact hz' x j hx q h
            · rfl
          rw [e0 m2 z2 r' b, e0 m2 z2 f (by omega), Int.mul_zero, Int.mul_zero]
          unfold TBC
          split
          · next h =>
            rw [v3 r' b j h, if_neg (by omega), z2 r' j b q h]
            rfl
          · rfl
      · rw [hTc, v3 f (by omega) c (by omega), if_neg (by omega), ← hTc m2 f]
        exact l2
      · have e1 : ∀ (m' : MM) x, TBC m' x j = m' (53 + x) j := fun m' x => if_pos (by omega)
        rw [e1, v3 r' b j (by omega), if_pos (by omega), Int.emod_emod]
        by_cases q : j = c
        · rw [q, Int.mul_comm (m2 (53 + f) c), Int.sub_self]
          exact Int.zero_emod _
        · have k1 := low2 r' (by omega) b j (by omega)
          have k2 := low2 f (Nat.le_refl f) (by omega) j (by omega)
          rw [e1] at k1 k2
          rw [Int.sub_emod, mul_0 k1, mul_0 k2]
          rfl
    · unfold TBC
      split
      · next h =>
        rcases Nat.lt_or_ge r' 24 with g | g
        · rw [o2 r' g a b]
        · rw [f2 (53 + r') (by omega)]
      · rfl
end FM
