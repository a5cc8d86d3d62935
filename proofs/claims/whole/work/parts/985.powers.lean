/-! ===== powers of (- A^2 - A^-2), as the reference has them ===== -/
def mltF (F : Nat → Int) (j : Nat) : Int := -(if j ≤ 1 then 0 else F (j - 2)) - (if j < 239 then F (j + 2) else 0)
def plT : Nat → Nat → Int
  | 0 => fun j => if j = 120 then 1 else 0
  | n + 1 => mltF (plT n)
theorem plT8 : ∀ j, j < 241 → -70 ≤ plT 8 j ∧ plT 8 j ≤ 70 := by decide +kernel
theorem mltF_rg {F : Nat → Int} {b : Int} (hb : 0 ≤ b) (h : ∀ j, j < 241 → -b ≤ F j ∧ F j ≤ b) {j : Nat} (hj : j < 241) : -(2 * b) ≤ mltF F j ∧ mltF F j ≤ 2 * b := by
  unfold mltF
  have h1 : -b ≤ (if j ≤ 1 then 0 else F (j - 2)) ∧ (if j ≤ 1 then 0 else F (j - 2)) ≤ b := by
    split
    · omega
    · exact h _ (by omega)
  have h2 : -b ≤ (if j < 239 then F (j + 2) else 0) ∧ (if j < 239 then F (j + 2) else 0) ≤ b := by
    split
    · exact h _ (by omega)
    · omega
  omega
theorem plT_lo : ∀ n j, j < 241 → -((2 ^ n : Nat) : Int) ≤ plT n j ∧ plT n j ≤ ((2 ^ n : Nat) : Int)
  | 0, j, _ => by
    unfold plT
    split <;> decide
  | n + 1, j, hj => by
    have := mltF_rg (b := ((2 ^ n : Nat) : Int)) (Int.natCast_nonneg _) (fun j hj => plT_lo n j hj) hj
    rw [Nat.pow_succ]
    show -(((2 ^ n * 2 : Nat)) : Int) ≤ mltF (plT n) j ∧ mltF (plT n) j ≤ (((2 ^ n * 2 : Nat)) : Int)
    omega
theorem plT_hi : ∀ n j, j < 241 → -((70 * 2 ^ n : Nat) : Int) ≤ plT (8 + n) j ∧ plT (8 + n) j ≤ ((70 * 2 ^ n : Nat) : Int)
  | 0, j, hj => plT8 j hj
  | n + 1, j, hj => by
    have := mltF_rg (b := ((70 * 2 ^ n : Nat) : Int)) (Int.natCast_nonneg _) (fun j hj => plT_hi n j hj) hj
    rw [Nat.pow_succ]
    show -(((70 * (2 ^ n * 2) : Nat)) : Int) ≤ mltF (plT (8 + n)) j ∧ mltF (plT (8 + n)) j ≤ (((70 * (2 ^ n * 2) : Nat)) : Int)
    omega
theorem plT_rg {n j : Nat} (hn : n ≤ 64) (hj : j < 241) : -9000000000000000000 ≤ plT n j ∧ plT n j ≤ 9000000000000000000 := by
  rcases Nat.lt_or_ge n 8 with h | h
  · have h1 := plT_lo n j hj
    have h2 : (2 : Nat) ^ n ≤ 2 ^ 8 := Nat.pow_le_pow_right (by decide) (by omega)
    omega
  · have h1 := plT_hi (n - 8) j hj
    rw [show 8 + (n - 8) = n by omega] at h1
    have h2 : (2 : Nat) ^ (n - 8) ≤ 2 ^ 56 := Nat.pow_le_pow_right (by decide) (by omega)
    omega
theorem bino_gt : ∀ f i, f < i → bino f i = 0
  | 0, 0, h => absurd h (by decide)
  | 0, i + 1, _ => rfl
  | f + 1, 0, h => absurd h (by omega)
  | f + 1, i + 1, h => by
    show bino f i + bino f (i + 1) = 0
    rw [bino_gt f i (by omega), bino_gt f (i + 1) (by omega)]
    rfl
theorem sumN_one {f : Nat → Int} {i : Nat} (h : ∀ j, j ≠ i → f j = 0) : ∀ n, sumN f n = if i < n then f i else 0
  | 0 => rfl
  | n + 1 => by
    show sumN f n + f n = _
    rw [sumN_one h n]
    by_cases c : n = i
    · subst c
      rw [if_neg (by omega), if_pos (by omega)]
      omega
    · rw [h n c]
      by_cases c2 : i < n
      · rw [if_pos c2, if_pos (by omega)]
        omega
      · rw [if_neg c2, if_neg (by omega)]
        omega
def sgF (f : Nat) (x : Int) : Int := if f % 2 = 0 then x else -x
theorem cfA_at (f i : Nat) : cfA f (2 * (f : Int) - 4 * (i : Int)) = sgF f (bino f i) := by
  unfold cfA
  rw [sumN_one (i := i) (fun j hj => if_neg (by omega))]
  by_cases c : i < f + 1
  · rw [if_pos c, if_pos rfl]
    rfl
  · rw [if_neg c, bino_gt f i (by omega)]
    unfold sgF
    split <;> rfl
theorem cfA_no {f : Nat} {d : Int} (h : ∀ i : Nat, d ≠ 2 * (f : Int) - 4 * (i : Int)) : cfA f d = 0 := by
  unfold cfA
  rw [sumN_congr (g := fun _ => 0) (fun i _ => if_neg (h i))]
  induction f + 1 with
  | zero => rfl
  | succ n ih => show sumN (fun _ => 0) n + 0 = 0; rw [ih]; rfl
theorem cfA_far {f : Nat} {d : Int} (h : d < -(2 * (f : Int)) ∨ 2 * (f : Int) < d) : cfA f d = 0 := by
  unfold cfA
  rw [sumN_congr (g := fun _ => 0) (fun i hi => if_neg (by omega))]
  induction f + 1 with
  | zero => rfl
  | succ n ih => show sumN (fun _ => 0) n + 0 = 0; rw [ih]; rfl
theorem cfA_rec (f : Nat) (d : Int) : cfA (f + 1) d = -cfA f (d - 2) - cfA f (d + 2) := by
  by_cases h : ∃ i : Nat, d = 2 * ((f + 1 : Nat) : Int) - 4 * (i : Int)
  · obtain ⟨i, rfl⟩ := h
    rw [cfA_at, show 2 * ((f + 1 : Nat) : Int) - 4 * (i : Int) - 2 = 2 * (f : Int) - 4 * (i : Int) by omega, cfA_at]
    cases i with
    | zero =>
      rw [cfA_far (by omega)]
      have h1 : bino (f + 1) 0 = 1 := by cases f <;> rfl
      have h2 : bino f 0 = 1 := by cases f <;> rfl
      rw [h1, h2]
      unfold sgF
      split <;> split <;> omega
    | succ i =>
      rw [show 2 * ((f + 1 : Nat) : Int) - 4 * ((i + 1 : Nat) : Int) + 2 = 2 * (f : Int) - 4 * (i : Int) by omega, cfA_at]
      have h1 : bino (f + 1) (i + 1) = bino f i + bino f (i + 1) := rfl
      rw [h1]
      unfold sgF
      split <;> split <;> omega
  · rw [cfA_no (fun i q => h ⟨i, q⟩)]
    by_cases h1 : ∃ i : Nat, d - 2 = 2 * (f : Int) - 4 * (i : Int)
    · obtain ⟨i, hi⟩ := h1
      exact absurd ⟨i, by omega⟩ h
    · rw [cfA_no (fun i q => h1 ⟨i, q⟩)]
      by_cases h2 : ∃ i : Nat, d + 2 = 2 * (f : Int) - 4 * (i : Int)
      · obtain ⟨i, hi⟩ := h2
        exact absurd ⟨i + 1, by omega⟩ h
      · rw [cfA_no (fun i q => h2 ⟨i, q⟩)]
        rfl
theorem plT_cfA : ∀ n, n ≤ 50 → ∀ j, j < 241 → plT n j = cfA n ((j : Int) - 120)
  | 0, _, j, hj => by
    show (if j = 120 then (1 : Int) else 0) = _
    by_cases c : j = 120
    · subst c
      rfl
    · rw [if_neg c, cfA_far (by omega)]
  | n + 1, hn, j, hj => by
    have ih := plT_cfA n (by omega)
    show mltF (plT n) j = _
    unfold mltF
    rw [cfA_rec]
    congr 2
    · by_cases c : j ≤ 1
      · rw [if_pos c, cfA_far (by omega)]
      · rw [if_neg c, ih _ (by omega)]
        congr 1
        omega
    · by_cases c : j < 239
      · rw [if_pos c, ih _ (by omega)]
        congr 1
        omega
      · rw [if_neg c, cfA_far (by omega)]
section MUL
variable {E : am_E} {k : Nat} {m : MM} {γ : GM} {t : am_H} {Q : MM → GM → am_H → Prop}
theorem S_multiplies {F : Nat → Int} (h : ∀ j, j < 241 → m 185 j = F j) (hr : ∀ j, j < 241 → -9000000000000000000 ≤ mltF F j ∧ mltF F j ≤ 9000000000000000000) (hQ : ∀ m1, fr [185, 186] [] m m1 → (∀ j, j < 241 → m1 185 j = mltF F j) → Q m1 γ t) : TV E k 271 [.ref 158] m γ t Q := by
  refine vc_X9_multiplies ?_
  refine upN (n := 241) (P := fun i => ∀ m1, fr [186] [] m m1 → (∀ j, j < i → m1 186 j = mltF F j) → hd_X9_multiplies_2 E k (i : Int) m1 γ t Q) ?_ ?_ 0 (Nat.zero_le _) m fr.refl (fun j h => absurd h (Nat.not_lt_zero _))
  · intro m1 hf h6
    refine vc_X9_multiplies_2 (by omega) ⟨fun q => absurd q (by omega), fun _ => ?_⟩
    refine upN (n := 241) (P := fun i => ∀ m2, fr [185] [] m1 m2 → (∀ j, j < i → m2 185 j = mltF F j) → hd_X9_multiplies_61 E k (i : Int) m2 γ t Q) ?_ ?_ 0 (Nat.zero_le _) m1 fr.refl (fun j h => absurd h (Nat.not_lt_zero _))
    · intro m2 hf2 h5
      exact vc_X9_multiplies_61 (by omega) ⟨fun q => absurd q (by omega), fun _ => hQ m2 ((hf.mono (by decide) (by decide)).trans (hf2.mono (by decide) (by decide))) h5⟩
    · intro i hi ih m2 hf2 h5
      refine vc_X9_multiplies_61 (by omega) ⟨fun _ => ⟨by omega, by omega, ih _ (hf2.upa 185 (by decide) (by decide)) (fun j hj => ?_)⟩, fun q => absurd (by omega) q⟩
      rw [up_self, Int.toNat_natCast, hf2.1 186 (by decide) (by decide)]
      unfold up
      split
      · next e => rw [e]; exact h6 i hi
      · exact h5 j (by omega)
  · intro i hi ih m1 hf h6
    have h5 : ∀ j, j < 241 → m1 185 j = F j := fun j hj => by rw [hf.1 185 (by decide) (by decide)]; exact h j hj
    have hb := hr i hi
    have go : ∀ v : Int, v = mltF F i → hd_X9_multiplies_2 E k ((i : Int) + 1) (up m1 186 (up (m1 186) i v)) γ t Q := by
      intro v hv
      refine ih _ (hf.upa 186 (by decide) (by decide)) (fun j hj => ?_)
      rw [up_self]
      unfold up
      split
      · next e => rw [e, hv]
      · exact h6 j (by omega)
    have em : mltF F i = -(if i ≤ 1 then 0 else F (i - 2)) - (if i < 239 then F (i + 2) else 0) := rfl
    refine vc_X9_multiplies_2 (by omega) ⟨fun _ => ?_, fun q => absurd (by omega) q⟩
    rw [Int.toNat_natCast]
    refine ⟨fun c1 => ⟨fun c2 => ?_, fun c2 => absurd (by omega) c2⟩, fun c1 => ⟨by omega, fun c2 => ?_, fun c2 => ?_⟩⟩
    · rw [if_pos (by omega), if_pos (by omega)] at em
      rw [show ((i : Int) + 2).toNat = i + 2 by omega, h5 _ (by omega)]
      exact ⟨by omega, by omega, by omega, go _ (by omega)⟩
    · rw [if_neg (by omega), if_pos (by omega)] at em
      rw [show ((i : Int) + 2).toNat = i + 2 by omega, show ((i : Int) - 2).toNat = i - 2 by omega, h5 _ (by omega), h5 _ (by omega)]
      exact ⟨by omega, by omega, by omega, go _ (by omega)⟩
    · rw [if_neg (by omega), if_neg (by omega)] at em
      rw [show ((i : Int) - 2).toNat = i - 2 by omega, h5 _ (by omega)]
      exact ⟨by omega, by omega, go _ (by omega)⟩
end MUL
