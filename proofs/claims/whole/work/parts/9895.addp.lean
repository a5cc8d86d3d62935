/-! ===== Settings.addPower ===== -/
theorem bino_mul : ∀ f i : Nat, bino f (i + 1) * ((i : Int) + 1) = bino f i * ((f : Int) - (i : Int))
  | 0, 0 => rfl
  | 0, i + 1 => by
    show 0 * _ = 0 * _
    rw [Int.zero_mul, Int.zero_mul]
  | f + 1, 0 => by
    have h := bino_mul f 0
    have h1 : bino (f + 1) 0 = 1 := by cases f <;> rfl
    have h2 : bino f 0 = 1 := by cases f <;> rfl
    have h3 : bino (f + 1) (0 + 1) = bino f 0 + bino f (0 + 1) := rfl
    rw [h2] at h h3
    rw [h1, h3]
    omega
  | f + 1, i + 1 => by
    have h1 := bino_mul f i
    have h2 := bino_mul f (i + 1)
    have h3 : bino (f + 1) (i + 1 + 1) = bino f (i + 1) + bino f (i + 1 + 1) := rfl
    have h4 : bino (f + 1) (i + 1) = bino f i + bino f (i + 1) := rfl
    rw [h3, h4, Int.add_mul, Int.add_mul]
    have e1 : (((i + 1 : Nat) : Int) + 1) = ((i : Int) + 1) + 1 := by omega
    have e2 : (((f + 1 : Nat) : Int) - ((i + 1 : Nat) : Int)) = ((f : Int) - (i : Int)) := by omega
    have e3 : ((f : Int) - ((i + 1 : Nat) : Int)) = ((f : Int) - (i : Int)) - 1 := by omega
    rw [e1] at h2 ⊢
    rw [e3, Int.mul_sub] at h2
    rw [e2, Int.mul_add (bino f (i + 1)), h2, h1]
    omega
theorem bino_rg : ∀ f i : Nat, 0 ≤ bino f i ∧ bino f i ≤ ((2 ^ f : Nat) : Int)
  | 0, 0 => by decide
  | 0, i + 1 => by
    show (0 : Int) ≤ 0 ∧ (0 : Int) ≤ ((2 ^ 0 : Nat) : Int)
    decide
  | f + 1, 0 => by
    have h1 : bino (f + 1) 0 = 1 := by cases f <;> rfl
    have h2 := bino_rg f 0
    have h3 : bino f 0 = 1 := by cases f <;> rfl
    rw [h3] at h2
    rw [h1, Nat.pow_succ]
    omega
  | f + 1, i + 1 => by
    have h1 := bino_rg f i
    have h2 := bino_rg f (i + 1)
    have h4 : bino (f + 1) (i + 1) = bino f i + bino f (i + 1) := rfl
    rw [h4, Nat.pow_succ]
    omega
section AP
variable {E : am_E} {k : Nat} {m : MM} {γ : GM} {t : am_H} {Q : MM → GM → am_H → Prop}
def apS (T p : Int) (f : Nat) (d : Int) (i : Nat) : Int := sumN (fun i => if d = p + 2 * (f : Int) - 4 * (i : Int) then sgF f T * bino f i else 0) i
theorem apS_end (T p : Int) (f : Nat) (d : Int) : apS T p f d (f + 1) = T * cfA f (d - p) := by
  unfold apS cfA
  generalize f + 1 = n
  induction n with
  | zero => show 0 = T * 0; omega
  | succ n ih =>
    show sumN (fun i => if d = p + 2 * (f : Int) - 4 * (i : Int) then sgF f T * bino f i else 0) n + _ = T * (sumN (fun i => if d - p = 2 * (f : Int) - 4 * (i : Int) then (if f % 2 = 0 then bino f i else -bino f i) else 0) n + _)
    rw [ih, Int.mul_add]
    refine ad_r ?_
    dsimp only
    by_cases c : d = p + 2 * (f : Int) - 4 * (n : Int)
    · rw [if_pos c, if_pos (by omega)]
      unfold sgF
      split
      · rfl
      · rw [Int.neg_mul, Int.mul_neg]
    · rw [if_neg c, if_neg (by omega), Int.mul_zero]
theorem sgb {T : Int} {f i : Nat} (hT : 0 ≤ T ∧ T ≤ 4096) (hf : f ≤ 15) : -134217728 ≤ sgF f T * bino f i ∧ sgF f T * bino f i ≤ 134217728 := by
  have h1 := bino_rg f i
  have h2 : (2 : Nat) ^ f ≤ 2 ^ 15 := Nat.pow_le_pow_right (by decide) hf
  have h3 := mulb hT.1 hT.2 (show -32768 ≤ bino f i by omega) (show bino f i ≤ 32768 by omega)
  unfold sgF
  split
  · exact h3
  · rw [Int.neg_mul]
    omega
theorem S_addPower {T p x : Int} (f : Nat) (hx : x = (f : Int)) (hf : f ≤ 15) (hT : 0 ≤ T ∧ T ≤ 4096) (hp : -100 ≤ p ∧ p ≤ 100) (hb : ∀ j, j < 201 → -1000000000000000 ≤ m 50 j ∧ m 50 j ≤ 1000000000000000) (hQ : ∀ m1, (∀ b, b ≠ 50 → m1 b = m b) → (∀ j, j < 201 → m1 50 j = m 50 j + T * cfA f ((j : Int) - 100 - p)) → Q m1 γ t) : TV E k 72 [.ref 28, .int (iI T), .int (iI p), .int (iI x)] m γ t Q := by
  subst hx
  have main : ∀ i, i ≤ f + 1 → ∀ m1, (∀ b, b ≠ 50 → m1 b = m b) → (∀ j, j < 201 → m1 50 j = m 50 j + apS T p f ((j : Int) - 100) i) → hd_X5_addPower_19 E k T p (f : Int) p (f : Int) (sgF f T * bino f i) (i : Int) m1 γ t Q := by
    refine upN (n := f + 1) (P := fun i => ∀ m1, (∀ b, b ≠ 50 → m1 b = m b) → (∀ j, j < 201 → m1 50 j = m 50 j + apS T p f ((j : Int) - 100) i) → hd_X5_addPower_19 E k T p (f : Int) p (f : Int) (sgF f T * bino f i) (i : Int) m1 γ t Q) ?_ (fun i hi ih => ?_)
    · intro m1 hm h5
      have := sgb (i := f + 1) hT hf
      exact vc_X5_addPower_19 (by omega) (by omega) (by omega) (by omega) (by omega) (by omega) (by omega) ⟨fun z => absurd z (by omega), fun _ => hQ m1 hm (fun j hj => by rw [h5 j hj, apS_end])⟩
    · intro m1 hm h5
      have hs := sgb (i := i) hT hf
      have hs1 := sgb (i := i + 1) hT hf
      have hmul : sgF f T * bino f i * ((f : Int) - (i : Int)) = sgF f T * bino f (i + 1) * ((i : Int) + 1) := by
        rw [Int.mul_assoc, ← bino_mul f i, Int.mul_assoc]
      have hdiv : Int.tdiv (sgF f T * bino f i * ((f : Int) - (i : Int))) ((i : Int) + 1) = sgF f T * bino f (i + 1) := by
        rw [hmul]
        exact Int.mul_tdiv_cancel _ (by omega)
      have hrk : rK (sgF f T * bino f i * ((f : Int) - (i : Int))) := by
        generalize sgF f T * bino f i = z at *
        obtain ⟨w, hw⟩ : ∃ w : Nat, (f : Int) - (i : Int) = (w : Int) := ⟨f - i, by omega⟩
        have hw2 : w ≤ 15 := by omega
        rw [hw]
        have e1 : 0 ≤ (134217728 - z) * (w : Int) := Int.mul_nonneg (by omega) (by omega)
        have e2 : 0 ≤ (134217728 + z) * (w : Int) := Int.mul_nonneg (by omega) (by omega)
        rw [Int.sub_mul] at e1
        rw [Int.add_mul] at e2
        omega
      have hst : ∀ d, apS T p f d (i + 1) = apS T p f d i + (if d = p + 2 * (f : Int) - 4 * (i : Int) then sgF f T * bino f i else 0) := fun d => rfl
      have hno : (p + 2 * (f : Int) - 4 * (i : Int) < -100 ∨ 100 < p + 2 * (f : Int) - 4 * (i : Int)) → hd_X5_addPower_19 E k T p (f : Int) p (f : Int) (sgF f T * bino f (i + 1)) ((i : Int) + 1) m1 γ t Q := fun c => ih m1 hm (fun j hj => by rw [h5 j hj, hst, if_neg (by omega), Int.add_zero])
      refine vc_X5_addPower_19 (by omega) (by omega) (by omega) (by omega) (by omega) (by omega) (by omega) ⟨fun _ => ?_, fun z => absurd (by omega) z⟩
      rw [hdiv]
      refine ⟨by omega, fun c => ⟨by omega, by omega, hrk, by omega, hno (by omega)⟩, fun c => ⟨fun c2 => ?_, fun c2 => ⟨by omega, by omega, hrk, by omega, hno (by omega)⟩⟩⟩
      have hj : (p + 2 * (f : Int) - 4 * (i : Int) + 100).toNat < 201 := by omega
      have hr : -2281701376 ≤ apS T p f (((p + 2 * (f : Int) - 4 * (i : Int) + 100).toNat : Nat) - 100) i ∧ apS T p f (((p + 2 * (f : Int) - 4 * (i : Int) + 100).toNat : Nat) - 100) i ≤ 2281701376 := by
        have := sumN_rg (f := fun i' => if (((p + 2 * (f : Int) - 4 * (i : Int) + 100).toNat : Nat) : Int) - 100 = p + 2 * (f : Int) - 4 * (i' : Int) then sgF f T * bino f i' else 0) (lo := -134217728) (hi := 134217728) (fun e => by
          split
          · exact sgb hT hf
          · decide) i
        unfold apS
        omega
      have hbj := hb _ hj
      have h5j := h5 _ hj
      refine ⟨by omega, by omega, by omega, by omega, by omega, hrk, by omega, ih _ (fun b hb => by rw [up_ne hb]; exact hm b hb) (fun j hj2 => ?_)⟩
      rw [up_self, hst]
      unfold up
      by_cases e : j = (p + 2 * (f : Int) - 4 * (i : Int) + 100).toNat
      · rw [if_pos e, if_pos (by omega), h5j, ← e]
        omega
      · rw [if_neg e, if_neg (by omega), h5 j hj2, Int.add_zero]
  have h0 : bino f 0 = 1 := by cases f <;> rfl
  have hz := main 0 (by omega) m (fun _ _ => rfl) (fun j hj => by show m 50 j = m 50 j + 0; omega)
  rw [h0, Int.mul_one] at hz
  unfold sgF at hz
  refine vc_X5_addPower (by omega) (by omega) (by omega) ⟨by omega, fun c => ?_, fun c => ⟨by omega, ?_⟩⟩
  · rw [if_pos (by omega)] at hz
    exact hz
  · rw [if_neg (by omega)] at hz
    exact hz
end AP
