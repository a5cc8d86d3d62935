/-! ===== Settings.addTerms ===== -/
section AT
variable {E : am_E} {k : Nat} {m : MM} {γ : GM} {t : am_H} {Q : MM → GM → am_H → Prop}
theorem tal_rg {G : GV} (h12 : nX G ≤ 12) (r n : Nat) : 0 ≤ tal G r n ∧ tal G r n ≤ 4096 := by
  have hp : (2 : Nat) ^ (nX G).toNat ≤ 2 ^ 12 := Nat.pow_le_pow_right (by decide) (by omega)
  have := sumN_rg (f := fun set => if rai G set = (r : Int) ∧ lps G set = n then (1 : Int) else 0) (lo := 0) (hi := 1) (fun e => by split <;> omega) (2 ^ (nX G).toNat)
  unfold tal
  omega
theorem cfA_rg {f : Nat} (hf : f ≤ 15) (d : Int) : -32768 ≤ cfA f d ∧ cfA f d ≤ 32768 := by
  by_cases h : ∃ i : Nat, d = 2 * (f : Int) - 4 * (i : Int)
  · obtain ⟨i, rfl⟩ := h
    rw [cfA_at]
    have h1 := bino_rg f i
    have h2 : (2 : Nat) ^ f ≤ 2 ^ 15 := Nat.pow_le_pow_right (by decide) hf
    unfold sgF
    split <;> omega
  · rw [cfA_no (fun i q => h ⟨i, q⟩)]
    decide
def tmI (G : GV) (r : Nat) (d : Int) (n : Nat) : Int := sumN (fun n => tal G r (n + 1) * cfA n (d - (2 * (r : Int) - nX G))) n
def tmO (G : GV) (d : Int) (r : Nat) : Int := sumN (fun r => tmI G r d 16) r
theorem tmI_rg {G : GV} (h12 : nX G ≤ 12) (r : Nat) (d : Int) : ∀ n : Nat, n ≤ 16 → -134217728 * (n : Int) ≤ tmI G r d n ∧ tmI G r d n ≤ 134217728 * (n : Int)
  | 0, _ => by unfold tmI sumN; decide
  | n + 1, hn => by
    have ih := tmI_rg h12 r d n (by omega)
    have h1 := tal_rg h12 r (n + 1)
    have h2 := cfA_rg (f := n) (by omega) (d - (2 * (r : Int) - nX G))
    have h3 := mulb h1.1 h1.2 h2.1 h2.2
    have e : tmI G r d (n + 1) = tmI G r d n + tal G r (n + 1) * cfA n (d - (2 * (r : Int) - nX G)) := rfl
    rw [e]
    omega
theorem tmO_rg {G : GV} (h12 : nX G ≤ 12) (d : Int) (r : Nat) : -2147483648 * (r : Int) ≤ tmO G d r ∧ tmO G d r ≤ 2147483648 * (r : Int) := by
  have := sumN_rg (f := fun r => tmI G r d 16) (lo := -2147483648) (hi := 2147483648) (fun r => by have := tmI_rg h12 r d 16 (by omega); omega) r
  unfold tmO
  exact this
theorem S_addTerms {G : GV} (h12 : 0 ≤ nX G ∧ nX G ≤ 12) (h28 : m 28 1 = nX G) (hT : ∀ r, r < 13 → ∀ n, n < 17 → m (37 + r) n = tal G r n) (h50 : ∀ j, j < 201 → m 50 j = 0) (hQ : ∀ m1, (∀ b, b ≠ 50 → m1 b = m b) → (∀ j : Nat, j < 201 → m1 50 j = trm G ((j : Int) - 100)) → Q m1 γ t) : TV E (k + 1) 71 [.ref 28] m γ t Q := by
  refine vc_X5_addTerms ?_
  refine upN (n := 13) (P := fun r => ∀ m1, (∀ b, b ≠ 50 → m1 b = m b) → (∀ j : Nat, j < 201 → m1 50 j = tmO G ((j : Int) - 100) r) → hd_X5_addTerms_2 E k (r : Int) m1 γ t Q) ?_ (fun r hr ih => ?_) 0 (Nat.zero_le _) m (fun _ _ => rfl) h50
  · intro m1 hm h5
    exact vc_X5_addTerms_2 (by omega) ⟨fun z => absurd z (by omega), fun _ => hQ m1 hm h5⟩
  · intro m1 hm h5
    refine vc_X5_addTerms_2 (by omega) ⟨fun _ => ?_, fun z => absurd (by omega) z⟩
    refine upN (n := 16) (P := fun n => ∀ m2, (∀ b, b ≠ 50 → m2 b = m b) → (∀ j : Nat, j < 201 → m2 50 j = tmO G ((j : Int) - 100) r + tmI G r ((j : Int) - 100) n) → hd_X5_addTerms_10 E k (r : Int) ((n : Int) + 1) m2 γ t Q) ?_ (fun n hn ih2 => ?_) 0 (Nat.zero_le _) m1 hm (fun j hj => by rw [h5 j hj]; show _ = _ + 0; omega)
    · intro m2 hm2 h52
      exact vc_X5_addTerms_10 (by omega) (by omega) ⟨fun z => absurd z (by omega), fun _ => ih m2 hm2 h52⟩
    · intro m2 hm2 h52
      have hst : ∀ d, tmI G r d (n + 1) = tmI G r d n + tal G r (n + 1) * cfA n (d - (2 * (r : Int) - nX G)) := fun d => rfl
      have e37 : m2 (37 + r) (n + 1) = tal G r (n + 1) := by rw [hm2 _ (by omega)]; exact hT r hr (n + 1) (by omega)
      have htr := tal_rg h12.2 r (n + 1)
      refine vc_X5_addTerms_10 (by omega) (by omega) ⟨fun _ => ?_, fun z => absurd (by omega) z⟩
      rw [Int.toNat_natCast, show ((n : Int) + 1).toNat = n + 1 by omega, e37, hm2 28 (by decide), h28]
      have nxt : ∀ m3, (∀ b, b ≠ 50 → m3 b = m b) → (∀ j : Nat, j < 201 → m3 50 j = tmO G ((j : Int) - 100) r + tmI G r ((j : Int) - 100) (n + 1)) → hd_X5_addTerms_10 E k (r : Int) ((n : Int) + 1 + 1) m3 γ t Q := fun m3 h1 h2 => ih2 m3 h1 h2
      refine ⟨by omega, by omega, fun c => nxt m2 hm2 (fun j hj => by rw [h52 j hj, hst, c, Int.zero_mul, Int.add_zero]), fun c => ⟨by omega, by omega, ?_⟩⟩
      refine S_addPower n (by omega) (by omega) htr (by omega) (fun j hj => ?_) (fun m3 hm3 h53 => nxt m3 (fun b hb => (hm3 b hb).trans (hm2 b hb)) (fun j hj => ?_))
      · have b1 := tmI_rg h12.2 r ((j : Int) - 100) n (by omega)
        have b2 := tmO_rg h12.2 ((j : Int) - 100) r
        rw [h52 j hj]
        omega
      · rw [h53 j hj, h52 j hj, hst]
        omega
end AT
