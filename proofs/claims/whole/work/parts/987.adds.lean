/-! ===== bracket: the reference ===== -/
def exF (F : Nat → Int) (z : Int) : Int := if 0 ≤ z ∧ z ≤ 240 then F z.toNat else 0
def adT (A F : Nat → Int) (j : Nat) (q : Nat) : Int := A q * exF F ((j : Int) - ((q : Int) - 12))
def adS (A F : Nat → Int) (j : Nat) (q : Nat) : Int := sumN (adT A F j) q
section ADD
variable {E : am_E} {k : Nat} {m : MM} {γ : GM} {t : am_H} {Q : MM → GM → am_H → Prop}
theorem S_adds {x : Int} (n : Nat) {A F B : Nat → Int} (hx : x = (n : Int)) (hn : n ≤ 64) (hA : ∀ q, q < 25 → m 184 (25 * n + q) = A q) (hA0 : ∀ q, q < 25 → 0 ≤ A q ∧ A q ≤ 4096) (hF : ∀ j, j < 241 → m 185 j = F j) (hB : ∀ j, j < 241 → m 187 j = B j) (hr : ∀ j, j < 241 → ∀ q, q ≤ 25 → rK (B j + adS A F j q)) (hQ : ∀ m1, fr [187] [] m m1 → (∀ j, j < 241 → m1 187 j = B j + adS A F j 25) → Q m1 γ t) : TV E (k + 1) 270 [.ref 158, .int (iI x)] m γ t Q := by
  subst hx
  refine vc_X9_adds (by omega) ?_
  have main : ∀ q, q ≤ 25 → ∀ m1, fr [187] [] m m1 → (∀ j, j < 241 → m1 187 j = B j + adS A F j q) → hd_X9_adds_3 E k (n : Int) (n : Int) ((q : Int) - 12) m1 γ t Q := by
    refine upN (n := 25) (P := fun q => ∀ m1, fr [187] [] m m1 → (∀ j, j < 241 → m1 187 j = B j + adS A F j q) → hd_X9_adds_3 E k (n : Int) (n : Int) ((q : Int) - 12) m1 γ t Q) ?_ (fun q hq ih => ?_)
    · intro m1 hf h7
      exact vc_X9_adds_3 (by omega) (by omega) (by omega) ⟨fun z => absurd z (by omega), fun _ => hQ m1 hf h7⟩
    · intro m1 hf h7
      have a0 := hA0 q hq
      have hst : ∀ j, adS A F j (q + 1) = adS A F j q + A q * exF F ((j : Int) - ((q : Int) - 12)) := fun j => rfl
      refine vc_X9_adds_3 (by omega) (by omega) (by omega) ⟨fun _ => ⟨by omega, ?_⟩, fun z => absurd (by omega) z⟩
      rw [show (25 * (n : Int) + 12 + ((q : Int) - 12)).toNat = 25 * n + q by omega, hf.1 184 (by decide) (by decide), hA q hq]
      by_cases c : A q ≤ 0
      · have az : A q = 0 := by omega
        refine vc_X9_adds_27 (by omega) (by omega) (by omega) (by omega) (by omega) ⟨fun _ => ⟨fun _ => ?_, fun z => absurd c z⟩, fun z => absurd (by omega) z⟩
        have := ih m1 hf (fun j hj => by rw [h7 j hj, hst, az]; omega)
        rw [show ((q + 1 : Nat) : Int) - 12 = ((q : Int) - 12) + 1 by omega] at this
        exact this
      · refine upN (n := 241) (P := fun i => ∀ m2, fr [187] [] m m2 → (∀ j, j < 241 → m2 187 j = B j + adS A F j (if j < i then q + 1 else q)) → hd_X9_adds_27 E k (n : Int) (n : Int) ((q : Int) - 12) (A q) (i : Int) m2 γ t Q) ?_ (fun i hi ih2 => ?_) 0 (Nat.zero_le _) m1 hf (fun j hj => by rw [if_neg (Nat.not_lt_zero _)]; exact h7 j hj)
        · intro m2 hf2 h8
          refine vc_X9_adds_27 (by omega) (by omega) (by omega) (by omega) (by omega) ⟨fun z => absurd z (by omega), fun _ => ?_⟩
          have := ih m2 hf2 (fun j hj => by have := h8 j hj; rw [if_pos hj] at this; exact this)
          rw [show ((q + 1 : Nat) : Int) - 12 = ((q : Int) - 12) + 1 by omega] at this
          exact this
        · intro m2 hf2 h8
          have hri := hr i hi (q + 1) (by omega)
          have h8i := h8 i hi
          rw [if_neg (Nat.lt_irrefl _)] at h8i
          have go : ∀ v : Int, v = B i + adS A F i (q + 1) → hd_X9_adds_27 E k (n : Int) (n : Int) ((q : Int) - 12) (A q) ((i : Int) + 1) (up m2 187 (up (m2 187) i v)) γ t Q := by
            intro v hv
            refine ih2 _ (hf2.upa 187 (by decide) (by decide)) (fun j hj => ?_)
            rw [up_self]
            unfold up
            by_cases e : j = i
            · rw [if_pos e, if_pos (by omega), hv, e]
            · rw [if_neg e, h8 j hj]
              by_cases e2 : j < i
              · rw [if_pos e2, if_pos (by omega)]
              · rw [if_neg e2, if_neg (by omega)]
          refine vc_X9_adds_27 (by omega) (by omega) (by omega) (by omega) (by omega) ⟨fun _ => ⟨fun z => absurd z c, fun _ => ⟨by omega, by omega, ?_⟩⟩, fun z => absurd (by omega) z⟩
          rw [Int.toNat_natCast, h8i]
          refine S_in (by omega) (by omega) (by omega) (fun c2 => b1 ?_) (fun c2 => b0 ?_)
          · have e1 : exF F ((i : Int) - ((q : Int) - 12)) = F ((i : Int) - ((q : Int) - 12)).toNat := if_pos c2
            have e2 := hst i
            rw [e1] at e2
            rw [hf2.1 185 (by decide) (by decide), hF _ (by omega)]
            refine ⟨by omega, by omega, ?_, go _ ?_⟩
            · rw [e2] at hri
              generalize A q * F ((i : Int) - ((q : Int) - 12)).toNat = P at *
              omega
            · rw [e2]
              omega
          · have e1 : exF F ((i : Int) - ((q : Int) - 12)) = 0 := if_neg c2
            have e2 := hst i
            rw [e1] at e2
            refine ⟨by omega, ?_, go _ ?_⟩
            · rw [e2] at hri
              omega
            · rw [e2]
              omega
  exact main 0 (by omega) m fr.refl (fun j hj => by rw [hB j hj]; show B j = B j + 0; omega)
theorem S_restores {G : GV} (hS : RSh m G.1 G.2.1) (hv : vG G) (h0 : 0 < G.1) (h183 : ∀ e, e < gn G.1 G.2.1 → m 183 e = G.2.2 e) (hQ : ∀ m1, fr [162] [] m m1 → RG m1 G → Q m1 γ t) : TV E k 265 [.ref 158] m γ t Q := by
  have hgn := gn_le _ hv.1.le.1 _ hv.1.le.2
  refine vc_X9_restores ?_
  refine upN (n := gn G.1 G.2.1) (P := fun i => ∀ m1, fr [162] [] m m1 → (∀ e, e < i → m1 162 e = G.2.2 e) → hd_X9_restores_2 E k (i : Int) m1 γ t Q) ?_ ?_ 0 (Nat.zero_le _) m fr.refl (fun s hs => absurd hs (Nat.not_lt_zero _))
  · intro m1 hf hr
    have hS1 := hS.fr hf (by decide) (by decide) (by decide) (by decide) (by decide) (by decide)
    have h6 := hS1.2.2.1
    exact vc_X9_restores_2 (by omega) ⟨fun q => absurd q (by omega), fun _ => hQ m1 hf ⟨hS1, hr, hv, h0⟩⟩
  · intro i hi ih m1 hf hr
    have hS1 := hS.fr hf (by decide) (by decide) (by decide) (by decide) (by decide) (by decide)
    refine vc_X9_restores_2 (by omega) ⟨fun _ => ⟨by omega, by omega, ih _ (hf.upa 162 (by decide) (by decide)) (fun s hs => ?_)⟩, fun q => absurd (by rw [hS1.2.2.1]; omega) q⟩
    rw [up_self, Int.toNat_natCast, hf.1 183 (by decide) (by decide), h183 i hi]
    unfold up
    split
    · next e => rw [e]
    · exact hr s (by omega)
end ADD
