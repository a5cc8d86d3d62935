/-! ===== the reference: under, quarter, mirror ===== -/
def olG (R C : Nat) (kd : Nat → Int) (s : Nat) : Int := if geb R C s = -1 then -1 else kd (geb R C s).toNat
def tr_P (R C e : Nat) : Bool := decide (gcell C R e < 16) && decide (trE R C e < gn R C) && (if gbel C R e = 1 then decide (2 * ((R - 1 - gcell C R e % R) * C + gcell C R e / R) < 2 * (R * C)) && decide (0 ≤ geb R C (2 * ((R - 1 - gcell C R e % R) * C + gcell C R e / R))) && decide ((trE R C e : Int) = geb R C (2 * ((R - 1 - gcell C R e % R) * C + gcell C R e / R))) else decide (gcell C R e % R + 1 < R) && decide (2 * ((R - 1 - gcell C R e % R - 1) * C + gcell C R e / R) + 1 < 2 * (R * C)) && decide (0 ≤ geb R C (2 * ((R - 1 - gcell C R e % R - 1) * C + gcell C R e / R) + 1)) && decide ((trE R C e : Int) = geb R C (2 * ((R - 1 - gcell C R e % R - 1) * C + gcell C R e / R) + 1)))
theorem tr_P_D : ∀ R, R ≤ 4 → ∀ C, C ≤ 4 → ∀ e, e < gn C R → tr_P R C e = true := by decide +kernel
theorem tr_D (R : Nat) (hR : R ≤ 4) (C : Nat) (hC : C ≤ 4) (e : Nat) (he : e < gn C R) : gcell C R e < 16 ∧ (gbel C R e = 1 → 2 * ((R - 1 - gcell C R e % R) * C + gcell C R e / R) < 2 * (R * C) ∧ 0 ≤ geb R C (2 * ((R - 1 - gcell C R e % R) * C + gcell C R e / R)) ∧ (trE R C e : Int) = geb R C (2 * ((R - 1 - gcell C R e % R) * C + gcell C R e / R))) ∧ (gbel C R e ≠ 1 → gcell C R e % R + 1 < R ∧ 2 * ((R - 1 - gcell C R e % R - 1) * C + gcell C R e / R) + 1 < 2 * (R * C) ∧ 0 ≤ geb R C (2 * ((R - 1 - gcell C R e % R - 1) * C + gcell C R e / R) + 1) ∧ (trE R C e : Int) = geb R C (2 * ((R - 1 - gcell C R e % R - 1) * C + gcell C R e / R) + 1)) ∧ trE R C e < gn R C := by
  have h := tr_P_D R hR C hC e he
  unfold tr_P at h
  rw [Bool.and_eq_true, Bool.and_eq_true, decide_eq_true_eq, decide_eq_true_eq] at h
  obtain ⟨⟨h1, h2⟩, h3⟩ := h
  refine ⟨h1, fun c => ?_, fun c => ?_, h2⟩
  · rw [if_pos c, Bool.and_eq_true, Bool.and_eq_true, decide_eq_true_eq, decide_eq_true_eq, decide_eq_true_eq] at h3
    exact ⟨h3.1.1, h3.1.2, h3.2⟩
  · rw [if_neg c, Bool.and_eq_true, Bool.and_eq_true, Bool.and_eq_true, decide_eq_true_eq, decide_eq_true_eq, decide_eq_true_eq, decide_eq_true_eq] at h3
    exact ⟨h3.1.1.1, h3.1.1.2, h3.1.2, h3.2⟩
def mi_P (R C e : Nat) : Bool := decide (gcell R C e < 16) && decide (miE R C e < gn R C) && (if gbel R C e = 1 then decide (2 * ((gcell R C e / C) * C + (C - 1 - gcell R C e % C)) + 1 < 2 * (R * C)) && decide (0 ≤ geb R C (2 * ((gcell R C e / C) * C + (C - 1 - gcell R C e % C)) + 1)) && decide ((miE R C e : Int) = geb R C (2 * ((gcell R C e / C) * C + (C - 1 - gcell R C e % C)) + 1)) else decide (gcell R C e % C + 1 < C) && decide (2 * ((gcell R C e / C) * C + (C - 1 - gcell R C e % C) - 1) < 2 * (R * C)) && decide (0 ≤ geb R C (2 * ((gcell R C e / C) * C + (C - 1 - gcell R C e % C) - 1))) && decide ((miE R C e : Int) = geb R C (2 * ((gcell R C e / C) * C + (C - 1 - gcell R C e % C) - 1))))
theorem mi_P_D : ∀ R, R ≤ 4 → ∀ C, C ≤ 4 → ∀ e, e < gn R C → mi_P R C e = true := by decide +kernel
theorem mi_D (R : Nat) (hR : R ≤ 4) (C : Nat) (hC : C ≤ 4) (e : Nat) (he : e < gn R C) : gcell R C e < 16 ∧ (gbel R C e = 1 → 2 * ((gcell R C e / C) * C + (C - 1 - gcell R C e % C)) + 1 < 2 * (R * C) ∧ 0 ≤ geb R C (2 * ((gcell R C e / C) * C + (C - 1 - gcell R C e % C)) + 1) ∧ (miE R C e : Int) = geb R C (2 * ((gcell R C e / C) * C + (C - 1 - gcell R C e % C)) + 1)) ∧ (gbel R C e ≠ 1 → gcell R C e % C + 1 < C ∧ 2 * ((gcell R C e / C) * C + (C - 1 - gcell R C e % C) - 1) < 2 * (R * C) ∧ 0 ≤ geb R C (2 * ((gcell R C e / C) * C + (C - 1 - gcell R C e % C) - 1)) ∧ (miE R C e : Int) = geb R C (2 * ((gcell R C e / C) * C + (C - 1 - gcell R C e % C) - 1))) ∧ miE R C e < gn R C := by
  have h := mi_P_D R hR C hC e he
  unfold mi_P at h
  rw [Bool.and_eq_true, Bool.and_eq_true, decide_eq_true_eq, decide_eq_true_eq] at h
  obtain ⟨⟨h1, h2⟩, h3⟩ := h
  refine ⟨h1, fun c => ?_, fun c => ?_, h2⟩
  · rw [if_pos c, Bool.and_eq_true, Bool.and_eq_true, decide_eq_true_eq, decide_eq_true_eq, decide_eq_true_eq] at h3
    exact ⟨h3.1.1, h3.1.2, h3.2⟩
  · rw [if_neg c, Bool.and_eq_true, Bool.and_eq_true, Bool.and_eq_true, decide_eq_true_eq, decide_eq_true_eq, decide_eq_true_eq, decide_eq_true_eq] at h3
    exact ⟨h3.1.1.1, h3.1.1.2, h3.1.2, h3.2⟩
section R10
variable {E : am_E} {k : Nat} {m : MM} {γ : GM} {t : am_H} {a : AST} {Q : Int → MM → GM → am_H → Prop} {G : GV}
theorem S_olds {Q : MM → GM → am_H → Prop} (h : RG m G) (hQ : ∀ m1, fr [192] [] m m1 → (∀ s, s < 2 * (G.1 * G.2.1) → m1 192 s = olG G.1 G.2.1 G.2.2 s) → Q m1 γ t) : TV E (k + 1) 293 [.ref 158] m γ t Q := by
  have hle := h.le
  have hRC : G.1 * G.2.1 ≤ 16 := Nat.mul_le_mul hle.1 hle.2.1
  refine vc_X9_olds ?_
  refine upN (n := 2 * (G.1 * G.2.1)) (P := fun i => ∀ m1, fr [192] [] m m1 → (∀ s, s < i → m1 192 s = olG G.1 G.2.1 G.2.2 s) → hd_X9_olds_2 E k (i : Int) m1 γ t Q) ?_ ?_ 0 (Nat.zero_le _) m fr.refl (fun s hs => absurd hs (Nat.not_lt_zero _))
  · intro m1 hf hr
    have h1 := h.fr hf (by decide) (by decide) (by decide) (by decide) (by decide) (by decide) (by decide)
    exact vc_X9_olds_2 (by omega) (S_cells h1.1 hle.1 hle.2.1 ⟨by omega, fun q => absurd q (by omega), fun _ => hQ m1 hf hr⟩)
  · intro i hi ih m1 hf hr
    have h1 := h.fr hf (by decide) (by decide) (by decide) (by decide) (by decide) (by decide) (by decide)
    have hg := geb_rng _ hle.1 _ hle.2.1 i (by omega)
    refine vc_X9_olds_2 (by omega) (S_cells h1.1 hle.1 hle.2.1 ⟨by omega, fun _ => ?_, fun q => absurd (by omega) q⟩)
    rw [Int.toNat_natCast, h1.1.2.2.2.2 i hi]
    have step : ∀ d : Int, d = olG G.1 G.2.1 G.2.2 i → hd_X9_olds_2 E k ((i : Int) + 1) (up m1 192 (up (m1 192) i d)) γ t Q := by
      intro d hd
      refine ih _ (hf.upa 192 (by decide) (by decide)) (fun s hs => ?_)
      rw [up_self]
      unfold up
      split
      · next e => rw [e, hd]
      · exact hr s (by omega)
    refine ⟨by omega, fun c => ⟨by omega, step _ (by unfold olG; rw [if_pos c])⟩, fun c => ⟨by omega, by omega, by omega, step _ ?_⟩⟩
    unfold olG
    rw [if_neg c]
    exact h1.2.1 _ (by omega)
theorem S_turns {Q : MM → GM → am_H → Prop} (h : RG m G) (hQ : ∀ m1, fr [162, 163, 164, 165, 192] [4, 5, 6] m m1 → RG m1 (G.2.1, G.1, fun e => G.2.2 (trE G.1 G.2.1 e)) → Q m1 γ t) : TV E (k + 2) 294 [.ref 158] m γ t Q := by
  have hle := h.le
  have hRC : G.1 * G.2.1 ≤ 16 := Nat.mul_le_mul hle.1 hle.2.1
  have hgn := gn_le _ hle.2.1 _ hle.1
  refine vc_X9_turns (S_olds h (fun m1 hf1 ho => ?_))
  have h1 := h.fr hf1 (by decide) (by decide) (by decide) (by decide) (by decide) (by decide) (by decide)
  rw [h1.1.1, h1.1.2.1]
  refine S_shapes ⟨hle.2.2.2.1, hle.2.1⟩ ⟨hle.2.2.1, hle.1⟩ (fun m2 hf2 hS2 => ?_)
  refine upN (n := gn G.2.1 G.1) (P := fun e => ∀ m3, fr [162] [] m2 m3 → (∀ e', e' < e → m3 162 e' = G.2.2 (trE G.1 G.2.1 e')) → hd_X9_turns_22 E (k + 1) (G.1 : Int) (G.2.1 : Int) (e : Int) m3 γ t Q) ?_ ?_ 0 (Nat.zero_le _) m2 fr.refl (fun e' h => absurd h (Nat.not_lt_zero _))
  · intro m3 hf3 hr
    have hS3 := hS2.fr hf3 (by decide) (by decide) (by decide) (by decide) (by decide) (by decide)
    have h6 := hS3.2.2.1
    refine vc_X9_turns_22 (by omega) (by omega) (by omega) ⟨fun q => absurd q (by omega), fun _ => hQ m3 (((hf1.mono (by decide) (by decide)).trans (hf2.mono (by decide) (by decide))).trans (hf3.mono (by decide) (by decide))) ⟨hS3, hr, ⟨Or.inr ?_, fun e he => ?_⟩, by show 0 < G.2.1; omega⟩⟩
    · show 1 ≤ G.2.1 ∧ G.2.1 ≤ 4 ∧ 1 ≤ G.1 ∧ G.1 ≤ 4
      omega
    · have he : e < gn G.2.1 G.1 := he
      exact h.2.2.1.2 _ (tr_D _ hle.1 _ hle.2.1 e he).2.2.2
  · intro e he ih m3 hf3 hr
    have hS3 := hS2.fr hf3 (by decide) (by decide) (by decide) (by decide) (by decide) (by decide)
    obtain ⟨g1, g2, g3, g4⟩ := tr_D _ hle.1 _ hle.2.1 e he
    have h192 : ∀ s, s < 2 * (G.1 * G.2.1) → m3 192 s = olG G.1 G.2.1 G.2.2 s := fun s hs => by
      rw [hf3.1 192 (by decide) (by decide), hf2.1 192 (by decide) (by decide)]
      exact ho s hs
    have step : ∀ d : Int, d = G.2.2 (trE G.1 G.2.1 e) → hd_X9_turns_22 E (k + 1) (G.1 : Int) (G.2.1 : Int) ((e : Int) + 1) (up m3 162 (up (m3 162) e d)) γ t Q := by
      intro d hd
      refine ih _ (hf3.upa 162 (by decide) (by decide)) (fun e' he' => ?_)
      rw [up_self]
      unfold up
      split
      · next q => rw [q, hd]
      · exact hr e' (by omega)
    have hmod := Nat.mod_lt (gcell G.2.1 G.1 e) (show 0 < G.1 by omega)
    obtain ⟨q, hq⟩ : ∃ q, q = gcell G.2.1 G.1 e / G.1 := ⟨_, rfl⟩
    obtain ⟨r, hr2⟩ : ∃ r, r = gcell G.2.1 G.1 e % G.1 := ⟨_, rfl⟩
    have d1 : (gcell G.2.1 G.1 e : Int) / (G.1 : Int) = (q : Int) := by rw [hq]; simp
    have d2 : (gcell G.2.1 G.1 e : Int) % (G.1 : Int) = (r : Int) := by rw [hr2]; simp
    rw [← hq, ← hr2] at g2 g3
    rw [← hr2] at hmod
    refine vc_X9_turns_22 (by omega) (by omega) (by omega) ⟨fun _ => ?_, fun z => absurd (by rw [hS3.2.2.1]; omega) z⟩
    rw [Int.toNat_natCast, (hS3.2.2.2.1 e he).1, (hS3.2.2.2.1 e he).2, hS3.2.1, d1, d2]
    refine ⟨by omega, by omega, by omega, by omega, by omega, by omega, by omega, fun c => ?_, fun c => ?_⟩
    · obtain ⟨l1, l2, l3⟩ := g2 (by omega)
      have e1 : (2 * (((((G.1 : Int) - 1) - (r : Int)) * (G.2.1 : Int)) + (q : Int))) = ((2 * ((G.1 - 1 - r) * G.2.1 + q) : Nat) : Int) := by
        rw [show ((G.1 : Int) - 1) - (r : Int) = ((G.1 - 1 - r : Nat) : Int) by omega]
        simp
      rw [e1, Int.toNat_natCast, h192 _ l1]
      refine ⟨by omega, by omega, step _ ?_⟩
      unfold olG
      rw [if_neg (by omega), ← l3, Int.toNat_natCast]
    · obtain ⟨l0, l1, l2, l3⟩ := g3 (by omega)
      have e1 : ((2 * ((((((G.1 : Int) - 1) - (r : Int)) - 1) * (G.2.1 : Int)) + (q : Int))) + 1) = ((2 * ((G.1 - 1 - r - 1) * G.2.1 + q) + 1 : Nat) : Int) := by
        rw [show (((G.1 : Int) - 1) - (r : Int)) - 1 = ((G.1 - 1 - r - 1 : Nat) : Int) by omega]
        simp
      rw [e1, Int.toNat_natCast, h192 _ l1]
      refine ⟨by omega, by omega, step _ ?_⟩
      unfold olG
      rw [if_neg (by omega), ← l3, Int.toNat_natCast]
theorem S_turnsCrosses {Q : MM → GM → am_H → Prop} (h : RG m G) (hQ : ∀ m1, fr [162] [] m m1 → RG m1 (gU G) → Q m1 γ t) : TV E (k + 1) 291 [.ref 158] m γ t Q := by
  have hle := h.le
  refine vc_X9_turnsCrosses ?_
  refine upN (n := gn G.1 G.2.1) (P := fun e => ∀ m1, fr [162] [] m m1 → (∀ e', e' < gn G.1 G.2.1 → m1 162 e' = if e' < e then tov (G.2.2 e') else G.2.2 e') → hd_X9_turnsCrosses_2 E k (e : Int) m1 γ t Q) ?_ ?_ 0 (Nat.zero_le _) m fr.refl (fun e' he' => by rw [if_neg (Nat.not_lt_zero _)]; exact h.2.1 e' he')
  · intro m1 hf hr
    have hS := h.1.fr hf (by decide) (by decide) (by decide) (by decide) (by decide) (by decide)
    have h6 := hS.2.2.1
    refine vc_X9_turnsCrosses_2 (by omega) ⟨fun q => absurd q (by omega), fun _ => hQ m1 hf ⟨hS, hr, ⟨h.2.2.1.1, fun e he => ?_⟩, h.2.2.2⟩⟩
    show 0 ≤ (if e < gn G.1 G.2.1 then tov (G.2.2 e) else G.2.2 e) ∧ (if e < gn G.1 G.2.1 then tov (G.2.2 e) else G.2.2 e) ≤ 3
    have he : e < gn G.1 G.2.1 := he
    rw [if_pos he]
    have := h.2.2.1.2 e he
    exact tov_rng this.1 this.2
  · intro e he ih m1 hf hr
    have hS := h.1.fr hf (by decide) (by decide) (by decide) (by decide) (by decide) (by decide)
    have h6 := hS.2.2.1
    have hk := h.2.2.1.2 e he
    have hme : m1 162 e = G.2.2 e := by rw [hr e he, if_neg (Nat.lt_irrefl _)]
    have step : ∀ d : Int, d = tov (G.2.2 e) → hd_X9_turnsCrosses_2 E k ((e : Int) + 1) (up m1 162 (up (m1 162) e d)) γ t Q := by
      intro d hd
      refine ih _ (hf.upa 162 (by decide) (by decide)) (fun e' he' => ?_)
      rw [up_self]
      unfold up
      by_cases q : e' = e
      · rw [if_pos q, if_pos (by omega), q, hd]
      · rw [if_neg q, hr e' he']
        by_cases q2 : e' < e
        · rw [if_pos q2, if_pos (by omega)]
        · rw [if_neg q2, if_neg (by omega)]
    refine vc_X9_turnsCrosses_2 (by omega) ⟨fun _ => ⟨by omega, ?_⟩, fun q => absurd (by omega) q⟩
    rw [Int.toNat_natCast, hme]
    refine S_isCross (by omega) (fun c => b1 ⟨by omega, by omega, ?_⟩) (fun c => b0 ⟨by omega, by omega, ?_⟩)
    · rw [hme]
      refine ⟨by omega, step _ ?_⟩
      unfold tov
      split
      · omega
      · rw [if_pos (by omega)]
        omega
    · rw [hme]
      refine step _ ?_
      unfold tov
      rw [if_neg (by omega), if_neg (by omega)]
theorem S_mirrors {Q : MM → GM → am_H → Prop} (h : RG m G) (hQ : ∀ m1, fr [162, 192] [] m m1 → RG m1 (gU (G.1, G.2.1, fun e => G.2.2 (miE G.1 G.2.1 e))) → Q m1 γ t) : TV E (k + 2) 295 [.ref 158] m γ t Q := by
  have hle := h.le
  have hRC : G.1 * G.2.1 ≤ 16 := Nat.mul_le_mul hle.1 hle.2.1
  refine vc_X9_mirrors (S_olds h (fun m2 hf2 ho => ?_))
  have hR2 := h.fr hf2 (by decide) (by decide) (by decide) (by decide) (by decide) (by decide) (by decide)
  refine upN (n := gn G.1 G.2.1) (P := fun e => ∀ m3, fr [162] [] m2 m3 → (∀ e', e' < e → m3 162 e' = G.2.2 (miE G.1 G.2.1 e')) → hd_X9_mirrors_6 E (k + 1) (e : Int) m3 γ t Q) ?_ ?_ 0 (Nat.zero_le _) m2 fr.refl (fun e' h => absurd h (Nat.not_lt_zero _))
  · intro m3 hf3 hr
    have hS3 := hR2.1.fr hf3 (by decide) (by decide) (by decide) (by decide) (by decide) (by decide)
    have h6 := hS3.2.2.1
    have hR3 : RG m3 (G.1, G.2.1, fun e => G.2.2 (miE G.1 G.2.1 e)) := ⟨hS3, hr, ⟨h.2.2.1.1, fun e he => h.2.2.1.2 _ (mi_D _ hle.1 _ hle.2.1 e he).2.2.2⟩, h.2.2.2⟩
    exact vc_X9_mirrors_6 (by omega) ⟨fun q => absurd q (by omega), fun _ => S_turnsCrosses hR3 (fun m4 hf4 hR4 => hQ m4 (((hf2.mono (by decide) (by decide)).trans (hf3.mono (by decide) (by decide))).trans (hf4.mono (by decide) (by decide))) hR4)⟩
  · intro e he ih m3 hf3 hr
    have hS3 := hR2.1.fr hf3 (by decide) (by decide) (by decide) (by decide) (by decide) (by decide)
    obtain ⟨g1, g2, g3, g4⟩ := mi_D _ hle.1 _ hle.2.1 e he
    have h192 : ∀ s, s < 2 * (G.1 * G.2.1) → m3 192 s = olG G.1 G.2.1 G.2.2 s := fun s hs => by
      rw [hf3.1 192 (by decide) (by decide)]
      exact ho s hs
    have step : ∀ d : Int, d = G.2.2 (miE G.1 G.2.1 e) → hd_X9_mirrors_6 E (k + 1) ((e : Int) + 1) (up m3 162 (up (m3 162) e d)) γ t Q := by
      intro d hd
      refine ih _ (hf3.upa 162 (by decide) (by decide)) (fun e' he' => ?_)
      rw [up_self]
      unfold up
      split
      · next q => rw [q, hd]
      · exact hr e' (by omega)
    have hmod := Nat.mod_lt (gcell G.1 G.2.1 e) (show 0 < G.2.1 by omega)
    obtain ⟨q, hq⟩ : ∃ q, q = gcell G.1 G.2.1 e / G.2.1 := ⟨_, rfl⟩
    obtain ⟨r, hr2⟩ : ∃ r, r = gcell G.1 G.2.1 e % G.2.1 := ⟨_, rfl⟩
    have d1 : (gcell G.1 G.2.1 e : Int) / (G.2.1 : Int) = (q : Int) := by rw [hq]; simp
    have d2 : (gcell G.1 G.2.1 e : Int) % (G.2.1 : Int) = (r : Int) := by rw [hr2]; simp
    rw [← hq, ← hr2] at g2 g3
    rw [← hr2] at hmod
    have hqC : (q : Int) * (G.2.1 : Int) = ((q * G.2.1 : Nat) : Int) := by simp
    refine vc_X9_mirrors_6 (by omega) ⟨fun _ => ?_, fun z => absurd (by rw [hS3.2.2.1]; omega) z⟩
    rw [Int.toNat_natCast, (hS3.2.2.2.1 e he).1, (hS3.2.2.2.1 e he).2, hS3.2.1, d1, d2, hqC]
    generalize hw : q * G.2.1 = w at *
    refine ⟨by omega, by omega, by omega, by omega, by omega, by omega, by omega, fun c => ?_, fun c => ?_⟩
    · obtain ⟨l1, l2, l3⟩ := g2 (by omega)
      rw [show ((2 * ((w : Int) + (((G.2.1 : Int) - 1) - (r : Int)))) + 1).toNat = 2 * (w + (G.2.1 - 1 - r)) + 1 by omega, h192 _ l1]
      refine ⟨by omega, by omega, step _ ?_⟩
      unfold olG
      rw [if_neg (by omega), ← l3, Int.toNat_natCast]
    · obtain ⟨l0, l1, l2, l3⟩ := g3 (by omega)
      rw [show (2 * (((w : Int) + (((G.2.1 : Int) - 1) - (r : Int))) - 1)).toNat = 2 * (w + (G.2.1 - 1 - r) - 1) by omega, h192 _ l1]
      refine ⟨by omega, by omega, step _ ?_⟩
      unfold olG
      rw [if_neg (by omega), ← l3, Int.toNat_natCast]
theorem gM_eq (hG : vG G) : nrm (gU (G.1, G.2.1, fun e => G.2.2 (miE G.1 G.2.1 e))) = gM G := by
  unfold gM nrm gU
  simp only
  congr 2
  funext e
  split
  · rfl
  · rfl
theorem gU_nG (h : nG G) : nG (gU G) := by
  intro e he
  have he : gn G.1 G.2.1 ≤ e := he
  show (if e < gn G.1 G.2.1 then tov (G.2.2 e) else G.2.2 e) = 0
  rw [if_neg (by omega)]
  exact h e he
theorem R_under {s : Int} (hR : RI m a) (hs : rJ s) (hQ : ∀ m1, clS m m1 → RI m1 (n_under a s) → Q (v_under a s) m1 γ t) : TI E (k + 5) 292 [.ref 158, .int (iI s)] m γ t Q := by
  unfold v_under n_under at hQ
  refine vc_X9_under hs (S_isLaid hR hs (fun c => b0 ?_) (fun m1 c hf hG hS hP => b1 (S_turnsCrosses hG (fun m2 hf2 hG2 => ?_))))
  · have := hQ m
    rw [ift_f c, ifA_f c] at this
    exact this (fun _ _ => rfl) hR
  · have hle := hG2.le
    have hff : fr SL SF m m2 := hf.trans (hf2.mono (by decide) (by decide))
    refine S_crosses hG2.1.2.2.1 hle.2.2.2.2.1 ?_
    have hce : ∀ d n, n ≤ gn (gU (a.1 s.toNat)).1 (gU (a.1 s.toNat)).2.1 → cnt (m2 162) d n = cnt (gU (a.1 s.toNat)).2.2 d n := by
      intro d n
      induction n with
      | zero => intro _; rfl
      | succ n ih => intro hn; simp only [cnt]; rw [ih (by omega), hG2.2.1 n (by omega)]
    rw [hce 0 _ (Nat.le_refl _), hce 1 _ (Nat.le_refl _)]
    have hx := cnt2_le (gU (a.1 s.toNat)).2.2 (gn (gU (a.1 s.toNat)).1 (gU (a.1 s.toNat)).2.1)
    refine S_putsA (hR.move hff) hG2 ⟨c.1, c.2.1⟩ (by omega) (fun m3 hc3 hR3 => ?_)
    have := hQ m3
    rw [ift_t c, ifA_t c] at this
    rw [nrm_id (gU_nG (hR.2.2.2.2.1 s.toNat (by have := c.1; have := c.2.1; omega)).2)] at hR3
    exact this ((hff.cl (by decide)).trans hc3) hR3
theorem R_quarter {s : Int} (hR : RI m a) (hs : rJ s) (hQ : ∀ m1, clS m m1 → RI m1 (n_quarter a s) → Q (v_quarter a s) m1 γ t) : TI E (k + 5) 296 [.ref 158, .int (iI s)] m γ t Q := by
  unfold v_quarter n_quarter at hQ
  refine vc_X9_quarter hs (S_isLaid hR hs (fun c => b0 ?_) (fun m1 c hf hG hS hP => b1 (S_turns hG (fun m2 hf2 hG2 => ?_))))
  · have := hQ m
    rw [ift_f c, ifA_f c] at this
    exact this (fun _ _ => rfl) hR
  · have hle := hG2.le
    have hff : fr SL SF m m2 := hf.trans (hf2.mono (by decide) (by decide))
    rw [hG2.1.1]
    refine S_putsA (hR.move hff) hG2 ⟨c.1, c.2.1⟩ (by omega) (fun m3 hc3 hR3 => ?_)
    have := hQ m3
    rw [ift_t c, ifA_t c] at this
    exact this ((hff.cl (by decide)).trans hc3) hR3
theorem R_mirror {s : Int} (hR : RI m a) (hs : rJ s) (hQ : ∀ m1, isG a.1 s → clS m m1 → RI m1 (n_mirror a s) → Q (nS (gU ((a.1 s.toNat).1, (a.1 s.toNat).2.1, fun e => (a.1 s.toNat).2.2 (miE (a.1 s.toNat).1 (a.1 s.toNat).2.1 e))) : Int) m1 γ t) (hQ2 : ∀ m1, clS m m1 → RI m1 a → ¬ isG a.1 s → Q (-2) m1 γ t) : TI E (k + 5) 297 [.ref 158, .int (iI s)] m γ t Q := by
  unfold n_mirror at hQ
  refine vc_X9_mirror hs (S_isLaid hR hs (fun c => b0 (hQ2 m (fun _ _ => rfl) hR c)) (fun m1 c hf hG hS hP => b1 (S_mirrors hG (fun m2 hf2 hG2 => S_goes hG2 (fun m3 hf3 hS3 => ?_)))))
  have hff : fr SL SF m m3 := (hf.trans (hf2.mono (by decide) (by decide))).trans (hf3.mono (by decide) (by decide))
  have hG3 := hG2.fr hf3 (by decide) (by decide) (by decide) (by decide) (by decide) (by decide) (by decide)
  have hn := nS_nC (gU ((a.1 s.toNat).1, (a.1 s.toNat).2.1, fun e => (a.1 s.toNat).2.2 (miE (a.1 s.toNat).1 (a.1 s.toNat).2.1 e)))
  have h64 := nC_le64 hG3.2.2.1
  rw [hS3.2.2]
  refine S_putsA (hR.move hff) hG3 ⟨c.1, c.2.1⟩ (by omega) (fun m4 hc4 hR4 => ?_)
  have := hQ m4 c
  rw [ifA_t c] at this
  rw [gM_eq hG.2.2.1] at hR4
  exact this ((hff.cl (by decide)).trans hc4) hR4
end R10
