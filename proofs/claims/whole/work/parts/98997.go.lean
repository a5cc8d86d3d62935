/-! ===== Settings: all ways, go ===== -/
section SG
variable {E : am_E} {t : am_H} {γ : GM}
theorem rq_rg (G : GV) (i s0 : Nat) : 0 ≤ rq G i s0 ∧ rq G i s0 ≤ gn G.1 G.2.1 := by
  have := sumN_rg (f := fun e => if xrk G e < i ∧ ((G.2.2 e = 0 ∧ s0.testBit (xrk G e) = true) ∨ (G.2.2 e = 1 ∧ s0.testBit (xrk G e) = false)) then 1 else 0) (lo := 0) (hi := 1) (fun e => by split <;> omega) (gn G.1 G.2.1)
  unfold rq
  omega
theorem S_settle {G : GV} (hG : vG G) (h12 : 0 ≤ nX G ∧ nX G ≤ 12) : ∀ (d i : Nat), i + d = (nX G).toNat → ∀ (k : Nat) (m : MM) (s0 : Nat) (P : List (Nat × Nat)) (s : JT) (Q : MM → GM → am_H → Prop), s0 < 2 ^ i → LV G i s0 P s → MU (m 33) s → XC m G (gn G.1 G.2.1) → (-1000 ≤ s.2.2 ∧ s.2.2 + 2 * (d : Int) ≤ 1000) → (∀ r, r < 13 → ∀ l, l < 17 → 0 ≤ m (37 + r) l ∧ m (37 + r) l + xte G (nX G).toNat i s0 r l ≤ 100000) → (∀ m1, (∀ b, ¬ (37 ≤ b ∧ b ≤ 49) → m1 b = m b) → (∀ r, r < 13 → ∀ l, l < 17 → m1 (37 + r) l = m (37 + r) l + xte G (nX G).toNat i s0 r l) → Q m1 γ t) → TV E (k + d + 2) 69 [.ref 28, .int (iI (i : Int)), .int (iI (rq G i s0)), .int (iI s.2.2)] m γ t Q
  | 0, i, hid, k, m, s0, P, s, Q, hs0, hL, hM, hX, hc, hb, hQ => by
    have hi : i = (nX G).toNat := by omega
    subst hi
    have hle := hG.1.le
    have hgn := gn_le _ hle.1 _ hle.2
    have hrr := rq_rg G (nX G).toNat s0
    have hcl := hL.leaf hG hs0
    have h16 := lps16 hG s0
    have hrl := rai_rg (G := G) (set := s0)
    have he := xrk_end (G := G)
    refine vc_X5_settle (by omega) (by omega) (by omega) ⟨fun z => absurd z (by rw [hX.1]; omega), fun _ => ?_⟩
    rw [rq_end] at *
    obtain ⟨r0, hr0⟩ : ∃ r0 : Nat, rai G s0 = (r0 : Int) := ⟨(rai G s0).toNat, by omega⟩
    have hxe := fun r l => xte_end G (nX G).toNat s0 r l hs0
    have hb0 := hb r0 (by omega) (lps G s0) (by omega)
    rw [hxe, if_pos ⟨hr0, rfl⟩] at hb0
    refine S_note r0 (lps G s0) hr0 hcl (by omega) h16 (by omega) (hQ _ (fun b hb => up_ne (by omega)) (fun r hr l hl => ?_))
    rw [hxe]
    by_cases c1 : r = r0
    · subst c1
      rw [up_self]
      by_cases c2 : l = lps G s0
      · subst c2
        rw [up_self, if_pos ⟨hr0, rfl⟩]
      · rw [up_ne c2, if_neg (fun z => c2 z.2.symm)]
        omega
    · rw [up_ne (by omega), if_neg (fun z => by omega)]
      omega
  | d + 1, i, hid, k, m, s0, P, s, Q, hs0, hL, hM, hX, hc, hb, hQ => by
    have hle := hG.1.le
    have hgn := gn_le _ hle.1 _ hle.2
    have hrr := rq_rg G i s0
    have hend := xrk_end (G := G)
    have hRC : G.1 * G.2.1 ≤ 4 * 4 := Nat.mul_le_mul hle.1 hle.2
    obtain ⟨e, he, hx, hxi⟩ := xrk_ex (G := G) (i := i) (gn G.1 G.2.1) (by omega)
    obtain ⟨x1, x2, x3, x4, x5⟩ := hX.2 e he hx
    rw [hxi] at x1 x2 x3 x4 x5
    obtain ⟨a1, a2, a3, a4, -⟩ := ed_lt hG.1 he
    have hD : e < gn G.1 G.2.1 ∧ crX G e ∧ i ≤ xrk G e := ⟨he, hx, by omega⟩
    have hp2 : 2 ^ (i + 1) = 2 ^ i * 2 := Nat.pow_succ 2 i
    have t0 := tb_lt hs0
    have t1 := tb_add hs0
    have Lw := hL.step hG hx he hxi hs0 (s1 := s0) (Or.inl rfl)
    have Lg := hL.step hG hx he hxi hs0 (s1 := s0 + 2 ^ i) (Or.inr rfl)
    rw [t0] at Lw
    rw [t1.1] at Lg
    rw [if_neg (show ¬ (false = true) by decide)] at Lw
    rw [if_pos rfl] at Lg
    have rw0 := rq_step (s0 := s0) (s1 := s0) hx he hxi (fun _ _ => rfl)
    have rg0 := rq_step (s0 := s0) (s1 := s0 + 2 ^ i) hx he hxi t1.2
    rw [t0] at rw0
    rw [t1.1] at rg0
    have hh := fun r l => xte_half G (nX G).toNat i s0 r l hs0
    have hpo := fun s1 r l => xte_pos G (nX G).toNat (i + 1) s1 r l
    have pw : prs G.1 G.2.1 e 2 = ((eA G.1 G.2.1 e, eB G.1 G.2.1 e), (eC G.1 G.2.1 e, eD G.1 G.2.1 e)) := by unfold prs; rw [if_pos rfl]
    have pg : prs G.1 G.2.1 e 3 = ((eA G.1 G.2.1 e, eD G.1 G.2.1 e), (eB G.1 G.2.1 e, eC G.1 G.2.1 e)) := by unfold prs; rw [if_neg (by decide), if_pos rfl]
    refine vc_X5_settle (by omega) (by omega) (by omega) ⟨fun _ => ⟨fun _ => ?_, fun z => absurd (by omega) z⟩, fun z => absurd (by rw [hX.1]; omega) z⟩
    refine S_at 48 rfl rfl rfl (by decide) (by omega) (fun _ => ?_)
    refine S_at 48 rfl rfl rfl (by decide) (by omega) (fun _ => ?_)
    refine S_at 48 rfl rfl rfl (by decide) (by omega) (fun _ => ?_)
    refine S_at 48 rfl rfl rfl (by decide) (by omega) (fun _ => ?_)
    rw [show 4 * (i : Int) = ((4 * i : Nat) : Int) by omega, atn_in (by omega), show ((4 * i : Nat) : Int) + 1 = ((4 * i + 1 : Nat) : Int) by omega, atn_in (by omega), show ((4 * i : Nat) : Int) + 2 = ((4 * i + 2 : Nat) : Int) by omega, atn_in (by omega), show ((4 * i : Nat) : Int) + 3 = ((4 * i + 3 : Nat) : Int) by omega, atn_in (by omega), x1, x2, x3, x4, Int.toNat_natCast, x5]
    refine ⟨by omega, ?_⟩
    have iw := S_settle hG h12 d (i + 1) (by omega) k
    refine ⟨fun kk => ?_, fun kk => ?_⟩
    · have hk : G.2.2 e = 0 := by
          rcases hx with c | c
          · exact c
          · rw [if_pos c] at kk; omega
      rw [hk] at rw0 rg0
      have rw1 : rq G (i + 1) s0 = rq G i s0 + 0 := by rw [rw0, if_neg (by simp)]
      have rg1 : rq G (i + 1) (s0 + 2 ^ i) = rq G i s0 + 1 - 0 := by rw [rg0, if_pos (by simp)]; omega
      refine S_two e 2 hG he hD hL.1 hM (by rw [pw]) (by rw [pw]) (by rw [pw]) (by rw [pw]) (fun row1 row2 v1 v2 g1 g2 g3 g4 g5 => ?_)
      rw [show (i : Int) + 1 = ((i + 1 : Nat) : Int) by omega, ← rw1, g4]
      rw [pw] at g2 g3
      refine iw (up m 33 row2) s0 _ _ _ (by omega) Lw (by rw [up_self]; exact g1) (hX.move (up_ne (by decide)) (up_ne (by decide)) (up_ne (by decide))) (by omega) (fun r hr l hl => ?_) (fun m14 f14 r14 => ?_)
      · rw [up_ne (by omega)]
        have := hb r hr l hl
        have := hh r l
        have := hpo (s0 + 2 ^ i) r l
        omega
      refine S_partS (row0 := row1) (eC G.1 G.2.1 e) (eD G.1 G.2.1 e) rfl rfl (by omega) (by omega) (by rw [f14 33 (by decide), up_self]; exact g3) ?_
      refine S_partS (row0 := m 33) (eA G.1 G.2.1 e) (eB G.1 G.2.1 e) rfl rfl (by omega) (by omega) (by rw [up_self]; exact g2) ?_
      rw [up_up]
      refine S_two e 3 hG he hD hL.1 (by rw [up_self]; exact hM) (by rw [pg]) (by rw [pg]) (by rw [pg]) (by rw [pg]) (fun row3 row4 v3 v4 g6 g7 g8 g9 g10 => ?_)
      rw [up_up, ← rg1, g9]
      rw [pg, up_self] at g7
      rw [pg] at g8
      have f16 : ∀ b, ¬ (37 ≤ b ∧ b ≤ 49) → b ≠ 33 → up m14 33 row4 b = m b := fun b hb1 hb2 => by rw [up_ne hb2, f14 b hb1, up_ne hb2]
      have r16 : ∀ r, r < 13 → ∀ l, l < 17 → up m14 33 row4 (37 + r) l = m (37 + r) l + xte G (nX G).toNat (i + 1) s0 r l := fun r hr l hl => by rw [up_ne (by omega), r14 r hr l hl, up_ne (by omega)]
      refine iw (up m14 33 row4) (s0 + 2 ^ i) _ _ _ (by omega) Lg (by rw [up_self]; exact g6) (hX.move (f16 _ (by decide) (by decide)) (f16 _ (by decide) (by decide)) (f16 _ (by decide) (by decide))) (by omega) (fun r hr l hl => ?_) (fun m19 f19 r19 => ?_)
      · rw [r16 r hr l hl]
        have := hb r hr l hl
        have := hh r l
        have := hpo s0 r l
        omega
      refine S_partS (row0 := row3) (eB G.1 G.2.1 e) (eC G.1 G.2.1 e) rfl rfl (by omega) (by omega) (by rw [f19 33 (by decide), up_self]; exact g8) ?_
      refine S_partS (row0 := m 33) (eA G.1 G.2.1 e) (eD G.1 G.2.1 e) rfl rfl (by omega) (by omega) (by rw [up_self]; exact g7) ?_
      rw [up_up]
      refine hQ _ (fun b hb => ?_) (fun r hr l hl => ?_)
      · by_cases c : b = 33
        · rw [c, up_self]
        · rw [up_ne c, f19 b hb]
          exact f16 b hb c
      · rw [up_ne (by omega), r19 r hr l hl, r16 r hr l hl, hh r l]
        omega
    · have hk : G.2.2 e = 1 := by
          rcases hx with c | c
          · exact absurd (if_neg (by omega)) kk
          · exact c
      rw [hk] at rw0 rg0
      have rw1 : rq G (i + 1) s0 = rq G i s0 + 1 := by rw [rw0, if_pos (by simp)]
      have rg1 : rq G (i + 1) (s0 + 2 ^ i) = rq G (i + 1) s0 - 1 := by rw [rg0, if_neg (by simp), rw1]; omega
      refine S_two e 2 hG he hD hL.1 hM (by rw [pw]) (by rw [pw]) (by rw [pw]) (by rw [pw]) (fun row1 row2 v1 v2 g1 g2 g3 g4 g5 => ?_)
      rw [show (i : Int) + 1 = ((i + 1 : Nat) : Int) by omega, ← rw1, g4]
      rw [pw] at g2 g3
      refine iw (up m 33 row2) s0 _ _ _ (by omega) Lw (by rw [up_self]; exact g1) (hX.move (up_ne (by decide)) (up_ne (by decide)) (up_ne (by decide))) (by omega) (fun r hr l hl => ?_) (fun m14 f14 r14 => ?_)
      · rw [up_ne (by omega)]
        have := hb r hr l hl
        have := hh r l
        have := hpo (s0 + 2 ^ i) r l
        omega
      refine S_partS (row0 := row1) (eC G.1 G.2.1 e) (eD G.1 G.2.1 e) rfl rfl (by omega) (by omega) (by rw [f14 33 (by decide), up_self]; exact g3) ?_
      refine S_partS (row0 := m 33) (eA G.1 G.2.1 e) (eB G.1 G.2.1 e) rfl rfl (by omega) (by omega) (by rw [up_self]; exact g2) ?_
      rw [up_up]
      refine S_two e 3 hG he hD hL.1 (by rw [up_self]; exact hM) (by rw [pg]) (by rw [pg]) (by rw [pg]) (by rw [pg]) (fun row3 row4 v3 v4 g6 g7 g8 g9 g10 => ?_)
      rw [up_up, ← rg1, g9]
      rw [pg, up_self] at g7
      rw [pg] at g8
      have f16 : ∀ b, ¬ (37 ≤ b ∧ b ≤ 49) → b ≠ 33 → up m14 33 row4 b = m b := fun b hb1 hb2 => by rw [up_ne hb2, f14 b hb1, up_ne hb2]
      have r16 : ∀ r, r < 13 → ∀ l, l < 17 → up m14 33 row4 (37 + r) l = m (37 + r) l + xte G (nX G).toNat (i + 1) s0 r l := fun r hr l hl => by rw [up_ne (by omega), r14 r hr l hl, up_ne (by omega)]
      refine iw (up m14 33 row4) (s0 + 2 ^ i) _ _ _ (by omega) Lg (by rw [up_self]; exact g6) (hX.move (f16 _ (by decide) (by decide)) (f16 _ (by decide) (by decide)) (f16 _ (by decide) (by decide))) (by omega) (fun r hr l hl => ?_) (fun m19 f19 r19 => ?_)
      · rw [r16 r hr l hl]
        have := hb r hr l hl
        have := hh r l
        have := hpo s0 r l
        omega
      refine S_partS (row0 := row3) (eB G.1 G.2.1 e) (eC G.1 G.2.1 e) rfl rfl (by omega) (by omega) (by rw [f19 33 (by decide), up_self]; exact g8) ?_
      refine S_partS (row0 := m 33) (eA G.1 G.2.1 e) (eD G.1 G.2.1 e) rfl rfl (by omega) (by omega) (by rw [up_self]; exact g7) ?_
      rw [up_up]
      refine hQ _ (fun b hb => ?_) (fun r hr l hl => ?_)
      · by_cases c : b = 33
        · rw [c, up_self]
        · rw [up_ne c, f19 b hb]
          exact f16 b hb c
      · rw [up_ne (by omega), r19 r hr l hl, r16 r hr l hl, hh r l]
        omega
theorem S_go {E : am_E} {k : Nat} {m : MM} {γ : GM} {t : am_H} {g : Nat} {G : GV} {Q : MM → GM → am_H → Prop} (hg : isg g) (hne : g ≠ 29) (hγ : γ g = G) (hG : vG G) (hn : nG G) (h0 : 0 < G.1) (h12 : nX G ≤ 12) (hS : SE m γ) (q1 : γ 29 = G → Q m γ t) (q0 : ∀ m1, (∀ b, ¬ (28 ≤ b ∧ b ≤ 50) → m1 b = m b) → SE m1 (up γ 29 G) → Q m1 (up γ 29 G) t) : TV E (k + 16) 59 [.ref 28, .ref g] m γ t Q := by
  have hle := hG.1.le
  have hgn := gn_le _ hle.1 _ hle.2
  have hX0 : 0 ≤ nX G := by
    have a1 := cnt_rng G.2.2 0 (gn G.1 G.2.1)
    have a2 := cnt_rng G.2.2 1 (gn G.1 G.2.1)
    unfold nX
    omega
  have hend := xrk_end (G := G)
  have hN : 2 * nC G ≤ 128 := by
    have : G.1 * G.2.1 ≤ 4 * 4 := Nat.mul_le_mul hle.1 hle.2
    unfold nC
    omega
  refine vc_X5_go hg (S_isLike (gi rfl) hg hS.1 (by rw [hγ]; exact hn) (fun c => b1 (q1 (c.trans hγ))) (fun c => b0 ?_))
  refine S_copy (gi rfl) hg (Ne.symm hne) ?_
  rw [hγ]
  refine S_clear5 (fun m1 c1 c2 c3 c4 c5 => ?_)
  refine S_joinRim hG up_self c2 (fun row P s r1 r2 r3 => ?_)
  have hcl : ∀ (op : Nat → Prop) (P : List (Nat × Nat)) (s : JT), JS (nC G) op P s → -64 ≤ s.2.2 ∧ s.2.2 ≤ 128 := by
    intro op P s h
    have a1 := h.2.1
    have a2 := h.2.2.1
    have a3 : 0 ≤ rpN s.2.1 (nC G) ∧ rpN s.2.1 (nC G) ≤ nC G := by
      have := sumN_rg (f := fun c => if s.2.1 c = c then 1 else 0) (lo := 0) (hi := 1) (fun e => by split <;> omega) (nC G)
      unfold rpN
      omega
    have a4 : 0 ≤ opN (nC G) op := by
      have := (sumN_rg (f := fun x => ift (op x) 1 0) (lo := 0) (hi := 1) (fun e => by unfold ift; split <;> omega) (2 * nC G)).1
      unfold opN
      omega
    omega
  refine upN (n := gn G.1 G.2.1) (P := fun e => ∀ m2 P s, JS (nC G) (opD G.1 G.2.1 (fun i => i < gn G.1 G.2.1 ∧ (e ≤ i ∨ crX G i))) P s → (∀ set, ∀ p ∈ P, p.1 < 2 * nC G ∧ p.2 = gl (smo G set) p.1) → MU (m2 33) s → XC m2 G e → (∀ b, b ≠ 28 → b ≠ 33 → b ≠ 34 → b ≠ 35 → m2 b = m1 b) → hd_X5_go_31 E (k + 15) g s.2.2 (e : Int) m2 (up γ 29 G) t Q) ?_ (fun e he ih => ?_) 0 (Nat.zero_le _) (up m1 33 row) P s (r2.congr (fun x => ⟨fun w => ?_, fun w => ?_⟩)) r3 (by rw [up_self]; exact r1) ⟨by rw [up_ne (by decide), c1]; rfl, fun i hi => absurd hi (Nat.not_lt_zero i)⟩ (fun b _ hb _ _ => up_ne hb)
  · intro m2 P s d1 d2 d3 d4 d5
    have hc := hcl _ P s d1
    refine vc_X5_go_31 hg (by omega) (by omega) (S_edges (gi rfl) (fun _ => ?_))
    rw [up_self]
    refine ⟨fun z => absurd z (by omega), fun _ => ?_⟩
    have d6 : ∀ r, r < 13 → ∀ l, l < 17 → m2 (37 + r) l = 0 := fun r hr l hl => by rw [d5 _ (by omega) (by omega) (by omega) (by omega)]; exact c3 r hr l hl
    have LV0 : LV G 0 0 P s := by
      refine ⟨d1.congr (fun x => ⟨fun w => ?_, fun w => ?_⟩), fun set _ => d2 set⟩
      · obtain ⟨w1, i, w2, w3, w4, w5⟩ := w
        exact ⟨w1, i, w2, w3, Or.inr w4⟩
      · obtain ⟨w1, i, w2, w3, w4⟩ := w
        refine ⟨w1, i, w2, w3, ?_, Nat.zero_le _⟩
        rcases w4 with c | c
        · omega
        · exact c
    have key := S_settle (E := E) (t := t) (γ := up γ 29 G) hG ⟨hX0, h12⟩ (nX G).toNat 0 (by omega) (k + 13 - (nX G).toNat) m2 0 P s (fun m3 γ3 t3 => TV E (k + 15) 71 [.ref 28] m3 γ3 t3 (fun m4 γ4 t4 => Q m4 γ4 t4)) (by decide) LV0 d3 d4 (by omega) (fun r hr l hl => ?_) (fun m3 f3 t3 => ?_)
    · rw [rq_0, show k + 13 - (nX G).toNat + (nX G).toNat + 2 = k + 15 by omega] at key
      exact key
    · rw [d6 r hr l hl, xte_0]
      have := tal_rg h12 r l
      omega
    · refine S_addTerms (G := G) ⟨hX0, h12⟩ (by rw [f3 28 (by decide), d4.1]; exact hend) (fun r hr l hl => by rw [t3 r hr l hl, d6 r hr l hl, xte_0]; omega) (fun j hj => by rw [f3 50 (by decide), d5 50 (by decide) (by decide) (by decide) (by decide)]; exact c4 j hj) (fun m4 f4 t4 => ?_)
      refine q0 m4 (fun b hb => ?_) ⟨by rw [up_self]; exact hn, fun _ => ?_⟩
      · rw [f4 b (by omega), f3 b (by omega), d5 b (by omega) (by omega) (by omega) (by omega)]
        exact c5 b hb
      · rw [up_self]
        refine ⟨fun r hr l hl => ?_, t4⟩
        rw [f4 _ (by omega), t3 r hr l hl, d6 r hr l hl, xte_0]
        omega
  · intro m2 P s d1 d2 d3 d4 d5
    have hc := hcl _ P s d1
    refine vc_X5_go_31 hg (by omega) (by omega) (S_edges (gi rfl) (fun _ => ?_))
    rw [up_self]
    refine ⟨fun _ => ?_, fun z => absurd (by omega) z⟩
    refine S_joinOrKeep e hG up_self h12 he d1 d2 d3 d4 (fun m3 P3 s3 f1 f2 f3 f4 f5 f6 => ?_)
    rw [show s.2.2 + (s3.2.2 - s.2.2) = s3.2.2 by omega]
    exact ih m3 P3 s3 f1 f2 f3 f4 (fun b b1 b2 b3 b4 => (f5 b b1 b2 b3 b4).trans (d5 b b1 b2 b3 b4))
  · obtain ⟨w1, i, w2, w3, w4⟩ := w
    exact ⟨w1, i, w2, w3⟩
  · obtain ⟨w1, i, w2, w3⟩ := w
    exact ⟨w1, i, w2, w3, Or.inl (Nat.zero_le _)⟩
theorem GO_ok (E : am_E) (k : Nat) : GO E (k + 16) := by
  intro m γ t a s Q hC hs h12 hQ
  obtain ⟨i1, i2, i3, i4, i5, -⟩ := hs.i hC
  refine S_go i1 (by omega) i2 i3 i4 (by omega) h12 hC.2.2.1 (fun c => hQ m γ hC c (fun _ _ => rfl)) (fun m1 f hS => ?_)
  refine hQ m1 _ (hC.move ⟨fun b hb => f b (by omega), fun g hg => up_ne (by omega)⟩ ?_ hS) up_self (fun b hb => f b (by omega))
  rw [up_ne (show 11 ≠ 29 by decide)]
  refine ⟨hC.2.1.1, ?_⟩
  have := hC.2.1.2
  unfold TrOK at *
  rw [f 10 (by decide), f 15 (by decide), f 16 (by decide), f 17 (by decide), f 18 (by decide), f 19 (by decide), f 20 (by decide), f 21 (by decide), f 22 (by decide), f 23 (by decide), f 24 (by decide), f 25 (by decide), f 26 (by decide)]
  exact this
end SG
