theorem up_up {α : Type} {f : Nat → α} {a : Nat} {x y : α} : up (up f a x) a y = up f a y := by
  funext b
  by_cases h : b = a
  · subst h
    rw [up_self, up_self]
  · rw [up_ne h, up_ne h, up_ne h]
section BSC
variable {E : am_E} {k : Nat} {m : MM} {γ : GM} {t : am_H} {Q : Int → MM → GM → am_H → Prop} {a : AST}
theorem C_beside {s o w d : Int} (hC : CI m γ a) (hs : rJ s) (ho : rJ o) (hw : rJ w) (hd : rJ d) (hQ : ∀ m1 γ1, CI m1 γ1 (n_beside a s o w d) → rsame m m1 → Q (v_beside a s o w d) m1 γ1 t) : TI E (k + 6) 168 [.ref 0, .int (iI s), .int (iI o), .int (iI w), .int (iI d)] m γ t Q := by
  unfold v_beside n_beside at hQ
  have h0 : ¬ okB a s o w d → Q (-2) m γ t := fun h => by
    have := hQ m γ
    rw [ift_f h, ifA_f (fun q => h q.1)] at this
    exact this hC (fun _ _ => rfl)
  refine vc_X8_beside hs ho hw hd (S_gridIn hC hs (fun c1 => oN (S_gridIn hC ho (fun c2 => oN (h0 (fun h => c1 h.1))) (fun c2 => oSm ⟨(c2.i hC).1, h0 (fun h => c1 h.1)⟩))) (fun c1 => oSm ⟨(c1.i hC).1, S_gridIn hC ho (fun c2 => oN (h0 (fun h => c2 h.2.1))) (fun c2 => oSm ⟨(c2.i hC).1, ?_⟩)⟩))
  refine S_isKind hw (fun c3 => b1 (S_CisSlot hd (fun c4 => b1 ?_) (fun c4 => b0 (h0 (fun h => c4 h.2.2.2))))) (fun c3 => b0 (h0 (fun h => c3 h.2.2.1)))
  have hok : okB a s o w d := ⟨c1, c2, c3, c4⟩
  obtain ⟨i1, i2, i3, i4, i5, i6, i7, i8⟩ := c1.i hC
  obtain ⟨j1, j2, j3, j4, j5, j6, j7, j8⟩ := c2.i hC
  have s0 := c1.1
  have s3 := c1.2.1
  have o0 := c2.1
  have o3 := c2.2.1
  refine S_columns i1 (fun _ => S_columns j1 (fun _ => ?_))
  rw [i2, j2]
  refine ⟨by omega, fun c5 => S_rows i1 (fun _ => S_rows j1 (fun _ => ?_)), fun c5 => ?_⟩
  · rw [i2, j2]
    refine ⟨fun c6 => S_rows i1 (fun _ => ?_), fun c6 => ?_⟩
    · rw [i2]
      refine S_layG (gi rfl) (by omega) (by omega) ?_
      have hRe : (a.1 o.toNat).1 = (a.1 s.toNat).1 := by omega
      have l1 : layR ((a.1 s.toNat).1 : Int) (((a.1 s.toNat).2.1 : Int) + ((a.1 o.toNat).2.1 : Int)) = (a.1 s.toNat).1 := by unfold layR; rw [if_pos (by omega)]; omega
      have l2 : layC ((a.1 s.toNat).1 : Int) (((a.1 s.toNat).2.1 : Int) + ((a.1 o.toNat).2.1 : Int)) = (a.1 s.toNat).2.1 + (a.1 o.toNat).2.1 := by unfold layC; rw [if_pos (by omega)]; omega
      rw [l1, l2]
      have g1 : ∀ G, up γ 2 G (146 + 4 * s.toNat) = a.1 s.toNat := fun G => by rw [up_ne (by omega)]; exact i2
      have g2 : ∀ G, up γ 2 G (146 + 4 * o.toNat) = a.1 o.toNat := fun G => by rw [up_ne (by omega)]; exact j2
      refine S_paste 0 (gi rfl) i1 (by omega) rfl (by rw [up_self, g1]; exact Nat.le_refl _) (by rw [up_self, g1]; show _ ≤ (a.1 s.toNat).2.1 + (a.1 o.toNat).2.1; omega) ?_
      rw [up_self, g1, up_up]
      refine S_columns i1 (fun _ => ?_)
      rw [g1]
      refine S_paste (a.1 s.toNat).2.1 (gi rfl) j1 (by omega) rfl (by rw [up_self, g2]; show (a.1 o.toNat).1 ≤ (a.1 s.toNat).1; omega) (by rw [up_self, g2]; show (a.1 o.toNat).2.1 + (a.1 s.toNat).2.1 ≤ (a.1 s.toNat).2.1 + (a.1 o.toNat).2.1; omega) ?_
      rw [up_self, g2, up_up, hRe]
      suffices hh : ∀ y : Nat, y ≤ (a.1 s.toNat).1 → hd_X8_beside_121 E (k + 5) s o w d w d (146 + 4 * s.toNat) (((a.1 s.toNat).2.1 : Int) + ((a.1 o.toNat).2.1 : Int)) (y : Int) m (up γ 2 ((a.1 s.toNat).1, (a.1 s.toNat).2.1 + (a.1 o.toNat).2.1, bY (a.1 s.toNat).1 (a.1 s.toNat).2.1 (a.1 o.toNat).2.1 (a.1 s.toNat).2.2 (a.1 o.toNat).2.2 w y)) t Q by
        have h := hh 0 (Nat.zero_le _)
        rw [bY_0] at h
        exact h
      refine upN (n := (a.1 s.toNat).1) (P := fun y => hd_X8_beside_121 E (k + 5) s o w d w d (146 + 4 * s.toNat) (((a.1 s.toNat).2.1 : Int) + ((a.1 o.toNat).2.1 : Int)) (y : Int) m (up γ 2 ((a.1 s.toNat).1, (a.1 s.toNat).2.1 + (a.1 o.toNat).2.1, bY (a.1 s.toNat).1 (a.1 s.toNat).2.1 (a.1 o.toNat).2.1 (a.1 s.toNat).2.2 (a.1 o.toNat).2.2 w y)) t Q) ?_ (fun y hy ih => ?_)
      · refine vc_X8_beside_121 hs ho hw hd hw hd i1 (by omega) (by omega) (S_rows (gi rfl) (fun _ => ?_))
        rw [up_self]
        refine ⟨fun q => absurd q (by show ¬ _ < (((a.1 s.toNat).1 : Nat) : Int); omega), fun _ => ?_⟩
        rw [bY_end ⟨i5, i6⟩ (by omega) i7 j7]
        refine S_become (hC.nx (Or.inl rfl)) c4 ?_ (fun m1 γ1 hC1 hr _ => ?_)
        · rw [up_self]
          exact nrm_nG _
        · have := hQ m1 γ1
          rw [ift_t hok, ift_t (show (a.1 s.toNat).2.1 + (a.1 o.toNat).2.1 ≤ 4 by omega), ift_t hRe.symm, ifA_t ⟨hok, by omega, hRe.symm⟩] at this
          rw [up_self] at hC1
          exact this hC1 hr
      · obtain ⟨d1, d2, d3, d4, d5⟩ := be_D (R := (a.1 s.toNat).1) (C := (a.1 s.toNat).2.1 + (a.1 o.toNat).2.1) (C1 := (a.1 s.toNat).2.1) i6 (by omega) (by omega) i7 hy
        have st := bY_step (R := (a.1 s.toNat).1) (C1 := (a.1 s.toNat).2.1) (C2 := (a.1 o.toNat).2.1) (k1 := (a.1 s.toNat).2.2) (k2 := (a.1 o.toNat).2.2) (h := w) i6 (by omega) i7 j7 hy
        refine vc_X8_beside_121 hs ho hw hd hw hd i1 (by omega) (by omega) (S_rows (gi rfl) (fun _ => ?_))
        rw [up_self]
        refine ⟨fun _ => S_columns i1 (fun _ => ?_), fun q => absurd (show (y : Int) < (((a.1 s.toNat).1 : Nat) : Int) by omega) q⟩
        rw [g1]
        have e1 : ((y : Int) * (((a.1 s.toNat).2.1 : Int) + ((a.1 o.toNat).2.1 : Int)) + ((a.1 s.toNat).2.1 : Int)) - 1 = ((y * ((a.1 s.toNat).2.1 + (a.1 o.toNat).2.1) + (a.1 s.toNat).2.1 - 1 : Nat) : Int) := by
          have : ((y * ((a.1 s.toNat).2.1 + (a.1 o.toNat).2.1) : Nat) : Int) = (y : Int) * (((a.1 s.toNat).2.1 : Int) + ((a.1 o.toNat).2.1 : Int)) := by push_cast; rfl
          omega
        refine S_edgeAt (y * ((a.1 s.toNat).2.1 + (a.1 o.toNat).2.1) + (a.1 s.toNat).2.1 - 1) 0 (gi rfl) e1 rfl (by rw [up_self]; exact d3) (by decide) (fun _ => ?_)
        rw [up_self]
        refine S_change (geb (a.1 s.toNat).1 ((a.1 s.toNat).2.1 + (a.1 o.toNat).2.1) (2 * (y * ((a.1 s.toNat).2.1 + (a.1 o.toNat).2.1) + (a.1 s.toNat).2.1 - 1))).toNat (gi rfl) ?_ ?_ c3 ?_
        · show geb (a.1 s.toNat).1 ((a.1 s.toNat).2.1 + (a.1 o.toNat).2.1) (2 * (y * ((a.1 s.toNat).2.1 + (a.1 o.toNat).2.1) + (a.1 s.toNat).2.1 - 1) + 0) = _
          rw [Nat.add_zero]
          omega
        · rw [up_self]
          exact d2
        · rw [up_self, up_up]
          dsimp only
          rw [st]
          exact ih
    · have := hQ m γ
      rw [ift_t hok, ift_t (show (a.1 s.toNat).2.1 + (a.1 o.toNat).2.1 ≤ 4 by omega), ift_f (fun q => c6 (by omega)), ifA_f (fun q => c6 (by omega))] at this
      exact this hC (fun _ _ => rfl)
  · have := hQ m γ
    rw [ift_t hok, ift_f (show ¬ (a.1 s.toNat).2.1 + (a.1 o.toNat).2.1 ≤ 4 by omega), ifA_f (fun q => c5 (by omega))] at this
    exact this hC (fun _ _ => rfl)
theorem R_beside {s o w d : Int} (hR : RI m a) (hs : rJ s) (ho : rJ o) (hw : rJ w) (hd : rJ d) (hQ : ∀ m1, clS m m1 → RI m1 (n_beside a s o w d) → Q (v_beside a s o w d) m1 γ t) : TI E (k + 6) 298 [.ref 158, .int (iI s), .int (iI o), .int (iI w), .int (iI d)] m γ t Q := by
  unfold v_beside n_beside at hQ
  have h0 : ¬ okB a s o w d → Q (-2) m γ t := fun h => by
    have := hQ m
    rw [ift_f h, ifA_f (fun q => h q.1)] at this
    exact this (fun _ _ => rfl) hR
  refine vc_X9_beside hs ho hw hd (S_isGrid hR.1 hs (fun c1 => b1 (S_isGrid hR.1 ho (fun c2 => b1 (S_in (by omega) (by omega) (by omega) (fun c3 => b1 (S_isSlot hd (fun c4 => b1 ?_) (fun c4 => b0 (h0 (fun h => c4 h.2.2.2))))) (fun c3 => b0 (h0 (fun h => c3 h.2.2.1))))) (fun c2 => b0 (h0 (fun h => c2 h.2.1))))) (fun c1 => b0 (h0 (fun h => c1 h.1))))
  have hok : okB a s o w d := ⟨c1, c2, c3, c4⟩
  have s0 := c1.1
  have s3 := c1.2.1
  have o0 := c2.1
  have o3 := c2.2.1
  obtain ⟨v1, n1⟩ := hR.2.2.2.2.1 s.toNat (by omega)
  obtain ⟨v2, n2⟩ := hR.2.2.2.2.1 o.toNat (by omega)
  have k1 := c1.sh v1
  have k2 := c2.sh v2
  obtain ⟨e1, e2, -⟩ := hR.1 s.toNat (by omega)
  obtain ⟨f1, f2, -⟩ := hR.1 o.toNat (by omega)
  rw [show (26 * s + 1).toNat = 26 * s.toNat + 1 by omega, show (26 * o + 1).toNat = 26 * o.toNat + 1 by omega, show (26 * s).toNat = 26 * s.toNat by omega, show (26 * o).toNat = 26 * o.toNat by omega, e1, e2, f1, f2]
  refine ⟨by omega, by omega, by omega, fun c5 => ⟨by omega, by omega, fun c6 => ?_, fun c6 => ?_⟩, fun c5 => ?_⟩
  · have hRe : (a.1 o.toNat).1 = (a.1 s.toNat).1 := by omega
    have hRC2 : (a.1 o.toNat).1 * (a.1 o.toNat).2.1 ≤ 16 := Nat.mul_le_mul k2.2.1 k2.2.2.2
    have hRC1 : (a.1 s.toNat).1 * (a.1 s.toNat).2.1 ≤ 16 := Nat.mul_le_mul k1.2.1 k1.2.2.2
    refine S_lays hR.1 c2 v2 (fun m2 hf2 hG2 => S_olds hG2 (fun m3 hf3 ho3 => ?_))
    have hG3 := hG2.fr hf3 (by decide) (by decide) (by decide) (by decide) (by decide) (by decide) (by decide)
    refine upN (n := 2 * ((a.1 o.toNat).1 * (a.1 o.toNat).2.1)) (P := fun i => ∀ m4, fr [193] [] m3 m4 → (∀ j, j < i → m4 193 j = m3 192 j) → hd_X9_beside_113 E (k + 5) s o w d s w d ((a.1 s.toNat).2.1 : Int) (((a.1 s.toNat).2.1 : Int) + ((a.1 o.toNat).2.1 : Int)) (i : Int) m4 γ t Q) ?_ ?_ 0 (Nat.zero_le _) m3 fr.refl (fun j h => absurd h (Nat.not_lt_zero _))
    · intro m4 hf4 hr4
      have hG4 := hG3.fr hf4 (by decide) (by decide) (by decide) (by decide) (by decide) (by decide) (by decide)
      refine vc_X9_beside_113 hs ho hw hd hs hw hd (by omega) (by omega) (by omega) (S_cells hG4.1 k2.2.1 k2.2.2.2 ⟨by omega, fun q => absurd q (by omega), fun _ => ?_⟩)
      have hff : fr SL SF m m4 := ((hf2.mono (by decide) (by decide)).trans (hf3.mono (by decide) (by decide))).trans (hf4.mono (by decide) (by decide))
      have hR4 := hR.move hff
      refine S_lays hR4.1 c1 v1 (fun m5 hf5 hG5 => S_olds hG5 (fun m6 hf6 ho6 => ?_))
      have hff6 : fr SL SF m m6 := (hff.trans (hf5.mono (by decide) (by decide))).trans (hf6.mono (by decide) (by decide))
      have q1 := ((hR.move hff6).1 s.toNat (by omega)).1
      rw [show (26 * s).toNat = 26 * s.toNat by omega, q1]
      refine ⟨by omega, ?_⟩
      have e0 : ((a.1 s.toNat).2.1 : Int) + ((a.1 o.toNat).2.1 : Int) = (((a.1 s.toNat).2.1 + (a.1 o.toNat).2.1 : Nat) : Int) := by omega
      rw [e0]
      refine S_shapes ⟨k1.1, k1.2.1⟩ ⟨by omega, by omega⟩ (fun m7 hf7 hS7 => ?_)
      have h193 : ∀ j, j < 2 * ((a.1 o.toNat).1 * (a.1 o.toNat).2.1) → m7 193 j = olG (a.1 o.toNat).1 (a.1 o.toNat).2.1 (a.1 o.toNat).2.2 j := fun j hj => by
        rw [hf7.1 193 (by decide) (by decide), hf6.1 193 (by decide) (by decide), hf5.1 193 (by decide) (by decide), hr4 j hj]
        exact ho3 j hj
      have h192 : ∀ j, j < 2 * ((a.1 s.toNat).1 * (a.1 s.toNat).2.1) → m7 192 j = olG (a.1 s.toNat).1 (a.1 s.toNat).2.1 (a.1 s.toNat).2.2 j := fun j hj => by
        rw [hf7.1 192 (by decide) (by decide)]
        exact ho6 j hj
      have hff7 : fr SL SF m m7 := hff6.trans (hf7.mono (by decide) (by decide))
      rw [hRe] at h193
      clear hf2 hG2 hf3 ho3 hG3 hf4 hr4 hG4 hff hR4 hf5 hG5 hf6 ho6 hff6 q1 hf7
      generalize hA : a.1 s.toNat = G1 at *
      generalize hB : a.1 o.toNat = G2 at *
      have h24 := gn_le G1.1 k1.2.1 (G1.2.1 + G2.2.1) (by omega)
      have bv : ∀ e, e < gn G1.1 (G1.2.1 + G2.2.1) → 0 ≤ bsE G1.1 G1.2.1 G2.2.1 G1.2.2 G2.2.2 w e ∧ bsE G1.1 G1.2.1 G2.2.1 G1.2.2 G2.2.2 w e ≤ 3 := by
        intro e he
        obtain ⟨d1, d2, d3⟩ := bs_D k1.2.1 (by omega) k1.2.2.1 k2.2.2.1 he
        unfold bsE
        split
        · exact c3
        · next z =>
          split
          · next z2 => exact v1.2 _ ((d3 z).1 z2).2.2.1
          · next z2 => exact v2.2 _ (by rw [hRe]; exact ((d3 z).2 z2).2.2.1)
      refine upN (n := gn G1.1 (G1.2.1 + G2.2.1)) (P := fun e => ∀ m8, fr [162] [] m7 m8 → (∀ e', e' < e → m8 162 e' = bsE G1.1 G1.2.1 G2.2.1 G1.2.2 G2.2.2 w e') → hd_X9_beside_171 E (k + 5) s o w d w d (G1.2.1 : Int) ((G1.2.1 + G2.2.1 : Nat) : Int) (e : Int) m8 γ t Q) ?_ ?_ 0 (Nat.zero_le _) m7 fr.refl (fun e' h => absurd h (Nat.not_lt_zero _))
      · intro m8 hf8 hr8
        have hS8 := hS7.fr hf8 (by decide) (by decide) (by decide) (by decide) (by decide) (by decide)
        have hff8 : fr SL SF m m8 := hff7.trans (hf8.mono (by decide) (by decide))
        have h6 := hS8.2.2.1
        have hG8 : RG m8 (G1.1, G1.2.1 + G2.2.1, bsE G1.1 G1.2.1 G2.2.1 G1.2.2 G2.2.2 w) := ⟨hS8, hr8, ⟨Or.inr (by show 1 ≤ G1.1 ∧ G1.1 ≤ 4 ∧ 1 ≤ G1.2.1 + G2.2.1 ∧ G1.2.1 + G2.2.1 ≤ 4; omega), bv⟩, by show 0 < G1.1; omega⟩
        refine vc_X9_beside_171 hs ho hw hd hw hd (by omega) (by omega) (by omega) ⟨fun q => absurd q (by omega), fun _ => S_putsA (hR.move hff8) hG8 c4 (by omega) (fun m9 hc9 hR9 => ?_)⟩
        have := hQ m9
        rw [ift_t hok, ift_t (show G1.2.1 + G2.2.1 ≤ 4 by omega), ift_t hRe.symm, ifA_t ⟨hok, by omega, hRe.symm⟩] at this
        exact this ((hff8.cl (by decide)).trans hc9) hR9
      · intro e he ih m8 hf8 hr8
        have hS8 := hS7.fr hf8 (by decide) (by decide) (by decide) (by decide) (by decide) (by decide)
        obtain ⟨d1, d2, d3⟩ := bs_D k1.2.1 (show G1.2.1 + G2.2.1 ≤ 4 by omega) k1.2.2.1 k2.2.2.1 he
        have step : ∀ v : Int, v = bsE G1.1 G1.2.1 G2.2.1 G1.2.2 G2.2.2 w e → hd_X9_beside_171 E (k + 5) s o w d w d (G1.2.1 : Int) ((G1.2.1 + G2.2.1 : Nat) : Int) ((e : Int) + 1) (up m8 162 (up (m8 162) e v)) γ t Q := by
          intro v hv
          refine ih _ (hf8.upa 162 (by decide) (by decide)) (fun e' he' => ?_)
          rw [up_self]
          unfold up
          split
          · next q => rw [q, hv]
          · exact hr8 e' (by omega)
        have g192 := fun j hj => (hf8.1 192 (by decide) (by decide) ▸ h192 j hj : m8 192 j = _)
        have g193 := fun j hj => (hf8.1 193 (by decide) (by decide) ▸ h193 j hj : m8 193 j = _)
        refine vc_X9_beside_171 hs ho hw hd hw hd (by omega) (by omega) (by omega) ⟨fun _ => ?_, fun z => absurd (by rw [hS8.2.2.1]; omega) z⟩
        rw [Int.toNat_natCast, (hS8.2.2.2.1 e he).1, (hS8.2.2.2.1 e he).2, hS8.2.1]
        have u1 : (gcell G1.1 (G1.2.1 + G2.2.1) e : Int) / ((G1.2.1 + G2.2.1 : Nat) : Int) = ((gcell G1.1 (G1.2.1 + G2.2.1) e / (G1.2.1 + G2.2.1) : Nat) : Int) := by simp
        have u2 : (gcell G1.1 (G1.2.1 + G2.2.1) e : Int) % ((G1.2.1 + G2.2.1 : Nat) : Int) = ((gcell G1.1 (G1.2.1 + G2.2.1) e % (G1.2.1 + G2.2.1) : Nat) : Int) := by simp
        rw [u1, u2]
        unfold bsE at step
        have b1e : bs1 G1.1 G1.2.1 G2.2.1 e = 2 * (gcell G1.1 (G1.2.1 + G2.2.1) e / (G1.2.1 + G2.2.1) * G1.2.1 + gcell G1.1 (G1.2.1 + G2.2.1) e % (G1.2.1 + G2.2.1)) + gbel G1.1 (G1.2.1 + G2.2.1) e := rfl
        have b2e : bs2 G1.1 G1.2.1 G2.2.1 e = 2 * (gcell G1.1 (G1.2.1 + G2.2.1) e / (G1.2.1 + G2.2.1) * G2.2.1 + (gcell G1.1 (G1.2.1 + G2.2.1) e % (G1.2.1 + G2.2.1) - G1.2.1)) + gbel G1.1 (G1.2.1 + G2.2.1) e := rfl
        have hmod := Nat.mod_lt (gcell G1.1 (G1.2.1 + G2.2.1) e) (show 0 < G1.2.1 + G2.2.1 by omega)
        have dle := (be_D (y := 0) k1.2.1 (show G1.2.1 + G2.2.1 ≤ 4 by omega) (show G1.2.1 < G1.2.1 + G2.2.1 by omega) k1.2.2.1 (by omega)).2.2.2.2 e he
        generalize gcell G1.1 (G1.2.1 + G2.2.1) e % (G1.2.1 + G2.2.1) = col at *
        generalize gcell G1.1 (G1.2.1 + G2.2.1) e / (G1.2.1 + G2.2.1) = row at *
        generalize gbel G1.1 (G1.2.1 + G2.2.1) e = bl at *
        have w1 : 2 * ((row : Int) * (G1.2.1 : Int) + (col : Int)) + (bl : Int) = ((bs1 G1.1 G1.2.1 G2.2.1 e : Nat) : Int) := by rw [b1e]; push_cast; rfl
        have w2 : ¬ col < G1.2.1 → 2 * ((row : Int) * (((G1.2.1 + G2.2.1 : Nat) : Int) - (G1.2.1 : Int)) + (col : Int) - (G1.2.1 : Int)) + (bl : Int) = ((bs2 G1.1 G1.2.1 G2.2.1 e : Nat) : Int) := by
          intro z
          rw [b2e, show ((G1.2.1 + G2.2.1 : Nat) : Int) - (G1.2.1 : Int) = (G2.2.1 : Int) by omega]
          have : ((row * G2.2.1 : Nat) : Int) = (row : Int) * (G2.2.1 : Int) := by push_cast; rfl
          omega
        have r1 : row * G1.2.1 ≤ 3 * 3 := Nat.mul_le_mul (by omega) (by omega)
        have r2 : row * G2.2.1 ≤ 3 * 3 := Nat.mul_le_mul (by omega) (by omega)
        have x1 : col < G1.2.1 → bs1 G1.1 G1.2.1 G2.2.1 e < 32 := fun _ => by omega
        have x2 : ¬ col < G1.2.1 → bs2 G1.1 G1.2.1 G2.2.1 e < 32 := fun _ => by omega
        have st1 : col < G1.2.1 → ¬ (bl = 0 ∧ col + 1 = G1.2.1) → hd_X9_beside_171 E (k + 5) s o w d w d (G1.2.1 : Int) ((G1.2.1 + G2.2.1 : Nat) : Int) ((e : Int) + 1) (up m8 162 (up (m8 162) e (m8 192 (bs1 G1.1 G1.2.1 G2.2.1 e)))) γ t Q := by
          intro z1 z2
          obtain ⟨p1, p2, p3, -⟩ := (d3 z2).1 z1
          refine step _ ?_
          rw [if_neg z2, if_pos z1, g192 _ p1]
          unfold olG
          rw [if_neg (by omega)]
        have st2 : ¬ col < G1.2.1 → ¬ (bl = 0 ∧ col + 1 = G1.2.1) → hd_X9_beside_171 E (k + 5) s o w d w d (G1.2.1 : Int) ((G1.2.1 + G2.2.1 : Nat) : Int) ((e : Int) + 1) (up m8 162 (up (m8 162) e (m8 193 (bs2 G1.1 G1.2.1 G2.2.1 e)))) γ t Q := by
          intro z1 z2
          obtain ⟨p1, p2, p3, -⟩ := (d3 z2).2 z1
          refine step _ ?_
          rw [if_neg z2, if_neg z1, g193 _ p1]
          unfold olG
          rw [if_neg (by omega)]
        have st0 : bl = 0 ∧ col + 1 = G1.2.1 → hd_X9_beside_171 E (k + 5) s o w d w d (G1.2.1 : Int) ((G1.2.1 + G2.2.1 : Nat) : Int) ((e : Int) + 1) (up m8 162 (up (m8 162) e w)) γ t Q := fun z => step _ (by rw [if_pos z])
        refine ⟨by omega, by omega, by omega, by omega, by omega, by omega, by omega, fun y1 => ?_, fun y1 => ?_⟩
        · have y1' : col < G1.2.1 := by omega
          have x1' := x1 y1'
          rw [w1, Int.toNat_natCast]
          exact ⟨by omega, by omega, by omega, fun y2 => ⟨by omega, fun y3 => ⟨by omega, st0 (by omega)⟩, fun y3 => ⟨by omega, st1 y1' (by omega)⟩⟩, fun y2 => ⟨by omega, st1 y1' (by omega)⟩⟩
        · have y1' : ¬ col < G1.2.1 := by omega
          have x2' := x2 y1'
          rw [w2 y1', Int.toNat_natCast]
          exact ⟨by omega, by omega, by omega, fun y2 => ⟨by omega, fun y3 => ⟨by omega, st0 (by omega)⟩, fun y3 => ⟨by omega, st2 y1' (by omega)⟩⟩, fun y2 => ⟨by omega, st2 y1' (by omega)⟩⟩
    · intro i hi ih m4 hf4 hr4
      have hG4 := hG3.fr hf4 (by decide) (by decide) (by decide) (by decide) (by decide) (by decide) (by decide)
      refine vc_X9_beside_113 hs ho hw hd hs hw hd (by omega) (by omega) (by omega) (S_cells hG4.1 k2.2.1 k2.2.2.2 ⟨by omega, fun _ => ⟨by omega, by omega, ih _ (hf4.upa 193 (by decide) (by decide)) (fun j hj => ?_)⟩, fun q => absurd (by omega) q⟩)
      rw [up_self, Int.toNat_natCast]
      unfold up
      split
      · next q => rw [q, hf4.1 192 (by decide) (by decide)]
      · exact hr4 j (by omega)
  · have := hQ m
    rw [ift_t hok, ift_t (show (a.1 s.toNat).2.1 + (a.1 o.toNat).2.1 ≤ 4 by omega), ift_f (fun q => c6 (by omega)), ifA_f (fun q => c6 (by omega))] at this
    exact this (fun _ _ => rfl) hR
  · have := hQ m
    rw [ift_t hok, ift_f (show ¬ (a.1 s.toNat).2.1 + (a.1 o.toNat).2.1 ≤ 4 by omega), ifA_f (fun q => c5 (by omega))] at this
    exact this (fun _ _ => rfl) hR
end BSC
