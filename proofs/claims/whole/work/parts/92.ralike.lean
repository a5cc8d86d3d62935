/-! ===== the reference: alike, same ===== -/
section R11
variable {E : am_E} {k : Nat} {m : MM} {γ : GM} {t : am_H} {a : AST} {Q : Int → MM → GM → am_H → Prop}
theorem S_isAs {X : GV} {g : Nat → GV} {o : Int} (he : EN (m 159) g) (hX : RG m X) (ho : 0 ≤ o ∧ o < 3) (hn : nG (g o.toNat)) (q1 : nrm X = g o.toNat → Q 1 m γ t) (q0 : nrm X ≠ g o.toNat → Q 0 m γ t) : TI E k 299 [.ref 158, .int (iI o)] m γ t Q := by
  obtain ⟨a1, a2, a3⟩ := he o.toNat (by omega)
  have hle := hX.le
  have h6 := hX.1.2.2.1
  have loop : ∀ e, e ≤ gn X.1 X.2.1 → X.1 = (g o.toNat).1 → X.2.1 = (g o.toNat).2.1 → ∀ y2 : Int, (y2 = 1 ∧ (∀ e', e' < e → (g o.toNat).2.2 e' = X.2.2 e')) ∨ (y2 = 0 ∧ nrm X ≠ g o.toNat) → hd_X9_isAs_42 E k o o y2 (e : Int) m γ t Q := by
    intro e hle2 hR hC
    revert e
    refine upN ?_ ?_
    · intro y2 hy
      refine vc_X9_isAs_42 (by omega) (by omega) (by omega) (by omega) ⟨fun q => absurd q (by omega), fun _ => ⟨by omega, ?_⟩⟩
      rcases hy with ⟨rfl, hy⟩ | ⟨rfl, hy⟩
      · exact q1 (gv_ext (nrm_nG _) hn hR hC (fun e he => by
          have he : e < gn X.1 X.2.1 := he
          show (if e < gn X.1 X.2.1 then X.2.2 e else 0) = _
          rw [if_pos he, hy e he]))
      · exact q0 hy
    · intro e he2 ih y2 hy
      refine vc_X9_isAs_42 (by omega) (by omega) (by omega) (by omega) ⟨fun _ => ⟨fun c => ⟨by omega, ?_⟩, fun c => ⟨by omega, by omega, ?_⟩⟩, fun q => absurd (by omega) q⟩
      · rcases hy with ⟨rfl, hy⟩ | ⟨rfl, hy⟩
        · exact absurd c (by decide)
        · exact q0 hy
      · rcases hy with ⟨rfl, hy⟩ | ⟨rfl, hy⟩
        · rw [show (((26 * o) + 2) + (e : Int)).toNat = 26 * o.toNat + 2 + e by omega, a3 e (by omega), Int.toNat_natCast, hX.2.1 e he2]
          refine ⟨fun d => ih 1 (Or.inl ⟨rfl, fun e' h => ?_⟩), fun d => ih 0 (Or.inr ⟨rfl, fun q => d ?_⟩)⟩
          · by_cases q : e' = e
            · rw [q]; exact d
            · exact hy e' (by omega)
          · rw [← q]
            show (if e < gn X.1 X.2.1 then X.2.2 e else 0) = _
            rw [if_pos he2]
        · exact absurd rfl c
  have no : nrm X ≠ g o.toNat → hd_X9_isAs_42 E k o o 0 0 m γ t Q := by
    intro hno
    refine vc_X9_isAs_42 (by omega) (by omega) (by decide) (by decide) ⟨fun q => ⟨fun _ => ⟨by decide, q0 hno⟩, fun q => absurd rfl q⟩, fun _ => ⟨by decide, q0 hno⟩⟩
  refine vc_X9_isAs (by omega) ⟨by omega, ?_⟩
  rw [show (26 * o).toNat = 26 * o.toNat by omega, show ((26 * o) + 1).toNat = 26 * o.toNat + 1 by omega, a1, a2, hX.1.1, hX.1.2.1]
  refine ⟨fun c => ⟨by omega, fun c2 => ?_, fun c2 => no (fun q => c2 (by rw [← q]; rfl))⟩, fun c => no (fun q => c (by rw [← q]; rfl))⟩
  exact loop 0 (Nat.zero_le _) (by omega) (by omega) 1 (Or.inl ⟨rfl, fun e' h => absurd h (Nat.not_lt_zero _)⟩)
theorem gT_nrm {X : GV} (hX : vG X) : gT (nrm X) = gT X := by
  have hle := hX.1.le
  refine gv_ext (nrm_nG _) (nrm_nG _) rfl rfl (fun e he => ?_)
  have he : e < gn X.2.1 X.1 := he
  rw [gT_at (G := nrm X) he, gT_at he]
  show (if trE X.1 X.2.1 e < gn X.1 X.2.1 then X.2.2 (trE X.1 X.2.1 e) else 0) = _
  rw [if_pos (tr_D _ hle.1 _ hle.2 e he).2.2.2]
theorem gM_nrm {X : GV} (hX : vG X) : gM (nrm X) = gM X := by
  have hle := hX.1.le
  refine gv_ext (nrm_nG _) (nrm_nG _) rfl rfl (fun e he => ?_)
  have he : e < gn X.1 X.2.1 := he
  rw [gM_at (G := nrm X) he, gM_at he]
  show tov (if miE X.1 X.2.1 e < gn X.1 X.2.1 then X.2.2 (miE X.1 X.2.1 e) else 0) = _
  rw [if_pos (mi_D _ hle.1 _ hle.2 e he).2.2.2]
theorem S_turnsN {Q : MM → GM → am_H → Prop} {X H : GV} (h : RG m X) (hH : nrm X = H) (hQ : ∀ m1 X1, fr [162, 163, 164, 165, 192] [4, 5, 6] m m1 → RG m1 X1 → nrm X1 = gT H → Q m1 γ t) : TV E (k + 2) 294 [.ref 158] m γ t Q :=
  S_turns h (fun m1 hf hG => hQ m1 _ hf hG (by rw [← hH, gT_nrm h.2.2.1]; rfl))
theorem S_mirrorsN {Q : MM → GM → am_H → Prop} {X H : GV} (h : RG m X) (hH : nrm X = H) (hQ : ∀ m1 X1, fr [162, 192] [] m m1 → RG m1 X1 → nrm X1 = gM H → Q m1 γ t) : TV E (k + 2) 295 [.ref 158] m γ t Q :=
  S_mirrors h (fun m1 hf hG => hQ m1 _ hf hG (by rw [← hH, gM_nrm h.2.2.1]; exact gM_eq h.2.2.1))
theorem R_alike {s o : Int} (hR : RI m a) (hs : rJ s) (ho : rJ o) (hQ : ∀ m1, fr SL SF m m1 → Q (v_alike a s o) m1 γ t) : TI E (k + 3) 300 [.ref 158, .int (iI s), .int (iI o)] m γ t Q := by
  unfold v_alike at hQ
  have h0 : ¬ (isG a.1 s ∧ isG a.1 o) → Q (-2) m γ t := fun h => by
    have := hQ m fr.refl
    rw [ift_f h] at this
    exact this
  refine vc_X9_alike hs ho (S_isGrid hR.1 hs (fun c1 => b1 (S_isGrid hR.1 ho (fun c2 => b1 ?_) (fun c2 => b0 (h0 (fun h => c2 h.2))))) (fun c1 => b0 (h0 (fun h => c1 h.1))))
  have hvs := hR.2.2.2.2.1 s.toNat (by have := c1.1; have := c1.2.1; omega)
  have hvo := hR.2.2.2.2.1 o.toNat (by have := c2.1; have := c2.2.1; omega)
  refine S_lays hR.1 c1 hvs.1 (fun m1 hf1 hG1 => ?_)
  have main := upN (n := 8) (P := fun n => ∀ m2 X, fr SL SF m m2 → RG m2 X → nrm X = fR (a.1 s.toNat) n → (∀ n', n' < n → fR (a.1 s.toNat) n' ≠ a.1 o.toNat) → hd_X9_alike_26 E (k + 2) s o o (n : Int) m2 γ t Q) ?_ ?_ 0 (by decide)
  · exact main m1 _ (hf1.mono (by decide) (by decide)) hG1 (nrm_id hvs.2) (fun n' h => absurd h (Nat.not_lt_zero _))
  · intro m2 X hf2 hX hn hno
    refine vc_X9_alike_26 hs ho ho (by omega) ⟨fun q => absurd q (by omega), fun _ => ?_⟩
    have := hQ m2 hf2
    rw [ift_t ⟨c1, c2⟩, ift_f (fun h => by
      obtain ⟨n, h1, e⟩ := (fCR hvs.1 hvs.2 _).mp h
      exact hno n h1 e)] at this
    exact this
  · intro n hn8 ih m2 X hf2 hX hn hno
    refine vc_X9_alike_26 hs ho ho (by omega) ⟨fun _ => S_isAs (g := a.1) (by rw [hf2.1 159 (by decide) (by decide)]; exact hR.1) hX ⟨c2.1, c2.2.1⟩ hvo.2 (fun q => b1 ?_) (fun q => b0 ?_), fun q => absurd (by omega) q⟩
    · have := hQ m2 hf2
      rw [ift_t ⟨c1, c2⟩, ift_t ((fCR hvs.1 hvs.2 _).mpr ⟨n, hn8, hn.symm.trans q⟩)] at this
      exact this
    · have hno' : ∀ n', n' < n + 1 → fR (a.1 s.toNat) n' ≠ a.1 o.toNat := fun n' h => by
        by_cases e : n' = n
        · rw [e, ← hn]; exact q
        · exact hno n' (by omega)
      refine S_turnsN hX hn (fun m3 X3 hf3 hX3 hn3 => ⟨fun c3 => S_mirrorsN hX3 hn3 (fun m4 X4 hf4 hX4 hn4 => ?_), fun c3 => ?_⟩)
      · refine ih m4 X4 ((hf2.trans (hf3.mono (by decide) (by decide))).trans (hf4.mono (by decide) (by decide))) hX4 ?_ hno'
        rw [hn4]
        show _ = if n = 3 then gM (gT (fR (a.1 s.toNat) n)) else gT (fR (a.1 s.toNat) n)
        rw [if_pos (by omega)]
      · refine ih m3 X3 (hf2.trans (hf3.mono (by decide) (by decide))) hX3 ?_ hno'
        rw [hn3]
        show _ = if n = 3 then gM (gT (fR (a.1 s.toNat) n)) else gT (fR (a.1 s.toNat) n)
        rw [if_neg (by omega)]
theorem R_same {s w : Int} (hR : RI m a) (hs : rJ s) (hw : rJ w) (hQ : ∀ m1, fr SL SF m m1 → Q (v_same a s w) m1 γ t) : TI E (k + 3) 301 [.ref 158, .int (iI s), .int (iI w)] m γ t Q := by
  unfold v_same at hQ
  have h0 : ¬ (isG a.1 s ∧ 0 ≤ w ∧ w ≤ 3) → Q (-2) m γ t := fun h => by
    have := hQ m fr.refl
    rw [ift_f h] at this
    exact this
  refine vc_X9_same hs hw (S_isGrid hR.1 hs (fun c1 => b1 (S_in (by omega) (by decide) (by decide) (fun c2 => b1 ?_) (fun c2 => b0 (h0 (fun h => c2 h.2))))) (fun c1 => b0 (h0 (fun h => c1 h.1))))
  have hvs := hR.2.2.2.2.1 s.toNat (by have := c1.1; have := c1.2.1; omega)
  have end0 : ∀ m2 X, fr SL SF m m2 → RG m2 X → nrm X = sm (a.1 s.toNat) w → hd_X9_same_56 E (k + 2) s w s 0 m2 γ t Q := by
    intro m2 X hf2 hX hn
    have := hQ m2 hf2
    rw [ift_t ⟨c1, c2⟩] at this
    refine vc_X9_same_56 hs hw hs (by decide) ⟨fun _ => S_isAs (g := a.1) (by rw [hf2.1 159 (by decide) (by decide)]; exact hR.1) hX ⟨c1.1, c1.2.1⟩ hvs.2 (fun q => b1 ?_) (fun q => b0 ?_), fun q => absurd (by decide) q⟩
    · rw [ift_t (hn.symm.trans q)] at this
      exact this
    · rw [ift_f (fun z => q (hn.trans z))] at this
      exact this
  have end1 : ∀ m2 X, fr SL SF m m2 → RG m2 X → gT (nrm X) = sm (a.1 s.toNat) w → hd_X9_same_56 E (k + 2) s w s 1 m2 γ t Q := by
    intro m2 X hf2 hX hn
    refine vc_X9_same_56 hs hw hs (by decide) ⟨fun q => absurd q (by decide), fun _ => S_turnsN hX rfl (fun m3 X3 hf3 hX3 hn3 => ?_)⟩
    exact end0 m3 X3 (hf2.trans (hf3.mono (by decide) (by decide))) hX3 (hn3.trans hn)
  have end2 : ∀ m2 X, fr SL SF m m2 → RG m2 X → gT (gT (nrm X)) = sm (a.1 s.toNat) w → hd_X9_same_56 E (k + 2) s w s 2 m2 γ t Q := by
    intro m2 X hf2 hX hn
    refine vc_X9_same_56 hs hw hs (by decide) ⟨fun q => absurd q (by decide), fun _ => S_turnsN hX rfl (fun m3 X3 hf3 hX3 hn3 => ?_)⟩
    exact end1 m3 X3 (hf2.trans (hf3.mono (by decide) (by decide))) hX3 (by rw [hn3]; exact hn)
  refine S_lays hR.1 c1 hvs.1 (fun m1 hf1 hG1 => ?_)
  have hf1' : fr SL SF m m1 := hf1.mono (by decide) (by decide)
  have hn1 : nrm (a.1 s.toNat) = a.1 s.toNat := nrm_id hvs.2
  refine ⟨fun c3 => ⟨fun c4 => end1 m1 _ hf1' hG1 ?_, fun c4 => ⟨fun c5 => absurd c5 (by omega), fun c5 => end2 m1 _ hf1' hG1 ?_⟩⟩, fun c3 => S_mirrorsN hG1 hn1 (fun m2 X2 hf2 hX2 hn2 => ⟨fun c4 => absurd c4 (by omega), fun c4 => ⟨fun c5 => end0 m2 X2 (hf1'.trans (hf2.mono (by decide) (by decide))) hX2 ?_, fun c5 => end2 m2 X2 (hf1'.trans (hf2.mono (by decide) (by decide))) hX2 ?_⟩⟩)⟩
  · rw [hn1]
    unfold sm
    rw [if_pos c4]
  · rw [hn1]
    unfold sm
    rw [if_neg c4, if_pos (by omega)]
  · rw [hn2]
    unfold sm
    rw [if_neg c4, if_neg (by omega), if_pos c5]
  · rw [hn2, ← MT2 hvs.1]
    unfold sm
    rw [if_neg c4, if_neg (by omega), if_neg c5]
theorem mir_val (hR : RI m a) {s : Int} (c : isG a.1 s) : nS (gU ((a.1 s.toNat).1, (a.1 s.toNat).2.1, fun e => (a.1 s.toNat).2.2 (miE (a.1 s.toNat).1 (a.1 s.toNat).2.1 e))) = nS (gM (a.1 s.toNat)) := by
  have hv := (hR.2.2.2.2.1 s.toNat (by have := c.1; have := c.2.1; omega)).1
  have hle := hv.1.le
  rw [← gM_eq hv]
  have hvX : vG (gU ((a.1 s.toNat).1, (a.1 s.toNat).2.1, fun e => (a.1 s.toNat).2.2 (miE (a.1 s.toNat).1 (a.1 s.toNat).2.1 e))) := ⟨hv.1, fun e he => by
    have he : e < gn (a.1 s.toNat).1 (a.1 s.toNat).2.1 := he
    have h2 := hv.2 _ (mi_D _ hle.1 _ hle.2 e he).2.2.2
    have h3 := tov_rng h2.1 h2.2
    have e1 : (gU ((a.1 s.toNat).1, (a.1 s.toNat).2.1, fun e => (a.1 s.toNat).2.2 (miE (a.1 s.toNat).1 (a.1 s.toNat).2.1 e))).2.2 e = tov ((a.1 s.toNat).2.2 (miE (a.1 s.toNat).1 (a.1 s.toNat).2.1 e)) := if_pos he
    rw [e1]
    exact h3⟩
  exact (nS_nrm hvX).symm
theorem R_mirrorV {s : Int} (hR : RI m a) (hs : rJ s) (hQ : ∀ m1, clS m m1 → RI m1 (n_mirror a s) → Q (v_mirror a s) m1 γ t) : TI E (k + 5) 297 [.ref 158, .int (iI s)] m γ t Q := by
  refine R_mirror hR hs (fun m1 c h1 h2 => ?_) (fun m1 h1 h2 c => ?_)
  · rw [mir_val hR c]
    have := hQ m1 h1 h2
    unfold v_mirror at this
    rw [ift_t c] at this
    exact this
  · have := hQ m1 h1
    unfold v_mirror n_mirror at this
    rw [ift_f c, ifA_f c] at this
    exact this h2
end R11
