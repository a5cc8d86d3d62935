/-! ===== oneLine, both sides ===== -/
theorem fsP_sp2 {P : Nat → Prop} (n : Nat) : (fsP P n = -1 ∧ ∀ e, e < n → ¬ P e) ∨ ∃ e : Nat, e < n ∧ fsP P n = (e : Int) ∧ P e ∧ ∀ e', e' < e → ¬ P e' := by
  rcases fsQ_sp (P := P) n 0 with ⟨q1, q2⟩ | ⟨e, -, q2, q3, q4, q5⟩
  · exact Or.inl ⟨q1, fun e he => q2 e (Nat.zero_le _) (by omega)⟩
  · exact Or.inr ⟨e, by omega, q3, q4, fun e' he' => q5 e' (Nat.zero_le _) he'⟩
noncomputable def olF : Nat → GV → GV × Nat
  | 0, G => (G, 0)
  | f + 1, G => if fsP (two G) (gn G.1 G.2.1) = -1 then (G, 0) else ((olF f (wK G (up G.2.2 (fsP (two G) (gn G.1 G.2.1)).toNat 2))).1, (olF f (wK G (up G.2.2 (fsP (two G) (gn G.1 G.2.1)).toNat 2))).2 + 1)
theorem olF_n {G : GV} (h : fsP (two G) (gn G.1 G.2.1) = -1) : ∀ f, olF f G = (G, 0)
  | 0 => rfl
  | f + 1 => if_pos h
theorem olF_s {G : GV} {e : Nat} (h : fsP (two G) (gn G.1 G.2.1) = (e : Int)) (f : Nat) : olF (f + 1) G = ((olF f (wK G (up G.2.2 e 2))).1, (olF f (wK G (up G.2.2 e 2))).2 + 1) := by
  show (if fsP (two G) (gn G.1 G.2.1) = -1 then (G, 0) else ((olF f (wK G (up G.2.2 (fsP (two G) (gn G.1 G.2.1)).toNat 2))).1, (olF f (wK G (up G.2.2 (fsP (two G) (gn G.1 G.2.1)).toNat 2))).2 + 1)) = _
  rw [if_neg (by omega), h, Int.toNat_natCast]
theorem two0 {G : GV} (h : nX G ≤ 0) : fsP (two G) (gn G.1 G.2.1) = -1 := by
  rcases fsP_sp (P := two G) (gn G.1 G.2.1) with q | ⟨e, e1, -, e3⟩
  · exact q.1
  · have := nX_cr e1 e3.1
    omega
theorem two1 {G : GV} (hG : vG G) (h : nS G ≤ 1) : fsP (two G) (gn G.1 G.2.1) = -1 := by
  rcases fsP_sp (P := two G) (gn G.1 G.2.1) with q | ⟨e, e1, -, e3⟩
  · exact q.1
  · have := xs_lt hG e1 e3.1
    have := e3.2
    omega
theorem conn_fs {G : GV} (hG : vG G) (h : fsP (two G) (gn G.1 G.2.1) = -1) : conn G ↔ nS G ≤ 1 := by
  refine conn_none hG ?_
  rcases fsP_sp (P := two G) (gn G.1 G.2.1) with q | ⟨e, e1, e2, e3⟩
  · exact q.2
  · omega
noncomputable def v_oneLine (a : AST) (s : Int) : Int := ift (isG a.1 s) (ift (conn (a.1 s.toNat)) ((olF 24 (a.1 s.toNat)).2 : Int) (-6)) (-2)
noncomputable def n_oneLine (a : AST) (s : Int) : AST := ifA (isG a.1 s ∧ conn (a.1 s.toNat)) (aput a s.toNat (olF 24 (a.1 s.toNat)).1) a
section OL
variable {E : am_E} {k : Nat} {m : MM} {γ : GM} {t : am_H} {a : AST} {Q : Int → MM → GM → am_H → Prop}
theorem C_oneLine {s : Int} (hC : CI m γ a) (hs : rJ s) (hQ : ∀ m1 γ1, CI m1 γ1 (n_oneLine a s) → rsame m m1 → Q (v_oneLine a s) m1 γ1 t) : TI E (k + 6) 161 [.ref 0, .int (iI s)] m γ t Q := by
  unfold v_oneLine n_oneLine at hQ
  refine vc_X8_oneLine hs (S_gridIn hC hs (fun c1 => oN ?_) (fun c1 => oSm ?_))
  · have := hQ m γ
    rw [ift_f c1, ifA_f (fun z => c1 z.1)] at this
    exact this hC (fun _ _ => rfl)
  · rw [ift_t c1] at hQ
    obtain ⟨i1, i2, i3, i4, -⟩ := c1.i hC
    generalize hH : a.1 s.toNat = H at *
    have hX := nX_le i3
    refine ⟨i1, S_copy (gi rfl) i1 (by omega) ?_⟩
    rw [i2]
    -- at the end
    have fin : ∀ (m2 : MM) (γ2 : GM) (n f : Nat), CI m2 γ2 a → rsame m m2 → nG (γ2 2) → vG (γ2 2) → (conn H ↔ conn (γ2 2)) → n ≤ 24 → fsP (two (γ2 2)) (gn (γ2 2).1 (γ2 2).2.1) = -1 → (olF f (γ2 2)).1 = (olF 24 H).1 → n + (olF f (γ2 2)).2 = (olF 24 H).2 → TA E (k + 5) 186 [.ref 0, .ref 2] m2 γ2 t (fun o2 m2 γ2 t2 => o2 = some 10 ∧ TI E (k + 5) 99 [.ref 10] m2 γ2 t2 (fun v3 m3 γ3 t3 => ((v3 ≤ 1) → TV E (k + 5) 191 [.ref 0, .int (iI s)] m3 γ3 t3 (fun m5 γ5 t5 => Q (n : Int) m5 γ5 t5)) ∧ (¬ (v3 ≤ 1) → Q (-6) m3 γ3 t3))) := by
      intro m2 γ2 n f h1 h2 h3 h4 h5 hn h6 h7 h8
      rw [olF_n h6] at h7 h8
      have h7 : γ2 2 = (olF 24 H).1 := h7
      have h8 : n + 0 = (olF 24 H).2 := h8
      have hc := h5.trans (conn_fs h4 h6)
      refine S_traceN h1 h3 (fun m3 _ hC3 hT3 hr3 => ⟨rfl, S_strandsN hT3 ⟨fun c => ?_, fun c => ?_⟩⟩)
      · have cc : conn H := hc.mpr (by omega)
        rw [ift_t cc, ifA_t ⟨c1, cc⟩] at hQ
        refine S_become hC3 ⟨c1.1, c1.2.1⟩ (by rw [up_ne (by decide)]; exact h3) (fun m4 γ4 hC4 hr4 _ => ?_)
        rw [up_ne (show 2 ≠ 11 by decide), h7] at hC4
        have := hQ m4 γ4 hC4 (fun b hb => (hr4 b hb).trans ((hr3 b hb).trans (h2 b hb)))
        rw [show (((olF 24 H).2 : Nat) : Int) = (n : Int) by omega] at this
        exact this
      · have cc : ¬ conn H := fun q => c (by have := hc.mp q; omega)
        rw [ift_f cc, ifA_f (fun z => cc z.2)] at hQ
        exact hQ m3 _ hC3 (fun b hb => (hr3 b hb).trans (h2 b hb))
    have loop : ∀ f : Nat, f ≤ 24 → ∀ (m2 : MM) (γ2 : GM) (n : Nat), CI m2 γ2 a → rsame m m2 → nG (γ2 2) → vG (γ2 2) → nX (γ2 2) ≤ (f : Int) → (conn H ↔ conn (γ2 2)) → n + f = 24 → (olF f (γ2 2)).1 = (olF 24 H).1 → n + (olF f (γ2 2)).2 = (olF 24 H).2 → hd_X8_oneLine_26 E (k + 5) s s (n : Int) (n : Int) m2 γ2 t Q := by
      intro f
      induction f with
      | zero =>
        intro _ m2 γ2 n h1 h2 h3 h4 h5 h6 h7 h8 h9
        exact vc_X8_oneLine_26 hs hs (by omega) (by omega) ⟨fun z => absurd z (by omega), fun _ => fin m2 γ2 n 0 h1 h2 h3 h4 h6 (by omega) (two0 (by omega)) h8 h9⟩
      | succ f ih =>
        intro hf m2 γ2 n h1 h2 h3 h4 h5 h6 h7 h8 h9
        refine vc_X8_oneLine_26 hs hs (by omega) (by omega) ⟨fun _ => ?_, fun z => absurd (by omega) z⟩
        refine S_traceN h1 h3 (fun m3 _ hC3 hT3 hr3 => ⟨rfl, S_firstOfTwo hT3 h4 up_self ?_⟩)
        have g2 : up γ2 11 (γ2 2) 2 = γ2 2 := up_ne (by decide)
        rcases fsP_sp (P := two (γ2 2)) (gn (γ2 2).1 (γ2 2).2.1) with ⟨q, -⟩ | ⟨e, e1, e2, e3⟩
        · rw [q]
          refine ⟨fun _ => ?_, fun z => absurd rfl z⟩
          exact fin m3 (up γ2 11 (γ2 2)) n (f + 1) hC3 (fun b hb => (hr3 b hb).trans (h2 b hb)) (by rw [g2]; exact h3) (by rw [g2]; exact h4) (by rw [g2]; exact h6) (by omega) (by rw [g2]; exact q) (by rw [g2]; exact h8) (by rw [g2]; exact h9)
        · rw [e2]
          rw [olF_s e2 f] at h8 h9
          have h8 : (olF f (wK (γ2 2) (up (γ2 2).2.2 e 2))).1 = (olF 24 H).1 := h8
          have h9 : n + ((olF f (wK (γ2 2) (up (γ2 2).2.2 e 2))).2 + 1) = (olF 24 H).2 := h9
          refine ⟨fun z => absurd z (by omega), fun _ => ?_⟩
          refine S_change e (gi rfl) rfl (by rw [g2]; exact e1) (by decide) ?_
          rw [g2]
          have nx2 := nX_up (z := 2) e1 e3.1 (Or.inl rfl)
          have cw := conn_wall h4 e1 e3
          have := ih (by omega) m3 (up (up γ2 11 (γ2 2)) 2 (wK (γ2 2) (up (γ2 2).2.2 e 2))) (n + 1) (hC3.nx (Or.inl rfl)) (fun b hb => (hr3 b hb).trans (h2 b hb)) (by rw [up_self]; exact nG_up h3 e1) (by rw [up_self]; exact vG_up h4 e (by decide)) (by rw [up_self]; omega) (by rw [up_self]; exact h6.trans cw.1) (by omega) (by rw [up_self]; exact h8) (by rw [up_self]; omega)
          exact this
    have := loop 24 (Nat.le_refl _) m (up γ 2 H) 0 (hC.nx (Or.inl rfl)) (fun _ _ => rfl) (by rw [up_self]; exact i4) (by rw [up_self]; exact i3) (by rw [up_self]; omega) (by rw [up_self]) rfl (by rw [up_self]) (by rw [up_self]; omega)
    exact this
theorem R_oneLine {s : Int} (hR : RI m a) (hs : rJ s) (ht : t.length < 900000) (hQ : ∀ m1 t1, clS m m1 → RI m1 (n_oneLine a s) → (t1 = t ∨ ∃ F, t1 = t ++ [cI 64 F]) → Q (v_oneLine a s) m1 γ t1) : TI E (k + 6) 285 [.ref 158, .int (iI s)] m γ t Q := by
  unfold v_oneLine n_oneLine at hQ
  refine vc_X9_oneLine hs (S_isLaid hR hs (fun c => b0 ?_) (fun m1 c hf hG hS hP => b1 ?_))
  · have := hQ m t
    rw [ift_f c, ifA_f (fun z => c z.1)] at this
    exact this (fun _ _ => rfl) hR (Or.inl rfl)
  · rw [ift_t c] at hQ
    have hn := (hR.2.2.2.2.1 s.toNat (by have := c.1; have := c.2.1; omega)).2
    generalize hH : a.1 s.toNat = H at *
    have hX := nX_le hG.2.2.1
    refine S_piecesOf hG hS hP ht (fun t1 ht1 => ?_)
    have hpc := pcs_conn hG.2.2.1
    refine ⟨fun c2 => ?_, fun c2 => ?_⟩
    · have cc : conn H := hpc.mp c2
      rw [ift_t cc, ifA_t ⟨c, cc⟩] at hQ
      have loop : ∀ f : Nat, f ≤ 24 → ∀ (m2 : MM) (G : GV) (n : Nat), fr SL SF m m2 → RG m2 G → RS m2 G → RP m2 G → nG G → nX G ≤ (f : Int) → conn G → n + f = 24 → (olF f G).1 = (olF 24 H).1 → n + (olF f G).2 = (olF 24 H).2 → hd_X9_oneLine_24 E (k + 5) s s (n : Int) m2 γ t1 Q := by
        intro f
        induction f with
        | zero =>
          intro _ m2 G n h1 h2 h3 h4 h5 h6 h10 h7 h8 h9
          have q := two0 (by omega : nX G ≤ 0)
          have hS1 := (conn_fs h2.2.2.1 q).mp h10
          refine vc_X9_oneLine_24 hs hs (by omega) ⟨fun _ => ?_, fun z => absurd (by rw [h3.2.2]; omega) z⟩
          refine S_putsA (hR.move h1) h2 ⟨c.1, c.2.1⟩ (by omega) (fun m3 hc3 hR3 => ?_)
          rw [olF_n q] at h8 h9
          have h8 : G = (olF 24 H).1 := h8
          have h9 : n + 0 = (olF 24 H).2 := h9
          rw [nrm_id h5, h8] at hR3
          have := hQ m3 t1 ((h1.cl (by decide)).trans hc3) hR3 (Or.inr ht1)
          rw [show (((olF 24 H).2 : Nat) : Int) = (n : Int) by omega] at this
          exact this
        | succ f ih =>
          intro hf2 m2 G n h1 h2 h3 h4 h5 h6 h10 h7 h8 h9
          have hle := h2.le
          refine vc_X9_oneLine_24 hs hs (by omega) ⟨fun c3 => ?_, fun c3 => ?_⟩
          · rw [h3.2.2] at c3
            have q := two1 h2.2.2.1 (by omega)
            refine S_putsA (hR.move h1) h2 ⟨c.1, c.2.1⟩ (by omega) (fun m3 hc3 hR3 => ?_)
            rw [olF_n q] at h8 h9
            have h8 : G = (olF 24 H).1 := h8
            have h9 : n + 0 = (olF 24 H).2 := h9
            rw [nrm_id h5, h8] at hR3
            have := hQ m3 t1 ((h1.cl (by decide)).trans hc3) hR3 (Or.inr ht1)
            rw [show (((olF 24 H).2 : Nat) : Int) = (n : Int) by omega] at this
            exact this
          · rw [h3.2.2] at c3
            rcases fsP_sp2 (P := two G) (gn G.1 G.2.1) with ⟨q, -⟩ | ⟨e, e1, e2, e3, e4⟩
            · exact absurd ((conn_fs h2.2.2.1 q).mp h10) (by omega)
            · rw [olF_s e2 f] at h8 h9
              have h8 : (olF f (wK G (up G.2.2 e 2))).1 = (olF 24 H).1 := h8
              have h9 : n + ((olF f (wK G (up G.2.2 e 2))).2 + 1) = (olF 24 H).2 := h9
              have nx2 := nX_up (z := 2) e1 e3.1 (Or.inl rfl)
              have cw := conn_wall h2.2.2.1 e1 e3
              refine upN (n := e) (P := fun i => hd_X9_oneLine_34 E (k + 5) s s (n : Int) (i : Int) m2 γ t1 Q) ?_ (fun i hi ih2 => ?_) 0 (Nat.zero_le _)
              · refine vc_X9_oneLine_34 hs hs (by omega) (by omega) ⟨by omega, ?_⟩
                rw [Int.toNat_natCast, h2.2.1 e e1]
                have hk := h2.2.2.1.2 e e1
                refine S_isCross (by omega) (fun _ => b1 ⟨by omega, by omega, ?_⟩) (fun z => absurd e3.1 z)
                obtain ⟨p1, p2, -⟩ := h4.1 e e1 e3.1
                rw [p1, p2]
                refine ⟨fun z => absurd z e3.2, fun _ => ⟨by omega, ?_⟩⟩
                have hG1 := RG_set h2 e1 (d := 2) (by decide)
                have f1 : fr SL SF m2 (up m2 162 (up (m2 162) e 2)) := fr.refl.upa 162 (by decide) (by decide)
                refine S_laysPassings hG1 (fun m8 f8 hG8 hS8 hP8 => ?_)
                exact ih (by omega) m8 (wK G (up G.2.2 e 2)) (n + 1) (h1.trans (f1.trans (f8.mono (by decide) (by decide)))) hG8 hS8 hP8 (nG_up h5 e1) (by omega) (cw.1.mp h10) (by omega) h8 (by omega)
              · refine vc_X9_oneLine_34 hs hs (by omega) (by omega) ⟨by omega, ?_⟩
                rw [Int.toNat_natCast, h2.2.1 i (by omega)]
                have hk := h2.2.2.1.2 i (by omega)
                refine S_isCross (by omega) (fun cx => b1 ⟨by omega, by omega, ?_⟩) (fun cx => b0 ih2)
                obtain ⟨p1, p2, -⟩ := h4.1 i (by omega) cx
                rw [p1, p2]
                exact ⟨fun _ => ih2, fun z => absurd ⟨cx, z⟩ (e4 i hi)⟩
      have := loop 24 (Nat.le_refl _) m1 H 0 hf hG hS hP hn (by omega) cc rfl rfl (by omega)
      exact this
    · have cc : ¬ conn H := fun q => c2 (hpc.mpr q)
      rw [ift_f cc, ifA_f (fun z => cc z.2)] at hQ
      exact hQ m1 t1 (hf.cl (by decide)) (hR.move hf) (Or.inr ht1)
end OL
