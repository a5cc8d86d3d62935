/-! ===== eases, both sides ===== -/
theorem fsP_sp {P : Nat → Prop} (n : Nat) : (fsP P n = -1 ∧ ∀ e, e < n → ¬ P e) ∨ ∃ e : Nat, e < n ∧ fsP P n = (e : Int) ∧ P e := by
  rcases fsQ_sp (P := P) n 0 with ⟨q1, q2⟩ | ⟨e, -, q2, q3, q4, -⟩
  · exact Or.inl ⟨q1, fun e he => q2 e (Nat.zero_le _) (by omega)⟩
  · exact Or.inr ⟨e, by omega, q3, q4⟩
theorem xrk_up {G : GV} {e : Nat} {z : Int} (hx : crX G e) (hz : z = 2 ∨ z = 3) : ∀ n, xrk G n = xrk (wK G (up G.2.2 e z)) n + (if e < n then 1 else 0)
  | 0 => by
    show (0 : Int).toNat = (0 : Int).toNat + _
    rw [if_neg (Nat.not_lt_zero e)]
    rfl
  | n + 1 => by
    have ih := xrk_up hx hz n
    rw [xrk_succ, xrk_succ]
    show xrk G n + _ = xrk (wK G (up G.2.2 e z)) n + (if up G.2.2 e z n = 0 ∨ up G.2.2 e z n = 1 then 1 else 0) + _
    by_cases c : n = e
    · subst c
      rw [up_self, if_pos (show G.2.2 n = 0 ∨ G.2.2 n = 1 from hx), if_neg (by omega), if_pos (by omega)]
      rw [if_neg (by omega)] at ih
      omega
    · rw [up_ne c]
      by_cases d : e < n
      · rw [if_pos d] at ih
        rw [if_pos (show e < n + 1 by omega)]
        omega
      · rw [if_neg d] at ih
        rw [if_neg (show ¬ e < n + 1 by omega)]
        omega
theorem nX_up {G : GV} {e : Nat} {z : Int} (he : e < gn G.1 G.2.1) (hx : crX G e) (hz : z = 2 ∨ z = 3) : nX (wK G (up G.2.2 e z)) = nX G - 1 := by
  have h1 := xrk_end (G := G)
  have h2 : ((xrk (wK G (up G.2.2 e z)) (gn G.1 G.2.1) : Nat) : Int) = nX (wK G (up G.2.2 e z)) := xrk_end (G := wK G (up G.2.2 e z))
  have h3 := xrk_up hx hz (gn G.1 G.2.1)
  rw [if_pos he] at h3
  omega
theorem nX_cr {G : GV} {e : Nat} (he : e < gn G.1 G.2.1) (hx : crX G e) : 1 ≤ nX G := by
  have := xrk_lt hx he
  omega
theorem nX_le {G : GV} (hG : vG G) : 0 ≤ nX G ∧ nX G ≤ 24 := by
  have h1 := xrk_end (G := G)
  have h2 := xrk_le (G := G) (gn G.1 G.2.1)
  have := gn_le _ hG.1.le.1 _ hG.1.le.2
  omega
theorem nS64 {G : GV} (hG : vG G) : nS G ≤ 64 := by
  have h1 : nS G ≤ nC G := nS_le (nC G)
  have h2 := nC_le64 hG
  omega
/-- a kink eased -/
def esH (G : GV) (e : Nat) : GV := if nS (wK G (up G.2.2 e 2)) = nS G then wK G (up G.2.2 e 2) else wK G (up G.2.2 e 3)
noncomputable def esF : Nat → GV → GV × Nat
  | 0, G => (G, 0)
  | f + 1, G => if fsP (knk G) (gn G.1 G.2.1) = -1 then (G, 0) else ((esF f (esH G (fsP (knk G) (gn G.1 G.2.1)).toNat)).1, (esF f (esH G (fsP (knk G) (gn G.1 G.2.1)).toNat)).2 + 1)
theorem esF_n {G : GV} (h : fsP (knk G) (gn G.1 G.2.1) = -1) : ∀ f, esF f G = (G, 0)
  | 0 => rfl
  | f + 1 => if_pos h
theorem esF_s {G : GV} {e : Nat} (h : fsP (knk G) (gn G.1 G.2.1) = (e : Int)) (f : Nat) : esF (f + 1) G = ((esF f (esH G e)).1, (esF f (esH G e)).2 + 1) := by
  show (if fsP (knk G) (gn G.1 G.2.1) = -1 then (G, 0) else ((esF f (esH G (fsP (knk G) (gn G.1 G.2.1)).toNat)).1, (esF f (esH G (fsP (knk G) (gn G.1 G.2.1)).toNat)).2 + 1)) = _
  rw [if_neg (by omega), h, Int.toNat_natCast]
theorem knk0 {G : GV} (h : nX G ≤ 0) : fsP (knk G) (gn G.1 G.2.1) = -1 := by
  rcases fsP_sp (P := knk G) (gn G.1 G.2.1) with q | ⟨e, e1, -, e3⟩
  · exact q.1
  · have := nX_cr e1 e3.1.1
    omega
noncomputable def v_eases (a : AST) (s : Int) : Int := ift (isG a.1 s) ((esF 24 (a.1 s.toNat)).2 : Int) (-2)
noncomputable def n_eases (a : AST) (s : Int) : AST := ifA (isG a.1 s) (aput a s.toNat (esF 24 (a.1 s.toNat)).1) a
section ES
variable {E : am_E} {k : Nat} {m : MM} {γ : GM} {t : am_H} {a : AST} {Q : Int → MM → GM → am_H → Prop}
theorem C_eases {s : Int} (hC : CI m γ a) (hs : rJ s) (hQ : ∀ m1 γ1, CI m1 γ1 (n_eases a s) → rsame m m1 → Q (v_eases a s) m1 γ1 t) : TI E (k + 6) 162 [.ref 0, .int (iI s)] m γ t Q := by
  unfold v_eases n_eases at hQ
  refine vc_X8_eases hs (S_gridIn hC hs (fun c1 => oN ?_) (fun c1 => oSm ?_))
  · have := hQ m γ
    rw [ift_f c1, ifA_f c1] at this
    exact this hC (fun _ _ => rfl)
  · rw [ift_t c1, ifA_t c1] at hQ
    obtain ⟨i1, i2, i3, i4, -⟩ := c1.i hC
    generalize hH : a.1 s.toNat = H at *
    have h64 := nS64 i3
    have hX := nX_le i3
    refine ⟨i1, S_copy (gi rfl) i1 (by omega) (S_traceN (hC.nx (Or.inl rfl)) (by rw [up_self, i2]; exact i4) (fun m1 hv hC1 hT hr => ⟨rfl, ?_⟩))⟩
    rw [up_self, i2] at hT hv hC1 ⊢
    refine S_strandsN hT ?_
    have loop : ∀ f : Nat, f ≤ 24 → ∀ (m2 : MM) (γ2 : GM) (n : Nat), CI m2 γ2 a → rsame m m2 → nG (γ2 2) → vG (γ2 2) → nX (γ2 2) ≤ (f : Int) → nS (γ2 2) = nS H → n + f = 24 → (esF f (γ2 2)).1 = (esF 24 H).1 → n + (esF f (γ2 2)).2 = (esF 24 H).2 → hd_X8_eases_39 E (k + 5) s s (nS H : Int) (n : Int) (n : Int) m2 γ2 t Q := by
      intro f
      induction f with
      | zero =>
        intro _ m2 γ2 n h1 h2 h3 h4 h5 h6 h7 h8 h9
        refine vc_X8_eases_39 hs hs (by omega) (by omega) (by omega) ⟨fun z => absurd z (by omega), fun _ => ?_⟩
        refine S_become h1 ⟨c1.1, c1.2.1⟩ h3 (fun m3 γ3 hC3 hr3 _ => ?_)
        rw [esF_n (knk0 (by omega))] at h8 h9
        have h8 : γ2 2 = (esF 24 H).1 := h8
        have h9 : n + 0 = (esF 24 H).2 := h9
        rw [h8] at hC3
        have := hQ m3 γ3 hC3 (fun b hb => (hr3 b hb).trans (h2 b hb))
        rw [show (((esF 24 H).2 : Nat) : Int) = (n : Int) by omega] at this
        exact this
      | succ f ih =>
        intro hf m2 γ2 n h1 h2 h3 h4 h5 h6 h7 h8 h9
        refine vc_X8_eases_39 hs hs (by omega) (by omega) (by omega) ⟨fun _ => ?_, fun z => absurd (by omega) z⟩
        refine S_traceN h1 h3 (fun m3 _ hC3 hT3 hr3 => ⟨rfl, S_firstKinkC hT3 h4 up_self ?_⟩)
        rcases fsP_sp (P := knk (γ2 2)) (gn (γ2 2).1 (γ2 2).2.1) with ⟨q, -⟩ | ⟨e, e1, e2, e3⟩
        · rw [q]
          refine ⟨fun _ => ?_, fun z => absurd rfl z⟩
          refine S_become hC3 ⟨c1.1, c1.2.1⟩ (by rw [up_ne (by decide)]; exact h3) (fun m4 γ4 hC4 hr4 _ => ?_)
          rw [up_ne (show 2 ≠ 11 by decide)] at hC4
          rw [esF_n q] at h8 h9
          have h8 : γ2 2 = (esF 24 H).1 := h8
          have h9 : n + 0 = (esF 24 H).2 := h9
          rw [h8] at hC4
          have := hQ m4 γ4 hC4 (fun b hb => (hr4 b hb).trans ((hr3 b hb).trans (h2 b hb)))
          rw [show (((esF 24 H).2 : Nat) : Int) = (n : Int) by omega] at this
          exact this
        · rw [e2]
          have es := esF_s e2 f
          rw [es] at h8 h9
          have h8 : (esF f (esH (γ2 2) e)).1 = (esF 24 H).1 := h8
          have h9 : n + ((esF f (esH (γ2 2) e)).2 + 1) = (esF 24 H).2 := h9
          refine ⟨fun z => absurd z (by omega), fun _ => ?_⟩
          have g2 : up γ2 11 (γ2 2) 2 = γ2 2 := up_ne (by decide)
          refine S_change e (gi rfl) rfl (by rw [g2]; exact e1) (by decide) ?_
          rw [g2]
          have hW : nG (wK (γ2 2) (up (γ2 2).2.2 e 2)) := nG_up h3 e1
          have vW : vG (wK (γ2 2) (up (γ2 2).2.2 e 2)) := vG_up h4 e (by decide)
          refine S_traceN (hC3.nx (Or.inl rfl)) (by rw [up_self]; exact hW) (fun m5 _ hC5 hT5 hr5 => ⟨rfl, ?_⟩)
          rw [up_self] at hT5 hC5 ⊢
          refine S_strandsN hT5 ?_
          have nx2 := nX_up (z := 2) e1 e3.1.1 (Or.inl rfl)
          have nx3 := nX_up (z := 3) e1 e3.1.1 (Or.inr rfl)
          refine ⟨fun c => ?_, fun c => ?_⟩
          · have c : nS (wK (γ2 2) (up (γ2 2).2.2 e 2)) = nS H := by
              have c : ((nS (wK (γ2 2) (up (γ2 2).2.2 e 2)) : Nat) : Int) = (nS H : Int) := c
              omega
            have ee : esH (γ2 2) e = wK (γ2 2) (up (γ2 2).2.2 e 2) := if_pos (by rw [c, h6])
            rw [ee] at h8 h9
            have := ih (by omega) m5 _ (n + 1) hC5 (fun b hb => (hr5 b hb).trans ((hr3 b hb).trans (h2 b hb))) (by rw [up_ne (by decide), up_self]; exact hW) (by rw [up_ne (by decide), up_self]; exact vW) (by rw [up_ne (by decide), up_self]; show nX (wK (γ2 2) (up (γ2 2).2.2 e 2)) ≤ _; omega) (by rw [up_ne (by decide), up_self]; exact c) (by omega) (by rw [up_ne (by decide), up_self]; exact h8) (by rw [up_ne (by decide), up_self]; show n + 1 + (esF f (wK (γ2 2) (up (γ2 2).2.2 e 2))).2 = _; omega)
            exact this
          · have c : nS (wK (γ2 2) (up (γ2 2).2.2 e 2)) ≠ nS H := fun q => c (by
              show ((nS (wK (γ2 2) (up (γ2 2).2.2 e 2)) : Nat) : Int) = (nS H : Int)
              omega)
            have ee : esH (γ2 2) e = wK (γ2 2) (up (γ2 2).2.2 e 3) := if_neg (by rw [h6]; exact c)
            rw [ee] at h8 h9
            have c3 := ease_one h4 e1 e3.1.1 e3.1.2 (by rw [h6]; exact c)
            rw [h6] at c3
            have hW3 : nG (wK (γ2 2) (up (γ2 2).2.2 e 3)) := nG_up h3 e1
            have vW3 : vG (wK (γ2 2) (up (γ2 2).2.2 e 3)) := vG_up h4 e (by decide)
            refine S_change e (gi rfl) rfl (by rw [up_ne (by decide), up_self]; exact e1) (by decide) ?_
            rw [up_ne (show 2 ≠ 11 by decide), up_self, up_up]
            have := ih (by omega) m5 (up (up (up (up γ2 11 (γ2 2)) 2 ((γ2 2).1, (γ2 2).2.1, up (γ2 2).2.2 e 2)) 11 ((γ2 2).1, (γ2 2).2.1, up (γ2 2).2.2 e 2)) 2 (wK (γ2 2) (up (γ2 2).2.2 e 3))) (n + 1) (hC5.nx (Or.inl rfl)) (fun b hb => (hr5 b hb).trans ((hr3 b hb).trans (h2 b hb))) (by rw [up_self]; exact hW3) (by rw [up_self]; exact vW3) (by rw [up_self]; omega) (by rw [up_self]; exact c3) (by omega) (by rw [up_self]; exact h8) (by rw [up_self]; omega)
            exact this
    have := loop 24 (Nat.le_refl _) m1 (up (up γ 2 H) 11 H) 0 hC1 hr (by rw [up_ne (by decide), up_self]; exact i4) (by rw [up_ne (by decide), up_self]; exact i3) (by rw [up_ne (by decide), up_self]; omega) (by rw [up_ne (by decide), up_self]) rfl (by rw [up_ne (by decide), up_self]) (by rw [up_ne (by decide), up_self]; omega)
    exact this
theorem R_eases {s : Int} (hR : RI m a) (hs : rJ s) (hQ : ∀ m1, clS m m1 → RI m1 (n_eases a s) → Q (v_eases a s) m1 γ t) : TI E (k + 6) 288 [.ref 158, .int (iI s)] m γ t Q := by
  unfold v_eases n_eases at hQ
  refine vc_X9_eases hs (S_isLaid hR hs (fun c => b0 ?_) (fun m1 c hf hG hS hP => b1 ?_))
  · have := hQ m
    rw [ift_f c, ifA_f c] at this
    exact this (fun _ _ => rfl) hR
  · rw [ift_t c, ifA_t c] at hQ
    have hn := (hR.2.2.2.2.1 s.toNat (by have := c.1; have := c.2.1; omega)).2
    generalize hH : a.1 s.toNat = H at *
    refine S_firstKinkR hG hP ?_
    have hX := nX_le hG.2.2.1
    have loop : ∀ f : Nat, f ≤ 24 → ∀ (m2 : MM) (G : GV) (n : Nat), fr SL SF m m2 → RG m2 G → RS m2 G → RP m2 G → nG G → nX G ≤ (f : Int) → n + f = 24 → (esF f G).1 = (esF 24 H).1 → n + (esF f G).2 = (esF 24 H).2 → hd_X9_eases_18 E (k + 5) s s (n : Int) (fsP (knk G) (gn G.1 G.2.1)) m2 γ t Q := by
      intro f
      induction f with
      | zero =>
        intro _ m2 G n h1 h2 h3 h4 h5 h6 h7 h8 h9
        have q := knk0 (by omega : nX G ≤ 0)
        rw [q]
        refine vc_X9_eases_18 hs hs (by omega) (by omega) ⟨fun _ => ?_, fun z => absurd rfl z⟩
        refine S_putsA (hR.move h1) h2 ⟨c.1, c.2.1⟩ (by omega) (fun m3 hc3 hR3 => ?_)
        rw [esF_n q] at h8 h9
        have h8 : G = (esF 24 H).1 := h8
        have h9 : n + 0 = (esF 24 H).2 := h9
        rw [nrm_id h5, h8] at hR3
        have := hQ m3 ((h1.cl (by decide)).trans hc3) hR3
        rw [show (((esF 24 H).2 : Nat) : Int) = (n : Int) by omega] at this
        exact this
      | succ f ih =>
        intro hf2 m2 G n h1 h2 h3 h4 h5 h6 h7 h8 h9
        have hle := h2.le
        rcases fsP_sp (P := knk G) (gn G.1 G.2.1) with ⟨q, -⟩ | ⟨e, e1, e2, e3⟩
        · rw [q]
          refine vc_X9_eases_18 hs hs (by omega) (by omega) ⟨fun _ => ?_, fun z => absurd rfl z⟩
          refine S_putsA (hR.move h1) h2 ⟨c.1, c.2.1⟩ (by omega) (fun m3 hc3 hR3 => ?_)
          rw [esF_n q] at h8 h9
          have h8 : G = (esF 24 H).1 := h8
          have h9 : n + 0 = (esF 24 H).2 := h9
          rw [nrm_id h5, h8] at hR3
          have := hQ m3 ((h1.cl (by decide)).trans hc3) hR3
          rw [show (((esF 24 H).2 : Nat) : Int) = (n : Int) by omega] at this
          exact this
        · have es := esF_s e2 f
          rw [es] at h8 h9
          have h8 : (esF f (esH G e)).1 = (esF 24 H).1 := h8
          have h9 : n + ((esF f (esH G e)).2 + 1) = (esF 24 H).2 := h9
          rw [e2]
          refine vc_X9_eases_18 hs hs (by omega) (by omega) ⟨fun z => absurd z (by omega), fun _ => ⟨by omega, ?_⟩⟩
          rw [Int.toNat_natCast]
          have nx2 := nX_up (z := 2) e1 e3.1.1 (Or.inl rfl)
          have nx3 := nX_up (z := 3) e1 e3.1.1 (Or.inr rfl)
          have hG1 := RG_set h2 e1 (d := 2) (by decide)
          have f1 : fr SL SF m2 (up m2 162 (up (m2 162) e 2)) := fr.refl.upa 162 (by decide) (by decide)
          refine S_goes hG1 (fun m6 f6 hS6 => ?_)
          have f6' : fr SL SF (up m2 162 (up (m2 162) e 2)) m6 := f6.mono (by decide) (by decide)
          have hG6 := hG1.fr f6 (by decide) (by decide) (by decide) (by decide) (by decide) (by decide) (by decide)
          rw [hS6.2.2, h3.2.2]
          have e6 : m6 162 = up (m2 162) e 2 := by
            rw [f6.1 162 (by decide) (by decide), up_self]
          refine ⟨fun cc => ⟨by omega, ?_⟩, fun cc => ⟨by omega, ?_⟩⟩
          · have cc : nS (wK G (up G.2.2 e 2)) = nS G := by
              have cc : ((nS (wK G (up G.2.2 e 2)) : Nat) : Int) = (nS G : Int) := cc
              omega
            have ee : esH G e = wK G (up G.2.2 e 2) := if_pos cc
            rw [ee] at h8 h9
            have hG7 := RG_set hG6 (e := e) e1 (d := 2) (by decide)
            have f7 : fr SL SF m6 (up m6 162 (up (m6 162) e 2)) := fr.refl.upa 162 (by decide) (by decide)
            dsimp only at hG7
            rw [up_up] at hG7
            refine S_laysPassings hG7 (fun m8 f8 hG8 hS8 hP8 => S_firstKinkR hG8 hP8 ?_)
            exact ih (by omega) m8 (wK G (up G.2.2 e 2)) (n + 1) (h1.trans (f1.trans (f6'.trans (f7.trans (f8.mono (by decide) (by decide)))))) hG8 hS8 hP8 (nG_up h5 e1) (by omega) (by omega) h8 (by omega)
          · have cc : nS (wK G (up G.2.2 e 2)) ≠ nS G := fun q => cc (by
              show ((nS (wK G (up G.2.2 e 2)) : Nat) : Int) = (nS G : Int)
              omega)
            have ee : esH G e = wK G (up G.2.2 e 3) := if_neg cc
            rw [ee] at h8 h9
            have hG7 := RG_set hG6 (e := e) e1 (d := 3) (by decide)
            have f7 : fr SL SF m6 (up m6 162 (up (m6 162) e 3)) := fr.refl.upa 162 (by decide) (by decide)
            dsimp only at hG7
            rw [up_up (f := G.2.2)] at hG7
            refine S_laysPassings hG7 (fun m8 f8 hG8 hS8 hP8 => S_firstKinkR hG8 hP8 ?_)
            exact ih (by omega) m8 (wK G (up G.2.2 e 3)) (n + 1) (h1.trans (f1.trans (f6'.trans (f7.trans (f8.mono (by decide) (by decide)))))) hG8 hS8 hP8 (nG_up h5 e1) (by omega) (by omega) h8 (by omega)
    have := loop 24 (Nat.le_refl _) m1 H 0 hf hG hS hP hn (by omega) rfl rfl (by omega)
    exact this
end ES
