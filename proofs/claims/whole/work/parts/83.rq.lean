/-! ===== the reference: looks at a grid ===== -/
/-- rows and fields of the reference that a look may change -/
abbrev SL : List Nat := [160, 162, 163, 164, 165, 166, 167, 168, 169, 170, 171, 172, 173, 174, 175, 176, 177, 178, 179, 180, 181, 183, 184, 185, 186, 187, 188, 189, 190, 191, 192, 193]
abbrev SF : List Nat := [4, 5, 6, 16, 17, 18, 19, 35, 36, 37, 38, 39, 41]
/-- what is undone: the states before, from the present one -/
def unw : (Nat → GV) → List (Nat × GV) → List (Nat → GV)
  | _, [] => []
  | g, (s, p) :: r => gset g s p :: unw (gset g s p) r
def TPr (m : MM) (tp : List Int) (f : Int × Int) : Prop := m 158 32 = (tp.length : Int) ∧ (∀ i, (h : i < tp.length) → m 182 i = tp[i]) ∧ m 158 33 = f.1 ∧ m 158 34 = f.2
def OUr (m : MM) (ou : List Int) : Prop := m 158 53 = (ou.length : Int) ∧ ∀ i, (h : i < ou.length) → m 194 i = ou[i]
def RI (m : MM) (a : AST) : Prop := EN (m 159) a.1 ∧ KP m (unw a.1 a.2.1) ∧ TPr m a.2.2.1 a.2.2.2.1 ∧ OUr m a.2.2.2.2 ∧ (∀ s, s < 3 → vG (a.1 s) ∧ nG (a.1 s)) ∧ a.2.2.1.length ≤ 400 ∧ a.2.2.2.2.length ≤ 400
theorem RI.move {m m1 : MM} {a : AST} (h : RI m a) (hf : fr SL SF m m1) : RI m1 a := by
  obtain ⟨h1, h2, h3, h4, h5⟩ := h
  refine ⟨by rw [hf.1 159 (by decide) (by decide)]; exact h1, h2.fr hf (by decide) (by decide), ?_, ?_, h5⟩
  · unfold TPr
    rw [hf.2 32 (by decide), hf.2 33 (by decide), hf.2 34 (by decide), hf.1 182 (by decide) (by decide)]
    exact h3
  · unfold OUr
    rw [hf.2 53 (by decide), hf.1 194 (by decide) (by decide)]
    exact h4
section R6
variable {E : am_E} {k : Nat} {m : MM} {γ : GM} {t : am_H} {a : AST} {Q : Int → MM → GM → am_H → Prop}
theorem S_isLaid {s : Int} (hR : RI m a) (hs : rJ s) (q0 : ¬ isG a.1 s → Q 0 m γ t) (q1 : ∀ m1, isG a.1 s → fr SL SF m m1 → RG m1 (a.1 s.toNat) → RS m1 (a.1 s.toNat) → RP m1 (a.1 s.toNat) → Q 1 m1 γ t) : TI E (k + 4) 216 [.ref 158, .int (iI s)] m γ t Q := by
  refine vc_X9_isLaid hs (S_isGrid hR.1 hs (fun c => b1 ?_) (fun c => b0 (q0 c)))
  have hv := (hR.2.2.2.2.1 s.toNat (by have := c.1; have := c.2.1; omega)).1
  refine S_lays hR.1 c hv (fun m1 hf1 hG1 => S_laysPassings hG1 (fun m2 hf2 hG2 hS2 hP2 => ?_))
  exact q1 m2 c ((hf1.mono (by decide) (by decide)).trans (hf2.mono (by decide) (by decide))) hG2 hS2 hP2
theorem S_isStrand {s x : Int} (hR : RI m a) (hs : rJ s) (hx : rJ x) (q0 : ∀ m1, ¬ isT a s x → fr SL SF m m1 → Q 0 m1 γ t) (q1 : ∀ m1, isG a.1 s → 0 ≤ x ∧ x < nS (a.1 s.toNat) → fr SL SF m m1 → RG m1 (a.1 s.toNat) → RS m1 (a.1 s.toNat) → RP m1 (a.1 s.toNat) → Q 1 m1 γ t) : TI E (k + 5) 217 [.ref 158, .int (iI s), .int (iI x)] m γ t Q := by
  refine vc_X9_isStrand hs hx (S_isLaid hR hs (fun c => b0 (q0 m (fun h => c h.1) fr.refl)) (fun m1 c hf hG hS hP => b1 ?_))
  have hn := nS_nC (a.1 s.toNat)
  have h64 := nC_le64 hG.2.2.1
  rw [hS.2.2]
  refine ⟨by omega, S_in (by omega) (by decide) (by omega) (fun c2 => b1 (q1 m1 c (by omega) hf hG hS hP)) (fun c2 => b0 (q0 m1 (fun h => c2 ?_) hf))⟩
  have := h.2
  omega
theorem S_isCorner {s c x : Int} (hR : RI m a) (hs : rJ s) (hc : rJ c) (hx : rJ x) (q0 : ∀ m1, ¬ isCo a s c x → fr SL SF m m1 → Q 0 m1 γ t) (q1 : ∀ m1, isCo a s c x → fr SL SF m m1 → RG m1 (a.1 s.toNat) → RS m1 (a.1 s.toNat) → RP m1 (a.1 s.toNat) → Q 1 m1 γ t) : TI E (k + 5) 218 [.ref 158, .int (iI s), .int (iI c), .int (iI x)] m γ t Q := by
  refine vc_X9_isCorner hs hc hx (S_isLaid hR hs (fun c => b0 (q0 m (fun h => c h.1) fr.refl)) (fun m1 c1 hf hG hS hP => b1 ?_))
  have hle := hG.le
  have hRC : (a.1 s.toNat).1 * (a.1 s.toNat).2.1 ≤ 16 := Nat.mul_le_mul hle.1 hle.2.1
  refine S_cells hG.1 hle.1 hle.2.1 ⟨by omega, S_in (by omega) (by decide) (by omega) (fun c2 => b1 (S_in (by omega) (by decide) (by decide) (fun c3 => b1 (q1 m1 ⟨c1, by omega, by omega⟩ hf hG hS hP)) (fun c3 => b0 (q0 m1 (fun h => c3 ?_) hf)))) (fun c2 => b0 (q0 m1 (fun h => c2 ?_) hf))⟩
  · have := h.2.2
    omega
  · have := h.2.1
    omega
theorem S_isEdge {s e : Int} (hR : RI m a) (hs : rJ s) (he : rJ e) (q0 : ∀ m1, ¬ isE a s e → fr SL SF m m1 → Q 0 m1 γ t) (q1 : ∀ m1, isE a s e → fr SL SF m m1 → RG m1 (a.1 s.toNat) → RS m1 (a.1 s.toNat) → RP m1 (a.1 s.toNat) → Q 1 m1 γ t) : TI E (k + 5) 219 [.ref 158, .int (iI s), .int (iI e)] m γ t Q := by
  refine vc_X9_isEdge hs he (S_isLaid hR hs (fun c => b0 (q0 m (fun h => c h.1) fr.refl)) (fun m1 c1 hf hG hS hP => b1 ?_))
  have hle := hG.le
  rw [hG.1.2.2.1]
  refine ⟨by omega, S_in (by omega) (by decide) (by omega) (fun c2 => b1 (q1 m1 ⟨c1, by omega, by omega⟩ hf hG hS hP)) (fun c2 => b0 (q0 m1 (fun h => c2 ?_) hf))⟩
  have := h.2
  omega
theorem S_areStrands {s x y : Int} (hR : RI m a) (hs : rJ s) (hx : rJ x) (hy : rJ y) (q0 : ∀ m1, ¬ (isT a s x ∧ isT a s y) → fr SL SF m m1 → Q 0 m1 γ t) (q1 : ∀ m1, isT a s x → isT a s y → fr SL SF m m1 → RG m1 (a.1 s.toNat) → RS m1 (a.1 s.toNat) → RP m1 (a.1 s.toNat) → Q 1 m1 γ t) : TI E (k + 6) 243 [.ref 158, .int (iI s), .int (iI x), .int (iI y)] m γ t Q := by
  refine vc_X9_areStrands hs hx hy (S_isStrand hR hs hx (fun m1 c hf => b0 (q0 m1 (fun h => c h.1) hf)) (fun m1 c c2 hf hG hS hP => b1 ?_))
  have hn := nS_nC (a.1 s.toNat)
  have h64 := nC_le64 hG.2.2.1
  rw [hS.2.2]
  refine ⟨by omega, S_in (by omega) (by decide) (by omega) (fun c3 => b1 (q1 m1 ⟨c, c2⟩ ⟨c, by omega⟩ hf hG hS hP)) (fun c3 => b0 (q0 m1 (fun h => c3 ?_) hf))⟩
  have := h.2.2
  omega
theorem R_edge {s e : Int} (hR : RI m a) (hs : rJ s) (he : rJ e) (hQ : ∀ m1, fr SL SF m m1 → Q (v_edge a s e) m1 γ t) : TI E (k + 6) 236 [.ref 158, .int (iI s), .int (iI e)] m γ t Q := by
  unfold v_edge at hQ
  refine vc_X9_edge hs he (S_isEdge hR hs he (fun m1 c hf => b0 ?_) (fun m1 c hf hG hS hP => b1 ?_))
  · have := hQ m1 hf
    rw [ift_f c] at this
    exact this
  · have := hQ m1 hf
    have hle := hG.le
    have h2 := c.2
    rw [ift_t c] at this
    rw [hG.2.1 e.toNat (by omega)]
    exact ⟨by omega, this⟩
theorem R_name {s e w : Int} (hR : RI m a) (hs : rJ s) (he : rJ e) (hw : rJ w) (hQ : ∀ m1, fr SL SF m m1 → Q (v_name a s e w) m1 γ t) : TI E (k + 6) 237 [.ref 158, .int (iI s), .int (iI e), .int (iI w)] m γ t Q := by
  unfold v_name at hQ
  refine vc_X9_name hs he hw (S_isEdge hR hs he (fun m1 c hf => b0 ?_) (fun m1 c hf hG hS hP => b1 (S_in (by omega) (by decide) (by decide) (fun c2 => b1 ⟨fun c3 => ?_, fun c3 => ?_⟩) (fun c2 => b0 ?_))))
  · have := hQ m1 hf
    rw [ift_f (fun h => c h.1)] at this
    exact this
  · have := hQ m1 hf
    have hle := hG.le
    have h2 := c.2
    rw [ift_t ⟨c, by omega⟩, if_pos c3] at this
    rw [(hG.1.2.2.2.1 e.toNat (by omega)).1]
    exact ⟨by omega, this⟩
  · have := hQ m1 hf
    have hle := hG.le
    have h2 := c.2
    rw [ift_t ⟨c, by omega⟩, if_neg c3] at this
    rw [(hG.1.2.2.2.1 e.toNat (by omega)).2]
    exact ⟨by omega, this⟩
  · have := hQ m1 hf
    rw [ift_f (fun h => c2 (by have := h.2; omega))] at this
    exact this
theorem R_edgeOf {s c b : Int} (hR : RI m a) (hs : rJ s) (hc : rJ c) (hb : rJ b) (hQ : ∀ m1, fr SL SF m m1 → Q (v_edgeOf a s c b) m1 γ t) : TI E (k + 6) 238 [.ref 158, .int (iI s), .int (iI c), .int (iI b)] m γ t Q := by
  unfold v_edgeOf at hQ
  refine vc_X9_edgeOf hs hc hb (S_isCorner hR hs hc (by decide) (fun m1 c1 hf => b0 ?_) (fun m1 c1 hf hG hS hP => b1 (S_in (by omega) (by decide) (by decide) (fun c2 => b1 ?_) (fun c2 => b0 ?_))))
  · have := hQ m1 hf
    rw [ift_f (fun h => c1 h.1)] at this
    exact this
  · have := hQ m1 hf
    have hle := hG.le
    have hRC : (a.1 s.toNat).1 * (a.1 s.toNat).2.1 ≤ 16 := Nat.mul_le_mul hle.1 hle.2.1
    have h2 := c1.2.1
    rw [ift_t ⟨c1, by omega⟩] at this
    rw [show ((2 * c) + b).toNat = 2 * c.toNat + b.toNat by omega, hG.1.2.2.2.2 _ (by omega)]
    exact ⟨by omega, this⟩
  · have := hQ m1 hf
    rw [ift_f (fun h => c2 (by have := h.2; omega))] at this
    exact this
theorem R_strand {s c x : Int} (hR : RI m a) (hs : rJ s) (hc : rJ c) (hx : rJ x) (hQ : ∀ m1, fr SL SF m m1 → Q (v_strand a s c x) m1 γ t) : TI E (k + 6) 239 [.ref 158, .int (iI s), .int (iI c), .int (iI x)] m γ t Q := by
  unfold v_strand at hQ
  refine vc_X9_strand hs hc hx (S_isCorner hR hs hc hx (fun m1 c1 hf => b0 ?_) (fun m1 c1 hf hG hS hP => b1 ?_))
  · have := hQ m1 hf
    rw [ift_f c1] at this
    exact this
  · have := hQ m1 hf
    have h64 := nC_le64 hG.2.2.1
    have h2 := co_lt c1.2.1 c1.2.2
    have h3 := c1.2
    rw [ift_t c1] at this
    rw [show ((4 * c) + x).toNat = 4 * c.toNat + x.toNat by omega, (hS.1 _ h2).1]
    exact ⟨by omega, this⟩
theorem R_place {s c x : Int} (hR : RI m a) (hs : rJ s) (hc : rJ c) (hx : rJ x) (hQ : ∀ m1, fr SL SF m m1 → Q (v_place a s c x) m1 γ t) : TI E (k + 6) 240 [.ref 158, .int (iI s), .int (iI c), .int (iI x)] m γ t Q := by
  unfold v_place at hQ
  refine vc_X9_place hs hc hx (S_isCorner hR hs hc hx (fun m1 c1 hf => b0 ?_) (fun m1 c1 hf hG hS hP => b1 ?_))
  · have := hQ m1 hf
    rw [ift_f c1] at this
    exact this
  · have := hQ m1 hf
    have h64 := nC_le64 hG.2.2.1
    have h2 := co_lt c1.2.1 c1.2.2
    have h3 := c1.2
    rw [ift_t c1] at this
    rw [show ((4 * c) + x).toNat = 4 * c.toNat + x.toNat by omega, (hS.1 _ h2).2.1]
    exact ⟨by omega, this⟩
theorem R_paint {s c x : Int} (hR : RI m a) (hs : rJ s) (hc : rJ c) (hx : rJ x) (hQ : ∀ m1, fr SL SF m m1 → Q (v_paint a s c x) m1 γ t) : TI E (k + 6) 262 [.ref 158, .int (iI s), .int (iI c), .int (iI x)] m γ t Q := by
  unfold v_paint at hQ
  refine vc_X9_paint hs hc hx (S_isCorner hR hs hc hx (fun m1 c1 hf => b0 ?_) (fun m1 c1 hf hG hS hP => b1 ?_))
  · have := hQ m1 hf
    rw [ift_f c1] at this
    exact this
  · have := hQ m1 hf
    have h64 := nC_le64 hG.2.2.1
    have h2 := co_lt c1.2.1 c1.2.2
    have h3 := c1.2
    have h4 := (tP_rg hG.2.2.1 h2).1
    rw [ift_t c1] at this
    rw [show ((4 * c) + x).toNat = 4 * c.toNat + x.toNat by omega, (hS.1 _ h2).2.1]
    exact ⟨by omega, h4, this⟩
theorem S_lengthOf {G : GV} {z : Int} (s : Nat) (hG : vG G) (hS : RS m G) (hz : z = (s : Int)) (hs : s < nS G) (hQ : Q (ln G s : Int) m γ t) : TI E k 211 [.ref 158, .int (iI z)] m γ t Q := by
  have h64 := nC_le64 hG
  have hn := nS_nC G
  have hb := bg_lt hG hs
  have hb2 := bg_le hG (show s + 1 ≤ nS G by omega)
  subst hz
  refine vc_X9_lengthOf (by omega) ?_
  unfold W_X9_lengthOf
  rw [show ((s : Int) + 1).toNat = s + 1 by omega, Int.toNat_natCast, hS.2.1 (s + 1) (by omega), hS.2.1 s (by omega), tB_bg (by omega) hG, tB_bg (by omega) hG]
  refine ⟨by omega, by omega, by omega, ?_⟩
  rw [show (bg G (s + 1) : Int) - (bg G s : Int) = (ln G s : Int) by unfold ln; omega]
  exact hQ
theorem S_passings {G : GV} {z : Int} (s : Nat) (hG : vG G) (hP : RP m G) (hz : z = (s : Int)) (hs : s < nS G) (hQ : Q (pn G s : Int) m γ t) : TI E k 251 [.ref 158, .int (iI z)] m γ t Q := by
  have h64 := nC_le64 hG
  have hn := nS_nC G
  have hP' := nP_le hG
  have hb := pf_pn hG hs
  have e1 : pf G s = cp G (bg G s) := rfl
  subst hz
  refine vc_X9_passings (by omega) ?_
  unfold W_X9_passings
  rw [show ((s : Int) + 1).toNat = s + 1 by omega, Int.toNat_natCast, hP.2.2 (s + 1) (by omega), hP.2.2 s (by omega), pB_cp hG (by omega), pB_cp hG (by omega)]
  refine ⟨by omega, by omega, by omega, ?_⟩
  rw [show (cp G (bg G (s + 1)) : Int) - (cp G (bg G s) : Int) = (pn G s : Int) by omega]
  exact hQ
theorem R_walk {s x i : Int} (hR : RI m a) (hs : rJ s) (hx : rJ x) (hi : rJ i) (hQ : ∀ m1, fr SL SF m m1 → Q (v_walk a s x i) m1 γ t) : TI E (k + 6) 241 [.ref 158, .int (iI s), .int (iI x), .int (iI i)] m γ t Q := by
  unfold v_walk at hQ
  refine vc_X9_walk hs hx hi (S_isStrand hR hs hx (fun m1 c1 hf => b0 ?_) (fun m1 c1 c2 hf hG hS hP => b1 ⟨fun c3 => ?_, fun c3 => ?_⟩))
  · have := hQ m1 hf
    rw [ift_f (fun h => c1 h.1)] at this
    exact this
  · have := hQ m1 hf
    rw [ift_f (fun h => by have := h.2; omega)] at this
    exact this
  · have := hQ m1 hf
    have h64 := nC_le64 hG.2.2.1
    have hn := nS_nC (a.1 s.toNat)
    have hb2 := bg_le hG.2.2.1 (show x.toNat + 1 ≤ nS (a.1 s.toNat) by omega)
    rw [ift_t ⟨⟨c1, c2⟩, by omega⟩] at this
    refine S_lengthOf x.toNat hG.2.2.1 hS (by omega) (by omega) ⟨fun c4 => ?_, fun c4 => ?_⟩
    · have hl : ln (a.1 s.toNat) x.toNat = bg (a.1 s.toNat) (x.toNat + 1) - bg (a.1 s.toNat) x.toNat := rfl
      rw [ift_t c4] at this
      rw [hS.2.1 x.toNat (by omega), tB_bg (by omega) hG.2.2.1]
      refine ⟨by omega, by omega, ?_⟩
      rw [show ((bg (a.1 s.toNat) x.toNat : Int) + i).toNat = bg (a.1 s.toNat) x.toNat + i.toNat by omega, (hS.1 _ (by omega)).2.2.2]
      exact this
    · rw [ift_f c4] at this
      exact this
theorem R_length {s x : Int} (hR : RI m a) (hs : rJ s) (hx : rJ x) (hQ : ∀ m1, fr SL SF m m1 → Q (v_length a s x) m1 γ t) : TI E (k + 6) 242 [.ref 158, .int (iI s), .int (iI x)] m γ t Q := by
  unfold v_length at hQ
  refine vc_X9_length hs hx (S_isStrand hR hs hx (fun m1 c1 hf => b0 ?_) (fun m1 c1 c2 hf hG hS hP => b1 ?_))
  · have := hQ m1 hf
    rw [ift_f c1] at this
    exact this
  · have := hQ m1 hf
    rw [ift_t ⟨c1, c2⟩] at this
    exact S_lengthOf x.toNat hG.2.2.1 hS (by omega) (by omega) this
theorem R_passed {s x i : Int} (hR : RI m a) (hs : rJ s) (hx : rJ x) (hi : rJ i) (hQ : ∀ m1, fr SL SF m m1 → Q (v_passed a s x i) m1 γ t) : TI E (k + 6) 253 [.ref 158, .int (iI s), .int (iI x), .int (iI i)] m γ t Q := by
  unfold v_passed at hQ
  refine vc_X9_passed hs hx hi (S_isStrand hR hs hx (fun m1 c1 hf => b0 ?_) (fun m1 c1 c2 hf hG hS hP => b1 ⟨fun c3 => ?_, fun c3 => ?_⟩))
  · have := hQ m1 hf
    rw [ift_f (fun h => c1 h.1)] at this
    exact this
  · have := hQ m1 hf
    rw [ift_f (fun h => by have := h.2; omega)] at this
    exact this
  · have := hQ m1 hf
    have h64 := nC_le64 hG.2.2.1
    have hn := nS_nC (a.1 s.toNat)
    have hP' := nP_le hG.2.2.1
    have hb := pf_pn hG.2.2.1 (show x.toNat < nS (a.1 s.toNat) by omega)
    have e1 : pf (a.1 s.toNat) x.toNat = cp (a.1 s.toNat) (bg (a.1 s.toNat) x.toNat) := rfl
    rw [ift_t ⟨⟨c1, c2⟩, by omega⟩] at this
    refine S_passings x.toNat hG.2.2.1 hP (by omega) (by omega) ⟨fun c4 => ?_, fun c4 => ?_⟩
    · rw [ift_t c4] at this
      rw [hP.2.2 x.toNat (by omega), pB_cp hG.2.2.1 (by omega), ← e1]
      refine ⟨by omega, by omega, ?_⟩
      rw [show ((pf (a.1 s.toNat) x.toNat : Int) + i).toNat = pf (a.1 s.toNat) x.toNat + i.toNat by omega, (hP.2.1 _ (by omega)).1]
      exact this
    · rw [ift_f c4] at this
      exact this
theorem S_isOf {G : GV} {z x y : Int} (e : Nat) (hG : RG m G) (hP : RP m G) (hz : z = (e : Int)) (he : e < gn G.1 G.2.1) (hx : rJ x) (hy : rJ y) (hx0 : 0 ≤ x) (hy0 : 0 ≤ y) (q1 : crX G e → (oS G e = x ∧ uS G e = y ∨ oS G e = y ∧ uS G e = x) → Q 1 m γ t) (q0 : ¬ (oS G e = x ∧ uS G e = y ∨ oS G e = y ∧ uS G e = x) → Q 0 m γ t) : TI E (k + 1) 244 [.ref 158, .int (iI z), .int (iI x), .int (iI y)] m γ t Q := by
  have hle := hG.le
  subst hz
  have hk := hG.2.2.1.2 e he
  refine vc_X9_isOf (by omega) hx hy ⟨by omega, ?_⟩
  rw [Int.toNat_natCast, hG.2.1 e he]
  refine S_isCross (by omega) (fun c => b1 ⟨by omega, ?_⟩) (fun c => b0 (q0 ?_))
  · obtain ⟨p1, p2, -⟩ := hP.1 e he c
    rw [p1, p2]
    refine ⟨fun c1 => ⟨by omega, fun c2 => q1 c (Or.inl ⟨c1, c2⟩), fun c2 => ⟨by omega, fun c3 => ⟨by omega, fun c4 => q1 c (Or.inr ⟨c3, c4⟩), fun c4 => q0 (by omega)⟩, fun c3 => q0 (by omega)⟩⟩, fun c1 => ⟨by omega, fun c3 => ⟨by omega, fun c4 => q1 c (Or.inr ⟨c3, c4⟩), fun c4 => q0 (by omega)⟩, fun c3 => q0 (by omega)⟩⟩
  · have := xn hG.2.2.1 (e := e) c
    omega
end R6
