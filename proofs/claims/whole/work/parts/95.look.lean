/-! ===== look, needs ===== -/
def lk (G : GV) (w : Int) : Int := if w = 0 then G.1 else if w = 1 then G.2.1 else if w = 2 then gn G.1 G.2.1 else if w = 3 then nX G else if w = 4 then cnt G.2.2 1 (gn G.1 G.2.1) else if w = 5 then cnt G.2.2 2 (gn G.1 G.2.1) else if w = 6 then cnt G.2.2 3 (gn G.1 G.2.1) else if w = 7 then nS G else pcs G
noncomputable def v_look (a : AST) (s w : Int) : Int := ift (isG a.1 s ∧ 0 ≤ w ∧ w ≤ 8) (lk (a.1 s.toNat) w) (-2)
noncomputable def v_needs (a : AST) (s : Int) : Int := ift (isG a.1 s) (if pcs (a.1 s.toNat) = 1 then (nS (a.1 s.toNat) : Int) - 1 else -1) (-2)
theorem CI.p27 {m m1 : MM} {γ : GM} {a : AST} (h : CI m γ a) (hb : ∀ b, b ≠ 27 → m1 b = m b) : CI m1 γ a := by
  refine h.move ⟨fun b h2 => hb b (by omega), fun _ _ => rfl⟩ ⟨h.2.1.1, ?_⟩ (h.2.2.1.move ⟨fun b h1 h2 => hb b (by omega), rfl⟩)
  have hT := h.2.1.2
  unfold TrOK at hT ⊢
  rw [hb 10 (by decide), hb 15 (by decide), hb 16 (by decide), hb 17 (by decide), hb 18 (by decide), hb 19 (by decide), hb 20 (by decide), hb 21 (by decide), hb 22 (by decide), hb 23 (by decide), hb 24 (by decide), hb 25 (by decide), hb 26 (by decide)]
  exact hT
section L1
variable {E : am_E} {k : Nat} {m : MM} {γ : GM} {t : am_H} {a : AST} {Q : Int → MM → GM → am_H → Prop}
theorem C_look {s w : Int} (hC : CI m γ a) (hs : rJ s) (hw : rJ w) (hQ : ∀ m1 γ1, CI m1 γ1 a → rsame m m1 → Q (v_look a s w) m1 γ1 t) : TI E (k + 6) 134 [.ref 0, .int (iI s), .int (iI w)] m γ t Q := by
  unfold v_look at hQ
  have h0 : ¬ (isG a.1 s ∧ 0 ≤ w ∧ w ≤ 8) → Q (-2) m γ t := fun h => by
    have := hQ m γ hC (fun _ _ => rfl)
    rw [ift_f h] at this
    exact this
  refine vc_X8_look hs hw (S_gridIn hC hs (fun c1 => oN (h0 (fun h => c1 h.1))) (fun c1 => oSm ?_))
  obtain ⟨i1, i2, i3, i4, -⟩ := c1.i hC
  have hQ1 : 0 ≤ w ∧ w ≤ 8 → ∀ m1 γ1, CI m1 γ1 a → rsame m m1 → Q (lk (a.1 s.toNat) w) m1 γ1 t := fun hok m1 γ1 h1 h2 => by
    have := hQ m1 γ1 h1 h2
    rw [ift_t ⟨c1, hok⟩] at this
    exact this
  have hQ2 : 0 ≤ w ∧ w ≤ 8 → Q (lk (a.1 s.toNat) w) m γ t := fun hok => hQ1 hok m γ hC (fun _ _ => rfl)
  unfold lk at hQ1 hQ2
  refine ⟨i1, fun c => S_rows i1 (fun _ => ?_), fun c => ⟨fun c2 => S_columns i1 (fun _ => ?_), fun c2 => ⟨fun c3 => S_edges i1 (fun _ => ?_), fun c3 => ⟨fun c4 => S_gcrosses i1 (fun _ => ?_), fun c4 => ⟨fun c5 => S_howMany i1 (by decide) (fun _ => ?_), fun c5 => ⟨fun c6 => S_howMany i1 (by decide) (fun _ => ?_), fun c6 => ⟨fun c7 => S_howMany i1 (by decide) (fun _ => ?_), fun c7 => ⟨fun c8 => S_strandsOf hC c1 (fun m1 γ1 hC1 hr => ?_), fun c8 => ⟨fun c9 => S_traceOf hC c1 (fun m1 γ1 hC1 hT hγ hr _ => ⟨rfl, S_pieces hT i3 hγ (fun m2 hb => ?_)⟩), fun c9 => h0 (fun h => by omega)⟩⟩⟩⟩⟩⟩⟩⟩⟩
  · rw [i2]
    have := hQ2 (by omega)
    rw [if_pos c] at this
    exact this
  · rw [i2]
    have := hQ2 (by omega)
    rw [if_neg c, if_pos c2] at this
    exact this
  · rw [i2]
    have := hQ2 (by omega)
    rw [if_neg c, if_neg c2, if_pos c3] at this
    exact this
  · rw [i2]
    have := hQ2 (by omega)
    rw [if_neg c, if_neg c2, if_neg c3, if_pos c4] at this
    exact this
  · rw [i2]
    have := hQ2 (by omega)
    rw [if_neg c, if_neg c2, if_neg c3, if_neg c4, if_pos c5] at this
    exact this
  · rw [i2]
    have := hQ2 (by omega)
    rw [if_neg c, if_neg c2, if_neg c3, if_neg c4, if_neg c5, if_pos c6] at this
    exact this
  · rw [i2]
    have := hQ2 (by omega)
    rw [if_neg c, if_neg c2, if_neg c3, if_neg c4, if_neg c5, if_neg c6, if_pos c7] at this
    exact this
  · have := hQ1 (by omega) m1 γ1 hC1 hr
    rw [if_neg c, if_neg c2, if_neg c3, if_neg c4, if_neg c5, if_neg c6, if_neg c7, if_pos c8] at this
    exact this
  · have := hQ1 (by omega) m2 γ1 (hC1.p27 hb) (fun b h => (hb b (by omega)).trans (hr b h))
    rw [if_neg c, if_neg c2, if_neg c3, if_neg c4, if_neg c5, if_neg c6, if_neg c7, if_neg c8] at this
    exact this
theorem cnt_how {G : GV} (hG : RG m G) (d : Int) : cnt (m 162) d (gn G.1 G.2.1) = cnt G.2.2 d (gn G.1 G.2.1) := by
  have : ∀ n, n ≤ gn G.1 G.2.1 → cnt (m 162) d n = cnt G.2.2 d n := by
    intro n
    induction n with
    | zero => intro _; rfl
    | succ n ih => intro hn; simp only [cnt]; rw [ih (by omega), hG.2.1 n (by omega)]
  exact this _ (Nat.le_refl _)
theorem R_look {s w : Int} (hR : RI m a) (hs : rJ s) (hw : rJ w) (ht : t.length < 900000) (hQ : ∀ m1 t1, fr SL SF m m1 → (t1 = t ∨ ∃ F, t1 = t ++ [cI 64 F]) → Q (v_look a s w) m1 γ t1) : TI E (k + 5) 235 [.ref 158, .int (iI s), .int (iI w)] m γ t Q := by
  unfold v_look at hQ
  have h0 : ¬ (isG a.1 s ∧ 0 ≤ w ∧ w ≤ 8) → Q (-2) m γ t := fun h => by
    have := hQ m t fr.refl (Or.inl rfl)
    rw [ift_f h] at this
    exact this
  refine vc_X9_look hs hw (S_in (by omega) (by decide) (by decide) (fun c0 => b1 (S_isLaid hR hs (fun c1 => b0 (h0 (fun h => c1 h.1))) (fun m1 c1 hf hG hS hP => b1 ?_))) (fun c0 => b0 (h0 (fun h => c0 h.2))))
  have hQ1 : ∀ t1, (t1 = t ∨ ∃ F, t1 = t ++ [cI 64 F]) → Q (lk (a.1 s.toNat) w) m1 γ t1 := fun t1 h => by
    have := hQ m1 t1 hf h
    rw [ift_t ⟨c1, c0⟩] at this
    exact this
  have hQ2 := hQ1 t (Or.inl rfl)
  unfold lk at hQ1 hQ2
  have hle := hG.le
  refine ⟨fun c => ?_, fun c => ⟨fun c2 => ?_, fun c2 => ⟨fun c3 => ?_, fun c3 => ⟨fun c4 => S_crosses hG.1.2.2.1 hle.2.2.2.2.1 ?_, fun c4 => ⟨fun c5 => S_many (by decide) hG.1.2.2.1 hle.2.2.2.2.1 ?_, fun c5 => ⟨fun c6 => S_many (by decide) hG.1.2.2.1 hle.2.2.2.2.1 ?_, fun c6 => ⟨fun c7 => S_many (by decide) hG.1.2.2.1 hle.2.2.2.2.1 ?_, fun c7 => ⟨fun c8 => ?_, fun c8 => S_piecesOf hG hS hP ht (fun t1 h1 => ?_)⟩⟩⟩⟩⟩⟩⟩⟩
  · rw [if_pos c] at hQ2
    rw [hG.1.1]
    exact hQ2
  · rw [if_neg c, if_pos c2] at hQ2
    rw [hG.1.2.1]
    exact hQ2
  · rw [if_neg c, if_neg c2, if_pos c3] at hQ2
    rw [hG.1.2.2.1]
    exact hQ2
  · rw [if_neg c, if_neg c2, if_neg c3, if_pos c4] at hQ2
    rw [cnt_how hG, cnt_how hG]
    exact hQ2
  · rw [if_neg c, if_neg c2, if_neg c3, if_neg c4, if_pos c5] at hQ2
    rw [cnt_how hG]
    exact hQ2
  · rw [if_neg c, if_neg c2, if_neg c3, if_neg c4, if_neg c5, if_pos c6] at hQ2
    rw [cnt_how hG]
    exact hQ2
  · rw [if_neg c, if_neg c2, if_neg c3, if_neg c4, if_neg c5, if_neg c6, if_pos c7] at hQ2
    rw [cnt_how hG]
    exact hQ2
  · rw [if_neg c, if_neg c2, if_neg c3, if_neg c4, if_neg c5, if_neg c6, if_neg c7, if_pos c8] at hQ2
    rw [hS.2.2]
    exact hQ2
  · have := hQ1 t1 (Or.inr h1)
    rw [if_neg c, if_neg c2, if_neg c3, if_neg c4, if_neg c5, if_neg c6, if_neg c7, if_neg c8] at this
    exact this
theorem C_needs {s : Int} (hC : CI m γ a) (hs : rJ s) (hQ : ∀ m1 γ1, CI m1 γ1 a → rsame m m1 → Q (v_needs a s) m1 γ1 t) : TI E (k + 6) 160 [.ref 0, .int (iI s)] m γ t Q := by
  unfold v_needs at hQ
  refine vc_X8_needs hs (S_gridIn hC hs (fun c1 => oN ?_) (fun c1 => oSm ⟨(c1.i hC).1, S_traceOf hC c1 (fun m1 γ1 hC1 hT hγ hr _ => ⟨rfl, S_pieces hT (c1.i hC).2.2.1 hγ (fun m2 hb => ⟨fun c2 => vc_X7_strands ?_, fun c2 => ?_⟩)⟩)⟩))
  · have := hQ m γ hC (fun _ _ => rfl)
    rw [ift_f c1] at this
    exact this
  · have := hQ m2 γ1 (hC1.p27 hb) (fun b h => (hb b (by omega)).trans (hr b h))
    have hn := nS_nC (a.1 s.toNat)
    have h64 := nC_le64 (c1.i hC).2.2.1
    rw [ift_t c1, if_pos c2] at this
    unfold W_X7_strands
    rw [hb 10 (by decide), hT.2.2.2.2]
    exact ⟨by omega, this⟩
  · have := hQ m2 γ1 (hC1.p27 hb) (fun b h => (hb b (by omega)).trans (hr b h))
    rw [ift_t c1, if_neg c2] at this
    exact this
theorem R_needs {s : Int} (hR : RI m a) (hs : rJ s) (ht : t.length < 900000) (hQ : ∀ m1 t1, fr SL SF m m1 → (t1 = t ∨ ∃ F, t1 = t ++ [cI 64 F]) → Q (v_needs a s) m1 γ t1) : TI E (k + 5) 284 [.ref 158, .int (iI s)] m γ t Q := by
  unfold v_needs at hQ
  refine vc_X9_needs hs (S_isLaid hR hs (fun c1 => b0 ?_) (fun m1 c1 hf hG hS hP => b1 (S_piecesOf hG hS hP ht (fun t1 h1 => ?_))))
  · have := hQ m t fr.refl (Or.inl rfl)
    rw [ift_f c1] at this
    exact this
  · have := hQ m1 t1 hf (Or.inr h1)
    have hn := nS_nC (a.1 s.toNat)
    have h64 := nC_le64 hG.2.2.1
    rw [ift_t c1] at this
    rw [hS.2.2]
    refine ⟨fun c2 => ⟨by omega, ?_⟩, fun c2 => ?_⟩
    · rw [if_pos c2] at this
      exact this
    · rw [if_neg c2] at this
      exact this
end L1
