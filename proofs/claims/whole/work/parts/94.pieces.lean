/-! ===== pieces: strands that hang together by crosses ===== -/
def mrg (f : Nat → Int) (a b : Nat) : Nat → Int := fun i => if f i = f b then f a else f i
theorem mrg_rel {f : Nat → Int} {a b i j : Nat} : mrg f a b i = mrg f a b j ↔ f i = f j ∨ ((f i = f a ∨ f i = f b) ∧ (f j = f a ∨ f j = f b)) := by
  unfold mrg
  split <;> split <;> omega
def pst (G : GV) : Nat → (Nat → Int) × Int
  | 0 => (fun i => (i : Int), (nS G : Int))
  | e + 1 => if G.2.2 e = 0 ∨ G.2.2 e = 1 then (mrg (pst G e).1 (oS G e).toNat (uS G e).toNat, if (pst G e).1 (oS G e).toNat = (pst G e).1 (uS G e).toNat then (pst G e).2 else (pst G e).2 - 1) else pst G e
def pstR (G : GV) : Nat → (Nat → Int) × Int
  | 0 => (fun i => (i : Int), (nS G : Int))
  | e + 1 => if (G.2.2 e = 0 ∨ G.2.2 e = 1) ∧ (pstR G e).1 (oS G e).toNat ≠ (pstR G e).1 (uS G e).toNat then (mrg (pstR G e).1 (uS G e).toNat (oS G e).toNat, (pstR G e).2 - 1) else pstR G e
def pcs (G : GV) : Int := (pst G (gn G.1 G.2.1)).2
theorem pst_eq (G : GV) : ∀ e, (∀ i j, (pst G e).1 i = (pst G e).1 j ↔ (pstR G e).1 i = (pstR G e).1 j) ∧ (pst G e).2 = (pstR G e).2
  | 0 => ⟨fun _ _ => Iff.rfl, rfl⟩
  | e + 1 => by
    obtain ⟨h1, h2⟩ := pst_eq G e
    simp only [pst, pstR]
    by_cases c : G.2.2 e = 0 ∨ G.2.2 e = 1
    · rw [if_pos c]
      by_cases c2 : (pstR G e).1 (oS G e).toNat = (pstR G e).1 (uS G e).toNat
      · rw [if_pos ((h1 _ _).mpr c2), if_neg (show ¬ ((G.2.2 e = 0 ∨ G.2.2 e = 1) ∧ (pstR G e).1 (oS G e).toNat ≠ (pstR G e).1 (uS G e).toNat) from fun q => q.2 c2)]
        refine ⟨fun i j => ?_, h2⟩
        show mrg (pst G e).1 (oS G e).toNat (uS G e).toNat i = mrg (pst G e).1 (oS G e).toNat (uS G e).toNat j ↔ _
        have := (h1 (oS G e).toNat (uS G e).toNat).mpr c2
        rw [mrg_rel, ← h1 i j]
        omega
      · rw [if_neg (fun q => c2 ((h1 _ _).mp q)), if_pos (show (G.2.2 e = 0 ∨ G.2.2 e = 1) ∧ (pstR G e).1 (oS G e).toNat ≠ (pstR G e).1 (uS G e).toNat from ⟨c, c2⟩)]
        refine ⟨fun i j => ?_, by rw [h2]⟩
        show mrg (pst G e).1 (oS G e).toNat (uS G e).toNat i = mrg (pst G e).1 (oS G e).toNat (uS G e).toNat j ↔ mrg (pstR G e).1 (uS G e).toNat (oS G e).toNat i = mrg (pstR G e).1 (uS G e).toNat (oS G e).toNat j
        rw [mrg_rel, mrg_rel, h1 i j, h1 i (oS G e).toNat, h1 i (uS G e).toNat, h1 j (oS G e).toNat, h1 j (uS G e).toNat]
        constructor
        · rintro (h | ⟨h, h'⟩)
          · exact Or.inl h
          · exact Or.inr ⟨h.symm, h'.symm⟩
        · rintro (h | ⟨h, h'⟩)
          · exact Or.inl h
          · exact Or.inr ⟨h.symm, h'.symm⟩
    · rw [if_neg c, if_neg (fun q => c q.1)]
      exact ⟨h1, h2⟩
theorem xs_lt {G : GV} (hG : vG G) {e : Nat} (he : e < gn G.1 G.2.1) (hx : crX G e) : 0 ≤ oS G e ∧ oS G e < nS G ∧ 0 ≤ uS G e ∧ uS G e < nS G := by
  have hr := oP_rg hG he
  obtain ⟨y, -, -, -, -, h2, -⟩ := xo hG he hx
  obtain ⟨z, -, -, -, -, h2', -⟩ := xu hG he hx
  omega
theorem pst_rg {G : GV} (hG : vG G) : ∀ e, e ≤ gn G.1 G.2.1 → (∀ i, i < nS G → 0 ≤ (pst G e).1 i ∧ (pst G e).1 i < nS G) ∧ (nS G : Int) - e ≤ (pst G e).2 ∧ (pst G e).2 ≤ nS G
  | 0, _ => ⟨fun i hi => by show (0 : Int) ≤ (i : Int) ∧ (i : Int) < _; omega, by show (nS G : Int) - 0 ≤ (nS G : Int) ∧ (nS G : Int) ≤ _; omega⟩
  | e + 1, he => by
    obtain ⟨h1, h2, h3⟩ := pst_rg hG e (by omega)
    simp only [pst]
    by_cases c : G.2.2 e = 0 ∨ G.2.2 e = 1
    · rw [if_pos c]
      have hx := xs_lt hG (show e < gn G.1 G.2.1 by omega) c
      refine ⟨fun i hi => ?_, ?_⟩
      · show 0 ≤ mrg (pst G e).1 (oS G e).toNat (uS G e).toNat i ∧ mrg (pst G e).1 (oS G e).toNat (uS G e).toNat i < _
        unfold mrg
        split
        · exact h1 _ (by omega)
        · exact h1 i hi
      · dsimp only
        by_cases c2 : (pst G e).1 (oS G e).toNat = (pst G e).1 (uS G e).toNat
        · rw [if_pos c2]
          omega
        · rw [if_neg c2]
          omega
    · rw [if_neg c]
      exact ⟨h1, by omega, h3⟩
theorem pstR_rg {G : GV} (hG : vG G) : ∀ e, e ≤ gn G.1 G.2.1 → (∀ i, i < nS G → 0 ≤ (pstR G e).1 i ∧ (pstR G e).1 i < nS G)
  | 0, _ => fun i hi => by show (0 : Int) ≤ (i : Int) ∧ (i : Int) < _; omega
  | e + 1, he => by
    have h1 := pstR_rg hG e (by omega)
    simp only [pstR]
    split
    · next c =>
      have hx := xs_lt hG (show e < gn G.1 G.2.1 by omega) c.1
      intro i hi
      show 0 ≤ mrg (pstR G e).1 (uS G e).toNat (oS G e).toNat i ∧ mrg (pstR G e).1 (uS G e).toNat (oS G e).toNat i < _
      unfold mrg
      split
      · exact h1 _ (by omega)
      · exact h1 i hi
    · exact h1
section P1
variable {E : am_E} {k : Nat} {m : MM} {γ : GM} {t : am_H} {a : AST} {Q : Int → MM → GM → am_H → Prop} {G : GV}
theorem S_joinPieces {z1 z2 : Int} {f : Nat → Int} (x y : Nat) (hT : TrOK m G) (hG : vG G) (e1 : z1 = (x : Int)) (e2 : z2 = (y : Int)) (hx : x < nS G) (hy : y < nS G) (hf : ∀ i, i < nS G → m 27 i = f i) (q1 : ∀ m1, f x ≠ f y → (∀ b, b ≠ 27 → m1 b = m b) → (∀ i, i < nS G → m1 27 i = mrg f x y i) → Q 1 m1 γ t) (q0 : ∀ m1, f x = f y → (∀ b, b ≠ 27 → m1 b = m b) → (∀ i, i < nS G → m1 27 i = mrg f x y i) → Q 0 m1 γ t) : TI E (k + 1) 124 [.ref 10, .int (iI z1), .int (iI z2)] m γ t Q := by
  have h64 := nC_le64 hG
  have hn := nS_nC G
  subst e1 e2
  refine vc_X7_joinPieces (by omega) (by omega) (S_at 64 rfl rfl rfl (by decide) (by omega) (fun r1 => S_at 64 rfl rfl rfl (by decide) (by omega) (fun r2 => ?_)))
  rw [atn_in (by omega), hf x hx] at r1 ⊢
  rw [atn_in (by omega), hf y hy] at r2 ⊢
  refine upN (n := nS G) (P := fun s => ∀ m1, (∀ b, b ≠ 27 → m1 b = m b) → (∀ i, i < nS G → m1 27 i = if i < s then mrg f x y i else f i) → hd_X7_joinPieces_22 E k (x : Int) (y : Int) (f x) (f y) (s : Int) m1 γ t Q) ?_ ?_ 0 (Nat.zero_le _) m (fun _ _ => rfl) (fun i hi => by rw [if_neg (Nat.not_lt_zero _)]; exact hf i hi)
  · intro m1 hb hr
    have h10 : m1 10 1 = (nS G : Int) := by rw [hb 10 (by decide)]; exact hT.2.2.2.2
    have hr' : ∀ i, i < nS G → m1 27 i = mrg f x y i := fun i hi => by rw [hr i hi, if_pos hi]
    exact vc_X7_joinPieces_22 (by omega) (by omega) r1 r2 (by omega) ⟨fun q => absurd q (by omega), fun _ => ⟨fun q => q0 m1 q hb hr', fun q => q1 m1 q hb hr'⟩⟩
  · intro s hs ih m1 hb hr
    have h10 : m1 10 1 = (nS G : Int) := by rw [hb 10 (by decide)]; exact hT.2.2.2.2
    have hms : m1 27 s = f s := by rw [hr s hs, if_neg (Nat.lt_irrefl _)]
    refine vc_X7_joinPieces_22 (by omega) (by omega) r1 r2 (by omega) ⟨fun _ => S_at 64 rfl rfl rfl (by decide) (by omega) (fun _ => ?_), fun q => absurd (by omega) q⟩
    rw [atn_in (by omega), hms]
    refine ⟨fun q => S_put 64 rfl rfl (by decide) (by omega) r1 ?_, fun q => ?_⟩
    · rw [ptn_in (by omega)]
      refine ih _ (fun b h => by rw [up_ne h]; exact hb b h) (fun i hi => ?_)
      rw [up_self]
      by_cases e : i = s
      · subst e
        rw [up_self, if_pos (by omega)]
        unfold mrg
        rw [if_pos q]
      · rw [up_ne e, hr i hi]
        by_cases h2 : i < s
        · rw [if_pos h2, if_pos (by omega)]
        · rw [if_neg h2, if_neg (by omega)]
    · refine ih m1 hb (fun i hi => ?_)
      rw [hr i hi]
      by_cases e : i = s
      · subst e
        rw [if_neg (Nat.lt_irrefl _), if_pos (by omega)]
        unfold mrg
        rw [if_neg q]
      · by_cases h2 : i < s
        · rw [if_pos h2, if_pos (by omega)]
        · rw [if_neg h2, if_neg (by omega)]
theorem S_pieces (hT : TrOK m G) (hG : vG G) (hγ : γ 11 = G) (hQ : ∀ m1, (∀ b, b ≠ 27 → m1 b = m b) → Q (pcs G) m1 γ t) : TI E (k + 2) 123 [.ref 10] m γ t Q := by
  have h64 := nC_le64 hG
  have hn := nS_nC G
  have hgn := gn_le _ hG.1.le.1 _ hG.1.le.2
  have trok : ∀ m1 : MM, (∀ b, b ≠ 27 → m1 b = m b) → TrOK m1 G := fun m1 hb => by
    unfold TrOK at hT ⊢
    rw [hb 10 (by decide), hb 15 (by decide), hb 16 (by decide), hb 17 (by decide), hb 18 (by decide), hb 19 (by decide), hb 20 (by decide), hb 21 (by decide), hb 22 (by decide), hb 23 (by decide), hb 24 (by decide), hb 25 (by decide), hb 26 (by decide)]
    exact hT
  refine vc_X7_pieces ?_
  have second : ∀ e, e ≤ gn G.1 G.2.1 → ∀ m1, (∀ b, b ≠ 27 → m1 b = m b) → (∀ i, i < nS G → m1 27 i = (pst G e).1 i) → hd_X7_pieces_32 E (k + 1) (pst G e).2 (e : Int) m1 γ t Q := by
    refine upN ?_ ?_
    · intro m1 hb hr
      have hp := pst_rg hG (gn G.1 G.2.1) (Nat.le_refl _)
      refine vc_X7_pieces_32 (by omega) (by omega) (S_edges (gi rfl) (fun _ => ?_))
      rw [hγ]
      exact ⟨fun q => absurd q (by omega), fun _ => hQ m1 hb⟩
    · intro e he ih m1 hb hr
      have hp := pst_rg hG e (by omega)
      refine vc_X7_pieces_32 (by omega) (by omega) (S_edges (gi rfl) (fun _ => ?_))
      rw [hγ]
      refine ⟨fun _ => S_isCrossG e (gi rfl) rfl (by rw [hγ]; exact he) (fun c => b1 ?_) (fun c => b0 ?_), fun q => absurd (by omega) q⟩
      · rw [hγ] at c
        have hx := xs_lt hG he c
        have hT1 := trok m1 hb
        have e1 : pst G (e + 1) = (mrg (pst G e).1 (oS G e).toNat (uS G e).toNat, if (pst G e).1 (oS G e).toNat = (pst G e).1 (uS G e).toNat then (pst G e).2 else (pst G e).2 - 1) := if_pos c
        rw [e1] at ih
        simp only at ih
        refine S_overStrand e hT1 hG rfl he (S_underStrand e hT1 hG rfl he (S_joinPieces (oS G e).toNat (uS G e).toNat hT1 hG (by omega) (by omega) (by omega) (by omega) hr (fun m2 hne hb2 hr2 => b1 ?_) (fun m2 heq hb2 hr2 => b0 ?_)))
        · rw [if_neg hne] at ih
          exact ih m2 (fun b h => (hb2 b h).trans (hb b h)) hr2
        · rw [if_pos heq] at ih
          exact ih m2 (fun b h => (hb2 b h).trans (hb b h)) hr2
      · rw [hγ] at c
        have e1 : pst G (e + 1) = pst G e := if_neg c
        rw [e1] at ih
        exact ih m1 hb hr
  refine upN (n := nS G) (P := fun s => ∀ m1, (∀ b, b ≠ 27 → m1 b = m b) → (∀ i, i < s → m1 27 i = (i : Int)) → hd_X7_pieces_2 E (k + 1) (s : Int) m1 γ t Q) ?_ ?_ 0 (Nat.zero_le _) m (fun _ _ => rfl) (fun i h => absurd h (Nat.not_lt_zero _))
  · intro m1 hb hr
    have h10 : m1 10 1 = (nS G : Int) := by rw [hb 10 (by decide)]; exact hT.2.2.2.2
    refine vc_X7_pieces_2 (by omega) ⟨fun q => absurd q (by omega), fun _ => ?_⟩
    rw [h10]
    exact second 0 (Nat.zero_le _) m1 hb hr
  · intro s hs ih m1 hb hr
    have h10 : m1 10 1 = (nS G : Int) := by rw [hb 10 (by decide)]; exact hT.2.2.2.2
    refine vc_X7_pieces_2 (by omega) ⟨fun _ => S_put 64 rfl rfl (by decide) (by omega) (by omega) ?_, fun q => absurd (by omega) q⟩
    rw [ptn_in (by omega)]
    refine ih _ (fun b h => by rw [up_ne h]; exact hb b h) (fun i hi => ?_)
    rw [up_self]
    unfold up
    split
    · next e => rw [e]
    · exact hr i (by omega)
theorem S_piecesOf (hG : RG m G) (hS : RS m G) (hP : RP m G) (ht : t.length < 900000) (hQ : ∀ t1, (∃ F, t1 = t ++ [cI 64 F]) → Q (pcs G) m γ t1) : TI E (k + 1) 215 [.ref 158] m γ t Q := by
  have hv := hG.2.2.1
  have h64 := nC_le64 hv
  have hn := nS_nC G
  have hle := hG.le
  have h6 := hG.1.2.2.1
  have h16 := hS.2.2
  refine vc_X9_piecesOf ⟨ht, ?_⟩
  have third : ∀ (e : Nat) (y2 : Int) (F0 : Nat → Int), e < gn G.1 G.2.1 → rJ y2 → ∀ (x y : Nat), x < nS G → y < nS G → rJ (F0 x) → rJ (F0 y) → (∀ i, i < nS G → rJ (F0 i)) → (∀ F1, (∀ i, i < nS G → F1 i = mrg F0 y x i) → hd_X9_piecesOf_32 E k F1 t (y2 + (-1)) ((e : Int) + 1) m γ Q) → hd_X9_piecesOf_97 E k F0 t y2 (e : Int) (F0 x) (F0 y) 0 m γ Q := by
    intro e y2 F0 he hy2 x y hx hy rx ry rf hnext
    refine upN (n := nS G) (P := fun s => ∀ F1, (∀ i, i < nS G → F1 i = if i < s then mrg F0 y x i else F0 i) → hd_X9_piecesOf_97 E k F1 t y2 (e : Int) (F0 x) (F0 y) (s : Int) m γ Q) ?_ ?_ 0 (Nat.zero_le _) F0 (fun i hi => by rw [if_neg (Nat.not_lt_zero _)])
    · intro F1 hF
      exact vc_X9_piecesOf_97 ht hy2 (by omega) rx ry (by omega) ⟨fun q => absurd q (by omega), fun _ => hnext F1 (fun i hi => by rw [hF i hi, if_pos hi])⟩
    · intro s hs ih F1 hF
      have hFs : F1 s = F0 s := by rw [hF s hs, if_neg (Nat.lt_irrefl _)]
      refine vc_X9_piecesOf_97 ht hy2 (by omega) rx ry (by omega) ⟨fun _ => ⟨by omega, ?_⟩, fun q => absurd (by omega) q⟩
      rw [Int.toNat_natCast, hFs]
      refine ⟨rf s hs, fun q => ⟨by omega, ih _ (fun i hi => ?_)⟩, fun q => ⟨by omega, by omega, ih _ (fun i hi => ?_)⟩⟩
      · by_cases e : i = s
        · subst e
          rw [up_self, if_pos (by omega)]
          unfold mrg
          rw [if_pos q]
        · rw [up_ne e, hF i hi]
          by_cases h2 : i < s
          · rw [if_pos h2, if_pos (by omega)]
          · rw [if_neg h2, if_neg (by omega)]
      · by_cases e : i = s
        · subst e
          rw [up_self, if_pos (by omega)]
          unfold mrg
          rw [if_neg q]
        · rw [up_ne e, hF i hi]
          by_cases h2 : i < s
          · rw [if_pos h2, if_pos (by omega)]
          · rw [if_neg h2, if_neg (by omega)]
  have second : ∀ e, e ≤ gn G.1 G.2.1 → ∀ F, (∀ i, i < nS G → F i = (pstR G e).1 i) → hd_X9_piecesOf_32 E k F t (pstR G e).2 (e : Int) m γ Q := by
    refine upN ?_ ?_
    · intro F hF
      have hp := pst_rg hv (gn G.1 G.2.1) (Nat.le_refl _)
      have he2 := (pst_eq G (gn G.1 G.2.1)).2
      refine vc_X9_piecesOf_32 ht (by omega) (by omega) ⟨fun q => absurd q (by omega), fun _ => ?_⟩
      rw [← he2]
      exact hQ _ ⟨F, rfl⟩
    · intro e he ih F hF
      have hp := pst_rg hv e (by omega)
      have he2 := (pst_eq G e).2
      have hpr := pstR_rg hv e (by omega)
      have hk := hv.2 e he
      refine vc_X9_piecesOf_32 ht (by omega) (by omega) ⟨fun _ => ⟨by omega, ?_⟩, fun q => absurd (by omega) q⟩
      rw [Int.toNat_natCast, hG.2.1 e he]
      refine S_isCross (by omega) (fun c => ⟨rfl, b1 ⟨by omega, ?_⟩⟩) (fun c => ⟨rfl, b0 ?_⟩)
      · have hx := xs_lt hv he c
        rw [(hP.1 e he c).1, (hP.1 e he c).2.1]
        have f1 := hF (oS G e).toNat (by omega)
        have f2 := hF (uS G e).toNat (by omega)
        have g1 := hpr (oS G e).toNat (by omega)
        have g2 := hpr (uS G e).toNat (by omega)
        refine ⟨by omega, by omega, by omega, by omega, by omega, fun q => ?_, fun q => ⟨by omega, by omega, by omega, by omega, ?_⟩⟩
        · have e1 : pstR G (e + 1) = pstR G e := if_neg (fun z => z.2 (by rw [← f1, ← f2]; exact q))
          rw [e1] at ih
          exact ih F hF
        · have e1 : pstR G (e + 1) = (mrg (pstR G e).1 (uS G e).toNat (oS G e).toNat, (pstR G e).2 - 1) := if_pos ⟨c, by rw [← f1, ← f2]; exact q⟩
          rw [e1] at ih
          simp only at ih
          refine third e (pstR G e).2 F he (by omega) (oS G e).toNat (uS G e).toNat (by omega) (by omega) (by omega) (by omega) (fun i hi => by have := hpr i hi; rw [hF i hi]; omega) (fun F1 hF1 => ?_)
          refine ih F1 (fun i hi => ?_)
          rw [hF1 i hi]
          unfold mrg
          rw [hF i hi, f1, f2]
      · have e1 : pstR G (e + 1) = pstR G e := if_neg (fun z => c z.1)
        rw [e1] at ih
        exact ih F hF
  refine upN (n := nS G) (P := fun s => ∀ F, (∀ i, i < s → F i = (i : Int)) → hd_X9_piecesOf_7 E k F t (s : Int) m γ Q) ?_ ?_ 0 (Nat.zero_le _) (fun _ => 0) (fun i h => absurd h (Nat.not_lt_zero _))
  · intro F hF
    refine vc_X9_piecesOf_7 ht (by omega) ⟨fun q => absurd q (by omega), fun _ => ?_⟩
    rw [h16]
    exact second 0 (Nat.zero_le _) F hF
  · intro s hs ih F hF
    refine vc_X9_piecesOf_7 ht (by omega) ⟨fun _ => ⟨by omega, ?_⟩, fun q => absurd (by omega) q⟩
    rw [Int.toNat_natCast]
    refine ih _ (fun i hi => ?_)
    unfold up
    split
    · next e => rw [e]
    · exact hF i (by omega)
end P1
