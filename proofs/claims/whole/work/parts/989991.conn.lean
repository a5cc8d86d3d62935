/-! ===== pieces, and a wall at a cross of two strands ===== -/
theorem lb_rep {N : Nat} {L : Nat → Nat} (h1 : ∀ c, c < N → L c < N ∧ L (L c) = L c) {a b : Nat} (ha : a < N) (hb : b < N) (hne : L a ≠ L b) : rpN (fun c => if L c = L b then L a else L c) N = rpN L N - 1 := by
  have d1 := h1 a ha
  have d2 := h1 b hb
  have e : rpN L N = sumN (fun c => (if (if L c = L b then L a else L c) = c then 1 else 0) + (if c = L b then 1 else 0)) N := by
    refine sumN_congr (fun c hc => ?_)
    by_cases q : c = L b
    · have q2 : L c = c := by rw [q]; exact d2.2
      have q3 : ¬ (if L c = L b then L a else L c) = c := by
        rw [if_pos (by rw [q2]; exact q), q]
        exact hne
      rw [if_pos q2, if_neg q3, if_pos q]
      rfl
    · rw [if_neg q, Int.add_zero]
      have : (if L c = L b then L a else L c) = c ↔ L c = c := by
        by_cases p : L c = L b
        · rw [if_pos p]
          refine ⟨fun z => ?_, fun z => absurd (z.symm.trans p) q⟩
          exfalso
          apply hne
          rw [← p, ← z, d1.2]
        · rw [if_neg p]
      by_cases p : L c = c
      · rw [if_pos p, if_pos (this.mpr p)]
      · rw [if_neg p, if_neg (fun z => p (this.mp z))]
  rw [e, sumN_add, sumN_one (f := fun c => if c = L b then 1 else 0) (i := L b) (fun j hj => if_neg hj), if_pos d2.1, if_pos rfl]
  show rpN (fun c => if L c = L b then L a else L c) N = rpN (fun c => if L c = L b then L a else L c) N + 1 - 1
  omega
theorem sumN_ge {f : Nat → Int} (h : ∀ i, 0 ≤ f i) {c : Nat} : ∀ n, c < n → f c ≤ sumN f n
  | 0, hc => absurd hc (Nat.not_lt_zero c)
  | n + 1, hc => by
    show f c ≤ sumN f n + f n
    have h0 : 0 ≤ sumN f n := by
      clear hc
      induction n with
      | zero => exact Int.le_refl 0
      | succ n ih => have := h n; show 0 ≤ sumN f n + f n; omega
    by_cases q : c = n
    · subst q; omega
    · have := sumN_ge (c := c) h n (by omega)
      have := h n
      omega
theorem sumN_two {f : Nat → Int} (h : ∀ i, 0 ≤ f i) {c c' : Nat} (hcc : c < c') : ∀ n, c' < n → f c + f c' ≤ sumN f n
  | 0, hc => absurd hc (Nat.not_lt_zero c')
  | n + 1, hc => by
    show f c + f c' ≤ sumN f n + f n
    by_cases q : c' = n
    · subst q
      have := sumN_ge h c' hcc
      omega
    · have := sumN_two h hcc n (by omega)
      have := h n
      omega
theorem rp_le1 {N : Nat} {L : Nat → Nat} : rpN L N ≤ 1 ↔ ∀ c c', c < N → c' < N → L c = c → L c' = c' → c = c' := by
  have h0 : ∀ i, (0 : Int) ≤ (if L i = i then 1 else 0) := fun i => by split <;> omega
  refine ⟨fun h c c' hc hc' q q' => ?_, fun h => ?_⟩
  · rcases Nat.lt_trichotomy c c' with d | d | d
    · have := sumN_two h0 d N hc'
      rw [if_pos q, if_pos q'] at this
      unfold rpN at h
      omega
    · exact d
    · have := sumN_two h0 d N hc
      rw [if_pos q, if_pos q'] at this
      unfold rpN at h
      omega
  · by_cases ex : ∃ c, c < N ∧ L c = c
    · obtain ⟨c, hc, q⟩ := ex
      unfold rpN
      rw [sumN_congr (g := fun j => if j = c then 1 else 0) (fun j hj => ?_), sumN_one (i := c) (fun j hj => if_neg hj), if_pos hc, if_pos rfl]
      · exact Int.le_refl 1
      · by_cases p : j = c
        · subst p
          rw [if_pos q, if_pos rfl]
        · rw [if_neg p, if_neg (fun w => p (h j c hj hc w q))]
    · unfold rpN
      rw [sumN_congr (g := fun _ => 0) (fun j hj => if_neg (fun w => ex ⟨j, hj, w⟩)), sumN_zero]
      decide
/-- pieces as labels of strands -/
theorem pst_lab {G : GV} (hG : vG G) : ∀ e, e ≤ gn G.1 G.2.1 → ∃ L : Nat → Nat, (∀ i, i < nS G → (pst G e).1 i = (L i : Int)) ∧ (∀ i, i < nS G → L i < nS G ∧ L (L i) = L i) ∧ (pst G e).2 = rpN L (nS G) ∧ (∀ j, j < e → crX G j → L (oS G j).toNat = L (uS G j).toNat) ∧ ∀ T : Nat → Int, (∀ j, j < e → crX G j → T (oS G j).toNat = T (uS G j).toNat) → ∀ i, i < nS G → T (L i) = T i
  | 0, _ => ⟨fun i => i, fun _ _ => rfl, fun i hi => ⟨hi, rfl⟩, by
      show (nS G : Int) = _
      rw [← sumN_const1 (nS G)]
      exact sumN_congr (fun c _ => (if_pos rfl).symm), fun j hj => absurd hj (Nat.not_lt_zero j), fun T _ i _ => rfl⟩
  | e + 1, he => by
    obtain ⟨L, h1, h2, h3, h4, h5⟩ := pst_lab hG e (by omega)
    simp only [pst]
    by_cases c : G.2.2 e = 0 ∨ G.2.2 e = 1
    · rw [if_pos c]
      obtain ⟨o1, o2, u1, u2⟩ := xs_lt hG (show e < gn G.1 G.2.1 by omega) c
      generalize ha : (oS G e).toNat = a at *
      generalize hb : (uS G e).toNat = b at *
      have hla : a < nS G := by omega
      have hlb : b < nS G := by omega
      have d1 := h2 a hla
      have d2 := h2 b hlb
      refine ⟨fun i => if L i = L b then L a else L i, fun i hi => ?_, fun i hi => ?_, ?_, fun j hj hx => ?_, fun T hT i hi => ?_⟩
      · show mrg (pst G e).1 a b i = ((if L i = L b then L a else L i : Nat) : Int)
        unfold mrg
        rw [h1 i hi, h1 a hla, h1 b hlb]
        by_cases q : L i = L b
        · rw [if_pos q, if_pos (by omega)]
        · rw [if_neg q, if_neg (by omega)]
      · dsimp only
        have d3 := h2 i hi
        by_cases q : L i = L b
        · rw [if_pos q]
          refine ⟨d1.1, ?_⟩
          rw [d1.2]
          by_cases q2 : L a = L b
          · rw [if_pos q2]
          · rw [if_neg q2]
        · rw [if_neg q]
          refine ⟨d3.1, ?_⟩
          rw [d3.2, if_neg q]
      · dsimp only
        rw [h1 a hla, h1 b hlb, h3]
        by_cases q : L a = L b
        · have ef : (fun i => if L i = L b then L a else L i) = L := by
            funext i
            by_cases q2 : L i = L b
            · rw [if_pos q2, q, ← q2]
            · rw [if_neg q2]
          rw [if_pos (by omega), ef]
        · rw [if_neg (by omega), lb_rep h2 hla hlb q]
      · dsimp only
        by_cases q : j = e
        · subst q
          rw [ha, hb, if_pos rfl]
          by_cases q2 : L a = L b
          · rw [if_pos q2]
          · rw [if_neg q2]
        · rw [h4 j (by omega) hx]
      · dsimp only
        have hT' := h5 T (fun j hj hx => hT j (by omega) hx)
        have hab : T a = T b := by
          have := hT e (by omega) c
          rw [ha, hb] at this
          exact this
        by_cases q : L i = L b
        · rw [if_pos q, hT' a hla, hab, ← hT' b hlb, ← q, hT' i hi]
        · rw [if_neg q, hT' i hi]
    · rw [if_neg c]
      refine ⟨L, h1, h2, h3, fun j hj hx => ?_, fun T hT i hi => h5 T (fun j hj hx => hT j (by omega) hx) i hi⟩
      by_cases q : j = e
      · subst q
        exact absurd hx c
      · exact h4 j (by omega) hx
def cn (G : GV) (T : Nat → Int) : Prop := (∀ x, x < 2 * nC G → T (gl G x / 2) = T (x / 2)) ∧ ∀ e, e < gn G.1 G.2.1 → crX G e → T (eA G.1 G.2.1 e / 2) = T (eB G.1 G.2.1 e / 2)
def conn (G : GV) : Prop := ∀ T, cn G T → ∀ c c', c < nC G → c' < nC G → T c = T c'
theorem ends_lt {G : GV} (hG : vG G) {e : Nat} (he : e < gn G.1 G.2.1) : eA G.1 G.2.1 e / 2 < nC G ∧ eB G.1 G.2.1 e / 2 < nC G ∧ eC G.1 G.2.1 e / 2 < nC G ∧ eD G.1 G.2.1 e / 2 < nC G := by
  obtain ⟨a1, a2, a3, a4, -⟩ := ed_lt hG.1 he
  have hN : 2 * nC G = 8 * (G.1 * G.2.1) := by unfold nC; omega
  omega
theorem pcs_conn {G : GV} (hG : vG G) : pcs G ≤ 1 ↔ conn G := by
  obtain ⟨L, h1, h2, h3, h4, h5⟩ := pst_lab hG (gn G.1 G.2.1) (Nat.le_refl _)
  unfold pcs
  rw [h3, rp_le1]
  refine ⟨fun h T hT c c' hc hc' => ?_, fun h i i' hi hi' q q' => ?_⟩
  · -- a label of corners is a label of strands
    have hst : ∀ c, c < nC G → ∃ s, s < nS G ∧ tS G c = (s : Int) := fun c hc => by
      obtain ⟨s, e1, e2, -⟩ := tS_one hG hc
      exact ⟨s, e1, e2⟩
    have hco : ∀ s, s < nS G → ∃ c, c < nC G ∧ tS G c = (s : Int) := fun s hs => by
      obtain ⟨c0, d1, d2, -⟩ := tS_cyc hG hs
      exact ⟨c0, d1, d2 0⟩
    have hch : ∃ r : Nat → Nat, ∀ s, s < nS G → r s < nC G ∧ tS G (r s) = (s : Int) := by
      refine ⟨fun s => if hs : s < nS G then (hco s hs).choose else 0, fun s hs => ?_⟩
      dsimp only
      rw [dif_pos hs]
      exact (hco s hs).choose_spec
    obtain ⟨r, hr⟩ := hch
    have hTr : ∀ c, c < nC G → T (r (tS G c).toNat) = T c := by
      intro c hc
      obtain ⟨s, e1, e2⟩ := hst c hc
      have := hr s e1
      rw [e2, Int.toNat_natCast]
      exact tS_lab hG hT.1 this.1 hc (by rw [this.2, e2])
    have hT' := h5 (fun s => T (r s)) (fun j hj hx => by
      obtain ⟨l1, l2, -⟩ := ends_lt hG hj
      have := hT.2 j hj hx
      rcases xab hG hj hx with ⟨q1, q2⟩ | ⟨q1, q2⟩
      · show T (r (oS G j).toNat) = T (r (uS G j).toNat)
        rw [q1, q2, hTr _ l1, hTr _ l2, this]
      · show T (r (oS G j).toNat) = T (r (uS G j).toNat)
        rw [q1, q2, hTr _ l1, hTr _ l2, this])
    obtain ⟨s, s1, s2⟩ := hst c hc
    obtain ⟨s', s1', s2'⟩ := hst c' hc'
    have := h (L s) (L s') (h2 s s1).1 (h2 s' s1').1 (h2 s s1).2 (h2 s' s1').2
    have e1 : T (r (L s)) = T (r s) := hT' s s1
    have e2 : T (r (L s')) = T (r s') := hT' s' s1'
    have e3 := hTr c hc
    have e4 := hTr c' hc'
    rw [s2, Int.toNat_natCast] at e3
    rw [s2', Int.toNat_natCast] at e4
    rw [← e3, ← e4, ← e1, ← e2, this]
  · have hco : ∀ s, s < nS G → ∃ c, c < nC G ∧ tS G c = (s : Int) := fun s hs => by
      obtain ⟨c0, d1, d2, -⟩ := tS_cyc hG hs
      exact ⟨c0, d1, d2 0⟩
    obtain ⟨c, c1, c2⟩ := hco i hi
    obtain ⟨c', c1', c2'⟩ := hco i' hi'
    have := h (fun c => ((L (tS G c).toNat : Nat) : Int)) ⟨fun x hx => by dsimp only; rw [tS_gl hG hx], fun e he hx => ?_⟩ c c' c1 c1'
    · have this : ((L (tS G c).toNat : Nat) : Int) = ((L (tS G c').toNat : Nat) : Int) := this
      rw [c2, c2', Int.toNat_natCast, Int.toNat_natCast, q, q'] at this
      omega
    · have := h4 e he hx
      dsimp only
      rcases xab hG he hx with ⟨q1, q2⟩ | ⟨q1, q2⟩
      · rw [← q1, ← q2, this]
      · rw [← q1, ← q2, this]
theorem gl_off {G : GV} {e x : Nat} {z : Int} (hG : vG G) (hx : x < 2 * nC G) (h : xe G.1 G.2.1 x ≠ (e : Int)) : gl (wK G (up G.2.2 e z)) x = gl G x := by
  have hr := exe_rng hG (x := ec x) (by show x / 2 < nC G; omega)
  rw [gl_glk, gl_glk]
  show glk G.1 G.2.1 (if xe G.1 G.2.1 x = -1 then 2 else up G.2.2 e z (xe G.1 G.2.1 x).toNat) x = _
  have hr : -1 ≤ xe G.1 G.2.1 x := hr.1
  by_cases c : xe G.1 G.2.1 x = -1
  · rw [if_pos c, if_pos c]
  · rw [if_neg c, if_neg c, up_ne (by omega)]
theorem vG_up {G : GV} (hG : vG G) (e : Nat) {z : Int} (hz : 0 ≤ z ∧ z ≤ 3) : vG (wK G (up G.2.2 e z)) := ⟨hG.1, fun i hi => by
  show 0 ≤ up G.2.2 e z i ∧ up G.2.2 e z i ≤ 3
  by_cases c : i = e
  · rw [c, up_self]; exact hz
  · rw [up_ne c]; exact hG.2 i hi⟩
theorem cn_wall {G : GV} (hG : vG G) {e : Nat} (he : e < gn G.1 G.2.1) (hx : crX G e) (hT2 : tS G (eA G.1 G.2.1 e / 2) ≠ tS G (eB G.1 G.2.1 e / 2)) (T : Nat → Int) : cn G T ↔ cn (wK G (up G.2.2 e 2)) T := by
  have h1 := one_edge hG he hx
  rcases h1 with h1 | ⟨-, -, -, h1⟩
  · exact absurd h1.1 hT2
  obtain ⟨a1, a2, a3, a4, n1, n2, n3, n4, n5, n6⟩ := ed_lt hG.1 he
  have hN : 2 * nC G = 8 * (G.1 * G.2.1) := by unfold nC; omega
  have hW := vG_up hG e (z := 2) (by decide)
  have gw := prs_gl hW (e := e) he
  have gx := prs_gl hG he
  have ew : (wK G (up G.2.2 e 2)).2.2 e = 2 := up_self
  rw [ew] at gw
  have pw : prs (wK G (up G.2.2 e 2)).1 (wK G (up G.2.2 e 2)).2.1 e 2 = ((eA G.1 G.2.1 e, eB G.1 G.2.1 e), (eC G.1 G.2.1 e, eD G.1 G.2.1 e)) := by unfold prs; rw [if_pos rfl]; rfl
  have px : prs G.1 G.2.1 e (G.2.2 e) = ((eA G.1 G.2.1 e, eC G.1 G.2.1 e), (eB G.1 G.2.1 e, eD G.1 G.2.1 e)) := by
    unfold prs
    unfold crX at hx
    rw [if_neg (by omega), if_neg (by omega)]
  rw [pw] at gw
  rw [px] at gx
  have wAB := (gw _ (Or.inl rfl)).2
  have wCD := (gw _ (Or.inr rfl)).2
  have xAC := (gx _ (Or.inl rfl)).2
  have xBD := (gx _ (Or.inr rfl)).2
  dsimp only at wAB wCD xAC xBD
  have wBA : gl (wK G (up G.2.2 e 2)) (eB G.1 G.2.1 e) = eA G.1 G.2.1 e := by rw [wAB]; exact gl_gl hW (show eA G.1 G.2.1 e < 2 * nC G by omega)
  have wDC : gl (wK G (up G.2.2 e 2)) (eD G.1 G.2.1 e) = eC G.1 G.2.1 e := by rw [wCD]; exact gl_gl hW (show eC G.1 G.2.1 e < 2 * nC G by omega)
  have xCA : gl G (eC G.1 G.2.1 e) = eA G.1 G.2.1 e := by rw [xAC]; exact gl_gl hG (by omega)
  have xDB : gl G (eD G.1 G.2.1 e) = eB G.1 G.2.1 e := by rw [xBD]; exact gl_gl hG (by omega)
  have cr' : ∀ i, crX (wK G (up G.2.2 e 2)) i ↔ crX G i ∧ i ≠ e := by
    intro i
    show (up G.2.2 e 2 i = 0 ∨ up G.2.2 e 2 i = 1) ↔ _
    by_cases c : i = e
    · rw [c, up_self]
      exact ⟨fun w => by omega, fun w => absurd rfl w.2⟩
    · rw [up_ne c]
      exact ⟨fun w => ⟨w, c⟩, fun w => w.1⟩
  refine ⟨fun h => ⟨fun x hx' => ?_, fun i hi hxi => h.2 i hi ((cr' i).mp hxi).1⟩, fun h => ?_⟩
  · have hx' : x < 2 * nC G := hx'
    have eAC := h.1 (eA G.1 G.2.1 e) (by omega)
    have eBD := h.1 (eB G.1 G.2.1 e) (by omega)
    rw [← xAC] at eAC
    rw [← xBD] at eBD
    have eAB := h.2 e he hx
    by_cases c : xe G.1 G.2.1 x = (e : Int)
    · rcases ed_all hG.1 (by omega) c with q | q | q | q <;> rw [q]
      · rw [← wAB, eAB]
      · rw [wBA, eAB]
      · rw [← wCD, eAC, eBD, eAB]
      · rw [wDC, eAC, eBD, eAB]
    · rw [gl_off hG hx' c]
      exact h.1 x hx'
  · have eAB := h.1 (eA G.1 G.2.1 e) (show eA G.1 G.2.1 e < 2 * nC G by omega)
    have eCD := h.1 (eC G.1 G.2.1 e) (show eC G.1 G.2.1 e < 2 * nC G by omega)
    rw [← wAB] at eAB
    rw [← wCD] at eCD
    have eAC := h1 T h.1
    refine ⟨fun x hx' => ?_, fun i hi hxi => ?_⟩
    · by_cases c : xe G.1 G.2.1 x = (e : Int)
      · rcases ed_all hG.1 (by omega) c with q | q | q | q <;> rw [q]
        · rw [← xAC, eAC]
        · rw [← xBD, eCD, eAB, eAC]
        · rw [xCA, eAC]
        · rw [xDB, eCD, eAB, eAC]
      · rw [← gl_off (z := 2) hG hx' c]
        exact h.1 x hx'
    · by_cases c : i = e
      · subst c
        exact eAB.symm
      · exact h.2 i hi ((cr' i).mpr ⟨hxi, c⟩)
theorem conn_wall {G : GV} (hG : vG G) {e : Nat} (he : e < gn G.1 G.2.1) (h2 : two G e) : (conn G ↔ conn (wK G (up G.2.2 e 2))) ∧ nS (wK G (up G.2.2 e 2)) + 1 = nS G := by
  have hne : tS G (eA G.1 G.2.1 e / 2) ≠ tS G (eB G.1 G.2.1 e / 2) := fun q => h2.2 (by
    rcases xab hG he h2.1 with ⟨q1, q2⟩ | ⟨q1, q2⟩
    · rw [q1, q2, q]
    · rw [q1, q2, q])
  refine ⟨⟨fun h T hT => h T ((cn_wall hG he h2.1 hne T).mpr hT), fun h T hT => h T ((cn_wall hG he h2.1 hne T).mp hT)⟩, ?_⟩
  rcases one_edge hG he h2.1 with h1 | ⟨-, h1, -⟩
  · exact absurd h1.1 hne
  · exact h1
/-- no cross of two strands: one piece is one strand -/
theorem conn_none {G : GV} (hG : vG G) (h : ∀ e, e < gn G.1 G.2.1 → ¬ two G e) : conn G ↔ nS G ≤ 1 := by
  refine ⟨fun hc => ?_, fun hn T hT c c' hc hc' => ?_⟩
  · rcases Nat.lt_or_ge 1 (nS G) with q | q
    · exfalso
      obtain ⟨c0, d1, d2, -⟩ := tS_cyc hG (show 0 < nS G by omega)
      obtain ⟨c1, e1, e2, -⟩ := tS_cyc hG (show 1 < nS G by omega)
      have := hc (tS G) ⟨fun x hx => tS_gl hG hx, fun e he hx => ?_⟩ c0 c1 d1 e1
      · have f1 : tS G c0 = ((0 : Nat) : Int) := d2 0
        have f2 : tS G c1 = ((1 : Nat) : Int) := e2 0
        omega
      · have : oS G e = uS G e := Classical.byContradiction (fun w => h e he ⟨hx, w⟩)
        rcases xab hG he hx with ⟨q1, q2⟩ | ⟨q1, q2⟩
        · rw [← q1, ← q2, this]
        · rw [← q1, ← q2, this]
    · exact q
  · obtain ⟨s, e1, e2, -⟩ := tS_one hG hc
    obtain ⟨s', e1', e2', -⟩ := tS_one hG hc'
    exact tS_lab hG hT.1 hc hc' (by rw [e2, e2']; omega)
/-- at a cross of a strand with itself a wall or a gap keeps the number of strands -/
theorem ease_one {G : GV} (hG : vG G) {e : Nat} (he : e < gn G.1 G.2.1) (hx : crX G e) (hs : oS G e = uS G e) : nS (wK G (up G.2.2 e 2)) ≠ nS G → nS (wK G (up G.2.2 e 3)) = nS G := by
  intro h
  rcases one_edge hG he hx with ⟨-, h1⟩ | ⟨h1, -⟩
  · omega
  · exfalso
    apply h1
    rcases xab hG he hx with ⟨q1, q2⟩ | ⟨q1, q2⟩
    · rw [← q1, ← q2, hs]
    · rw [← q1, ← q2, hs]
