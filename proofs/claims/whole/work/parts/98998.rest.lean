/-! ===== all joined but one edge ===== -/
/-- along steps a label stays -/
theorem tS_lab {G : GV} (hG : vG G) {L : Nat → Int} (hL : ∀ x, x < 2 * nC G → L (gl G x / 2) = L (x / 2)) {c c' : Nat} (hc : c < nC G) (hc' : c' < nC G) (hT : tS G c = tS G c') : L c = L c' := by
  have step : ∀ x : Nat × Bool, x.1 < nC G → L (nx G x).1 = L x.1 := by
    intro x hx
    have e1 : en x / 2 = x.1 := congrArg Prod.fst (ec_en x)
    have e2 : gl G (en x) / 2 = (nx G x).1 := by rw [gl_half, ec_en]
    have := hL (en x) (by omega)
    rw [e1, e2] at this
    exact this
  obtain ⟨s, hs, e2, -⟩ := tS_one hG hc
  obtain ⟨c0, d1, -, d3⟩ := tS_cyc hG hs
  obtain ⟨i, hi⟩ := d3 c hc e2
  obtain ⟨i', hi'⟩ := d3 c' hc' (hT ▸ e2)
  have all : ∀ j, L (nxi G j (c0, true)).1 = L c0 := by
    intro j
    induction j with
    | zero => rfl
    | succ j ih => exact (step _ (nxi_lt hG (x := (c0, true)) d1 j)).trans ih
  rw [hi, hi', all, all]
theorem tS_gl {G : GV} (hG : vG G) {x : Nat} (hx : x < 2 * nC G) : tS G (gl G x / 2) = tS G (x / 2) := by
  rw [gl_half]
  exact tS_nx hG (x := ec x) (by show x / 2 < nC G; omega)
theorem JS.lk {G : GV} (hG : vG G) {op : Nat → Prop} {P : List (Nat × Nat)} {s : JT} (h : JS (nC G) op P s) (ho : ∀ x, ¬ op x) (hP : ∀ p ∈ P, p.1 < 2 * nC G ∧ p.2 = gl G p.1) : ∀ x, x < 2 * nC G → ((s.2.1 (gl G x / 2) : Nat) : Int) = (s.2.1 (x / 2) : Int) := by
  intro x hx
  rcases h.2.2.2.2.2 x hx with c | ⟨p, hp, c⟩
  · exact absurd c (ho _)
  · obtain ⟨p1, p2⟩ := hP p hp
    have hl := h.2.2.2.1 p hp
    rcases c with c | c
    · rw [← c, ← p2, hl]
    · rw [← c, p2, gl_gl hG p1, ← p2, hl]
/-- the grid with other kinds -/
def wK (G : GV) (K : Nat → Int) : GV := (G.1, G.2.1, K)
theorem JS.allrim {R C : Nat} (h : gok R C) : ∃ P s, JS (4 * (R * C)) (opD R C (fun e => e < gn R C)) P s ∧ ∀ G : GV, G.1 = R → G.2.1 = C → vG G → ∀ p ∈ P, p.1 < 2 * nC G ∧ p.2 = gl G p.1 := by
  have key : ∀ q, q ≤ 4 * (R * C) → ∃ P s, JS (4 * (R * C)) (opR R C q) P s ∧ ∀ G : GV, G.1 = R → G.2.1 = C → vG G → ∀ p ∈ P, p.1 < 2 * nC G ∧ p.2 = gl G p.1 := by
    intro q
    induction q with
    | zero => intro _; exact ⟨[], js0, JS.rimS, fun _ _ _ _ p hp => (nomatch hp)⟩
    | succ q ih =>
      intro hq
      obtain ⟨P, s, h1, h2⟩ := ih (by omega)
      by_cases c : ges R C (q / 4) (q % 4) = -1
      · refine ⟨_, _, h1.rim h (by omega) c, fun G g1 g2 hG p hp => ?_⟩
        rcases List.mem_cons.mp hp with d | d
        · subst g1 g2
          rw [d]
          exact rim_gl hG (by omega) c
        · exact h2 G g1 g2 hG p d
      · exact ⟨P, s, h1.rim0 h c, h2⟩
  obtain ⟨P, s, h1, h2⟩ := key _ (Nat.le_refl _)
  exact ⟨P, s, h1.rimE h, h2⟩
theorem JS.rest {G : GV} (hG : vG G) (e : Nat) : ∃ P s, JS (nC G) (opD G.1 G.2.1 (fun i => i < gn G.1 G.2.1 ∧ i = e)) P s ∧ ∀ K, vG (wK G K) → (∀ i, i ≠ e → K i = G.2.2 i) → ∀ p ∈ P, p.1 < 2 * nC G ∧ p.2 = gl (wK G K) p.1 := by
  have key : ∀ n, n ≤ gn G.1 G.2.1 → ∃ P s, JS (nC G) (opD G.1 G.2.1 (fun i => i < gn G.1 G.2.1 ∧ (n ≤ i ∨ i = e))) P s ∧ ∀ K, vG (wK G K) → (∀ i, i ≠ e → K i = G.2.2 i) → ∀ p ∈ P, p.1 < 2 * nC G ∧ p.2 = gl (wK G K) p.1 := by
    intro n
    induction n with
    | zero =>
      intro _
      obtain ⟨P, s, h1, h2⟩ := JS.allrim hG.1
      refine ⟨P, s, h1.congr (fun x => ⟨fun w => ?_, fun w => ?_⟩), fun K hK _ p hp => h2 (wK G K) rfl rfl hK p hp⟩
      · obtain ⟨w1, i, w2, w3, -⟩ := w
        exact ⟨w1, i, w2, w3⟩
      · obtain ⟨w1, i, w2, w3⟩ := w
        exact ⟨w1, i, w2, w3, Or.inl (Nat.zero_le _)⟩
    | succ n ih =>
      intro hn
      obtain ⟨P, s, h1, h2⟩ := ih (by omega)
      by_cases c : n = e
      · refine ⟨P, s, h1.congr (fun x => ⟨fun w => ?_, fun w => ?_⟩), h2⟩
        · obtain ⟨w1, i, w2, w3, w4⟩ := w
          exact ⟨w1, i, w2, w3, by omega⟩
        · obtain ⟨w1, i, w2, w3, w4⟩ := w
          exact ⟨w1, i, w2, w3, by omega⟩
      · refine ⟨_, _, (h1.edge hG.1 (show n < gn G.1 G.2.1 by omega) (show n < gn G.1 G.2.1 ∧ (n ≤ n ∨ n = e) from ⟨by omega, Or.inl (Nat.le_refl n)⟩) (G.2.2 n)).congr (fun x => ⟨fun w => ?_, fun w => ?_⟩), fun K hK hKe p hp => ?_⟩
        · obtain ⟨w1, i, w2, w3, w4⟩ := w
          exact ⟨w1, i, w2, ⟨w3, by omega⟩, by omega⟩
        · obtain ⟨w1, i, w2, ⟨w3, w4⟩, w5⟩ := w
          exact ⟨w1, i, w2, w3, by omega⟩
        · have hq := prs_gl (G := wK G K) hK (e := n) (show n < gn G.1 G.2.1 by omega)
          rw [show (wK G K).2.2 n = G.2.2 n from hKe n c] at hq
          rcases List.mem_cons.mp hp with d | d
          · exact hq p (Or.inr d)
          · rcases List.mem_cons.mp d with d | d
            · exact hq p (Or.inl d)
            · exact h2 K hK hKe p d
  obtain ⟨P, s, h1, h2⟩ := key _ (Nat.le_refl _)
  refine ⟨P, s, h1.congr (fun x => ⟨fun w => ?_, fun w => ?_⟩), h2⟩
  · obtain ⟨w1, i, w2, w3, w4⟩ := w
    exact ⟨w1, i, w2, w3, Or.inr w4⟩
  · obtain ⟨w1, i, w2, w3, w4⟩ := w
    exact ⟨w1, i, w2, w3, by omega⟩
/-- two joins that close two loops, one loop -/
theorem jst_22 {s : JT} {x y u v : Nat} (h1 : s.1 x = y) (h2 : s.1 u = v) : jst (jst s (x, y)) (u, v) = (s.1, s.2.1, s.2.2 + 2) := by
  have e1 : jst s (x, y) = (s.1, s.2.1, s.2.2 + 1) := by
    unfold jst
    exact if_pos h1
  rw [e1]
  unfold jst
  rw [if_pos (show (s.1, s.2.1, s.2.2 + 1).1 (u, v).1 = (u, v).2 from h2)]
  show (s.1, s.2.1, s.2.2 + 1 + 1) = _
  rw [show s.2.2 + 1 + 1 = s.2.2 + 2 by omega]
theorem jst_21 {s : JT} {x y u v : Nat} (h1 : s.1 x ≠ y) (h2 : muM s.1 x y u = v) : (jst (jst s (x, y)) (u, v)).2.2 = s.2.2 + 1 := by
  have e1 : jst s (x, y) = (muM s.1 x y, lbM s.2.1 x y, s.2.2) := by
    unfold jst
    exact if_neg h1
  rw [e1]
  unfold jst
  rw [if_pos (show (muM s.1 x y, lbM s.2.1 x y, s.2.2).1 (u, v).1 = (u, v).2 from h2)]
/-- the joins' last step, at an edge of a kind -/
theorem JS.last {G : GV} {e : Nat} {P : List (Nat × Nat)} {s : JT} (he : e < gn G.1 G.2.1) (h1 : JS (nC G) (opD G.1 G.2.1 (fun i => i < gn G.1 G.2.1 ∧ i = e)) P s) (h2 : ∀ K, vG (wK G K) → (∀ i, i ≠ e → K i = G.2.2 i) → ∀ p ∈ P, p.1 < 2 * nC G ∧ p.2 = gl (wK G K) p.1) {K : Nat → Int} (hK : vG (wK G K)) (hKe : ∀ i, i ≠ e → K i = G.2.2 i) :
    JS (nC (wK G K)) (fun _ => False) ((prs G.1 G.2.1 e (K e)).2 :: (prs G.1 G.2.1 e (K e)).1 :: P) (jst (jst s (prs G.1 G.2.1 e (K e)).1) (prs G.1 G.2.1 e (K e)).2) ∧ (∀ p ∈ (prs G.1 G.2.1 e (K e)).2 :: (prs G.1 G.2.1 e (K e)).1 :: P, p.1 < 2 * nC (wK G K) ∧ p.2 = gl (wK G K) p.1) ∧ (jst (jst s (prs G.1 G.2.1 e (K e)).1) (prs G.1 G.2.1 e (K e)).2).2.2 = (nS (wK G K) : Int) := by
  have a1 : JS (nC (wK G K)) (fun _ => False) ((prs G.1 G.2.1 e (K e)).2 :: (prs G.1 G.2.1 e (K e)).1 :: P) (jst (jst s (prs G.1 G.2.1 e (K e)).1) (prs G.1 G.2.1 e (K e)).2) := by
    refine (h1.edge hK.1 he (show e < gn G.1 G.2.1 ∧ e = e from ⟨he, rfl⟩) (K e)).congr (fun x => ⟨fun w => absurd w id, fun w => ?_⟩)
    obtain ⟨-, i, -, ⟨-, w4⟩, w5⟩ := w
    exact w5 w4
  have a2 : ∀ p ∈ (prs G.1 G.2.1 e (K e)).2 :: (prs G.1 G.2.1 e (K e)).1 :: P, p.1 < 2 * nC (wK G K) ∧ p.2 = gl (wK G K) p.1 := by
    intro p hp
    have hq := prs_gl (G := wK G K) hK (e := e) he
    rcases List.mem_cons.mp hp with d | d
    · exact hq p (Or.inr d)
    · rcases List.mem_cons.mp d with d | d
      · exact hq p (Or.inl d)
      · exact h2 K hK hKe p d
  exact ⟨a1, a2, JS.nSt hK a1 (fun _ => id) a2⟩
/-- at one edge: which of wall, gap, cross makes one loop more than the others -/
theorem one_edge {G : GV} (hG : vG G) {e : Nat} (he : e < gn G.1 G.2.1) (hx : crX G e) :
    (tS G (eA G.1 G.2.1 e / 2) = tS G (eB G.1 G.2.1 e / 2) ∧ ((nS (wK G (up G.2.2 e 2)) = nS G + 1 ∧ nS (wK G (up G.2.2 e 3)) = nS G) ∨ (nS (wK G (up G.2.2 e 3)) = nS G + 1 ∧ nS (wK G (up G.2.2 e 2)) = nS G))) ∨
    (tS G (eA G.1 G.2.1 e / 2) ≠ tS G (eB G.1 G.2.1 e / 2) ∧ nS (wK G (up G.2.2 e 2)) + 1 = nS G ∧ nS (wK G (up G.2.2 e 3)) + 1 = nS G ∧ ∀ T : Nat → Int, (∀ x, x < 2 * nC G → T (gl (wK G (up G.2.2 e 2)) x / 2) = T (x / 2)) → T (eA G.1 G.2.1 e / 2) = T (eC G.1 G.2.1 e / 2)) := by
  obtain ⟨P, s, h1, h2⟩ := JS.rest hG e
  obtain ⟨a1, a2, a3, a4, n1, n2, n3, n4, n5, n6⟩ := ed_lt hG.1 he
  obtain ⟨x1, x2, x3, x4⟩ := ed_xe hG.1 he
  have hN : 2 * nC G = 8 * (G.1 * G.2.1) := by unfold nC; omega
  have vK : ∀ z, 0 ≤ z ∧ z ≤ 3 → vG (wK G (up G.2.2 e z)) := fun z hz => ⟨hG.1, fun i hi => by
    show 0 ≤ up G.2.2 e z i ∧ up G.2.2 e z i ≤ 3
    by_cases c : i = e
    · rw [c, up_self]; exact hz
    · rw [up_ne c]; exact hG.2 i hi⟩
  have lw := JS.last he h1 h2 (vK 2 (by decide)) (fun i hi => up_ne hi)
  have lg := JS.last he h1 h2 (vK 3 (by decide)) (fun i hi => up_ne hi)
  have lx := JS.last he h1 h2 (K := G.2.2) hG (fun i _ => rfl)
  rw [up_self] at lw lg
  have hw : wK G G.2.2 = G := rfl
  rw [hw] at lx
  have pw : prs G.1 G.2.1 e 2 = ((eA G.1 G.2.1 e, eB G.1 G.2.1 e), (eC G.1 G.2.1 e, eD G.1 G.2.1 e)) := by unfold prs; rw [if_pos rfl]
  have pg : prs G.1 G.2.1 e 3 = ((eA G.1 G.2.1 e, eD G.1 G.2.1 e), (eB G.1 G.2.1 e, eC G.1 G.2.1 e)) := by unfold prs; rw [if_neg (by decide), if_pos rfl]
  have px : prs G.1 G.2.1 e (G.2.2 e) = ((eA G.1 G.2.1 e, eC G.1 G.2.1 e), (eB G.1 G.2.1 e, eD G.1 G.2.1 e)) := by
    unfold prs
    unfold crX at hx
    rw [if_neg (by omega), if_neg (by omega)]
  rw [pw] at lw
  rw [pg] at lg
  rw [px] at lx
  obtain ⟨-, -, lw⟩ := lw
  obtain ⟨-, -, lg⟩ := lg
  obtain ⟨lx1, lx2, lx⟩ := lx
  dsimp only at lw lg lx
  have gx := prs_gl hG he
  rw [px] at gx
  have gAC := (gx _ (Or.inl rfl)).2
  have gBD := (gx _ (Or.inr rfl)).2
  dsimp only at gAC gBD
  have tAC : tS G (eC G.1 G.2.1 e / 2) = tS G (eA G.1 G.2.1 e / 2) := by rw [gAC]; exact tS_gl hG (by omega)
  have tBD : tS G (eD G.1 G.2.1 e / 2) = tS G (eB G.1 G.2.1 e / 2) := by rw [gBD]; exact tS_gl hG (by omega)
  generalize hA : eA G.1 G.2.1 e = A at *
  generalize hB : eB G.1 G.2.1 e = B at *
  generalize hC : eC G.1 G.2.1 e = C at *
  generalize hD : eD G.1 G.2.1 e = D at *
  have hop : ∀ x, opD G.1 G.2.1 (fun i => i < gn G.1 G.2.1 ∧ i = e) x → x = A ∨ x = B ∨ x = C ∨ x = D := by
    intro x w
    obtain ⟨w1, i, w2, -, w4⟩ := w
    rw [w4] at w2
    have := ed_all hG.1 w1 w2
    rw [hA, hB, hC, hD] at this
    exact this
  have oA : opD G.1 G.2.1 (fun i => i < gn G.1 G.2.1 ∧ i = e) A := ⟨a1, e, x1, he, rfl⟩
  have oB : opD G.1 G.2.1 (fun i => i < gn G.1 G.2.1 ∧ i = e) B := ⟨a2, e, x2, he, rfl⟩
  have oC : opD G.1 G.2.1 (fun i => i < gn G.1 G.2.1 ∧ i = e) C := ⟨a3, e, x3, he, rfl⟩
  have oD : opD G.1 G.2.1 (fun i => i < gn G.1 G.2.1 ∧ i = e) D := ⟨a4, e, x4, he, rfl⟩
  obtain ⟨-, mA, mA1, mA2⟩ := h1.1.2.1 A oA
  obtain ⟨-, mB, mB1, mB2⟩ := h1.1.2.1 B oB
  obtain ⟨-, mC, mC1, mC2⟩ := h1.1.2.1 C oC
  obtain ⟨-, mD, mD1, mD2⟩ := h1.1.2.1 D oD
  have hl := h1.1.2.2
  have hT5 := h1.2.2.2.2.1
  -- a label that is the same along the joins is the same at mates
  have mate : ∀ T : Nat → Int, (∀ p ∈ P, T (p.1 / 2) = T (p.2 / 2)) → ∀ x, opD G.1 G.2.1 (fun i => i < gn G.1 G.2.1 ∧ i = e) x → T (s.1 x / 2) = T (x / 2) := by
    intro T hT x ox
    obtain ⟨o1, o2, -⟩ := h1.1.2.1 x ox
    have o3 := (h1.1.2.1 _ o2).1
    have := (hl x (s.1 x) ox o2).mpr (Or.inr rfl)
    have e1 := hT5 T hT (x / 2) (by omega)
    have e2 := hT5 T hT (s.1 x / 2) (by omega)
    rw [← e1, ← e2, this]
  have tSP : ∀ p ∈ P, tS G (p.1 / 2) = tS G (p.2 / 2) := by
    intro p hp
    obtain ⟨p1, p2⟩ := lx2 p (List.mem_cons_of_mem _ (List.mem_cons_of_mem _ hp))
    rw [p2]
    exact (tS_gl hG p1).symm
  rcases hop _ mA with q | q | q | q
  · exact absurd q mA1
  · -- A with B
    have qb : s.1 B = A := by rw [← q, mA2]
    have qc : s.1 C = D := by
      rcases hop _ mC with c | c | c | c
      · exact absurd (by rw [← mC2, c, q]) n4
      · exact absurd (by rw [← mC2, c, qb]) n2
      · exact absurd c mC1
      · exact c
    have qd : s.1 D = C := by rw [← qc, mC2]
    rw [jst_22 q qc] at lw
    rw [jst_21 (by rw [q]; exact n5) (by unfold muM; rw [q, qd, up_ne n4, up_self])] at lg
    rw [jst_21 (by rw [q]; exact n4) (by unfold muM; rw [q, qc, up_ne n5, up_self])] at lx
    refine Or.inl ⟨?_, Or.inl ⟨?_, ?_⟩⟩
    · have := mate _ tSP A oA
      rw [q] at this
      exact this.symm
    · dsimp only at lw; omega
    · omega
  · -- A with C
    have qc : s.1 C = A := by rw [← q, mA2]
    have qb : s.1 B = D := by
      rcases hop _ mB with c | c | c | c
      · exact absurd (by rw [← mB2, c, q]) n4
      · exact absurd c mB1
      · exact absurd (by rw [← mB2, c, qc]) n1.symm
      · exact c
    have qd : s.1 D = B := by rw [← qb, mB2]
    rw [jst_21 (by rw [q]; exact n4.symm) (by unfold muM; rw [q, qb, up_ne n6, up_self])] at lw
    rw [jst_21 (by rw [q]; exact n6) (by unfold muM; rw [q, qd, up_self])] at lg
    have lx0 := jst_22 q qb
    rw [lx0] at lx lx1
    refine Or.inr ⟨fun w => ?_, ?_, ?_, fun T hT => ?_⟩
    · have := tS_lab hG (L := fun c => ((s.2.1 c : Nat) : Int)) (JS.lk (s := (s.1, s.2.1, s.2.2 + 2)) hG lx1 (fun _ => id) lx2) (c := A / 2) (c' := B / 2) (by omega) (by omega) w
      have this : ((s.2.1 (A / 2) : Nat) : Int) = (s.2.1 (B / 2) : Int) := this
      rcases (hl A B oA oB).mp (by omega) with c | c
      · exact n1 c.symm
      · rw [q] at c
        exact n4 c
    · dsimp only at lx; omega
    · dsimp only at lx; omega
    · have := mate T (fun p hp => ?_) A oA
      · rw [q] at this
        exact this.symm
      · obtain ⟨p1, p2⟩ := h2 _ (vK 2 (by decide)) (fun i hi => up_ne hi) p hp
        rw [p2]
        exact (hT _ p1).symm
  · -- A with D
    have qd : s.1 D = A := by rw [← q, mA2]
    have qb : s.1 B = C := by
      rcases hop _ mB with c | c | c | c
      · exact absurd (by rw [← mB2, c, q]) n5
      · exact absurd c mB1
      · exact c
      · exact absurd (by rw [← mB2, c, qd]) n1.symm
    have qc : s.1 C = B := by rw [← qb, mB2]
    rw [jst_22 q qb] at lg
    rw [jst_21 (by rw [q]; exact n5.symm) (by unfold muM; rw [q, qb, up_self])] at lw
    rw [jst_21 (by rw [q]; exact n6.symm) (by unfold muM; rw [q, qc, up_self])] at lx
    refine Or.inl ⟨?_, Or.inr ⟨?_, ?_⟩⟩
    · have := mate _ tSP A oA
      rw [q] at this
      rw [← this, tBD]
    · dsimp only at lg; omega
    · omega
