/-! ===== joins at an edge, at the rim ===== -/
def opD (R C : Nat) (D : Nat → Prop) (x : Nat) : Prop := x < 8 * (R * C) ∧ ∃ e : Nat, xe R C x = (e : Int) ∧ D e
def prs (R C e : Nat) (z : Int) : (Nat × Nat) × (Nat × Nat) := if z = 2 then ((eA R C e, eB R C e), (eC R C e, eD R C e)) else if z = 3 then ((eA R C e, eD R C e), (eB R C e, eC R C e)) else ((eA R C e, eC R C e), (eB R C e, eD R C e))
theorem JS.edge {R C e : Nat} {D : Nat → Prop} {P : List (Nat × Nat)} {s : JT} (h : gok R C) (he : e < gn R C) (hD : D e) (hS : JS (4 * (R * C)) (opD R C D) P s) (z : Int) : JS (4 * (R * C)) (opD R C (fun i => D i ∧ i ≠ e)) ((prs R C e z).2 :: (prs R C e z).1 :: P) (jst (jst s (prs R C e z).1) (prs R C e z).2) := by
  obtain ⟨a1, a2, a3, a4, n1, n2, n3, n4, n5, n6⟩ := ed_lt h he
  obtain ⟨x1, x2, x3, x4⟩ := ed_xe h he
  have oA : opD R C D (eA R C e) := ⟨a1, e, x1, hD⟩
  have oB : opD R C D (eB R C e) := ⟨a2, e, x2, hD⟩
  have oC : opD R C D (eC R C e) := ⟨a3, e, x3, hD⟩
  have oD : opD R C D (eD R C e) := ⟨a4, e, x4, hD⟩
  have cg : ∀ x, opD R C (fun i => D i ∧ i ≠ e) x ↔ opD R C D x ∧ x ≠ eA R C e ∧ x ≠ eB R C e ∧ x ≠ eC R C e ∧ x ≠ eD R C e := by
    intro x
    refine ⟨fun w => ?_, fun w => ?_⟩
    · obtain ⟨w1, i, w2, w3, w4⟩ := w
      refine ⟨⟨w1, i, w2, w3⟩, fun q => ?_, fun q => ?_, fun q => ?_, fun q => ?_⟩
      · rw [q, x1] at w2; omega
      · rw [q, x2] at w2; omega
      · rw [q, x3] at w2; omega
      · rw [q, x4] at w2; omega
    · obtain ⟨⟨w1, i, w2, w3⟩, u1, u2, u3, u4⟩ := w
      refine ⟨w1, i, w2, w3, fun q => ?_⟩
      rw [q] at w2
      rcases ed_all h w1 w2 with c | c | c | c
      · exact u1 c
      · exact u2 c
      · exact u3 c
      · exact u4 c
  unfold prs
  by_cases z2 : z = 2
  · rw [if_pos z2]
    refine ((hS.step oA oB n1).step (x := eC R C e) (y := eD R C e) ⟨oC, n2.symm, n4.symm⟩ ⟨oD, n3.symm, n5.symm⟩ n6).congr (fun x => (cg x).trans ?_)
    unfold opL
    exact ⟨fun w => ⟨⟨w.1, w.2.1, w.2.2.1⟩, w.2.2.2.1, w.2.2.2.2⟩, fun w => ⟨w.1.1, w.1.2.1, w.1.2.2, w.2.1, w.2.2⟩⟩
  · rw [if_neg z2]
    by_cases z3 : z = 3
    · rw [if_pos z3]
      refine ((hS.step oA oD n3).step (x := eB R C e) (y := eC R C e) ⟨oB, n1.symm, n5⟩ ⟨oC, n2.symm, n6⟩ n4).congr (fun x => (cg x).trans ?_)
      unfold opL
      exact ⟨fun w => ⟨⟨w.1, w.2.1, w.2.2.2.2⟩, w.2.2.1, w.2.2.2.1⟩, fun w => ⟨w.1.1, w.1.2.1, w.2.1, w.2.2, w.1.2.2⟩⟩
    · rw [if_neg z3]
      refine ((hS.step oA oC n2).step (x := eB R C e) (y := eD R C e) ⟨oB, n1.symm, n4⟩ ⟨oD, n3.symm, n6.symm⟩ n5).congr (fun x => (cg x).trans ?_)
      unfold opL
      exact ⟨fun w => ⟨⟨w.1, w.2.1, w.2.2.2.1⟩, w.2.2.1, w.2.2.2.2⟩, fun w => ⟨w.1.1, w.1.2.1, w.2.1, w.1.2.2, w.2.2⟩⟩
theorem gl_glk {G : GV} {x : Nat} : gl G x = glk G.1 G.2.1 (if xe G.1 G.2.1 x = -1 then 2 else G.2.2 (xe G.1 G.2.1 x).toNat) x := rfl
theorem prs_gl {G : GV} (hG : vG G) {e : Nat} (he : e < gn G.1 G.2.1) : ∀ p, p = (prs G.1 G.2.1 e (G.2.2 e)).1 ∨ p = (prs G.1 G.2.1 e (G.2.2 e)).2 → p.1 < 2 * nC G ∧ p.2 = gl G p.1 := by
  obtain ⟨a1, a2, a3, a4, -⟩ := ed_lt hG.1 he
  obtain ⟨x1, x2, x3, x4⟩ := ed_xe hG.1 he
  obtain ⟨⟨g1, g2⟩, ⟨g3, g4⟩, ⟨g5, g6⟩, ⟨g7, g8⟩⟩ := ed_gl hG.1 he
  have hk := hG.2 e he
  have hN : 2 * nC G = 8 * (G.1 * G.2.1) := by unfold nC; omega
  have key : ∀ x, xe G.1 G.2.1 x = (e : Int) → gl G x = glk G.1 G.2.1 (G.2.2 e) x := by
    intro x hx
    rw [gl_glk, hx, if_neg (by omega), Int.toNat_natCast]
  rw [hN]
  intro p hp
  unfold prs at hp
  by_cases z2 : G.2.2 e = 2
  · rw [if_pos z2] at hp
    rcases hp with hp | hp <;> rw [hp] <;> dsimp only
    · exact ⟨a1, by rw [key _ x1, z2, g1]⟩
    · exact ⟨a3, by rw [key _ x3, z2, g2]⟩
  · rw [if_neg z2] at hp
    by_cases z3 : G.2.2 e = 3
    · rw [if_pos z3] at hp
      rcases hp with hp | hp <;> rw [hp] <;> dsimp only
      · exact ⟨a1, by rw [key _ x1, z3, g3]⟩
      · exact ⟨a2, by rw [key _ x2, z3, g4]⟩
    · rw [if_neg z3] at hp
      have : G.2.2 e = 0 ∨ G.2.2 e = 1 := by omega
      rcases hp with hp | hp <;> rw [hp] <;> dsimp only
      · refine ⟨a1, ?_⟩
        rw [key _ x1]
        rcases this with c | c <;> rw [c]
        · exact g5.symm
        · exact g7.symm
      · refine ⟨a2, ?_⟩
        rw [key _ x2]
        rcases this with c | c <;> rw [c]
        · exact g6.symm
        · exact g8.symm
def opR (R C q x : Nat) : Prop := x < 8 * (R * C) ∧ (xe R C x ≠ -1 ∨ q ≤ psE x)
theorem ps_ok {R C q : Nat} (h : gok R C) (hq : q < 4 * (R * C)) : psE (2 * q) = q ∧ psE (clE q) = q := by
  have h1 := h.le
  have : R * C ≤ 4 * 4 := Nat.mul_le_mul h1.1 h1.2
  exact ps_D q (by omega)
theorem JS.rim {R C q : Nat} {P : List (Nat × Nat)} {s : JT} (h : gok R C) (hq : q < 4 * (R * C)) (he : ges R C (q / 4) (q % 4) = -1) (hS : JS (4 * (R * C)) (opR R C q) P s) : JS (4 * (R * C)) (opR R C (q + 1)) ((2 * q, clE q) :: P) (jst s (2 * q, clE q)) := by
  obtain ⟨⟨r1, r2, r3⟩, r4, r5, r6⟩ := rm_ok h hq he
  obtain ⟨p1, p2⟩ := ps_ok h hq
  refine (hS.step (x := 2 * q) (y := clE q) ⟨r1, Or.inr (by omega)⟩ ⟨r2, Or.inr (by omega)⟩ r3).congr (fun x => ⟨fun w => ?_, fun w => ?_⟩)
  · obtain ⟨w1, w2⟩ := w
    refine ⟨⟨w1, ?_⟩, fun e => ?_, fun e => ?_⟩
    · rcases w2 with c | c
      · exact Or.inl c
      · exact Or.inr (by omega)
    · rw [e, r5, p1] at w2
      rcases w2 with c | c
      · exact c rfl
      · omega
    · rw [e, r6, p2] at w2
      rcases w2 with c | c
      · exact c rfl
      · omega
  · obtain ⟨⟨w1, w2⟩, w3, w4⟩ := w
    refine ⟨w1, ?_⟩
    rcases w2 with c | c
    · exact Or.inl c
    · refine Or.inr ?_
      obtain ⟨v1, -⟩ := rm_all h w1
      have : psE x ≠ q := fun e => by
        rw [e] at v1
        rcases v1 with v1 | v1
        · exact w3 v1
        · exact w4 v1
      omega
theorem JS.rim0 {R C q : Nat} {P : List (Nat × Nat)} {s : JT} (h : gok R C) (he : ges R C (q / 4) (q % 4) ≠ -1) (hS : JS (4 * (R * C)) (opR R C q) P s) : JS (4 * (R * C)) (opR R C (q + 1)) P s := by
  refine hS.congr (fun x => ⟨fun w => ⟨w.1, ?_⟩, fun w => ⟨w.1, ?_⟩⟩)
  · rcases w.2 with c | c
    · exact Or.inl c
    · exact Or.inr (by omega)
  · rcases w.2 with c | c
    · exact Or.inl c
    · obtain ⟨-, -, v3⟩ := rm_all h w.1
      by_cases e : psE x = q
      · rw [e] at v3
        exact Or.inl (by rw [v3]; exact he)
      · exact Or.inr (by omega)
theorem JS.rimS {R C : Nat} : JS (4 * (R * C)) (opR R C 0) [] js0 := (JS.start (4 * (R * C))).congr (fun x => ⟨fun w => by have := w.1; show x < 2 * (4 * (R * C)); omega, fun w => ⟨by have w : x < 2 * (4 * (R * C)) := w; omega, Or.inr (Nat.zero_le _)⟩⟩)
theorem JS.rimE {R C : Nat} {P : List (Nat × Nat)} {s : JT} (h : gok R C) (hS : JS (4 * (R * C)) (opR R C (4 * (R * C))) P s) : JS (4 * (R * C)) (opD R C (fun e => e < gn R C)) P s := by
  refine hS.congr (fun x => ⟨fun w => ?_, fun w => ?_⟩)
  · obtain ⟨w1, e, w2, w3⟩ := w
    exact ⟨w1, Or.inl (by rw [w2]; omega)⟩
  · obtain ⟨w1, w2⟩ := w
    obtain ⟨-, v2, v3⟩ := rm_all h w1
    have := ges_rng (R := R) (C := C) h.le.1 h.le.2 (c := psE x / 4) (s := psE x % 4) (by omega)
    refine ⟨w1, (xe R C x).toNat, ?_, ?_⟩
    · rcases w2 with c | c
      · omega
      · omega
    · rcases w2 with c | c
      · omega
      · omega
theorem rim_gl {G : GV} (hG : vG G) {q : Nat} (hq : q < 4 * (G.1 * G.2.1)) (he : ges G.1 G.2.1 (q / 4) (q % 4) = -1) : 2 * q < 2 * nC G ∧ clE q = gl G (2 * q) := by
  obtain ⟨⟨r1, r2, r3⟩, r4, r5, r6⟩ := rm_ok hG.1 hq he
  refine ⟨by unfold nC; omega, ?_⟩
  rw [gl_glk, r5, if_pos rfl, r4]
