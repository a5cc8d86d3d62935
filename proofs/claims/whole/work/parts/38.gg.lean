/-! ===== a Grid as a value: rows, columns, kinds ===== -/
def gn (R C : Nat) : Nat := (spl R C (R * C)).length
def gsp (R C e : Nat) : Nat := (spl R C (R * C)).getD e 0
def gcell (R C e : Nat) : Nat := gsp R C e / 2
def gbel (R C e : Nat) : Nat := gsp R C e % 2
/-- the edge at a spot, -1: none -/
def geb (R C s : Nat) : Int := if s ∈ spl R C (R * C) then ((spl R C (R * C)).idxOf s : Int) else -1
def gok (R C : Nat) : Prop := (R = 0 ∧ C = 0) ∨ (1 ≤ R ∧ R ≤ 4 ∧ 1 ≤ C ∧ C ≤ 4)
theorem gok.le {R C : Nat} (h : gok R C) : R ≤ 4 ∧ C ≤ 4 := by unfold gok at h; omega
theorem gn_le : ∀ R, R ≤ 4 → ∀ C, C ≤ 4 → gn R C ≤ 24 := by decide
theorem gsp_lt : ∀ R, R ≤ 4 → ∀ C, C ≤ 4 → ∀ e, e < gn R C → gsp R C e < 2 * (R * C) ∧ gsp R C e < 32 ∧ geb R C (gsp R C e) = e := by decide
theorem geb_rng : ∀ R, R ≤ 4 → ∀ C, C ≤ 4 → ∀ s, s < 32 → -1 ≤ geb R C s ∧ geb R C s < gn R C := by decide
/-- a Grid at g -/
def GG (h : am_H) (g R C : Nat) (kd : Nat → Int) : Prop := gok R C ∧ (∀ e, e < gn R C → 0 ≤ kd e ∧ kd e ≤ 3) ∧ ∃ K S B, GC h g R C (gn R C) K S B ∧ (∀ e, e < gn R C → K e = kd e ∧ S e = gsp R C e) ∧ ∀ s, s < 2 * (R * C) → B s = geb R C s
section GGS
variable {E : am_E} {k : Nat} {h : am_H} {g R C : Nat} {kd : Nat → Int}
theorem GG.gr (G : GG h g R C kd) : ∃ K S B, GR h g R C (gn R C) K S B ∧ (∀ e, e < gn R C → K e = kd e ∧ S e = gsp R C e) ∧ ∀ s, s < 2 * (R * C) → B s = geb R C s := by
  obtain ⟨h1, h2, K, S, B, h3, h4, h5⟩ := G
  obtain ⟨r1, c1⟩ := h1.le
  have hgn := gn_le R r1 C c1
  refine ⟨K, S, B, ⟨h3.1, h3.2.1, h3.2.2.1, h3.2.2.2.1, h3.2.2.2.2, by omega, by omega, by omega, fun e he => ?_, fun s hs => ?_⟩, h4, h5⟩
  · have he : e < gn R C := by omega
    obtain ⟨q1, q2⟩ := h4 e he
    have q3 := gsp_lt R r1 C c1 e he
    have q4 := h2 e he
    omega
  · have hRC : R * C ≤ 16 := Nat.mul_le_mul r1 c1
    have e1 : ((R : Int) * (C : Int)) = ((R * C : Nat) : Int) := by simp
    rw [e1] at hs
    rw [h5 s (by omega)]
    exact geb_rng R r1 C c1 s (by omega)
theorem GG.obj (G : GG h g R C kd) : h[g]? = some (cO 3 [.int (iI (R : Int)), .int (iI (C : Int)), .int (iI (gn R C : Int)), .ref (g + 1), .ref (g + 2), .ref (g + 3)]) := by
  obtain ⟨-, -, K, S, B, h3, -⟩ := G
  exact h3.1
theorem GG.lt (G : GG h g R C kd) : g + 3 < 1000000 := by
  obtain ⟨-, -, K, S, B, h3, -⟩ := G
  exact h3.2.2.2.2
theorem GG.moved {h1 : am_H} {g' : Nat} (G : GG h g R C kd) (hf : FG h h1 g') (ha : g + 3 < g' ∨ g' + 3 < g) : GG h1 g R C kd := by
  obtain ⟨h1', h2, K, S, B, h3, h4⟩ := G
  exact ⟨h1', h2, K, S, B, ⟨(hf.2 g (by omega)).trans h3.1, (hf.2 (g + 1) (by omega)).trans h3.2.1, (hf.2 (g + 2) (by omega)).trans h3.2.2.1, (hf.2 (g + 3) (by omega)).trans h3.2.2.2.1, h3.2.2.2.2⟩, h4⟩
theorem GG.same {h1 : am_H} (G : GG h g R C kd) (hf : ∀ b : Nat, g ≤ b → b ≤ g + 3 → h1[b]? = h[b]?) : GG h1 g R C kd := by
  obtain ⟨h1', h2, K, S, B, h3, h4⟩ := G
  exact ⟨h1', h2, K, S, B, ⟨(hf g (by omega) (by omega)).trans h3.1, (hf (g + 1) (by omega) (by omega)).trans h3.2.1, (hf (g + 2) (by omega) (by omega)).trans h3.2.2.1, (hf (g + 3) (by omega) (by omega)).trans h3.2.2.2.1, h3.2.2.2.2⟩, h4⟩
theorem GG.congr {kd2 : Nat → Int} (G : GG h g R C kd) (hk : ∀ e, e < gn R C → kd e = kd2 e) : GG h g R C kd2 := by
  obtain ⟨h1', h2, K, S, B, h3, h4, h5⟩ := G
  exact ⟨h1', fun e he => by rw [← hk e he]; exact h2 e he, K, S, B, h3, fun e he => by rw [← hk e he]; exact h4 e he, h5⟩
theorem G_rows (G : GG h g R C kd) : wp E k 25 0 (am_entry [.ref g] 1) [] h (aI (R : Int) h) := by
  obtain ⟨K, S, B, G1, -⟩ := G.gr
  exact m_G_rows G1
theorem G_columns (G : GG h g R C kd) : wp E k 26 0 (am_entry [.ref g] 1) [] h (aI (C : Int) h) := by
  obtain ⟨K, S, B, G1, -⟩ := G.gr
  exact m_G_columns G1
theorem G_cells (G : GG h g R C kd) : wp E k 27 0 (am_entry [.ref g] 1) [] h (aI ((R * C : Nat) : Int) h) := by
  obtain ⟨K, S, B, G1, -⟩ := G.gr
  have := m_G_cells (E := E) (k := k) G1
  rw [show ((R * C : Nat) : Int) = (R : Int) * (C : Int) by simp]
  exact this
theorem G_edges (G : GG h g R C kd) : wp E k 28 0 (am_entry [.ref g] 1) [] h (aI (gn R C : Int) h) := by
  obtain ⟨K, S, B, G1, -⟩ := G.gr
  exact m_G_edges G1
theorem G_hasEdge (G : GG h g R C kd) (e : Int) (e1 : -2147483648 ≤ e) (e2 : e < 2147483648) : wp E k 29 0 (am_entry [.ref g, .int (iI e)] 2) [] h (aI (if 0 ≤ e ∧ e < gn R C then 1 else 0) h) := by
  obtain ⟨K, S, B, G1, -⟩ := G.gr
  exact m_G_hasEdge G1 e e1 e2
theorem G_hasCell (G : GG h g R C kd) (c : Int) (c1 : -2147483648 ≤ c) (c2 : c < 2147483648) : wp E k 30 0 (am_entry [.ref g, .int (iI c)] 2) [] h (aI (if 0 ≤ c ∧ c < ((R * C : Nat) : Int) then 1 else 0) h) := by
  obtain ⟨K, S, B, G1, -⟩ := G.gr
  rw [show ((R * C : Nat) : Int) = (R : Int) * (C : Int) by simp]
  exact m_G_hasCell G1 c c1 c2
theorem G_rowOf (G : GG h g R C kd) (h1 : 1 ≤ C) (c : Nat) (hc : c < 1000) : wp E k 31 0 (am_entry [.ref g, .int (iI (c : Int))] 2) [] h (aI ((c / C : Nat) : Int) h) := by
  obtain ⟨K, S, B, G1, -⟩ := G.gr
  have := m_G_rowOf (E := E) (k := k) G1 (c : Int) (by omega) (by omega) (by omega)
  rw [if_neg (by omega)] at this
  exact this
theorem G_columnOf (G : GG h g R C kd) (h1 : 1 ≤ C) (c : Nat) (hc : c < 1000) : wp E k 32 0 (am_entry [.ref g, .int (iI (c : Int))] 2) [] h (aI ((c % C : Nat) : Int) h) := by
  obtain ⟨K, S, B, G1, -⟩ := G.gr
  have := m_G_columnOf (E := E) (k := k) G1 (c : Int) (by omega) (by omega) (by omega)
  rw [if_neg (by omega)] at this
  exact this
theorem G_kindOf (G : GG h g R C kd) (e : Nat) (he : e < gn R C) : wp E k 33 0 (am_entry [.ref g, .int (iI (e : Int))] 2) [] h (aI (kd e) h) := by
  obtain ⟨K, S, B, G1, h1, h2⟩ := G.gr
  have hb := G1.2.2.2.2.2.2.2.1
  have := m_G_kindOf (E := E) (k := k) G1 (e : Int) (by omega) (by omega)
  rw [if_pos (by omega), Int.toNat_natCast, (h1 e he).1] at this
  exact this
theorem G_kindOf_out (G : GG h g R C kd) (e : Int) (e1 : -2147483648 ≤ e) (e2 : e < 2147483648) (he : ¬ (0 ≤ e ∧ e < gn R C)) : wp E k 33 0 (am_entry [.ref g, .int (iI e)] 2) [] h (aI (-1) h) := by
  obtain ⟨K, S, B, G1, h1, h2⟩ := G.gr
  have := m_G_kindOf (E := E) (k := k) G1 e e1 e2
  rw [if_neg he] at this
  exact this
theorem G_cellOf (G : GG h g R C kd) (e : Nat) (he : e < gn R C) : wp E (k + 1) 35 0 (am_entry [.ref g, .int (iI (e : Int))] 2) [] h (aI (gcell R C e : Int) h) := by
  obtain ⟨K, S, B, G1, h1, h2⟩ := G.gr
  have hb := G1.2.2.2.2.2.2.2.1
  have := m_G_cellOf (E := E) (k := k) G1 (e : Int) (by omega) (by omega)
  rw [if_pos (by omega), Int.toNat_natCast, (h1 e he).2] at this
  exact this
theorem G_belowOf (G : GG h g R C kd) (e : Nat) (he : e < gn R C) : wp E (k + 1) 36 0 (am_entry [.ref g, .int (iI (e : Int))] 2) [] h (aI (gbel R C e : Int) h) := by
  obtain ⟨K, S, B, G1, h1, h2⟩ := G.gr
  have hb := G1.2.2.2.2.2.2.2.1
  have := m_G_belowOf (E := E) (k := k) G1 (e : Int) (by omega) (by omega)
  rw [if_pos (by omega), Int.toNat_natCast, (h1 e he).2] at this
  exact this
theorem G_edgeAt (G : GG h g R C kd) (c b : Nat) (hc : c < R * C) (hb : b ≤ 1) : wp E (k + 1) 37 0 (am_entry [.ref g, .int (iI (c : Int)), .int (iI (b : Int))] 3) [] h (aI (geb R C (2 * c + b)) h) := by
  obtain ⟨K, S, B, G1, h1, h2⟩ := G.gr
  obtain ⟨r1, c1⟩ := G.1.le
  have hRC : R * C ≤ 16 := Nat.mul_le_mul r1 c1
  have := m_G_edgeAt (E := E) (k := k) G1 (c : Int) (by omega) (by omega) (b : Int) (by omega) (by omega) (by omega)
  unfold gEA at this
  rw [if_pos ⟨⟨by omega, by rw [show (R : Int) * (C : Int) = ((R * C : Nat) : Int) by simp]; omega⟩, by omega⟩] at this
  rw [show (2 * (c : Int) + (b : Int)).toNat = 2 * c + b by omega, h2 _ (by omega)] at this
  exact this
theorem G_change (G : GG h g R C kd) (e d : Int) (e1 : -2147483648 ≤ e) (e2 : e < 2147483648) (d1 : 0 ≤ d) (d2 : d ≤ 3) : wp E (k + 1) 42 0 (am_entry [.ref g, .int (iI e), .int (iI d)] 3) [] h (fun r h1 => r = none ∧ FG h h1 g ∧ GG h1 g R C (if 0 ≤ e ∧ e < gn R C then up kd e.toNat d else kd)) := by
  have G0 := G
  obtain ⟨K, S, B, G1, h1, h2⟩ := G.gr
  refine (m_G_change G1 e d e1 e2 d1 d2).mono (fun r h' q => ⟨q.1, q.2.1, G0.1, ?_, _, _, _, q.2.2.gc, ?_, h2⟩)
  · intro e' he'
    split
    · simp only [up]
      split
      · omega
      · exact G0.2.1 e' he'
    · exact G0.2.1 e' he'
  · intro e' he'
    refine ⟨?_, (h1 e' he').2⟩
    split
    · simp only [up]
      split
      · rfl
      · exact (h1 e' he').1
    · exact (h1 e' he').1
theorem G_lay {K S B : Nat → Int} {R0 C0 n0 : Int} (G : GC h g R0 C0 n0 K S B) (r c : Int) (r1 : -2147483648 ≤ r) (r2 : r < 2147483648) (c1 : -2147483648 ≤ c) (c2 : c < 2147483648) : wp E (k + 2) 23 0 (am_entry [.ref g, .int (iI r), .int (iI c)] 7) [] h (fun q h1 => q = none ∧ FG h h1 g ∧ GG h1 g (layR r c) (layC r c) (fun _ => 0)) := by
  refine (m_G_lay G r c r1 r2 c1 c2).mono (fun q h1 z => ⟨z.1, z.2.1, ?_⟩)
  obtain ⟨-, -, K1, n1, S1, B1, h3, h4, h5⟩ := z
  have hle := layR_le r c
  have hle2 := layC_le r c
  have hn := gn_le _ hle _ hle2
  obtain ⟨q1, q2, q3⟩ := h4
  subst q1
  refine ⟨?_, fun e he => ⟨by show (0 : Int) ≤ 0; omega, by show (0 : Int) ≤ 3; omega⟩, K1, S1, B1, h3, fun e he => ⟨h5 e (by omega), q2 e he⟩, fun s hs => ?_⟩
  · unfold gok layR layC
    split
    · omega
    · omega
  · have hRC : layR r c * layC r c ≤ 16 := Nat.mul_le_mul hle hle2
    exact q3 s (by omega)
end GGS
