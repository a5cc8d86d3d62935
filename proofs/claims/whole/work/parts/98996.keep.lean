/-! ===== Settings: edges, all ways ===== -/
theorem prs_op {R C e : Nat} {D : Nat → Prop} (h : gok R C) (he : e < gn R C) (hD : D e) (z : Int) : opD R C D (prs R C e z).1.1 ∧ opD R C D (prs R C e z).1.2 ∧ (prs R C e z).1.1 ≠ (prs R C e z).1.2 ∧ opL (opD R C D) (prs R C e z).1.1 (prs R C e z).1.2 (prs R C e z).2.1 ∧ opL (opD R C D) (prs R C e z).1.1 (prs R C e z).1.2 (prs R C e z).2.2 ∧ (prs R C e z).2.1 ≠ (prs R C e z).2.2 := by
  obtain ⟨a1, a2, a3, a4, n1, n2, n3, n4, n5, n6⟩ := ed_lt h he
  obtain ⟨x1, x2, x3, x4⟩ := ed_xe h he
  have oA : opD R C D (eA R C e) := ⟨a1, e, x1, hD⟩
  have oB : opD R C D (eB R C e) := ⟨a2, e, x2, hD⟩
  have oC : opD R C D (eC R C e) := ⟨a3, e, x3, hD⟩
  have oD : opD R C D (eD R C e) := ⟨a4, e, x4, hD⟩
  unfold prs
  by_cases z2 : z = 2
  · rw [if_pos z2]
    exact ⟨oA, oB, n1, ⟨oC, n2.symm, n4.symm⟩, ⟨oD, n3.symm, n5.symm⟩, n6⟩
  · rw [if_neg z2]
    by_cases z3 : z = 3
    · rw [if_pos z3]
      exact ⟨oA, oD, n3, ⟨oB, n1.symm, n5⟩, ⟨oC, n2.symm, n6⟩, n4⟩
    · rw [if_neg z3]
      exact ⟨oA, oC, n2, ⟨oB, n1.symm, n4⟩, ⟨oD, n3.symm, n6.symm⟩, n5⟩
theorem jst_one (s : JT) (p : Nat × Nat) : (jst s p).2.2 = s.2.2 + 1 ∨ (jst s p).2.2 = s.2.2 := by
  unfold jst
  split
  · exact Or.inl rfl
  · exact Or.inr rfl
theorem xrk_ex {G : GV} {i : Nat} : ∀ n, i < xrk G n → ∃ e, e < n ∧ crX G e ∧ xrk G e = i
  | 0, h => absurd h (by unfold xrk; simp [cnt])
  | n + 1, h => by
    rcases Nat.lt_or_ge i (xrk G n) with c | c
    · obtain ⟨e, e1, e2⟩ := xrk_ex n c
      exact ⟨e, by omega, e2⟩
    · rw [xrk_succ] at h
      by_cases q : G.2.2 n = 0 ∨ G.2.2 n = 1
      · rw [if_pos q] at h
        exact ⟨n, by omega, q, by omega⟩
      · rw [if_neg q] at h
        omega
/-- the ends that the class keeps of the crosses before an edge -/
def XC (m : MM) (G : GV) (e : Nat) : Prop := m 28 1 = (xrk G e : Int) ∧ ∀ i, i < e → crX G i → m 34 (4 * xrk G i) = (eA G.1 G.2.1 i : Int) ∧ m 34 (4 * xrk G i + 1) = (eB G.1 G.2.1 i : Int) ∧ m 34 (4 * xrk G i + 2) = (eC G.1 G.2.1 i : Int) ∧ m 34 (4 * xrk G i + 3) = (eD G.1 G.2.1 i : Int) ∧ m 35 (xrk G i) = if G.2.2 i = 1 then 1 else 0
theorem XC.move {m m1 : MM} {G : GV} {e : Nat} (h : XC m G e) (h1 : m1 28 = m 28) (h2 : m1 34 = m 34) (h3 : m1 35 = m 35) : XC m1 G e := by
  unfold XC
  rw [h1, h2, h3]
  exact h
section JO
variable {E : am_E} {k : Nat} {m : MM} {γ : GM} {t : am_H}
theorem S_two {K : Int → Int → MM → GM → am_H → Prop} {G : GV} {D : Nat → Prop} {P : List (Nat × Nat)} {s : JT} {z1 z2 z3 z4 : Int} (e : Nat) (z : Int) (hG : vG G) (he : e < gn G.1 G.2.1) (hD : D e) (hJ : JS (nC G) (opD G.1 G.2.1 D) P s) (hM : MU (m 33) s) (h1 : z1 = ((prs G.1 G.2.1 e z).1.1 : Int)) (h2 : z2 = ((prs G.1 G.2.1 e z).1.2 : Int)) (h3 : z3 = ((prs G.1 G.2.1 e z).2.1 : Int)) (h4 : z4 = ((prs G.1 G.2.1 e z).2.2 : Int))
    (hQ : ∀ row1 row2 v1 v2, MU row2 (jst (jst s (prs G.1 G.2.1 e z).1) (prs G.1 G.2.1 e z).2) → UN row1 (m 33) (prs G.1 G.2.1 e z).1.1 (prs G.1 G.2.1 e z).1.2 → UN row2 row1 (prs G.1 G.2.1 e z).2.1 (prs G.1 G.2.1 e z).2.2 → s.2.2 + (v1 + v2) = (jst (jst s (prs G.1 G.2.1 e z).1) (prs G.1 G.2.1 e z).2).2.2 → 0 ≤ v1 + v2 ∧ v1 + v2 ≤ 2 → K v1 v2 (up m 33 row2) γ t) :
    TI E (k + 1) 67 [.ref 28, .int (iI z1), .int (iI z2)] m γ t (fun v1 m1 γ1 t1 => TI E (k + 1) 67 [.ref 28, .int (iI z3), .int (iI z4)] m1 γ1 t1 (fun v2 m2 γ2 t2 => K v1 v2 m2 γ2 t2)) := by
  obtain ⟨o1, o2, o3, o4, o5, o6⟩ := prs_op hG.1 he hD z
  have hN : 2 * nC G ≤ 128 := by
    have hle := hG.1.le
    have : G.1 * G.2.1 ≤ 4 * 4 := Nat.mul_le_mul hle.1 hle.2
    unfold nC
    omega
  have J1 := hJ.step o1 o2 o3
  refine S_joinS (s := s) _ _ h1 h2 hJ.1 hN o1 o2 o3 hM (fun row1 g1 g2 => ?_)
  refine S_joinS (s := jst s (prs G.1 G.2.1 e z).1) _ _ h3 h4 J1.1 hN o4 o5 o6 (by rw [up_self]; exact g1) (fun row2 g3 g4 => ?_)
  rw [up_up]
  rw [up_self] at g4
  have q1 := jst_one s (prs G.1 G.2.1 e z).1
  have q2 := jst_one (jst s (prs G.1 G.2.1 e z).1) (prs G.1 G.2.1 e z).2
  have e1 : ((prs G.1 G.2.1 e z).1.1, (prs G.1 G.2.1 e z).1.2) = (prs G.1 G.2.1 e z).1 := rfl
  have e2 : ((prs G.1 G.2.1 e z).2.1, (prs G.1 G.2.1 e z).2.2) = (prs G.1 G.2.1 e z).2 := rfl
  rw [e1, e2] at *
  exact hQ row1 row2 _ _ g3 g2 g4 (by omega) (by omega)
theorem S_put4 {K : MM → GM → am_H → Prop} {z1 z2 z3 z4 : Int} {j a b c d : Nat} (h28 : m 28 1 = (j : Int)) (hj : j < 12) (h1 : z1 = (a : Int)) (h2 : z2 = (b : Int)) (h3 : z3 = (c : Int)) (h4 : z4 = (d : Int)) (ha : a < 128) (hb : b < 128) (hc : c < 128) (hd : d < 128) (hK : K (up m 34 (up (up (up (up (m 34) (4 * j) (a : Int)) (4 * j + 1) (b : Int)) (4 * j + 2) (c : Int)) (4 * j + 3) (d : Int))) γ t) :
    TV E k 183 [.ref 34, .int (iI (4 * (m 28 1))), .int (iI z1)] m γ t (fun m1 γ1 t1 => TV E k 183 [.ref 34, .int (iI ((4 * (m1 28 1)) + 1)), .int (iI z2)] m1 γ1 t1 (fun m2 γ2 t2 => TV E k 183 [.ref 34, .int (iI ((4 * (m2 28 1)) + 2)), .int (iI z3)] m2 γ2 t2 (fun m3 γ3 t3 => TV E k 183 [.ref 34, .int (iI ((4 * (m3 28 1)) + 3)), .int (iI z4)] m3 γ3 t3 K))) := by
  subst h1 h2 h3 h4
  have e0 : 4 * (j : Int) = ((4 * j : Nat) : Int) := by omega
  have e1 : 4 * (j : Int) + 1 = ((4 * j + 1 : Nat) : Int) := by omega
  have e2 : 4 * (j : Int) + 2 = ((4 * j + 2 : Nat) : Int) := by omega
  have e3 : 4 * (j : Int) + 3 = ((4 * j + 3 : Nat) : Int) := by omega
  rw [h28]
  refine S_put 48 rfl rfl (by decide) (by omega) (by omega) ?_
  rw [up_ne (show 28 ≠ 34 by decide), h28]
  refine S_put 48 rfl rfl (by decide) (by omega) (by omega) ?_
  rw [up_ne (show 28 ≠ 34 by decide), up_ne (show 28 ≠ 34 by decide), h28]
  refine S_put 48 rfl rfl (by decide) (by omega) (by omega) ?_
  rw [up_ne (show 28 ≠ 34 by decide), up_ne (show 28 ≠ 34 by decide), up_ne (show 28 ≠ 34 by decide), h28]
  refine S_put 48 rfl rfl (by decide) (by omega) (by omega) ?_
  rw [e1, e2, e3, e0, ptn_in (by omega), up_self, up_up, ptn_in (by omega), up_self, up_up, ptn_in (by omega), up_self, up_up, ptn_in (by omega)]
  exact hK
theorem XC.next {G : GV} {e : Nat} {F : Nat → Int} (h : XC m G e) (hx : crX G e) (hF : F = up (m 35) (xrk G e) (if G.2.2 e = 1 then 1 else 0)) : XC (up (up (up m 35 F) 34 (up (up (up (up (m 34) (4 * xrk G e) (eA G.1 G.2.1 e : Int)) (4 * xrk G e + 1) (eB G.1 G.2.1 e : Int)) (4 * xrk G e + 2) (eC G.1 G.2.1 e : Int)) (4 * xrk G e + 3) (eD G.1 G.2.1 e : Int))) 28 (up (m 28) 1 ((xrk G e : Int) + 1))) G (e + 1) := by
  refine ⟨?_, fun i hi hxi => ?_⟩
  · rw [up_self, up_self, xrk_succ, if_pos (show G.2.2 e = 0 ∨ G.2.2 e = 1 from hx)]
    omega
  · rw [up_ne (show 34 ≠ 28 by decide), up_self, up_ne (show 35 ≠ 28 by decide), up_ne (show 35 ≠ 34 by decide), up_self, hF]
    by_cases c : i = e
    · subst c
      refine ⟨?_, ?_, ?_, ?_, ?_⟩
      · rw [up_ne (by omega), up_ne (by omega), up_ne (by omega), up_self]
      · rw [up_ne (by omega), up_ne (by omega), up_self]
      · rw [up_ne (by omega), up_self]
      · rw [up_self]
      · rw [up_self]
    · have hlt := xrk_cr hxi (show i < e by omega)
      obtain ⟨g1, g2, g3, g4, g5⟩ := h.2 i (by omega) hxi
      refine ⟨?_, ?_, ?_, ?_, ?_⟩
      · rw [up_ne (by omega), up_ne (by omega), up_ne (by omega), up_ne (by omega)]; exact g1
      · rw [up_ne (by omega), up_ne (by omega), up_ne (by omega), up_ne (by omega)]; exact g2
      · rw [up_ne (by omega), up_ne (by omega), up_ne (by omega), up_ne (by omega)]; exact g3
      · rw [up_ne (by omega), up_ne (by omega), up_ne (by omega), up_ne (by omega)]; exact g4
      · rw [up_ne (by omega)]; exact g5
theorem S_joinOrKeep {Q : Int → MM → GM → am_H → Prop} {G : GV} {P : List (Nat × Nat)} {s : JT} (e : Nat) (hG : vG G) (hγ : γ 29 = G) (h12 : nX G ≤ 12) (he : e < gn G.1 G.2.1) (hJ : JS (nC G) (opD G.1 G.2.1 (fun i => i < gn G.1 G.2.1 ∧ (e ≤ i ∨ crX G i))) P s) (hP : ∀ set, ∀ p ∈ P, p.1 < 2 * nC G ∧ p.2 = gl (smo G set) p.1) (hM : MU (m 33) s) (hX : XC m G e)
    (hQ : ∀ m1 P1 s1, JS (nC G) (opD G.1 G.2.1 (fun i => i < gn G.1 G.2.1 ∧ (e + 1 ≤ i ∨ crX G i))) P1 s1 → (∀ set, ∀ p ∈ P1, p.1 < 2 * nC G ∧ p.2 = gl (smo G set) p.1) → MU (m1 33) s1 → XC m1 G (e + 1) → (∀ b, b ≠ 28 → b ≠ 33 → b ≠ 34 → b ≠ 35 → m1 b = m b) → s.2.2 ≤ s1.2.2 ∧ s1.2.2 ≤ s.2.2 + 2 → Q (s1.2.2 - s.2.2) m1 γ t) : TI E (k + 3) 66 [.ref 28, .int (iI (e : Int))] m γ t Q := by
  obtain ⟨a1, a2, a3, a4, -⟩ := ed_lt hG.1 he
  have hle := hG.1.le
  have hRC : G.1 * G.2.1 ≤ 4 * 4 := Nat.mul_le_mul hle.1 hle.2
  have hgn := gn_le _ hle.1 _ hle.2
  have hkk := hG.2 e he
  have hD : e < gn G.1 G.2.1 ∧ (e ≤ e ∨ crX G e) := ⟨he, Or.inl (Nat.le_refl e)⟩
  have hQl : eC G.1 G.2.1 e = 2 * (4 * byN G.2.1 (gcell G.1 G.2.1 e) (eS G.1 G.2.1 e) + (eS G.1 G.2.1 e + 2) % 4) := rfl
  -- a wall or a gap
  have fin : ∀ row2 v1 v2, ¬ crX G e → MU row2 (jst (jst s (prs G.1 G.2.1 e (G.2.2 e)).1) (prs G.1 G.2.1 e (G.2.2 e)).2) → s.2.2 + (v1 + v2) = (jst (jst s (prs G.1 G.2.1 e (G.2.2 e)).1) (prs G.1 G.2.1 e (G.2.2 e)).2).2.2 → 0 ≤ v1 + v2 ∧ v1 + v2 ≤ 2 → rJ (v1 + v2) ∧ Q (v1 + v2) (up m 33 row2) γ t := by
    intro row2 v1 v2 hnx g1 g2 g3
    refine ⟨by omega, ?_⟩
    have := hQ (up m 33 row2) ((prs G.1 G.2.1 e (G.2.2 e)).2 :: (prs G.1 G.2.1 e (G.2.2 e)).1 :: P) _ ((hJ.edge hG.1 he hD (G.2.2 e)).congr (fun x => ⟨fun w => ?_, fun w => ?_⟩)) (fun set p hp => ?_) (by rw [up_self]; exact g1) ?_ (fun b _ hb _ _ => up_ne hb) (by omega)
    · rw [show (jst (jst s (prs G.1 G.2.1 e (G.2.2 e)).1) (prs G.1 G.2.1 e (G.2.2 e)).2).2.2 - s.2.2 = v1 + v2 by omega] at this
      exact this
    · obtain ⟨w1, i, w2, w3, w4⟩ := w
      refine ⟨w1, i, w2, ⟨w3, ?_⟩, fun q => ?_⟩
      · rcases w4 with c | c
        · exact Or.inl (by omega)
        · exact Or.inr c
      · rcases w4 with c | c
        · omega
        · exact hnx (q ▸ c)
    · obtain ⟨w1, i, w2, ⟨w3, w4⟩, w5⟩ := w
      refine ⟨w1, i, w2, w3, ?_⟩
      rcases w4 with c | c
      · exact Or.inl (by omega)
      · exact Or.inr c
    · have hk : (smo G set).2.2 e = G.2.2 e := by
        show (if e < gn G.1 G.2.1 ∧ (G.2.2 e = 0 ∨ G.2.2 e = 1) then (if set.testBit (xrk G e) then (3 : Int) else 2) else G.2.2 e) = _
        rw [if_neg (fun q => hnx q.2)]
      have hq := prs_gl (G := smo G set) (vG_smo hG) (e := e) he
      rw [hk] at hq
      rcases List.mem_cons.mp hp with c | c
      · exact hq p (Or.inr c)
      · rcases List.mem_cons.mp c with c | c
        · exact hq p (Or.inl c)
        · exact hP set p c
    · have h1 : xrk G (e + 1) = xrk G e := by
        rw [xrk_succ, if_neg (show ¬ (G.2.2 e = 0 ∨ G.2.2 e = 1) from hnx)]
        rfl
      refine ⟨?_, fun i hi hxi => ?_⟩
      · rw [up_ne (by decide), h1]
        exact hX.1
      · rw [up_ne (by decide), up_ne (by decide)]
        exact hX.2 i (by
          have : i ≠ e := fun q => hnx (q ▸ hxi)
          omega) hxi
  -- a cross
  have crs : ∀ F : Nat → Int, crX G e → F = up (m 35) (xrk G e) (if G.2.2 e = 1 then 1 else 0) → rJ ((xrk G e : Int) + 1) ∧ Q 0 (up (up (up m 35 F) 34 (up (up (up (up (m 34) (4 * xrk G e) (eA G.1 G.2.1 e : Int)) (4 * xrk G e + 1) (eB G.1 G.2.1 e : Int)) (4 * xrk G e + 2) (eC G.1 G.2.1 e : Int)) (4 * xrk G e + 3) (eD G.1 G.2.1 e : Int))) 28 (up (m 28) 1 ((xrk G e : Int) + 1))) γ t := by
    intro F hx hF
    have hl := xrk_lt hx he
    refine ⟨by omega, ?_⟩
    have := hQ _ P s (hJ.congr (fun x => ⟨fun w => ?_, fun w => ?_⟩)) hP (by rw [up_ne (by decide), up_ne (by decide), up_ne (by decide)]; exact hM) (hX.next hx hF) (fun b b1 _ b3 b4 => by rw [up_ne b1, up_ne b3, up_ne b4]) ⟨Int.le_refl _, by omega⟩
    · rw [show s.2.2 - s.2.2 = 0 by omega] at this
      exact this
    · obtain ⟨w1, i, w2, w3, w4⟩ := w
      refine ⟨w1, i, w2, w3, ?_⟩
      rcases w4 with c | c
      · exact Or.inl (by omega)
      · exact Or.inr c
    · obtain ⟨w1, i, w2, w3, w4⟩ := w
      refine ⟨w1, i, w2, w3, ?_⟩
      rcases w4 with c | c
      · by_cases q : i = e
        · exact Or.inr (q ▸ hx)
        · exact Or.inl (by omega)
      · exact Or.inr c
  refine vc_X5_joinOrKeep (by omega) (S_cellOf e (gi rfl) rfl (by rw [hγ]; exact he) (fun hcl => S_belowOf e (gi rfl) rfl (by rw [hγ]; exact he) (fun hbl => ?_)))
  rw [hγ] at hcl hbl ⊢
  refine ⟨fun c => ?_, fun c => ?_⟩
  · have hS : eS G.1 G.2.1 e = 1 := by unfold eS; exact if_pos (by omega)
    have hA : 2 * (4 * gcell G.1 G.2.1 e + 1) = eA G.1 G.2.1 e := by unfold eA eP; rw [hS]
    have hB : clE (4 * gcell G.1 G.2.1 e + 1) = eB G.1 G.2.1 e := by unfold eB eP; rw [hS]
    have hC : 2 * (4 * byN G.2.1 (gcell G.1 G.2.1 e) 1 + 3) = eC G.1 G.2.1 e := by unfold eC eQ; rw [hS]
    have hDD : clE (4 * byN G.2.1 (gcell G.1 G.2.1 e) 1 + 3) = eD G.1 G.2.1 e := by unfold eD eQ; rw [hS]
    have hby : gBy (G.2.1 : Int) (gcell G.1 G.2.1 e : Int) 1 = (byN G.2.1 (gcell G.1 G.2.1 e) 1 : Int) := by unfold gBy byN; simp
    have hbl2 : byN G.2.1 (gcell G.1 G.2.1 e) 1 < 16 := by omega
    have hx2 : bXor 1 2 = ((3 : Nat) : Int) := by decide
    refine S_cellBeyond (gi rfl) (by omega) (by omega) (by rw [hγ, hby]; omega) ?_
    rw [hγ, hby]
    refine S_openingEnd (gcell G.1 G.2.1 e) 1 rfl rfl (by omega) (by decide) (S_closingEnd (gcell G.1 G.2.1 e) 1 rfl rfl (by omega) (by decide) ?_)
    refine S_openingEnd (byN G.2.1 (gcell G.1 G.2.1 e) 1) 3 rfl hx2 hbl2 (by decide) (S_closingEnd (byN G.2.1 (gcell G.1 G.2.1 e) 1) 3 rfl hx2 hbl2 (by decide) ?_)
    rw [hA, hB, hC, hDD]
    refine S_kindOf e (gi rfl) rfl (by rw [hγ]; exact he) (fun _ => ?_)
    rw [hγ]
    refine ⟨fun k2 => ?_, fun k2 => S_kindOf e (gi rfl) rfl (by rw [hγ]; exact he) (fun _ => ?_)⟩
    · have hp : prs G.1 G.2.1 e (G.2.2 e) = ((eA G.1 G.2.1 e, eB G.1 G.2.1 e), (eC G.1 G.2.1 e, eD G.1 G.2.1 e)) := by unfold prs; rw [if_pos k2]
      exact S_two e (G.2.2 e) hG he hD hJ hM (by rw [hp]) (by rw [hp]) (by rw [hp]) (by rw [hp]) (fun row1 row2 v1 v2 g1 _ _ g4 g5 => fin row2 v1 v2 (fun q => by unfold crX at q; omega) g1 g4 g5)
    · rw [hγ]
      refine ⟨fun k3 => ?_, fun k3 => ?_⟩
      · have hp : prs G.1 G.2.1 e (G.2.2 e) = ((eA G.1 G.2.1 e, eD G.1 G.2.1 e), (eB G.1 G.2.1 e, eC G.1 G.2.1 e)) := by unfold prs; rw [if_neg k2, if_pos k3]
        exact S_two e (G.2.2 e) hG he hD hJ hM (by rw [hp]) (by rw [hp]) (by rw [hp]) (by rw [hp]) (fun row1 row2 v1 v2 g1 _ _ g4 g5 => fin row2 v1 v2 (fun q => by unfold crX at q; omega) g1 g4 g5)
      · have hx : crX G e := by unfold crX; omega
        have hl := xrk_lt hx he
        rw [hX.1, Int.toNat_natCast]
        refine ⟨fun _ => S_kindOf e (gi rfl) rfl (by rw [hγ]; exact he) (fun _ => ?_), fun z => absurd (by omega) z⟩
        rw [hγ]
        refine ⟨fun k1 => ⟨by omega, ?_⟩, fun k1 => ⟨by omega, ?_⟩⟩
        · rw [← show up m 35 (up (m 35) (xrk G e) 1) 28 1 = m 28 1 by rw [up_ne (by decide)]]
          refine S_put4 (j := xrk G e) (by rw [up_ne (by decide)]; exact hX.1) (by omega) rfl rfl rfl rfl (by omega) (by omega) (by omega) (by omega) ?_
          have := crs (up (m 35) (xrk G e) 1) hx (by rw [if_pos k1])
          rw [up_ne (show 28 ≠ 34 by decide), up_ne (show 28 ≠ 35 by decide), hX.1, up_ne (show 34 ≠ 35 by decide)]
          exact this
        · rw [← show up m 35 (up (m 35) (xrk G e) 0) 28 1 = m 28 1 by rw [up_ne (by decide)]]
          refine S_put4 (j := xrk G e) (by rw [up_ne (by decide)]; exact hX.1) (by omega) rfl rfl rfl rfl (by omega) (by omega) (by omega) (by omega) ?_
          have := crs (up (m 35) (xrk G e) 0) hx (by rw [if_neg k1])
          rw [up_ne (show 28 ≠ 34 by decide), up_ne (show 28 ≠ 35 by decide), hX.1, up_ne (show 34 ≠ 35 by decide)]
          exact this
  · have hS : eS G.1 G.2.1 e = 2 := by unfold eS; exact if_neg (by omega)
    have hA : 2 * (4 * gcell G.1 G.2.1 e + 2) = eA G.1 G.2.1 e := by unfold eA eP; rw [hS]
    have hB : clE (4 * gcell G.1 G.2.1 e + 2) = eB G.1 G.2.1 e := by unfold eB eP; rw [hS]
    have hC : 2 * (4 * byN G.2.1 (gcell G.1 G.2.1 e) 2 + 0) = eC G.1 G.2.1 e := by unfold eC eQ; rw [hS]
    have hDD : clE (4 * byN G.2.1 (gcell G.1 G.2.1 e) 2 + 0) = eD G.1 G.2.1 e := by unfold eD eQ; rw [hS]
    have hby : gBy (G.2.1 : Int) (gcell G.1 G.2.1 e : Int) 2 = (byN G.2.1 (gcell G.1 G.2.1 e) 2 : Int) := by unfold gBy byN; simp
    have hbl2 : byN G.2.1 (gcell G.1 G.2.1 e) 2 < 16 := by omega
    have hx2 : bXor 2 2 = ((0 : Nat) : Int) := by decide
    refine S_cellBeyond (gi rfl) (by omega) (by omega) (by rw [hγ, hby]; omega) ?_
    rw [hγ, hby]
    refine S_openingEnd (gcell G.1 G.2.1 e) 2 rfl rfl (by omega) (by decide) (S_closingEnd (gcell G.1 G.2.1 e) 2 rfl rfl (by omega) (by decide) ?_)
    refine S_openingEnd (byN G.2.1 (gcell G.1 G.2.1 e) 2) 0 rfl hx2 hbl2 (by decide) (S_closingEnd (byN G.2.1 (gcell G.1 G.2.1 e) 2) 0 rfl hx2 hbl2 (by decide) ?_)
    rw [hA, hB, hC, hDD]
    refine S_kindOf e (gi rfl) rfl (by rw [hγ]; exact he) (fun _ => ?_)
    rw [hγ]
    refine ⟨fun k2 => ?_, fun k2 => S_kindOf e (gi rfl) rfl (by rw [hγ]; exact he) (fun _ => ?_)⟩
    · have hp : prs G.1 G.2.1 e (G.2.2 e) = ((eA G.1 G.2.1 e, eB G.1 G.2.1 e), (eC G.1 G.2.1 e, eD G.1 G.2.1 e)) := by unfold prs; rw [if_pos k2]
      exact S_two e (G.2.2 e) hG he hD hJ hM (by rw [hp]) (by rw [hp]) (by rw [hp]) (by rw [hp]) (fun row1 row2 v1 v2 g1 _ _ g4 g5 => fin row2 v1 v2 (fun q => by unfold crX at q; omega) g1 g4 g5)
    · rw [hγ]
      refine ⟨fun k3 => ?_, fun k3 => ?_⟩
      · have hp : prs G.1 G.2.1 e (G.2.2 e) = ((eA G.1 G.2.1 e, eD G.1 G.2.1 e), (eB G.1 G.2.1 e, eC G.1 G.2.1 e)) := by unfold prs; rw [if_neg k2, if_pos k3]
        exact S_two e (G.2.2 e) hG he hD hJ hM (by rw [hp]) (by rw [hp]) (by rw [hp]) (by rw [hp]) (fun row1 row2 v1 v2 g1 _ _ g4 g5 => fin row2 v1 v2 (fun q => by unfold crX at q; omega) g1 g4 g5)
      · have hx : crX G e := by unfold crX; omega
        have hl := xrk_lt hx he
        rw [hX.1, Int.toNat_natCast]
        refine ⟨fun _ => S_kindOf e (gi rfl) rfl (by rw [hγ]; exact he) (fun _ => ?_), fun z => absurd (by omega) z⟩
        rw [hγ]
        refine ⟨fun k1 => ⟨by omega, ?_⟩, fun k1 => ⟨by omega, ?_⟩⟩
        · rw [← show up m 35 (up (m 35) (xrk G e) 1) 28 1 = m 28 1 by rw [up_ne (by decide)]]
          refine S_put4 (j := xrk G e) (by rw [up_ne (by decide)]; exact hX.1) (by omega) rfl rfl rfl rfl (by omega) (by omega) (by omega) (by omega) ?_
          have := crs (up (m 35) (xrk G e) 1) hx (by rw [if_pos k1])
          rw [up_ne (show 28 ≠ 34 by decide), up_ne (show 28 ≠ 35 by decide), hX.1, up_ne (show 34 ≠ 35 by decide)]
          exact this
        · rw [← show up m 35 (up (m 35) (xrk G e) 0) 28 1 = m 28 1 by rw [up_ne (by decide)]]
          refine S_put4 (j := xrk G e) (by rw [up_ne (by decide)]; exact hX.1) (by omega) rfl rfl rfl rfl (by omega) (by omega) (by omega) (by omega) ?_
          have := crs (up (m 35) (xrk G e) 0) hx (by rw [if_neg k1])
          rw [up_ne (show 28 ≠ 34 by decide), up_ne (show 28 ≠ 35 by decide), hX.1, up_ne (show 34 ≠ 35 by decide)]
          exact this
end JO
