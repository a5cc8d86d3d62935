/-! ===== over and under at an edge's ends ===== -/
theorem pas_tS {G : GV} (hG : vG G) {y : Nat × Nat × Nat × Bool} (hy : y ∈ (aG G).2.1) : tS G y.2.2.1 = (y.2.1 : Int) := by
  have hp := out_pok G (nC G)
  unfold pok at hp
  have hm : y.2.2 ∈ (out G (nC G)).2.1.map (fun y => y.2.2) := List.mem_map.mpr ⟨y, hy, rfl⟩
  rw [hp] at hm
  obtain ⟨h1, h2⟩ := List.mem_filter.mp hm
  obtain ⟨x, hx, e⟩ := List.mem_map.mp h1
  obtain ⟨i, hi, hix⟩ := List.getElem_of_mem (show x ∈ (aG G).1 from hx)
  have hi2 : (aG G).1[i]? = some x := by rw [List.getElem?_eq_getElem hi, hix]
  rw [← e] at h2
  have hz := pas_at hi2 h2
  have hzm : (cp G i, x.1, x.2.2) ∈ (aG G).2.1 := List.mem_of_getElem? hz
  have hyz := pas_inj hG hy hzm (by rw [← e]) (by rw [← e])
  rw [hyz]
  exact fu_ent hG (v := fun x => (x.1 : Int)) (F := fun _ => 0) hx
def ovB (R C : Nat) (z : Int) (x : Nat) : Bool := ovr R C z (ec x).1 (ec x).2
def ov_P (R C e z : Nat) : Bool := (ovB R C (z : Nat) (eA R C e) == ovB R C (z : Nat) (eC R C e)) && (ovB R C (z : Nat) (eB R C e) == ovB R C (z : Nat) (eD R C e)) && (ovB R C (z : Nat) (eA R C e) != ovB R C (z : Nat) (eB R C e))
theorem ov_D : ∀ R, R ≤ 4 → ∀ C, C ≤ 4 → ∀ e, e < gn R C → ov_P R C e 0 = true ∧ ov_P R C e 1 = true := by decide +kernel
theorem ov_ok {G : GV} (hG : vG G) {e : Nat} (he : e < gn G.1 G.2.1) (hx : crX G e) : ovB G.1 G.2.1 (G.2.2 e) (eA G.1 G.2.1 e) = ovB G.1 G.2.1 (G.2.2 e) (eC G.1 G.2.1 e) ∧ ovB G.1 G.2.1 (G.2.2 e) (eB G.1 G.2.1 e) = ovB G.1 G.2.1 (G.2.2 e) (eD G.1 G.2.1 e) ∧ ovB G.1 G.2.1 (G.2.2 e) (eA G.1 G.2.1 e) ≠ ovB G.1 G.2.1 (G.2.2 e) (eB G.1 G.2.1 e) := by
  have h := ov_D _ hG.1.le.1 _ hG.1.le.2 e he
  unfold ov_P at h
  simp only [Bool.and_eq_true, beq_iff_eq, bne_iff_ne] at h
  rcases hx with c | c
  · rw [c]
    exact ⟨h.1.1.1, h.1.1.2, h.1.2⟩
  · rw [c]
    exact ⟨h.2.1.1, h.2.1.2, h.2.2⟩
theorem pas_end {G : GV} (hG : vG G) {e : Nat} {y : Nat × Nat × Nat × Bool} (hy : y ∈ (aG G).2.1) (hE : pE G y.2.2 = e) : en y.2.2 < 8 * (G.1 * G.2.1) ∧ xe G.1 G.2.1 (en y.2.2) = (e : Int) ∧ pO G y.2.2 = ovB G.1 G.2.1 (G.2.2 e) (en y.2.2) ∧ tS G (en y.2.2 / 2) = (y.2.1 : Int) := by
  obtain ⟨h1, h2, -⟩ := pas_cross hG hy
  obtain ⟨h3, h4⟩ := isC_ed h1
  have h5 := (exe_rng hG h2).1
  have e1 : en y.2.2 / 2 = y.2.2.1 := congrArg Prod.fst (ec_en y.2.2)
  have e2 : exe G.1 G.2.1 y.2.2.1 y.2.2.2 = (e : Int) := by
    unfold pE at hE
    omega
  refine ⟨by unfold nC at h2; omega, ?_, ?_, ?_⟩
  · unfold xe
    rw [ec_en]
    exact e2
  · unfold ovB pO
    rw [ec_en, h4, e2, Int.toNat_natCast]
  · rw [e1]
    exact pas_tS hG hy
theorem xab {G : GV} (hG : vG G) {e : Nat} (he : e < gn G.1 G.2.1) (hx : crX G e) : (oS G e = tS G (eA G.1 G.2.1 e / 2) ∧ uS G e = tS G (eB G.1 G.2.1 e / 2)) ∨ (oS G e = tS G (eB G.1 G.2.1 e / 2) ∧ uS G e = tS G (eA G.1 G.2.1 e / 2)) := by
  obtain ⟨y, hy, ho, hye, -, hyS, -⟩ := xo hG he hx
  obtain ⟨z, hz, hu, hze, -, hzS, -⟩ := xu hG he hx
  obtain ⟨y1, y2, y3, y4⟩ := pas_end hG hy hye
  obtain ⟨z1, z2, z3, z4⟩ := pas_end hG hz hze
  obtain ⟨o1, o2, o3⟩ := ov_ok hG he hx
  obtain ⟨a1, a2, a3, a4, -⟩ := ed_lt hG.1 he
  have hN : 2 * nC G = 8 * (G.1 * G.2.1) := by unfold nC; omega
  have gx := prs_gl hG he
  have px : prs G.1 G.2.1 e (G.2.2 e) = ((eA G.1 G.2.1 e, eC G.1 G.2.1 e), (eB G.1 G.2.1 e, eD G.1 G.2.1 e)) := by
    unfold prs
    unfold crX at hx
    rw [if_neg (by omega), if_neg (by omega)]
  rw [px] at gx
  have gAC := (gx _ (Or.inl rfl)).2
  have gBD := (gx _ (Or.inr rfl)).2
  dsimp only at gAC gBD
  have tAC : tS G (eC G.1 G.2.1 e / 2) = tS G (eA G.1 G.2.1 e / 2) := by rw [gAC]; exact tS_gl hG (by omega)
  have tBD : tS G (eD G.1 G.2.1 e / 2) = tS G (eB G.1 G.2.1 e / 2) := by rw [gBD]; exact tS_gl hG (by omega)
  rw [hyS, hzS, ← y4, ← z4]
  rw [y3] at ho
  rw [z3] at hu
  have key : ∀ x, xe G.1 G.2.1 x = (e : Int) → x < 8 * (G.1 * G.2.1) → (tS G (x / 2) = tS G (eA G.1 G.2.1 e / 2) ∧ ovB G.1 G.2.1 (G.2.2 e) x = ovB G.1 G.2.1 (G.2.2 e) (eA G.1 G.2.1 e)) ∨ (tS G (x / 2) = tS G (eB G.1 G.2.1 e / 2) ∧ ovB G.1 G.2.1 (G.2.2 e) x = ovB G.1 G.2.1 (G.2.2 e) (eB G.1 G.2.1 e)) := by
    intro x hx1 hx2
    rcases ed_all hG.1 hx2 hx1 with q | q | q | q <;> rw [q]
    · exact Or.inl ⟨rfl, rfl⟩
    · exact Or.inr ⟨rfl, rfl⟩
    · exact Or.inl ⟨tAC, o1.symm⟩
    · exact Or.inr ⟨tBD, o2.symm⟩
  rcases key _ y2 y1 with ⟨q1, q2⟩ | ⟨q1, q2⟩ <;> rcases key _ z2 z1 with ⟨q3, q4⟩ | ⟨q3, q4⟩
  · rw [q2] at ho
    rw [q4, ho] at hu
    exact absurd hu (by decide)
  · exact Or.inl ⟨q1, q3⟩
  · exact Or.inr ⟨q1, q3⟩
  · rw [q2] at ho
    rw [q4, ho] at hu
    exact absurd hu (by decide)
