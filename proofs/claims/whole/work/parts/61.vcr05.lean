def hd_X9_determinant_8 (E : am_E) (k : Nat) (x1 : Int) (y1 : Int) (y2 : Int) (y4 : Int) (y5 : Int) (m : MM) (γ : GM) (t : am_H) (Q : Int → MM → GM → am_H → Prop) : Prop := ∀ (z3 z6 z7 z8 z9 : Option Value), TT (pL Q) E k 276 8 [some (.ref 158), some (.int (iI y1)), some (.long (lI y2)), z3, some (.int (iI y4)), some (.int (iI y5)), z6, z7, z8, z9] [] m γ t
def hd_X9_determinant_20 (E : am_E) (k : Nat) (x1 : Int) (y1 : Int) (y2 : Int) (y4 : Int) (y5 : Int) (y6 : Int) (m : MM) (γ : GM) (t : am_H) (Q : Int → MM → GM → am_H → Prop) : Prop := ∀ (z3 z7 z8 z9 : Option Value), TT (pL Q) E k 276 20 [some (.ref 158), some (.int (iI y1)), some (.long (lI y2)), z3, some (.int (iI y4)), some (.int (iI y5)), some (.int (iI y6)), z7, z8, z9] [] m γ t
def hd_X9_determinant_61 (E : am_E) (k : Nat) (x1 : Int) (y1 : Int) (y2 : Int) (y4 : Int) (y5 : Int) (y6 : Int) (y7 : Int) (m : MM) (γ : GM) (t : am_H) (Q : Int → MM → GM → am_H → Prop) : Prop := ∀ (z3 z8 z9 : Option Value), TT (pL Q) E k 276 61 [some (.ref 158), some (.int (iI y1)), some (.long (lI y2)), z3, some (.int (iI y4)), some (.int (iI y5)), some (.int (iI y6)), some (.int (iI y7)), z8, z9] [] m γ t
def hd_X9_determinant_159 (E : am_E) (k : Nat) (x1 : Int) (y1 : Int) (y2 : Int) (y4 : Int) (y5 : Int) (y7 : Int) (m : MM) (γ : GM) (t : am_H) (Q : Int → MM → GM → am_H → Prop) : Prop := ∀ (z3 z6 z8 z9 : Option Value), TT (pL Q) E k 276 159 [some (.ref 158), some (.int (iI y1)), some (.long (lI y2)), z3, some (.int (iI y4)), some (.int (iI y5)), z6, some (.int (iI y7)), z8, z9] [] m γ t
def hd_X9_determinant_171 (E : am_E) (k : Nat) (x1 : Int) (y1 : Int) (y2 : Int) (y4 : Int) (y5 : Int) (y7 : Int) (y8 : Int) (m : MM) (γ : GM) (t : am_H) (Q : Int → MM → GM → am_H → Prop) : Prop := ∀ (z3 z6 z9 : Option Value), TT (pL Q) E k 276 171 [some (.ref 158), some (.int (iI y1)), some (.long (lI y2)), z3, some (.int (iI y4)), some (.int (iI y5)), z6, some (.int (iI y7)), some (.int (iI y8)), z9] [] m γ t
abbrev W_X9_determinant (E : am_E) (k : Nat) (x1 : Int) (m : MM) (γ : GM) (t : am_H) (Q : Int → MM → GM → am_H → Prop) : Prop := (hd_X9_determinant_8 E k x1 x1 1 1 0 m γ t Q)
abbrev W_X9_determinant_8 (E : am_E) (k : Nat) (x1 : Int) (y1 : Int) (y2 : Int) (y4 : Int) (y5 : Int) (m : MM) (γ : GM) (t : am_H) (Q : Int → MM → GM → am_H → Prop) : Prop := (rJ (y1 - 1) ∧ (((y5 < (y1 - 1)) → (hd_X9_determinant_20 E k x1 y1 y2 y4 y5 y5 m γ t Q)) ∧ (¬ (y5 < (y1 - 1)) → (((y1 = 0) → (Q 1 m γ t)) ∧ (¬ (y1 = 0) → ((0 ≤ (((16 * (y1 - 1)) + y1) - 1) ∧ (((16 * (y1 - 1)) + y1) - 1) < 256) ∧ (rK (y4 * (m 189 (((((16 * (y1 - 1)) + y1) - 1)).toNat))) ∧ (Q (y4 * (m 189 (((((16 * (y1 - 1)) + y1) - 1)).toNat))) m γ t))))))))
abbrev W_X9_determinant_20 (E : am_E) (k : Nat) (x1 : Int) (y1 : Int) (y2 : Int) (y4 : Int) (y5 : Int) (y6 : Int) (m : MM) (γ : GM) (t : am_H) (Q : Int → MM → GM → am_H → Prop) : Prop := (((y6 < y1) → ((0 ≤ ((16 * y6) + y5) ∧ ((16 * y6) + y5) < 256) ∧ ((((lcI (m 189 ((((16 * y6) + y5)).toNat)) 0) = 0) → (hd_X9_determinant_20 E k x1 y1 y2 y4 y5 (y6 + 1) m γ t Q)) ∧ (¬ ((lcI (m 189 ((((16 * y6) + y5)).toNat)) 0) = 0) → (((y6 = y1) → (Q 0 m γ t)) ∧ (¬ (y6 = y1) → (hd_X9_determinant_61 E k x1 y1 y2 y4 y5 y6 0 m γ t Q))))))) ∧ (¬ (y6 < y1) → (((y6 = y1) → (Q 0 m γ t)) ∧ (¬ (y6 = y1) → (hd_X9_determinant_61 E k x1 y1 y2 y4 y5 y6 0 m γ t Q)))))
abbrev W_X9_determinant_61 (E : am_E) (k : Nat) (x1 : Int) (y1 : Int) (y2 : Int) (y4 : Int) (y5 : Int) (y6 : Int) (y7 : Int) (m : MM) (γ : GM) (t : am_H) (Q : Int → MM → GM → am_H → Prop) : Prop := (((y7 < y1) → (((y6 = y5) → (hd_X9_determinant_159 E k x1 y1 y2 y4 y5 (y5 + 1) m γ t Q)) ∧ (¬ (y6 = y5) → ((0 ≤ ((16 * y6) + y7) ∧ ((16 * y6) + y7) < 256) ∧ ((0 ≤ ((16 * y5) + y7) ∧ ((16 * y5) + y7) < 256) ∧ ((0 ≤ ((16 * y6) + y7) ∧ ((16 * y6) + y7) < 256) ∧ ((0 ≤ ((16 * y5) + y7) ∧ ((16 * y5) + y7) < 256) ∧ (hd_X9_determinant_61 E k x1 y1 y2 y4 y5 y6 (y7 + 1) (up (up m 189 (up (m 189) ((((16 * y6) + y7)).toNat) (m 189 ((((16 * y5) + y7)).toNat)))) 189 (up (up (m 189) ((((16 * y6) + y7)).toNat) (m 189 ((((16 * y5) + y7)).toNat))) ((((16 * y5) + y7)).toNat) (m 189 ((((16 * y6) + y7)).toNat)))) γ t Q)))))))) ∧ (¬ (y7 < y1) → (((y6 = y5) → (hd_X9_determinant_159 E k x1 y1 y2 y4 y5 (y5 + 1) m γ t Q)) ∧ (¬ (y6 = y5) → (hd_X9_determinant_159 E k x1 y1 y2 (-y4) y5 (y5 + 1) m γ t Q)))))
abbrev W_X9_determinant_159 (E : am_E) (k : Nat) (x1 : Int) (y1 : Int) (y2 : Int) (y4 : Int) (y5 : Int) (y7 : Int) (m : MM) (γ : GM) (t : am_H) (Q : Int → MM → GM → am_H → Prop) : Prop := (((y7 < y1) → (hd_X9_determinant_171 E k x1 y1 y2 y4 y5 y7 (y5 + 1) m γ t Q)) ∧ (¬ (y7 < y1) → ((0 ≤ ((16 * y5) + y5) ∧ ((16 * y5) + y5) < 256) ∧ (hd_X9_determinant_8 E k x1 y1 (m 189 ((((16 * y5) + y5)).toNat)) y4 (y5 + 1) m γ t Q))))
abbrev W_X9_determinant_171 (E : am_E) (k : Nat) (x1 : Int) (y1 : Int) (y2 : Int) (y4 : Int) (y5 : Int) (y7 : Int) (y8 : Int) (m : MM) (γ : GM) (t : am_H) (Q : Int → MM → GM → am_H → Prop) : Prop := (((y8 < y1) → ((0 ≤ ((16 * y7) + y8) ∧ ((16 * y7) + y8) < 256) ∧ ((0 ≤ ((16 * y5) + y5) ∧ ((16 * y5) + y5) < 256) ∧ ((0 ≤ ((16 * y7) + y5) ∧ ((16 * y7) + y5) < 256) ∧ ((0 ≤ ((16 * y5) + y8) ∧ ((16 * y5) + y8) < 256) ∧ (rK (((m 189 ((((16 * y7) + y8)).toNat)) * (m 189 ((((16 * y5) + y5)).toNat))) - ((m 189 ((((16 * y7) + y5)).toNat)) * (m 189 ((((16 * y5) + y8)).toNat)))) ∧ (y2 ≠ 0 ∧ ((0 ≤ ((16 * y7) + y8) ∧ ((16 * y7) + y8) < 256) ∧ (rK (Int.tdiv (((m 189 ((((16 * y7) + y8)).toNat)) * (m 189 ((((16 * y5) + y5)).toNat))) - ((m 189 ((((16 * y7) + y5)).toNat)) * (m 189 ((((16 * y5) + y8)).toNat)))) y2) ∧ (hd_X9_determinant_171 E k x1 y1 y2 y4 y5 y7 (y8 + 1) (up m 189 (up (m 189) ((((16 * y7) + y8)).toNat) (Int.tdiv (((m 189 ((((16 * y7) + y8)).toNat)) * (m 189 ((((16 * y5) + y5)).toNat))) - ((m 189 ((((16 * y7) + y5)).toNat)) * (m 189 ((((16 * y5) + y8)).toNat)))) y2))) γ t Q)))))))))) ∧ (¬ (y8 < y1) → (hd_X9_determinant_159 E k x1 y1 y2 y4 y5 (y7 + 1) m γ t Q)))
theorem vc_X9_determinant {E : am_E} {k : Nat} {x1 : Int} {m : MM} {γ : GM} {t : am_H} {Q : Int → MM → GM → am_H → Prop} (hx1 : rJ x1) (hW : W_X9_determinant E k x1 m γ t Q) : TL E k 276 [.ref 158, .int (iI x1)] m γ t Q := by
  unfold W_X9_determinant at hW
  intro h S
  refine wp_g (n := 6) (pc' := 8) (L' := [some (.ref 158), some (.int (iI x1)), some (.long (lI 1)), none, some (.int (iI 1)), some (.int (iI 0)), none, none, none, none]) (st' := []) rfl ?_
  exact hW none none none none none _ S
theorem vc_X9_determinant_8 {E : am_E} {k : Nat} {x1 : Int} {y1 : Int} {y2 : Int} {y4 : Int} {y5 : Int} {m : MM} {γ : GM} {t : am_H} {Q : Int → MM → GM → am_H → Prop} (hx1 : rJ x1) (hy1 : rJ y1) (hy2 : rK y2) (hy4 : rJ y4) (hy5 : rJ y5) (hW : W_X9_determinant_8 E k x1 y1 y2 y4 y5 m γ t Q) : hd_X9_determinant_8 E k x1 y1 y2 y4 y5 m γ t Q := by
  unfold W_X9_determinant_8 at hW
  intro z3 z6 z7 z8 z9 h S
  refine wp_g (n := 3) (pc' := 12) (L' := [some (.ref 158), some (.int (iI y1)), some (.long (lI y2)), z3, some (.int (iI y4)), some (.int (iI y5)), z6, z7, z8, z9]) (st' := [.int (iI 1), .int (iI y1), .int (iI y5)]) rfl ?_
  refine wp_sub (a := y1) (b := 1) rfl ?_
  obtain ⟨p1, hW⟩ := hW
  refine wp_icmpI (a := y5) (b := (y1 - 1)) rfl rfl hy5.1 hy5.2 p1.1 p1.2 (fun c2 => ?_) (fun c2 => ?_)
  · have dc2 := (Int.not_lt.mpr c2)
    have hW := hW.2 dc2
    refine wp_g (n := 1) (pc' := 280) (L' := [some (.ref 158), some (.int (iI y1)), some (.long (lI y2)), z3, some (.int (iI y4)), some (.int (iI y5)), z6, z7, z8, z9]) (st' := [.int (iI y1)]) rfl ?_
    refine wp_ifI (a := y1) rfl rfl hy1.1 hy1.2 (fun c3 => ?_) (fun c3 => ?_)
    · have dc3 := c3
      have hW := hW.2 dc3
      refine wp_g (n := 1) (pc' := 289) (L' := [some (.ref 158), some (.int (iI y1)), some (.long (lI y2)), z3, some (.int (iI y4)), some (.int (iI y5)), z6, z7, z8, z9]) (st' := [.int (iI y4)]) rfl ?_
      refine wp_i2l (a := y4) rfl hy4 ?_
      refine wp_g (n := 1) (pc' := 291) (L' := [some (.ref 158), some (.int (iI y1)), some (.long (lI y2)), z3, some (.int (iI y4)), some (.int (iI y5)), z6, z7, z8, z9]) (st' := [.ref 158, .long (lI y4)]) rfl ?_
      refine wp_getf (v := .ref 189) rfl rfl (S.cell 158 (nc rfl)) (by decide) rfl ?_
      refine wp_g (n := 3) (pc' := 298) (L' := [some (.ref 158), some (.int (iI y1)), some (.long (lI y2)), z3, some (.int (iI y4)), some (.int (iI y5)), z6, z7, z8, z9]) (st' := [.int (iI 1), .int (iI y1), .int (iI 16), .ref 189, .long (lI y4)]) rfl ?_
      refine wp_sub (a := y1) (b := 1) rfl ?_
      refine wp_mul (a := 16) (b := (y1 - 1)) rfl ?_
      refine wp_g (n := 1) (pc' := 301) (L' := [some (.ref 158), some (.int (iI y1)), some (.long (lI y2)), z3, some (.int (iI y4)), some (.int (iI y5)), z6, z7, z8, z9]) (st' := [.int (iI y1), .int (iI (16 * (y1 - 1))), .ref 189, .long (lI y4)]) rfl ?_
      refine wp_add (a := (16 * (y1 - 1))) (b := y1) rfl ?_
      refine wp_g (n := 1) (pc' := 303) (L' := [some (.ref 158), some (.int (iI y1)), some (.long (lI y2)), z3, some (.int (iI y4)), some (.int (iI y5)), z6, z7, z8, z9]) (st' := [.int (iI 1), .int (iI ((16 * (y1 - 1)) + y1)), .ref 189, .long (lI y4)]) rfl ?_
      refine wp_sub (a := ((16 * (y1 - 1)) + y1)) (b := 1) rfl ?_
      obtain ⟨p4, hW⟩ := hW
      refine wp_lald (n := 256) (F := (m 189)) rfl (S.cell 189 (nc rfl)) (by decide) p4.1 p4.2 (by decide) ?_
      show wp _ _ _ _ _ [.long (lI (m 189 (((((16 * (y1 - 1)) + y1) - 1)).toNat))), .long (lI y4)] _ _
      have hr5 : rK (m 189 (((((16 * (y1 - 1)) + y1) - 1)).toNat)) := S.rl 189 (((((16 * (y1 - 1)) + y1) - 1)).toNat)
      refine wp_lmul (a := y4) (b := (m 189 (((((16 * (y1 - 1)) + y1) - 1)).toNat))) rfl ?_
      obtain ⟨p6, hW⟩ := hW
      exact wp_lret rfl rfl ⟨_, _, _, _, rfl, p6, S, hW⟩
    · have dc3 := (Classical.not_not.mp c3)
      have hW := hW.1 dc3
      refine wp_g (n := 2) (pc' := 306) (L' := [some (.ref 158), some (.int (iI y1)), some (.long (lI y2)), z3, some (.int (iI y4)), some (.int (iI y5)), z6, z7, z8, z9]) (st' := [.long (lI 1)]) rfl ?_
      exact wp_lret rfl rfl ⟨_, _, _, _, rfl, (by decide), S, hW⟩
  · have dc2 := (Int.not_le.mp c2)
    have hW := hW.1 dc2
    refine wp_g (n := 2) (pc' := 20) (L' := [some (.ref 158), some (.int (iI y1)), some (.long (lI y2)), z3, some (.int (iI y4)), some (.int (iI y5)), some (.int (iI y5)), z7, z8, z9]) (st' := []) rfl ?_
    exact hW z3 z7 z8 z9 _ S
theorem vc_X9_determinant_20 {E : am_E} {k : Nat} {x1 : Int} {y1 : Int} {y2 : Int} {y4 : Int} {y5 : Int} {y6 : Int} {m : MM} {γ : GM} {t : am_H} {Q : Int → MM → GM → am_H → Prop} (hx1 : rJ x1) (hy1 : rJ y1) (hy2 : rK y2) (hy4 : rJ y4) (hy5 : rJ y5) (hy6 : rJ y6) (hW : W_X9_determinant_20 E k x1 y1 y2 y4 y5 y6 m γ t Q) : hd_X9_determinant_20 E k x1 y1 y2 y4 y5 y6 m γ t Q := by
  unfold W_X9_determinant_20 at hW
  intro z3 z7 z8 z9 h S
  refine wp_g (n := 2) (pc' := 23) (L' := [some (.ref 158), some (.int (iI y1)), some (.long (lI y2)), z3, some (.int (iI y4)), some (.int (iI y5)), some (.int (iI y6)), z7, z8, z9]) (st' := [.int (iI y1), .int (iI y6)]) rfl ?_
  refine wp_icmpI (a := y6) (b := y1) rfl rfl hy6.1 hy6.2 hy1.1 hy1.2 (fun c1 => ?_) (fun c1 => ?_)
  · have dc1 := (Int.not_lt.mpr c1)
    have hW := hW.2 dc1
    refine wp_g (n := 2) (pc' := 53) (L' := [some (.ref 158), some (.int (iI y1)), some (.long (lI y2)), z3, some (.int (iI y4)), some (.int (iI y5)), some (.int (iI y6)), z7, z8, z9]) (st' := [.int (iI y1), .int (iI y6)]) rfl ?_
    refine wp_icmpI (a := y6) (b := y1) rfl rfl hy6.1 hy6.2 hy1.1 hy1.2 (fun c2 => ?_) (fun c2 => ?_)
    · have dc2 := c2
      have hW := hW.2 dc2
      refine wp_g (n := 2) (pc' := 61) (L' := [some (.ref 158), some (.int (iI y1)), some (.long (lI y2)), z3, some (.int (iI y4)), some (.int (iI y5)), some (.int (iI y6)), some (.int (iI 0)), z8, z9]) (st' := []) rfl ?_
      exact hW z3 z8 z9 _ S
    · have dc2 := (Classical.not_not.mp c2)
      have hW := hW.1 dc2
      refine wp_g (n := 1) (pc' := 57) (L' := [some (.ref 158), some (.int (iI y1)), some (.long (lI y2)), z3, some (.int (iI y4)), some (.int (iI y5)), some (.int (iI y6)), z7, z8, z9]) (st' := [.long (lI 0)]) rfl ?_
      exact wp_lret rfl rfl ⟨_, _, _, _, rfl, (by decide), S, hW⟩
  · have dc1 := (Int.not_le.mp c1)
    have hW := hW.1 dc1
    refine wp_g (n := 1) (pc' := 27) (L' := [some (.ref 158), some (.int (iI y1)), some (.long (lI y2)), z3, some (.int (iI y4)), some (.int (iI y5)), some (.int (iI y6)), z7, z8, z9]) (st' := [.ref 158]) rfl ?_
    refine wp_getf (v := .ref 189) rfl rfl (S.cell 158 (nc rfl)) (by decide) rfl ?_
    refine wp_g (n := 2) (pc' := 34) (L' := [some (.ref 158), some (.int (iI y1)), some (.long (lI y2)), z3, some (.int (iI y4)), some (.int (iI y5)), some (.int (iI y6)), z7, z8, z9]) (st' := [.int (iI y6), .int (iI 16), .ref 189]) rfl ?_
    refine wp_mul (a := 16) (b := y6) rfl ?_
    refine wp_g (n := 1) (pc' := 37) (L' := [some (.ref 158), some (.int (iI y1)), some (.long (lI y2)), z3, some (.int (iI y4)), some (.int (iI y5)), some (.int (iI y6)), z7, z8, z9]) (st' := [.int (iI y5), .int (iI (16 * y6)), .ref 189]) rfl ?_
    refine wp_add (a := (16 * y6)) (b := y5) rfl ?_
    obtain ⟨p3, hW⟩ := hW
    refine wp_lald (n := 256) (F := (m 189)) rfl (S.cell 189 (nc rfl)) (by decide) p3.1 p3.2 (by decide) ?_
    show wp _ _ _ _ _ [.long (lI (m 189 ((((16 * y6) + y5)).toNat)))] _ _
    have hr4 : rK (m 189 ((((16 * y6) + y5)).toNat)) := S.rl 189 ((((16 * y6) + y5)).toNat)
    refine wp_g (n := 1) (pc' := 40) (L' := [some (.ref 158), some (.int (iI y1)), some (.long (lI y2)), z3, some (.int (iI y4)), some (.int (iI y5)), some (.int (iI y6)), z7, z8, z9]) (st' := [.long (lI 0), .long (lI (m 189 ((((16 * y6) + y5)).toNat)))]) rfl ?_
    refine wp_lcmp (a := (m 189 ((((16 * y6) + y5)).toNat))) (b := 0) rfl hr4 (by decide) ?_
    have hr5 : rJ (lcI (m 189 ((((16 * y6) + y5)).toNat)) 0) := lcI_rg _ _
    refine wp_ifI (a := (lcI (m 189 ((((16 * y6) + y5)).toNat)) 0)) rfl rfl hr5.1 hr5.2 (fun c6 => ?_) (fun c6 => ?_)
    · have dc6 := c6
      have hW := hW.2 dc6
      refine wp_g (n := 2) (pc' := 53) (L' := [some (.ref 158), some (.int (iI y1)), some (.long (lI y2)), z3, some (.int (iI y4)), some (.int (iI y5)), some (.int (iI y6)), z7, z8, z9]) (st' := [.int (iI y1), .int (iI y6)]) rfl ?_
      refine wp_icmpI (a := y6) (b := y1) rfl rfl hy6.1 hy6.2 hy1.1 hy1.2 (fun c7 => ?_) (fun c7 => ?_)
      · have dc7 := c7
        have hW := hW.2 dc7
        refine wp_g (n := 2) (pc' := 61) (L' := [some (.ref 158), some (.int (iI y1)), some (.long (lI y2)), z3, some (.int (iI y4)), some (.int (iI y5)), some (.int (iI y6)), some (.int (iI 0)), z8, z9]) (st' := []) rfl ?_
        exact hW z3 z8 z9 _ S
      · have dc7 := (Classical.not_not.mp c7)
        have hW := hW.1 dc7
        refine wp_g (n := 1) (pc' := 57) (L' := [some (.ref 158), some (.int (iI y1)), some (.long (lI y2)), z3, some (.int (iI y4)), some (.int (iI y5)), some (.int (iI y6)), z7, z8, z9]) (st' := [.long (lI 0)]) rfl ?_
        exact wp_lret rfl rfl ⟨_, _, _, _, rfl, (by decide), S, hW⟩
    · have dc6 := (Classical.not_not.mp c6)
      have hW := hW.1 dc6
      refine wp_iinc (L' := [some (.ref 158), some (.int (iI y1)), some (.long (lI y2)), z3, some (.int (iI y4)), some (.int (iI y5)), some (.int (iI (y6 + 1))), z7, z8, z9]) (a := y6) rfl rfl rfl ?_
      refine wp_g (n := 1) (pc' := 20) (L' := [some (.ref 158), some (.int (iI y1)), some (.long (lI y2)), z3, some (.int (iI y4)), some (.int (iI y5)), some (.int (iI (y6 + 1))), z7, z8, z9]) (st' := []) rfl ?_
      exact hW z3 z7 z8 z9 _ S
theorem vc_X9_determinant_61 {E : am_E} {k : Nat} {x1 : Int} {y1 : Int} {y2 : Int} {y4 : Int} {y5 : Int} {y6 : Int} {y7 : Int} {m : MM} {γ : GM} {t : am_H} {Q : Int → MM → GM → am_H → Prop} (hx1 : rJ x1) (hy1 : rJ y1) (hy2 : rK y2) (hy4 : rJ y4) (hy5 : rJ y5) (hy6 : rJ y6) (hy7 : rJ y7) (hW : W_X9_determinant_61 E k x1 y1 y2 y4 y5 y6 y7 m γ t Q) : hd_X9_determinant_61 E k x1 y1 y2 y4 y5 y6 y7 m γ t Q := by
  unfold W_X9_determinant_61 at hW
  intro z3 z8 z9 h S
  refine wp_g (n := 2) (pc' := 64) (L' := [some (.ref 158), some (.int (iI y1)), some (.long (lI y2)), z3, some (.int (iI y4)), some (.int (iI y5)), some (.int (iI y6)), some (.int (iI y7)), z8, z9]) (st' := [.int (iI y1), .int (iI y7)]) rfl ?_
  refine wp_icmpI (a := y7) (b := y1) rfl rfl hy7.1 hy7.2 hy1.1 hy1.2 (fun c1 => ?_) (fun c1 => ?_)
  · have dc1 := (Int.not_lt.mpr c1)
    have hW := hW.2 dc1
    refine wp_g (n := 2) (pc' := 140) (L' := [some (.ref 158), some (.int (iI y1)), some (.long (lI y2)), z3, some (.int (iI y4)), some (.int (iI y5)), some (.int (iI y6)), some (.int (iI y7)), z8, z9]) (st' := [.int (iI y5), .int (iI y6)]) rfl ?_
    refine wp_icmpI (a := y6) (b := y5) rfl rfl hy6.1 hy6.2 hy5.1 hy5.2 (fun c2 => ?_) (fun c2 => ?_)
    · have dc2 := c2
      have hW := hW.2 dc2
      refine wp_g (n := 1) (pc' := 150) (L' := [some (.ref 158), some (.int (iI y1)), some (.long (lI y2)), z3, some (.int (iI y4)), some (.int (iI y5)), some (.int (iI y6)), some (.int (iI y7)), z8, z9]) (st' := [.int (iI y4)]) rfl ?_
      refine wp_neg (a := y4) rfl ?_
      refine wp_g (n := 3) (pc' := 156) (L' := [some (.ref 158), some (.int (iI y1)), some (.long (lI y2)), (bif am_c2 z3 then none else z3), some (.int (iI (-y4))), some (.int (iI y5)), some (.int (iI y6)), some (.int (iI y7)), z8, z9]) (st' := [.int (iI 1), .int (iI y5)]) rfl ?_
      refine wp_add (a := y5) (b := 1) rfl ?_
      refine wp_g (n := 1) (pc' := 159) (L' := [some (.ref 158), some (.int (iI y1)), some (.long (lI y2)), (bif am_c2 z3 then none else z3), some (.int (iI (-y4))), some (.int (iI y5)), some (.int (iI y6)), some (.int (iI (y5 + 1))), z8, z9]) (st' := []) rfl ?_
      exact hW (bif am_c2 z3 then none else z3) (some (.int (iI y6))) z8 z9 _ S
    · have dc2 := (Classical.not_not.mp c2)
      have hW := hW.1 dc2
      refine wp_g (n := 5) (pc' := 156) (L' := [some (.ref 158), some (.int (iI y1)), some (.long (lI y2)), (bif am_c2 z3 then none else z3), some (.int (iI y4)), some (.int (iI y5)), some (.int (iI y6)), some (.int (iI y7)), z8, z9]) (st' := [.int (iI 1), .int (iI y5)]) rfl ?_
      refine wp_add (a := y5) (b := 1) rfl ?_
      refine wp_g (n := 1) (pc' := 159) (L' := [some (.ref 158), some (.int (iI y1)), some (.long (lI y2)), (bif am_c2 z3 then none else z3), some (.int (iI y4)), some (.int (iI y5)), some (.int (iI y6)), some (.int (iI (y5 + 1))), z8, z9]) (st' := []) rfl ?_
      exact hW (bif am_c2 z3 then none else z3) (some (.int (iI y6))) z8 z9 _ S
  · have dc1 := (Int.not_le.mp c1)
    have hW := hW.1 dc1
    refine wp_g (n := 2) (pc' := 71) (L' := [some (.ref 158), some (.int (iI y1)), some (.long (lI y2)), z3, some (.int (iI y4)), some (.int (iI y5)), some (.int (iI y6)), some (.int (iI y7)), z8, z9]) (st' := [.int (iI y5), .int (iI y6)]) rfl ?_
    refine wp_icmpI (a := y6) (b := y5) rfl rfl hy6.1 hy6.2 hy5.1 hy5.2 (fun c3 => ?_) (fun c3 => ?_)
    · have dc3 := c3
      have hW := hW.1 dc3
      refine wp_g (n := 2) (pc' := 140) (L' := [some (.ref 158), some (.int (iI y1)), some (.long (lI y2)), z3, some (.int (iI y4)), some (.int (iI y5)), some (.int (iI y6)), some (.int (iI y7)), z8, z9]) (st' := [.int (iI y5), .int (iI y6)]) rfl ?_
      refine wp_icmpI (a := y6) (b := y5) rfl rfl hy6.1 hy6.2 hy5.1 hy5.2 (fun c4 => ?_) (fun c4 => ?_)
      · exact absurd dc3 c4
      · skip
        refine wp_g (n := 5) (pc' := 156) (L' := [some (.ref 158), some (.int (iI y1)), some (.long (lI y2)), (bif am_c2 z3 then none else z3), some (.int (iI y4)), some (.int (iI y5)), some (.int (iI y6)), some (.int (iI y7)), z8, z9]) (st' := [.int (iI 1), .int (iI y5)]) rfl ?_
        refine wp_add (a := y5) (b := 1) rfl ?_
        refine wp_g (n := 1) (pc' := 159) (L' := [some (.ref 158), some (.int (iI y1)), some (.long (lI y2)), (bif am_c2 z3 then none else z3), some (.int (iI y4)), some (.int (iI y5)), some (.int (iI y6)), some (.int (iI (y5 + 1))), z8, z9]) (st' := []) rfl ?_
        exact hW (bif am_c2 z3 then none else z3) (some (.int (iI y6))) z8 z9 _ S
    · have dc3 := c3
      have hW := hW.2 dc3
      refine wp_g (n := 1) (pc' := 75) (L' := [some (.ref 158), some (.int (iI y1)), some (.long (lI y2)), z3, some (.int (iI y4)), some (.int (iI y5)), some (.int (iI y6)), some (.int (iI y7)), z8, z9]) (st' := [.ref 158]) rfl ?_
      refine wp_getf (v := .ref 189) rfl rfl (S.cell 158 (nc rfl)) (by decide) rfl ?_
      refine wp_g (n := 2) (pc' := 82) (L' := [some (.ref 158), some (.int (iI y1)), some (.long (lI y2)), z3, some (.int (iI y4)), some (.int (iI y5)), some (.int (iI y6)), some (.int (iI y7)), z8, z9]) (st' := [.int (iI y6), .int (iI 16), .ref 189]) rfl ?_
      refine wp_mul (a := 16) (b := y6) rfl ?_
      refine wp_g (n := 1) (pc' := 85) (L' := [some (.ref 158), some (.int (iI y1)), some (.long (lI y2)), z3, some (.int (iI y4)), some (.int (iI y5)), some (.int (iI y6)), some (.int (iI y7)), z8, z9]) (st' := [.int (iI y7), .int (iI (16 * y6)), .ref 189]) rfl ?_
      refine wp_add (a := (16 * y6)) (b := y7) rfl ?_
      obtain ⟨p5, hW⟩ := hW
      refine wp_lald (n := 256) (F := (m 189)) rfl (S.cell 189 (nc rfl)) (by decide) p5.1 p5.2 (by decide) ?_
      show wp _ _ _ _ _ [.long (lI (m 189 ((((16 * y6) + y7)).toNat)))] _ _
      have hr6 : rK (m 189 ((((16 * y6) + y7)).toNat)) := S.rl 189 ((((16 * y6) + y7)).toNat)
      refine wp_g (n := 2) (pc' := 90) (L' := [some (.ref 158), some (.int (iI y1)), some (.long (lI y2)), z3, some (.int (iI y4)), some (.int (iI y5)), some (.int (iI y6)), some (.int (iI y7)), some (.long (lI (m 189 ((((16 * y6) + y7)).toNat)))), none]) (st' := [.ref 158]) rfl ?_
      refine wp_getf (v := .ref 189) rfl rfl (S.cell 158 (nc rfl)) (by decide) rfl ?_
      refine wp_g (n := 2) (pc' := 97) (L' := [some (.ref 158), some (.int (iI y1)), some (.long (lI y2)), z3, some (.int (iI y4)), some (.int (iI y5)), some (.int (iI y6)), some (.int (iI y7)), some (.long (lI (m 189 ((((16 * y6) + y7)).toNat)))), none]) (st' := [.int (iI y6), .int (iI 16), .ref 189]) rfl ?_
      refine wp_mul (a := 16) (b := y6) rfl ?_
      refine wp_g (n := 1) (pc' := 100) (L' := [some (.ref 158), some (.int (iI y1)), some (.long (lI y2)), z3, some (.int (iI y4)), some (.int (iI y5)), some (.int (iI y6)), some (.int (iI y7)), some (.long (lI (m 189 ((((16 * y6) + y7)).toNat)))), none]) (st' := [.int (iI y7), .int (iI (16 * y6)), .ref 189]) rfl ?_
      refine wp_add (a := (16 * y6)) (b := y7) rfl ?_
      refine wp_g (n := 1) (pc' := 102) (L' := [some (.ref 158), some (.int (iI y1)), some (.long (lI y2)), z3, some (.int (iI y4)), some (.int (iI y5)), some (.int (iI y6)), some (.int (iI y7)), some (.long (lI (m 189 ((((16 * y6) + y7)).toNat)))), none]) (st' := [.ref 158, .int (iI ((16 * y6) + y7)), .ref 189]) rfl ?_
      refine wp_getf (v := .ref 189) rfl rfl (S.cell 158 (nc rfl)) (by decide) rfl ?_
      refine wp_g (n := 2) (pc' := 109) (L' := [some (.ref 158), some (.int (iI y1)), some (.long (lI y2)), z3, some (.int (iI y4)), some (.int (iI y5)), some (.int (iI y6)), some (.int (iI y7)), some (.long (lI (m 189 ((((16 * y6) + y7)).toNat)))), none]) (st' := [.int (iI y5), .int (iI 16), .ref 189, .int (iI ((16 * y6) + y7)), .ref 189]) rfl ?_
      refine wp_mul (a := 16) (b := y5) rfl ?_
      refine wp_g (n := 1) (pc' := 112) (L' := [some (.ref 158), some (.int (iI y1)), some (.long (lI y2)), z3, some (.int (iI y4)), some (.int (iI y5)), some (.int (iI y6)), some (.int (iI y7)), some (.long (lI (m 189 ((((16 * y6) + y7)).toNat)))), none]) (st' := [.int (iI y7), .int (iI (16 * y5)), .ref 189, .int (iI ((16 * y6) + y7)), .ref 189]) rfl ?_
      refine wp_add (a := (16 * y5)) (b := y7) rfl ?_
      obtain ⟨p7, hW⟩ := hW
      refine wp_lald (n := 256) (F := (m 189)) rfl (S.cell 189 (nc rfl)) (by decide) p7.1 p7.2 (by decide) ?_
      show wp _ _ _ _ _ [.long (lI (m 189 ((((16 * y5) + y7)).toNat))), .int (iI ((16 * y6) + y7)), .ref 189] _ _
      have hr8 : rK (m 189 ((((16 * y5) + y7)).toNat)) := S.rl 189 ((((16 * y5) + y7)).toNat)
      obtain ⟨p10, hW⟩ := hW
      refine wp_lasF (n := 256) (F := (m 189)) (y := (m 189 ((((16 * y5) + y7)).toNat))) rfl (S.cell 189 (nc rfl)) p10.1 p10.2 (by decide) (fun H9 hl9 hz9 hf9 => ?_)
      have S : ST H9 (up m 189 (up (m 189) ((((16 * y6) + y7)).toNat) (m 189 ((((16 * y5) + y7)).toNat)))) γ t := S.setL 189 (nc rfl) (lc rfl) hl9 hz9 hf9 hr8.1 hr8.2
      refine wp_g (n := 1) (pc' := 116) (L' := [some (.ref 158), some (.int (iI y1)), some (.long (lI y2)), z3, some (.int (iI y4)), some (.int (iI y5)), some (.int (iI y6)), some (.int (iI y7)), some (.long (lI (m 189 ((((16 * y6) + y7)).toNat)))), none]) (st' := [.ref 158]) rfl ?_
      refine wp_getf (v := .ref 189) rfl rfl (S.cell 158 (nc rfl)) (by decide) rfl ?_
      refine wp_g (n := 2) (pc' := 123) (L' := [some (.ref 158), some (.int (iI y1)), some (.long (lI y2)), z3, some (.int (iI y4)), some (.int (iI y5)), some (.int (iI y6)), some (.int (iI y7)), some (.long (lI (m 189 ((((16 * y6) + y7)).toNat)))), none]) (st' := [.int (iI y5), .int (iI 16), .ref 189]) rfl ?_
      refine wp_mul (a := 16) (b := y5) rfl ?_
      refine wp_g (n := 1) (pc' := 126) (L' := [some (.ref 158), some (.int (iI y1)), some (.long (lI y2)), z3, some (.int (iI y4)), some (.int (iI y5)), some (.int (iI y6)), some (.int (iI y7)), some (.long (lI (m 189 ((((16 * y6) + y7)).toNat)))), none]) (st' := [.int (iI y7), .int (iI (16 * y5)), .ref 189]) rfl ?_
      refine wp_add (a := (16 * y5)) (b := y7) rfl ?_
      refine wp_g (n := 1) (pc' := 129) (L' := [some (.ref 158), some (.int (iI y1)), some (.long (lI y2)), z3, some (.int (iI y4)), some (.int (iI y5)), some (.int (iI y6)), some (.int (iI y7)), some (.long (lI (m 189 ((((16 * y6) + y7)).toNat)))), none]) (st' := [.long (lI (m 189 ((((16 * y6) + y7)).toNat))), .int (iI ((16 * y5) + y7)), .ref 189]) rfl ?_
      obtain ⟨p12, hW⟩ := hW
      refine wp_lasF (n := 256) (F := (up (m 189) ((((16 * y6) + y7)).toNat) (m 189 ((((16 * y5) + y7)).toNat)))) (y := (m 189 ((((16 * y6) + y7)).toNat))) rfl (S.cell 189 (nc rfl)) p12.1 p12.2 (by decide) (fun H11 hl11 hz11 hf11 => ?_)
      have S : ST H11 (up (up m 189 (up (m 189) ((((16 * y6) + y7)).toNat) (m 189 ((((16 * y5) + y7)).toNat)))) 189 (up (up (m 189) ((((16 * y6) + y7)).toNat) (m 189 ((((16 * y5) + y7)).toNat))) ((((16 * y5) + y7)).toNat) (m 189 ((((16 * y6) + y7)).toNat)))) γ t := S.setL 189 (nc rfl) (lc rfl) hl11 hz11 hf11 hr6.1 hr6.2
      refine wp_iinc (L' := [some (.ref 158), some (.int (iI y1)), some (.long (lI y2)), z3, some (.int (iI y4)), some (.int (iI y5)), some (.int (iI y6)), some (.int (iI (y7 + 1))), some (.long (lI (m 189 ((((16 * y6) + y7)).toNat)))), none]) (a := y7) rfl rfl rfl ?_
      refine wp_g (n := 1) (pc' := 61) (L' := [some (.ref 158), some (.int (iI y1)), some (.long (lI y2)), z3, some (.int (iI y4)), some (.int (iI y5)), some (.int (iI y6)), some (.int (iI (y7 + 1))), some (.long (lI (m 189 ((((16 * y6) + y7)).toNat)))), none]) (st' := []) rfl ?_
      exact hW z3 (some (.long (lI (m 189 ((((16 * y6) + y7)).toNat))))) none _ S
theorem vc_X9_determinant_159 {E : am_E} {k : Nat} {x1 : Int} {y1 : Int} {y2 : Int} {y4 : Int} {y5 : Int} {y7 : Int} {m : MM} {γ : GM} {t : am_H} {Q : Int → MM → GM → am_H → Prop} (hx1 : rJ x1) (hy1 : rJ y1) (hy2 : rK y2) (hy4 : rJ y4) (hy5 : rJ y5) (hy7 : rJ y7) (hW : W_X9_determinant_159 E k x1 y1 y2 y4 y5 y7 m γ t Q) : hd_X9_determinant_159 E k x1 y1 y2 y4 y5 y7 m γ t Q := by
  unfold W_X9_determinant_159 at hW
  intro z3 z6 z8 z9 h S
  refine wp_g (n := 2) (pc' := 162) (L' := [some (.ref 158), some (.int (iI y1)), some (.long (lI y2)), z3, some (.int (iI y4)), some (.int (iI y5)), z6, some (.int (iI y7)), z8, z9]) (st' := [.int (iI y1), .int (iI y7)]) rfl ?_
  refine wp_icmpI (a := y7) (b := y1) rfl rfl hy7.1 hy7.2 hy1.1 hy1.2 (fun c1 => ?_) (fun c1 => ?_)
  · have dc1 := (Int.not_lt.mpr c1)
    have hW := hW.2 dc1
    refine wp_g (n := 1) (pc' := 260) (L' := [some (.ref 158), some (.int (iI y1)), some (.long (lI y2)), z3, some (.int (iI y4)), some (.int (iI y5)), z6, some (.int (iI y7)), z8, z9]) (st' := [.ref 158]) rfl ?_
    refine wp_getf (v := .ref 189) rfl rfl (S.cell 158 (nc rfl)) (by decide) rfl ?_
    refine wp_g (n := 2) (pc' := 267) (L' := [some (.ref 158), some (.int (iI y1)), some (.long (lI y2)), z3, some (.int (iI y4)), some (.int (iI y5)), z6, some (.int (iI y7)), z8, z9]) (st' := [.int (iI y5), .int (iI 16), .ref 189]) rfl ?_
    refine wp_mul (a := 16) (b := y5) rfl ?_
    refine wp_g (n := 1) (pc' := 270) (L' := [some (.ref 158), some (.int (iI y1)), some (.long (lI y2)), z3, some (.int (iI y4)), some (.int (iI y5)), z6, some (.int (iI y7)), z8, z9]) (st' := [.int (iI y5), .int (iI (16 * y5)), .ref 189]) rfl ?_
    refine wp_add (a := (16 * y5)) (b := y5) rfl ?_
    obtain ⟨p2, hW⟩ := hW
    refine wp_lald (n := 256) (F := (m 189)) rfl (S.cell 189 (nc rfl)) (by decide) p2.1 p2.2 (by decide) ?_
    show wp _ _ _ _ _ [.long (lI (m 189 ((((16 * y5) + y5)).toNat)))] _ _
    have hr3 : rK (m 189 ((((16 * y5) + y5)).toNat)) := S.rl 189 ((((16 * y5) + y5)).toNat)
    refine wp_g (n := 1) (pc' := 273) (L' := [some (.ref 158), some (.int (iI y1)), some (.long (lI (m 189 ((((16 * y5) + y5)).toNat)))), none, some (.int (iI y4)), some (.int (iI y5)), z6, some (.int (iI y7)), z8, z9]) (st' := []) rfl ?_
    refine wp_iinc (L' := [some (.ref 158), some (.int (iI y1)), some (.long (lI (m 189 ((((16 * y5) + y5)).toNat)))), none, some (.int (iI y4)), some (.int (iI (y5 + 1))), z6, some (.int (iI y7)), z8, z9]) (a := y5) rfl rfl rfl ?_
    refine wp_g (n := 1) (pc' := 8) (L' := [some (.ref 158), some (.int (iI y1)), some (.long (lI (m 189 ((((16 * y5) + y5)).toNat)))), none, some (.int (iI y4)), some (.int (iI (y5 + 1))), z6, some (.int (iI y7)), z8, z9]) (st' := []) rfl ?_
    exact hW none z6 (some (.int (iI y7))) z8 z9 _ S
  · have dc1 := (Int.not_le.mp c1)
    have hW := hW.1 dc1
    refine wp_g (n := 2) (pc' := 168) (L' := [some (.ref 158), some (.int (iI y1)), some (.long (lI y2)), z3, some (.int (iI y4)), some (.int (iI y5)), z6, some (.int (iI y7)), z8, z9]) (st' := [.int (iI 1), .int (iI y5)]) rfl ?_
    refine wp_add (a := y5) (b := 1) rfl ?_
    refine wp_g (n := 1) (pc' := 171) (L' := [some (.ref 158), some (.int (iI y1)), some (.long (lI y2)), z3, some (.int (iI y4)), some (.int (iI y5)), z6, some (.int (iI y7)), some (.int (iI (y5 + 1))), z9]) (st' := []) rfl ?_
    exact hW z3 z6 z9 _ S
theorem vc_X9_determinant_171 {E : am_E} {k : Nat} {x1 : Int} {y1 : Int} {y2 : Int} {y4 : Int} {y5 : Int} {y7 : Int} {y8 : Int} {m : MM} {γ : GM} {t : am_H} {Q : Int → MM → GM → am_H → Prop} (hx1 : rJ x1) (hy1 : rJ y1) (hy2 : rK y2) (hy4 : rJ y4) (hy5 : rJ y5) (hy7 : rJ y7) (hy8 : rJ y8) (hW : W_X9_determinant_171 E k x1 y1 y2 y4 y5 y7 y8 m γ t Q) : hd_X9_determinant_171 E k x1 y1 y2 y4 y5 y7 y8 m γ t Q := by
  unfold W_X9_determinant_171 at hW
  intro z3 z6 z9 h S
  refine wp_g (n := 2) (pc' := 174) (L' := [some (.ref 158), some (.int (iI y1)), some (.long (lI y2)), z3, some (.int (iI y4)), some (.int (iI y5)), z6, some (.int (iI y7)), some (.int (iI y8)), z9]) (st' := [.int (iI y1), .int (iI y8)]) rfl ?_
  refine wp_icmpI (a := y8) (b := y1) rfl rfl hy8.1 hy8.2 hy1.1 hy1.2 (fun c1 => ?_) (fun c1 => ?_)
  · have dc1 := (Int.not_lt.mpr c1)
    have hW := hW.2 dc1
    refine wp_iinc (L' := [some (.ref 158), some (.int (iI y1)), some (.long (lI y2)), z3, some (.int (iI y4)), some (.int (iI y5)), (bif am_c2 z6 then none else z6), some (.int (iI (y7 + 1))), some (.int (iI y8)), z9]) (a := y7) rfl rfl rfl ?_
    refine wp_g (n := 1) (pc' := 159) (L' := [some (.ref 158), some (.int (iI y1)), some (.long (lI y2)), z3, some (.int (iI y4)), some (.int (iI y5)), (bif am_c2 z6 then none else z6), some (.int (iI (y7 + 1))), some (.int (iI y8)), z9]) (st' := []) rfl ?_
    exact hW z3 (bif am_c2 z6 then none else z6) (some (.int (iI y8))) z9 _ S
  · have dc1 := (Int.not_le.mp c1)
    have hW := hW.1 dc1
    refine wp_g (n := 1) (pc' := 178) (L' := [some (.ref 158), some (.int (iI y1)), some (.long (lI y2)), z3, some (.int (iI y4)), some (.int (iI y5)), z6, some (.int (iI y7)), some (.int (iI y8)), z9]) (st' := [.ref 158]) rfl ?_
    refine wp_getf (v := .ref 189) rfl rfl (S.cell 158 (nc rfl)) (by decide) rfl ?_
    refine wp_g (n := 2) (pc' := 185) (L' := [some (.ref 158), some (.int (iI y1)), some (.long (lI y2)), z3, some (.int (iI y4)), some (.int (iI y5)), z6, some (.int (iI y7)), some (.int (iI y8)), z9]) (st' := [.int (iI y7), .int (iI 16), .ref 189]) rfl ?_
    refine wp_mul (a := 16) (b := y7) rfl ?_
    refine wp_g (n := 1) (pc' := 188) (L' := [some (.ref 158), some (.int (iI y1)), some (.long (lI y2)), z3, some (.int (iI y4)), some (.int (iI y5)), z6, some (.int (iI y7)), some (.int (iI y8)), z9]) (st' := [.int (iI y8), .int (iI (16 * y7)), .ref 189]) rfl ?_
    refine wp_add (a := (16 * y7)) (b := y8) rfl ?_
    refine wp_g (n := 1) (pc' := 190) (L' := [some (.ref 158), some (.int (iI y1)), some (.long (lI y2)), z3, some (.int (iI y4)), some (.int (iI y5)), z6, some (.int (iI y7)), some (.int (iI y8)), z9]) (st' := [.ref 158, .int (iI ((16 * y7) + y8)), .ref 189]) rfl ?_
    refine wp_getf (v := .ref 189) rfl rfl (S.cell 158 (nc rfl)) (by decide) rfl ?_
    refine wp_g (n := 2) (pc' := 197) (L' := [some (.ref 158), some (.int (iI y1)), some (.long (lI y2)), z3, some (.int (iI y4)), some (.int (iI y5)), z6, some (.int (iI y7)), some (.int (iI y8)), z9]) (st' := [.int (iI y7), .int (iI 16), .ref 189, .int (iI ((16 * y7) + y8)), .ref 189]) rfl ?_
    refine wp_mul (a := 16) (b := y7) rfl ?_
    refine wp_g (n := 1) (pc' := 200) (L' := [some (.ref 158), some (.int (iI y1)), some (.long (lI y2)), z3, some (.int (iI y4)), some (.int (iI y5)), z6, some (.int (iI y7)), some (.int (iI y8)), z9]) (st' := [.int (iI y8), .int (iI (16 * y7)), .ref 189, .int (iI ((16 * y7) + y8)), .ref 189]) rfl ?_
    refine wp_add (a := (16 * y7)) (b := y8) rfl ?_
    obtain ⟨p2, hW⟩ := hW
    refine wp_lald (n := 256) (F := (m 189)) rfl (S.cell 189 (nc rfl)) (by decide) p2.1 p2.2 (by decide) ?_
    show wp _ _ _ _ _ [.long (lI (m 189 ((((16 * y7) + y8)).toNat))), .int (iI ((16 * y7) + y8)), .ref 189] _ _
    have hr3 : rK (m 189 ((((16 * y7) + y8)).toNat)) := S.rl 189 ((((16 * y7) + y8)).toNat)
    refine wp_g (n := 1) (pc' := 203) (L' := [some (.ref 158), some (.int (iI y1)), some (.long (lI y2)), z3, some (.int (iI y4)), some (.int (iI y5)), z6, some (.int (iI y7)), some (.int (iI y8)), z9]) (st' := [.ref 158, .long (lI (m 189 ((((16 * y7) + y8)).toNat))), .int (iI ((16 * y7) + y8)), .ref 189]) rfl ?_
    refine wp_getf (v := .ref 189) rfl rfl (S.cell 158 (nc rfl)) (by decide) rfl ?_
    refine wp_g (n := 2) (pc' := 210) (L' := [some (.ref 158), some (.int (iI y1)), some (.long (lI y2)), z3, some (.int (iI y4)), some (.int (iI y5)), z6, some (.int (iI y7)), some (.int (iI y8)), z9]) (st' := [.int (iI y5), .int (iI 16), .ref 189, .long (lI (m 189 ((((16 * y7) + y8)).toNat))), .int (iI ((16 * y7) + y8)), .ref 189]) rfl ?_
    refine wp_mul (a := 16) (b := y5) rfl ?_
    refine wp_g (n := 1) (pc' := 213) (L' := [some (.ref 158), some (.int (iI y1)), some (.long (lI y2)), z3, some (.int (iI y4)), some (.int (iI y5)), z6, some (.int (iI y7)), some (.int (iI y8)), z9]) (st' := [.int (iI y5), .int (iI (16 * y5)), .ref 189, .long (lI (m 189 ((((16 * y7) + y8)).toNat))), .int (iI ((16 * y7) + y8)), .ref 189]) rfl ?_
    refine wp_add (a := (16 * y5)) (b := y5) rfl ?_
    obtain ⟨p4, hW⟩ := hW
    refine wp_lald (n := 256) (F := (m 189)) rfl (S.cell 189 (nc rfl)) (by decide) p4.1 p4.2 (by decide) ?_
    show wp _ _ _ _ _ [.long (lI (m 189 ((((16 * y5) + y5)).toNat))), .long (lI (m 189 ((((16 * y7) + y8)).toNat))), .int (iI ((16 * y7) + y8)), .ref 189] _ _
    have hr5 : rK (m 189 ((((16 * y5) + y5)).toNat)) := S.rl 189 ((((16 * y5) + y5)).toNat)
    refine wp_lmul (a := (m 189 ((((16 * y7) + y8)).toNat))) (b := (m 189 ((((16 * y5) + y5)).toNat))) rfl ?_
    refine wp_g (n := 1) (pc' := 217) (L' := [some (.ref 158), some (.int (iI y1)), some (.long (lI y2)), z3, some (.int (iI y4)), some (.int (iI y5)), z6, some (.int (iI y7)), some (.int (iI y8)), z9]) (st' := [.ref 158, .long (lI ((m 189 ((((16 * y7) + y8)).toNat)) * (m 189 ((((16 * y5) + y5)).toNat)))), .int (iI ((16 * y7) + y8)), .ref 189]) rfl ?_
    refine wp_getf (v := .ref 189) rfl rfl (S.cell 158 (nc rfl)) (by decide) rfl ?_
    refine wp_g (n := 2) (pc' := 224) (L' := [some (.ref 158), some (.int (iI y1)), some (.long (lI y2)), z3, some (.int (iI y4)), some (.int (iI y5)), z6, some (.int (iI y7)), some (.int (iI y8)), z9]) (st' := [.int (iI y7), .int (iI 16), .ref 189, .long (lI ((m 189 ((((16 * y7) + y8)).toNat)) * (m 189 ((((16 * y5) + y5)).toNat)))), .int (iI ((16 * y7) + y8)), .ref 189]) rfl ?_
    refine wp_mul (a := 16) (b := y7) rfl ?_
    refine wp_g (n := 1) (pc' := 227) (L' := [some (.ref 158), some (.int (iI y1)), some (.long (lI y2)), z3, some (.int (iI y4)), some (.int (iI y5)), z6, some (.int (iI y7)), some (.int (iI y8)), z9]) (st' := [.int (iI y5), .int (iI (16 * y7)), .ref 189, .long (lI ((m 189 ((((16 * y7) + y8)).toNat)) * (m 189 ((((16 * y5) + y5)).toNat)))), .int (iI ((16 * y7) + y8)), .ref 189]) rfl ?_
    refine wp_add (a := (16 * y7)) (b := y5) rfl ?_
    obtain ⟨p6, hW⟩ := hW
    refine wp_lald (n := 256) (F := (m 189)) rfl (S.cell 189 (nc rfl)) (by decide) p6.1 p6.2 (by decide) ?_
    show wp _ _ _ _ _ [.long (lI (m 189 ((((16 * y7) + y5)).toNat))), .long (lI ((m 189 ((((16 * y7) + y8)).toNat)) * (m 189 ((((16 * y5) + y5)).toNat)))), .int (iI ((16 * y7) + y8)), .ref 189] _ _
    have hr7 : rK (m 189 ((((16 * y7) + y5)).toNat)) := S.rl 189 ((((16 * y7) + y5)).toNat)
    refine wp_g (n := 1) (pc' := 230) (L' := [some (.ref 158), some (.int (iI y1)), some (.long (lI y2)), z3, some (.int (iI y4)), some (.int (iI y5)), z6, some (.int (iI y7)), some (.int (iI y8)), z9]) (st' := [.ref 158, .long (lI (m 189 ((((16 * y7) + y5)).toNat))), .long (lI ((m 189 ((((16 * y7) + y8)).toNat)) * (m 189 ((((16 * y5) + y5)).toNat)))), .int (iI ((16 * y7) + y8)), .ref 189]) rfl ?_
    refine wp_getf (v := .ref 189) rfl rfl (S.cell 158 (nc rfl)) (by decide) rfl ?_
    refine wp_g (n := 2) (pc' := 237) (L' := [some (.ref 158), some (.int (iI y1)), some (.long (lI y2)), z3, some (.int (iI y4)), some (.int (iI y5)), z6, some (.int (iI y7)), some (.int (iI y8)), z9]) (st' := [.int (iI y5), .int (iI 16), .ref 189, .long (lI (m 189 ((((16 * y7) + y5)).toNat))), .long (lI ((m 189 ((((16 * y7) + y8)).toNat)) * (m 189 ((((16 * y5) + y5)).toNat)))), .int (iI ((16 * y7) + y8)), .ref 189]) rfl ?_
    refine wp_mul (a := 16) (b := y5) rfl ?_
    refine wp_g (n := 1) (pc' := 240) (L' := [some (.ref 158), some (.int (iI y1)), some (.long (lI y2)), z3, some (.int (iI y4)), some (.int (iI y5)), z6, some (.int (iI y7)), some (.int (iI y8)), z9]) (st' := [.int (iI y8), .int (iI (16 * y5)), .ref 189, .long (lI (m 189 ((((16 * y7) + y5)).toNat))), .long (lI ((m 189 ((((16 * y7) + y8)).toNat)) * (m 189 ((((16 * y5) + y5)).toNat)))), .int (iI ((16 * y7) + y8)), .ref 189]) rfl ?_
    refine wp_add (a := (16 * y5)) (b := y8) rfl ?_
    obtain ⟨p8, hW⟩ := hW
    refine wp_lald (n := 256) (F := (m 189)) rfl (S.cell 189 (nc rfl)) (by decide) p8.1 p8.2 (by decide) ?_
    show wp _ _ _ _ _ [.long (lI (m 189 ((((16 * y5) + y8)).toNat))), .long (lI (m 189 ((((16 * y7) + y5)).toNat))), .long (lI ((m 189 ((((16 * y7) + y8)).toNat)) * (m 189 ((((16 * y5) + y5)).toNat)))), .int (iI ((16 * y7) + y8)), .ref 189] _ _
    have hr9 : rK (m 189 ((((16 * y5) + y8)).toNat)) := S.rl 189 ((((16 * y5) + y8)).toNat)
    refine wp_lmul (a := (m 189 ((((16 * y7) + y5)).toNat))) (b := (m 189 ((((16 * y5) + y8)).toNat))) rfl ?_
    refine wp_lsub (a := ((m 189 ((((16 * y7) + y8)).toNat)) * (m 189 ((((16 * y5) + y5)).toNat)))) (b := ((m 189 ((((16 * y7) + y5)).toNat)) * (m 189 ((((16 * y5) + y8)).toNat)))) rfl ?_
    refine wp_g (n := 1) (pc' := 245) (L' := [some (.ref 158), some (.int (iI y1)), some (.long (lI y2)), z3, some (.int (iI y4)), some (.int (iI y5)), z6, some (.int (iI y7)), some (.int (iI y8)), z9]) (st' := [.long (lI y2), .long (lI (((m 189 ((((16 * y7) + y8)).toNat)) * (m 189 ((((16 * y5) + y5)).toNat))) - ((m 189 ((((16 * y7) + y5)).toNat)) * (m 189 ((((16 * y5) + y8)).toNat))))), .int (iI ((16 * y7) + y8)), .ref 189]) rfl ?_
    obtain ⟨p10, hW⟩ := hW
    obtain ⟨p11, hW⟩ := hW
    refine wp_ldivt (a := (((m 189 ((((16 * y7) + y8)).toNat)) * (m 189 ((((16 * y5) + y5)).toNat))) - ((m 189 ((((16 * y7) + y5)).toNat)) * (m 189 ((((16 * y5) + y8)).toNat))))) (b := y2) rfl p10 hy2 p11 ?_
    obtain ⟨p13, hW⟩ := hW
    obtain ⟨p14, hW⟩ := hW
    refine wp_lasF (n := 256) (F := (m 189)) (y := (Int.tdiv (((m 189 ((((16 * y7) + y8)).toNat)) * (m 189 ((((16 * y5) + y5)).toNat))) - ((m 189 ((((16 * y7) + y5)).toNat)) * (m 189 ((((16 * y5) + y8)).toNat)))) y2)) rfl (S.cell 189 (nc rfl)) p13.1 p13.2 (by decide) (fun H12 hl12 hz12 hf12 => ?_)
    have S : ST H12 (up m 189 (up (m 189) ((((16 * y7) + y8)).toNat) (Int.tdiv (((m 189 ((((16 * y7) + y8)).toNat)) * (m 189 ((((16 * y5) + y5)).toNat))) - ((m 189 ((((16 * y7) + y5)).toNat)) * (m 189 ((((16 * y5) + y8)).toNat)))) y2))) γ t := S.setL 189 (nc rfl) (lc rfl) hl12 hz12 hf12 p14.1 p14.2
    refine wp_iinc (L' := [some (.ref 158), some (.int (iI y1)), some (.long (lI y2)), z3, some (.int (iI y4)), some (.int (iI y5)), z6, some (.int (iI y7)), some (.int (iI (y8 + 1))), z9]) (a := y8) rfl rfl rfl ?_
    refine wp_g (n := 1) (pc' := 171) (L' := [some (.ref 158), some (.int (iI y1)), some (.long (lI y2)), z3, some (.int (iI y4)), some (.int (iI y5)), z6, some (.int (iI y7)), some (.int (iI (y8 + 1))), z9]) (st' := []) rfl ?_
    exact hW z3 z6 z9 _ S
def hd_X9_trees_19 (E : am_E) (k : Nat) (x1 : Int) (y2 : Int) (y3 : Int) (m : MM) (γ : GM) (t : am_H) (Q : Int → MM → GM → am_H → Prop) : Prop := ∀ (z1 z4 z5 : Option Value), TT (pL Q) E (k + 1) 277 19 [some (.ref 158), z1, some (.int (iI y2)), some (.int (iI y3)), z4, z5] [] m γ t
def hd_X9_trees_41 (E : am_E) (k : Nat) (x1 : Int) (y2 : Int) (y3 : Int) (m : MM) (γ : GM) (t : am_H) (Q : Int → MM → GM → am_H → Prop) : Prop := ∀ (z1 z4 z5 : Option Value), TT (pL Q) E (k + 1) 277 41 [some (.ref 158), z1, some (.int (iI y2)), some (.int (iI y3)), z4, z5] [] m γ t
abbrev W_X9_trees (E : am_E) (k : Nat) (x1 : Int) (m : MM) (γ : GM) (t : am_H) (Q : Int → MM → GM → am_H → Prop) : Prop := (TI E k 216 [.ref 158, .int (iI x1)] m γ t (fun v1 m1 γ1 t1 => (((v1 = 0) → (Q (-2) m1 γ1 t1)) ∧ (¬ (v1 = 0) → (TI E k 275 [.ref 158] m1 γ1 t1 (fun v3 m3 γ3 t3 => (hd_X9_trees_19 E k x1 v3 0 m3 γ3 t3 Q)))))))
abbrev W_X9_trees_19 (E : am_E) (k : Nat) (x1 : Int) (y2 : Int) (y3 : Int) (m : MM) (γ : GM) (t : am_H) (Q : Int → MM → GM → am_H → Prop) : Prop := (((y3 < 256) → ((0 ≤ y3 ∧ y3 < 256) ∧ (hd_X9_trees_19 E k x1 y2 (y3 + 1) (up m 189 (up (m 189) ((y3).toNat) 0)) γ t Q))) ∧ (¬ (y3 < 256) → (hd_X9_trees_41 E k x1 y2 0 m γ t Q)))
abbrev W_X9_trees_41 (E : am_E) (k : Nat) (x1 : Int) (y2 : Int) (y3 : Int) (m : MM) (γ : GM) (t : am_H) (Q : Int → MM → GM → am_H → Prop) : Prop := (((y3 < (m 158 6)) → ((0 ≤ y3 ∧ y3 < 24) ∧ ((0 ≤ (m 163 ((y3).toNat)) ∧ (m 163 ((y3).toNat)) < 16) ∧ (TI E k 207 [.ref 158, .int (iI y3)] m γ t (fun v8 m8 γ8 t8 => ((0 ≤ v8 ∧ v8 < 16) ∧ ((0 ≤ y3 ∧ y3 < 24) ∧ (TI E k 204 [.int (iI (m8 162 ((y3).toNat)))] m8 γ8 t8 (fun v13 m13 γ13 t13 => (((v13 = 0) → (hd_X9_trees_41 E k x1 y2 (y3 + 1) m13 γ13 t13 Q)) ∧ (¬ (v13 = 0) → ((((m 188 (((m 163 ((y3).toNat))).toNat)) = (m8 188 ((v8).toNat))) → (hd_X9_trees_41 E k x1 y2 (y3 + 1) m13 γ13 t13 Q)) ∧ (¬ ((m 188 (((m 163 ((y3).toNat))).toNat)) = (m8 188 ((v8).toNat))) → ((0 ≤ (17 * (m 188 (((m 163 ((y3).toNat))).toNat))) ∧ (17 * (m 188 (((m 163 ((y3).toNat))).toNat))) < 256) ∧ ((0 ≤ (17 * (m 188 (((m 163 ((y3).toNat))).toNat))) ∧ (17 * (m 188 (((m 163 ((y3).toNat))).toNat))) < 256) ∧ (rK ((m13 189 (((17 * (m 188 (((m 163 ((y3).toNat))).toNat)))).toNat)) + 1) ∧ ((0 ≤ (17 * (m8 188 ((v8).toNat))) ∧ (17 * (m8 188 ((v8).toNat))) < 256) ∧ ((0 ≤ (17 * (m8 188 ((v8).toNat))) ∧ (17 * (m8 188 ((v8).toNat))) < 256) ∧ (rK (((up (m13 189) (((17 * (m 188 (((m 163 ((y3).toNat))).toNat)))).toNat) ((m13 189 (((17 * (m 188 (((m 163 ((y3).toNat))).toNat)))).toNat)) + 1)) (((17 * (m8 188 ((v8).toNat)))).toNat)) + 1) ∧ ((0 ≤ ((16 * (m 188 (((m 163 ((y3).toNat))).toNat))) + (m8 188 ((v8).toNat))) ∧ ((16 * (m 188 (((m 163 ((y3).toNat))).toNat))) + (m8 188 ((v8).toNat))) < 256) ∧ ((0 ≤ ((16 * (m 188 (((m 163 ((y3).toNat))).toNat))) + (m8 188 ((v8).toNat))) ∧ ((16 * (m 188 (((m 163 ((y3).toNat))).toNat))) + (m8 188 ((v8).toNat))) < 256) ∧ (rK (((up (up (m13 189) (((17 * (m 188 (((m 163 ((y3).toNat))).toNat)))).toNat) ((m13 189 (((17 * (m 188 (((m 163 ((y3).toNat))).toNat)))).toNat)) + 1)) (((17 * (m8 188 ((v8).toNat)))).toNat) (((up (m13 189) (((17 * (m 188 (((m 163 ((y3).toNat))).toNat)))).toNat) ((m13 189 (((17 * (m 188 (((m 163 ((y3).toNat))).toNat)))).toNat)) + 1)) (((17 * (m8 188 ((v8).toNat)))).toNat)) + 1)) ((((16 * (m 188 (((m 163 ((y3).toNat))).toNat))) + (m8 188 ((v8).toNat)))).toNat)) - 1) ∧ ((0 ≤ ((16 * (m8 188 ((v8).toNat))) + (m 188 (((m 163 ((y3).toNat))).toNat))) ∧ ((16 * (m8 188 ((v8).toNat))) + (m 188 (((m 163 ((y3).toNat))).toNat))) < 256) ∧ ((0 ≤ ((16 * (m8 188 ((v8).toNat))) + (m 188 (((m 163 ((y3).toNat))).toNat))) ∧ ((16 * (m8 188 ((v8).toNat))) + (m 188 (((m 163 ((y3).toNat))).toNat))) < 256) ∧ (rK (((up (up (up (m13 189) (((17 * (m 188 (((m 163 ((y3).toNat))).toNat)))).toNat) ((m13 189 (((17 * (m 188 (((m 163 ((y3).toNat))).toNat)))).toNat)) + 1)) (((17 * (m8 188 ((v8).toNat)))).toNat) (((up (m13 189) (((17 * (m 188 (((m 163 ((y3).toNat))).toNat)))).toNat) ((m13 189 (((17 * (m 188 (((m 163 ((y3).toNat))).toNat)))).toNat)) + 1)) (((17 * (m8 188 ((v8).toNat)))).toNat)) + 1)) ((((16 * (m 188 (((m 163 ((y3).toNat))).toNat))) + (m8 188 ((v8).toNat)))).toNat) (((up (up (m13 189) (((17 * (m 188 (((m 163 ((y3).toNat))).toNat)))).toNat) ((m13 189 (((17 * (m 188 (((m 163 ((y3).toNat))).toNat)))).toNat)) + 1)) (((17 * (m8 188 ((v8).toNat)))).toNat) (((up (m13 189) (((17 * (m 188 (((m 163 ((y3).toNat))).toNat)))).toNat) ((m13 189 (((17 * (m 188 (((m 163 ((y3).toNat))).toNat)))).toNat)) + 1)) (((17 * (m8 188 ((v8).toNat)))).toNat)) + 1)) ((((16 * (m 188 (((m 163 ((y3).toNat))).toNat))) + (m8 188 ((v8).toNat)))).toNat)) - 1)) ((((16 * (m8 188 ((v8).toNat))) + (m 188 (((m 163 ((y3).toNat))).toNat)))).toNat)) - 1) ∧ (hd_X9_trees_41 E k x1 y2 (y3 + 1) (up (up (up (up m13 189 (up (m13 189) (((17 * (m 188 (((m 163 ((y3).toNat))).toNat)))).toNat) ((m13 189 (((17 * (m 188 (((m 163 ((y3).toNat))).toNat)))).toNat)) + 1))) 189 (up (up (m13 189) (((17 * (m 188 (((m 163 ((y3).toNat))).toNat)))).toNat) ((m13 189 (((17 * (m 188 (((m 163 ((y3).toNat))).toNat)))).toNat)) + 1)) (((17 * (m8 188 ((v8).toNat)))).toNat) (((up (m13 189) (((17 * (m 188 (((m 163 ((y3).toNat))).toNat)))).toNat) ((m13 189 (((17 * (m 188 (((m 163 ((y3).toNat))).toNat)))).toNat)) + 1)) (((17 * (m8 188 ((v8).toNat)))).toNat)) + 1))) 189 (up (up (up (m13 189) (((17 * (m 188 (((m 163 ((y3).toNat))).toNat)))).toNat) ((m13 189 (((17 * (m 188 (((m 163 ((y3).toNat))).toNat)))).toNat)) + 1)) (((17 * (m8 188 ((v8).toNat)))).toNat) (((up (m13 189) (((17 * (m 188 (((m 163 ((y3).toNat))).toNat)))).toNat) ((m13 189 (((17 * (m 188 (((m 163 ((y3).toNat))).toNat)))).toNat)) + 1)) (((17 * (m8 188 ((v8).toNat)))).toNat)) + 1)) ((((16 * (m 188 (((m 163 ((y3).toNat))).toNat))) + (m8 188 ((v8).toNat)))).toNat) (((up (up (m13 189) (((17 * (m 188 (((m 163 ((y3).toNat))).toNat)))).toNat) ((m13 189 (((17 * (m 188 (((m 163 ((y3).toNat))).toNat)))).toNat)) + 1)) (((17 * (m8 188 ((v8).toNat)))).toNat) (((up (m13 189) (((17 * (m 188 (((m 163 ((y3).toNat))).toNat)))).toNat) ((m13 189 (((17 * (m 188 (((m 163 ((y3).toNat))).toNat)))).toNat)) + 1)) (((17 * (m8 188 ((v8).toNat)))).toNat)) + 1)) ((((16 * (m 188 (((m 163 ((y3).toNat))).toNat))) + (m8 188 ((v8).toNat)))).toNat)) - 1))) 189 (up (up (up (up (m13 189) (((17 * (m 188 (((m 163 ((y3).toNat))).toNat)))).toNat) ((m13 189 (((17 * (m 188 (((m 163 ((y3).toNat))).toNat)))).toNat)) + 1)) (((17 * (m8 188 ((v8).toNat)))).toNat) (((up (m13 189) (((17 * (m 188 (((m 163 ((y3).toNat))).toNat)))).toNat) ((m13 189 (((17 * (m 188 (((m 163 ((y3).toNat))).toNat)))).toNat)) + 1)) (((17 * (m8 188 ((v8).toNat)))).toNat)) + 1)) ((((16 * (m 188 (((m 163 ((y3).toNat))).toNat))) + (m8 188 ((v8).toNat)))).toNat) (((up (up (m13 189) (((17 * (m 188 (((m 163 ((y3).toNat))).toNat)))).toNat) ((m13 189 (((17 * (m 188 (((m 163 ((y3).toNat))).toNat)))).toNat)) + 1)) (((17 * (m8 188 ((v8).toNat)))).toNat) (((up (m13 189) (((17 * (m 188 (((m 163 ((y3).toNat))).toNat)))).toNat) ((m13 189 (((17 * (m 188 (((m 163 ((y3).toNat))).toNat)))).toNat)) + 1)) (((17 * (m8 188 ((v8).toNat)))).toNat)) + 1)) ((((16 * (m 188 (((m 163 ((y3).toNat))).toNat))) + (m8 188 ((v8).toNat)))).toNat)) - 1)) ((((16 * (m8 188 ((v8).toNat))) + (m 188 (((m 163 ((y3).toNat))).toNat)))).toNat) (((up (up (up (m13 189) (((17 * (m 188 (((m 163 ((y3).toNat))).toNat)))).toNat) ((m13 189 (((17 * (m 188 (((m 163 ((y3).toNat))).toNat)))).toNat)) + 1)) (((17 * (m8 188 ((v8).toNat)))).toNat) (((up (m13 189) (((17 * (m 188 (((m 163 ((y3).toNat))).toNat)))).toNat) ((m13 189 (((17 * (m 188 (((m 163 ((y3).toNat))).toNat)))).toNat)) + 1)) (((17 * (m8 188 ((v8).toNat)))).toNat)) + 1)) ((((16 * (m 188 (((m 163 ((y3).toNat))).toNat))) + (m8 188 ((v8).toNat)))).toNat) (((up (up (m13 189) (((17 * (m 188 (((m 163 ((y3).toNat))).toNat)))).toNat) ((m13 189 (((17 * (m 188 (((m 163 ((y3).toNat))).toNat)))).toNat)) + 1)) (((17 * (m8 188 ((v8).toNat)))).toNat) (((up (m13 189) (((17 * (m 188 (((m 163 ((y3).toNat))).toNat)))).toNat) ((m13 189 (((17 * (m 188 (((m 163 ((y3).toNat))).toNat)))).toNat)) + 1)) (((17 * (m8 188 ((v8).toNat)))).toNat)) + 1)) ((((16 * (m 188 (((m 163 ((y3).toNat))).toNat))) + (m8 188 ((v8).toNat)))).toNat)) - 1)) ((((16 * (m8 188 ((v8).toNat))) + (m 188 (((m 163 ((y3).toNat))).toNat)))).toNat)) - 1))) γ13 t13 Q)))))))))))))))))))))))))) ∧ (¬ (y3 < (m 158 6)) → (TL E k 276 [.ref 158, .int (iI (y2 - 1))] m γ t (fun v3 m3 γ3 t3 => (Q v3 m3 γ3 t3)))))
theorem vc_X9_trees {E : am_E} {k : Nat} {x1 : Int} {m : MM} {γ : GM} {t : am_H} {Q : Int → MM → GM → am_H → Prop} (hx1 : rJ x1) (hW : W_X9_trees E k x1 m γ t Q) : TL E (k + 1) 277 [.ref 158, .int (iI x1)] m γ t Q := by
  unfold W_X9_trees at hW
  intro h S
  refine wp_g (n := 2) (pc' := 2) (L' := [some (.ref 158), some (.int (iI x1)), none, none, none, none]) (st' := [.int (iI x1), .ref 158]) rfl ?_
  refine wp_cv (As := [.int (iI x1)]) (rest := []) rfl rfl (S.cell 158 (nc rfl)) (by decide) rfl rfl rfl (Nat.le_of_ble_eq_true rfl) (Nat.le_of_ble_eq_true rfl) (hW _ S) (fun r1 H1 q1 => ?_)
  obtain ⟨v1, m1, γ1, t1, rfl, hv1, S, hW⟩ := q1
  show wp _ _ _ _ _ [.int (iI v1)] _ _
  refine wp_ifI (a := v1) rfl rfl hv1.1 hv1.2 (fun c2 => ?_) (fun c2 => ?_)
  · have dc2 := c2
    have hW := hW.2 dc2
    refine wp_g (n := 1) (pc' := 13) (L' := [some (.ref 158), some (.int (iI x1)), none, none, none, none]) (st' := [.ref 158]) rfl ?_
    refine wp_cv (As := []) (rest := []) rfl rfl (S.cell 158 (nc rfl)) (by decide) rfl rfl rfl (Nat.le_of_ble_eq_true rfl) (Nat.le_of_ble_eq_true rfl) (hW _ S) (fun r3 H3 q3 => ?_)
    obtain ⟨v3, m3, γ3, t3, rfl, hv3, S, hW⟩ := q3
    show wp _ _ _ _ _ [.int (iI v3)] _ _
    refine wp_g (n := 3) (pc' := 19) (L' := [some (.ref 158), some (.int (iI x1)), some (.int (iI v3)), some (.int (iI 0)), none, none]) (st' := []) rfl ?_
    exact hW (some (.int (iI x1))) none none _ S
  · have dc2 := (Classical.not_not.mp c2)
    have hW := hW.1 dc2
    refine wp_g (n := 1) (pc' := 11) (L' := [some (.ref 158), some (.int (iI x1)), none, none, none, none]) (st' := [.long (lI (-2))]) rfl ?_
    exact wp_lret rfl rfl ⟨_, _, _, _, rfl, (by decide), S, hW⟩
theorem vc_X9_trees_19 {E : am_E} {k : Nat} {x1 : Int} {y2 : Int} {y3 : Int} {m : MM} {γ : GM} {t : am_H} {Q : Int → MM → GM → am_H → Prop} (hx1 : rJ x1) (hy2 : rJ y2) (hy3 : rJ y3) (hW : W_X9_trees_19 E k x1 y2 y3 m γ t Q) : hd_X9_trees_19 E k x1 y2 y3 m γ t Q := by
  unfold W_X9_trees_19 at hW
  intro z1 z4 z5 h S
  refine wp_g (n := 2) (pc' := 23) (L' := [some (.ref 158), z1, some (.int (iI y2)), some (.int (iI y3)), z4, z5]) (st' := [.int (iI 256), .int (iI y3)]) rfl ?_
  refine wp_icmpI (a := y3) (b := 256) rfl rfl hy3.1 hy3.2 (by decide) (by decide) (fun c1 => ?_) (fun c1 => ?_)
  · have dc1 := (Int.not_lt.mpr c1)
    have hW := hW.2 dc1
    refine wp_g (n := 2) (pc' := 41) (L' := [some (.ref 158), z1, some (.int (iI y2)), some (.int (iI 0)), z4, z5]) (st' := []) rfl ?_
    exact hW z1 z4 z5 _ S
  · have dc1 := (Int.not_le.mp c1)
    have hW := hW.1 dc1
    refine wp_g (n := 1) (pc' := 27) (L' := [some (.ref 158), z1, some (.int (iI y2)), some (.int (iI y3)), z4, z5]) (st' := [.ref 158]) rfl ?_
    refine wp_getf (v := .ref 189) rfl rfl (S.cell 158 (nc rfl)) (by decide) rfl ?_
    refine wp_g (n := 2) (pc' := 32) (L' := [some (.ref 158), z1, some (.int (iI y2)), some (.int (iI y3)), z4, z5]) (st' := [.long (lI 0), .int (iI y3), .ref 189]) rfl ?_
    obtain ⟨p3, hW⟩ := hW
    refine wp_lasF (n := 256) (F := (m 189)) (y := 0) rfl (S.cell 189 (nc rfl)) p3.1 p3.2 (by decide) (fun H2 hl2 hz2 hf2 => ?_)
    have S : ST H2 (up m 189 (up (m 189) ((y3).toNat) 0)) γ t := S.setL 189 (nc rfl) (lc rfl) hl2 hz2 hf2 (by decide) (by decide)
    refine wp_iinc (L' := [some (.ref 158), z1, some (.int (iI y2)), some (.int (iI (y3 + 1))), z4, z5]) (a := y3) rfl rfl rfl ?_
    refine wp_g (n := 1) (pc' := 19) (L' := [some (.ref 158), z1, some (.int (iI y2)), some (.int (iI (y3 + 1))), z4, z5]) (st' := []) rfl ?_
    exact hW z1 z4 z5 _ S
theorem vc_X9_trees_41 {E : am_E} {k : Nat} {x1 : Int} {y2 : Int} {y3 : Int} {m : MM} {γ : GM} {t : am_H} {Q : Int → MM → GM → am_H → Prop} (hx1 : rJ x1) (hy2 : rJ y2) (hy3 : rJ y3) (hW : W_X9_trees_41 E k x1 y2 y3 m γ t Q) : hd_X9_trees_41 E k x1 y2 y3 m γ t Q := by
  unfold W_X9_trees_41 at hW
  intro z1 z4 z5 h S
  refine wp_g (n := 2) (pc' := 43) (L' := [some (.ref 158), z1, some (.int (iI y2)), some (.int (iI y3)), z4, z5]) (st' := [.ref 158, .int (iI y3)]) rfl ?_
  refine wp_getf (v := .int (iI (m 158 6))) rfl rfl (S.cell 158 (nc rfl)) (by decide) rfl ?_
  have hr1 : rJ (m 158 6) := S.rg 158 6 (nl rfl)
  refine wp_icmpI (a := y3) (b := (m 158 6)) rfl rfl hy3.1 hy3.2 hr1.1 hr1.2 (fun c2 => ?_) (fun c2 => ?_)
  · have dc2 := (Int.not_lt.mpr c2)
    have hW := hW.2 dc2
    refine wp_g (n := 3) (pc' := 167) (L' := [some (.ref 158), z1, some (.int (iI y2)), some (.int (iI y3)), z4, z5]) (st' := [.int (iI 1), .int (iI y2), .ref 158]) rfl ?_
    refine wp_sub (a := y2) (b := 1) rfl ?_
    refine wp_cv (As := [.int (iI (y2 - 1))]) (rest := []) rfl rfl (S.cell 158 (nc rfl)) (by decide) rfl rfl rfl (Nat.le_of_ble_eq_true rfl) (Nat.le_of_ble_eq_true rfl) (hW _ S) (fun r3 H3 q3 => ?_)
    obtain ⟨v3, m3, γ3, t3, rfl, hv3, S, hW⟩ := q3
    show wp _ _ _ _ _ [.long (lI v3)] _ _
    exact wp_lret rfl rfl ⟨_, _, _, _, rfl, hv3, S, hW⟩
  · have dc2 := (Int.not_le.mp c2)
    have hW := hW.1 dc2
    refine wp_g (n := 1) (pc' := 50) (L' := [some (.ref 158), z1, some (.int (iI y2)), some (.int (iI y3)), z4, z5]) (st' := [.ref 158]) rfl ?_
    refine wp_getf (v := .ref 188) rfl rfl (S.cell 158 (nc rfl)) (by decide) rfl ?_
    refine wp_g (n := 1) (pc' := 54) (L' := [some (.ref 158), z1, some (.int (iI y2)), some (.int (iI y3)), z4, z5]) (st' := [.ref 158, .ref 188]) rfl ?_
    refine wp_getf (v := .ref 163) rfl rfl (S.cell 158 (nc rfl)) (by decide) rfl ?_
    refine wp_g (n := 1) (pc' := 58) (L' := [some (.ref 158), z1, some (.int (iI y2)), some (.int (iI y3)), z4, z5]) (st' := [.int (iI y3), .ref 163, .ref 188]) rfl ?_
    obtain ⟨p4, hW⟩ := hW
    refine wp_iald (n := 24) (F := (m 163)) rfl (S.cell 163 (nc rfl)) (by decide) p4.1 p4.2 (by decide) ?_
    show wp _ _ _ _ _ [.int (iI (m 163 ((y3).toNat))), .ref 188] _ _
    have hr5 : rJ (m 163 ((y3).toNat)) := S.rg 163 ((y3).toNat) (nl rfl)
    obtain ⟨p6, hW⟩ := hW
    refine wp_iald (n := 16) (F := (m 188)) rfl (S.cell 188 (nc rfl)) (by decide) p6.1 p6.2 (by decide) ?_
    show wp _ _ _ _ _ [.int (iI (m 188 (((m 163 ((y3).toNat))).toNat)))] _ _
    have hr7 : rJ (m 188 (((m 163 ((y3).toNat))).toNat)) := S.rg 188 (((m 163 ((y3).toNat))).toNat) (nl rfl)
    refine wp_g (n := 2) (pc' := 63) (L' := [some (.ref 158), z1, some (.int (iI y2)), some (.int (iI y3)), some (.int (iI (m 188 (((m 163 ((y3).toNat))).toNat)))), z5]) (st' := [.ref 158]) rfl ?_
    refine wp_getf (v := .ref 188) rfl rfl (S.cell 158 (nc rfl)) (by decide) rfl ?_
    refine wp_g (n := 2) (pc' := 68) (L' := [some (.ref 158), z1, some (.int (iI y2)), some (.int (iI y3)), some (.int (iI (m 188 (((m 163 ((y3).toNat))).toNat)))), z5]) (st' := [.int (iI y3), .ref 158, .ref 188]) rfl ?_
    refine wp_cv (As := [.int (iI y3)]) (rest := [.ref 188]) rfl rfl (S.cell 158 (nc rfl)) (by decide) rfl rfl rfl (Nat.le_of_ble_eq_true rfl) (Nat.le_of_ble_eq_true rfl) (hW _ S) (fun r8 H8 q8 => ?_)
    obtain ⟨v8, m8, γ8, t8, rfl, hv8, S, hW⟩ := q8
    show wp _ _ _ _ _ [.int (iI v8), .ref 188] _ _
    obtain ⟨p9, hW⟩ := hW
    refine wp_iald (n := 16) (F := (m8 188)) rfl (S.cell 188 (nc rfl)) (by decide) p9.1 p9.2 (by decide) ?_
    show wp _ _ _ _ _ [.int (iI (m8 188 ((v8).toNat)))] _ _
    have hr10 : rJ (m8 188 ((v8).toNat)) := S.rg 188 ((v8).toNat) (nl rfl)
    refine wp_g (n := 2) (pc' := 75) (L' := [some (.ref 158), z1, some (.int (iI y2)), some (.int (iI y3)), some (.int (iI (m 188 (((m 163 ((y3).toNat))).toNat)))), some (.int (iI (m8 188 ((v8).toNat))))]) (st' := [.ref 158]) rfl ?_
    refine wp_getf (v := .ref 162) rfl rfl (S.cell 158 (nc rfl)) (by decide) rfl ?_
    refine wp_g (n := 1) (pc' := 79) (L' := [some (.ref 158), z1, some (.int (iI y2)), some (.int (iI y3)), some (.int (iI (m 188 (((m 163 ((y3).toNat))).toNat)))), some (.int (iI (m8 188 ((v8).toNat))))]) (st' := [.int (iI y3), .ref 162]) rfl ?_
    obtain ⟨p11, hW⟩ := hW
    refine wp_iald (n := 24) (F := (m8 162)) rfl (S.cell 162 (nc rfl)) (by decide) p11.1 p11.2 (by decide) ?_
    show wp _ _ _ _ _ [.int (iI (m8 162 ((y3).toNat)))] _ _
    have hr12 : rJ (m8 162 ((y3).toNat)) := S.rg 162 ((y3).toNat) (nl rfl)
    refine wp_cs (As := [.int (iI (m8 162 ((y3).toNat)))]) (rest := []) rfl rfl rfl rfl (Nat.le_of_ble_eq_true rfl) (Nat.le_of_ble_eq_true rfl) (hW _ S) (fun r13 H13 q13 => ?_)
    obtain ⟨v13, m13, γ13, t13, rfl, hv13, S, hW⟩ := q13
    show wp _ _ _ _ _ [.int (iI v13)] _ _
    refine wp_ifI (a := v13) rfl rfl hv13.1 hv13.2 (fun c14 => ?_) (fun c14 => ?_)
    · have dc14 := c14
      have hW := hW.1 dc14
      refine wp_iinc (L' := [some (.ref 158), z1, some (.int (iI y2)), some (.int (iI (y3 + 1))), some (.int (iI (m 188 (((m 163 ((y3).toNat))).toNat)))), some (.int (iI (m8 188 ((v8).toNat))))]) (a := y3) rfl rfl rfl ?_
      refine wp_g (n := 1) (pc' := 41) (L' := [some (.ref 158), z1, some (.int (iI y2)), some (.int (iI (y3 + 1))), some (.int (iI (m 188 (((m 163 ((y3).toNat))).toNat)))), some (.int (iI (m8 188 ((v8).toNat))))]) (st' := []) rfl ?_
      exact hW z1 (some (.int (iI (m 188 (((m 163 ((y3).toNat))).toNat))))) (some (.int (iI (m8 188 ((v8).toNat))))) _ S
    · have dc14 := c14
      have hW := hW.2 dc14
      refine wp_g (n := 2) (pc' := 90) (L' := [some (.ref 158), z1, some (.int (iI y2)), some (.int (iI y3)), some (.int (iI (m 188 (((m 163 ((y3).toNat))).toNat)))), some (.int (iI (m8 188 ((v8).toNat))))]) (st' := [.int (iI (m8 188 ((v8).toNat))), .int (iI (m 188 (((m 163 ((y3).toNat))).toNat)))]) rfl ?_
      refine wp_icmpI (a := (m 188 (((m 163 ((y3).toNat))).toNat))) (b := (m8 188 ((v8).toNat))) rfl rfl hr7.1 hr7.2 hr10.1 hr10.2 (fun c15 => ?_) (fun c15 => ?_)
      · have dc15 := c15
        have hW := hW.2 dc15
        refine wp_g (n := 1) (pc' := 97) (L' := [some (.ref 158), z1, some (.int (iI y2)), some (.int (iI y3)), some (.int (iI (m 188 (((m 163 ((y3).toNat))).toNat)))), some (.int (iI (m8 188 ((v8).toNat))))]) (st' := [.ref 158]) rfl ?_
        refine wp_getf (v := .ref 189) rfl rfl (S.cell 158 (nc rfl)) (by decide) rfl ?_
        refine wp_g (n := 2) (pc' := 104) (L' := [some (.ref 158), z1, some (.int (iI y2)), some (.int (iI y3)), some (.int (iI (m 188 (((m 163 ((y3).toNat))).toNat)))), some (.int (iI (m8 188 ((v8).toNat))))]) (st' := [.int (iI (m 188 (((m 163 ((y3).toNat))).toNat))), .int (iI 17), .ref 189]) rfl ?_
        refine wp_mul (a := 17) (b := (m 188 (((m 163 ((y3).toNat))).toNat))) rfl ?_
        refine wp_g (n := 1) (pc' := 106) (L' := [some (.ref 158), z1, some (.int (iI y2)), some (.int (iI y3)), some (.int (iI (m 188 (((m 163 ((y3).toNat))).toNat)))), some (.int (iI (m8 188 ((v8).toNat))))]) (st' := [.int (iI (17 * (m 188 (((m 163 ((y3).toNat))).toNat)))), .ref 189, .int (iI (17 * (m 188 (((m 163 ((y3).toNat))).toNat)))), .ref 189]) rfl ?_
        obtain ⟨p16, hW⟩ := hW
        refine wp_lald (n := 256) (F := (m13 189)) rfl (S.cell 189 (nc rfl)) (by decide) p16.1 p16.2 (by decide) ?_
        show wp _ _ _ _ _ [.long (lI (m13 189 (((17 * (m 188 (((m 163 ((y3).toNat))).toNat)))).toNat))), .int (iI (17 * (m 188 (((m 163 ((y3).toNat))).toNat)))), .ref 189] _ _
        have hr17 : rK (m13 189 (((17 * (m 188 (((m 163 ((y3).toNat))).toNat)))).toNat)) := S.rl 189 (((17 * (m 188 (((m 163 ((y3).toNat))).toNat)))).toNat)
        refine wp_g (n := 1) (pc' := 108) (L' := [some (.ref 158), z1, some (.int (iI y2)), some (.int (iI y3)), some (.int (iI (m 188 (((m 163 ((y3).toNat))).toNat)))), some (.int (iI (m8 188 ((v8).toNat))))]) (st' := [.long (lI 1), .long (lI (m13 189 (((17 * (m 188 (((m 163 ((y3).toNat))).toNat)))).toNat))), .int (iI (17 * (m 188 (((m 163 ((y3).toNat))).toNat)))), .ref 189]) rfl ?_
        refine wp_ladd (a := (m13 189 (((17 * (m 188 (((m 163 ((y3).toNat))).toNat)))).toNat))) (b := 1) rfl ?_
        obtain ⟨p19, hW⟩ := hW
        obtain ⟨p20, hW⟩ := hW
        refine wp_lasF (n := 256) (F := (m13 189)) (y := ((m13 189 (((17 * (m 188 (((m 163 ((y3).toNat))).toNat)))).toNat)) + 1)) rfl (S.cell 189 (nc rfl)) p19.1 p19.2 (by decide) (fun H18 hl18 hz18 hf18 => ?_)
        have S : ST H18 (up m13 189 (up (m13 189) (((17 * (m 188 (((m 163 ((y3).toNat))).toNat)))).toNat) ((m13 189 (((17 * (m 188 (((m 163 ((y3).toNat))).toNat)))).toNat)) + 1))) γ13 t13 := S.setL 189 (nc rfl) (lc rfl) hl18 hz18 hf18 p20.1 p20.2
        refine wp_g (n := 1) (pc' := 111) (L' := [some (.ref 158), z1, some (.int (iI y2)), some (.int (iI y3)), some (.int (iI (m 188 (((m 163 ((y3).toNat))).toNat)))), some (.int (iI (m8 188 ((v8).toNat))))]) (st' := [.ref 158]) rfl ?_
        refine wp_getf (v := .ref 189) rfl rfl (S.cell 158 (nc rfl)) (by decide) rfl ?_
        refine wp_g (n := 2) (pc' := 118) (L' := [some (.ref 158), z1, some (.int (iI y2)), some (.int (iI y3)), some (.int (iI (m 188 (((m 163 ((y3).toNat))).toNat)))), some (.int (iI (m8 188 ((v8).toNat))))]) (st' := [.int (iI (m8 188 ((v8).toNat))), .int (iI 17), .ref 189]) rfl ?_
        refine wp_mul (a := 17) (b := (m8 188 ((v8).toNat))) rfl ?_
        refine wp_g (n := 1) (pc' := 120) (L' := [some (.ref 158), z1, some (.int (iI y2)), some (.int (iI y3)), some (.int (iI (m 188 (((m 163 ((y3).toNat))).toNat)))), some (.int (iI (m8 188 ((v8).toNat))))]) (st' := [.int (iI (17 * (m8 188 ((v8).toNat)))), .ref 189, .int (iI (17 * (m8 188 ((v8).toNat)))), .ref 189]) rfl ?_
        obtain ⟨p21, hW⟩ := hW
        refine wp_lald (n := 256) (F := (up (m13 189) (((17 * (m 188 (((m 163 ((y3).toNat))).toNat)))).toNat) ((m13 189 (((17 * (m 188 (((m 163 ((y3).toNat))).toNat)))).toNat)) + 1))) rfl (S.cell 189 (nc rfl)) (by decide) p21.1 p21.2 (by decide) ?_
        show wp _ _ _ _ _ [.long (lI ((up (m13 189) (((17 * (m 188 (((m 163 ((y3).toNat))).toNat)))).toNat) ((m13 189 (((17 * (m 188 (((m 163 ((y3).toNat))).toNat)))).toNat)) + 1)) (((17 * (m8 188 ((v8).toNat)))).toNat))), .int (iI (17 * (m8 188 ((v8).toNat)))), .ref 189] _ _
        have hr22 : rK ((up (m13 189) (((17 * (m 188 (((m 163 ((y3).toNat))).toNat)))).toNat) ((m13 189 (((17 * (m 188 (((m 163 ((y3).toNat))).toNat)))).toNat)) + 1)) (((17 * (m8 188 ((v8).toNat)))).toNat)) := S.rl 189 (((17 * (m8 188 ((v8).toNat)))).toNat)
        refine wp_g (n := 1) (pc' := 122) (L' := [some (.ref 158), z1, some (.int (iI y2)), some (.int (iI y3)), some (.int (iI (m 188 (((m 163 ((y3).toNat))).toNat)))), some (.int (iI (m8 188 ((v8).toNat))))]) (st' := [.long (lI 1), .long (lI ((up (m13 189) (((17 * (m 188 (((m 163 ((y3).toNat))).toNat)))).toNat) ((m13 189 (((17 * (m 188 (((m 163 ((y3).toNat))).toNat)))).toNat)) + 1)) (((17 * (m8 188 ((v8).toNat)))).toNat))), .int (iI (17 * (m8 188 ((v8).toNat)))), .ref 189]) rfl ?_
        refine wp_ladd (a := ((up (m13 189) (((17 * (m 188 (((m 163 ((y3).toNat))).toNat)))).toNat) ((m13 189 (((17 * (m 188 (((m 163 ((y3).toNat))).toNat)))).toNat)) + 1)) (((17 * (m8 188 ((v8).toNat)))).toNat))) (b := 1) rfl ?_
        obtain ⟨p24, hW⟩ := hW
        obtain ⟨p25, hW⟩ := hW
        refine wp_lasF (n := 256) (F := (up (m13 189) (((17 * (m 188 (((m 163 ((y3).toNat))).toNat)))).toNat) ((m13 189 (((17 * (m 188 (((m 163 ((y3).toNat))).toNat)))).toNat)) + 1))) (y := (((up (m13 189) (((17 * (m 188 (((m 163 ((y3).toNat))).toNat)))).toNat) ((m13 189 (((17 * (m 188 (((m 163 ((y3).toNat))).toNat)))).toNat)) + 1)) (((17 * (m8 188 ((v8).toNat)))).toNat)) + 1)) rfl (S.cell 189 (nc rfl)) p24.1 p24.2 (by decide) (fun H23 hl23 hz23 hf23 => ?_)
        have S : ST H23 (up (up m13 189 (up (m13 189) (((17 * (m 188 (((m 163 ((y3).toNat))).toNat)))).toNat) ((m13 189 (((17 * (m 188 (((m 163 ((y3).toNat))).toNat)))).toNat)) + 1))) 189 (up (up (m13 189) (((17 * (m 188 (((m 163 ((y3).toNat))).toNat)))).toNat) ((m13 189 (((17 * (m 188 (((m 163 ((y3).toNat))).toNat)))).toNat)) + 1)) (((17 * (m8 188 ((v8).toNat)))).toNat) (((up (m13 189) (((17 * (m 188 (((m 163 ((y3).toNat))).toNat)))).toNat) ((m13 189 (((17 * (m 188 (((m 163 ((y3).toNat))).toNat)))).toNat)) + 1)) (((17 * (m8 188 ((v8).toNat)))).toNat)) + 1))) γ13 t13 := S.setL 189 (nc rfl) (lc rfl) hl23 hz23 hf23 p25.1 p25.2
        refine wp_g (n := 1) (pc' := 125) (L' := [some (.ref 158), z1, some (.int (iI y2)), some (.int (iI y3)), some (.int (iI (m 188 (((m 163 ((y3).toNat))).toNat)))), some (.int (iI (m8 188 ((v8).toNat))))]) (st' := [.ref 158]) rfl ?_
        refine wp_getf (v := .ref 189) rfl rfl (S.cell 158 (nc rfl)) (by decide) rfl ?_
        refine wp_g (n := 2) (pc' := 132) (L' := [some (.ref 158), z1, some (.int (iI y2)), some (.int (iI y3)), some (.int (iI (m 188 (((m 163 ((y3).toNat))).toNat)))), some (.int (iI (m8 188 ((v8).toNat))))]) (st' := [.int (iI (m 188 (((m 163 ((y3).toNat))).toNat))), .int (iI 16), .ref 189]) rfl ?_
        refine wp_mul (a := 16) (b := (m 188 (((m 163 ((y3).toNat))).toNat))) rfl ?_
        refine wp_g (n := 1) (pc' := 135) (L' := [some (.ref 158), z1, some (.int (iI y2)), some (.int (iI y3)), some (.int (iI (m 188 (((m 163 ((y3).toNat))).toNat)))), some (.int (iI (m8 188 ((v8).toNat))))]) (st' := [.int (iI (m8 188 ((v8).toNat))), .int (iI (16 * (m 188 (((m 163 ((y3).toNat))).toNat)))), .ref 189]) rfl ?_
        refine wp_add (a := (16 * (m 188 (((m 163 ((y3).toNat))).toNat)))) (b := (m8 188 ((v8).toNat))) rfl ?_
        refine wp_g (n := 1) (pc' := 137) (L' := [some (.ref 158), z1, some (.int (iI y2)), some (.int (iI y3)), some (.int (iI (m 188 (((m 163 ((y3).toNat))).toNat)))), some (.int (iI (m8 188 ((v8).toNat))))]) (st' := [.int (iI ((16 * (m 188 (((m 163 ((y3).toNat))).toNat))) + (m8 188 ((v8).toNat)))), .ref 189, .int (iI ((16 * (m 188 (((m 163 ((y3).toNat))).toNat))) + (m8 188 ((v8).toNat)))), .ref 189]) rfl ?_
        obtain ⟨p26, hW⟩ := hW
        refine wp_lald (n := 256) (F := (up (up (m13 189) (((17 * (m 188 (((m 163 ((y3).toNat))).toNat)))).toNat) ((m13 189 (((17 * (m 188 (((m 163 ((y3).toNat))).toNat)))).toNat)) + 1)) (((17 * (m8 188 ((v8).toNat)))).toNat) (((up (m13 189) (((17 * (m 188 (((m 163 ((y3).toNat))).toNat)))).toNat) ((m13 189 (((17 * (m 188 (((m 163 ((y3).toNat))).toNat)))).toNat)) + 1)) (((17 * (m8 188 ((v8).toNat)))).toNat)) + 1))) rfl (S.cell 189 (nc rfl)) (by decide) p26.1 p26.2 (by decide) ?_
        show wp _ _ _ _ _ [.long (lI ((up (up (m13 189) (((17 * (m 188 (((m 163 ((y3).toNat))).toNat)))).toNat) ((m13 189 (((17 * (m 188 (((m 163 ((y3).toNat))).toNat)))).toNat)) + 1)) (((17 * (m8 188 ((v8).toNat)))).toNat) (((up (m13 189) (((17 * (m 188 (((m 163 ((y3).toNat))).toNat)))).toNat) ((m13 189 (((17 * (m 188 (((m 163 ((y3).toNat))).toNat)))).toNat)) + 1)) (((17 * (m8 188 ((v8).toNat)))).toNat)) + 1)) ((((16 * (m 188 (((m 163 ((y3).toNat))).toNat))) + (m8 188 ((v8).toNat)))).toNat))), .int (iI ((16 * (m 188 (((m 163 ((y3).toNat))).toNat))) + (m8 188 ((v8).toNat)))), .ref 189] _ _
        have hr27 : rK ((up (up (m13 189) (((17 * (m 188 (((m 163 ((y3).toNat))).toNat)))).toNat) ((m13 189 (((17 * (m 188 (((m 163 ((y3).toNat))).toNat)))).toNat)) + 1)) (((17 * (m8 188 ((v8).toNat)))).toNat) (((up (m13 189) (((17 * (m 188 (((m 163 ((y3).toNat))).toNat)))).toNat) ((m13 189 (((17 * (m 188 (((m 163 ((y3).toNat))).toNat)))).toNat)) + 1)) (((17 * (m8 188 ((v8).toNat)))).toNat)) + 1)) ((((16 * (m 188 (((m 163 ((y3).toNat))).toNat))) + (m8 188 ((v8).toNat)))).toNat)) := S.rl 189 ((((16 * (m 188 (((m 163 ((y3).toNat))).toNat))) + (m8 188 ((v8).toNat)))).toNat)
        refine wp_g (n := 1) (pc' := 139) (L' := [some (.ref 158), z1, some (.int (iI y2)), some (.int (iI y3)), some (.int (iI (m 188 (((m 163 ((y3).toNat))).toNat)))), some (.int (iI (m8 188 ((v8).toNat))))]) (st' := [.long (lI 1), .long (lI ((up (up (m13 189) (((17 * (m 188 (((m 163 ((y3).toNat))).toNat)))).toNat) ((m13 189 (((17 * (m 188 (((m 163 ((y3).toNat))).toNat)))).toNat)) + 1)) (((17 * (m8 188 ((v8).toNat)))).toNat) (((up (m13 189) (((17 * (m 188 (((m 163 ((y3).toNat))).toNat)))).toNat) ((m13 189 (((17 * (m 188 (((m 163 ((y3).toNat))).toNat)))).toNat)) + 1)) (((17 * (m8 188 ((v8).toNat)))).toNat)) + 1)) ((((16 * (m 188 (((m 163 ((y3).toNat))).toNat))) + (m8 188 ((v8).toNat)))).toNat))), .int (iI ((16 * (m 188 (((m 163 ((y3).toNat))).toNat))) + (m8 188 ((v8).toNat)))), .ref 189]) rfl ?_
        refine wp_lsub (a := ((up (up (m13 189) (((17 * (m 188 (((m 163 ((y3).toNat))).toNat)))).toNat) ((m13 189 (((17 * (m 188 (((m 163 ((y3).toNat))).toNat)))).toNat)) + 1)) (((17 * (m8 188 ((v8).toNat)))).toNat) (((up (m13 189) (((17 * (m 188 (((m 163 ((y3).toNat))).toNat)))).toNat) ((m13 189 (((17 * (m 188 (((m 163 ((y3).toNat))).toNat)))).toNat)) + 1)) (((17 * (m8 188 ((v8).toNat)))).toNat)) + 1)) ((((16 * (m 188 (((m 163 ((y3).toNat))).toNat))) + (m8 188 ((v8).toNat)))).toNat))) (b := 1) rfl ?_
        obtain ⟨p29, hW⟩ := hW
        obtain ⟨p30, hW⟩ := hW
        refine wp_lasF (n := 256) (F := (up (up (m13 189) (((17 * (m 188 (((m 163 ((y3).toNat))).toNat)))).toNat) ((m13 189 (((17 * (m 188 (((m 163 ((y3).toNat))).toNat)))).toNat)) + 1)) (((17 * (m8 188 ((v8).toNat)))).toNat) (((up (m13 189) (((17 * (m 188 (((m 163 ((y3).toNat))).toNat)))).toNat) ((m13 189 (((17 * (m 188 (((m 163 ((y3).toNat))).toNat)))).toNat)) + 1)) (((17 * (m8 188 ((v8).toNat)))).toNat)) + 1))) (y := (((up (up (m13 189) (((17 * (m 188 (((m 163 ((y3).toNat))).toNat)))).toNat) ((m13 189 (((17 * (m 188 (((m 163 ((y3).toNat))).toNat)))).toNat)) + 1)) (((17 * (m8 188 ((v8).toNat)))).toNat) (((up (m13 189) (((17 * (m 188 (((m 163 ((y3).toNat))).toNat)))).toNat) ((m13 189 (((17 * (m 188 (((m 163 ((y3).toNat))).toNat)))).toNat)) + 1)) (((17 * (m8 188 ((v8).toNat)))).toNat)) + 1)) ((((16 * (m 188 (((m 163 ((y3).toNat))).toNat))) + (m8 188 ((v8).toNat)))).toNat)) - 1)) rfl (S.cell 189 (nc rfl)) p29.1 p29.2 (by decide) (fun H28 hl28 hz28 hf28 => ?_)
        have S : ST H28 (up (up (up m13 189 (up (m13 189) (((17 * (m 188 (((m 163 ((y3).toNat))).toNat)))).toNat) ((m13 189 (((17 * (m 188 (((m 163 ((y3).toNat))).toNat)))).toNat)) + 1))) 189 (up (up (m13 189) (((17 * (m 188 (((m 163 ((y3).toNat))).toNat)))).toNat) ((m13 189 (((17 * (m 188 (((m 163 ((y3).toNat))).toNat)))).toNat)) + 1)) (((17 * (m8 188 ((v8).toNat)))).toNat) (((up (m13 189) (((17 * (m 188 (((m 163 ((y3).toNat))).toNat)))).toNat) ((m13 189 (((17 * (m 188 (((m 163 ((y3).toNat))).toNat)))).toNat)) + 1)) (((17 * (m8 188 ((v8).toNat)))).toNat)) + 1))) 189 (up (up (up (m13 189) (((17 * (m 188 (((m 163 ((y3).toNat))).toNat)))).toNat) ((m13 189 (((17 * (m 188 (((m 163 ((y3).toNat))).toNat)))).toNat)) + 1)) (((17 * (m8 188 ((v8).toNat)))).toNat) (((up (m13 189) (((17 * (m 188 (((m 163 ((y3).toNat))).toNat)))).toNat) ((m13 189 (((17 * (m 188 (((m 163 ((y3).toNat))).toNat)))).toNat)) + 1)) (((17 * (m8 188 ((v8).toNat)))).toNat)) + 1)) ((((16 * (m 188 (((m 163 ((y3).toNat))).toNat))) + (m8 188 ((v8).toNat)))).toNat) (((up (up (m13 189) (((17 * (m 188 (((m 163 ((y3).toNat))).toNat)))).toNat) ((m13 189 (((17 * (m 188 (((m 163 ((y3).toNat))).toNat)))).toNat)) + 1)) (((17 * (m8 188 ((v8).toNat)))).toNat) (((up (m13 189) (((17 * (m 188 (((m 163 ((y3).toNat))).toNat)))).toNat) ((m13 189 (((17 * (m 188 (((m 163 ((y3).toNat))).toNat)))).toNat)) + 1)) (((17 * (m8 188 ((v8).toNat)))).toNat)) + 1)) ((((16 * (m 188 (((m 163 ((y3).toNat))).toNat))) + (m8 188 ((v8).toNat)))).toNat)) - 1))) γ13 t13 := S.setL 189 (nc rfl) (lc rfl) hl28 hz28 hf28 p30.1 p30.2
        refine wp_g (n := 1) (pc' := 142) (L' := [some (.ref 158), z1, some (.int (iI y2)), some (.int (iI y3)), some (.int (iI (m 188 (((m 163 ((y3).toNat))).toNat)))), some (.int (iI (m8 188 ((v8).toNat))))]) (st' := [.ref 158]) rfl ?_
        refine wp_getf (v := .ref 189) rfl rfl (S.cell 158 (nc rfl)) (by decide) rfl ?_
        refine wp_g (n := 2) (pc' := 149) (L' := [some (.ref 158), z1, some (.int (iI y2)), some (.int (iI y3)), some (.int (iI (m 188 (((m 163 ((y3).toNat))).toNat)))), some (.int (iI (m8 188 ((v8).toNat))))]) (st' := [.int (iI (m8 188 ((v8).toNat))), .int (iI 16), .ref 189]) rfl ?_
        refine wp_mul (a := 16) (b := (m8 188 ((v8).toNat))) rfl ?_
        refine wp_g (n := 1) (pc' := 152) (L' := [some (.ref 158), z1, some (.int (iI y2)), some (.int (iI y3)), some (.int (iI (m 188 (((m 163 ((y3).toNat))).toNat)))), some (.int (iI (m8 188 ((v8).toNat))))]) (st' := [.int (iI (m 188 (((m 163 ((y3).toNat))).toNat))), .int (iI (16 * (m8 188 ((v8).toNat)))), .ref 189]) rfl ?_
        refine wp_add (a := (16 * (m8 188 ((v8).toNat)))) (b := (m 188 (((m 163 ((y3).toNat))).toNat))) rfl ?_
        refine wp_g (n := 1) (pc' := 154) (L' := [some (.ref 158), z1, some (.int (iI y2)), some (.int (iI y3)), some (.int (iI (m 188 (((m 163 ((y3).toNat))).toNat)))), some (.int (iI (m8 188 ((v8).toNat))))]) (st' := [.int (iI ((16 * (m8 188 ((v8).toNat))) + (m 188 (((m 163 ((y3).toNat))).toNat)))), .ref 189, .int (iI ((16 * (m8 188 ((v8).toNat))) + (m 188 (((m 163 ((y3).toNat))).toNat)))), .ref 189]) rfl ?_
        obtain ⟨p31, hW⟩ := hW
        refine wp_lald (n := 256) (F := (up (up (up (m13 189) (((17 * (m 188 (((m 163 ((y3).toNat))).toNat)))).toNat) ((m13 189 (((17 * (m 188 (((m 163 ((y3).toNat))).toNat)))).toNat)) + 1)) (((17 * (m8 188 ((v8).toNat)))).toNat) (((up (m13 189) (((17 * (m 188 (((m 163 ((y3).toNat))).toNat)))).toNat) ((m13 189 (((17 * (m 188 (((m 163 ((y3).toNat))).toNat)))).toNat)) + 1)) (((17 * (m8 188 ((v8).toNat)))).toNat)) + 1)) ((((16 * (m 188 (((m 163 ((y3).toNat))).toNat))) + (m8 188 ((v8).toNat)))).toNat) (((up (up (m13 189) (((17 * (m 188 (((m 163 ((y3).toNat))).toNat)))).toNat) ((m13 189 (((17 * (m 188 (((m 163 ((y3).toNat))).toNat)))).toNat)) + 1)) (((17 * (m8 188 ((v8).toNat)))).toNat) (((up (m13 189) (((17 * (m 188 (((m 163 ((y3).toNat))).toNat)))).toNat) ((m13 189 (((17 * (m 188 (((m 163 ((y3).toNat))).toNat)))).toNat)) + 1)) (((17 * (m8 188 ((v8).toNat)))).toNat)) + 1)) ((((16 * (m 188 (((m 163 ((y3).toNat))).toNat))) + (m8 188 ((v8).toNat)))).toNat)) - 1))) rfl (S.cell 189 (nc rfl)) (by decide) p31.1 p31.2 (by decide) ?_
        show wp _ _ _ _ _ [.long (lI ((up (up (up (m13 189) (((17 * (m 188 (((m 163 ((y3).toNat))).toNat)))).toNat) ((m13 189 (((17 * (m 188 (((m 163 ((y3).toNat))).toNat)))).toNat)) + 1)) (((17 * (m8 188 ((v8).toNat)))).toNat) (((up (m13 189) (((17 * (m 188 (((m 163 ((y3).toNat))).toNat)))).toNat) ((m13 189 (((17 * (m 188 (((m 163 ((y3).toNat))).toNat)))).toNat)) + 1)) (((17 * (m8 188 ((v8).toNat)))).toNat)) + 1)) ((((16 * (m 188 (((m 163 ((y3).toNat))).toNat))) + (m8 188 ((v8).toNat)))).toNat) (((up (up (m13 189) (((17 * (m 188 (((m 163 ((y3).toNat))).toNat)))).toNat) ((m13 189 (((17 * (m 188 (((m 163 ((y3).toNat))).toNat)))).toNat)) + 1)) (((17 * (m8 188 ((v8).toNat)))).toNat) (((up (m13 189) (((17 * (m 188 (((m 163 ((y3).toNat))).toNat)))).toNat) ((m13 189 (((17 * (m 188 (((m 163 ((y3).toNat))).toNat)))).toNat)) + 1)) (((17 * (m8 188 ((v8).toNat)))).toNat)) + 1)) ((((16 * (m 188 (((m 163 ((y3).toNat))).toNat))) + (m8 188 ((v8).toNat)))).toNat)) - 1)) ((((16 * (m8 188 ((v8).toNat))) + (m 188 (((m 163 ((y3).toNat))).toNat)))).toNat))), .int (iI ((16 * (m8 188 ((v8).toNat))) + (m 188 (((m 163 ((y3).toNat))).toNat)))), .ref 189] _ _
        have hr32 : rK ((up (up (up (m13 189) (((17 * (m 188 (((m 163 ((y3).toNat))).toNat)))).toNat) ((m13 189 (((17 * (m 188 (((m 163 ((y3).toNat))).toNat)))).toNat)) + 1)) (((17 * (m8 188 ((v8).toNat)))).toNat) (((up (m13 189) (((17 * (m 188 (((m 163 ((y3).toNat))).toNat)))).toNat) ((m13 189 (((17 * (m 188 (((m 163 ((y3).toNat))).toNat)))).toNat)) + 1)) (((17 * (m8 188 ((v8).toNat)))).toNat)) + 1)) ((((16 * (m 188 (((m 163 ((y3).toNat))).toNat))) + (m8 188 ((v8).toNat)))).toNat) (((up (up (m13 189) (((17 * (m 188 (((m 163 ((y3).toNat))).toNat)))).toNat) ((m13 189 (((17 * (m 188 (((m 163 ((y3).toNat))).toNat)))).toNat)) + 1)) (((17 * (m8 188 ((v8).toNat)))).toNat) (((up (m13 189) (((17 * (m 188 (((m 163 ((y3).toNat))).toNat)))).toNat) ((m13 189 (((17 * (m 188 (((m 163 ((y3).toNat))).toNat)))).toNat)) + 1)) (((17 * (m8 188 ((v8).toNat)))).toNat)) + 1)) ((((16 * (m 188 (((m 163 ((y3).toNat))).toNat))) + (m8 188 ((v8).toNat)))).toNat)) - 1)) ((((16 * (m8 188 ((v8).toNat))) + (m 188 (((m 163 ((y3).toNat))).toNat)))).toNat)) := S.rl 189 ((((16 * (m8 188 ((v8).toNat))) + (m 188 (((m 163 ((y3).toNat))).toNat)))).toNat)
        refine wp_g (n := 1) (pc' := 156) (L' := [some (.ref 158), z1, some (.int (iI y2)), some (.int (iI y3)), some (.int (iI (m 188 (((m 163 ((y3).toNat))).toNat)))), some (.int (iI (m8 188 ((v8).toNat))))]) (st' := [.long (lI 1), .long (lI ((up (up (up (m13 189) (((17 * (m 188 (((m 163 ((y3).toNat))).toNat)))).toNat) ((m13 189 (((17 * (m 188 (((m 163 ((y3).toNat))).toNat)))).toNat)) + 1)) (((17 * (m8 188 ((v8).toNat)))).toNat) (((up (m13 189) (((17 * (m 188 (((m 163 ((y3).toNat))).toNat)))).toNat) ((m13 189 (((17 * (m 188 (((m 163 ((y3).toNat))).toNat)))).toNat)) + 1)) (((17 * (m8 188 ((v8).toNat)))).toNat)) + 1)) ((((16 * (m 188 (((m 163 ((y3).toNat))).toNat))) + (m8 188 ((v8).toNat)))).toNat) (((up (up (m13 189) (((17 * (m 188 (((m 163 ((y3).toNat))).toNat)))).toNat) ((m13 189 (((17 * (m 188 (((m 163 ((y3).toNat))).toNat)))).toNat)) + 1)) (((17 * (m8 188 ((v8).toNat)))).toNat) (((up (m13 189) (((17 * (m 188 (((m 163 ((y3).toNat))).toNat)))).toNat) ((m13 189 (((17 * (m 188 (((m 163 ((y3).toNat))).toNat)))).toNat)) + 1)) (((17 * (m8 188 ((v8).toNat)))).toNat)) + 1)) ((((16 * (m 188 (((m 163 ((y3).toNat))).toNat))) + (m8 188 ((v8).toNat)))).toNat)) - 1)) ((((16 * (m8 188 ((v8).toNat))) + (m 188 (((m 163 ((y3).toNat))).toNat)))).toNat))), .int (iI ((16 * (m8 188 ((v8).toNat))) + (m 188 (((m 163 ((y3).toNat))).toNat)))), .ref 189]) rfl ?_
        refine wp_lsub (a := ((up (up (up (m13 189) (((17 * (m 188 (((m 163 ((y3).toNat))).toNat)))).toNat) ((m13 189 (((17 * (m 188 (((m 163 ((y3).toNat))).toNat)))).toNat)) + 1)) (((17 * (m8 188 ((v8).toNat)))).toNat) (((up (m13 189) (((17 * (m 188 (((m 163 ((y3).toNat))).toNat)))).toNat) ((m13 189 (((17 * (m 188 (((m 163 ((y3).toNat))).toNat)))).toNat)) + 1)) (((17 * (m8 188 ((v8).toNat)))).toNat)) + 1)) ((((16 * (m 188 (((m 163 ((y3).toNat))).toNat))) + (m8 188 ((v8).toNat)))).toNat) (((up (up (m13 189) (((17 * (m 188 (((m 163 ((y3).toNat))).toNat)))).toNat) ((m13 189 (((17 * (m 188 (((m 163 ((y3).toNat))).toNat)))).toNat)) + 1)) (((17 * (m8 188 ((v8).toNat)))).toNat) (((up (m13 189) (((17 * (m 188 (((m 163 ((y3).toNat))).toNat)))).toNat) ((m13 189 (((17 * (m 188 (((m 163 ((y3).toNat))).toNat)))).toNat)) + 1)) (((17 * (m8 188 ((v8).toNat)))).toNat)) + 1)) ((((16 * (m 188 (((m 163 ((y3).toNat))).toNat))) + (m8 188 ((v8).toNat)))).toNat)) - 1)) ((((16 * (m8 188 ((v8).toNat))) + (m 188 (((m 163 ((y3).toNat))).toNat)))).toNat))) (b := 1) rfl ?_
        obtain ⟨p34, hW⟩ := hW
        obtain ⟨p35, hW⟩ := hW
        refine wp_lasF (n := 256) (F := (up (up (up (m13 189) (((17 * (m 188 (((m 163 ((y3).toNat))).toNat)))).toNat) ((m13 189 (((17 * (m 188 (((m 163 ((y3).toNat))).toNat)))).toNat)) + 1)) (((17 * (m8 188 ((v8).toNat)))).toNat) (((up (m13 189) (((17 * (m 188 (((m 163 ((y3).toNat))).toNat)))).toNat) ((m13 189 (((17 * (m 188 (((m 163 ((y3).toNat))).toNat)))).toNat)) + 1)) (((17 * (m8 188 ((v8).toNat)))).toNat)) + 1)) ((((16 * (m 188 (((m 163 ((y3).toNat))).toNat))) + (m8 188 ((v8).toNat)))).toNat) (((up (up (m13 189) (((17 * (m 188 (((m 163 ((y3).toNat))).toNat)))).toNat) ((m13 189 (((17 * (m 188 (((m 163 ((y3).toNat))).toNat)))).toNat)) + 1)) (((17 * (m8 188 ((v8).toNat)))).toNat) (((up (m13 189) (((17 * (m 188 (((m 163 ((y3).toNat))).toNat)))).toNat) ((m13 189 (((17 * (m 188 (((m 163 ((y3).toNat))).toNat)))).toNat)) + 1)) (((17 * (m8 188 ((v8).toNat)))).toNat)) + 1)) ((((16 * (m 188 (((m 163 ((y3).toNat))).toNat))) + (m8 188 ((v8).toNat)))).toNat)) - 1))) (y := (((up (up (up (m13 189) (((17 * (m 188 (((m 163 ((y3).toNat))).toNat)))).toNat) ((m13 189 (((17 * (m 188 (((m 163 ((y3).toNat))).toNat)))).toNat)) + 1)) (((17 * (m8 188 ((v8).toNat)))).toNat) (((up (m13 189) (((17 * (m 188 (((m 163 ((y3).toNat))).toNat)))).toNat) ((m13 189 (((17 * (m 188 (((m 163 ((y3).toNat))).toNat)))).toNat)) + 1)) (((17 * (m8 188 ((v8).toNat)))).toNat)) + 1)) ((((16 * (m 188 (((m 163 ((y3).toNat))).toNat))) + (m8 188 ((v8).toNat)))).toNat) (((up (up (m13 189) (((17 * (m 188 (((m 163 ((y3).toNat))).toNat)))).toNat) ((m13 189 (((17 * (m 188 (((m 163 ((y3).toNat))).toNat)))).toNat)) + 1)) (((17 * (m8 188 ((v8).toNat)))).toNat) (((up (m13 189) (((17 * (m 188 (((m 163 ((y3).toNat))).toNat)))).toNat) ((m13 189 (((17 * (m 188 (((m 163 ((y3).toNat))).toNat)))).toNat)) + 1)) (((17 * (m8 188 ((v8).toNat)))).toNat)) + 1)) ((((16 * (m 188 (((m 163 ((y3).toNat))).toNat))) + (m8 188 ((v8).toNat)))).toNat)) - 1)) ((((16 * (m8 188 ((v8).toNat))) + (m 188 (((m 163 ((y3).toNat))).toNat)))).toNat)) - 1)) rfl (S.cell 189 (nc rfl)) p34.1 p34.2 (by decide) (fun H33 hl33 hz33 hf33 => ?_)
        have S : ST H33 (up (up (up (up m13 189 (up (m13 189) (((17 * (m 188 (((m 163 ((y3).toNat))).toNat)))).toNat) ((m13 189 (((17 * (m 188 (((m 163 ((y3).toNat))).toNat)))).toNat)) + 1))) 189 (up (up (m13 189) (((17 * (m 188 (((m 163 ((y3).toNat))).toNat)))).toNat) ((m13 189 (((17 * (m 188 (((m 163 ((y3).toNat))).toNat)))).toNat)) + 1)) (((17 * (m8 188 ((v8).toNat)))).toNat) (((up (m13 189) (((17 * (m 188 (((m 163 ((y3).toNat))).toNat)))).toNat) ((m13 189 (((17 * (m 188 (((m 163 ((y3).toNat))).toNat)))).toNat)) + 1)) (((17 * (m8 188 ((v8).toNat)))).toNat)) + 1))) 189 (up (up (up (m13 189) (((17 * (m 188 (((m 163 ((y3).toNat))).toNat)))).toNat) ((m13 189 (((17 * (m 188 (((m 163 ((y3).toNat))).toNat)))).toNat)) + 1)) (((17 * (m8 188 ((v8).toNat)))).toNat) (((up (m13 189) (((17 * (m 188 (((m 163 ((y3).toNat))).toNat)))).toNat) ((m13 189 (((17 * (m 188 (((m 163 ((y3).toNat))).toNat)))).toNat)) + 1)) (((17 * (m8 188 ((v8).toNat)))).toNat)) + 1)) ((((16 * (m 188 (((m 163 ((y3).toNat))).toNat))) + (m8 188 ((v8).toNat)))).toNat) (((up (up (m13 189) (((17 * (m 188 (((m 163 ((y3).toNat))).toNat)))).toNat) ((m13 189 (((17 * (m 188 (((m 163 ((y3).toNat))).toNat)))).toNat)) + 1)) (((17 * (m8 188 ((v8).toNat)))).toNat) (((up (m13 189) (((17 * (m 188 (((m 163 ((y3).toNat))).toNat)))).toNat) ((m13 189 (((17 * (m 188 (((m 163 ((y3).toNat))).toNat)))).toNat)) + 1)) (((17 * (m8 188 ((v8).toNat)))).toNat)) + 1)) ((((16 * (m 188 (((m 163 ((y3).toNat))).toNat))) + (m8 188 ((v8).toNat)))).toNat)) - 1))) 189 (up (up (up (up (m13 189) (((17 * (m 188 (((m 163 ((y3).toNat))).toNat)))).toNat) ((m13 189 (((17 * (m 188 (((m 163 ((y3).toNat))).toNat)))).toNat)) + 1)) (((17 * (m8 188 ((v8).toNat)))).toNat) (((up (m13 189) (((17 * (m 188 (((m 163 ((y3).toNat))).toNat)))).toNat) ((m13 189 (((17 * (m 188 (((m 163 ((y3).toNat))).toNat)))).toNat)) + 1)) (((17 * (m8 188 ((v8).toNat)))).toNat)) + 1)) ((((16 * (m 188 (((m 163 ((y3).toNat))).toNat))) + (m8 188 ((v8).toNat)))).toNat) (((up (up (m13 189) (((17 * (m 188 (((m 163 ((y3).toNat))).toNat)))).toNat) ((m13 189 (((17 * (m 188 (((m 163 ((y3).toNat))).toNat)))).toNat)) + 1)) (((17 * (m8 188 ((v8).toNat)))).toNat) (((up (m13 189) (((17 * (m 188 (((m 163 ((y3).toNat))).toNat)))).toNat) ((m13 189 (((17 * (m 188 (((m 163 ((y3).toNat))).toNat)))).toNat)) + 1)) (((17 * (m8 188 ((v8).toNat)))).toNat)) + 1)) ((((16 * (m 188 (((m 163 ((y3).toNat))).toNat))) + (m8 188 ((v8).toNat)))).toNat)) - 1)) ((((16 * (m8 188 ((v8).toNat))) + (m 188 (((m 163 ((y3).toNat))).toNat)))).toNat) (((up (up (up (m13 189) (((17 * (m 188 (((m 163 ((y3).toNat))).toNat)))).toNat) ((m13 189 (((17 * (m 188 (((m 163 ((y3).toNat))).toNat)))).toNat)) + 1)) (((17 * (m8 188 ((v8).toNat)))).toNat) (((up (m13 189) (((17 * (m 188 (((m 163 ((y3).toNat))).toNat)))).toNat) ((m13 189 (((17 * (m 188 (((m 163 ((y3).toNat))).toNat)))).toNat)) + 1)) (((17 * (m8 188 ((v8).toNat)))).toNat)) + 1)) ((((16 * (m 188 (((m 163 ((y3).toNat))).toNat))) + (m8 188 ((v8).toNat)))).toNat) (((up (up (m13 189) (((17 * (m 188 (((m 163 ((y3).toNat))).toNat)))).toNat) ((m13 189 (((17 * (m 188 (((m 163 ((y3).toNat))).toNat)))).toNat)) + 1)) (((17 * (m8 188 ((v8).toNat)))).toNat) (((up (m13 189) (((17 * (m 188 (((m 163 ((y3).toNat))).toNat)))).toNat) ((m13 189 (((17 * (m 188 (((m 163 ((y3).toNat))).toNat)))).toNat)) + 1)) (((17 * (m8 188 ((v8).toNat)))).toNat)) + 1)) ((((16 * (m 188 (((m 163 ((y3).toNat))).toNat))) + (m8 188 ((v8).toNat)))).toNat)) - 1)) ((((16 * (m8 188 ((v8).toNat))) + (m 188 (((m 163 ((y3).toNat))).toNat)))).toNat)) - 1))) γ13 t13 := S.setL 189 (nc rfl) (lc rfl) hl33 hz33 hf33 p35.1 p35.2
        refine wp_iinc (L' := [some (.ref 158), z1, some (.int (iI y2)), some (.int (iI (y3 + 1))), some (.int (iI (m 188 (((m 163 ((y3).toNat))).toNat)))), some (.int (iI (m8 188 ((v8).toNat))))]) (a := y3) rfl rfl rfl ?_
        refine wp_g (n := 1) (pc' := 41) (L' := [some (.ref 158), z1, some (.int (iI y2)), some (.int (iI (y3 + 1))), some (.int (iI (m 188 (((m 163 ((y3).toNat))).toNat)))), some (.int (iI (m8 188 ((v8).toNat))))]) (st' := []) rfl ?_
        exact hW z1 (some (.int (iI (m 188 (((m 163 ((y3).toNat))).toNat))))) (some (.int (iI (m8 188 ((v8).toNat))))) _ S
      · have dc15 := (Classical.not_not.mp c15)
        have hW := hW.1 dc15
        refine wp_g (n := 1) (pc' := 158) (L' := [some (.ref 158), z1, some (.int (iI y2)), some (.int (iI y3)), some (.int (iI (m 188 (((m 163 ((y3).toNat))).toNat)))), some (.int (iI (m8 188 ((v8).toNat))))]) (st' := []) rfl ?_
        refine wp_iinc (L' := [some (.ref 158), z1, some (.int (iI y2)), some (.int (iI (y3 + 1))), some (.int (iI (m 188 (((m 163 ((y3).toNat))).toNat)))), some (.int (iI (m8 188 ((v8).toNat))))]) (a := y3) rfl rfl rfl ?_
        refine wp_g (n := 1) (pc' := 41) (L' := [some (.ref 158), z1, some (.int (iI y2)), some (.int (iI (y3 + 1))), some (.int (iI (m 188 (((m 163 ((y3).toNat))).toNat)))), some (.int (iI (m8 188 ((v8).toNat))))]) (st' := []) rfl ?_
        exact hW z1 (some (.int (iI (m 188 (((m 163 ((y3).toNat))).toNat))))) (some (.int (iI (m8 188 ((v8).toNat))))) _ S
def hd_X9_laysArcs_4 (E : am_E) (k : Nat) (y1 : Int) (y2 : Int) (m : MM) (γ : GM) (t : am_H) (Q : Int → MM → GM → am_H → Prop) : Prop := ∀ (z3 z4 z5 z6 : Option Value), TT (pI Q) E (k + 1) 278 4 [some (.ref 158), some (.int (iI y1)), some (.int (iI y2)), z3, z4, z5, z6] [] m γ t
def hd_X9_laysArcs_26 (E : am_E) (k : Nat) (y1 : Int) (y2 : Int) (y3 : Int) (y4 : Int) (y5 : Int) (m : MM) (γ : GM) (t : am_H) (Q : Int → MM → GM → am_H → Prop) : Prop := ∀ (z6 : Option Value), TT (pI Q) E (k + 1) 278 26 [some (.ref 158), some (.int (iI y1)), some (.int (iI y2)), some (.int (iI y3)), some (.int (iI y4)), some (.int (iI y5)), z6] [] m γ t
def hd_X9_laysArcs_111 (E : am_E) (k : Nat) (y1 : Int) (y2 : Int) (y3 : Int) (y4 : Int) (y5 : Int) (m : MM) (γ : GM) (t : am_H) (Q : Int → MM → GM → am_H → Prop) : Prop := ∀ (z6 : Option Value), TT (pI Q) E (k + 1) 278 111 [some (.ref 158), some (.int (iI y1)), some (.int (iI y2)), some (.int (iI y3)), some (.int (iI y4)), some (.int (iI y5)), z6] [] m γ t
def hd_X9_laysArcs_72 (E : am_E) (k : Nat) (y1 : Int) (y2 : Int) (y3 : Int) (y5 : Int) (m : MM) (γ : GM) (t : am_H) (Q : Int → MM → GM → am_H → Prop) : Prop := ∀ (z4 z6 : Option Value), TT (pI Q) E (k + 1) 278 72 [some (.ref 158), some (.int (iI y1)), some (.int (iI y2)), some (.int (iI y3)), z4, some (.int (iI y5)), z6] [] m γ t
abbrev W_X9_laysArcs (E : am_E) (k : Nat) (m : MM) (γ : GM) (t : am_H) (Q : Int → MM → GM → am_H → Prop) : Prop := (hd_X9_laysArcs_4 E k 0 0 m γ t Q)
abbrev W_X9_laysArcs_4 (E : am_E) (k : Nat) (y1 : Int) (y2 : Int) (m : MM) (γ : GM) (t : am_H) (Q : Int → MM → GM → am_H → Prop) : Prop := (((y2 < (m 158 16)) → (TI E k 251 [.ref 158, .int (iI y2)] m γ t (fun v3 m3 γ3 t3 => (hd_X9_laysArcs_26 E k y1 y2 v3 (-1) (v3 - 1) m3 γ3 t3 Q)))) ∧ (¬ (y2 < (m 158 16)) → (Q y1 m γ t)))
abbrev W_X9_laysArcs_26 (E : am_E) (k : Nat) (y1 : Int) (y2 : Int) (y3 : Int) (y4 : Int) (y5 : Int) (m : MM) (γ : GM) (t : am_H) (Q : Int → MM → GM → am_H → Prop) : Prop := (((y5 < 0) → (((y4 = (-1)) → (hd_X9_laysArcs_72 E k y1 y2 y3 0 m γ t Q)) ∧ (¬ (y4 = (-1)) → (hd_X9_laysArcs_111 E k (y1 + (-1)) y2 y3 y4 0 m γ t Q)))) ∧ (¬ (y5 < 0) → ((0 ≤ y2 ∧ y2 < 65) ∧ ((0 ≤ ((m 181 ((y2).toNat)) + y5) ∧ ((m 181 ((y2).toNat)) + y5) < 48) ∧ ((((m 180 ((((m 181 ((y2).toNat)) + y5)).toNat)) = 0) → (hd_X9_laysArcs_26 E k y1 y2 y3 y5 (y5 + (-1)) m γ t Q)) ∧ (¬ ((m 180 ((((m 181 ((y2).toNat)) + y5)).toNat)) = 0) → (hd_X9_laysArcs_26 E k y1 y2 y3 y4 (y5 + (-1)) m γ t Q)))))))
abbrev W_X9_laysArcs_111 (E : am_E) (k : Nat) (y1 : Int) (y2 : Int) (y3 : Int) (y4 : Int) (y5 : Int) (m : MM) (γ : GM) (t : am_H) (Q : Int → MM → GM → am_H → Prop) : Prop := (((y5 < y3) → ((0 ≤ y2 ∧ y2 < 65) ∧ (rJ (y4 + y5) ∧ (0 ≤ (y4 + y5) ∧ (0 < y3 ∧ ((0 ≤ ((m 181 ((y2).toNat)) + ((y4 + y5) % y3)) ∧ ((m 181 ((y2).toNat)) + ((y4 + y5) % y3)) < 48) ∧ ((((m 180 ((((m 181 ((y2).toNat)) + ((y4 + y5) % y3))).toNat)) = 0) → ((0 ≤ ((m 181 ((y2).toNat)) + ((y4 + y5) % y3)) ∧ ((m 181 ((y2).toNat)) + ((y4 + y5) % y3)) < 48) ∧ (rJ (y1 + 1) ∧ (hd_X9_laysArcs_111 E k (y1 + 1) y2 y3 y4 (y5 + 1) (up m 190 (up (m 190) ((((m 181 ((y2).toNat)) + ((y4 + y5) % y3))).toNat) (y1 + 1))) γ t Q)))) ∧ (¬ ((m 180 ((((m 181 ((y2).toNat)) + ((y4 + y5) % y3))).toNat)) = 0) → ((0 ≤ ((m 181 ((y2).toNat)) + ((y4 + y5) % y3)) ∧ ((m 181 ((y2).toNat)) + ((y4 + y5) % y3)) < 48) ∧ (rJ (y1 + 0) ∧ (hd_X9_laysArcs_111 E k (y1 + 0) y2 y3 y4 (y5 + 1) (up m 190 (up (m 190) ((((m 181 ((y2).toNat)) + ((y4 + y5) % y3))).toNat) (y1 + 0))) γ t Q))))))))))) ∧ (¬ (y5 < y3) → (hd_X9_laysArcs_4 E k (y1 + 1) (y2 + 1) m γ t Q)))
abbrev W_X9_laysArcs_72 (E : am_E) (k : Nat) (y1 : Int) (y2 : Int) (y3 : Int) (y5 : Int) (m : MM) (γ : GM) (t : am_H) (Q : Int → MM → GM → am_H → Prop) : Prop := (((y5 < y3) → ((0 ≤ y2 ∧ y2 < 65) ∧ ((0 ≤ ((m 181 ((y2).toNat)) + y5) ∧ ((m 181 ((y2).toNat)) + y5) < 48) ∧ (hd_X9_laysArcs_72 E k y1 y2 y3 (y5 + 1) (up m 190 (up (m 190) ((((m 181 ((y2).toNat)) + y5)).toNat) y1)) γ t Q)))) ∧ (¬ (y5 < y3) → (hd_X9_laysArcs_4 E k (y1 + 1) (y2 + 1) m γ t Q)))
theorem vc_X9_laysArcs {E : am_E} {k : Nat} {m : MM} {γ : GM} {t : am_H} {Q : Int → MM → GM → am_H → Prop} (hW : W_X9_laysArcs E k  m γ t Q) : TI E (k + 1) 278 [.ref 158] m γ t Q := by
  unfold W_X9_laysArcs at hW
  intro h S
  refine wp_g (n := 4) (pc' := 4) (L' := [some (.ref 158), some (.int (iI 0)), some (.int (iI 0)), none, none, none, none]) (st' := []) rfl ?_
  exact hW none none none none _ S
theorem vc_X9_laysArcs_4 {E : am_E} {k : Nat} {y1 : Int} {y2 : Int} {m : MM} {γ : GM} {t : am_H} {Q : Int → MM → GM → am_H → Prop} (hy1 : rJ y1) (hy2 : rJ y2) (hW : W_X9_laysArcs_4 E k y1 y2 m γ t Q) : hd_X9_laysArcs_4 E k y1 y2 m γ t Q := by
  unfold W_X9_laysArcs_4 at hW
  intro z3 z4 z5 z6 h S
  refine wp_g (n := 2) (pc' := 6) (L' := [some (.ref 158), some (.int (iI y1)), some (.int (iI y2)), z3, z4, z5, z6]) (st' := [.ref 158, .int (iI y2)]) rfl ?_
  refine wp_getf (v := .int (iI (m 158 16))) rfl rfl (S.cell 158 (nc rfl)) (by decide) rfl ?_
  have hr1 : rJ (m 158 16) := S.rg 158 16 (nl rfl)
  refine wp_icmpI (a := y2) (b := (m 158 16)) rfl rfl hy2.1 hy2.2 hr1.1 hr1.2 (fun c2 => ?_) (fun c2 => ?_)
  · have dc2 := (Int.not_lt.mpr c2)
    have hW := hW.2 dc2
    refine wp_g (n := 1) (pc' := 175) (L' := [some (.ref 158), some (.int (iI y1)), some (.int (iI y2)), z3, z4, z5, z6]) (st' := [.int (iI y1)]) rfl ?_
    exact wp_iret rfl rfl ⟨_, _, _, _, rfl, hy1, S, hW⟩
  · have dc2 := (Int.not_le.mp c2)
    have hW := hW.1 dc2
    refine wp_g (n := 2) (pc' := 14) (L' := [some (.ref 158), some (.int (iI y1)), some (.int (iI y2)), z3, z4, z5, z6]) (st' := [.int (iI y2), .ref 158]) rfl ?_
    refine wp_cv (As := [.int (iI y2)]) (rest := []) rfl rfl (S.cell 158 (nc rfl)) (by decide) rfl rfl rfl (Nat.le_of_ble_eq_true rfl) (Nat.le_of_ble_eq_true rfl) (hW _ S) (fun r3 H3 q3 => ?_)
    obtain ⟨v3, m3, γ3, t3, rfl, hv3, S, hW⟩ := q3
    show wp _ _ _ _ _ [.int (iI v3)] _ _
    refine wp_g (n := 5) (pc' := 23) (L' := [some (.ref 158), some (.int (iI y1)), some (.int (iI y2)), some (.int (iI v3)), some (.int (iI (-1))), z5, z6]) (st' := [.int (iI 1), .int (iI v3)]) rfl ?_
    refine wp_sub (a := v3) (b := 1) rfl ?_
    refine wp_g (n := 1) (pc' := 26) (L' := [some (.ref 158), some (.int (iI y1)), some (.int (iI y2)), some (.int (iI v3)), some (.int (iI (-1))), some (.int (iI (v3 - 1))), z6]) (st' := []) rfl ?_
    exact hW z6 _ S
theorem vc_X9_laysArcs_26 {E : am_E} {k : Nat} {y1 : Int} {y2 : Int} {y3 : Int} {y4 : Int} {y5 : Int} {m : MM} {γ : GM} {t : am_H} {Q : Int → MM → GM → am_H → Prop} (hy1 : rJ y1) (hy2 : rJ y2) (hy3 : rJ y3) (hy4 : rJ y4) (hy5 : rJ y5) (hW : W_X9_laysArcs_26 E k y1 y2 y3 y4 y5 m γ t Q) : hd_X9_laysArcs_26 E k y1 y2 y3 y4 y5 m γ t Q := by
  unfold W_X9_laysArcs_26 at hW
  intro z6 h S
  refine wp_g (n := 1) (pc' := 28) (L' := [some (.ref 158), some (.int (iI y1)), some (.int (iI y2)), some (.int (iI y3)), some (.int (iI y4)), some (.int (iI y5)), z6]) (st' := [.int (iI y5)]) rfl ?_
  refine wp_ifI (a := y5) rfl rfl hy5.1 hy5.2 (fun c1 => ?_) (fun c1 => ?_)
  · have dc1 := c1
    have hW := hW.1 dc1
    refine wp_g (n := 2) (pc' := 66) (L' := [some (.ref 158), some (.int (iI y1)), some (.int (iI y2)), some (.int (iI y3)), some (.int (iI y4)), some (.int (iI y5)), z6]) (st' := [.int (iI (-1)), .int (iI y4)]) rfl ?_
    refine wp_icmpI (a := y4) (b := (-1)) rfl rfl hy4.1 hy4.2 (by decide) (by decide) (fun c2 => ?_) (fun c2 => ?_)
    · have dc2 := c2
      have hW := hW.2 dc2
      refine wp_iinc (L' := [some (.ref 158), some (.int (iI (y1 + (-1)))), some (.int (iI y2)), some (.int (iI y3)), some (.int (iI y4)), some (.int (iI y5)), z6]) (a := y1) rfl rfl rfl ?_
      refine wp_g (n := 2) (pc' := 111) (L' := [some (.ref 158), some (.int (iI (y1 + (-1)))), some (.int (iI y2)), some (.int (iI y3)), some (.int (iI y4)), some (.int (iI 0)), z6]) (st' := []) rfl ?_
      exact hW z6 _ S
    · have dc2 := (Classical.not_not.mp c2)
      have hW := hW.1 dc2
      refine wp_g (n := 2) (pc' := 72) (L' := [some (.ref 158), some (.int (iI y1)), some (.int (iI y2)), some (.int (iI y3)), some (.int (iI y4)), some (.int (iI 0)), z6]) (st' := []) rfl ?_
      exact hW (some (.int (iI y4))) z6 _ S
  · have dc1 := c1
    have hW := hW.2 dc1
    refine wp_g (n := 1) (pc' := 32) (L' := [some (.ref 158), some (.int (iI y1)), some (.int (iI y2)), some (.int (iI y3)), some (.int (iI y4)), some (.int (iI y5)), z6]) (st' := [.ref 158]) rfl ?_
    refine wp_getf (v := .ref 180) rfl rfl (S.cell 158 (nc rfl)) (by decide) rfl ?_
    refine wp_g (n := 1) (pc' := 36) (L' := [some (.ref 158), some (.int (iI y1)), some (.int (iI y2)), some (.int (iI y3)), some (.int (iI y4)), some (.int (iI y5)), z6]) (st' := [.ref 158, .ref 180]) rfl ?_
    refine wp_getf (v := .ref 181) rfl rfl (S.cell 158 (nc rfl)) (by decide) rfl ?_
    refine wp_g (n := 1) (pc' := 40) (L' := [some (.ref 158), some (.int (iI y1)), some (.int (iI y2)), some (.int (iI y3)), some (.int (iI y4)), some (.int (iI y5)), z6]) (st' := [.int (iI y2), .ref 181, .ref 180]) rfl ?_
    obtain ⟨p3, hW⟩ := hW
    refine wp_iald (n := 65) (F := (m 181)) rfl (S.cell 181 (nc rfl)) (by decide) p3.1 p3.2 (by decide) ?_
    show wp _ _ _ _ _ [.int (iI (m 181 ((y2).toNat))), .ref 180] _ _
    have hr4 : rJ (m 181 ((y2).toNat)) := S.rg 181 ((y2).toNat) (nl rfl)
    refine wp_g (n := 1) (pc' := 43) (L' := [some (.ref 158), some (.int (iI y1)), some (.int (iI y2)), some (.int (iI y3)), some (.int (iI y4)), some (.int (iI y5)), z6]) (st' := [.int (iI y5), .int (iI (m 181 ((y2).toNat))), .ref 180]) rfl ?_
    refine wp_add (a := (m 181 ((y2).toNat))) (b := y5) rfl ?_
    obtain ⟨p5, hW⟩ := hW
    refine wp_tald (n := 48) (F := (m 180)) rfl (S.cell 180 (nc rfl)) (by decide) p5.1 p5.2 (by decide) ?_
    show wp _ _ _ _ _ [.int (iI (m 180 ((((m 181 ((y2).toNat)) + y5)).toNat)))] _ _
    have hr6 : rJ (m 180 ((((m 181 ((y2).toNat)) + y5)).toNat)) := S.rg 180 ((((m 181 ((y2).toNat)) + y5)).toNat) (nl rfl)
    refine wp_ifI (a := (m 180 ((((m 181 ((y2).toNat)) + y5)).toNat))) rfl rfl hr6.1 hr6.2 (fun c7 => ?_) (fun c7 => ?_)
    · have dc7 := c7
      have hW := hW.1 dc7
      refine wp_g (n := 2) (pc' := 57) (L' := [some (.ref 158), some (.int (iI y1)), some (.int (iI y2)), some (.int (iI y3)), some (.int (iI y5)), some (.int (iI y5)), z6]) (st' := []) rfl ?_
      refine wp_iinc (L' := [some (.ref 158), some (.int (iI y1)), some (.int (iI y2)), some (.int (iI y3)), some (.int (iI y5)), some (.int (iI (y5 + (-1)))), z6]) (a := y5) rfl rfl rfl ?_
      refine wp_g (n := 1) (pc' := 26) (L' := [some (.ref 158), some (.int (iI y1)), some (.int (iI y2)), some (.int (iI y3)), some (.int (iI y5)), some (.int (iI (y5 + (-1)))), z6]) (st' := []) rfl ?_
      exact hW z6 _ S
    · have dc7 := c7
      have hW := hW.2 dc7
      refine wp_g (n := 3) (pc' := 57) (L' := [some (.ref 158), some (.int (iI y1)), some (.int (iI y2)), some (.int (iI y3)), some (.int (iI y4)), some (.int (iI y5)), z6]) (st' := []) rfl ?_
      refine wp_iinc (L' := [some (.ref 158), some (.int (iI y1)), some (.int (iI y2)), some (.int (iI y3)), some (.int (iI y4)), some (.int (iI (y5 + (-1)))), z6]) (a := y5) rfl rfl rfl ?_
      refine wp_g (n := 1) (pc' := 26) (L' := [some (.ref 158), some (.int (iI y1)), some (.int (iI y2)), some (.int (iI y3)), some (.int (iI y4)), some (.int (iI (y5 + (-1)))), z6]) (st' := []) rfl ?_
      exact hW z6 _ S
theorem vc_X9_laysArcs_111 {E : am_E} {k : Nat} {y1 : Int} {y2 : Int} {y3 : Int} {y4 : Int} {y5 : Int} {m : MM} {γ : GM} {t : am_H} {Q : Int → MM → GM → am_H → Prop} (hy1 : rJ y1) (hy2 : rJ y2) (hy3 : rJ y3) (hy4 : rJ y4) (hy5 : rJ y5) (hW : W_X9_laysArcs_111 E k y1 y2 y3 y4 y5 m γ t Q) : hd_X9_laysArcs_111 E k y1 y2 y3 y4 y5 m γ t Q := by
  unfold W_X9_laysArcs_111 at hW
  intro z6 h S
  refine wp_g (n := 2) (pc' := 114) (L' := [some (.ref 158), some (.int (iI y1)), some (.int (iI y2)), some (.int (iI y3)), some (.int (iI y4)), some (.int (iI y5)), z6]) (st' := [.int (iI y3), .int (iI y5)]) rfl ?_
  refine wp_icmpI (a := y5) (b := y3) rfl rfl hy5.1 hy5.2 hy3.1 hy3.2 (fun c1 => ?_) (fun c1 => ?_)
  · have dc1 := (Int.not_lt.mpr c1)
    have hW := hW.2 dc1
    refine wp_iinc (L' := [some (.ref 158), some (.int (iI (y1 + 1))), some (.int (iI y2)), some (.int (iI y3)), some (.int (iI y4)), some (.int (iI y5)), z6]) (a := y1) rfl rfl rfl ?_
    refine wp_iinc (L' := [some (.ref 158), some (.int (iI (y1 + 1))), some (.int (iI (y2 + 1))), some (.int (iI y3)), some (.int (iI y4)), some (.int (iI y5)), z6]) (a := y2) rfl rfl rfl ?_
    refine wp_g (n := 1) (pc' := 4) (L' := [some (.ref 158), some (.int (iI (y1 + 1))), some (.int (iI (y2 + 1))), some (.int (iI y3)), some (.int (iI y4)), some (.int (iI y5)), z6]) (st' := []) rfl ?_
    exact hW (some (.int (iI y3))) (some (.int (iI y4))) (some (.int (iI y5))) z6 _ S
  · have dc1 := (Int.not_le.mp c1)
    have hW := hW.1 dc1
    refine wp_g (n := 1) (pc' := 118) (L' := [some (.ref 158), some (.int (iI y1)), some (.int (iI y2)), some (.int (iI y3)), some (.int (iI y4)), some (.int (iI y5)), z6]) (st' := [.ref 158]) rfl ?_
    refine wp_getf (v := .ref 181) rfl rfl (S.cell 158 (nc rfl)) (by decide) rfl ?_
    refine wp_g (n := 1) (pc' := 122) (L' := [some (.ref 158), some (.int (iI y1)), some (.int (iI y2)), some (.int (iI y3)), some (.int (iI y4)), some (.int (iI y5)), z6]) (st' := [.int (iI y2), .ref 181]) rfl ?_
    obtain ⟨p2, hW⟩ := hW
    refine wp_iald (n := 65) (F := (m 181)) rfl (S.cell 181 (nc rfl)) (by decide) p2.1 p2.2 (by decide) ?_
    show wp _ _ _ _ _ [.int (iI (m 181 ((y2).toNat)))] _ _
    have hr3 : rJ (m 181 ((y2).toNat)) := S.rg 181 ((y2).toNat) (nl rfl)
    refine wp_g (n := 2) (pc' := 127) (L' := [some (.ref 158), some (.int (iI y1)), some (.int (iI y2)), some (.int (iI y3)), some (.int (iI y4)), some (.int (iI y5)), z6]) (st' := [.int (iI y5), .int (iI y4), .int (iI (m 181 ((y2).toNat)))]) rfl ?_
    refine wp_add (a := y4) (b := y5) rfl ?_
    refine wp_g (n := 1) (pc' := 129) (L' := [some (.ref 158), some (.int (iI y1)), some (.int (iI y2)), some (.int (iI y3)), some (.int (iI y4)), some (.int (iI y5)), z6]) (st' := [.int (iI y3), .int (iI (y4 + y5)), .int (iI (m 181 ((y2).toNat)))]) rfl ?_
    obtain ⟨p4, hW⟩ := hW
    obtain ⟨p5, hW⟩ := hW
    obtain ⟨p6, hW⟩ := hW
    refine wp_rem (a := (y4 + y5)) (b := y3) rfl p5 p4.2 p6 hy3.2 ?_
    refine wp_add (a := (m 181 ((y2).toNat))) (b := ((y4 + y5) % y3)) rfl ?_
    refine wp_g (n := 3) (pc' := 135) (L' := [some (.ref 158), some (.int (iI y1)), some (.int (iI y2)), some (.int (iI y3)), some (.int (iI y4)), some (.int (iI y5)), some (.int (iI ((m 181 ((y2).toNat)) + ((y4 + y5) % y3))))]) (st' := [.ref 158, .int (iI y1)]) rfl ?_
    refine wp_getf (v := .ref 180) rfl rfl (S.cell 158 (nc rfl)) (by decide) rfl ?_
    refine wp_g (n := 1) (pc' := 140) (L' := [some (.ref 158), some (.int (iI y1)), some (.int (iI y2)), some (.int (iI y3)), some (.int (iI y4)), some (.int (iI y5)), some (.int (iI ((m 181 ((y2).toNat)) + ((y4 + y5) % y3))))]) (st' := [.int (iI ((m 181 ((y2).toNat)) + ((y4 + y5) % y3))), .ref 180, .int (iI y1)]) rfl ?_
    obtain ⟨p7, hW⟩ := hW
    refine wp_tald (n := 48) (F := (m 180)) rfl (S.cell 180 (nc rfl)) (by decide) p7.1 p7.2 (by decide) ?_
    show wp _ _ _ _ _ [.int (iI (m 180 ((((m 181 ((y2).toNat)) + ((y4 + y5) % y3))).toNat))), .int (iI y1)] _ _
    have hr8 : rJ (m 180 ((((m 181 ((y2).toNat)) + ((y4 + y5) % y3))).toNat)) := S.rg 180 ((((m 181 ((y2).toNat)) + ((y4 + y5) % y3))).toNat) (nl rfl)
    refine wp_ifI (a := (m 180 ((((m 181 ((y2).toNat)) + ((y4 + y5) % y3))).toNat))) rfl rfl hr8.1 hr8.2 (fun c9 => ?_) (fun c9 => ?_)
    · have dc9 := c9
      have hW := hW.1 dc9
      refine wp_g (n := 1) (pc' := 149) (L' := [some (.ref 158), some (.int (iI y1)), some (.int (iI y2)), some (.int (iI y3)), some (.int (iI y4)), some (.int (iI y5)), some (.int (iI ((m 181 ((y2).toNat)) + ((y4 + y5) % y3))))]) (st' := [.int (iI 1), .int (iI y1)]) rfl ?_
      refine wp_add (a := y1) (b := 1) rfl ?_
      refine wp_g (n := 2) (pc' := 152) (L' := [some (.ref 158), some (.int (iI (y1 + 1))), some (.int (iI y2)), some (.int (iI y3)), some (.int (iI y4)), some (.int (iI y5)), some (.int (iI ((m 181 ((y2).toNat)) + ((y4 + y5) % y3))))]) (st' := [.ref 158]) rfl ?_
      refine wp_getf (v := .ref 190) rfl rfl (S.cell 158 (nc rfl)) (by decide) rfl ?_
      refine wp_g (n := 2) (pc' := 158) (L' := [some (.ref 158), some (.int (iI (y1 + 1))), some (.int (iI y2)), some (.int (iI y3)), some (.int (iI y4)), some (.int (iI y5)), some (.int (iI ((m 181 ((y2).toNat)) + ((y4 + y5) % y3))))]) (st' := [.int (iI (y1 + 1)), .int (iI ((m 181 ((y2).toNat)) + ((y4 + y5) % y3))), .ref 190]) rfl ?_
      obtain ⟨p11, hW⟩ := hW
      obtain ⟨p12, hW⟩ := hW
      refine wp_iasF (n := 48) (F := (m 190)) (y := (y1 + 1)) rfl (S.cell 190 (nc rfl)) p11.1 p11.2 (by decide) (fun H10 hl10 hz10 hf10 => ?_)
      have S : ST H10 (up m 190 (up (m 190) ((((m 181 ((y2).toNat)) + ((y4 + y5) % y3))).toNat) (y1 + 1))) γ t := S.setI 190 (nc rfl) hl10 hz10 hf10 p12.1 p12.2
      refine wp_iinc (L' := [some (.ref 158), some (.int (iI (y1 + 1))), some (.int (iI y2)), some (.int (iI y3)), some (.int (iI y4)), some (.int (iI (y5 + 1))), some (.int (iI ((m 181 ((y2).toNat)) + ((y4 + y5) % y3))))]) (a := y5) rfl rfl rfl ?_
      refine wp_g (n := 1) (pc' := 111) (L' := [some (.ref 158), some (.int (iI (y1 + 1))), some (.int (iI y2)), some (.int (iI y3)), some (.int (iI y4)), some (.int (iI (y5 + 1))), some (.int (iI ((m 181 ((y2).toNat)) + ((y4 + y5) % y3))))]) (st' := []) rfl ?_
      exact hW (some (.int (iI ((m 181 ((y2).toNat)) + ((y4 + y5) % y3))))) _ S
    · have dc9 := c9
      have hW := hW.2 dc9
      refine wp_g (n := 2) (pc' := 149) (L' := [some (.ref 158), some (.int (iI y1)), some (.int (iI y2)), some (.int (iI y3)), some (.int (iI y4)), some (.int (iI y5)), some (.int (iI ((m 181 ((y2).toNat)) + ((y4 + y5) % y3))))]) (st' := [.int (iI 0), .int (iI y1)]) rfl ?_
      refine wp_add (a := y1) (b := 0) rfl ?_
      refine wp_g (n := 2) (pc' := 152) (L' := [some (.ref 158), some (.int (iI (y1 + 0))), some (.int (iI y2)), some (.int (iI y3)), some (.int (iI y4)), some (.int (iI y5)), some (.int (iI ((m 181 ((y2).toNat)) + ((y4 + y5) % y3))))]) (st' := [.ref 158]) rfl ?_
      refine wp_getf (v := .ref 190) rfl rfl (S.cell 158 (nc rfl)) (by decide) rfl ?_
      refine wp_g (n := 2) (pc' := 158) (L' := [some (.ref 158), some (.int (iI (y1 + 0))), some (.int (iI y2)), some (.int (iI y3)), some (.int (iI y4)), some (.int (iI y5)), some (.int (iI ((m 181 ((y2).toNat)) + ((y4 + y5) % y3))))]) (st' := [.int (iI (y1 + 0)), .int (iI ((m 181 ((y2).toNat)) + ((y4 + y5) % y3))), .ref 190]) rfl ?_
      obtain ⟨p14, hW⟩ := hW
      obtain ⟨p15, hW⟩ := hW
      refine wp_iasF (n := 48) (F := (m 190)) (y := (y1 + 0)) rfl (S.cell 190 (nc rfl)) p14.1 p14.2 (by decide) (fun H13 hl13 hz13 hf13 => ?_)
      have S : ST H13 (up m 190 (up (m 190) ((((m 181 ((y2).toNat)) + ((y4 + y5) % y3))).toNat) (y1 + 0))) γ t := S.setI 190 (nc rfl) hl13 hz13 hf13 p15.1 p15.2
      refine wp_iinc (L' := [some (.ref 158), some (.int (iI (y1 + 0))), some (.int (iI y2)), some (.int (iI y3)), some (.int (iI y4)), some (.int (iI (y5 + 1))), some (.int (iI ((m 181 ((y2).toNat)) + ((y4 + y5) % y3))))]) (a := y5) rfl rfl rfl ?_
      refine wp_g (n := 1) (pc' := 111) (L' := [some (.ref 158), some (.int (iI (y1 + 0))), some (.int (iI y2)), some (.int (iI y3)), some (.int (iI y4)), some (.int (iI (y5 + 1))), some (.int (iI ((m 181 ((y2).toNat)) + ((y4 + y5) % y3))))]) (st' := []) rfl ?_
      exact hW (some (.int (iI ((m 181 ((y2).toNat)) + ((y4 + y5) % y3))))) _ S
theorem vc_X9_laysArcs_72 {E : am_E} {k : Nat} {y1 : Int} {y2 : Int} {y3 : Int} {y5 : Int} {m : MM} {γ : GM} {t : am_H} {Q : Int → MM → GM → am_H → Prop} (hy1 : rJ y1) (hy2 : rJ y2) (hy3 : rJ y3) (hy5 : rJ y5) (hW : W_X9_laysArcs_72 E k y1 y2 y3 y5 m γ t Q) : hd_X9_laysArcs_72 E k y1 y2 y3 y5 m γ t Q := by
  unfold W_X9_laysArcs_72 at hW
  intro z4 z6 h S
  refine wp_g (n := 2) (pc' := 75) (L' := [some (.ref 158), some (.int (iI y1)), some (.int (iI y2)), some (.int (iI y3)), z4, some (.int (iI y5)), z6]) (st' := [.int (iI y3), .int (iI y5)]) rfl ?_
  refine wp_icmpI (a := y5) (b := y3) rfl rfl hy5.1 hy5.2 hy3.1 hy3.2 (fun c1 => ?_) (fun c1 => ?_)
  · have dc1 := (Int.not_lt.mpr c1)
    have hW := hW.2 dc1
    refine wp_iinc (L' := [some (.ref 158), some (.int (iI (y1 + 1))), some (.int (iI y2)), some (.int (iI y3)), z4, some (.int (iI y5)), z6]) (a := y1) rfl rfl rfl ?_
    refine wp_g (n := 1) (pc' := 168) (L' := [some (.ref 158), some (.int (iI (y1 + 1))), some (.int (iI y2)), some (.int (iI y3)), z4, some (.int (iI y5)), z6]) (st' := []) rfl ?_
    refine wp_iinc (L' := [some (.ref 158), some (.int (iI (y1 + 1))), some (.int (iI (y2 + 1))), some (.int (iI y3)), z4, some (.int (iI y5)), z6]) (a := y2) rfl rfl rfl ?_
    refine wp_g (n := 1) (pc' := 4) (L' := [some (.ref 158), some (.int (iI (y1 + 1))), some (.int (iI (y2 + 1))), some (.int (iI y3)), z4, some (.int (iI y5)), z6]) (st' := []) rfl ?_
    exact hW (some (.int (iI y3))) z4 (some (.int (iI y5))) z6 _ S
  · have dc1 := (Int.not_le.mp c1)
    have hW := hW.1 dc1
    refine wp_g (n := 1) (pc' := 79) (L' := [some (.ref 158), some (.int (iI y1)), some (.int (iI y2)), some (.int (iI y3)), z4, some (.int (iI y5)), z6]) (st' := [.ref 158]) rfl ?_
    refine wp_getf (v := .ref 190) rfl rfl (S.cell 158 (nc rfl)) (by decide) rfl ?_
    refine wp_g (n := 1) (pc' := 83) (L' := [some (.ref 158), some (.int (iI y1)), some (.int (iI y2)), some (.int (iI y3)), z4, some (.int (iI y5)), z6]) (st' := [.ref 158, .ref 190]) rfl ?_
    refine wp_getf (v := .ref 181) rfl rfl (S.cell 158 (nc rfl)) (by decide) rfl ?_
    refine wp_g (n := 1) (pc' := 87) (L' := [some (.ref 158), some (.int (iI y1)), some (.int (iI y2)), some (.int (iI y3)), z4, some (.int (iI y5)), z6]) (st' := [.int (iI y2), .ref 181, .ref 190]) rfl ?_
    obtain ⟨p2, hW⟩ := hW
    refine wp_iald (n := 65) (F := (m 181)) rfl (S.cell 181 (nc rfl)) (by decide) p2.1 p2.2 (by decide) ?_
    show wp _ _ _ _ _ [.int (iI (m 181 ((y2).toNat))), .ref 190] _ _
    have hr3 : rJ (m 181 ((y2).toNat)) := S.rg 181 ((y2).toNat) (nl rfl)
    refine wp_g (n := 1) (pc' := 90) (L' := [some (.ref 158), some (.int (iI y1)), some (.int (iI y2)), some (.int (iI y3)), z4, some (.int (iI y5)), z6]) (st' := [.int (iI y5), .int (iI (m 181 ((y2).toNat))), .ref 190]) rfl ?_
    refine wp_add (a := (m 181 ((y2).toNat))) (b := y5) rfl ?_
    refine wp_g (n := 1) (pc' := 92) (L' := [some (.ref 158), some (.int (iI y1)), some (.int (iI y2)), some (.int (iI y3)), z4, some (.int (iI y5)), z6]) (st' := [.int (iI y1), .int (iI ((m 181 ((y2).toNat)) + y5)), .ref 190]) rfl ?_
    obtain ⟨p5, hW⟩ := hW
    refine wp_iasF (n := 48) (F := (m 190)) (y := y1) rfl (S.cell 190 (nc rfl)) p5.1 p5.2 (by decide) (fun H4 hl4 hz4 hf4 => ?_)
    have S : ST H4 (up m 190 (up (m 190) ((((m 181 ((y2).toNat)) + y5)).toNat) y1)) γ t := S.setI 190 (nc rfl) hl4 hz4 hf4 hy1.1 hy1.2
    refine wp_iinc (L' := [some (.ref 158), some (.int (iI y1)), some (.int (iI y2)), some (.int (iI y3)), (bif am_c2 z4 then none else z4), some (.int (iI (y5 + 1))), z6]) (a := y5) rfl rfl rfl ?_
    refine wp_g (n := 1) (pc' := 72) (L' := [some (.ref 158), some (.int (iI y1)), some (.int (iI y2)), some (.int (iI y3)), (bif am_c2 z4 then none else z4), some (.int (iI (y5 + 1))), z6]) (st' := []) rfl ?_
    exact hW (bif am_c2 z4 then none else z4) z6 _ S
abbrev W_X9_arcAhead (E : am_E) (k : Nat) (x1 : Int) (x2 : Int) (m : MM) (γ : GM) (t : am_H) (Q : Int → MM → GM → am_H → Prop) : Prop := ((0 ≤ x1 ∧ x1 < 65) ∧ (TI E k 251 [.ref 158, .int (iI x1)] m γ t (fun v3 m3 γ3 t3 => (rJ (((x2 - (m 181 ((x1).toNat))) + v3) - 1) ∧ (0 ≤ (((x2 - (m 181 ((x1).toNat))) + v3) - 1) ∧ (0 < v3 ∧ ((0 ≤ ((m 181 ((x1).toNat)) + ((((x2 - (m 181 ((x1).toNat))) + v3) - 1) % v3)) ∧ ((m 181 ((x1).toNat)) + ((((x2 - (m 181 ((x1).toNat))) + v3) - 1) % v3)) < 48) ∧ (Q (m3 190 ((((m 181 ((x1).toNat)) + ((((x2 - (m 181 ((x1).toNat))) + v3) - 1) % v3))).toNat)) m3 γ3 t3))))))))
theorem vc_X9_arcAhead {E : am_E} {k : Nat} {x1 : Int} {x2 : Int} {m : MM} {γ : GM} {t : am_H} {Q : Int → MM → GM → am_H → Prop} (hx1 : rJ x1) (hx2 : rJ x2) (hW : W_X9_arcAhead E k x1 x2 m γ t Q) : TI E (k + 1) 279 [.ref 158, .int (iI x1), .int (iI x2)] m γ t Q := by
  unfold W_X9_arcAhead at hW
  intro h S
  refine wp_g (n := 1) (pc' := 1) (L' := [some (.ref 158), some (.int (iI x1)), some (.int (iI x2)), none, none]) (st' := [.ref 158]) rfl ?_
  refine wp_getf (v := .ref 181) rfl rfl (S.cell 158 (nc rfl)) (by decide) rfl ?_
  refine wp_g (n := 1) (pc' := 5) (L' := [some (.ref 158), some (.int (iI x1)), some (.int (iI x2)), none, none]) (st' := [.int (iI x1), .ref 181]) rfl ?_
  obtain ⟨p1, hW⟩ := hW
  refine wp_iald (n := 65) (F := (m 181)) rfl (S.cell 181 (nc rfl)) (by decide) p1.1 p1.2 (by decide) ?_
  show wp _ _ _ _ _ [.int (iI (m 181 ((x1).toNat)))] _ _
  have hr2 : rJ (m 181 ((x1).toNat)) := S.rg 181 ((x1).toNat) (nl rfl)
  refine wp_g (n := 3) (pc' := 9) (L' := [some (.ref 158), some (.int (iI x1)), some (.int (iI x2)), some (.int (iI (m 181 ((x1).toNat)))), none]) (st' := [.int (iI x1), .ref 158]) rfl ?_
  refine wp_cv (As := [.int (iI x1)]) (rest := []) rfl rfl (S.cell 158 (nc rfl)) (by decide) rfl rfl rfl (Nat.le_of_ble_eq_true rfl) (Nat.le_of_ble_eq_true rfl) (hW _ S) (fun r3 H3 q3 => ?_)
  obtain ⟨v3, m3, γ3, t3, rfl, hv3, S, hW⟩ := q3
  show wp _ _ _ _ _ [.int (iI v3)] _ _
  refine wp_g (n := 2) (pc' := 15) (L' := [some (.ref 158), some (.int (iI x1)), some (.int (iI x2)), some (.int (iI (m 181 ((x1).toNat)))), some (.int (iI v3))]) (st' := [.ref 158]) rfl ?_
  refine wp_getf (v := .ref 190) rfl rfl (S.cell 158 (nc rfl)) (by decide) rfl ?_
  refine wp_g (n := 3) (pc' := 21) (L' := [some (.ref 158), some (.int (iI x1)), some (.int (iI x2)), some (.int (iI (m 181 ((x1).toNat)))), some (.int (iI v3))]) (st' := [.int (iI (m 181 ((x1).toNat))), .int (iI x2), .int (iI (m 181 ((x1).toNat))), .ref 190]) rfl ?_
  refine wp_sub (a := x2) (b := (m 181 ((x1).toNat))) rfl ?_
  refine wp_g (n := 1) (pc' := 24) (L' := [some (.ref 158), some (.int (iI x1)), some (.int (iI x2)), some (.int (iI (m 181 ((x1).toNat)))), some (.int (iI v3))]) (st' := [.int (iI v3), .int (iI (x2 - (m 181 ((x1).toNat)))), .int (iI (m 181 ((x1).toNat))), .ref 190]) rfl ?_
  refine wp_add (a := (x2 - (m 181 ((x1).toNat)))) (b := v3) rfl ?_
  refine wp_g (n := 1) (pc' := 26) (L' := [some (.ref 158), some (.int (iI x1)), some (.int (iI x2)), some (.int (iI (m 181 ((x1).toNat)))), some (.int (iI v3))]) (st' := [.int (iI 1), .int (iI ((x2 - (m 181 ((x1).toNat))) + v3)), .int (iI (m 181 ((x1).toNat))), .ref 190]) rfl ?_
  refine wp_sub (a := ((x2 - (m 181 ((x1).toNat))) + v3)) (b := 1) rfl ?_
  refine wp_g (n := 1) (pc' := 29) (L' := [some (.ref 158), some (.int (iI x1)), some (.int (iI x2)), some (.int (iI (m 181 ((x1).toNat)))), some (.int (iI v3))]) (st' := [.int (iI v3), .int (iI (((x2 - (m 181 ((x1).toNat))) + v3) - 1)), .int (iI (m 181 ((x1).toNat))), .ref 190]) rfl ?_
  obtain ⟨p4, hW⟩ := hW
  obtain ⟨p5, hW⟩ := hW
  obtain ⟨p6, hW⟩ := hW
  refine wp_rem (a := (((x2 - (m 181 ((x1).toNat))) + v3) - 1)) (b := v3) rfl p5 p4.2 p6 hv3.2 ?_
  refine wp_add (a := (m 181 ((x1).toNat))) (b := ((((x2 - (m 181 ((x1).toNat))) + v3) - 1) % v3)) rfl ?_
  obtain ⟨p7, hW⟩ := hW
  refine wp_iald (n := 48) (F := (m3 190)) rfl (S.cell 190 (nc rfl)) (by decide) p7.1 p7.2 (by decide) ?_
  show wp _ _ _ _ _ [.int (iI (m3 190 ((((m 181 ((x1).toNat)) + ((((x2 - (m 181 ((x1).toNat))) + v3) - 1) % v3))).toNat)))] _ _
  have hr8 : rJ (m3 190 ((((m 181 ((x1).toNat)) + ((((x2 - (m 181 ((x1).toNat))) + v3) - 1) % v3))).toNat)) := S.rg 190 ((((m 181 ((x1).toNat)) + ((((x2 - (m 181 ((x1).toNat))) + v3) - 1) % v3))).toNat) (nl rfl)
  exact wp_iret rfl rfl ⟨_, _, _, _, rfl, hr8, S, hW⟩
abbrev W_X9_left (E : am_E) (k : Nat) (x1 : Int) (x2 : Int) (m : MM) (γ : GM) (t : am_H) (Q : Int → MM → GM → am_H → Prop) : Prop := (x2 ≠ 0 ∧ (rJ ((Int.tmod x1 x2) + x2) ∧ (x2 ≠ 0 ∧ (rJ (Int.tmod ((Int.tmod x1 x2) + x2) x2) ∧ (Q (Int.tmod ((Int.tmod x1 x2) + x2) x2) m γ t)))))
theorem vc_X9_left {E : am_E} {k : Nat} {x1 : Int} {x2 : Int} {m : MM} {γ : GM} {t : am_H} {Q : Int → MM → GM → am_H → Prop} (hx1 : rJ x1) (hx2 : rJ x2) (hW : W_X9_left E k x1 x2 m γ t Q) : TI E k 280 [.int (iI x1), .int (iI x2)] m γ t Q := by
  unfold W_X9_left at hW
  intro h S
  refine wp_g (n := 2) (pc' := 2) (L' := [some (.int (iI x1)), some (.int (iI x2))]) (st' := [.int (iI x2), .int (iI x1)]) rfl ?_
  obtain ⟨p1, hW⟩ := hW
  refine wp_remt (a := x1) (b := x2) rfl hx1 hx2 p1 ?_
  refine wp_g (n := 1) (pc' := 4) (L' := [some (.int (iI x1)), some (.int (iI x2))]) (st' := [.int (iI x2), .int (iI (Int.tmod x1 x2))]) rfl ?_
  refine wp_add (a := (Int.tmod x1 x2)) (b := x2) rfl ?_
  refine wp_g (n := 1) (pc' := 6) (L' := [some (.int (iI x1)), some (.int (iI x2))]) (st' := [.int (iI x2), .int (iI ((Int.tmod x1 x2) + x2))]) rfl ?_
  obtain ⟨p2, hW⟩ := hW
  obtain ⟨p3, hW⟩ := hW
  refine wp_remt (a := ((Int.tmod x1 x2) + x2)) (b := x2) rfl p2 hx2 p3 ?_
  obtain ⟨p4, hW⟩ := hW
  exact wp_iret rfl rfl ⟨_, _, _, _, rfl, p4, S, hW⟩
def hd_X9_rankBy_6 (E : am_E) (k : Nat) (x1 : Int) (x2 : Int) (x3 : Int) (y1 : Int) (y2 : Int) (y3 : Int) (y4 : Int) (y5 : Int) (m : MM) (γ : GM) (t : am_H) (Q : Int → MM → GM → am_H → Prop) : Prop := ∀ (z6 z7 z8 z9 z10 : Option Value), TT (pI Q) E (k + 1) 281 6 [some (.ref 158), some (.int (iI y1)), some (.int (iI y2)), some (.int (iI y3)), some (.int (iI y4)), some (.int (iI y5)), z6, z7, z8, z9, z10] [] m γ t
def hd_X9_rankBy_22 (E : am_E) (k : Nat) (x1 : Int) (x2 : Int) (x3 : Int) (y1 : Int) (y2 : Int) (y3 : Int) (y4 : Int) (y5 : Int) (y6 : Int) (m : MM) (γ : GM) (t : am_H) (Q : Int → MM → GM → am_H → Prop) : Prop := ∀ (z7 z8 z9 z10 : Option Value), TT (pI Q) E (k + 1) 281 22 [some (.ref 158), some (.int (iI y1)), some (.int (iI y2)), some (.int (iI y3)), some (.int (iI y4)), some (.int (iI y5)), some (.int (iI y6)), z7, z8, z9, z10] [] m γ t
def hd_X9_rankBy_62 (E : am_E) (k : Nat) (x1 : Int) (x2 : Int) (x3 : Int) (y1 : Int) (y2 : Int) (y3 : Int) (y4 : Int) (y5 : Int) (y6 : Int) (y7 : Int) (m : MM) (γ : GM) (t : am_H) (Q : Int → MM → GM → am_H → Prop) : Prop := ∀ (z8 z9 z10 : Option Value), TT (pI Q) E (k + 1) 281 62 [some (.ref 158), some (.int (iI y1)), some (.int (iI y2)), some (.int (iI y3)), some (.int (iI y4)), some (.int (iI y5)), some (.int (iI y6)), some (.int (iI y7)), z8, z9, z10] [] m γ t
def hd_X9_rankBy_93 (E : am_E) (k : Nat) (x1 : Int) (x2 : Int) (x3 : Int) (y1 : Int) (y2 : Int) (y3 : Int) (y4 : Int) (y5 : Int) (y6 : Int) (y7 : Int) (y8 : Int) (m : MM) (γ : GM) (t : am_H) (Q : Int → MM → GM → am_H → Prop) : Prop := ∀ (z9 z10 : Option Value), TT (pI Q) E (k + 1) 281 93 [some (.ref 158), some (.int (iI y1)), some (.int (iI y2)), some (.int (iI y3)), some (.int (iI y4)), some (.int (iI y5)), some (.int (iI y6)), some (.int (iI y7)), some (.int (iI y8)), z9, z10] [] m γ t
def hd_X9_rankBy_172 (E : am_E) (k : Nat) (x1 : Int) (x2 : Int) (x3 : Int) (y1 : Int) (y2 : Int) (y3 : Int) (y4 : Int) (y5 : Int) (y8 : Int) (m : MM) (γ : GM) (t : am_H) (Q : Int → MM → GM → am_H → Prop) : Prop := ∀ (z6 z7 z9 z10 : Option Value), TT (pI Q) E (k + 1) 281 172 [some (.ref 158), some (.int (iI y1)), some (.int (iI y2)), some (.int (iI y3)), some (.int (iI y4)), some (.int (iI y5)), z6, z7, some (.int (iI y8)), z9, z10] [] m γ t
def hd_X9_rankBy_196 (E : am_E) (k : Nat) (x1 : Int) (x2 : Int) (x3 : Int) (y1 : Int) (y2 : Int) (y3 : Int) (y4 : Int) (y5 : Int) (y8 : Int) (y9 : Int) (y10 : Int) (m : MM) (γ : GM) (t : am_H) (Q : Int → MM → GM → am_H → Prop) : Prop := ∀ (z6 z7 : Option Value), TT (pI Q) E (k + 1) 281 196 [some (.ref 158), some (.int (iI y1)), some (.int (iI y2)), some (.int (iI y3)), some (.int (iI y4)), some (.int (iI y5)), z6, z7, some (.int (iI y8)), some (.int (iI y9)), some (.int (iI y10))] [] m γ t
abbrev W_X9_rankBy (E : am_E) (k : Nat) (x1 : Int) (x2 : Int) (x3 : Int) (m : MM) (γ : GM) (t : am_H) (Q : Int → MM → GM → am_H → Prop) : Prop := (hd_X9_rankBy_6 E k x1 x2 x3 x1 x2 x3 0 0 m γ t Q)
abbrev W_X9_rankBy_6 (E : am_E) (k : Nat) (x1 : Int) (x2 : Int) (x3 : Int) (y1 : Int) (y2 : Int) (y3 : Int) (y4 : Int) (y5 : Int) (m : MM) (γ : GM) (t : am_H) (Q : Int → MM → GM → am_H → Prop) : Prop := (((y5 < y2) → (((y4 < y1) → (hd_X9_rankBy_22 E k x1 x2 x3 y1 y2 y3 y4 y5 y4 m γ t Q)) ∧ (¬ (y4 < y1) → (Q y4 m γ t)))) ∧ (¬ (y5 < y2) → (Q y4 m γ t)))
abbrev W_X9_rankBy_22 (E : am_E) (k : Nat) (x1 : Int) (x2 : Int) (x3 : Int) (y1 : Int) (y2 : Int) (y3 : Int) (y4 : Int) (y5 : Int) (y6 : Int) (m : MM) (γ : GM) (t : am_H) (Q : Int → MM → GM → am_H → Prop) : Prop := (((y6 < y1) → ((0 ≤ ((48 * y6) + y5) ∧ ((48 * y6) + y5) < 1152) ∧ ((((m 191 ((((48 * y6) + y5)).toNat)) = 0) → (hd_X9_rankBy_22 E k x1 x2 x3 y1 y2 y3 y4 y5 (y6 + 1) m γ t Q)) ∧ (¬ ((m 191 ((((48 * y6) + y5)).toNat)) = 0) → (((y6 = y1) → (hd_X9_rankBy_6 E k x1 x2 x3 y1 y2 y3 y4 (y5 + 1) m γ t Q)) ∧ (¬ (y6 = y1) → (hd_X9_rankBy_62 E k x1 x2 x3 y1 y2 y3 y4 y5 y6 1 m γ t Q))))))) ∧ (¬ (y6 < y1) → (((y6 = y1) → (hd_X9_rankBy_6 E k x1 x2 x3 y1 y2 y3 y4 (y5 + 1) m γ t Q)) ∧ (¬ (y6 = y1) → (hd_X9_rankBy_62 E k x1 x2 x3 y1 y2 y3 y4 y5 y6 1 m γ t Q)))))
abbrev W_X9_rankBy_62 (E : am_E) (k : Nat) (x1 : Int) (x2 : Int) (x3 : Int) (y1 : Int) (y2 : Int) (y3 : Int) (y4 : Int) (y5 : Int) (y6 : Int) (y7 : Int) (m : MM) (γ : GM) (t : am_H) (Q : Int → MM → GM → am_H → Prop) : Prop := ((0 ≤ ((48 * y6) + y5) ∧ ((48 * y6) + y5) < 1152) ∧ (rJ (y7 * (m 191 ((((48 * y6) + y5)).toNat))) ∧ (0 ≤ (y7 * (m 191 ((((48 * y6) + y5)).toNat))) ∧ (0 < y3 ∧ (rJ ((y7 * (m 191 ((((48 * y6) + y5)).toNat))) % y3) ∧ (((((y7 * (m 191 ((((48 * y6) + y5)).toNat))) % y3) = 1) → (hd_X9_rankBy_93 E k x1 x2 x3 y1 y2 y3 y4 y5 y6 y7 0 m γ t Q)) ∧ (¬ (((y7 * (m 191 ((((48 * y6) + y5)).toNat))) % y3) = 1) → (hd_X9_rankBy_62 E k x1 x2 x3 y1 y2 y3 y4 y5 y6 (y7 + 1) m γ t Q))))))))
abbrev W_X9_rankBy_93 (E : am_E) (k : Nat) (x1 : Int) (x2 : Int) (x3 : Int) (y1 : Int) (y2 : Int) (y3 : Int) (y4 : Int) (y5 : Int) (y6 : Int) (y7 : Int) (y8 : Int) (m : MM) (γ : GM) (t : am_H) (Q : Int → MM → GM → am_H → Prop) : Prop := (((y8 < y2) → ((0 ≤ ((48 * y6) + y8) ∧ ((48 * y6) + y8) < 1152) ∧ ((0 ≤ ((48 * y4) + y8) ∧ ((48 * y4) + y8) < 1152) ∧ ((0 ≤ ((48 * y6) + y8) ∧ ((48 * y6) + y8) < 1152) ∧ (rJ ((m 191 ((((48 * y6) + y8)).toNat)) * y7) ∧ (0 ≤ ((m 191 ((((48 * y6) + y8)).toNat)) * y7) ∧ (0 < y3 ∧ ((0 ≤ ((48 * y4) + y8) ∧ ((48 * y4) + y8) < 1152) ∧ (rJ (((m 191 ((((48 * y6) + y8)).toNat)) * y7) % y3) ∧ (hd_X9_rankBy_93 E k x1 x2 x3 y1 y2 y3 y4 y5 y6 y7 (y8 + 1) (up (up m 191 (up (m 191) ((((48 * y6) + y8)).toNat) (m 191 ((((48 * y4) + y8)).toNat)))) 191 (up (up (m 191) ((((48 * y6) + y8)).toNat) (m 191 ((((48 * y4) + y8)).toNat))) ((((48 * y4) + y8)).toNat) (((m 191 ((((48 * y6) + y8)).toNat)) * y7) % y3))) γ t Q)))))))))) ∧ (¬ (y8 < y2) → (hd_X9_rankBy_172 E k x1 x2 x3 y1 y2 y3 y4 y5 (y4 + 1) m γ t Q)))
abbrev W_X9_rankBy_172 (E : am_E) (k : Nat) (x1 : Int) (x2 : Int) (x3 : Int) (y1 : Int) (y2 : Int) (y3 : Int) (y4 : Int) (y5 : Int) (y8 : Int) (m : MM) (γ : GM) (t : am_H) (Q : Int → MM → GM → am_H → Prop) : Prop := (((y8 < y1) → ((0 ≤ ((48 * y8) + y5) ∧ ((48 * y8) + y5) < 1152) ∧ (hd_X9_rankBy_196 E k x1 x2 x3 y1 y2 y3 y4 y5 y8 (m 191 ((((48 * y8) + y5)).toNat)) 0 m γ t Q))) ∧ (¬ (y8 < y1) → (hd_X9_rankBy_6 E k x1 x2 x3 y1 y2 y3 (y4 + 1) (y5 + 1) m γ t Q)))
abbrev W_X9_rankBy_196 (E : am_E) (k : Nat) (x1 : Int) (x2 : Int) (x3 : Int) (y1 : Int) (y2 : Int) (y3 : Int) (y4 : Int) (y5 : Int) (y8 : Int) (y9 : Int) (y10 : Int) (m : MM) (γ : GM) (t : am_H) (Q : Int → MM → GM → am_H → Prop) : Prop := (((y10 < y2) → (((y9 = 0) → (hd_X9_rankBy_172 E k x1 x2 x3 y1 y2 y3 y4 y5 (y8 + 1) m γ t Q)) ∧ (¬ (y9 = 0) → ((0 ≤ ((48 * y8) + y10) ∧ ((48 * y8) + y10) < 1152) ∧ ((0 ≤ ((48 * y4) + y10) ∧ ((48 * y4) + y10) < 1152) ∧ (TI E k 280 [.int (iI ((m 191 ((((48 * y8) + y10)).toNat)) - (y9 * (m 191 ((((48 * y4) + y10)).toNat))))), .int (iI y3)] m γ t (fun v7 m7 γ7 t7 => ((0 ≤ ((48 * y8) + y10) ∧ ((48 * y8) + y10) < 1152) ∧ (hd_X9_rankBy_196 E k x1 x2 x3 y1 y2 y3 y4 y5 y8 y9 (y10 + 1) (up m7 191 (up (m7 191) ((((48 * y8) + y10)).toNat) v7)) γ7 t7 Q))))))))) ∧ (¬ (y10 < y2) → (hd_X9_rankBy_172 E k x1 x2 x3 y1 y2 y3 y4 y5 (y8 + 1) m γ t Q)))
theorem vc_X9_rankBy {E : am_E} {k : Nat} {x1 : Int} {x2 : Int} {x3 : Int} {m : MM} {γ : GM} {t : am_H} {Q : Int → MM → GM → am_H → Prop} (hx1 : rJ x1) (hx2 : rJ x2) (hx3 : rJ x3) (hW : W_X9_rankBy E k x1 x2 x3 m γ t Q) : TI E (k + 1) 281 [.ref 158, .int (iI x1), .int (iI x2), .int (iI x3)] m γ t Q := by
  unfold W_X9_rankBy at hW
  intro h S
  refine wp_g (n := 4) (pc' := 6) (L' := [some (.ref 158), some (.int (iI x1)), some (.int (iI x2)), some (.int (iI x3)), some (.int (iI 0)), some (.int (iI 0)), none, none, none, none, none]) (st' := []) rfl ?_
  exact hW none none none none none _ S
theorem vc_X9_rankBy_6 {E : am_E} {k : Nat} {x1 : Int} {x2 : Int} {x3 : Int} {y1 : Int} {y2 : Int} {y3 : Int} {y4 : Int} {y5 : Int} {m : MM} {γ : GM} {t : am_H} {Q : Int → MM → GM → am_H → Prop} (hx1 : rJ x1) (hx2 : rJ x2) (hx3 : rJ x3) (hy1 : rJ y1) (hy2 : rJ y2) (hy3 : rJ y3) (hy4 : rJ y4) (hy5 : rJ y5) (hW : W_X9_rankBy_6 E k x1 x2 x3 y1 y2 y3 y4 y5 m γ t Q) : hd_X9_rankBy_6 E k x1 x2 x3 y1 y2 y3 y4 y5 m γ t Q := by
  unfold W_X9_rankBy_6 at hW
  intro z6 z7 z8 z9 z10 h S
  refine wp_g (n := 2) (pc' := 9) (L' := [some (.ref 158), some (.int (iI y1)), some (.int (iI y2)), some (.int (iI y3)), some (.int (iI y4)), some (.int (iI y5)), z6, z7, z8, z9, z10]) (st' := [.int (iI y2), .int (iI y5)]) rfl ?_
  refine wp_icmpI (a := y5) (b := y2) rfl rfl hy5.1 hy5.2 hy2.1 hy2.2 (fun c1 => ?_) (fun c1 => ?_)
  · have dc1 := (Int.not_lt.mpr c1)
    have hW := hW.2 dc1
    refine wp_g (n := 1) (pc' := 277) (L' := [some (.ref 158), some (.int (iI y1)), some (.int (iI y2)), some (.int (iI y3)), some (.int (iI y4)), some (.int (iI y5)), z6, z7, z8, z9, z10]) (st' := [.int (iI y4)]) rfl ?_
    exact wp_iret rfl rfl ⟨_, _, _, _, rfl, hy4, S, hW⟩
  · have dc1 := (Int.not_le.mp c1)
    have hW := hW.1 dc1
    refine wp_g (n := 2) (pc' := 15) (L' := [some (.ref 158), some (.int (iI y1)), some (.int (iI y2)), some (.int (iI y3)), some (.int (iI y4)), some (.int (iI y5)), z6, z7, z8, z9, z10]) (st' := [.int (iI y1), .int (iI y4)]) rfl ?_
    refine wp_icmpI (a := y4) (b := y1) rfl rfl hy4.1 hy4.2 hy1.1 hy1.2 (fun c2 => ?_) (fun c2 => ?_)
    · have dc2 := (Int.not_lt.mpr c2)
      have hW := hW.2 dc2
      refine wp_g (n := 1) (pc' := 277) (L' := [some (.ref 158), some (.int (iI y1)), some (.int (iI y2)), some (.int (iI y3)), some (.int (iI y4)), some (.int (iI y5)), z6, z7, z8, z9, z10]) (st' := [.int (iI y4)]) rfl ?_
      exact wp_iret rfl rfl ⟨_, _, _, _, rfl, hy4, S, hW⟩
    · have dc2 := (Int.not_le.mp c2)
      have hW := hW.1 dc2
      refine wp_g (n := 2) (pc' := 22) (L' := [some (.ref 158), some (.int (iI y1)), some (.int (iI y2)), some (.int (iI y3)), some (.int (iI y4)), some (.int (iI y5)), some (.int (iI y4)), z7, z8, z9, z10]) (st' := []) rfl ?_
      exact hW z7 z8 z9 z10 _ S
theorem vc_X9_rankBy_22 {E : am_E} {k : Nat} {x1 : Int} {x2 : Int} {x3 : Int} {y1 : Int} {y2 : Int} {y3 : Int} {y4 : Int} {y5 : Int} {y6 : Int} {m : MM} {γ : GM} {t : am_H} {Q : Int → MM → GM → am_H → Prop} (hx1 : rJ x1) (hx2 : rJ x2) (hx3 : rJ x3) (hy1 : rJ y1) (hy2 : rJ y2) (hy3 : rJ y3) (hy4 : rJ y4) (hy5 : rJ y5) (hy6 : rJ y6) (hW : W_X9_rankBy_22 E k x1 x2 x3 y1 y2 y3 y4 y5 y6 m γ t Q) : hd_X9_rankBy_22 E k x1 x2 x3 y1 y2 y3 y4 y5 y6 m γ t Q := by
  unfold W_X9_rankBy_22 at hW
  intro z7 z8 z9 z10 h S
  refine wp_g (n := 2) (pc' := 25) (L' := [some (.ref 158), some (.int (iI y1)), some (.int (iI y2)), some (.int (iI y3)), some (.int (iI y4)), some (.int (iI y5)), some (.int (iI y6)), z7, z8, z9, z10]) (st' := [.int (iI y1), .int (iI y6)]) rfl ?_
  refine wp_icmpI (a := y6) (b := y1) rfl rfl hy6.1 hy6.2 hy1.1 hy1.2 (fun c1 => ?_) (fun c1 => ?_)
  · have dc1 := (Int.not_lt.mpr c1)
    have hW := hW.2 dc1
    refine wp_g (n := 2) (pc' := 53) (L' := [some (.ref 158), some (.int (iI y1)), some (.int (iI y2)), some (.int (iI y3)), some (.int (iI y4)), some (.int (iI y5)), some (.int (iI y6)), z7, z8, z9, z10]) (st' := [.int (iI y1), .int (iI y6)]) rfl ?_
    refine wp_icmpI (a := y6) (b := y1) rfl rfl hy6.1 hy6.2 hy1.1 hy1.2 (fun c2 => ?_) (fun c2 => ?_)
    · have dc2 := c2
      have hW := hW.2 dc2
      refine wp_g (n := 2) (pc' := 62) (L' := [some (.ref 158), some (.int (iI y1)), some (.int (iI y2)), some (.int (iI y3)), some (.int (iI y4)), some (.int (iI y5)), some (.int (iI y6)), some (.int (iI 1)), z8, z9, z10]) (st' := []) rfl ?_
      exact hW z8 z9 z10 _ S
    · have dc2 := (Classical.not_not.mp c2)
      have hW := hW.1 dc2
      refine wp_g (n := 1) (pc' := 269) (L' := [some (.ref 158), some (.int (iI y1)), some (.int (iI y2)), some (.int (iI y3)), some (.int (iI y4)), some (.int (iI y5)), some (.int (iI y6)), z7, z8, z9, z10]) (st' := []) rfl ?_
      refine wp_iinc (L' := [some (.ref 158), some (.int (iI y1)), some (.int (iI y2)), some (.int (iI y3)), some (.int (iI y4)), some (.int (iI (y5 + 1))), some (.int (iI y6)), z7, z8, z9, z10]) (a := y5) rfl rfl rfl ?_
      refine wp_g (n := 1) (pc' := 6) (L' := [some (.ref 158), some (.int (iI y1)), some (.int (iI y2)), some (.int (iI y3)), some (.int (iI y4)), some (.int (iI (y5 + 1))), some (.int (iI y6)), z7, z8, z9, z10]) (st' := []) rfl ?_
      exact hW (some (.int (iI y6))) z7 z8 z9 z10 _ S
  · have dc1 := (Int.not_le.mp c1)
    have hW := hW.1 dc1
    refine wp_g (n := 1) (pc' := 29) (L' := [some (.ref 158), some (.int (iI y1)), some (.int (iI y2)), some (.int (iI y3)), some (.int (iI y4)), some (.int (iI y5)), some (.int (iI y6)), z7, z8, z9, z10]) (st' := [.ref 158]) rfl ?_
    refine wp_getf (v := .ref 191) rfl rfl (S.cell 158 (nc rfl)) (by decide) rfl ?_
    refine wp_g (n := 2) (pc' := 36) (L' := [some (.ref 158), some (.int (iI y1)), some (.int (iI y2)), some (.int (iI y3)), some (.int (iI y4)), some (.int (iI y5)), some (.int (iI y6)), z7, z8, z9, z10]) (st' := [.int (iI y6), .int (iI 48), .ref 191]) rfl ?_
    refine wp_mul (a := 48) (b := y6) rfl ?_
    refine wp_g (n := 1) (pc' := 39) (L' := [some (.ref 158), some (.int (iI y1)), some (.int (iI y2)), some (.int (iI y3)), some (.int (iI y4)), some (.int (iI y5)), some (.int (iI y6)), z7, z8, z9, z10]) (st' := [.int (iI y5), .int (iI (48 * y6)), .ref 191]) rfl ?_
    refine wp_add (a := (48 * y6)) (b := y5) rfl ?_
    obtain ⟨p3, hW⟩ := hW
    refine wp_iald (n := 1152) (F := (m 191)) rfl (S.cell 191 (nc rfl)) (by decide) p3.1 p3.2 (by decide) ?_
    show wp _ _ _ _ _ [.int (iI (m 191 ((((48 * y6) + y5)).toNat)))] _ _
    have hr4 : rJ (m 191 ((((48 * y6) + y5)).toNat)) := S.rg 191 ((((48 * y6) + y5)).toNat) (nl rfl)
    refine wp_ifI (a := (m 191 ((((48 * y6) + y5)).toNat))) rfl rfl hr4.1 hr4.2 (fun c5 => ?_) (fun c5 => ?_)
    · have dc5 := c5
      have hW := hW.2 dc5
      refine wp_g (n := 2) (pc' := 53) (L' := [some (.ref 158), some (.int (iI y1)), some (.int (iI y2)), some (.int (iI y3)), some (.int (iI y4)), some (.int (iI y5)), some (.int (iI y6)), z7, z8, z9, z10]) (st' := [.int (iI y1), .int (iI y6)]) rfl ?_
      refine wp_icmpI (a := y6) (b := y1) rfl rfl hy6.1 hy6.2 hy1.1 hy1.2 (fun c6 => ?_) (fun c6 => ?_)
      · have dc6 := c6
        have hW := hW.2 dc6
        refine wp_g (n := 2) (pc' := 62) (L' := [some (.ref 158), some (.int (iI y1)), some (.int (iI y2)), some (.int (iI y3)), some (.int (iI y4)), some (.int (iI y5)), some (.int (iI y6)), some (.int (iI 1)), z8, z9, z10]) (st' := []) rfl ?_
        exact hW z8 z9 z10 _ S
      · have dc6 := (Classical.not_not.mp c6)
        have hW := hW.1 dc6
        refine wp_g (n := 1) (pc' := 269) (L' := [some (.ref 158), some (.int (iI y1)), some (.int (iI y2)), some (.int (iI y3)), some (.int (iI y4)), some (.int (iI y5)), some (.int (iI y6)), z7, z8, z9, z10]) (st' := []) rfl ?_
        refine wp_iinc (L' := [some (.ref 158), some (.int (iI y1)), some (.int (iI y2)), some (.int (iI y3)), some (.int (iI y4)), some (.int (iI (y5 + 1))), some (.int (iI y6)), z7, z8, z9, z10]) (a := y5) rfl rfl rfl ?_
        refine wp_g (n := 1) (pc' := 6) (L' := [some (.ref 158), some (.int (iI y1)), some (.int (iI y2)), some (.int (iI y3)), some (.int (iI y4)), some (.int (iI (y5 + 1))), some (.int (iI y6)), z7, z8, z9, z10]) (st' := []) rfl ?_
        exact hW (some (.int (iI y6))) z7 z8 z9 z10 _ S
    · have dc5 := (Classical.not_not.mp c5)
      have hW := hW.1 dc5
      refine wp_iinc (L' := [some (.ref 158), some (.int (iI y1)), some (.int (iI y2)), some (.int (iI y3)), some (.int (iI y4)), some (.int (iI y5)), some (.int (iI (y6 + 1))), z7, z8, z9, z10]) (a := y6) rfl rfl rfl ?_
      refine wp_g (n := 1) (pc' := 22) (L' := [some (.ref 158), some (.int (iI y1)), some (.int (iI y2)), some (.int (iI y3)), some (.int (iI y4)), some (.int (iI y5)), some (.int (iI (y6 + 1))), z7, z8, z9, z10]) (st' := []) rfl ?_
      exact hW z7 z8 z9 z10 _ S
theorem vc_X9_rankBy_62 {E : am_E} {k : Nat} {x1 : Int} {x2 : Int} {x3 : Int} {y1 : Int} {y2 : Int} {y3 : Int} {y4 : Int} {y5 : Int} {y6 : Int} {y7 : Int} {m : MM} {γ : GM} {t : am_H} {Q : Int → MM → GM → am_H → Prop} (hx1 : rJ x1) (hx2 : rJ x2) (hx3 : rJ x3) (hy1 : rJ y1) (hy2 : rJ y2) (hy3 : rJ y3) (hy4 : rJ y4) (hy5 : rJ y5) (hy6 : rJ y6) (hy7 : rJ y7) (hW : W_X9_rankBy_62 E k x1 x2 x3 y1 y2 y3 y4 y5 y6 y7 m γ t Q) : hd_X9_rankBy_62 E k x1 x2 x3 y1 y2 y3 y4 y5 y6 y7 m γ t Q := by
  unfold W_X9_rankBy_62 at hW
  intro z8 z9 z10 h S
  refine wp_g (n := 2) (pc' := 65) (L' := [some (.ref 158), some (.int (iI y1)), some (.int (iI y2)), some (.int (iI y3)), some (.int (iI y4)), some (.int (iI y5)), some (.int (iI y6)), some (.int (iI y7)), z8, z9, z10]) (st' := [.ref 158, .int (iI y7)]) rfl ?_
  refine wp_getf (v := .ref 191) rfl rfl (S.cell 158 (nc rfl)) (by decide) rfl ?_
  refine wp_g (n := 2) (pc' := 72) (L' := [some (.ref 158), some (.int (iI y1)), some (.int (iI y2)), some (.int (iI y3)), some (.int (iI y4)), some (.int (iI y5)), some (.int (iI y6)), some (.int (iI y7)), z8, z9, z10]) (st' := [.int (iI y6), .int (iI 48), .ref 191, .int (iI y7)]) rfl ?_
  refine wp_mul (a := 48) (b := y6) rfl ?_
  refine wp_g (n := 1) (pc' := 75) (L' := [some (.ref 158), some (.int (iI y1)), some (.int (iI y2)), some (.int (iI y3)), some (.int (iI y4)), some (.int (iI y5)), some (.int (iI y6)), some (.int (iI y7)), z8, z9, z10]) (st' := [.int (iI y5), .int (iI (48 * y6)), .ref 191, .int (iI y7)]) rfl ?_
  refine wp_add (a := (48 * y6)) (b := y5) rfl ?_
  obtain ⟨p1, hW⟩ := hW
  refine wp_iald (n := 1152) (F := (m 191)) rfl (S.cell 191 (nc rfl)) (by decide) p1.1 p1.2 (by decide) ?_
  show wp _ _ _ _ _ [.int (iI (m 191 ((((48 * y6) + y5)).toNat))), .int (iI y7)] _ _
  have hr2 : rJ (m 191 ((((48 * y6) + y5)).toNat)) := S.rg 191 ((((48 * y6) + y5)).toNat) (nl rfl)
  refine wp_mul (a := y7) (b := (m 191 ((((48 * y6) + y5)).toNat))) rfl ?_
  refine wp_g (n := 1) (pc' := 79) (L' := [some (.ref 158), some (.int (iI y1)), some (.int (iI y2)), some (.int (iI y3)), some (.int (iI y4)), some (.int (iI y5)), some (.int (iI y6)), some (.int (iI y7)), z8, z9, z10]) (st' := [.int (iI y3), .int (iI (y7 * (m 191 ((((48 * y6) + y5)).toNat))))]) rfl ?_
  obtain ⟨p3, hW⟩ := hW
  obtain ⟨p4, hW⟩ := hW
  obtain ⟨p5, hW⟩ := hW
  refine wp_rem (a := (y7 * (m 191 ((((48 * y6) + y5)).toNat)))) (b := y3) rfl p4 p3.2 p5 hy3.2 ?_
  refine wp_g (n := 1) (pc' := 81) (L' := [some (.ref 158), some (.int (iI y1)), some (.int (iI y2)), some (.int (iI y3)), some (.int (iI y4)), some (.int (iI y5)), some (.int (iI y6)), some (.int (iI y7)), z8, z9, z10]) (st' := [.int (iI 1), .int (iI ((y7 * (m 191 ((((48 * y6) + y5)).toNat))) % y3))]) rfl ?_
  obtain ⟨p6, hW⟩ := hW
  refine wp_icmpI (a := ((y7 * (m 191 ((((48 * y6) + y5)).toNat))) % y3)) (b := 1) rfl rfl p6.1 p6.2 (by decide) (by decide) (fun c7 => ?_) (fun c7 => ?_)
  · have dc7 := c7
    have hW := hW.1 dc7
    refine wp_g (n := 2) (pc' := 93) (L' := [some (.ref 158), some (.int (iI y1)), some (.int (iI y2)), some (.int (iI y3)), some (.int (iI y4)), some (.int (iI y5)), some (.int (iI y6)), some (.int (iI y7)), some (.int (iI 0)), z9, z10]) (st' := []) rfl ?_
    exact hW z9 z10 _ S
  · have dc7 := c7
    have hW := hW.2 dc7
    refine wp_iinc (L' := [some (.ref 158), some (.int (iI y1)), some (.int (iI y2)), some (.int (iI y3)), some (.int (iI y4)), some (.int (iI y5)), some (.int (iI y6)), some (.int (iI (y7 + 1))), z8, z9, z10]) (a := y7) rfl rfl rfl ?_
    refine wp_g (n := 1) (pc' := 62) (L' := [some (.ref 158), some (.int (iI y1)), some (.int (iI y2)), some (.int (iI y3)), some (.int (iI y4)), some (.int (iI y5)), some (.int (iI y6)), some (.int (iI (y7 + 1))), z8, z9, z10]) (st' := []) rfl ?_
    exact hW z8 z9 z10 _ S
theorem vc_X9_rankBy_93 {E : am_E} {k : Nat} {x1 : Int} {x2 : Int} {x3 : Int} {y1 : Int} {y2 : Int} {y3 : Int} {y4 : Int} {y5 : Int} {y6 : Int} {y7 : Int} {y8 : Int} {m : MM} {γ : GM} {t : am_H} {Q : Int → MM → GM → am_H → Prop} (hx1 : rJ x1) (hx2 : rJ x2) (hx3 : rJ x3) (hy1 : rJ y1) (hy2 : rJ y2) (hy3 : rJ y3) (hy4 : rJ y4) (hy5 : rJ y5) (hy6 : rJ y6) (hy7 : rJ y7) (hy8 : rJ y8) (hW : W_X9_rankBy_93 E k x1 x2 x3 y1 y2 y3 y4 y5 y6 y7 y8 m γ t Q) : hd_X9_rankBy_93 E k x1 x2 x3 y1 y2 y3 y4 y5 y6 y7 y8 m γ t Q := by
  unfold W_X9_rankBy_93 at hW
  intro z9 z10 h S
  refine wp_g (n := 2) (pc' := 96) (L' := [some (.ref 158), some (.int (iI y1)), some (.int (iI y2)), some (.int (iI y3)), some (.int (iI y4)), some (.int (iI y5)), some (.int (iI y6)), some (.int (iI y7)), some (.int (iI y8)), z9, z10]) (st' := [.int (iI y2), .int (iI y8)]) rfl ?_
  refine wp_icmpI (a := y8) (b := y2) rfl rfl hy8.1 hy8.2 hy2.1 hy2.2 (fun c1 => ?_) (fun c1 => ?_)
  · have dc1 := (Int.not_lt.mpr c1)
    have hW := hW.2 dc1
    refine wp_g (n := 2) (pc' := 169) (L' := [some (.ref 158), some (.int (iI y1)), some (.int (iI y2)), some (.int (iI y3)), some (.int (iI y4)), some (.int (iI y5)), some (.int (iI y6)), some (.int (iI y7)), some (.int (iI y8)), z9, z10]) (st' := [.int (iI 1), .int (iI y4)]) rfl ?_
    refine wp_add (a := y4) (b := 1) rfl ?_
    refine wp_g (n := 1) (pc' := 172) (L' := [some (.ref 158), some (.int (iI y1)), some (.int (iI y2)), some (.int (iI y3)), some (.int (iI y4)), some (.int (iI y5)), some (.int (iI y6)), some (.int (iI y7)), some (.int (iI (y4 + 1))), z9, z10]) (st' := []) rfl ?_
    exact hW (some (.int (iI y6))) (some (.int (iI y7))) z9 z10 _ S
  · have dc1 := (Int.not_le.mp c1)
    have hW := hW.1 dc1
    refine wp_g (n := 1) (pc' := 100) (L' := [some (.ref 158), some (.int (iI y1)), some (.int (iI y2)), some (.int (iI y3)), some (.int (iI y4)), some (.int (iI y5)), some (.int (iI y6)), some (.int (iI y7)), some (.int (iI y8)), z9, z10]) (st' := [.ref 158]) rfl ?_
    refine wp_getf (v := .ref 191) rfl rfl (S.cell 158 (nc rfl)) (by decide) rfl ?_
    refine wp_g (n := 2) (pc' := 107) (L' := [some (.ref 158), some (.int (iI y1)), some (.int (iI y2)), some (.int (iI y3)), some (.int (iI y4)), some (.int (iI y5)), some (.int (iI y6)), some (.int (iI y7)), some (.int (iI y8)), z9, z10]) (st' := [.int (iI y6), .int (iI 48), .ref 191]) rfl ?_
    refine wp_mul (a := 48) (b := y6) rfl ?_
    refine wp_g (n := 1) (pc' := 110) (L' := [some (.ref 158), some (.int (iI y1)), some (.int (iI y2)), some (.int (iI y3)), some (.int (iI y4)), some (.int (iI y5)), some (.int (iI y6)), some (.int (iI y7)), some (.int (iI y8)), z9, z10]) (st' := [.int (iI y8), .int (iI (48 * y6)), .ref 191]) rfl ?_
    refine wp_add (a := (48 * y6)) (b := y8) rfl ?_
    obtain ⟨p2, hW⟩ := hW
    refine wp_iald (n := 1152) (F := (m 191)) rfl (S.cell 191 (nc rfl)) (by decide) p2.1 p2.2 (by decide) ?_
    show wp _ _ _ _ _ [.int (iI (m 191 ((((48 * y6) + y8)).toNat)))] _ _
    have hr3 : rJ (m 191 ((((48 * y6) + y8)).toNat)) := S.rg 191 ((((48 * y6) + y8)).toNat) (nl rfl)
    refine wp_g (n := 2) (pc' := 115) (L' := [some (.ref 158), some (.int (iI y1)), some (.int (iI y2)), some (.int (iI y3)), some (.int (iI y4)), some (.int (iI y5)), some (.int (iI y6)), some (.int (iI y7)), some (.int (iI y8)), some (.int (iI (m 191 ((((48 * y6) + y8)).toNat)))), z10]) (st' := [.ref 158]) rfl ?_
    refine wp_getf (v := .ref 191) rfl rfl (S.cell 158 (nc rfl)) (by decide) rfl ?_
    refine wp_g (n := 2) (pc' := 122) (L' := [some (.ref 158), some (.int (iI y1)), some (.int (iI y2)), some (.int (iI y3)), some (.int (iI y4)), some (.int (iI y5)), some (.int (iI y6)), some (.int (iI y7)), some (.int (iI y8)), some (.int (iI (m 191 ((((48 * y6) + y8)).toNat)))), z10]) (st' := [.int (iI y6), .int (iI 48), .ref 191]) rfl ?_
    refine wp_mul (a := 48) (b := y6) rfl ?_
    refine wp_g (n := 1) (pc' := 125) (L' := [some (.ref 158), some (.int (iI y1)), some (.int (iI y2)), some (.int (iI y3)), some (.int (iI y4)), some (.int (iI y5)), some (.int (iI y6)), some (.int (iI y7)), some (.int (iI y8)), some (.int (iI (m 191 ((((48 * y6) + y8)).toNat)))), z10]) (st' := [.int (iI y8), .int (iI (48 * y6)), .ref 191]) rfl ?_
    refine wp_add (a := (48 * y6)) (b := y8) rfl ?_
    refine wp_g (n := 1) (pc' := 127) (L' := [some (.ref 158), some (.int (iI y1)), some (.int (iI y2)), some (.int (iI y3)), some (.int (iI y4)), some (.int (iI y5)), some (.int (iI y6)), some (.int (iI y7)), some (.int (iI y8)), some (.int (iI (m 191 ((((48 * y6) + y8)).toNat)))), z10]) (st' := [.ref 158, .int (iI ((48 * y6) + y8)), .ref 191]) rfl ?_
    refine wp_getf (v := .ref 191) rfl rfl (S.cell 158 (nc rfl)) (by decide) rfl ?_
    refine wp_g (n := 2) (pc' := 134) (L' := [some (.ref 158), some (.int (iI y1)), some (.int (iI y2)), some (.int (iI y3)), some (.int (iI y4)), some (.int (iI y5)), some (.int (iI y6)), some (.int (iI y7)), some (.int (iI y8)), some (.int (iI (m 191 ((((48 * y6) + y8)).toNat)))), z10]) (st' := [.int (iI y4), .int (iI 48), .ref 191, .int (iI ((48 * y6) + y8)), .ref 191]) rfl ?_
    refine wp_mul (a := 48) (b := y4) rfl ?_
    refine wp_g (n := 1) (pc' := 137) (L' := [some (.ref 158), some (.int (iI y1)), some (.int (iI y2)), some (.int (iI y3)), some (.int (iI y4)), some (.int (iI y5)), some (.int (iI y6)), some (.int (iI y7)), some (.int (iI y8)), some (.int (iI (m 191 ((((48 * y6) + y8)).toNat)))), z10]) (st' := [.int (iI y8), .int (iI (48 * y4)), .ref 191, .int (iI ((48 * y6) + y8)), .ref 191]) rfl ?_
    refine wp_add (a := (48 * y4)) (b := y8) rfl ?_
    obtain ⟨p4, hW⟩ := hW
    refine wp_iald (n := 1152) (F := (m 191)) rfl (S.cell 191 (nc rfl)) (by decide) p4.1 p4.2 (by decide) ?_
    show wp _ _ _ _ _ [.int (iI (m 191 ((((48 * y4) + y8)).toNat))), .int (iI ((48 * y6) + y8)), .ref 191] _ _
    have hr5 : rJ (m 191 ((((48 * y4) + y8)).toNat)) := S.rg 191 ((((48 * y4) + y8)).toNat) (nl rfl)
    obtain ⟨p7, hW⟩ := hW
    refine wp_iasF (n := 1152) (F := (m 191)) (y := (m 191 ((((48 * y4) + y8)).toNat))) rfl (S.cell 191 (nc rfl)) p7.1 p7.2 (by decide) (fun H6 hl6 hz6 hf6 => ?_)
    have S : ST H6 (up m 191 (up (m 191) ((((48 * y6) + y8)).toNat) (m 191 ((((48 * y4) + y8)).toNat)))) γ t := S.setI 191 (nc rfl) hl6 hz6 hf6 hr5.1 hr5.2
    refine wp_g (n := 1) (pc' := 141) (L' := [some (.ref 158), some (.int (iI y1)), some (.int (iI y2)), some (.int (iI y3)), some (.int (iI y4)), some (.int (iI y5)), some (.int (iI y6)), some (.int (iI y7)), some (.int (iI y8)), some (.int (iI (m 191 ((((48 * y6) + y8)).toNat)))), z10]) (st' := [.ref 158]) rfl ?_
    refine wp_getf (v := .ref 191) rfl rfl (S.cell 158 (nc rfl)) (by decide) rfl ?_
    refine wp_g (n := 2) (pc' := 148) (L' := [some (.ref 158), some (.int (iI y1)), some (.int (iI y2)), some (.int (iI y3)), some (.int (iI y4)), some (.int (iI y5)), some (.int (iI y6)), some (.int (iI y7)), some (.int (iI y8)), some (.int (iI (m 191 ((((48 * y6) + y8)).toNat)))), z10]) (st' := [.int (iI y4), .int (iI 48), .ref 191]) rfl ?_
    refine wp_mul (a := 48) (b := y4) rfl ?_
    refine wp_g (n := 1) (pc' := 151) (L' := [some (.ref 158), some (.int (iI y1)), some (.int (iI y2)), some (.int (iI y3)), some (.int (iI y4)), some (.int (iI y5)), some (.int (iI y6)), some (.int (iI y7)), some (.int (iI y8)), some (.int (iI (m 191 ((((48 * y6) + y8)).toNat)))), z10]) (st' := [.int (iI y8), .int (iI (48 * y4)), .ref 191]) rfl ?_
    refine wp_add (a := (48 * y4)) (b := y8) rfl ?_
    refine wp_g (n := 2) (pc' := 156) (L' := [some (.ref 158), some (.int (iI y1)), some (.int (iI y2)), some (.int (iI y3)), some (.int (iI y4)), some (.int (iI y5)), some (.int (iI y6)), some (.int (iI y7)), some (.int (iI y8)), some (.int (iI (m 191 ((((48 * y6) + y8)).toNat)))), z10]) (st' := [.int (iI y7), .int (iI (m 191 ((((48 * y6) + y8)).toNat))), .int (iI ((48 * y4) + y8)), .ref 191]) rfl ?_
    refine wp_mul (a := (m 191 ((((48 * y6) + y8)).toNat))) (b := y7) rfl ?_
    refine wp_g (n := 1) (pc' := 158) (L' := [some (.ref 158), some (.int (iI y1)), some (.int (iI y2)), some (.int (iI y3)), some (.int (iI y4)), some (.int (iI y5)), some (.int (iI y6)), some (.int (iI y7)), some (.int (iI y8)), some (.int (iI (m 191 ((((48 * y6) + y8)).toNat)))), z10]) (st' := [.int (iI y3), .int (iI ((m 191 ((((48 * y6) + y8)).toNat)) * y7)), .int (iI ((48 * y4) + y8)), .ref 191]) rfl ?_
    obtain ⟨p8, hW⟩ := hW
    obtain ⟨p9, hW⟩ := hW
    obtain ⟨p10, hW⟩ := hW
    refine wp_rem (a := ((m 191 ((((48 * y6) + y8)).toNat)) * y7)) (b := y3) rfl p9 p8.2 p10 hy3.2 ?_
    obtain ⟨p12, hW⟩ := hW
    obtain ⟨p13, hW⟩ := hW
    refine wp_iasF (n := 1152) (F := (up (m 191) ((((48 * y6) + y8)).toNat) (m 191 ((((48 * y4) + y8)).toNat)))) (y := (((m 191 ((((48 * y6) + y8)).toNat)) * y7) % y3)) rfl (S.cell 191 (nc rfl)) p12.1 p12.2 (by decide) (fun H11 hl11 hz11 hf11 => ?_)
    have S : ST H11 (up (up m 191 (up (m 191) ((((48 * y6) + y8)).toNat) (m 191 ((((48 * y4) + y8)).toNat)))) 191 (up (up (m 191) ((((48 * y6) + y8)).toNat) (m 191 ((((48 * y4) + y8)).toNat))) ((((48 * y4) + y8)).toNat) (((m 191 ((((48 * y6) + y8)).toNat)) * y7) % y3))) γ t := S.setI 191 (nc rfl) hl11 hz11 hf11 p13.1 p13.2
    refine wp_iinc (L' := [some (.ref 158), some (.int (iI y1)), some (.int (iI y2)), some (.int (iI y3)), some (.int (iI y4)), some (.int (iI y5)), some (.int (iI y6)), some (.int (iI y7)), some (.int (iI (y8 + 1))), some (.int (iI (m 191 ((((48 * y6) + y8)).toNat)))), z10]) (a := y8) rfl rfl rfl ?_
    refine wp_g (n := 1) (pc' := 93) (L' := [some (.ref 158), some (.int (iI y1)), some (.int (iI y2)), some (.int (iI y3)), some (.int (iI y4)), some (.int (iI y5)), some (.int (iI y6)), some (.int (iI y7)), some (.int (iI (y8 + 1))), some (.int (iI (m 191 ((((48 * y6) + y8)).toNat)))), z10]) (st' := []) rfl ?_
    exact hW (some (.int (iI (m 191 ((((48 * y6) + y8)).toNat))))) z10 _ S
theorem vc_X9_rankBy_172 {E : am_E} {k : Nat} {x1 : Int} {x2 : Int} {x3 : Int} {y1 : Int} {y2 : Int} {y3 : Int} {y4 : Int} {y5 : Int} {y8 : Int} {m : MM} {γ : GM} {t : am_H} {Q : Int → MM → GM → am_H → Prop} (hx1 : rJ x1) (hx2 : rJ x2) (hx3 : rJ x3) (hy1 : rJ y1) (hy2 : rJ y2) (hy3 : rJ y3) (hy4 : rJ y4) (hy5 : rJ y5) (hy8 : rJ y8) (hW : W_X9_rankBy_172 E k x1 x2 x3 y1 y2 y3 y4 y5 y8 m γ t Q) : hd_X9_rankBy_172 E k x1 x2 x3 y1 y2 y3 y4 y5 y8 m γ t Q := by
  unfold W_X9_rankBy_172 at hW
  intro z6 z7 z9 z10 h S
  refine wp_g (n := 2) (pc' := 175) (L' := [some (.ref 158), some (.int (iI y1)), some (.int (iI y2)), some (.int (iI y3)), some (.int (iI y4)), some (.int (iI y5)), z6, z7, some (.int (iI y8)), z9, z10]) (st' := [.int (iI y1), .int (iI y8)]) rfl ?_
  refine wp_icmpI (a := y8) (b := y1) rfl rfl hy8.1 hy8.2 hy1.1 hy1.2 (fun c1 => ?_) (fun c1 => ?_)
  · have dc1 := (Int.not_lt.mpr c1)
    have hW := hW.2 dc1
    refine wp_iinc (L' := [some (.ref 158), some (.int (iI y1)), some (.int (iI y2)), some (.int (iI y3)), some (.int (iI (y4 + 1))), some (.int (iI y5)), z6, z7, some (.int (iI y8)), z9, z10]) (a := y4) rfl rfl rfl ?_
    refine wp_iinc (L' := [some (.ref 158), some (.int (iI y1)), some (.int (iI y2)), some (.int (iI y3)), some (.int (iI (y4 + 1))), some (.int (iI (y5 + 1))), z6, z7, some (.int (iI y8)), z9, z10]) (a := y5) rfl rfl rfl ?_
    refine wp_g (n := 1) (pc' := 6) (L' := [some (.ref 158), some (.int (iI y1)), some (.int (iI y2)), some (.int (iI y3)), some (.int (iI (y4 + 1))), some (.int (iI (y5 + 1))), z6, z7, some (.int (iI y8)), z9, z10]) (st' := []) rfl ?_
    exact hW z6 z7 (some (.int (iI y8))) z9 z10 _ S
  · have dc1 := (Int.not_le.mp c1)
    have hW := hW.1 dc1
    refine wp_g (n := 1) (pc' := 179) (L' := [some (.ref 158), some (.int (iI y1)), some (.int (iI y2)), some (.int (iI y3)), some (.int (iI y4)), some (.int (iI y5)), z6, z7, some (.int (iI y8)), z9, z10]) (st' := [.ref 158]) rfl ?_
    refine wp_getf (v := .ref 191) rfl rfl (S.cell 158 (nc rfl)) (by decide) rfl ?_
    refine wp_g (n := 2) (pc' := 186) (L' := [some (.ref 158), some (.int (iI y1)), some (.int (iI y2)), some (.int (iI y3)), some (.int (iI y4)), some (.int (iI y5)), z6, z7, some (.int (iI y8)), z9, z10]) (st' := [.int (iI y8), .int (iI 48), .ref 191]) rfl ?_
    refine wp_mul (a := 48) (b := y8) rfl ?_
    refine wp_g (n := 1) (pc' := 189) (L' := [some (.ref 158), some (.int (iI y1)), some (.int (iI y2)), some (.int (iI y3)), some (.int (iI y4)), some (.int (iI y5)), z6, z7, some (.int (iI y8)), z9, z10]) (st' := [.int (iI y5), .int (iI (48 * y8)), .ref 191]) rfl ?_
    refine wp_add (a := (48 * y8)) (b := y5) rfl ?_
    obtain ⟨p2, hW⟩ := hW
    refine wp_iald (n := 1152) (F := (m 191)) rfl (S.cell 191 (nc rfl)) (by decide) p2.1 p2.2 (by decide) ?_
    show wp _ _ _ _ _ [.int (iI (m 191 ((((48 * y8) + y5)).toNat)))] _ _
    have hr3 : rJ (m 191 ((((48 * y8) + y5)).toNat)) := S.rg 191 ((((48 * y8) + y5)).toNat) (nl rfl)
    refine wp_g (n := 3) (pc' := 196) (L' := [some (.ref 158), some (.int (iI y1)), some (.int (iI y2)), some (.int (iI y3)), some (.int (iI y4)), some (.int (iI y5)), z6, z7, some (.int (iI y8)), some (.int (iI (m 191 ((((48 * y8) + y5)).toNat)))), some (.int (iI 0))]) (st' := []) rfl ?_
    exact hW z6 z7 _ S
theorem vc_X9_rankBy_196 {E : am_E} {k : Nat} {x1 : Int} {x2 : Int} {x3 : Int} {y1 : Int} {y2 : Int} {y3 : Int} {y4 : Int} {y5 : Int} {y8 : Int} {y9 : Int} {y10 : Int} {m : MM} {γ : GM} {t : am_H} {Q : Int → MM → GM → am_H → Prop} (hx1 : rJ x1) (hx2 : rJ x2) (hx3 : rJ x3) (hy1 : rJ y1) (hy2 : rJ y2) (hy3 : rJ y3) (hy4 : rJ y4) (hy5 : rJ y5) (hy8 : rJ y8) (hy9 : rJ y9) (hy10 : rJ y10) (hW : W_X9_rankBy_196 E k x1 x2 x3 y1 y2 y3 y4 y5 y8 y9 y10 m γ t Q) : hd_X9_rankBy_196 E k x1 x2 x3 y1 y2 y3 y4 y5 y8 y9 y10 m γ t Q := by
  unfold W_X9_rankBy_196 at hW
  intro z6 z7 h S
  refine wp_g (n := 2) (pc' := 199) (L' := [some (.ref 158), some (.int (iI y1)), some (.int (iI y2)), some (.int (iI y3)), some (.int (iI y4)), some (.int (iI y5)), z6, z7, some (.int (iI y8)), some (.int (iI y9)), some (.int (iI y10))]) (st' := [.int (iI y2), .int (iI y10)]) rfl ?_
  refine wp_icmpI (a := y10) (b := y2) rfl rfl hy10.1 hy10.2 hy2.1 hy2.2 (fun c1 => ?_) (fun c1 => ?_)
  · have dc1 := (Int.not_lt.mpr c1)
    have hW := hW.2 dc1
    refine wp_iinc (L' := [some (.ref 158), some (.int (iI y1)), some (.int (iI y2)), some (.int (iI y3)), some (.int (iI y4)), some (.int (iI y5)), z6, (bif am_c2 z7 then none else z7), some (.int (iI (y8 + 1))), some (.int (iI y9)), some (.int (iI y10))]) (a := y8) rfl rfl rfl ?_
    refine wp_g (n := 1) (pc' := 172) (L' := [some (.ref 158), some (.int (iI y1)), some (.int (iI y2)), some (.int (iI y3)), some (.int (iI y4)), some (.int (iI y5)), z6, (bif am_c2 z7 then none else z7), some (.int (iI (y8 + 1))), some (.int (iI y9)), some (.int (iI y10))]) (st' := []) rfl ?_
    exact hW z6 (bif am_c2 z7 then none else z7) (some (.int (iI y9))) (some (.int (iI y10))) _ S
  · have dc1 := (Int.not_le.mp c1)
    have hW := hW.1 dc1
    refine wp_g (n := 1) (pc' := 204) (L' := [some (.ref 158), some (.int (iI y1)), some (.int (iI y2)), some (.int (iI y3)), some (.int (iI y4)), some (.int (iI y5)), z6, z7, some (.int (iI y8)), some (.int (iI y9)), some (.int (iI y10))]) (st' := [.int (iI y9)]) rfl ?_
    refine wp_ifI (a := y9) rfl rfl hy9.1 hy9.2 (fun c2 => ?_) (fun c2 => ?_)
    · have dc2 := c2
      have hW := hW.1 dc2
      refine wp_iinc (L' := [some (.ref 158), some (.int (iI y1)), some (.int (iI y2)), some (.int (iI y3)), some (.int (iI y4)), some (.int (iI y5)), z6, (bif am_c2 z7 then none else z7), some (.int (iI (y8 + 1))), some (.int (iI y9)), some (.int (iI y10))]) (a := y8) rfl rfl rfl ?_
      refine wp_g (n := 1) (pc' := 172) (L' := [some (.ref 158), some (.int (iI y1)), some (.int (iI y2)), some (.int (iI y3)), some (.int (iI y4)), some (.int (iI y5)), z6, (bif am_c2 z7 then none else z7), some (.int (iI (y8 + 1))), some (.int (iI y9)), some (.int (iI y10))]) (st' := []) rfl ?_
      exact hW z6 (bif am_c2 z7 then none else z7) (some (.int (iI y9))) (some (.int (iI y10))) _ S
    · have dc2 := c2
      have hW := hW.2 dc2
      refine wp_g (n := 1) (pc' := 208) (L' := [some (.ref 158), some (.int (iI y1)), some (.int (iI y2)), some (.int (iI y3)), some (.int (iI y4)), some (.int (iI y5)), z6, z7, some (.int (iI y8)), some (.int (iI y9)), some (.int (iI y10))]) (st' := [.ref 158]) rfl ?_
      refine wp_getf (v := .ref 191) rfl rfl (S.cell 158 (nc rfl)) (by decide) rfl ?_
      refine wp_g (n := 2) (pc' := 215) (L' := [some (.ref 158), some (.int (iI y1)), some (.int (iI y2)), some (.int (iI y3)), some (.int (iI y4)), some (.int (iI y5)), z6, z7, some (.int (iI y8)), some (.int (iI y9)), some (.int (iI y10))]) (st' := [.int (iI y8), .int (iI 48), .ref 191]) rfl ?_
      refine wp_mul (a := 48) (b := y8) rfl ?_
      refine wp_g (n := 1) (pc' := 218) (L' := [some (.ref 158), some (.int (iI y1)), some (.int (iI y2)), some (.int (iI y3)), some (.int (iI y4)), some (.int (iI y5)), z6, z7, some (.int (iI y8)), some (.int (iI y9)), some (.int (iI y10))]) (st' := [.int (iI y10), .int (iI (48 * y8)), .ref 191]) rfl ?_
      refine wp_add (a := (48 * y8)) (b := y10) rfl ?_
      refine wp_g (n := 1) (pc' := 220) (L' := [some (.ref 158), some (.int (iI y1)), some (.int (iI y2)), some (.int (iI y3)), some (.int (iI y4)), some (.int (iI y5)), z6, z7, some (.int (iI y8)), some (.int (iI y9)), some (.int (iI y10))]) (st' := [.ref 158, .int (iI ((48 * y8) + y10)), .ref 191]) rfl ?_
      refine wp_getf (v := .ref 191) rfl rfl (S.cell 158 (nc rfl)) (by decide) rfl ?_
      refine wp_g (n := 2) (pc' := 227) (L' := [some (.ref 158), some (.int (iI y1)), some (.int (iI y2)), some (.int (iI y3)), some (.int (iI y4)), some (.int (iI y5)), z6, z7, some (.int (iI y8)), some (.int (iI y9)), some (.int (iI y10))]) (st' := [.int (iI y8), .int (iI 48), .ref 191, .int (iI ((48 * y8) + y10)), .ref 191]) rfl ?_
      refine wp_mul (a := 48) (b := y8) rfl ?_
      refine wp_g (n := 1) (pc' := 230) (L' := [some (.ref 158), some (.int (iI y1)), some (.int (iI y2)), some (.int (iI y3)), some (.int (iI y4)), some (.int (iI y5)), z6, z7, some (.int (iI y8)), some (.int (iI y9)), some (.int (iI y10))]) (st' := [.int (iI y10), .int (iI (48 * y8)), .ref 191, .int (iI ((48 * y8) + y10)), .ref 191]) rfl ?_
      refine wp_add (a := (48 * y8)) (b := y10) rfl ?_
      obtain ⟨p3, hW⟩ := hW
      refine wp_iald (n := 1152) (F := (m 191)) rfl (S.cell 191 (nc rfl)) (by decide) p3.1 p3.2 (by decide) ?_
      show wp _ _ _ _ _ [.int (iI (m 191 ((((48 * y8) + y10)).toNat))), .int (iI ((48 * y8) + y10)), .ref 191] _ _
      have hr4 : rJ (m 191 ((((48 * y8) + y10)).toNat)) := S.rg 191 ((((48 * y8) + y10)).toNat) (nl rfl)
      refine wp_g (n := 2) (pc' := 235) (L' := [some (.ref 158), some (.int (iI y1)), some (.int (iI y2)), some (.int (iI y3)), some (.int (iI y4)), some (.int (iI y5)), z6, z7, some (.int (iI y8)), some (.int (iI y9)), some (.int (iI y10))]) (st' := [.ref 158, .int (iI y9), .int (iI (m 191 ((((48 * y8) + y10)).toNat))), .int (iI ((48 * y8) + y10)), .ref 191]) rfl ?_
      refine wp_getf (v := .ref 191) rfl rfl (S.cell 158 (nc rfl)) (by decide) rfl ?_
      refine wp_g (n := 2) (pc' := 242) (L' := [some (.ref 158), some (.int (iI y1)), some (.int (iI y2)), some (.int (iI y3)), some (.int (iI y4)), some (.int (iI y5)), z6, z7, some (.int (iI y8)), some (.int (iI y9)), some (.int (iI y10))]) (st' := [.int (iI y4), .int (iI 48), .ref 191, .int (iI y9), .int (iI (m 191 ((((48 * y8) + y10)).toNat))), .int (iI ((48 * y8) + y10)), .ref 191]) rfl ?_
      refine wp_mul (a := 48) (b := y4) rfl ?_
      refine wp_g (n := 1) (pc' := 245) (L' := [some (.ref 158), some (.int (iI y1)), some (.int (iI y2)), some (.int (iI y3)), some (.int (iI y4)), some (.int (iI y5)), z6, z7, some (.int (iI y8)), some (.int (iI y9)), some (.int (iI y10))]) (st' := [.int (iI y10), .int (iI (48 * y4)), .ref 191, .int (iI y9), .int (iI (m 191 ((((48 * y8) + y10)).toNat))), .int (iI ((48 * y8) + y10)), .ref 191]) rfl ?_
      refine wp_add (a := (48 * y4)) (b := y10) rfl ?_
      obtain ⟨p5, hW⟩ := hW
      refine wp_iald (n := 1152) (F := (m 191)) rfl (S.cell 191 (nc rfl)) (by decide) p5.1 p5.2 (by decide) ?_
      show wp _ _ _ _ _ [.int (iI (m 191 ((((48 * y4) + y10)).toNat))), .int (iI y9), .int (iI (m 191 ((((48 * y8) + y10)).toNat))), .int (iI ((48 * y8) + y10)), .ref 191] _ _
      have hr6 : rJ (m 191 ((((48 * y4) + y10)).toNat)) := S.rg 191 ((((48 * y4) + y10)).toNat) (nl rfl)
      refine wp_mul (a := y9) (b := (m 191 ((((48 * y4) + y10)).toNat))) rfl ?_
      refine wp_sub (a := (m 191 ((((48 * y8) + y10)).toNat))) (b := (y9 * (m 191 ((((48 * y4) + y10)).toNat)))) rfl ?_
      refine wp_g (n := 1) (pc' := 250) (L' := [some (.ref 158), some (.int (iI y1)), some (.int (iI y2)), some (.int (iI y3)), some (.int (iI y4)), some (.int (iI y5)), z6, z7, some (.int (iI y8)), some (.int (iI y9)), some (.int (iI y10))]) (st' := [.int (iI y3), .int (iI ((m 191 ((((48 * y8) + y10)).toNat)) - (y9 * (m 191 ((((48 * y4) + y10)).toNat))))), .int (iI ((48 * y8) + y10)), .ref 191]) rfl ?_
      refine wp_cs (As := [.int (iI ((m 191 ((((48 * y8) + y10)).toNat)) - (y9 * (m 191 ((((48 * y4) + y10)).toNat))))), .int (iI y3)]) (rest := [.int (iI ((48 * y8) + y10)), .ref 191]) rfl rfl rfl rfl (Nat.le_of_ble_eq_true rfl) (Nat.le_of_ble_eq_true rfl) (hW _ S) (fun r7 H7 q7 => ?_)
      obtain ⟨v7, m7, γ7, t7, rfl, hv7, S, hW⟩ := q7
      show wp _ _ _ _ _ [.int (iI v7), .int (iI ((48 * y8) + y10)), .ref 191] _ _
      obtain ⟨p9, hW⟩ := hW
      refine wp_iasF (n := 1152) (F := (m7 191)) (y := v7) rfl (S.cell 191 (nc rfl)) p9.1 p9.2 (by decide) (fun H8 hl8 hz8 hf8 => ?_)
      have S : ST H8 (up m7 191 (up (m7 191) ((((48 * y8) + y10)).toNat) v7)) γ7 t7 := S.setI 191 (nc rfl) hl8 hz8 hf8 hv7.1 hv7.2
      refine wp_iinc (L' := [some (.ref 158), some (.int (iI y1)), some (.int (iI y2)), some (.int (iI y3)), some (.int (iI y4)), some (.int (iI y5)), z6, z7, some (.int (iI y8)), some (.int (iI y9)), some (.int (iI (y10 + 1)))]) (a := y10) rfl rfl rfl ?_
      refine wp_g (n := 1) (pc' := 196) (L' := [some (.ref 158), some (.int (iI y1)), some (.int (iI y2)), some (.int (iI y3)), some (.int (iI y4)), some (.int (iI y5)), z6, z7, some (.int (iI y8)), some (.int (iI y9)), some (.int (iI (y10 + 1)))]) (st' := []) rfl ?_
      exact hW z6 z7 _ S
