def hd_X9_goes_9 (E : am_E) (k : Nat) (y1 : Int) (y2 : Int) (m : MM) (γ : GM) (t : am_H) (Q : MM → GM → am_H → Prop) : Prop := ∀ (z3 z4 z5 : Option Value), TT (pV Q) E (k + 1) 210 9 [some (.ref 158), some (.int (iI y1)), some (.int (iI y2)), z3, z4, z5] [] m γ t
def hd_X9_goes_36 (E : am_E) (k : Nat) (y1 : Int) (y2 : Int) (y3 : Int) (m : MM) (γ : GM) (t : am_H) (Q : MM → GM → am_H → Prop) : Prop := ∀ (z4 z5 : Option Value), TT (pV Q) E (k + 1) 210 36 [some (.ref 158), some (.int (iI y1)), some (.int (iI y2)), some (.int (iI y3)), z4, z5] [] m γ t
def hd_X9_goes_70 (E : am_E) (k : Nat) (y1 : Int) (y2 : Int) (y3 : Int) (y4 : Int) (y5 : Int) (m : MM) (γ : GM) (t : am_H) (Q : MM → GM → am_H → Prop) : Prop := TT (pV Q) E (k + 1) 210 70 [some (.ref 158), some (.int (iI y1)), some (.int (iI y2)), some (.int (iI y3)), some (.int (iI y4)), some (.int (iI y5))] [] m γ t
abbrev W_X9_goes (E : am_E) (k : Nat) (m : MM) (γ : GM) (t : am_H) (Q : MM → GM → am_H → Prop) : Prop := (TI E k 203 [.ref 158] m γ t (fun v1 m1 γ1 t1 => (hd_X9_goes_9 E k (4 * v1) 0 m1 γ1 t1 Q)))
abbrev W_X9_goes_9 (E : am_E) (k : Nat) (y1 : Int) (y2 : Int) (m : MM) (γ : GM) (t : am_H) (Q : MM → GM → am_H → Prop) : Prop := (((y2 < y1) → ((0 ≤ y2 ∧ y2 < 64) ∧ (hd_X9_goes_9 E k y1 (y2 + 1) (up m 166 (up (m 166) ((y2).toNat) (-1))) γ t Q))) ∧ (¬ (y2 < y1) → (hd_X9_goes_36 E k y1 0 0 (up m 158 (up (m 158) 16 0)) γ t Q)))
abbrev W_X9_goes_36 (E : am_E) (k : Nat) (y1 : Int) (y2 : Int) (y3 : Int) (m : MM) (γ : GM) (t : am_H) (Q : MM → GM → am_H → Prop) : Prop := (((y3 < y1) → ((0 ≤ y3 ∧ y3 < 64) ∧ ((((m 166 ((y3).toNat)) = (-1)) → ((0 ≤ (m 158 16) ∧ (m 158 16) < 65) ∧ (hd_X9_goes_70 E k y1 y2 y3 y3 1 (up m 170 (up (m 170) (((m 158 16)).toNat) y2)) γ t Q))) ∧ (¬ ((m 166 ((y3).toNat)) = (-1)) → (hd_X9_goes_36 E k y1 y2 (y3 + 1) m γ t Q))))) ∧ (¬ (y3 < y1) → ((0 ≤ (m 158 16) ∧ (m 158 16) < 65) ∧ (Q (up m 170 (up (m 170) (((m 158 16)).toNat) y2)) γ t))))
abbrev W_X9_goes_70 (E : am_E) (k : Nat) (y1 : Int) (y2 : Int) (y3 : Int) (y4 : Int) (y5 : Int) (m : MM) (γ : GM) (t : am_H) (Q : MM → GM → am_H → Prop) : Prop := ((0 ≤ y4 ∧ y4 < 64) ∧ ((((m 166 ((y4).toNat)) = (-1)) → ((0 ≤ y4 ∧ y4 < 64) ∧ ((0 ≤ (m 158 16) ∧ (m 158 16) < 65) ∧ ((0 ≤ y4 ∧ y4 < 64) ∧ (rJ (y2 - (m 170 (((m 158 16)).toNat))) ∧ ((0 ≤ y4 ∧ y4 < 64) ∧ ((y5 = 0 ∨ y5 = 1) ∧ ((0 ≤ y2 ∧ y2 < 64) ∧ (TV E k 209 [.ref 158, .int (iI y4), .int (iI y5)] (up (up (up (up m 166 (up (m 166) ((y4).toNat) (m 158 16))) 167 (up (m 167) ((y4).toNat) (y2 - (m 170 (((m 158 16)).toNat))))) 168 (up (m 168) ((y4).toNat) y5)) 169 (up (m 169) ((y2).toNat) y4)) γ t (fun m20 γ20 t20 => (hd_X9_goes_70 E k y1 (y2 + 1) y3 (m20 158 17) (m20 158 18) m20 γ20 t20 Q))))))))))) ∧ (¬ ((m 166 ((y4).toNat)) = (-1)) → (rJ ((m 158 16) + 1) ∧ (hd_X9_goes_36 E k y1 y2 (y3 + 1) (up m 158 (up (m 158) 16 ((m 158 16) + 1))) γ t Q)))))
theorem vc_X9_goes {E : am_E} {k : Nat} {m : MM} {γ : GM} {t : am_H} {Q : MM → GM → am_H → Prop} (hW : W_X9_goes E k  m γ t Q) : TV E (k + 1) 210 [.ref 158] m γ t Q := by
  unfold W_X9_goes at hW
  intro h S
  refine wp_g (n := 2) (pc' := 2) (L' := [some (.ref 158), none, none, none, none, none]) (st' := [.ref 158, .int (iI 4)]) rfl ?_
  refine wp_cv (As := []) (rest := [.int (iI 4)]) rfl rfl (S.cell 158 (nc rfl)) (by decide) rfl rfl rfl (Nat.le_of_ble_eq_true rfl) (Nat.le_of_ble_eq_true rfl) (hW _ S) (fun r1 H1 q1 => ?_)
  obtain ⟨v1, m1, γ1, t1, rfl, hv1, S, hW⟩ := q1
  show wp _ _ _ _ _ [.int (iI v1), .int (iI 4)] _ _
  refine wp_mul (a := 4) (b := v1) rfl ?_
  refine wp_g (n := 3) (pc' := 9) (L' := [some (.ref 158), some (.int (iI (4 * v1))), some (.int (iI 0)), none, none, none]) (st' := []) rfl ?_
  exact hW none none none _ S
theorem vc_X9_goes_9 {E : am_E} {k : Nat} {y1 : Int} {y2 : Int} {m : MM} {γ : GM} {t : am_H} {Q : MM → GM → am_H → Prop} (hy1 : rJ y1) (hy2 : rJ y2) (hW : W_X9_goes_9 E k y1 y2 m γ t Q) : hd_X9_goes_9 E k y1 y2 m γ t Q := by
  unfold W_X9_goes_9 at hW
  intro z3 z4 z5 h S
  refine wp_g (n := 2) (pc' := 11) (L' := [some (.ref 158), some (.int (iI y1)), some (.int (iI y2)), z3, z4, z5]) (st' := [.int (iI y1), .int (iI y2)]) rfl ?_
  refine wp_icmpI (a := y2) (b := y1) rfl rfl hy2.1 hy2.2 hy1.1 hy1.2 (fun c1 => ?_) (fun c1 => ?_)
  · have dc1 := (Int.not_lt.mpr c1)
    have hW := hW.2 dc1
    refine wp_g (n := 2) (pc' := 29) (L' := [some (.ref 158), some (.int (iI y1)), some (.int (iI y2)), z3, z4, z5]) (st' := [.int (iI 0), .ref 158]) rfl ?_
    refine wp_putI rfl rfl (S.cell 158 (nc rfl)) (Nat.le_of_ble_eq_true rfl) rfl (fun H2 hl2 hz2 hf2 => ?_)
    have S : ST H2 (up m 158 (up (m 158) 16 0)) γ t := S.setI 158 (nc rfl) hl2 hz2 hf2 (by decide) (by decide)
    refine wp_g (n := 4) (pc' := 36) (L' := [some (.ref 158), some (.int (iI y1)), some (.int (iI 0)), some (.int (iI 0)), z4, z5]) (st' := []) rfl ?_
    exact hW z4 z5 _ S
  · have dc1 := (Int.not_le.mp c1)
    have hW := hW.1 dc1
    refine wp_g (n := 1) (pc' := 15) (L' := [some (.ref 158), some (.int (iI y1)), some (.int (iI y2)), z3, z4, z5]) (st' := [.ref 158]) rfl ?_
    refine wp_getf (v := .ref 166) rfl rfl (S.cell 158 (nc rfl)) (by decide) rfl ?_
    refine wp_g (n := 2) (pc' := 20) (L' := [some (.ref 158), some (.int (iI y1)), some (.int (iI y2)), z3, z4, z5]) (st' := [.int (iI (-1)), .int (iI y2), .ref 166]) rfl ?_
    obtain ⟨p4, hW⟩ := hW
    refine wp_iasF (n := 64) (F := (m 166)) (y := (-1)) rfl (S.cell 166 (nc rfl)) p4.1 p4.2 (by decide) (fun H3 hl3 hz3 hf3 => ?_)
    have S : ST H3 (up m 166 (up (m 166) ((y2).toNat) (-1))) γ t := S.setI 166 (nc rfl) hl3 hz3 hf3 (by decide) (by decide)
    refine wp_iinc (L' := [some (.ref 158), some (.int (iI y1)), some (.int (iI (y2 + 1))), z3, z4, z5]) (a := y2) rfl rfl rfl ?_
    refine wp_g (n := 1) (pc' := 9) (L' := [some (.ref 158), some (.int (iI y1)), some (.int (iI (y2 + 1))), z3, z4, z5]) (st' := []) rfl ?_
    exact hW z3 z4 z5 _ S
theorem vc_X9_goes_36 {E : am_E} {k : Nat} {y1 : Int} {y2 : Int} {y3 : Int} {m : MM} {γ : GM} {t : am_H} {Q : MM → GM → am_H → Prop} (hy1 : rJ y1) (hy2 : rJ y2) (hy3 : rJ y3) (hW : W_X9_goes_36 E k y1 y2 y3 m γ t Q) : hd_X9_goes_36 E k y1 y2 y3 m γ t Q := by
  unfold W_X9_goes_36 at hW
  intro z4 z5 h S
  refine wp_g (n := 2) (pc' := 38) (L' := [some (.ref 158), some (.int (iI y1)), some (.int (iI y2)), some (.int (iI y3)), z4, z5]) (st' := [.int (iI y1), .int (iI y3)]) rfl ?_
  refine wp_icmpI (a := y3) (b := y1) rfl rfl hy3.1 hy3.2 hy1.1 hy1.2 (fun c1 => ?_) (fun c1 => ?_)
  · have dc1 := (Int.not_lt.mpr c1)
    have hW := hW.2 dc1
    refine wp_g (n := 1) (pc' := 170) (L' := [some (.ref 158), some (.int (iI y1)), some (.int (iI y2)), some (.int (iI y3)), z4, z5]) (st' := [.ref 158]) rfl ?_
    refine wp_getf (v := .ref 170) rfl rfl (S.cell 158 (nc rfl)) (by decide) rfl ?_
    refine wp_g (n := 1) (pc' := 174) (L' := [some (.ref 158), some (.int (iI y1)), some (.int (iI y2)), some (.int (iI y3)), z4, z5]) (st' := [.ref 158, .ref 170]) rfl ?_
    refine wp_getf (v := .int (iI (m 158 16))) rfl rfl (S.cell 158 (nc rfl)) (by decide) rfl ?_
    have hr2 : rJ (m 158 16) := S.rg 158 16 (nl rfl)
    refine wp_g (n := 1) (pc' := 178) (L' := [some (.ref 158), some (.int (iI y1)), some (.int (iI y2)), some (.int (iI y3)), z4, z5]) (st' := [.int (iI y2), .int (iI (m 158 16)), .ref 170]) rfl ?_
    obtain ⟨p4, hW⟩ := hW
    refine wp_iasF (n := 65) (F := (m 170)) (y := y2) rfl (S.cell 170 (nc rfl)) p4.1 p4.2 (by decide) (fun H3 hl3 hz3 hf3 => ?_)
    have S : ST H3 (up m 170 (up (m 170) (((m 158 16)).toNat) y2)) γ t := S.setI 170 (nc rfl) hl3 hz3 hf3 hy2.1 hy2.2
    exact wp_vret rfl rfl ⟨_, _, _, rfl, S, hW⟩
  · have dc1 := (Int.not_le.mp c1)
    have hW := hW.1 dc1
    refine wp_g (n := 1) (pc' := 42) (L' := [some (.ref 158), some (.int (iI y1)), some (.int (iI y2)), some (.int (iI y3)), z4, z5]) (st' := [.ref 158]) rfl ?_
    refine wp_getf (v := .ref 166) rfl rfl (S.cell 158 (nc rfl)) (by decide) rfl ?_
    refine wp_g (n := 1) (pc' := 46) (L' := [some (.ref 158), some (.int (iI y1)), some (.int (iI y2)), some (.int (iI y3)), z4, z5]) (st' := [.int (iI y3), .ref 166]) rfl ?_
    obtain ⟨p5, hW⟩ := hW
    refine wp_iald (n := 64) (F := (m 166)) rfl (S.cell 166 (nc rfl)) (by decide) p5.1 p5.2 (by decide) ?_
    show wp _ _ _ _ _ [.int (iI (m 166 ((y3).toNat)))] _ _
    have hr6 : rJ (m 166 ((y3).toNat)) := S.rg 166 ((y3).toNat) (nl rfl)
    refine wp_g (n := 1) (pc' := 48) (L' := [some (.ref 158), some (.int (iI y1)), some (.int (iI y2)), some (.int (iI y3)), z4, z5]) (st' := [.int (iI (-1)), .int (iI (m 166 ((y3).toNat)))]) rfl ?_
    refine wp_icmpI (a := (m 166 ((y3).toNat))) (b := (-1)) rfl rfl hr6.1 hr6.2 (by decide) (by decide) (fun c7 => ?_) (fun c7 => ?_)
    · have dc7 := c7
      have hW := hW.1 dc7
      refine wp_g (n := 1) (pc' := 55) (L' := [some (.ref 158), some (.int (iI y1)), some (.int (iI y2)), some (.int (iI y3)), z4, z5]) (st' := [.ref 158]) rfl ?_
      refine wp_getf (v := .ref 170) rfl rfl (S.cell 158 (nc rfl)) (by decide) rfl ?_
      refine wp_g (n := 1) (pc' := 59) (L' := [some (.ref 158), some (.int (iI y1)), some (.int (iI y2)), some (.int (iI y3)), z4, z5]) (st' := [.ref 158, .ref 170]) rfl ?_
      refine wp_getf (v := .int (iI (m 158 16))) rfl rfl (S.cell 158 (nc rfl)) (by decide) rfl ?_
      have hr8 : rJ (m 158 16) := S.rg 158 16 (nl rfl)
      refine wp_g (n := 1) (pc' := 63) (L' := [some (.ref 158), some (.int (iI y1)), some (.int (iI y2)), some (.int (iI y3)), z4, z5]) (st' := [.int (iI y2), .int (iI (m 158 16)), .ref 170]) rfl ?_
      obtain ⟨p10, hW⟩ := hW
      refine wp_iasF (n := 65) (F := (m 170)) (y := y2) rfl (S.cell 170 (nc rfl)) p10.1 p10.2 (by decide) (fun H9 hl9 hz9 hf9 => ?_)
      have S : ST H9 (up m 170 (up (m 170) (((m 158 16)).toNat) y2)) γ t := S.setI 170 (nc rfl) hl9 hz9 hf9 hy2.1 hy2.2
      refine wp_g (n := 4) (pc' := 70) (L' := [some (.ref 158), some (.int (iI y1)), some (.int (iI y2)), some (.int (iI y3)), some (.int (iI y3)), some (.int (iI 1))]) (st' := []) rfl ?_
      exact hW _ S
    · have dc7 := c7
      have hW := hW.2 dc7
      refine wp_g (n := 1) (pc' := 163) (L' := [some (.ref 158), some (.int (iI y1)), some (.int (iI y2)), some (.int (iI y3)), z4, z5]) (st' := []) rfl ?_
      refine wp_iinc (L' := [some (.ref 158), some (.int (iI y1)), some (.int (iI y2)), some (.int (iI (y3 + 1))), z4, z5]) (a := y3) rfl rfl rfl ?_
      refine wp_g (n := 1) (pc' := 36) (L' := [some (.ref 158), some (.int (iI y1)), some (.int (iI y2)), some (.int (iI (y3 + 1))), z4, z5]) (st' := []) rfl ?_
      exact hW z4 z5 _ S
theorem vc_X9_goes_70 {E : am_E} {k : Nat} {y1 : Int} {y2 : Int} {y3 : Int} {y4 : Int} {y5 : Int} {m : MM} {γ : GM} {t : am_H} {Q : MM → GM → am_H → Prop} (hy1 : rJ y1) (hy2 : rJ y2) (hy3 : rJ y3) (hy4 : rJ y4) (hy5 : rJ y5) (hW : W_X9_goes_70 E k y1 y2 y3 y4 y5 m γ t Q) : hd_X9_goes_70 E k y1 y2 y3 y4 y5 m γ t Q := by
  unfold W_X9_goes_70 at hW
  intro h S
  refine wp_g (n := 1) (pc' := 71) (L' := [some (.ref 158), some (.int (iI y1)), some (.int (iI y2)), some (.int (iI y3)), some (.int (iI y4)), some (.int (iI y5))]) (st' := [.ref 158]) rfl ?_
  refine wp_getf (v := .ref 166) rfl rfl (S.cell 158 (nc rfl)) (by decide) rfl ?_
  refine wp_g (n := 1) (pc' := 76) (L' := [some (.ref 158), some (.int (iI y1)), some (.int (iI y2)), some (.int (iI y3)), some (.int (iI y4)), some (.int (iI y5))]) (st' := [.int (iI y4), .ref 166]) rfl ?_
  obtain ⟨p1, hW⟩ := hW
  refine wp_iald (n := 64) (F := (m 166)) rfl (S.cell 166 (nc rfl)) (by decide) p1.1 p1.2 (by decide) ?_
  show wp _ _ _ _ _ [.int (iI (m 166 ((y4).toNat)))] _ _
  have hr2 : rJ (m 166 ((y4).toNat)) := S.rg 166 ((y4).toNat) (nl rfl)
  refine wp_g (n := 1) (pc' := 78) (L' := [some (.ref 158), some (.int (iI y1)), some (.int (iI y2)), some (.int (iI y3)), some (.int (iI y4)), some (.int (iI y5))]) (st' := [.int (iI (-1)), .int (iI (m 166 ((y4).toNat)))]) rfl ?_
  refine wp_icmpI (a := (m 166 ((y4).toNat))) (b := (-1)) rfl rfl hr2.1 hr2.2 (by decide) (by decide) (fun c3 => ?_) (fun c3 => ?_)
  · have dc3 := c3
    have hW := hW.2 dc3
    refine wp_g (n := 2) (pc' := 155) (L' := [some (.ref 158), some (.int (iI y1)), some (.int (iI y2)), some (.int (iI y3)), some (.int (iI y4)), some (.int (iI y5))]) (st' := [.ref 158, .ref 158]) rfl ?_
    refine wp_getf (v := .int (iI (m 158 16))) rfl rfl (S.cell 158 (nc rfl)) (by decide) rfl ?_
    have hr4 : rJ (m 158 16) := S.rg 158 16 (nl rfl)
    refine wp_g (n := 1) (pc' := 159) (L' := [some (.ref 158), some (.int (iI y1)), some (.int (iI y2)), some (.int (iI y3)), some (.int (iI y4)), some (.int (iI y5))]) (st' := [.int (iI 1), .int (iI (m 158 16)), .ref 158]) rfl ?_
    refine wp_add (a := (m 158 16)) (b := 1) rfl ?_
    obtain ⟨p6, hW⟩ := hW
    refine wp_putI rfl rfl (S.cell 158 (nc rfl)) (Nat.le_of_ble_eq_true rfl) rfl (fun H5 hl5 hz5 hf5 => ?_)
    have S : ST H5 (up m 158 (up (m 158) 16 ((m 158 16) + 1))) γ t := S.setI 158 (nc rfl) hl5 hz5 hf5 p6.1 p6.2
    refine wp_iinc (L' := [some (.ref 158), some (.int (iI y1)), some (.int (iI y2)), some (.int (iI (y3 + 1))), some (.int (iI y4)), some (.int (iI y5))]) (a := y3) rfl rfl rfl ?_
    refine wp_g (n := 1) (pc' := 36) (L' := [some (.ref 158), some (.int (iI y1)), some (.int (iI y2)), some (.int (iI (y3 + 1))), some (.int (iI y4)), some (.int (iI y5))]) (st' := []) rfl ?_
    exact hW (some (.int (iI y4))) (some (.int (iI y5))) _ S
  · have dc3 := (Classical.not_not.mp c3)
    have hW := hW.1 dc3
    refine wp_g (n := 1) (pc' := 82) (L' := [some (.ref 158), some (.int (iI y1)), some (.int (iI y2)), some (.int (iI y3)), some (.int (iI y4)), some (.int (iI y5))]) (st' := [.ref 158]) rfl ?_
    refine wp_getf (v := .ref 166) rfl rfl (S.cell 158 (nc rfl)) (by decide) rfl ?_
    refine wp_g (n := 2) (pc' := 88) (L' := [some (.ref 158), some (.int (iI y1)), some (.int (iI y2)), some (.int (iI y3)), some (.int (iI y4)), some (.int (iI y5))]) (st' := [.ref 158, .int (iI y4), .ref 166]) rfl ?_
    refine wp_getf (v := .int (iI (m 158 16))) rfl rfl (S.cell 158 (nc rfl)) (by decide) rfl ?_
    have hr7 : rJ (m 158 16) := S.rg 158 16 (nl rfl)
    obtain ⟨p9, hW⟩ := hW
    refine wp_iasF (n := 64) (F := (m 166)) (y := (m 158 16)) rfl (S.cell 166 (nc rfl)) p9.1 p9.2 (by decide) (fun H8 hl8 hz8 hf8 => ?_)
    have S : ST H8 (up m 166 (up (m 166) ((y4).toNat) (m 158 16))) γ t := S.setI 166 (nc rfl) hl8 hz8 hf8 hr7.1 hr7.2
    refine wp_g (n := 1) (pc' := 93) (L' := [some (.ref 158), some (.int (iI y1)), some (.int (iI y2)), some (.int (iI y3)), some (.int (iI y4)), some (.int (iI y5))]) (st' := [.ref 158]) rfl ?_
    refine wp_getf (v := .ref 167) rfl rfl (S.cell 158 (nc rfl)) (by decide) rfl ?_
    refine wp_g (n := 3) (pc' := 100) (L' := [some (.ref 158), some (.int (iI y1)), some (.int (iI y2)), some (.int (iI y3)), some (.int (iI y4)), some (.int (iI y5))]) (st' := [.ref 158, .int (iI y2), .int (iI y4), .ref 167]) rfl ?_
    refine wp_getf (v := .ref 170) rfl rfl (S.cell 158 (nc rfl)) (by decide) rfl ?_
    refine wp_g (n := 1) (pc' := 104) (L' := [some (.ref 158), some (.int (iI y1)), some (.int (iI y2)), some (.int (iI y3)), some (.int (iI y4)), some (.int (iI y5))]) (st' := [.ref 158, .ref 170, .int (iI y2), .int (iI y4), .ref 167]) rfl ?_
    refine wp_getf (v := .int (iI (m 158 16))) rfl rfl (S.cell 158 (nc rfl)) (by decide) rfl ?_
    obtain ⟨p10, hW⟩ := hW
    refine wp_iald (n := 65) (F := (m 170)) rfl (S.cell 170 (nc rfl)) (by decide) p10.1 p10.2 (by decide) ?_
    show wp _ _ _ _ _ [.int (iI (m 170 (((m 158 16)).toNat))), .int (iI y2), .int (iI y4), .ref 167] _ _
    have hr11 : rJ (m 170 (((m 158 16)).toNat)) := S.rg 170 (((m 158 16)).toNat) (nl rfl)
    refine wp_sub (a := y2) (b := (m 170 (((m 158 16)).toNat))) rfl ?_
    obtain ⟨p13, hW⟩ := hW
    obtain ⟨p14, hW⟩ := hW
    refine wp_iasF (n := 64) (F := (m 167)) (y := (y2 - (m 170 (((m 158 16)).toNat)))) rfl (S.cell 167 (nc rfl)) p13.1 p13.2 (by decide) (fun H12 hl12 hz12 hf12 => ?_)
    have S : ST H12 (up (up m 166 (up (m 166) ((y4).toNat) (m 158 16))) 167 (up (m 167) ((y4).toNat) (y2 - (m 170 (((m 158 16)).toNat))))) γ t := S.setI 167 (nc rfl) hl12 hz12 hf12 p14.1 p14.2
    refine wp_g (n := 1) (pc' := 111) (L' := [some (.ref 158), some (.int (iI y1)), some (.int (iI y2)), some (.int (iI y3)), some (.int (iI y4)), some (.int (iI y5))]) (st' := [.ref 158]) rfl ?_
    refine wp_getf (v := .ref 168) rfl rfl (S.cell 158 (nc rfl)) (by decide) rfl ?_
    refine wp_g (n := 2) (pc' := 118) (L' := [some (.ref 158), some (.int (iI y1)), some (.int (iI y2)), some (.int (iI y3)), some (.int (iI y4)), some (.int (iI y5))]) (st' := [.int (iI y5), .int (iI y4), .ref 168]) rfl ?_
    obtain ⟨p16, hW⟩ := hW
    obtain ⟨p17, hW⟩ := hW
    refine wp_tasF (n := 64) (F := (m 168)) (y := y5) rfl (S.cell 168 (nc rfl)) p16.1 p16.2 (by decide) p17 (fun H15 hl15 hz15 hf15 => ?_)
    have S : ST H15 (up (up (up m 166 (up (m 166) ((y4).toNat) (m 158 16))) 167 (up (m 167) ((y4).toNat) (y2 - (m 170 (((m 158 16)).toNat))))) 168 (up (m 168) ((y4).toNat) y5)) γ t := S.setI 168 (nc rfl) hl15 hz15 hf15 hy5.1 hy5.2
    refine wp_g (n := 1) (pc' := 120) (L' := [some (.ref 158), some (.int (iI y1)), some (.int (iI y2)), some (.int (iI y3)), some (.int (iI y4)), some (.int (iI y5))]) (st' := [.ref 158]) rfl ?_
    refine wp_getf (v := .ref 169) rfl rfl (S.cell 158 (nc rfl)) (by decide) rfl ?_
    refine wp_g (n := 2) (pc' := 126) (L' := [some (.ref 158), some (.int (iI y1)), some (.int (iI y2)), some (.int (iI y3)), some (.int (iI y4)), some (.int (iI y5))]) (st' := [.int (iI y4), .int (iI y2), .ref 169]) rfl ?_
    obtain ⟨p19, hW⟩ := hW
    refine wp_iasF (n := 64) (F := (m 169)) (y := y4) rfl (S.cell 169 (nc rfl)) p19.1 p19.2 (by decide) (fun H18 hl18 hz18 hf18 => ?_)
    have S : ST H18 (up (up (up (up m 166 (up (m 166) ((y4).toNat) (m 158 16))) 167 (up (m 167) ((y4).toNat) (y2 - (m 170 (((m 158 16)).toNat))))) 168 (up (m 168) ((y4).toNat) y5)) 169 (up (m 169) ((y2).toNat) y4)) γ t := S.setI 169 (nc rfl) hl18 hz18 hf18 hy4.1 hy4.2
    refine wp_iinc (L' := [some (.ref 158), some (.int (iI y1)), some (.int (iI (y2 + 1))), some (.int (iI y3)), some (.int (iI y4)), some (.int (iI y5))]) (a := y2) rfl rfl rfl ?_
    refine wp_g (n := 3) (pc' := 135) (L' := [some (.ref 158), some (.int (iI y1)), some (.int (iI (y2 + 1))), some (.int (iI y3)), some (.int (iI y4)), some (.int (iI y5))]) (st' := [.int (iI y5), .int (iI y4), .ref 158]) rfl ?_
    refine wp_cv (As := [.int (iI y4), .int (iI y5)]) (rest := []) rfl rfl (S.cell 158 (nc rfl)) (by decide) rfl rfl rfl (Nat.le_of_ble_eq_true rfl) (Nat.le_of_ble_eq_true rfl) (hW _ S) (fun r20 H20 q20 => ?_)
    obtain ⟨m20, γ20, t20, rfl, S, hW⟩ := q20
    show wp _ _ _ _ _ [] _ _
    refine wp_g (n := 1) (pc' := 139) (L' := [some (.ref 158), some (.int (iI y1)), some (.int (iI (y2 + 1))), some (.int (iI y3)), some (.int (iI y4)), some (.int (iI y5))]) (st' := [.ref 158]) rfl ?_
    refine wp_getf (v := .int (iI (m20 158 17))) rfl rfl (S.cell 158 (nc rfl)) (by decide) rfl ?_
    have hr21 : rJ (m20 158 17) := S.rg 158 17 (nl rfl)
    refine wp_g (n := 2) (pc' := 145) (L' := [some (.ref 158), some (.int (iI y1)), some (.int (iI (y2 + 1))), some (.int (iI y3)), some (.int (iI (m20 158 17))), some (.int (iI y5))]) (st' := [.ref 158]) rfl ?_
    refine wp_getf (v := .int (iI (m20 158 18))) rfl rfl (S.cell 158 (nc rfl)) (by decide) rfl ?_
    have hr22 : rJ (m20 158 18) := S.rg 158 18 (nl rfl)
    refine wp_g (n := 2) (pc' := 70) (L' := [some (.ref 158), some (.int (iI y1)), some (.int (iI (y2 + 1))), some (.int (iI y3)), some (.int (iI (m20 158 17))), some (.int (iI (m20 158 18)))]) (st' := []) rfl ?_
    exact hW _ S
abbrev W_X9_lengthOf (E : am_E) (k : Nat) (x1 : Int) (m : MM) (γ : GM) (t : am_H) (Q : Int → MM → GM → am_H → Prop) : Prop := ((0 ≤ (x1 + 1) ∧ (x1 + 1) < 65) ∧ ((0 ≤ x1 ∧ x1 < 65) ∧ (rJ ((m 170 (((x1 + 1)).toNat)) - (m 170 ((x1).toNat))) ∧ (Q ((m 170 (((x1 + 1)).toNat)) - (m 170 ((x1).toNat))) m γ t))))
theorem vc_X9_lengthOf {E : am_E} {k : Nat} {x1 : Int} {m : MM} {γ : GM} {t : am_H} {Q : Int → MM → GM → am_H → Prop} (hx1 : rJ x1) (hW : W_X9_lengthOf E k x1 m γ t Q) : TI E k 211 [.ref 158, .int (iI x1)] m γ t Q := by
  unfold W_X9_lengthOf at hW
  intro h S
  refine wp_g (n := 1) (pc' := 1) (L' := [some (.ref 158), some (.int (iI x1))]) (st' := [.ref 158]) rfl ?_
  refine wp_getf (v := .ref 170) rfl rfl (S.cell 158 (nc rfl)) (by decide) rfl ?_
  refine wp_g (n := 2) (pc' := 6) (L' := [some (.ref 158), some (.int (iI x1))]) (st' := [.int (iI 1), .int (iI x1), .ref 170]) rfl ?_
  refine wp_add (a := x1) (b := 1) rfl ?_
  obtain ⟨p1, hW⟩ := hW
  refine wp_iald (n := 65) (F := (m 170)) rfl (S.cell 170 (nc rfl)) (by decide) p1.1 p1.2 (by decide) ?_
  show wp _ _ _ _ _ [.int (iI (m 170 (((x1 + 1)).toNat)))] _ _
  have hr2 : rJ (m 170 (((x1 + 1)).toNat)) := S.rg 170 (((x1 + 1)).toNat) (nl rfl)
  refine wp_g (n := 1) (pc' := 9) (L' := [some (.ref 158), some (.int (iI x1))]) (st' := [.ref 158, .int (iI (m 170 (((x1 + 1)).toNat)))]) rfl ?_
  refine wp_getf (v := .ref 170) rfl rfl (S.cell 158 (nc rfl)) (by decide) rfl ?_
  refine wp_g (n := 1) (pc' := 13) (L' := [some (.ref 158), some (.int (iI x1))]) (st' := [.int (iI x1), .ref 170, .int (iI (m 170 (((x1 + 1)).toNat)))]) rfl ?_
  obtain ⟨p3, hW⟩ := hW
  refine wp_iald (n := 65) (F := (m 170)) rfl (S.cell 170 (nc rfl)) (by decide) p3.1 p3.2 (by decide) ?_
  show wp _ _ _ _ _ [.int (iI (m 170 ((x1).toNat))), .int (iI (m 170 (((x1 + 1)).toNat)))] _ _
  have hr4 : rJ (m 170 ((x1).toNat)) := S.rg 170 ((x1).toNat) (nl rfl)
  refine wp_sub (a := (m 170 (((x1 + 1)).toNat))) (b := (m 170 ((x1).toNat))) rfl ?_
  obtain ⟨p5, hW⟩ := hW
  exact wp_iret rfl rfl ⟨_, _, _, _, rfl, p5, S, hW⟩
def hd_X9_laysPassings_8 (E : am_E) (k : Nat) (y1 : Int) (y2 : Int) (m : MM) (γ : GM) (t : am_H) (Q : MM → GM → am_H → Prop) : Prop := ∀ (z3 z4 : Option Value), TT (pV Q) E (k + 1) 212 8 [some (.ref 158), some (.int (iI y1)), some (.int (iI y2)), z3, z4] [] m γ t
def hd_X9_laysPassings_30 (E : am_E) (k : Nat) (y1 : Int) (y2 : Int) (y3 : Int) (m : MM) (γ : GM) (t : am_H) (Q : MM → GM → am_H → Prop) : Prop := ∀ (z4 : Option Value), TT (pV Q) E (k + 1) 212 30 [some (.ref 158), some (.int (iI y1)), some (.int (iI y2)), some (.int (iI y3)), z4] [] m γ t
abbrev W_X9_laysPassings (E : am_E) (k : Nat) (m : MM) (γ : GM) (t : am_H) (Q : MM → GM → am_H → Prop) : Prop := (TV E k 210 [.ref 158] m γ t (fun m1 γ1 t1 => (hd_X9_laysPassings_8 E k 0 0 m1 γ1 t1 Q)))
abbrev W_X9_laysPassings_8 (E : am_E) (k : Nat) (y1 : Int) (y2 : Int) (m : MM) (γ : GM) (t : am_H) (Q : MM → GM → am_H → Prop) : Prop := (((y2 < (m 158 16)) → ((0 ≤ y2 ∧ y2 < 65) ∧ ((0 ≤ y2 ∧ y2 < 65) ∧ (hd_X9_laysPassings_30 E k y1 y2 (m 170 ((y2).toNat)) (up m 181 (up (m 181) ((y2).toNat) y1)) γ t Q)))) ∧ (¬ (y2 < (m 158 16)) → ((0 ≤ (m 158 16) ∧ (m 158 16) < 65) ∧ (Q (up m 181 (up (m 181) (((m 158 16)).toNat) y1)) γ t))))
abbrev W_X9_laysPassings_30 (E : am_E) (k : Nat) (y1 : Int) (y2 : Int) (y3 : Int) (m : MM) (γ : GM) (t : am_H) (Q : MM → GM → am_H → Prop) : Prop := ((0 ≤ (y2 + 1) ∧ (y2 + 1) < 65) ∧ (((y3 < (m 170 (((y2 + 1)).toNat))) → ((0 ≤ y3 ∧ y3 < 64) ∧ ((0 ≤ (m 169 ((y3).toNat)) ∧ (m 169 ((y3).toNat)) < 64) ∧ (TV E k 209 [.ref 158, .int (iI (m 169 ((y3).toNat))), .int (iI (m 168 (((m 169 ((y3).toNat))).toNat)))] m γ t (fun m8 γ8 t8 => ((((m8 158 19) = (-1)) → (hd_X9_laysPassings_30 E k y1 y2 (y3 + 1) m8 γ8 t8 Q)) ∧ (¬ ((m8 158 19) = (-1)) → ((0 ≤ (m8 158 19) ∧ (m8 158 19) < 24) ∧ (TI E k 204 [.int (iI (m8 162 (((m8 158 19)).toNat)))] m8 γ8 t8 (fun v13 m13 γ13 t13 => (((v13 = 0) → (hd_X9_laysPassings_30 E k y1 y2 (y3 + 1) m13 γ13 t13 Q)) ∧ (¬ (v13 = 0) → (TI E k 213 [.ref 158, .int (iI (m 169 ((y3).toNat))), .int (iI (m13 158 19)), .int (iI y2), .int (iI y1)] m13 γ13 t13 (fun v16 m16 γ16 t16 => (hd_X9_laysPassings_30 E k v16 y2 (y3 + 1) m16 γ16 t16 Q))))))))))))))) ∧ (¬ (y3 < (m 170 (((y2 + 1)).toNat))) → (hd_X9_laysPassings_8 E k y1 (y2 + 1) m γ t Q))))
theorem vc_X9_laysPassings {E : am_E} {k : Nat} {m : MM} {γ : GM} {t : am_H} {Q : MM → GM → am_H → Prop} (hW : W_X9_laysPassings E k  m γ t Q) : TV E (k + 1) 212 [.ref 158] m γ t Q := by
  unfold W_X9_laysPassings at hW
  intro h S
  refine wp_g (n := 1) (pc' := 1) (L' := [some (.ref 158), none, none, none, none]) (st' := [.ref 158]) rfl ?_
  refine wp_cv (As := []) (rest := []) rfl rfl (S.cell 158 (nc rfl)) (by decide) rfl rfl rfl (Nat.le_of_ble_eq_true rfl) (Nat.le_of_ble_eq_true rfl) (hW _ S) (fun r1 H1 q1 => ?_)
  obtain ⟨m1, γ1, t1, rfl, S, hW⟩ := q1
  show wp _ _ _ _ _ [] _ _
  refine wp_g (n := 4) (pc' := 8) (L' := [some (.ref 158), some (.int (iI 0)), some (.int (iI 0)), none, none]) (st' := []) rfl ?_
  exact hW none none _ S
theorem vc_X9_laysPassings_8 {E : am_E} {k : Nat} {y1 : Int} {y2 : Int} {m : MM} {γ : GM} {t : am_H} {Q : MM → GM → am_H → Prop} (hy1 : rJ y1) (hy2 : rJ y2) (hW : W_X9_laysPassings_8 E k y1 y2 m γ t Q) : hd_X9_laysPassings_8 E k y1 y2 m γ t Q := by
  unfold W_X9_laysPassings_8 at hW
  intro z3 z4 h S
  refine wp_g (n := 2) (pc' := 10) (L' := [some (.ref 158), some (.int (iI y1)), some (.int (iI y2)), z3, z4]) (st' := [.ref 158, .int (iI y2)]) rfl ?_
  refine wp_getf (v := .int (iI (m 158 16))) rfl rfl (S.cell 158 (nc rfl)) (by decide) rfl ?_
  have hr1 : rJ (m 158 16) := S.rg 158 16 (nl rfl)
  refine wp_icmpI (a := y2) (b := (m 158 16)) rfl rfl hy2.1 hy2.2 hr1.1 hr1.2 (fun c2 => ?_) (fun c2 => ?_)
  · have dc2 := (Int.not_lt.mpr c2)
    have hW := hW.2 dc2
    refine wp_g (n := 1) (pc' := 115) (L' := [some (.ref 158), some (.int (iI y1)), some (.int (iI y2)), z3, z4]) (st' := [.ref 158]) rfl ?_
    refine wp_getf (v := .ref 181) rfl rfl (S.cell 158 (nc rfl)) (by decide) rfl ?_
    refine wp_g (n := 1) (pc' := 119) (L' := [some (.ref 158), some (.int (iI y1)), some (.int (iI y2)), z3, z4]) (st' := [.ref 158, .ref 181]) rfl ?_
    refine wp_getf (v := .int (iI (m 158 16))) rfl rfl (S.cell 158 (nc rfl)) (by decide) rfl ?_
    refine wp_g (n := 1) (pc' := 123) (L' := [some (.ref 158), some (.int (iI y1)), some (.int (iI y2)), z3, z4]) (st' := [.int (iI y1), .int (iI (m 158 16)), .ref 181]) rfl ?_
    obtain ⟨p4, hW⟩ := hW
    refine wp_iasF (n := 65) (F := (m 181)) (y := y1) rfl (S.cell 181 (nc rfl)) p4.1 p4.2 (by decide) (fun H3 hl3 hz3 hf3 => ?_)
    have S : ST H3 (up m 181 (up (m 181) (((m 158 16)).toNat) y1)) γ t := S.setI 181 (nc rfl) hl3 hz3 hf3 hy1.1 hy1.2
    exact wp_vret rfl rfl ⟨_, _, _, rfl, S, hW⟩
  · have dc2 := (Int.not_le.mp c2)
    have hW := hW.1 dc2
    refine wp_g (n := 1) (pc' := 17) (L' := [some (.ref 158), some (.int (iI y1)), some (.int (iI y2)), z3, z4]) (st' := [.ref 158]) rfl ?_
    refine wp_getf (v := .ref 181) rfl rfl (S.cell 158 (nc rfl)) (by decide) rfl ?_
    refine wp_g (n := 2) (pc' := 22) (L' := [some (.ref 158), some (.int (iI y1)), some (.int (iI y2)), z3, z4]) (st' := [.int (iI y1), .int (iI y2), .ref 181]) rfl ?_
    obtain ⟨p6, hW⟩ := hW
    refine wp_iasF (n := 65) (F := (m 181)) (y := y1) rfl (S.cell 181 (nc rfl)) p6.1 p6.2 (by decide) (fun H5 hl5 hz5 hf5 => ?_)
    have S : ST H5 (up m 181 (up (m 181) ((y2).toNat) y1)) γ t := S.setI 181 (nc rfl) hl5 hz5 hf5 hy1.1 hy1.2
    refine wp_g (n := 1) (pc' := 24) (L' := [some (.ref 158), some (.int (iI y1)), some (.int (iI y2)), z3, z4]) (st' := [.ref 158]) rfl ?_
    refine wp_getf (v := .ref 170) rfl rfl (S.cell 158 (nc rfl)) (by decide) rfl ?_
    refine wp_g (n := 1) (pc' := 28) (L' := [some (.ref 158), some (.int (iI y1)), some (.int (iI y2)), z3, z4]) (st' := [.int (iI y2), .ref 170]) rfl ?_
    obtain ⟨p7, hW⟩ := hW
    refine wp_iald (n := 65) (F := (m 170)) rfl (S.cell 170 (nc rfl)) (by decide) p7.1 p7.2 (by decide) ?_
    show wp _ _ _ _ _ [.int (iI (m 170 ((y2).toNat)))] _ _
    have hr8 : rJ (m 170 ((y2).toNat)) := S.rg 170 ((y2).toNat) (nl rfl)
    refine wp_g (n := 1) (pc' := 30) (L' := [some (.ref 158), some (.int (iI y1)), some (.int (iI y2)), some (.int (iI (m 170 ((y2).toNat)))), z4]) (st' := []) rfl ?_
    exact hW z4 _ S
theorem vc_X9_laysPassings_30 {E : am_E} {k : Nat} {y1 : Int} {y2 : Int} {y3 : Int} {m : MM} {γ : GM} {t : am_H} {Q : MM → GM → am_H → Prop} (hy1 : rJ y1) (hy2 : rJ y2) (hy3 : rJ y3) (hW : W_X9_laysPassings_30 E k y1 y2 y3 m γ t Q) : hd_X9_laysPassings_30 E k y1 y2 y3 m γ t Q := by
  unfold W_X9_laysPassings_30 at hW
  intro z4 h S
  refine wp_g (n := 2) (pc' := 32) (L' := [some (.ref 158), some (.int (iI y1)), some (.int (iI y2)), some (.int (iI y3)), z4]) (st' := [.ref 158, .int (iI y3)]) rfl ?_
  refine wp_getf (v := .ref 170) rfl rfl (S.cell 158 (nc rfl)) (by decide) rfl ?_
  refine wp_g (n := 2) (pc' := 37) (L' := [some (.ref 158), some (.int (iI y1)), some (.int (iI y2)), some (.int (iI y3)), z4]) (st' := [.int (iI 1), .int (iI y2), .ref 170, .int (iI y3)]) rfl ?_
  refine wp_add (a := y2) (b := 1) rfl ?_
  obtain ⟨p1, hW⟩ := hW
  refine wp_iald (n := 65) (F := (m 170)) rfl (S.cell 170 (nc rfl)) (by decide) p1.1 p1.2 (by decide) ?_
  show wp _ _ _ _ _ [.int (iI (m 170 (((y2 + 1)).toNat))), .int (iI y3)] _ _
  have hr2 : rJ (m 170 (((y2 + 1)).toNat)) := S.rg 170 (((y2 + 1)).toNat) (nl rfl)
  refine wp_icmpI (a := y3) (b := (m 170 (((y2 + 1)).toNat))) rfl rfl hy3.1 hy3.2 hr2.1 hr2.2 (fun c3 => ?_) (fun c3 => ?_)
  · have dc3 := (Int.not_lt.mpr c3)
    have hW := hW.2 dc3
    refine wp_iinc (L' := [some (.ref 158), some (.int (iI y1)), some (.int (iI (y2 + 1))), some (.int (iI y3)), z4]) (a := y2) rfl rfl rfl ?_
    refine wp_g (n := 1) (pc' := 8) (L' := [some (.ref 158), some (.int (iI y1)), some (.int (iI (y2 + 1))), some (.int (iI y3)), z4]) (st' := []) rfl ?_
    exact hW (some (.int (iI y3))) z4 _ S
  · have dc3 := (Int.not_le.mp c3)
    have hW := hW.1 dc3
    refine wp_g (n := 1) (pc' := 43) (L' := [some (.ref 158), some (.int (iI y1)), some (.int (iI y2)), some (.int (iI y3)), z4]) (st' := [.ref 158]) rfl ?_
    refine wp_getf (v := .ref 169) rfl rfl (S.cell 158 (nc rfl)) (by decide) rfl ?_
    refine wp_g (n := 1) (pc' := 47) (L' := [some (.ref 158), some (.int (iI y1)), some (.int (iI y2)), some (.int (iI y3)), z4]) (st' := [.int (iI y3), .ref 169]) rfl ?_
    obtain ⟨p4, hW⟩ := hW
    refine wp_iald (n := 64) (F := (m 169)) rfl (S.cell 169 (nc rfl)) (by decide) p4.1 p4.2 (by decide) ?_
    show wp _ _ _ _ _ [.int (iI (m 169 ((y3).toNat)))] _ _
    have hr5 : rJ (m 169 ((y3).toNat)) := S.rg 169 ((y3).toNat) (nl rfl)
    refine wp_g (n := 4) (pc' := 54) (L' := [some (.ref 158), some (.int (iI y1)), some (.int (iI y2)), some (.int (iI y3)), some (.int (iI (m 169 ((y3).toNat))))]) (st' := [.ref 158, .int (iI (m 169 ((y3).toNat))), .ref 158]) rfl ?_
    refine wp_getf (v := .ref 168) rfl rfl (S.cell 158 (nc rfl)) (by decide) rfl ?_
    refine wp_g (n := 1) (pc' := 59) (L' := [some (.ref 158), some (.int (iI y1)), some (.int (iI y2)), some (.int (iI y3)), some (.int (iI (m 169 ((y3).toNat))))]) (st' := [.int (iI (m 169 ((y3).toNat))), .ref 168, .int (iI (m 169 ((y3).toNat))), .ref 158]) rfl ?_
    obtain ⟨p6, hW⟩ := hW
    refine wp_tald (n := 64) (F := (m 168)) rfl (S.cell 168 (nc rfl)) (by decide) p6.1 p6.2 (by decide) ?_
    show wp _ _ _ _ _ [.int (iI (m 168 (((m 169 ((y3).toNat))).toNat))), .int (iI (m 169 ((y3).toNat))), .ref 158] _ _
    have hr7 : rJ (m 168 (((m 169 ((y3).toNat))).toNat)) := S.rg 168 (((m 169 ((y3).toNat))).toNat) (nl rfl)
    refine wp_cv (As := [.int (iI (m 169 ((y3).toNat))), .int (iI (m 168 (((m 169 ((y3).toNat))).toNat)))]) (rest := []) rfl rfl (S.cell 158 (nc rfl)) (by decide) rfl rfl rfl (Nat.le_of_ble_eq_true rfl) (Nat.le_of_ble_eq_true rfl) (hW _ S) (fun r8 H8 q8 => ?_)
    obtain ⟨m8, γ8, t8, rfl, S, hW⟩ := q8
    show wp _ _ _ _ _ [] _ _
    refine wp_g (n := 1) (pc' := 64) (L' := [some (.ref 158), some (.int (iI y1)), some (.int (iI y2)), some (.int (iI y3)), some (.int (iI (m 169 ((y3).toNat))))]) (st' := [.ref 158]) rfl ?_
    refine wp_getf (v := .int (iI (m8 158 19))) rfl rfl (S.cell 158 (nc rfl)) (by decide) rfl ?_
    have hr9 : rJ (m8 158 19) := S.rg 158 19 (nl rfl)
    refine wp_g (n := 1) (pc' := 68) (L' := [some (.ref 158), some (.int (iI y1)), some (.int (iI y2)), some (.int (iI y3)), some (.int (iI (m 169 ((y3).toNat))))]) (st' := [.int (iI (-1)), .int (iI (m8 158 19))]) rfl ?_
    refine wp_icmpI (a := (m8 158 19)) (b := (-1)) rfl rfl hr9.1 hr9.2 (by decide) (by decide) (fun c10 => ?_) (fun c10 => ?_)
    · have dc10 := c10
      have hW := hW.1 dc10
      refine wp_iinc (L' := [some (.ref 158), some (.int (iI y1)), some (.int (iI y2)), some (.int (iI (y3 + 1))), some (.int (iI (m 169 ((y3).toNat))))]) (a := y3) rfl rfl rfl ?_
      refine wp_g (n := 1) (pc' := 30) (L' := [some (.ref 158), some (.int (iI y1)), some (.int (iI y2)), some (.int (iI (y3 + 1))), some (.int (iI (m 169 ((y3).toNat))))]) (st' := []) rfl ?_
      exact hW (some (.int (iI (m 169 ((y3).toNat))))) _ S
    · have dc10 := c10
      have hW := hW.2 dc10
      refine wp_g (n := 1) (pc' := 72) (L' := [some (.ref 158), some (.int (iI y1)), some (.int (iI y2)), some (.int (iI y3)), some (.int (iI (m 169 ((y3).toNat))))]) (st' := [.ref 158]) rfl ?_
      refine wp_getf (v := .ref 162) rfl rfl (S.cell 158 (nc rfl)) (by decide) rfl ?_
      refine wp_g (n := 1) (pc' := 76) (L' := [some (.ref 158), some (.int (iI y1)), some (.int (iI y2)), some (.int (iI y3)), some (.int (iI (m 169 ((y3).toNat))))]) (st' := [.ref 158, .ref 162]) rfl ?_
      refine wp_getf (v := .int (iI (m8 158 19))) rfl rfl (S.cell 158 (nc rfl)) (by decide) rfl ?_
      obtain ⟨p11, hW⟩ := hW
      refine wp_iald (n := 24) (F := (m8 162)) rfl (S.cell 162 (nc rfl)) (by decide) p11.1 p11.2 (by decide) ?_
      show wp _ _ _ _ _ [.int (iI (m8 162 (((m8 158 19)).toNat)))] _ _
      have hr12 : rJ (m8 162 (((m8 158 19)).toNat)) := S.rg 162 (((m8 158 19)).toNat) (nl rfl)
      refine wp_cs (As := [.int (iI (m8 162 (((m8 158 19)).toNat)))]) (rest := []) rfl rfl rfl rfl (Nat.le_of_ble_eq_true rfl) (Nat.le_of_ble_eq_true rfl) (hW _ S) (fun r13 H13 q13 => ?_)
      obtain ⟨v13, m13, γ13, t13, rfl, hv13, S, hW⟩ := q13
      show wp _ _ _ _ _ [.int (iI v13)] _ _
      refine wp_ifI (a := v13) rfl rfl hv13.1 hv13.2 (fun c14 => ?_) (fun c14 => ?_)
      · have dc14 := c14
        have hW := hW.2 dc14
        refine wp_g (n := 3) (pc' := 93) (L' := [some (.ref 158), some (.int (iI y1)), some (.int (iI y2)), some (.int (iI y3)), some (.int (iI (m 169 ((y3).toNat))))]) (st' := [.ref 158, .int (iI (m 169 ((y3).toNat))), .ref 158]) rfl ?_
        refine wp_getf (v := .int (iI (m13 158 19))) rfl rfl (S.cell 158 (nc rfl)) (by decide) rfl ?_
        have hr15 : rJ (m13 158 19) := S.rg 158 19 (nl rfl)
        refine wp_g (n := 2) (pc' := 98) (L' := [some (.ref 158), some (.int (iI y1)), some (.int (iI y2)), some (.int (iI y3)), some (.int (iI (m 169 ((y3).toNat))))]) (st' := [.int (iI y1), .int (iI y2), .int (iI (m13 158 19)), .int (iI (m 169 ((y3).toNat))), .ref 158]) rfl ?_
        refine wp_cv (As := [.int (iI (m 169 ((y3).toNat))), .int (iI (m13 158 19)), .int (iI y2), .int (iI y1)]) (rest := []) rfl rfl (S.cell 158 (nc rfl)) (by decide) rfl rfl rfl (Nat.le_of_ble_eq_true rfl) (Nat.le_of_ble_eq_true rfl) (hW _ S) (fun r16 H16 q16 => ?_)
        obtain ⟨v16, m16, γ16, t16, rfl, hv16, S, hW⟩ := q16
        show wp _ _ _ _ _ [.int (iI v16)] _ _
        refine wp_g (n := 1) (pc' := 102) (L' := [some (.ref 158), some (.int (iI v16)), some (.int (iI y2)), some (.int (iI y3)), some (.int (iI (m 169 ((y3).toNat))))]) (st' := []) rfl ?_
        refine wp_iinc (L' := [some (.ref 158), some (.int (iI v16)), some (.int (iI y2)), some (.int (iI (y3 + 1))), some (.int (iI (m 169 ((y3).toNat))))]) (a := y3) rfl rfl rfl ?_
        refine wp_g (n := 1) (pc' := 30) (L' := [some (.ref 158), some (.int (iI v16)), some (.int (iI y2)), some (.int (iI (y3 + 1))), some (.int (iI (m 169 ((y3).toNat))))]) (st' := []) rfl ?_
        exact hW (some (.int (iI (m 169 ((y3).toNat))))) _ S
      · have dc14 := (Classical.not_not.mp c14)
        have hW := hW.1 dc14
        refine wp_g (n := 1) (pc' := 102) (L' := [some (.ref 158), some (.int (iI y1)), some (.int (iI y2)), some (.int (iI y3)), some (.int (iI (m 169 ((y3).toNat))))]) (st' := []) rfl ?_
        refine wp_iinc (L' := [some (.ref 158), some (.int (iI y1)), some (.int (iI y2)), some (.int (iI (y3 + 1))), some (.int (iI (m 169 ((y3).toNat))))]) (a := y3) rfl rfl rfl ?_
        refine wp_g (n := 1) (pc' := 30) (L' := [some (.ref 158), some (.int (iI y1)), some (.int (iI y2)), some (.int (iI (y3 + 1))), some (.int (iI (m 169 ((y3).toNat))))]) (st' := []) rfl ?_
        exact hW (some (.int (iI (m 169 ((y3).toNat))))) _ S
def hd_X9_passes_152 (E : am_E) (k : Nat) (x1 : Int) (x2 : Int) (x3 : Int) (x4 : Int) (y2 : Int) (y3 : Int) (y4 : Int) (y7 : Int) (y8 : Int) (y9 : Int) (m : MM) (γ : GM) (t : am_H) (Q : Int → MM → GM → am_H → Prop) : Prop := ∀ (z1 z5 z6 z10 : Option Value), TT (pI Q) E k 213 152 [some (.ref 158), z1, some (.int (iI y2)), some (.int (iI y3)), some (.int (iI y4)), z5, z6, some (.int (iI y7)), some (.int (iI y8)), some (.int (iI y9)), z10] [] m γ t
abbrev W_X9_passes (E : am_E) (k : Nat) (x1 : Int) (x2 : Int) (x3 : Int) (x4 : Int) (m : MM) (γ : GM) (t : am_H) (Q : Int → MM → GM → am_H → Prop) : Prop := (0 ≤ x1 ∧ ((0 ≤ x2 ∧ x2 < 24) ∧ ((((x1 / 4) = (m 163 ((x2).toNat))) → (0 ≤ x1 ∧ ((0 ≤ x2 ∧ x2 < 24) ∧ ((((m 164 ((x2).toNat)) = 0) → ((((x1 % 4) = 0) → (hd_X9_passes_152 E k x1 x2 x3 x4 x2 x3 x4 1 1 1 m γ t Q)) ∧ (¬ ((x1 % 4) = 0) → (hd_X9_passes_152 E k x1 x2 x3 x4 x2 x3 x4 0 1 (-1) m γ t Q)))) ∧ (¬ ((m 164 ((x2).toNat)) = 0) → ((((x1 % 4) = 2) → (hd_X9_passes_152 E k x1 x2 x3 x4 x2 x3 x4 1 1 1 m γ t Q)) ∧ (¬ ((x1 % 4) = 2) → (hd_X9_passes_152 E k x1 x2 x3 x4 x2 x3 x4 0 (-1) 1 m γ t Q)))))))) ∧ (¬ ((x1 / 4) = (m 163 ((x2).toNat))) → (0 ≤ x1 ∧ ((0 ≤ x2 ∧ x2 < 24) ∧ ((((m 164 ((x2).toNat)) = 0) → ((((x1 % 4) = 2) → (hd_X9_passes_152 E k x1 x2 x3 x4 x2 x3 x4 1 (-1) (-1) m γ t Q)) ∧ (¬ ((x1 % 4) = 2) → (hd_X9_passes_152 E k x1 x2 x3 x4 x2 x3 x4 0 (-1) (-(-1)) m γ t Q)))) ∧ (¬ ((m 164 ((x2).toNat)) = 0) → ((((x1 % 4) = 0) → (hd_X9_passes_152 E k x1 x2 x3 x4 x2 x3 x4 1 (-1) (-1) m γ t Q)) ∧ (¬ ((x1 % 4) = 0) → (hd_X9_passes_152 E k x1 x2 x3 x4 x2 x3 x4 0 (-(-1)) (-1) m γ t Q)))))))))))
abbrev W_X9_passes_152 (E : am_E) (k : Nat) (x1 : Int) (x2 : Int) (x3 : Int) (x4 : Int) (y2 : Int) (y3 : Int) (y4 : Int) (y7 : Int) (y8 : Int) (y9 : Int) (m : MM) (γ : GM) (t : am_H) (Q : Int → MM → GM → am_H → Prop) : Prop := ((0 ≤ y2 ∧ y2 < 24) ∧ ((((m 164 ((y2).toNat)) = 0) → ((0 ≤ y2 ∧ y2 < 24) ∧ ((((m 162 ((y2).toNat)) = 0) → (((y7 = 1) → ((0 ≤ y2 ∧ y2 < 24) ∧ ((0 ≤ y2 ∧ y2 < 24) ∧ ((0 ≤ y2 ∧ y2 < 24) ∧ ((0 ≤ y2 ∧ y2 < 24) ∧ ((0 ≤ y4 ∧ y4 < 48) ∧ ((0 ≤ y4 ∧ y4 < 48) ∧ (rJ (y4 + 1) ∧ (Q (y4 + 1) (up (up (up (up (up (up m 171 (up (m 171) ((y2).toNat) y3)) 173 (up (m 173) ((y2).toNat) y4)) 175 (up (m 175) ((y2).toNat) y8)) 176 (up (m 176) ((y2).toNat) y9)) 179 (up (m 179) ((y4).toNat) y2)) 180 (up (m 180) ((y4).toNat) 1)) γ t))))))))) ∧ (¬ (y7 = 1) → ((0 ≤ y2 ∧ y2 < 24) ∧ ((0 ≤ y2 ∧ y2 < 24) ∧ ((0 ≤ y2 ∧ y2 < 24) ∧ ((0 ≤ y2 ∧ y2 < 24) ∧ ((0 ≤ y4 ∧ y4 < 48) ∧ ((0 ≤ y4 ∧ y4 < 48) ∧ (rJ (y4 + 1) ∧ (Q (y4 + 1) (up (up (up (up (up (up m 172 (up (m 172) ((y2).toNat) y3)) 174 (up (m 174) ((y2).toNat) y4)) 177 (up (m 177) ((y2).toNat) y8)) 178 (up (m 178) ((y2).toNat) y9)) 179 (up (m 179) ((y4).toNat) y2)) 180 (up (m 180) ((y4).toNat) 0)) γ t))))))))))) ∧ (¬ ((m 162 ((y2).toNat)) = 0) → (((y7 = 0) → ((0 ≤ y2 ∧ y2 < 24) ∧ ((0 ≤ y2 ∧ y2 < 24) ∧ ((0 ≤ y2 ∧ y2 < 24) ∧ ((0 ≤ y2 ∧ y2 < 24) ∧ ((0 ≤ y4 ∧ y4 < 48) ∧ ((0 ≤ y4 ∧ y4 < 48) ∧ (rJ (y4 + 1) ∧ (Q (y4 + 1) (up (up (up (up (up (up m 171 (up (m 171) ((y2).toNat) y3)) 173 (up (m 173) ((y2).toNat) y4)) 175 (up (m 175) ((y2).toNat) y8)) 176 (up (m 176) ((y2).toNat) y9)) 179 (up (m 179) ((y4).toNat) y2)) 180 (up (m 180) ((y4).toNat) 1)) γ t))))))))) ∧ (¬ (y7 = 0) → ((0 ≤ y2 ∧ y2 < 24) ∧ ((0 ≤ y2 ∧ y2 < 24) ∧ ((0 ≤ y2 ∧ y2 < 24) ∧ ((0 ≤ y2 ∧ y2 < 24) ∧ ((0 ≤ y4 ∧ y4 < 48) ∧ ((0 ≤ y4 ∧ y4 < 48) ∧ (rJ (y4 + 1) ∧ (Q (y4 + 1) (up (up (up (up (up (up m 172 (up (m 172) ((y2).toNat) y3)) 174 (up (m 174) ((y2).toNat) y4)) 177 (up (m 177) ((y2).toNat) y8)) 178 (up (m 178) ((y2).toNat) y9)) 179 (up (m 179) ((y4).toNat) y2)) 180 (up (m 180) ((y4).toNat) 0)) γ t)))))))))))))) ∧ (¬ ((m 164 ((y2).toNat)) = 0) → (((y7 = 0) → ((0 ≤ y2 ∧ y2 < 24) ∧ ((((m 162 ((y2).toNat)) = 0) → ((0 ≤ y2 ∧ y2 < 24) ∧ ((0 ≤ y2 ∧ y2 < 24) ∧ ((0 ≤ y2 ∧ y2 < 24) ∧ ((0 ≤ y2 ∧ y2 < 24) ∧ ((0 ≤ y4 ∧ y4 < 48) ∧ ((0 ≤ y4 ∧ y4 < 48) ∧ (rJ (y4 + 1) ∧ (Q (y4 + 1) (up (up (up (up (up (up m 171 (up (m 171) ((y2).toNat) y3)) 173 (up (m 173) ((y2).toNat) y4)) 175 (up (m 175) ((y2).toNat) y8)) 176 (up (m 176) ((y2).toNat) y9)) 179 (up (m 179) ((y4).toNat) y2)) 180 (up (m 180) ((y4).toNat) 1)) γ t))))))))) ∧ (¬ ((m 162 ((y2).toNat)) = 0) → ((0 ≤ y2 ∧ y2 < 24) ∧ ((0 ≤ y2 ∧ y2 < 24) ∧ ((0 ≤ y2 ∧ y2 < 24) ∧ ((0 ≤ y2 ∧ y2 < 24) ∧ ((0 ≤ y4 ∧ y4 < 48) ∧ ((0 ≤ y4 ∧ y4 < 48) ∧ (rJ (y4 + 1) ∧ (Q (y4 + 1) (up (up (up (up (up (up m 172 (up (m 172) ((y2).toNat) y3)) 174 (up (m 174) ((y2).toNat) y4)) 177 (up (m 177) ((y2).toNat) y8)) 178 (up (m 178) ((y2).toNat) y9)) 179 (up (m 179) ((y4).toNat) y2)) 180 (up (m 180) ((y4).toNat) 0)) γ t)))))))))))) ∧ (¬ (y7 = 0) → ((0 ≤ y2 ∧ y2 < 24) ∧ ((((m 162 ((y2).toNat)) = 0) → ((0 ≤ y2 ∧ y2 < 24) ∧ ((0 ≤ y2 ∧ y2 < 24) ∧ ((0 ≤ y2 ∧ y2 < 24) ∧ ((0 ≤ y2 ∧ y2 < 24) ∧ ((0 ≤ y4 ∧ y4 < 48) ∧ ((0 ≤ y4 ∧ y4 < 48) ∧ (rJ (y4 + 1) ∧ (Q (y4 + 1) (up (up (up (up (up (up m 172 (up (m 172) ((y2).toNat) y3)) 174 (up (m 174) ((y2).toNat) y4)) 177 (up (m 177) ((y2).toNat) y8)) 178 (up (m 178) ((y2).toNat) y9)) 179 (up (m 179) ((y4).toNat) y2)) 180 (up (m 180) ((y4).toNat) 0)) γ t))))))))) ∧ (¬ ((m 162 ((y2).toNat)) = 0) → ((0 ≤ y2 ∧ y2 < 24) ∧ ((0 ≤ y2 ∧ y2 < 24) ∧ ((0 ≤ y2 ∧ y2 < 24) ∧ ((0 ≤ y2 ∧ y2 < 24) ∧ ((0 ≤ y4 ∧ y4 < 48) ∧ ((0 ≤ y4 ∧ y4 < 48) ∧ (rJ (y4 + 1) ∧ (Q (y4 + 1) (up (up (up (up (up (up m 171 (up (m 171) ((y2).toNat) y3)) 173 (up (m 173) ((y2).toNat) y4)) 175 (up (m 175) ((y2).toNat) y8)) 176 (up (m 176) ((y2).toNat) y9)) 179 (up (m 179) ((y4).toNat) y2)) 180 (up (m 180) ((y4).toNat) 1)) γ t))))))))))))))))
theorem vc_X9_passes {E : am_E} {k : Nat} {x1 : Int} {x2 : Int} {x3 : Int} {x4 : Int} {m : MM} {γ : GM} {t : am_H} {Q : Int → MM → GM → am_H → Prop} (hx1 : rJ x1) (hx2 : rJ x2) (hx3 : rJ x3) (hx4 : rJ x4) (hW : W_X9_passes E k x1 x2 x3 x4 m γ t Q) : TI E k 213 [.ref 158, .int (iI x1), .int (iI x2), .int (iI x3), .int (iI x4)] m γ t Q := by
  unfold W_X9_passes at hW
  intro h S
  refine wp_g (n := 2) (pc' := 2) (L' := [some (.ref 158), some (.int (iI x1)), some (.int (iI x2)), some (.int (iI x3)), some (.int (iI x4)), none, none, none, none, none, none]) (st' := [.int (iI 4), .int (iI x1)]) rfl ?_
  obtain ⟨p1, hW⟩ := hW
  refine wp_div (a := x1) (b := 4) rfl p1 hx1.2 (by decide) (by decide) ?_
  have hr2 : rJ (x1 / 4) := by have := hx1; omega
  refine wp_g (n := 1) (pc' := 4) (L' := [some (.ref 158), some (.int (iI x1)), some (.int (iI x2)), some (.int (iI x3)), some (.int (iI x4)), none, none, none, none, none, none]) (st' := [.ref 158, .int (iI (x1 / 4))]) rfl ?_
  refine wp_getf (v := .ref 163) rfl rfl (S.cell 158 (nc rfl)) (by decide) rfl ?_
  refine wp_g (n := 1) (pc' := 8) (L' := [some (.ref 158), some (.int (iI x1)), some (.int (iI x2)), some (.int (iI x3)), some (.int (iI x4)), none, none, none, none, none, none]) (st' := [.int (iI x2), .ref 163, .int (iI (x1 / 4))]) rfl ?_
  obtain ⟨p3, hW⟩ := hW
  refine wp_iald (n := 24) (F := (m 163)) rfl (S.cell 163 (nc rfl)) (by decide) p3.1 p3.2 (by decide) ?_
  show wp _ _ _ _ _ [.int (iI (m 163 ((x2).toNat))), .int (iI (x1 / 4))] _ _
  have hr4 : rJ (m 163 ((x2).toNat)) := S.rg 163 ((x2).toNat) (nl rfl)
  refine wp_icmpI (a := (x1 / 4)) (b := (m 163 ((x2).toNat))) rfl rfl hr2.1 hr2.2 hr4.1 hr4.2 (fun c5 => ?_) (fun c5 => ?_)
  · have dc5 := c5
    have hW := hW.2 dc5
    refine wp_g (n := 4) (pc' := 21) (L' := [some (.ref 158), some (.int (iI x1)), some (.int (iI x2)), some (.int (iI x3)), some (.int (iI x4)), some (.int (iI 0)), none, none, none, none, none]) (st' := [.int (iI 4), .int (iI x1)]) rfl ?_
    obtain ⟨p6, hW⟩ := hW
    refine wp_rem (a := x1) (b := 4) rfl p6 hx1.2 (by decide) (by decide) ?_
    have hr7 : rJ (x1 % 4) := by omega
    refine wp_g (n := 2) (pc' := 25) (L' := [some (.ref 158), some (.int (iI x1)), some (.int (iI x2)), some (.int (iI x3)), some (.int (iI x4)), some (.int (iI 0)), some (.int (iI (x1 % 4))), none, none, none, none]) (st' := [.ref 158]) rfl ?_
    refine wp_getf (v := .ref 164) rfl rfl (S.cell 158 (nc rfl)) (by decide) rfl ?_
    refine wp_g (n := 1) (pc' := 29) (L' := [some (.ref 158), some (.int (iI x1)), some (.int (iI x2)), some (.int (iI x3)), some (.int (iI x4)), some (.int (iI 0)), some (.int (iI (x1 % 4))), none, none, none, none]) (st' := [.int (iI x2), .ref 164]) rfl ?_
    obtain ⟨p8, hW⟩ := hW
    refine wp_iald (n := 24) (F := (m 164)) rfl (S.cell 164 (nc rfl)) (by decide) p8.1 p8.2 (by decide) ?_
    show wp _ _ _ _ _ [.int (iI (m 164 ((x2).toNat)))] _ _
    have hr9 : rJ (m 164 ((x2).toNat)) := S.rg 164 ((x2).toNat) (nl rfl)
    refine wp_ifI (a := (m 164 ((x2).toNat))) rfl rfl hr9.1 hr9.2 (fun c10 => ?_) (fun c10 => ?_)
    · have dc10 := c10
      have hW := hW.2 dc10
      refine wp_g (n := 1) (pc' := 96) (L' := [some (.ref 158), some (.int (iI x1)), some (.int (iI x2)), some (.int (iI x3)), some (.int (iI x4)), some (.int (iI 0)), some (.int (iI (x1 % 4))), none, none, none, none]) (st' := [.int (iI 0)]) rfl ?_
      refine wp_g (n := 1) (pc' := 113) (L' := [some (.ref 158), some (.int (iI x1)), some (.int (iI x2)), some (.int (iI x3)), some (.int (iI x4)), some (.int (iI 0)), some (.int (iI (x1 % 4))), none, none, none, none]) (st' := []) rfl ?_
      refine wp_g (n := 1) (pc' := 115) (L' := [some (.ref 158), some (.int (iI x1)), some (.int (iI x2)), some (.int (iI x3)), some (.int (iI x4)), some (.int (iI 0)), some (.int (iI (x1 % 4))), none, none, none, none]) (st' := [.int (iI (x1 % 4))]) rfl ?_
      refine wp_ifI (a := (x1 % 4)) rfl rfl hr7.1 hr7.2 (fun c11 => ?_) (fun c11 => ?_)
      · have dc11 := c11
        have hW := hW.2 dc11
        refine wp_g (n := 3) (pc' := 127) (L' := [some (.ref 158), some (.int (iI x1)), some (.int (iI x2)), some (.int (iI x3)), some (.int (iI x4)), some (.int (iI 0)), some (.int (iI (x1 % 4))), some (.int (iI 0)), none, none, none]) (st' := [.int (iI 0)]) rfl ?_
        refine wp_g (n := 1) (pc' := 134) (L' := [some (.ref 158), some (.int (iI x1)), some (.int (iI x2)), some (.int (iI x3)), some (.int (iI x4)), some (.int (iI 0)), some (.int (iI (x1 % 4))), some (.int (iI 0)), none, none, none]) (st' := []) rfl ?_
        refine wp_g (n := 3) (pc' := 139) (L' := [some (.ref 158), some (.int (iI x1)), some (.int (iI x2)), some (.int (iI x3)), some (.int (iI x4)), some (.int (iI 0)), some (.int (iI (x1 % 4))), some (.int (iI 0)), none, some (.int (iI (-1))), none]) (st' := [.int (iI 0)]) rfl ?_
        refine wp_g (n := 1) (pc' := 147) (L' := [some (.ref 158), some (.int (iI x1)), some (.int (iI x2)), some (.int (iI x3)), some (.int (iI x4)), some (.int (iI 0)), some (.int (iI (x1 % 4))), some (.int (iI 0)), none, some (.int (iI (-1))), none]) (st' := []) rfl ?_
        refine wp_g (n := 1) (pc' := 149) (L' := [some (.ref 158), some (.int (iI x1)), some (.int (iI x2)), some (.int (iI x3)), some (.int (iI x4)), some (.int (iI 0)), some (.int (iI (x1 % 4))), some (.int (iI 0)), none, some (.int (iI (-1))), none]) (st' := [.int (iI (-1))]) rfl ?_
        refine wp_neg (a := (-1)) rfl ?_
        refine wp_g (n := 1) (pc' := 152) (L' := [some (.ref 158), some (.int (iI x1)), some (.int (iI x2)), some (.int (iI x3)), some (.int (iI x4)), some (.int (iI 0)), some (.int (iI (x1 % 4))), some (.int (iI 0)), some (.int (iI (-(-1)))), some (.int (iI (-1))), none]) (st' := []) rfl ?_
        exact hW (some (.int (iI x1))) (some (.int (iI 0))) (some (.int (iI (x1 % 4)))) none _ S
      · have dc11 := (Classical.not_not.mp c11)
        have hW := hW.1 dc11
        refine wp_g (n := 4) (pc' := 127) (L' := [some (.ref 158), some (.int (iI x1)), some (.int (iI x2)), some (.int (iI x3)), some (.int (iI x4)), some (.int (iI 0)), some (.int (iI (x1 % 4))), some (.int (iI 1)), none, none, none]) (st' := [.int (iI 0)]) rfl ?_
        refine wp_g (n := 1) (pc' := 134) (L' := [some (.ref 158), some (.int (iI x1)), some (.int (iI x2)), some (.int (iI x3)), some (.int (iI x4)), some (.int (iI 0)), some (.int (iI (x1 % 4))), some (.int (iI 1)), none, none, none]) (st' := []) rfl ?_
        refine wp_g (n := 3) (pc' := 139) (L' := [some (.ref 158), some (.int (iI x1)), some (.int (iI x2)), some (.int (iI x3)), some (.int (iI x4)), some (.int (iI 0)), some (.int (iI (x1 % 4))), some (.int (iI 1)), none, some (.int (iI (-1))), none]) (st' := [.int (iI 1)]) rfl ?_
        refine wp_g (n := 1) (pc' := 142) (L' := [some (.ref 158), some (.int (iI x1)), some (.int (iI x2)), some (.int (iI x3)), some (.int (iI x4)), some (.int (iI 0)), some (.int (iI (x1 % 4))), some (.int (iI 1)), none, some (.int (iI (-1))), none]) (st' := []) rfl ?_
        refine wp_g (n := 3) (pc' := 152) (L' := [some (.ref 158), some (.int (iI x1)), some (.int (iI x2)), some (.int (iI x3)), some (.int (iI x4)), some (.int (iI 0)), some (.int (iI (x1 % 4))), some (.int (iI 1)), some (.int (iI (-1))), some (.int (iI (-1))), none]) (st' := []) rfl ?_
        exact hW (some (.int (iI x1))) (some (.int (iI 0))) (some (.int (iI (x1 % 4)))) none _ S
    · have dc10 := (Classical.not_not.mp c10)
      have hW := hW.1 dc10
      refine wp_g (n := 1) (pc' := 35) (L' := [some (.ref 158), some (.int (iI x1)), some (.int (iI x2)), some (.int (iI x3)), some (.int (iI x4)), some (.int (iI 0)), some (.int (iI (x1 % 4))), none, none, none, none]) (st' := [.int (iI 0)]) rfl ?_
      refine wp_g (n := 1) (pc' := 51) (L' := [some (.ref 158), some (.int (iI x1)), some (.int (iI x2)), some (.int (iI x3)), some (.int (iI x4)), some (.int (iI 0)), some (.int (iI (x1 % 4))), none, none, none, none]) (st' := []) rfl ?_
      refine wp_g (n := 2) (pc' := 54) (L' := [some (.ref 158), some (.int (iI x1)), some (.int (iI x2)), some (.int (iI x3)), some (.int (iI x4)), some (.int (iI 0)), some (.int (iI (x1 % 4))), none, none, none, none]) (st' := [.int (iI 2), .int (iI (x1 % 4))]) rfl ?_
      refine wp_icmpI (a := (x1 % 4)) (b := 2) rfl rfl hr7.1 hr7.2 (by decide) (by decide) (fun c12 => ?_) (fun c12 => ?_)
      · have dc12 := c12
        have hW := hW.2 dc12
        refine wp_g (n := 3) (pc' := 66) (L' := [some (.ref 158), some (.int (iI x1)), some (.int (iI x2)), some (.int (iI x3)), some (.int (iI x4)), some (.int (iI 0)), some (.int (iI (x1 % 4))), some (.int (iI 0)), none, none, none]) (st' := [.int (iI 0)]) rfl ?_
        refine wp_g (n := 1) (pc' := 73) (L' := [some (.ref 158), some (.int (iI x1)), some (.int (iI x2)), some (.int (iI x3)), some (.int (iI x4)), some (.int (iI 0)), some (.int (iI (x1 % 4))), some (.int (iI 0)), none, none, none]) (st' := []) rfl ?_
        refine wp_g (n := 3) (pc' := 78) (L' := [some (.ref 158), some (.int (iI x1)), some (.int (iI x2)), some (.int (iI x3)), some (.int (iI x4)), some (.int (iI 0)), some (.int (iI (x1 % 4))), some (.int (iI 0)), some (.int (iI (-1))), none, none]) (st' := [.int (iI 0)]) rfl ?_
        refine wp_g (n := 1) (pc' := 86) (L' := [some (.ref 158), some (.int (iI x1)), some (.int (iI x2)), some (.int (iI x3)), some (.int (iI x4)), some (.int (iI 0)), some (.int (iI (x1 % 4))), some (.int (iI 0)), some (.int (iI (-1))), none, none]) (st' := []) rfl ?_
        refine wp_g (n := 1) (pc' := 88) (L' := [some (.ref 158), some (.int (iI x1)), some (.int (iI x2)), some (.int (iI x3)), some (.int (iI x4)), some (.int (iI 0)), some (.int (iI (x1 % 4))), some (.int (iI 0)), some (.int (iI (-1))), none, none]) (st' := [.int (iI (-1))]) rfl ?_
        refine wp_neg (a := (-1)) rfl ?_
        refine wp_g (n := 2) (pc' := 152) (L' := [some (.ref 158), some (.int (iI x1)), some (.int (iI x2)), some (.int (iI x3)), some (.int (iI x4)), some (.int (iI 0)), some (.int (iI (x1 % 4))), some (.int (iI 0)), some (.int (iI (-1))), some (.int (iI (-(-1)))), none]) (st' := []) rfl ?_
        exact hW (some (.int (iI x1))) (some (.int (iI 0))) (some (.int (iI (x1 % 4)))) none _ S
      · have dc12 := (Classical.not_not.mp c12)
        have hW := hW.1 dc12
        refine wp_g (n := 4) (pc' := 66) (L' := [some (.ref 158), some (.int (iI x1)), some (.int (iI x2)), some (.int (iI x3)), some (.int (iI x4)), some (.int (iI 0)), some (.int (iI (x1 % 4))), some (.int (iI 1)), none, none, none]) (st' := [.int (iI 0)]) rfl ?_
        refine wp_g (n := 1) (pc' := 73) (L' := [some (.ref 158), some (.int (iI x1)), some (.int (iI x2)), some (.int (iI x3)), some (.int (iI x4)), some (.int (iI 0)), some (.int (iI (x1 % 4))), some (.int (iI 1)), none, none, none]) (st' := []) rfl ?_
        refine wp_g (n := 3) (pc' := 78) (L' := [some (.ref 158), some (.int (iI x1)), some (.int (iI x2)), some (.int (iI x3)), some (.int (iI x4)), some (.int (iI 0)), some (.int (iI (x1 % 4))), some (.int (iI 1)), some (.int (iI (-1))), none, none]) (st' := [.int (iI 1)]) rfl ?_
        refine wp_g (n := 1) (pc' := 81) (L' := [some (.ref 158), some (.int (iI x1)), some (.int (iI x2)), some (.int (iI x3)), some (.int (iI x4)), some (.int (iI 0)), some (.int (iI (x1 % 4))), some (.int (iI 1)), some (.int (iI (-1))), none, none]) (st' := []) rfl ?_
        refine wp_g (n := 4) (pc' := 152) (L' := [some (.ref 158), some (.int (iI x1)), some (.int (iI x2)), some (.int (iI x3)), some (.int (iI x4)), some (.int (iI 0)), some (.int (iI (x1 % 4))), some (.int (iI 1)), some (.int (iI (-1))), some (.int (iI (-1))), none]) (st' := []) rfl ?_
        exact hW (some (.int (iI x1))) (some (.int (iI 0))) (some (.int (iI (x1 % 4)))) none _ S
  · have dc5 := (Classical.not_not.mp c5)
    have hW := hW.1 dc5
    refine wp_g (n := 5) (pc' := 21) (L' := [some (.ref 158), some (.int (iI x1)), some (.int (iI x2)), some (.int (iI x3)), some (.int (iI x4)), some (.int (iI 1)), none, none, none, none, none]) (st' := [.int (iI 4), .int (iI x1)]) rfl ?_
    obtain ⟨p13, hW⟩ := hW
    refine wp_rem (a := x1) (b := 4) rfl p13 hx1.2 (by decide) (by decide) ?_
    have hr14 : rJ (x1 % 4) := by omega
    refine wp_g (n := 2) (pc' := 25) (L' := [some (.ref 158), some (.int (iI x1)), some (.int (iI x2)), some (.int (iI x3)), some (.int (iI x4)), some (.int (iI 1)), some (.int (iI (x1 % 4))), none, none, none, none]) (st' := [.ref 158]) rfl ?_
    refine wp_getf (v := .ref 164) rfl rfl (S.cell 158 (nc rfl)) (by decide) rfl ?_
    refine wp_g (n := 1) (pc' := 29) (L' := [some (.ref 158), some (.int (iI x1)), some (.int (iI x2)), some (.int (iI x3)), some (.int (iI x4)), some (.int (iI 1)), some (.int (iI (x1 % 4))), none, none, none, none]) (st' := [.int (iI x2), .ref 164]) rfl ?_
    obtain ⟨p15, hW⟩ := hW
    refine wp_iald (n := 24) (F := (m 164)) rfl (S.cell 164 (nc rfl)) (by decide) p15.1 p15.2 (by decide) ?_
    show wp _ _ _ _ _ [.int (iI (m 164 ((x2).toNat)))] _ _
    have hr16 : rJ (m 164 ((x2).toNat)) := S.rg 164 ((x2).toNat) (nl rfl)
    refine wp_ifI (a := (m 164 ((x2).toNat))) rfl rfl hr16.1 hr16.2 (fun c17 => ?_) (fun c17 => ?_)
    · have dc17 := c17
      have hW := hW.2 dc17
      refine wp_g (n := 1) (pc' := 96) (L' := [some (.ref 158), some (.int (iI x1)), some (.int (iI x2)), some (.int (iI x3)), some (.int (iI x4)), some (.int (iI 1)), some (.int (iI (x1 % 4))), none, none, none, none]) (st' := [.int (iI 1)]) rfl ?_
      refine wp_g (n := 1) (pc' := 99) (L' := [some (.ref 158), some (.int (iI x1)), some (.int (iI x2)), some (.int (iI x3)), some (.int (iI x4)), some (.int (iI 1)), some (.int (iI (x1 % 4))), none, none, none, none]) (st' := []) rfl ?_
      refine wp_g (n := 2) (pc' := 102) (L' := [some (.ref 158), some (.int (iI x1)), some (.int (iI x2)), some (.int (iI x3)), some (.int (iI x4)), some (.int (iI 1)), some (.int (iI (x1 % 4))), none, none, none, none]) (st' := [.int (iI 2), .int (iI (x1 % 4))]) rfl ?_
      refine wp_icmpI (a := (x1 % 4)) (b := 2) rfl rfl hr14.1 hr14.2 (by decide) (by decide) (fun c18 => ?_) (fun c18 => ?_)
      · have dc18 := c18
        have hW := hW.2 dc18
        refine wp_g (n := 4) (pc' := 127) (L' := [some (.ref 158), some (.int (iI x1)), some (.int (iI x2)), some (.int (iI x3)), some (.int (iI x4)), some (.int (iI 1)), some (.int (iI (x1 % 4))), some (.int (iI 0)), none, none, none]) (st' := [.int (iI 1)]) rfl ?_
        refine wp_g (n := 1) (pc' := 130) (L' := [some (.ref 158), some (.int (iI x1)), some (.int (iI x2)), some (.int (iI x3)), some (.int (iI x4)), some (.int (iI 1)), some (.int (iI (x1 % 4))), some (.int (iI 0)), none, none, none]) (st' := []) rfl ?_
        refine wp_g (n := 4) (pc' := 139) (L' := [some (.ref 158), some (.int (iI x1)), some (.int (iI x2)), some (.int (iI x3)), some (.int (iI x4)), some (.int (iI 1)), some (.int (iI (x1 % 4))), some (.int (iI 0)), none, some (.int (iI 1)), none]) (st' := [.int (iI 0)]) rfl ?_
        refine wp_g (n := 1) (pc' := 147) (L' := [some (.ref 158), some (.int (iI x1)), some (.int (iI x2)), some (.int (iI x3)), some (.int (iI x4)), some (.int (iI 1)), some (.int (iI (x1 % 4))), some (.int (iI 0)), none, some (.int (iI 1)), none]) (st' := []) rfl ?_
        refine wp_g (n := 1) (pc' := 149) (L' := [some (.ref 158), some (.int (iI x1)), some (.int (iI x2)), some (.int (iI x3)), some (.int (iI x4)), some (.int (iI 1)), some (.int (iI (x1 % 4))), some (.int (iI 0)), none, some (.int (iI 1)), none]) (st' := [.int (iI 1)]) rfl ?_
        refine wp_neg (a := 1) rfl ?_
        refine wp_g (n := 1) (pc' := 152) (L' := [some (.ref 158), some (.int (iI x1)), some (.int (iI x2)), some (.int (iI x3)), some (.int (iI x4)), some (.int (iI 1)), some (.int (iI (x1 % 4))), some (.int (iI 0)), some (.int (iI (-1))), some (.int (iI 1)), none]) (st' := []) rfl ?_
        exact hW (some (.int (iI x1))) (some (.int (iI 1))) (some (.int (iI (x1 % 4)))) none _ S
      · have dc18 := (Classical.not_not.mp c18)
        have hW := hW.1 dc18
        refine wp_g (n := 4) (pc' := 127) (L' := [some (.ref 158), some (.int (iI x1)), some (.int (iI x2)), some (.int (iI x3)), some (.int (iI x4)), some (.int (iI 1)), some (.int (iI (x1 % 4))), some (.int (iI 1)), none, none, none]) (st' := [.int (iI 1)]) rfl ?_
        refine wp_g (n := 1) (pc' := 130) (L' := [some (.ref 158), some (.int (iI x1)), some (.int (iI x2)), some (.int (iI x3)), some (.int (iI x4)), some (.int (iI 1)), some (.int (iI (x1 % 4))), some (.int (iI 1)), none, none, none]) (st' := []) rfl ?_
        refine wp_g (n := 4) (pc' := 139) (L' := [some (.ref 158), some (.int (iI x1)), some (.int (iI x2)), some (.int (iI x3)), some (.int (iI x4)), some (.int (iI 1)), some (.int (iI (x1 % 4))), some (.int (iI 1)), none, some (.int (iI 1)), none]) (st' := [.int (iI 1)]) rfl ?_
        refine wp_g (n := 1) (pc' := 142) (L' := [some (.ref 158), some (.int (iI x1)), some (.int (iI x2)), some (.int (iI x3)), some (.int (iI x4)), some (.int (iI 1)), some (.int (iI (x1 % 4))), some (.int (iI 1)), none, some (.int (iI 1)), none]) (st' := []) rfl ?_
        refine wp_g (n := 3) (pc' := 152) (L' := [some (.ref 158), some (.int (iI x1)), some (.int (iI x2)), some (.int (iI x3)), some (.int (iI x4)), some (.int (iI 1)), some (.int (iI (x1 % 4))), some (.int (iI 1)), some (.int (iI 1)), some (.int (iI 1)), none]) (st' := []) rfl ?_
        exact hW (some (.int (iI x1))) (some (.int (iI 1))) (some (.int (iI (x1 % 4)))) none _ S
    · have dc17 := (Classical.not_not.mp c17)
      have hW := hW.1 dc17
      refine wp_g (n := 1) (pc' := 35) (L' := [some (.ref 158), some (.int (iI x1)), some (.int (iI x2)), some (.int (iI x3)), some (.int (iI x4)), some (.int (iI 1)), some (.int (iI (x1 % 4))), none, none, none, none]) (st' := [.int (iI 1)]) rfl ?_
      refine wp_g (n := 1) (pc' := 38) (L' := [some (.ref 158), some (.int (iI x1)), some (.int (iI x2)), some (.int (iI x3)), some (.int (iI x4)), some (.int (iI 1)), some (.int (iI (x1 % 4))), none, none, none, none]) (st' := []) rfl ?_
      refine wp_g (n := 1) (pc' := 40) (L' := [some (.ref 158), some (.int (iI x1)), some (.int (iI x2)), some (.int (iI x3)), some (.int (iI x4)), some (.int (iI 1)), some (.int (iI (x1 % 4))), none, none, none, none]) (st' := [.int (iI (x1 % 4))]) rfl ?_
      refine wp_ifI (a := (x1 % 4)) rfl rfl hr14.1 hr14.2 (fun c19 => ?_) (fun c19 => ?_)
      · have dc19 := c19
        have hW := hW.2 dc19
        refine wp_g (n := 4) (pc' := 66) (L' := [some (.ref 158), some (.int (iI x1)), some (.int (iI x2)), some (.int (iI x3)), some (.int (iI x4)), some (.int (iI 1)), some (.int (iI (x1 % 4))), some (.int (iI 0)), none, none, none]) (st' := [.int (iI 1)]) rfl ?_
        refine wp_g (n := 1) (pc' := 69) (L' := [some (.ref 158), some (.int (iI x1)), some (.int (iI x2)), some (.int (iI x3)), some (.int (iI x4)), some (.int (iI 1)), some (.int (iI (x1 % 4))), some (.int (iI 0)), none, none, none]) (st' := []) rfl ?_
        refine wp_g (n := 4) (pc' := 78) (L' := [some (.ref 158), some (.int (iI x1)), some (.int (iI x2)), some (.int (iI x3)), some (.int (iI x4)), some (.int (iI 1)), some (.int (iI (x1 % 4))), some (.int (iI 0)), some (.int (iI 1)), none, none]) (st' := [.int (iI 0)]) rfl ?_
        refine wp_g (n := 1) (pc' := 86) (L' := [some (.ref 158), some (.int (iI x1)), some (.int (iI x2)), some (.int (iI x3)), some (.int (iI x4)), some (.int (iI 1)), some (.int (iI (x1 % 4))), some (.int (iI 0)), some (.int (iI 1)), none, none]) (st' := []) rfl ?_
        refine wp_g (n := 1) (pc' := 88) (L' := [some (.ref 158), some (.int (iI x1)), some (.int (iI x2)), some (.int (iI x3)), some (.int (iI x4)), some (.int (iI 1)), some (.int (iI (x1 % 4))), some (.int (iI 0)), some (.int (iI 1)), none, none]) (st' := [.int (iI 1)]) rfl ?_
        refine wp_neg (a := 1) rfl ?_
        refine wp_g (n := 2) (pc' := 152) (L' := [some (.ref 158), some (.int (iI x1)), some (.int (iI x2)), some (.int (iI x3)), some (.int (iI x4)), some (.int (iI 1)), some (.int (iI (x1 % 4))), some (.int (iI 0)), some (.int (iI 1)), some (.int (iI (-1))), none]) (st' := []) rfl ?_
        exact hW (some (.int (iI x1))) (some (.int (iI 1))) (some (.int (iI (x1 % 4)))) none _ S
      · have dc19 := (Classical.not_not.mp c19)
        have hW := hW.1 dc19
        refine wp_g (n := 4) (pc' := 66) (L' := [some (.ref 158), some (.int (iI x1)), some (.int (iI x2)), some (.int (iI x3)), some (.int (iI x4)), some (.int (iI 1)), some (.int (iI (x1 % 4))), some (.int (iI 1)), none, none, none]) (st' := [.int (iI 1)]) rfl ?_
        refine wp_g (n := 1) (pc' := 69) (L' := [some (.ref 158), some (.int (iI x1)), some (.int (iI x2)), some (.int (iI x3)), some (.int (iI x4)), some (.int (iI 1)), some (.int (iI (x1 % 4))), some (.int (iI 1)), none, none, none]) (st' := []) rfl ?_
        refine wp_g (n := 4) (pc' := 78) (L' := [some (.ref 158), some (.int (iI x1)), some (.int (iI x2)), some (.int (iI x3)), some (.int (iI x4)), some (.int (iI 1)), some (.int (iI (x1 % 4))), some (.int (iI 1)), some (.int (iI 1)), none, none]) (st' := [.int (iI 1)]) rfl ?_
        refine wp_g (n := 1) (pc' := 81) (L' := [some (.ref 158), some (.int (iI x1)), some (.int (iI x2)), some (.int (iI x3)), some (.int (iI x4)), some (.int (iI 1)), some (.int (iI (x1 % 4))), some (.int (iI 1)), some (.int (iI 1)), none, none]) (st' := []) rfl ?_
        refine wp_g (n := 4) (pc' := 152) (L' := [some (.ref 158), some (.int (iI x1)), some (.int (iI x2)), some (.int (iI x3)), some (.int (iI x4)), some (.int (iI 1)), some (.int (iI (x1 % 4))), some (.int (iI 1)), some (.int (iI 1)), some (.int (iI 1)), none]) (st' := []) rfl ?_
        exact hW (some (.int (iI x1))) (some (.int (iI 1))) (some (.int (iI (x1 % 4)))) none _ S
theorem vc_X9_passes_152 {E : am_E} {k : Nat} {x1 : Int} {x2 : Int} {x3 : Int} {x4 : Int} {y2 : Int} {y3 : Int} {y4 : Int} {y7 : Int} {y8 : Int} {y9 : Int} {m : MM} {γ : GM} {t : am_H} {Q : Int → MM → GM → am_H → Prop} (hx1 : rJ x1) (hx2 : rJ x2) (hx3 : rJ x3) (hx4 : rJ x4) (hy2 : rJ y2) (hy3 : rJ y3) (hy4 : rJ y4) (hy7 : rJ y7) (hy8 : rJ y8) (hy9 : rJ y9) (hW : W_X9_passes_152 E k x1 x2 x3 x4 y2 y3 y4 y7 y8 y9 m γ t Q) : hd_X9_passes_152 E k x1 x2 x3 x4 y2 y3 y4 y7 y8 y9 m γ t Q := by
  unfold W_X9_passes_152 at hW
  intro z1 z5 z6 z10 h S
  refine wp_g (n := 1) (pc' := 153) (L' := [some (.ref 158), z1, some (.int (iI y2)), some (.int (iI y3)), some (.int (iI y4)), z5, z6, some (.int (iI y7)), some (.int (iI y8)), some (.int (iI y9)), z10]) (st' := [.ref 158]) rfl ?_
  refine wp_getf (v := .ref 164) rfl rfl (S.cell 158 (nc rfl)) (by decide) rfl ?_
  refine wp_g (n := 1) (pc' := 157) (L' := [some (.ref 158), z1, some (.int (iI y2)), some (.int (iI y3)), some (.int (iI y4)), z5, z6, some (.int (iI y7)), some (.int (iI y8)), some (.int (iI y9)), z10]) (st' := [.int (iI y2), .ref 164]) rfl ?_
  obtain ⟨p1, hW⟩ := hW
  refine wp_iald (n := 24) (F := (m 164)) rfl (S.cell 164 (nc rfl)) (by decide) p1.1 p1.2 (by decide) ?_
  show wp _ _ _ _ _ [.int (iI (m 164 ((y2).toNat)))] _ _
  have hr2 : rJ (m 164 ((y2).toNat)) := S.rg 164 ((y2).toNat) (nl rfl)
  refine wp_ifI (a := (m 164 ((y2).toNat))) rfl rfl hr2.1 hr2.2 (fun c3 => ?_) (fun c3 => ?_)
  · have dc3 := c3
    have hW := hW.2 dc3
    refine wp_g (n := 1) (pc' := 168) (L' := [some (.ref 158), z1, some (.int (iI y2)), some (.int (iI y3)), some (.int (iI y4)), z5, z6, some (.int (iI y7)), some (.int (iI y8)), some (.int (iI y9)), z10]) (st' := [.int (iI y7)]) rfl ?_
    refine wp_ifI (a := y7) rfl rfl hy7.1 hy7.2 (fun c4 => ?_) (fun c4 => ?_)
    · have dc4 := c4
      have hW := hW.2 dc4
      refine wp_g (n := 2) (pc' := 177) (L' := [some (.ref 158), z1, some (.int (iI y2)), some (.int (iI y3)), some (.int (iI y4)), z5, z6, some (.int (iI y7)), some (.int (iI y8)), some (.int (iI y9)), z10]) (st' := [.ref 158, .int (iI 0)]) rfl ?_
      refine wp_getf (v := .ref 162) rfl rfl (S.cell 158 (nc rfl)) (by decide) rfl ?_
      refine wp_g (n := 1) (pc' := 181) (L' := [some (.ref 158), z1, some (.int (iI y2)), some (.int (iI y3)), some (.int (iI y4)), z5, z6, some (.int (iI y7)), some (.int (iI y8)), some (.int (iI y9)), z10]) (st' := [.int (iI y2), .ref 162, .int (iI 0)]) rfl ?_
      obtain ⟨p5, hW⟩ := hW
      refine wp_iald (n := 24) (F := (m 162)) rfl (S.cell 162 (nc rfl)) (by decide) p5.1 p5.2 (by decide) ?_
      show wp _ _ _ _ _ [.int (iI (m 162 ((y2).toNat))), .int (iI 0)] _ _
      have hr6 : rJ (m 162 ((y2).toNat)) := S.rg 162 ((y2).toNat) (nl rfl)
      refine wp_ifI (a := (m 162 ((y2).toNat))) rfl rfl hr6.1 hr6.2 (fun c7 => ?_) (fun c7 => ?_)
      · have dc7 := c7
        have hW := hW.2 dc7
        refine wp_g (n := 1) (pc' := 190) (L' := [some (.ref 158), z1, some (.int (iI y2)), some (.int (iI y3)), some (.int (iI y4)), z5, z6, some (.int (iI y7)), some (.int (iI y8)), some (.int (iI y9)), z10]) (st' := [.int (iI 0), .int (iI 0)]) rfl ?_
        refine wp_g (n := 1) (pc' := 193) (L' := [some (.ref 158), z1, some (.int (iI y2)), some (.int (iI y3)), some (.int (iI y4)), z5, z6, some (.int (iI y7)), some (.int (iI y8)), some (.int (iI y9)), z10]) (st' := []) rfl ?_
        refine wp_g (n := 4) (pc' := 202) (L' := [some (.ref 158), z1, some (.int (iI y2)), some (.int (iI y3)), some (.int (iI y4)), z5, z6, some (.int (iI y7)), some (.int (iI y8)), some (.int (iI y9)), some (.int (iI 1))]) (st' := [.int (iI 1)]) rfl ?_
        refine wp_g (n := 1) (pc' := 205) (L' := [some (.ref 158), z1, some (.int (iI y2)), some (.int (iI y3)), some (.int (iI y4)), z5, z6, some (.int (iI y7)), some (.int (iI y8)), some (.int (iI y9)), some (.int (iI 1))]) (st' := []) rfl ?_
        refine wp_g (n := 1) (pc' := 206) (L' := [some (.ref 158), z1, some (.int (iI y2)), some (.int (iI y3)), some (.int (iI y4)), z5, z6, some (.int (iI y7)), some (.int (iI y8)), some (.int (iI y9)), some (.int (iI 1))]) (st' := [.ref 158]) rfl ?_
        refine wp_getf (v := .ref 171) rfl rfl (S.cell 158 (nc rfl)) (by decide) rfl ?_
        refine wp_g (n := 2) (pc' := 211) (L' := [some (.ref 158), z1, some (.int (iI y2)), some (.int (iI y3)), some (.int (iI y4)), z5, z6, some (.int (iI y7)), some (.int (iI y8)), some (.int (iI y9)), some (.int (iI 1))]) (st' := [.int (iI y3), .int (iI y2), .ref 171]) rfl ?_
        obtain ⟨p9, hW⟩ := hW
        refine wp_iasF (n := 24) (F := (m 171)) (y := y3) rfl (S.cell 171 (nc rfl)) p9.1 p9.2 (by decide) (fun H8 hl8 hz8 hf8 => ?_)
        have S : ST H8 (up m 171 (up (m 171) ((y2).toNat) y3)) γ t := S.setI 171 (nc rfl) hl8 hz8 hf8 hy3.1 hy3.2
        refine wp_g (n := 1) (pc' := 213) (L' := [some (.ref 158), z1, some (.int (iI y2)), some (.int (iI y3)), some (.int (iI y4)), z5, z6, some (.int (iI y7)), some (.int (iI y8)), some (.int (iI y9)), some (.int (iI 1))]) (st' := [.ref 158]) rfl ?_
        refine wp_getf (v := .ref 173) rfl rfl (S.cell 158 (nc rfl)) (by decide) rfl ?_
        refine wp_g (n := 2) (pc' := 219) (L' := [some (.ref 158), z1, some (.int (iI y2)), some (.int (iI y3)), some (.int (iI y4)), z5, z6, some (.int (iI y7)), some (.int (iI y8)), some (.int (iI y9)), some (.int (iI 1))]) (st' := [.int (iI y4), .int (iI y2), .ref 173]) rfl ?_
        obtain ⟨p11, hW⟩ := hW
        refine wp_iasF (n := 24) (F := (m 173)) (y := y4) rfl (S.cell 173 (nc rfl)) p11.1 p11.2 (by decide) (fun H10 hl10 hz10 hf10 => ?_)
        have S : ST H10 (up (up m 171 (up (m 171) ((y2).toNat) y3)) 173 (up (m 173) ((y2).toNat) y4)) γ t := S.setI 173 (nc rfl) hl10 hz10 hf10 hy4.1 hy4.2
        refine wp_g (n := 1) (pc' := 221) (L' := [some (.ref 158), z1, some (.int (iI y2)), some (.int (iI y3)), some (.int (iI y4)), z5, z6, some (.int (iI y7)), some (.int (iI y8)), some (.int (iI y9)), some (.int (iI 1))]) (st' := [.ref 158]) rfl ?_
        refine wp_getf (v := .ref 175) rfl rfl (S.cell 158 (nc rfl)) (by decide) rfl ?_
        refine wp_g (n := 2) (pc' := 227) (L' := [some (.ref 158), z1, some (.int (iI y2)), some (.int (iI y3)), some (.int (iI y4)), z5, z6, some (.int (iI y7)), some (.int (iI y8)), some (.int (iI y9)), some (.int (iI 1))]) (st' := [.int (iI y8), .int (iI y2), .ref 175]) rfl ?_
        obtain ⟨p13, hW⟩ := hW
        refine wp_iasF (n := 24) (F := (m 175)) (y := y8) rfl (S.cell 175 (nc rfl)) p13.1 p13.2 (by decide) (fun H12 hl12 hz12 hf12 => ?_)
        have S : ST H12 (up (up (up m 171 (up (m 171) ((y2).toNat) y3)) 173 (up (m 173) ((y2).toNat) y4)) 175 (up (m 175) ((y2).toNat) y8)) γ t := S.setI 175 (nc rfl) hl12 hz12 hf12 hy8.1 hy8.2
        refine wp_g (n := 1) (pc' := 229) (L' := [some (.ref 158), z1, some (.int (iI y2)), some (.int (iI y3)), some (.int (iI y4)), z5, z6, some (.int (iI y7)), some (.int (iI y8)), some (.int (iI y9)), some (.int (iI 1))]) (st' := [.ref 158]) rfl ?_
        refine wp_getf (v := .ref 176) rfl rfl (S.cell 158 (nc rfl)) (by decide) rfl ?_
        refine wp_g (n := 2) (pc' := 235) (L' := [some (.ref 158), z1, some (.int (iI y2)), some (.int (iI y3)), some (.int (iI y4)), z5, z6, some (.int (iI y7)), some (.int (iI y8)), some (.int (iI y9)), some (.int (iI 1))]) (st' := [.int (iI y9), .int (iI y2), .ref 176]) rfl ?_
        obtain ⟨p15, hW⟩ := hW
        refine wp_iasF (n := 24) (F := (m 176)) (y := y9) rfl (S.cell 176 (nc rfl)) p15.1 p15.2 (by decide) (fun H14 hl14 hz14 hf14 => ?_)
        have S : ST H14 (up (up (up (up m 171 (up (m 171) ((y2).toNat) y3)) 173 (up (m 173) ((y2).toNat) y4)) 175 (up (m 175) ((y2).toNat) y8)) 176 (up (m 176) ((y2).toNat) y9)) γ t := S.setI 176 (nc rfl) hl14 hz14 hf14 hy9.1 hy9.2
        refine wp_g (n := 2) (pc' := 271) (L' := [some (.ref 158), z1, some (.int (iI y2)), some (.int (iI y3)), some (.int (iI y4)), z5, z6, some (.int (iI y7)), some (.int (iI y8)), some (.int (iI y9)), some (.int (iI 1))]) (st' := [.ref 158]) rfl ?_
        refine wp_getf (v := .ref 179) rfl rfl (S.cell 158 (nc rfl)) (by decide) rfl ?_
        refine wp_g (n := 2) (pc' := 277) (L' := [some (.ref 158), z1, some (.int (iI y2)), some (.int (iI y3)), some (.int (iI y4)), z5, z6, some (.int (iI y7)), some (.int (iI y8)), some (.int (iI y9)), some (.int (iI 1))]) (st' := [.int (iI y2), .int (iI y4), .ref 179]) rfl ?_
        obtain ⟨p17, hW⟩ := hW
        refine wp_iasF (n := 48) (F := (m 179)) (y := y2) rfl (S.cell 179 (nc rfl)) p17.1 p17.2 (by decide) (fun H16 hl16 hz16 hf16 => ?_)
        have S : ST H16 (up (up (up (up (up m 171 (up (m 171) ((y2).toNat) y3)) 173 (up (m 173) ((y2).toNat) y4)) 175 (up (m 175) ((y2).toNat) y8)) 176 (up (m 176) ((y2).toNat) y9)) 179 (up (m 179) ((y4).toNat) y2)) γ t := S.setI 179 (nc rfl) hl16 hz16 hf16 hy2.1 hy2.2
        refine wp_g (n := 1) (pc' := 279) (L' := [some (.ref 158), z1, some (.int (iI y2)), some (.int (iI y3)), some (.int (iI y4)), z5, z6, some (.int (iI y7)), some (.int (iI y8)), some (.int (iI y9)), some (.int (iI 1))]) (st' := [.ref 158]) rfl ?_
        refine wp_getf (v := .ref 180) rfl rfl (S.cell 158 (nc rfl)) (by decide) rfl ?_
        refine wp_g (n := 2) (pc' := 286) (L' := [some (.ref 158), z1, some (.int (iI y2)), some (.int (iI y3)), some (.int (iI y4)), z5, z6, some (.int (iI y7)), some (.int (iI y8)), some (.int (iI y9)), some (.int (iI 1))]) (st' := [.int (iI 1), .int (iI y4), .ref 180]) rfl ?_
        obtain ⟨p19, hW⟩ := hW
        refine wp_tasF (n := 48) (F := (m 180)) (y := 1) rfl (S.cell 180 (nc rfl)) p19.1 p19.2 (by decide) (by decide) (fun H18 hl18 hz18 hf18 => ?_)
        have S : ST H18 (up (up (up (up (up (up m 171 (up (m 171) ((y2).toNat) y3)) 173 (up (m 173) ((y2).toNat) y4)) 175 (up (m 175) ((y2).toNat) y8)) 176 (up (m 176) ((y2).toNat) y9)) 179 (up (m 179) ((y4).toNat) y2)) 180 (up (m 180) ((y4).toNat) 1)) γ t := S.setI 180 (nc rfl) hl18 hz18 hf18 (by decide) (by decide)
        refine wp_g (n := 2) (pc' := 290) (L' := [some (.ref 158), z1, some (.int (iI y2)), some (.int (iI y3)), some (.int (iI y4)), z5, z6, some (.int (iI y7)), some (.int (iI y8)), some (.int (iI y9)), some (.int (iI 1))]) (st' := [.int (iI 1), .int (iI y4)]) rfl ?_
        refine wp_add (a := y4) (b := 1) rfl ?_
        obtain ⟨p20, hW⟩ := hW
        exact wp_iret rfl rfl ⟨_, _, _, _, rfl, p20, S, hW⟩
      · have dc7 := (Classical.not_not.mp c7)
        have hW := hW.1 dc7
        refine wp_g (n := 2) (pc' := 190) (L' := [some (.ref 158), z1, some (.int (iI y2)), some (.int (iI y3)), some (.int (iI y4)), z5, z6, some (.int (iI y7)), some (.int (iI y8)), some (.int (iI y9)), z10]) (st' := [.int (iI 1), .int (iI 0)]) rfl ?_
        refine wp_g (n := 1) (pc' := 197) (L' := [some (.ref 158), z1, some (.int (iI y2)), some (.int (iI y3)), some (.int (iI y4)), z5, z6, some (.int (iI y7)), some (.int (iI y8)), some (.int (iI y9)), z10]) (st' := []) rfl ?_
        refine wp_g (n := 3) (pc' := 202) (L' := [some (.ref 158), z1, some (.int (iI y2)), some (.int (iI y3)), some (.int (iI y4)), z5, z6, some (.int (iI y7)), some (.int (iI y8)), some (.int (iI y9)), some (.int (iI 0))]) (st' := [.int (iI 0)]) rfl ?_
        refine wp_g (n := 1) (pc' := 239) (L' := [some (.ref 158), z1, some (.int (iI y2)), some (.int (iI y3)), some (.int (iI y4)), z5, z6, some (.int (iI y7)), some (.int (iI y8)), some (.int (iI y9)), some (.int (iI 0))]) (st' := []) rfl ?_
        refine wp_g (n := 1) (pc' := 240) (L' := [some (.ref 158), z1, some (.int (iI y2)), some (.int (iI y3)), some (.int (iI y4)), z5, z6, some (.int (iI y7)), some (.int (iI y8)), some (.int (iI y9)), some (.int (iI 0))]) (st' := [.ref 158]) rfl ?_
        refine wp_getf (v := .ref 172) rfl rfl (S.cell 158 (nc rfl)) (by decide) rfl ?_
        refine wp_g (n := 2) (pc' := 245) (L' := [some (.ref 158), z1, some (.int (iI y2)), some (.int (iI y3)), some (.int (iI y4)), z5, z6, some (.int (iI y7)), some (.int (iI y8)), some (.int (iI y9)), some (.int (iI 0))]) (st' := [.int (iI y3), .int (iI y2), .ref 172]) rfl ?_
        obtain ⟨p22, hW⟩ := hW
        refine wp_iasF (n := 24) (F := (m 172)) (y := y3) rfl (S.cell 172 (nc rfl)) p22.1 p22.2 (by decide) (fun H21 hl21 hz21 hf21 => ?_)
        have S : ST H21 (up m 172 (up (m 172) ((y2).toNat) y3)) γ t := S.setI 172 (nc rfl) hl21 hz21 hf21 hy3.1 hy3.2
        refine wp_g (n := 1) (pc' := 247) (L' := [some (.ref 158), z1, some (.int (iI y2)), some (.int (iI y3)), some (.int (iI y4)), z5, z6, some (.int (iI y7)), some (.int (iI y8)), some (.int (iI y9)), some (.int (iI 0))]) (st' := [.ref 158]) rfl ?_
        refine wp_getf (v := .ref 174) rfl rfl (S.cell 158 (nc rfl)) (by decide) rfl ?_
        refine wp_g (n := 2) (pc' := 253) (L' := [some (.ref 158), z1, some (.int (iI y2)), some (.int (iI y3)), some (.int (iI y4)), z5, z6, some (.int (iI y7)), some (.int (iI y8)), some (.int (iI y9)), some (.int (iI 0))]) (st' := [.int (iI y4), .int (iI y2), .ref 174]) rfl ?_
        obtain ⟨p24, hW⟩ := hW
        refine wp_iasF (n := 24) (F := (m 174)) (y := y4) rfl (S.cell 174 (nc rfl)) p24.1 p24.2 (by decide) (fun H23 hl23 hz23 hf23 => ?_)
        have S : ST H23 (up (up m 172 (up (m 172) ((y2).toNat) y3)) 174 (up (m 174) ((y2).toNat) y4)) γ t := S.setI 174 (nc rfl) hl23 hz23 hf23 hy4.1 hy4.2
        refine wp_g (n := 1) (pc' := 255) (L' := [some (.ref 158), z1, some (.int (iI y2)), some (.int (iI y3)), some (.int (iI y4)), z5, z6, some (.int (iI y7)), some (.int (iI y8)), some (.int (iI y9)), some (.int (iI 0))]) (st' := [.ref 158]) rfl ?_
        refine wp_getf (v := .ref 177) rfl rfl (S.cell 158 (nc rfl)) (by decide) rfl ?_
        refine wp_g (n := 2) (pc' := 261) (L' := [some (.ref 158), z1, some (.int (iI y2)), some (.int (iI y3)), some (.int (iI y4)), z5, z6, some (.int (iI y7)), some (.int (iI y8)), some (.int (iI y9)), some (.int (iI 0))]) (st' := [.int (iI y8), .int (iI y2), .ref 177]) rfl ?_
        obtain ⟨p26, hW⟩ := hW
        refine wp_iasF (n := 24) (F := (m 177)) (y := y8) rfl (S.cell 177 (nc rfl)) p26.1 p26.2 (by decide) (fun H25 hl25 hz25 hf25 => ?_)
        have S : ST H25 (up (up (up m 172 (up (m 172) ((y2).toNat) y3)) 174 (up (m 174) ((y2).toNat) y4)) 177 (up (m 177) ((y2).toNat) y8)) γ t := S.setI 177 (nc rfl) hl25 hz25 hf25 hy8.1 hy8.2
        refine wp_g (n := 1) (pc' := 263) (L' := [some (.ref 158), z1, some (.int (iI y2)), some (.int (iI y3)), some (.int (iI y4)), z5, z6, some (.int (iI y7)), some (.int (iI y8)), some (.int (iI y9)), some (.int (iI 0))]) (st' := [.ref 158]) rfl ?_
        refine wp_getf (v := .ref 178) rfl rfl (S.cell 158 (nc rfl)) (by decide) rfl ?_
        refine wp_g (n := 2) (pc' := 269) (L' := [some (.ref 158), z1, some (.int (iI y2)), some (.int (iI y3)), some (.int (iI y4)), z5, z6, some (.int (iI y7)), some (.int (iI y8)), some (.int (iI y9)), some (.int (iI 0))]) (st' := [.int (iI y9), .int (iI y2), .ref 178]) rfl ?_
        obtain ⟨p28, hW⟩ := hW
        refine wp_iasF (n := 24) (F := (m 178)) (y := y9) rfl (S.cell 178 (nc rfl)) p28.1 p28.2 (by decide) (fun H27 hl27 hz27 hf27 => ?_)
        have S : ST H27 (up (up (up (up m 172 (up (m 172) ((y2).toNat) y3)) 174 (up (m 174) ((y2).toNat) y4)) 177 (up (m 177) ((y2).toNat) y8)) 178 (up (m 178) ((y2).toNat) y9)) γ t := S.setI 178 (nc rfl) hl27 hz27 hf27 hy9.1 hy9.2
        refine wp_g (n := 1) (pc' := 271) (L' := [some (.ref 158), z1, some (.int (iI y2)), some (.int (iI y3)), some (.int (iI y4)), z5, z6, some (.int (iI y7)), some (.int (iI y8)), some (.int (iI y9)), some (.int (iI 0))]) (st' := [.ref 158]) rfl ?_
        refine wp_getf (v := .ref 179) rfl rfl (S.cell 158 (nc rfl)) (by decide) rfl ?_
        refine wp_g (n := 2) (pc' := 277) (L' := [some (.ref 158), z1, some (.int (iI y2)), some (.int (iI y3)), some (.int (iI y4)), z5, z6, some (.int (iI y7)), some (.int (iI y8)), some (.int (iI y9)), some (.int (iI 0))]) (st' := [.int (iI y2), .int (iI y4), .ref 179]) rfl ?_
        obtain ⟨p30, hW⟩ := hW
        refine wp_iasF (n := 48) (F := (m 179)) (y := y2) rfl (S.cell 179 (nc rfl)) p30.1 p30.2 (by decide) (fun H29 hl29 hz29 hf29 => ?_)
        have S : ST H29 (up (up (up (up (up m 172 (up (m 172) ((y2).toNat) y3)) 174 (up (m 174) ((y2).toNat) y4)) 177 (up (m 177) ((y2).toNat) y8)) 178 (up (m 178) ((y2).toNat) y9)) 179 (up (m 179) ((y4).toNat) y2)) γ t := S.setI 179 (nc rfl) hl29 hz29 hf29 hy2.1 hy2.2
        refine wp_g (n := 1) (pc' := 279) (L' := [some (.ref 158), z1, some (.int (iI y2)), some (.int (iI y3)), some (.int (iI y4)), z5, z6, some (.int (iI y7)), some (.int (iI y8)), some (.int (iI y9)), some (.int (iI 0))]) (st' := [.ref 158]) rfl ?_
        refine wp_getf (v := .ref 180) rfl rfl (S.cell 158 (nc rfl)) (by decide) rfl ?_
        refine wp_g (n := 2) (pc' := 286) (L' := [some (.ref 158), z1, some (.int (iI y2)), some (.int (iI y3)), some (.int (iI y4)), z5, z6, some (.int (iI y7)), some (.int (iI y8)), some (.int (iI y9)), some (.int (iI 0))]) (st' := [.int (iI 0), .int (iI y4), .ref 180]) rfl ?_
        obtain ⟨p32, hW⟩ := hW
        refine wp_tasF (n := 48) (F := (m 180)) (y := 0) rfl (S.cell 180 (nc rfl)) p32.1 p32.2 (by decide) (by decide) (fun H31 hl31 hz31 hf31 => ?_)
        have S : ST H31 (up (up (up (up (up (up m 172 (up (m 172) ((y2).toNat) y3)) 174 (up (m 174) ((y2).toNat) y4)) 177 (up (m 177) ((y2).toNat) y8)) 178 (up (m 178) ((y2).toNat) y9)) 179 (up (m 179) ((y4).toNat) y2)) 180 (up (m 180) ((y4).toNat) 0)) γ t := S.setI 180 (nc rfl) hl31 hz31 hf31 (by decide) (by decide)
        refine wp_g (n := 2) (pc' := 290) (L' := [some (.ref 158), z1, some (.int (iI y2)), some (.int (iI y3)), some (.int (iI y4)), z5, z6, some (.int (iI y7)), some (.int (iI y8)), some (.int (iI y9)), some (.int (iI 0))]) (st' := [.int (iI 1), .int (iI y4)]) rfl ?_
        refine wp_add (a := y4) (b := 1) rfl ?_
        obtain ⟨p33, hW⟩ := hW
        exact wp_iret rfl rfl ⟨_, _, _, _, rfl, p33, S, hW⟩
    · have dc4 := (Classical.not_not.mp c4)
      have hW := hW.1 dc4
      refine wp_g (n := 3) (pc' := 177) (L' := [some (.ref 158), z1, some (.int (iI y2)), some (.int (iI y3)), some (.int (iI y4)), z5, z6, some (.int (iI y7)), some (.int (iI y8)), some (.int (iI y9)), z10]) (st' := [.ref 158, .int (iI 1)]) rfl ?_
      refine wp_getf (v := .ref 162) rfl rfl (S.cell 158 (nc rfl)) (by decide) rfl ?_
      refine wp_g (n := 1) (pc' := 181) (L' := [some (.ref 158), z1, some (.int (iI y2)), some (.int (iI y3)), some (.int (iI y4)), z5, z6, some (.int (iI y7)), some (.int (iI y8)), some (.int (iI y9)), z10]) (st' := [.int (iI y2), .ref 162, .int (iI 1)]) rfl ?_
      obtain ⟨p34, hW⟩ := hW
      refine wp_iald (n := 24) (F := (m 162)) rfl (S.cell 162 (nc rfl)) (by decide) p34.1 p34.2 (by decide) ?_
      show wp _ _ _ _ _ [.int (iI (m 162 ((y2).toNat))), .int (iI 1)] _ _
      have hr35 : rJ (m 162 ((y2).toNat)) := S.rg 162 ((y2).toNat) (nl rfl)
      refine wp_ifI (a := (m 162 ((y2).toNat))) rfl rfl hr35.1 hr35.2 (fun c36 => ?_) (fun c36 => ?_)
      · have dc36 := c36
        have hW := hW.2 dc36
        refine wp_g (n := 1) (pc' := 190) (L' := [some (.ref 158), z1, some (.int (iI y2)), some (.int (iI y3)), some (.int (iI y4)), z5, z6, some (.int (iI y7)), some (.int (iI y8)), some (.int (iI y9)), z10]) (st' := [.int (iI 0), .int (iI 1)]) rfl ?_
        refine wp_g (n := 1) (pc' := 197) (L' := [some (.ref 158), z1, some (.int (iI y2)), some (.int (iI y3)), some (.int (iI y4)), z5, z6, some (.int (iI y7)), some (.int (iI y8)), some (.int (iI y9)), z10]) (st' := []) rfl ?_
        refine wp_g (n := 3) (pc' := 202) (L' := [some (.ref 158), z1, some (.int (iI y2)), some (.int (iI y3)), some (.int (iI y4)), z5, z6, some (.int (iI y7)), some (.int (iI y8)), some (.int (iI y9)), some (.int (iI 0))]) (st' := [.int (iI 0)]) rfl ?_
        refine wp_g (n := 1) (pc' := 239) (L' := [some (.ref 158), z1, some (.int (iI y2)), some (.int (iI y3)), some (.int (iI y4)), z5, z6, some (.int (iI y7)), some (.int (iI y8)), some (.int (iI y9)), some (.int (iI 0))]) (st' := []) rfl ?_
        refine wp_g (n := 1) (pc' := 240) (L' := [some (.ref 158), z1, some (.int (iI y2)), some (.int (iI y3)), some (.int (iI y4)), z5, z6, some (.int (iI y7)), some (.int (iI y8)), some (.int (iI y9)), some (.int (iI 0))]) (st' := [.ref 158]) rfl ?_
        refine wp_getf (v := .ref 172) rfl rfl (S.cell 158 (nc rfl)) (by decide) rfl ?_
        refine wp_g (n := 2) (pc' := 245) (L' := [some (.ref 158), z1, some (.int (iI y2)), some (.int (iI y3)), some (.int (iI y4)), z5, z6, some (.int (iI y7)), some (.int (iI y8)), some (.int (iI y9)), some (.int (iI 0))]) (st' := [.int (iI y3), .int (iI y2), .ref 172]) rfl ?_
        obtain ⟨p38, hW⟩ := hW
        refine wp_iasF (n := 24) (F := (m 172)) (y := y3) rfl (S.cell 172 (nc rfl)) p38.1 p38.2 (by decide) (fun H37 hl37 hz37 hf37 => ?_)
        have S : ST H37 (up m 172 (up (m 172) ((y2).toNat) y3)) γ t := S.setI 172 (nc rfl) hl37 hz37 hf37 hy3.1 hy3.2
        refine wp_g (n := 1) (pc' := 247) (L' := [some (.ref 158), z1, some (.int (iI y2)), some (.int (iI y3)), some (.int (iI y4)), z5, z6, some (.int (iI y7)), some (.int (iI y8)), some (.int (iI y9)), some (.int (iI 0))]) (st' := [.ref 158]) rfl ?_
        refine wp_getf (v := .ref 174) rfl rfl (S.cell 158 (nc rfl)) (by decide) rfl ?_
        refine wp_g (n := 2) (pc' := 253) (L' := [some (.ref 158), z1, some (.int (iI y2)), some (.int (iI y3)), some (.int (iI y4)), z5, z6, some (.int (iI y7)), some (.int (iI y8)), some (.int (iI y9)), some (.int (iI 0))]) (st' := [.int (iI y4), .int (iI y2), .ref 174]) rfl ?_
        obtain ⟨p40, hW⟩ := hW
        refine wp_iasF (n := 24) (F := (m 174)) (y := y4) rfl (S.cell 174 (nc rfl)) p40.1 p40.2 (by decide) (fun H39 hl39 hz39 hf39 => ?_)
        have S : ST H39 (up (up m 172 (up (m 172) ((y2).toNat) y3)) 174 (up (m 174) ((y2).toNat) y4)) γ t := S.setI 174 (nc rfl) hl39 hz39 hf39 hy4.1 hy4.2
        refine wp_g (n := 1) (pc' := 255) (L' := [some (.ref 158), z1, some (.int (iI y2)), some (.int (iI y3)), some (.int (iI y4)), z5, z6, some (.int (iI y7)), some (.int (iI y8)), some (.int (iI y9)), some (.int (iI 0))]) (st' := [.ref 158]) rfl ?_
        refine wp_getf (v := .ref 177) rfl rfl (S.cell 158 (nc rfl)) (by decide) rfl ?_
        refine wp_g (n := 2) (pc' := 261) (L' := [some (.ref 158), z1, some (.int (iI y2)), some (.int (iI y3)), some (.int (iI y4)), z5, z6, some (.int (iI y7)), some (.int (iI y8)), some (.int (iI y9)), some (.int (iI 0))]) (st' := [.int (iI y8), .int (iI y2), .ref 177]) rfl ?_
        obtain ⟨p42, hW⟩ := hW
        refine wp_iasF (n := 24) (F := (m 177)) (y := y8) rfl (S.cell 177 (nc rfl)) p42.1 p42.2 (by decide) (fun H41 hl41 hz41 hf41 => ?_)
        have S : ST H41 (up (up (up m 172 (up (m 172) ((y2).toNat) y3)) 174 (up (m 174) ((y2).toNat) y4)) 177 (up (m 177) ((y2).toNat) y8)) γ t := S.setI 177 (nc rfl) hl41 hz41 hf41 hy8.1 hy8.2
        refine wp_g (n := 1) (pc' := 263) (L' := [some (.ref 158), z1, some (.int (iI y2)), some (.int (iI y3)), some (.int (iI y4)), z5, z6, some (.int (iI y7)), some (.int (iI y8)), some (.int (iI y9)), some (.int (iI 0))]) (st' := [.ref 158]) rfl ?_
        refine wp_getf (v := .ref 178) rfl rfl (S.cell 158 (nc rfl)) (by decide) rfl ?_
        refine wp_g (n := 2) (pc' := 269) (L' := [some (.ref 158), z1, some (.int (iI y2)), some (.int (iI y3)), some (.int (iI y4)), z5, z6, some (.int (iI y7)), some (.int (iI y8)), some (.int (iI y9)), some (.int (iI 0))]) (st' := [.int (iI y9), .int (iI y2), .ref 178]) rfl ?_
        obtain ⟨p44, hW⟩ := hW
        refine wp_iasF (n := 24) (F := (m 178)) (y := y9) rfl (S.cell 178 (nc rfl)) p44.1 p44.2 (by decide) (fun H43 hl43 hz43 hf43 => ?_)
        have S : ST H43 (up (up (up (up m 172 (up (m 172) ((y2).toNat) y3)) 174 (up (m 174) ((y2).toNat) y4)) 177 (up (m 177) ((y2).toNat) y8)) 178 (up (m 178) ((y2).toNat) y9)) γ t := S.setI 178 (nc rfl) hl43 hz43 hf43 hy9.1 hy9.2
        refine wp_g (n := 1) (pc' := 271) (L' := [some (.ref 158), z1, some (.int (iI y2)), some (.int (iI y3)), some (.int (iI y4)), z5, z6, some (.int (iI y7)), some (.int (iI y8)), some (.int (iI y9)), some (.int (iI 0))]) (st' := [.ref 158]) rfl ?_
        refine wp_getf (v := .ref 179) rfl rfl (S.cell 158 (nc rfl)) (by decide) rfl ?_
        refine wp_g (n := 2) (pc' := 277) (L' := [some (.ref 158), z1, some (.int (iI y2)), some (.int (iI y3)), some (.int (iI y4)), z5, z6, some (.int (iI y7)), some (.int (iI y8)), some (.int (iI y9)), some (.int (iI 0))]) (st' := [.int (iI y2), .int (iI y4), .ref 179]) rfl ?_
        obtain ⟨p46, hW⟩ := hW
        refine wp_iasF (n := 48) (F := (m 179)) (y := y2) rfl (S.cell 179 (nc rfl)) p46.1 p46.2 (by decide) (fun H45 hl45 hz45 hf45 => ?_)
        have S : ST H45 (up (up (up (up (up m 172 (up (m 172) ((y2).toNat) y3)) 174 (up (m 174) ((y2).toNat) y4)) 177 (up (m 177) ((y2).toNat) y8)) 178 (up (m 178) ((y2).toNat) y9)) 179 (up (m 179) ((y4).toNat) y2)) γ t := S.setI 179 (nc rfl) hl45 hz45 hf45 hy2.1 hy2.2
        refine wp_g (n := 1) (pc' := 279) (L' := [some (.ref 158), z1, some (.int (iI y2)), some (.int (iI y3)), some (.int (iI y4)), z5, z6, some (.int (iI y7)), some (.int (iI y8)), some (.int (iI y9)), some (.int (iI 0))]) (st' := [.ref 158]) rfl ?_
        refine wp_getf (v := .ref 180) rfl rfl (S.cell 158 (nc rfl)) (by decide) rfl ?_
        refine wp_g (n := 2) (pc' := 286) (L' := [some (.ref 158), z1, some (.int (iI y2)), some (.int (iI y3)), some (.int (iI y4)), z5, z6, some (.int (iI y7)), some (.int (iI y8)), some (.int (iI y9)), some (.int (iI 0))]) (st' := [.int (iI 0), .int (iI y4), .ref 180]) rfl ?_
        obtain ⟨p48, hW⟩ := hW
        refine wp_tasF (n := 48) (F := (m 180)) (y := 0) rfl (S.cell 180 (nc rfl)) p48.1 p48.2 (by decide) (by decide) (fun H47 hl47 hz47 hf47 => ?_)
        have S : ST H47 (up (up (up (up (up (up m 172 (up (m 172) ((y2).toNat) y3)) 174 (up (m 174) ((y2).toNat) y4)) 177 (up (m 177) ((y2).toNat) y8)) 178 (up (m 178) ((y2).toNat) y9)) 179 (up (m 179) ((y4).toNat) y2)) 180 (up (m 180) ((y4).toNat) 0)) γ t := S.setI 180 (nc rfl) hl47 hz47 hf47 (by decide) (by decide)
        refine wp_g (n := 2) (pc' := 290) (L' := [some (.ref 158), z1, some (.int (iI y2)), some (.int (iI y3)), some (.int (iI y4)), z5, z6, some (.int (iI y7)), some (.int (iI y8)), some (.int (iI y9)), some (.int (iI 0))]) (st' := [.int (iI 1), .int (iI y4)]) rfl ?_
        refine wp_add (a := y4) (b := 1) rfl ?_
        obtain ⟨p49, hW⟩ := hW
        exact wp_iret rfl rfl ⟨_, _, _, _, rfl, p49, S, hW⟩
      · have dc36 := (Classical.not_not.mp c36)
        have hW := hW.1 dc36
        refine wp_g (n := 2) (pc' := 190) (L' := [some (.ref 158), z1, some (.int (iI y2)), some (.int (iI y3)), some (.int (iI y4)), z5, z6, some (.int (iI y7)), some (.int (iI y8)), some (.int (iI y9)), z10]) (st' := [.int (iI 1), .int (iI 1)]) rfl ?_
        refine wp_g (n := 1) (pc' := 193) (L' := [some (.ref 158), z1, some (.int (iI y2)), some (.int (iI y3)), some (.int (iI y4)), z5, z6, some (.int (iI y7)), some (.int (iI y8)), some (.int (iI y9)), z10]) (st' := []) rfl ?_
        refine wp_g (n := 4) (pc' := 202) (L' := [some (.ref 158), z1, some (.int (iI y2)), some (.int (iI y3)), some (.int (iI y4)), z5, z6, some (.int (iI y7)), some (.int (iI y8)), some (.int (iI y9)), some (.int (iI 1))]) (st' := [.int (iI 1)]) rfl ?_
        refine wp_g (n := 1) (pc' := 205) (L' := [some (.ref 158), z1, some (.int (iI y2)), some (.int (iI y3)), some (.int (iI y4)), z5, z6, some (.int (iI y7)), some (.int (iI y8)), some (.int (iI y9)), some (.int (iI 1))]) (st' := []) rfl ?_
        refine wp_g (n := 1) (pc' := 206) (L' := [some (.ref 158), z1, some (.int (iI y2)), some (.int (iI y3)), some (.int (iI y4)), z5, z6, some (.int (iI y7)), some (.int (iI y8)), some (.int (iI y9)), some (.int (iI 1))]) (st' := [.ref 158]) rfl ?_
        refine wp_getf (v := .ref 171) rfl rfl (S.cell 158 (nc rfl)) (by decide) rfl ?_
        refine wp_g (n := 2) (pc' := 211) (L' := [some (.ref 158), z1, some (.int (iI y2)), some (.int (iI y3)), some (.int (iI y4)), z5, z6, some (.int (iI y7)), some (.int (iI y8)), some (.int (iI y9)), some (.int (iI 1))]) (st' := [.int (iI y3), .int (iI y2), .ref 171]) rfl ?_
        obtain ⟨p51, hW⟩ := hW
        refine wp_iasF (n := 24) (F := (m 171)) (y := y3) rfl (S.cell 171 (nc rfl)) p51.1 p51.2 (by decide) (fun H50 hl50 hz50 hf50 => ?_)
        have S : ST H50 (up m 171 (up (m 171) ((y2).toNat) y3)) γ t := S.setI 171 (nc rfl) hl50 hz50 hf50 hy3.1 hy3.2
        refine wp_g (n := 1) (pc' := 213) (L' := [some (.ref 158), z1, some (.int (iI y2)), some (.int (iI y3)), some (.int (iI y4)), z5, z6, some (.int (iI y7)), some (.int (iI y8)), some (.int (iI y9)), some (.int (iI 1))]) (st' := [.ref 158]) rfl ?_
        refine wp_getf (v := .ref 173) rfl rfl (S.cell 158 (nc rfl)) (by decide) rfl ?_
        refine wp_g (n := 2) (pc' := 219) (L' := [some (.ref 158), z1, some (.int (iI y2)), some (.int (iI y3)), some (.int (iI y4)), z5, z6, some (.int (iI y7)), some (.int (iI y8)), some (.int (iI y9)), some (.int (iI 1))]) (st' := [.int (iI y4), .int (iI y2), .ref 173]) rfl ?_
        obtain ⟨p53, hW⟩ := hW
        refine wp_iasF (n := 24) (F := (m 173)) (y := y4) rfl (S.cell 173 (nc rfl)) p53.1 p53.2 (by decide) (fun H52 hl52 hz52 hf52 => ?_)
        have S : ST H52 (up (up m 171 (up (m 171) ((y2).toNat) y3)) 173 (up (m 173) ((y2).toNat) y4)) γ t := S.setI 173 (nc rfl) hl52 hz52 hf52 hy4.1 hy4.2
        refine wp_g (n := 1) (pc' := 221) (L' := [some (.ref 158), z1, some (.int (iI y2)), some (.int (iI y3)), some (.int (iI y4)), z5, z6, some (.int (iI y7)), some (.int (iI y8)), some (.int (iI y9)), some (.int (iI 1))]) (st' := [.ref 158]) rfl ?_
        refine wp_getf (v := .ref 175) rfl rfl (S.cell 158 (nc rfl)) (by decide) rfl ?_
        refine wp_g (n := 2) (pc' := 227) (L' := [some (.ref 158), z1, some (.int (iI y2)), some (.int (iI y3)), some (.int (iI y4)), z5, z6, some (.int (iI y7)), some (.int (iI y8)), some (.int (iI y9)), some (.int (iI 1))]) (st' := [.int (iI y8), .int (iI y2), .ref 175]) rfl ?_
        obtain ⟨p55, hW⟩ := hW
        refine wp_iasF (n := 24) (F := (m 175)) (y := y8) rfl (S.cell 175 (nc rfl)) p55.1 p55.2 (by decide) (fun H54 hl54 hz54 hf54 => ?_)
        have S : ST H54 (up (up (up m 171 (up (m 171) ((y2).toNat) y3)) 173 (up (m 173) ((y2).toNat) y4)) 175 (up (m 175) ((y2).toNat) y8)) γ t := S.setI 175 (nc rfl) hl54 hz54 hf54 hy8.1 hy8.2
        refine wp_g (n := 1) (pc' := 229) (L' := [some (.ref 158), z1, some (.int (iI y2)), some (.int (iI y3)), some (.int (iI y4)), z5, z6, some (.int (iI y7)), some (.int (iI y8)), some (.int (iI y9)), some (.int (iI 1))]) (st' := [.ref 158]) rfl ?_
        refine wp_getf (v := .ref 176) rfl rfl (S.cell 158 (nc rfl)) (by decide) rfl ?_
        refine wp_g (n := 2) (pc' := 235) (L' := [some (.ref 158), z1, some (.int (iI y2)), some (.int (iI y3)), some (.int (iI y4)), z5, z6, some (.int (iI y7)), some (.int (iI y8)), some (.int (iI y9)), some (.int (iI 1))]) (st' := [.int (iI y9), .int (iI y2), .ref 176]) rfl ?_
        obtain ⟨p57, hW⟩ := hW
        refine wp_iasF (n := 24) (F := (m 176)) (y := y9) rfl (S.cell 176 (nc rfl)) p57.1 p57.2 (by decide) (fun H56 hl56 hz56 hf56 => ?_)
        have S : ST H56 (up (up (up (up m 171 (up (m 171) ((y2).toNat) y3)) 173 (up (m 173) ((y2).toNat) y4)) 175 (up (m 175) ((y2).toNat) y8)) 176 (up (m 176) ((y2).toNat) y9)) γ t := S.setI 176 (nc rfl) hl56 hz56 hf56 hy9.1 hy9.2
        refine wp_g (n := 2) (pc' := 271) (L' := [some (.ref 158), z1, some (.int (iI y2)), some (.int (iI y3)), some (.int (iI y4)), z5, z6, some (.int (iI y7)), some (.int (iI y8)), some (.int (iI y9)), some (.int (iI 1))]) (st' := [.ref 158]) rfl ?_
        refine wp_getf (v := .ref 179) rfl rfl (S.cell 158 (nc rfl)) (by decide) rfl ?_
        refine wp_g (n := 2) (pc' := 277) (L' := [some (.ref 158), z1, some (.int (iI y2)), some (.int (iI y3)), some (.int (iI y4)), z5, z6, some (.int (iI y7)), some (.int (iI y8)), some (.int (iI y9)), some (.int (iI 1))]) (st' := [.int (iI y2), .int (iI y4), .ref 179]) rfl ?_
        obtain ⟨p59, hW⟩ := hW
        refine wp_iasF (n := 48) (F := (m 179)) (y := y2) rfl (S.cell 179 (nc rfl)) p59.1 p59.2 (by decide) (fun H58 hl58 hz58 hf58 => ?_)
        have S : ST H58 (up (up (up (up (up m 171 (up (m 171) ((y2).toNat) y3)) 173 (up (m 173) ((y2).toNat) y4)) 175 (up (m 175) ((y2).toNat) y8)) 176 (up (m 176) ((y2).toNat) y9)) 179 (up (m 179) ((y4).toNat) y2)) γ t := S.setI 179 (nc rfl) hl58 hz58 hf58 hy2.1 hy2.2
        refine wp_g (n := 1) (pc' := 279) (L' := [some (.ref 158), z1, some (.int (iI y2)), some (.int (iI y3)), some (.int (iI y4)), z5, z6, some (.int (iI y7)), some (.int (iI y8)), some (.int (iI y9)), some (.int (iI 1))]) (st' := [.ref 158]) rfl ?_
        refine wp_getf (v := .ref 180) rfl rfl (S.cell 158 (nc rfl)) (by decide) rfl ?_
        refine wp_g (n := 2) (pc' := 286) (L' := [some (.ref 158), z1, some (.int (iI y2)), some (.int (iI y3)), some (.int (iI y4)), z5, z6, some (.int (iI y7)), some (.int (iI y8)), some (.int (iI y9)), some (.int (iI 1))]) (st' := [.int (iI 1), .int (iI y4), .ref 180]) rfl ?_
        obtain ⟨p61, hW⟩ := hW
        refine wp_tasF (n := 48) (F := (m 180)) (y := 1) rfl (S.cell 180 (nc rfl)) p61.1 p61.2 (by decide) (by decide) (fun H60 hl60 hz60 hf60 => ?_)
        have S : ST H60 (up (up (up (up (up (up m 171 (up (m 171) ((y2).toNat) y3)) 173 (up (m 173) ((y2).toNat) y4)) 175 (up (m 175) ((y2).toNat) y8)) 176 (up (m 176) ((y2).toNat) y9)) 179 (up (m 179) ((y4).toNat) y2)) 180 (up (m 180) ((y4).toNat) 1)) γ t := S.setI 180 (nc rfl) hl60 hz60 hf60 (by decide) (by decide)
        refine wp_g (n := 2) (pc' := 290) (L' := [some (.ref 158), z1, some (.int (iI y2)), some (.int (iI y3)), some (.int (iI y4)), z5, z6, some (.int (iI y7)), some (.int (iI y8)), some (.int (iI y9)), some (.int (iI 1))]) (st' := [.int (iI 1), .int (iI y4)]) rfl ?_
        refine wp_add (a := y4) (b := 1) rfl ?_
        obtain ⟨p62, hW⟩ := hW
        exact wp_iret rfl rfl ⟨_, _, _, _, rfl, p62, S, hW⟩
  · have dc3 := (Classical.not_not.mp c3)
    have hW := hW.1 dc3
    refine wp_g (n := 3) (pc' := 177) (L' := [some (.ref 158), z1, some (.int (iI y2)), some (.int (iI y3)), some (.int (iI y4)), z5, z6, some (.int (iI y7)), some (.int (iI y8)), some (.int (iI y9)), z10]) (st' := [.ref 158, .int (iI y7)]) rfl ?_
    refine wp_getf (v := .ref 162) rfl rfl (S.cell 158 (nc rfl)) (by decide) rfl ?_
    refine wp_g (n := 1) (pc' := 181) (L' := [some (.ref 158), z1, some (.int (iI y2)), some (.int (iI y3)), some (.int (iI y4)), z5, z6, some (.int (iI y7)), some (.int (iI y8)), some (.int (iI y9)), z10]) (st' := [.int (iI y2), .ref 162, .int (iI y7)]) rfl ?_
    obtain ⟨p63, hW⟩ := hW
    refine wp_iald (n := 24) (F := (m 162)) rfl (S.cell 162 (nc rfl)) (by decide) p63.1 p63.2 (by decide) ?_
    show wp _ _ _ _ _ [.int (iI (m 162 ((y2).toNat))), .int (iI y7)] _ _
    have hr64 : rJ (m 162 ((y2).toNat)) := S.rg 162 ((y2).toNat) (nl rfl)
    refine wp_ifI (a := (m 162 ((y2).toNat))) rfl rfl hr64.1 hr64.2 (fun c65 => ?_) (fun c65 => ?_)
    · have dc65 := c65
      have hW := hW.2 dc65
      refine wp_g (n := 1) (pc' := 190) (L' := [some (.ref 158), z1, some (.int (iI y2)), some (.int (iI y3)), some (.int (iI y4)), z5, z6, some (.int (iI y7)), some (.int (iI y8)), some (.int (iI y9)), z10]) (st' := [.int (iI 0), .int (iI y7)]) rfl ?_
      refine wp_icmpI (a := y7) (b := 0) rfl rfl hy7.1 hy7.2 (by decide) (by decide) (fun c66 => ?_) (fun c66 => ?_)
      · have dc66 := c66
        have hW := hW.2 dc66
        refine wp_g (n := 3) (pc' := 202) (L' := [some (.ref 158), z1, some (.int (iI y2)), some (.int (iI y3)), some (.int (iI y4)), z5, z6, some (.int (iI y7)), some (.int (iI y8)), some (.int (iI y9)), some (.int (iI 0))]) (st' := [.int (iI 0)]) rfl ?_
        refine wp_g (n := 1) (pc' := 239) (L' := [some (.ref 158), z1, some (.int (iI y2)), some (.int (iI y3)), some (.int (iI y4)), z5, z6, some (.int (iI y7)), some (.int (iI y8)), some (.int (iI y9)), some (.int (iI 0))]) (st' := []) rfl ?_
        refine wp_g (n := 1) (pc' := 240) (L' := [some (.ref 158), z1, some (.int (iI y2)), some (.int (iI y3)), some (.int (iI y4)), z5, z6, some (.int (iI y7)), some (.int (iI y8)), some (.int (iI y9)), some (.int (iI 0))]) (st' := [.ref 158]) rfl ?_
        refine wp_getf (v := .ref 172) rfl rfl (S.cell 158 (nc rfl)) (by decide) rfl ?_
        refine wp_g (n := 2) (pc' := 245) (L' := [some (.ref 158), z1, some (.int (iI y2)), some (.int (iI y3)), some (.int (iI y4)), z5, z6, some (.int (iI y7)), some (.int (iI y8)), some (.int (iI y9)), some (.int (iI 0))]) (st' := [.int (iI y3), .int (iI y2), .ref 172]) rfl ?_
        obtain ⟨p68, hW⟩ := hW
        refine wp_iasF (n := 24) (F := (m 172)) (y := y3) rfl (S.cell 172 (nc rfl)) p68.1 p68.2 (by decide) (fun H67 hl67 hz67 hf67 => ?_)
        have S : ST H67 (up m 172 (up (m 172) ((y2).toNat) y3)) γ t := S.setI 172 (nc rfl) hl67 hz67 hf67 hy3.1 hy3.2
        refine wp_g (n := 1) (pc' := 247) (L' := [some (.ref 158), z1, some (.int (iI y2)), some (.int (iI y3)), some (.int (iI y4)), z5, z6, some (.int (iI y7)), some (.int (iI y8)), some (.int (iI y9)), some (.int (iI 0))]) (st' := [.ref 158]) rfl ?_
        refine wp_getf (v := .ref 174) rfl rfl (S.cell 158 (nc rfl)) (by decide) rfl ?_
        refine wp_g (n := 2) (pc' := 253) (L' := [some (.ref 158), z1, some (.int (iI y2)), some (.int (iI y3)), some (.int (iI y4)), z5, z6, some (.int (iI y7)), some (.int (iI y8)), some (.int (iI y9)), some (.int (iI 0))]) (st' := [.int (iI y4), .int (iI y2), .ref 174]) rfl ?_
        obtain ⟨p70, hW⟩ := hW
        refine wp_iasF (n := 24) (F := (m 174)) (y := y4) rfl (S.cell 174 (nc rfl)) p70.1 p70.2 (by decide) (fun H69 hl69 hz69 hf69 => ?_)
        have S : ST H69 (up (up m 172 (up (m 172) ((y2).toNat) y3)) 174 (up (m 174) ((y2).toNat) y4)) γ t := S.setI 174 (nc rfl) hl69 hz69 hf69 hy4.1 hy4.2
        refine wp_g (n := 1) (pc' := 255) (L' := [some (.ref 158), z1, some (.int (iI y2)), some (.int (iI y3)), some (.int (iI y4)), z5, z6, some (.int (iI y7)), some (.int (iI y8)), some (.int (iI y9)), some (.int (iI 0))]) (st' := [.ref 158]) rfl ?_
        refine wp_getf (v := .ref 177) rfl rfl (S.cell 158 (nc rfl)) (by decide) rfl ?_
        refine wp_g (n := 2) (pc' := 261) (L' := [some (.ref 158), z1, some (.int (iI y2)), some (.int (iI y3)), some (.int (iI y4)), z5, z6, some (.int (iI y7)), some (.int (iI y8)), some (.int (iI y9)), some (.int (iI 0))]) (st' := [.int (iI y8), .int (iI y2), .ref 177]) rfl ?_
        obtain ⟨p72, hW⟩ := hW
        refine wp_iasF (n := 24) (F := (m 177)) (y := y8) rfl (S.cell 177 (nc rfl)) p72.1 p72.2 (by decide) (fun H71 hl71 hz71 hf71 => ?_)
        have S : ST H71 (up (up (up m 172 (up (m 172) ((y2).toNat) y3)) 174 (up (m 174) ((y2).toNat) y4)) 177 (up (m 177) ((y2).toNat) y8)) γ t := S.setI 177 (nc rfl) hl71 hz71 hf71 hy8.1 hy8.2
        refine wp_g (n := 1) (pc' := 263) (L' := [some (.ref 158), z1, some (.int (iI y2)), some (.int (iI y3)), some (.int (iI y4)), z5, z6, some (.int (iI y7)), some (.int (iI y8)), some (.int (iI y9)), some (.int (iI 0))]) (st' := [.ref 158]) rfl ?_
        refine wp_getf (v := .ref 178) rfl rfl (S.cell 158 (nc rfl)) (by decide) rfl ?_
        refine wp_g (n := 2) (pc' := 269) (L' := [some (.ref 158), z1, some (.int (iI y2)), some (.int (iI y3)), some (.int (iI y4)), z5, z6, some (.int (iI y7)), some (.int (iI y8)), some (.int (iI y9)), some (.int (iI 0))]) (st' := [.int (iI y9), .int (iI y2), .ref 178]) rfl ?_
        obtain ⟨p74, hW⟩ := hW
        refine wp_iasF (n := 24) (F := (m 178)) (y := y9) rfl (S.cell 178 (nc rfl)) p74.1 p74.2 (by decide) (fun H73 hl73 hz73 hf73 => ?_)
        have S : ST H73 (up (up (up (up m 172 (up (m 172) ((y2).toNat) y3)) 174 (up (m 174) ((y2).toNat) y4)) 177 (up (m 177) ((y2).toNat) y8)) 178 (up (m 178) ((y2).toNat) y9)) γ t := S.setI 178 (nc rfl) hl73 hz73 hf73 hy9.1 hy9.2
        refine wp_g (n := 1) (pc' := 271) (L' := [some (.ref 158), z1, some (.int (iI y2)), some (.int (iI y3)), some (.int (iI y4)), z5, z6, some (.int (iI y7)), some (.int (iI y8)), some (.int (iI y9)), some (.int (iI 0))]) (st' := [.ref 158]) rfl ?_
        refine wp_getf (v := .ref 179) rfl rfl (S.cell 158 (nc rfl)) (by decide) rfl ?_
        refine wp_g (n := 2) (pc' := 277) (L' := [some (.ref 158), z1, some (.int (iI y2)), some (.int (iI y3)), some (.int (iI y4)), z5, z6, some (.int (iI y7)), some (.int (iI y8)), some (.int (iI y9)), some (.int (iI 0))]) (st' := [.int (iI y2), .int (iI y4), .ref 179]) rfl ?_
        obtain ⟨p76, hW⟩ := hW
        refine wp_iasF (n := 48) (F := (m 179)) (y := y2) rfl (S.cell 179 (nc rfl)) p76.1 p76.2 (by decide) (fun H75 hl75 hz75 hf75 => ?_)
        have S : ST H75 (up (up (up (up (up m 172 (up (m 172) ((y2).toNat) y3)) 174 (up (m 174) ((y2).toNat) y4)) 177 (up (m 177) ((y2).toNat) y8)) 178 (up (m 178) ((y2).toNat) y9)) 179 (up (m 179) ((y4).toNat) y2)) γ t := S.setI 179 (nc rfl) hl75 hz75 hf75 hy2.1 hy2.2
        refine wp_g (n := 1) (pc' := 279) (L' := [some (.ref 158), z1, some (.int (iI y2)), some (.int (iI y3)), some (.int (iI y4)), z5, z6, some (.int (iI y7)), some (.int (iI y8)), some (.int (iI y9)), some (.int (iI 0))]) (st' := [.ref 158]) rfl ?_
        refine wp_getf (v := .ref 180) rfl rfl (S.cell 158 (nc rfl)) (by decide) rfl ?_
        refine wp_g (n := 2) (pc' := 286) (L' := [some (.ref 158), z1, some (.int (iI y2)), some (.int (iI y3)), some (.int (iI y4)), z5, z6, some (.int (iI y7)), some (.int (iI y8)), some (.int (iI y9)), some (.int (iI 0))]) (st' := [.int (iI 0), .int (iI y4), .ref 180]) rfl ?_
        obtain ⟨p78, hW⟩ := hW
        refine wp_tasF (n := 48) (F := (m 180)) (y := 0) rfl (S.cell 180 (nc rfl)) p78.1 p78.2 (by decide) (by decide) (fun H77 hl77 hz77 hf77 => ?_)
        have S : ST H77 (up (up (up (up (up (up m 172 (up (m 172) ((y2).toNat) y3)) 174 (up (m 174) ((y2).toNat) y4)) 177 (up (m 177) ((y2).toNat) y8)) 178 (up (m 178) ((y2).toNat) y9)) 179 (up (m 179) ((y4).toNat) y2)) 180 (up (m 180) ((y4).toNat) 0)) γ t := S.setI 180 (nc rfl) hl77 hz77 hf77 (by decide) (by decide)
        refine wp_g (n := 2) (pc' := 290) (L' := [some (.ref 158), z1, some (.int (iI y2)), some (.int (iI y3)), some (.int (iI y4)), z5, z6, some (.int (iI y7)), some (.int (iI y8)), some (.int (iI y9)), some (.int (iI 0))]) (st' := [.int (iI 1), .int (iI y4)]) rfl ?_
        refine wp_add (a := y4) (b := 1) rfl ?_
        obtain ⟨p79, hW⟩ := hW
        exact wp_iret rfl rfl ⟨_, _, _, _, rfl, p79, S, hW⟩
      · have dc66 := (Classical.not_not.mp c66)
        have hW := hW.1 dc66
        refine wp_g (n := 4) (pc' := 202) (L' := [some (.ref 158), z1, some (.int (iI y2)), some (.int (iI y3)), some (.int (iI y4)), z5, z6, some (.int (iI y7)), some (.int (iI y8)), some (.int (iI y9)), some (.int (iI 1))]) (st' := [.int (iI 1)]) rfl ?_
        refine wp_g (n := 1) (pc' := 205) (L' := [some (.ref 158), z1, some (.int (iI y2)), some (.int (iI y3)), some (.int (iI y4)), z5, z6, some (.int (iI y7)), some (.int (iI y8)), some (.int (iI y9)), some (.int (iI 1))]) (st' := []) rfl ?_
        refine wp_g (n := 1) (pc' := 206) (L' := [some (.ref 158), z1, some (.int (iI y2)), some (.int (iI y3)), some (.int (iI y4)), z5, z6, some (.int (iI y7)), some (.int (iI y8)), some (.int (iI y9)), some (.int (iI 1))]) (st' := [.ref 158]) rfl ?_
        refine wp_getf (v := .ref 171) rfl rfl (S.cell 158 (nc rfl)) (by decide) rfl ?_
        refine wp_g (n := 2) (pc' := 211) (L' := [some (.ref 158), z1, some (.int (iI y2)), some (.int (iI y3)), some (.int (iI y4)), z5, z6, some (.int (iI y7)), some (.int (iI y8)), some (.int (iI y9)), some (.int (iI 1))]) (st' := [.int (iI y3), .int (iI y2), .ref 171]) rfl ?_
        obtain ⟨p81, hW⟩ := hW
        refine wp_iasF (n := 24) (F := (m 171)) (y := y3) rfl (S.cell 171 (nc rfl)) p81.1 p81.2 (by decide) (fun H80 hl80 hz80 hf80 => ?_)
        have S : ST H80 (up m 171 (up (m 171) ((y2).toNat) y3)) γ t := S.setI 171 (nc rfl) hl80 hz80 hf80 hy3.1 hy3.2
        refine wp_g (n := 1) (pc' := 213) (L' := [some (.ref 158), z1, some (.int (iI y2)), some (.int (iI y3)), some (.int (iI y4)), z5, z6, some (.int (iI y7)), some (.int (iI y8)), some (.int (iI y9)), some (.int (iI 1))]) (st' := [.ref 158]) rfl ?_
        refine wp_getf (v := .ref 173) rfl rfl (S.cell 158 (nc rfl)) (by decide) rfl ?_
        refine wp_g (n := 2) (pc' := 219) (L' := [some (.ref 158), z1, some (.int (iI y2)), some (.int (iI y3)), some (.int (iI y4)), z5, z6, some (.int (iI y7)), some (.int (iI y8)), some (.int (iI y9)), some (.int (iI 1))]) (st' := [.int (iI y4), .int (iI y2), .ref 173]) rfl ?_
        obtain ⟨p83, hW⟩ := hW
        refine wp_iasF (n := 24) (F := (m 173)) (y := y4) rfl (S.cell 173 (nc rfl)) p83.1 p83.2 (by decide) (fun H82 hl82 hz82 hf82 => ?_)
        have S : ST H82 (up (up m 171 (up (m 171) ((y2).toNat) y3)) 173 (up (m 173) ((y2).toNat) y4)) γ t := S.setI 173 (nc rfl) hl82 hz82 hf82 hy4.1 hy4.2
        refine wp_g (n := 1) (pc' := 221) (L' := [some (.ref 158), z1, some (.int (iI y2)), some (.int (iI y3)), some (.int (iI y4)), z5, z6, some (.int (iI y7)), some (.int (iI y8)), some (.int (iI y9)), some (.int (iI 1))]) (st' := [.ref 158]) rfl ?_
        refine wp_getf (v := .ref 175) rfl rfl (S.cell 158 (nc rfl)) (by decide) rfl ?_
        refine wp_g (n := 2) (pc' := 227) (L' := [some (.ref 158), z1, some (.int (iI y2)), some (.int (iI y3)), some (.int (iI y4)), z5, z6, some (.int (iI y7)), some (.int (iI y8)), some (.int (iI y9)), some (.int (iI 1))]) (st' := [.int (iI y8), .int (iI y2), .ref 175]) rfl ?_
        obtain ⟨p85, hW⟩ := hW
        refine wp_iasF (n := 24) (F := (m 175)) (y := y8) rfl (S.cell 175 (nc rfl)) p85.1 p85.2 (by decide) (fun H84 hl84 hz84 hf84 => ?_)
        have S : ST H84 (up (up (up m 171 (up (m 171) ((y2).toNat) y3)) 173 (up (m 173) ((y2).toNat) y4)) 175 (up (m 175) ((y2).toNat) y8)) γ t := S.setI 175 (nc rfl) hl84 hz84 hf84 hy8.1 hy8.2
        refine wp_g (n := 1) (pc' := 229) (L' := [some (.ref 158), z1, some (.int (iI y2)), some (.int (iI y3)), some (.int (iI y4)), z5, z6, some (.int (iI y7)), some (.int (iI y8)), some (.int (iI y9)), some (.int (iI 1))]) (st' := [.ref 158]) rfl ?_
        refine wp_getf (v := .ref 176) rfl rfl (S.cell 158 (nc rfl)) (by decide) rfl ?_
        refine wp_g (n := 2) (pc' := 235) (L' := [some (.ref 158), z1, some (.int (iI y2)), some (.int (iI y3)), some (.int (iI y4)), z5, z6, some (.int (iI y7)), some (.int (iI y8)), some (.int (iI y9)), some (.int (iI 1))]) (st' := [.int (iI y9), .int (iI y2), .ref 176]) rfl ?_
        obtain ⟨p87, hW⟩ := hW
        refine wp_iasF (n := 24) (F := (m 176)) (y := y9) rfl (S.cell 176 (nc rfl)) p87.1 p87.2 (by decide) (fun H86 hl86 hz86 hf86 => ?_)
        have S : ST H86 (up (up (up (up m 171 (up (m 171) ((y2).toNat) y3)) 173 (up (m 173) ((y2).toNat) y4)) 175 (up (m 175) ((y2).toNat) y8)) 176 (up (m 176) ((y2).toNat) y9)) γ t := S.setI 176 (nc rfl) hl86 hz86 hf86 hy9.1 hy9.2
        refine wp_g (n := 2) (pc' := 271) (L' := [some (.ref 158), z1, some (.int (iI y2)), some (.int (iI y3)), some (.int (iI y4)), z5, z6, some (.int (iI y7)), some (.int (iI y8)), some (.int (iI y9)), some (.int (iI 1))]) (st' := [.ref 158]) rfl ?_
        refine wp_getf (v := .ref 179) rfl rfl (S.cell 158 (nc rfl)) (by decide) rfl ?_
        refine wp_g (n := 2) (pc' := 277) (L' := [some (.ref 158), z1, some (.int (iI y2)), some (.int (iI y3)), some (.int (iI y4)), z5, z6, some (.int (iI y7)), some (.int (iI y8)), some (.int (iI y9)), some (.int (iI 1))]) (st' := [.int (iI y2), .int (iI y4), .ref 179]) rfl ?_
        obtain ⟨p89, hW⟩ := hW
        refine wp_iasF (n := 48) (F := (m 179)) (y := y2) rfl (S.cell 179 (nc rfl)) p89.1 p89.2 (by decide) (fun H88 hl88 hz88 hf88 => ?_)
        have S : ST H88 (up (up (up (up (up m 171 (up (m 171) ((y2).toNat) y3)) 173 (up (m 173) ((y2).toNat) y4)) 175 (up (m 175) ((y2).toNat) y8)) 176 (up (m 176) ((y2).toNat) y9)) 179 (up (m 179) ((y4).toNat) y2)) γ t := S.setI 179 (nc rfl) hl88 hz88 hf88 hy2.1 hy2.2
        refine wp_g (n := 1) (pc' := 279) (L' := [some (.ref 158), z1, some (.int (iI y2)), some (.int (iI y3)), some (.int (iI y4)), z5, z6, some (.int (iI y7)), some (.int (iI y8)), some (.int (iI y9)), some (.int (iI 1))]) (st' := [.ref 158]) rfl ?_
        refine wp_getf (v := .ref 180) rfl rfl (S.cell 158 (nc rfl)) (by decide) rfl ?_
        refine wp_g (n := 2) (pc' := 286) (L' := [some (.ref 158), z1, some (.int (iI y2)), some (.int (iI y3)), some (.int (iI y4)), z5, z6, some (.int (iI y7)), some (.int (iI y8)), some (.int (iI y9)), some (.int (iI 1))]) (st' := [.int (iI 1), .int (iI y4), .ref 180]) rfl ?_
        obtain ⟨p91, hW⟩ := hW
        refine wp_tasF (n := 48) (F := (m 180)) (y := 1) rfl (S.cell 180 (nc rfl)) p91.1 p91.2 (by decide) (by decide) (fun H90 hl90 hz90 hf90 => ?_)
        have S : ST H90 (up (up (up (up (up (up m 171 (up (m 171) ((y2).toNat) y3)) 173 (up (m 173) ((y2).toNat) y4)) 175 (up (m 175) ((y2).toNat) y8)) 176 (up (m 176) ((y2).toNat) y9)) 179 (up (m 179) ((y4).toNat) y2)) 180 (up (m 180) ((y4).toNat) 1)) γ t := S.setI 180 (nc rfl) hl90 hz90 hf90 (by decide) (by decide)
        refine wp_g (n := 2) (pc' := 290) (L' := [some (.ref 158), z1, some (.int (iI y2)), some (.int (iI y3)), some (.int (iI y4)), z5, z6, some (.int (iI y7)), some (.int (iI y8)), some (.int (iI y9)), some (.int (iI 1))]) (st' := [.int (iI 1), .int (iI y4)]) rfl ?_
        refine wp_add (a := y4) (b := 1) rfl ?_
        obtain ⟨p92, hW⟩ := hW
        exact wp_iret rfl rfl ⟨_, _, _, _, rfl, p92, S, hW⟩
    · have dc65 := (Classical.not_not.mp c65)
      have hW := hW.1 dc65
      refine wp_g (n := 2) (pc' := 190) (L' := [some (.ref 158), z1, some (.int (iI y2)), some (.int (iI y3)), some (.int (iI y4)), z5, z6, some (.int (iI y7)), some (.int (iI y8)), some (.int (iI y9)), z10]) (st' := [.int (iI 1), .int (iI y7)]) rfl ?_
      refine wp_icmpI (a := y7) (b := 1) rfl rfl hy7.1 hy7.2 (by decide) (by decide) (fun c93 => ?_) (fun c93 => ?_)
      · have dc93 := c93
        have hW := hW.2 dc93
        refine wp_g (n := 3) (pc' := 202) (L' := [some (.ref 158), z1, some (.int (iI y2)), some (.int (iI y3)), some (.int (iI y4)), z5, z6, some (.int (iI y7)), some (.int (iI y8)), some (.int (iI y9)), some (.int (iI 0))]) (st' := [.int (iI 0)]) rfl ?_
        refine wp_g (n := 1) (pc' := 239) (L' := [some (.ref 158), z1, some (.int (iI y2)), some (.int (iI y3)), some (.int (iI y4)), z5, z6, some (.int (iI y7)), some (.int (iI y8)), some (.int (iI y9)), some (.int (iI 0))]) (st' := []) rfl ?_
        refine wp_g (n := 1) (pc' := 240) (L' := [some (.ref 158), z1, some (.int (iI y2)), some (.int (iI y3)), some (.int (iI y4)), z5, z6, some (.int (iI y7)), some (.int (iI y8)), some (.int (iI y9)), some (.int (iI 0))]) (st' := [.ref 158]) rfl ?_
        refine wp_getf (v := .ref 172) rfl rfl (S.cell 158 (nc rfl)) (by decide) rfl ?_
        refine wp_g (n := 2) (pc' := 245) (L' := [some (.ref 158), z1, some (.int (iI y2)), some (.int (iI y3)), some (.int (iI y4)), z5, z6, some (.int (iI y7)), some (.int (iI y8)), some (.int (iI y9)), some (.int (iI 0))]) (st' := [.int (iI y3), .int (iI y2), .ref 172]) rfl ?_
        obtain ⟨p95, hW⟩ := hW
        refine wp_iasF (n := 24) (F := (m 172)) (y := y3) rfl (S.cell 172 (nc rfl)) p95.1 p95.2 (by decide) (fun H94 hl94 hz94 hf94 => ?_)
        have S : ST H94 (up m 172 (up (m 172) ((y2).toNat) y3)) γ t := S.setI 172 (nc rfl) hl94 hz94 hf94 hy3.1 hy3.2
        refine wp_g (n := 1) (pc' := 247) (L' := [some (.ref 158), z1, some (.int (iI y2)), some (.int (iI y3)), some (.int (iI y4)), z5, z6, some (.int (iI y7)), some (.int (iI y8)), some (.int (iI y9)), some (.int (iI 0))]) (st' := [.ref 158]) rfl ?_
        refine wp_getf (v := .ref 174) rfl rfl (S.cell 158 (nc rfl)) (by decide) rfl ?_
        refine wp_g (n := 2) (pc' := 253) (L' := [some (.ref 158), z1, some (.int (iI y2)), some (.int (iI y3)), some (.int (iI y4)), z5, z6, some (.int (iI y7)), some (.int (iI y8)), some (.int (iI y9)), some (.int (iI 0))]) (st' := [.int (iI y4), .int (iI y2), .ref 174]) rfl ?_
        obtain ⟨p97, hW⟩ := hW
        refine wp_iasF (n := 24) (F := (m 174)) (y := y4) rfl (S.cell 174 (nc rfl)) p97.1 p97.2 (by decide) (fun H96 hl96 hz96 hf96 => ?_)
        have S : ST H96 (up (up m 172 (up (m 172) ((y2).toNat) y3)) 174 (up (m 174) ((y2).toNat) y4)) γ t := S.setI 174 (nc rfl) hl96 hz96 hf96 hy4.1 hy4.2
        refine wp_g (n := 1) (pc' := 255) (L' := [some (.ref 158), z1, some (.int (iI y2)), some (.int (iI y3)), some (.int (iI y4)), z5, z6, some (.int (iI y7)), some (.int (iI y8)), some (.int (iI y9)), some (.int (iI 0))]) (st' := [.ref 158]) rfl ?_
        refine wp_getf (v := .ref 177) rfl rfl (S.cell 158 (nc rfl)) (by decide) rfl ?_
        refine wp_g (n := 2) (pc' := 261) (L' := [some (.ref 158), z1, some (.int (iI y2)), some (.int (iI y3)), some (.int (iI y4)), z5, z6, some (.int (iI y7)), some (.int (iI y8)), some (.int (iI y9)), some (.int (iI 0))]) (st' := [.int (iI y8), .int (iI y2), .ref 177]) rfl ?_
        obtain ⟨p99, hW⟩ := hW
        refine wp_iasF (n := 24) (F := (m 177)) (y := y8) rfl (S.cell 177 (nc rfl)) p99.1 p99.2 (by decide) (fun H98 hl98 hz98 hf98 => ?_)
        have S : ST H98 (up (up (up m 172 (up (m 172) ((y2).toNat) y3)) 174 (up (m 174) ((y2).toNat) y4)) 177 (up (m 177) ((y2).toNat) y8)) γ t := S.setI 177 (nc rfl) hl98 hz98 hf98 hy8.1 hy8.2
        refine wp_g (n := 1) (pc' := 263) (L' := [some (.ref 158), z1, some (.int (iI y2)), some (.int (iI y3)), some (.int (iI y4)), z5, z6, some (.int (iI y7)), some (.int (iI y8)), some (.int (iI y9)), some (.int (iI 0))]) (st' := [.ref 158]) rfl ?_
        refine wp_getf (v := .ref 178) rfl rfl (S.cell 158 (nc rfl)) (by decide) rfl ?_
        refine wp_g (n := 2) (pc' := 269) (L' := [some (.ref 158), z1, some (.int (iI y2)), some (.int (iI y3)), some (.int (iI y4)), z5, z6, some (.int (iI y7)), some (.int (iI y8)), some (.int (iI y9)), some (.int (iI 0))]) (st' := [.int (iI y9), .int (iI y2), .ref 178]) rfl ?_
        obtain ⟨p101, hW⟩ := hW
        refine wp_iasF (n := 24) (F := (m 178)) (y := y9) rfl (S.cell 178 (nc rfl)) p101.1 p101.2 (by decide) (fun H100 hl100 hz100 hf100 => ?_)
        have S : ST H100 (up (up (up (up m 172 (up (m 172) ((y2).toNat) y3)) 174 (up (m 174) ((y2).toNat) y4)) 177 (up (m 177) ((y2).toNat) y8)) 178 (up (m 178) ((y2).toNat) y9)) γ t := S.setI 178 (nc rfl) hl100 hz100 hf100 hy9.1 hy9.2
        refine wp_g (n := 1) (pc' := 271) (L' := [some (.ref 158), z1, some (.int (iI y2)), some (.int (iI y3)), some (.int (iI y4)), z5, z6, some (.int (iI y7)), some (.int (iI y8)), some (.int (iI y9)), some (.int (iI 0))]) (st' := [.ref 158]) rfl ?_
        refine wp_getf (v := .ref 179) rfl rfl (S.cell 158 (nc rfl)) (by decide) rfl ?_
        refine wp_g (n := 2) (pc' := 277) (L' := [some (.ref 158), z1, some (.int (iI y2)), some (.int (iI y3)), some (.int (iI y4)), z5, z6, some (.int (iI y7)), some (.int (iI y8)), some (.int (iI y9)), some (.int (iI 0))]) (st' := [.int (iI y2), .int (iI y4), .ref 179]) rfl ?_
        obtain ⟨p103, hW⟩ := hW
        refine wp_iasF (n := 48) (F := (m 179)) (y := y2) rfl (S.cell 179 (nc rfl)) p103.1 p103.2 (by decide) (fun H102 hl102 hz102 hf102 => ?_)
        have S : ST H102 (up (up (up (up (up m 172 (up (m 172) ((y2).toNat) y3)) 174 (up (m 174) ((y2).toNat) y4)) 177 (up (m 177) ((y2).toNat) y8)) 178 (up (m 178) ((y2).toNat) y9)) 179 (up (m 179) ((y4).toNat) y2)) γ t := S.setI 179 (nc rfl) hl102 hz102 hf102 hy2.1 hy2.2
        refine wp_g (n := 1) (pc' := 279) (L' := [some (.ref 158), z1, some (.int (iI y2)), some (.int (iI y3)), some (.int (iI y4)), z5, z6, some (.int (iI y7)), some (.int (iI y8)), some (.int (iI y9)), some (.int (iI 0))]) (st' := [.ref 158]) rfl ?_
        refine wp_getf (v := .ref 180) rfl rfl (S.cell 158 (nc rfl)) (by decide) rfl ?_
        refine wp_g (n := 2) (pc' := 286) (L' := [some (.ref 158), z1, some (.int (iI y2)), some (.int (iI y3)), some (.int (iI y4)), z5, z6, some (.int (iI y7)), some (.int (iI y8)), some (.int (iI y9)), some (.int (iI 0))]) (st' := [.int (iI 0), .int (iI y4), .ref 180]) rfl ?_
        obtain ⟨p105, hW⟩ := hW
        refine wp_tasF (n := 48) (F := (m 180)) (y := 0) rfl (S.cell 180 (nc rfl)) p105.1 p105.2 (by decide) (by decide) (fun H104 hl104 hz104 hf104 => ?_)
        have S : ST H104 (up (up (up (up (up (up m 172 (up (m 172) ((y2).toNat) y3)) 174 (up (m 174) ((y2).toNat) y4)) 177 (up (m 177) ((y2).toNat) y8)) 178 (up (m 178) ((y2).toNat) y9)) 179 (up (m 179) ((y4).toNat) y2)) 180 (up (m 180) ((y4).toNat) 0)) γ t := S.setI 180 (nc rfl) hl104 hz104 hf104 (by decide) (by decide)
        refine wp_g (n := 2) (pc' := 290) (L' := [some (.ref 158), z1, some (.int (iI y2)), some (.int (iI y3)), some (.int (iI y4)), z5, z6, some (.int (iI y7)), some (.int (iI y8)), some (.int (iI y9)), some (.int (iI 0))]) (st' := [.int (iI 1), .int (iI y4)]) rfl ?_
        refine wp_add (a := y4) (b := 1) rfl ?_
        obtain ⟨p106, hW⟩ := hW
        exact wp_iret rfl rfl ⟨_, _, _, _, rfl, p106, S, hW⟩
      · have dc93 := (Classical.not_not.mp c93)
        have hW := hW.1 dc93
        refine wp_g (n := 4) (pc' := 202) (L' := [some (.ref 158), z1, some (.int (iI y2)), some (.int (iI y3)), some (.int (iI y4)), z5, z6, some (.int (iI y7)), some (.int (iI y8)), some (.int (iI y9)), some (.int (iI 1))]) (st' := [.int (iI 1)]) rfl ?_
        refine wp_g (n := 1) (pc' := 205) (L' := [some (.ref 158), z1, some (.int (iI y2)), some (.int (iI y3)), some (.int (iI y4)), z5, z6, some (.int (iI y7)), some (.int (iI y8)), some (.int (iI y9)), some (.int (iI 1))]) (st' := []) rfl ?_
        refine wp_g (n := 1) (pc' := 206) (L' := [some (.ref 158), z1, some (.int (iI y2)), some (.int (iI y3)), some (.int (iI y4)), z5, z6, some (.int (iI y7)), some (.int (iI y8)), some (.int (iI y9)), some (.int (iI 1))]) (st' := [.ref 158]) rfl ?_
        refine wp_getf (v := .ref 171) rfl rfl (S.cell 158 (nc rfl)) (by decide) rfl ?_
        refine wp_g (n := 2) (pc' := 211) (L' := [some (.ref 158), z1, some (.int (iI y2)), some (.int (iI y3)), some (.int (iI y4)), z5, z6, some (.int (iI y7)), some (.int (iI y8)), some (.int (iI y9)), some (.int (iI 1))]) (st' := [.int (iI y3), .int (iI y2), .ref 171]) rfl ?_
        obtain ⟨p108, hW⟩ := hW
        refine wp_iasF (n := 24) (F := (m 171)) (y := y3) rfl (S.cell 171 (nc rfl)) p108.1 p108.2 (by decide) (fun H107 hl107 hz107 hf107 => ?_)
        have S : ST H107 (up m 171 (up (m 171) ((y2).toNat) y3)) γ t := S.setI 171 (nc rfl) hl107 hz107 hf107 hy3.1 hy3.2
        refine wp_g (n := 1) (pc' := 213) (L' := [some (.ref 158), z1, some (.int (iI y2)), some (.int (iI y3)), some (.int (iI y4)), z5, z6, some (.int (iI y7)), some (.int (iI y8)), some (.int (iI y9)), some (.int (iI 1))]) (st' := [.ref 158]) rfl ?_
        refine wp_getf (v := .ref 173) rfl rfl (S.cell 158 (nc rfl)) (by decide) rfl ?_
        refine wp_g (n := 2) (pc' := 219) (L' := [some (.ref 158), z1, some (.int (iI y2)), some (.int (iI y3)), some (.int (iI y4)), z5, z6, some (.int (iI y7)), some (.int (iI y8)), some (.int (iI y9)), some (.int (iI 1))]) (st' := [.int (iI y4), .int (iI y2), .ref 173]) rfl ?_
        obtain ⟨p110, hW⟩ := hW
        refine wp_iasF (n := 24) (F := (m 173)) (y := y4) rfl (S.cell 173 (nc rfl)) p110.1 p110.2 (by decide) (fun H109 hl109 hz109 hf109 => ?_)
        have S : ST H109 (up (up m 171 (up (m 171) ((y2).toNat) y3)) 173 (up (m 173) ((y2).toNat) y4)) γ t := S.setI 173 (nc rfl) hl109 hz109 hf109 hy4.1 hy4.2
        refine wp_g (n := 1) (pc' := 221) (L' := [some (.ref 158), z1, some (.int (iI y2)), some (.int (iI y3)), some (.int (iI y4)), z5, z6, some (.int (iI y7)), some (.int (iI y8)), some (.int (iI y9)), some (.int (iI 1))]) (st' := [.ref 158]) rfl ?_
        refine wp_getf (v := .ref 175) rfl rfl (S.cell 158 (nc rfl)) (by decide) rfl ?_
        refine wp_g (n := 2) (pc' := 227) (L' := [some (.ref 158), z1, some (.int (iI y2)), some (.int (iI y3)), some (.int (iI y4)), z5, z6, some (.int (iI y7)), some (.int (iI y8)), some (.int (iI y9)), some (.int (iI 1))]) (st' := [.int (iI y8), .int (iI y2), .ref 175]) rfl ?_
        obtain ⟨p112, hW⟩ := hW
        refine wp_iasF (n := 24) (F := (m 175)) (y := y8) rfl (S.cell 175 (nc rfl)) p112.1 p112.2 (by decide) (fun H111 hl111 hz111 hf111 => ?_)
        have S : ST H111 (up (up (up m 171 (up (m 171) ((y2).toNat) y3)) 173 (up (m 173) ((y2).toNat) y4)) 175 (up (m 175) ((y2).toNat) y8)) γ t := S.setI 175 (nc rfl) hl111 hz111 hf111 hy8.1 hy8.2
        refine wp_g (n := 1) (pc' := 229) (L' := [some (.ref 158), z1, some (.int (iI y2)), some (.int (iI y3)), some (.int (iI y4)), z5, z6, some (.int (iI y7)), some (.int (iI y8)), some (.int (iI y9)), some (.int (iI 1))]) (st' := [.ref 158]) rfl ?_
        refine wp_getf (v := .ref 176) rfl rfl (S.cell 158 (nc rfl)) (by decide) rfl ?_
        refine wp_g (n := 2) (pc' := 235) (L' := [some (.ref 158), z1, some (.int (iI y2)), some (.int (iI y3)), some (.int (iI y4)), z5, z6, some (.int (iI y7)), some (.int (iI y8)), some (.int (iI y9)), some (.int (iI 1))]) (st' := [.int (iI y9), .int (iI y2), .ref 176]) rfl ?_
        obtain ⟨p114, hW⟩ := hW
        refine wp_iasF (n := 24) (F := (m 176)) (y := y9) rfl (S.cell 176 (nc rfl)) p114.1 p114.2 (by decide) (fun H113 hl113 hz113 hf113 => ?_)
        have S : ST H113 (up (up (up (up m 171 (up (m 171) ((y2).toNat) y3)) 173 (up (m 173) ((y2).toNat) y4)) 175 (up (m 175) ((y2).toNat) y8)) 176 (up (m 176) ((y2).toNat) y9)) γ t := S.setI 176 (nc rfl) hl113 hz113 hf113 hy9.1 hy9.2
        refine wp_g (n := 2) (pc' := 271) (L' := [some (.ref 158), z1, some (.int (iI y2)), some (.int (iI y3)), some (.int (iI y4)), z5, z6, some (.int (iI y7)), some (.int (iI y8)), some (.int (iI y9)), some (.int (iI 1))]) (st' := [.ref 158]) rfl ?_
        refine wp_getf (v := .ref 179) rfl rfl (S.cell 158 (nc rfl)) (by decide) rfl ?_
        refine wp_g (n := 2) (pc' := 277) (L' := [some (.ref 158), z1, some (.int (iI y2)), some (.int (iI y3)), some (.int (iI y4)), z5, z6, some (.int (iI y7)), some (.int (iI y8)), some (.int (iI y9)), some (.int (iI 1))]) (st' := [.int (iI y2), .int (iI y4), .ref 179]) rfl ?_
        obtain ⟨p116, hW⟩ := hW
        refine wp_iasF (n := 48) (F := (m 179)) (y := y2) rfl (S.cell 179 (nc rfl)) p116.1 p116.2 (by decide) (fun H115 hl115 hz115 hf115 => ?_)
        have S : ST H115 (up (up (up (up (up m 171 (up (m 171) ((y2).toNat) y3)) 173 (up (m 173) ((y2).toNat) y4)) 175 (up (m 175) ((y2).toNat) y8)) 176 (up (m 176) ((y2).toNat) y9)) 179 (up (m 179) ((y4).toNat) y2)) γ t := S.setI 179 (nc rfl) hl115 hz115 hf115 hy2.1 hy2.2
        refine wp_g (n := 1) (pc' := 279) (L' := [some (.ref 158), z1, some (.int (iI y2)), some (.int (iI y3)), some (.int (iI y4)), z5, z6, some (.int (iI y7)), some (.int (iI y8)), some (.int (iI y9)), some (.int (iI 1))]) (st' := [.ref 158]) rfl ?_
        refine wp_getf (v := .ref 180) rfl rfl (S.cell 158 (nc rfl)) (by decide) rfl ?_
        refine wp_g (n := 2) (pc' := 286) (L' := [some (.ref 158), z1, some (.int (iI y2)), some (.int (iI y3)), some (.int (iI y4)), z5, z6, some (.int (iI y7)), some (.int (iI y8)), some (.int (iI y9)), some (.int (iI 1))]) (st' := [.int (iI 1), .int (iI y4), .ref 180]) rfl ?_
        obtain ⟨p118, hW⟩ := hW
        refine wp_tasF (n := 48) (F := (m 180)) (y := 1) rfl (S.cell 180 (nc rfl)) p118.1 p118.2 (by decide) (by decide) (fun H117 hl117 hz117 hf117 => ?_)
        have S : ST H117 (up (up (up (up (up (up m 171 (up (m 171) ((y2).toNat) y3)) 173 (up (m 173) ((y2).toNat) y4)) 175 (up (m 175) ((y2).toNat) y8)) 176 (up (m 176) ((y2).toNat) y9)) 179 (up (m 179) ((y4).toNat) y2)) 180 (up (m 180) ((y4).toNat) 1)) γ t := S.setI 180 (nc rfl) hl117 hz117 hf117 (by decide) (by decide)
        refine wp_g (n := 2) (pc' := 290) (L' := [some (.ref 158), z1, some (.int (iI y2)), some (.int (iI y3)), some (.int (iI y4)), z5, z6, some (.int (iI y7)), some (.int (iI y8)), some (.int (iI y9)), some (.int (iI 1))]) (st' := [.int (iI 1), .int (iI y4)]) rfl ?_
        refine wp_add (a := y4) (b := 1) rfl ?_
        obtain ⟨p119, hW⟩ := hW
        exact wp_iret rfl rfl ⟨_, _, _, _, rfl, p119, S, hW⟩
abbrev W_X9_signOf (E : am_E) (k : Nat) (x1 : Int) (m : MM) (γ : GM) (t : am_H) (Q : Int → MM → GM → am_H → Prop) : Prop := ((0 ≤ x1 ∧ x1 < 24) ∧ ((0 ≤ x1 ∧ x1 < 24) ∧ ((0 ≤ x1 ∧ x1 < 24) ∧ ((0 ≤ x1 ∧ x1 < 24) ∧ (rJ (((m 177 ((x1).toNat)) * (-(m 176 ((x1).toNat)))) + ((m 178 ((x1).toNat)) * (m 175 ((x1).toNat)))) ∧ ((((((m 177 ((x1).toNat)) * (-(m 176 ((x1).toNat)))) + ((m 178 ((x1).toNat)) * (m 175 ((x1).toNat)))) < 0) → (Q 1 m γ t)) ∧ (¬ ((((m 177 ((x1).toNat)) * (-(m 176 ((x1).toNat)))) + ((m 178 ((x1).toNat)) * (m 175 ((x1).toNat)))) < 0) → (Q (-1) m γ t))))))))
theorem vc_X9_signOf {E : am_E} {k : Nat} {x1 : Int} {m : MM} {γ : GM} {t : am_H} {Q : Int → MM → GM → am_H → Prop} (hx1 : rJ x1) (hW : W_X9_signOf E k x1 m γ t Q) : TI E k 214 [.ref 158, .int (iI x1)] m γ t Q := by
  unfold W_X9_signOf at hW
  intro h S
  refine wp_g (n := 1) (pc' := 1) (L' := [some (.ref 158), some (.int (iI x1))]) (st' := [.ref 158]) rfl ?_
  refine wp_getf (v := .ref 177) rfl rfl (S.cell 158 (nc rfl)) (by decide) rfl ?_
  refine wp_g (n := 1) (pc' := 5) (L' := [some (.ref 158), some (.int (iI x1))]) (st' := [.int (iI x1), .ref 177]) rfl ?_
  obtain ⟨p1, hW⟩ := hW
  refine wp_iald (n := 24) (F := (m 177)) rfl (S.cell 177 (nc rfl)) (by decide) p1.1 p1.2 (by decide) ?_
  show wp _ _ _ _ _ [.int (iI (m 177 ((x1).toNat)))] _ _
  have hr2 : rJ (m 177 ((x1).toNat)) := S.rg 177 ((x1).toNat) (nl rfl)
  refine wp_g (n := 1) (pc' := 7) (L' := [some (.ref 158), some (.int (iI x1))]) (st' := [.ref 158, .int (iI (m 177 ((x1).toNat)))]) rfl ?_
  refine wp_getf (v := .ref 176) rfl rfl (S.cell 158 (nc rfl)) (by decide) rfl ?_
  refine wp_g (n := 1) (pc' := 11) (L' := [some (.ref 158), some (.int (iI x1))]) (st' := [.int (iI x1), .ref 176, .int (iI (m 177 ((x1).toNat)))]) rfl ?_
  obtain ⟨p3, hW⟩ := hW
  refine wp_iald (n := 24) (F := (m 176)) rfl (S.cell 176 (nc rfl)) (by decide) p3.1 p3.2 (by decide) ?_
  show wp _ _ _ _ _ [.int (iI (m 176 ((x1).toNat))), .int (iI (m 177 ((x1).toNat)))] _ _
  have hr4 : rJ (m 176 ((x1).toNat)) := S.rg 176 ((x1).toNat) (nl rfl)
  refine wp_neg (a := (m 176 ((x1).toNat))) rfl ?_
  refine wp_mul (a := (m 177 ((x1).toNat))) (b := (-(m 176 ((x1).toNat)))) rfl ?_
  refine wp_g (n := 1) (pc' := 15) (L' := [some (.ref 158), some (.int (iI x1))]) (st' := [.ref 158, .int (iI ((m 177 ((x1).toNat)) * (-(m 176 ((x1).toNat)))))]) rfl ?_
  refine wp_getf (v := .ref 178) rfl rfl (S.cell 158 (nc rfl)) (by decide) rfl ?_
  refine wp_g (n := 1) (pc' := 19) (L' := [some (.ref 158), some (.int (iI x1))]) (st' := [.int (iI x1), .ref 178, .int (iI ((m 177 ((x1).toNat)) * (-(m 176 ((x1).toNat)))))]) rfl ?_
  obtain ⟨p5, hW⟩ := hW
  refine wp_iald (n := 24) (F := (m 178)) rfl (S.cell 178 (nc rfl)) (by decide) p5.1 p5.2 (by decide) ?_
  show wp _ _ _ _ _ [.int (iI (m 178 ((x1).toNat))), .int (iI ((m 177 ((x1).toNat)) * (-(m 176 ((x1).toNat)))))] _ _
  have hr6 : rJ (m 178 ((x1).toNat)) := S.rg 178 ((x1).toNat) (nl rfl)
  refine wp_g (n := 1) (pc' := 21) (L' := [some (.ref 158), some (.int (iI x1))]) (st' := [.ref 158, .int (iI (m 178 ((x1).toNat))), .int (iI ((m 177 ((x1).toNat)) * (-(m 176 ((x1).toNat)))))]) rfl ?_
  refine wp_getf (v := .ref 175) rfl rfl (S.cell 158 (nc rfl)) (by decide) rfl ?_
  refine wp_g (n := 1) (pc' := 25) (L' := [some (.ref 158), some (.int (iI x1))]) (st' := [.int (iI x1), .ref 175, .int (iI (m 178 ((x1).toNat))), .int (iI ((m 177 ((x1).toNat)) * (-(m 176 ((x1).toNat)))))]) rfl ?_
  obtain ⟨p7, hW⟩ := hW
  refine wp_iald (n := 24) (F := (m 175)) rfl (S.cell 175 (nc rfl)) (by decide) p7.1 p7.2 (by decide) ?_
  show wp _ _ _ _ _ [.int (iI (m 175 ((x1).toNat))), .int (iI (m 178 ((x1).toNat))), .int (iI ((m 177 ((x1).toNat)) * (-(m 176 ((x1).toNat)))))] _ _
  have hr8 : rJ (m 175 ((x1).toNat)) := S.rg 175 ((x1).toNat) (nl rfl)
  refine wp_mul (a := (m 178 ((x1).toNat))) (b := (m 175 ((x1).toNat))) rfl ?_
  refine wp_add (a := ((m 177 ((x1).toNat)) * (-(m 176 ((x1).toNat))))) (b := ((m 178 ((x1).toNat)) * (m 175 ((x1).toNat)))) rfl ?_
  obtain ⟨p9, hW⟩ := hW
  refine wp_ifI (a := (((m 177 ((x1).toNat)) * (-(m 176 ((x1).toNat)))) + ((m 178 ((x1).toNat)) * (m 175 ((x1).toNat))))) rfl rfl p9.1 p9.2 (fun c10 => ?_) (fun c10 => ?_)
  · have dc10 := (Int.not_lt.mpr c10)
    have hW := hW.2 dc10
    refine wp_g (n := 1) (pc' := 36) (L' := [some (.ref 158), some (.int (iI x1))]) (st' := [.int (iI (-1))]) rfl ?_
    exact wp_iret rfl rfl ⟨_, _, _, _, rfl, (by decide), S, hW⟩
  · have dc10 := (Int.not_le.mp c10)
    have hW := hW.1 dc10
    refine wp_g (n := 2) (pc' := 36) (L' := [some (.ref 158), some (.int (iI x1))]) (st' := [.int (iI 1)]) rfl ?_
    exact wp_iret rfl rfl ⟨_, _, _, _, rfl, (by decide), S, hW⟩
def hd_X9_piecesOf_7 (E : am_E) (k : Nat) (F : Nat → Int) (t0 : am_H) (y2 : Int) (m : MM) (γ : GM) (Q : Int → MM → GM → am_H → Prop) : Prop := ∀ (z3 z4 z5 z6 : Option Value), TT (pI Q) E (k + 1) 215 7 [some (.ref 158), some (.ref (195 + t0.length)), some (.int (iI y2)), z3, z4, z5, z6] [] m γ (t0 ++ [cI 64 F])
def hd_X9_piecesOf_32 (E : am_E) (k : Nat) (F : Nat → Int) (t0 : am_H) (y2 : Int) (y3 : Int) (m : MM) (γ : GM) (Q : Int → MM → GM → am_H → Prop) : Prop := ∀ (z4 z5 z6 : Option Value), TT (pI Q) E (k + 1) 215 32 [some (.ref 158), some (.ref (195 + t0.length)), some (.int (iI y2)), some (.int (iI y3)), z4, z5, z6] [] m γ (t0 ++ [cI 64 F])
def hd_X9_piecesOf_97 (E : am_E) (k : Nat) (F : Nat → Int) (t0 : am_H) (y2 : Int) (y3 : Int) (y4 : Int) (y5 : Int) (y6 : Int) (m : MM) (γ : GM) (Q : Int → MM → GM → am_H → Prop) : Prop := TT (pI Q) E (k + 1) 215 97 [some (.ref 158), some (.ref (195 + t0.length)), some (.int (iI y2)), some (.int (iI y3)), some (.int (iI y4)), some (.int (iI y5)), some (.int (iI y6))] [] m γ (t0 ++ [cI 64 F])
abbrev W_X9_piecesOf (E : am_E) (k : Nat) (m : MM) (γ : GM) (t : am_H) (Q : Int → MM → GM → am_H → Prop) : Prop := (t.length < 900000 ∧ (hd_X9_piecesOf_7 E k (fun _ => 0) t 0 m γ Q))
abbrev W_X9_piecesOf_7 (E : am_E) (k : Nat) (F : Nat → Int) (t0 : am_H) (y2 : Int) (m : MM) (γ : GM) (Q : Int → MM → GM → am_H → Prop) : Prop := (((y2 < (m 158 16)) → ((0 ≤ y2 ∧ y2 < 64) ∧ (hd_X9_piecesOf_7 E k (up F ((y2).toNat) y2) t0 (y2 + 1) m γ Q))) ∧ (¬ (y2 < (m 158 16)) → (hd_X9_piecesOf_32 E k F t0 (m 158 16) 0 m γ Q)))
abbrev W_X9_piecesOf_32 (E : am_E) (k : Nat) (F : Nat → Int) (t0 : am_H) (y2 : Int) (y3 : Int) (m : MM) (γ : GM) (Q : Int → MM → GM → am_H → Prop) : Prop := (((y3 < (m 158 6)) → ((0 ≤ y3 ∧ y3 < 24) ∧ (TI E k 204 [.int (iI (m 162 ((y3).toNat)))] m γ (t0 ++ [cI 64 F]) (fun v5 m5 γ5 t5 => (t5 = (t0 ++ [cI 64 F]) ∧ (((v5 = 0) → (hd_X9_piecesOf_32 E k F t0 y2 (y3 + 1) m5 γ5 Q)) ∧ (¬ (v5 = 0) → ((0 ≤ y3 ∧ y3 < 24) ∧ ((0 ≤ (m5 171 ((y3).toNat)) ∧ (m5 171 ((y3).toNat)) < 64) ∧ ((0 ≤ y3 ∧ y3 < 24) ∧ ((0 ≤ (m5 172 ((y3).toNat)) ∧ (m5 172 ((y3).toNat)) < 64) ∧ (rJ (F (((m5 171 ((y3).toNat))).toNat)) ∧ (rJ (F (((m5 172 ((y3).toNat))).toNat)) ∧ ((((F (((m5 171 ((y3).toNat))).toNat)) = (F (((m5 172 ((y3).toNat))).toNat))) → (hd_X9_piecesOf_32 E k F t0 y2 (y3 + 1) m5 γ5 Q)) ∧ (¬ ((F (((m5 171 ((y3).toNat))).toNat)) = (F (((m5 172 ((y3).toNat))).toNat))) → ((0 ≤ y3 ∧ y3 < 24) ∧ ((0 ≤ (m5 171 ((y3).toNat)) ∧ (m5 171 ((y3).toNat)) < 64) ∧ ((0 ≤ y3 ∧ y3 < 24) ∧ ((0 ≤ (m5 172 ((y3).toNat)) ∧ (m5 172 ((y3).toNat)) < 64) ∧ (hd_X9_piecesOf_97 E k F t0 y2 y3 (F (((m5 171 ((y3).toNat))).toNat)) (F (((m5 172 ((y3).toNat))).toNat)) 0 m5 γ5 Q)))))))))))))))))))) ∧ (¬ (y3 < (m 158 6)) → (Q y2 m γ (t0 ++ [cI 64 F]))))
abbrev W_X9_piecesOf_97 (E : am_E) (k : Nat) (F : Nat → Int) (t0 : am_H) (y2 : Int) (y3 : Int) (y4 : Int) (y5 : Int) (y6 : Int) (m : MM) (γ : GM) (Q : Int → MM → GM → am_H → Prop) : Prop := (((y6 < (m 158 16)) → ((0 ≤ y6 ∧ y6 < 64) ∧ (rJ (F ((y6).toNat)) ∧ ((((F ((y6).toNat)) = y4) → ((0 ≤ y6 ∧ y6 < 64) ∧ (hd_X9_piecesOf_97 E k (up F ((y6).toNat) y5) t0 y2 y3 y4 y5 (y6 + 1) m γ Q))) ∧ (¬ ((F ((y6).toNat)) = y4) → ((0 ≤ y6 ∧ y6 < 64) ∧ ((0 ≤ y6 ∧ y6 < 64) ∧ (hd_X9_piecesOf_97 E k (up F ((y6).toNat) (F ((y6).toNat))) t0 y2 y3 y4 y5 (y6 + 1) m γ Q)))))))) ∧ (¬ (y6 < (m 158 16)) → (hd_X9_piecesOf_32 E k F t0 (y2 + (-1)) (y3 + 1) m γ Q)))
theorem vc_X9_piecesOf {E : am_E} {k : Nat} {m : MM} {γ : GM} {t : am_H} {Q : Int → MM → GM → am_H → Prop} (hW : W_X9_piecesOf E k  m γ t Q) : TI E (k + 1) 215 [.ref 158] m γ t Q := by
  unfold W_X9_piecesOf at hW
  intro h S
  refine wp_g (n := 1) (pc' := 2) (L' := [some (.ref 158), none, none, none, none, none, none]) (st' := [.int (iI 64)]) rfl ?_
  obtain ⟨p1, hW⟩ := hW
  refine wp_newI (n := 64) rfl (by decide) S p1 (fun H2 S => ?_)
  refine wp_g (n := 3) (pc' := 7) (L' := [some (.ref 158), some (.ref (195 + t.length)), some (.int (iI 0)), none, none, none, none]) (st' := []) rfl ?_
  exact hW none none none none _ S
theorem vc_X9_piecesOf_7 {E : am_E} {k : Nat} {F : Nat → Int} {t0 : am_H} {y2 : Int} {m : MM} {γ : GM} {Q : Int → MM → GM → am_H → Prop} (ht0 : t0.length < 900000) (hy2 : rJ y2) (hW : W_X9_piecesOf_7 E k F t0 y2 m γ Q) : hd_X9_piecesOf_7 E k F t0 y2 m γ Q := by
  unfold W_X9_piecesOf_7 at hW
  intro z3 z4 z5 z6 h S
  refine wp_g (n := 2) (pc' := 9) (L' := [some (.ref 158), some (.ref (195 + t0.length)), some (.int (iI y2)), z3, z4, z5, z6]) (st' := [.ref 158, .int (iI y2)]) rfl ?_
  refine wp_getf (v := .int (iI (m 158 16))) rfl rfl (S.cell 158 (nc rfl)) (by decide) rfl ?_
  have hr1 : rJ (m 158 16) := S.rg 158 16 (nl rfl)
  refine wp_icmpI (a := y2) (b := (m 158 16)) rfl rfl hy2.1 hy2.2 hr1.1 hr1.2 (fun c2 => ?_) (fun c2 => ?_)
  · have dc2 := (Int.not_lt.mpr c2)
    have hW := hW.2 dc2
    refine wp_g (n := 1) (pc' := 26) (L' := [some (.ref 158), some (.ref (195 + t0.length)), some (.int (iI y2)), z3, z4, z5, z6]) (st' := [.ref 158]) rfl ?_
    refine wp_getf (v := .int (iI (m 158 16))) rfl rfl (S.cell 158 (nc rfl)) (by decide) rfl ?_
    refine wp_g (n := 3) (pc' := 32) (L' := [some (.ref 158), some (.ref (195 + t0.length)), some (.int (iI (m 158 16))), some (.int (iI 0)), z4, z5, z6]) (st' := []) rfl ?_
    exact hW z4 z5 z6 _ S
  · have dc2 := (Int.not_le.mp c2)
    have hW := hW.1 dc2
    refine wp_g (n := 3) (pc' := 18) (L' := [some (.ref 158), some (.ref (195 + t0.length)), some (.int (iI y2)), z3, z4, z5, z6]) (st' := [.int (iI y2), .int (iI y2), .ref (195 + t0.length)]) rfl ?_
    obtain ⟨p4, hW⟩ := hW
    refine wp_iasF (n := 64) (F := F) (y := y2) rfl S.tl p4.1 p4.2 (by decide) (fun H3 hl3 hz3 hf3 => ?_)
    have S : ST H3 m γ (t0 ++ [cI 64 (up F ((y2).toNat) y2)]) := S.setT hl3 hz3 hf3
    refine wp_iinc (L' := [some (.ref 158), some (.ref (195 + t0.length)), some (.int (iI (y2 + 1))), z3, z4, z5, z6]) (a := y2) rfl rfl rfl ?_
    refine wp_g (n := 1) (pc' := 7) (L' := [some (.ref 158), some (.ref (195 + t0.length)), some (.int (iI (y2 + 1))), z3, z4, z5, z6]) (st' := []) rfl ?_
    exact hW z3 z4 z5 z6 _ S
theorem vc_X9_piecesOf_32 {E : am_E} {k : Nat} {F : Nat → Int} {t0 : am_H} {y2 : Int} {y3 : Int} {m : MM} {γ : GM} {Q : Int → MM → GM → am_H → Prop} (ht0 : t0.length < 900000) (hy2 : rJ y2) (hy3 : rJ y3) (hW : W_X9_piecesOf_32 E k F t0 y2 y3 m γ Q) : hd_X9_piecesOf_32 E k F t0 y2 y3 m γ Q := by
  unfold W_X9_piecesOf_32 at hW
  intro z4 z5 z6 h S
  refine wp_g (n := 2) (pc' := 34) (L' := [some (.ref 158), some (.ref (195 + t0.length)), some (.int (iI y2)), some (.int (iI y3)), z4, z5, z6]) (st' := [.ref 158, .int (iI y3)]) rfl ?_
  refine wp_getf (v := .int (iI (m 158 6))) rfl rfl (S.cell 158 (nc rfl)) (by decide) rfl ?_
  have hr1 : rJ (m 158 6) := S.rg 158 6 (nl rfl)
  refine wp_icmpI (a := y3) (b := (m 158 6)) rfl rfl hy3.1 hy3.2 hr1.1 hr1.2 (fun c2 => ?_) (fun c2 => ?_)
  · have dc2 := (Int.not_lt.mpr c2)
    have hW := hW.2 dc2
    refine wp_g (n := 1) (pc' := 144) (L' := [some (.ref 158), some (.ref (195 + t0.length)), some (.int (iI y2)), some (.int (iI y3)), z4, z5, z6]) (st' := [.int (iI y2)]) rfl ?_
    exact wp_iret rfl rfl ⟨_, _, _, _, rfl, hy2, S, hW⟩
  · have dc2 := (Int.not_le.mp c2)
    have hW := hW.1 dc2
    refine wp_g (n := 1) (pc' := 41) (L' := [some (.ref 158), some (.ref (195 + t0.length)), some (.int (iI y2)), some (.int (iI y3)), z4, z5, z6]) (st' := [.ref 158]) rfl ?_
    refine wp_getf (v := .ref 162) rfl rfl (S.cell 158 (nc rfl)) (by decide) rfl ?_
    refine wp_g (n := 1) (pc' := 45) (L' := [some (.ref 158), some (.ref (195 + t0.length)), some (.int (iI y2)), some (.int (iI y3)), z4, z5, z6]) (st' := [.int (iI y3), .ref 162]) rfl ?_
    obtain ⟨p3, hW⟩ := hW
    refine wp_iald (n := 24) (F := (m 162)) rfl (S.cell 162 (nc rfl)) (by decide) p3.1 p3.2 (by decide) ?_
    show wp _ _ _ _ _ [.int (iI (m 162 ((y3).toNat)))] _ _
    have hr4 : rJ (m 162 ((y3).toNat)) := S.rg 162 ((y3).toNat) (nl rfl)
    refine wp_cs (As := [.int (iI (m 162 ((y3).toNat)))]) (rest := []) rfl rfl rfl rfl (Nat.le_of_ble_eq_true rfl) (Nat.le_of_ble_eq_true rfl) (hW _ S) (fun r5 H5 q5 => ?_)
    obtain ⟨v5, m5, γ5, t5, rfl, hv5, S, hW⟩ := q5
    show wp _ _ _ _ _ [.int (iI v5)] _ _
    obtain ⟨ht5, hW⟩ := hW
    subst ht5
    refine wp_ifI (a := v5) rfl rfl hv5.1 hv5.2 (fun c6 => ?_) (fun c6 => ?_)
    · have dc6 := c6
      have hW := hW.1 dc6
      refine wp_iinc (L' := [some (.ref 158), some (.ref (195 + t0.length)), some (.int (iI y2)), some (.int (iI (y3 + 1))), z4, z5, z6]) (a := y3) rfl rfl rfl ?_
      refine wp_g (n := 1) (pc' := 32) (L' := [some (.ref 158), some (.ref (195 + t0.length)), some (.int (iI y2)), some (.int (iI (y3 + 1))), z4, z5, z6]) (st' := []) rfl ?_
      exact hW z4 z5 z6 _ S
    · have dc6 := c6
      have hW := hW.2 dc6
      refine wp_g (n := 2) (pc' := 54) (L' := [some (.ref 158), some (.ref (195 + t0.length)), some (.int (iI y2)), some (.int (iI y3)), z4, z5, z6]) (st' := [.ref 158, .ref (195 + t0.length)]) rfl ?_
      refine wp_getf (v := .ref 171) rfl rfl (S.cell 158 (nc rfl)) (by decide) rfl ?_
      refine wp_g (n := 1) (pc' := 58) (L' := [some (.ref 158), some (.ref (195 + t0.length)), some (.int (iI y2)), some (.int (iI y3)), z4, z5, z6]) (st' := [.int (iI y3), .ref 171, .ref (195 + t0.length)]) rfl ?_
      obtain ⟨p7, hW⟩ := hW
      refine wp_iald (n := 24) (F := (m5 171)) rfl (S.cell 171 (nc rfl)) (by decide) p7.1 p7.2 (by decide) ?_
      show wp _ _ _ _ _ [.int (iI (m5 171 ((y3).toNat))), .ref (195 + t0.length)] _ _
      have hr8 : rJ (m5 171 ((y3).toNat)) := S.rg 171 ((y3).toNat) (nl rfl)
      obtain ⟨p9, hW⟩ := hW
      refine wp_iald (n := 64) (F := F) rfl S.tl (by omega) p9.1 p9.2 (by decide) ?_
      refine wp_g (n := 2) (pc' := 62) (L' := [some (.ref 158), some (.ref (195 + t0.length)), some (.int (iI y2)), some (.int (iI y3)), z4, z5, z6]) (st' := [.ref 158, .ref (195 + t0.length), .int (iI (F (((m5 171 ((y3).toNat))).toNat)))]) rfl ?_
      refine wp_getf (v := .ref 172) rfl rfl (S.cell 158 (nc rfl)) (by decide) rfl ?_
      refine wp_g (n := 1) (pc' := 66) (L' := [some (.ref 158), some (.ref (195 + t0.length)), some (.int (iI y2)), some (.int (iI y3)), z4, z5, z6]) (st' := [.int (iI y3), .ref 172, .ref (195 + t0.length), .int (iI (F (((m5 171 ((y3).toNat))).toNat)))]) rfl ?_
      obtain ⟨p10, hW⟩ := hW
      refine wp_iald (n := 24) (F := (m5 172)) rfl (S.cell 172 (nc rfl)) (by decide) p10.1 p10.2 (by decide) ?_
      show wp _ _ _ _ _ [.int (iI (m5 172 ((y3).toNat))), .ref (195 + t0.length), .int (iI (F (((m5 171 ((y3).toNat))).toNat)))] _ _
      have hr11 : rJ (m5 172 ((y3).toNat)) := S.rg 172 ((y3).toNat) (nl rfl)
      obtain ⟨p12, hW⟩ := hW
      refine wp_iald (n := 64) (F := F) rfl S.tl (by omega) p12.1 p12.2 (by decide) ?_
      obtain ⟨p13, hW⟩ := hW
      obtain ⟨p14, hW⟩ := hW
      refine wp_icmpI (a := (F (((m5 171 ((y3).toNat))).toNat))) (b := (F (((m5 172 ((y3).toNat))).toNat))) rfl rfl p13.1 p13.2 p14.1 p14.2 (fun c15 => ?_) (fun c15 => ?_)
      · have dc15 := c15
        have hW := hW.2 dc15
        refine wp_g (n := 2) (pc' := 76) (L' := [some (.ref 158), some (.ref (195 + t0.length)), some (.int (iI y2)), some (.int (iI y3)), z4, z5, z6]) (st' := [.ref 158, .ref (195 + t0.length)]) rfl ?_
        refine wp_getf (v := .ref 171) rfl rfl (S.cell 158 (nc rfl)) (by decide) rfl ?_
        refine wp_g (n := 1) (pc' := 80) (L' := [some (.ref 158), some (.ref (195 + t0.length)), some (.int (iI y2)), some (.int (iI y3)), z4, z5, z6]) (st' := [.int (iI y3), .ref 171, .ref (195 + t0.length)]) rfl ?_
        obtain ⟨p16, hW⟩ := hW
        refine wp_iald (n := 24) (F := (m5 171)) rfl (S.cell 171 (nc rfl)) (by decide) p16.1 p16.2 (by decide) ?_
        show wp _ _ _ _ _ [.int (iI (m5 171 ((y3).toNat))), .ref (195 + t0.length)] _ _
        obtain ⟨p17, hW⟩ := hW
        refine wp_iald (n := 64) (F := F) rfl S.tl (by omega) p17.1 p17.2 (by decide) ?_
        refine wp_g (n := 3) (pc' := 86) (L' := [some (.ref 158), some (.ref (195 + t0.length)), some (.int (iI y2)), some (.int (iI y3)), some (.int (iI (F (((m5 171 ((y3).toNat))).toNat)))), z5, z6]) (st' := [.ref 158, .ref (195 + t0.length)]) rfl ?_
        refine wp_getf (v := .ref 172) rfl rfl (S.cell 158 (nc rfl)) (by decide) rfl ?_
        refine wp_g (n := 1) (pc' := 90) (L' := [some (.ref 158), some (.ref (195 + t0.length)), some (.int (iI y2)), some (.int (iI y3)), some (.int (iI (F (((m5 171 ((y3).toNat))).toNat)))), z5, z6]) (st' := [.int (iI y3), .ref 172, .ref (195 + t0.length)]) rfl ?_
        obtain ⟨p18, hW⟩ := hW
        refine wp_iald (n := 24) (F := (m5 172)) rfl (S.cell 172 (nc rfl)) (by decide) p18.1 p18.2 (by decide) ?_
        show wp _ _ _ _ _ [.int (iI (m5 172 ((y3).toNat))), .ref (195 + t0.length)] _ _
        obtain ⟨p19, hW⟩ := hW
        refine wp_iald (n := 64) (F := F) rfl S.tl (by omega) p19.1 p19.2 (by decide) ?_
        refine wp_g (n := 3) (pc' := 97) (L' := [some (.ref 158), some (.ref (195 + t0.length)), some (.int (iI y2)), some (.int (iI y3)), some (.int (iI (F (((m5 171 ((y3).toNat))).toNat)))), some (.int (iI (F (((m5 172 ((y3).toNat))).toNat)))), some (.int (iI 0))]) (st' := []) rfl ?_
        exact hW _ S
      · have dc15 := (Classical.not_not.mp c15)
        have hW := hW.1 dc15
        refine wp_g (n := 1) (pc' := 137) (L' := [some (.ref 158), some (.ref (195 + t0.length)), some (.int (iI y2)), some (.int (iI y3)), z4, z5, z6]) (st' := []) rfl ?_
        refine wp_iinc (L' := [some (.ref 158), some (.ref (195 + t0.length)), some (.int (iI y2)), some (.int (iI (y3 + 1))), z4, z5, z6]) (a := y3) rfl rfl rfl ?_
        refine wp_g (n := 1) (pc' := 32) (L' := [some (.ref 158), some (.ref (195 + t0.length)), some (.int (iI y2)), some (.int (iI (y3 + 1))), z4, z5, z6]) (st' := []) rfl ?_
        exact hW z4 z5 z6 _ S
theorem vc_X9_piecesOf_97 {E : am_E} {k : Nat} {F : Nat → Int} {t0 : am_H} {y2 : Int} {y3 : Int} {y4 : Int} {y5 : Int} {y6 : Int} {m : MM} {γ : GM} {Q : Int → MM → GM → am_H → Prop} (ht0 : t0.length < 900000) (hy2 : rJ y2) (hy3 : rJ y3) (hy4 : rJ y4) (hy5 : rJ y5) (hy6 : rJ y6) (hW : W_X9_piecesOf_97 E k F t0 y2 y3 y4 y5 y6 m γ Q) : hd_X9_piecesOf_97 E k F t0 y2 y3 y4 y5 y6 m γ Q := by
  unfold W_X9_piecesOf_97 at hW
  intro h S
  refine wp_g (n := 2) (pc' := 100) (L' := [some (.ref 158), some (.ref (195 + t0.length)), some (.int (iI y2)), some (.int (iI y3)), some (.int (iI y4)), some (.int (iI y5)), some (.int (iI y6))]) (st' := [.ref 158, .int (iI y6)]) rfl ?_
  refine wp_getf (v := .int (iI (m 158 16))) rfl rfl (S.cell 158 (nc rfl)) (by decide) rfl ?_
  have hr1 : rJ (m 158 16) := S.rg 158 16 (nl rfl)
  refine wp_icmpI (a := y6) (b := (m 158 16)) rfl rfl hy6.1 hy6.2 hr1.1 hr1.2 (fun c2 => ?_) (fun c2 => ?_)
  · have dc2 := (Int.not_lt.mpr c2)
    have hW := hW.2 dc2
    refine wp_iinc (L' := [some (.ref 158), some (.ref (195 + t0.length)), some (.int (iI (y2 + (-1)))), some (.int (iI y3)), some (.int (iI y4)), some (.int (iI y5)), some (.int (iI y6))]) (a := y2) rfl rfl rfl ?_
    refine wp_iinc (L' := [some (.ref 158), some (.ref (195 + t0.length)), some (.int (iI (y2 + (-1)))), some (.int (iI (y3 + 1))), some (.int (iI y4)), some (.int (iI y5)), some (.int (iI y6))]) (a := y3) rfl rfl rfl ?_
    refine wp_g (n := 1) (pc' := 32) (L' := [some (.ref 158), some (.ref (195 + t0.length)), some (.int (iI (y2 + (-1)))), some (.int (iI (y3 + 1))), some (.int (iI y4)), some (.int (iI y5)), some (.int (iI y6))]) (st' := []) rfl ?_
    exact hW (some (.int (iI y4))) (some (.int (iI y5))) (some (.int (iI y6))) _ S
  · have dc2 := (Int.not_le.mp c2)
    have hW := hW.1 dc2
    refine wp_g (n := 4) (pc' := 112) (L' := [some (.ref 158), some (.ref (195 + t0.length)), some (.int (iI y2)), some (.int (iI y3)), some (.int (iI y4)), some (.int (iI y5)), some (.int (iI y6))]) (st' := [.int (iI y6), .ref (195 + t0.length), .int (iI y6), .ref (195 + t0.length)]) rfl ?_
    obtain ⟨p3, hW⟩ := hW
    refine wp_iald (n := 64) (F := F) rfl S.tl (by omega) p3.1 p3.2 (by decide) ?_
    refine wp_g (n := 1) (pc' := 115) (L' := [some (.ref 158), some (.ref (195 + t0.length)), some (.int (iI y2)), some (.int (iI y3)), some (.int (iI y4)), some (.int (iI y5)), some (.int (iI y6))]) (st' := [.int (iI y4), .int (iI (F ((y6).toNat))), .int (iI y6), .ref (195 + t0.length)]) rfl ?_
    obtain ⟨p4, hW⟩ := hW
    refine wp_icmpI (a := (F ((y6).toNat))) (b := y4) rfl rfl p4.1 p4.2 hy4.1 hy4.2 (fun c5 => ?_) (fun c5 => ?_)
    · have dc5 := c5
      have hW := hW.2 dc5
      refine wp_g (n := 2) (pc' := 126) (L' := [some (.ref 158), some (.ref (195 + t0.length)), some (.int (iI y2)), some (.int (iI y3)), some (.int (iI y4)), some (.int (iI y5)), some (.int (iI y6))]) (st' := [.int (iI y6), .ref (195 + t0.length), .int (iI y6), .ref (195 + t0.length)]) rfl ?_
      obtain ⟨p6, hW⟩ := hW
      refine wp_iald (n := 64) (F := F) rfl S.tl (by omega) p6.1 p6.2 (by decide) ?_
      obtain ⟨p8, hW⟩ := hW
      refine wp_iasF (n := 64) (F := F) (y := (F ((y6).toNat))) rfl S.tl p8.1 p8.2 (by decide) (fun H7 hl7 hz7 hf7 => ?_)
      have S : ST H7 m γ (t0 ++ [cI 64 (up F ((y6).toNat) (F ((y6).toNat)))]) := S.setT hl7 hz7 hf7
      refine wp_iinc (L' := [some (.ref 158), some (.ref (195 + t0.length)), some (.int (iI y2)), some (.int (iI y3)), some (.int (iI y4)), some (.int (iI y5)), some (.int (iI (y6 + 1)))]) (a := y6) rfl rfl rfl ?_
      refine wp_g (n := 1) (pc' := 97) (L' := [some (.ref 158), some (.ref (195 + t0.length)), some (.int (iI y2)), some (.int (iI y3)), some (.int (iI y4)), some (.int (iI y5)), some (.int (iI (y6 + 1)))]) (st' := []) rfl ?_
      exact hW _ S
    · have dc5 := (Classical.not_not.mp c5)
      have hW := hW.1 dc5
      refine wp_g (n := 2) (pc' := 127) (L' := [some (.ref 158), some (.ref (195 + t0.length)), some (.int (iI y2)), some (.int (iI y3)), some (.int (iI y4)), some (.int (iI y5)), some (.int (iI y6))]) (st' := [.int (iI y5), .int (iI y6), .ref (195 + t0.length)]) rfl ?_
      obtain ⟨p10, hW⟩ := hW
      refine wp_iasF (n := 64) (F := F) (y := y5) rfl S.tl p10.1 p10.2 (by decide) (fun H9 hl9 hz9 hf9 => ?_)
      have S : ST H9 m γ (t0 ++ [cI 64 (up F ((y6).toNat) y5)]) := S.setT hl9 hz9 hf9
      refine wp_iinc (L' := [some (.ref 158), some (.ref (195 + t0.length)), some (.int (iI y2)), some (.int (iI y3)), some (.int (iI y4)), some (.int (iI y5)), some (.int (iI (y6 + 1)))]) (a := y6) rfl rfl rfl ?_
      refine wp_g (n := 1) (pc' := 97) (L' := [some (.ref 158), some (.ref (195 + t0.length)), some (.int (iI y2)), some (.int (iI y3)), some (.int (iI y4)), some (.int (iI y5)), some (.int (iI (y6 + 1)))]) (st' := []) rfl ?_
      exact hW _ S
