abbrev W_X6_isSign (E : am_E) (k : Nat) (x1 : Int) (m : MM) (γ : GM) (t : am_H) (Q : Int → MM → GM → am_H → Prop) : Prop := ((((m 99 6) = 3) → ((((m 99 7) = x1) → (Q 1 m γ t)) ∧ (¬ ((m 99 7) = x1) → (Q 0 m γ t)))) ∧ (¬ ((m 99 6) = 3) → (Q 0 m γ t)))
theorem vc_X6_isSign {E : am_E} {k : Nat} {x1 : Int} {m : MM} {γ : GM} {t : am_H} {Q : Int → MM → GM → am_H → Prop} (hx1 : rJ x1) (hW : W_X6_isSign E k x1 m γ t Q) : TI E k 90 [.ref 99, .int (iI x1)] m γ t Q := by
  unfold W_X6_isSign at hW
  intro h S
  refine wp_g (n := 1) (pc' := 1) (L' := [some (.ref 99), some (.int (iI x1))]) (st' := [.ref 99]) rfl ?_
  refine wp_getf (v := .int (iI (m 99 6))) rfl rfl (S.cell 99 (nc rfl)) (by decide) rfl ?_
  have hr1 : rJ (m 99 6) := S.rg 99 6 (nl rfl)
  refine wp_g (n := 1) (pc' := 5) (L' := [some (.ref 99), some (.int (iI x1))]) (st' := [.int (iI 3), .int (iI (m 99 6))]) rfl ?_
  refine wp_icmpI (a := (m 99 6)) (b := 3) rfl rfl hr1.1 hr1.2 (by decide) (by decide) (fun c2 => ?_) (fun c2 => ?_)
  · have dc2 := c2
    have hW := hW.2 dc2
    refine wp_g (n := 1) (pc' := 21) (L' := [some (.ref 99), some (.int (iI x1))]) (st' := [.int (iI 0)]) rfl ?_
    exact wp_zret rfl rfl (by decide) ⟨_, _, _, _, rfl, (by decide), S, hW⟩
  · have dc2 := (Classical.not_not.mp c2)
    have hW := hW.1 dc2
    refine wp_g (n := 1) (pc' := 9) (L' := [some (.ref 99), some (.int (iI x1))]) (st' := [.ref 99]) rfl ?_
    refine wp_getf (v := .int (iI (m 99 7))) rfl rfl (S.cell 99 (nc rfl)) (by decide) rfl ?_
    have hr3 : rJ (m 99 7) := S.rg 99 7 (nl rfl)
    refine wp_g (n := 1) (pc' := 13) (L' := [some (.ref 99), some (.int (iI x1))]) (st' := [.int (iI x1), .int (iI (m 99 7))]) rfl ?_
    refine wp_icmpI (a := (m 99 7)) (b := x1) rfl rfl hr3.1 hr3.2 hx1.1 hx1.2 (fun c4 => ?_) (fun c4 => ?_)
    · have dc4 := c4
      have hW := hW.2 dc4
      refine wp_g (n := 1) (pc' := 21) (L' := [some (.ref 99), some (.int (iI x1))]) (st' := [.int (iI 0)]) rfl ?_
      exact wp_zret rfl rfl (by decide) ⟨_, _, _, _, rfl, (by decide), S, hW⟩
    · have dc4 := (Classical.not_not.mp c4)
      have hW := hW.1 dc4
      refine wp_g (n := 2) (pc' := 21) (L' := [some (.ref 99), some (.int (iI x1))]) (st' := [.int (iI 1)]) rfl ?_
      exact wp_zret rfl rfl (by decide) ⟨_, _, _, _, rfl, (by decide), S, hW⟩
abbrev W_X6_expect (E : am_E) (k : Nat) (x1 : Int) (x2 : Int) (m : MM) (γ : GM) (t : am_H) (Q : Int → MM → GM → am_H → Prop) : Prop := (((x1 = 0) → (Q 1 (up m 99 (up (m 99) 8 x2)) γ t)) ∧ (¬ (x1 = 0) → (Q 0 (up m 99 (up (m 99) 8 x2)) γ t)))
theorem vc_X6_expect {E : am_E} {k : Nat} {x1 : Int} {x2 : Int} {m : MM} {γ : GM} {t : am_H} {Q : Int → MM → GM → am_H → Prop} (hx1 : rJ x1) (hx2 : rJ x2) (hW : W_X6_expect E k x1 x2 m γ t Q) : TI E k 91 [.ref 99, .int (iI x1), .int (iI x2)] m γ t Q := by
  unfold W_X6_expect at hW
  intro h S
  refine wp_g (n := 2) (pc' := 2) (L' := [some (.ref 99), some (.int (iI x1)), some (.int (iI x2))]) (st' := [.int (iI x2), .ref 99]) rfl ?_
  refine wp_putI rfl rfl (S.cell 99 (nc rfl)) (Nat.le_of_ble_eq_true rfl) rfl (fun H1 hl1 hz1 hf1 => ?_)
  have S : ST H1 (up m 99 (up (m 99) 8 x2)) γ t := S.setI 99 (nc rfl) hl1 hz1 hf1 hx2.1 hx2.2
  refine wp_g (n := 1) (pc' := 6) (L' := [some (.ref 99), some (.int (iI x1)), some (.int (iI x2))]) (st' := [.int (iI x1)]) rfl ?_
  refine wp_ifI (a := x1) rfl rfl hx1.1 hx1.2 (fun c2 => ?_) (fun c2 => ?_)
  · have dc2 := c2
    have hW := hW.1 dc2
    refine wp_g (n := 1) (pc' := 14) (L' := [some (.ref 99), some (.int (iI x1)), some (.int (iI x2))]) (st' := [.int (iI 1)]) rfl ?_
    exact wp_iret rfl rfl ⟨_, _, _, _, rfl, (by decide), S, hW⟩
  · have dc2 := c2
    have hW := hW.2 dc2
    refine wp_g (n := 2) (pc' := 14) (L' := [some (.ref 99), some (.int (iI x1)), some (.int (iI x2))]) (st' := [.int (iI 0)]) rfl ?_
    exact wp_iret rfl rfl ⟨_, _, _, _, rfl, (by decide), S, hW⟩
abbrev W_X6_takeNumber (E : am_E) (k : Nat) (x1 : Int) (x2 : Int) (x3 : Int) (m : MM) (γ : GM) (t : am_H) (Q : Int → MM → GM → am_H → Prop) : Prop := ((((m 99 6) = 2) → ((((m 99 7) < x1) → (Q 2 (up m 99 (up (m 99) 8 x3)) γ t)) ∧ (¬ ((m 99 7) < x1) → ((((m 99 7) ≤ x2) → (Q 0 (up m 99 (up (m 99) 8 x3)) γ t)) ∧ (¬ ((m 99 7) ≤ x2) → (Q 2 (up m 99 (up (m 99) 8 x3)) γ t)))))) ∧ (¬ ((m 99 6) = 2) → (Q 1 m γ t)))
theorem vc_X6_takeNumber {E : am_E} {k : Nat} {x1 : Int} {x2 : Int} {x3 : Int} {m : MM} {γ : GM} {t : am_H} {Q : Int → MM → GM → am_H → Prop} (hx1 : rJ x1) (hx2 : rJ x2) (hx3 : rJ x3) (hW : W_X6_takeNumber E k x1 x2 x3 m γ t Q) : TI E k 92 [.ref 99, .int (iI x1), .int (iI x2), .int (iI x3)] m γ t Q := by
  unfold W_X6_takeNumber at hW
  intro h S
  refine wp_g (n := 1) (pc' := 1) (L' := [some (.ref 99), some (.int (iI x1)), some (.int (iI x2)), some (.int (iI x3))]) (st' := [.ref 99]) rfl ?_
  refine wp_getf (v := .int (iI (m 99 6))) rfl rfl (S.cell 99 (nc rfl)) (by decide) rfl ?_
  have hr1 : rJ (m 99 6) := S.rg 99 6 (nl rfl)
  refine wp_g (n := 1) (pc' := 5) (L' := [some (.ref 99), some (.int (iI x1)), some (.int (iI x2)), some (.int (iI x3))]) (st' := [.int (iI 2), .int (iI (m 99 6))]) rfl ?_
  refine wp_icmpI (a := (m 99 6)) (b := 2) rfl rfl hr1.1 hr1.2 (by decide) (by decide) (fun c2 => ?_) (fun c2 => ?_)
  · have dc2 := c2
    have hW := hW.1 dc2
    refine wp_g (n := 2) (pc' := 12) (L' := [some (.ref 99), some (.int (iI x1)), some (.int (iI x2)), some (.int (iI x3))]) (st' := [.int (iI x3), .ref 99]) rfl ?_
    refine wp_putI rfl rfl (S.cell 99 (nc rfl)) (Nat.le_of_ble_eq_true rfl) rfl (fun H3 hl3 hz3 hf3 => ?_)
    have S : ST H3 (up m 99 (up (m 99) 8 x3)) γ t := S.setI 99 (nc rfl) hl3 hz3 hf3 hx3.1 hx3.2
    refine wp_g (n := 1) (pc' := 16) (L' := [some (.ref 99), some (.int (iI x1)), some (.int (iI x2)), some (.int (iI x3))]) (st' := [.ref 99]) rfl ?_
    refine wp_getf (v := .int (iI (m 99 7))) rfl rfl (S.cell 99 (nc rfl)) (by decide) rfl ?_
    have hr4 : rJ (m 99 7) := S.rg 99 7 (nl rfl)
    refine wp_g (n := 1) (pc' := 20) (L' := [some (.ref 99), some (.int (iI x1)), some (.int (iI x2)), some (.int (iI x3))]) (st' := [.int (iI x1), .int (iI (m 99 7))]) rfl ?_
    refine wp_icmpI (a := (m 99 7)) (b := x1) rfl rfl hr4.1 hr4.2 hx1.1 hx1.2 (fun c5 => ?_) (fun c5 => ?_)
    · have dc5 := c5
      have hW := hW.1 dc5
      refine wp_g (n := 2) (pc' := 36) (L' := [some (.ref 99), some (.int (iI x1)), some (.int (iI x2)), some (.int (iI x3))]) (st' := [.int (iI 2)]) rfl ?_
      exact wp_iret rfl rfl ⟨_, _, _, _, rfl, (by decide), S, hW⟩
    · have dc5 := c5
      have hW := hW.2 dc5
      refine wp_g (n := 1) (pc' := 24) (L' := [some (.ref 99), some (.int (iI x1)), some (.int (iI x2)), some (.int (iI x3))]) (st' := [.ref 99]) rfl ?_
      refine wp_getf (v := .int (iI (m 99 7))) rfl rfl (S.cell 99 (nc rfl)) (by decide) rfl ?_
      refine wp_g (n := 1) (pc' := 28) (L' := [some (.ref 99), some (.int (iI x1)), some (.int (iI x2)), some (.int (iI x3))]) (st' := [.int (iI x2), .int (iI (m 99 7))]) rfl ?_
      refine wp_icmpI (a := (m 99 7)) (b := x2) rfl rfl hr4.1 hr4.2 hx2.1 hx2.2 (fun c6 => ?_) (fun c6 => ?_)
      · have dc6 := c6
        have hW := hW.1 dc6
        refine wp_g (n := 1) (pc' := 36) (L' := [some (.ref 99), some (.int (iI x1)), some (.int (iI x2)), some (.int (iI x3))]) (st' := [.int (iI 0)]) rfl ?_
        exact wp_iret rfl rfl ⟨_, _, _, _, rfl, (by decide), S, hW⟩
      · have dc6 := c6
        have hW := hW.2 dc6
        refine wp_g (n := 2) (pc' := 36) (L' := [some (.ref 99), some (.int (iI x1)), some (.int (iI x2)), some (.int (iI x3))]) (st' := [.int (iI 2)]) rfl ?_
        exact wp_iret rfl rfl ⟨_, _, _, _, rfl, (by decide), S, hW⟩
  · have dc2 := c2
    have hW := hW.2 dc2
    refine wp_g (n := 1) (pc' := 9) (L' := [some (.ref 99), some (.int (iI x1)), some (.int (iI x2)), some (.int (iI x3))]) (st' := [.int (iI 1)]) rfl ?_
    exact wp_iret rfl rfl ⟨_, _, _, _, rfl, (by decide), S, hW⟩
abbrev W_X6_takeSide (E : am_E) (k : Nat) (g1 : Nat) (m : MM) (γ : GM) (t : am_H) (Q : Int → MM → GM → am_H → Prop) : Prop := ((((m 99 6) = 1) → ((((m 99 7) = 4) → (TI E k 37 [.ref g1, .int (iI (m 99 11)), .int (iI 0)] m γ t (fun v7 m7 γ7 t7 => (((v7 = (-1)) → (Q 3 m7 γ7 t7)) ∧ (¬ (v7 = (-1)) → (TI E k 33 [.ref g1, .int (iI v7)] m7 γ7 t7 (fun v9 m9 γ9 t9 => (((v9 = 0) → (TV E k 42 [.ref g1, .int (iI v7), .int (iI (m9 99 10))] m9 γ9 t9 (fun m12 γ12 t12 => (Q 0 (up m12 99 (up (m12 99) 8 7)) γ12 t12)))) ∧ (¬ (v9 = 0) → (Q 4 m9 γ9 t9)))))))))) ∧ (¬ ((m 99 7) = 4) → ((((m 99 7) = 5) → (TI E k 37 [.ref g1, .int (iI (m 99 11)), .int (iI 1)] m γ t (fun v17 m17 γ17 t17 => (((v17 = (-1)) → (Q 3 m17 γ17 t17)) ∧ (¬ (v17 = (-1)) → (TI E k 33 [.ref g1, .int (iI v17)] m17 γ17 t17 (fun v19 m19 γ19 t19 => (((v19 = 0) → (TV E k 42 [.ref g1, .int (iI v17), .int (iI (m19 99 10))] m19 γ19 t19 (fun m22 γ22 t22 => (Q 0 (up m22 99 (up (m22 99) 8 7)) γ22 t22)))) ∧ (¬ (v19 = 0) → (Q 4 m19 γ19 t19)))))))))) ∧ (¬ ((m 99 7) = 5) → (Q 1 m γ t)))))) ∧ (¬ ((m 99 6) = 1) → (Q 1 m γ t)))
theorem vc_X6_takeSide {E : am_E} {k : Nat} {g1 : Nat} {m : MM} {γ : GM} {t : am_H} {Q : Int → MM → GM → am_H → Prop} (hg1 : isg g1) (hW : W_X6_takeSide E k g1 m γ t Q) : TI E (k + 1) 93 [.ref 99, .ref g1] m γ t Q := by
  unfold W_X6_takeSide at hW
  intro h S
  refine wp_g (n := 1) (pc' := 1) (L' := [some (.ref 99), some (.ref g1), none]) (st' := [.ref 99]) rfl ?_
  refine wp_getf (v := .int (iI (m 99 6))) rfl rfl (S.cell 99 (nc rfl)) (by decide) rfl ?_
  have hr1 : rJ (m 99 6) := S.rg 99 6 (nl rfl)
  refine wp_g (n := 1) (pc' := 5) (L' := [some (.ref 99), some (.ref g1), none]) (st' := [.int (iI 1), .int (iI (m 99 6))]) rfl ?_
  refine wp_icmpI (a := (m 99 6)) (b := 1) rfl rfl hr1.1 hr1.2 (by decide) (by decide) (fun c2 => ?_) (fun c2 => ?_)
  · have dc2 := c2
    have hW := hW.2 dc2
    refine wp_g (n := 1) (pc' := 25) (L' := [some (.ref 99), some (.ref g1), none]) (st' := [.int (iI 1)]) rfl ?_
    exact wp_iret rfl rfl ⟨_, _, _, _, rfl, (by decide), S, hW⟩
  · have dc2 := (Classical.not_not.mp c2)
    have hW := hW.1 dc2
    refine wp_g (n := 1) (pc' := 9) (L' := [some (.ref 99), some (.ref g1), none]) (st' := [.ref 99]) rfl ?_
    refine wp_getf (v := .int (iI (m 99 7))) rfl rfl (S.cell 99 (nc rfl)) (by decide) rfl ?_
    have hr3 : rJ (m 99 7) := S.rg 99 7 (nl rfl)
    refine wp_g (n := 1) (pc' := 13) (L' := [some (.ref 99), some (.ref g1), none]) (st' := [.int (iI 4), .int (iI (m 99 7))]) rfl ?_
    refine wp_icmpI (a := (m 99 7)) (b := 4) rfl rfl hr3.1 hr3.2 (by decide) (by decide) (fun c4 => ?_) (fun c4 => ?_)
    · have dc4 := c4
      have hW := hW.1 dc4
      refine wp_g (n := 2) (pc' := 28) (L' := [some (.ref 99), some (.ref g1), none]) (st' := [.ref 99, .ref g1]) rfl ?_
      refine wp_getf (v := .int (iI (m 99 11))) rfl rfl (S.cell 99 (nc rfl)) (by decide) rfl ?_
      have hr5 : rJ (m 99 11) := S.rg 99 11 (nl rfl)
      refine wp_g (n := 1) (pc' := 32) (L' := [some (.ref 99), some (.ref g1), none]) (st' := [.ref 99, .int (iI (m 99 11)), .ref g1]) rfl ?_
      refine wp_getf (v := .int (iI (m 99 7))) rfl rfl (S.cell 99 (nc rfl)) (by decide) rfl ?_
      refine wp_g (n := 1) (pc' := 36) (L' := [some (.ref 99), some (.ref g1), none]) (st' := [.int (iI 4), .int (iI (m 99 7)), .int (iI (m 99 11)), .ref g1]) rfl ?_
      refine wp_icmpI (a := (m 99 7)) (b := 4) rfl rfl hr3.1 hr3.2 (by decide) (by decide) (fun c6 => ?_) (fun c6 => ?_)
      · exact absurd dc4 c6
      · skip
        refine wp_g (n := 2) (pc' := 44) (L' := [some (.ref 99), some (.ref g1), none]) (st' := [.int (iI 0), .int (iI (m 99 11)), .ref g1]) rfl ?_
        refine wp_cv (As := [.int (iI (m 99 11)), .int (iI 0)]) (rest := []) rfl rfl (S.gg g1 hg1).obj (isg_lt hg1) rfl rfl rfl (Nat.le_of_ble_eq_true rfl) (Nat.le_of_ble_eq_true rfl) (hW _ S) (fun r7 H7 q7 => ?_)
        obtain ⟨v7, m7, γ7, t7, rfl, hv7, S, hW⟩ := q7
        show wp _ _ _ _ _ [.int (iI v7)] _ _
        refine wp_g (n := 3) (pc' := 50) (L' := [some (.ref 99), some (.ref g1), some (.int (iI v7))]) (st' := [.int (iI (-1)), .int (iI v7)]) rfl ?_
        refine wp_icmpI (a := v7) (b := (-1)) rfl rfl hv7.1 hv7.2 (by decide) (by decide) (fun c8 => ?_) (fun c8 => ?_)
        · have dc8 := c8
          have hW := hW.2 dc8
          refine wp_g (n := 2) (pc' := 57) (L' := [some (.ref 99), some (.ref g1), some (.int (iI v7))]) (st' := [.int (iI v7), .ref g1]) rfl ?_
          refine wp_cv (As := [.int (iI v7)]) (rest := []) rfl rfl (S.gg g1 hg1).obj (isg_lt hg1) rfl rfl rfl (Nat.le_of_ble_eq_true rfl) (Nat.le_of_ble_eq_true rfl) (hW _ S) (fun r9 H9 q9 => ?_)
          obtain ⟨v9, m9, γ9, t9, rfl, hv9, S, hW⟩ := q9
          show wp _ _ _ _ _ [.int (iI v9)] _ _
          refine wp_ifI (a := v9) rfl rfl hv9.1 hv9.2 (fun c10 => ?_) (fun c10 => ?_)
          · have dc10 := c10
            have hW := hW.1 dc10
            refine wp_g (n := 3) (pc' := 68) (L' := [some (.ref 99), some (.ref g1), some (.int (iI v7))]) (st' := [.ref 99, .int (iI v7), .ref g1]) rfl ?_
            refine wp_getf (v := .int (iI (m9 99 10))) rfl rfl (S.cell 99 (nc rfl)) (by decide) rfl ?_
            have hr11 : rJ (m9 99 10) := S.rg 99 10 (nl rfl)
            refine wp_cv (As := [.int (iI v7), .int (iI (m9 99 10))]) (rest := []) rfl rfl (S.gg g1 hg1).obj (isg_lt hg1) rfl rfl rfl (Nat.le_of_ble_eq_true rfl) (Nat.le_of_ble_eq_true rfl) (hW _ S) (fun r12 H12 q12 => ?_)
            obtain ⟨m12, γ12, t12, rfl, S, hW⟩ := q12
            show wp _ _ _ _ _ [] _ _
            refine wp_g (n := 2) (pc' := 77) (L' := [some (.ref 99), some (.ref g1), some (.int (iI v7))]) (st' := [.int (iI 7), .ref 99]) rfl ?_
            refine wp_putI rfl rfl (S.cell 99 (nc rfl)) (Nat.le_of_ble_eq_true rfl) rfl (fun H13 hl13 hz13 hf13 => ?_)
            have S : ST H13 (up m12 99 (up (m12 99) 8 7)) γ12 t12 := S.setI 99 (nc rfl) hl13 hz13 hf13 (by decide) (by decide)
            refine wp_g (n := 1) (pc' := 81) (L' := [some (.ref 99), some (.ref g1), some (.int (iI v7))]) (st' := [.int (iI 0)]) rfl ?_
            exact wp_iret rfl rfl ⟨_, _, _, _, rfl, (by decide), S, hW⟩
          · have dc10 := c10
            have hW := hW.2 dc10
            refine wp_g (n := 1) (pc' := 64) (L' := [some (.ref 99), some (.ref g1), some (.int (iI v7))]) (st' := [.int (iI 4)]) rfl ?_
            exact wp_iret rfl rfl ⟨_, _, _, _, rfl, (by decide), S, hW⟩
        · have dc8 := (Classical.not_not.mp c8)
          have hW := hW.1 dc8
          refine wp_g (n := 1) (pc' := 54) (L' := [some (.ref 99), some (.ref g1), some (.int (iI v7))]) (st' := [.int (iI 3)]) rfl ?_
          exact wp_iret rfl rfl ⟨_, _, _, _, rfl, (by decide), S, hW⟩
    · have dc4 := c4
      have hW := hW.2 dc4
      refine wp_g (n := 1) (pc' := 17) (L' := [some (.ref 99), some (.ref g1), none]) (st' := [.ref 99]) rfl ?_
      refine wp_getf (v := .int (iI (m 99 7))) rfl rfl (S.cell 99 (nc rfl)) (by decide) rfl ?_
      refine wp_g (n := 1) (pc' := 21) (L' := [some (.ref 99), some (.ref g1), none]) (st' := [.int (iI 5), .int (iI (m 99 7))]) rfl ?_
      refine wp_icmpI (a := (m 99 7)) (b := 5) rfl rfl hr3.1 hr3.2 (by decide) (by decide) (fun c14 => ?_) (fun c14 => ?_)
      · have dc14 := c14
        have hW := hW.1 dc14
        refine wp_g (n := 2) (pc' := 28) (L' := [some (.ref 99), some (.ref g1), none]) (st' := [.ref 99, .ref g1]) rfl ?_
        refine wp_getf (v := .int (iI (m 99 11))) rfl rfl (S.cell 99 (nc rfl)) (by decide) rfl ?_
        have hr15 : rJ (m 99 11) := S.rg 99 11 (nl rfl)
        refine wp_g (n := 1) (pc' := 32) (L' := [some (.ref 99), some (.ref g1), none]) (st' := [.ref 99, .int (iI (m 99 11)), .ref g1]) rfl ?_
        refine wp_getf (v := .int (iI (m 99 7))) rfl rfl (S.cell 99 (nc rfl)) (by decide) rfl ?_
        refine wp_g (n := 1) (pc' := 36) (L' := [some (.ref 99), some (.ref g1), none]) (st' := [.int (iI 4), .int (iI (m 99 7)), .int (iI (m 99 11)), .ref g1]) rfl ?_
        refine wp_icmpI (a := (m 99 7)) (b := 4) rfl rfl hr3.1 hr3.2 (by decide) (by decide) (fun c16 => ?_) (fun c16 => ?_)
        · skip
          refine wp_g (n := 1) (pc' := 44) (L' := [some (.ref 99), some (.ref g1), none]) (st' := [.int (iI 1), .int (iI (m 99 11)), .ref g1]) rfl ?_
          refine wp_cv (As := [.int (iI (m 99 11)), .int (iI 1)]) (rest := []) rfl rfl (S.gg g1 hg1).obj (isg_lt hg1) rfl rfl rfl (Nat.le_of_ble_eq_true rfl) (Nat.le_of_ble_eq_true rfl) (hW _ S) (fun r17 H17 q17 => ?_)
          obtain ⟨v17, m17, γ17, t17, rfl, hv17, S, hW⟩ := q17
          show wp _ _ _ _ _ [.int (iI v17)] _ _
          refine wp_g (n := 3) (pc' := 50) (L' := [some (.ref 99), some (.ref g1), some (.int (iI v17))]) (st' := [.int (iI (-1)), .int (iI v17)]) rfl ?_
          refine wp_icmpI (a := v17) (b := (-1)) rfl rfl hv17.1 hv17.2 (by decide) (by decide) (fun c18 => ?_) (fun c18 => ?_)
          · have dc18 := c18
            have hW := hW.2 dc18
            refine wp_g (n := 2) (pc' := 57) (L' := [some (.ref 99), some (.ref g1), some (.int (iI v17))]) (st' := [.int (iI v17), .ref g1]) rfl ?_
            refine wp_cv (As := [.int (iI v17)]) (rest := []) rfl rfl (S.gg g1 hg1).obj (isg_lt hg1) rfl rfl rfl (Nat.le_of_ble_eq_true rfl) (Nat.le_of_ble_eq_true rfl) (hW _ S) (fun r19 H19 q19 => ?_)
            obtain ⟨v19, m19, γ19, t19, rfl, hv19, S, hW⟩ := q19
            show wp _ _ _ _ _ [.int (iI v19)] _ _
            refine wp_ifI (a := v19) rfl rfl hv19.1 hv19.2 (fun c20 => ?_) (fun c20 => ?_)
            · have dc20 := c20
              have hW := hW.1 dc20
              refine wp_g (n := 3) (pc' := 68) (L' := [some (.ref 99), some (.ref g1), some (.int (iI v17))]) (st' := [.ref 99, .int (iI v17), .ref g1]) rfl ?_
              refine wp_getf (v := .int (iI (m19 99 10))) rfl rfl (S.cell 99 (nc rfl)) (by decide) rfl ?_
              have hr21 : rJ (m19 99 10) := S.rg 99 10 (nl rfl)
              refine wp_cv (As := [.int (iI v17), .int (iI (m19 99 10))]) (rest := []) rfl rfl (S.gg g1 hg1).obj (isg_lt hg1) rfl rfl rfl (Nat.le_of_ble_eq_true rfl) (Nat.le_of_ble_eq_true rfl) (hW _ S) (fun r22 H22 q22 => ?_)
              obtain ⟨m22, γ22, t22, rfl, S, hW⟩ := q22
              show wp _ _ _ _ _ [] _ _
              refine wp_g (n := 2) (pc' := 77) (L' := [some (.ref 99), some (.ref g1), some (.int (iI v17))]) (st' := [.int (iI 7), .ref 99]) rfl ?_
              refine wp_putI rfl rfl (S.cell 99 (nc rfl)) (Nat.le_of_ble_eq_true rfl) rfl (fun H23 hl23 hz23 hf23 => ?_)
              have S : ST H23 (up m22 99 (up (m22 99) 8 7)) γ22 t22 := S.setI 99 (nc rfl) hl23 hz23 hf23 (by decide) (by decide)
              refine wp_g (n := 1) (pc' := 81) (L' := [some (.ref 99), some (.ref g1), some (.int (iI v17))]) (st' := [.int (iI 0)]) rfl ?_
              exact wp_iret rfl rfl ⟨_, _, _, _, rfl, (by decide), S, hW⟩
            · have dc20 := c20
              have hW := hW.2 dc20
              refine wp_g (n := 1) (pc' := 64) (L' := [some (.ref 99), some (.ref g1), some (.int (iI v17))]) (st' := [.int (iI 4)]) rfl ?_
              exact wp_iret rfl rfl ⟨_, _, _, _, rfl, (by decide), S, hW⟩
          · have dc18 := (Classical.not_not.mp c18)
            have hW := hW.1 dc18
            refine wp_g (n := 1) (pc' := 54) (L' := [some (.ref 99), some (.ref g1), some (.int (iI v17))]) (st' := [.int (iI 3)]) rfl ?_
            exact wp_iret rfl rfl ⟨_, _, _, _, rfl, (by decide), S, hW⟩
        · exact absurd (Classical.not_not.mp c16) dc4
      · have dc14 := c14
        have hW := hW.2 dc14
        refine wp_g (n := 1) (pc' := 25) (L' := [some (.ref 99), some (.ref g1), none]) (st' := [.int (iI 1)]) rfl ?_
        exact wp_iret rfl rfl ⟨_, _, _, _, rfl, (by decide), S, hW⟩
def hd_X7_follow_61 (E : am_E) (k : Nat) (g1 : Nat) (y2 : Int) (m : MM) (γ : GM) (t : am_H) (Q : MM → GM → am_H → Prop) : Prop := ∀ (z1 : Option Value), TT (pV Q) E (k + 1) 95 61 [some (.ref 10), z1, some (.int (iI y2))] [] m γ t
abbrev W_X7_follow (E : am_E) (k : Nat) (g1 : Nat) (m : MM) (γ : GM) (t : am_H) (Q : MM → GM → am_H → Prop) : Prop := (TI E k 43 [.ref 11, .ref g1] m γ t (fun v1 m1 γ1 t1 => (((v1 = 0) → (TV E k 44 [.ref 11, .ref g1] m1 γ1 t1 (fun m3 γ3 t3 => (TV E k 320 [.ref 15, .int (iI (-1))] (up (up (up m3 10 (up (m3 10) 1 0)) 10 (up (up (m3 10) 1 0) 2 0)) 10 (up (up (up (m3 10) 1 0) 2 0) 3 0)) γ3 t3 (fun m7 γ7 t7 => (TV E k 320 [.ref 25, .int (iI (-1))] m7 γ7 t7 (fun m8 γ8 t8 => (TV E k 320 [.ref 26, .int (iI (-1))] m8 γ8 t8 (fun m9 γ9 t9 => (hd_X7_follow_61 E k g1 0 m9 γ9 t9 Q)))))))))) ∧ (¬ (v1 = 0) → (Q m1 γ1 t1)))))
abbrev W_X7_follow_61 (E : am_E) (k : Nat) (g1 : Nat) (y2 : Int) (m : MM) (γ : GM) (t : am_H) (Q : MM → GM → am_H → Prop) : Prop := (TI E k 27 [.ref 11] m γ t (fun v1 m1 γ1 t1 => (rJ (4 * v1) ∧ (((y2 < (4 * v1)) → (TI E k 182 [.ref 15, .int (iI y2)] m1 γ1 t1 (fun v10 m10 γ10 t10 => (((v10 = (-1)) → (TV E k 96 [.ref 10, .int (iI y2)] m10 γ10 t10 (fun m12 γ12 t12 => (hd_X7_follow_61 E k g1 (y2 + 1) m12 γ12 t12 Q)))) ∧ (¬ (v10 = (-1)) → (hd_X7_follow_61 E k g1 (y2 + 1) m10 γ10 t10 Q)))))) ∧ (¬ (y2 < (4 * v1)) → (TV E k 183 [.ref 19, .int (iI (m1 10 1)), .int (iI (m1 10 2))] m1 γ1 t1 (fun m6 γ6 t6 => (TV E k 183 [.ref 24, .int (iI (m6 10 1)), .int (iI (m6 10 3))] m6 γ6 t6 (fun m9 γ9 t9 => (Q m9 γ9 t9))))))))))
theorem vc_X7_follow {E : am_E} {k : Nat} {g1 : Nat} {m : MM} {γ : GM} {t : am_H} {Q : MM → GM → am_H → Prop} (hg1 : isg g1) (hW : W_X7_follow E k g1 m γ t Q) : TV E (k + 1) 95 [.ref 10, .ref g1] m γ t Q := by
  unfold W_X7_follow at hW
  intro h S
  refine wp_g (n := 1) (pc' := 1) (L' := [some (.ref 10), some (.ref g1), none]) (st' := [.ref 10]) rfl ?_
  refine wp_getf (v := .ref 11) rfl rfl (S.cell 10 (nc rfl)) (by decide) rfl ?_
  refine wp_g (n := 1) (pc' := 5) (L' := [some (.ref 10), some (.ref g1), none]) (st' := [.ref g1, .ref 11]) rfl ?_
  refine wp_cv (As := [.ref g1]) (rest := []) rfl rfl (S.gg 11 (gi rfl)).obj (by decide) rfl rfl rfl (Nat.le_of_ble_eq_true rfl) (Nat.le_of_ble_eq_true rfl) (hW _ S) (fun r1 H1 q1 => ?_)
  obtain ⟨v1, m1, γ1, t1, rfl, hv1, S, hW⟩ := q1
  show wp _ _ _ _ _ [.int (iI v1)] _ _
  refine wp_ifI (a := v1) rfl rfl hv1.1 hv1.2 (fun c2 => ?_) (fun c2 => ?_)
  · have dc2 := c2
    have hW := hW.1 dc2
    refine wp_g (n := 1) (pc' := 13) (L' := [some (.ref 10), some (.ref g1), none]) (st' := [.ref 10]) rfl ?_
    refine wp_getf (v := .ref 11) rfl rfl (S.cell 10 (nc rfl)) (by decide) rfl ?_
    refine wp_g (n := 1) (pc' := 17) (L' := [some (.ref 10), some (.ref g1), none]) (st' := [.ref g1, .ref 11]) rfl ?_
    refine wp_cv (As := [.ref g1]) (rest := []) rfl rfl (S.gg 11 (gi rfl)).obj (by decide) rfl rfl rfl (Nat.le_of_ble_eq_true rfl) (Nat.le_of_ble_eq_true rfl) (hW _ S) (fun r3 H3 q3 => ?_)
    obtain ⟨m3, γ3, t3, rfl, S, hW⟩ := q3
    show wp _ _ _ _ _ [] _ _
    refine wp_g (n := 2) (pc' := 22) (L' := [some (.ref 10), some (.ref g1), none]) (st' := [.int (iI 0), .ref 10]) rfl ?_
    refine wp_putI rfl rfl (S.cell 10 (nc rfl)) (Nat.le_of_ble_eq_true rfl) rfl (fun H4 hl4 hz4 hf4 => ?_)
    have S : ST H4 (up m3 10 (up (m3 10) 1 0)) γ3 t3 := S.setI 10 (nc rfl) hl4 hz4 hf4 (by decide) (by decide)
    refine wp_g (n := 2) (pc' := 27) (L' := [some (.ref 10), some (.ref g1), none]) (st' := [.int (iI 0), .ref 10]) rfl ?_
    refine wp_putI rfl rfl (S.cell 10 (nc rfl)) (Nat.le_of_ble_eq_true rfl) rfl (fun H5 hl5 hz5 hf5 => ?_)
    have S : ST H5 (up (up m3 10 (up (m3 10) 1 0)) 10 (up (up (m3 10) 1 0) 2 0)) γ3 t3 := S.setI 10 (nc rfl) hl5 hz5 hf5 (by decide) (by decide)
    refine wp_g (n := 2) (pc' := 32) (L' := [some (.ref 10), some (.ref g1), none]) (st' := [.int (iI 0), .ref 10]) rfl ?_
    refine wp_putI rfl rfl (S.cell 10 (nc rfl)) (Nat.le_of_ble_eq_true rfl) rfl (fun H6 hl6 hz6 hf6 => ?_)
    have S : ST H6 (up (up (up m3 10 (up (m3 10) 1 0)) 10 (up (up (m3 10) 1 0) 2 0)) 10 (up (up (up (m3 10) 1 0) 2 0) 3 0)) γ3 t3 := S.setI 10 (nc rfl) hl6 hz6 hf6 (by decide) (by decide)
    refine wp_g (n := 1) (pc' := 36) (L' := [some (.ref 10), some (.ref g1), none]) (st' := [.ref 10]) rfl ?_
    refine wp_getf (v := .ref 15) rfl rfl (S.cell 10 (nc rfl)) (by decide) rfl ?_
    refine wp_g (n := 1) (pc' := 40) (L' := [some (.ref 10), some (.ref g1), none]) (st' := [.int (iI (-1)), .ref 15]) rfl ?_
    refine wp_cs (As := [.ref 15, .int (iI (-1))]) (rest := []) rfl rfl rfl rfl (Nat.le_of_ble_eq_true rfl) (Nat.le_of_ble_eq_true rfl) (hW _ S) (fun r7 H7 q7 => ?_)
    obtain ⟨m7, γ7, t7, rfl, S, hW⟩ := q7
    show wp _ _ _ _ _ [] _ _
    refine wp_g (n := 1) (pc' := 44) (L' := [some (.ref 10), some (.ref g1), none]) (st' := [.ref 10]) rfl ?_
    refine wp_getf (v := .ref 25) rfl rfl (S.cell 10 (nc rfl)) (by decide) rfl ?_
    refine wp_g (n := 1) (pc' := 48) (L' := [some (.ref 10), some (.ref g1), none]) (st' := [.int (iI (-1)), .ref 25]) rfl ?_
    refine wp_cs (As := [.ref 25, .int (iI (-1))]) (rest := []) rfl rfl rfl rfl (Nat.le_of_ble_eq_true rfl) (Nat.le_of_ble_eq_true rfl) (hW _ S) (fun r8 H8 q8 => ?_)
    obtain ⟨m8, γ8, t8, rfl, S, hW⟩ := q8
    show wp _ _ _ _ _ [] _ _
    refine wp_g (n := 1) (pc' := 52) (L' := [some (.ref 10), some (.ref g1), none]) (st' := [.ref 10]) rfl ?_
    refine wp_getf (v := .ref 26) rfl rfl (S.cell 10 (nc rfl)) (by decide) rfl ?_
    refine wp_g (n := 1) (pc' := 56) (L' := [some (.ref 10), some (.ref g1), none]) (st' := [.int (iI (-1)), .ref 26]) rfl ?_
    refine wp_cs (As := [.ref 26, .int (iI (-1))]) (rest := []) rfl rfl rfl rfl (Nat.le_of_ble_eq_true rfl) (Nat.le_of_ble_eq_true rfl) (hW _ S) (fun r9 H9 q9 => ?_)
    obtain ⟨m9, γ9, t9, rfl, S, hW⟩ := q9
    show wp _ _ _ _ _ [] _ _
    refine wp_g (n := 2) (pc' := 61) (L' := [some (.ref 10), some (.ref g1), some (.int (iI 0))]) (st' := []) rfl ?_
    exact hW (some (.ref g1)) _ S
  · have dc2 := c2
    have hW := hW.2 dc2
    exact wp_vret rfl rfl ⟨_, _, _, rfl, S, hW⟩
theorem vc_X7_follow_61 {E : am_E} {k : Nat} {g1 : Nat} {y2 : Int} {m : MM} {γ : GM} {t : am_H} {Q : MM → GM → am_H → Prop} (hg1 : isg g1) (hy2 : rJ y2) (hW : W_X7_follow_61 E k g1 y2 m γ t Q) : hd_X7_follow_61 E k g1 y2 m γ t Q := by
  unfold W_X7_follow_61 at hW
  intro z1 h S
  refine wp_g (n := 3) (pc' := 64) (L' := [some (.ref 10), z1, some (.int (iI y2))]) (st' := [.ref 10, .int (iI 4), .int (iI y2)]) rfl ?_
  refine wp_getf (v := .ref 11) rfl rfl (S.cell 10 (nc rfl)) (by decide) rfl ?_
  refine wp_cv (As := []) (rest := [.int (iI 4), .int (iI y2)]) rfl rfl (S.gg 11 (gi rfl)).obj (by decide) rfl rfl rfl (Nat.le_of_ble_eq_true rfl) (Nat.le_of_ble_eq_true rfl) (hW _ S) (fun r1 H1 q1 => ?_)
  obtain ⟨v1, m1, γ1, t1, rfl, hv1, S, hW⟩ := q1
  show wp _ _ _ _ _ [.int (iI v1), .int (iI 4), .int (iI y2)] _ _
  refine wp_mul (a := 4) (b := v1) rfl ?_
  obtain ⟨p2, hW⟩ := hW
  refine wp_icmpI (a := y2) (b := (4 * v1)) rfl rfl hy2.1 hy2.2 p2.1 p2.2 (fun c3 => ?_) (fun c3 => ?_)
  · have dc3 := (Int.not_lt.mpr c3)
    have hW := hW.2 dc3
    refine wp_g (n := 1) (pc' := 98) (L' := [some (.ref 10), z1, some (.int (iI y2))]) (st' := [.ref 10]) rfl ?_
    refine wp_getf (v := .ref 19) rfl rfl (S.cell 10 (nc rfl)) (by decide) rfl ?_
    refine wp_g (n := 1) (pc' := 102) (L' := [some (.ref 10), z1, some (.int (iI y2))]) (st' := [.ref 10, .ref 19]) rfl ?_
    refine wp_getf (v := .int (iI (m1 10 1))) rfl rfl (S.cell 10 (nc rfl)) (by decide) rfl ?_
    have hr4 : rJ (m1 10 1) := S.rg 10 1 (nl rfl)
    refine wp_g (n := 1) (pc' := 106) (L' := [some (.ref 10), z1, some (.int (iI y2))]) (st' := [.ref 10, .int (iI (m1 10 1)), .ref 19]) rfl ?_
    refine wp_getf (v := .int (iI (m1 10 2))) rfl rfl (S.cell 10 (nc rfl)) (by decide) rfl ?_
    have hr5 : rJ (m1 10 2) := S.rg 10 2 (nl rfl)
    refine wp_cs (As := [.ref 19, .int (iI (m1 10 1)), .int (iI (m1 10 2))]) (rest := []) rfl rfl rfl rfl (Nat.le_of_ble_eq_true rfl) (Nat.le_of_ble_eq_true rfl) (hW _ S) (fun r6 H6 q6 => ?_)
    obtain ⟨m6, γ6, t6, rfl, S, hW⟩ := q6
    show wp _ _ _ _ _ [] _ _
    refine wp_g (n := 1) (pc' := 113) (L' := [some (.ref 10), z1, some (.int (iI y2))]) (st' := [.ref 10]) rfl ?_
    refine wp_getf (v := .ref 24) rfl rfl (S.cell 10 (nc rfl)) (by decide) rfl ?_
    refine wp_g (n := 1) (pc' := 117) (L' := [some (.ref 10), z1, some (.int (iI y2))]) (st' := [.ref 10, .ref 24]) rfl ?_
    refine wp_getf (v := .int (iI (m6 10 1))) rfl rfl (S.cell 10 (nc rfl)) (by decide) rfl ?_
    have hr7 : rJ (m6 10 1) := S.rg 10 1 (nl rfl)
    refine wp_g (n := 1) (pc' := 121) (L' := [some (.ref 10), z1, some (.int (iI y2))]) (st' := [.ref 10, .int (iI (m6 10 1)), .ref 24]) rfl ?_
    refine wp_getf (v := .int (iI (m6 10 3))) rfl rfl (S.cell 10 (nc rfl)) (by decide) rfl ?_
    have hr8 : rJ (m6 10 3) := S.rg 10 3 (nl rfl)
    refine wp_cs (As := [.ref 24, .int (iI (m6 10 1)), .int (iI (m6 10 3))]) (rest := []) rfl rfl rfl rfl (Nat.le_of_ble_eq_true rfl) (Nat.le_of_ble_eq_true rfl) (hW _ S) (fun r9 H9 q9 => ?_)
    obtain ⟨m9, γ9, t9, rfl, S, hW⟩ := q9
    show wp _ _ _ _ _ [] _ _
    exact wp_vret rfl rfl ⟨_, _, _, rfl, S, hW⟩
  · have dc3 := (Int.not_le.mp c3)
    have hW := hW.1 dc3
    refine wp_g (n := 1) (pc' := 75) (L' := [some (.ref 10), z1, some (.int (iI y2))]) (st' := [.ref 10]) rfl ?_
    refine wp_getf (v := .ref 15) rfl rfl (S.cell 10 (nc rfl)) (by decide) rfl ?_
    refine wp_g (n := 1) (pc' := 79) (L' := [some (.ref 10), z1, some (.int (iI y2))]) (st' := [.int (iI y2), .ref 15]) rfl ?_
    refine wp_cs (As := [.ref 15, .int (iI y2)]) (rest := []) rfl rfl rfl rfl (Nat.le_of_ble_eq_true rfl) (Nat.le_of_ble_eq_true rfl) (hW _ S) (fun r10 H10 q10 => ?_)
    obtain ⟨v10, m10, γ10, t10, rfl, hv10, S, hW⟩ := q10
    show wp _ _ _ _ _ [.int (iI v10)] _ _
    refine wp_g (n := 1) (pc' := 83) (L' := [some (.ref 10), z1, some (.int (iI y2))]) (st' := [.int (iI (-1)), .int (iI v10)]) rfl ?_
    refine wp_icmpI (a := v10) (b := (-1)) rfl rfl hv10.1 hv10.2 (by decide) (by decide) (fun c11 => ?_) (fun c11 => ?_)
    · have dc11 := c11
      have hW := hW.2 dc11
      refine wp_iinc (L' := [some (.ref 10), (bif am_c2 z1 then none else z1), some (.int (iI (y2 + 1)))]) (a := y2) rfl rfl rfl ?_
      refine wp_g (n := 1) (pc' := 61) (L' := [some (.ref 10), (bif am_c2 z1 then none else z1), some (.int (iI (y2 + 1)))]) (st' := []) rfl ?_
      exact hW (bif am_c2 z1 then none else z1) _ S
    · have dc11 := (Classical.not_not.mp c11)
      have hW := hW.1 dc11
      refine wp_g (n := 2) (pc' := 88) (L' := [some (.ref 10), z1, some (.int (iI y2))]) (st' := [.int (iI y2), .ref 10]) rfl ?_
      refine wp_cv (As := [.int (iI y2)]) (rest := []) rfl rfl (S.cell 10 (nc rfl)) (by decide) rfl rfl rfl (Nat.le_of_ble_eq_true rfl) (Nat.le_of_ble_eq_true rfl) (hW _ S) (fun r12 H12 q12 => ?_)
      obtain ⟨m12, γ12, t12, rfl, S, hW⟩ := q12
      show wp _ _ _ _ _ [] _ _
      refine wp_iinc (L' := [some (.ref 10), (bif am_c2 z1 then none else z1), some (.int (iI (y2 + 1)))]) (a := y2) rfl rfl rfl ?_
      refine wp_g (n := 1) (pc' := 61) (L' := [some (.ref 10), (bif am_c2 z1 then none else z1), some (.int (iI (y2 + 1)))]) (st' := []) rfl ?_
      exact hW (bif am_c2 z1 then none else z1) _ S
abbrev W_X7_strands (E : am_E) (k : Nat) (m : MM) (γ : GM) (t : am_H) (Q : Int → MM → GM → am_H → Prop) : Prop := (Q (m 10 1) m γ t)
theorem vc_X7_strands {E : am_E} {k : Nat} {m : MM} {γ : GM} {t : am_H} {Q : Int → MM → GM → am_H → Prop} (hW : W_X7_strands E k  m γ t Q) : TI E k 99 [.ref 10] m γ t Q := by
  unfold W_X7_strands at hW
  intro h S
  refine wp_g (n := 1) (pc' := 1) (L' := [some (.ref 10)]) (st' := [.ref 10]) rfl ?_
  refine wp_getf (v := .int (iI (m 10 1))) rfl rfl (S.cell 10 (nc rfl)) (by decide) rfl ?_
  have hr1 : rJ (m 10 1) := S.rg 10 1 (nl rfl)
  exact wp_iret rfl rfl ⟨_, _, _, _, rfl, hr1, S, hW⟩
abbrev W_X7_hasStrand (E : am_E) (k : Nat) (x1 : Int) (m : MM) (γ : GM) (t : am_H) (Q : Int → MM → GM → am_H → Prop) : Prop := (((x1 < 0) → (Q 0 m γ t)) ∧ (¬ (x1 < 0) → (((x1 < (m 10 1)) → (Q 1 m γ t)) ∧ (¬ (x1 < (m 10 1)) → (Q 0 m γ t)))))
theorem vc_X7_hasStrand {E : am_E} {k : Nat} {x1 : Int} {m : MM} {γ : GM} {t : am_H} {Q : Int → MM → GM → am_H → Prop} (hx1 : rJ x1) (hW : W_X7_hasStrand E k x1 m γ t Q) : TI E k 100 [.ref 10, .int (iI x1)] m γ t Q := by
  unfold W_X7_hasStrand at hW
  intro h S
  refine wp_g (n := 1) (pc' := 1) (L' := [some (.ref 10), some (.int (iI x1))]) (st' := [.int (iI x1)]) rfl ?_
  refine wp_ifI (a := x1) rfl rfl hx1.1 hx1.2 (fun c1 => ?_) (fun c1 => ?_)
  · have dc1 := c1
    have hW := hW.1 dc1
    refine wp_g (n := 1) (pc' := 17) (L' := [some (.ref 10), some (.int (iI x1))]) (st' := [.int (iI 0)]) rfl ?_
    exact wp_zret rfl rfl (by decide) ⟨_, _, _, _, rfl, (by decide), S, hW⟩
  · have dc1 := c1
    have hW := hW.2 dc1
    refine wp_g (n := 2) (pc' := 6) (L' := [some (.ref 10), some (.int (iI x1))]) (st' := [.ref 10, .int (iI x1)]) rfl ?_
    refine wp_getf (v := .int (iI (m 10 1))) rfl rfl (S.cell 10 (nc rfl)) (by decide) rfl ?_
    have hr2 : rJ (m 10 1) := S.rg 10 1 (nl rfl)
    refine wp_icmpI (a := x1) (b := (m 10 1)) rfl rfl hx1.1 hx1.2 hr2.1 hr2.2 (fun c3 => ?_) (fun c3 => ?_)
    · have dc3 := (Int.not_lt.mpr c3)
      have hW := hW.2 dc3
      refine wp_g (n := 1) (pc' := 17) (L' := [some (.ref 10), some (.int (iI x1))]) (st' := [.int (iI 0)]) rfl ?_
      exact wp_zret rfl rfl (by decide) ⟨_, _, _, _, rfl, (by decide), S, hW⟩
    · have dc3 := (Int.not_le.mp c3)
      have hW := hW.1 dc3
      refine wp_g (n := 2) (pc' := 17) (L' := [some (.ref 10), some (.int (iI x1))]) (st' := [.int (iI 1)]) rfl ?_
      exact wp_zret rfl rfl (by decide) ⟨_, _, _, _, rfl, (by decide), S, hW⟩
abbrev W_X7_strandAt (E : am_E) (k : Nat) (x1 : Int) (m : MM) (γ : GM) (t : am_H) (Q : Int → MM → GM → am_H → Prop) : Prop := (TI E k 182 [.ref 15, .int (iI x1)] m γ t (fun v1 m1 γ1 t1 => (Q v1 m1 γ1 t1)))
theorem vc_X7_strandAt {E : am_E} {k : Nat} {x1 : Int} {m : MM} {γ : GM} {t : am_H} {Q : Int → MM → GM → am_H → Prop} (hx1 : rJ x1) (hW : W_X7_strandAt E k x1 m γ t Q) : TI E (k + 1) 101 [.ref 10, .int (iI x1)] m γ t Q := by
  unfold W_X7_strandAt at hW
  intro h S
  refine wp_g (n := 1) (pc' := 1) (L' := [some (.ref 10), some (.int (iI x1))]) (st' := [.ref 10]) rfl ?_
  refine wp_getf (v := .ref 15) rfl rfl (S.cell 10 (nc rfl)) (by decide) rfl ?_
  refine wp_g (n := 1) (pc' := 5) (L' := [some (.ref 10), some (.int (iI x1))]) (st' := [.int (iI x1), .ref 15]) rfl ?_
  refine wp_cs (As := [.ref 15, .int (iI x1)]) (rest := []) rfl rfl rfl rfl (Nat.le_of_ble_eq_true rfl) (Nat.le_of_ble_eq_true rfl) (hW _ S) (fun r1 H1 q1 => ?_)
  obtain ⟨v1, m1, γ1, t1, rfl, hv1, S, hW⟩ := q1
  show wp _ _ _ _ _ [.int (iI v1)] _ _
  exact wp_iret rfl rfl ⟨_, _, _, _, rfl, hv1, S, hW⟩
abbrev W_X7_placeAt (E : am_E) (k : Nat) (x1 : Int) (m : MM) (γ : GM) (t : am_H) (Q : Int → MM → GM → am_H → Prop) : Prop := (TI E k 182 [.ref 16, .int (iI x1)] m γ t (fun v1 m1 γ1 t1 => (Q v1 m1 γ1 t1)))
theorem vc_X7_placeAt {E : am_E} {k : Nat} {x1 : Int} {m : MM} {γ : GM} {t : am_H} {Q : Int → MM → GM → am_H → Prop} (hx1 : rJ x1) (hW : W_X7_placeAt E k x1 m γ t Q) : TI E (k + 1) 102 [.ref 10, .int (iI x1)] m γ t Q := by
  unfold W_X7_placeAt at hW
  intro h S
  refine wp_g (n := 1) (pc' := 1) (L' := [some (.ref 10), some (.int (iI x1))]) (st' := [.ref 10]) rfl ?_
  refine wp_getf (v := .ref 16) rfl rfl (S.cell 10 (nc rfl)) (by decide) rfl ?_
  refine wp_g (n := 1) (pc' := 5) (L' := [some (.ref 10), some (.int (iI x1))]) (st' := [.int (iI x1), .ref 16]) rfl ?_
  refine wp_cs (As := [.ref 16, .int (iI x1)]) (rest := []) rfl rfl rfl rfl (Nat.le_of_ble_eq_true rfl) (Nat.le_of_ble_eq_true rfl) (hW _ S) (fun r1 H1 q1 => ?_)
  obtain ⟨v1, m1, γ1, t1, rfl, hv1, S, hW⟩ := q1
  show wp _ _ _ _ _ [.int (iI v1)] _ _
  exact wp_iret rfl rfl ⟨_, _, _, _, rfl, hv1, S, hW⟩
abbrev W_X7_paintAt (E : am_E) (k : Nat) (x1 : Int) (m : MM) (γ : GM) (t : am_H) (Q : Int → MM → GM → am_H → Prop) : Prop := (TI E k 182 [.ref 16, .int (iI x1)] m γ t (fun v1 m1 γ1 t1 => (0 ≤ v1 ∧ (Q (v1 % 2) m1 γ1 t1))))
theorem vc_X7_paintAt {E : am_E} {k : Nat} {x1 : Int} {m : MM} {γ : GM} {t : am_H} {Q : Int → MM → GM → am_H → Prop} (hx1 : rJ x1) (hW : W_X7_paintAt E k x1 m γ t Q) : TI E (k + 1) 103 [.ref 10, .int (iI x1)] m γ t Q := by
  unfold W_X7_paintAt at hW
  intro h S
  refine wp_g (n := 1) (pc' := 1) (L' := [some (.ref 10), some (.int (iI x1))]) (st' := [.ref 10]) rfl ?_
  refine wp_getf (v := .ref 16) rfl rfl (S.cell 10 (nc rfl)) (by decide) rfl ?_
  refine wp_g (n := 1) (pc' := 5) (L' := [some (.ref 10), some (.int (iI x1))]) (st' := [.int (iI x1), .ref 16]) rfl ?_
  refine wp_cs (As := [.ref 16, .int (iI x1)]) (rest := []) rfl rfl rfl rfl (Nat.le_of_ble_eq_true rfl) (Nat.le_of_ble_eq_true rfl) (hW _ S) (fun r1 H1 q1 => ?_)
  obtain ⟨v1, m1, γ1, t1, rfl, hv1, S, hW⟩ := q1
  show wp _ _ _ _ _ [.int (iI v1)] _ _
  refine wp_g (n := 1) (pc' := 9) (L' := [some (.ref 10), some (.int (iI x1))]) (st' := [.int (iI 1), .int (iI v1)]) rfl ?_
  obtain ⟨p2, hW⟩ := hW
  refine wp_and1 (a := v1) rfl p2 hv1.2 ?_
  have hr3 : rJ (v1 % 2) := by omega
  exact wp_iret rfl rfl ⟨_, _, _, _, rfl, hr3, S, hW⟩
def hd_X7_paintIn_4 (E : am_E) (k : Nat) (x1 : Int) (y1 : Int) (y2 : Int) (y3 : Int) (m : MM) (γ : GM) (t : am_H) (Q : Int → MM → GM → am_H → Prop) : Prop := TT (pI Q) E (k + 1) 104 4 [some (.ref 10), some (.int (iI y1)), some (.int (iI y2)), some (.int (iI y3))] [] m γ t
abbrev W_X7_paintIn (E : am_E) (k : Nat) (x1 : Int) (m : MM) (γ : GM) (t : am_H) (Q : Int → MM → GM → am_H → Prop) : Prop := (hd_X7_paintIn_4 E k x1 x1 0 0 m γ t Q)
abbrev W_X7_paintIn_4 (E : am_E) (k : Nat) (x1 : Int) (y1 : Int) (y2 : Int) (y3 : Int) (m : MM) (γ : GM) (t : am_H) (Q : Int → MM → GM → am_H → Prop) : Prop := (((y3 < 4) → (TI E k 103 [.ref 10, .int (iI ((4 * y1) + y3))] m γ t (fun v2 m2 γ2 t2 => (hd_X7_paintIn_4 E k x1 y1 (y2 + v2) (y3 + 1) m2 γ2 t2 Q)))) ∧ (¬ (y3 < 4) → (Q y2 m γ t)))
theorem vc_X7_paintIn {E : am_E} {k : Nat} {x1 : Int} {m : MM} {γ : GM} {t : am_H} {Q : Int → MM → GM → am_H → Prop} (hx1 : rJ x1) (hW : W_X7_paintIn E k x1 m γ t Q) : TI E (k + 1) 104 [.ref 10, .int (iI x1)] m γ t Q := by
  unfold W_X7_paintIn at hW
  intro h S
  refine wp_g (n := 4) (pc' := 4) (L' := [some (.ref 10), some (.int (iI x1)), some (.int (iI 0)), some (.int (iI 0))]) (st' := []) rfl ?_
  exact hW _ S
theorem vc_X7_paintIn_4 {E : am_E} {k : Nat} {x1 : Int} {y1 : Int} {y2 : Int} {y3 : Int} {m : MM} {γ : GM} {t : am_H} {Q : Int → MM → GM → am_H → Prop} (hx1 : rJ x1) (hy1 : rJ y1) (hy2 : rJ y2) (hy3 : rJ y3) (hW : W_X7_paintIn_4 E k x1 y1 y2 y3 m γ t Q) : hd_X7_paintIn_4 E k x1 y1 y2 y3 m γ t Q := by
  unfold W_X7_paintIn_4 at hW
  intro h S
  refine wp_g (n := 2) (pc' := 6) (L' := [some (.ref 10), some (.int (iI y1)), some (.int (iI y2)), some (.int (iI y3))]) (st' := [.int (iI 4), .int (iI y3)]) rfl ?_
  refine wp_icmpI (a := y3) (b := 4) rfl rfl hy3.1 hy3.2 (by decide) (by decide) (fun c1 => ?_) (fun c1 => ?_)
  · have dc1 := (Int.not_lt.mpr c1)
    have hW := hW.2 dc1
    refine wp_g (n := 1) (pc' := 28) (L' := [some (.ref 10), some (.int (iI y1)), some (.int (iI y2)), some (.int (iI y3))]) (st' := [.int (iI y2)]) rfl ?_
    exact wp_iret rfl rfl ⟨_, _, _, _, rfl, hy2, S, hW⟩
  · have dc1 := (Int.not_le.mp c1)
    have hW := hW.1 dc1
    refine wp_g (n := 4) (pc' := 13) (L' := [some (.ref 10), some (.int (iI y1)), some (.int (iI y2)), some (.int (iI y3))]) (st' := [.int (iI y1), .int (iI 4), .ref 10, .int (iI y2)]) rfl ?_
    refine wp_mul (a := 4) (b := y1) rfl ?_
    refine wp_g (n := 1) (pc' := 15) (L' := [some (.ref 10), some (.int (iI y1)), some (.int (iI y2)), some (.int (iI y3))]) (st' := [.int (iI y3), .int (iI (4 * y1)), .ref 10, .int (iI y2)]) rfl ?_
    refine wp_add (a := (4 * y1)) (b := y3) rfl ?_
    refine wp_cv (As := [.int (iI ((4 * y1) + y3))]) (rest := [.int (iI y2)]) rfl rfl (S.cell 10 (nc rfl)) (by decide) rfl rfl rfl (Nat.le_of_ble_eq_true rfl) (Nat.le_of_ble_eq_true rfl) (hW _ S) (fun r2 H2 q2 => ?_)
    obtain ⟨v2, m2, γ2, t2, rfl, hv2, S, hW⟩ := q2
    show wp _ _ _ _ _ [.int (iI v2), .int (iI y2)] _ _
    refine wp_add (a := y2) (b := v2) rfl ?_
    refine wp_g (n := 1) (pc' := 21) (L' := [some (.ref 10), some (.int (iI y1)), some (.int (iI (y2 + v2))), some (.int (iI y3))]) (st' := []) rfl ?_
    refine wp_iinc (L' := [some (.ref 10), some (.int (iI y1)), some (.int (iI (y2 + v2))), some (.int (iI (y3 + 1)))]) (a := y3) rfl rfl rfl ?_
    refine wp_g (n := 1) (pc' := 4) (L' := [some (.ref 10), some (.int (iI y1)), some (.int (iI (y2 + v2))), some (.int (iI (y3 + 1)))]) (st' := []) rfl ?_
    exact hW _ S
abbrev W_X7_cornersOn (E : am_E) (k : Nat) (x1 : Int) (m : MM) (γ : GM) (t : am_H) (Q : Int → MM → GM → am_H → Prop) : Prop := (TI E k 182 [.ref 19, .int (iI (x1 + 1))] m γ t (fun v1 m1 γ1 t1 => (TI E k 182 [.ref 19, .int (iI x1)] m1 γ1 t1 (fun v2 m2 γ2 t2 => (rJ (v1 - v2) ∧ (Q (v1 - v2) m2 γ2 t2))))))
theorem vc_X7_cornersOn {E : am_E} {k : Nat} {x1 : Int} {m : MM} {γ : GM} {t : am_H} {Q : Int → MM → GM → am_H → Prop} (hx1 : rJ x1) (hW : W_X7_cornersOn E k x1 m γ t Q) : TI E (k + 1) 105 [.ref 10, .int (iI x1)] m γ t Q := by
  unfold W_X7_cornersOn at hW
  intro h S
  refine wp_g (n := 1) (pc' := 1) (L' := [some (.ref 10), some (.int (iI x1))]) (st' := [.ref 10]) rfl ?_
  refine wp_getf (v := .ref 19) rfl rfl (S.cell 10 (nc rfl)) (by decide) rfl ?_
  refine wp_g (n := 2) (pc' := 6) (L' := [some (.ref 10), some (.int (iI x1))]) (st' := [.int (iI 1), .int (iI x1), .ref 19]) rfl ?_
  refine wp_add (a := x1) (b := 1) rfl ?_
  refine wp_cs (As := [.ref 19, .int (iI (x1 + 1))]) (rest := []) rfl rfl rfl rfl (Nat.le_of_ble_eq_true rfl) (Nat.le_of_ble_eq_true rfl) (hW _ S) (fun r1 H1 q1 => ?_)
  obtain ⟨v1, m1, γ1, t1, rfl, hv1, S, hW⟩ := q1
  show wp _ _ _ _ _ [.int (iI v1)] _ _
  refine wp_g (n := 1) (pc' := 11) (L' := [some (.ref 10), some (.int (iI x1))]) (st' := [.ref 10, .int (iI v1)]) rfl ?_
  refine wp_getf (v := .ref 19) rfl rfl (S.cell 10 (nc rfl)) (by decide) rfl ?_
  refine wp_g (n := 1) (pc' := 15) (L' := [some (.ref 10), some (.int (iI x1))]) (st' := [.int (iI x1), .ref 19, .int (iI v1)]) rfl ?_
  refine wp_cs (As := [.ref 19, .int (iI x1)]) (rest := [.int (iI v1)]) rfl rfl rfl rfl (Nat.le_of_ble_eq_true rfl) (Nat.le_of_ble_eq_true rfl) (hW _ S) (fun r2 H2 q2 => ?_)
  obtain ⟨v2, m2, γ2, t2, rfl, hv2, S, hW⟩ := q2
  show wp _ _ _ _ _ [.int (iI v2), .int (iI v1)] _ _
  refine wp_sub (a := v1) (b := v2) rfl ?_
  obtain ⟨p3, hW⟩ := hW
  exact wp_iret rfl rfl ⟨_, _, _, _, rfl, p3, S, hW⟩
abbrev W_X7_cornerOn (E : am_E) (k : Nat) (x1 : Int) (x2 : Int) (m : MM) (γ : GM) (t : am_H) (Q : Int → MM → GM → am_H → Prop) : Prop := (((x2 < 0) → (Q (-1) m γ t)) ∧ (¬ (x2 < 0) → (TI E k 105 [.ref 10, .int (iI x1)] m γ t (fun v2 m2 γ2 t2 => (((x2 < v2) → (TI E k 182 [.ref 19, .int (iI x1)] m2 γ2 t2 (fun v4 m4 γ4 t4 => (TI E k 182 [.ref 18, .int (iI (v4 + x2))] m4 γ4 t4 (fun v5 m5 γ5 t5 => (Q v5 m5 γ5 t5)))))) ∧ (¬ (x2 < v2) → (Q (-1) m2 γ2 t2)))))))
theorem vc_X7_cornerOn {E : am_E} {k : Nat} {x1 : Int} {x2 : Int} {m : MM} {γ : GM} {t : am_H} {Q : Int → MM → GM → am_H → Prop} (hx1 : rJ x1) (hx2 : rJ x2) (hW : W_X7_cornerOn E k x1 x2 m γ t Q) : TI E (k + 1) 106 [.ref 10, .int (iI x1), .int (iI x2)] m γ t Q := by
  unfold W_X7_cornerOn at hW
  intro h S
  refine wp_g (n := 1) (pc' := 1) (L' := [some (.ref 10), some (.int (iI x1)), some (.int (iI x2))]) (st' := [.int (iI x2)]) rfl ?_
  refine wp_ifI (a := x2) rfl rfl hx2.1 hx2.2 (fun c1 => ?_) (fun c1 => ?_)
  · have dc1 := c1
    have hW := hW.1 dc1
    refine wp_g (n := 2) (pc' := 34) (L' := [some (.ref 10), some (.int (iI x1)), some (.int (iI x2))]) (st' := [.int (iI (-1))]) rfl ?_
    exact wp_iret rfl rfl ⟨_, _, _, _, rfl, (by decide), S, hW⟩
  · have dc1 := c1
    have hW := hW.2 dc1
    refine wp_g (n := 3) (pc' := 7) (L' := [some (.ref 10), some (.int (iI x1)), some (.int (iI x2))]) (st' := [.int (iI x1), .ref 10, .int (iI x2)]) rfl ?_
    refine wp_cv (As := [.int (iI x1)]) (rest := [.int (iI x2)]) rfl rfl (S.cell 10 (nc rfl)) (by decide) rfl rfl rfl (Nat.le_of_ble_eq_true rfl) (Nat.le_of_ble_eq_true rfl) (hW _ S) (fun r2 H2 q2 => ?_)
    obtain ⟨v2, m2, γ2, t2, rfl, hv2, S, hW⟩ := q2
    show wp _ _ _ _ _ [.int (iI v2), .int (iI x2)] _ _
    refine wp_icmpI (a := x2) (b := v2) rfl rfl hx2.1 hx2.2 hv2.1 hv2.2 (fun c3 => ?_) (fun c3 => ?_)
    · have dc3 := c3
      have hW := hW.1 dc3
      refine wp_g (n := 1) (pc' := 18) (L' := [some (.ref 10), some (.int (iI x1)), some (.int (iI x2))]) (st' := [.ref 10]) rfl ?_
      refine wp_getf (v := .ref 18) rfl rfl (S.cell 10 (nc rfl)) (by decide) rfl ?_
      refine wp_g (n := 1) (pc' := 22) (L' := [some (.ref 10), some (.int (iI x1)), some (.int (iI x2))]) (st' := [.ref 10, .ref 18]) rfl ?_
      refine wp_getf (v := .ref 19) rfl rfl (S.cell 10 (nc rfl)) (by decide) rfl ?_
      refine wp_g (n := 1) (pc' := 26) (L' := [some (.ref 10), some (.int (iI x1)), some (.int (iI x2))]) (st' := [.int (iI x1), .ref 19, .ref 18]) rfl ?_
      refine wp_cs (As := [.ref 19, .int (iI x1)]) (rest := [.ref 18]) rfl rfl rfl rfl (Nat.le_of_ble_eq_true rfl) (Nat.le_of_ble_eq_true rfl) (hW _ S) (fun r4 H4 q4 => ?_)
      obtain ⟨v4, m4, γ4, t4, rfl, hv4, S, hW⟩ := q4
      show wp _ _ _ _ _ [.int (iI v4), .ref 18] _ _
      refine wp_g (n := 1) (pc' := 30) (L' := [some (.ref 10), some (.int (iI x1)), some (.int (iI x2))]) (st' := [.int (iI x2), .int (iI v4), .ref 18]) rfl ?_
      refine wp_add (a := v4) (b := x2) rfl ?_
      refine wp_cs (As := [.ref 18, .int (iI (v4 + x2))]) (rest := []) rfl rfl rfl rfl (Nat.le_of_ble_eq_true rfl) (Nat.le_of_ble_eq_true rfl) (hW _ S) (fun r5 H5 q5 => ?_)
      obtain ⟨v5, m5, γ5, t5, rfl, hv5, S, hW⟩ := q5
      show wp _ _ _ _ _ [.int (iI v5)] _ _
      exact wp_iret rfl rfl ⟨_, _, _, _, rfl, hv5, S, hW⟩
    · have dc3 := c3
      have hW := hW.2 dc3
      refine wp_g (n := 2) (pc' := 34) (L' := [some (.ref 10), some (.int (iI x1)), some (.int (iI x2))]) (st' := [.int (iI (-1))]) rfl ?_
      exact wp_iret rfl rfl ⟨_, _, _, _, rfl, (by decide), S, hW⟩
abbrev W_X7_passesOn (E : am_E) (k : Nat) (x1 : Int) (m : MM) (γ : GM) (t : am_H) (Q : Int → MM → GM → am_H → Prop) : Prop := (TI E k 182 [.ref 24, .int (iI (x1 + 1))] m γ t (fun v1 m1 γ1 t1 => (TI E k 182 [.ref 24, .int (iI x1)] m1 γ1 t1 (fun v2 m2 γ2 t2 => (rJ (v1 - v2) ∧ (Q (v1 - v2) m2 γ2 t2))))))
theorem vc_X7_passesOn {E : am_E} {k : Nat} {x1 : Int} {m : MM} {γ : GM} {t : am_H} {Q : Int → MM → GM → am_H → Prop} (hx1 : rJ x1) (hW : W_X7_passesOn E k x1 m γ t Q) : TI E (k + 1) 107 [.ref 10, .int (iI x1)] m γ t Q := by
  unfold W_X7_passesOn at hW
  intro h S
  refine wp_g (n := 1) (pc' := 1) (L' := [some (.ref 10), some (.int (iI x1))]) (st' := [.ref 10]) rfl ?_
  refine wp_getf (v := .ref 24) rfl rfl (S.cell 10 (nc rfl)) (by decide) rfl ?_
  refine wp_g (n := 2) (pc' := 6) (L' := [some (.ref 10), some (.int (iI x1))]) (st' := [.int (iI 1), .int (iI x1), .ref 24]) rfl ?_
  refine wp_add (a := x1) (b := 1) rfl ?_
  refine wp_cs (As := [.ref 24, .int (iI (x1 + 1))]) (rest := []) rfl rfl rfl rfl (Nat.le_of_ble_eq_true rfl) (Nat.le_of_ble_eq_true rfl) (hW _ S) (fun r1 H1 q1 => ?_)
  obtain ⟨v1, m1, γ1, t1, rfl, hv1, S, hW⟩ := q1
  show wp _ _ _ _ _ [.int (iI v1)] _ _
  refine wp_g (n := 1) (pc' := 11) (L' := [some (.ref 10), some (.int (iI x1))]) (st' := [.ref 10, .int (iI v1)]) rfl ?_
  refine wp_getf (v := .ref 24) rfl rfl (S.cell 10 (nc rfl)) (by decide) rfl ?_
  refine wp_g (n := 1) (pc' := 15) (L' := [some (.ref 10), some (.int (iI x1))]) (st' := [.int (iI x1), .ref 24, .int (iI v1)]) rfl ?_
  refine wp_cs (As := [.ref 24, .int (iI x1)]) (rest := [.int (iI v1)]) rfl rfl rfl rfl (Nat.le_of_ble_eq_true rfl) (Nat.le_of_ble_eq_true rfl) (hW _ S) (fun r2 H2 q2 => ?_)
  obtain ⟨v2, m2, γ2, t2, rfl, hv2, S, hW⟩ := q2
  show wp _ _ _ _ _ [.int (iI v2), .int (iI v1)] _ _
  refine wp_sub (a := v1) (b := v2) rfl ?_
  obtain ⟨p3, hW⟩ := hW
  exact wp_iret rfl rfl ⟨_, _, _, _, rfl, p3, S, hW⟩
abbrev W_X7_edgePassed (E : am_E) (k : Nat) (x1 : Int) (x2 : Int) (m : MM) (γ : GM) (t : am_H) (Q : Int → MM → GM → am_H → Prop) : Prop := (((x2 < 0) → (Q (-1) m γ t)) ∧ (¬ (x2 < 0) → (TI E k 107 [.ref 10, .int (iI x1)] m γ t (fun v2 m2 γ2 t2 => (((x2 < v2) → (TI E k 182 [.ref 24, .int (iI x1)] m2 γ2 t2 (fun v4 m4 γ4 t4 => (TI E k 182 [.ref 20, .int (iI (v4 + x2))] m4 γ4 t4 (fun v5 m5 γ5 t5 => (Q v5 m5 γ5 t5)))))) ∧ (¬ (x2 < v2) → (Q (-1) m2 γ2 t2)))))))
theorem vc_X7_edgePassed {E : am_E} {k : Nat} {x1 : Int} {x2 : Int} {m : MM} {γ : GM} {t : am_H} {Q : Int → MM → GM → am_H → Prop} (hx1 : rJ x1) (hx2 : rJ x2) (hW : W_X7_edgePassed E k x1 x2 m γ t Q) : TI E (k + 1) 108 [.ref 10, .int (iI x1), .int (iI x2)] m γ t Q := by
  unfold W_X7_edgePassed at hW
  intro h S
  refine wp_g (n := 1) (pc' := 1) (L' := [some (.ref 10), some (.int (iI x1)), some (.int (iI x2))]) (st' := [.int (iI x2)]) rfl ?_
  refine wp_ifI (a := x2) rfl rfl hx2.1 hx2.2 (fun c1 => ?_) (fun c1 => ?_)
  · have dc1 := c1
    have hW := hW.1 dc1
    refine wp_g (n := 2) (pc' := 34) (L' := [some (.ref 10), some (.int (iI x1)), some (.int (iI x2))]) (st' := [.int (iI (-1))]) rfl ?_
    exact wp_iret rfl rfl ⟨_, _, _, _, rfl, (by decide), S, hW⟩
  · have dc1 := c1
    have hW := hW.2 dc1
    refine wp_g (n := 3) (pc' := 7) (L' := [some (.ref 10), some (.int (iI x1)), some (.int (iI x2))]) (st' := [.int (iI x1), .ref 10, .int (iI x2)]) rfl ?_
    refine wp_cv (As := [.int (iI x1)]) (rest := [.int (iI x2)]) rfl rfl (S.cell 10 (nc rfl)) (by decide) rfl rfl rfl (Nat.le_of_ble_eq_true rfl) (Nat.le_of_ble_eq_true rfl) (hW _ S) (fun r2 H2 q2 => ?_)
    obtain ⟨v2, m2, γ2, t2, rfl, hv2, S, hW⟩ := q2
    show wp _ _ _ _ _ [.int (iI v2), .int (iI x2)] _ _
    refine wp_icmpI (a := x2) (b := v2) rfl rfl hx2.1 hx2.2 hv2.1 hv2.2 (fun c3 => ?_) (fun c3 => ?_)
    · have dc3 := c3
      have hW := hW.1 dc3
      refine wp_g (n := 1) (pc' := 18) (L' := [some (.ref 10), some (.int (iI x1)), some (.int (iI x2))]) (st' := [.ref 10]) rfl ?_
      refine wp_getf (v := .ref 20) rfl rfl (S.cell 10 (nc rfl)) (by decide) rfl ?_
      refine wp_g (n := 1) (pc' := 22) (L' := [some (.ref 10), some (.int (iI x1)), some (.int (iI x2))]) (st' := [.ref 10, .ref 20]) rfl ?_
      refine wp_getf (v := .ref 24) rfl rfl (S.cell 10 (nc rfl)) (by decide) rfl ?_
      refine wp_g (n := 1) (pc' := 26) (L' := [some (.ref 10), some (.int (iI x1)), some (.int (iI x2))]) (st' := [.int (iI x1), .ref 24, .ref 20]) rfl ?_
      refine wp_cs (As := [.ref 24, .int (iI x1)]) (rest := [.ref 20]) rfl rfl rfl rfl (Nat.le_of_ble_eq_true rfl) (Nat.le_of_ble_eq_true rfl) (hW _ S) (fun r4 H4 q4 => ?_)
      obtain ⟨v4, m4, γ4, t4, rfl, hv4, S, hW⟩ := q4
      show wp _ _ _ _ _ [.int (iI v4), .ref 20] _ _
      refine wp_g (n := 1) (pc' := 30) (L' := [some (.ref 10), some (.int (iI x1)), some (.int (iI x2))]) (st' := [.int (iI x2), .int (iI v4), .ref 20]) rfl ?_
      refine wp_add (a := v4) (b := x2) rfl ?_
      refine wp_cs (As := [.ref 20, .int (iI (v4 + x2))]) (rest := []) rfl rfl rfl rfl (Nat.le_of_ble_eq_true rfl) (Nat.le_of_ble_eq_true rfl) (hW _ S) (fun r5 H5 q5 => ?_)
      obtain ⟨v5, m5, γ5, t5, rfl, hv5, S, hW⟩ := q5
      show wp _ _ _ _ _ [.int (iI v5)] _ _
      exact wp_iret rfl rfl ⟨_, _, _, _, rfl, hv5, S, hW⟩
    · have dc3 := c3
      have hW := hW.2 dc3
      refine wp_g (n := 2) (pc' := 34) (L' := [some (.ref 10), some (.int (iI x1)), some (.int (iI x2))]) (st' := [.int (iI (-1))]) rfl ?_
      exact wp_iret rfl rfl ⟨_, _, _, _, rfl, (by decide), S, hW⟩
abbrev W_X7_isOverAt (E : am_E) (k : Nat) (x1 : Int) (x2 : Int) (m : MM) (γ : GM) (t : am_H) (Q : Int → MM → GM → am_H → Prop) : Prop := (TI E k 108 [.ref 10, .int (iI x1), .int (iI x2)] m γ t (fun v1 m1 γ1 t1 => (TI E k 182 [.ref 25, .int (iI v1)] m1 γ1 t1 (fun v2 m2 γ2 t2 => (TI E k 182 [.ref 24, .int (iI x1)] m2 γ2 t2 (fun v3 m3 γ3 t3 => (rJ (v3 + x2) ∧ (((v2 = (v3 + x2)) → (Q 1 m3 γ3 t3)) ∧ (¬ (v2 = (v3 + x2)) → (Q 0 m3 γ3 t3))))))))))
theorem vc_X7_isOverAt {E : am_E} {k : Nat} {x1 : Int} {x2 : Int} {m : MM} {γ : GM} {t : am_H} {Q : Int → MM → GM → am_H → Prop} (hx1 : rJ x1) (hx2 : rJ x2) (hW : W_X7_isOverAt E k x1 x2 m γ t Q) : TI E (k + 1) 109 [.ref 10, .int (iI x1), .int (iI x2)] m γ t Q := by
  unfold W_X7_isOverAt at hW
  intro h S
  refine wp_g (n := 1) (pc' := 1) (L' := [some (.ref 10), some (.int (iI x1)), some (.int (iI x2))]) (st' := [.ref 10]) rfl ?_
  refine wp_getf (v := .ref 25) rfl rfl (S.cell 10 (nc rfl)) (by decide) rfl ?_
  refine wp_g (n := 3) (pc' := 7) (L' := [some (.ref 10), some (.int (iI x1)), some (.int (iI x2))]) (st' := [.int (iI x2), .int (iI x1), .ref 10, .ref 25]) rfl ?_
  refine wp_cv (As := [.int (iI x1), .int (iI x2)]) (rest := [.ref 25]) rfl rfl (S.cell 10 (nc rfl)) (by decide) rfl rfl rfl (Nat.le_of_ble_eq_true rfl) (Nat.le_of_ble_eq_true rfl) (hW _ S) (fun r1 H1 q1 => ?_)
  obtain ⟨v1, m1, γ1, t1, rfl, hv1, S, hW⟩ := q1
  show wp _ _ _ _ _ [.int (iI v1), .ref 25] _ _
  refine wp_cs (As := [.ref 25, .int (iI v1)]) (rest := []) rfl rfl rfl rfl (Nat.le_of_ble_eq_true rfl) (Nat.le_of_ble_eq_true rfl) (hW _ S) (fun r2 H2 q2 => ?_)
  obtain ⟨v2, m2, γ2, t2, rfl, hv2, S, hW⟩ := q2
  show wp _ _ _ _ _ [.int (iI v2)] _ _
  refine wp_g (n := 1) (pc' := 14) (L' := [some (.ref 10), some (.int (iI x1)), some (.int (iI x2))]) (st' := [.ref 10, .int (iI v2)]) rfl ?_
  refine wp_getf (v := .ref 24) rfl rfl (S.cell 10 (nc rfl)) (by decide) rfl ?_
  refine wp_g (n := 1) (pc' := 18) (L' := [some (.ref 10), some (.int (iI x1)), some (.int (iI x2))]) (st' := [.int (iI x1), .ref 24, .int (iI v2)]) rfl ?_
  refine wp_cs (As := [.ref 24, .int (iI x1)]) (rest := [.int (iI v2)]) rfl rfl rfl rfl (Nat.le_of_ble_eq_true rfl) (Nat.le_of_ble_eq_true rfl) (hW _ S) (fun r3 H3 q3 => ?_)
  obtain ⟨v3, m3, γ3, t3, rfl, hv3, S, hW⟩ := q3
  show wp _ _ _ _ _ [.int (iI v3), .int (iI v2)] _ _
  refine wp_g (n := 1) (pc' := 22) (L' := [some (.ref 10), some (.int (iI x1)), some (.int (iI x2))]) (st' := [.int (iI x2), .int (iI v3), .int (iI v2)]) rfl ?_
  refine wp_add (a := v3) (b := x2) rfl ?_
  obtain ⟨p4, hW⟩ := hW
  refine wp_icmpI (a := v2) (b := (v3 + x2)) rfl rfl hv2.1 hv2.2 p4.1 p4.2 (fun c5 => ?_) (fun c5 => ?_)
  · have dc5 := c5
    have hW := hW.2 dc5
    refine wp_g (n := 1) (pc' := 31) (L' := [some (.ref 10), some (.int (iI x1)), some (.int (iI x2))]) (st' := [.int (iI 0)]) rfl ?_
    exact wp_zret rfl rfl (by decide) ⟨_, _, _, _, rfl, (by decide), S, hW⟩
  · have dc5 := (Classical.not_not.mp c5)
    have hW := hW.1 dc5
    refine wp_g (n := 2) (pc' := 31) (L' := [some (.ref 10), some (.int (iI x1)), some (.int (iI x2))]) (st' := [.int (iI 1)]) rfl ?_
    exact wp_zret rfl rfl (by decide) ⟨_, _, _, _, rfl, (by decide), S, hW⟩
abbrev W_X7_overStrand (E : am_E) (k : Nat) (x1 : Int) (m : MM) (γ : GM) (t : am_H) (Q : Int → MM → GM → am_H → Prop) : Prop := (TI E k 182 [.ref 25, .int (iI x1)] m γ t (fun v1 m1 γ1 t1 => (TI E k 182 [.ref 21, .int (iI v1)] m1 γ1 t1 (fun v2 m2 γ2 t2 => (Q v2 m2 γ2 t2)))))
theorem vc_X7_overStrand {E : am_E} {k : Nat} {x1 : Int} {m : MM} {γ : GM} {t : am_H} {Q : Int → MM → GM → am_H → Prop} (hx1 : rJ x1) (hW : W_X7_overStrand E k x1 m γ t Q) : TI E (k + 1) 110 [.ref 10, .int (iI x1)] m γ t Q := by
  unfold W_X7_overStrand at hW
  intro h S
  refine wp_g (n := 1) (pc' := 1) (L' := [some (.ref 10), some (.int (iI x1))]) (st' := [.ref 10]) rfl ?_
  refine wp_getf (v := .ref 21) rfl rfl (S.cell 10 (nc rfl)) (by decide) rfl ?_
  refine wp_g (n := 1) (pc' := 5) (L' := [some (.ref 10), some (.int (iI x1))]) (st' := [.ref 10, .ref 21]) rfl ?_
  refine wp_getf (v := .ref 25) rfl rfl (S.cell 10 (nc rfl)) (by decide) rfl ?_
  refine wp_g (n := 1) (pc' := 9) (L' := [some (.ref 10), some (.int (iI x1))]) (st' := [.int (iI x1), .ref 25, .ref 21]) rfl ?_
  refine wp_cs (As := [.ref 25, .int (iI x1)]) (rest := [.ref 21]) rfl rfl rfl rfl (Nat.le_of_ble_eq_true rfl) (Nat.le_of_ble_eq_true rfl) (hW _ S) (fun r1 H1 q1 => ?_)
  obtain ⟨v1, m1, γ1, t1, rfl, hv1, S, hW⟩ := q1
  show wp _ _ _ _ _ [.int (iI v1), .ref 21] _ _
  refine wp_cs (As := [.ref 21, .int (iI v1)]) (rest := []) rfl rfl rfl rfl (Nat.le_of_ble_eq_true rfl) (Nat.le_of_ble_eq_true rfl) (hW _ S) (fun r2 H2 q2 => ?_)
  obtain ⟨v2, m2, γ2, t2, rfl, hv2, S, hW⟩ := q2
  show wp _ _ _ _ _ [.int (iI v2)] _ _
  exact wp_iret rfl rfl ⟨_, _, _, _, rfl, hv2, S, hW⟩
abbrev W_X7_underStrand (E : am_E) (k : Nat) (x1 : Int) (m : MM) (γ : GM) (t : am_H) (Q : Int → MM → GM → am_H → Prop) : Prop := (TI E k 182 [.ref 26, .int (iI x1)] m γ t (fun v1 m1 γ1 t1 => (TI E k 182 [.ref 21, .int (iI v1)] m1 γ1 t1 (fun v2 m2 γ2 t2 => (Q v2 m2 γ2 t2)))))
theorem vc_X7_underStrand {E : am_E} {k : Nat} {x1 : Int} {m : MM} {γ : GM} {t : am_H} {Q : Int → MM → GM → am_H → Prop} (hx1 : rJ x1) (hW : W_X7_underStrand E k x1 m γ t Q) : TI E (k + 1) 111 [.ref 10, .int (iI x1)] m γ t Q := by
  unfold W_X7_underStrand at hW
  intro h S
  refine wp_g (n := 1) (pc' := 1) (L' := [some (.ref 10), some (.int (iI x1))]) (st' := [.ref 10]) rfl ?_
  refine wp_getf (v := .ref 21) rfl rfl (S.cell 10 (nc rfl)) (by decide) rfl ?_
  refine wp_g (n := 1) (pc' := 5) (L' := [some (.ref 10), some (.int (iI x1))]) (st' := [.ref 10, .ref 21]) rfl ?_
  refine wp_getf (v := .ref 26) rfl rfl (S.cell 10 (nc rfl)) (by decide) rfl ?_
  refine wp_g (n := 1) (pc' := 9) (L' := [some (.ref 10), some (.int (iI x1))]) (st' := [.int (iI x1), .ref 26, .ref 21]) rfl ?_
  refine wp_cs (As := [.ref 26, .int (iI x1)]) (rest := [.ref 21]) rfl rfl rfl rfl (Nat.le_of_ble_eq_true rfl) (Nat.le_of_ble_eq_true rfl) (hW _ S) (fun r1 H1 q1 => ?_)
  obtain ⟨v1, m1, γ1, t1, rfl, hv1, S, hW⟩ := q1
  show wp _ _ _ _ _ [.int (iI v1), .ref 21] _ _
  refine wp_cs (As := [.ref 21, .int (iI v1)]) (rest := []) rfl rfl rfl rfl (Nat.le_of_ble_eq_true rfl) (Nat.le_of_ble_eq_true rfl) (hW _ S) (fun r2 H2 q2 => ?_)
  obtain ⟨v2, m2, γ2, t2, rfl, hv2, S, hW⟩ := q2
  show wp _ _ _ _ _ [.int (iI v2)] _ _
  exact wp_iret rfl rfl ⟨_, _, _, _, rfl, hv2, S, hW⟩
abbrev W_X7_ownerOf (E : am_E) (k : Nat) (x1 : Int) (m : MM) (γ : GM) (t : am_H) (Q : Int → MM → GM → am_H → Prop) : Prop := (TI E k 110 [.ref 10, .int (iI x1)] m γ t (fun v1 m1 γ1 t1 => (TI E k 111 [.ref 10, .int (iI x1)] m1 γ1 t1 (fun v2 m2 γ2 t2 => (((v1 = v2) → (Q v1 m2 γ2 t2)) ∧ (¬ (v1 = v2) → (Q (-1) m2 γ2 t2)))))))
theorem vc_X7_ownerOf {E : am_E} {k : Nat} {x1 : Int} {m : MM} {γ : GM} {t : am_H} {Q : Int → MM → GM → am_H → Prop} (hx1 : rJ x1) (hW : W_X7_ownerOf E k x1 m γ t Q) : TI E (k + 1) 112 [.ref 10, .int (iI x1)] m γ t Q := by
  unfold W_X7_ownerOf at hW
  intro h S
  refine wp_g (n := 2) (pc' := 2) (L' := [some (.ref 10), some (.int (iI x1)), none]) (st' := [.int (iI x1), .ref 10]) rfl ?_
  refine wp_cv (As := [.int (iI x1)]) (rest := []) rfl rfl (S.cell 10 (nc rfl)) (by decide) rfl rfl rfl (Nat.le_of_ble_eq_true rfl) (Nat.le_of_ble_eq_true rfl) (hW _ S) (fun r1 H1 q1 => ?_)
  obtain ⟨v1, m1, γ1, t1, rfl, hv1, S, hW⟩ := q1
  show wp _ _ _ _ _ [.int (iI v1)] _ _
  refine wp_g (n := 4) (pc' := 9) (L' := [some (.ref 10), some (.int (iI x1)), some (.int (iI v1))]) (st' := [.int (iI x1), .ref 10, .int (iI v1)]) rfl ?_
  refine wp_cv (As := [.int (iI x1)]) (rest := [.int (iI v1)]) rfl rfl (S.cell 10 (nc rfl)) (by decide) rfl rfl rfl (Nat.le_of_ble_eq_true rfl) (Nat.le_of_ble_eq_true rfl) (hW _ S) (fun r2 H2 q2 => ?_)
  obtain ⟨v2, m2, γ2, t2, rfl, hv2, S, hW⟩ := q2
  show wp _ _ _ _ _ [.int (iI v2), .int (iI v1)] _ _
  refine wp_icmpI (a := v1) (b := v2) rfl rfl hv1.1 hv1.2 hv2.1 hv2.2 (fun c3 => ?_) (fun c3 => ?_)
  · have dc3 := c3
    have hW := hW.2 dc3
    refine wp_g (n := 1) (pc' := 20) (L' := [some (.ref 10), some (.int (iI x1)), some (.int (iI v1))]) (st' := [.int (iI (-1))]) rfl ?_
    exact wp_iret rfl rfl ⟨_, _, _, _, rfl, (by decide), S, hW⟩
  · have dc3 := (Classical.not_not.mp c3)
    have hW := hW.1 dc3
    refine wp_g (n := 2) (pc' := 20) (L' := [some (.ref 10), some (.int (iI x1)), some (.int (iI v1))]) (st' := [.int (iI v1)]) rfl ?_
    exact wp_iret rfl rfl ⟨_, _, _, _, rfl, hv1, S, hW⟩
abbrev W_X7_edges (E : am_E) (k : Nat) (m : MM) (γ : GM) (t : am_H) (Q : Int → MM → GM → am_H → Prop) : Prop := (TI E k 28 [.ref 11] m γ t (fun v1 m1 γ1 t1 => (Q v1 m1 γ1 t1)))
theorem vc_X7_edges {E : am_E} {k : Nat} {m : MM} {γ : GM} {t : am_H} {Q : Int → MM → GM → am_H → Prop} (hW : W_X7_edges E k  m γ t Q) : TI E (k + 1) 113 [.ref 10] m γ t Q := by
  unfold W_X7_edges at hW
  intro h S
  refine wp_g (n := 1) (pc' := 1) (L' := [some (.ref 10)]) (st' := [.ref 10]) rfl ?_
  refine wp_getf (v := .ref 11) rfl rfl (S.cell 10 (nc rfl)) (by decide) rfl ?_
  refine wp_cv (As := []) (rest := []) rfl rfl (S.gg 11 (gi rfl)).obj (by decide) rfl rfl rfl (Nat.le_of_ble_eq_true rfl) (Nat.le_of_ble_eq_true rfl) (hW _ S) (fun r1 H1 q1 => ?_)
  obtain ⟨v1, m1, γ1, t1, rfl, hv1, S, hW⟩ := q1
  show wp _ _ _ _ _ [.int (iI v1)] _ _
  exact wp_iret rfl rfl ⟨_, _, _, _, rfl, hv1, S, hW⟩
abbrev W_X7_signOf (E : am_E) (k : Nat) (x1 : Int) (m : MM) (γ : GM) (t : am_H) (Q : Int → MM → GM → am_H → Prop) : Prop := (TI E k 34 [.ref 11, .int (iI x1)] m γ t (fun v1 m1 γ1 t1 => (((v1 = 0) → (Q 0 m1 γ1 t1)) ∧ (¬ (v1 = 0) → (TI E k 182 [.ref 25, .int (iI x1)] m1 γ1 t1 (fun v3 m3 γ3 t3 => (TI E k 182 [.ref 26, .int (iI x1)] m3 γ3 t3 (fun v4 m4 γ4 t4 => (TI E k 182 [.ref 23, .int (iI v3)] m4 γ4 t4 (fun v5 m5 γ5 t5 => (TI E k 182 [.ref 22, .int (iI v4)] m5 γ5 t5 (fun v6 m6 γ6 t6 => (TI E k 182 [.ref 22, .int (iI v3)] m6 γ6 t6 (fun v7 m7 γ7 t7 => (TI E k 182 [.ref 23, .int (iI v4)] m7 γ7 t7 (fun v8 m8 γ8 t8 => (rJ ((v5 * v6) - (v7 * v8)) ∧ (((((v5 * v6) - (v7 * v8)) ≤ 0) → (Q (-1) m8 γ8 t8)) ∧ (¬ (((v5 * v6) - (v7 * v8)) ≤ 0) → (Q 1 m8 γ8 t8))))))))))))))))))))
theorem vc_X7_signOf {E : am_E} {k : Nat} {x1 : Int} {m : MM} {γ : GM} {t : am_H} {Q : Int → MM → GM → am_H → Prop} (hx1 : rJ x1) (hW : W_X7_signOf E k x1 m γ t Q) : TI E (k + 1) 114 [.ref 10, .int (iI x1)] m γ t Q := by
  unfold W_X7_signOf at hW
  intro h S
  refine wp_g (n := 1) (pc' := 1) (L' := [some (.ref 10), some (.int (iI x1)), none, none, none]) (st' := [.ref 10]) rfl ?_
  refine wp_getf (v := .ref 11) rfl rfl (S.cell 10 (nc rfl)) (by decide) rfl ?_
  refine wp_g (n := 1) (pc' := 5) (L' := [some (.ref 10), some (.int (iI x1)), none, none, none]) (st' := [.int (iI x1), .ref 11]) rfl ?_
  refine wp_cv (As := [.int (iI x1)]) (rest := []) rfl rfl (S.gg 11 (gi rfl)).obj (by decide) rfl rfl rfl (Nat.le_of_ble_eq_true rfl) (Nat.le_of_ble_eq_true rfl) (hW _ S) (fun r1 H1 q1 => ?_)
  obtain ⟨v1, m1, γ1, t1, rfl, hv1, S, hW⟩ := q1
  show wp _ _ _ _ _ [.int (iI v1)] _ _
  refine wp_ifI (a := v1) rfl rfl hv1.1 hv1.2 (fun c2 => ?_) (fun c2 => ?_)
  · have dc2 := c2
    have hW := hW.2 dc2
    refine wp_g (n := 1) (pc' := 14) (L' := [some (.ref 10), some (.int (iI x1)), none, none, none]) (st' := [.ref 10]) rfl ?_
    refine wp_getf (v := .ref 25) rfl rfl (S.cell 10 (nc rfl)) (by decide) rfl ?_
    refine wp_g (n := 1) (pc' := 18) (L' := [some (.ref 10), some (.int (iI x1)), none, none, none]) (st' := [.int (iI x1), .ref 25]) rfl ?_
    refine wp_cs (As := [.ref 25, .int (iI x1)]) (rest := []) rfl rfl rfl rfl (Nat.le_of_ble_eq_true rfl) (Nat.le_of_ble_eq_true rfl) (hW _ S) (fun r3 H3 q3 => ?_)
    obtain ⟨v3, m3, γ3, t3, rfl, hv3, S, hW⟩ := q3
    show wp _ _ _ _ _ [.int (iI v3)] _ _
    refine wp_g (n := 2) (pc' := 23) (L' := [some (.ref 10), some (.int (iI x1)), some (.int (iI v3)), none, none]) (st' := [.ref 10]) rfl ?_
    refine wp_getf (v := .ref 26) rfl rfl (S.cell 10 (nc rfl)) (by decide) rfl ?_
    refine wp_g (n := 1) (pc' := 27) (L' := [some (.ref 10), some (.int (iI x1)), some (.int (iI v3)), none, none]) (st' := [.int (iI x1), .ref 26]) rfl ?_
    refine wp_cs (As := [.ref 26, .int (iI x1)]) (rest := []) rfl rfl rfl rfl (Nat.le_of_ble_eq_true rfl) (Nat.le_of_ble_eq_true rfl) (hW _ S) (fun r4 H4 q4 => ?_)
    obtain ⟨v4, m4, γ4, t4, rfl, hv4, S, hW⟩ := q4
    show wp _ _ _ _ _ [.int (iI v4)] _ _
    refine wp_g (n := 2) (pc' := 32) (L' := [some (.ref 10), some (.int (iI x1)), some (.int (iI v3)), some (.int (iI v4)), none]) (st' := [.ref 10]) rfl ?_
    refine wp_getf (v := .ref 23) rfl rfl (S.cell 10 (nc rfl)) (by decide) rfl ?_
    refine wp_g (n := 1) (pc' := 36) (L' := [some (.ref 10), some (.int (iI x1)), some (.int (iI v3)), some (.int (iI v4)), none]) (st' := [.int (iI v3), .ref 23]) rfl ?_
    refine wp_cs (As := [.ref 23, .int (iI v3)]) (rest := []) rfl rfl rfl rfl (Nat.le_of_ble_eq_true rfl) (Nat.le_of_ble_eq_true rfl) (hW _ S) (fun r5 H5 q5 => ?_)
    obtain ⟨v5, m5, γ5, t5, rfl, hv5, S, hW⟩ := q5
    show wp _ _ _ _ _ [.int (iI v5)] _ _
    refine wp_g (n := 1) (pc' := 40) (L' := [some (.ref 10), some (.int (iI x1)), some (.int (iI v3)), some (.int (iI v4)), none]) (st' := [.ref 10, .int (iI v5)]) rfl ?_
    refine wp_getf (v := .ref 22) rfl rfl (S.cell 10 (nc rfl)) (by decide) rfl ?_
    refine wp_g (n := 1) (pc' := 44) (L' := [some (.ref 10), some (.int (iI x1)), some (.int (iI v3)), some (.int (iI v4)), none]) (st' := [.int (iI v4), .ref 22, .int (iI v5)]) rfl ?_
    refine wp_cs (As := [.ref 22, .int (iI v4)]) (rest := [.int (iI v5)]) rfl rfl rfl rfl (Nat.le_of_ble_eq_true rfl) (Nat.le_of_ble_eq_true rfl) (hW _ S) (fun r6 H6 q6 => ?_)
    obtain ⟨v6, m6, γ6, t6, rfl, hv6, S, hW⟩ := q6
    show wp _ _ _ _ _ [.int (iI v6), .int (iI v5)] _ _
    refine wp_mul (a := v5) (b := v6) rfl ?_
    refine wp_g (n := 1) (pc' := 49) (L' := [some (.ref 10), some (.int (iI x1)), some (.int (iI v3)), some (.int (iI v4)), none]) (st' := [.ref 10, .int (iI (v5 * v6))]) rfl ?_
    refine wp_getf (v := .ref 22) rfl rfl (S.cell 10 (nc rfl)) (by decide) rfl ?_
    refine wp_g (n := 1) (pc' := 53) (L' := [some (.ref 10), some (.int (iI x1)), some (.int (iI v3)), some (.int (iI v4)), none]) (st' := [.int (iI v3), .ref 22, .int (iI (v5 * v6))]) rfl ?_
    refine wp_cs (As := [.ref 22, .int (iI v3)]) (rest := [.int (iI (v5 * v6))]) rfl rfl rfl rfl (Nat.le_of_ble_eq_true rfl) (Nat.le_of_ble_eq_true rfl) (hW _ S) (fun r7 H7 q7 => ?_)
    obtain ⟨v7, m7, γ7, t7, rfl, hv7, S, hW⟩ := q7
    show wp _ _ _ _ _ [.int (iI v7), .int (iI (v5 * v6))] _ _
    refine wp_g (n := 1) (pc' := 57) (L' := [some (.ref 10), some (.int (iI x1)), some (.int (iI v3)), some (.int (iI v4)), none]) (st' := [.ref 10, .int (iI v7), .int (iI (v5 * v6))]) rfl ?_
    refine wp_getf (v := .ref 23) rfl rfl (S.cell 10 (nc rfl)) (by decide) rfl ?_
    refine wp_g (n := 1) (pc' := 61) (L' := [some (.ref 10), some (.int (iI x1)), some (.int (iI v3)), some (.int (iI v4)), none]) (st' := [.int (iI v4), .ref 23, .int (iI v7), .int (iI (v5 * v6))]) rfl ?_
    refine wp_cs (As := [.ref 23, .int (iI v4)]) (rest := [.int (iI v7), .int (iI (v5 * v6))]) rfl rfl rfl rfl (Nat.le_of_ble_eq_true rfl) (Nat.le_of_ble_eq_true rfl) (hW _ S) (fun r8 H8 q8 => ?_)
    obtain ⟨v8, m8, γ8, t8, rfl, hv8, S, hW⟩ := q8
    show wp _ _ _ _ _ [.int (iI v8), .int (iI v7), .int (iI (v5 * v6))] _ _
    refine wp_mul (a := v7) (b := v8) rfl ?_
    refine wp_sub (a := (v5 * v6)) (b := (v7 * v8)) rfl ?_
    refine wp_g (n := 2) (pc' := 70) (L' := [some (.ref 10), some (.int (iI x1)), some (.int (iI v3)), some (.int (iI v4)), some (.int (iI ((v5 * v6) - (v7 * v8))))]) (st' := [.int (iI ((v5 * v6) - (v7 * v8)))]) rfl ?_
    obtain ⟨p9, hW⟩ := hW
    refine wp_ifI (a := ((v5 * v6) - (v7 * v8))) rfl rfl p9.1 p9.2 (fun c10 => ?_) (fun c10 => ?_)
    · have dc10 := c10
      have hW := hW.1 dc10
      refine wp_g (n := 1) (pc' := 78) (L' := [some (.ref 10), some (.int (iI x1)), some (.int (iI v3)), some (.int (iI v4)), some (.int (iI ((v5 * v6) - (v7 * v8))))]) (st' := [.int (iI (-1))]) rfl ?_
      exact wp_iret rfl rfl ⟨_, _, _, _, rfl, (by decide), S, hW⟩
    · have dc10 := c10
      have hW := hW.2 dc10
      refine wp_g (n := 2) (pc' := 78) (L' := [some (.ref 10), some (.int (iI x1)), some (.int (iI v3)), some (.int (iI v4)), some (.int (iI ((v5 * v6) - (v7 * v8))))]) (st' := [.int (iI 1)]) rfl ?_
      exact wp_iret rfl rfl ⟨_, _, _, _, rfl, (by decide), S, hW⟩
  · have dc2 := (Classical.not_not.mp c2)
    have hW := hW.1 dc2
    refine wp_g (n := 1) (pc' := 12) (L' := [some (.ref 10), some (.int (iI x1)), none, none, none]) (st' := [.int (iI 0)]) rfl ?_
    exact wp_iret rfl rfl ⟨_, _, _, _, rfl, (by decide), S, hW⟩
def hd_X7_signsOfAll_4 (E : am_E) (k : Nat) (y1 : Int) (y2 : Int) (m : MM) (γ : GM) (t : am_H) (Q : Int → MM → GM → am_H → Prop) : Prop := TT (pI Q) E (k + 1) 115 4 [some (.ref 10), some (.int (iI y1)), some (.int (iI y2))] [] m γ t
abbrev W_X7_signsOfAll (E : am_E) (k : Nat) (m : MM) (γ : GM) (t : am_H) (Q : Int → MM → GM → am_H → Prop) : Prop := (hd_X7_signsOfAll_4 E k 0 0 m γ t Q)
abbrev W_X7_signsOfAll_4 (E : am_E) (k : Nat) (y1 : Int) (y2 : Int) (m : MM) (γ : GM) (t : am_H) (Q : Int → MM → GM → am_H → Prop) : Prop := (TI E k 28 [.ref 11] m γ t (fun v1 m1 γ1 t1 => (((y2 < v1) → (TI E k 114 [.ref 10, .int (iI y2)] m1 γ1 t1 (fun v3 m3 γ3 t3 => (hd_X7_signsOfAll_4 E k (y1 + v3) (y2 + 1) m3 γ3 t3 Q)))) ∧ (¬ (y2 < v1) → (Q y1 m1 γ1 t1)))))
theorem vc_X7_signsOfAll {E : am_E} {k : Nat} {m : MM} {γ : GM} {t : am_H} {Q : Int → MM → GM → am_H → Prop} (hW : W_X7_signsOfAll E k  m γ t Q) : TI E (k + 1) 115 [.ref 10] m γ t Q := by
  unfold W_X7_signsOfAll at hW
  intro h S
  refine wp_g (n := 4) (pc' := 4) (L' := [some (.ref 10), some (.int (iI 0)), some (.int (iI 0))]) (st' := []) rfl ?_
  exact hW _ S
theorem vc_X7_signsOfAll_4 {E : am_E} {k : Nat} {y1 : Int} {y2 : Int} {m : MM} {γ : GM} {t : am_H} {Q : Int → MM → GM → am_H → Prop} (hy1 : rJ y1) (hy2 : rJ y2) (hW : W_X7_signsOfAll_4 E k y1 y2 m γ t Q) : hd_X7_signsOfAll_4 E k y1 y2 m γ t Q := by
  unfold W_X7_signsOfAll_4 at hW
  intro h S
  refine wp_g (n := 2) (pc' := 6) (L' := [some (.ref 10), some (.int (iI y1)), some (.int (iI y2))]) (st' := [.ref 10, .int (iI y2)]) rfl ?_
  refine wp_getf (v := .ref 11) rfl rfl (S.cell 10 (nc rfl)) (by decide) rfl ?_
  refine wp_cv (As := []) (rest := [.int (iI y2)]) rfl rfl (S.gg 11 (gi rfl)).obj (by decide) rfl rfl rfl (Nat.le_of_ble_eq_true rfl) (Nat.le_of_ble_eq_true rfl) (hW _ S) (fun r1 H1 q1 => ?_)
  obtain ⟨v1, m1, γ1, t1, rfl, hv1, S, hW⟩ := q1
  show wp _ _ _ _ _ [.int (iI v1), .int (iI y2)] _ _
  refine wp_icmpI (a := y2) (b := v1) rfl rfl hy2.1 hy2.2 hv1.1 hv1.2 (fun c2 => ?_) (fun c2 => ?_)
  · have dc2 := (Int.not_lt.mpr c2)
    have hW := hW.2 dc2
    refine wp_g (n := 1) (pc' := 30) (L' := [some (.ref 10), some (.int (iI y1)), some (.int (iI y2))]) (st' := [.int (iI y1)]) rfl ?_
    exact wp_iret rfl rfl ⟨_, _, _, _, rfl, hy1, S, hW⟩
  · have dc2 := (Int.not_le.mp c2)
    have hW := hW.1 dc2
    refine wp_g (n := 3) (pc' := 18) (L' := [some (.ref 10), some (.int (iI y1)), some (.int (iI y2))]) (st' := [.int (iI y2), .ref 10, .int (iI y1)]) rfl ?_
    refine wp_cv (As := [.int (iI y2)]) (rest := [.int (iI y1)]) rfl rfl (S.cell 10 (nc rfl)) (by decide) rfl rfl rfl (Nat.le_of_ble_eq_true rfl) (Nat.le_of_ble_eq_true rfl) (hW _ S) (fun r3 H3 q3 => ?_)
    obtain ⟨v3, m3, γ3, t3, rfl, hv3, S, hW⟩ := q3
    show wp _ _ _ _ _ [.int (iI v3), .int (iI y1)] _ _
    refine wp_add (a := y1) (b := v3) rfl ?_
    refine wp_g (n := 1) (pc' := 23) (L' := [some (.ref 10), some (.int (iI (y1 + v3))), some (.int (iI y2))]) (st' := []) rfl ?_
    refine wp_iinc (L' := [some (.ref 10), some (.int (iI (y1 + v3))), some (.int (iI (y2 + 1)))]) (a := y2) rfl rfl rfl ?_
    refine wp_g (n := 1) (pc' := 4) (L' := [some (.ref 10), some (.int (iI (y1 + v3))), some (.int (iI (y2 + 1)))]) (st' := []) rfl ?_
    exact hW _ S
def hd_X7_crossesOver_5 (E : am_E) (k : Nat) (x1 : Int) (x2 : Int) (y1 : Int) (y2 : Int) (y3 : Int) (y4 : Int) (m : MM) (γ : GM) (t : am_H) (Q : Int → MM → GM → am_H → Prop) : Prop := TT (pI Q) E (k + 1) 116 5 [some (.ref 10), some (.int (iI y1)), some (.int (iI y2)), some (.int (iI y3)), some (.int (iI y4))] [] m γ t
abbrev W_X7_crossesOver (E : am_E) (k : Nat) (x1 : Int) (x2 : Int) (m : MM) (γ : GM) (t : am_H) (Q : Int → MM → GM → am_H → Prop) : Prop := (hd_X7_crossesOver_5 E k x1 x2 x1 x2 0 0 m γ t Q)
abbrev W_X7_crossesOver_5 (E : am_E) (k : Nat) (x1 : Int) (x2 : Int) (y1 : Int) (y2 : Int) (y3 : Int) (y4 : Int) (m : MM) (γ : GM) (t : am_H) (Q : Int → MM → GM → am_H → Prop) : Prop := (TI E k 28 [.ref 11] m γ t (fun v1 m1 γ1 t1 => (((y4 < v1) → (TI E k 110 [.ref 10, .int (iI y4)] m1 γ1 t1 (fun v3 m3 γ3 t3 => (((v3 = y1) → (TI E k 111 [.ref 10, .int (iI y4)] m3 γ3 t3 (fun v5 m5 γ5 t5 => (((v5 = y2) → (hd_X7_crossesOver_5 E k x1 x2 y1 y2 (y3 + 1) (y4 + 1) m5 γ5 t5 Q)) ∧ (¬ (v5 = y2) → (hd_X7_crossesOver_5 E k x1 x2 y1 y2 y3 (y4 + 1) m5 γ5 t5 Q)))))) ∧ (¬ (v3 = y1) → (hd_X7_crossesOver_5 E k x1 x2 y1 y2 y3 (y4 + 1) m3 γ3 t3 Q)))))) ∧ (¬ (y4 < v1) → (Q y3 m1 γ1 t1)))))
theorem vc_X7_crossesOver {E : am_E} {k : Nat} {x1 : Int} {x2 : Int} {m : MM} {γ : GM} {t : am_H} {Q : Int → MM → GM → am_H → Prop} (hx1 : rJ x1) (hx2 : rJ x2) (hW : W_X7_crossesOver E k x1 x2 m γ t Q) : TI E (k + 1) 116 [.ref 10, .int (iI x1), .int (iI x2)] m γ t Q := by
  unfold W_X7_crossesOver at hW
  intro h S
  refine wp_g (n := 4) (pc' := 5) (L' := [some (.ref 10), some (.int (iI x1)), some (.int (iI x2)), some (.int (iI 0)), some (.int (iI 0))]) (st' := []) rfl ?_
  exact hW _ S
theorem vc_X7_crossesOver_5 {E : am_E} {k : Nat} {x1 : Int} {x2 : Int} {y1 : Int} {y2 : Int} {y3 : Int} {y4 : Int} {m : MM} {γ : GM} {t : am_H} {Q : Int → MM → GM → am_H → Prop} (hx1 : rJ x1) (hx2 : rJ x2) (hy1 : rJ y1) (hy2 : rJ y2) (hy3 : rJ y3) (hy4 : rJ y4) (hW : W_X7_crossesOver_5 E k x1 x2 y1 y2 y3 y4 m γ t Q) : hd_X7_crossesOver_5 E k x1 x2 y1 y2 y3 y4 m γ t Q := by
  unfold W_X7_crossesOver_5 at hW
  intro h S
  refine wp_g (n := 2) (pc' := 8) (L' := [some (.ref 10), some (.int (iI y1)), some (.int (iI y2)), some (.int (iI y3)), some (.int (iI y4))]) (st' := [.ref 10, .int (iI y4)]) rfl ?_
  refine wp_getf (v := .ref 11) rfl rfl (S.cell 10 (nc rfl)) (by decide) rfl ?_
  refine wp_cv (As := []) (rest := [.int (iI y4)]) rfl rfl (S.gg 11 (gi rfl)).obj (by decide) rfl rfl rfl (Nat.le_of_ble_eq_true rfl) (Nat.le_of_ble_eq_true rfl) (hW _ S) (fun r1 H1 q1 => ?_)
  obtain ⟨v1, m1, γ1, t1, rfl, hv1, S, hW⟩ := q1
  show wp _ _ _ _ _ [.int (iI v1), .int (iI y4)] _ _
  refine wp_icmpI (a := y4) (b := v1) rfl rfl hy4.1 hy4.2 hv1.1 hv1.2 (fun c2 => ?_) (fun c2 => ?_)
  · have dc2 := (Int.not_lt.mpr c2)
    have hW := hW.2 dc2
    refine wp_g (n := 1) (pc' := 47) (L' := [some (.ref 10), some (.int (iI y1)), some (.int (iI y2)), some (.int (iI y3)), some (.int (iI y4))]) (st' := [.int (iI y3)]) rfl ?_
    exact wp_iret rfl rfl ⟨_, _, _, _, rfl, hy3, S, hW⟩
  · have dc2 := (Int.not_le.mp c2)
    have hW := hW.1 dc2
    refine wp_g (n := 2) (pc' := 20) (L' := [some (.ref 10), some (.int (iI y1)), some (.int (iI y2)), some (.int (iI y3)), some (.int (iI y4))]) (st' := [.int (iI y4), .ref 10]) rfl ?_
    refine wp_cv (As := [.int (iI y4)]) (rest := []) rfl rfl (S.cell 10 (nc rfl)) (by decide) rfl rfl rfl (Nat.le_of_ble_eq_true rfl) (Nat.le_of_ble_eq_true rfl) (hW _ S) (fun r3 H3 q3 => ?_)
    obtain ⟨v3, m3, γ3, t3, rfl, hv3, S, hW⟩ := q3
    show wp _ _ _ _ _ [.int (iI v3)] _ _
    refine wp_g (n := 1) (pc' := 24) (L' := [some (.ref 10), some (.int (iI y1)), some (.int (iI y2)), some (.int (iI y3)), some (.int (iI y4))]) (st' := [.int (iI y1), .int (iI v3)]) rfl ?_
    refine wp_icmpI (a := v3) (b := y1) rfl rfl hv3.1 hv3.2 hy1.1 hy1.2 (fun c4 => ?_) (fun c4 => ?_)
    · have dc4 := c4
      have hW := hW.2 dc4
      refine wp_iinc (L' := [some (.ref 10), some (.int (iI y1)), some (.int (iI y2)), some (.int (iI y3)), some (.int (iI (y4 + 1)))]) (a := y4) rfl rfl rfl ?_
      refine wp_g (n := 1) (pc' := 5) (L' := [some (.ref 10), some (.int (iI y1)), some (.int (iI y2)), some (.int (iI y3)), some (.int (iI (y4 + 1)))]) (st' := []) rfl ?_
      exact hW _ S
    · have dc4 := (Classical.not_not.mp c4)
      have hW := hW.1 dc4
      refine wp_g (n := 2) (pc' := 30) (L' := [some (.ref 10), some (.int (iI y1)), some (.int (iI y2)), some (.int (iI y3)), some (.int (iI y4))]) (st' := [.int (iI y4), .ref 10]) rfl ?_
      refine wp_cv (As := [.int (iI y4)]) (rest := []) rfl rfl (S.cell 10 (nc rfl)) (by decide) rfl rfl rfl (Nat.le_of_ble_eq_true rfl) (Nat.le_of_ble_eq_true rfl) (hW _ S) (fun r5 H5 q5 => ?_)
      obtain ⟨v5, m5, γ5, t5, rfl, hv5, S, hW⟩ := q5
      show wp _ _ _ _ _ [.int (iI v5)] _ _
      refine wp_g (n := 1) (pc' := 34) (L' := [some (.ref 10), some (.int (iI y1)), some (.int (iI y2)), some (.int (iI y3)), some (.int (iI y4))]) (st' := [.int (iI y2), .int (iI v5)]) rfl ?_
      refine wp_icmpI (a := v5) (b := y2) rfl rfl hv5.1 hv5.2 hy2.1 hy2.2 (fun c6 => ?_) (fun c6 => ?_)
      · have dc6 := c6
        have hW := hW.2 dc6
        refine wp_iinc (L' := [some (.ref 10), some (.int (iI y1)), some (.int (iI y2)), some (.int (iI y3)), some (.int (iI (y4 + 1)))]) (a := y4) rfl rfl rfl ?_
        refine wp_g (n := 1) (pc' := 5) (L' := [some (.ref 10), some (.int (iI y1)), some (.int (iI y2)), some (.int (iI y3)), some (.int (iI (y4 + 1)))]) (st' := []) rfl ?_
        exact hW _ S
      · have dc6 := (Classical.not_not.mp c6)
        have hW := hW.1 dc6
        refine wp_iinc (L' := [some (.ref 10), some (.int (iI y1)), some (.int (iI y2)), some (.int (iI (y3 + 1))), some (.int (iI y4))]) (a := y3) rfl rfl rfl ?_
        refine wp_iinc (L' := [some (.ref 10), some (.int (iI y1)), some (.int (iI y2)), some (.int (iI (y3 + 1))), some (.int (iI (y4 + 1)))]) (a := y4) rfl rfl rfl ?_
        refine wp_g (n := 1) (pc' := 5) (L' := [some (.ref 10), some (.int (iI y1)), some (.int (iI y2)), some (.int (iI (y3 + 1))), some (.int (iI (y4 + 1)))]) (st' := []) rfl ?_
        exact hW _ S
def hd_X7_signsOver_5 (E : am_E) (k : Nat) (x1 : Int) (x2 : Int) (y1 : Int) (y2 : Int) (y3 : Int) (y4 : Int) (m : MM) (γ : GM) (t : am_H) (Q : Int → MM → GM → am_H → Prop) : Prop := TT (pI Q) E (k + 1) 117 5 [some (.ref 10), some (.int (iI y1)), some (.int (iI y2)), some (.int (iI y3)), some (.int (iI y4))] [] m γ t
abbrev W_X7_signsOver (E : am_E) (k : Nat) (x1 : Int) (x2 : Int) (m : MM) (γ : GM) (t : am_H) (Q : Int → MM → GM → am_H → Prop) : Prop := (hd_X7_signsOver_5 E k x1 x2 x1 x2 0 0 m γ t Q)
abbrev W_X7_signsOver_5 (E : am_E) (k : Nat) (x1 : Int) (x2 : Int) (y1 : Int) (y2 : Int) (y3 : Int) (y4 : Int) (m : MM) (γ : GM) (t : am_H) (Q : Int → MM → GM → am_H → Prop) : Prop := (TI E k 28 [.ref 11] m γ t (fun v1 m1 γ1 t1 => (((y4 < v1) → (TI E k 110 [.ref 10, .int (iI y4)] m1 γ1 t1 (fun v3 m3 γ3 t3 => (((v3 = y1) → (TI E k 111 [.ref 10, .int (iI y4)] m3 γ3 t3 (fun v5 m5 γ5 t5 => (((v5 = y2) → (TI E k 114 [.ref 10, .int (iI y4)] m5 γ5 t5 (fun v7 m7 γ7 t7 => (hd_X7_signsOver_5 E k x1 x2 y1 y2 (y3 + v7) (y4 + 1) m7 γ7 t7 Q)))) ∧ (¬ (v5 = y2) → (hd_X7_signsOver_5 E k x1 x2 y1 y2 y3 (y4 + 1) m5 γ5 t5 Q)))))) ∧ (¬ (v3 = y1) → (hd_X7_signsOver_5 E k x1 x2 y1 y2 y3 (y4 + 1) m3 γ3 t3 Q)))))) ∧ (¬ (y4 < v1) → (Q y3 m1 γ1 t1)))))
theorem vc_X7_signsOver {E : am_E} {k : Nat} {x1 : Int} {x2 : Int} {m : MM} {γ : GM} {t : am_H} {Q : Int → MM → GM → am_H → Prop} (hx1 : rJ x1) (hx2 : rJ x2) (hW : W_X7_signsOver E k x1 x2 m γ t Q) : TI E (k + 1) 117 [.ref 10, .int (iI x1), .int (iI x2)] m γ t Q := by
  unfold W_X7_signsOver at hW
  intro h S
  refine wp_g (n := 4) (pc' := 5) (L' := [some (.ref 10), some (.int (iI x1)), some (.int (iI x2)), some (.int (iI 0)), some (.int (iI 0))]) (st' := []) rfl ?_
  exact hW _ S
theorem vc_X7_signsOver_5 {E : am_E} {k : Nat} {x1 : Int} {x2 : Int} {y1 : Int} {y2 : Int} {y3 : Int} {y4 : Int} {m : MM} {γ : GM} {t : am_H} {Q : Int → MM → GM → am_H → Prop} (hx1 : rJ x1) (hx2 : rJ x2) (hy1 : rJ y1) (hy2 : rJ y2) (hy3 : rJ y3) (hy4 : rJ y4) (hW : W_X7_signsOver_5 E k x1 x2 y1 y2 y3 y4 m γ t Q) : hd_X7_signsOver_5 E k x1 x2 y1 y2 y3 y4 m γ t Q := by
  unfold W_X7_signsOver_5 at hW
  intro h S
  refine wp_g (n := 2) (pc' := 8) (L' := [some (.ref 10), some (.int (iI y1)), some (.int (iI y2)), some (.int (iI y3)), some (.int (iI y4))]) (st' := [.ref 10, .int (iI y4)]) rfl ?_
  refine wp_getf (v := .ref 11) rfl rfl (S.cell 10 (nc rfl)) (by decide) rfl ?_
  refine wp_cv (As := []) (rest := [.int (iI y4)]) rfl rfl (S.gg 11 (gi rfl)).obj (by decide) rfl rfl rfl (Nat.le_of_ble_eq_true rfl) (Nat.le_of_ble_eq_true rfl) (hW _ S) (fun r1 H1 q1 => ?_)
  obtain ⟨v1, m1, γ1, t1, rfl, hv1, S, hW⟩ := q1
  show wp _ _ _ _ _ [.int (iI v1), .int (iI y4)] _ _
  refine wp_icmpI (a := y4) (b := v1) rfl rfl hy4.1 hy4.2 hv1.1 hv1.2 (fun c2 => ?_) (fun c2 => ?_)
  · have dc2 := (Int.not_lt.mpr c2)
    have hW := hW.2 dc2
    refine wp_g (n := 1) (pc' := 53) (L' := [some (.ref 10), some (.int (iI y1)), some (.int (iI y2)), some (.int (iI y3)), some (.int (iI y4))]) (st' := [.int (iI y3)]) rfl ?_
    exact wp_iret rfl rfl ⟨_, _, _, _, rfl, hy3, S, hW⟩
  · have dc2 := (Int.not_le.mp c2)
    have hW := hW.1 dc2
    refine wp_g (n := 2) (pc' := 20) (L' := [some (.ref 10), some (.int (iI y1)), some (.int (iI y2)), some (.int (iI y3)), some (.int (iI y4))]) (st' := [.int (iI y4), .ref 10]) rfl ?_
    refine wp_cv (As := [.int (iI y4)]) (rest := []) rfl rfl (S.cell 10 (nc rfl)) (by decide) rfl rfl rfl (Nat.le_of_ble_eq_true rfl) (Nat.le_of_ble_eq_true rfl) (hW _ S) (fun r3 H3 q3 => ?_)
    obtain ⟨v3, m3, γ3, t3, rfl, hv3, S, hW⟩ := q3
    show wp _ _ _ _ _ [.int (iI v3)] _ _
    refine wp_g (n := 1) (pc' := 24) (L' := [some (.ref 10), some (.int (iI y1)), some (.int (iI y2)), some (.int (iI y3)), some (.int (iI y4))]) (st' := [.int (iI y1), .int (iI v3)]) rfl ?_
    refine wp_icmpI (a := v3) (b := y1) rfl rfl hv3.1 hv3.2 hy1.1 hy1.2 (fun c4 => ?_) (fun c4 => ?_)
    · have dc4 := c4
      have hW := hW.2 dc4
      refine wp_iinc (L' := [some (.ref 10), some (.int (iI y1)), some (.int (iI y2)), some (.int (iI y3)), some (.int (iI (y4 + 1)))]) (a := y4) rfl rfl rfl ?_
      refine wp_g (n := 1) (pc' := 5) (L' := [some (.ref 10), some (.int (iI y1)), some (.int (iI y2)), some (.int (iI y3)), some (.int (iI (y4 + 1)))]) (st' := []) rfl ?_
      exact hW _ S
    · have dc4 := (Classical.not_not.mp c4)
      have hW := hW.1 dc4
      refine wp_g (n := 2) (pc' := 30) (L' := [some (.ref 10), some (.int (iI y1)), some (.int (iI y2)), some (.int (iI y3)), some (.int (iI y4))]) (st' := [.int (iI y4), .ref 10]) rfl ?_
      refine wp_cv (As := [.int (iI y4)]) (rest := []) rfl rfl (S.cell 10 (nc rfl)) (by decide) rfl rfl rfl (Nat.le_of_ble_eq_true rfl) (Nat.le_of_ble_eq_true rfl) (hW _ S) (fun r5 H5 q5 => ?_)
      obtain ⟨v5, m5, γ5, t5, rfl, hv5, S, hW⟩ := q5
      show wp _ _ _ _ _ [.int (iI v5)] _ _
      refine wp_g (n := 1) (pc' := 34) (L' := [some (.ref 10), some (.int (iI y1)), some (.int (iI y2)), some (.int (iI y3)), some (.int (iI y4))]) (st' := [.int (iI y2), .int (iI v5)]) rfl ?_
      refine wp_icmpI (a := v5) (b := y2) rfl rfl hv5.1 hv5.2 hy2.1 hy2.2 (fun c6 => ?_) (fun c6 => ?_)
      · have dc6 := c6
        have hW := hW.2 dc6
        refine wp_iinc (L' := [some (.ref 10), some (.int (iI y1)), some (.int (iI y2)), some (.int (iI y3)), some (.int (iI (y4 + 1)))]) (a := y4) rfl rfl rfl ?_
        refine wp_g (n := 1) (pc' := 5) (L' := [some (.ref 10), some (.int (iI y1)), some (.int (iI y2)), some (.int (iI y3)), some (.int (iI (y4 + 1)))]) (st' := []) rfl ?_
        exact hW _ S
      · have dc6 := (Classical.not_not.mp c6)
        have hW := hW.1 dc6
        refine wp_g (n := 3) (pc' := 41) (L' := [some (.ref 10), some (.int (iI y1)), some (.int (iI y2)), some (.int (iI y3)), some (.int (iI y4))]) (st' := [.int (iI y4), .ref 10, .int (iI y3)]) rfl ?_
        refine wp_cv (As := [.int (iI y4)]) (rest := [.int (iI y3)]) rfl rfl (S.cell 10 (nc rfl)) (by decide) rfl rfl rfl (Nat.le_of_ble_eq_true rfl) (Nat.le_of_ble_eq_true rfl) (hW _ S) (fun r7 H7 q7 => ?_)
        obtain ⟨v7, m7, γ7, t7, rfl, hv7, S, hW⟩ := q7
        show wp _ _ _ _ _ [.int (iI v7), .int (iI y3)] _ _
        refine wp_add (a := y3) (b := v7) rfl ?_
        refine wp_g (n := 1) (pc' := 46) (L' := [some (.ref 10), some (.int (iI y1)), some (.int (iI y2)), some (.int (iI (y3 + v7))), some (.int (iI y4))]) (st' := []) rfl ?_
        refine wp_iinc (L' := [some (.ref 10), some (.int (iI y1)), some (.int (iI y2)), some (.int (iI (y3 + v7))), some (.int (iI (y4 + 1)))]) (a := y4) rfl rfl rfl ?_
        refine wp_g (n := 1) (pc' := 5) (L' := [some (.ref 10), some (.int (iI y1)), some (.int (iI y2)), some (.int (iI (y3 + v7))), some (.int (iI (y4 + 1)))]) (st' := []) rfl ?_
        exact hW _ S
def hd_X7_goesInTurn_8 (E : am_E) (k : Nat) (x1 : Int) (y1 : Int) (y2 : Int) (y3 : Int) (m : MM) (γ : GM) (t : am_H) (Q : Int → MM → GM → am_H → Prop) : Prop := ∀ (z4 : Option Value), TT (pI Q) E (k + 1) 118 8 [some (.ref 10), some (.int (iI y1)), some (.int (iI y2)), some (.int (iI y3)), z4] [] m γ t
abbrev W_X7_goesInTurn (E : am_E) (k : Nat) (x1 : Int) (m : MM) (γ : GM) (t : am_H) (Q : Int → MM → GM → am_H → Prop) : Prop := (TI E k 107 [.ref 10, .int (iI x1)] m γ t (fun v1 m1 γ1 t1 => (hd_X7_goesInTurn_8 E k x1 x1 v1 0 m1 γ1 t1 Q)))
abbrev W_X7_goesInTurn_8 (E : am_E) (k : Nat) (x1 : Int) (y1 : Int) (y2 : Int) (y3 : Int) (m : MM) (γ : GM) (t : am_H) (Q : Int → MM → GM → am_H → Prop) : Prop := (((y3 < y2) → (rJ (y3 + 1) ∧ ((((y3 + 1) < y2) → (TI E k 109 [.ref 10, .int (iI y1), .int (iI y3)] m γ t (fun v7 m7 γ7 t7 => (TI E k 109 [.ref 10, .int (iI y1), .int (iI (y3 + 1))] m7 γ7 t7 (fun v8 m8 γ8 t8 => (((v7 = v8) → (Q 0 m8 γ8 t8)) ∧ (¬ (v7 = v8) → (hd_X7_goesInTurn_8 E k x1 y1 y2 (y3 + 1) m8 γ8 t8 Q)))))))) ∧ (¬ ((y3 + 1) < y2) → (TI E k 109 [.ref 10, .int (iI y1), .int (iI y3)] m γ t (fun v4 m4 γ4 t4 => (TI E k 109 [.ref 10, .int (iI y1), .int (iI 0)] m4 γ4 t4 (fun v5 m5 γ5 t5 => (((v4 = v5) → (Q 0 m5 γ5 t5)) ∧ (¬ (v4 = v5) → (hd_X7_goesInTurn_8 E k x1 y1 y2 (y3 + 1) m5 γ5 t5 Q))))))))))) ∧ (¬ (y3 < y2) → (Q 1 m γ t)))
theorem vc_X7_goesInTurn {E : am_E} {k : Nat} {x1 : Int} {m : MM} {γ : GM} {t : am_H} {Q : Int → MM → GM → am_H → Prop} (hx1 : rJ x1) (hW : W_X7_goesInTurn E k x1 m γ t Q) : TI E (k + 1) 118 [.ref 10, .int (iI x1)] m γ t Q := by
  unfold W_X7_goesInTurn at hW
  intro h S
  refine wp_g (n := 2) (pc' := 2) (L' := [some (.ref 10), some (.int (iI x1)), none, none, none]) (st' := [.int (iI x1), .ref 10]) rfl ?_
  refine wp_cv (As := [.int (iI x1)]) (rest := []) rfl rfl (S.cell 10 (nc rfl)) (by decide) rfl rfl rfl (Nat.le_of_ble_eq_true rfl) (Nat.le_of_ble_eq_true rfl) (hW _ S) (fun r1 H1 q1 => ?_)
  obtain ⟨v1, m1, γ1, t1, rfl, hv1, S, hW⟩ := q1
  show wp _ _ _ _ _ [.int (iI v1)] _ _
  refine wp_g (n := 3) (pc' := 8) (L' := [some (.ref 10), some (.int (iI x1)), some (.int (iI v1)), some (.int (iI 0)), none]) (st' := []) rfl ?_
  exact hW none _ S
theorem vc_X7_goesInTurn_8 {E : am_E} {k : Nat} {x1 : Int} {y1 : Int} {y2 : Int} {y3 : Int} {m : MM} {γ : GM} {t : am_H} {Q : Int → MM → GM → am_H → Prop} (hx1 : rJ x1) (hy1 : rJ y1) (hy2 : rJ y2) (hy3 : rJ y3) (hW : W_X7_goesInTurn_8 E k x1 y1 y2 y3 m γ t Q) : hd_X7_goesInTurn_8 E k x1 y1 y2 y3 m γ t Q := by
  unfold W_X7_goesInTurn_8 at hW
  intro z4 h S
  refine wp_g (n := 2) (pc' := 10) (L' := [some (.ref 10), some (.int (iI y1)), some (.int (iI y2)), some (.int (iI y3)), z4]) (st' := [.int (iI y2), .int (iI y3)]) rfl ?_
  refine wp_icmpI (a := y3) (b := y2) rfl rfl hy3.1 hy3.2 hy2.1 hy2.2 (fun c1 => ?_) (fun c1 => ?_)
  · have dc1 := (Int.not_lt.mpr c1)
    have hW := hW.2 dc1
    refine wp_g (n := 1) (pc' := 54) (L' := [some (.ref 10), some (.int (iI y1)), some (.int (iI y2)), some (.int (iI y3)), z4]) (st' := [.int (iI 1)]) rfl ?_
    exact wp_zret rfl rfl (by decide) ⟨_, _, _, _, rfl, (by decide), S, hW⟩
  · have dc1 := (Int.not_le.mp c1)
    have hW := hW.1 dc1
    refine wp_g (n := 2) (pc' := 15) (L' := [some (.ref 10), some (.int (iI y1)), some (.int (iI y2)), some (.int (iI y3)), z4]) (st' := [.int (iI 1), .int (iI y3)]) rfl ?_
    refine wp_add (a := y3) (b := 1) rfl ?_
    refine wp_g (n := 1) (pc' := 17) (L' := [some (.ref 10), some (.int (iI y1)), some (.int (iI y2)), some (.int (iI y3)), z4]) (st' := [.int (iI y2), .int (iI (y3 + 1))]) rfl ?_
    obtain ⟨p2, hW⟩ := hW
    refine wp_icmpI (a := (y3 + 1)) (b := y2) rfl rfl p2.1 p2.2 hy2.1 hy2.2 (fun c3 => ?_) (fun c3 => ?_)
    · have dc3 := (Int.not_lt.mpr c3)
      have hW := hW.2 dc3
      refine wp_g (n := 5) (pc' := 32) (L' := [some (.ref 10), some (.int (iI y1)), some (.int (iI y2)), some (.int (iI y3)), some (.int (iI 0))]) (st' := [.int (iI y3), .int (iI y1), .ref 10]) rfl ?_
      refine wp_cv (As := [.int (iI y1), .int (iI y3)]) (rest := []) rfl rfl (S.cell 10 (nc rfl)) (by decide) rfl rfl rfl (Nat.le_of_ble_eq_true rfl) (Nat.le_of_ble_eq_true rfl) (hW _ S) (fun r4 H4 q4 => ?_)
      obtain ⟨v4, m4, γ4, t4, rfl, hv4, S, hW⟩ := q4
      show wp _ _ _ _ _ [.int (iI v4)] _ _
      refine wp_g (n := 3) (pc' := 39) (L' := [some (.ref 10), some (.int (iI y1)), some (.int (iI y2)), some (.int (iI y3)), some (.int (iI 0))]) (st' := [.int (iI 0), .int (iI y1), .ref 10, .int (iI v4)]) rfl ?_
      refine wp_cv (As := [.int (iI y1), .int (iI 0)]) (rest := [.int (iI v4)]) rfl rfl (S.cell 10 (nc rfl)) (by decide) rfl rfl rfl (Nat.le_of_ble_eq_true rfl) (Nat.le_of_ble_eq_true rfl) (hW _ S) (fun r5 H5 q5 => ?_)
      obtain ⟨v5, m5, γ5, t5, rfl, hv5, S, hW⟩ := q5
      show wp _ _ _ _ _ [.int (iI v5), .int (iI v4)] _ _
      refine wp_icmpI (a := v4) (b := v5) rfl rfl hv4.1 hv4.2 hv5.1 hv5.2 (fun c6 => ?_) (fun c6 => ?_)
      · have dc6 := c6
        have hW := hW.2 dc6
        refine wp_iinc (L' := [some (.ref 10), some (.int (iI y1)), some (.int (iI y2)), some (.int (iI (y3 + 1))), some (.int (iI 0))]) (a := y3) rfl rfl rfl ?_
        refine wp_g (n := 1) (pc' := 8) (L' := [some (.ref 10), some (.int (iI y1)), some (.int (iI y2)), some (.int (iI (y3 + 1))), some (.int (iI 0))]) (st' := []) rfl ?_
        exact hW (some (.int (iI 0))) _ S
      · have dc6 := (Classical.not_not.mp c6)
        have hW := hW.1 dc6
        refine wp_g (n := 1) (pc' := 46) (L' := [some (.ref 10), some (.int (iI y1)), some (.int (iI y2)), some (.int (iI y3)), some (.int (iI 0))]) (st' := [.int (iI 0)]) rfl ?_
        exact wp_zret rfl rfl (by decide) ⟨_, _, _, _, rfl, (by decide), S, hW⟩
    · have dc3 := (Int.not_le.mp c3)
      have hW := hW.1 dc3
      refine wp_g (n := 2) (pc' := 22) (L' := [some (.ref 10), some (.int (iI y1)), some (.int (iI y2)), some (.int (iI y3)), z4]) (st' := [.int (iI 1), .int (iI y3)]) rfl ?_
      refine wp_add (a := y3) (b := 1) rfl ?_
      refine wp_g (n := 5) (pc' := 32) (L' := [some (.ref 10), some (.int (iI y1)), some (.int (iI y2)), some (.int (iI y3)), some (.int (iI (y3 + 1)))]) (st' := [.int (iI y3), .int (iI y1), .ref 10]) rfl ?_
      refine wp_cv (As := [.int (iI y1), .int (iI y3)]) (rest := []) rfl rfl (S.cell 10 (nc rfl)) (by decide) rfl rfl rfl (Nat.le_of_ble_eq_true rfl) (Nat.le_of_ble_eq_true rfl) (hW _ S) (fun r7 H7 q7 => ?_)
      obtain ⟨v7, m7, γ7, t7, rfl, hv7, S, hW⟩ := q7
      show wp _ _ _ _ _ [.int (iI v7)] _ _
      refine wp_g (n := 3) (pc' := 39) (L' := [some (.ref 10), some (.int (iI y1)), some (.int (iI y2)), some (.int (iI y3)), some (.int (iI (y3 + 1)))]) (st' := [.int (iI (y3 + 1)), .int (iI y1), .ref 10, .int (iI v7)]) rfl ?_
      refine wp_cv (As := [.int (iI y1), .int (iI (y3 + 1))]) (rest := [.int (iI v7)]) rfl rfl (S.cell 10 (nc rfl)) (by decide) rfl rfl rfl (Nat.le_of_ble_eq_true rfl) (Nat.le_of_ble_eq_true rfl) (hW _ S) (fun r8 H8 q8 => ?_)
      obtain ⟨v8, m8, γ8, t8, rfl, hv8, S, hW⟩ := q8
      show wp _ _ _ _ _ [.int (iI v8), .int (iI v7)] _ _
      refine wp_icmpI (a := v7) (b := v8) rfl rfl hv7.1 hv7.2 hv8.1 hv8.2 (fun c9 => ?_) (fun c9 => ?_)
      · have dc9 := c9
        have hW := hW.2 dc9
        refine wp_iinc (L' := [some (.ref 10), some (.int (iI y1)), some (.int (iI y2)), some (.int (iI (y3 + 1))), some (.int (iI (y3 + 1)))]) (a := y3) rfl rfl rfl ?_
        refine wp_g (n := 1) (pc' := 8) (L' := [some (.ref 10), some (.int (iI y1)), some (.int (iI y2)), some (.int (iI (y3 + 1))), some (.int (iI (y3 + 1)))]) (st' := []) rfl ?_
        exact hW (some (.int (iI (y3 + 1)))) _ S
      · have dc9 := (Classical.not_not.mp c9)
        have hW := hW.1 dc9
        refine wp_g (n := 1) (pc' := 46) (L' := [some (.ref 10), some (.int (iI y1)), some (.int (iI y2)), some (.int (iI y3)), some (.int (iI (y3 + 1)))]) (st' := [.int (iI 0)]) rfl ?_
        exact wp_zret rfl rfl (by decide) ⟨_, _, _, _, rfl, (by decide), S, hW⟩
abbrev W_X7_areInTurn (E : am_E) (k : Nat) (x1 : Int) (x2 : Int) (m : MM) (γ : GM) (t : am_H) (Q : Int → MM → GM → am_H → Prop) : Prop := (TI E k 182 [.ref 25, .int (iI x2)] m γ t (fun v1 m1 γ1 t1 => (TI E k 120 [.ref 10, .int (iI x1), .int (iI v1)] m1 γ1 t1 (fun v2 m2 γ2 t2 => (TI E k 182 [.ref 26, .int (iI x2)] m2 γ2 t2 (fun v3 m3 γ3 t3 => (TI E k 120 [.ref 10, .int (iI x1), .int (iI v3)] m3 γ3 t3 (fun v4 m4 γ4 t4 => (((v2 = v4) → (Q 0 m4 γ4 t4)) ∧ (¬ (v2 = v4) → (Q 1 m4 γ4 t4)))))))))))
theorem vc_X7_areInTurn {E : am_E} {k : Nat} {x1 : Int} {x2 : Int} {m : MM} {γ : GM} {t : am_H} {Q : Int → MM → GM → am_H → Prop} (hx1 : rJ x1) (hx2 : rJ x2) (hW : W_X7_areInTurn E k x1 x2 m γ t Q) : TI E (k + 1) 119 [.ref 10, .int (iI x1), .int (iI x2)] m γ t Q := by
  unfold W_X7_areInTurn at hW
  intro h S
  refine wp_g (n := 3) (pc' := 3) (L' := [some (.ref 10), some (.int (iI x1)), some (.int (iI x2))]) (st' := [.ref 10, .int (iI x1), .ref 10]) rfl ?_
  refine wp_getf (v := .ref 25) rfl rfl (S.cell 10 (nc rfl)) (by decide) rfl ?_
  refine wp_g (n := 1) (pc' := 7) (L' := [some (.ref 10), some (.int (iI x1)), some (.int (iI x2))]) (st' := [.int (iI x2), .ref 25, .int (iI x1), .ref 10]) rfl ?_
  refine wp_cs (As := [.ref 25, .int (iI x2)]) (rest := [.int (iI x1), .ref 10]) rfl rfl rfl rfl (Nat.le_of_ble_eq_true rfl) (Nat.le_of_ble_eq_true rfl) (hW _ S) (fun r1 H1 q1 => ?_)
  obtain ⟨v1, m1, γ1, t1, rfl, hv1, S, hW⟩ := q1
  show wp _ _ _ _ _ [.int (iI v1), .int (iI x1), .ref 10] _ _
  refine wp_cv (As := [.int (iI x1), .int (iI v1)]) (rest := []) rfl rfl (S.cell 10 (nc rfl)) (by decide) rfl rfl rfl (Nat.le_of_ble_eq_true rfl) (Nat.le_of_ble_eq_true rfl) (hW _ S) (fun r2 H2 q2 => ?_)
  obtain ⟨v2, m2, γ2, t2, rfl, hv2, S, hW⟩ := q2
  show wp _ _ _ _ _ [.int (iI v2)] _ _
  refine wp_g (n := 3) (pc' := 16) (L' := [some (.ref 10), some (.int (iI x1)), some (.int (iI x2))]) (st' := [.ref 10, .int (iI x1), .ref 10, .int (iI v2)]) rfl ?_
  refine wp_getf (v := .ref 26) rfl rfl (S.cell 10 (nc rfl)) (by decide) rfl ?_
  refine wp_g (n := 1) (pc' := 20) (L' := [some (.ref 10), some (.int (iI x1)), some (.int (iI x2))]) (st' := [.int (iI x2), .ref 26, .int (iI x1), .ref 10, .int (iI v2)]) rfl ?_
  refine wp_cs (As := [.ref 26, .int (iI x2)]) (rest := [.int (iI x1), .ref 10, .int (iI v2)]) rfl rfl rfl rfl (Nat.le_of_ble_eq_true rfl) (Nat.le_of_ble_eq_true rfl) (hW _ S) (fun r3 H3 q3 => ?_)
  obtain ⟨v3, m3, γ3, t3, rfl, hv3, S, hW⟩ := q3
  show wp _ _ _ _ _ [.int (iI v3), .int (iI x1), .ref 10, .int (iI v2)] _ _
  refine wp_cv (As := [.int (iI x1), .int (iI v3)]) (rest := [.int (iI v2)]) rfl rfl (S.cell 10 (nc rfl)) (by decide) rfl rfl rfl (Nat.le_of_ble_eq_true rfl) (Nat.le_of_ble_eq_true rfl) (hW _ S) (fun r4 H4 q4 => ?_)
  obtain ⟨v4, m4, γ4, t4, rfl, hv4, S, hW⟩ := q4
  show wp _ _ _ _ _ [.int (iI v4), .int (iI v2)] _ _
  refine wp_icmpI (a := v2) (b := v4) rfl rfl hv2.1 hv2.2 hv4.1 hv4.2 (fun c5 => ?_) (fun c5 => ?_)
  · have dc5 := c5
    have hW := hW.1 dc5
    refine wp_g (n := 1) (pc' := 34) (L' := [some (.ref 10), some (.int (iI x1)), some (.int (iI x2))]) (st' := [.int (iI 0)]) rfl ?_
    exact wp_zret rfl rfl (by decide) ⟨_, _, _, _, rfl, (by decide), S, hW⟩
  · have dc5 := c5
    have hW := hW.2 dc5
    refine wp_g (n := 2) (pc' := 34) (L' := [some (.ref 10), some (.int (iI x1)), some (.int (iI x2))]) (st' := [.int (iI 1)]) rfl ?_
    exact wp_zret rfl rfl (by decide) ⟨_, _, _, _, rfl, (by decide), S, hW⟩
abbrev W_X7_isBetween (E : am_E) (k : Nat) (x1 : Int) (x2 : Int) (m : MM) (γ : GM) (t : am_H) (Q : Int → MM → GM → am_H → Prop) : Prop := (TI E k 182 [.ref 25, .int (iI x1)] m γ t (fun v1 m1 γ1 t1 => (((x2 ≤ v1) → (TI E k 182 [.ref 26, .int (iI x1)] m1 γ1 t1 (fun v3 m3 γ3 t3 => (((x2 ≤ v3) → (Q 0 m3 γ3 t3)) ∧ (¬ (x2 ≤ v3) → (Q 1 m3 γ3 t3)))))) ∧ (¬ (x2 ≤ v1) → (TI E k 182 [.ref 26, .int (iI x1)] m1 γ1 t1 (fun v5 m5 γ5 t5 => (((x2 ≤ v5) → (Q 1 m5 γ5 t5)) ∧ (¬ (x2 ≤ v5) → (Q 0 m5 γ5 t5)))))))))
theorem vc_X7_isBetween {E : am_E} {k : Nat} {x1 : Int} {x2 : Int} {m : MM} {γ : GM} {t : am_H} {Q : Int → MM → GM → am_H → Prop} (hx1 : rJ x1) (hx2 : rJ x2) (hW : W_X7_isBetween E k x1 x2 m γ t Q) : TI E (k + 1) 120 [.ref 10, .int (iI x1), .int (iI x2)] m γ t Q := by
  unfold W_X7_isBetween at hW
  intro h S
  refine wp_g (n := 2) (pc' := 2) (L' := [some (.ref 10), some (.int (iI x1)), some (.int (iI x2))]) (st' := [.ref 10, .int (iI x2)]) rfl ?_
  refine wp_getf (v := .ref 25) rfl rfl (S.cell 10 (nc rfl)) (by decide) rfl ?_
  refine wp_g (n := 1) (pc' := 6) (L' := [some (.ref 10), some (.int (iI x1)), some (.int (iI x2))]) (st' := [.int (iI x1), .ref 25, .int (iI x2)]) rfl ?_
  refine wp_cs (As := [.ref 25, .int (iI x1)]) (rest := [.int (iI x2)]) rfl rfl rfl rfl (Nat.le_of_ble_eq_true rfl) (Nat.le_of_ble_eq_true rfl) (hW _ S) (fun r1 H1 q1 => ?_)
  obtain ⟨v1, m1, γ1, t1, rfl, hv1, S, hW⟩ := q1
  show wp _ _ _ _ _ [.int (iI v1), .int (iI x2)] _ _
  refine wp_icmpI (a := x2) (b := v1) rfl rfl hx2.1 hx2.2 hv1.1 hv1.2 (fun c2 => ?_) (fun c2 => ?_)
  · have dc2 := c2
    have hW := hW.1 dc2
    refine wp_g (n := 3) (pc' := 19) (L' := [some (.ref 10), some (.int (iI x1)), some (.int (iI x2))]) (st' := [.ref 10, .int (iI x2), .int (iI 0)]) rfl ?_
    refine wp_getf (v := .ref 26) rfl rfl (S.cell 10 (nc rfl)) (by decide) rfl ?_
    refine wp_g (n := 1) (pc' := 23) (L' := [some (.ref 10), some (.int (iI x1)), some (.int (iI x2))]) (st' := [.int (iI x1), .ref 26, .int (iI x2), .int (iI 0)]) rfl ?_
    refine wp_cs (As := [.ref 26, .int (iI x1)]) (rest := [.int (iI x2), .int (iI 0)]) rfl rfl rfl rfl (Nat.le_of_ble_eq_true rfl) (Nat.le_of_ble_eq_true rfl) (hW _ S) (fun r3 H3 q3 => ?_)
    obtain ⟨v3, m3, γ3, t3, rfl, hv3, S, hW⟩ := q3
    show wp _ _ _ _ _ [.int (iI v3), .int (iI x2), .int (iI 0)] _ _
    refine wp_icmpI (a := x2) (b := v3) rfl rfl hx2.1 hx2.2 hv3.1 hv3.2 (fun c4 => ?_) (fun c4 => ?_)
    · have dc4 := c4
      have hW := hW.1 dc4
      refine wp_g (n := 1) (pc' := 34) (L' := [some (.ref 10), some (.int (iI x1)), some (.int (iI x2))]) (st' := [.int (iI 0), .int (iI 0)]) rfl ?_
      refine wp_g (n := 1) (pc' := 41) (L' := [some (.ref 10), some (.int (iI x1)), some (.int (iI x2))]) (st' := []) rfl ?_
      refine wp_g (n := 1) (pc' := 42) (L' := [some (.ref 10), some (.int (iI x1)), some (.int (iI x2))]) (st' := [.int (iI 0)]) rfl ?_
      exact wp_zret rfl rfl (by decide) ⟨_, _, _, _, rfl, (by decide), S, hW⟩
    · have dc4 := c4
      have hW := hW.2 dc4
      refine wp_g (n := 2) (pc' := 34) (L' := [some (.ref 10), some (.int (iI x1)), some (.int (iI x2))]) (st' := [.int (iI 1), .int (iI 0)]) rfl ?_
      refine wp_g (n := 1) (pc' := 37) (L' := [some (.ref 10), some (.int (iI x1)), some (.int (iI x2))]) (st' := []) rfl ?_
      refine wp_g (n := 2) (pc' := 42) (L' := [some (.ref 10), some (.int (iI x1)), some (.int (iI x2))]) (st' := [.int (iI 1)]) rfl ?_
      exact wp_zret rfl rfl (by decide) ⟨_, _, _, _, rfl, (by decide), S, hW⟩
  · have dc2 := c2
    have hW := hW.2 dc2
    refine wp_g (n := 4) (pc' := 19) (L' := [some (.ref 10), some (.int (iI x1)), some (.int (iI x2))]) (st' := [.ref 10, .int (iI x2), .int (iI 1)]) rfl ?_
    refine wp_getf (v := .ref 26) rfl rfl (S.cell 10 (nc rfl)) (by decide) rfl ?_
    refine wp_g (n := 1) (pc' := 23) (L' := [some (.ref 10), some (.int (iI x1)), some (.int (iI x2))]) (st' := [.int (iI x1), .ref 26, .int (iI x2), .int (iI 1)]) rfl ?_
    refine wp_cs (As := [.ref 26, .int (iI x1)]) (rest := [.int (iI x2), .int (iI 1)]) rfl rfl rfl rfl (Nat.le_of_ble_eq_true rfl) (Nat.le_of_ble_eq_true rfl) (hW _ S) (fun r5 H5 q5 => ?_)
    obtain ⟨v5, m5, γ5, t5, rfl, hv5, S, hW⟩ := q5
    show wp _ _ _ _ _ [.int (iI v5), .int (iI x2), .int (iI 1)] _ _
    refine wp_icmpI (a := x2) (b := v5) rfl rfl hx2.1 hx2.2 hv5.1 hv5.2 (fun c6 => ?_) (fun c6 => ?_)
    · have dc6 := c6
      have hW := hW.1 dc6
      refine wp_g (n := 1) (pc' := 34) (L' := [some (.ref 10), some (.int (iI x1)), some (.int (iI x2))]) (st' := [.int (iI 0), .int (iI 1)]) rfl ?_
      refine wp_g (n := 1) (pc' := 37) (L' := [some (.ref 10), some (.int (iI x1)), some (.int (iI x2))]) (st' := []) rfl ?_
      refine wp_g (n := 2) (pc' := 42) (L' := [some (.ref 10), some (.int (iI x1)), some (.int (iI x2))]) (st' := [.int (iI 1)]) rfl ?_
      exact wp_zret rfl rfl (by decide) ⟨_, _, _, _, rfl, (by decide), S, hW⟩
    · have dc6 := c6
      have hW := hW.2 dc6
      refine wp_g (n := 2) (pc' := 34) (L' := [some (.ref 10), some (.int (iI x1)), some (.int (iI x2))]) (st' := [.int (iI 1), .int (iI 1)]) rfl ?_
      refine wp_g (n := 1) (pc' := 41) (L' := [some (.ref 10), some (.int (iI x1)), some (.int (iI x2))]) (st' := []) rfl ?_
      refine wp_g (n := 1) (pc' := 42) (L' := [some (.ref 10), some (.int (iI x1)), some (.int (iI x2))]) (st' := [.int (iI 0)]) rfl ?_
      exact wp_zret rfl rfl (by decide) ⟨_, _, _, _, rfl, (by decide), S, hW⟩
def hd_X7_cellsOn_4 (E : am_E) (k : Nat) (x1 : Int) (y1 : Int) (y2 : Int) (y3 : Int) (m : MM) (γ : GM) (t : am_H) (Q : Int → MM → GM → am_H → Prop) : Prop := TT (pI Q) E (k + 1) 121 4 [some (.ref 10), some (.int (iI y1)), some (.int (iI y2)), some (.int (iI y3))] [] m γ t
abbrev W_X7_cellsOn (E : am_E) (k : Nat) (x1 : Int) (m : MM) (γ : GM) (t : am_H) (Q : Int → MM → GM → am_H → Prop) : Prop := (hd_X7_cellsOn_4 E k x1 x1 0 0 m γ t Q)
abbrev W_X7_cellsOn_4 (E : am_E) (k : Nat) (x1 : Int) (y1 : Int) (y2 : Int) (y3 : Int) (m : MM) (γ : GM) (t : am_H) (Q : Int → MM → GM → am_H → Prop) : Prop := (TI E k 105 [.ref 10, .int (iI y1)] m γ t (fun v1 m1 γ1 t1 => (((y3 < v1) → (TI E k 106 [.ref 10, .int (iI y1), .int (iI y3)] m1 γ1 t1 (fun v3 m3 γ3 t3 => (0 ≤ v3 ∧ (hd_X7_cellsOn_4 E k x1 y1 (bOr y2 (bShl 1 (v3 / 4))) (y3 + 1) m3 γ3 t3 Q))))) ∧ (¬ (y3 < v1) → (Q y2 m1 γ1 t1)))))
theorem vc_X7_cellsOn {E : am_E} {k : Nat} {x1 : Int} {m : MM} {γ : GM} {t : am_H} {Q : Int → MM → GM → am_H → Prop} (hx1 : rJ x1) (hW : W_X7_cellsOn E k x1 m γ t Q) : TI E (k + 1) 121 [.ref 10, .int (iI x1)] m γ t Q := by
  unfold W_X7_cellsOn at hW
  intro h S
  refine wp_g (n := 4) (pc' := 4) (L' := [some (.ref 10), some (.int (iI x1)), some (.int (iI 0)), some (.int (iI 0))]) (st' := []) rfl ?_
  exact hW _ S
theorem vc_X7_cellsOn_4 {E : am_E} {k : Nat} {x1 : Int} {y1 : Int} {y2 : Int} {y3 : Int} {m : MM} {γ : GM} {t : am_H} {Q : Int → MM → GM → am_H → Prop} (hx1 : rJ x1) (hy1 : rJ y1) (hy2 : rJ y2) (hy3 : rJ y3) (hW : W_X7_cellsOn_4 E k x1 y1 y2 y3 m γ t Q) : hd_X7_cellsOn_4 E k x1 y1 y2 y3 m γ t Q := by
  unfold W_X7_cellsOn_4 at hW
  intro h S
  refine wp_g (n := 3) (pc' := 7) (L' := [some (.ref 10), some (.int (iI y1)), some (.int (iI y2)), some (.int (iI y3))]) (st' := [.int (iI y1), .ref 10, .int (iI y3)]) rfl ?_
  refine wp_cv (As := [.int (iI y1)]) (rest := [.int (iI y3)]) rfl rfl (S.cell 10 (nc rfl)) (by decide) rfl rfl rfl (Nat.le_of_ble_eq_true rfl) (Nat.le_of_ble_eq_true rfl) (hW _ S) (fun r1 H1 q1 => ?_)
  obtain ⟨v1, m1, γ1, t1, rfl, hv1, S, hW⟩ := q1
  show wp _ _ _ _ _ [.int (iI v1), .int (iI y3)] _ _
  refine wp_icmpI (a := y3) (b := v1) rfl rfl hy3.1 hy3.2 hv1.1 hv1.2 (fun c2 => ?_) (fun c2 => ?_)
  · have dc2 := (Int.not_lt.mpr c2)
    have hW := hW.2 dc2
    refine wp_g (n := 1) (pc' := 33) (L' := [some (.ref 10), some (.int (iI y1)), some (.int (iI y2)), some (.int (iI y3))]) (st' := [.int (iI y2)]) rfl ?_
    exact wp_iret rfl rfl ⟨_, _, _, _, rfl, hy2, S, hW⟩
  · have dc2 := (Int.not_le.mp c2)
    have hW := hW.1 dc2
    refine wp_g (n := 5) (pc' := 18) (L' := [some (.ref 10), some (.int (iI y1)), some (.int (iI y2)), some (.int (iI y3))]) (st' := [.int (iI y3), .int (iI y1), .ref 10, .int (iI 1), .int (iI y2)]) rfl ?_
    refine wp_cv (As := [.int (iI y1), .int (iI y3)]) (rest := [.int (iI 1), .int (iI y2)]) rfl rfl (S.cell 10 (nc rfl)) (by decide) rfl rfl rfl (Nat.le_of_ble_eq_true rfl) (Nat.le_of_ble_eq_true rfl) (hW _ S) (fun r3 H3 q3 => ?_)
    obtain ⟨v3, m3, γ3, t3, rfl, hv3, S, hW⟩ := q3
    show wp _ _ _ _ _ [.int (iI v3), .int (iI 1), .int (iI y2)] _ _
    refine wp_g (n := 1) (pc' := 22) (L' := [some (.ref 10), some (.int (iI y1)), some (.int (iI y2)), some (.int (iI y3))]) (st' := [.int (iI 2), .int (iI v3), .int (iI 1), .int (iI y2)]) rfl ?_
    obtain ⟨p4, hW⟩ := hW
    refine wp_shr2 (a := v3) rfl p4 hv3.2 ?_
    have hr5 : rJ (v3 / 4) := by have := hv3; omega
    refine wp_bShl (a := 1) (b := (v3 / 4)) rfl ?_
    have hr6 : rJ (bShl 1 (v3 / 4)) := i32_rg _
    refine wp_bOr (a := y2) (b := (bShl 1 (v3 / 4))) rfl ?_
    have hr7 : rJ (bOr y2 (bShl 1 (v3 / 4))) := i32_rg _
    refine wp_g (n := 1) (pc' := 26) (L' := [some (.ref 10), some (.int (iI y1)), some (.int (iI (bOr y2 (bShl 1 (v3 / 4))))), some (.int (iI y3))]) (st' := []) rfl ?_
    refine wp_iinc (L' := [some (.ref 10), some (.int (iI y1)), some (.int (iI (bOr y2 (bShl 1 (v3 / 4))))), some (.int (iI (y3 + 1)))]) (a := y3) rfl rfl rfl ?_
    refine wp_g (n := 1) (pc' := 4) (L' := [some (.ref 10), some (.int (iI y1)), some (.int (iI (bOr y2 (bShl 1 (v3 / 4))))), some (.int (iI (y3 + 1)))]) (st' := []) rfl ?_
    exact hW _ S
def hd_X7_turnsRound_25 (E : am_E) (k : Nat) (x1 : Int) (x2 : Int) (y1 : Int) (y3 : Int) (y4 : Int) (y5 : Int) (y6 : Int) (m : MM) (γ : GM) (t : am_H) (Q : Int → MM → GM → am_H → Prop) : Prop := ∀ (z2 z7 z8 : Option Value), TT (pI Q) E (k + 1) 122 25 [some (.ref 10), some (.int (iI y1)), z2, some (.int (iI y3)), some (.int (iI y4)), some (.int (iI y5)), some (.int (iI y6)), z7, z8] [] m γ t
abbrev W_X7_turnsRound (E : am_E) (k : Nat) (x1 : Int) (x2 : Int) (m : MM) (γ : GM) (t : am_H) (Q : Int → MM → GM → am_H → Prop) : Prop := (TI E k 31 [.ref 11, .int (iI x2)] m γ t (fun v1 m1 γ1 t1 => (TI E k 32 [.ref 11, .int (iI x2)] m1 γ1 t1 (fun v2 m2 γ2 t2 => (hd_X7_turnsRound_25 E k x1 x2 x1 v1 v2 0 0 m2 γ2 t2 Q)))))
abbrev W_X7_turnsRound_25 (E : am_E) (k : Nat) (x1 : Int) (x2 : Int) (y1 : Int) (y3 : Int) (y4 : Int) (y5 : Int) (y6 : Int) (m : MM) (γ : GM) (t : am_H) (Q : Int → MM → GM → am_H → Prop) : Prop := (TI E k 105 [.ref 10, .int (iI y1)] m γ t (fun v1 m1 γ1 t1 => (((y6 < v1) → (TI E k 106 [.ref 10, .int (iI y1), .int (iI y6)] m1 γ1 t1 (fun v3 m3 γ3 t3 => (0 ≤ v3 ∧ (TI E k 32 [.ref 11, .int (iI (v3 / 4))] m3 γ3 t3 (fun v6 m6 γ6 t6 => (0 ≤ v3 ∧ (TI E k 31 [.ref 11, .int (iI (v3 / 4))] m6 γ6 t6 (fun v9 m9 γ9 t9 => (((v9 = y3) → (0 ≤ v3 ∧ ((((v3 % 4) = 0) → (((v6 < y4) → (0 ≤ v3 ∧ ((((v3 % 4) = 3) → (((v6 ≤ y4) → (hd_X7_turnsRound_25 E k x1 x2 y1 y3 y4 y5 (y6 + 1) m9 γ9 t9 Q)) ∧ (¬ (v6 ≤ y4) → (TI E k 182 [.ref 17, .int (iI v3)] m9 γ9 t9 (fun v24 m24 γ24 t24 => (hd_X7_turnsRound_25 E k x1 x2 y1 y3 y4 (y5 - v24) (y6 + 1) m24 γ24 t24 Q)))))) ∧ (¬ ((v3 % 4) = 3) → (hd_X7_turnsRound_25 E k x1 x2 y1 y3 y4 y5 (y6 + 1) m9 γ9 t9 Q))))) ∧ (¬ (v6 < y4) → (TI E k 182 [.ref 17, .int (iI v3)] m9 γ9 t9 (fun v25 m25 γ25 t25 => (0 ≤ v3 ∧ ((((v3 % 4) = 3) → (((v6 ≤ y4) → (hd_X7_turnsRound_25 E k x1 x2 y1 y3 y4 (y5 + v25) (y6 + 1) m25 γ25 t25 Q)) ∧ (¬ (v6 ≤ y4) → (TI E k 182 [.ref 17, .int (iI v3)] m25 γ25 t25 (fun v30 m30 γ30 t30 => (hd_X7_turnsRound_25 E k x1 x2 y1 y3 y4 ((y5 + v25) - v30) (y6 + 1) m30 γ30 t30 Q)))))) ∧ (¬ ((v3 % 4) = 3) → (hd_X7_turnsRound_25 E k x1 x2 y1 y3 y4 (y5 + v25) (y6 + 1) m25 γ25 t25 Q))))))))) ∧ (¬ ((v3 % 4) = 0) → (0 ≤ v3 ∧ ((((v3 % 4) = 3) → (((v6 ≤ y4) → (hd_X7_turnsRound_25 E k x1 x2 y1 y3 y4 y5 (y6 + 1) m9 γ9 t9 Q)) ∧ (¬ (v6 ≤ y4) → (TI E k 182 [.ref 17, .int (iI v3)] m9 γ9 t9 (fun v18 m18 γ18 t18 => (hd_X7_turnsRound_25 E k x1 x2 y1 y3 y4 (y5 - v18) (y6 + 1) m18 γ18 t18 Q)))))) ∧ (¬ ((v3 % 4) = 3) → (hd_X7_turnsRound_25 E k x1 x2 y1 y3 y4 y5 (y6 + 1) m9 γ9 t9 Q)))))))) ∧ (¬ (v9 = y3) → (hd_X7_turnsRound_25 E k x1 x2 y1 y3 y4 y5 (y6 + 1) m9 γ9 t9 Q)))))))))))) ∧ (¬ (y6 < v1) → (Q y5 m1 γ1 t1)))))
theorem vc_X7_turnsRound {E : am_E} {k : Nat} {x1 : Int} {x2 : Int} {m : MM} {γ : GM} {t : am_H} {Q : Int → MM → GM → am_H → Prop} (hx1 : rJ x1) (hx2 : rJ x2) (hW : W_X7_turnsRound E k x1 x2 m γ t Q) : TI E (k + 1) 122 [.ref 10, .int (iI x1), .int (iI x2)] m γ t Q := by
  unfold W_X7_turnsRound at hW
  intro h S
  refine wp_g (n := 1) (pc' := 1) (L' := [some (.ref 10), some (.int (iI x1)), some (.int (iI x2)), none, none, none, none, none, none]) (st' := [.ref 10]) rfl ?_
  refine wp_getf (v := .ref 11) rfl rfl (S.cell 10 (nc rfl)) (by decide) rfl ?_
  refine wp_g (n := 1) (pc' := 5) (L' := [some (.ref 10), some (.int (iI x1)), some (.int (iI x2)), none, none, none, none, none, none]) (st' := [.int (iI x2), .ref 11]) rfl ?_
  refine wp_cv (As := [.int (iI x2)]) (rest := []) rfl rfl (S.gg 11 (gi rfl)).obj (by decide) rfl rfl rfl (Nat.le_of_ble_eq_true rfl) (Nat.le_of_ble_eq_true rfl) (hW _ S) (fun r1 H1 q1 => ?_)
  obtain ⟨v1, m1, γ1, t1, rfl, hv1, S, hW⟩ := q1
  show wp _ _ _ _ _ [.int (iI v1)] _ _
  refine wp_g (n := 2) (pc' := 10) (L' := [some (.ref 10), some (.int (iI x1)), some (.int (iI x2)), some (.int (iI v1)), none, none, none, none, none]) (st' := [.ref 10]) rfl ?_
  refine wp_getf (v := .ref 11) rfl rfl (S.cell 10 (nc rfl)) (by decide) rfl ?_
  refine wp_g (n := 1) (pc' := 14) (L' := [some (.ref 10), some (.int (iI x1)), some (.int (iI x2)), some (.int (iI v1)), none, none, none, none, none]) (st' := [.int (iI x2), .ref 11]) rfl ?_
  refine wp_cv (As := [.int (iI x2)]) (rest := []) rfl rfl (S.gg 11 (gi rfl)).obj (by decide) rfl rfl rfl (Nat.le_of_ble_eq_true rfl) (Nat.le_of_ble_eq_true rfl) (hW _ S) (fun r2 H2 q2 => ?_)
  obtain ⟨v2, m2, γ2, t2, rfl, hv2, S, hW⟩ := q2
  show wp _ _ _ _ _ [.int (iI v2)] _ _
  refine wp_g (n := 5) (pc' := 25) (L' := [some (.ref 10), some (.int (iI x1)), some (.int (iI x2)), some (.int (iI v1)), some (.int (iI v2)), some (.int (iI 0)), some (.int (iI 0)), none, none]) (st' := []) rfl ?_
  exact hW (some (.int (iI x2))) none none _ S
theorem vc_X7_turnsRound_25 {E : am_E} {k : Nat} {x1 : Int} {x2 : Int} {y1 : Int} {y3 : Int} {y4 : Int} {y5 : Int} {y6 : Int} {m : MM} {γ : GM} {t : am_H} {Q : Int → MM → GM → am_H → Prop} (hx1 : rJ x1) (hx2 : rJ x2) (hy1 : rJ y1) (hy3 : rJ y3) (hy4 : rJ y4) (hy5 : rJ y5) (hy6 : rJ y6) (hW : W_X7_turnsRound_25 E k x1 x2 y1 y3 y4 y5 y6 m γ t Q) : hd_X7_turnsRound_25 E k x1 x2 y1 y3 y4 y5 y6 m γ t Q := by
  unfold W_X7_turnsRound_25 at hW
  intro z2 z7 z8 h S
  refine wp_g (n := 3) (pc' := 29) (L' := [some (.ref 10), some (.int (iI y1)), z2, some (.int (iI y3)), some (.int (iI y4)), some (.int (iI y5)), some (.int (iI y6)), z7, z8]) (st' := [.int (iI y1), .ref 10, .int (iI y6)]) rfl ?_
  refine wp_cv (As := [.int (iI y1)]) (rest := [.int (iI y6)]) rfl rfl (S.cell 10 (nc rfl)) (by decide) rfl rfl rfl (Nat.le_of_ble_eq_true rfl) (Nat.le_of_ble_eq_true rfl) (hW _ S) (fun r1 H1 q1 => ?_)
  obtain ⟨v1, m1, γ1, t1, rfl, hv1, S, hW⟩ := q1
  show wp _ _ _ _ _ [.int (iI v1), .int (iI y6)] _ _
  refine wp_icmpI (a := y6) (b := v1) rfl rfl hy6.1 hy6.2 hv1.1 hv1.2 (fun c2 => ?_) (fun c2 => ?_)
  · have dc2 := (Int.not_lt.mpr c2)
    have hW := hW.2 dc2
    refine wp_g (n := 1) (pc' := 140) (L' := [some (.ref 10), some (.int (iI y1)), z2, some (.int (iI y3)), some (.int (iI y4)), some (.int (iI y5)), some (.int (iI y6)), z7, z8]) (st' := [.int (iI y5)]) rfl ?_
    exact wp_iret rfl rfl ⟨_, _, _, _, rfl, hy5, S, hW⟩
  · have dc2 := (Int.not_le.mp c2)
    have hW := hW.1 dc2
    refine wp_g (n := 3) (pc' := 39) (L' := [some (.ref 10), some (.int (iI y1)), z2, some (.int (iI y3)), some (.int (iI y4)), some (.int (iI y5)), some (.int (iI y6)), z7, z8]) (st' := [.int (iI y6), .int (iI y1), .ref 10]) rfl ?_
    refine wp_cv (As := [.int (iI y1), .int (iI y6)]) (rest := []) rfl rfl (S.cell 10 (nc rfl)) (by decide) rfl rfl rfl (Nat.le_of_ble_eq_true rfl) (Nat.le_of_ble_eq_true rfl) (hW _ S) (fun r3 H3 q3 => ?_)
    obtain ⟨v3, m3, γ3, t3, rfl, hv3, S, hW⟩ := q3
    show wp _ _ _ _ _ [.int (iI v3)] _ _
    refine wp_g (n := 2) (pc' := 45) (L' := [some (.ref 10), some (.int (iI y1)), z2, some (.int (iI y3)), some (.int (iI y4)), some (.int (iI y5)), some (.int (iI y6)), some (.int (iI v3)), z8]) (st' := [.ref 10]) rfl ?_
    refine wp_getf (v := .ref 11) rfl rfl (S.cell 10 (nc rfl)) (by decide) rfl ?_
    refine wp_g (n := 2) (pc' := 51) (L' := [some (.ref 10), some (.int (iI y1)), z2, some (.int (iI y3)), some (.int (iI y4)), some (.int (iI y5)), some (.int (iI y6)), some (.int (iI v3)), z8]) (st' := [.int (iI 2), .int (iI v3), .ref 11]) rfl ?_
    obtain ⟨p4, hW⟩ := hW
    refine wp_shr2 (a := v3) rfl p4 hv3.2 ?_
    have hr5 : rJ (v3 / 4) := by have := hv3; omega
    refine wp_cv (As := [.int (iI (v3 / 4))]) (rest := []) rfl rfl (S.gg 11 (gi rfl)).obj (by decide) rfl rfl rfl (Nat.le_of_ble_eq_true rfl) (Nat.le_of_ble_eq_true rfl) (hW _ S) (fun r6 H6 q6 => ?_)
    obtain ⟨v6, m6, γ6, t6, rfl, hv6, S, hW⟩ := q6
    show wp _ _ _ _ _ [.int (iI v6)] _ _
    refine wp_g (n := 2) (pc' := 58) (L' := [some (.ref 10), some (.int (iI y1)), z2, some (.int (iI y3)), some (.int (iI y4)), some (.int (iI y5)), some (.int (iI y6)), some (.int (iI v3)), some (.int (iI v6))]) (st' := [.ref 10]) rfl ?_
    refine wp_getf (v := .ref 11) rfl rfl (S.cell 10 (nc rfl)) (by decide) rfl ?_
    refine wp_g (n := 2) (pc' := 64) (L' := [some (.ref 10), some (.int (iI y1)), z2, some (.int (iI y3)), some (.int (iI y4)), some (.int (iI y5)), some (.int (iI y6)), some (.int (iI v3)), some (.int (iI v6))]) (st' := [.int (iI 2), .int (iI v3), .ref 11]) rfl ?_
    obtain ⟨p7, hW⟩ := hW
    refine wp_shr2 (a := v3) rfl p7 hv3.2 ?_
    have hr8 : rJ (v3 / 4) := by have := hv3; omega
    refine wp_cv (As := [.int (iI (v3 / 4))]) (rest := []) rfl rfl (S.gg 11 (gi rfl)).obj (by decide) rfl rfl rfl (Nat.le_of_ble_eq_true rfl) (Nat.le_of_ble_eq_true rfl) (hW _ S) (fun r9 H9 q9 => ?_)
    obtain ⟨v9, m9, γ9, t9, rfl, hv9, S, hW⟩ := q9
    show wp _ _ _ _ _ [.int (iI v9)] _ _
    refine wp_g (n := 1) (pc' := 69) (L' := [some (.ref 10), some (.int (iI y1)), z2, some (.int (iI y3)), some (.int (iI y4)), some (.int (iI y5)), some (.int (iI y6)), some (.int (iI v3)), some (.int (iI v6))]) (st' := [.int (iI y3), .int (iI v9)]) rfl ?_
    refine wp_icmpI (a := v9) (b := y3) rfl rfl hv9.1 hv9.2 hy3.1 hy3.2 (fun c10 => ?_) (fun c10 => ?_)
    · have dc10 := c10
      have hW := hW.1 dc10
      refine wp_g (n := 2) (pc' := 78) (L' := [some (.ref 10), some (.int (iI y1)), z2, some (.int (iI y3)), some (.int (iI y4)), some (.int (iI y5)), some (.int (iI y6)), some (.int (iI v3)), some (.int (iI v6))]) (st' := [.int (iI 3), .int (iI v3)]) rfl ?_
      obtain ⟨p11, hW⟩ := hW
      refine wp_and3 (a := v3) rfl p11 hv3.2 ?_
      have hr12 : rJ (v3 % 4) := by omega
      refine wp_ifI (a := (v3 % 4)) rfl rfl hr12.1 hr12.2 (fun c13 => ?_) (fun c13 => ?_)
      · have dc13 := c13
        have hW := hW.2 dc13
        refine wp_g (n := 2) (pc' := 106) (L' := [some (.ref 10), some (.int (iI y1)), z2, some (.int (iI y3)), some (.int (iI y4)), some (.int (iI y5)), some (.int (iI y6)), some (.int (iI v3)), some (.int (iI v6))]) (st' := [.int (iI 3), .int (iI v3)]) rfl ?_
        obtain ⟨p14, hW⟩ := hW
        refine wp_and3 (a := v3) rfl p14 hv3.2 ?_
        have hr15 : rJ (v3 % 4) := by omega
        refine wp_g (n := 1) (pc' := 108) (L' := [some (.ref 10), some (.int (iI y1)), z2, some (.int (iI y3)), some (.int (iI y4)), some (.int (iI y5)), some (.int (iI y6)), some (.int (iI v3)), some (.int (iI v6))]) (st' := [.int (iI 3), .int (iI (v3 % 4))]) rfl ?_
        refine wp_icmpI (a := (v3 % 4)) (b := 3) rfl rfl hr15.1 hr15.2 (by decide) (by decide) (fun c16 => ?_) (fun c16 => ?_)
        · have dc16 := c16
          have hW := hW.2 dc16
          refine wp_iinc (L' := [some (.ref 10), some (.int (iI y1)), z2, some (.int (iI y3)), some (.int (iI y4)), some (.int (iI y5)), some (.int (iI (y6 + 1))), some (.int (iI v3)), some (.int (iI v6))]) (a := y6) rfl rfl rfl ?_
          refine wp_g (n := 1) (pc' := 25) (L' := [some (.ref 10), some (.int (iI y1)), z2, some (.int (iI y3)), some (.int (iI y4)), some (.int (iI y5)), some (.int (iI (y6 + 1))), some (.int (iI v3)), some (.int (iI v6))]) (st' := []) rfl ?_
          exact hW z2 (some (.int (iI v3))) (some (.int (iI v6))) _ S
        · have dc16 := (Classical.not_not.mp c16)
          have hW := hW.1 dc16
          refine wp_g (n := 2) (pc' := 115) (L' := [some (.ref 10), some (.int (iI y1)), z2, some (.int (iI y3)), some (.int (iI y4)), some (.int (iI y5)), some (.int (iI y6)), some (.int (iI v3)), some (.int (iI v6))]) (st' := [.int (iI y4), .int (iI v6)]) rfl ?_
          refine wp_icmpI (a := v6) (b := y4) rfl rfl hv6.1 hv6.2 hy4.1 hy4.2 (fun c17 => ?_) (fun c17 => ?_)
          · have dc17 := c17
            have hW := hW.1 dc17
            refine wp_iinc (L' := [some (.ref 10), some (.int (iI y1)), z2, some (.int (iI y3)), some (.int (iI y4)), some (.int (iI y5)), some (.int (iI (y6 + 1))), some (.int (iI v3)), some (.int (iI v6))]) (a := y6) rfl rfl rfl ?_
            refine wp_g (n := 1) (pc' := 25) (L' := [some (.ref 10), some (.int (iI y1)), z2, some (.int (iI y3)), some (.int (iI y4)), some (.int (iI y5)), some (.int (iI (y6 + 1))), some (.int (iI v3)), some (.int (iI v6))]) (st' := []) rfl ?_
            exact hW z2 (some (.int (iI v3))) (some (.int (iI v6))) _ S
          · have dc17 := c17
            have hW := hW.2 dc17
            refine wp_g (n := 2) (pc' := 121) (L' := [some (.ref 10), some (.int (iI y1)), z2, some (.int (iI y3)), some (.int (iI y4)), some (.int (iI y5)), some (.int (iI y6)), some (.int (iI v3)), some (.int (iI v6))]) (st' := [.ref 10, .int (iI y5)]) rfl ?_
            refine wp_getf (v := .ref 17) rfl rfl (S.cell 10 (nc rfl)) (by decide) rfl ?_
            refine wp_g (n := 1) (pc' := 126) (L' := [some (.ref 10), some (.int (iI y1)), z2, some (.int (iI y3)), some (.int (iI y4)), some (.int (iI y5)), some (.int (iI y6)), some (.int (iI v3)), some (.int (iI v6))]) (st' := [.int (iI v3), .ref 17, .int (iI y5)]) rfl ?_
            refine wp_cs (As := [.ref 17, .int (iI v3)]) (rest := [.int (iI y5)]) rfl rfl rfl rfl (Nat.le_of_ble_eq_true rfl) (Nat.le_of_ble_eq_true rfl) (hW _ S) (fun r18 H18 q18 => ?_)
            obtain ⟨v18, m18, γ18, t18, rfl, hv18, S, hW⟩ := q18
            show wp _ _ _ _ _ [.int (iI v18), .int (iI y5)] _ _
            refine wp_sub (a := y5) (b := v18) rfl ?_
            refine wp_g (n := 1) (pc' := 132) (L' := [some (.ref 10), some (.int (iI y1)), z2, some (.int (iI y3)), some (.int (iI y4)), some (.int (iI (y5 - v18))), some (.int (iI y6)), some (.int (iI v3)), some (.int (iI v6))]) (st' := []) rfl ?_
            refine wp_iinc (L' := [some (.ref 10), some (.int (iI y1)), z2, some (.int (iI y3)), some (.int (iI y4)), some (.int (iI (y5 - v18))), some (.int (iI (y6 + 1))), some (.int (iI v3)), some (.int (iI v6))]) (a := y6) rfl rfl rfl ?_
            refine wp_g (n := 1) (pc' := 25) (L' := [some (.ref 10), some (.int (iI y1)), z2, some (.int (iI y3)), some (.int (iI y4)), some (.int (iI (y5 - v18))), some (.int (iI (y6 + 1))), some (.int (iI v3)), some (.int (iI v6))]) (st' := []) rfl ?_
            exact hW z2 (some (.int (iI v3))) (some (.int (iI v6))) _ S
      · have dc13 := (Classical.not_not.mp c13)
        have hW := hW.1 dc13
        refine wp_g (n := 2) (pc' := 86) (L' := [some (.ref 10), some (.int (iI y1)), z2, some (.int (iI y3)), some (.int (iI y4)), some (.int (iI y5)), some (.int (iI y6)), some (.int (iI v3)), some (.int (iI v6))]) (st' := [.int (iI y4), .int (iI v6)]) rfl ?_
        refine wp_icmpI (a := v6) (b := y4) rfl rfl hv6.1 hv6.2 hy4.1 hy4.2 (fun c19 => ?_) (fun c19 => ?_)
        · have dc19 := c19
          have hW := hW.1 dc19
          refine wp_g (n := 2) (pc' := 106) (L' := [some (.ref 10), some (.int (iI y1)), z2, some (.int (iI y3)), some (.int (iI y4)), some (.int (iI y5)), some (.int (iI y6)), some (.int (iI v3)), some (.int (iI v6))]) (st' := [.int (iI 3), .int (iI v3)]) rfl ?_
          obtain ⟨p20, hW⟩ := hW
          refine wp_and3 (a := v3) rfl p20 hv3.2 ?_
          have hr21 : rJ (v3 % 4) := by omega
          refine wp_g (n := 1) (pc' := 108) (L' := [some (.ref 10), some (.int (iI y1)), z2, some (.int (iI y3)), some (.int (iI y4)), some (.int (iI y5)), some (.int (iI y6)), some (.int (iI v3)), some (.int (iI v6))]) (st' := [.int (iI 3), .int (iI (v3 % 4))]) rfl ?_
          refine wp_icmpI (a := (v3 % 4)) (b := 3) rfl rfl hr21.1 hr21.2 (by decide) (by decide) (fun c22 => ?_) (fun c22 => ?_)
          · have dc22 := c22
            have hW := hW.2 dc22
            refine wp_iinc (L' := [some (.ref 10), some (.int (iI y1)), z2, some (.int (iI y3)), some (.int (iI y4)), some (.int (iI y5)), some (.int (iI (y6 + 1))), some (.int (iI v3)), some (.int (iI v6))]) (a := y6) rfl rfl rfl ?_
            refine wp_g (n := 1) (pc' := 25) (L' := [some (.ref 10), some (.int (iI y1)), z2, some (.int (iI y3)), some (.int (iI y4)), some (.int (iI y5)), some (.int (iI (y6 + 1))), some (.int (iI v3)), some (.int (iI v6))]) (st' := []) rfl ?_
            exact hW z2 (some (.int (iI v3))) (some (.int (iI v6))) _ S
          · have dc22 := (Classical.not_not.mp c22)
            have hW := hW.1 dc22
            refine wp_g (n := 2) (pc' := 115) (L' := [some (.ref 10), some (.int (iI y1)), z2, some (.int (iI y3)), some (.int (iI y4)), some (.int (iI y5)), some (.int (iI y6)), some (.int (iI v3)), some (.int (iI v6))]) (st' := [.int (iI y4), .int (iI v6)]) rfl ?_
            refine wp_icmpI (a := v6) (b := y4) rfl rfl hv6.1 hv6.2 hy4.1 hy4.2 (fun c23 => ?_) (fun c23 => ?_)
            · have dc23 := c23
              have hW := hW.1 dc23
              refine wp_iinc (L' := [some (.ref 10), some (.int (iI y1)), z2, some (.int (iI y3)), some (.int (iI y4)), some (.int (iI y5)), some (.int (iI (y6 + 1))), some (.int (iI v3)), some (.int (iI v6))]) (a := y6) rfl rfl rfl ?_
              refine wp_g (n := 1) (pc' := 25) (L' := [some (.ref 10), some (.int (iI y1)), z2, some (.int (iI y3)), some (.int (iI y4)), some (.int (iI y5)), some (.int (iI (y6 + 1))), some (.int (iI v3)), some (.int (iI v6))]) (st' := []) rfl ?_
              exact hW z2 (some (.int (iI v3))) (some (.int (iI v6))) _ S
            · have dc23 := c23
              have hW := hW.2 dc23
              refine wp_g (n := 2) (pc' := 121) (L' := [some (.ref 10), some (.int (iI y1)), z2, some (.int (iI y3)), some (.int (iI y4)), some (.int (iI y5)), some (.int (iI y6)), some (.int (iI v3)), some (.int (iI v6))]) (st' := [.ref 10, .int (iI y5)]) rfl ?_
              refine wp_getf (v := .ref 17) rfl rfl (S.cell 10 (nc rfl)) (by decide) rfl ?_
              refine wp_g (n := 1) (pc' := 126) (L' := [some (.ref 10), some (.int (iI y1)), z2, some (.int (iI y3)), some (.int (iI y4)), some (.int (iI y5)), some (.int (iI y6)), some (.int (iI v3)), some (.int (iI v6))]) (st' := [.int (iI v3), .ref 17, .int (iI y5)]) rfl ?_
              refine wp_cs (As := [.ref 17, .int (iI v3)]) (rest := [.int (iI y5)]) rfl rfl rfl rfl (Nat.le_of_ble_eq_true rfl) (Nat.le_of_ble_eq_true rfl) (hW _ S) (fun r24 H24 q24 => ?_)
              obtain ⟨v24, m24, γ24, t24, rfl, hv24, S, hW⟩ := q24
              show wp _ _ _ _ _ [.int (iI v24), .int (iI y5)] _ _
              refine wp_sub (a := y5) (b := v24) rfl ?_
              refine wp_g (n := 1) (pc' := 132) (L' := [some (.ref 10), some (.int (iI y1)), z2, some (.int (iI y3)), some (.int (iI y4)), some (.int (iI (y5 - v24))), some (.int (iI y6)), some (.int (iI v3)), some (.int (iI v6))]) (st' := []) rfl ?_
              refine wp_iinc (L' := [some (.ref 10), some (.int (iI y1)), z2, some (.int (iI y3)), some (.int (iI y4)), some (.int (iI (y5 - v24))), some (.int (iI (y6 + 1))), some (.int (iI v3)), some (.int (iI v6))]) (a := y6) rfl rfl rfl ?_
              refine wp_g (n := 1) (pc' := 25) (L' := [some (.ref 10), some (.int (iI y1)), z2, some (.int (iI y3)), some (.int (iI y4)), some (.int (iI (y5 - v24))), some (.int (iI (y6 + 1))), some (.int (iI v3)), some (.int (iI v6))]) (st' := []) rfl ?_
              exact hW z2 (some (.int (iI v3))) (some (.int (iI v6))) _ S
        · have dc19 := c19
          have hW := hW.2 dc19
          refine wp_g (n := 2) (pc' := 92) (L' := [some (.ref 10), some (.int (iI y1)), z2, some (.int (iI y3)), some (.int (iI y4)), some (.int (iI y5)), some (.int (iI y6)), some (.int (iI v3)), some (.int (iI v6))]) (st' := [.ref 10, .int (iI y5)]) rfl ?_
          refine wp_getf (v := .ref 17) rfl rfl (S.cell 10 (nc rfl)) (by decide) rfl ?_
          refine wp_g (n := 1) (pc' := 97) (L' := [some (.ref 10), some (.int (iI y1)), z2, some (.int (iI y3)), some (.int (iI y4)), some (.int (iI y5)), some (.int (iI y6)), some (.int (iI v3)), some (.int (iI v6))]) (st' := [.int (iI v3), .ref 17, .int (iI y5)]) rfl ?_
          refine wp_cs (As := [.ref 17, .int (iI v3)]) (rest := [.int (iI y5)]) rfl rfl rfl rfl (Nat.le_of_ble_eq_true rfl) (Nat.le_of_ble_eq_true rfl) (hW _ S) (fun r25 H25 q25 => ?_)
          obtain ⟨v25, m25, γ25, t25, rfl, hv25, S, hW⟩ := q25
          show wp _ _ _ _ _ [.int (iI v25), .int (iI y5)] _ _
          refine wp_add (a := y5) (b := v25) rfl ?_
          refine wp_g (n := 3) (pc' := 106) (L' := [some (.ref 10), some (.int (iI y1)), z2, some (.int (iI y3)), some (.int (iI y4)), some (.int (iI (y5 + v25))), some (.int (iI y6)), some (.int (iI v3)), some (.int (iI v6))]) (st' := [.int (iI 3), .int (iI v3)]) rfl ?_
          obtain ⟨p26, hW⟩ := hW
          refine wp_and3 (a := v3) rfl p26 hv3.2 ?_
          have hr27 : rJ (v3 % 4) := by omega
          refine wp_g (n := 1) (pc' := 108) (L' := [some (.ref 10), some (.int (iI y1)), z2, some (.int (iI y3)), some (.int (iI y4)), some (.int (iI (y5 + v25))), some (.int (iI y6)), some (.int (iI v3)), some (.int (iI v6))]) (st' := [.int (iI 3), .int (iI (v3 % 4))]) rfl ?_
          refine wp_icmpI (a := (v3 % 4)) (b := 3) rfl rfl hr27.1 hr27.2 (by decide) (by decide) (fun c28 => ?_) (fun c28 => ?_)
          · have dc28 := c28
            have hW := hW.2 dc28
            refine wp_iinc (L' := [some (.ref 10), some (.int (iI y1)), z2, some (.int (iI y3)), some (.int (iI y4)), some (.int (iI (y5 + v25))), some (.int (iI (y6 + 1))), some (.int (iI v3)), some (.int (iI v6))]) (a := y6) rfl rfl rfl ?_
            refine wp_g (n := 1) (pc' := 25) (L' := [some (.ref 10), some (.int (iI y1)), z2, some (.int (iI y3)), some (.int (iI y4)), some (.int (iI (y5 + v25))), some (.int (iI (y6 + 1))), some (.int (iI v3)), some (.int (iI v6))]) (st' := []) rfl ?_
            exact hW z2 (some (.int (iI v3))) (some (.int (iI v6))) _ S
          · have dc28 := (Classical.not_not.mp c28)
            have hW := hW.1 dc28
            refine wp_g (n := 2) (pc' := 115) (L' := [some (.ref 10), some (.int (iI y1)), z2, some (.int (iI y3)), some (.int (iI y4)), some (.int (iI (y5 + v25))), some (.int (iI y6)), some (.int (iI v3)), some (.int (iI v6))]) (st' := [.int (iI y4), .int (iI v6)]) rfl ?_
            refine wp_icmpI (a := v6) (b := y4) rfl rfl hv6.1 hv6.2 hy4.1 hy4.2 (fun c29 => ?_) (fun c29 => ?_)
            · have dc29 := c29
              have hW := hW.1 dc29
              refine wp_iinc (L' := [some (.ref 10), some (.int (iI y1)), z2, some (.int (iI y3)), some (.int (iI y4)), some (.int (iI (y5 + v25))), some (.int (iI (y6 + 1))), some (.int (iI v3)), some (.int (iI v6))]) (a := y6) rfl rfl rfl ?_
              refine wp_g (n := 1) (pc' := 25) (L' := [some (.ref 10), some (.int (iI y1)), z2, some (.int (iI y3)), some (.int (iI y4)), some (.int (iI (y5 + v25))), some (.int (iI (y6 + 1))), some (.int (iI v3)), some (.int (iI v6))]) (st' := []) rfl ?_
              exact hW z2 (some (.int (iI v3))) (some (.int (iI v6))) _ S
            · have dc29 := c29
              have hW := hW.2 dc29
              refine wp_g (n := 2) (pc' := 121) (L' := [some (.ref 10), some (.int (iI y1)), z2, some (.int (iI y3)), some (.int (iI y4)), some (.int (iI (y5 + v25))), some (.int (iI y6)), some (.int (iI v3)), some (.int (iI v6))]) (st' := [.ref 10, .int (iI (y5 + v25))]) rfl ?_
              refine wp_getf (v := .ref 17) rfl rfl (S.cell 10 (nc rfl)) (by decide) rfl ?_
              refine wp_g (n := 1) (pc' := 126) (L' := [some (.ref 10), some (.int (iI y1)), z2, some (.int (iI y3)), some (.int (iI y4)), some (.int (iI (y5 + v25))), some (.int (iI y6)), some (.int (iI v3)), some (.int (iI v6))]) (st' := [.int (iI v3), .ref 17, .int (iI (y5 + v25))]) rfl ?_
              refine wp_cs (As := [.ref 17, .int (iI v3)]) (rest := [.int (iI (y5 + v25))]) rfl rfl rfl rfl (Nat.le_of_ble_eq_true rfl) (Nat.le_of_ble_eq_true rfl) (hW _ S) (fun r30 H30 q30 => ?_)
              obtain ⟨v30, m30, γ30, t30, rfl, hv30, S, hW⟩ := q30
              show wp _ _ _ _ _ [.int (iI v30), .int (iI (y5 + v25))] _ _
              refine wp_sub (a := (y5 + v25)) (b := v30) rfl ?_
              refine wp_g (n := 1) (pc' := 132) (L' := [some (.ref 10), some (.int (iI y1)), z2, some (.int (iI y3)), some (.int (iI y4)), some (.int (iI ((y5 + v25) - v30))), some (.int (iI y6)), some (.int (iI v3)), some (.int (iI v6))]) (st' := []) rfl ?_
              refine wp_iinc (L' := [some (.ref 10), some (.int (iI y1)), z2, some (.int (iI y3)), some (.int (iI y4)), some (.int (iI ((y5 + v25) - v30))), some (.int (iI (y6 + 1))), some (.int (iI v3)), some (.int (iI v6))]) (a := y6) rfl rfl rfl ?_
              refine wp_g (n := 1) (pc' := 25) (L' := [some (.ref 10), some (.int (iI y1)), z2, some (.int (iI y3)), some (.int (iI y4)), some (.int (iI ((y5 + v25) - v30))), some (.int (iI (y6 + 1))), some (.int (iI v3)), some (.int (iI v6))]) (st' := []) rfl ?_
              exact hW z2 (some (.int (iI v3))) (some (.int (iI v6))) _ S
    · have dc10 := c10
      have hW := hW.2 dc10
      refine wp_g (n := 1) (pc' := 132) (L' := [some (.ref 10), some (.int (iI y1)), z2, some (.int (iI y3)), some (.int (iI y4)), some (.int (iI y5)), some (.int (iI y6)), some (.int (iI v3)), some (.int (iI v6))]) (st' := []) rfl ?_
      refine wp_iinc (L' := [some (.ref 10), some (.int (iI y1)), z2, some (.int (iI y3)), some (.int (iI y4)), some (.int (iI y5)), some (.int (iI (y6 + 1))), some (.int (iI v3)), some (.int (iI v6))]) (a := y6) rfl rfl rfl ?_
      refine wp_g (n := 1) (pc' := 25) (L' := [some (.ref 10), some (.int (iI y1)), z2, some (.int (iI y3)), some (.int (iI y4)), some (.int (iI y5)), some (.int (iI (y6 + 1))), some (.int (iI v3)), some (.int (iI v6))]) (st' := []) rfl ?_
      exact hW z2 (some (.int (iI v3))) (some (.int (iI v6))) _ S
def hd_X7_pieces_2 (E : am_E) (k : Nat) (y1 : Int) (m : MM) (γ : GM) (t : am_H) (Q : Int → MM → GM → am_H → Prop) : Prop := ∀ (z2 : Option Value), TT (pI Q) E (k + 1) 123 2 [some (.ref 10), some (.int (iI y1)), z2] [] m γ t
def hd_X7_pieces_32 (E : am_E) (k : Nat) (y1 : Int) (y2 : Int) (m : MM) (γ : GM) (t : am_H) (Q : Int → MM → GM → am_H → Prop) : Prop := TT (pI Q) E (k + 1) 123 32 [some (.ref 10), some (.int (iI y1)), some (.int (iI y2))] [] m γ t
abbrev W_X7_pieces (E : am_E) (k : Nat) (m : MM) (γ : GM) (t : am_H) (Q : Int → MM → GM → am_H → Prop) : Prop := (hd_X7_pieces_2 E k 0 m γ t Q)
abbrev W_X7_pieces_2 (E : am_E) (k : Nat) (y1 : Int) (m : MM) (γ : GM) (t : am_H) (Q : Int → MM → GM → am_H → Prop) : Prop := (((y1 < (m 10 1)) → (TV E k 183 [.ref 27, .int (iI y1), .int (iI y1)] m γ t (fun m3 γ3 t3 => (hd_X7_pieces_2 E k (y1 + 1) m3 γ3 t3 Q)))) ∧ (¬ (y1 < (m 10 1)) → (hd_X7_pieces_32 E k (m 10 1) 0 m γ t Q)))
abbrev W_X7_pieces_32 (E : am_E) (k : Nat) (y1 : Int) (y2 : Int) (m : MM) (γ : GM) (t : am_H) (Q : Int → MM → GM → am_H → Prop) : Prop := (TI E k 28 [.ref 11] m γ t (fun v1 m1 γ1 t1 => (((y2 < v1) → (TI E k 34 [.ref 11, .int (iI y2)] m1 γ1 t1 (fun v3 m3 γ3 t3 => (((v3 = 0) → (hd_X7_pieces_32 E k y1 (y2 + 1) m3 γ3 t3 Q)) ∧ (¬ (v3 = 0) → (TI E k 110 [.ref 10, .int (iI y2)] m3 γ3 t3 (fun v5 m5 γ5 t5 => (TI E k 111 [.ref 10, .int (iI y2)] m5 γ5 t5 (fun v6 m6 γ6 t6 => (TI E k 124 [.ref 10, .int (iI v5), .int (iI v6)] m6 γ6 t6 (fun v7 m7 γ7 t7 => (((v7 = 0) → (hd_X7_pieces_32 E k y1 (y2 + 1) m7 γ7 t7 Q)) ∧ (¬ (v7 = 0) → (hd_X7_pieces_32 E k (y1 + (-1)) (y2 + 1) m7 γ7 t7 Q)))))))))))))) ∧ (¬ (y2 < v1) → (Q y1 m1 γ1 t1)))))
theorem vc_X7_pieces {E : am_E} {k : Nat} {m : MM} {γ : GM} {t : am_H} {Q : Int → MM → GM → am_H → Prop} (hW : W_X7_pieces E k  m γ t Q) : TI E (k + 1) 123 [.ref 10] m γ t Q := by
  unfold W_X7_pieces at hW
  intro h S
  refine wp_g (n := 2) (pc' := 2) (L' := [some (.ref 10), some (.int (iI 0)), none]) (st' := []) rfl ?_
  exact hW none _ S
theorem vc_X7_pieces_2 {E : am_E} {k : Nat} {y1 : Int} {m : MM} {γ : GM} {t : am_H} {Q : Int → MM → GM → am_H → Prop} (hy1 : rJ y1) (hW : W_X7_pieces_2 E k y1 m γ t Q) : hd_X7_pieces_2 E k y1 m γ t Q := by
  unfold W_X7_pieces_2 at hW
  intro z2 h S
  refine wp_g (n := 2) (pc' := 4) (L' := [some (.ref 10), some (.int (iI y1)), z2]) (st' := [.ref 10, .int (iI y1)]) rfl ?_
  refine wp_getf (v := .int (iI (m 10 1))) rfl rfl (S.cell 10 (nc rfl)) (by decide) rfl ?_
  have hr1 : rJ (m 10 1) := S.rg 10 1 (nl rfl)
  refine wp_icmpI (a := y1) (b := (m 10 1)) rfl rfl hy1.1 hy1.2 hr1.1 hr1.2 (fun c2 => ?_) (fun c2 => ?_)
  · have dc2 := (Int.not_lt.mpr c2)
    have hW := hW.2 dc2
    refine wp_g (n := 1) (pc' := 26) (L' := [some (.ref 10), some (.int (iI y1)), z2]) (st' := [.ref 10]) rfl ?_
    refine wp_getf (v := .int (iI (m 10 1))) rfl rfl (S.cell 10 (nc rfl)) (by decide) rfl ?_
    refine wp_g (n := 3) (pc' := 32) (L' := [some (.ref 10), some (.int (iI (m 10 1))), some (.int (iI 0))]) (st' := []) rfl ?_
    exact hW _ S
  · have dc2 := (Int.not_le.mp c2)
    have hW := hW.1 dc2
    refine wp_g (n := 1) (pc' := 11) (L' := [some (.ref 10), some (.int (iI y1)), z2]) (st' := [.ref 10]) rfl ?_
    refine wp_getf (v := .ref 27) rfl rfl (S.cell 10 (nc rfl)) (by decide) rfl ?_
    refine wp_g (n := 2) (pc' := 16) (L' := [some (.ref 10), some (.int (iI y1)), z2]) (st' := [.int (iI y1), .int (iI y1), .ref 27]) rfl ?_
    refine wp_cs (As := [.ref 27, .int (iI y1), .int (iI y1)]) (rest := []) rfl rfl rfl rfl (Nat.le_of_ble_eq_true rfl) (Nat.le_of_ble_eq_true rfl) (hW _ S) (fun r3 H3 q3 => ?_)
    obtain ⟨m3, γ3, t3, rfl, S, hW⟩ := q3
    show wp _ _ _ _ _ [] _ _
    refine wp_iinc (L' := [some (.ref 10), some (.int (iI (y1 + 1))), z2]) (a := y1) rfl rfl rfl ?_
    refine wp_g (n := 1) (pc' := 2) (L' := [some (.ref 10), some (.int (iI (y1 + 1))), z2]) (st' := []) rfl ?_
    exact hW z2 _ S
theorem vc_X7_pieces_32 {E : am_E} {k : Nat} {y1 : Int} {y2 : Int} {m : MM} {γ : GM} {t : am_H} {Q : Int → MM → GM → am_H → Prop} (hy1 : rJ y1) (hy2 : rJ y2) (hW : W_X7_pieces_32 E k y1 y2 m γ t Q) : hd_X7_pieces_32 E k y1 y2 m γ t Q := by
  unfold W_X7_pieces_32 at hW
  intro h S
  refine wp_g (n := 2) (pc' := 34) (L' := [some (.ref 10), some (.int (iI y1)), some (.int (iI y2))]) (st' := [.ref 10, .int (iI y2)]) rfl ?_
  refine wp_getf (v := .ref 11) rfl rfl (S.cell 10 (nc rfl)) (by decide) rfl ?_
  refine wp_cv (As := []) (rest := [.int (iI y2)]) rfl rfl (S.gg 11 (gi rfl)).obj (by decide) rfl rfl rfl (Nat.le_of_ble_eq_true rfl) (Nat.le_of_ble_eq_true rfl) (hW _ S) (fun r1 H1 q1 => ?_)
  obtain ⟨v1, m1, γ1, t1, rfl, hv1, S, hW⟩ := q1
  show wp _ _ _ _ _ [.int (iI v1), .int (iI y2)] _ _
  refine wp_icmpI (a := y2) (b := v1) rfl rfl hy2.1 hy2.2 hv1.1 hv1.2 (fun c2 => ?_) (fun c2 => ?_)
  · have dc2 := (Int.not_lt.mpr c2)
    have hW := hW.2 dc2
    refine wp_g (n := 1) (pc' := 81) (L' := [some (.ref 10), some (.int (iI y1)), some (.int (iI y2))]) (st' := [.int (iI y1)]) rfl ?_
    exact wp_iret rfl rfl ⟨_, _, _, _, rfl, hy1, S, hW⟩
  · have dc2 := (Int.not_le.mp c2)
    have hW := hW.1 dc2
    refine wp_g (n := 1) (pc' := 44) (L' := [some (.ref 10), some (.int (iI y1)), some (.int (iI y2))]) (st' := [.ref 10]) rfl ?_
    refine wp_getf (v := .ref 11) rfl rfl (S.cell 10 (nc rfl)) (by decide) rfl ?_
    refine wp_g (n := 1) (pc' := 48) (L' := [some (.ref 10), some (.int (iI y1)), some (.int (iI y2))]) (st' := [.int (iI y2), .ref 11]) rfl ?_
    refine wp_cv (As := [.int (iI y2)]) (rest := []) rfl rfl (S.gg 11 (gi rfl)).obj (by decide) rfl rfl rfl (Nat.le_of_ble_eq_true rfl) (Nat.le_of_ble_eq_true rfl) (hW _ S) (fun r3 H3 q3 => ?_)
    obtain ⟨v3, m3, γ3, t3, rfl, hv3, S, hW⟩ := q3
    show wp _ _ _ _ _ [.int (iI v3)] _ _
    refine wp_ifI (a := v3) rfl rfl hv3.1 hv3.2 (fun c4 => ?_) (fun c4 => ?_)
    · have dc4 := c4
      have hW := hW.1 dc4
      refine wp_iinc (L' := [some (.ref 10), some (.int (iI y1)), some (.int (iI (y2 + 1)))]) (a := y2) rfl rfl rfl ?_
      refine wp_g (n := 1) (pc' := 32) (L' := [some (.ref 10), some (.int (iI y1)), some (.int (iI (y2 + 1)))]) (st' := []) rfl ?_
      exact hW _ S
    · have dc4 := c4
      have hW := hW.2 dc4
      refine wp_g (n := 3) (pc' := 57) (L' := [some (.ref 10), some (.int (iI y1)), some (.int (iI y2))]) (st' := [.int (iI y2), .ref 10, .ref 10]) rfl ?_
      refine wp_cv (As := [.int (iI y2)]) (rest := [.ref 10]) rfl rfl (S.cell 10 (nc rfl)) (by decide) rfl rfl rfl (Nat.le_of_ble_eq_true rfl) (Nat.le_of_ble_eq_true rfl) (hW _ S) (fun r5 H5 q5 => ?_)
      obtain ⟨v5, m5, γ5, t5, rfl, hv5, S, hW⟩ := q5
      show wp _ _ _ _ _ [.int (iI v5), .ref 10] _ _
      refine wp_g (n := 2) (pc' := 62) (L' := [some (.ref 10), some (.int (iI y1)), some (.int (iI y2))]) (st' := [.int (iI y2), .ref 10, .int (iI v5), .ref 10]) rfl ?_
      refine wp_cv (As := [.int (iI y2)]) (rest := [.int (iI v5), .ref 10]) rfl rfl (S.cell 10 (nc rfl)) (by decide) rfl rfl rfl (Nat.le_of_ble_eq_true rfl) (Nat.le_of_ble_eq_true rfl) (hW _ S) (fun r6 H6 q6 => ?_)
      obtain ⟨v6, m6, γ6, t6, rfl, hv6, S, hW⟩ := q6
      show wp _ _ _ _ _ [.int (iI v6), .int (iI v5), .ref 10] _ _
      refine wp_cv (As := [.int (iI v5), .int (iI v6)]) (rest := []) rfl rfl (S.cell 10 (nc rfl)) (by decide) rfl rfl rfl (Nat.le_of_ble_eq_true rfl) (Nat.le_of_ble_eq_true rfl) (hW _ S) (fun r7 H7 q7 => ?_)
      obtain ⟨v7, m7, γ7, t7, rfl, hv7, S, hW⟩ := q7
      show wp _ _ _ _ _ [.int (iI v7)] _ _
      refine wp_ifI (a := v7) rfl rfl hv7.1 hv7.2 (fun c8 => ?_) (fun c8 => ?_)
      · have dc8 := c8
        have hW := hW.1 dc8
        refine wp_iinc (L' := [some (.ref 10), some (.int (iI y1)), some (.int (iI (y2 + 1)))]) (a := y2) rfl rfl rfl ?_
        refine wp_g (n := 1) (pc' := 32) (L' := [some (.ref 10), some (.int (iI y1)), some (.int (iI (y2 + 1)))]) (st' := []) rfl ?_
        exact hW _ S
      · have dc8 := c8
        have hW := hW.2 dc8
        refine wp_iinc (L' := [some (.ref 10), some (.int (iI (y1 + (-1)))), some (.int (iI y2))]) (a := y1) rfl rfl rfl ?_
        refine wp_iinc (L' := [some (.ref 10), some (.int (iI (y1 + (-1)))), some (.int (iI (y2 + 1)))]) (a := y2) rfl rfl rfl ?_
        refine wp_g (n := 1) (pc' := 32) (L' := [some (.ref 10), some (.int (iI (y1 + (-1)))), some (.int (iI (y2 + 1)))]) (st' := []) rfl ?_
        exact hW _ S
def hd_X7_joinPieces_22 (E : am_E) (k : Nat) (x1 : Int) (x2 : Int) (y3 : Int) (y4 : Int) (y5 : Int) (m : MM) (γ : GM) (t : am_H) (Q : Int → MM → GM → am_H → Prop) : Prop := ∀ (z1 z2 : Option Value), TT (pI Q) E (k + 1) 124 22 [some (.ref 10), z1, z2, some (.int (iI y3)), some (.int (iI y4)), some (.int (iI y5))] [] m γ t
abbrev W_X7_joinPieces (E : am_E) (k : Nat) (x1 : Int) (x2 : Int) (m : MM) (γ : GM) (t : am_H) (Q : Int → MM → GM → am_H → Prop) : Prop := (TI E k 182 [.ref 27, .int (iI x1)] m γ t (fun v1 m1 γ1 t1 => (TI E k 182 [.ref 27, .int (iI x2)] m1 γ1 t1 (fun v2 m2 γ2 t2 => (hd_X7_joinPieces_22 E k x1 x2 v1 v2 0 m2 γ2 t2 Q)))))
abbrev W_X7_joinPieces_22 (E : am_E) (k : Nat) (x1 : Int) (x2 : Int) (y3 : Int) (y4 : Int) (y5 : Int) (m : MM) (γ : GM) (t : am_H) (Q : Int → MM → GM → am_H → Prop) : Prop := (((y5 < (m 10 1)) → (TI E k 182 [.ref 27, .int (iI y5)] m γ t (fun v4 m4 γ4 t4 => (((v4 = y4) → (TV E k 183 [.ref 27, .int (iI y5), .int (iI y3)] m4 γ4 t4 (fun m6 γ6 t6 => (hd_X7_joinPieces_22 E k x1 x2 y3 y4 (y5 + 1) m6 γ6 t6 Q)))) ∧ (¬ (v4 = y4) → (hd_X7_joinPieces_22 E k x1 x2 y3 y4 (y5 + 1) m4 γ4 t4 Q)))))) ∧ (¬ (y5 < (m 10 1)) → (((y3 = y4) → (Q 0 m γ t)) ∧ (¬ (y3 = y4) → (Q 1 m γ t)))))
theorem vc_X7_joinPieces {E : am_E} {k : Nat} {x1 : Int} {x2 : Int} {m : MM} {γ : GM} {t : am_H} {Q : Int → MM → GM → am_H → Prop} (hx1 : rJ x1) (hx2 : rJ x2) (hW : W_X7_joinPieces E k x1 x2 m γ t Q) : TI E (k + 1) 124 [.ref 10, .int (iI x1), .int (iI x2)] m γ t Q := by
  unfold W_X7_joinPieces at hW
  intro h S
  refine wp_g (n := 1) (pc' := 1) (L' := [some (.ref 10), some (.int (iI x1)), some (.int (iI x2)), none, none, none]) (st' := [.ref 10]) rfl ?_
  refine wp_getf (v := .ref 27) rfl rfl (S.cell 10 (nc rfl)) (by decide) rfl ?_
  refine wp_g (n := 1) (pc' := 5) (L' := [some (.ref 10), some (.int (iI x1)), some (.int (iI x2)), none, none, none]) (st' := [.int (iI x1), .ref 27]) rfl ?_
  refine wp_cs (As := [.ref 27, .int (iI x1)]) (rest := []) rfl rfl rfl rfl (Nat.le_of_ble_eq_true rfl) (Nat.le_of_ble_eq_true rfl) (hW _ S) (fun r1 H1 q1 => ?_)
  obtain ⟨v1, m1, γ1, t1, rfl, hv1, S, hW⟩ := q1
  show wp _ _ _ _ _ [.int (iI v1)] _ _
  refine wp_g (n := 2) (pc' := 10) (L' := [some (.ref 10), some (.int (iI x1)), some (.int (iI x2)), some (.int (iI v1)), none, none]) (st' := [.ref 10]) rfl ?_
  refine wp_getf (v := .ref 27) rfl rfl (S.cell 10 (nc rfl)) (by decide) rfl ?_
  refine wp_g (n := 1) (pc' := 14) (L' := [some (.ref 10), some (.int (iI x1)), some (.int (iI x2)), some (.int (iI v1)), none, none]) (st' := [.int (iI x2), .ref 27]) rfl ?_
  refine wp_cs (As := [.ref 27, .int (iI x2)]) (rest := []) rfl rfl rfl rfl (Nat.le_of_ble_eq_true rfl) (Nat.le_of_ble_eq_true rfl) (hW _ S) (fun r2 H2 q2 => ?_)
  obtain ⟨v2, m2, γ2, t2, rfl, hv2, S, hW⟩ := q2
  show wp _ _ _ _ _ [.int (iI v2)] _ _
  refine wp_g (n := 3) (pc' := 22) (L' := [some (.ref 10), some (.int (iI x1)), some (.int (iI x2)), some (.int (iI v1)), some (.int (iI v2)), some (.int (iI 0))]) (st' := []) rfl ?_
  exact hW (some (.int (iI x1))) (some (.int (iI x2))) _ S
theorem vc_X7_joinPieces_22 {E : am_E} {k : Nat} {x1 : Int} {x2 : Int} {y3 : Int} {y4 : Int} {y5 : Int} {m : MM} {γ : GM} {t : am_H} {Q : Int → MM → GM → am_H → Prop} (hx1 : rJ x1) (hx2 : rJ x2) (hy3 : rJ y3) (hy4 : rJ y4) (hy5 : rJ y5) (hW : W_X7_joinPieces_22 E k x1 x2 y3 y4 y5 m γ t Q) : hd_X7_joinPieces_22 E k x1 x2 y3 y4 y5 m γ t Q := by
  unfold W_X7_joinPieces_22 at hW
  intro z1 z2 h S
  refine wp_g (n := 2) (pc' := 25) (L' := [some (.ref 10), z1, z2, some (.int (iI y3)), some (.int (iI y4)), some (.int (iI y5))]) (st' := [.ref 10, .int (iI y5)]) rfl ?_
  refine wp_getf (v := .int (iI (m 10 1))) rfl rfl (S.cell 10 (nc rfl)) (by decide) rfl ?_
  have hr1 : rJ (m 10 1) := S.rg 10 1 (nl rfl)
  refine wp_icmpI (a := y5) (b := (m 10 1)) rfl rfl hy5.1 hy5.2 hr1.1 hr1.2 (fun c2 => ?_) (fun c2 => ?_)
  · have dc2 := (Int.not_lt.mpr c2)
    have hW := hW.2 dc2
    refine wp_g (n := 2) (pc' := 64) (L' := [some (.ref 10), z1, z2, some (.int (iI y3)), some (.int (iI y4)), some (.int (iI y5))]) (st' := [.int (iI y4), .int (iI y3)]) rfl ?_
    refine wp_icmpI (a := y3) (b := y4) rfl rfl hy3.1 hy3.2 hy4.1 hy4.2 (fun c3 => ?_) (fun c3 => ?_)
    · have dc3 := c3
      have hW := hW.1 dc3
      refine wp_g (n := 1) (pc' := 72) (L' := [some (.ref 10), z1, z2, some (.int (iI y3)), some (.int (iI y4)), some (.int (iI y5))]) (st' := [.int (iI 0)]) rfl ?_
      exact wp_zret rfl rfl (by decide) ⟨_, _, _, _, rfl, (by decide), S, hW⟩
    · have dc3 := c3
      have hW := hW.2 dc3
      refine wp_g (n := 2) (pc' := 72) (L' := [some (.ref 10), z1, z2, some (.int (iI y3)), some (.int (iI y4)), some (.int (iI y5))]) (st' := [.int (iI 1)]) rfl ?_
      exact wp_zret rfl rfl (by decide) ⟨_, _, _, _, rfl, (by decide), S, hW⟩
  · have dc2 := (Int.not_le.mp c2)
    have hW := hW.1 dc2
    refine wp_g (n := 1) (pc' := 32) (L' := [some (.ref 10), z1, z2, some (.int (iI y3)), some (.int (iI y4)), some (.int (iI y5))]) (st' := [.ref 10]) rfl ?_
    refine wp_getf (v := .ref 27) rfl rfl (S.cell 10 (nc rfl)) (by decide) rfl ?_
    refine wp_g (n := 1) (pc' := 37) (L' := [some (.ref 10), z1, z2, some (.int (iI y3)), some (.int (iI y4)), some (.int (iI y5))]) (st' := [.int (iI y5), .ref 27]) rfl ?_
    refine wp_cs (As := [.ref 27, .int (iI y5)]) (rest := []) rfl rfl rfl rfl (Nat.le_of_ble_eq_true rfl) (Nat.le_of_ble_eq_true rfl) (hW _ S) (fun r4 H4 q4 => ?_)
    obtain ⟨v4, m4, γ4, t4, rfl, hv4, S, hW⟩ := q4
    show wp _ _ _ _ _ [.int (iI v4)] _ _
    refine wp_g (n := 1) (pc' := 42) (L' := [some (.ref 10), z1, z2, some (.int (iI y3)), some (.int (iI y4)), some (.int (iI y5))]) (st' := [.int (iI y4), .int (iI v4)]) rfl ?_
    refine wp_icmpI (a := v4) (b := y4) rfl rfl hv4.1 hv4.2 hy4.1 hy4.2 (fun c5 => ?_) (fun c5 => ?_)
    · have dc5 := c5
      have hW := hW.2 dc5
      refine wp_iinc (L' := [some (.ref 10), z1, z2, some (.int (iI y3)), some (.int (iI y4)), some (.int (iI (y5 + 1)))]) (a := y5) rfl rfl rfl ?_
      refine wp_g (n := 1) (pc' := 22) (L' := [some (.ref 10), z1, z2, some (.int (iI y3)), some (.int (iI y4)), some (.int (iI (y5 + 1)))]) (st' := []) rfl ?_
      exact hW z1 z2 _ S
    · have dc5 := (Classical.not_not.mp c5)
      have hW := hW.1 dc5
      refine wp_g (n := 1) (pc' := 46) (L' := [some (.ref 10), z1, z2, some (.int (iI y3)), some (.int (iI y4)), some (.int (iI y5))]) (st' := [.ref 10]) rfl ?_
      refine wp_getf (v := .ref 27) rfl rfl (S.cell 10 (nc rfl)) (by decide) rfl ?_
      refine wp_g (n := 2) (pc' := 52) (L' := [some (.ref 10), z1, z2, some (.int (iI y3)), some (.int (iI y4)), some (.int (iI y5))]) (st' := [.int (iI y3), .int (iI y5), .ref 27]) rfl ?_
      refine wp_cs (As := [.ref 27, .int (iI y5), .int (iI y3)]) (rest := []) rfl rfl rfl rfl (Nat.le_of_ble_eq_true rfl) (Nat.le_of_ble_eq_true rfl) (hW _ S) (fun r6 H6 q6 => ?_)
      obtain ⟨m6, γ6, t6, rfl, S, hW⟩ := q6
      show wp _ _ _ _ _ [] _ _
      refine wp_iinc (L' := [some (.ref 10), z1, z2, some (.int (iI y3)), some (.int (iI y4)), some (.int (iI (y5 + 1)))]) (a := y5) rfl rfl rfl ?_
      refine wp_g (n := 1) (pc' := 22) (L' := [some (.ref 10), z1, z2, some (.int (iI y3)), some (.int (iI y4)), some (.int (iI (y5 + 1)))]) (st' := []) rfl ?_
      exact hW z1 z2 _ S
def hd_X7_firstOfTwo_2 (E : am_E) (k : Nat) (y1 : Int) (m : MM) (γ : GM) (t : am_H) (Q : Int → MM → GM → am_H → Prop) : Prop := TT (pI Q) E (k + 1) 125 2 [some (.ref 10), some (.int (iI y1))] [] m γ t
abbrev W_X7_firstOfTwo (E : am_E) (k : Nat) (m : MM) (γ : GM) (t : am_H) (Q : Int → MM → GM → am_H → Prop) : Prop := (hd_X7_firstOfTwo_2 E k 0 m γ t Q)
abbrev W_X7_firstOfTwo_2 (E : am_E) (k : Nat) (y1 : Int) (m : MM) (γ : GM) (t : am_H) (Q : Int → MM → GM → am_H → Prop) : Prop := (TI E k 28 [.ref 11] m γ t (fun v1 m1 γ1 t1 => (((y1 < v1) → (TI E k 34 [.ref 11, .int (iI y1)] m1 γ1 t1 (fun v3 m3 γ3 t3 => (((v3 = 0) → (hd_X7_firstOfTwo_2 E k (y1 + 1) m3 γ3 t3 Q)) ∧ (¬ (v3 = 0) → (TI E k 110 [.ref 10, .int (iI y1)] m3 γ3 t3 (fun v5 m5 γ5 t5 => (TI E k 111 [.ref 10, .int (iI y1)] m5 γ5 t5 (fun v6 m6 γ6 t6 => (((v5 = v6) → (hd_X7_firstOfTwo_2 E k (y1 + 1) m6 γ6 t6 Q)) ∧ (¬ (v5 = v6) → (Q y1 m6 γ6 t6)))))))))))) ∧ (¬ (y1 < v1) → (Q (-1) m1 γ1 t1)))))
theorem vc_X7_firstOfTwo {E : am_E} {k : Nat} {m : MM} {γ : GM} {t : am_H} {Q : Int → MM → GM → am_H → Prop} (hW : W_X7_firstOfTwo E k  m γ t Q) : TI E (k + 1) 125 [.ref 10] m γ t Q := by
  unfold W_X7_firstOfTwo at hW
  intro h S
  refine wp_g (n := 2) (pc' := 2) (L' := [some (.ref 10), some (.int (iI 0))]) (st' := []) rfl ?_
  exact hW _ S
theorem vc_X7_firstOfTwo_2 {E : am_E} {k : Nat} {y1 : Int} {m : MM} {γ : GM} {t : am_H} {Q : Int → MM → GM → am_H → Prop} (hy1 : rJ y1) (hW : W_X7_firstOfTwo_2 E k y1 m γ t Q) : hd_X7_firstOfTwo_2 E k y1 m γ t Q := by
  unfold W_X7_firstOfTwo_2 at hW
  intro h S
  refine wp_g (n := 2) (pc' := 4) (L' := [some (.ref 10), some (.int (iI y1))]) (st' := [.ref 10, .int (iI y1)]) rfl ?_
  refine wp_getf (v := .ref 11) rfl rfl (S.cell 10 (nc rfl)) (by decide) rfl ?_
  refine wp_cv (As := []) (rest := [.int (iI y1)]) rfl rfl (S.gg 11 (gi rfl)).obj (by decide) rfl rfl rfl (Nat.le_of_ble_eq_true rfl) (Nat.le_of_ble_eq_true rfl) (hW _ S) (fun r1 H1 q1 => ?_)
  obtain ⟨v1, m1, γ1, t1, rfl, hv1, S, hW⟩ := q1
  show wp _ _ _ _ _ [.int (iI v1), .int (iI y1)] _ _
  refine wp_icmpI (a := y1) (b := v1) rfl rfl hy1.1 hy1.2 hv1.1 hv1.2 (fun c2 => ?_) (fun c2 => ?_)
  · have dc2 := (Int.not_lt.mpr c2)
    have hW := hW.2 dc2
    refine wp_g (n := 1) (pc' := 46) (L' := [some (.ref 10), some (.int (iI y1))]) (st' := [.int (iI (-1))]) rfl ?_
    exact wp_iret rfl rfl ⟨_, _, _, _, rfl, (by decide), S, hW⟩
  · have dc2 := (Int.not_le.mp c2)
    have hW := hW.1 dc2
    refine wp_g (n := 1) (pc' := 14) (L' := [some (.ref 10), some (.int (iI y1))]) (st' := [.ref 10]) rfl ?_
    refine wp_getf (v := .ref 11) rfl rfl (S.cell 10 (nc rfl)) (by decide) rfl ?_
    refine wp_g (n := 1) (pc' := 18) (L' := [some (.ref 10), some (.int (iI y1))]) (st' := [.int (iI y1), .ref 11]) rfl ?_
    refine wp_cv (As := [.int (iI y1)]) (rest := []) rfl rfl (S.gg 11 (gi rfl)).obj (by decide) rfl rfl rfl (Nat.le_of_ble_eq_true rfl) (Nat.le_of_ble_eq_true rfl) (hW _ S) (fun r3 H3 q3 => ?_)
    obtain ⟨v3, m3, γ3, t3, rfl, hv3, S, hW⟩ := q3
    show wp _ _ _ _ _ [.int (iI v3)] _ _
    refine wp_ifI (a := v3) rfl rfl hv3.1 hv3.2 (fun c4 => ?_) (fun c4 => ?_)
    · have dc4 := c4
      have hW := hW.1 dc4
      refine wp_iinc (L' := [some (.ref 10), some (.int (iI (y1 + 1)))]) (a := y1) rfl rfl rfl ?_
      refine wp_g (n := 1) (pc' := 2) (L' := [some (.ref 10), some (.int (iI (y1 + 1)))]) (st' := []) rfl ?_
      exact hW _ S
    · have dc4 := c4
      have hW := hW.2 dc4
      refine wp_g (n := 2) (pc' := 26) (L' := [some (.ref 10), some (.int (iI y1))]) (st' := [.int (iI y1), .ref 10]) rfl ?_
      refine wp_cv (As := [.int (iI y1)]) (rest := []) rfl rfl (S.cell 10 (nc rfl)) (by decide) rfl rfl rfl (Nat.le_of_ble_eq_true rfl) (Nat.le_of_ble_eq_true rfl) (hW _ S) (fun r5 H5 q5 => ?_)
      obtain ⟨v5, m5, γ5, t5, rfl, hv5, S, hW⟩ := q5
      show wp _ _ _ _ _ [.int (iI v5)] _ _
      refine wp_g (n := 2) (pc' := 31) (L' := [some (.ref 10), some (.int (iI y1))]) (st' := [.int (iI y1), .ref 10, .int (iI v5)]) rfl ?_
      refine wp_cv (As := [.int (iI y1)]) (rest := [.int (iI v5)]) rfl rfl (S.cell 10 (nc rfl)) (by decide) rfl rfl rfl (Nat.le_of_ble_eq_true rfl) (Nat.le_of_ble_eq_true rfl) (hW _ S) (fun r6 H6 q6 => ?_)
      obtain ⟨v6, m6, γ6, t6, rfl, hv6, S, hW⟩ := q6
      show wp _ _ _ _ _ [.int (iI v6), .int (iI v5)] _ _
      refine wp_icmpI (a := v5) (b := v6) rfl rfl hv5.1 hv5.2 hv6.1 hv6.2 (fun c7 => ?_) (fun c7 => ?_)
      · have dc7 := c7
        have hW := hW.1 dc7
        refine wp_iinc (L' := [some (.ref 10), some (.int (iI (y1 + 1)))]) (a := y1) rfl rfl rfl ?_
        refine wp_g (n := 1) (pc' := 2) (L' := [some (.ref 10), some (.int (iI (y1 + 1)))]) (st' := []) rfl ?_
        exact hW _ S
      · have dc7 := c7
        have hW := hW.2 dc7
        refine wp_g (n := 1) (pc' := 38) (L' := [some (.ref 10), some (.int (iI y1))]) (st' := [.int (iI y1)]) rfl ?_
        exact wp_iret rfl rfl ⟨_, _, _, _, rfl, hy1, S, hW⟩
