abbrev W_X0_size (E : am_E) (k : Nat) (m : MM) (γ : GM) (t : am_H) (Q : Int → MM → GM → am_H → Prop) : Prop := (Q (m 103 2) m γ t)
theorem vc_X0_size {E : am_E} {k : Nat} {m : MM} {γ : GM} {t : am_H} {Q : Int → MM → GM → am_H → Prop} (hW : W_X0_size E k  m γ t Q) : TI E k 1 [.ref 103] m γ t Q := by
  unfold W_X0_size at hW
  intro h S
  refine wp_g (n := 1) (pc' := 1) (L' := [some (.ref 103)]) (st' := [.ref 103]) rfl ?_
  refine wp_getf (v := .int (iI (m 103 2))) rfl rfl (S.cell 103 (nc rfl)) (by decide) rfl ?_
  have hr1 : rJ (m 103 2) := S.rg 103 2 (nl rfl)
  exact wp_iret rfl rfl ⟨_, _, _, _, rfl, hr1, S, hW⟩
abbrev W_X0_keep (E : am_E) (k : Nat) (x1 : Int) (g2 : Nat) (m : MM) (γ : GM) (t : am_H) (Q : MM → GM → am_H → Prop) : Prop := ((((m 103 3) < 0) → (Q m γ t)) ∧ (¬ ((m 103 3) < 0) → ((((m 103 3) < 10) → ((0 ≤ (m 103 3) ∧ (m 103 3) < 10) ∧ ((0 ≤ (m 103 3) ∧ (m 103 3) < 10) ∧ (TV E k 44 [.ref (106 + 4 * ((m 103 3)).toNat), .ref g2] (up m 104 (up (m 104) (((m 103 3)).toNat) x1)) γ t (fun m8 γ8 t8 => (rJ ((m8 103 3) + 1) ∧ (((((m8 103 3) + 1) < 10) → (TI E k 312 [.int (iI 10), .int (iI ((m8 103 2) + 1))] (up m8 103 (up (m8 103) 3 ((m8 103 3) + 1))) γ8 t8 (fun v18 m18 γ18 t18 => (Q (up m18 103 (up (m18 103) 2 v18)) γ18 t18)))) ∧ (¬ (((m8 103 3) + 1) < 10) → (TI E k 312 [.int (iI 10), .int (iI ((m8 103 2) + 1))] (up m8 103 (up (m8 103) 3 0)) γ8 t8 (fun v14 m14 γ14 t14 => (Q (up m14 103 (up (m14 103) 2 v14)) γ14 t14))))))))))) ∧ (¬ ((m 103 3) < 10) → (Q m γ t)))))
theorem vc_X0_keep {E : am_E} {k : Nat} {x1 : Int} {g2 : Nat} {m : MM} {γ : GM} {t : am_H} {Q : MM → GM → am_H → Prop} (hx1 : rJ x1) (hg2 : isg g2) (hW : W_X0_keep E k x1 g2 m γ t Q) : TV E (k + 1) 2 [.ref 103, .int (iI x1), .ref g2] m γ t Q := by
  unfold W_X0_keep at hW
  intro h S
  refine wp_g (n := 1) (pc' := 1) (L' := [some (.ref 103), some (.int (iI x1)), some (.ref g2)]) (st' := [.ref 103]) rfl ?_
  refine wp_getf (v := .int (iI (m 103 3))) rfl rfl (S.cell 103 (nc rfl)) (by decide) rfl ?_
  have hr1 : rJ (m 103 3) := S.rg 103 3 (nl rfl)
  refine wp_ifI (a := (m 103 3)) rfl rfl hr1.1 hr1.2 (fun c2 => ?_) (fun c2 => ?_)
  · have dc2 := c2
    have hW := hW.1 dc2
    exact wp_vret rfl rfl ⟨_, _, _, rfl, S, hW⟩
  · have dc2 := c2
    have hW := hW.2 dc2
    refine wp_g (n := 1) (pc' := 8) (L' := [some (.ref 103), some (.int (iI x1)), some (.ref g2)]) (st' := [.ref 103]) rfl ?_
    refine wp_getf (v := .int (iI (m 103 3))) rfl rfl (S.cell 103 (nc rfl)) (by decide) rfl ?_
    refine wp_g (n := 1) (pc' := 13) (L' := [some (.ref 103), some (.int (iI x1)), some (.ref g2)]) (st' := [.int (iI 10), .int (iI (m 103 3))]) rfl ?_
    refine wp_icmpI (a := (m 103 3)) (b := 10) rfl rfl hr1.1 hr1.2 (by decide) (by decide) (fun c3 => ?_) (fun c3 => ?_)
    · have dc3 := c3
      have hW := hW.1 dc3
      refine wp_g (n := 1) (pc' := 18) (L' := [some (.ref 103), some (.int (iI x1)), some (.ref g2)]) (st' := [.ref 103]) rfl ?_
      refine wp_getf (v := .ref 104) rfl rfl (S.cell 103 (nc rfl)) (by decide) rfl ?_
      refine wp_g (n := 1) (pc' := 22) (L' := [some (.ref 103), some (.int (iI x1)), some (.ref g2)]) (st' := [.ref 103, .ref 104]) rfl ?_
      refine wp_getf (v := .int (iI (m 103 3))) rfl rfl (S.cell 103 (nc rfl)) (by decide) rfl ?_
      refine wp_g (n := 1) (pc' := 26) (L' := [some (.ref 103), some (.int (iI x1)), some (.ref g2)]) (st' := [.int (iI x1), .int (iI (m 103 3)), .ref 104]) rfl ?_
      obtain ⟨p5, hW⟩ := hW
      refine wp_iasF (n := 10) (F := (m 104)) (y := x1) rfl (S.cell 104 (nc rfl)) p5.1 p5.2 (by decide) (fun H4 hl4 hz4 hf4 => ?_)
      have S : ST H4 (up m 104 (up (m 104) (((m 103 3)).toNat) x1)) γ t := S.setI 104 (nc rfl) hl4 hz4 hf4 hx1.1 hx1.2
      refine wp_g (n := 1) (pc' := 28) (L' := [some (.ref 103), some (.int (iI x1)), some (.ref g2)]) (st' := [.ref 103]) rfl ?_
      refine wp_getf (v := .ref 105) rfl rfl (S.cell 103 (nc rfl)) (by decide) rfl ?_
      refine wp_g (n := 1) (pc' := 32) (L' := [some (.ref 103), some (.int (iI x1)), some (.ref g2)]) (st' := [.ref 103, .ref 105]) rfl ?_
      refine wp_getf (v := .int (iI (m 103 3))) rfl rfl (S.cell 103 (nc rfl)) (by decide) rfl ?_
      obtain ⟨p6, hW⟩ := hW
      have hn7 : ((m 103 3)).toNat < 10 := by omega
      refine wp_aald (n := 10) (b := (106 + 4 * ((m 103 3)).toNat)) rfl (S.cell 105 (nc rfl)) p6.1 p6.2 (by decide) (if_pos hn7) ?_
      refine wp_g (n := 1) (pc' := 37) (L' := [some (.ref 103), some (.int (iI x1)), some (.ref g2)]) (st' := [.ref g2, .ref (106 + 4 * ((m 103 3)).toNat)]) rfl ?_
      refine wp_cv (As := [.ref g2]) (rest := []) rfl rfl (S.gg (106 + 4 * ((m 103 3)).toNat) (isg_106 hn7)).obj (isg_lt (isg_106 hn7)) rfl rfl rfl (Nat.le_of_ble_eq_true rfl) (Nat.le_of_ble_eq_true rfl) (hW _ S) (fun r8 H8 q8 => ?_)
      obtain ⟨m8, γ8, t8, rfl, S, hW⟩ := q8
      show wp _ _ _ _ _ [] _ _
      refine wp_g (n := 2) (pc' := 42) (L' := [some (.ref 103), some (.int (iI x1)), some (.ref g2)]) (st' := [.ref 103, .ref 103]) rfl ?_
      refine wp_getf (v := .int (iI (m8 103 3))) rfl rfl (S.cell 103 (nc rfl)) (by decide) rfl ?_
      have hr9 : rJ (m8 103 3) := S.rg 103 3 (nl rfl)
      refine wp_g (n := 1) (pc' := 46) (L' := [some (.ref 103), some (.int (iI x1)), some (.ref g2)]) (st' := [.int (iI 1), .int (iI (m8 103 3)), .ref 103]) rfl ?_
      refine wp_add (a := (m8 103 3)) (b := 1) rfl ?_
      refine wp_g (n := 1) (pc' := 49) (L' := [some (.ref 103), some (.int (iI x1)), some (.ref g2)]) (st' := [.int (iI 10), .int (iI ((m8 103 3) + 1)), .ref 103]) rfl ?_
      obtain ⟨p10, hW⟩ := hW
      refine wp_icmpI (a := ((m8 103 3) + 1)) (b := 10) rfl rfl p10.1 p10.2 (by decide) (by decide) (fun c11 => ?_) (fun c11 => ?_)
      · have dc11 := (Int.not_lt.mpr c11)
        have hW := hW.2 dc11
        refine wp_g (n := 1) (pc' := 62) (L' := [some (.ref 103), some (.int (iI x1)), some (.ref g2)]) (st' := [.int (iI 0), .ref 103]) rfl ?_
        refine wp_putI rfl rfl (S.cell 103 (nc rfl)) (Nat.le_of_ble_eq_true rfl) rfl (fun H12 hl12 hz12 hf12 => ?_)
        have S : ST H12 (up m8 103 (up (m8 103) 3 0)) γ8 t8 := S.setI 103 (nc rfl) hl12 hz12 hf12 (by decide) (by decide)
        refine wp_g (n := 3) (pc' := 69) (L' := [some (.ref 103), some (.int (iI x1)), some (.ref g2)]) (st' := [.ref 103, .int (iI 10), .ref 103]) rfl ?_
        refine wp_getf (v := .int (iI (m8 103 2))) rfl rfl (S.cell 103 (nc rfl)) (by decide) rfl ?_
        have hr13 : rJ (m8 103 2) := S.rg 103 2 (nl rfl)
        refine wp_g (n := 1) (pc' := 73) (L' := [some (.ref 103), some (.int (iI x1)), some (.ref g2)]) (st' := [.int (iI 1), .int (iI (m8 103 2)), .int (iI 10), .ref 103]) rfl ?_
        refine wp_add (a := (m8 103 2)) (b := 1) rfl ?_
        refine wp_cs (As := [.int (iI 10), .int (iI ((m8 103 2) + 1))]) (rest := [.ref 103]) rfl rfl rfl rfl (Nat.le_of_ble_eq_true rfl) (Nat.le_of_ble_eq_true rfl) (hW _ S) (fun r14 H14 q14 => ?_)
        obtain ⟨v14, m14, γ14, t14, rfl, hv14, S, hW⟩ := q14
        show wp _ _ _ _ _ [.int (iI v14), .ref 103] _ _
        refine wp_putI rfl rfl (S.cell 103 (nc rfl)) (Nat.le_of_ble_eq_true rfl) rfl (fun H15 hl15 hz15 hf15 => ?_)
        have S : ST H15 (up m14 103 (up (m14 103) 2 v14)) γ14 t14 := S.setI 103 (nc rfl) hl15 hz15 hf15 hv14.1 hv14.2
        exact wp_vret rfl rfl ⟨_, _, _, rfl, S, hW⟩
      · have dc11 := (Int.not_le.mp c11)
        have hW := hW.1 dc11
        refine wp_g (n := 1) (pc' := 53) (L' := [some (.ref 103), some (.int (iI x1)), some (.ref g2)]) (st' := [.ref 103, .ref 103]) rfl ?_
        refine wp_getf (v := .int (iI (m8 103 3))) rfl rfl (S.cell 103 (nc rfl)) (by decide) rfl ?_
        refine wp_g (n := 1) (pc' := 57) (L' := [some (.ref 103), some (.int (iI x1)), some (.ref g2)]) (st' := [.int (iI 1), .int (iI (m8 103 3)), .ref 103]) rfl ?_
        refine wp_add (a := (m8 103 3)) (b := 1) rfl ?_
        refine wp_g (n := 1) (pc' := 62) (L' := [some (.ref 103), some (.int (iI x1)), some (.ref g2)]) (st' := [.int (iI ((m8 103 3) + 1)), .ref 103]) rfl ?_
        refine wp_putI rfl rfl (S.cell 103 (nc rfl)) (Nat.le_of_ble_eq_true rfl) rfl (fun H16 hl16 hz16 hf16 => ?_)
        have S : ST H16 (up m8 103 (up (m8 103) 3 ((m8 103 3) + 1))) γ8 t8 := S.setI 103 (nc rfl) hl16 hz16 hf16 p10.1 p10.2
        refine wp_g (n := 3) (pc' := 69) (L' := [some (.ref 103), some (.int (iI x1)), some (.ref g2)]) (st' := [.ref 103, .int (iI 10), .ref 103]) rfl ?_
        refine wp_getf (v := .int (iI (m8 103 2))) rfl rfl (S.cell 103 (nc rfl)) (by decide) rfl ?_
        have hr17 : rJ (m8 103 2) := S.rg 103 2 (nl rfl)
        refine wp_g (n := 1) (pc' := 73) (L' := [some (.ref 103), some (.int (iI x1)), some (.ref g2)]) (st' := [.int (iI 1), .int (iI (m8 103 2)), .int (iI 10), .ref 103]) rfl ?_
        refine wp_add (a := (m8 103 2)) (b := 1) rfl ?_
        refine wp_cs (As := [.int (iI 10), .int (iI ((m8 103 2) + 1))]) (rest := [.ref 103]) rfl rfl rfl rfl (Nat.le_of_ble_eq_true rfl) (Nat.le_of_ble_eq_true rfl) (hW _ S) (fun r18 H18 q18 => ?_)
        obtain ⟨v18, m18, γ18, t18, rfl, hv18, S, hW⟩ := q18
        show wp _ _ _ _ _ [.int (iI v18), .ref 103] _ _
        refine wp_putI rfl rfl (S.cell 103 (nc rfl)) (Nat.le_of_ble_eq_true rfl) rfl (fun H19 hl19 hz19 hf19 => ?_)
        have S : ST H19 (up m18 103 (up (m18 103) 2 v18)) γ18 t18 := S.setI 103 (nc rfl) hl19 hz19 hf19 hv18.1 hv18.2
        exact wp_vret rfl rfl ⟨_, _, _, rfl, S, hW⟩
    · have dc3 := c3
      have hW := hW.2 dc3
      exact wp_vret rfl rfl ⟨_, _, _, rfl, S, hW⟩
abbrev W_X0_latestSlot (E : am_E) (k : Nat) (m : MM) (γ : GM) (t : am_H) (Q : Int → MM → GM → am_H → Prop) : Prop := ((((m 103 2) ≤ 0) → (Q (-1) m γ t)) ∧ (¬ ((m 103 2) ≤ 0) → (TI E k 5 [.ref 103] m γ t (fun v3 m3 γ3 t3 => (TI E k 182 [.ref 104, .int (iI v3)] m3 γ3 t3 (fun v4 m4 γ4 t4 => (Q v4 m4 γ4 t4)))))))
theorem vc_X0_latestSlot {E : am_E} {k : Nat} {m : MM} {γ : GM} {t : am_H} {Q : Int → MM → GM → am_H → Prop} (hW : W_X0_latestSlot E k  m γ t Q) : TI E (k + 1) 3 [.ref 103] m γ t Q := by
  unfold W_X0_latestSlot at hW
  intro h S
  refine wp_g (n := 1) (pc' := 1) (L' := [some (.ref 103)]) (st' := [.ref 103]) rfl ?_
  refine wp_getf (v := .int (iI (m 103 2))) rfl rfl (S.cell 103 (nc rfl)) (by decide) rfl ?_
  have hr1 : rJ (m 103 2) := S.rg 103 2 (nl rfl)
  refine wp_ifI (a := (m 103 2)) rfl rfl hr1.1 hr1.2 (fun c2 => ?_) (fun c2 => ?_)
  · have dc2 := c2
    have hW := hW.1 dc2
    refine wp_g (n := 1) (pc' := 22) (L' := [some (.ref 103)]) (st' := [.int (iI (-1))]) rfl ?_
    exact wp_iret rfl rfl ⟨_, _, _, _, rfl, (by decide), S, hW⟩
  · have dc2 := c2
    have hW := hW.2 dc2
    refine wp_g (n := 1) (pc' := 8) (L' := [some (.ref 103)]) (st' := [.ref 103]) rfl ?_
    refine wp_getf (v := .ref 104) rfl rfl (S.cell 103 (nc rfl)) (by decide) rfl ?_
    refine wp_g (n := 1) (pc' := 12) (L' := [some (.ref 103)]) (st' := [.ref 103, .ref 104]) rfl ?_
    refine wp_cv (As := []) (rest := [.ref 104]) rfl rfl (S.cell 103 (nc rfl)) (by decide) rfl rfl rfl (Nat.le_of_ble_eq_true rfl) (Nat.le_of_ble_eq_true rfl) (hW _ S) (fun r3 H3 q3 => ?_)
    obtain ⟨v3, m3, γ3, t3, rfl, hv3, S, hW⟩ := q3
    show wp _ _ _ _ _ [.int (iI v3), .ref 104] _ _
    refine wp_cs (As := [.ref 104, .int (iI v3)]) (rest := []) rfl rfl rfl rfl (Nat.le_of_ble_eq_true rfl) (Nat.le_of_ble_eq_true rfl) (hW _ S) (fun r4 H4 q4 => ?_)
    obtain ⟨v4, m4, γ4, t4, rfl, hv4, S, hW⟩ := q4
    show wp _ _ _ _ _ [.int (iI v4)] _ _
    refine wp_g (n := 1) (pc' := 22) (L' := [some (.ref 103)]) (st' := [.int (iI v4)]) rfl ?_
    exact wp_iret rfl rfl ⟨_, _, _, _, rfl, hv4, S, hW⟩
abbrev W_X0_takeBack (E : am_E) (k : Nat) (g1 : Nat) (m : MM) (γ : GM) (t : am_H) (Q : MM → GM → am_H → Prop) : Prop := (TI E k 5 [.ref 103] m γ t (fun v1 m1 γ1 t1 => ((((m1 103 2) ≤ 0) → (Q m1 γ1 t1)) ∧ (¬ ((m1 103 2) ≤ 0) → (((v1 < 0) → (Q m1 γ1 t1)) ∧ (¬ (v1 < 0) → (((v1 < 10) → ((0 ≤ v1 ∧ v1 < 10) ∧ (TV E k 44 [.ref g1, .ref (106 + 4 * (v1).toNat)] m1 γ1 t1 (fun m8 γ8 t8 => (rJ ((m8 103 2) - 1) ∧ (Q (up (up m8 103 (up (m8 103) 3 v1)) 103 (up (up (m8 103) 3 v1) 2 ((m8 103 2) - 1))) γ8 t8)))))) ∧ (¬ (v1 < 10) → (Q m1 γ1 t1)))))))))
theorem vc_X0_takeBack {E : am_E} {k : Nat} {g1 : Nat} {m : MM} {γ : GM} {t : am_H} {Q : MM → GM → am_H → Prop} (hg1 : isg g1) (hW : W_X0_takeBack E k g1 m γ t Q) : TV E (k + 1) 4 [.ref 103, .ref g1] m γ t Q := by
  unfold W_X0_takeBack at hW
  intro h S
  refine wp_g (n := 1) (pc' := 1) (L' := [some (.ref 103), some (.ref g1), none]) (st' := [.ref 103]) rfl ?_
  refine wp_cv (As := []) (rest := []) rfl rfl (S.cell 103 (nc rfl)) (by decide) rfl rfl rfl (Nat.le_of_ble_eq_true rfl) (Nat.le_of_ble_eq_true rfl) (hW _ S) (fun r1 H1 q1 => ?_)
  obtain ⟨v1, m1, γ1, t1, rfl, hv1, S, hW⟩ := q1
  show wp _ _ _ _ _ [.int (iI v1)] _ _
  refine wp_g (n := 2) (pc' := 6) (L' := [some (.ref 103), some (.ref g1), some (.int (iI v1))]) (st' := [.ref 103]) rfl ?_
  refine wp_getf (v := .int (iI (m1 103 2))) rfl rfl (S.cell 103 (nc rfl)) (by decide) rfl ?_
  have hr2 : rJ (m1 103 2) := S.rg 103 2 (nl rfl)
  refine wp_ifI (a := (m1 103 2)) rfl rfl hr2.1 hr2.2 (fun c3 => ?_) (fun c3 => ?_)
  · have dc3 := c3
    have hW := hW.1 dc3
    exact wp_vret rfl rfl ⟨_, _, _, rfl, S, hW⟩
  · have dc3 := c3
    have hW := hW.2 dc3
    refine wp_g (n := 1) (pc' := 13) (L' := [some (.ref 103), some (.ref g1), some (.int (iI v1))]) (st' := [.int (iI v1)]) rfl ?_
    refine wp_ifI (a := v1) rfl rfl hv1.1 hv1.2 (fun c4 => ?_) (fun c4 => ?_)
    · have dc4 := c4
      have hW := hW.1 dc4
      exact wp_vret rfl rfl ⟨_, _, _, rfl, S, hW⟩
    · have dc4 := c4
      have hW := hW.2 dc4
      refine wp_g (n := 2) (pc' := 19) (L' := [some (.ref 103), some (.ref g1), some (.int (iI v1))]) (st' := [.int (iI 10), .int (iI v1)]) rfl ?_
      refine wp_icmpI (a := v1) (b := 10) rfl rfl hv1.1 hv1.2 (by decide) (by decide) (fun c5 => ?_) (fun c5 => ?_)
      · have dc5 := (Int.not_lt.mpr c5)
        have hW := hW.2 dc5
        exact wp_vret rfl rfl ⟨_, _, _, rfl, S, hW⟩
      · have dc5 := (Int.not_le.mp c5)
        have hW := hW.1 dc5
        refine wp_g (n := 2) (pc' := 24) (L' := [some (.ref 103), some (.ref g1), some (.int (iI v1))]) (st' := [.ref 103, .ref g1]) rfl ?_
        refine wp_getf (v := .ref 105) rfl rfl (S.cell 103 (nc rfl)) (by decide) rfl ?_
        refine wp_g (n := 1) (pc' := 28) (L' := [some (.ref 103), some (.ref g1), some (.int (iI v1))]) (st' := [.int (iI v1), .ref 105, .ref g1]) rfl ?_
        obtain ⟨p6, hW⟩ := hW
        have hn7 : (v1).toNat < 10 := by omega
        refine wp_aald (n := 10) (b := (106 + 4 * (v1).toNat)) rfl (S.cell 105 (nc rfl)) p6.1 p6.2 (by decide) (if_pos hn7) ?_
        refine wp_cv (As := [.ref (106 + 4 * (v1).toNat)]) (rest := []) rfl rfl (S.gg g1 hg1).obj (isg_lt hg1) rfl rfl rfl (Nat.le_of_ble_eq_true rfl) (Nat.le_of_ble_eq_true rfl) (hW _ S) (fun r8 H8 q8 => ?_)
        obtain ⟨m8, γ8, t8, rfl, S, hW⟩ := q8
        show wp _ _ _ _ _ [] _ _
        refine wp_g (n := 2) (pc' := 34) (L' := [some (.ref 103), some (.ref g1), some (.int (iI v1))]) (st' := [.int (iI v1), .ref 103]) rfl ?_
        refine wp_putI rfl rfl (S.cell 103 (nc rfl)) (Nat.le_of_ble_eq_true rfl) rfl (fun H9 hl9 hz9 hf9 => ?_)
        have S : ST H9 (up m8 103 (up (m8 103) 3 v1)) γ8 t8 := S.setI 103 (nc rfl) hl9 hz9 hf9 hv1.1 hv1.2
        refine wp_g (n := 2) (pc' := 39) (L' := [some (.ref 103), some (.ref g1), some (.int (iI v1))]) (st' := [.ref 103, .ref 103]) rfl ?_
        refine wp_getf (v := .int (iI (m8 103 2))) rfl rfl (S.cell 103 (nc rfl)) (by decide) rfl ?_
        have hr10 : rJ (m8 103 2) := S.rg 103 2 (nl rfl)
        refine wp_g (n := 1) (pc' := 43) (L' := [some (.ref 103), some (.ref g1), some (.int (iI v1))]) (st' := [.int (iI 1), .int (iI (m8 103 2)), .ref 103]) rfl ?_
        refine wp_sub (a := (m8 103 2)) (b := 1) rfl ?_
        obtain ⟨p12, hW⟩ := hW
        refine wp_putI rfl rfl (S.cell 103 (nc rfl)) (Nat.le_of_ble_eq_true rfl) rfl (fun H11 hl11 hz11 hf11 => ?_)
        have S : ST H11 (up (up m8 103 (up (m8 103) 3 v1)) 103 (up (up (m8 103) 3 v1) 2 ((m8 103 2) - 1))) γ8 t8 := S.setI 103 (nc rfl) hl11 hz11 hf11 p12.1 p12.2
        exact wp_vret rfl rfl ⟨_, _, _, rfl, S, hW⟩
abbrev W_X0_latest (E : am_E) (k : Nat) (m : MM) (γ : GM) (t : am_H) (Q : Int → MM → GM → am_H → Prop) : Prop := ((((m 103 3) ≤ 0) → (Q 9 m γ t)) ∧ (¬ ((m 103 3) ≤ 0) → (rJ ((m 103 3) - 1) ∧ (Q ((m 103 3) - 1) m γ t))))
theorem vc_X0_latest {E : am_E} {k : Nat} {m : MM} {γ : GM} {t : am_H} {Q : Int → MM → GM → am_H → Prop} (hW : W_X0_latest E k  m γ t Q) : TI E k 5 [.ref 103] m γ t Q := by
  unfold W_X0_latest at hW
  intro h S
  refine wp_g (n := 1) (pc' := 1) (L' := [some (.ref 103)]) (st' := [.ref 103]) rfl ?_
  refine wp_getf (v := .int (iI (m 103 3))) rfl rfl (S.cell 103 (nc rfl)) (by decide) rfl ?_
  have hr1 : rJ (m 103 3) := S.rg 103 3 (nl rfl)
  refine wp_ifI (a := (m 103 3)) rfl rfl hr1.1 hr1.2 (fun c2 => ?_) (fun c2 => ?_)
  · have dc2 := c2
    have hW := hW.1 dc2
    refine wp_g (n := 1) (pc' := 18) (L' := [some (.ref 103)]) (st' := [.int (iI 9)]) rfl ?_
    exact wp_iret rfl rfl ⟨_, _, _, _, rfl, (by decide), S, hW⟩
  · have dc2 := c2
    have hW := hW.2 dc2
    refine wp_g (n := 1) (pc' := 8) (L' := [some (.ref 103)]) (st' := [.ref 103]) rfl ?_
    refine wp_getf (v := .int (iI (m 103 3))) rfl rfl (S.cell 103 (nc rfl)) (by decide) rfl ?_
    refine wp_g (n := 1) (pc' := 12) (L' := [some (.ref 103)]) (st' := [.int (iI 1), .int (iI (m 103 3))]) rfl ?_
    refine wp_sub (a := (m 103 3)) (b := 1) rfl ?_
    refine wp_g (n := 1) (pc' := 18) (L' := [some (.ref 103)]) (st' := [.int (iI ((m 103 3) - 1))]) rfl ?_
    obtain ⟨p3, hW⟩ := hW
    exact wp_iret rfl rfl ⟨_, _, _, _, rfl, p3, S, hW⟩
def hd_X1_freedom_15 (E : am_E) (k : Nat) (x2 : Int) (y2 : Int) (y3 : Int) (m : MM) (γ : GM) (t : am_H) (Q : Int → MM → GM → am_H → Prop) : Prop := TT (pI Q) E (k + 1) 7 15 [some (.ref 51), some (.ref 10), some (.int (iI y2)), some (.int (iI y3))] [] m γ t
def hd_X1_freedom_42 (E : am_E) (k : Nat) (x2 : Int) (y2 : Int) (y3 : Int) (m : MM) (γ : GM) (t : am_H) (Q : Int → MM → GM → am_H → Prop) : Prop := TT (pI Q) E (k + 1) 7 42 [some (.ref 51), some (.ref 10), some (.int (iI y2)), some (.int (iI y3))] [] m γ t
abbrev W_X1_freedom (E : am_E) (k : Nat) (x2 : Int) (m : MM) (γ : GM) (t : am_H) (Q : Int → MM → GM → am_H → Prop) : Prop := (TV E k 320 [.ref 77, .int (iI (-1))] (up m 51 (up (m 51) 2 0)) γ t (fun m2 γ2 t2 => (hd_X1_freedom_15 E k x2 x2 0 m2 γ2 t2 Q)))
abbrev W_X1_freedom_15 (E : am_E) (k : Nat) (x2 : Int) (y2 : Int) (y3 : Int) (m : MM) (γ : GM) (t : am_H) (Q : Int → MM → GM → am_H → Prop) : Prop := (TI E k 99 [.ref 10] m γ t (fun v1 m1 γ1 t1 => (((y3 < v1) → (TV E k 8 [.ref 51, .ref 10, .int (iI y3)] m1 γ1 t1 (fun m4 γ4 t4 => (hd_X1_freedom_15 E k x2 y2 (y3 + 1) m4 γ4 t4 Q)))) ∧ (¬ (y3 < v1) → (hd_X1_freedom_42 E k x2 y2 0 (up m1 51 (up (m1 51) 1 0)) γ1 t1 Q)))))
abbrev W_X1_freedom_42 (E : am_E) (k : Nat) (x2 : Int) (y2 : Int) (y3 : Int) (m : MM) (γ : GM) (t : am_H) (Q : Int → MM → GM → am_H → Prop) : Prop := (TI E k 113 [.ref 10] m γ t (fun v1 m1 γ1 t1 => (((y3 < v1) → (((y3 < 24) → (TI E k 182 [.ref 77, .int (iI y3)] m1 γ1 t1 (fun v10 m10 γ10 t10 => (((v10 = (-1)) → (hd_X1_freedom_42 E k x2 y2 (y3 + 1) m10 γ10 t10 Q)) ∧ (¬ (v10 = (-1)) → ((((m10 51 1) < 24) → ((0 ≤ (m10 51 1) ∧ (m10 51 1) < 24) ∧ (TV E k 320 [.ref (53 + ((m10 51 1)).toNat), .int (iI 0)] m10 γ10 t10 (fun m16 γ16 t16 => (TI E k 182 [.ref 77, .int (iI y3)] m16 γ16 t16 (fun v17 m17 γ17 t17 => (TV E k 9 [.ref 51, .int (iI v17), .int (iI 2)] m17 γ17 t17 (fun m18 γ18 t18 => (TI E k 182 [.ref 78, .int (iI y3)] m18 γ18 t18 (fun v19 m19 γ19 t19 => (TV E k 9 [.ref 51, .int (iI v19), .int (iI (-1))] m19 γ19 t19 (fun m20 γ20 t20 => (TI E k 182 [.ref 79, .int (iI y3)] m20 γ20 t20 (fun v21 m21 γ21 t21 => (TV E k 9 [.ref 51, .int (iI v21), .int (iI (-1))] m21 γ21 t21 (fun m22 γ22 t22 => (rJ ((m22 51 1) + 1) ∧ (hd_X1_freedom_42 E k x2 y2 (y3 + 1) (up m22 51 (up (m22 51) 1 ((m22 51 1) + 1))) γ22 t22 Q)))))))))))))))))) ∧ (¬ ((m10 51 1) < 24) → (hd_X1_freedom_42 E k x2 y2 (y3 + 1) m10 γ10 t10 Q)))))))) ∧ (¬ (y3 < 24) → (TI E k 10 [.ref 51, .int (iI y2)] m1 γ1 t1 (fun v8 m8 γ8 t8 => (rJ ((m1 51 2) - v8) ∧ (Q ((m1 51 2) - v8) m8 γ8 t8))))))) ∧ (¬ (y3 < v1) → (TI E k 10 [.ref 51, .int (iI y2)] m1 γ1 t1 (fun v4 m4 γ4 t4 => (rJ ((m1 51 2) - v4) ∧ (Q ((m1 51 2) - v4) m4 γ4 t4))))))))
theorem vc_X1_freedom {E : am_E} {k : Nat} {x2 : Int} {m : MM} {γ : GM} {t : am_H} {Q : Int → MM → GM → am_H → Prop} (hx2 : rJ x2) (hW : W_X1_freedom E k x2 m γ t Q) : TI E (k + 1) 7 [.ref 51, .ref 10, .int (iI x2)] m γ t Q := by
  unfold W_X1_freedom at hW
  intro h S
  refine wp_g (n := 2) (pc' := 2) (L' := [some (.ref 51), some (.ref 10), some (.int (iI x2)), none]) (st' := [.int (iI 0), .ref 51]) rfl ?_
  refine wp_putI rfl rfl (S.cell 51 (nc rfl)) (Nat.le_of_ble_eq_true rfl) rfl (fun H1 hl1 hz1 hf1 => ?_)
  have S : ST H1 (up m 51 (up (m 51) 2 0)) γ t := S.setI 51 (nc rfl) hl1 hz1 hf1 (by decide) (by decide)
  refine wp_g (n := 1) (pc' := 6) (L' := [some (.ref 51), some (.ref 10), some (.int (iI x2)), none]) (st' := [.ref 51]) rfl ?_
  refine wp_getf (v := .ref 77) rfl rfl (S.cell 51 (nc rfl)) (by decide) rfl ?_
  refine wp_g (n := 1) (pc' := 10) (L' := [some (.ref 51), some (.ref 10), some (.int (iI x2)), none]) (st' := [.int (iI (-1)), .ref 77]) rfl ?_
  refine wp_cs (As := [.ref 77, .int (iI (-1))]) (rest := []) rfl rfl rfl rfl (Nat.le_of_ble_eq_true rfl) (Nat.le_of_ble_eq_true rfl) (hW _ S) (fun r2 H2 q2 => ?_)
  obtain ⟨m2, γ2, t2, rfl, S, hW⟩ := q2
  show wp _ _ _ _ _ [] _ _
  refine wp_g (n := 2) (pc' := 15) (L' := [some (.ref 51), some (.ref 10), some (.int (iI x2)), some (.int (iI 0))]) (st' := []) rfl ?_
  exact hW _ S
theorem vc_X1_freedom_15 {E : am_E} {k : Nat} {x2 : Int} {y2 : Int} {y3 : Int} {m : MM} {γ : GM} {t : am_H} {Q : Int → MM → GM → am_H → Prop} (hx2 : rJ x2) (hy2 : rJ y2) (hy3 : rJ y3) (hW : W_X1_freedom_15 E k x2 y2 y3 m γ t Q) : hd_X1_freedom_15 E k x2 y2 y3 m γ t Q := by
  unfold W_X1_freedom_15 at hW
  intro h S
  refine wp_g (n := 2) (pc' := 17) (L' := [some (.ref 51), some (.ref 10), some (.int (iI y2)), some (.int (iI y3))]) (st' := [.ref 10, .int (iI y3)]) rfl ?_
  refine wp_cv (As := []) (rest := [.int (iI y3)]) rfl rfl (S.cell 10 (nc rfl)) (by decide) rfl rfl rfl (Nat.le_of_ble_eq_true rfl) (Nat.le_of_ble_eq_true rfl) (hW _ S) (fun r1 H1 q1 => ?_)
  obtain ⟨v1, m1, γ1, t1, rfl, hv1, S, hW⟩ := q1
  show wp _ _ _ _ _ [.int (iI v1), .int (iI y3)] _ _
  refine wp_icmpI (a := y3) (b := v1) rfl rfl hy3.1 hy3.2 hv1.1 hv1.2 (fun c2 => ?_) (fun c2 => ?_)
  · have dc2 := (Int.not_lt.mpr c2)
    have hW := hW.2 dc2
    refine wp_g (n := 2) (pc' := 37) (L' := [some (.ref 51), some (.ref 10), some (.int (iI y2)), some (.int (iI y3))]) (st' := [.int (iI 0), .ref 51]) rfl ?_
    refine wp_putI rfl rfl (S.cell 51 (nc rfl)) (Nat.le_of_ble_eq_true rfl) rfl (fun H3 hl3 hz3 hf3 => ?_)
    have S : ST H3 (up m1 51 (up (m1 51) 1 0)) γ1 t1 := S.setI 51 (nc rfl) hl3 hz3 hf3 (by decide) (by decide)
    refine wp_g (n := 2) (pc' := 42) (L' := [some (.ref 51), some (.ref 10), some (.int (iI y2)), some (.int (iI 0))]) (st' := []) rfl ?_
    exact hW _ S
  · have dc2 := (Int.not_le.mp c2)
    have hW := hW.1 dc2
    refine wp_g (n := 3) (pc' := 26) (L' := [some (.ref 51), some (.ref 10), some (.int (iI y2)), some (.int (iI y3))]) (st' := [.int (iI y3), .ref 10, .ref 51]) rfl ?_
    refine wp_cv (As := [.ref 10, .int (iI y3)]) (rest := []) rfl rfl (S.cell 51 (nc rfl)) (by decide) rfl rfl rfl (Nat.le_of_ble_eq_true rfl) (Nat.le_of_ble_eq_true rfl) (hW _ S) (fun r4 H4 q4 => ?_)
    obtain ⟨m4, γ4, t4, rfl, S, hW⟩ := q4
    show wp _ _ _ _ _ [] _ _
    refine wp_iinc (L' := [some (.ref 51), some (.ref 10), some (.int (iI y2)), some (.int (iI (y3 + 1)))]) (a := y3) rfl rfl rfl ?_
    refine wp_g (n := 1) (pc' := 15) (L' := [some (.ref 51), some (.ref 10), some (.int (iI y2)), some (.int (iI (y3 + 1)))]) (st' := []) rfl ?_
    exact hW _ S
theorem vc_X1_freedom_42 {E : am_E} {k : Nat} {x2 : Int} {y2 : Int} {y3 : Int} {m : MM} {γ : GM} {t : am_H} {Q : Int → MM → GM → am_H → Prop} (hx2 : rJ x2) (hy2 : rJ y2) (hy3 : rJ y3) (hW : W_X1_freedom_42 E k x2 y2 y3 m γ t Q) : hd_X1_freedom_42 E k x2 y2 y3 m γ t Q := by
  unfold W_X1_freedom_42 at hW
  intro h S
  refine wp_g (n := 2) (pc' := 44) (L' := [some (.ref 51), some (.ref 10), some (.int (iI y2)), some (.int (iI y3))]) (st' := [.ref 10, .int (iI y3)]) rfl ?_
  refine wp_cv (As := []) (rest := [.int (iI y3)]) rfl rfl (S.cell 10 (nc rfl)) (by decide) rfl rfl rfl (Nat.le_of_ble_eq_true rfl) (Nat.le_of_ble_eq_true rfl) (hW _ S) (fun r1 H1 q1 => ?_)
  obtain ⟨v1, m1, γ1, t1, rfl, hv1, S, hW⟩ := q1
  show wp _ _ _ _ _ [.int (iI v1), .int (iI y3)] _ _
  refine wp_icmpI (a := y3) (b := v1) rfl rfl hy3.1 hy3.2 hv1.1 hv1.2 (fun c2 => ?_) (fun c2 => ?_)
  · have dc2 := (Int.not_lt.mpr c2)
    have hW := hW.2 dc2
    refine wp_g (n := 1) (pc' := 146) (L' := [some (.ref 51), some (.ref 10), some (.int (iI y2)), some (.int (iI y3))]) (st' := [.ref 51]) rfl ?_
    refine wp_getf (v := .int (iI (m1 51 2))) rfl rfl (S.cell 51 (nc rfl)) (by decide) rfl ?_
    have hr3 : rJ (m1 51 2) := S.rg 51 2 (nl rfl)
    refine wp_g (n := 2) (pc' := 151) (L' := [some (.ref 51), some (.ref 10), some (.int (iI y2)), some (.int (iI y3))]) (st' := [.int (iI y2), .ref 51, .int (iI (m1 51 2))]) rfl ?_
    refine wp_cv (As := [.int (iI y2)]) (rest := [.int (iI (m1 51 2))]) rfl rfl (S.cell 51 (nc rfl)) (by decide) rfl rfl rfl (Nat.le_of_ble_eq_true rfl) (Nat.le_of_ble_eq_true rfl) (hW _ S) (fun r4 H4 q4 => ?_)
    obtain ⟨v4, m4, γ4, t4, rfl, hv4, S, hW⟩ := q4
    show wp _ _ _ _ _ [.int (iI v4), .int (iI (m1 51 2))] _ _
    refine wp_sub (a := (m1 51 2)) (b := v4) rfl ?_
    obtain ⟨p5, hW⟩ := hW
    exact wp_iret rfl rfl ⟨_, _, _, _, rfl, p5, S, hW⟩
  · have dc2 := (Int.not_le.mp c2)
    have hW := hW.1 dc2
    refine wp_g (n := 2) (pc' := 53) (L' := [some (.ref 51), some (.ref 10), some (.int (iI y2)), some (.int (iI y3))]) (st' := [.int (iI 24), .int (iI y3)]) rfl ?_
    refine wp_icmpI (a := y3) (b := 24) rfl rfl hy3.1 hy3.2 (by decide) (by decide) (fun c6 => ?_) (fun c6 => ?_)
    · have dc6 := (Int.not_lt.mpr c6)
      have hW := hW.2 dc6
      refine wp_g (n := 1) (pc' := 146) (L' := [some (.ref 51), some (.ref 10), some (.int (iI y2)), some (.int (iI y3))]) (st' := [.ref 51]) rfl ?_
      refine wp_getf (v := .int (iI (m1 51 2))) rfl rfl (S.cell 51 (nc rfl)) (by decide) rfl ?_
      have hr7 : rJ (m1 51 2) := S.rg 51 2 (nl rfl)
      refine wp_g (n := 2) (pc' := 151) (L' := [some (.ref 51), some (.ref 10), some (.int (iI y2)), some (.int (iI y3))]) (st' := [.int (iI y2), .ref 51, .int (iI (m1 51 2))]) rfl ?_
      refine wp_cv (As := [.int (iI y2)]) (rest := [.int (iI (m1 51 2))]) rfl rfl (S.cell 51 (nc rfl)) (by decide) rfl rfl rfl (Nat.le_of_ble_eq_true rfl) (Nat.le_of_ble_eq_true rfl) (hW _ S) (fun r8 H8 q8 => ?_)
      obtain ⟨v8, m8, γ8, t8, rfl, hv8, S, hW⟩ := q8
      show wp _ _ _ _ _ [.int (iI v8), .int (iI (m1 51 2))] _ _
      refine wp_sub (a := (m1 51 2)) (b := v8) rfl ?_
      obtain ⟨p9, hW⟩ := hW
      exact wp_iret rfl rfl ⟨_, _, _, _, rfl, p9, S, hW⟩
    · have dc6 := (Int.not_le.mp c6)
      have hW := hW.1 dc6
      refine wp_g (n := 1) (pc' := 57) (L' := [some (.ref 51), some (.ref 10), some (.int (iI y2)), some (.int (iI y3))]) (st' := [.ref 51]) rfl ?_
      refine wp_getf (v := .ref 77) rfl rfl (S.cell 51 (nc rfl)) (by decide) rfl ?_
      refine wp_g (n := 1) (pc' := 61) (L' := [some (.ref 51), some (.ref 10), some (.int (iI y2)), some (.int (iI y3))]) (st' := [.int (iI y3), .ref 77]) rfl ?_
      refine wp_cs (As := [.ref 77, .int (iI y3)]) (rest := []) rfl rfl rfl rfl (Nat.le_of_ble_eq_true rfl) (Nat.le_of_ble_eq_true rfl) (hW _ S) (fun r10 H10 q10 => ?_)
      obtain ⟨v10, m10, γ10, t10, rfl, hv10, S, hW⟩ := q10
      show wp _ _ _ _ _ [.int (iI v10)] _ _
      refine wp_g (n := 1) (pc' := 65) (L' := [some (.ref 51), some (.ref 10), some (.int (iI y2)), some (.int (iI y3))]) (st' := [.int (iI (-1)), .int (iI v10)]) rfl ?_
      refine wp_icmpI (a := v10) (b := (-1)) rfl rfl hv10.1 hv10.2 (by decide) (by decide) (fun c11 => ?_) (fun c11 => ?_)
      · have dc11 := c11
        have hW := hW.1 dc11
        refine wp_iinc (L' := [some (.ref 51), some (.ref 10), some (.int (iI y2)), some (.int (iI (y3 + 1)))]) (a := y3) rfl rfl rfl ?_
        refine wp_g (n := 1) (pc' := 42) (L' := [some (.ref 51), some (.ref 10), some (.int (iI y2)), some (.int (iI (y3 + 1)))]) (st' := []) rfl ?_
        exact hW _ S
      · have dc11 := c11
        have hW := hW.2 dc11
        refine wp_g (n := 1) (pc' := 69) (L' := [some (.ref 51), some (.ref 10), some (.int (iI y2)), some (.int (iI y3))]) (st' := [.ref 51]) rfl ?_
        refine wp_getf (v := .int (iI (m10 51 1))) rfl rfl (S.cell 51 (nc rfl)) (by decide) rfl ?_
        have hr12 : rJ (m10 51 1) := S.rg 51 1 (nl rfl)
        refine wp_g (n := 1) (pc' := 74) (L' := [some (.ref 51), some (.ref 10), some (.int (iI y2)), some (.int (iI y3))]) (st' := [.int (iI 24), .int (iI (m10 51 1))]) rfl ?_
        refine wp_icmpI (a := (m10 51 1)) (b := 24) rfl rfl hr12.1 hr12.2 (by decide) (by decide) (fun c13 => ?_) (fun c13 => ?_)
        · have dc13 := (Int.not_lt.mpr c13)
          have hW := hW.2 dc13
          refine wp_iinc (L' := [some (.ref 51), some (.ref 10), some (.int (iI y2)), some (.int (iI (y3 + 1)))]) (a := y3) rfl rfl rfl ?_
          refine wp_g (n := 1) (pc' := 42) (L' := [some (.ref 51), some (.ref 10), some (.int (iI y2)), some (.int (iI (y3 + 1)))]) (st' := []) rfl ?_
          exact hW _ S
        · have dc13 := (Int.not_le.mp c13)
          have hW := hW.1 dc13
          refine wp_g (n := 1) (pc' := 78) (L' := [some (.ref 51), some (.ref 10), some (.int (iI y2)), some (.int (iI y3))]) (st' := [.ref 51]) rfl ?_
          refine wp_getf (v := .ref 52) rfl rfl (S.cell 51 (nc rfl)) (by decide) rfl ?_
          refine wp_g (n := 1) (pc' := 82) (L' := [some (.ref 51), some (.ref 10), some (.int (iI y2)), some (.int (iI y3))]) (st' := [.ref 51, .ref 52]) rfl ?_
          refine wp_getf (v := .int (iI (m10 51 1))) rfl rfl (S.cell 51 (nc rfl)) (by decide) rfl ?_
          obtain ⟨p14, hW⟩ := hW
          have hn15 : ((m10 51 1)).toNat < 24 := by omega
          refine wp_rald (n := 24) (b := (53 + ((m10 51 1)).toNat)) rfl (S.cell 52 (nc rfl)) p14.1 p14.2 (by decide) (if_pos hn15) ?_
          refine wp_g (n := 1) (pc' := 87) (L' := [some (.ref 51), some (.ref 10), some (.int (iI y2)), some (.int (iI y3))]) (st' := [.int (iI 0), .ref (53 + ((m10 51 1)).toNat)]) rfl ?_
          refine wp_cs (As := [.ref (53 + ((m10 51 1)).toNat), .int (iI 0)]) (rest := []) rfl rfl rfl rfl (Nat.le_of_ble_eq_true rfl) (Nat.le_of_ble_eq_true rfl) (hW _ S) (fun r16 H16 q16 => ?_)
          obtain ⟨m16, γ16, t16, rfl, S, hW⟩ := q16
          show wp _ _ _ _ _ [] _ _
          refine wp_g (n := 2) (pc' := 92) (L' := [some (.ref 51), some (.ref 10), some (.int (iI y2)), some (.int (iI y3))]) (st' := [.ref 51, .ref 51]) rfl ?_
          refine wp_getf (v := .ref 77) rfl rfl (S.cell 51 (nc rfl)) (by decide) rfl ?_
          refine wp_g (n := 1) (pc' := 96) (L' := [some (.ref 51), some (.ref 10), some (.int (iI y2)), some (.int (iI y3))]) (st' := [.int (iI y3), .ref 77, .ref 51]) rfl ?_
          refine wp_cs (As := [.ref 77, .int (iI y3)]) (rest := [.ref 51]) rfl rfl rfl rfl (Nat.le_of_ble_eq_true rfl) (Nat.le_of_ble_eq_true rfl) (hW _ S) (fun r17 H17 q17 => ?_)
          obtain ⟨v17, m17, γ17, t17, rfl, hv17, S, hW⟩ := q17
          show wp _ _ _ _ _ [.int (iI v17), .ref 51] _ _
          refine wp_g (n := 1) (pc' := 100) (L' := [some (.ref 51), some (.ref 10), some (.int (iI y2)), some (.int (iI y3))]) (st' := [.int (iI 2), .int (iI v17), .ref 51]) rfl ?_
          refine wp_cv (As := [.int (iI v17), .int (iI 2)]) (rest := []) rfl rfl (S.cell 51 (nc rfl)) (by decide) rfl rfl rfl (Nat.le_of_ble_eq_true rfl) (Nat.le_of_ble_eq_true rfl) (hW _ S) (fun r18 H18 q18 => ?_)
          obtain ⟨m18, γ18, t18, rfl, S, hW⟩ := q18
          show wp _ _ _ _ _ [] _ _
          refine wp_g (n := 2) (pc' := 105) (L' := [some (.ref 51), some (.ref 10), some (.int (iI y2)), some (.int (iI y3))]) (st' := [.ref 51, .ref 51]) rfl ?_
          refine wp_getf (v := .ref 78) rfl rfl (S.cell 51 (nc rfl)) (by decide) rfl ?_
          refine wp_g (n := 1) (pc' := 109) (L' := [some (.ref 51), some (.ref 10), some (.int (iI y2)), some (.int (iI y3))]) (st' := [.int (iI y3), .ref 78, .ref 51]) rfl ?_
          refine wp_cs (As := [.ref 78, .int (iI y3)]) (rest := [.ref 51]) rfl rfl rfl rfl (Nat.le_of_ble_eq_true rfl) (Nat.le_of_ble_eq_true rfl) (hW _ S) (fun r19 H19 q19 => ?_)
          obtain ⟨v19, m19, γ19, t19, rfl, hv19, S, hW⟩ := q19
          show wp _ _ _ _ _ [.int (iI v19), .ref 51] _ _
          refine wp_g (n := 1) (pc' := 113) (L' := [some (.ref 51), some (.ref 10), some (.int (iI y2)), some (.int (iI y3))]) (st' := [.int (iI (-1)), .int (iI v19), .ref 51]) rfl ?_
          refine wp_cv (As := [.int (iI v19), .int (iI (-1))]) (rest := []) rfl rfl (S.cell 51 (nc rfl)) (by decide) rfl rfl rfl (Nat.le_of_ble_eq_true rfl) (Nat.le_of_ble_eq_true rfl) (hW _ S) (fun r20 H20 q20 => ?_)
          obtain ⟨m20, γ20, t20, rfl, S, hW⟩ := q20
          show wp _ _ _ _ _ [] _ _
          refine wp_g (n := 2) (pc' := 118) (L' := [some (.ref 51), some (.ref 10), some (.int (iI y2)), some (.int (iI y3))]) (st' := [.ref 51, .ref 51]) rfl ?_
          refine wp_getf (v := .ref 79) rfl rfl (S.cell 51 (nc rfl)) (by decide) rfl ?_
          refine wp_g (n := 1) (pc' := 122) (L' := [some (.ref 51), some (.ref 10), some (.int (iI y2)), some (.int (iI y3))]) (st' := [.int (iI y3), .ref 79, .ref 51]) rfl ?_
          refine wp_cs (As := [.ref 79, .int (iI y3)]) (rest := [.ref 51]) rfl rfl rfl rfl (Nat.le_of_ble_eq_true rfl) (Nat.le_of_ble_eq_true rfl) (hW _ S) (fun r21 H21 q21 => ?_)
          obtain ⟨v21, m21, γ21, t21, rfl, hv21, S, hW⟩ := q21
          show wp _ _ _ _ _ [.int (iI v21), .ref 51] _ _
          refine wp_g (n := 1) (pc' := 126) (L' := [some (.ref 51), some (.ref 10), some (.int (iI y2)), some (.int (iI y3))]) (st' := [.int (iI (-1)), .int (iI v21), .ref 51]) rfl ?_
          refine wp_cv (As := [.int (iI v21), .int (iI (-1))]) (rest := []) rfl rfl (S.cell 51 (nc rfl)) (by decide) rfl rfl rfl (Nat.le_of_ble_eq_true rfl) (Nat.le_of_ble_eq_true rfl) (hW _ S) (fun r22 H22 q22 => ?_)
          obtain ⟨m22, γ22, t22, rfl, S, hW⟩ := q22
          show wp _ _ _ _ _ [] _ _
          refine wp_g (n := 2) (pc' := 131) (L' := [some (.ref 51), some (.ref 10), some (.int (iI y2)), some (.int (iI y3))]) (st' := [.ref 51, .ref 51]) rfl ?_
          refine wp_getf (v := .int (iI (m22 51 1))) rfl rfl (S.cell 51 (nc rfl)) (by decide) rfl ?_
          have hr23 : rJ (m22 51 1) := S.rg 51 1 (nl rfl)
          refine wp_g (n := 1) (pc' := 135) (L' := [some (.ref 51), some (.ref 10), some (.int (iI y2)), some (.int (iI y3))]) (st' := [.int (iI 1), .int (iI (m22 51 1)), .ref 51]) rfl ?_
          refine wp_add (a := (m22 51 1)) (b := 1) rfl ?_
          obtain ⟨p25, hW⟩ := hW
          refine wp_putI rfl rfl (S.cell 51 (nc rfl)) (Nat.le_of_ble_eq_true rfl) rfl (fun H24 hl24 hz24 hf24 => ?_)
          have S : ST H24 (up m22 51 (up (m22 51) 1 ((m22 51 1) + 1))) γ22 t22 := S.setI 51 (nc rfl) hl24 hz24 hf24 p25.1 p25.2
          refine wp_iinc (L' := [some (.ref 51), some (.ref 10), some (.int (iI y2)), some (.int (iI (y3 + 1)))]) (a := y3) rfl rfl rfl ?_
          refine wp_g (n := 1) (pc' := 42) (L' := [some (.ref 51), some (.ref 10), some (.int (iI y2)), some (.int (iI (y3 + 1)))]) (st' := []) rfl ?_
          exact hW _ S
def hd_X1_numberArcs_12 (E : am_E) (k : Nat) (x2 : Int) (y2 : Int) (y3 : Int) (y4 : Int) (y5 : Int) (m : MM) (γ : GM) (t : am_H) (Q : MM → GM → am_H → Prop) : Prop := ∀ (z6 z7 : Option Value), TT (pV Q) E (k + 1) 8 12 [some (.ref 51), some (.ref 10), some (.int (iI y2)), some (.int (iI y3)), some (.int (iI y4)), some (.int (iI y5)), z6, z7] [] m γ t
def hd_X1_numberArcs_43 (E : am_E) (k : Nat) (x2 : Int) (y2 : Int) (y3 : Int) (y4 : Int) (y5 : Int) (y6 : Int) (m : MM) (γ : GM) (t : am_H) (Q : MM → GM → am_H → Prop) : Prop := ∀ (z7 : Option Value), TT (pV Q) E (k + 1) 8 43 [some (.ref 51), some (.ref 10), some (.int (iI y2)), some (.int (iI y3)), some (.int (iI y4)), some (.int (iI y5)), some (.int (iI y6)), z7] [] m γ t
abbrev W_X1_numberArcs (E : am_E) (k : Nat) (x2 : Int) (m : MM) (γ : GM) (t : am_H) (Q : MM → GM → am_H → Prop) : Prop := (TI E k 107 [.ref 10, .int (iI x2)] m γ t (fun v1 m1 γ1 t1 => (hd_X1_numberArcs_12 E k x2 x2 v1 0 0 m1 γ1 t1 Q)))
abbrev W_X1_numberArcs_12 (E : am_E) (k : Nat) (x2 : Int) (y2 : Int) (y3 : Int) (y4 : Int) (y5 : Int) (m : MM) (γ : GM) (t : am_H) (Q : MM → GM → am_H → Prop) : Prop := (((y5 < y3) → (TI E k 109 [.ref 10, .int (iI y2), .int (iI y5)] m γ t (fun v2 m2 γ2 t2 => (((v2 = 0) → (hd_X1_numberArcs_12 E k x2 y2 y3 (y4 + 1) (y5 + 1) m2 γ2 t2 Q)) ∧ (¬ (v2 = 0) → (hd_X1_numberArcs_12 E k x2 y2 y3 y4 (y5 + 1) m2 γ2 t2 Q)))))) ∧ (¬ (y5 < y3) → (hd_X1_numberArcs_43 E k x2 y2 y3 y4 0 0 m γ t Q)))
abbrev W_X1_numberArcs_43 (E : am_E) (k : Nat) (x2 : Int) (y2 : Int) (y3 : Int) (y4 : Int) (y5 : Int) (y6 : Int) (m : MM) (γ : GM) (t : am_H) (Q : MM → GM → am_H → Prop) : Prop := (((y6 < y3) → (TI E k 108 [.ref 10, .int (iI y2), .int (iI y6)] m γ t (fun v6 m6 γ6 t6 => (TI E k 109 [.ref 10, .int (iI y2), .int (iI y6)] m6 γ6 t6 (fun v7 m7 γ7 t7 => (((v7 = 0) → (TV E k 183 [.ref 78, .int (iI v6), .int (iI ((m7 51 2) + y5))] m7 γ7 t7 (fun m10 γ10 t10 => (rJ (y5 + 1) ∧ ((((y5 + 1) < y4) → (TV E k 183 [.ref 79, .int (iI v6), .int (iI ((m10 51 2) + (y5 + 1)))] m10 γ10 t10 (fun m15 γ15 t15 => (hd_X1_numberArcs_43 E k x2 y2 y3 y4 (y5 + 1) (y6 + 1) m15 γ15 t15 Q)))) ∧ (¬ ((y5 + 1) < y4) → (TV E k 183 [.ref 79, .int (iI v6), .int (iI ((m10 51 2) + 0))] m10 γ10 t10 (fun m14 γ14 t14 => (hd_X1_numberArcs_43 E k x2 y2 y3 y4 (y5 + 1) (y6 + 1) m14 γ14 t14 Q))))))))) ∧ (¬ (v7 = 0) → (((y5 < y4) → (TV E k 183 [.ref 77, .int (iI v6), .int (iI ((m7 51 2) + y5))] m7 γ7 t7 (fun m19 γ19 t19 => (hd_X1_numberArcs_43 E k x2 y2 y3 y4 y5 (y6 + 1) m19 γ19 t19 Q)))) ∧ (¬ (y5 < y4) → (TV E k 183 [.ref 77, .int (iI v6), .int (iI ((m7 51 2) + 0))] m7 γ7 t7 (fun m18 γ18 t18 => (hd_X1_numberArcs_43 E k x2 y2 y3 y4 y5 (y6 + 1) m18 γ18 t18 Q)))))))))))) ∧ (¬ (y6 < y3) → (TI E k 311 [.int (iI 1), .int (iI y4)] m γ t (fun v3 m3 γ3 t3 => (rJ ((m 51 2) + v3) ∧ (Q (up m3 51 (up (m3 51) 2 ((m 51 2) + v3))) γ3 t3))))))
theorem vc_X1_numberArcs {E : am_E} {k : Nat} {x2 : Int} {m : MM} {γ : GM} {t : am_H} {Q : MM → GM → am_H → Prop} (hx2 : rJ x2) (hW : W_X1_numberArcs E k x2 m γ t Q) : TV E (k + 1) 8 [.ref 51, .ref 10, .int (iI x2)] m γ t Q := by
  unfold W_X1_numberArcs at hW
  intro h S
  refine wp_g (n := 2) (pc' := 2) (L' := [some (.ref 51), some (.ref 10), some (.int (iI x2)), none, none, none, none, none]) (st' := [.int (iI x2), .ref 10]) rfl ?_
  refine wp_cv (As := [.int (iI x2)]) (rest := []) rfl rfl (S.cell 10 (nc rfl)) (by decide) rfl rfl rfl (Nat.le_of_ble_eq_true rfl) (Nat.le_of_ble_eq_true rfl) (hW _ S) (fun r1 H1 q1 => ?_)
  obtain ⟨v1, m1, γ1, t1, rfl, hv1, S, hW⟩ := q1
  show wp _ _ _ _ _ [.int (iI v1)] _ _
  refine wp_g (n := 5) (pc' := 12) (L' := [some (.ref 51), some (.ref 10), some (.int (iI x2)), some (.int (iI v1)), some (.int (iI 0)), some (.int (iI 0)), none, none]) (st' := []) rfl ?_
  exact hW none none _ S
theorem vc_X1_numberArcs_12 {E : am_E} {k : Nat} {x2 : Int} {y2 : Int} {y3 : Int} {y4 : Int} {y5 : Int} {m : MM} {γ : GM} {t : am_H} {Q : MM → GM → am_H → Prop} (hx2 : rJ x2) (hy2 : rJ y2) (hy3 : rJ y3) (hy4 : rJ y4) (hy5 : rJ y5) (hW : W_X1_numberArcs_12 E k x2 y2 y3 y4 y5 m γ t Q) : hd_X1_numberArcs_12 E k x2 y2 y3 y4 y5 m γ t Q := by
  unfold W_X1_numberArcs_12 at hW
  intro z6 z7 h S
  refine wp_g (n := 2) (pc' := 15) (L' := [some (.ref 51), some (.ref 10), some (.int (iI y2)), some (.int (iI y3)), some (.int (iI y4)), some (.int (iI y5)), z6, z7]) (st' := [.int (iI y3), .int (iI y5)]) rfl ?_
  refine wp_icmpI (a := y5) (b := y3) rfl rfl hy5.1 hy5.2 hy3.1 hy3.2 (fun c1 => ?_) (fun c1 => ?_)
  · have dc1 := (Int.not_lt.mpr c1)
    have hW := hW.2 dc1
    refine wp_g (n := 4) (pc' := 43) (L' := [some (.ref 51), some (.ref 10), some (.int (iI y2)), some (.int (iI y3)), some (.int (iI y4)), some (.int (iI 0)), some (.int (iI 0)), z7]) (st' := []) rfl ?_
    exact hW z7 _ S
  · have dc1 := (Int.not_le.mp c1)
    have hW := hW.1 dc1
    refine wp_g (n := 3) (pc' := 22) (L' := [some (.ref 51), some (.ref 10), some (.int (iI y2)), some (.int (iI y3)), some (.int (iI y4)), some (.int (iI y5)), z6, z7]) (st' := [.int (iI y5), .int (iI y2), .ref 10]) rfl ?_
    refine wp_cv (As := [.int (iI y2), .int (iI y5)]) (rest := []) rfl rfl (S.cell 10 (nc rfl)) (by decide) rfl rfl rfl (Nat.le_of_ble_eq_true rfl) (Nat.le_of_ble_eq_true rfl) (hW _ S) (fun r2 H2 q2 => ?_)
    obtain ⟨v2, m2, γ2, t2, rfl, hv2, S, hW⟩ := q2
    show wp _ _ _ _ _ [.int (iI v2)] _ _
    refine wp_ifI (a := v2) rfl rfl hv2.1 hv2.2 (fun c3 => ?_) (fun c3 => ?_)
    · have dc3 := c3
      have hW := hW.2 dc3
      refine wp_iinc (L' := [some (.ref 51), some (.ref 10), some (.int (iI y2)), some (.int (iI y3)), some (.int (iI y4)), some (.int (iI (y5 + 1))), z6, z7]) (a := y5) rfl rfl rfl ?_
      refine wp_g (n := 1) (pc' := 12) (L' := [some (.ref 51), some (.ref 10), some (.int (iI y2)), some (.int (iI y3)), some (.int (iI y4)), some (.int (iI (y5 + 1))), z6, z7]) (st' := []) rfl ?_
      exact hW z6 z7 _ S
    · have dc3 := (Classical.not_not.mp c3)
      have hW := hW.1 dc3
      refine wp_iinc (L' := [some (.ref 51), some (.ref 10), some (.int (iI y2)), some (.int (iI y3)), some (.int (iI (y4 + 1))), some (.int (iI y5)), z6, z7]) (a := y4) rfl rfl rfl ?_
      refine wp_iinc (L' := [some (.ref 51), some (.ref 10), some (.int (iI y2)), some (.int (iI y3)), some (.int (iI (y4 + 1))), some (.int (iI (y5 + 1))), z6, z7]) (a := y5) rfl rfl rfl ?_
      refine wp_g (n := 1) (pc' := 12) (L' := [some (.ref 51), some (.ref 10), some (.int (iI y2)), some (.int (iI y3)), some (.int (iI (y4 + 1))), some (.int (iI (y5 + 1))), z6, z7]) (st' := []) rfl ?_
      exact hW z6 z7 _ S
theorem vc_X1_numberArcs_43 {E : am_E} {k : Nat} {x2 : Int} {y2 : Int} {y3 : Int} {y4 : Int} {y5 : Int} {y6 : Int} {m : MM} {γ : GM} {t : am_H} {Q : MM → GM → am_H → Prop} (hx2 : rJ x2) (hy2 : rJ y2) (hy3 : rJ y3) (hy4 : rJ y4) (hy5 : rJ y5) (hy6 : rJ y6) (hW : W_X1_numberArcs_43 E k x2 y2 y3 y4 y5 y6 m γ t Q) : hd_X1_numberArcs_43 E k x2 y2 y3 y4 y5 y6 m γ t Q := by
  unfold W_X1_numberArcs_43 at hW
  intro z7 h S
  refine wp_g (n := 2) (pc' := 46) (L' := [some (.ref 51), some (.ref 10), some (.int (iI y2)), some (.int (iI y3)), some (.int (iI y4)), some (.int (iI y5)), some (.int (iI y6)), z7]) (st' := [.int (iI y3), .int (iI y6)]) rfl ?_
  refine wp_icmpI (a := y6) (b := y3) rfl rfl hy6.1 hy6.2 hy3.1 hy3.2 (fun c1 => ?_) (fun c1 => ?_)
  · have dc1 := (Int.not_lt.mpr c1)
    have hW := hW.2 dc1
    refine wp_g (n := 2) (pc' := 152) (L' := [some (.ref 51), some (.ref 10), some (.int (iI y2)), some (.int (iI y3)), some (.int (iI y4)), some (.int (iI y5)), some (.int (iI y6)), z7]) (st' := [.ref 51, .ref 51]) rfl ?_
    refine wp_getf (v := .int (iI (m 51 2))) rfl rfl (S.cell 51 (nc rfl)) (by decide) rfl ?_
    have hr2 : rJ (m 51 2) := S.rg 51 2 (nl rfl)
    refine wp_g (n := 2) (pc' := 158) (L' := [some (.ref 51), some (.ref 10), some (.int (iI y2)), some (.int (iI y3)), some (.int (iI y4)), some (.int (iI y5)), some (.int (iI y6)), z7]) (st' := [.int (iI y4), .int (iI 1), .int (iI (m 51 2)), .ref 51]) rfl ?_
    refine wp_cs (As := [.int (iI 1), .int (iI y4)]) (rest := [.int (iI (m 51 2)), .ref 51]) rfl rfl rfl rfl (Nat.le_of_ble_eq_true rfl) (Nat.le_of_ble_eq_true rfl) (hW _ S) (fun r3 H3 q3 => ?_)
    obtain ⟨v3, m3, γ3, t3, rfl, hv3, S, hW⟩ := q3
    show wp _ _ _ _ _ [.int (iI v3), .int (iI (m 51 2)), .ref 51] _ _
    refine wp_add (a := (m 51 2)) (b := v3) rfl ?_
    obtain ⟨p5, hW⟩ := hW
    refine wp_putI rfl rfl (S.cell 51 (nc rfl)) (Nat.le_of_ble_eq_true rfl) rfl (fun H4 hl4 hz4 hf4 => ?_)
    have S : ST H4 (up m3 51 (up (m3 51) 2 ((m 51 2) + v3))) γ3 t3 := S.setI 51 (nc rfl) hl4 hz4 hf4 p5.1 p5.2
    exact wp_vret rfl rfl ⟨_, _, _, rfl, S, hW⟩
  · have dc1 := (Int.not_le.mp c1)
    have hW := hW.1 dc1
    refine wp_g (n := 3) (pc' := 53) (L' := [some (.ref 51), some (.ref 10), some (.int (iI y2)), some (.int (iI y3)), some (.int (iI y4)), some (.int (iI y5)), some (.int (iI y6)), z7]) (st' := [.int (iI y6), .int (iI y2), .ref 10]) rfl ?_
    refine wp_cv (As := [.int (iI y2), .int (iI y6)]) (rest := []) rfl rfl (S.cell 10 (nc rfl)) (by decide) rfl rfl rfl (Nat.le_of_ble_eq_true rfl) (Nat.le_of_ble_eq_true rfl) (hW _ S) (fun r6 H6 q6 => ?_)
    obtain ⟨v6, m6, γ6, t6, rfl, hv6, S, hW⟩ := q6
    show wp _ _ _ _ _ [.int (iI v6)] _ _
    refine wp_g (n := 4) (pc' := 62) (L' := [some (.ref 51), some (.ref 10), some (.int (iI y2)), some (.int (iI y3)), some (.int (iI y4)), some (.int (iI y5)), some (.int (iI y6)), some (.int (iI v6))]) (st' := [.int (iI y6), .int (iI y2), .ref 10]) rfl ?_
    refine wp_cv (As := [.int (iI y2), .int (iI y6)]) (rest := []) rfl rfl (S.cell 10 (nc rfl)) (by decide) rfl rfl rfl (Nat.le_of_ble_eq_true rfl) (Nat.le_of_ble_eq_true rfl) (hW _ S) (fun r7 H7 q7 => ?_)
    obtain ⟨v7, m7, γ7, t7, rfl, hv7, S, hW⟩ := q7
    show wp _ _ _ _ _ [.int (iI v7)] _ _
    refine wp_ifI (a := v7) rfl rfl hv7.1 hv7.2 (fun c8 => ?_) (fun c8 => ?_)
    · have dc8 := c8
      have hW := hW.1 dc8
      refine wp_g (n := 1) (pc' := 99) (L' := [some (.ref 51), some (.ref 10), some (.int (iI y2)), some (.int (iI y3)), some (.int (iI y4)), some (.int (iI y5)), some (.int (iI y6)), some (.int (iI v6))]) (st' := [.ref 51]) rfl ?_
      refine wp_getf (v := .ref 78) rfl rfl (S.cell 51 (nc rfl)) (by decide) rfl ?_
      refine wp_g (n := 2) (pc' := 105) (L' := [some (.ref 51), some (.ref 10), some (.int (iI y2)), some (.int (iI y3)), some (.int (iI y4)), some (.int (iI y5)), some (.int (iI y6)), some (.int (iI v6))]) (st' := [.ref 51, .int (iI v6), .ref 78]) rfl ?_
      refine wp_getf (v := .int (iI (m7 51 2))) rfl rfl (S.cell 51 (nc rfl)) (by decide) rfl ?_
      have hr9 : rJ (m7 51 2) := S.rg 51 2 (nl rfl)
      refine wp_g (n := 1) (pc' := 110) (L' := [some (.ref 51), some (.ref 10), some (.int (iI y2)), some (.int (iI y3)), some (.int (iI y4)), some (.int (iI y5)), some (.int (iI y6)), some (.int (iI v6))]) (st' := [.int (iI y5), .int (iI (m7 51 2)), .int (iI v6), .ref 78]) rfl ?_
      refine wp_add (a := (m7 51 2)) (b := y5) rfl ?_
      refine wp_cs (As := [.ref 78, .int (iI v6), .int (iI ((m7 51 2) + y5))]) (rest := []) rfl rfl rfl rfl (Nat.le_of_ble_eq_true rfl) (Nat.le_of_ble_eq_true rfl) (hW _ S) (fun r10 H10 q10 => ?_)
      obtain ⟨m10, γ10, t10, rfl, S, hW⟩ := q10
      show wp _ _ _ _ _ [] _ _
      refine wp_iinc (L' := [some (.ref 51), some (.ref 10), some (.int (iI y2)), some (.int (iI y3)), some (.int (iI y4)), some (.int (iI (y5 + 1))), some (.int (iI y6)), some (.int (iI v6))]) (a := y5) rfl rfl rfl ?_
      refine wp_g (n := 1) (pc' := 118) (L' := [some (.ref 51), some (.ref 10), some (.int (iI y2)), some (.int (iI y3)), some (.int (iI y4)), some (.int (iI (y5 + 1))), some (.int (iI y6)), some (.int (iI v6))]) (st' := [.ref 51]) rfl ?_
      refine wp_getf (v := .ref 79) rfl rfl (S.cell 51 (nc rfl)) (by decide) rfl ?_
      refine wp_g (n := 2) (pc' := 124) (L' := [some (.ref 51), some (.ref 10), some (.int (iI y2)), some (.int (iI y3)), some (.int (iI y4)), some (.int (iI (y5 + 1))), some (.int (iI y6)), some (.int (iI v6))]) (st' := [.ref 51, .int (iI v6), .ref 79]) rfl ?_
      refine wp_getf (v := .int (iI (m10 51 2))) rfl rfl (S.cell 51 (nc rfl)) (by decide) rfl ?_
      have hr11 : rJ (m10 51 2) := S.rg 51 2 (nl rfl)
      refine wp_g (n := 2) (pc' := 131) (L' := [some (.ref 51), some (.ref 10), some (.int (iI y2)), some (.int (iI y3)), some (.int (iI y4)), some (.int (iI (y5 + 1))), some (.int (iI y6)), some (.int (iI v6))]) (st' := [.int (iI y4), .int (iI (y5 + 1)), .int (iI (m10 51 2)), .int (iI v6), .ref 79]) rfl ?_
      obtain ⟨p12, hW⟩ := hW
      refine wp_icmpI (a := (y5 + 1)) (b := y4) rfl rfl p12.1 p12.2 hy4.1 hy4.2 (fun c13 => ?_) (fun c13 => ?_)
      · have dc13 := (Int.not_lt.mpr c13)
        have hW := hW.2 dc13
        refine wp_g (n := 1) (pc' := 140) (L' := [some (.ref 51), some (.ref 10), some (.int (iI y2)), some (.int (iI y3)), some (.int (iI y4)), some (.int (iI (y5 + 1))), some (.int (iI y6)), some (.int (iI v6))]) (st' := [.int (iI 0), .int (iI (m10 51 2)), .int (iI v6), .ref 79]) rfl ?_
        refine wp_add (a := (m10 51 2)) (b := 0) rfl ?_
        refine wp_cs (As := [.ref 79, .int (iI v6), .int (iI ((m10 51 2) + 0))]) (rest := []) rfl rfl rfl rfl (Nat.le_of_ble_eq_true rfl) (Nat.le_of_ble_eq_true rfl) (hW _ S) (fun r14 H14 q14 => ?_)
        obtain ⟨m14, γ14, t14, rfl, S, hW⟩ := q14
        show wp _ _ _ _ _ [] _ _
        refine wp_iinc (L' := [some (.ref 51), some (.ref 10), some (.int (iI y2)), some (.int (iI y3)), some (.int (iI y4)), some (.int (iI (y5 + 1))), some (.int (iI (y6 + 1))), some (.int (iI v6))]) (a := y6) rfl rfl rfl ?_
        refine wp_g (n := 1) (pc' := 43) (L' := [some (.ref 51), some (.ref 10), some (.int (iI y2)), some (.int (iI y3)), some (.int (iI y4)), some (.int (iI (y5 + 1))), some (.int (iI (y6 + 1))), some (.int (iI v6))]) (st' := []) rfl ?_
        exact hW (some (.int (iI v6))) _ S
      · have dc13 := (Int.not_le.mp c13)
        have hW := hW.1 dc13
        refine wp_g (n := 2) (pc' := 140) (L' := [some (.ref 51), some (.ref 10), some (.int (iI y2)), some (.int (iI y3)), some (.int (iI y4)), some (.int (iI (y5 + 1))), some (.int (iI y6)), some (.int (iI v6))]) (st' := [.int (iI (y5 + 1)), .int (iI (m10 51 2)), .int (iI v6), .ref 79]) rfl ?_
        refine wp_add (a := (m10 51 2)) (b := (y5 + 1)) rfl ?_
        refine wp_cs (As := [.ref 79, .int (iI v6), .int (iI ((m10 51 2) + (y5 + 1)))]) (rest := []) rfl rfl rfl rfl (Nat.le_of_ble_eq_true rfl) (Nat.le_of_ble_eq_true rfl) (hW _ S) (fun r15 H15 q15 => ?_)
        obtain ⟨m15, γ15, t15, rfl, S, hW⟩ := q15
        show wp _ _ _ _ _ [] _ _
        refine wp_iinc (L' := [some (.ref 51), some (.ref 10), some (.int (iI y2)), some (.int (iI y3)), some (.int (iI y4)), some (.int (iI (y5 + 1))), some (.int (iI (y6 + 1))), some (.int (iI v6))]) (a := y6) rfl rfl rfl ?_
        refine wp_g (n := 1) (pc' := 43) (L' := [some (.ref 51), some (.ref 10), some (.int (iI y2)), some (.int (iI y3)), some (.int (iI y4)), some (.int (iI (y5 + 1))), some (.int (iI (y6 + 1))), some (.int (iI v6))]) (st' := []) rfl ?_
        exact hW (some (.int (iI v6))) _ S
    · have dc8 := c8
      have hW := hW.2 dc8
      refine wp_g (n := 1) (pc' := 69) (L' := [some (.ref 51), some (.ref 10), some (.int (iI y2)), some (.int (iI y3)), some (.int (iI y4)), some (.int (iI y5)), some (.int (iI y6)), some (.int (iI v6))]) (st' := [.ref 51]) rfl ?_
      refine wp_getf (v := .ref 77) rfl rfl (S.cell 51 (nc rfl)) (by decide) rfl ?_
      refine wp_g (n := 2) (pc' := 75) (L' := [some (.ref 51), some (.ref 10), some (.int (iI y2)), some (.int (iI y3)), some (.int (iI y4)), some (.int (iI y5)), some (.int (iI y6)), some (.int (iI v6))]) (st' := [.ref 51, .int (iI v6), .ref 77]) rfl ?_
      refine wp_getf (v := .int (iI (m7 51 2))) rfl rfl (S.cell 51 (nc rfl)) (by decide) rfl ?_
      have hr16 : rJ (m7 51 2) := S.rg 51 2 (nl rfl)
      refine wp_g (n := 2) (pc' := 82) (L' := [some (.ref 51), some (.ref 10), some (.int (iI y2)), some (.int (iI y3)), some (.int (iI y4)), some (.int (iI y5)), some (.int (iI y6)), some (.int (iI v6))]) (st' := [.int (iI y4), .int (iI y5), .int (iI (m7 51 2)), .int (iI v6), .ref 77]) rfl ?_
      refine wp_icmpI (a := y5) (b := y4) rfl rfl hy5.1 hy5.2 hy4.1 hy4.2 (fun c17 => ?_) (fun c17 => ?_)
      · have dc17 := (Int.not_lt.mpr c17)
        have hW := hW.2 dc17
        refine wp_g (n := 1) (pc' := 91) (L' := [some (.ref 51), some (.ref 10), some (.int (iI y2)), some (.int (iI y3)), some (.int (iI y4)), some (.int (iI y5)), some (.int (iI y6)), some (.int (iI v6))]) (st' := [.int (iI 0), .int (iI (m7 51 2)), .int (iI v6), .ref 77]) rfl ?_
        refine wp_add (a := (m7 51 2)) (b := 0) rfl ?_
        refine wp_cs (As := [.ref 77, .int (iI v6), .int (iI ((m7 51 2) + 0))]) (rest := []) rfl rfl rfl rfl (Nat.le_of_ble_eq_true rfl) (Nat.le_of_ble_eq_true rfl) (hW _ S) (fun r18 H18 q18 => ?_)
        obtain ⟨m18, γ18, t18, rfl, S, hW⟩ := q18
        show wp _ _ _ _ _ [] _ _
        refine wp_g (n := 1) (pc' := 144) (L' := [some (.ref 51), some (.ref 10), some (.int (iI y2)), some (.int (iI y3)), some (.int (iI y4)), some (.int (iI y5)), some (.int (iI y6)), some (.int (iI v6))]) (st' := []) rfl ?_
        refine wp_iinc (L' := [some (.ref 51), some (.ref 10), some (.int (iI y2)), some (.int (iI y3)), some (.int (iI y4)), some (.int (iI y5)), some (.int (iI (y6 + 1))), some (.int (iI v6))]) (a := y6) rfl rfl rfl ?_
        refine wp_g (n := 1) (pc' := 43) (L' := [some (.ref 51), some (.ref 10), some (.int (iI y2)), some (.int (iI y3)), some (.int (iI y4)), some (.int (iI y5)), some (.int (iI (y6 + 1))), some (.int (iI v6))]) (st' := []) rfl ?_
        exact hW (some (.int (iI v6))) _ S
      · have dc17 := (Int.not_le.mp c17)
        have hW := hW.1 dc17
        refine wp_g (n := 2) (pc' := 91) (L' := [some (.ref 51), some (.ref 10), some (.int (iI y2)), some (.int (iI y3)), some (.int (iI y4)), some (.int (iI y5)), some (.int (iI y6)), some (.int (iI v6))]) (st' := [.int (iI y5), .int (iI (m7 51 2)), .int (iI v6), .ref 77]) rfl ?_
        refine wp_add (a := (m7 51 2)) (b := y5) rfl ?_
        refine wp_cs (As := [.ref 77, .int (iI v6), .int (iI ((m7 51 2) + y5))]) (rest := []) rfl rfl rfl rfl (Nat.le_of_ble_eq_true rfl) (Nat.le_of_ble_eq_true rfl) (hW _ S) (fun r19 H19 q19 => ?_)
        obtain ⟨m19, γ19, t19, rfl, S, hW⟩ := q19
        show wp _ _ _ _ _ [] _ _
        refine wp_g (n := 1) (pc' := 144) (L' := [some (.ref 51), some (.ref 10), some (.int (iI y2)), some (.int (iI y3)), some (.int (iI y4)), some (.int (iI y5)), some (.int (iI y6)), some (.int (iI v6))]) (st' := []) rfl ?_
        refine wp_iinc (L' := [some (.ref 51), some (.ref 10), some (.int (iI y2)), some (.int (iI y3)), some (.int (iI y4)), some (.int (iI y5)), some (.int (iI (y6 + 1))), some (.int (iI v6))]) (a := y6) rfl rfl rfl ?_
        refine wp_g (n := 1) (pc' := 43) (L' := [some (.ref 51), some (.ref 10), some (.int (iI y2)), some (.int (iI y3)), some (.int (iI y4)), some (.int (iI y5)), some (.int (iI (y6 + 1))), some (.int (iI v6))]) (st' := []) rfl ?_
        exact hW (some (.int (iI v6))) _ S
abbrev W_X1_add (E : am_E) (k : Nat) (x1 : Int) (x2 : Int) (m : MM) (γ : GM) (t : am_H) (Q : MM → GM → am_H → Prop) : Prop := (((x1 < 0) → (Q m γ t)) ∧ (¬ (x1 < 0) → (((x1 < 40) → ((((m 51 1) < 24) → ((0 ≤ (m 51 1) ∧ (m 51 1) < 24) ∧ ((0 ≤ x1 ∧ x1 < 40) ∧ ((0 ≤ x1 ∧ x1 < 40) ∧ (rJ ((m (53 + ((m 51 1)).toNat) ((x1).toNat)) + x2) ∧ (∀ m12, m12 = (up m (53 + ((m 51 1)).toNat) (up (m (53 + ((m 51 1)).toNat)) ((x1).toNat) ((m (53 + ((m 51 1)).toNat) ((x1).toNat)) + x2))) → (Q m12 γ t))))))) ∧ (¬ ((m 51 1) < 24) → (Q m γ t)))) ∧ (¬ (x1 < 40) → (Q m γ t)))))
theorem vc_X1_add {E : am_E} {k : Nat} {x1 : Int} {x2 : Int} {m : MM} {γ : GM} {t : am_H} {Q : MM → GM → am_H → Prop} (hx1 : rJ x1) (hx2 : rJ x2) (hW : W_X1_add E k x1 x2 m γ t Q) : TV E k 9 [.ref 51, .int (iI x1), .int (iI x2)] m γ t Q := by
  unfold W_X1_add at hW
  intro h S
  refine wp_g (n := 1) (pc' := 1) (L' := [some (.ref 51), some (.int (iI x1)), some (.int (iI x2))]) (st' := [.int (iI x1)]) rfl ?_
  refine wp_ifI (a := x1) rfl rfl hx1.1 hx1.2 (fun c1 => ?_) (fun c1 => ?_)
  · have dc1 := c1
    have hW := hW.1 dc1
    exact wp_vret rfl rfl ⟨_, _, _, rfl, S, hW⟩
  · have dc1 := c1
    have hW := hW.2 dc1
    refine wp_g (n := 2) (pc' := 7) (L' := [some (.ref 51), some (.int (iI x1)), some (.int (iI x2))]) (st' := [.int (iI 40), .int (iI x1)]) rfl ?_
    refine wp_icmpI (a := x1) (b := 40) rfl rfl hx1.1 hx1.2 (by decide) (by decide) (fun c2 => ?_) (fun c2 => ?_)
    · have dc2 := (Int.not_lt.mpr c2)
      have hW := hW.2 dc2
      exact wp_vret rfl rfl ⟨_, _, _, rfl, S, hW⟩
    · have dc2 := (Int.not_le.mp c2)
      have hW := hW.1 dc2
      refine wp_g (n := 1) (pc' := 11) (L' := [some (.ref 51), some (.int (iI x1)), some (.int (iI x2))]) (st' := [.ref 51]) rfl ?_
      refine wp_getf (v := .int (iI (m 51 1))) rfl rfl (S.cell 51 (nc rfl)) (by decide) rfl ?_
      have hr3 : rJ (m 51 1) := S.rg 51 1 (nl rfl)
      refine wp_g (n := 1) (pc' := 16) (L' := [some (.ref 51), some (.int (iI x1)), some (.int (iI x2))]) (st' := [.int (iI 24), .int (iI (m 51 1))]) rfl ?_
      refine wp_icmpI (a := (m 51 1)) (b := 24) rfl rfl hr3.1 hr3.2 (by decide) (by decide) (fun c4 => ?_) (fun c4 => ?_)
      · have dc4 := (Int.not_lt.mpr c4)
        have hW := hW.2 dc4
        exact wp_vret rfl rfl ⟨_, _, _, rfl, S, hW⟩
      · have dc4 := (Int.not_le.mp c4)
        have hW := hW.1 dc4
        refine wp_g (n := 1) (pc' := 20) (L' := [some (.ref 51), some (.int (iI x1)), some (.int (iI x2))]) (st' := [.ref 51]) rfl ?_
        refine wp_getf (v := .ref 52) rfl rfl (S.cell 51 (nc rfl)) (by decide) rfl ?_
        refine wp_g (n := 1) (pc' := 24) (L' := [some (.ref 51), some (.int (iI x1)), some (.int (iI x2))]) (st' := [.ref 51, .ref 52]) rfl ?_
        refine wp_getf (v := .int (iI (m 51 1))) rfl rfl (S.cell 51 (nc rfl)) (by decide) rfl ?_
        obtain ⟨p5, hW⟩ := hW
        have hn6 : ((m 51 1)).toNat < 24 := by omega
        refine wp_rald (n := 24) (b := (53 + ((m 51 1)).toNat)) rfl (S.cell 52 (nc rfl)) p5.1 p5.2 (by decide) (if_pos hn6) ?_
        refine wp_g (n := 2) (pc' := 30) (L' := [some (.ref 51), some (.int (iI x1)), some (.int (iI x2))]) (st' := [.int (iI x1), .ref (53 + ((m 51 1)).toNat), .int (iI x1), .ref (53 + ((m 51 1)).toNat)]) rfl ?_
        obtain ⟨p7, hW⟩ := hW
        refine wp_iald (n := 40) (F := (m (53 + ((m 51 1)).toNat))) rfl (ST.col S hn6) (by omega) p7.1 p7.2 (by decide) ?_
        show wp _ _ _ _ _ [.int (iI (m (53 + ((m 51 1)).toNat) ((x1).toNat))), .int (iI x1), .ref (53 + ((m 51 1)).toNat)] _ _
        have hr8 : rJ (m (53 + ((m 51 1)).toNat) ((x1).toNat)) := S.rg (53 + ((m 51 1)).toNat) ((x1).toNat) (nl_53 hn6)
        refine wp_g (n := 1) (pc' := 32) (L' := [some (.ref 51), some (.int (iI x1)), some (.int (iI x2))]) (st' := [.int (iI x2), .int (iI (m (53 + ((m 51 1)).toNat) ((x1).toNat))), .int (iI x1), .ref (53 + ((m 51 1)).toNat)]) rfl ?_
        refine wp_add (a := (m (53 + ((m 51 1)).toNat) ((x1).toNat))) (b := x2) rfl ?_
        obtain ⟨p10, hW⟩ := hW
        obtain ⟨p11, hW⟩ := hW
        refine wp_iasF (n := 40) (F := (m (53 + ((m 51 1)).toNat))) (y := ((m (53 + ((m 51 1)).toNat) ((x1).toNat)) + x2)) rfl (ST.col S hn6) p10.1 p10.2 (by decide) (fun H9 hl9 hz9 hf9 => ?_)
        have S : ST H9 (up m (53 + ((m 51 1)).toNat) (up (m (53 + ((m 51 1)).toNat)) ((x1).toNat) ((m (53 + ((m 51 1)).toNat) ((x1).toNat)) + x2))) γ t := S.setI (53 + ((m 51 1)).toNat) (nc_53 hn6) hl9 (by rw [lay_53 hn6]; exact hz9) hf9 p11.1 p11.2
        obtain ⟨m12, hm12⟩ : ∃ m12, m12 = (up m (53 + ((m 51 1)).toNat) (up (m (53 + ((m 51 1)).toNat)) ((x1).toNat) ((m (53 + ((m 51 1)).toNat) ((x1).toNat)) + x2))) := ⟨_, rfl⟩
        rw [← hm12] at S
        have hW := hW m12 hm12
        exact wp_vret rfl rfl ⟨_, _, _, rfl, S, hW⟩
def hd_X1_rank_4 (E : am_E) (k : Nat) (x1 : Int) (y1 : Int) (y2 : Int) (y3 : Int) (m : MM) (γ : GM) (t : am_H) (Q : Int → MM → GM → am_H → Prop) : Prop := ∀ (z4 : Option Value), TT (pI Q) E (k + 1) 10 4 [some (.ref 51), some (.int (iI y1)), some (.int (iI y2)), some (.int (iI y3)), z4] [] m γ t
abbrev W_X1_rank (E : am_E) (k : Nat) (x1 : Int) (m : MM) (γ : GM) (t : am_H) (Q : Int → MM → GM → am_H → Prop) : Prop := (hd_X1_rank_4 E k x1 x1 0 0 m γ t Q)
abbrev W_X1_rank_4 (E : am_E) (k : Nat) (x1 : Int) (y1 : Int) (y2 : Int) (y3 : Int) (m : MM) (γ : GM) (t : am_H) (Q : Int → MM → GM → am_H → Prop) : Prop := (((y3 < (m 51 2)) → (((y3 < 40) → (TI E k 12 [.ref 51, .int (iI y2), .int (iI y3), .int (iI y1)] m γ t (fun v4 m4 γ4 t4 => (((v4 = (-1)) → (hd_X1_rank_4 E k x1 y1 y2 (y3 + 1) m4 γ4 t4 Q)) ∧ (¬ (v4 = (-1)) → (TV E k 11 [.ref 51, .int (iI v4), .int (iI y2)] m4 γ4 t4 (fun m6 γ6 t6 => (TV E k 13 [.ref 51, .int (iI y2), .int (iI y3), .int (iI y1)] m6 γ6 t6 (fun m7 γ7 t7 => (hd_X1_rank_4 E k x1 y1 (y2 + 1) (y3 + 1) m7 γ7 t7 Q)))))))))) ∧ (¬ (y3 < 40) → (Q y2 m γ t)))) ∧ (¬ (y3 < (m 51 2)) → (Q y2 m γ t)))
theorem vc_X1_rank {E : am_E} {k : Nat} {x1 : Int} {m : MM} {γ : GM} {t : am_H} {Q : Int → MM → GM → am_H → Prop} (hx1 : rJ x1) (hW : W_X1_rank E k x1 m γ t Q) : TI E (k + 1) 10 [.ref 51, .int (iI x1)] m γ t Q := by
  unfold W_X1_rank at hW
  intro h S
  refine wp_g (n := 4) (pc' := 4) (L' := [some (.ref 51), some (.int (iI x1)), some (.int (iI 0)), some (.int (iI 0)), none]) (st' := []) rfl ?_
  exact hW none _ S
theorem vc_X1_rank_4 {E : am_E} {k : Nat} {x1 : Int} {y1 : Int} {y2 : Int} {y3 : Int} {m : MM} {γ : GM} {t : am_H} {Q : Int → MM → GM → am_H → Prop} (hx1 : rJ x1) (hy1 : rJ y1) (hy2 : rJ y2) (hy3 : rJ y3) (hW : W_X1_rank_4 E k x1 y1 y2 y3 m γ t Q) : hd_X1_rank_4 E k x1 y1 y2 y3 m γ t Q := by
  unfold W_X1_rank_4 at hW
  intro z4 h S
  refine wp_g (n := 2) (pc' := 6) (L' := [some (.ref 51), some (.int (iI y1)), some (.int (iI y2)), some (.int (iI y3)), z4]) (st' := [.ref 51, .int (iI y3)]) rfl ?_
  refine wp_getf (v := .int (iI (m 51 2))) rfl rfl (S.cell 51 (nc rfl)) (by decide) rfl ?_
  have hr1 : rJ (m 51 2) := S.rg 51 2 (nl rfl)
  refine wp_icmpI (a := y3) (b := (m 51 2)) rfl rfl hy3.1 hy3.2 hr1.1 hr1.2 (fun c2 => ?_) (fun c2 => ?_)
  · have dc2 := (Int.not_lt.mpr c2)
    have hW := hW.2 dc2
    refine wp_g (n := 1) (pc' := 57) (L' := [some (.ref 51), some (.int (iI y1)), some (.int (iI y2)), some (.int (iI y3)), z4]) (st' := [.int (iI y2)]) rfl ?_
    exact wp_iret rfl rfl ⟨_, _, _, _, rfl, hy2, S, hW⟩
  · have dc2 := (Int.not_le.mp c2)
    have hW := hW.1 dc2
    refine wp_g (n := 2) (pc' := 15) (L' := [some (.ref 51), some (.int (iI y1)), some (.int (iI y2)), some (.int (iI y3)), z4]) (st' := [.int (iI 40), .int (iI y3)]) rfl ?_
    refine wp_icmpI (a := y3) (b := 40) rfl rfl hy3.1 hy3.2 (by decide) (by decide) (fun c3 => ?_) (fun c3 => ?_)
    · have dc3 := (Int.not_lt.mpr c3)
      have hW := hW.2 dc3
      refine wp_g (n := 1) (pc' := 57) (L' := [some (.ref 51), some (.int (iI y1)), some (.int (iI y2)), some (.int (iI y3)), z4]) (st' := [.int (iI y2)]) rfl ?_
      exact wp_iret rfl rfl ⟨_, _, _, _, rfl, hy2, S, hW⟩
    · have dc3 := (Int.not_le.mp c3)
      have hW := hW.1 dc3
      refine wp_g (n := 4) (pc' := 22) (L' := [some (.ref 51), some (.int (iI y1)), some (.int (iI y2)), some (.int (iI y3)), z4]) (st' := [.int (iI y1), .int (iI y3), .int (iI y2), .ref 51]) rfl ?_
      refine wp_cv (As := [.int (iI y2), .int (iI y3), .int (iI y1)]) (rest := []) rfl rfl (S.cell 51 (nc rfl)) (by decide) rfl rfl rfl (Nat.le_of_ble_eq_true rfl) (Nat.le_of_ble_eq_true rfl) (hW _ S) (fun r4 H4 q4 => ?_)
      obtain ⟨v4, m4, γ4, t4, rfl, hv4, S, hW⟩ := q4
      show wp _ _ _ _ _ [.int (iI v4)] _ _
      refine wp_g (n := 3) (pc' := 30) (L' := [some (.ref 51), some (.int (iI y1)), some (.int (iI y2)), some (.int (iI y3)), some (.int (iI v4))]) (st' := [.int (iI (-1)), .int (iI v4)]) rfl ?_
      refine wp_icmpI (a := v4) (b := (-1)) rfl rfl hv4.1 hv4.2 (by decide) (by decide) (fun c5 => ?_) (fun c5 => ?_)
      · have dc5 := c5
        have hW := hW.1 dc5
        refine wp_iinc (L' := [some (.ref 51), some (.int (iI y1)), some (.int (iI y2)), some (.int (iI (y3 + 1))), some (.int (iI v4))]) (a := y3) rfl rfl rfl ?_
        refine wp_g (n := 1) (pc' := 4) (L' := [some (.ref 51), some (.int (iI y1)), some (.int (iI y2)), some (.int (iI (y3 + 1))), some (.int (iI v4))]) (st' := []) rfl ?_
        exact hW (some (.int (iI v4))) _ S
      · have dc5 := c5
        have hW := hW.2 dc5
        refine wp_g (n := 3) (pc' := 37) (L' := [some (.ref 51), some (.int (iI y1)), some (.int (iI y2)), some (.int (iI y3)), some (.int (iI v4))]) (st' := [.int (iI y2), .int (iI v4), .ref 51]) rfl ?_
        refine wp_cv (As := [.int (iI v4), .int (iI y2)]) (rest := []) rfl rfl (S.cell 51 (nc rfl)) (by decide) rfl rfl rfl (Nat.le_of_ble_eq_true rfl) (Nat.le_of_ble_eq_true rfl) (hW _ S) (fun r6 H6 q6 => ?_)
        obtain ⟨m6, γ6, t6, rfl, S, hW⟩ := q6
        show wp _ _ _ _ _ [] _ _
        refine wp_g (n := 4) (pc' := 44) (L' := [some (.ref 51), some (.int (iI y1)), some (.int (iI y2)), some (.int (iI y3)), some (.int (iI v4))]) (st' := [.int (iI y1), .int (iI y3), .int (iI y2), .ref 51]) rfl ?_
        refine wp_cv (As := [.int (iI y2), .int (iI y3), .int (iI y1)]) (rest := []) rfl rfl (S.cell 51 (nc rfl)) (by decide) rfl rfl rfl (Nat.le_of_ble_eq_true rfl) (Nat.le_of_ble_eq_true rfl) (hW _ S) (fun r7 H7 q7 => ?_)
        obtain ⟨m7, γ7, t7, rfl, S, hW⟩ := q7
        show wp _ _ _ _ _ [] _ _
        refine wp_iinc (L' := [some (.ref 51), some (.int (iI y1)), some (.int (iI (y2 + 1))), some (.int (iI y3)), some (.int (iI v4))]) (a := y2) rfl rfl rfl ?_
        refine wp_iinc (L' := [some (.ref 51), some (.int (iI y1)), some (.int (iI (y2 + 1))), some (.int (iI (y3 + 1))), some (.int (iI v4))]) (a := y3) rfl rfl rfl ?_
        refine wp_g (n := 1) (pc' := 4) (L' := [some (.ref 51), some (.int (iI y1)), some (.int (iI (y2 + 1))), some (.int (iI (y3 + 1))), some (.int (iI v4))]) (st' := []) rfl ?_
        exact hW (some (.int (iI v4))) _ S
def hd_X1_swapRows_23 (E : am_E) (k : Nat) (x1 : Int) (x2 : Int) (y1 : Int) (y2 : Int) (y3 : Int) (m : MM) (γ : GM) (t : am_H) (Q : MM → GM → am_H → Prop) : Prop := ∀ (z4 : Option Value), TT (pV Q) E k 11 23 [some (.ref 51), some (.int (iI y1)), some (.int (iI y2)), some (.int (iI y3)), z4] [] m γ t
abbrev W_X1_swapRows (E : am_E) (k : Nat) (x1 : Int) (x2 : Int) (m : MM) (γ : GM) (t : am_H) (Q : MM → GM → am_H → Prop) : Prop := (((x1 < 0) → (Q m γ t)) ∧ (¬ (x1 < 0) → (((x2 < 0) → (Q m γ t)) ∧ (¬ (x2 < 0) → (((x1 < 24) → (((x2 < 24) → (hd_X1_swapRows_23 E k x1 x2 x1 x2 0 m γ t Q)) ∧ (¬ (x2 < 24) → (Q m γ t)))) ∧ (¬ (x1 < 24) → (Q m γ t)))))))
abbrev W_X1_swapRows_23 (E : am_E) (k : Nat) (x1 : Int) (x2 : Int) (y1 : Int) (y2 : Int) (y3 : Int) (m : MM) (γ : GM) (t : am_H) (Q : MM → GM → am_H → Prop) : Prop := (((y3 < 40) → ((0 ≤ y1 ∧ y1 < 24) ∧ ((0 ≤ y3 ∧ y3 < 40) ∧ ((0 ≤ y1 ∧ y1 < 24) ∧ ((0 ≤ y2 ∧ y2 < 24) ∧ ((0 ≤ y3 ∧ y3 < 40) ∧ ((0 ≤ y3 ∧ y3 < 40) ∧ (∀ m14, m14 = (up m (53 + (y1).toNat) (up (m (53 + (y1).toNat)) ((y3).toNat) (m (53 + (y2).toNat) ((y3).toNat)))) → ((0 ≤ y2 ∧ y2 < 24) ∧ ((0 ≤ y3 ∧ y3 < 40) ∧ (∀ m19, m19 = (up m14 (53 + (y2).toNat) (up (m14 (53 + (y2).toNat)) ((y3).toNat) (m (53 + (y1).toNat) ((y3).toNat)))) → (hd_X1_swapRows_23 E k x1 x2 y1 y2 (y3 + 1) m19 γ t Q)))))))))))) ∧ (¬ (y3 < 40) → (Q m γ t)))
theorem vc_X1_swapRows {E : am_E} {k : Nat} {x1 : Int} {x2 : Int} {m : MM} {γ : GM} {t : am_H} {Q : MM → GM → am_H → Prop} (hx1 : rJ x1) (hx2 : rJ x2) (hW : W_X1_swapRows E k x1 x2 m γ t Q) : TV E k 11 [.ref 51, .int (iI x1), .int (iI x2)] m γ t Q := by
  unfold W_X1_swapRows at hW
  intro h S
  refine wp_g (n := 1) (pc' := 1) (L' := [some (.ref 51), some (.int (iI x1)), some (.int (iI x2)), none, none]) (st' := [.int (iI x1)]) rfl ?_
  refine wp_ifI (a := x1) rfl rfl hx1.1 hx1.2 (fun c1 => ?_) (fun c1 => ?_)
  · have dc1 := c1
    have hW := hW.1 dc1
    exact wp_vret rfl rfl ⟨_, _, _, rfl, S, hW⟩
  · have dc1 := c1
    have hW := hW.2 dc1
    refine wp_g (n := 1) (pc' := 5) (L' := [some (.ref 51), some (.int (iI x1)), some (.int (iI x2)), none, none]) (st' := [.int (iI x2)]) rfl ?_
    refine wp_ifI (a := x2) rfl rfl hx2.1 hx2.2 (fun c2 => ?_) (fun c2 => ?_)
    · have dc2 := c2
      have hW := hW.1 dc2
      exact wp_vret rfl rfl ⟨_, _, _, rfl, S, hW⟩
    · have dc2 := c2
      have hW := hW.2 dc2
      refine wp_g (n := 2) (pc' := 11) (L' := [some (.ref 51), some (.int (iI x1)), some (.int (iI x2)), none, none]) (st' := [.int (iI 24), .int (iI x1)]) rfl ?_
      refine wp_icmpI (a := x1) (b := 24) rfl rfl hx1.1 hx1.2 (by decide) (by decide) (fun c3 => ?_) (fun c3 => ?_)
      · have dc3 := (Int.not_lt.mpr c3)
        have hW := hW.2 dc3
        exact wp_vret rfl rfl ⟨_, _, _, rfl, S, hW⟩
      · have dc3 := (Int.not_le.mp c3)
        have hW := hW.1 dc3
        refine wp_g (n := 2) (pc' := 17) (L' := [some (.ref 51), some (.int (iI x1)), some (.int (iI x2)), none, none]) (st' := [.int (iI 24), .int (iI x2)]) rfl ?_
        refine wp_icmpI (a := x2) (b := 24) rfl rfl hx2.1 hx2.2 (by decide) (by decide) (fun c4 => ?_) (fun c4 => ?_)
        · have dc4 := c4
          have hW := hW.1 dc4
          refine wp_g (n := 2) (pc' := 23) (L' := [some (.ref 51), some (.int (iI x1)), some (.int (iI x2)), some (.int (iI 0)), none]) (st' := []) rfl ?_
          exact hW none _ S
        · have dc4 := c4
          have hW := hW.2 dc4
          exact wp_vret rfl rfl ⟨_, _, _, rfl, S, hW⟩
theorem vc_X1_swapRows_23 {E : am_E} {k : Nat} {x1 : Int} {x2 : Int} {y1 : Int} {y2 : Int} {y3 : Int} {m : MM} {γ : GM} {t : am_H} {Q : MM → GM → am_H → Prop} (hx1 : rJ x1) (hx2 : rJ x2) (hy1 : rJ y1) (hy2 : rJ y2) (hy3 : rJ y3) (hW : W_X1_swapRows_23 E k x1 x2 y1 y2 y3 m γ t Q) : hd_X1_swapRows_23 E k x1 x2 y1 y2 y3 m γ t Q := by
  unfold W_X1_swapRows_23 at hW
  intro z4 h S
  refine wp_g (n := 2) (pc' := 26) (L' := [some (.ref 51), some (.int (iI y1)), some (.int (iI y2)), some (.int (iI y3)), z4]) (st' := [.int (iI 40), .int (iI y3)]) rfl ?_
  refine wp_icmpI (a := y3) (b := 40) rfl rfl hy3.1 hy3.2 (by decide) (by decide) (fun c1 => ?_) (fun c1 => ?_)
  · have dc1 := (Int.not_lt.mpr c1)
    have hW := hW.2 dc1
    exact wp_vret rfl rfl ⟨_, _, _, rfl, S, hW⟩
  · have dc1 := (Int.not_le.mp c1)
    have hW := hW.1 dc1
    refine wp_g (n := 1) (pc' := 30) (L' := [some (.ref 51), some (.int (iI y1)), some (.int (iI y2)), some (.int (iI y3)), z4]) (st' := [.ref 51]) rfl ?_
    refine wp_getf (v := .ref 52) rfl rfl (S.cell 51 (nc rfl)) (by decide) rfl ?_
    refine wp_g (n := 1) (pc' := 34) (L' := [some (.ref 51), some (.int (iI y1)), some (.int (iI y2)), some (.int (iI y3)), z4]) (st' := [.int (iI y1), .ref 52]) rfl ?_
    obtain ⟨p2, hW⟩ := hW
    have hn3 : (y1).toNat < 24 := by omega
    refine wp_rald (n := 24) (b := (53 + (y1).toNat)) rfl (S.cell 52 (nc rfl)) p2.1 p2.2 (by decide) (if_pos hn3) ?_
    refine wp_g (n := 1) (pc' := 36) (L' := [some (.ref 51), some (.int (iI y1)), some (.int (iI y2)), some (.int (iI y3)), z4]) (st' := [.int (iI y3), .ref (53 + (y1).toNat)]) rfl ?_
    obtain ⟨p4, hW⟩ := hW
    refine wp_iald (n := 40) (F := (m (53 + (y1).toNat))) rfl (ST.col S hn3) (by omega) p4.1 p4.2 (by decide) ?_
    show wp _ _ _ _ _ [.int (iI (m (53 + (y1).toNat) ((y3).toNat)))] _ _
    have hr5 : rJ (m (53 + (y1).toNat) ((y3).toNat)) := S.rg (53 + (y1).toNat) ((y3).toNat) (nl_53 hn3)
    refine wp_g (n := 2) (pc' := 40) (L' := [some (.ref 51), some (.int (iI y1)), some (.int (iI y2)), some (.int (iI y3)), some (.int (iI (m (53 + (y1).toNat) ((y3).toNat))))]) (st' := [.ref 51]) rfl ?_
    refine wp_getf (v := .ref 52) rfl rfl (S.cell 51 (nc rfl)) (by decide) rfl ?_
    refine wp_g (n := 1) (pc' := 44) (L' := [some (.ref 51), some (.int (iI y1)), some (.int (iI y2)), some (.int (iI y3)), some (.int (iI (m (53 + (y1).toNat) ((y3).toNat))))]) (st' := [.int (iI y1), .ref 52]) rfl ?_
    obtain ⟨p6, hW⟩ := hW
    have hn7 : (y1).toNat < 24 := by omega
    refine wp_rald (n := 24) (b := (53 + (y1).toNat)) rfl (S.cell 52 (nc rfl)) p6.1 p6.2 (by decide) (if_pos hn7) ?_
    refine wp_g (n := 2) (pc' := 47) (L' := [some (.ref 51), some (.int (iI y1)), some (.int (iI y2)), some (.int (iI y3)), some (.int (iI (m (53 + (y1).toNat) ((y3).toNat))))]) (st' := [.ref 51, .int (iI y3), .ref (53 + (y1).toNat)]) rfl ?_
    refine wp_getf (v := .ref 52) rfl rfl (S.cell 51 (nc rfl)) (by decide) rfl ?_
    refine wp_g (n := 1) (pc' := 51) (L' := [some (.ref 51), some (.int (iI y1)), some (.int (iI y2)), some (.int (iI y3)), some (.int (iI (m (53 + (y1).toNat) ((y3).toNat))))]) (st' := [.int (iI y2), .ref 52, .int (iI y3), .ref (53 + (y1).toNat)]) rfl ?_
    obtain ⟨p8, hW⟩ := hW
    have hn9 : (y2).toNat < 24 := by omega
    refine wp_rald (n := 24) (b := (53 + (y2).toNat)) rfl (S.cell 52 (nc rfl)) p8.1 p8.2 (by decide) (if_pos hn9) ?_
    refine wp_g (n := 1) (pc' := 53) (L' := [some (.ref 51), some (.int (iI y1)), some (.int (iI y2)), some (.int (iI y3)), some (.int (iI (m (53 + (y1).toNat) ((y3).toNat))))]) (st' := [.int (iI y3), .ref (53 + (y2).toNat), .int (iI y3), .ref (53 + (y1).toNat)]) rfl ?_
    obtain ⟨p10, hW⟩ := hW
    refine wp_iald (n := 40) (F := (m (53 + (y2).toNat))) rfl (ST.col S hn9) (by omega) p10.1 p10.2 (by decide) ?_
    show wp _ _ _ _ _ [.int (iI (m (53 + (y2).toNat) ((y3).toNat))), .int (iI y3), .ref (53 + (y1).toNat)] _ _
    have hr11 : rJ (m (53 + (y2).toNat) ((y3).toNat)) := S.rg (53 + (y2).toNat) ((y3).toNat) (nl_53 hn9)
    obtain ⟨p13, hW⟩ := hW
    refine wp_iasF (n := 40) (F := (m (53 + (y1).toNat))) (y := (m (53 + (y2).toNat) ((y3).toNat))) rfl (ST.col S hn7) p13.1 p13.2 (by decide) (fun H12 hl12 hz12 hf12 => ?_)
    have S : ST H12 (up m (53 + (y1).toNat) (up (m (53 + (y1).toNat)) ((y3).toNat) (m (53 + (y2).toNat) ((y3).toNat)))) γ t := S.setI (53 + (y1).toNat) (nc_53 hn7) hl12 (by rw [lay_53 hn7]; exact hz12) hf12 hr11.1 hr11.2
    obtain ⟨m14, hm14⟩ : ∃ m14, m14 = (up m (53 + (y1).toNat) (up (m (53 + (y1).toNat)) ((y3).toNat) (m (53 + (y2).toNat) ((y3).toNat)))) := ⟨_, rfl⟩
    rw [← hm14] at S
    have hW := hW m14 hm14
    refine wp_g (n := 1) (pc' := 56) (L' := [some (.ref 51), some (.int (iI y1)), some (.int (iI y2)), some (.int (iI y3)), some (.int (iI (m (53 + (y1).toNat) ((y3).toNat))))]) (st' := [.ref 51]) rfl ?_
    refine wp_getf (v := .ref 52) rfl rfl (S.cell 51 (nc rfl)) (by decide) rfl ?_
    refine wp_g (n := 1) (pc' := 60) (L' := [some (.ref 51), some (.int (iI y1)), some (.int (iI y2)), some (.int (iI y3)), some (.int (iI (m (53 + (y1).toNat) ((y3).toNat))))]) (st' := [.int (iI y2), .ref 52]) rfl ?_
    obtain ⟨p15, hW⟩ := hW
    have hn16 : (y2).toNat < 24 := by omega
    refine wp_rald (n := 24) (b := (53 + (y2).toNat)) rfl (S.cell 52 (nc rfl)) p15.1 p15.2 (by decide) (if_pos hn16) ?_
    refine wp_g (n := 2) (pc' := 64) (L' := [some (.ref 51), some (.int (iI y1)), some (.int (iI y2)), some (.int (iI y3)), some (.int (iI (m (53 + (y1).toNat) ((y3).toNat))))]) (st' := [.int (iI (m (53 + (y1).toNat) ((y3).toNat))), .int (iI y3), .ref (53 + (y2).toNat)]) rfl ?_
    obtain ⟨p18, hW⟩ := hW
    refine wp_iasF (n := 40) (F := (m14 (53 + (y2).toNat))) (y := (m (53 + (y1).toNat) ((y3).toNat))) rfl (ST.col S hn16) p18.1 p18.2 (by decide) (fun H17 hl17 hz17 hf17 => ?_)
    have S : ST H17 (up m14 (53 + (y2).toNat) (up (m14 (53 + (y2).toNat)) ((y3).toNat) (m (53 + (y1).toNat) ((y3).toNat)))) γ t := S.setI (53 + (y2).toNat) (nc_53 hn16) hl17 (by rw [lay_53 hn16]; exact hz17) hf17 hr5.1 hr5.2
    obtain ⟨m19, hm19⟩ : ∃ m19, m19 = (up m14 (53 + (y2).toNat) (up (m14 (53 + (y2).toNat)) ((y3).toNat) (m (53 + (y1).toNat) ((y3).toNat)))) := ⟨_, rfl⟩
    rw [← hm19] at S
    have hW := hW m19 hm19
    refine wp_iinc (L' := [some (.ref 51), some (.int (iI y1)), some (.int (iI y2)), some (.int (iI (y3 + 1))), some (.int (iI (m (53 + (y1).toNat) ((y3).toNat))))]) (a := y3) rfl rfl rfl ?_
    refine wp_g (n := 1) (pc' := 23) (L' := [some (.ref 51), some (.int (iI y1)), some (.int (iI y2)), some (.int (iI (y3 + 1))), some (.int (iI (m (53 + (y1).toNat) ((y3).toNat))))]) (st' := []) rfl ?_
    exact hW (some (.int (iI (m (53 + (y1).toNat) ((y3).toNat))))) _ S
def hd_X1_rowWith_14 (E : am_E) (k : Nat) (x1 : Int) (x2 : Int) (x3 : Int) (y2 : Int) (y3 : Int) (y4 : Int) (m : MM) (γ : GM) (t : am_H) (Q : Int → MM → GM → am_H → Prop) : Prop := ∀ (z1 : Option Value), TT (pI Q) E (k + 1) 12 14 [some (.ref 51), z1, some (.int (iI y2)), some (.int (iI y3)), some (.int (iI y4))] [] m γ t
abbrev W_X1_rowWith (E : am_E) (k : Nat) (x1 : Int) (x2 : Int) (x3 : Int) (m : MM) (γ : GM) (t : am_H) (Q : Int → MM → GM → am_H → Prop) : Prop := (((x1 < 0) → (Q (-1) m γ t)) ∧ (¬ (x1 < 0) → (((x3 < 2) → (Q (-1) m γ t)) ∧ (¬ (x3 < 2) → (hd_X1_rowWith_14 E k x1 x2 x3 x2 x3 x1 m γ t Q)))))
abbrev W_X1_rowWith_14 (E : am_E) (k : Nat) (x1 : Int) (x2 : Int) (x3 : Int) (y2 : Int) (y3 : Int) (y4 : Int) (m : MM) (γ : GM) (t : am_H) (Q : Int → MM → GM → am_H → Prop) : Prop := (((y4 < (m 51 1)) → (((y4 < 24) → ((0 ≤ y4 ∧ y4 < 24) ∧ ((0 ≤ y2 ∧ y2 < 40) ∧ (TI E k 309 [.int (iI (m (53 + (y4).toNat) ((y2).toNat))), .int (iI y3)] m γ t (fun v8 m8 γ8 t8 => (((v8 = 0) → (hd_X1_rowWith_14 E k x1 x2 x3 y2 y3 (y4 + 1) m8 γ8 t8 Q)) ∧ (¬ (v8 = 0) → (Q y4 m8 γ8 t8)))))))) ∧ (¬ (y4 < 24) → (Q (-1) m γ t)))) ∧ (¬ (y4 < (m 51 1)) → (Q (-1) m γ t)))
theorem vc_X1_rowWith {E : am_E} {k : Nat} {x1 : Int} {x2 : Int} {x3 : Int} {m : MM} {γ : GM} {t : am_H} {Q : Int → MM → GM → am_H → Prop} (hx1 : rJ x1) (hx2 : rJ x2) (hx3 : rJ x3) (hW : W_X1_rowWith E k x1 x2 x3 m γ t Q) : TI E (k + 1) 12 [.ref 51, .int (iI x1), .int (iI x2), .int (iI x3)] m γ t Q := by
  unfold W_X1_rowWith at hW
  intro h S
  refine wp_g (n := 1) (pc' := 1) (L' := [some (.ref 51), some (.int (iI x1)), some (.int (iI x2)), some (.int (iI x3)), none]) (st' := [.int (iI x1)]) rfl ?_
  refine wp_ifI (a := x1) rfl rfl hx1.1 hx1.2 (fun c1 => ?_) (fun c1 => ?_)
  · have dc1 := c1
    have hW := hW.1 dc1
    refine wp_g (n := 1) (pc' := 10) (L' := [some (.ref 51), some (.int (iI x1)), some (.int (iI x2)), some (.int (iI x3)), none]) (st' := [.int (iI (-1))]) rfl ?_
    exact wp_iret rfl rfl ⟨_, _, _, _, rfl, (by decide), S, hW⟩
  · have dc1 := c1
    have hW := hW.2 dc1
    refine wp_g (n := 2) (pc' := 6) (L' := [some (.ref 51), some (.int (iI x1)), some (.int (iI x2)), some (.int (iI x3)), none]) (st' := [.int (iI 2), .int (iI x3)]) rfl ?_
    refine wp_icmpI (a := x3) (b := 2) rfl rfl hx3.1 hx3.2 (by decide) (by decide) (fun c2 => ?_) (fun c2 => ?_)
    · have dc2 := (Int.not_lt.mpr c2)
      have hW := hW.2 dc2
      refine wp_g (n := 2) (pc' := 14) (L' := [some (.ref 51), some (.int (iI x1)), some (.int (iI x2)), some (.int (iI x3)), some (.int (iI x1))]) (st' := []) rfl ?_
      exact hW (some (.int (iI x1))) _ S
    · have dc2 := (Int.not_le.mp c2)
      have hW := hW.1 dc2
      refine wp_g (n := 1) (pc' := 10) (L' := [some (.ref 51), some (.int (iI x1)), some (.int (iI x2)), some (.int (iI x3)), none]) (st' := [.int (iI (-1))]) rfl ?_
      exact wp_iret rfl rfl ⟨_, _, _, _, rfl, (by decide), S, hW⟩
theorem vc_X1_rowWith_14 {E : am_E} {k : Nat} {x1 : Int} {x2 : Int} {x3 : Int} {y2 : Int} {y3 : Int} {y4 : Int} {m : MM} {γ : GM} {t : am_H} {Q : Int → MM → GM → am_H → Prop} (hx1 : rJ x1) (hx2 : rJ x2) (hx3 : rJ x3) (hy2 : rJ y2) (hy3 : rJ y3) (hy4 : rJ y4) (hW : W_X1_rowWith_14 E k x1 x2 x3 y2 y3 y4 m γ t Q) : hd_X1_rowWith_14 E k x1 x2 x3 y2 y3 y4 m γ t Q := by
  unfold W_X1_rowWith_14 at hW
  intro z1 h S
  refine wp_g (n := 2) (pc' := 17) (L' := [some (.ref 51), z1, some (.int (iI y2)), some (.int (iI y3)), some (.int (iI y4))]) (st' := [.ref 51, .int (iI y4)]) rfl ?_
  refine wp_getf (v := .int (iI (m 51 1))) rfl rfl (S.cell 51 (nc rfl)) (by decide) rfl ?_
  have hr1 : rJ (m 51 1) := S.rg 51 1 (nl rfl)
  refine wp_icmpI (a := y4) (b := (m 51 1)) rfl rfl hy4.1 hy4.2 hr1.1 hr1.2 (fun c2 => ?_) (fun c2 => ?_)
  · have dc2 := (Int.not_lt.mpr c2)
    have hW := hW.2 dc2
    refine wp_g (n := 1) (pc' := 56) (L' := [some (.ref 51), z1, some (.int (iI y2)), some (.int (iI y3)), some (.int (iI y4))]) (st' := [.int (iI (-1))]) rfl ?_
    exact wp_iret rfl rfl ⟨_, _, _, _, rfl, (by decide), S, hW⟩
  · have dc2 := (Int.not_le.mp c2)
    have hW := hW.1 dc2
    refine wp_g (n := 2) (pc' := 27) (L' := [some (.ref 51), z1, some (.int (iI y2)), some (.int (iI y3)), some (.int (iI y4))]) (st' := [.int (iI 24), .int (iI y4)]) rfl ?_
    refine wp_icmpI (a := y4) (b := 24) rfl rfl hy4.1 hy4.2 (by decide) (by decide) (fun c3 => ?_) (fun c3 => ?_)
    · have dc3 := (Int.not_lt.mpr c3)
      have hW := hW.2 dc3
      refine wp_g (n := 1) (pc' := 56) (L' := [some (.ref 51), z1, some (.int (iI y2)), some (.int (iI y3)), some (.int (iI y4))]) (st' := [.int (iI (-1))]) rfl ?_
      exact wp_iret rfl rfl ⟨_, _, _, _, rfl, (by decide), S, hW⟩
    · have dc3 := (Int.not_le.mp c3)
      have hW := hW.1 dc3
      refine wp_g (n := 1) (pc' := 31) (L' := [some (.ref 51), z1, some (.int (iI y2)), some (.int (iI y3)), some (.int (iI y4))]) (st' := [.ref 51]) rfl ?_
      refine wp_getf (v := .ref 52) rfl rfl (S.cell 51 (nc rfl)) (by decide) rfl ?_
      refine wp_g (n := 1) (pc' := 36) (L' := [some (.ref 51), z1, some (.int (iI y2)), some (.int (iI y3)), some (.int (iI y4))]) (st' := [.int (iI y4), .ref 52]) rfl ?_
      obtain ⟨p4, hW⟩ := hW
      have hn5 : (y4).toNat < 24 := by omega
      refine wp_rald (n := 24) (b := (53 + (y4).toNat)) rfl (S.cell 52 (nc rfl)) p4.1 p4.2 (by decide) (if_pos hn5) ?_
      refine wp_g (n := 1) (pc' := 38) (L' := [some (.ref 51), z1, some (.int (iI y2)), some (.int (iI y3)), some (.int (iI y4))]) (st' := [.int (iI y2), .ref (53 + (y4).toNat)]) rfl ?_
      obtain ⟨p6, hW⟩ := hW
      refine wp_iald (n := 40) (F := (m (53 + (y4).toNat))) rfl (ST.col S hn5) (by omega) p6.1 p6.2 (by decide) ?_
      show wp _ _ _ _ _ [.int (iI (m (53 + (y4).toNat) ((y2).toNat)))] _ _
      have hr7 : rJ (m (53 + (y4).toNat) ((y2).toNat)) := S.rg (53 + (y4).toNat) ((y2).toNat) (nl_53 hn5)
      refine wp_g (n := 1) (pc' := 40) (L' := [some (.ref 51), z1, some (.int (iI y2)), some (.int (iI y3)), some (.int (iI y4))]) (st' := [.int (iI y3), .int (iI (m (53 + (y4).toNat) ((y2).toNat)))]) rfl ?_
      refine wp_cs (As := [.int (iI (m (53 + (y4).toNat) ((y2).toNat))), .int (iI y3)]) (rest := []) rfl rfl rfl rfl (Nat.le_of_ble_eq_true rfl) (Nat.le_of_ble_eq_true rfl) (hW _ S) (fun r8 H8 q8 => ?_)
      obtain ⟨v8, m8, γ8, t8, rfl, hv8, S, hW⟩ := q8
      show wp _ _ _ _ _ [.int (iI v8)] _ _
      refine wp_ifI (a := v8) rfl rfl hv8.1 hv8.2 (fun c9 => ?_) (fun c9 => ?_)
      · have dc9 := c9
        have hW := hW.1 dc9
        refine wp_iinc (L' := [some (.ref 51), z1, some (.int (iI y2)), some (.int (iI y3)), some (.int (iI (y4 + 1)))]) (a := y4) rfl rfl rfl ?_
        refine wp_g (n := 1) (pc' := 14) (L' := [some (.ref 51), z1, some (.int (iI y2)), some (.int (iI y3)), some (.int (iI (y4 + 1)))]) (st' := []) rfl ?_
        exact hW z1 _ S
      · have dc9 := c9
        have hW := hW.2 dc9
        refine wp_g (n := 1) (pc' := 48) (L' := [some (.ref 51), z1, some (.int (iI y2)), some (.int (iI y3)), some (.int (iI y4))]) (st' := [.int (iI y4)]) rfl ?_
        exact wp_iret rfl rfl ⟨_, _, _, _, rfl, hy4, S, hW⟩
def hd_X1_clearBelow_31 (E : am_E) (k : Nat) (x1 : Int) (x2 : Int) (x3 : Int) (y1 : Int) (y2 : Int) (y3 : Int) (y4 : Int) (y5 : Int) (m : MM) (γ : GM) (t : am_H) (Q : MM → GM → am_H → Prop) : Prop := ∀ (z6 z7 : Option Value), TT (pV Q) E (k + 1) 13 31 [some (.ref 51), some (.int (iI y1)), some (.int (iI y2)), some (.int (iI y3)), some (.int (iI y4)), some (.int (iI y5)), z6, z7] [] m γ t
def hd_X1_clearBelow_61 (E : am_E) (k : Nat) (x1 : Int) (x2 : Int) (x3 : Int) (y1 : Int) (y2 : Int) (y3 : Int) (y4 : Int) (y5 : Int) (y6 : Int) (y7 : Int) (m : MM) (γ : GM) (t : am_H) (Q : MM → GM → am_H → Prop) : Prop := TT (pV Q) E (k + 1) 13 61 [some (.ref 51), some (.int (iI y1)), some (.int (iI y2)), some (.int (iI y3)), some (.int (iI y4)), some (.int (iI y5)), some (.int (iI y6)), some (.int (iI y7))] [] m γ t
abbrev W_X1_clearBelow (E : am_E) (k : Nat) (x1 : Int) (x2 : Int) (x3 : Int) (m : MM) (γ : GM) (t : am_H) (Q : MM → GM → am_H → Prop) : Prop := (((x1 < 0) → (Q m γ t)) ∧ (¬ (x1 < 0) → (((x1 < 24) → (((x3 < 2) → (Q m γ t)) ∧ (¬ (x3 < 2) → ((0 ≤ x1 ∧ x1 < 24) ∧ ((0 ≤ x2 ∧ x2 < 40) ∧ (hd_X1_clearBelow_31 E k x1 x2 x3 x1 x2 x3 (m (53 + (x1).toNat) ((x2).toNat)) (x1 + 1) m γ t Q)))))) ∧ (¬ (x1 < 24) → (Q m γ t)))))
abbrev W_X1_clearBelow_31 (E : am_E) (k : Nat) (x1 : Int) (x2 : Int) (x3 : Int) (y1 : Int) (y2 : Int) (y3 : Int) (y4 : Int) (y5 : Int) (m : MM) (γ : GM) (t : am_H) (Q : MM → GM → am_H → Prop) : Prop := (((y5 < (m 51 1)) → (((y5 < 24) → ((0 ≤ y5 ∧ y5 < 24) ∧ ((0 ≤ y2 ∧ y2 < 40) ∧ (hd_X1_clearBelow_61 E k x1 x2 x3 y1 y2 y3 y4 y5 (m (53 + (y5).toNat) ((y2).toNat)) 0 m γ t Q)))) ∧ (¬ (y5 < 24) → (Q m γ t)))) ∧ (¬ (y5 < (m 51 1)) → (Q m γ t)))
abbrev W_X1_clearBelow_61 (E : am_E) (k : Nat) (x1 : Int) (x2 : Int) (x3 : Int) (y1 : Int) (y2 : Int) (y3 : Int) (y4 : Int) (y5 : Int) (y6 : Int) (y7 : Int) (m : MM) (γ : GM) (t : am_H) (Q : MM → GM → am_H → Prop) : Prop := (((y7 < (m 51 2)) → (((y7 < 40) → ((0 ≤ y5 ∧ y5 < 24) ∧ ((0 ≤ y5 ∧ y5 < 24) ∧ ((0 ≤ y7 ∧ y7 < 40) ∧ ((0 ≤ y1 ∧ y1 < 24) ∧ ((0 ≤ y7 ∧ y7 < 40) ∧ (TI E k 309 [.int (iI (((m (53 + (y5).toNat) ((y7).toNat)) * y4) - ((m (53 + (y1).toNat) ((y7).toNat)) * y6))), .int (iI y3)] m γ t (fun v14 m14 γ14 t14 => ((0 ≤ y7 ∧ y7 < 40) ∧ (∀ m17, m17 = (up m14 (53 + (y5).toNat) (up (m14 (53 + (y5).toNat)) ((y7).toNat) v14)) → (hd_X1_clearBelow_61 E k x1 x2 x3 y1 y2 y3 y4 y5 y6 (y7 + 1) m17 γ14 t14 Q))))))))))) ∧ (¬ (y7 < 40) → (hd_X1_clearBelow_31 E k x1 x2 x3 y1 y2 y3 y4 (y5 + 1) m γ t Q)))) ∧ (¬ (y7 < (m 51 2)) → (hd_X1_clearBelow_31 E k x1 x2 x3 y1 y2 y3 y4 (y5 + 1) m γ t Q)))
theorem vc_X1_clearBelow {E : am_E} {k : Nat} {x1 : Int} {x2 : Int} {x3 : Int} {m : MM} {γ : GM} {t : am_H} {Q : MM → GM → am_H → Prop} (hx1 : rJ x1) (hx2 : rJ x2) (hx3 : rJ x3) (hW : W_X1_clearBelow E k x1 x2 x3 m γ t Q) : TV E (k + 1) 13 [.ref 51, .int (iI x1), .int (iI x2), .int (iI x3)] m γ t Q := by
  unfold W_X1_clearBelow at hW
  intro h S
  refine wp_g (n := 1) (pc' := 1) (L' := [some (.ref 51), some (.int (iI x1)), some (.int (iI x2)), some (.int (iI x3)), none, none, none, none]) (st' := [.int (iI x1)]) rfl ?_
  refine wp_ifI (a := x1) rfl rfl hx1.1 hx1.2 (fun c1 => ?_) (fun c1 => ?_)
  · have dc1 := c1
    have hW := hW.1 dc1
    exact wp_vret rfl rfl ⟨_, _, _, rfl, S, hW⟩
  · have dc1 := c1
    have hW := hW.2 dc1
    refine wp_g (n := 2) (pc' := 7) (L' := [some (.ref 51), some (.int (iI x1)), some (.int (iI x2)), some (.int (iI x3)), none, none, none, none]) (st' := [.int (iI 24), .int (iI x1)]) rfl ?_
    refine wp_icmpI (a := x1) (b := 24) rfl rfl hx1.1 hx1.2 (by decide) (by decide) (fun c2 => ?_) (fun c2 => ?_)
    · have dc2 := (Int.not_lt.mpr c2)
      have hW := hW.2 dc2
      exact wp_vret rfl rfl ⟨_, _, _, rfl, S, hW⟩
    · have dc2 := (Int.not_le.mp c2)
      have hW := hW.1 dc2
      refine wp_g (n := 2) (pc' := 12) (L' := [some (.ref 51), some (.int (iI x1)), some (.int (iI x2)), some (.int (iI x3)), none, none, none, none]) (st' := [.int (iI 2), .int (iI x3)]) rfl ?_
      refine wp_icmpI (a := x3) (b := 2) rfl rfl hx3.1 hx3.2 (by decide) (by decide) (fun c3 => ?_) (fun c3 => ?_)
      · have dc3 := (Int.not_lt.mpr c3)
        have hW := hW.2 dc3
        refine wp_g (n := 1) (pc' := 17) (L' := [some (.ref 51), some (.int (iI x1)), some (.int (iI x2)), some (.int (iI x3)), none, none, none, none]) (st' := [.ref 51]) rfl ?_
        refine wp_getf (v := .ref 52) rfl rfl (S.cell 51 (nc rfl)) (by decide) rfl ?_
        refine wp_g (n := 1) (pc' := 21) (L' := [some (.ref 51), some (.int (iI x1)), some (.int (iI x2)), some (.int (iI x3)), none, none, none, none]) (st' := [.int (iI x1), .ref 52]) rfl ?_
        obtain ⟨p4, hW⟩ := hW
        have hn5 : (x1).toNat < 24 := by omega
        refine wp_rald (n := 24) (b := (53 + (x1).toNat)) rfl (S.cell 52 (nc rfl)) p4.1 p4.2 (by decide) (if_pos hn5) ?_
        refine wp_g (n := 1) (pc' := 23) (L' := [some (.ref 51), some (.int (iI x1)), some (.int (iI x2)), some (.int (iI x3)), none, none, none, none]) (st' := [.int (iI x2), .ref (53 + (x1).toNat)]) rfl ?_
        obtain ⟨p6, hW⟩ := hW
        refine wp_iald (n := 40) (F := (m (53 + (x1).toNat))) rfl (ST.col S hn5) (by omega) p6.1 p6.2 (by decide) ?_
        show wp _ _ _ _ _ [.int (iI (m (53 + (x1).toNat) ((x2).toNat)))] _ _
        have hr7 : rJ (m (53 + (x1).toNat) ((x2).toNat)) := S.rg (53 + (x1).toNat) ((x2).toNat) (nl_53 hn5)
        refine wp_g (n := 3) (pc' := 28) (L' := [some (.ref 51), some (.int (iI x1)), some (.int (iI x2)), some (.int (iI x3)), some (.int (iI (m (53 + (x1).toNat) ((x2).toNat)))), none, none, none]) (st' := [.int (iI 1), .int (iI x1)]) rfl ?_
        refine wp_add (a := x1) (b := 1) rfl ?_
        refine wp_g (n := 1) (pc' := 31) (L' := [some (.ref 51), some (.int (iI x1)), some (.int (iI x2)), some (.int (iI x3)), some (.int (iI (m (53 + (x1).toNat) ((x2).toNat)))), some (.int (iI (x1 + 1))), none, none]) (st' := []) rfl ?_
        exact hW none none _ S
      · have dc3 := (Int.not_le.mp c3)
        have hW := hW.1 dc3
        exact wp_vret rfl rfl ⟨_, _, _, rfl, S, hW⟩
theorem vc_X1_clearBelow_31 {E : am_E} {k : Nat} {x1 : Int} {x2 : Int} {x3 : Int} {y1 : Int} {y2 : Int} {y3 : Int} {y4 : Int} {y5 : Int} {m : MM} {γ : GM} {t : am_H} {Q : MM → GM → am_H → Prop} (hx1 : rJ x1) (hx2 : rJ x2) (hx3 : rJ x3) (hy1 : rJ y1) (hy2 : rJ y2) (hy3 : rJ y3) (hy4 : rJ y4) (hy5 : rJ y5) (hW : W_X1_clearBelow_31 E k x1 x2 x3 y1 y2 y3 y4 y5 m γ t Q) : hd_X1_clearBelow_31 E k x1 x2 x3 y1 y2 y3 y4 y5 m γ t Q := by
  unfold W_X1_clearBelow_31 at hW
  intro z6 z7 h S
  refine wp_g (n := 2) (pc' := 34) (L' := [some (.ref 51), some (.int (iI y1)), some (.int (iI y2)), some (.int (iI y3)), some (.int (iI y4)), some (.int (iI y5)), z6, z7]) (st' := [.ref 51, .int (iI y5)]) rfl ?_
  refine wp_getf (v := .int (iI (m 51 1))) rfl rfl (S.cell 51 (nc rfl)) (by decide) rfl ?_
  have hr1 : rJ (m 51 1) := S.rg 51 1 (nl rfl)
  refine wp_icmpI (a := y5) (b := (m 51 1)) rfl rfl hy5.1 hy5.2 hr1.1 hr1.2 (fun c2 => ?_) (fun c2 => ?_)
  · have dc2 := (Int.not_lt.mpr c2)
    have hW := hW.2 dc2
    exact wp_vret rfl rfl ⟨_, _, _, rfl, S, hW⟩
  · have dc2 := (Int.not_le.mp c2)
    have hW := hW.1 dc2
    refine wp_g (n := 2) (pc' := 44) (L' := [some (.ref 51), some (.int (iI y1)), some (.int (iI y2)), some (.int (iI y3)), some (.int (iI y4)), some (.int (iI y5)), z6, z7]) (st' := [.int (iI 24), .int (iI y5)]) rfl ?_
    refine wp_icmpI (a := y5) (b := 24) rfl rfl hy5.1 hy5.2 (by decide) (by decide) (fun c3 => ?_) (fun c3 => ?_)
    · have dc3 := (Int.not_lt.mpr c3)
      have hW := hW.2 dc3
      exact wp_vret rfl rfl ⟨_, _, _, rfl, S, hW⟩
    · have dc3 := (Int.not_le.mp c3)
      have hW := hW.1 dc3
      refine wp_g (n := 1) (pc' := 48) (L' := [some (.ref 51), some (.int (iI y1)), some (.int (iI y2)), some (.int (iI y3)), some (.int (iI y4)), some (.int (iI y5)), z6, z7]) (st' := [.ref 51]) rfl ?_
      refine wp_getf (v := .ref 52) rfl rfl (S.cell 51 (nc rfl)) (by decide) rfl ?_
      refine wp_g (n := 1) (pc' := 53) (L' := [some (.ref 51), some (.int (iI y1)), some (.int (iI y2)), some (.int (iI y3)), some (.int (iI y4)), some (.int (iI y5)), z6, z7]) (st' := [.int (iI y5), .ref 52]) rfl ?_
      obtain ⟨p4, hW⟩ := hW
      have hn5 : (y5).toNat < 24 := by omega
      refine wp_rald (n := 24) (b := (53 + (y5).toNat)) rfl (S.cell 52 (nc rfl)) p4.1 p4.2 (by decide) (if_pos hn5) ?_
      refine wp_g (n := 1) (pc' := 55) (L' := [some (.ref 51), some (.int (iI y1)), some (.int (iI y2)), some (.int (iI y3)), some (.int (iI y4)), some (.int (iI y5)), z6, z7]) (st' := [.int (iI y2), .ref (53 + (y5).toNat)]) rfl ?_
      obtain ⟨p6, hW⟩ := hW
      refine wp_iald (n := 40) (F := (m (53 + (y5).toNat))) rfl (ST.col S hn5) (by omega) p6.1 p6.2 (by decide) ?_
      show wp _ _ _ _ _ [.int (iI (m (53 + (y5).toNat) ((y2).toNat)))] _ _
      have hr7 : rJ (m (53 + (y5).toNat) ((y2).toNat)) := S.rg (53 + (y5).toNat) ((y2).toNat) (nl_53 hn5)
      refine wp_g (n := 3) (pc' := 61) (L' := [some (.ref 51), some (.int (iI y1)), some (.int (iI y2)), some (.int (iI y3)), some (.int (iI y4)), some (.int (iI y5)), some (.int (iI (m (53 + (y5).toNat) ((y2).toNat)))), some (.int (iI 0))]) (st' := []) rfl ?_
      exact hW _ S
theorem vc_X1_clearBelow_61 {E : am_E} {k : Nat} {x1 : Int} {x2 : Int} {x3 : Int} {y1 : Int} {y2 : Int} {y3 : Int} {y4 : Int} {y5 : Int} {y6 : Int} {y7 : Int} {m : MM} {γ : GM} {t : am_H} {Q : MM → GM → am_H → Prop} (hx1 : rJ x1) (hx2 : rJ x2) (hx3 : rJ x3) (hy1 : rJ y1) (hy2 : rJ y2) (hy3 : rJ y3) (hy4 : rJ y4) (hy5 : rJ y5) (hy6 : rJ y6) (hy7 : rJ y7) (hW : W_X1_clearBelow_61 E k x1 x2 x3 y1 y2 y3 y4 y5 y6 y7 m γ t Q) : hd_X1_clearBelow_61 E k x1 x2 x3 y1 y2 y3 y4 y5 y6 y7 m γ t Q := by
  unfold W_X1_clearBelow_61 at hW
  intro h S
  refine wp_g (n := 2) (pc' := 64) (L' := [some (.ref 51), some (.int (iI y1)), some (.int (iI y2)), some (.int (iI y3)), some (.int (iI y4)), some (.int (iI y5)), some (.int (iI y6)), some (.int (iI y7))]) (st' := [.ref 51, .int (iI y7)]) rfl ?_
  refine wp_getf (v := .int (iI (m 51 2))) rfl rfl (S.cell 51 (nc rfl)) (by decide) rfl ?_
  have hr1 : rJ (m 51 2) := S.rg 51 2 (nl rfl)
  refine wp_icmpI (a := y7) (b := (m 51 2)) rfl rfl hy7.1 hy7.2 hr1.1 hr1.2 (fun c2 => ?_) (fun c2 => ?_)
  · have dc2 := (Int.not_lt.mpr c2)
    have hW := hW.2 dc2
    refine wp_iinc (L' := [some (.ref 51), some (.int (iI y1)), some (.int (iI y2)), some (.int (iI y3)), some (.int (iI y4)), some (.int (iI (y5 + 1))), some (.int (iI y6)), some (.int (iI y7))]) (a := y5) rfl rfl rfl ?_
    refine wp_g (n := 1) (pc' := 31) (L' := [some (.ref 51), some (.int (iI y1)), some (.int (iI y2)), some (.int (iI y3)), some (.int (iI y4)), some (.int (iI (y5 + 1))), some (.int (iI y6)), some (.int (iI y7))]) (st' := []) rfl ?_
    exact hW (some (.int (iI y6))) (some (.int (iI y7))) _ S
  · have dc2 := (Int.not_le.mp c2)
    have hW := hW.1 dc2
    refine wp_g (n := 2) (pc' := 74) (L' := [some (.ref 51), some (.int (iI y1)), some (.int (iI y2)), some (.int (iI y3)), some (.int (iI y4)), some (.int (iI y5)), some (.int (iI y6)), some (.int (iI y7))]) (st' := [.int (iI 40), .int (iI y7)]) rfl ?_
    refine wp_icmpI (a := y7) (b := 40) rfl rfl hy7.1 hy7.2 (by decide) (by decide) (fun c3 => ?_) (fun c3 => ?_)
    · have dc3 := (Int.not_lt.mpr c3)
      have hW := hW.2 dc3
      refine wp_iinc (L' := [some (.ref 51), some (.int (iI y1)), some (.int (iI y2)), some (.int (iI y3)), some (.int (iI y4)), some (.int (iI (y5 + 1))), some (.int (iI y6)), some (.int (iI y7))]) (a := y5) rfl rfl rfl ?_
      refine wp_g (n := 1) (pc' := 31) (L' := [some (.ref 51), some (.int (iI y1)), some (.int (iI y2)), some (.int (iI y3)), some (.int (iI y4)), some (.int (iI (y5 + 1))), some (.int (iI y6)), some (.int (iI y7))]) (st' := []) rfl ?_
      exact hW (some (.int (iI y6))) (some (.int (iI y7))) _ S
    · have dc3 := (Int.not_le.mp c3)
      have hW := hW.1 dc3
      refine wp_g (n := 1) (pc' := 78) (L' := [some (.ref 51), some (.int (iI y1)), some (.int (iI y2)), some (.int (iI y3)), some (.int (iI y4)), some (.int (iI y5)), some (.int (iI y6)), some (.int (iI y7))]) (st' := [.ref 51]) rfl ?_
      refine wp_getf (v := .ref 52) rfl rfl (S.cell 51 (nc rfl)) (by decide) rfl ?_
      refine wp_g (n := 1) (pc' := 83) (L' := [some (.ref 51), some (.int (iI y1)), some (.int (iI y2)), some (.int (iI y3)), some (.int (iI y4)), some (.int (iI y5)), some (.int (iI y6)), some (.int (iI y7))]) (st' := [.int (iI y5), .ref 52]) rfl ?_
      obtain ⟨p4, hW⟩ := hW
      have hn5 : (y5).toNat < 24 := by omega
      refine wp_rald (n := 24) (b := (53 + (y5).toNat)) rfl (S.cell 52 (nc rfl)) p4.1 p4.2 (by decide) (if_pos hn5) ?_
      refine wp_g (n := 2) (pc' := 87) (L' := [some (.ref 51), some (.int (iI y1)), some (.int (iI y2)), some (.int (iI y3)), some (.int (iI y4)), some (.int (iI y5)), some (.int (iI y6)), some (.int (iI y7))]) (st' := [.ref 51, .int (iI y7), .ref (53 + (y5).toNat)]) rfl ?_
      refine wp_getf (v := .ref 52) rfl rfl (S.cell 51 (nc rfl)) (by decide) rfl ?_
      refine wp_g (n := 1) (pc' := 92) (L' := [some (.ref 51), some (.int (iI y1)), some (.int (iI y2)), some (.int (iI y3)), some (.int (iI y4)), some (.int (iI y5)), some (.int (iI y6)), some (.int (iI y7))]) (st' := [.int (iI y5), .ref 52, .int (iI y7), .ref (53 + (y5).toNat)]) rfl ?_
      obtain ⟨p6, hW⟩ := hW
      have hn7 : (y5).toNat < 24 := by omega
      refine wp_rald (n := 24) (b := (53 + (y5).toNat)) rfl (S.cell 52 (nc rfl)) p6.1 p6.2 (by decide) (if_pos hn7) ?_
      refine wp_g (n := 1) (pc' := 95) (L' := [some (.ref 51), some (.int (iI y1)), some (.int (iI y2)), some (.int (iI y3)), some (.int (iI y4)), some (.int (iI y5)), some (.int (iI y6)), some (.int (iI y7))]) (st' := [.int (iI y7), .ref (53 + (y5).toNat), .int (iI y7), .ref (53 + (y5).toNat)]) rfl ?_
      obtain ⟨p8, hW⟩ := hW
      refine wp_iald (n := 40) (F := (m (53 + (y5).toNat))) rfl (ST.col S hn7) (by omega) p8.1 p8.2 (by decide) ?_
      show wp _ _ _ _ _ [.int (iI (m (53 + (y5).toNat) ((y7).toNat))), .int (iI y7), .ref (53 + (y5).toNat)] _ _
      have hr9 : rJ (m (53 + (y5).toNat) ((y7).toNat)) := S.rg (53 + (y5).toNat) ((y7).toNat) (nl_53 hn7)
      refine wp_g (n := 1) (pc' := 98) (L' := [some (.ref 51), some (.int (iI y1)), some (.int (iI y2)), some (.int (iI y3)), some (.int (iI y4)), some (.int (iI y5)), some (.int (iI y6)), some (.int (iI y7))]) (st' := [.int (iI y4), .int (iI (m (53 + (y5).toNat) ((y7).toNat))), .int (iI y7), .ref (53 + (y5).toNat)]) rfl ?_
      refine wp_mul (a := (m (53 + (y5).toNat) ((y7).toNat))) (b := y4) rfl ?_
      refine wp_g (n := 1) (pc' := 100) (L' := [some (.ref 51), some (.int (iI y1)), some (.int (iI y2)), some (.int (iI y3)), some (.int (iI y4)), some (.int (iI y5)), some (.int (iI y6)), some (.int (iI y7))]) (st' := [.ref 51, .int (iI ((m (53 + (y5).toNat) ((y7).toNat)) * y4)), .int (iI y7), .ref (53 + (y5).toNat)]) rfl ?_
      refine wp_getf (v := .ref 52) rfl rfl (S.cell 51 (nc rfl)) (by decide) rfl ?_
      refine wp_g (n := 1) (pc' := 104) (L' := [some (.ref 51), some (.int (iI y1)), some (.int (iI y2)), some (.int (iI y3)), some (.int (iI y4)), some (.int (iI y5)), some (.int (iI y6)), some (.int (iI y7))]) (st' := [.int (iI y1), .ref 52, .int (iI ((m (53 + (y5).toNat) ((y7).toNat)) * y4)), .int (iI y7), .ref (53 + (y5).toNat)]) rfl ?_
      obtain ⟨p10, hW⟩ := hW
      have hn11 : (y1).toNat < 24 := by omega
      refine wp_rald (n := 24) (b := (53 + (y1).toNat)) rfl (S.cell 52 (nc rfl)) p10.1 p10.2 (by decide) (if_pos hn11) ?_
      refine wp_g (n := 1) (pc' := 107) (L' := [some (.ref 51), some (.int (iI y1)), some (.int (iI y2)), some (.int (iI y3)), some (.int (iI y4)), some (.int (iI y5)), some (.int (iI y6)), some (.int (iI y7))]) (st' := [.int (iI y7), .ref (53 + (y1).toNat), .int (iI ((m (53 + (y5).toNat) ((y7).toNat)) * y4)), .int (iI y7), .ref (53 + (y5).toNat)]) rfl ?_
      obtain ⟨p12, hW⟩ := hW
      refine wp_iald (n := 40) (F := (m (53 + (y1).toNat))) rfl (ST.col S hn11) (by omega) p12.1 p12.2 (by decide) ?_
      show wp _ _ _ _ _ [.int (iI (m (53 + (y1).toNat) ((y7).toNat))), .int (iI ((m (53 + (y5).toNat) ((y7).toNat)) * y4)), .int (iI y7), .ref (53 + (y5).toNat)] _ _
      have hr13 : rJ (m (53 + (y1).toNat) ((y7).toNat)) := S.rg (53 + (y1).toNat) ((y7).toNat) (nl_53 hn11)
      refine wp_g (n := 1) (pc' := 110) (L' := [some (.ref 51), some (.int (iI y1)), some (.int (iI y2)), some (.int (iI y3)), some (.int (iI y4)), some (.int (iI y5)), some (.int (iI y6)), some (.int (iI y7))]) (st' := [.int (iI y6), .int (iI (m (53 + (y1).toNat) ((y7).toNat))), .int (iI ((m (53 + (y5).toNat) ((y7).toNat)) * y4)), .int (iI y7), .ref (53 + (y5).toNat)]) rfl ?_
      refine wp_mul (a := (m (53 + (y1).toNat) ((y7).toNat))) (b := y6) rfl ?_
      refine wp_sub (a := ((m (53 + (y5).toNat) ((y7).toNat)) * y4)) (b := ((m (53 + (y1).toNat) ((y7).toNat)) * y6)) rfl ?_
      refine wp_g (n := 1) (pc' := 113) (L' := [some (.ref 51), some (.int (iI y1)), some (.int (iI y2)), some (.int (iI y3)), some (.int (iI y4)), some (.int (iI y5)), some (.int (iI y6)), some (.int (iI y7))]) (st' := [.int (iI y3), .int (iI (((m (53 + (y5).toNat) ((y7).toNat)) * y4) - ((m (53 + (y1).toNat) ((y7).toNat)) * y6))), .int (iI y7), .ref (53 + (y5).toNat)]) rfl ?_
      refine wp_cs (As := [.int (iI (((m (53 + (y5).toNat) ((y7).toNat)) * y4) - ((m (53 + (y1).toNat) ((y7).toNat)) * y6))), .int (iI y3)]) (rest := [.int (iI y7), .ref (53 + (y5).toNat)]) rfl rfl rfl rfl (Nat.le_of_ble_eq_true rfl) (Nat.le_of_ble_eq_true rfl) (hW _ S) (fun r14 H14 q14 => ?_)
      obtain ⟨v14, m14, γ14, t14, rfl, hv14, S, hW⟩ := q14
      show wp _ _ _ _ _ [.int (iI v14), .int (iI y7), .ref (53 + (y5).toNat)] _ _
      obtain ⟨p16, hW⟩ := hW
      refine wp_iasF (n := 40) (F := (m14 (53 + (y5).toNat))) (y := v14) rfl (ST.col S hn7) p16.1 p16.2 (by decide) (fun H15 hl15 hz15 hf15 => ?_)
      have S : ST H15 (up m14 (53 + (y5).toNat) (up (m14 (53 + (y5).toNat)) ((y7).toNat) v14)) γ14 t14 := S.setI (53 + (y5).toNat) (nc_53 hn7) hl15 (by rw [lay_53 hn7]; exact hz15) hf15 hv14.1 hv14.2
      obtain ⟨m17, hm17⟩ : ∃ m17, m17 = (up m14 (53 + (y5).toNat) (up (m14 (53 + (y5).toNat)) ((y7).toNat) v14)) := ⟨_, rfl⟩
      rw [← hm17] at S
      have hW := hW m17 hm17
      refine wp_iinc (L' := [some (.ref 51), some (.int (iI y1)), some (.int (iI y2)), some (.int (iI y3)), some (.int (iI y4)), some (.int (iI y5)), some (.int (iI y6)), some (.int (iI (y7 + 1)))]) (a := y7) rfl rfl rfl ?_
      refine wp_g (n := 1) (pc' := 61) (L' := [some (.ref 51), some (.int (iI y1)), some (.int (iI y2)), some (.int (iI y3)), some (.int (iI y4)), some (.int (iI y5)), some (.int (iI y6)), some (.int (iI (y7 + 1)))]) (st' := []) rfl ?_
      exact hW _ S
def hd_X2_grow_2 (E : am_E) (k : Nat) (g1 : Nat) (y2 : Int) (m : MM) (γ : GM) (t : am_H) (Q : Int → MM → GM → am_H → Prop) : Prop := ∀ (z3 : Option Value), TT (pL Q) E (k + 1) 15 2 [some (.ref 80), some (.ref g1), some (.int (iI y2)), z3] [] m γ t
def hd_X2_grow_33 (E : am_E) (k : Nat) (g1 : Nat) (y2 : Int) (m : MM) (γ : GM) (t : am_H) (Q : Int → MM → GM → am_H → Prop) : Prop := ∀ (z3 : Option Value), TT (pL Q) E (k + 1) 15 33 [some (.ref 80), some (.ref g1), some (.int (iI y2)), z3] [] m γ t
def hd_X2_grow_73 (E : am_E) (k : Nat) (g1 : Nat) (y2 : Int) (y3 : Int) (m : MM) (γ : GM) (t : am_H) (Q : Int → MM → GM → am_H → Prop) : Prop := TT (pL Q) E (k + 1) 15 73 [some (.ref 80), some (.ref g1), some (.int (iI y2)), some (.int (iI y3))] [] m γ t
abbrev W_X2_grow (E : am_E) (k : Nat) (g1 : Nat) (m : MM) (γ : GM) (t : am_H) (Q : Int → MM → GM → am_H → Prop) : Prop := (hd_X2_grow_2 E k g1 0 m γ t Q)
abbrev W_X2_grow_2 (E : am_E) (k : Nat) (g1 : Nat) (y2 : Int) (m : MM) (γ : GM) (t : am_H) (Q : Int → MM → GM → am_H → Prop) : Prop := (((y2 < 16) → ((0 ≤ y2 ∧ y2 < 16) ∧ ((0 ≤ y2 ∧ y2 < 16) ∧ (TV E k 319 [.ref (83 + (y2).toNat), .long (lI 0)] (up m 81 (up (m 81) ((y2).toNat) y2)) γ t (fun m6 γ6 t6 => (hd_X2_grow_2 E k g1 (y2 + 1) m6 γ6 t6 Q)))))) ∧ (¬ (y2 < 16) → (hd_X2_grow_33 E k g1 0 m γ t Q)))
abbrev W_X2_grow_33 (E : am_E) (k : Nat) (g1 : Nat) (y2 : Int) (m : MM) (γ : GM) (t : am_H) (Q : Int → MM → GM → am_H → Prop) : Prop := (TI E k 28 [.ref g1] m γ t (fun v1 m1 γ1 t1 => (((y2 < v1) → (TI E k 33 [.ref g1, .int (iI y2)] m1 γ1 t1 (fun v5 m5 γ5 t5 => (((v5 = 3) → (TV E k 17 [.ref 80, .ref g1, .int (iI y2)] m5 γ5 t5 (fun m7 γ7 t7 => (hd_X2_grow_33 E k g1 (y2 + 1) m7 γ7 t7 Q)))) ∧ (¬ (v5 = 3) → (hd_X2_grow_33 E k g1 (y2 + 1) m5 γ5 t5 Q)))))) ∧ (¬ (y2 < v1) → (TI E k 27 [.ref g1] m1 γ1 t1 (fun v3 m3 γ3 t3 => (TI E k 18 [.ref 80, .int (iI v3)] m3 γ3 t3 (fun v4 m4 γ4 t4 => (hd_X2_grow_73 E k g1 v4 0 m4 γ4 t4 Q)))))))))
abbrev W_X2_grow_73 (E : am_E) (k : Nat) (g1 : Nat) (y2 : Int) (y3 : Int) (m : MM) (γ : GM) (t : am_H) (Q : Int → MM → GM → am_H → Prop) : Prop := (TI E k 28 [.ref g1] m γ t (fun v1 m1 γ1 t1 => (((y3 < v1) → (TI E k 34 [.ref g1, .int (iI y3)] m1 γ1 t1 (fun v4 m4 γ4 t4 => (((v4 = 0) → (hd_X2_grow_73 E k g1 y2 (y3 + 1) m4 γ4 t4 Q)) ∧ (¬ (v4 = 0) → (TI E k 35 [.ref g1, .int (iI y3)] m4 γ4 t4 (fun v6 m6 γ6 t6 => (TI E k 182 [.ref 81, .int (iI v6)] m6 γ6 t6 (fun v7 m7 γ7 t7 => (TI E k 16 [.ref g1, .int (iI y3)] m7 γ7 t7 (fun v8 m8 γ8 t8 => (TI E k 182 [.ref 81, .int (iI v8)] m8 γ8 t8 (fun v9 m9 γ9 t9 => (TV E k 19 [.ref 80, .int (iI v7), .int (iI v9)] m9 γ9 t9 (fun m10 γ10 t10 => (hd_X2_grow_73 E k g1 y2 (y3 + 1) m10 γ10 t10 Q)))))))))))))))) ∧ (¬ (y3 < v1) → (TL E k 20 [.ref 80, .int (iI (y2 - 1))] m1 γ1 t1 (fun v3 m3 γ3 t3 => (Q v3 m3 γ3 t3)))))))
theorem vc_X2_grow {E : am_E} {k : Nat} {g1 : Nat} {m : MM} {γ : GM} {t : am_H} {Q : Int → MM → GM → am_H → Prop} (hg1 : isg g1) (hW : W_X2_grow E k g1 m γ t Q) : TL E (k + 1) 15 [.ref 80, .ref g1] m γ t Q := by
  unfold W_X2_grow at hW
  intro h S
  refine wp_g (n := 2) (pc' := 2) (L' := [some (.ref 80), some (.ref g1), some (.int (iI 0)), none]) (st' := []) rfl ?_
  exact hW none _ S
theorem vc_X2_grow_2 {E : am_E} {k : Nat} {g1 : Nat} {y2 : Int} {m : MM} {γ : GM} {t : am_H} {Q : Int → MM → GM → am_H → Prop} (hg1 : isg g1) (hy2 : rJ y2) (hW : W_X2_grow_2 E k g1 y2 m γ t Q) : hd_X2_grow_2 E k g1 y2 m γ t Q := by
  unfold W_X2_grow_2 at hW
  intro z3 h S
  refine wp_g (n := 2) (pc' := 5) (L' := [some (.ref 80), some (.ref g1), some (.int (iI y2)), z3]) (st' := [.int (iI 16), .int (iI y2)]) rfl ?_
  refine wp_icmpI (a := y2) (b := 16) rfl rfl hy2.1 hy2.2 (by decide) (by decide) (fun c1 => ?_) (fun c1 => ?_)
  · have dc1 := (Int.not_lt.mpr c1)
    have hW := hW.2 dc1
    refine wp_g (n := 2) (pc' := 33) (L' := [some (.ref 80), some (.ref g1), some (.int (iI 0)), z3]) (st' := []) rfl ?_
    exact hW z3 _ S
  · have dc1 := (Int.not_le.mp c1)
    have hW := hW.1 dc1
    refine wp_g (n := 1) (pc' := 9) (L' := [some (.ref 80), some (.ref g1), some (.int (iI y2)), z3]) (st' := [.ref 80]) rfl ?_
    refine wp_getf (v := .ref 81) rfl rfl (S.cell 80 (nc rfl)) (by decide) rfl ?_
    refine wp_g (n := 2) (pc' := 14) (L' := [some (.ref 80), some (.ref g1), some (.int (iI y2)), z3]) (st' := [.int (iI y2), .int (iI y2), .ref 81]) rfl ?_
    obtain ⟨p3, hW⟩ := hW
    refine wp_iasF (n := 16) (F := (m 81)) (y := y2) rfl (S.cell 81 (nc rfl)) p3.1 p3.2 (by decide) (fun H2 hl2 hz2 hf2 => ?_)
    have S : ST H2 (up m 81 (up (m 81) ((y2).toNat) y2)) γ t := S.setI 81 (nc rfl) hl2 hz2 hf2 hy2.1 hy2.2
    refine wp_g (n := 1) (pc' := 16) (L' := [some (.ref 80), some (.ref g1), some (.int (iI y2)), z3]) (st' := [.ref 80]) rfl ?_
    refine wp_getf (v := .ref 82) rfl rfl (S.cell 80 (nc rfl)) (by decide) rfl ?_
    refine wp_g (n := 1) (pc' := 20) (L' := [some (.ref 80), some (.ref g1), some (.int (iI y2)), z3]) (st' := [.int (iI y2), .ref 82]) rfl ?_
    obtain ⟨p4, hW⟩ := hW
    have hn5 : (y2).toNat < 16 := by omega
    refine wp_rald (n := 16) (b := (83 + (y2).toNat)) rfl (S.cell 82 (nc rfl)) p4.1 p4.2 (by decide) (if_pos hn5) ?_
    refine wp_g (n := 1) (pc' := 22) (L' := [some (.ref 80), some (.ref g1), some (.int (iI y2)), z3]) (st' := [.long (lI 0), .ref (83 + (y2).toNat)]) rfl ?_
    refine wp_cs (As := [.ref (83 + (y2).toNat), .long (lI 0)]) (rest := []) rfl rfl rfl rfl (Nat.le_of_ble_eq_true rfl) (Nat.le_of_ble_eq_true rfl) (hW _ S) (fun r6 H6 q6 => ?_)
    obtain ⟨m6, γ6, t6, rfl, S, hW⟩ := q6
    show wp _ _ _ _ _ [] _ _
    refine wp_iinc (L' := [some (.ref 80), some (.ref g1), some (.int (iI (y2 + 1))), z3]) (a := y2) rfl rfl rfl ?_
    refine wp_g (n := 1) (pc' := 2) (L' := [some (.ref 80), some (.ref g1), some (.int (iI (y2 + 1))), z3]) (st' := []) rfl ?_
    exact hW z3 _ S
theorem vc_X2_grow_33 {E : am_E} {k : Nat} {g1 : Nat} {y2 : Int} {m : MM} {γ : GM} {t : am_H} {Q : Int → MM → GM → am_H → Prop} (hg1 : isg g1) (hy2 : rJ y2) (hW : W_X2_grow_33 E k g1 y2 m γ t Q) : hd_X2_grow_33 E k g1 y2 m γ t Q := by
  unfold W_X2_grow_33 at hW
  intro z3 h S
  refine wp_g (n := 2) (pc' := 35) (L' := [some (.ref 80), some (.ref g1), some (.int (iI y2)), z3]) (st' := [.ref g1, .int (iI y2)]) rfl ?_
  refine wp_cv (As := []) (rest := [.int (iI y2)]) rfl rfl (S.gg g1 hg1).obj (isg_lt hg1) rfl rfl rfl (Nat.le_of_ble_eq_true rfl) (Nat.le_of_ble_eq_true rfl) (hW _ S) (fun r1 H1 q1 => ?_)
  obtain ⟨v1, m1, γ1, t1, rfl, hv1, S, hW⟩ := q1
  show wp _ _ _ _ _ [.int (iI v1), .int (iI y2)] _ _
  refine wp_icmpI (a := y2) (b := v1) rfl rfl hy2.1 hy2.2 hv1.1 hv1.2 (fun c2 => ?_) (fun c2 => ?_)
  · have dc2 := (Int.not_lt.mpr c2)
    have hW := hW.2 dc2
    refine wp_g (n := 2) (pc' := 64) (L' := [some (.ref 80), some (.ref g1), some (.int (iI y2)), z3]) (st' := [.ref g1, .ref 80]) rfl ?_
    refine wp_cv (As := []) (rest := [.ref 80]) rfl rfl (S.gg g1 hg1).obj (isg_lt hg1) rfl rfl rfl (Nat.le_of_ble_eq_true rfl) (Nat.le_of_ble_eq_true rfl) (hW _ S) (fun r3 H3 q3 => ?_)
    obtain ⟨v3, m3, γ3, t3, rfl, hv3, S, hW⟩ := q3
    show wp _ _ _ _ _ [.int (iI v3), .ref 80] _ _
    refine wp_cv (As := [.int (iI v3)]) (rest := []) rfl rfl (S.cell 80 (nc rfl)) (by decide) rfl rfl rfl (Nat.le_of_ble_eq_true rfl) (Nat.le_of_ble_eq_true rfl) (hW _ S) (fun r4 H4 q4 => ?_)
    obtain ⟨v4, m4, γ4, t4, rfl, hv4, S, hW⟩ := q4
    show wp _ _ _ _ _ [.int (iI v4)] _ _
    refine wp_g (n := 3) (pc' := 73) (L' := [some (.ref 80), some (.ref g1), some (.int (iI v4)), some (.int (iI 0))]) (st' := []) rfl ?_
    exact hW _ S
  · have dc2 := (Int.not_le.mp c2)
    have hW := hW.1 dc2
    refine wp_g (n := 2) (pc' := 43) (L' := [some (.ref 80), some (.ref g1), some (.int (iI y2)), z3]) (st' := [.int (iI y2), .ref g1]) rfl ?_
    refine wp_cv (As := [.int (iI y2)]) (rest := []) rfl rfl (S.gg g1 hg1).obj (isg_lt hg1) rfl rfl rfl (Nat.le_of_ble_eq_true rfl) (Nat.le_of_ble_eq_true rfl) (hW _ S) (fun r5 H5 q5 => ?_)
    obtain ⟨v5, m5, γ5, t5, rfl, hv5, S, hW⟩ := q5
    show wp _ _ _ _ _ [.int (iI v5)] _ _
    refine wp_g (n := 1) (pc' := 47) (L' := [some (.ref 80), some (.ref g1), some (.int (iI y2)), z3]) (st' := [.int (iI 3), .int (iI v5)]) rfl ?_
    refine wp_icmpI (a := v5) (b := 3) rfl rfl hv5.1 hv5.2 (by decide) (by decide) (fun c6 => ?_) (fun c6 => ?_)
    · have dc6 := c6
      have hW := hW.2 dc6
      refine wp_iinc (L' := [some (.ref 80), some (.ref g1), some (.int (iI (y2 + 1))), z3]) (a := y2) rfl rfl rfl ?_
      refine wp_g (n := 1) (pc' := 33) (L' := [some (.ref 80), some (.ref g1), some (.int (iI (y2 + 1))), z3]) (st' := []) rfl ?_
      exact hW z3 _ S
    · have dc6 := (Classical.not_not.mp c6)
      have hW := hW.1 dc6
      refine wp_g (n := 3) (pc' := 53) (L' := [some (.ref 80), some (.ref g1), some (.int (iI y2)), z3]) (st' := [.int (iI y2), .ref g1, .ref 80]) rfl ?_
      refine wp_cv (As := [.ref g1, .int (iI y2)]) (rest := []) rfl rfl (S.cell 80 (nc rfl)) (by decide) rfl rfl rfl (Nat.le_of_ble_eq_true rfl) (Nat.le_of_ble_eq_true rfl) (hW _ S) (fun r7 H7 q7 => ?_)
      obtain ⟨m7, γ7, t7, rfl, S, hW⟩ := q7
      show wp _ _ _ _ _ [] _ _
      refine wp_iinc (L' := [some (.ref 80), some (.ref g1), some (.int (iI (y2 + 1))), z3]) (a := y2) rfl rfl rfl ?_
      refine wp_g (n := 1) (pc' := 33) (L' := [some (.ref 80), some (.ref g1), some (.int (iI (y2 + 1))), z3]) (st' := []) rfl ?_
      exact hW z3 _ S
theorem vc_X2_grow_73 {E : am_E} {k : Nat} {g1 : Nat} {y2 : Int} {y3 : Int} {m : MM} {γ : GM} {t : am_H} {Q : Int → MM → GM → am_H → Prop} (hg1 : isg g1) (hy2 : rJ y2) (hy3 : rJ y3) (hW : W_X2_grow_73 E k g1 y2 y3 m γ t Q) : hd_X2_grow_73 E k g1 y2 y3 m γ t Q := by
  unfold W_X2_grow_73 at hW
  intro h S
  refine wp_g (n := 2) (pc' := 75) (L' := [some (.ref 80), some (.ref g1), some (.int (iI y2)), some (.int (iI y3))]) (st' := [.ref g1, .int (iI y3)]) rfl ?_
  refine wp_cv (As := []) (rest := [.int (iI y3)]) rfl rfl (S.gg g1 hg1).obj (isg_lt hg1) rfl rfl rfl (Nat.le_of_ble_eq_true rfl) (Nat.le_of_ble_eq_true rfl) (hW _ S) (fun r1 H1 q1 => ?_)
  obtain ⟨v1, m1, γ1, t1, rfl, hv1, S, hW⟩ := q1
  show wp _ _ _ _ _ [.int (iI v1), .int (iI y3)] _ _
  refine wp_icmpI (a := y3) (b := v1) rfl rfl hy3.1 hy3.2 hv1.1 hv1.2 (fun c2 => ?_) (fun c2 => ?_)
  · have dc2 := (Int.not_lt.mpr c2)
    have hW := hW.2 dc2
    refine wp_g (n := 3) (pc' := 126) (L' := [some (.ref 80), some (.ref g1), some (.int (iI y2)), some (.int (iI y3))]) (st' := [.int (iI 1), .int (iI y2), .ref 80]) rfl ?_
    refine wp_sub (a := y2) (b := 1) rfl ?_
    refine wp_cv (As := [.int (iI (y2 - 1))]) (rest := []) rfl rfl (S.cell 80 (nc rfl)) (by decide) rfl rfl rfl (Nat.le_of_ble_eq_true rfl) (Nat.le_of_ble_eq_true rfl) (hW _ S) (fun r3 H3 q3 => ?_)
    obtain ⟨v3, m3, γ3, t3, rfl, hv3, S, hW⟩ := q3
    show wp _ _ _ _ _ [.long (lI v3)] _ _
    exact wp_lret rfl rfl ⟨_, _, _, _, rfl, hv3, S, hW⟩
  · have dc2 := (Int.not_le.mp c2)
    have hW := hW.1 dc2
    refine wp_g (n := 2) (pc' := 83) (L' := [some (.ref 80), some (.ref g1), some (.int (iI y2)), some (.int (iI y3))]) (st' := [.int (iI y3), .ref g1]) rfl ?_
    refine wp_cv (As := [.int (iI y3)]) (rest := []) rfl rfl (S.gg g1 hg1).obj (isg_lt hg1) rfl rfl rfl (Nat.le_of_ble_eq_true rfl) (Nat.le_of_ble_eq_true rfl) (hW _ S) (fun r4 H4 q4 => ?_)
    obtain ⟨v4, m4, γ4, t4, rfl, hv4, S, hW⟩ := q4
    show wp _ _ _ _ _ [.int (iI v4)] _ _
    refine wp_ifI (a := v4) rfl rfl hv4.1 hv4.2 (fun c5 => ?_) (fun c5 => ?_)
    · have dc5 := c5
      have hW := hW.1 dc5
      refine wp_iinc (L' := [some (.ref 80), some (.ref g1), some (.int (iI y2)), some (.int (iI (y3 + 1)))]) (a := y3) rfl rfl rfl ?_
      refine wp_g (n := 1) (pc' := 73) (L' := [some (.ref 80), some (.ref g1), some (.int (iI y2)), some (.int (iI (y3 + 1)))]) (st' := []) rfl ?_
      exact hW _ S
    · have dc5 := c5
      have hW := hW.2 dc5
      refine wp_g (n := 2) (pc' := 91) (L' := [some (.ref 80), some (.ref g1), some (.int (iI y2)), some (.int (iI y3))]) (st' := [.ref 80, .ref 80]) rfl ?_
      refine wp_getf (v := .ref 81) rfl rfl (S.cell 80 (nc rfl)) (by decide) rfl ?_
      refine wp_g (n := 2) (pc' := 96) (L' := [some (.ref 80), some (.ref g1), some (.int (iI y2)), some (.int (iI y3))]) (st' := [.int (iI y3), .ref g1, .ref 81, .ref 80]) rfl ?_
      refine wp_cv (As := [.int (iI y3)]) (rest := [.ref 81, .ref 80]) rfl rfl (S.gg g1 hg1).obj (isg_lt hg1) rfl rfl rfl (Nat.le_of_ble_eq_true rfl) (Nat.le_of_ble_eq_true rfl) (hW _ S) (fun r6 H6 q6 => ?_)
      obtain ⟨v6, m6, γ6, t6, rfl, hv6, S, hW⟩ := q6
      show wp _ _ _ _ _ [.int (iI v6), .ref 81, .ref 80] _ _
      refine wp_cs (As := [.ref 81, .int (iI v6)]) (rest := [.ref 80]) rfl rfl rfl rfl (Nat.le_of_ble_eq_true rfl) (Nat.le_of_ble_eq_true rfl) (hW _ S) (fun r7 H7 q7 => ?_)
      obtain ⟨v7, m7, γ7, t7, rfl, hv7, S, hW⟩ := q7
      show wp _ _ _ _ _ [.int (iI v7), .ref 80] _ _
      refine wp_g (n := 1) (pc' := 103) (L' := [some (.ref 80), some (.ref g1), some (.int (iI y2)), some (.int (iI y3))]) (st' := [.ref 80, .int (iI v7), .ref 80]) rfl ?_
      refine wp_getf (v := .ref 81) rfl rfl (S.cell 80 (nc rfl)) (by decide) rfl ?_
      refine wp_g (n := 2) (pc' := 108) (L' := [some (.ref 80), some (.ref g1), some (.int (iI y2)), some (.int (iI y3))]) (st' := [.int (iI y3), .ref g1, .ref 81, .int (iI v7), .ref 80]) rfl ?_
      refine wp_cs (As := [.ref g1, .int (iI y3)]) (rest := [.ref 81, .int (iI v7), .ref 80]) rfl rfl rfl rfl (Nat.le_of_ble_eq_true rfl) (Nat.le_of_ble_eq_true rfl) (hW _ S) (fun r8 H8 q8 => ?_)
      obtain ⟨v8, m8, γ8, t8, rfl, hv8, S, hW⟩ := q8
      show wp _ _ _ _ _ [.int (iI v8), .ref 81, .int (iI v7), .ref 80] _ _
      refine wp_cs (As := [.ref 81, .int (iI v8)]) (rest := [.int (iI v7), .ref 80]) rfl rfl rfl rfl (Nat.le_of_ble_eq_true rfl) (Nat.le_of_ble_eq_true rfl) (hW _ S) (fun r9 H9 q9 => ?_)
      obtain ⟨v9, m9, γ9, t9, rfl, hv9, S, hW⟩ := q9
      show wp _ _ _ _ _ [.int (iI v9), .int (iI v7), .ref 80] _ _
      refine wp_cv (As := [.int (iI v7), .int (iI v9)]) (rest := []) rfl rfl (S.cell 80 (nc rfl)) (by decide) rfl rfl rfl (Nat.le_of_ble_eq_true rfl) (Nat.le_of_ble_eq_true rfl) (hW _ S) (fun r10 H10 q10 => ?_)
      obtain ⟨m10, γ10, t10, rfl, S, hW⟩ := q10
      show wp _ _ _ _ _ [] _ _
      refine wp_iinc (L' := [some (.ref 80), some (.ref g1), some (.int (iI y2)), some (.int (iI (y3 + 1)))]) (a := y3) rfl rfl rfl ?_
      refine wp_g (n := 1) (pc' := 73) (L' := [some (.ref 80), some (.ref g1), some (.int (iI y2)), some (.int (iI (y3 + 1)))]) (st' := []) rfl ?_
      exact hW _ S
abbrev W_X2_cellBehind (E : am_E) (k : Nat) (g1 : Nat) (x2 : Int) (m : MM) (γ : GM) (t : am_H) (Q : Int → MM → GM → am_H → Prop) : Prop := (TI E k 35 [.ref g1, .int (iI x2)] m γ t (fun v1 m1 γ1 t1 => (TI E k 36 [.ref g1, .int (iI x2)] m1 γ1 t1 (fun v2 m2 γ2 t2 => (((v2 = 0) → (TI E k 39 [.ref g1, .int (iI v1), .int (iI 1)] m2 γ2 t2 (fun v5 m5 γ5 t5 => (Q v5 m5 γ5 t5)))) ∧ (¬ (v2 = 0) → (TI E k 39 [.ref g1, .int (iI v1), .int (iI 2)] m2 γ2 t2 (fun v4 m4 γ4 t4 => (Q v4 m4 γ4 t4)))))))))
theorem vc_X2_cellBehind {E : am_E} {k : Nat} {g1 : Nat} {x2 : Int} {m : MM} {γ : GM} {t : am_H} {Q : Int → MM → GM → am_H → Prop} (hg1 : isg g1) (hx2 : rJ x2) (hW : W_X2_cellBehind E k g1 x2 m γ t Q) : TI E (k + 1) 16 [.ref g1, .int (iI x2)] m γ t Q := by
  unfold W_X2_cellBehind at hW
  intro h S
  refine wp_g (n := 3) (pc' := 3) (L' := [some (.ref g1), some (.int (iI x2))]) (st' := [.int (iI x2), .ref g1, .ref g1]) rfl ?_
  refine wp_cv (As := [.int (iI x2)]) (rest := [.ref g1]) rfl rfl (S.gg g1 hg1).obj (isg_lt hg1) rfl rfl rfl (Nat.le_of_ble_eq_true rfl) (Nat.le_of_ble_eq_true rfl) (hW _ S) (fun r1 H1 q1 => ?_)
  obtain ⟨v1, m1, γ1, t1, rfl, hv1, S, hW⟩ := q1
  show wp _ _ _ _ _ [.int (iI v1), .ref g1] _ _
  refine wp_g (n := 2) (pc' := 8) (L' := [some (.ref g1), some (.int (iI x2))]) (st' := [.int (iI x2), .ref g1, .int (iI v1), .ref g1]) rfl ?_
  refine wp_cv (As := [.int (iI x2)]) (rest := [.int (iI v1), .ref g1]) rfl rfl (S.gg g1 hg1).obj (isg_lt hg1) rfl rfl rfl (Nat.le_of_ble_eq_true rfl) (Nat.le_of_ble_eq_true rfl) (hW _ S) (fun r2 H2 q2 => ?_)
  obtain ⟨v2, m2, γ2, t2, rfl, hv2, S, hW⟩ := q2
  show wp _ _ _ _ _ [.int (iI v2), .int (iI v1), .ref g1] _ _
  refine wp_ifI (a := v2) rfl rfl hv2.1 hv2.2 (fun c3 => ?_) (fun c3 => ?_)
  · have dc3 := c3
    have hW := hW.2 dc3
    refine wp_g (n := 1) (pc' := 19) (L' := [some (.ref g1), some (.int (iI x2))]) (st' := [.int (iI 2), .int (iI v1), .ref g1]) rfl ?_
    refine wp_cv (As := [.int (iI v1), .int (iI 2)]) (rest := []) rfl rfl (S.gg g1 hg1).obj (isg_lt hg1) rfl rfl rfl (Nat.le_of_ble_eq_true rfl) (Nat.le_of_ble_eq_true rfl) (hW _ S) (fun r4 H4 q4 => ?_)
    obtain ⟨v4, m4, γ4, t4, rfl, hv4, S, hW⟩ := q4
    show wp _ _ _ _ _ [.int (iI v4)] _ _
    exact wp_iret rfl rfl ⟨_, _, _, _, rfl, hv4, S, hW⟩
  · have dc3 := (Classical.not_not.mp c3)
    have hW := hW.1 dc3
    refine wp_g (n := 2) (pc' := 19) (L' := [some (.ref g1), some (.int (iI x2))]) (st' := [.int (iI 1), .int (iI v1), .ref g1]) rfl ?_
    refine wp_cv (As := [.int (iI v1), .int (iI 1)]) (rest := []) rfl rfl (S.gg g1 hg1).obj (isg_lt hg1) rfl rfl rfl (Nat.le_of_ble_eq_true rfl) (Nat.le_of_ble_eq_true rfl) (hW _ S) (fun r5 H5 q5 => ?_)
    obtain ⟨v5, m5, γ5, t5, rfl, hv5, S, hW⟩ := q5
    show wp _ _ _ _ _ [.int (iI v5)] _ _
    exact wp_iret rfl rfl ⟨_, _, _, _, rfl, hv5, S, hW⟩
def hd_X2_merge_38 (E : am_E) (k : Nat) (g1 : Nat) (x2 : Int) (y3 : Int) (y4 : Int) (y5 : Int) (y6 : Int) (m : MM) (γ : GM) (t : am_H) (Q : MM → GM → am_H → Prop) : Prop := ∀ (z1 z2 : Option Value), TT (pV Q) E (k + 1) 17 38 [some (.ref 80), z1, z2, some (.int (iI y3)), some (.int (iI y4)), some (.int (iI y5)), some (.int (iI y6))] [] m γ t
abbrev W_X2_merge (E : am_E) (k : Nat) (g1 : Nat) (x2 : Int) (m : MM) (γ : GM) (t : am_H) (Q : MM → GM → am_H → Prop) : Prop := (TI E k 35 [.ref g1, .int (iI x2)] m γ t (fun v1 m1 γ1 t1 => (TI E k 182 [.ref 81, .int (iI v1)] m1 γ1 t1 (fun v2 m2 γ2 t2 => (TI E k 16 [.ref g1, .int (iI x2)] m2 γ2 t2 (fun v3 m3 γ3 t3 => (TI E k 182 [.ref 81, .int (iI v3)] m3 γ3 t3 (fun v4 m4 γ4 t4 => (TI E k 312 [.int (iI v2), .int (iI v4)] m4 γ4 t4 (fun v5 m5 γ5 t5 => (hd_X2_merge_38 E k g1 x2 v2 v4 v5 0 m5 γ5 t5 Q)))))))))))
abbrev W_X2_merge_38 (E : am_E) (k : Nat) (g1 : Nat) (x2 : Int) (y3 : Int) (y4 : Int) (y5 : Int) (y6 : Int) (m : MM) (γ : GM) (t : am_H) (Q : MM → GM → am_H → Prop) : Prop := (((y6 < 16) → ((0 ≤ y6 ∧ y6 < 16) ∧ ((((m 81 ((y6).toNat)) = y3) → ((0 ≤ y6 ∧ y6 < 16) ∧ (hd_X2_merge_38 E k g1 x2 y3 y4 y5 (y6 + 1) (up m 81 (up (m 81) ((y6).toNat) y5)) γ t Q))) ∧ (¬ ((m 81 ((y6).toNat)) = y3) → ((0 ≤ y6 ∧ y6 < 16) ∧ ((((m 81 ((y6).toNat)) = y4) → ((0 ≤ y6 ∧ y6 < 16) ∧ (hd_X2_merge_38 E k g1 x2 y3 y4 y5 (y6 + 1) (up m 81 (up (m 81) ((y6).toNat) y5)) γ t Q))) ∧ (¬ ((m 81 ((y6).toNat)) = y4) → (hd_X2_merge_38 E k g1 x2 y3 y4 y5 (y6 + 1) m γ t Q)))))))) ∧ (¬ (y6 < 16) → (Q m γ t)))
theorem vc_X2_merge {E : am_E} {k : Nat} {g1 : Nat} {x2 : Int} {m : MM} {γ : GM} {t : am_H} {Q : MM → GM → am_H → Prop} (hg1 : isg g1) (hx2 : rJ x2) (hW : W_X2_merge E k g1 x2 m γ t Q) : TV E (k + 1) 17 [.ref 80, .ref g1, .int (iI x2)] m γ t Q := by
  unfold W_X2_merge at hW
  intro h S
  refine wp_g (n := 1) (pc' := 1) (L' := [some (.ref 80), some (.ref g1), some (.int (iI x2)), none, none, none, none]) (st' := [.ref 80]) rfl ?_
  refine wp_getf (v := .ref 81) rfl rfl (S.cell 80 (nc rfl)) (by decide) rfl ?_
  refine wp_g (n := 2) (pc' := 6) (L' := [some (.ref 80), some (.ref g1), some (.int (iI x2)), none, none, none, none]) (st' := [.int (iI x2), .ref g1, .ref 81]) rfl ?_
  refine wp_cv (As := [.int (iI x2)]) (rest := [.ref 81]) rfl rfl (S.gg g1 hg1).obj (isg_lt hg1) rfl rfl rfl (Nat.le_of_ble_eq_true rfl) (Nat.le_of_ble_eq_true rfl) (hW _ S) (fun r1 H1 q1 => ?_)
  obtain ⟨v1, m1, γ1, t1, rfl, hv1, S, hW⟩ := q1
  show wp _ _ _ _ _ [.int (iI v1), .ref 81] _ _
  refine wp_cs (As := [.ref 81, .int (iI v1)]) (rest := []) rfl rfl rfl rfl (Nat.le_of_ble_eq_true rfl) (Nat.le_of_ble_eq_true rfl) (hW _ S) (fun r2 H2 q2 => ?_)
  obtain ⟨v2, m2, γ2, t2, rfl, hv2, S, hW⟩ := q2
  show wp _ _ _ _ _ [.int (iI v2)] _ _
  refine wp_g (n := 2) (pc' := 14) (L' := [some (.ref 80), some (.ref g1), some (.int (iI x2)), some (.int (iI v2)), none, none, none]) (st' := [.ref 80]) rfl ?_
  refine wp_getf (v := .ref 81) rfl rfl (S.cell 80 (nc rfl)) (by decide) rfl ?_
  refine wp_g (n := 2) (pc' := 19) (L' := [some (.ref 80), some (.ref g1), some (.int (iI x2)), some (.int (iI v2)), none, none, none]) (st' := [.int (iI x2), .ref g1, .ref 81]) rfl ?_
  refine wp_cs (As := [.ref g1, .int (iI x2)]) (rest := [.ref 81]) rfl rfl rfl rfl (Nat.le_of_ble_eq_true rfl) (Nat.le_of_ble_eq_true rfl) (hW _ S) (fun r3 H3 q3 => ?_)
  obtain ⟨v3, m3, γ3, t3, rfl, hv3, S, hW⟩ := q3
  show wp _ _ _ _ _ [.int (iI v3), .ref 81] _ _
  refine wp_cs (As := [.ref 81, .int (iI v3)]) (rest := []) rfl rfl rfl rfl (Nat.le_of_ble_eq_true rfl) (Nat.le_of_ble_eq_true rfl) (hW _ S) (fun r4 H4 q4 => ?_)
  obtain ⟨v4, m4, γ4, t4, rfl, hv4, S, hW⟩ := q4
  show wp _ _ _ _ _ [.int (iI v4)] _ _
  refine wp_g (n := 3) (pc' := 30) (L' := [some (.ref 80), some (.ref g1), some (.int (iI x2)), some (.int (iI v2)), some (.int (iI v4)), none, none]) (st' := [.int (iI v4), .int (iI v2)]) rfl ?_
  refine wp_cs (As := [.int (iI v2), .int (iI v4)]) (rest := []) rfl rfl rfl rfl (Nat.le_of_ble_eq_true rfl) (Nat.le_of_ble_eq_true rfl) (hW _ S) (fun r5 H5 q5 => ?_)
  obtain ⟨v5, m5, γ5, t5, rfl, hv5, S, hW⟩ := q5
  show wp _ _ _ _ _ [.int (iI v5)] _ _
  refine wp_g (n := 3) (pc' := 38) (L' := [some (.ref 80), some (.ref g1), some (.int (iI x2)), some (.int (iI v2)), some (.int (iI v4)), some (.int (iI v5)), some (.int (iI 0))]) (st' := []) rfl ?_
  exact hW (some (.ref g1)) (some (.int (iI x2))) _ S
theorem vc_X2_merge_38 {E : am_E} {k : Nat} {g1 : Nat} {x2 : Int} {y3 : Int} {y4 : Int} {y5 : Int} {y6 : Int} {m : MM} {γ : GM} {t : am_H} {Q : MM → GM → am_H → Prop} (hg1 : isg g1) (hx2 : rJ x2) (hy3 : rJ y3) (hy4 : rJ y4) (hy5 : rJ y5) (hy6 : rJ y6) (hW : W_X2_merge_38 E k g1 x2 y3 y4 y5 y6 m γ t Q) : hd_X2_merge_38 E k g1 x2 y3 y4 y5 y6 m γ t Q := by
  unfold W_X2_merge_38 at hW
  intro z1 z2 h S
  refine wp_g (n := 2) (pc' := 42) (L' := [some (.ref 80), z1, z2, some (.int (iI y3)), some (.int (iI y4)), some (.int (iI y5)), some (.int (iI y6))]) (st' := [.int (iI 16), .int (iI y6)]) rfl ?_
  refine wp_icmpI (a := y6) (b := 16) rfl rfl hy6.1 hy6.2 (by decide) (by decide) (fun c1 => ?_) (fun c1 => ?_)
  · have dc1 := (Int.not_lt.mpr c1)
    have hW := hW.2 dc1
    exact wp_vret rfl rfl ⟨_, _, _, rfl, S, hW⟩
  · have dc1 := (Int.not_le.mp c1)
    have hW := hW.1 dc1
    refine wp_g (n := 1) (pc' := 46) (L' := [some (.ref 80), z1, z2, some (.int (iI y3)), some (.int (iI y4)), some (.int (iI y5)), some (.int (iI y6))]) (st' := [.ref 80]) rfl ?_
    refine wp_getf (v := .ref 81) rfl rfl (S.cell 80 (nc rfl)) (by decide) rfl ?_
    refine wp_g (n := 1) (pc' := 51) (L' := [some (.ref 80), z1, z2, some (.int (iI y3)), some (.int (iI y4)), some (.int (iI y5)), some (.int (iI y6))]) (st' := [.int (iI y6), .ref 81]) rfl ?_
    obtain ⟨p2, hW⟩ := hW
    refine wp_iald (n := 16) (F := (m 81)) rfl (S.cell 81 (nc rfl)) (by decide) p2.1 p2.2 (by decide) ?_
    show wp _ _ _ _ _ [.int (iI (m 81 ((y6).toNat)))] _ _
    have hr3 : rJ (m 81 ((y6).toNat)) := S.rg 81 ((y6).toNat) (nl rfl)
    refine wp_g (n := 1) (pc' := 53) (L' := [some (.ref 80), z1, z2, some (.int (iI y3)), some (.int (iI y4)), some (.int (iI y5)), some (.int (iI y6))]) (st' := [.int (iI y3), .int (iI (m 81 ((y6).toNat)))]) rfl ?_
    refine wp_icmpI (a := (m 81 ((y6).toNat))) (b := y3) rfl rfl hr3.1 hr3.2 hy3.1 hy3.2 (fun c4 => ?_) (fun c4 => ?_)
    · have dc4 := c4
      have hW := hW.1 dc4
      refine wp_g (n := 1) (pc' := 69) (L' := [some (.ref 80), z1, z2, some (.int (iI y3)), some (.int (iI y4)), some (.int (iI y5)), some (.int (iI y6))]) (st' := [.ref 80]) rfl ?_
      refine wp_getf (v := .ref 81) rfl rfl (S.cell 80 (nc rfl)) (by decide) rfl ?_
      refine wp_g (n := 2) (pc' := 76) (L' := [some (.ref 80), z1, z2, some (.int (iI y3)), some (.int (iI y4)), some (.int (iI y5)), some (.int (iI y6))]) (st' := [.int (iI y5), .int (iI y6), .ref 81]) rfl ?_
      obtain ⟨p6, hW⟩ := hW
      refine wp_iasF (n := 16) (F := (m 81)) (y := y5) rfl (S.cell 81 (nc rfl)) p6.1 p6.2 (by decide) (fun H5 hl5 hz5 hf5 => ?_)
      have S : ST H5 (up m 81 (up (m 81) ((y6).toNat) y5)) γ t := S.setI 81 (nc rfl) hl5 hz5 hf5 hy5.1 hy5.2
      refine wp_iinc (L' := [some (.ref 80), z1, z2, some (.int (iI y3)), some (.int (iI y4)), some (.int (iI y5)), some (.int (iI (y6 + 1)))]) (a := y6) rfl rfl rfl ?_
      refine wp_g (n := 1) (pc' := 38) (L' := [some (.ref 80), z1, z2, some (.int (iI y3)), some (.int (iI y4)), some (.int (iI y5)), some (.int (iI (y6 + 1)))]) (st' := []) rfl ?_
      exact hW z1 z2 _ S
    · have dc4 := c4
      have hW := hW.2 dc4
      refine wp_g (n := 1) (pc' := 57) (L' := [some (.ref 80), z1, z2, some (.int (iI y3)), some (.int (iI y4)), some (.int (iI y5)), some (.int (iI y6))]) (st' := [.ref 80]) rfl ?_
      refine wp_getf (v := .ref 81) rfl rfl (S.cell 80 (nc rfl)) (by decide) rfl ?_
      refine wp_g (n := 1) (pc' := 62) (L' := [some (.ref 80), z1, z2, some (.int (iI y3)), some (.int (iI y4)), some (.int (iI y5)), some (.int (iI y6))]) (st' := [.int (iI y6), .ref 81]) rfl ?_
      obtain ⟨p7, hW⟩ := hW
      refine wp_iald (n := 16) (F := (m 81)) rfl (S.cell 81 (nc rfl)) (by decide) p7.1 p7.2 (by decide) ?_
      show wp _ _ _ _ _ [.int (iI (m 81 ((y6).toNat)))] _ _
      refine wp_g (n := 1) (pc' := 65) (L' := [some (.ref 80), z1, z2, some (.int (iI y3)), some (.int (iI y4)), some (.int (iI y5)), some (.int (iI y6))]) (st' := [.int (iI y4), .int (iI (m 81 ((y6).toNat)))]) rfl ?_
      refine wp_icmpI (a := (m 81 ((y6).toNat))) (b := y4) rfl rfl hr3.1 hr3.2 hy4.1 hy4.2 (fun c8 => ?_) (fun c8 => ?_)
      · have dc8 := c8
        have hW := hW.2 dc8
        refine wp_iinc (L' := [some (.ref 80), z1, z2, some (.int (iI y3)), some (.int (iI y4)), some (.int (iI y5)), some (.int (iI (y6 + 1)))]) (a := y6) rfl rfl rfl ?_
        refine wp_g (n := 1) (pc' := 38) (L' := [some (.ref 80), z1, z2, some (.int (iI y3)), some (.int (iI y4)), some (.int (iI y5)), some (.int (iI (y6 + 1)))]) (st' := []) rfl ?_
        exact hW z1 z2 _ S
      · have dc8 := (Classical.not_not.mp c8)
        have hW := hW.1 dc8
        refine wp_g (n := 1) (pc' := 69) (L' := [some (.ref 80), z1, z2, some (.int (iI y3)), some (.int (iI y4)), some (.int (iI y5)), some (.int (iI y6))]) (st' := [.ref 80]) rfl ?_
        refine wp_getf (v := .ref 81) rfl rfl (S.cell 80 (nc rfl)) (by decide) rfl ?_
        refine wp_g (n := 2) (pc' := 76) (L' := [some (.ref 80), z1, z2, some (.int (iI y3)), some (.int (iI y4)), some (.int (iI y5)), some (.int (iI y6))]) (st' := [.int (iI y5), .int (iI y6), .ref 81]) rfl ?_
        obtain ⟨p10, hW⟩ := hW
        refine wp_iasF (n := 16) (F := (m 81)) (y := y5) rfl (S.cell 81 (nc rfl)) p10.1 p10.2 (by decide) (fun H9 hl9 hz9 hf9 => ?_)
        have S : ST H9 (up m 81 (up (m 81) ((y6).toNat) y5)) γ t := S.setI 81 (nc rfl) hl9 hz9 hf9 hy5.1 hy5.2
        refine wp_iinc (L' := [some (.ref 80), z1, z2, some (.int (iI y3)), some (.int (iI y4)), some (.int (iI y5)), some (.int (iI (y6 + 1)))]) (a := y6) rfl rfl rfl ?_
        refine wp_g (n := 1) (pc' := 38) (L' := [some (.ref 80), z1, z2, some (.int (iI y3)), some (.int (iI y4)), some (.int (iI y5)), some (.int (iI (y6 + 1)))]) (st' := []) rfl ?_
        exact hW z1 z2 _ S
def hd_X2_renumber_4 (E : am_E) (k : Nat) (x1 : Int) (y1 : Int) (y2 : Int) (y3 : Int) (m : MM) (γ : GM) (t : am_H) (Q : Int → MM → GM → am_H → Prop) : Prop := TT (pI Q) E (k + 1) 18 4 [some (.ref 80), some (.int (iI y1)), some (.int (iI y2)), some (.int (iI y3))] [] m γ t
abbrev W_X2_renumber (E : am_E) (k : Nat) (x1 : Int) (m : MM) (γ : GM) (t : am_H) (Q : Int → MM → GM → am_H → Prop) : Prop := (hd_X2_renumber_4 E k x1 x1 0 0 m γ t Q)
abbrev W_X2_renumber_4 (E : am_E) (k : Nat) (x1 : Int) (y1 : Int) (y2 : Int) (y3 : Int) (m : MM) (γ : GM) (t : am_H) (Q : Int → MM → GM → am_H → Prop) : Prop := (((y3 < y1) → (((y3 < 16) → ((0 ≤ y3 ∧ y3 < 16) ∧ ((((m 81 ((y3).toNat)) = y3) → ((0 ≤ y3 ∧ y3 < 16) ∧ (hd_X2_renumber_4 E k x1 y1 (y2 + 1) (y3 + 1) (up m 81 (up (m 81) ((y3).toNat) y2)) γ t Q))) ∧ (¬ ((m 81 ((y3).toNat)) = y3) → ((0 ≤ y3 ∧ y3 < 16) ∧ (TI E k 182 [.ref 81, .int (iI (m 81 ((y3).toNat)))] m γ t (fun v7 m7 γ7 t7 => ((0 ≤ y3 ∧ y3 < 16) ∧ (hd_X2_renumber_4 E k x1 y1 y2 (y3 + 1) (up m7 81 (up (m7 81) ((y3).toNat) v7)) γ7 t7 Q))))))))) ∧ (¬ (y3 < 16) → (Q y2 m γ t)))) ∧ (¬ (y3 < y1) → (Q y2 m γ t)))
theorem vc_X2_renumber {E : am_E} {k : Nat} {x1 : Int} {m : MM} {γ : GM} {t : am_H} {Q : Int → MM → GM → am_H → Prop} (hx1 : rJ x1) (hW : W_X2_renumber E k x1 m γ t Q) : TI E (k + 1) 18 [.ref 80, .int (iI x1)] m γ t Q := by
  unfold W_X2_renumber at hW
  intro h S
  refine wp_g (n := 4) (pc' := 4) (L' := [some (.ref 80), some (.int (iI x1)), some (.int (iI 0)), some (.int (iI 0))]) (st' := []) rfl ?_
  exact hW _ S
theorem vc_X2_renumber_4 {E : am_E} {k : Nat} {x1 : Int} {y1 : Int} {y2 : Int} {y3 : Int} {m : MM} {γ : GM} {t : am_H} {Q : Int → MM → GM → am_H → Prop} (hx1 : rJ x1) (hy1 : rJ y1) (hy2 : rJ y2) (hy3 : rJ y3) (hW : W_X2_renumber_4 E k x1 y1 y2 y3 m γ t Q) : hd_X2_renumber_4 E k x1 y1 y2 y3 m γ t Q := by
  unfold W_X2_renumber_4 at hW
  intro h S
  refine wp_g (n := 2) (pc' := 6) (L' := [some (.ref 80), some (.int (iI y1)), some (.int (iI y2)), some (.int (iI y3))]) (st' := [.int (iI y1), .int (iI y3)]) rfl ?_
  refine wp_icmpI (a := y3) (b := y1) rfl rfl hy3.1 hy3.2 hy1.1 hy1.2 (fun c1 => ?_) (fun c1 => ?_)
  · have dc1 := (Int.not_lt.mpr c1)
    have hW := hW.2 dc1
    refine wp_g (n := 1) (pc' := 64) (L' := [some (.ref 80), some (.int (iI y1)), some (.int (iI y2)), some (.int (iI y3))]) (st' := [.int (iI y2)]) rfl ?_
    exact wp_iret rfl rfl ⟨_, _, _, _, rfl, hy2, S, hW⟩
  · have dc1 := (Int.not_le.mp c1)
    have hW := hW.1 dc1
    refine wp_g (n := 2) (pc' := 12) (L' := [some (.ref 80), some (.int (iI y1)), some (.int (iI y2)), some (.int (iI y3))]) (st' := [.int (iI 16), .int (iI y3)]) rfl ?_
    refine wp_icmpI (a := y3) (b := 16) rfl rfl hy3.1 hy3.2 (by decide) (by decide) (fun c2 => ?_) (fun c2 => ?_)
    · have dc2 := (Int.not_lt.mpr c2)
      have hW := hW.2 dc2
      refine wp_g (n := 1) (pc' := 64) (L' := [some (.ref 80), some (.int (iI y1)), some (.int (iI y2)), some (.int (iI y3))]) (st' := [.int (iI y2)]) rfl ?_
      exact wp_iret rfl rfl ⟨_, _, _, _, rfl, hy2, S, hW⟩
    · have dc2 := (Int.not_le.mp c2)
      have hW := hW.1 dc2
      refine wp_g (n := 1) (pc' := 16) (L' := [some (.ref 80), some (.int (iI y1)), some (.int (iI y2)), some (.int (iI y3))]) (st' := [.ref 80]) rfl ?_
      refine wp_getf (v := .ref 81) rfl rfl (S.cell 80 (nc rfl)) (by decide) rfl ?_
      refine wp_g (n := 1) (pc' := 20) (L' := [some (.ref 80), some (.int (iI y1)), some (.int (iI y2)), some (.int (iI y3))]) (st' := [.int (iI y3), .ref 81]) rfl ?_
      obtain ⟨p3, hW⟩ := hW
      refine wp_iald (n := 16) (F := (m 81)) rfl (S.cell 81 (nc rfl)) (by decide) p3.1 p3.2 (by decide) ?_
      show wp _ _ _ _ _ [.int (iI (m 81 ((y3).toNat)))] _ _
      have hr4 : rJ (m 81 ((y3).toNat)) := S.rg 81 ((y3).toNat) (nl rfl)
      refine wp_g (n := 1) (pc' := 22) (L' := [some (.ref 80), some (.int (iI y1)), some (.int (iI y2)), some (.int (iI y3))]) (st' := [.int (iI y3), .int (iI (m 81 ((y3).toNat)))]) rfl ?_
      refine wp_icmpI (a := (m 81 ((y3).toNat))) (b := y3) rfl rfl hr4.1 hr4.2 hy3.1 hy3.2 (fun c5 => ?_) (fun c5 => ?_)
      · have dc5 := c5
        have hW := hW.2 dc5
        refine wp_g (n := 1) (pc' := 39) (L' := [some (.ref 80), some (.int (iI y1)), some (.int (iI y2)), some (.int (iI y3))]) (st' := [.ref 80]) rfl ?_
        refine wp_getf (v := .ref 81) rfl rfl (S.cell 80 (nc rfl)) (by decide) rfl ?_
        refine wp_g (n := 2) (pc' := 44) (L' := [some (.ref 80), some (.int (iI y1)), some (.int (iI y2)), some (.int (iI y3))]) (st' := [.ref 80, .int (iI y3), .ref 81]) rfl ?_
        refine wp_getf (v := .ref 81) rfl rfl (S.cell 80 (nc rfl)) (by decide) rfl ?_
        refine wp_g (n := 1) (pc' := 48) (L' := [some (.ref 80), some (.int (iI y1)), some (.int (iI y2)), some (.int (iI y3))]) (st' := [.ref 80, .ref 81, .int (iI y3), .ref 81]) rfl ?_
        refine wp_getf (v := .ref 81) rfl rfl (S.cell 80 (nc rfl)) (by decide) rfl ?_
        refine wp_g (n := 1) (pc' := 52) (L' := [some (.ref 80), some (.int (iI y1)), some (.int (iI y2)), some (.int (iI y3))]) (st' := [.int (iI y3), .ref 81, .ref 81, .int (iI y3), .ref 81]) rfl ?_
        obtain ⟨p6, hW⟩ := hW
        refine wp_iald (n := 16) (F := (m 81)) rfl (S.cell 81 (nc rfl)) (by decide) p6.1 p6.2 (by decide) ?_
        show wp _ _ _ _ _ [.int (iI (m 81 ((y3).toNat))), .ref 81, .int (iI y3), .ref 81] _ _
        refine wp_cs (As := [.ref 81, .int (iI (m 81 ((y3).toNat)))]) (rest := [.int (iI y3), .ref 81]) rfl rfl rfl rfl (Nat.le_of_ble_eq_true rfl) (Nat.le_of_ble_eq_true rfl) (hW _ S) (fun r7 H7 q7 => ?_)
        obtain ⟨v7, m7, γ7, t7, rfl, hv7, S, hW⟩ := q7
        show wp _ _ _ _ _ [.int (iI v7), .int (iI y3), .ref 81] _ _
        obtain ⟨p9, hW⟩ := hW
        refine wp_iasF (n := 16) (F := (m7 81)) (y := v7) rfl (S.cell 81 (nc rfl)) p9.1 p9.2 (by decide) (fun H8 hl8 hz8 hf8 => ?_)
        have S : ST H8 (up m7 81 (up (m7 81) ((y3).toNat) v7)) γ7 t7 := S.setI 81 (nc rfl) hl8 hz8 hf8 hv7.1 hv7.2
        refine wp_iinc (L' := [some (.ref 80), some (.int (iI y1)), some (.int (iI y2)), some (.int (iI (y3 + 1)))]) (a := y3) rfl rfl rfl ?_
        refine wp_g (n := 1) (pc' := 4) (L' := [some (.ref 80), some (.int (iI y1)), some (.int (iI y2)), some (.int (iI (y3 + 1)))]) (st' := []) rfl ?_
        exact hW _ S
      · have dc5 := (Classical.not_not.mp c5)
        have hW := hW.1 dc5
        refine wp_g (n := 1) (pc' := 26) (L' := [some (.ref 80), some (.int (iI y1)), some (.int (iI y2)), some (.int (iI y3))]) (st' := [.ref 80]) rfl ?_
        refine wp_getf (v := .ref 81) rfl rfl (S.cell 80 (nc rfl)) (by decide) rfl ?_
        refine wp_g (n := 2) (pc' := 31) (L' := [some (.ref 80), some (.int (iI y1)), some (.int (iI y2)), some (.int (iI y3))]) (st' := [.int (iI y2), .int (iI y3), .ref 81]) rfl ?_
        obtain ⟨p11, hW⟩ := hW
        refine wp_iasF (n := 16) (F := (m 81)) (y := y2) rfl (S.cell 81 (nc rfl)) p11.1 p11.2 (by decide) (fun H10 hl10 hz10 hf10 => ?_)
        have S : ST H10 (up m 81 (up (m 81) ((y3).toNat) y2)) γ t := S.setI 81 (nc rfl) hl10 hz10 hf10 hy2.1 hy2.2
        refine wp_iinc (L' := [some (.ref 80), some (.int (iI y1)), some (.int (iI (y2 + 1))), some (.int (iI y3))]) (a := y2) rfl rfl rfl ?_
        refine wp_g (n := 1) (pc' := 57) (L' := [some (.ref 80), some (.int (iI y1)), some (.int (iI (y2 + 1))), some (.int (iI y3))]) (st' := []) rfl ?_
        refine wp_iinc (L' := [some (.ref 80), some (.int (iI y1)), some (.int (iI (y2 + 1))), some (.int (iI (y3 + 1)))]) (a := y3) rfl rfl rfl ?_
        refine wp_g (n := 1) (pc' := 4) (L' := [some (.ref 80), some (.int (iI y1)), some (.int (iI (y2 + 1))), some (.int (iI (y3 + 1)))]) (st' := []) rfl ?_
        exact hW _ S
abbrev W_X2_tie (E : am_E) (k : Nat) (x1 : Int) (x2 : Int) (m : MM) (γ : GM) (t : am_H) (Q : MM → GM → am_H → Prop) : Prop := (((x1 < 0) → (Q m γ t)) ∧ (¬ (x1 < 0) → (((x2 < 0) → (Q m γ t)) ∧ (¬ (x2 < 0) → (((x1 < 16) → (((x2 < 16) → (((x1 = x2) → (Q m γ t)) ∧ (¬ (x1 = x2) → ((0 ≤ x1 ∧ x1 < 16) ∧ ((0 ≤ x1 ∧ x1 < 16) ∧ ((0 ≤ x1 ∧ x1 < 16) ∧ (rK ((m (83 + (x1).toNat) ((x1).toNat)) + 1) ∧ (∀ m13, m13 = (up m (83 + (x1).toNat) (up (m (83 + (x1).toNat)) ((x1).toNat) ((m (83 + (x1).toNat) ((x1).toNat)) + 1))) → ((0 ≤ x2 ∧ x2 < 16) ∧ ((0 ≤ x2 ∧ x2 < 16) ∧ ((0 ≤ x2 ∧ x2 < 16) ∧ (rK ((m13 (83 + (x2).toNat) ((x2).toNat)) + 1) ∧ (∀ m21, m21 = (up m13 (83 + (x2).toNat) (up (m13 (83 + (x2).toNat)) ((x2).toNat) ((m13 (83 + (x2).toNat) ((x2).toNat)) + 1))) → ((0 ≤ x1 ∧ x1 < 16) ∧ ((0 ≤ x2 ∧ x2 < 16) ∧ ((0 ≤ x2 ∧ x2 < 16) ∧ (rK ((m21 (83 + (x1).toNat) ((x2).toNat)) - 1) ∧ (∀ m29, m29 = (up m21 (83 + (x1).toNat) (up (m21 (83 + (x1).toNat)) ((x2).toNat) ((m21 (83 + (x1).toNat) ((x2).toNat)) - 1))) → ((0 ≤ x2 ∧ x2 < 16) ∧ ((0 ≤ x1 ∧ x1 < 16) ∧ ((0 ≤ x1 ∧ x1 < 16) ∧ (rK ((m29 (83 + (x2).toNat) ((x1).toNat)) - 1) ∧ (∀ m37, m37 = (up m29 (83 + (x2).toNat) (up (m29 (83 + (x2).toNat)) ((x1).toNat) ((m29 (83 + (x2).toNat) ((x1).toNat)) - 1))) → (Q m37 γ t)))))))))))))))))))))))) ∧ (¬ (x2 < 16) → (Q m γ t)))) ∧ (¬ (x1 < 16) → (Q m γ t)))))))
theorem vc_X2_tie {E : am_E} {k : Nat} {x1 : Int} {x2 : Int} {m : MM} {γ : GM} {t : am_H} {Q : MM → GM → am_H → Prop} (hx1 : rJ x1) (hx2 : rJ x2) (hW : W_X2_tie E k x1 x2 m γ t Q) : TV E k 19 [.ref 80, .int (iI x1), .int (iI x2)] m γ t Q := by
  unfold W_X2_tie at hW
  intro h S
  refine wp_g (n := 1) (pc' := 1) (L' := [some (.ref 80), some (.int (iI x1)), some (.int (iI x2))]) (st' := [.int (iI x1)]) rfl ?_
  refine wp_ifI (a := x1) rfl rfl hx1.1 hx1.2 (fun c1 => ?_) (fun c1 => ?_)
  · have dc1 := c1
    have hW := hW.1 dc1
    exact wp_vret rfl rfl ⟨_, _, _, rfl, S, hW⟩
  · have dc1 := c1
    have hW := hW.2 dc1
    refine wp_g (n := 1) (pc' := 5) (L' := [some (.ref 80), some (.int (iI x1)), some (.int (iI x2))]) (st' := [.int (iI x2)]) rfl ?_
    refine wp_ifI (a := x2) rfl rfl hx2.1 hx2.2 (fun c2 => ?_) (fun c2 => ?_)
    · have dc2 := c2
      have hW := hW.1 dc2
      exact wp_vret rfl rfl ⟨_, _, _, rfl, S, hW⟩
    · have dc2 := c2
      have hW := hW.2 dc2
      refine wp_g (n := 2) (pc' := 11) (L' := [some (.ref 80), some (.int (iI x1)), some (.int (iI x2))]) (st' := [.int (iI 16), .int (iI x1)]) rfl ?_
      refine wp_icmpI (a := x1) (b := 16) rfl rfl hx1.1 hx1.2 (by decide) (by decide) (fun c3 => ?_) (fun c3 => ?_)
      · have dc3 := (Int.not_lt.mpr c3)
        have hW := hW.2 dc3
        exact wp_vret rfl rfl ⟨_, _, _, rfl, S, hW⟩
      · have dc3 := (Int.not_le.mp c3)
        have hW := hW.1 dc3
        refine wp_g (n := 2) (pc' := 17) (L' := [some (.ref 80), some (.int (iI x1)), some (.int (iI x2))]) (st' := [.int (iI 16), .int (iI x2)]) rfl ?_
        refine wp_icmpI (a := x2) (b := 16) rfl rfl hx2.1 hx2.2 (by decide) (by decide) (fun c4 => ?_) (fun c4 => ?_)
        · have dc4 := (Int.not_lt.mpr c4)
          have hW := hW.2 dc4
          exact wp_vret rfl rfl ⟨_, _, _, rfl, S, hW⟩
        · have dc4 := (Int.not_le.mp c4)
          have hW := hW.1 dc4
          refine wp_g (n := 2) (pc' := 22) (L' := [some (.ref 80), some (.int (iI x1)), some (.int (iI x2))]) (st' := [.int (iI x2), .int (iI x1)]) rfl ?_
          refine wp_icmpI (a := x1) (b := x2) rfl rfl hx1.1 hx1.2 hx2.1 hx2.2 (fun c5 => ?_) (fun c5 => ?_)
          · have dc5 := c5
            have hW := hW.2 dc5
            refine wp_g (n := 1) (pc' := 27) (L' := [some (.ref 80), some (.int (iI x1)), some (.int (iI x2))]) (st' := [.ref 80]) rfl ?_
            refine wp_getf (v := .ref 82) rfl rfl (S.cell 80 (nc rfl)) (by decide) rfl ?_
            refine wp_g (n := 1) (pc' := 31) (L' := [some (.ref 80), some (.int (iI x1)), some (.int (iI x2))]) (st' := [.int (iI x1), .ref 82]) rfl ?_
            obtain ⟨p6, hW⟩ := hW
            have hn7 : (x1).toNat < 16 := by omega
            refine wp_rald (n := 16) (b := (83 + (x1).toNat)) rfl (S.cell 82 (nc rfl)) p6.1 p6.2 (by decide) (if_pos hn7) ?_
            refine wp_g (n := 2) (pc' := 34) (L' := [some (.ref 80), some (.int (iI x1)), some (.int (iI x2))]) (st' := [.int (iI x1), .ref (83 + (x1).toNat), .int (iI x1), .ref (83 + (x1).toNat)]) rfl ?_
            obtain ⟨p8, hW⟩ := hW
            refine wp_lald (n := 16) (F := (m (83 + (x1).toNat))) rfl (ST.frw S hn7) (by omega) p8.1 p8.2 (by decide) ?_
            show wp _ _ _ _ _ [.long (lI (m (83 + (x1).toNat) ((x1).toNat))), .int (iI x1), .ref (83 + (x1).toNat)] _ _
            have hr9 : rK (m (83 + (x1).toNat) ((x1).toNat)) := S.rl (83 + (x1).toNat) ((x1).toNat)
            refine wp_g (n := 1) (pc' := 36) (L' := [some (.ref 80), some (.int (iI x1)), some (.int (iI x2))]) (st' := [.long (lI 1), .long (lI (m (83 + (x1).toNat) ((x1).toNat))), .int (iI x1), .ref (83 + (x1).toNat)]) rfl ?_
            refine wp_ladd (a := (m (83 + (x1).toNat) ((x1).toNat))) (b := 1) rfl ?_
            obtain ⟨p11, hW⟩ := hW
            obtain ⟨p12, hW⟩ := hW
            refine wp_lasF (n := 16) (F := (m (83 + (x1).toNat))) (y := ((m (83 + (x1).toNat) ((x1).toNat)) + 1)) rfl (ST.frw S hn7) p11.1 p11.2 (by decide) (fun H10 hl10 hz10 hf10 => ?_)
            have S : ST H10 (up m (83 + (x1).toNat) (up (m (83 + (x1).toNat)) ((x1).toNat) ((m (83 + (x1).toNat) ((x1).toNat)) + 1))) γ t := S.setL (83 + (x1).toNat) (nc_83 hn7) (lc_83 hn7) hl10 (by rw [lay_83 hn7]; exact hz10) hf10 p12.1 p12.2
            obtain ⟨m13, hm13⟩ : ∃ m13, m13 = (up m (83 + (x1).toNat) (up (m (83 + (x1).toNat)) ((x1).toNat) ((m (83 + (x1).toNat) ((x1).toNat)) + 1))) := ⟨_, rfl⟩
            rw [← hm13] at S
            have hW := hW m13 hm13
            refine wp_g (n := 1) (pc' := 39) (L' := [some (.ref 80), some (.int (iI x1)), some (.int (iI x2))]) (st' := [.ref 80]) rfl ?_
            refine wp_getf (v := .ref 82) rfl rfl (S.cell 80 (nc rfl)) (by decide) rfl ?_
            refine wp_g (n := 1) (pc' := 43) (L' := [some (.ref 80), some (.int (iI x1)), some (.int (iI x2))]) (st' := [.int (iI x2), .ref 82]) rfl ?_
            obtain ⟨p14, hW⟩ := hW
            have hn15 : (x2).toNat < 16 := by omega
            refine wp_rald (n := 16) (b := (83 + (x2).toNat)) rfl (S.cell 82 (nc rfl)) p14.1 p14.2 (by decide) (if_pos hn15) ?_
            refine wp_g (n := 2) (pc' := 46) (L' := [some (.ref 80), some (.int (iI x1)), some (.int (iI x2))]) (st' := [.int (iI x2), .ref (83 + (x2).toNat), .int (iI x2), .ref (83 + (x2).toNat)]) rfl ?_
            obtain ⟨p16, hW⟩ := hW
            refine wp_lald (n := 16) (F := (m13 (83 + (x2).toNat))) rfl (ST.frw S hn15) (by omega) p16.1 p16.2 (by decide) ?_
            show wp _ _ _ _ _ [.long (lI (m13 (83 + (x2).toNat) ((x2).toNat))), .int (iI x2), .ref (83 + (x2).toNat)] _ _
            have hr17 : rK (m13 (83 + (x2).toNat) ((x2).toNat)) := S.rl (83 + (x2).toNat) ((x2).toNat)
            refine wp_g (n := 1) (pc' := 48) (L' := [some (.ref 80), some (.int (iI x1)), some (.int (iI x2))]) (st' := [.long (lI 1), .long (lI (m13 (83 + (x2).toNat) ((x2).toNat))), .int (iI x2), .ref (83 + (x2).toNat)]) rfl ?_
            refine wp_ladd (a := (m13 (83 + (x2).toNat) ((x2).toNat))) (b := 1) rfl ?_
            obtain ⟨p19, hW⟩ := hW
            obtain ⟨p20, hW⟩ := hW
            refine wp_lasF (n := 16) (F := (m13 (83 + (x2).toNat))) (y := ((m13 (83 + (x2).toNat) ((x2).toNat)) + 1)) rfl (ST.frw S hn15) p19.1 p19.2 (by decide) (fun H18 hl18 hz18 hf18 => ?_)
            have S : ST H18 (up m13 (83 + (x2).toNat) (up (m13 (83 + (x2).toNat)) ((x2).toNat) ((m13 (83 + (x2).toNat) ((x2).toNat)) + 1))) γ t := S.setL (83 + (x2).toNat) (nc_83 hn15) (lc_83 hn15) hl18 (by rw [lay_83 hn15]; exact hz18) hf18 p20.1 p20.2
            obtain ⟨m21, hm21⟩ : ∃ m21, m21 = (up m13 (83 + (x2).toNat) (up (m13 (83 + (x2).toNat)) ((x2).toNat) ((m13 (83 + (x2).toNat) ((x2).toNat)) + 1))) := ⟨_, rfl⟩
            rw [← hm21] at S
            have hW := hW m21 hm21
            refine wp_g (n := 1) (pc' := 51) (L' := [some (.ref 80), some (.int (iI x1)), some (.int (iI x2))]) (st' := [.ref 80]) rfl ?_
            refine wp_getf (v := .ref 82) rfl rfl (S.cell 80 (nc rfl)) (by decide) rfl ?_
            refine wp_g (n := 1) (pc' := 55) (L' := [some (.ref 80), some (.int (iI x1)), some (.int (iI x2))]) (st' := [.int (iI x1), .ref 82]) rfl ?_
            obtain ⟨p22, hW⟩ := hW
            have hn23 : (x1).toNat < 16 := by omega
            refine wp_rald (n := 16) (b := (83 + (x1).toNat)) rfl (S.cell 82 (nc rfl)) p22.1 p22.2 (by decide) (if_pos hn23) ?_
            refine wp_g (n := 2) (pc' := 58) (L' := [some (.ref 80), some (.int (iI x1)), some (.int (iI x2))]) (st' := [.int (iI x2), .ref (83 + (x1).toNat), .int (iI x2), .ref (83 + (x1).toNat)]) rfl ?_
            obtain ⟨p24, hW⟩ := hW
            refine wp_lald (n := 16) (F := (m21 (83 + (x1).toNat))) rfl (ST.frw S hn23) (by omega) p24.1 p24.2 (by decide) ?_
            show wp _ _ _ _ _ [.long (lI (m21 (83 + (x1).toNat) ((x2).toNat))), .int (iI x2), .ref (83 + (x1).toNat)] _ _
            have hr25 : rK (m21 (83 + (x1).toNat) ((x2).toNat)) := S.rl (83 + (x1).toNat) ((x2).toNat)
            refine wp_g (n := 1) (pc' := 60) (L' := [some (.ref 80), some (.int (iI x1)), some (.int (iI x2))]) (st' := [.long (lI 1), .long (lI (m21 (83 + (x1).toNat) ((x2).toNat))), .int (iI x2), .ref (83 + (x1).toNat)]) rfl ?_
            refine wp_lsub (a := (m21 (83 + (x1).toNat) ((x2).toNat))) (b := 1) rfl ?_
            obtain ⟨p27, hW⟩ := hW
            obtain ⟨p28, hW⟩ := hW
            refine wp_lasF (n := 16) (F := (m21 (83 + (x1).toNat))) (y := ((m21 (83 + (x1).toNat) ((x2).toNat)) - 1)) rfl (ST.frw S hn23) p27.1 p27.2 (by decide) (fun H26 hl26 hz26 hf26 => ?_)
            have S : ST H26 (up m21 (83 + (x1).toNat) (up (m21 (83 + (x1).toNat)) ((x2).toNat) ((m21 (83 + (x1).toNat) ((x2).toNat)) - 1))) γ t := S.setL (83 + (x1).toNat) (nc_83 hn23) (lc_83 hn23) hl26 (by rw [lay_83 hn23]; exact hz26) hf26 p28.1 p28.2
            obtain ⟨m29, hm29⟩ : ∃ m29, m29 = (up m21 (83 + (x1).toNat) (up (m21 (83 + (x1).toNat)) ((x2).toNat) ((m21 (83 + (x1).toNat) ((x2).toNat)) - 1))) := ⟨_, rfl⟩
            rw [← hm29] at S
            have hW := hW m29 hm29
            refine wp_g (n := 1) (pc' := 63) (L' := [some (.ref 80), some (.int (iI x1)), some (.int (iI x2))]) (st' := [.ref 80]) rfl ?_
            refine wp_getf (v := .ref 82) rfl rfl (S.cell 80 (nc rfl)) (by decide) rfl ?_
            refine wp_g (n := 1) (pc' := 67) (L' := [some (.ref 80), some (.int (iI x1)), some (.int (iI x2))]) (st' := [.int (iI x2), .ref 82]) rfl ?_
            obtain ⟨p30, hW⟩ := hW
            have hn31 : (x2).toNat < 16 := by omega
            refine wp_rald (n := 16) (b := (83 + (x2).toNat)) rfl (S.cell 82 (nc rfl)) p30.1 p30.2 (by decide) (if_pos hn31) ?_
            refine wp_g (n := 2) (pc' := 70) (L' := [some (.ref 80), some (.int (iI x1)), some (.int (iI x2))]) (st' := [.int (iI x1), .ref (83 + (x2).toNat), .int (iI x1), .ref (83 + (x2).toNat)]) rfl ?_
            obtain ⟨p32, hW⟩ := hW
            refine wp_lald (n := 16) (F := (m29 (83 + (x2).toNat))) rfl (ST.frw S hn31) (by omega) p32.1 p32.2 (by decide) ?_
            show wp _ _ _ _ _ [.long (lI (m29 (83 + (x2).toNat) ((x1).toNat))), .int (iI x1), .ref (83 + (x2).toNat)] _ _
            have hr33 : rK (m29 (83 + (x2).toNat) ((x1).toNat)) := S.rl (83 + (x2).toNat) ((x1).toNat)
            refine wp_g (n := 1) (pc' := 72) (L' := [some (.ref 80), some (.int (iI x1)), some (.int (iI x2))]) (st' := [.long (lI 1), .long (lI (m29 (83 + (x2).toNat) ((x1).toNat))), .int (iI x1), .ref (83 + (x2).toNat)]) rfl ?_
            refine wp_lsub (a := (m29 (83 + (x2).toNat) ((x1).toNat))) (b := 1) rfl ?_
            obtain ⟨p35, hW⟩ := hW
            obtain ⟨p36, hW⟩ := hW
            refine wp_lasF (n := 16) (F := (m29 (83 + (x2).toNat))) (y := ((m29 (83 + (x2).toNat) ((x1).toNat)) - 1)) rfl (ST.frw S hn31) p35.1 p35.2 (by decide) (fun H34 hl34 hz34 hf34 => ?_)
            have S : ST H34 (up m29 (83 + (x2).toNat) (up (m29 (83 + (x2).toNat)) ((x1).toNat) ((m29 (83 + (x2).toNat) ((x1).toNat)) - 1))) γ t := S.setL (83 + (x2).toNat) (nc_83 hn31) (lc_83 hn31) hl34 (by rw [lay_83 hn31]; exact hz34) hf34 p36.1 p36.2
            obtain ⟨m37, hm37⟩ : ∃ m37, m37 = (up m29 (83 + (x2).toNat) (up (m29 (83 + (x2).toNat)) ((x1).toNat) ((m29 (83 + (x2).toNat) ((x1).toNat)) - 1))) := ⟨_, rfl⟩
            rw [← hm37] at S
            have hW := hW m37 hm37
            exact wp_vret rfl rfl ⟨_, _, _, rfl, S, hW⟩
          · have dc5 := (Classical.not_not.mp c5)
            have hW := hW.1 dc5
            exact wp_vret rfl rfl ⟨_, _, _, rfl, S, hW⟩
def hd_X2_determinant_18 (E : am_E) (k : Nat) (x1 : Int) (y1 : Int) (y2 : Int) (y4 : Int) (m : MM) (γ : GM) (t : am_H) (Q : Int → MM → GM → am_H → Prop) : Prop := ∀ (z3 z5 z6 z7 z8 : Option Value), TT (pL Q) E k 20 18 [some (.ref 80), some (.int (iI y1)), some (.long (lI y2)), z3, some (.int (iI y4)), z5, z6, z7, z8] [] m γ t
def hd_X2_determinant_53 (E : am_E) (k : Nat) (x1 : Int) (y1 : Int) (y2 : Int) (y4 : Int) (y5 : Int) (y7 : Int) (m : MM) (γ : GM) (t : am_H) (Q : Int → MM → GM → am_H → Prop) : Prop := ∀ (z3 z6 z8 : Option Value), TT (pL Q) E k 20 53 [some (.ref 80), some (.int (iI y1)), some (.long (lI y2)), z3, some (.int (iI y4)), some (.long (lI y5)), z6, some (.int (iI y7)), z8] [] m γ t
def hd_X2_determinant_65 (E : am_E) (k : Nat) (x1 : Int) (y1 : Int) (y2 : Int) (y4 : Int) (y5 : Int) (y7 : Int) (y8 : Int) (m : MM) (γ : GM) (t : am_H) (Q : Int → MM → GM → am_H → Prop) : Prop := ∀ (z3 z6 : Option Value), TT (pL Q) E k 20 65 [some (.ref 80), some (.int (iI y1)), some (.long (lI y2)), z3, some (.int (iI y4)), some (.long (lI y5)), z6, some (.int (iI y7)), some (.int (iI y8))] [] m γ t
abbrev W_X2_determinant (E : am_E) (k : Nat) (x1 : Int) (m : MM) (γ : GM) (t : am_H) (Q : Int → MM → GM → am_H → Prop) : Prop := (((x1 < 1) → (Q 1 m γ t)) ∧ (¬ (x1 < 1) → (((x1 ≤ 16) → (hd_X2_determinant_18 E k x1 x1 1 0 m γ t Q)) ∧ (¬ (x1 ≤ 16) → (Q 1 m γ t)))))
abbrev W_X2_determinant_18 (E : am_E) (k : Nat) (x1 : Int) (y1 : Int) (y2 : Int) (y4 : Int) (m : MM) (γ : GM) (t : am_H) (Q : Int → MM → GM → am_H → Prop) : Prop := (rJ (y4 + 1) ∧ ((((y4 + 1) < y1) → ((0 ≤ y4 ∧ y4 < 16) ∧ ((0 ≤ y4 ∧ y4 < 16) ∧ ((((lcI (m (83 + (y4).toNat) ((y4).toNat)) 0) = 0) → (Q 0 m γ t)) ∧ (¬ ((lcI (m (83 + (y4).toNat) ((y4).toNat)) 0) = 0) → (hd_X2_determinant_53 E k x1 y1 y2 y4 (m (83 + (y4).toNat) ((y4).toNat)) (y4 + 1) m γ t Q)))))) ∧ (¬ ((y4 + 1) < y1) → ((0 ≤ (y1 - 1) ∧ (y1 - 1) < 16) ∧ ((0 ≤ (y1 - 1) ∧ (y1 - 1) < 16) ∧ (Q (m (83 + ((y1 - 1)).toNat) (((y1 - 1)).toNat)) m γ t))))))
abbrev W_X2_determinant_53 (E : am_E) (k : Nat) (x1 : Int) (y1 : Int) (y2 : Int) (y4 : Int) (y5 : Int) (y7 : Int) (m : MM) (γ : GM) (t : am_H) (Q : Int → MM → GM → am_H → Prop) : Prop := (((y7 < y1) → (hd_X2_determinant_65 E k x1 y1 y2 y4 y5 y7 (y4 + 1) m γ t Q)) ∧ (¬ (y7 < y1) → (hd_X2_determinant_18 E k x1 y1 y5 (y4 + 1) m γ t Q)))
abbrev W_X2_determinant_65 (E : am_E) (k : Nat) (x1 : Int) (y1 : Int) (y2 : Int) (y4 : Int) (y5 : Int) (y7 : Int) (y8 : Int) (m : MM) (γ : GM) (t : am_H) (Q : Int → MM → GM → am_H → Prop) : Prop := (((y8 < y1) → ((0 ≤ y7 ∧ y7 < 16) ∧ ((0 ≤ y7 ∧ y7 < 16) ∧ ((0 ≤ y8 ∧ y8 < 16) ∧ ((0 ≤ y7 ∧ y7 < 16) ∧ ((0 ≤ y4 ∧ y4 < 16) ∧ ((0 ≤ y4 ∧ y4 < 16) ∧ ((0 ≤ y8 ∧ y8 < 16) ∧ (rK (((m (83 + (y7).toNat) ((y8).toNat)) * y5) - ((m (83 + (y7).toNat) ((y4).toNat)) * (m (83 + (y4).toNat) ((y8).toNat)))) ∧ (y2 ≠ 0 ∧ ((0 ≤ y8 ∧ y8 < 16) ∧ (rK (Int.tdiv (((m (83 + (y7).toNat) ((y8).toNat)) * y5) - ((m (83 + (y7).toNat) ((y4).toNat)) * (m (83 + (y4).toNat) ((y8).toNat)))) y2) ∧ (∀ m21, m21 = (up m (83 + (y7).toNat) (up (m (83 + (y7).toNat)) ((y8).toNat) (Int.tdiv (((m (83 + (y7).toNat) ((y8).toNat)) * y5) - ((m (83 + (y7).toNat) ((y4).toNat)) * (m (83 + (y4).toNat) ((y8).toNat)))) y2))) → (hd_X2_determinant_65 E k x1 y1 y2 y4 y5 y7 (y8 + 1) m21 γ t Q)))))))))))))) ∧ (¬ (y8 < y1) → (hd_X2_determinant_53 E k x1 y1 y2 y4 y5 (y7 + 1) m γ t Q)))
theorem vc_X2_determinant {E : am_E} {k : Nat} {x1 : Int} {m : MM} {γ : GM} {t : am_H} {Q : Int → MM → GM → am_H → Prop} (hx1 : rJ x1) (hW : W_X2_determinant E k x1 m γ t Q) : TL E k 20 [.ref 80, .int (iI x1)] m γ t Q := by
  unfold W_X2_determinant at hW
  intro h S
  refine wp_g (n := 2) (pc' := 2) (L' := [some (.ref 80), some (.int (iI x1)), none, none, none, none, none, none, none]) (st' := [.int (iI 1), .int (iI x1)]) rfl ?_
  refine wp_icmpI (a := x1) (b := 1) rfl rfl hx1.1 hx1.2 (by decide) (by decide) (fun c1 => ?_) (fun c1 => ?_)
  · have dc1 := c1
    have hW := hW.1 dc1
    refine wp_g (n := 1) (pc' := 12) (L' := [some (.ref 80), some (.int (iI x1)), none, none, none, none, none, none, none]) (st' := [.long (lI 1)]) rfl ?_
    exact wp_lret rfl rfl ⟨_, _, _, _, rfl, (by decide), S, hW⟩
  · have dc1 := c1
    have hW := hW.2 dc1
    refine wp_g (n := 2) (pc' := 8) (L' := [some (.ref 80), some (.int (iI x1)), none, none, none, none, none, none, none]) (st' := [.int (iI 16), .int (iI x1)]) rfl ?_
    refine wp_icmpI (a := x1) (b := 16) rfl rfl hx1.1 hx1.2 (by decide) (by decide) (fun c2 => ?_) (fun c2 => ?_)
    · have dc2 := c2
      have hW := hW.1 dc2
      refine wp_g (n := 4) (pc' := 18) (L' := [some (.ref 80), some (.int (iI x1)), some (.long (lI 1)), none, some (.int (iI 0)), none, none, none, none]) (st' := []) rfl ?_
      exact hW none none none none none _ S
    · have dc2 := c2
      have hW := hW.2 dc2
      refine wp_g (n := 1) (pc' := 12) (L' := [some (.ref 80), some (.int (iI x1)), none, none, none, none, none, none, none]) (st' := [.long (lI 1)]) rfl ?_
      exact wp_lret rfl rfl ⟨_, _, _, _, rfl, (by decide), S, hW⟩
theorem vc_X2_determinant_18 {E : am_E} {k : Nat} {x1 : Int} {y1 : Int} {y2 : Int} {y4 : Int} {m : MM} {γ : GM} {t : am_H} {Q : Int → MM → GM → am_H → Prop} (hx1 : rJ x1) (hy1 : rJ y1) (hy2 : rK y2) (hy4 : rJ y4) (hW : W_X2_determinant_18 E k x1 y1 y2 y4 m γ t Q) : hd_X2_determinant_18 E k x1 y1 y2 y4 m γ t Q := by
  unfold W_X2_determinant_18 at hW
  intro z3 z5 z6 z7 z8 h S
  refine wp_g (n := 2) (pc' := 21) (L' := [some (.ref 80), some (.int (iI y1)), some (.long (lI y2)), z3, some (.int (iI y4)), z5, z6, z7, z8]) (st' := [.int (iI 1), .int (iI y4)]) rfl ?_
  refine wp_add (a := y4) (b := 1) rfl ?_
  refine wp_g (n := 1) (pc' := 23) (L' := [some (.ref 80), some (.int (iI y1)), some (.long (lI y2)), z3, some (.int (iI y4)), z5, z6, z7, z8]) (st' := [.int (iI y1), .int (iI (y4 + 1))]) rfl ?_
  obtain ⟨p1, hW⟩ := hW
  refine wp_icmpI (a := (y4 + 1)) (b := y1) rfl rfl p1.1 p1.2 hy1.1 hy1.2 (fun c2 => ?_) (fun c2 => ?_)
  · have dc2 := (Int.not_lt.mpr c2)
    have hW := hW.2 dc2
    refine wp_g (n := 1) (pc' := 140) (L' := [some (.ref 80), some (.int (iI y1)), some (.long (lI y2)), z3, some (.int (iI y4)), z5, z6, z7, z8]) (st' := [.ref 80]) rfl ?_
    refine wp_getf (v := .ref 82) rfl rfl (S.cell 80 (nc rfl)) (by decide) rfl ?_
    refine wp_g (n := 2) (pc' := 145) (L' := [some (.ref 80), some (.int (iI y1)), some (.long (lI y2)), z3, some (.int (iI y4)), z5, z6, z7, z8]) (st' := [.int (iI 1), .int (iI y1), .ref 82]) rfl ?_
    refine wp_sub (a := y1) (b := 1) rfl ?_
    obtain ⟨p3, hW⟩ := hW
    have hn4 : ((y1 - 1)).toNat < 16 := by omega
    refine wp_rald (n := 16) (b := (83 + ((y1 - 1)).toNat)) rfl (S.cell 82 (nc rfl)) p3.1 p3.2 (by decide) (if_pos hn4) ?_
    refine wp_g (n := 2) (pc' := 149) (L' := [some (.ref 80), some (.int (iI y1)), some (.long (lI y2)), z3, some (.int (iI y4)), z5, z6, z7, z8]) (st' := [.int (iI 1), .int (iI y1), .ref (83 + ((y1 - 1)).toNat)]) rfl ?_
    refine wp_sub (a := y1) (b := 1) rfl ?_
    obtain ⟨p5, hW⟩ := hW
    refine wp_lald (n := 16) (F := (m (83 + ((y1 - 1)).toNat))) rfl (ST.frw S hn4) (by omega) p5.1 p5.2 (by decide) ?_
    show wp _ _ _ _ _ [.long (lI (m (83 + ((y1 - 1)).toNat) (((y1 - 1)).toNat)))] _ _
    have hr6 : rK (m (83 + ((y1 - 1)).toNat) (((y1 - 1)).toNat)) := S.rl (83 + ((y1 - 1)).toNat) (((y1 - 1)).toNat)
    exact wp_lret rfl rfl ⟨_, _, _, _, rfl, hr6, S, hW⟩
  · have dc2 := (Int.not_le.mp c2)
    have hW := hW.1 dc2
    refine wp_g (n := 1) (pc' := 27) (L' := [some (.ref 80), some (.int (iI y1)), some (.long (lI y2)), z3, some (.int (iI y4)), z5, z6, z7, z8]) (st' := [.ref 80]) rfl ?_
    refine wp_getf (v := .ref 82) rfl rfl (S.cell 80 (nc rfl)) (by decide) rfl ?_
    refine wp_g (n := 1) (pc' := 32) (L' := [some (.ref 80), some (.int (iI y1)), some (.long (lI y2)), z3, some (.int (iI y4)), z5, z6, z7, z8]) (st' := [.int (iI y4), .ref 82]) rfl ?_
    obtain ⟨p7, hW⟩ := hW
    have hn8 : (y4).toNat < 16 := by omega
    refine wp_rald (n := 16) (b := (83 + (y4).toNat)) rfl (S.cell 82 (nc rfl)) p7.1 p7.2 (by decide) (if_pos hn8) ?_
    refine wp_g (n := 1) (pc' := 35) (L' := [some (.ref 80), some (.int (iI y1)), some (.long (lI y2)), z3, some (.int (iI y4)), z5, z6, z7, z8]) (st' := [.int (iI y4), .ref (83 + (y4).toNat)]) rfl ?_
    obtain ⟨p9, hW⟩ := hW
    refine wp_lald (n := 16) (F := (m (83 + (y4).toNat))) rfl (ST.frw S hn8) (by omega) p9.1 p9.2 (by decide) ?_
    show wp _ _ _ _ _ [.long (lI (m (83 + (y4).toNat) ((y4).toNat)))] _ _
    have hr10 : rK (m (83 + (y4).toNat) ((y4).toNat)) := S.rl (83 + (y4).toNat) ((y4).toNat)
    refine wp_g (n := 3) (pc' := 41) (L' := [some (.ref 80), some (.int (iI y1)), some (.long (lI y2)), z3, some (.int (iI y4)), some (.long (lI (m (83 + (y4).toNat) ((y4).toNat)))), none, z7, z8]) (st' := [.long (lI 0), .long (lI (m (83 + (y4).toNat) ((y4).toNat)))]) rfl ?_
    refine wp_lcmp (a := (m (83 + (y4).toNat) ((y4).toNat))) (b := 0) rfl hr10 (by decide) ?_
    have hr11 : rJ (lcI (m (83 + (y4).toNat) ((y4).toNat)) 0) := lcI_rg _ _
    refine wp_ifI (a := (lcI (m (83 + (y4).toNat) ((y4).toNat)) 0)) rfl rfl hr11.1 hr11.2 (fun c12 => ?_) (fun c12 => ?_)
    · have dc12 := c12
      have hW := hW.2 dc12
      refine wp_g (n := 2) (pc' := 50) (L' := [some (.ref 80), some (.int (iI y1)), some (.long (lI y2)), z3, some (.int (iI y4)), some (.long (lI (m (83 + (y4).toNat) ((y4).toNat)))), none, z7, z8]) (st' := [.int (iI 1), .int (iI y4)]) rfl ?_
      refine wp_add (a := y4) (b := 1) rfl ?_
      refine wp_g (n := 1) (pc' := 53) (L' := [some (.ref 80), some (.int (iI y1)), some (.long (lI y2)), z3, some (.int (iI y4)), some (.long (lI (m (83 + (y4).toNat) ((y4).toNat)))), none, some (.int (iI (y4 + 1))), z8]) (st' := []) rfl ?_
      exact hW z3 none z8 _ S
    · have dc12 := (Classical.not_not.mp c12)
      have hW := hW.1 dc12
      refine wp_g (n := 1) (pc' := 46) (L' := [some (.ref 80), some (.int (iI y1)), some (.long (lI y2)), z3, some (.int (iI y4)), some (.long (lI (m (83 + (y4).toNat) ((y4).toNat)))), none, z7, z8]) (st' := [.long (lI 0)]) rfl ?_
      exact wp_lret rfl rfl ⟨_, _, _, _, rfl, (by decide), S, hW⟩
theorem vc_X2_determinant_53 {E : am_E} {k : Nat} {x1 : Int} {y1 : Int} {y2 : Int} {y4 : Int} {y5 : Int} {y7 : Int} {m : MM} {γ : GM} {t : am_H} {Q : Int → MM → GM → am_H → Prop} (hx1 : rJ x1) (hy1 : rJ y1) (hy2 : rK y2) (hy4 : rJ y4) (hy5 : rK y5) (hy7 : rJ y7) (hW : W_X2_determinant_53 E k x1 y1 y2 y4 y5 y7 m γ t Q) : hd_X2_determinant_53 E k x1 y1 y2 y4 y5 y7 m γ t Q := by
  unfold W_X2_determinant_53 at hW
  intro z3 z6 z8 h S
  refine wp_g (n := 2) (pc' := 56) (L' := [some (.ref 80), some (.int (iI y1)), some (.long (lI y2)), z3, some (.int (iI y4)), some (.long (lI y5)), z6, some (.int (iI y7)), z8]) (st' := [.int (iI y1), .int (iI y7)]) rfl ?_
  refine wp_icmpI (a := y7) (b := y1) rfl rfl hy7.1 hy7.2 hy1.1 hy1.2 (fun c1 => ?_) (fun c1 => ?_)
  · have dc1 := (Int.not_lt.mpr c1)
    have hW := hW.2 dc1
    refine wp_g (n := 2) (pc' := 133) (L' := [some (.ref 80), some (.int (iI y1)), some (.long (lI y5)), none, some (.int (iI y4)), some (.long (lI y5)), z6, some (.int (iI y7)), z8]) (st' := []) rfl ?_
    refine wp_iinc (L' := [some (.ref 80), some (.int (iI y1)), some (.long (lI y5)), none, some (.int (iI (y4 + 1))), some (.long (lI y5)), z6, some (.int (iI y7)), z8]) (a := y4) rfl rfl rfl ?_
    refine wp_g (n := 1) (pc' := 18) (L' := [some (.ref 80), some (.int (iI y1)), some (.long (lI y5)), none, some (.int (iI (y4 + 1))), some (.long (lI y5)), z6, some (.int (iI y7)), z8]) (st' := []) rfl ?_
    exact hW none (some (.long (lI y5))) z6 (some (.int (iI y7))) z8 _ S
  · have dc1 := (Int.not_le.mp c1)
    have hW := hW.1 dc1
    refine wp_g (n := 2) (pc' := 62) (L' := [some (.ref 80), some (.int (iI y1)), some (.long (lI y2)), z3, some (.int (iI y4)), some (.long (lI y5)), z6, some (.int (iI y7)), z8]) (st' := [.int (iI 1), .int (iI y4)]) rfl ?_
    refine wp_add (a := y4) (b := 1) rfl ?_
    refine wp_g (n := 1) (pc' := 65) (L' := [some (.ref 80), some (.int (iI y1)), some (.long (lI y2)), z3, some (.int (iI y4)), some (.long (lI y5)), z6, some (.int (iI y7)), some (.int (iI (y4 + 1)))]) (st' := []) rfl ?_
    exact hW z3 z6 _ S
theorem vc_X2_determinant_65 {E : am_E} {k : Nat} {x1 : Int} {y1 : Int} {y2 : Int} {y4 : Int} {y5 : Int} {y7 : Int} {y8 : Int} {m : MM} {γ : GM} {t : am_H} {Q : Int → MM → GM → am_H → Prop} (hx1 : rJ x1) (hy1 : rJ y1) (hy2 : rK y2) (hy4 : rJ y4) (hy5 : rK y5) (hy7 : rJ y7) (hy8 : rJ y8) (hW : W_X2_determinant_65 E k x1 y1 y2 y4 y5 y7 y8 m γ t Q) : hd_X2_determinant_65 E k x1 y1 y2 y4 y5 y7 y8 m γ t Q := by
  unfold W_X2_determinant_65 at hW
  intro z3 z6 h S
  refine wp_g (n := 2) (pc' := 68) (L' := [some (.ref 80), some (.int (iI y1)), some (.long (lI y2)), z3, some (.int (iI y4)), some (.long (lI y5)), z6, some (.int (iI y7)), some (.int (iI y8))]) (st' := [.int (iI y1), .int (iI y8)]) rfl ?_
  refine wp_icmpI (a := y8) (b := y1) rfl rfl hy8.1 hy8.2 hy1.1 hy1.2 (fun c1 => ?_) (fun c1 => ?_)
  · have dc1 := (Int.not_lt.mpr c1)
    have hW := hW.2 dc1
    refine wp_iinc (L' := [some (.ref 80), some (.int (iI y1)), some (.long (lI y2)), z3, some (.int (iI y4)), some (.long (lI y5)), (bif am_c2 z6 then none else z6), some (.int (iI (y7 + 1))), some (.int (iI y8))]) (a := y7) rfl rfl rfl ?_
    refine wp_g (n := 1) (pc' := 53) (L' := [some (.ref 80), some (.int (iI y1)), some (.long (lI y2)), z3, some (.int (iI y4)), some (.long (lI y5)), (bif am_c2 z6 then none else z6), some (.int (iI (y7 + 1))), some (.int (iI y8))]) (st' := []) rfl ?_
    exact hW z3 (bif am_c2 z6 then none else z6) (some (.int (iI y8))) _ S
  · have dc1 := (Int.not_le.mp c1)
    have hW := hW.1 dc1
    refine wp_g (n := 1) (pc' := 72) (L' := [some (.ref 80), some (.int (iI y1)), some (.long (lI y2)), z3, some (.int (iI y4)), some (.long (lI y5)), z6, some (.int (iI y7)), some (.int (iI y8))]) (st' := [.ref 80]) rfl ?_
    refine wp_getf (v := .ref 82) rfl rfl (S.cell 80 (nc rfl)) (by decide) rfl ?_
    refine wp_g (n := 1) (pc' := 77) (L' := [some (.ref 80), some (.int (iI y1)), some (.long (lI y2)), z3, some (.int (iI y4)), some (.long (lI y5)), z6, some (.int (iI y7)), some (.int (iI y8))]) (st' := [.int (iI y7), .ref 82]) rfl ?_
    obtain ⟨p2, hW⟩ := hW
    have hn3 : (y7).toNat < 16 := by omega
    refine wp_rald (n := 16) (b := (83 + (y7).toNat)) rfl (S.cell 82 (nc rfl)) p2.1 p2.2 (by decide) (if_pos hn3) ?_
    refine wp_g (n := 2) (pc' := 81) (L' := [some (.ref 80), some (.int (iI y1)), some (.long (lI y2)), z3, some (.int (iI y4)), some (.long (lI y5)), z6, some (.int (iI y7)), some (.int (iI y8))]) (st' := [.ref 80, .int (iI y8), .ref (83 + (y7).toNat)]) rfl ?_
    refine wp_getf (v := .ref 82) rfl rfl (S.cell 80 (nc rfl)) (by decide) rfl ?_
    refine wp_g (n := 1) (pc' := 86) (L' := [some (.ref 80), some (.int (iI y1)), some (.long (lI y2)), z3, some (.int (iI y4)), some (.long (lI y5)), z6, some (.int (iI y7)), some (.int (iI y8))]) (st' := [.int (iI y7), .ref 82, .int (iI y8), .ref (83 + (y7).toNat)]) rfl ?_
    obtain ⟨p4, hW⟩ := hW
    have hn5 : (y7).toNat < 16 := by omega
    refine wp_rald (n := 16) (b := (83 + (y7).toNat)) rfl (S.cell 82 (nc rfl)) p4.1 p4.2 (by decide) (if_pos hn5) ?_
    refine wp_g (n := 1) (pc' := 89) (L' := [some (.ref 80), some (.int (iI y1)), some (.long (lI y2)), z3, some (.int (iI y4)), some (.long (lI y5)), z6, some (.int (iI y7)), some (.int (iI y8))]) (st' := [.int (iI y8), .ref (83 + (y7).toNat), .int (iI y8), .ref (83 + (y7).toNat)]) rfl ?_
    obtain ⟨p6, hW⟩ := hW
    refine wp_lald (n := 16) (F := (m (83 + (y7).toNat))) rfl (ST.frw S hn5) (by omega) p6.1 p6.2 (by decide) ?_
    show wp _ _ _ _ _ [.long (lI (m (83 + (y7).toNat) ((y8).toNat))), .int (iI y8), .ref (83 + (y7).toNat)] _ _
    have hr7 : rK (m (83 + (y7).toNat) ((y8).toNat)) := S.rl (83 + (y7).toNat) ((y8).toNat)
    refine wp_g (n := 1) (pc' := 92) (L' := [some (.ref 80), some (.int (iI y1)), some (.long (lI y2)), z3, some (.int (iI y4)), some (.long (lI y5)), z6, some (.int (iI y7)), some (.int (iI y8))]) (st' := [.long (lI y5), .long (lI (m (83 + (y7).toNat) ((y8).toNat))), .int (iI y8), .ref (83 + (y7).toNat)]) rfl ?_
    refine wp_lmul (a := (m (83 + (y7).toNat) ((y8).toNat))) (b := y5) rfl ?_
    refine wp_g (n := 1) (pc' := 94) (L' := [some (.ref 80), some (.int (iI y1)), some (.long (lI y2)), z3, some (.int (iI y4)), some (.long (lI y5)), z6, some (.int (iI y7)), some (.int (iI y8))]) (st' := [.ref 80, .long (lI ((m (83 + (y7).toNat) ((y8).toNat)) * y5)), .int (iI y8), .ref (83 + (y7).toNat)]) rfl ?_
    refine wp_getf (v := .ref 82) rfl rfl (S.cell 80 (nc rfl)) (by decide) rfl ?_
    refine wp_g (n := 1) (pc' := 99) (L' := [some (.ref 80), some (.int (iI y1)), some (.long (lI y2)), z3, some (.int (iI y4)), some (.long (lI y5)), z6, some (.int (iI y7)), some (.int (iI y8))]) (st' := [.int (iI y7), .ref 82, .long (lI ((m (83 + (y7).toNat) ((y8).toNat)) * y5)), .int (iI y8), .ref (83 + (y7).toNat)]) rfl ?_
    obtain ⟨p8, hW⟩ := hW
    have hn9 : (y7).toNat < 16 := by omega
    refine wp_rald (n := 16) (b := (83 + (y7).toNat)) rfl (S.cell 82 (nc rfl)) p8.1 p8.2 (by decide) (if_pos hn9) ?_
    refine wp_g (n := 1) (pc' := 102) (L' := [some (.ref 80), some (.int (iI y1)), some (.long (lI y2)), z3, some (.int (iI y4)), some (.long (lI y5)), z6, some (.int (iI y7)), some (.int (iI y8))]) (st' := [.int (iI y4), .ref (83 + (y7).toNat), .long (lI ((m (83 + (y7).toNat) ((y8).toNat)) * y5)), .int (iI y8), .ref (83 + (y7).toNat)]) rfl ?_
    obtain ⟨p10, hW⟩ := hW
    refine wp_lald (n := 16) (F := (m (83 + (y7).toNat))) rfl (ST.frw S hn9) (by omega) p10.1 p10.2 (by decide) ?_
    show wp _ _ _ _ _ [.long (lI (m (83 + (y7).toNat) ((y4).toNat))), .long (lI ((m (83 + (y7).toNat) ((y8).toNat)) * y5)), .int (iI y8), .ref (83 + (y7).toNat)] _ _
    have hr11 : rK (m (83 + (y7).toNat) ((y4).toNat)) := S.rl (83 + (y7).toNat) ((y4).toNat)
    refine wp_g (n := 1) (pc' := 104) (L' := [some (.ref 80), some (.int (iI y1)), some (.long (lI y2)), z3, some (.int (iI y4)), some (.long (lI y5)), z6, some (.int (iI y7)), some (.int (iI y8))]) (st' := [.ref 80, .long (lI (m (83 + (y7).toNat) ((y4).toNat))), .long (lI ((m (83 + (y7).toNat) ((y8).toNat)) * y5)), .int (iI y8), .ref (83 + (y7).toNat)]) rfl ?_
    refine wp_getf (v := .ref 82) rfl rfl (S.cell 80 (nc rfl)) (by decide) rfl ?_
    refine wp_g (n := 1) (pc' := 109) (L' := [some (.ref 80), some (.int (iI y1)), some (.long (lI y2)), z3, some (.int (iI y4)), some (.long (lI y5)), z6, some (.int (iI y7)), some (.int (iI y8))]) (st' := [.int (iI y4), .ref 82, .long (lI (m (83 + (y7).toNat) ((y4).toNat))), .long (lI ((m (83 + (y7).toNat) ((y8).toNat)) * y5)), .int (iI y8), .ref (83 + (y7).toNat)]) rfl ?_
    obtain ⟨p12, hW⟩ := hW
    have hn13 : (y4).toNat < 16 := by omega
    refine wp_rald (n := 16) (b := (83 + (y4).toNat)) rfl (S.cell 82 (nc rfl)) p12.1 p12.2 (by decide) (if_pos hn13) ?_
    refine wp_g (n := 1) (pc' := 112) (L' := [some (.ref 80), some (.int (iI y1)), some (.long (lI y2)), z3, some (.int (iI y4)), some (.long (lI y5)), z6, some (.int (iI y7)), some (.int (iI y8))]) (st' := [.int (iI y8), .ref (83 + (y4).toNat), .long (lI (m (83 + (y7).toNat) ((y4).toNat))), .long (lI ((m (83 + (y7).toNat) ((y8).toNat)) * y5)), .int (iI y8), .ref (83 + (y7).toNat)]) rfl ?_
    obtain ⟨p14, hW⟩ := hW
    refine wp_lald (n := 16) (F := (m (83 + (y4).toNat))) rfl (ST.frw S hn13) (by omega) p14.1 p14.2 (by decide) ?_
    show wp _ _ _ _ _ [.long (lI (m (83 + (y4).toNat) ((y8).toNat))), .long (lI (m (83 + (y7).toNat) ((y4).toNat))), .long (lI ((m (83 + (y7).toNat) ((y8).toNat)) * y5)), .int (iI y8), .ref (83 + (y7).toNat)] _ _
    have hr15 : rK (m (83 + (y4).toNat) ((y8).toNat)) := S.rl (83 + (y4).toNat) ((y8).toNat)
    refine wp_lmul (a := (m (83 + (y7).toNat) ((y4).toNat))) (b := (m (83 + (y4).toNat) ((y8).toNat))) rfl ?_
    refine wp_lsub (a := ((m (83 + (y7).toNat) ((y8).toNat)) * y5)) (b := ((m (83 + (y7).toNat) ((y4).toNat)) * (m (83 + (y4).toNat) ((y8).toNat)))) rfl ?_
    refine wp_g (n := 1) (pc' := 116) (L' := [some (.ref 80), some (.int (iI y1)), some (.long (lI y2)), z3, some (.int (iI y4)), some (.long (lI y5)), z6, some (.int (iI y7)), some (.int (iI y8))]) (st' := [.long (lI y2), .long (lI (((m (83 + (y7).toNat) ((y8).toNat)) * y5) - ((m (83 + (y7).toNat) ((y4).toNat)) * (m (83 + (y4).toNat) ((y8).toNat))))), .int (iI y8), .ref (83 + (y7).toNat)]) rfl ?_
    obtain ⟨p16, hW⟩ := hW
    obtain ⟨p17, hW⟩ := hW
    refine wp_ldivt (a := (((m (83 + (y7).toNat) ((y8).toNat)) * y5) - ((m (83 + (y7).toNat) ((y4).toNat)) * (m (83 + (y4).toNat) ((y8).toNat))))) (b := y2) rfl p16 hy2 p17 ?_
    obtain ⟨p19, hW⟩ := hW
    obtain ⟨p20, hW⟩ := hW
    refine wp_lasF (n := 16) (F := (m (83 + (y7).toNat))) (y := (Int.tdiv (((m (83 + (y7).toNat) ((y8).toNat)) * y5) - ((m (83 + (y7).toNat) ((y4).toNat)) * (m (83 + (y4).toNat) ((y8).toNat)))) y2)) rfl (ST.frw S hn9) p19.1 p19.2 (by decide) (fun H18 hl18 hz18 hf18 => ?_)
    have S : ST H18 (up m (83 + (y7).toNat) (up (m (83 + (y7).toNat)) ((y8).toNat) (Int.tdiv (((m (83 + (y7).toNat) ((y8).toNat)) * y5) - ((m (83 + (y7).toNat) ((y4).toNat)) * (m (83 + (y4).toNat) ((y8).toNat)))) y2))) γ t := S.setL (83 + (y7).toNat) (nc_83 hn9) (lc_83 hn9) hl18 (by rw [lay_83 hn9]; exact hz18) hf18 p20.1 p20.2
    obtain ⟨m21, hm21⟩ : ∃ m21, m21 = (up m (83 + (y7).toNat) (up (m (83 + (y7).toNat)) ((y8).toNat) (Int.tdiv (((m (83 + (y7).toNat) ((y8).toNat)) * y5) - ((m (83 + (y7).toNat) ((y4).toNat)) * (m (83 + (y4).toNat) ((y8).toNat)))) y2))) := ⟨_, rfl⟩
    rw [← hm21] at S
    have hW := hW m21 hm21
    refine wp_iinc (L' := [some (.ref 80), some (.int (iI y1)), some (.long (lI y2)), z3, some (.int (iI y4)), some (.long (lI y5)), z6, some (.int (iI y7)), some (.int (iI (y8 + 1)))]) (a := y8) rfl rfl rfl ?_
    refine wp_g (n := 1) (pc' := 65) (L' := [some (.ref 80), some (.int (iI y1)), some (.long (lI y2)), z3, some (.int (iI y4)), some (.long (lI y5)), z6, some (.int (iI y7)), some (.int (iI (y8 + 1)))]) (st' := []) rfl ?_
    exact hW z3 z6 _ S
