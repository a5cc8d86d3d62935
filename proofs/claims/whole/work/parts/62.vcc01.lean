abbrev W_X4_size (E : am_E) (k : Nat) (m : MM) (γ : GM) (t : am_H) (Q : Int → MM → GM → am_H → Prop) : Prop := (Q (m 101 1) m γ t)
theorem vc_X4_size {E : am_E} {k : Nat} {m : MM} {γ : GM} {t : am_H} {Q : Int → MM → GM → am_H → Prop} (hW : W_X4_size E k  m γ t Q) : TI E k 49 [.ref 101] m γ t Q := by
  unfold W_X4_size at hW
  intro h S
  refine wp_g (n := 1) (pc' := 1) (L' := [some (.ref 101)]) (st' := [.ref 101]) rfl ?_
  refine wp_getf (v := .int (iI (m 101 1))) rfl rfl (S.cell 101 (nc rfl)) (by decide) rfl ?_
  have hr1 : rJ (m 101 1) := S.rg 101 1 (nl rfl)
  exact wp_iret rfl rfl ⟨_, _, _, _, rfl, hr1, S, hW⟩
abbrev W_X4_byteAt (E : am_E) (k : Nat) (x1 : Int) (m : MM) (γ : GM) (t : am_H) (Q : Int → MM → GM → am_H → Prop) : Prop := (((x1 < 0) → (Q (-1) m γ t)) ∧ (¬ (x1 < 0) → (((x1 < (m 101 1)) → (((x1 < 400) → ((0 ≤ x1 ∧ x1 < 400) ∧ (Q (m 102 ((x1).toNat)) m γ t))) ∧ (¬ (x1 < 400) → (Q (-1) m γ t)))) ∧ (¬ (x1 < (m 101 1)) → (Q (-1) m γ t)))))
theorem vc_X4_byteAt {E : am_E} {k : Nat} {x1 : Int} {m : MM} {γ : GM} {t : am_H} {Q : Int → MM → GM → am_H → Prop} (hx1 : rJ x1) (hW : W_X4_byteAt E k x1 m γ t Q) : TI E k 50 [.ref 101, .int (iI x1)] m γ t Q := by
  unfold W_X4_byteAt at hW
  intro h S
  refine wp_g (n := 1) (pc' := 1) (L' := [some (.ref 101), some (.int (iI x1))]) (st' := [.int (iI x1)]) rfl ?_
  refine wp_ifI (a := x1) rfl rfl hx1.1 hx1.2 (fun c1 => ?_) (fun c1 => ?_)
  · have dc1 := c1
    have hW := hW.1 dc1
    refine wp_g (n := 1) (pc' := 29) (L' := [some (.ref 101), some (.int (iI x1))]) (st' := [.int (iI (-1))]) rfl ?_
    exact wp_iret rfl rfl ⟨_, _, _, _, rfl, (by decide), S, hW⟩
  · have dc1 := c1
    have hW := hW.2 dc1
    refine wp_g (n := 2) (pc' := 6) (L' := [some (.ref 101), some (.int (iI x1))]) (st' := [.ref 101, .int (iI x1)]) rfl ?_
    refine wp_getf (v := .int (iI (m 101 1))) rfl rfl (S.cell 101 (nc rfl)) (by decide) rfl ?_
    have hr2 : rJ (m 101 1) := S.rg 101 1 (nl rfl)
    refine wp_icmpI (a := x1) (b := (m 101 1)) rfl rfl hx1.1 hx1.2 hr2.1 hr2.2 (fun c3 => ?_) (fun c3 => ?_)
    · have dc3 := (Int.not_lt.mpr c3)
      have hW := hW.2 dc3
      refine wp_g (n := 1) (pc' := 29) (L' := [some (.ref 101), some (.int (iI x1))]) (st' := [.int (iI (-1))]) rfl ?_
      exact wp_iret rfl rfl ⟨_, _, _, _, rfl, (by decide), S, hW⟩
    · have dc3 := (Int.not_le.mp c3)
      have hW := hW.1 dc3
      refine wp_g (n := 2) (pc' := 16) (L' := [some (.ref 101), some (.int (iI x1))]) (st' := [.int (iI 400), .int (iI x1)]) rfl ?_
      refine wp_icmpI (a := x1) (b := 400) rfl rfl hx1.1 hx1.2 (by decide) (by decide) (fun c4 => ?_) (fun c4 => ?_)
      · have dc4 := (Int.not_lt.mpr c4)
        have hW := hW.2 dc4
        refine wp_g (n := 1) (pc' := 29) (L' := [some (.ref 101), some (.int (iI x1))]) (st' := [.int (iI (-1))]) rfl ?_
        exact wp_iret rfl rfl ⟨_, _, _, _, rfl, (by decide), S, hW⟩
      · have dc4 := (Int.not_le.mp c4)
        have hW := hW.1 dc4
        refine wp_g (n := 1) (pc' := 20) (L' := [some (.ref 101), some (.int (iI x1))]) (st' := [.ref 101]) rfl ?_
        refine wp_getf (v := .ref 102) rfl rfl (S.cell 101 (nc rfl)) (by decide) rfl ?_
        refine wp_g (n := 1) (pc' := 24) (L' := [some (.ref 101), some (.int (iI x1))]) (st' := [.int (iI x1), .ref 102]) rfl ?_
        obtain ⟨p5, hW⟩ := hW
        refine wp_bald (n := 400) (F := (m 102)) rfl (S.cell 102 (nc rfl)) (by decide) p5.1 p5.2 (by decide) ?_
        show wp _ _ _ _ _ [.int (iI (m 102 ((x1).toNat)))] _ _
        have hr6 : rJ (m 102 ((x1).toNat)) := S.rg 102 ((x1).toNat) (nl rfl)
        refine wp_g (n := 1) (pc' := 29) (L' := [some (.ref 101), some (.int (iI x1))]) (st' := [.int (iI (m 102 ((x1).toNat)))]) rfl ?_
        exact wp_iret rfl rfl ⟨_, _, _, _, rfl, hr6, S, hW⟩
abbrev W_X4_tellGrid (E : am_E) (k : Nat) (g1 : Nat) (m : MM) (γ : GM) (t : am_H) (Q : MM → GM → am_H → Prop) : Prop := (TV E k 55 [.ref 101, .ref 1000012] (up m 101 (up (m 101) 1 0)) γ t (fun m2 γ2 t2 => (TI E k 25 [.ref g1] m2 γ2 t2 (fun v3 m3 γ3 t3 => (TV E k 56 [.ref 101, .int (iI v3)] m3 γ3 t3 (fun m4 γ4 t4 => (TV E k 57 [.ref 101, .int (iI 32)] m4 γ4 t4 (fun m5 γ5 t5 => (TI E k 26 [.ref g1] m5 γ5 t5 (fun v6 m6 γ6 t6 => (TV E k 56 [.ref 101, .int (iI v6)] m6 γ6 t6 (fun m7 γ7 t7 => (TV E k 57 [.ref 101, .int (iI 59)] m7 γ7 t7 (fun m8 γ8 t8 => (TV E k 53 [.ref 101, .ref g1, .int (iI 1), .ref 1000014] m8 γ8 t8 (fun m9 γ9 t9 => (TV E k 53 [.ref 101, .ref g1, .int (iI 2), .ref 1000020] m9 γ9 t9 (fun m10 γ10 t10 => (TV E k 53 [.ref 101, .ref g1, .int (iI 3), .ref 1000022] m10 γ10 t10 (fun m11 γ11 t11 => (Q m11 γ11 t11)))))))))))))))))))))
theorem vc_X4_tellGrid {E : am_E} {k : Nat} {g1 : Nat} {m : MM} {γ : GM} {t : am_H} {Q : MM → GM → am_H → Prop} (hg1 : isg g1) (hW : W_X4_tellGrid E k g1 m γ t Q) : TV E (k + 1) 51 [.ref 101, .ref g1] m γ t Q := by
  unfold W_X4_tellGrid at hW
  intro h S
  refine wp_g (n := 2) (pc' := 2) (L' := [some (.ref 101), some (.ref g1)]) (st' := [.int (iI 0), .ref 101]) rfl ?_
  refine wp_putI rfl rfl (S.cell 101 (nc rfl)) (Nat.le_of_ble_eq_true rfl) rfl (fun H1 hl1 hz1 hf1 => ?_)
  have S : ST H1 (up m 101 (up (m 101) 1 0)) γ t := S.setI 101 (nc rfl) hl1 hz1 hf1 (by decide) (by decide)
  refine wp_g (n := 2) (pc' := 8) (L' := [some (.ref 101), some (.ref g1)]) (st' := [.ref 1000012, .ref 101]) rfl ?_
  refine wp_cv (As := [.ref 1000012]) (rest := []) rfl rfl (S.cell 101 (nc rfl)) (by decide) rfl rfl rfl (Nat.le_of_ble_eq_true rfl) (Nat.le_of_ble_eq_true rfl) (hW _ S) (fun r2 H2 q2 => ?_)
  obtain ⟨m2, γ2, t2, rfl, S, hW⟩ := q2
  show wp _ _ _ _ _ [] _ _
  refine wp_g (n := 2) (pc' := 13) (L' := [some (.ref 101), some (.ref g1)]) (st' := [.ref g1, .ref 101]) rfl ?_
  refine wp_cv (As := []) (rest := [.ref 101]) rfl rfl (S.gg g1 hg1).obj (isg_lt hg1) rfl rfl rfl (Nat.le_of_ble_eq_true rfl) (Nat.le_of_ble_eq_true rfl) (hW _ S) (fun r3 H3 q3 => ?_)
  obtain ⟨v3, m3, γ3, t3, rfl, hv3, S, hW⟩ := q3
  show wp _ _ _ _ _ [.int (iI v3), .ref 101] _ _
  refine wp_cv (As := [.int (iI v3)]) (rest := []) rfl rfl (S.cell 101 (nc rfl)) (by decide) rfl rfl rfl (Nat.le_of_ble_eq_true rfl) (Nat.le_of_ble_eq_true rfl) (hW _ S) (fun r4 H4 q4 => ?_)
  obtain ⟨m4, γ4, t4, rfl, S, hW⟩ := q4
  show wp _ _ _ _ _ [] _ _
  refine wp_g (n := 2) (pc' := 22) (L' := [some (.ref 101), some (.ref g1)]) (st' := [.int (iI 32), .ref 101]) rfl ?_
  refine wp_cv (As := [.int (iI 32)]) (rest := []) rfl rfl (S.cell 101 (nc rfl)) (by decide) rfl rfl rfl (Nat.le_of_ble_eq_true rfl) (Nat.le_of_ble_eq_true rfl) (hW _ S) (fun r5 H5 q5 => ?_)
  obtain ⟨m5, γ5, t5, rfl, S, hW⟩ := q5
  show wp _ _ _ _ _ [] _ _
  refine wp_g (n := 2) (pc' := 27) (L' := [some (.ref 101), some (.ref g1)]) (st' := [.ref g1, .ref 101]) rfl ?_
  refine wp_cv (As := []) (rest := [.ref 101]) rfl rfl (S.gg g1 hg1).obj (isg_lt hg1) rfl rfl rfl (Nat.le_of_ble_eq_true rfl) (Nat.le_of_ble_eq_true rfl) (hW _ S) (fun r6 H6 q6 => ?_)
  obtain ⟨v6, m6, γ6, t6, rfl, hv6, S, hW⟩ := q6
  show wp _ _ _ _ _ [.int (iI v6), .ref 101] _ _
  refine wp_cv (As := [.int (iI v6)]) (rest := []) rfl rfl (S.cell 101 (nc rfl)) (by decide) rfl rfl rfl (Nat.le_of_ble_eq_true rfl) (Nat.le_of_ble_eq_true rfl) (hW _ S) (fun r7 H7 q7 => ?_)
  obtain ⟨m7, γ7, t7, rfl, S, hW⟩ := q7
  show wp _ _ _ _ _ [] _ _
  refine wp_g (n := 2) (pc' := 36) (L' := [some (.ref 101), some (.ref g1)]) (st' := [.int (iI 59), .ref 101]) rfl ?_
  refine wp_cv (As := [.int (iI 59)]) (rest := []) rfl rfl (S.cell 101 (nc rfl)) (by decide) rfl rfl rfl (Nat.le_of_ble_eq_true rfl) (Nat.le_of_ble_eq_true rfl) (hW _ S) (fun r8 H8 q8 => ?_)
  obtain ⟨m8, γ8, t8, rfl, S, hW⟩ := q8
  show wp _ _ _ _ _ [] _ _
  refine wp_g (n := 4) (pc' := 44) (L' := [some (.ref 101), some (.ref g1)]) (st' := [.ref 1000014, .int (iI 1), .ref g1, .ref 101]) rfl ?_
  refine wp_cv (As := [.ref g1, .int (iI 1), .ref 1000014]) (rest := []) rfl rfl (S.cell 101 (nc rfl)) (by decide) rfl rfl rfl (Nat.le_of_ble_eq_true rfl) (Nat.le_of_ble_eq_true rfl) (hW _ S) (fun r9 H9 q9 => ?_)
  obtain ⟨m9, γ9, t9, rfl, S, hW⟩ := q9
  show wp _ _ _ _ _ [] _ _
  refine wp_g (n := 4) (pc' := 52) (L' := [some (.ref 101), some (.ref g1)]) (st' := [.ref 1000020, .int (iI 2), .ref g1, .ref 101]) rfl ?_
  refine wp_cv (As := [.ref g1, .int (iI 2), .ref 1000020]) (rest := []) rfl rfl (S.cell 101 (nc rfl)) (by decide) rfl rfl rfl (Nat.le_of_ble_eq_true rfl) (Nat.le_of_ble_eq_true rfl) (hW _ S) (fun r10 H10 q10 => ?_)
  obtain ⟨m10, γ10, t10, rfl, S, hW⟩ := q10
  show wp _ _ _ _ _ [] _ _
  refine wp_g (n := 4) (pc' := 60) (L' := [some (.ref 101), some (.ref g1)]) (st' := [.ref 1000022, .int (iI 3), .ref g1, .ref 101]) rfl ?_
  refine wp_cv (As := [.ref g1, .int (iI 3), .ref 1000022]) (rest := []) rfl rfl (S.cell 101 (nc rfl)) (by decide) rfl rfl rfl (Nat.le_of_ble_eq_true rfl) (Nat.le_of_ble_eq_true rfl) (hW _ S) (fun r11 H11 q11 => ?_)
  obtain ⟨m11, γ11, t11, rfl, S, hW⟩ := q11
  show wp _ _ _ _ _ [] _ _
  exact wp_vret rfl rfl ⟨_, _, _, rfl, S, hW⟩
def hd_X4_tellPaint_7 (E : am_E) (k : Nat) (g2 : Nat) (y3 : Int) (m : MM) (γ : GM) (t : am_H) (Q : MM → GM → am_H → Prop) : Prop := TT (pV Q) E (k + 1) 52 7 [some (.ref 101), some (.ref 10), some (.ref g2), some (.int (iI y3))] [] m γ t
abbrev W_X4_tellPaint (E : am_E) (k : Nat) (g2 : Nat) (m : MM) (γ : GM) (t : am_H) (Q : MM → GM → am_H → Prop) : Prop := (hd_X4_tellPaint_7 E k g2 0 (up m 101 (up (m 101) 1 0)) γ t Q)
abbrev W_X4_tellPaint_7 (E : am_E) (k : Nat) (g2 : Nat) (y3 : Int) (m : MM) (γ : GM) (t : am_H) (Q : MM → GM → am_H → Prop) : Prop := (TI E k 25 [.ref g2] m γ t (fun v1 m1 γ1 t1 => (((y3 < v1) → (TV E k 54 [.ref 101, .ref 10, .ref g2, .int (iI y3), .int (iI 3), .int (iI 0)] m1 γ1 t1 (fun m3 γ3 t3 => (TV E k 54 [.ref 101, .ref 10, .ref g2, .int (iI y3), .int (iI 2), .int (iI 1)] m3 γ3 t3 (fun m4 γ4 t4 => (hd_X4_tellPaint_7 E k g2 (y3 + 1) m4 γ4 t4 Q)))))) ∧ (¬ (y3 < v1) → (Q m1 γ1 t1)))))
theorem vc_X4_tellPaint {E : am_E} {k : Nat} {g2 : Nat} {m : MM} {γ : GM} {t : am_H} {Q : MM → GM → am_H → Prop} (hg2 : isg g2) (hW : W_X4_tellPaint E k g2 m γ t Q) : TV E (k + 1) 52 [.ref 101, .ref 10, .ref g2] m γ t Q := by
  unfold W_X4_tellPaint at hW
  intro h S
  refine wp_g (n := 2) (pc' := 2) (L' := [some (.ref 101), some (.ref 10), some (.ref g2), none]) (st' := [.int (iI 0), .ref 101]) rfl ?_
  refine wp_putI rfl rfl (S.cell 101 (nc rfl)) (Nat.le_of_ble_eq_true rfl) rfl (fun H1 hl1 hz1 hf1 => ?_)
  have S : ST H1 (up m 101 (up (m 101) 1 0)) γ t := S.setI 101 (nc rfl) hl1 hz1 hf1 (by decide) (by decide)
  refine wp_g (n := 2) (pc' := 7) (L' := [some (.ref 101), some (.ref 10), some (.ref g2), some (.int (iI 0))]) (st' := []) rfl ?_
  exact hW _ S
theorem vc_X4_tellPaint_7 {E : am_E} {k : Nat} {g2 : Nat} {y3 : Int} {m : MM} {γ : GM} {t : am_H} {Q : MM → GM → am_H → Prop} (hg2 : isg g2) (hy3 : rJ y3) (hW : W_X4_tellPaint_7 E k g2 y3 m γ t Q) : hd_X4_tellPaint_7 E k g2 y3 m γ t Q := by
  unfold W_X4_tellPaint_7 at hW
  intro h S
  refine wp_g (n := 2) (pc' := 9) (L' := [some (.ref 101), some (.ref 10), some (.ref g2), some (.int (iI y3))]) (st' := [.ref g2, .int (iI y3)]) rfl ?_
  refine wp_cv (As := []) (rest := [.int (iI y3)]) rfl rfl (S.gg g2 hg2).obj (isg_lt hg2) rfl rfl rfl (Nat.le_of_ble_eq_true rfl) (Nat.le_of_ble_eq_true rfl) (hW _ S) (fun r1 H1 q1 => ?_)
  obtain ⟨v1, m1, γ1, t1, rfl, hv1, S, hW⟩ := q1
  show wp _ _ _ _ _ [.int (iI v1), .int (iI y3)] _ _
  refine wp_icmpI (a := y3) (b := v1) rfl rfl hy3.1 hy3.2 hv1.1 hv1.2 (fun c2 => ?_) (fun c2 => ?_)
  · have dc2 := (Int.not_lt.mpr c2)
    have hW := hW.2 dc2
    exact wp_vret rfl rfl ⟨_, _, _, rfl, S, hW⟩
  · have dc2 := (Int.not_le.mp c2)
    have hW := hW.1 dc2
    refine wp_g (n := 6) (pc' := 21) (L' := [some (.ref 101), some (.ref 10), some (.ref g2), some (.int (iI y3))]) (st' := [.int (iI 0), .int (iI 3), .int (iI y3), .ref g2, .ref 10, .ref 101]) rfl ?_
    refine wp_cv (As := [.ref 10, .ref g2, .int (iI y3), .int (iI 3), .int (iI 0)]) (rest := []) rfl rfl (S.cell 101 (nc rfl)) (by decide) rfl rfl rfl (Nat.le_of_ble_eq_true rfl) (Nat.le_of_ble_eq_true rfl) (hW _ S) (fun r3 H3 q3 => ?_)
    obtain ⟨m3, γ3, t3, rfl, S, hW⟩ := q3
    show wp _ _ _ _ _ [] _ _
    refine wp_g (n := 6) (pc' := 30) (L' := [some (.ref 101), some (.ref 10), some (.ref g2), some (.int (iI y3))]) (st' := [.int (iI 1), .int (iI 2), .int (iI y3), .ref g2, .ref 10, .ref 101]) rfl ?_
    refine wp_cv (As := [.ref 10, .ref g2, .int (iI y3), .int (iI 2), .int (iI 1)]) (rest := []) rfl rfl (S.cell 101 (nc rfl)) (by decide) rfl rfl rfl (Nat.le_of_ble_eq_true rfl) (Nat.le_of_ble_eq_true rfl) (hW _ S) (fun r4 H4 q4 => ?_)
    obtain ⟨m4, γ4, t4, rfl, S, hW⟩ := q4
    show wp _ _ _ _ _ [] _ _
    refine wp_iinc (L' := [some (.ref 101), some (.ref 10), some (.ref g2), some (.int (iI (y3 + 1)))]) (a := y3) rfl rfl rfl ?_
    refine wp_g (n := 1) (pc' := 7) (L' := [some (.ref 101), some (.ref 10), some (.ref g2), some (.int (iI (y3 + 1)))]) (st' := []) rfl ?_
    exact hW _ S
def hd_X4_addLine_20 (E : am_E) (k : Nat) (g1 : Nat) (x2 : Int) (w3 : Nat) (y2 : Int) (y4 : Int) (y5 : Int) (m : MM) (γ : GM) (t : am_H) (Q : MM → GM → am_H → Prop) : Prop := ∀ (z3 : Option Value), TT (pV Q) E (k + 1) 53 20 [some (.ref 101), some (.ref g1), some (.int (iI y2)), z3, some (.int (iI y4)), some (.int (iI y5))] [] m γ t
abbrev W_X4_addLine (E : am_E) (k : Nat) (g1 : Nat) (x2 : Int) (w3 : Nat) (m : MM) (γ : GM) (t : am_H) (Q : MM → GM → am_H → Prop) : Prop := (TI E k 40 [.ref g1, .int (iI x2)] m γ t (fun v1 m1 γ1 t1 => (((v1 = 0) → (Q m1 γ1 t1)) ∧ (¬ (v1 = 0) → (TV E k 55 [.ref 101, .ref w3] m1 γ1 t1 (fun m3 γ3 t3 => (hd_X4_addLine_20 E k g1 x2 w3 x2 1 0 m3 γ3 t3 Q)))))))
abbrev W_X4_addLine_20 (E : am_E) (k : Nat) (g1 : Nat) (x2 : Int) (w3 : Nat) (y2 : Int) (y4 : Int) (y5 : Int) (m : MM) (γ : GM) (t : am_H) (Q : MM → GM → am_H → Prop) : Prop := (TI E k 28 [.ref g1] m γ t (fun v1 m1 γ1 t1 => (((y5 < v1) → (TI E k 33 [.ref g1, .int (iI y5)] m1 γ1 t1 (fun v4 m4 γ4 t4 => (((v4 = y2) → (((y4 = 0) → (TV E k 57 [.ref 101, .int (iI 44)] m4 γ4 t4 (fun m13 γ13 t13 => (TI E k 35 [.ref g1, .int (iI y5)] m13 γ13 t13 (fun v14 m14 γ14 t14 => (TV E k 56 [.ref 101, .int (iI v14)] m14 γ14 t14 (fun m15 γ15 t15 => (TI E k 36 [.ref g1, .int (iI y5)] m15 γ15 t15 (fun v16 m16 γ16 t16 => (((v16 = 0) → (TV E k 55 [.ref 101, .ref 1000016] m16 γ16 t16 (fun m19 γ19 t19 => (hd_X4_addLine_20 E k g1 x2 w3 y2 0 (y5 + 1) m19 γ19 t19 Q)))) ∧ (¬ (v16 = 0) → (TV E k 55 [.ref 101, .ref 1000018] m16 γ16 t16 (fun m18 γ18 t18 => (hd_X4_addLine_20 E k g1 x2 w3 y2 0 (y5 + 1) m18 γ18 t18 Q)))))))))))))) ∧ (¬ (y4 = 0) → (TI E k 35 [.ref g1, .int (iI y5)] m4 γ4 t4 (fun v7 m7 γ7 t7 => (TV E k 56 [.ref 101, .int (iI v7)] m7 γ7 t7 (fun m8 γ8 t8 => (TI E k 36 [.ref g1, .int (iI y5)] m8 γ8 t8 (fun v9 m9 γ9 t9 => (((v9 = 0) → (TV E k 55 [.ref 101, .ref 1000016] m9 γ9 t9 (fun m12 γ12 t12 => (hd_X4_addLine_20 E k g1 x2 w3 y2 0 (y5 + 1) m12 γ12 t12 Q)))) ∧ (¬ (v9 = 0) → (TV E k 55 [.ref 101, .ref 1000018] m9 γ9 t9 (fun m11 γ11 t11 => (hd_X4_addLine_20 E k g1 x2 w3 y2 0 (y5 + 1) m11 γ11 t11 Q)))))))))))))) ∧ (¬ (v4 = y2) → (hd_X4_addLine_20 E k g1 x2 w3 y2 y4 (y5 + 1) m4 γ4 t4 Q)))))) ∧ (¬ (y5 < v1) → (TV E k 57 [.ref 101, .int (iI 59)] m1 γ1 t1 (fun m3 γ3 t3 => (Q m3 γ3 t3)))))))
theorem vc_X4_addLine {E : am_E} {k : Nat} {g1 : Nat} {x2 : Int} {w3 : Nat} {m : MM} {γ : GM} {t : am_H} {Q : MM → GM → am_H → Prop} (hg1 : isg g1) (hx2 : rJ x2) (hw3 : isS w3) (hW : W_X4_addLine E k g1 x2 w3 m γ t Q) : TV E (k + 1) 53 [.ref 101, .ref g1, .int (iI x2), .ref w3] m γ t Q := by
  unfold W_X4_addLine at hW
  intro h S
  refine wp_g (n := 2) (pc' := 2) (L' := [some (.ref 101), some (.ref g1), some (.int (iI x2)), some (.ref w3), none, none]) (st' := [.int (iI x2), .ref g1]) rfl ?_
  refine wp_cv (As := [.int (iI x2)]) (rest := []) rfl rfl (S.gg g1 hg1).obj (isg_lt hg1) rfl rfl rfl (Nat.le_of_ble_eq_true rfl) (Nat.le_of_ble_eq_true rfl) (hW _ S) (fun r1 H1 q1 => ?_)
  obtain ⟨v1, m1, γ1, t1, rfl, hv1, S, hW⟩ := q1
  show wp _ _ _ _ _ [.int (iI v1)] _ _
  refine wp_ifI (a := v1) rfl rfl hv1.1 hv1.2 (fun c2 => ?_) (fun c2 => ?_)
  · have dc2 := c2
    have hW := hW.2 dc2
    refine wp_g (n := 2) (pc' := 11) (L' := [some (.ref 101), some (.ref g1), some (.int (iI x2)), some (.ref w3), none, none]) (st' := [.ref w3, .ref 101]) rfl ?_
    refine wp_cv (As := [.ref w3]) (rest := []) rfl rfl (S.cell 101 (nc rfl)) (by decide) rfl rfl rfl (Nat.le_of_ble_eq_true rfl) (Nat.le_of_ble_eq_true rfl) (hW _ S) (fun r3 H3 q3 => ?_)
    obtain ⟨m3, γ3, t3, rfl, S, hW⟩ := q3
    show wp _ _ _ _ _ [] _ _
    refine wp_g (n := 4) (pc' := 20) (L' := [some (.ref 101), some (.ref g1), some (.int (iI x2)), some (.ref w3), some (.int (iI 1)), some (.int (iI 0))]) (st' := []) rfl ?_
    exact hW (some (.ref w3)) _ S
  · have dc2 := (Classical.not_not.mp c2)
    have hW := hW.1 dc2
    exact wp_vret rfl rfl ⟨_, _, _, rfl, S, hW⟩
theorem vc_X4_addLine_20 {E : am_E} {k : Nat} {g1 : Nat} {x2 : Int} {w3 : Nat} {y2 : Int} {y4 : Int} {y5 : Int} {m : MM} {γ : GM} {t : am_H} {Q : MM → GM → am_H → Prop} (hg1 : isg g1) (hx2 : rJ x2) (hw3 : isS w3) (hy2 : rJ y2) (hy4 : rJ y4) (hy5 : rJ y5) (hW : W_X4_addLine_20 E k g1 x2 w3 y2 y4 y5 m γ t Q) : hd_X4_addLine_20 E k g1 x2 w3 y2 y4 y5 m γ t Q := by
  unfold W_X4_addLine_20 at hW
  intro z3 h S
  refine wp_g (n := 2) (pc' := 23) (L' := [some (.ref 101), some (.ref g1), some (.int (iI y2)), z3, some (.int (iI y4)), some (.int (iI y5))]) (st' := [.ref g1, .int (iI y5)]) rfl ?_
  refine wp_cv (As := []) (rest := [.int (iI y5)]) rfl rfl (S.gg g1 hg1).obj (isg_lt hg1) rfl rfl rfl (Nat.le_of_ble_eq_true rfl) (Nat.le_of_ble_eq_true rfl) (hW _ S) (fun r1 H1 q1 => ?_)
  obtain ⟨v1, m1, γ1, t1, rfl, hv1, S, hW⟩ := q1
  show wp _ _ _ _ _ [.int (iI v1), .int (iI y5)] _ _
  refine wp_icmpI (a := y5) (b := v1) rfl rfl hy5.1 hy5.2 hv1.1 hv1.2 (fun c2 => ?_) (fun c2 => ?_)
  · have dc2 := (Int.not_lt.mpr c2)
    have hW := hW.2 dc2
    refine wp_g (n := 2) (pc' := 92) (L' := [some (.ref 101), some (.ref g1), some (.int (iI y2)), z3, some (.int (iI y4)), some (.int (iI y5))]) (st' := [.int (iI 59), .ref 101]) rfl ?_
    refine wp_cv (As := [.int (iI 59)]) (rest := []) rfl rfl (S.cell 101 (nc rfl)) (by decide) rfl rfl rfl (Nat.le_of_ble_eq_true rfl) (Nat.le_of_ble_eq_true rfl) (hW _ S) (fun r3 H3 q3 => ?_)
    obtain ⟨m3, γ3, t3, rfl, S, hW⟩ := q3
    show wp _ _ _ _ _ [] _ _
    exact wp_vret rfl rfl ⟨_, _, _, rfl, S, hW⟩
  · have dc2 := (Int.not_le.mp c2)
    have hW := hW.1 dc2
    refine wp_g (n := 2) (pc' := 32) (L' := [some (.ref 101), some (.ref g1), some (.int (iI y2)), z3, some (.int (iI y4)), some (.int (iI y5))]) (st' := [.int (iI y5), .ref g1]) rfl ?_
    refine wp_cv (As := [.int (iI y5)]) (rest := []) rfl rfl (S.gg g1 hg1).obj (isg_lt hg1) rfl rfl rfl (Nat.le_of_ble_eq_true rfl) (Nat.le_of_ble_eq_true rfl) (hW _ S) (fun r4 H4 q4 => ?_)
    obtain ⟨v4, m4, γ4, t4, rfl, hv4, S, hW⟩ := q4
    show wp _ _ _ _ _ [.int (iI v4)] _ _
    refine wp_g (n := 1) (pc' := 36) (L' := [some (.ref 101), some (.ref g1), some (.int (iI y2)), z3, some (.int (iI y4)), some (.int (iI y5))]) (st' := [.int (iI y2), .int (iI v4)]) rfl ?_
    refine wp_icmpI (a := v4) (b := y2) rfl rfl hv4.1 hv4.2 hy2.1 hy2.2 (fun c5 => ?_) (fun c5 => ?_)
    · have dc5 := c5
      have hW := hW.2 dc5
      refine wp_iinc (L' := [some (.ref 101), some (.ref g1), some (.int (iI y2)), z3, some (.int (iI y4)), some (.int (iI (y5 + 1)))]) (a := y5) rfl rfl rfl ?_
      refine wp_g (n := 1) (pc' := 20) (L' := [some (.ref 101), some (.ref g1), some (.int (iI y2)), z3, some (.int (iI y4)), some (.int (iI (y5 + 1)))]) (st' := []) rfl ?_
      exact hW z3 _ S
    · have dc5 := (Classical.not_not.mp c5)
      have hW := hW.1 dc5
      refine wp_g (n := 1) (pc' := 41) (L' := [some (.ref 101), some (.ref g1), some (.int (iI y2)), z3, some (.int (iI y4)), some (.int (iI y5))]) (st' := [.int (iI y4)]) rfl ?_
      refine wp_ifI (a := y4) rfl rfl hy4.1 hy4.2 (fun c6 => ?_) (fun c6 => ?_)
      · have dc6 := c6
        have hW := hW.2 dc6
        refine wp_g (n := 5) (pc' := 57) (L' := [some (.ref 101), some (.ref g1), some (.int (iI y2)), (bif am_c2 z3 then none else z3), some (.int (iI 0)), some (.int (iI y5))]) (st' := [.int (iI y5), .ref g1, .ref 101]) rfl ?_
        refine wp_cv (As := [.int (iI y5)]) (rest := [.ref 101]) rfl rfl (S.gg g1 hg1).obj (isg_lt hg1) rfl rfl rfl (Nat.le_of_ble_eq_true rfl) (Nat.le_of_ble_eq_true rfl) (hW _ S) (fun r7 H7 q7 => ?_)
        obtain ⟨v7, m7, γ7, t7, rfl, hv7, S, hW⟩ := q7
        show wp _ _ _ _ _ [.int (iI v7), .ref 101] _ _
        refine wp_cv (As := [.int (iI v7)]) (rest := []) rfl rfl (S.cell 101 (nc rfl)) (by decide) rfl rfl rfl (Nat.le_of_ble_eq_true rfl) (Nat.le_of_ble_eq_true rfl) (hW _ S) (fun r8 H8 q8 => ?_)
        obtain ⟨m8, γ8, t8, rfl, S, hW⟩ := q8
        show wp _ _ _ _ _ [] _ _
        refine wp_g (n := 3) (pc' := 67) (L' := [some (.ref 101), some (.ref g1), some (.int (iI y2)), (bif am_c2 z3 then none else z3), some (.int (iI 0)), some (.int (iI y5))]) (st' := [.int (iI y5), .ref g1, .ref 101]) rfl ?_
        refine wp_cv (As := [.int (iI y5)]) (rest := [.ref 101]) rfl rfl (S.gg g1 hg1).obj (isg_lt hg1) rfl rfl rfl (Nat.le_of_ble_eq_true rfl) (Nat.le_of_ble_eq_true rfl) (hW _ S) (fun r9 H9 q9 => ?_)
        obtain ⟨v9, m9, γ9, t9, rfl, hv9, S, hW⟩ := q9
        show wp _ _ _ _ _ [.int (iI v9), .ref 101] _ _
        refine wp_ifI (a := v9) rfl rfl hv9.1 hv9.2 (fun c10 => ?_) (fun c10 => ?_)
        · have dc10 := c10
          have hW := hW.2 dc10
          refine wp_g (n := 1) (pc' := 80) (L' := [some (.ref 101), some (.ref g1), some (.int (iI y2)), (bif am_c2 z3 then none else z3), some (.int (iI 0)), some (.int (iI y5))]) (st' := [.ref 1000018, .ref 101]) rfl ?_
          refine wp_cv (As := [.ref 1000018]) (rest := []) rfl rfl (S.cell 101 (nc rfl)) (by decide) rfl rfl rfl (Nat.le_of_ble_eq_true rfl) (Nat.le_of_ble_eq_true rfl) (hW _ S) (fun r11 H11 q11 => ?_)
          obtain ⟨m11, γ11, t11, rfl, S, hW⟩ := q11
          show wp _ _ _ _ _ [] _ _
          refine wp_iinc (L' := [some (.ref 101), some (.ref g1), some (.int (iI y2)), (bif am_c2 z3 then none else z3), some (.int (iI 0)), some (.int (iI (y5 + 1)))]) (a := y5) rfl rfl rfl ?_
          refine wp_g (n := 1) (pc' := 20) (L' := [some (.ref 101), some (.ref g1), some (.int (iI y2)), (bif am_c2 z3 then none else z3), some (.int (iI 0)), some (.int (iI (y5 + 1)))]) (st' := []) rfl ?_
          exact hW (bif am_c2 z3 then none else z3) _ S
        · have dc10 := (Classical.not_not.mp c10)
          have hW := hW.1 dc10
          refine wp_g (n := 2) (pc' := 80) (L' := [some (.ref 101), some (.ref g1), some (.int (iI y2)), (bif am_c2 z3 then none else z3), some (.int (iI 0)), some (.int (iI y5))]) (st' := [.ref 1000016, .ref 101]) rfl ?_
          refine wp_cv (As := [.ref 1000016]) (rest := []) rfl rfl (S.cell 101 (nc rfl)) (by decide) rfl rfl rfl (Nat.le_of_ble_eq_true rfl) (Nat.le_of_ble_eq_true rfl) (hW _ S) (fun r12 H12 q12 => ?_)
          obtain ⟨m12, γ12, t12, rfl, S, hW⟩ := q12
          show wp _ _ _ _ _ [] _ _
          refine wp_iinc (L' := [some (.ref 101), some (.ref g1), some (.int (iI y2)), (bif am_c2 z3 then none else z3), some (.int (iI 0)), some (.int (iI (y5 + 1)))]) (a := y5) rfl rfl rfl ?_
          refine wp_g (n := 1) (pc' := 20) (L' := [some (.ref 101), some (.ref g1), some (.int (iI y2)), (bif am_c2 z3 then none else z3), some (.int (iI 0)), some (.int (iI (y5 + 1)))]) (st' := []) rfl ?_
          exact hW (bif am_c2 z3 then none else z3) _ S
      · have dc6 := (Classical.not_not.mp c6)
        have hW := hW.1 dc6
        refine wp_g (n := 2) (pc' := 47) (L' := [some (.ref 101), some (.ref g1), some (.int (iI y2)), z3, some (.int (iI y4)), some (.int (iI y5))]) (st' := [.int (iI 44), .ref 101]) rfl ?_
        refine wp_cv (As := [.int (iI 44)]) (rest := []) rfl rfl (S.cell 101 (nc rfl)) (by decide) rfl rfl rfl (Nat.le_of_ble_eq_true rfl) (Nat.le_of_ble_eq_true rfl) (hW _ S) (fun r13 H13 q13 => ?_)
        obtain ⟨m13, γ13, t13, rfl, S, hW⟩ := q13
        show wp _ _ _ _ _ [] _ _
        refine wp_g (n := 5) (pc' := 57) (L' := [some (.ref 101), some (.ref g1), some (.int (iI y2)), (bif am_c2 z3 then none else z3), some (.int (iI 0)), some (.int (iI y5))]) (st' := [.int (iI y5), .ref g1, .ref 101]) rfl ?_
        refine wp_cv (As := [.int (iI y5)]) (rest := [.ref 101]) rfl rfl (S.gg g1 hg1).obj (isg_lt hg1) rfl rfl rfl (Nat.le_of_ble_eq_true rfl) (Nat.le_of_ble_eq_true rfl) (hW _ S) (fun r14 H14 q14 => ?_)
        obtain ⟨v14, m14, γ14, t14, rfl, hv14, S, hW⟩ := q14
        show wp _ _ _ _ _ [.int (iI v14), .ref 101] _ _
        refine wp_cv (As := [.int (iI v14)]) (rest := []) rfl rfl (S.cell 101 (nc rfl)) (by decide) rfl rfl rfl (Nat.le_of_ble_eq_true rfl) (Nat.le_of_ble_eq_true rfl) (hW _ S) (fun r15 H15 q15 => ?_)
        obtain ⟨m15, γ15, t15, rfl, S, hW⟩ := q15
        show wp _ _ _ _ _ [] _ _
        refine wp_g (n := 3) (pc' := 67) (L' := [some (.ref 101), some (.ref g1), some (.int (iI y2)), (bif am_c2 z3 then none else z3), some (.int (iI 0)), some (.int (iI y5))]) (st' := [.int (iI y5), .ref g1, .ref 101]) rfl ?_
        refine wp_cv (As := [.int (iI y5)]) (rest := [.ref 101]) rfl rfl (S.gg g1 hg1).obj (isg_lt hg1) rfl rfl rfl (Nat.le_of_ble_eq_true rfl) (Nat.le_of_ble_eq_true rfl) (hW _ S) (fun r16 H16 q16 => ?_)
        obtain ⟨v16, m16, γ16, t16, rfl, hv16, S, hW⟩ := q16
        show wp _ _ _ _ _ [.int (iI v16), .ref 101] _ _
        refine wp_ifI (a := v16) rfl rfl hv16.1 hv16.2 (fun c17 => ?_) (fun c17 => ?_)
        · have dc17 := c17
          have hW := hW.2 dc17
          refine wp_g (n := 1) (pc' := 80) (L' := [some (.ref 101), some (.ref g1), some (.int (iI y2)), (bif am_c2 z3 then none else z3), some (.int (iI 0)), some (.int (iI y5))]) (st' := [.ref 1000018, .ref 101]) rfl ?_
          refine wp_cv (As := [.ref 1000018]) (rest := []) rfl rfl (S.cell 101 (nc rfl)) (by decide) rfl rfl rfl (Nat.le_of_ble_eq_true rfl) (Nat.le_of_ble_eq_true rfl) (hW _ S) (fun r18 H18 q18 => ?_)
          obtain ⟨m18, γ18, t18, rfl, S, hW⟩ := q18
          show wp _ _ _ _ _ [] _ _
          refine wp_iinc (L' := [some (.ref 101), some (.ref g1), some (.int (iI y2)), (bif am_c2 z3 then none else z3), some (.int (iI 0)), some (.int (iI (y5 + 1)))]) (a := y5) rfl rfl rfl ?_
          refine wp_g (n := 1) (pc' := 20) (L' := [some (.ref 101), some (.ref g1), some (.int (iI y2)), (bif am_c2 z3 then none else z3), some (.int (iI 0)), some (.int (iI (y5 + 1)))]) (st' := []) rfl ?_
          exact hW (bif am_c2 z3 then none else z3) _ S
        · have dc17 := (Classical.not_not.mp c17)
          have hW := hW.1 dc17
          refine wp_g (n := 2) (pc' := 80) (L' := [some (.ref 101), some (.ref g1), some (.int (iI y2)), (bif am_c2 z3 then none else z3), some (.int (iI 0)), some (.int (iI y5))]) (st' := [.ref 1000016, .ref 101]) rfl ?_
          refine wp_cv (As := [.ref 1000016]) (rest := []) rfl rfl (S.cell 101 (nc rfl)) (by decide) rfl rfl rfl (Nat.le_of_ble_eq_true rfl) (Nat.le_of_ble_eq_true rfl) (hW _ S) (fun r19 H19 q19 => ?_)
          obtain ⟨m19, γ19, t19, rfl, S, hW⟩ := q19
          show wp _ _ _ _ _ [] _ _
          refine wp_iinc (L' := [some (.ref 101), some (.ref g1), some (.int (iI y2)), (bif am_c2 z3 then none else z3), some (.int (iI 0)), some (.int (iI (y5 + 1)))]) (a := y5) rfl rfl rfl ?_
          refine wp_g (n := 1) (pc' := 20) (L' := [some (.ref 101), some (.ref g1), some (.int (iI y2)), (bif am_c2 z3 then none else z3), some (.int (iI 0)), some (.int (iI (y5 + 1)))]) (st' := []) rfl ?_
          exact hW (bif am_c2 z3 then none else z3) _ S
def hd_X4_addPaint_3 (E : am_E) (k : Nat) (g2 : Nat) (x3 : Int) (x4 : Int) (x5 : Int) (y3 : Int) (y4 : Int) (y5 : Int) (y6 : Int) (m : MM) (γ : GM) (t : am_H) (Q : MM → GM → am_H → Prop) : Prop := ∀ (z7 : Option Value), TT (pV Q) E (k + 1) 54 3 [some (.ref 101), some (.ref 10), some (.ref g2), some (.int (iI y3)), some (.int (iI y4)), some (.int (iI y5)), some (.int (iI y6)), z7] [] m γ t
abbrev W_X4_addPaint (E : am_E) (k : Nat) (g2 : Nat) (x3 : Int) (x4 : Int) (x5 : Int) (m : MM) (γ : GM) (t : am_H) (Q : MM → GM → am_H → Prop) : Prop := (hd_X4_addPaint_3 E k g2 x3 x4 x5 x3 x4 x5 0 m γ t Q)
abbrev W_X4_addPaint_3 (E : am_E) (k : Nat) (g2 : Nat) (x3 : Int) (x4 : Int) (x5 : Int) (y3 : Int) (y4 : Int) (y5 : Int) (y6 : Int) (m : MM) (γ : GM) (t : am_H) (Q : MM → GM → am_H → Prop) : Prop := (TI E k 26 [.ref g2] m γ t (fun v1 m1 γ1 t1 => (((y6 < v1) → (TI E k 26 [.ref g2] m1 γ1 t1 (fun v4 m4 γ4 t4 => (TI E k 103 [.ref 10, .int (iI ((4 * ((y3 * v4) + y6)) + y4))] m4 γ4 t4 (fun v5 m5 γ5 t5 => (TV E k 56 [.ref 101, .int (iI v5)] m5 γ5 t5 (fun m6 γ6 t6 => (TI E k 103 [.ref 10, .int (iI ((4 * ((y3 * v4) + y6)) + y5))] m6 γ6 t6 (fun v7 m7 γ7 t7 => (TV E k 56 [.ref 101, .int (iI v7)] m7 γ7 t7 (fun m8 γ8 t8 => (hd_X4_addPaint_3 E k g2 x3 x4 x5 y3 y4 y5 (y6 + 1) m8 γ8 t8 Q)))))))))))) ∧ (¬ (y6 < v1) → (TV E k 57 [.ref 101, .int (iI 10)] m1 γ1 t1 (fun m3 γ3 t3 => (Q m3 γ3 t3)))))))
theorem vc_X4_addPaint {E : am_E} {k : Nat} {g2 : Nat} {x3 : Int} {x4 : Int} {x5 : Int} {m : MM} {γ : GM} {t : am_H} {Q : MM → GM → am_H → Prop} (hg2 : isg g2) (hx3 : rJ x3) (hx4 : rJ x4) (hx5 : rJ x5) (hW : W_X4_addPaint E k g2 x3 x4 x5 m γ t Q) : TV E (k + 1) 54 [.ref 101, .ref 10, .ref g2, .int (iI x3), .int (iI x4), .int (iI x5)] m γ t Q := by
  unfold W_X4_addPaint at hW
  intro h S
  refine wp_g (n := 2) (pc' := 3) (L' := [some (.ref 101), some (.ref 10), some (.ref g2), some (.int (iI x3)), some (.int (iI x4)), some (.int (iI x5)), some (.int (iI 0)), none]) (st' := []) rfl ?_
  exact hW none _ S
theorem vc_X4_addPaint_3 {E : am_E} {k : Nat} {g2 : Nat} {x3 : Int} {x4 : Int} {x5 : Int} {y3 : Int} {y4 : Int} {y5 : Int} {y6 : Int} {m : MM} {γ : GM} {t : am_H} {Q : MM → GM → am_H → Prop} (hg2 : isg g2) (hx3 : rJ x3) (hx4 : rJ x4) (hx5 : rJ x5) (hy3 : rJ y3) (hy4 : rJ y4) (hy5 : rJ y5) (hy6 : rJ y6) (hW : W_X4_addPaint_3 E k g2 x3 x4 x5 y3 y4 y5 y6 m γ t Q) : hd_X4_addPaint_3 E k g2 x3 x4 x5 y3 y4 y5 y6 m γ t Q := by
  unfold W_X4_addPaint_3 at hW
  intro z7 h S
  refine wp_g (n := 2) (pc' := 6) (L' := [some (.ref 101), some (.ref 10), some (.ref g2), some (.int (iI y3)), some (.int (iI y4)), some (.int (iI y5)), some (.int (iI y6)), z7]) (st' := [.ref g2, .int (iI y6)]) rfl ?_
  refine wp_cv (As := []) (rest := [.int (iI y6)]) rfl rfl (S.gg g2 hg2).obj (isg_lt hg2) rfl rfl rfl (Nat.le_of_ble_eq_true rfl) (Nat.le_of_ble_eq_true rfl) (hW _ S) (fun r1 H1 q1 => ?_)
  obtain ⟨v1, m1, γ1, t1, rfl, hv1, S, hW⟩ := q1
  show wp _ _ _ _ _ [.int (iI v1), .int (iI y6)] _ _
  refine wp_icmpI (a := y6) (b := v1) rfl rfl hy6.1 hy6.2 hv1.1 hv1.2 (fun c2 => ?_) (fun c2 => ?_)
  · have dc2 := (Int.not_lt.mpr c2)
    have hW := hW.2 dc2
    refine wp_g (n := 2) (pc' := 62) (L' := [some (.ref 101), some (.ref 10), some (.ref g2), some (.int (iI y3)), some (.int (iI y4)), some (.int (iI y5)), some (.int (iI y6)), z7]) (st' := [.int (iI 10), .ref 101]) rfl ?_
    refine wp_cv (As := [.int (iI 10)]) (rest := []) rfl rfl (S.cell 101 (nc rfl)) (by decide) rfl rfl rfl (Nat.le_of_ble_eq_true rfl) (Nat.le_of_ble_eq_true rfl) (hW _ S) (fun r3 H3 q3 => ?_)
    obtain ⟨m3, γ3, t3, rfl, S, hW⟩ := q3
    show wp _ _ _ _ _ [] _ _
    exact wp_vret rfl rfl ⟨_, _, _, rfl, S, hW⟩
  · have dc2 := (Int.not_le.mp c2)
    have hW := hW.1 dc2
    refine wp_g (n := 2) (pc' := 14) (L' := [some (.ref 101), some (.ref 10), some (.ref g2), some (.int (iI y3)), some (.int (iI y4)), some (.int (iI y5)), some (.int (iI y6)), z7]) (st' := [.ref g2, .int (iI y3)]) rfl ?_
    refine wp_cv (As := []) (rest := [.int (iI y3)]) rfl rfl (S.gg g2 hg2).obj (isg_lt hg2) rfl rfl rfl (Nat.le_of_ble_eq_true rfl) (Nat.le_of_ble_eq_true rfl) (hW _ S) (fun r4 H4 q4 => ?_)
    obtain ⟨v4, m4, γ4, t4, rfl, hv4, S, hW⟩ := q4
    show wp _ _ _ _ _ [.int (iI v4), .int (iI y3)] _ _
    refine wp_mul (a := y3) (b := v4) rfl ?_
    refine wp_g (n := 1) (pc' := 20) (L' := [some (.ref 101), some (.ref 10), some (.ref g2), some (.int (iI y3)), some (.int (iI y4)), some (.int (iI y5)), some (.int (iI y6)), z7]) (st' := [.int (iI y6), .int (iI (y3 * v4))]) rfl ?_
    refine wp_add (a := (y3 * v4)) (b := y6) rfl ?_
    refine wp_g (n := 5) (pc' := 28) (L' := [some (.ref 101), some (.ref 10), some (.ref g2), some (.int (iI y3)), some (.int (iI y4)), some (.int (iI y5)), some (.int (iI y6)), some (.int (iI ((y3 * v4) + y6)))]) (st' := [.int (iI ((y3 * v4) + y6)), .int (iI 4), .ref 10, .ref 101]) rfl ?_
    refine wp_mul (a := 4) (b := ((y3 * v4) + y6)) rfl ?_
    refine wp_g (n := 1) (pc' := 31) (L' := [some (.ref 101), some (.ref 10), some (.ref g2), some (.int (iI y3)), some (.int (iI y4)), some (.int (iI y5)), some (.int (iI y6)), some (.int (iI ((y3 * v4) + y6)))]) (st' := [.int (iI y4), .int (iI (4 * ((y3 * v4) + y6))), .ref 10, .ref 101]) rfl ?_
    refine wp_add (a := (4 * ((y3 * v4) + y6))) (b := y4) rfl ?_
    refine wp_cv (As := [.int (iI ((4 * ((y3 * v4) + y6)) + y4))]) (rest := [.ref 101]) rfl rfl (S.cell 10 (nc rfl)) (by decide) rfl rfl rfl (Nat.le_of_ble_eq_true rfl) (Nat.le_of_ble_eq_true rfl) (hW _ S) (fun r5 H5 q5 => ?_)
    obtain ⟨v5, m5, γ5, t5, rfl, hv5, S, hW⟩ := q5
    show wp _ _ _ _ _ [.int (iI v5), .ref 101] _ _
    refine wp_cv (As := [.int (iI v5)]) (rest := []) rfl rfl (S.cell 101 (nc rfl)) (by decide) rfl rfl rfl (Nat.le_of_ble_eq_true rfl) (Nat.le_of_ble_eq_true rfl) (hW _ S) (fun r6 H6 q6 => ?_)
    obtain ⟨m6, γ6, t6, rfl, S, hW⟩ := q6
    show wp _ _ _ _ _ [] _ _
    refine wp_g (n := 4) (pc' := 43) (L' := [some (.ref 101), some (.ref 10), some (.ref g2), some (.int (iI y3)), some (.int (iI y4)), some (.int (iI y5)), some (.int (iI y6)), some (.int (iI ((y3 * v4) + y6)))]) (st' := [.int (iI ((y3 * v4) + y6)), .int (iI 4), .ref 10, .ref 101]) rfl ?_
    refine wp_mul (a := 4) (b := ((y3 * v4) + y6)) rfl ?_
    refine wp_g (n := 1) (pc' := 46) (L' := [some (.ref 101), some (.ref 10), some (.ref g2), some (.int (iI y3)), some (.int (iI y4)), some (.int (iI y5)), some (.int (iI y6)), some (.int (iI ((y3 * v4) + y6)))]) (st' := [.int (iI y5), .int (iI (4 * ((y3 * v4) + y6))), .ref 10, .ref 101]) rfl ?_
    refine wp_add (a := (4 * ((y3 * v4) + y6))) (b := y5) rfl ?_
    refine wp_cv (As := [.int (iI ((4 * ((y3 * v4) + y6)) + y5))]) (rest := [.ref 101]) rfl rfl (S.cell 10 (nc rfl)) (by decide) rfl rfl rfl (Nat.le_of_ble_eq_true rfl) (Nat.le_of_ble_eq_true rfl) (hW _ S) (fun r7 H7 q7 => ?_)
    obtain ⟨v7, m7, γ7, t7, rfl, hv7, S, hW⟩ := q7
    show wp _ _ _ _ _ [.int (iI v7), .ref 101] _ _
    refine wp_cv (As := [.int (iI v7)]) (rest := []) rfl rfl (S.cell 101 (nc rfl)) (by decide) rfl rfl rfl (Nat.le_of_ble_eq_true rfl) (Nat.le_of_ble_eq_true rfl) (hW _ S) (fun r8 H8 q8 => ?_)
    obtain ⟨m8, γ8, t8, rfl, S, hW⟩ := q8
    show wp _ _ _ _ _ [] _ _
    refine wp_iinc (L' := [some (.ref 101), some (.ref 10), some (.ref g2), some (.int (iI y3)), some (.int (iI y4)), some (.int (iI y5)), some (.int (iI (y6 + 1))), some (.int (iI ((y3 * v4) + y6)))]) (a := y6) rfl rfl rfl ?_
    refine wp_g (n := 1) (pc' := 3) (L' := [some (.ref 101), some (.ref 10), some (.ref g2), some (.int (iI y3)), some (.int (iI y4)), some (.int (iI y5)), some (.int (iI (y6 + 1))), some (.int (iI ((y3 * v4) + y6)))]) (st' := []) rfl ?_
    exact hW (some (.int (iI ((y3 * v4) + y6)))) _ S
def hd_X4_addText_2 (E : am_E) (k : Nat) (w1 : Nat) (y2 : Int) (m : MM) (γ : GM) (t : am_H) (Q : MM → GM → am_H → Prop) : Prop := TT (pV Q) E (k + 1) 55 2 [some (.ref 101), some (.ref w1), some (.int (iI y2))] [] m γ t
abbrev W_X4_addText (E : am_E) (k : Nat) (w1 : Nat) (m : MM) (γ : GM) (t : am_H) (Q : MM → GM → am_H → Prop) : Prop := (hd_X4_addText_2 E k w1 0 m γ t Q)
abbrev W_X4_addText_2 (E : am_E) (k : Nat) (w1 : Nat) (y2 : Int) (m : MM) (γ : GM) (t : am_H) (Q : MM → GM → am_H → Prop) : Prop := (TI E k 313 [.ref w1] m γ t (fun v1 m1 γ1 t1 => (((y2 < v1) → (TI E k 314 [.ref w1, .int (iI y2)] m1 γ1 t1 (fun v3 m3 γ3 t3 => (TV E k 57 [.ref 101, .int (iI v3)] m3 γ3 t3 (fun m4 γ4 t4 => (hd_X4_addText_2 E k w1 (y2 + 1) m4 γ4 t4 Q)))))) ∧ (¬ (y2 < v1) → (Q m1 γ1 t1)))))
theorem vc_X4_addText {E : am_E} {k : Nat} {w1 : Nat} {m : MM} {γ : GM} {t : am_H} {Q : MM → GM → am_H → Prop} (hw1 : isS w1) (hW : W_X4_addText E k w1 m γ t Q) : TV E (k + 1) 55 [.ref 101, .ref w1] m γ t Q := by
  unfold W_X4_addText at hW
  intro h S
  refine wp_g (n := 2) (pc' := 2) (L' := [some (.ref 101), some (.ref w1), some (.int (iI 0))]) (st' := []) rfl ?_
  exact hW _ S
theorem vc_X4_addText_2 {E : am_E} {k : Nat} {w1 : Nat} {y2 : Int} {m : MM} {γ : GM} {t : am_H} {Q : MM → GM → am_H → Prop} (hw1 : isS w1) (hy2 : rJ y2) (hW : W_X4_addText_2 E k w1 y2 m γ t Q) : hd_X4_addText_2 E k w1 y2 m γ t Q := by
  unfold W_X4_addText_2 at hW
  intro h S
  refine wp_g (n := 2) (pc' := 4) (L' := [some (.ref 101), some (.ref w1), some (.int (iI y2))]) (st' := [.ref w1, .int (iI y2)]) rfl ?_
  refine wp_cvS (As := []) (rest := [.int (iI y2)]) rfl rfl hw1 rfl rfl rfl (Nat.le_of_ble_eq_true rfl) (Nat.le_of_ble_eq_true rfl) (hW _ S) (fun r1 H1 q1 => ?_)
  obtain ⟨v1, m1, γ1, t1, rfl, hv1, S, hW⟩ := q1
  show wp _ _ _ _ _ [.int (iI v1), .int (iI y2)] _ _
  refine wp_icmpI (a := y2) (b := v1) rfl rfl hy2.1 hy2.2 hv1.1 hv1.2 (fun c2 => ?_) (fun c2 => ?_)
  · have dc2 := (Int.not_lt.mpr c2)
    have hW := hW.2 dc2
    exact wp_vret rfl rfl ⟨_, _, _, rfl, S, hW⟩
  · have dc2 := (Int.not_le.mp c2)
    have hW := hW.1 dc2
    refine wp_g (n := 3) (pc' := 13) (L' := [some (.ref 101), some (.ref w1), some (.int (iI y2))]) (st' := [.int (iI y2), .ref w1, .ref 101]) rfl ?_
    refine wp_cvS (As := [.int (iI y2)]) (rest := [.ref 101]) rfl rfl hw1 rfl rfl rfl (Nat.le_of_ble_eq_true rfl) (Nat.le_of_ble_eq_true rfl) (hW _ S) (fun r3 H3 q3 => ?_)
    obtain ⟨v3, m3, γ3, t3, rfl, hv3, S, hW⟩ := q3
    show wp _ _ _ _ _ [.int (iI v3), .ref 101] _ _
    refine wp_cv (As := [.int (iI v3)]) (rest := []) rfl rfl (S.cell 101 (nc rfl)) (by decide) rfl rfl rfl (Nat.le_of_ble_eq_true rfl) (Nat.le_of_ble_eq_true rfl) (hW _ S) (fun r4 H4 q4 => ?_)
    obtain ⟨m4, γ4, t4, rfl, S, hW⟩ := q4
    show wp _ _ _ _ _ [] _ _
    refine wp_iinc (L' := [some (.ref 101), some (.ref w1), some (.int (iI (y2 + 1)))]) (a := y2) rfl rfl rfl ?_
    refine wp_g (n := 1) (pc' := 2) (L' := [some (.ref 101), some (.ref w1), some (.int (iI (y2 + 1)))]) (st' := []) rfl ?_
    exact hW _ S
abbrev W_X4_addNumber (E : am_E) (k : Nat) (x1 : Int) (m : MM) (γ : GM) (t : am_H) (Q : MM → GM → am_H → Prop) : Prop := (((x1 < 10) → (0 ≤ x1 ∧ (TV E k 57 [.ref 101, .int (iI (bChr (48 + (x1 % 10))))] m γ t (fun m5 γ5 t5 => (Q m5 γ5 t5))))) ∧ (¬ (x1 < 10) → (0 ≤ x1 ∧ (TV E k 57 [.ref 101, .int (iI (bChr (48 + (x1 / 10))))] m γ t (fun m9 γ9 t9 => (0 ≤ x1 ∧ (TV E k 57 [.ref 101, .int (iI (bChr (48 + (x1 % 10))))] m9 γ9 t9 (fun m13 γ13 t13 => (Q m13 γ13 t13)))))))))
theorem vc_X4_addNumber {E : am_E} {k : Nat} {x1 : Int} {m : MM} {γ : GM} {t : am_H} {Q : MM → GM → am_H → Prop} (hx1 : rJ x1) (hW : W_X4_addNumber E k x1 m γ t Q) : TV E (k + 1) 56 [.ref 101, .int (iI x1)] m γ t Q := by
  unfold W_X4_addNumber at hW
  intro h S
  refine wp_g (n := 2) (pc' := 3) (L' := [some (.ref 101), some (.int (iI x1))]) (st' := [.int (iI 10), .int (iI x1)]) rfl ?_
  refine wp_icmpI (a := x1) (b := 10) rfl rfl hx1.1 hx1.2 (by decide) (by decide) (fun c1 => ?_) (fun c1 => ?_)
  · have dc1 := c1
    have hW := hW.1 dc1
    refine wp_g (n := 4) (pc' := 24) (L' := [some (.ref 101), some (.int (iI x1))]) (st' := [.int (iI 10), .int (iI x1), .int (iI 48), .ref 101]) rfl ?_
    obtain ⟨p2, hW⟩ := hW
    refine wp_rem (a := x1) (b := 10) rfl p2 hx1.2 (by decide) (by decide) ?_
    have hr3 : rJ (x1 % 10) := by omega
    refine wp_add (a := 48) (b := (x1 % 10)) rfl ?_
    refine wp_bChr (a := (48 + (x1 % 10))) rfl ?_
    have hr4 : rJ (bChr (48 + (x1 % 10))) := i32_rg _
    refine wp_cv (As := [.int (iI (bChr (48 + (x1 % 10))))]) (rest := []) rfl rfl (S.cell 101 (nc rfl)) (by decide) rfl rfl rfl (Nat.le_of_ble_eq_true rfl) (Nat.le_of_ble_eq_true rfl) (hW _ S) (fun r5 H5 q5 => ?_)
    obtain ⟨m5, γ5, t5, rfl, S, hW⟩ := q5
    show wp _ _ _ _ _ [] _ _
    exact wp_vret rfl rfl ⟨_, _, _, rfl, S, hW⟩
  · have dc1 := c1
    have hW := hW.2 dc1
    refine wp_g (n := 4) (pc' := 12) (L' := [some (.ref 101), some (.int (iI x1))]) (st' := [.int (iI 10), .int (iI x1), .int (iI 48), .ref 101]) rfl ?_
    obtain ⟨p6, hW⟩ := hW
    refine wp_div (a := x1) (b := 10) rfl p6 hx1.2 (by decide) (by decide) ?_
    have hr7 : rJ (x1 / 10) := by have := hx1; omega
    refine wp_add (a := 48) (b := (x1 / 10)) rfl ?_
    refine wp_bChr (a := (48 + (x1 / 10))) rfl ?_
    have hr8 : rJ (bChr (48 + (x1 / 10))) := i32_rg _
    refine wp_cv (As := [.int (iI (bChr (48 + (x1 / 10))))]) (rest := []) rfl rfl (S.cell 101 (nc rfl)) (by decide) rfl rfl rfl (Nat.le_of_ble_eq_true rfl) (Nat.le_of_ble_eq_true rfl) (hW _ S) (fun r9 H9 q9 => ?_)
    obtain ⟨m9, γ9, t9, rfl, S, hW⟩ := q9
    show wp _ _ _ _ _ [] _ _
    refine wp_g (n := 4) (pc' := 24) (L' := [some (.ref 101), some (.int (iI x1))]) (st' := [.int (iI 10), .int (iI x1), .int (iI 48), .ref 101]) rfl ?_
    obtain ⟨p10, hW⟩ := hW
    refine wp_rem (a := x1) (b := 10) rfl p10 hx1.2 (by decide) (by decide) ?_
    have hr11 : rJ (x1 % 10) := by omega
    refine wp_add (a := 48) (b := (x1 % 10)) rfl ?_
    refine wp_bChr (a := (48 + (x1 % 10))) rfl ?_
    have hr12 : rJ (bChr (48 + (x1 % 10))) := i32_rg _
    refine wp_cv (As := [.int (iI (bChr (48 + (x1 % 10))))]) (rest := []) rfl rfl (S.cell 101 (nc rfl)) (by decide) rfl rfl rfl (Nat.le_of_ble_eq_true rfl) (Nat.le_of_ble_eq_true rfl) (hW _ S) (fun r13 H13 q13 => ?_)
    obtain ⟨m13, γ13, t13, rfl, S, hW⟩ := q13
    show wp _ _ _ _ _ [] _ _
    exact wp_vret rfl rfl ⟨_, _, _, rfl, S, hW⟩
abbrev W_X4_addByte (E : am_E) (k : Nat) (x1 : Int) (m : MM) (γ : GM) (t : am_H) (Q : MM → GM → am_H → Prop) : Prop := ((((m 101 1) < 400) → ((0 ≤ (m 101 1) ∧ (m 101 1) < 400) ∧ ((-128 ≤ (bByt x1) ∧ (bByt x1) < 128) ∧ (rJ ((m 101 1) + 1) ∧ (Q (up (up m 102 (up (m 102) (((m 101 1)).toNat) (bByt x1))) 101 (up (m 101) 1 ((m 101 1) + 1))) γ t))))) ∧ (¬ ((m 101 1) < 400) → (Q m γ t)))
theorem vc_X4_addByte {E : am_E} {k : Nat} {x1 : Int} {m : MM} {γ : GM} {t : am_H} {Q : MM → GM → am_H → Prop} (hx1 : rJ x1) (hW : W_X4_addByte E k x1 m γ t Q) : TV E k 57 [.ref 101, .int (iI x1)] m γ t Q := by
  unfold W_X4_addByte at hW
  intro h S
  refine wp_g (n := 1) (pc' := 1) (L' := [some (.ref 101), some (.int (iI x1))]) (st' := [.ref 101]) rfl ?_
  refine wp_getf (v := .int (iI (m 101 1))) rfl rfl (S.cell 101 (nc rfl)) (by decide) rfl ?_
  have hr1 : rJ (m 101 1) := S.rg 101 1 (nl rfl)
  refine wp_g (n := 1) (pc' := 7) (L' := [some (.ref 101), some (.int (iI x1))]) (st' := [.int (iI 400), .int (iI (m 101 1))]) rfl ?_
  refine wp_icmpI (a := (m 101 1)) (b := 400) rfl rfl hr1.1 hr1.2 (by decide) (by decide) (fun c2 => ?_) (fun c2 => ?_)
  · have dc2 := (Int.not_lt.mpr c2)
    have hW := hW.2 dc2
    exact wp_vret rfl rfl ⟨_, _, _, rfl, S, hW⟩
  · have dc2 := (Int.not_le.mp c2)
    have hW := hW.1 dc2
    refine wp_g (n := 1) (pc' := 11) (L' := [some (.ref 101), some (.int (iI x1))]) (st' := [.ref 101]) rfl ?_
    refine wp_getf (v := .ref 102) rfl rfl (S.cell 101 (nc rfl)) (by decide) rfl ?_
    refine wp_g (n := 1) (pc' := 15) (L' := [some (.ref 101), some (.int (iI x1))]) (st' := [.ref 101, .ref 102]) rfl ?_
    refine wp_getf (v := .int (iI (m 101 1))) rfl rfl (S.cell 101 (nc rfl)) (by decide) rfl ?_
    refine wp_g (n := 1) (pc' := 19) (L' := [some (.ref 101), some (.int (iI x1))]) (st' := [.int (iI x1), .int (iI (m 101 1)), .ref 102]) rfl ?_
    refine wp_bByt (a := x1) rfl ?_
    have hr3 : rJ (bByt x1) := i32_rg _
    obtain ⟨p5, hW⟩ := hW
    obtain ⟨p6, hW⟩ := hW
    refine wp_basF (n := 400) (F := (m 102)) (y := (bByt x1)) rfl (S.cell 102 (nc rfl)) p5.1 p5.2 (by decide) p6.1 p6.2 (fun H4 hl4 hz4 hf4 => ?_)
    have S : ST H4 (up m 102 (up (m 102) (((m 101 1)).toNat) (bByt x1))) γ t := S.setI 102 (nc rfl) hl4 hz4 hf4 hr3.1 hr3.2
    refine wp_g (n := 2) (pc' := 23) (L' := [some (.ref 101), some (.int (iI x1))]) (st' := [.ref 101, .ref 101]) rfl ?_
    refine wp_getf (v := .int (iI (m 101 1))) rfl rfl (S.cell 101 (nc rfl)) (by decide) rfl ?_
    refine wp_g (n := 1) (pc' := 27) (L' := [some (.ref 101), some (.int (iI x1))]) (st' := [.int (iI 1), .int (iI (m 101 1)), .ref 101]) rfl ?_
    refine wp_add (a := (m 101 1)) (b := 1) rfl ?_
    obtain ⟨p8, hW⟩ := hW
    refine wp_putI rfl rfl (S.cell 101 (nc rfl)) (Nat.le_of_ble_eq_true rfl) rfl (fun H7 hl7 hz7 hf7 => ?_)
    have S : ST H7 (up (up m 102 (up (m 102) (((m 101 1)).toNat) (bByt x1))) 101 (up (m 101) 1 ((m 101 1) + 1))) γ t := S.setI 101 (nc rfl) hl7 hz7 hf7 p8.1 p8.2
    exact wp_vret rfl rfl ⟨_, _, _, rfl, S, hW⟩
def hd_X5_go_31 (E : am_E) (k : Nat) (g1 : Nat) (y2 : Int) (y3 : Int) (m : MM) (γ : GM) (t : am_H) (Q : MM → GM → am_H → Prop) : Prop := ∀ (z1 : Option Value), TT (pV Q) E (k + 1) 59 31 [some (.ref 28), z1, some (.int (iI y2)), some (.int (iI y3))] [] m γ t
abbrev W_X5_go (E : am_E) (k : Nat) (g1 : Nat) (m : MM) (γ : GM) (t : am_H) (Q : MM → GM → am_H → Prop) : Prop := (TI E k 43 [.ref 29, .ref g1] m γ t (fun v1 m1 γ1 t1 => (((v1 = 0) → (TV E k 44 [.ref 29, .ref g1] m1 γ1 t1 (fun m3 γ3 t3 => (TV E k 62 [.ref 28] m3 γ3 t3 (fun m4 γ4 t4 => (TI E k 65 [.ref 28] m4 γ4 t4 (fun v5 m5 γ5 t5 => (hd_X5_go_31 E k g1 v5 0 m5 γ5 t5 Q)))))))) ∧ (¬ (v1 = 0) → (Q m1 γ1 t1)))))
abbrev W_X5_go_31 (E : am_E) (k : Nat) (g1 : Nat) (y2 : Int) (y3 : Int) (m : MM) (γ : GM) (t : am_H) (Q : MM → GM → am_H → Prop) : Prop := (TI E k 28 [.ref 29] m γ t (fun v1 m1 γ1 t1 => (((y3 < v1) → (TI E k 66 [.ref 28, .int (iI y3)] m1 γ1 t1 (fun v5 m5 γ5 t5 => (hd_X5_go_31 E k g1 (y2 + v5) (y3 + 1) m5 γ5 t5 Q)))) ∧ (¬ (y3 < v1) → (TV E k 69 [.ref 28, .int (iI 0), .int (iI 0), .int (iI y2)] m1 γ1 t1 (fun m3 γ3 t3 => (TV E k 71 [.ref 28] m3 γ3 t3 (fun m4 γ4 t4 => (Q m4 γ4 t4)))))))))
theorem vc_X5_go {E : am_E} {k : Nat} {g1 : Nat} {m : MM} {γ : GM} {t : am_H} {Q : MM → GM → am_H → Prop} (hg1 : isg g1) (hW : W_X5_go E k g1 m γ t Q) : TV E (k + 1) 59 [.ref 28, .ref g1] m γ t Q := by
  unfold W_X5_go at hW
  intro h S
  refine wp_g (n := 1) (pc' := 1) (L' := [some (.ref 28), some (.ref g1), none, none]) (st' := [.ref 28]) rfl ?_
  refine wp_getf (v := .ref 29) rfl rfl (S.cell 28 (nc rfl)) (by decide) rfl ?_
  refine wp_g (n := 1) (pc' := 5) (L' := [some (.ref 28), some (.ref g1), none, none]) (st' := [.ref g1, .ref 29]) rfl ?_
  refine wp_cv (As := [.ref g1]) (rest := []) rfl rfl (S.gg 29 (gi rfl)).obj (by decide) rfl rfl rfl (Nat.le_of_ble_eq_true rfl) (Nat.le_of_ble_eq_true rfl) (hW _ S) (fun r1 H1 q1 => ?_)
  obtain ⟨v1, m1, γ1, t1, rfl, hv1, S, hW⟩ := q1
  show wp _ _ _ _ _ [.int (iI v1)] _ _
  refine wp_ifI (a := v1) rfl rfl hv1.1 hv1.2 (fun c2 => ?_) (fun c2 => ?_)
  · have dc2 := c2
    have hW := hW.1 dc2
    refine wp_g (n := 1) (pc' := 13) (L' := [some (.ref 28), some (.ref g1), none, none]) (st' := [.ref 28]) rfl ?_
    refine wp_getf (v := .ref 29) rfl rfl (S.cell 28 (nc rfl)) (by decide) rfl ?_
    refine wp_g (n := 1) (pc' := 17) (L' := [some (.ref 28), some (.ref g1), none, none]) (st' := [.ref g1, .ref 29]) rfl ?_
    refine wp_cv (As := [.ref g1]) (rest := []) rfl rfl (S.gg 29 (gi rfl)).obj (by decide) rfl rfl rfl (Nat.le_of_ble_eq_true rfl) (Nat.le_of_ble_eq_true rfl) (hW _ S) (fun r3 H3 q3 => ?_)
    obtain ⟨m3, γ3, t3, rfl, S, hW⟩ := q3
    show wp _ _ _ _ _ [] _ _
    refine wp_g (n := 1) (pc' := 21) (L' := [some (.ref 28), some (.ref g1), none, none]) (st' := [.ref 28]) rfl ?_
    refine wp_cv (As := []) (rest := []) rfl rfl (S.cell 28 (nc rfl)) (by decide) rfl rfl rfl (Nat.le_of_ble_eq_true rfl) (Nat.le_of_ble_eq_true rfl) (hW _ S) (fun r4 H4 q4 => ?_)
    obtain ⟨m4, γ4, t4, rfl, S, hW⟩ := q4
    show wp _ _ _ _ _ [] _ _
    refine wp_g (n := 1) (pc' := 25) (L' := [some (.ref 28), some (.ref g1), none, none]) (st' := [.ref 28]) rfl ?_
    refine wp_cv (As := []) (rest := []) rfl rfl (S.cell 28 (nc rfl)) (by decide) rfl rfl rfl (Nat.le_of_ble_eq_true rfl) (Nat.le_of_ble_eq_true rfl) (hW _ S) (fun r5 H5 q5 => ?_)
    obtain ⟨v5, m5, γ5, t5, rfl, hv5, S, hW⟩ := q5
    show wp _ _ _ _ _ [.int (iI v5)] _ _
    refine wp_g (n := 3) (pc' := 31) (L' := [some (.ref 28), some (.ref g1), some (.int (iI v5)), some (.int (iI 0))]) (st' := []) rfl ?_
    exact hW (some (.ref g1)) _ S
  · have dc2 := c2
    have hW := hW.2 dc2
    exact wp_vret rfl rfl ⟨_, _, _, rfl, S, hW⟩
theorem vc_X5_go_31 {E : am_E} {k : Nat} {g1 : Nat} {y2 : Int} {y3 : Int} {m : MM} {γ : GM} {t : am_H} {Q : MM → GM → am_H → Prop} (hg1 : isg g1) (hy2 : rJ y2) (hy3 : rJ y3) (hW : W_X5_go_31 E k g1 y2 y3 m γ t Q) : hd_X5_go_31 E k g1 y2 y3 m γ t Q := by
  unfold W_X5_go_31 at hW
  intro z1 h S
  refine wp_g (n := 2) (pc' := 33) (L' := [some (.ref 28), z1, some (.int (iI y2)), some (.int (iI y3))]) (st' := [.ref 28, .int (iI y3)]) rfl ?_
  refine wp_getf (v := .ref 29) rfl rfl (S.cell 28 (nc rfl)) (by decide) rfl ?_
  refine wp_cv (As := []) (rest := [.int (iI y3)]) rfl rfl (S.gg 29 (gi rfl)).obj (by decide) rfl rfl rfl (Nat.le_of_ble_eq_true rfl) (Nat.le_of_ble_eq_true rfl) (hW _ S) (fun r1 H1 q1 => ?_)
  obtain ⟨v1, m1, γ1, t1, rfl, hv1, S, hW⟩ := q1
  show wp _ _ _ _ _ [.int (iI v1), .int (iI y3)] _ _
  refine wp_icmpI (a := y3) (b := v1) rfl rfl hy3.1 hy3.2 hv1.1 hv1.2 (fun c2 => ?_) (fun c2 => ?_)
  · have dc2 := (Int.not_lt.mpr c2)
    have hW := hW.2 dc2
    refine wp_g (n := 4) (pc' := 60) (L' := [some (.ref 28), z1, some (.int (iI y2)), some (.int (iI y3))]) (st' := [.int (iI y2), .int (iI 0), .int (iI 0), .ref 28]) rfl ?_
    refine wp_cs (As := [.ref 28, .int (iI 0), .int (iI 0), .int (iI y2)]) (rest := []) rfl rfl rfl rfl (Nat.le_of_ble_eq_true rfl) (Nat.le_of_ble_eq_true rfl) (hW _ S) (fun r3 H3 q3 => ?_)
    obtain ⟨m3, γ3, t3, rfl, S, hW⟩ := q3
    show wp _ _ _ _ _ [] _ _
    refine wp_g (n := 1) (pc' := 64) (L' := [some (.ref 28), z1, some (.int (iI y2)), some (.int (iI y3))]) (st' := [.ref 28]) rfl ?_
    refine wp_cv (As := []) (rest := []) rfl rfl (S.cell 28 (nc rfl)) (by decide) rfl rfl rfl (Nat.le_of_ble_eq_true rfl) (Nat.le_of_ble_eq_true rfl) (hW _ S) (fun r4 H4 q4 => ?_)
    obtain ⟨m4, γ4, t4, rfl, S, hW⟩ := q4
    show wp _ _ _ _ _ [] _ _
    exact wp_vret rfl rfl ⟨_, _, _, rfl, S, hW⟩
  · have dc2 := (Int.not_le.mp c2)
    have hW := hW.1 dc2
    refine wp_g (n := 3) (pc' := 45) (L' := [some (.ref 28), z1, some (.int (iI y2)), some (.int (iI y3))]) (st' := [.int (iI y3), .ref 28, .int (iI y2)]) rfl ?_
    refine wp_cv (As := [.int (iI y3)]) (rest := [.int (iI y2)]) rfl rfl (S.cell 28 (nc rfl)) (by decide) rfl rfl rfl (Nat.le_of_ble_eq_true rfl) (Nat.le_of_ble_eq_true rfl) (hW _ S) (fun r5 H5 q5 => ?_)
    obtain ⟨v5, m5, γ5, t5, rfl, hv5, S, hW⟩ := q5
    show wp _ _ _ _ _ [.int (iI v5), .int (iI y2)] _ _
    refine wp_add (a := y2) (b := v5) rfl ?_
    refine wp_g (n := 1) (pc' := 50) (L' := [some (.ref 28), (bif am_c2 z1 then none else z1), some (.int (iI (y2 + v5))), some (.int (iI y3))]) (st' := []) rfl ?_
    refine wp_iinc (L' := [some (.ref 28), (bif am_c2 z1 then none else z1), some (.int (iI (y2 + v5))), some (.int (iI (y3 + 1)))]) (a := y3) rfl rfl rfl ?_
    refine wp_g (n := 1) (pc' := 31) (L' := [some (.ref 28), (bif am_c2 z1 then none else z1), some (.int (iI (y2 + v5))), some (.int (iI (y3 + 1)))]) (st' := []) rfl ?_
    exact hW (bif am_c2 z1 then none else z1) _ S
def hd_X5_waysWith_14 (E : am_E) (k : Nat) (x1 : Int) (y1 : Int) (y2 : Int) (y3 : Int) (m : MM) (γ : GM) (t : am_H) (Q : Int → MM → GM → am_H → Prop) : Prop := TT (pI Q) E k 60 14 [some (.ref 28), some (.int (iI y1)), some (.int (iI y2)), some (.int (iI y3))] [] m γ t
abbrev W_X5_waysWith (E : am_E) (k : Nat) (x1 : Int) (m : MM) (γ : GM) (t : am_H) (Q : Int → MM → GM → am_H → Prop) : Prop := (((x1 < 0) → (Q 0 m γ t)) ∧ (¬ (x1 < 0) → (((x1 ≤ 16) → (hd_X5_waysWith_14 E k x1 x1 0 0 m γ t Q)) ∧ (¬ (x1 ≤ 16) → (Q 0 m γ t)))))
abbrev W_X5_waysWith_14 (E : am_E) (k : Nat) (x1 : Int) (y1 : Int) (y2 : Int) (y3 : Int) (m : MM) (γ : GM) (t : am_H) (Q : Int → MM → GM → am_H → Prop) : Prop := (((y3 ≤ 12) → ((0 ≤ y3 ∧ y3 < 13) ∧ ((0 ≤ y1 ∧ y1 < 17) ∧ (hd_X5_waysWith_14 E k x1 y1 (y2 + (m (37 + (y3).toNat) ((y1).toNat))) (y3 + 1) m γ t Q)))) ∧ (¬ (y3 ≤ 12) → (Q y2 m γ t)))
theorem vc_X5_waysWith {E : am_E} {k : Nat} {x1 : Int} {m : MM} {γ : GM} {t : am_H} {Q : Int → MM → GM → am_H → Prop} (hx1 : rJ x1) (hW : W_X5_waysWith E k x1 m γ t Q) : TI E k 60 [.ref 28, .int (iI x1)] m γ t Q := by
  unfold W_X5_waysWith at hW
  intro h S
  refine wp_g (n := 3) (pc' := 3) (L' := [some (.ref 28), some (.int (iI x1)), some (.int (iI 0)), none]) (st' := [.int (iI x1)]) rfl ?_
  refine wp_ifI (a := x1) rfl rfl hx1.1 hx1.2 (fun c1 => ?_) (fun c1 => ?_)
  · have dc1 := c1
    have hW := hW.1 dc1
    refine wp_g (n := 1) (pc' := 38) (L' := [some (.ref 28), some (.int (iI x1)), some (.int (iI 0)), none]) (st' := [.int (iI 0)]) rfl ?_
    exact wp_iret rfl rfl ⟨_, _, _, _, rfl, (by decide), S, hW⟩
  · have dc1 := c1
    have hW := hW.2 dc1
    refine wp_g (n := 2) (pc' := 9) (L' := [some (.ref 28), some (.int (iI x1)), some (.int (iI 0)), none]) (st' := [.int (iI 16), .int (iI x1)]) rfl ?_
    refine wp_icmpI (a := x1) (b := 16) rfl rfl hx1.1 hx1.2 (by decide) (by decide) (fun c2 => ?_) (fun c2 => ?_)
    · have dc2 := (Int.not_le.mpr c2)
      have hW := hW.2 dc2
      refine wp_g (n := 1) (pc' := 38) (L' := [some (.ref 28), some (.int (iI x1)), some (.int (iI 0)), none]) (st' := [.int (iI 0)]) rfl ?_
      exact wp_iret rfl rfl ⟨_, _, _, _, rfl, (by decide), S, hW⟩
    · have dc2 := (Int.not_lt.mp c2)
      have hW := hW.1 dc2
      refine wp_g (n := 2) (pc' := 14) (L' := [some (.ref 28), some (.int (iI x1)), some (.int (iI 0)), some (.int (iI 0))]) (st' := []) rfl ?_
      exact hW _ S
theorem vc_X5_waysWith_14 {E : am_E} {k : Nat} {x1 : Int} {y1 : Int} {y2 : Int} {y3 : Int} {m : MM} {γ : GM} {t : am_H} {Q : Int → MM → GM → am_H → Prop} (hx1 : rJ x1) (hy1 : rJ y1) (hy2 : rJ y2) (hy3 : rJ y3) (hW : W_X5_waysWith_14 E k x1 y1 y2 y3 m γ t Q) : hd_X5_waysWith_14 E k x1 y1 y2 y3 m γ t Q := by
  unfold W_X5_waysWith_14 at hW
  intro h S
  refine wp_g (n := 2) (pc' := 17) (L' := [some (.ref 28), some (.int (iI y1)), some (.int (iI y2)), some (.int (iI y3))]) (st' := [.int (iI 12), .int (iI y3)]) rfl ?_
  refine wp_icmpI (a := y3) (b := 12) rfl rfl hy3.1 hy3.2 (by decide) (by decide) (fun c1 => ?_) (fun c1 => ?_)
  · have dc1 := (Int.not_le.mpr c1)
    have hW := hW.2 dc1
    refine wp_g (n := 1) (pc' := 38) (L' := [some (.ref 28), some (.int (iI y1)), some (.int (iI y2)), some (.int (iI y3))]) (st' := [.int (iI y2)]) rfl ?_
    exact wp_iret rfl rfl ⟨_, _, _, _, rfl, hy2, S, hW⟩
  · have dc1 := (Int.not_lt.mp c1)
    have hW := hW.1 dc1
    refine wp_g (n := 2) (pc' := 22) (L' := [some (.ref 28), some (.int (iI y1)), some (.int (iI y2)), some (.int (iI y3))]) (st' := [.ref 28, .int (iI y2)]) rfl ?_
    refine wp_getf (v := .ref 36) rfl rfl (S.cell 28 (nc rfl)) (by decide) rfl ?_
    refine wp_g (n := 1) (pc' := 26) (L' := [some (.ref 28), some (.int (iI y1)), some (.int (iI y2)), some (.int (iI y3))]) (st' := [.int (iI y3), .ref 36, .int (iI y2)]) rfl ?_
    obtain ⟨p2, hW⟩ := hW
    have hn3 : (y3).toNat < 13 := by omega
    refine wp_rald (n := 13) (b := (37 + (y3).toNat)) rfl (S.cell 36 (nc rfl)) p2.1 p2.2 (by decide) (if_pos hn3) ?_
    refine wp_g (n := 1) (pc' := 28) (L' := [some (.ref 28), some (.int (iI y1)), some (.int (iI y2)), some (.int (iI y3))]) (st' := [.int (iI y1), .ref (37 + (y3).toNat), .int (iI y2)]) rfl ?_
    obtain ⟨p4, hW⟩ := hW
    refine wp_iald (n := 17) (F := (m (37 + (y3).toNat))) rfl (ST.tal S hn3) (by omega) p4.1 p4.2 (by decide) ?_
    show wp _ _ _ _ _ [.int (iI (m (37 + (y3).toNat) ((y1).toNat))), .int (iI y2)] _ _
    have hr5 : rJ (m (37 + (y3).toNat) ((y1).toNat)) := S.rg (37 + (y3).toNat) ((y1).toNat) (nl_37 hn3)
    refine wp_add (a := y2) (b := (m (37 + (y3).toNat) ((y1).toNat))) rfl ?_
    refine wp_g (n := 1) (pc' := 31) (L' := [some (.ref 28), some (.int (iI y1)), some (.int (iI (y2 + (m (37 + (y3).toNat) ((y1).toNat))))), some (.int (iI y3))]) (st' := []) rfl ?_
    refine wp_iinc (L' := [some (.ref 28), some (.int (iI y1)), some (.int (iI (y2 + (m (37 + (y3).toNat) ((y1).toNat))))), some (.int (iI (y3 + 1)))]) (a := y3) rfl rfl rfl ?_
    refine wp_g (n := 1) (pc' := 14) (L' := [some (.ref 28), some (.int (iI y1)), some (.int (iI (y2 + (m (37 + (y3).toNat) ((y1).toNat))))), some (.int (iI (y3 + 1)))]) (st' := []) rfl ?_
    exact hW _ S
abbrev W_X5_term (E : am_E) (k : Nat) (x1 : Int) (m : MM) (γ : GM) (t : am_H) (Q : Int → MM → GM → am_H → Prop) : Prop := (((x1 < (-100)) → (Q 0 m γ t)) ∧ (¬ (x1 < (-100)) → (((x1 ≤ 100) → ((0 ≤ (x1 + 100) ∧ (x1 + 100) < 201) ∧ (Q (m 50 (((x1 + 100)).toNat)) m γ t))) ∧ (¬ (x1 ≤ 100) → (Q 0 m γ t)))))
theorem vc_X5_term {E : am_E} {k : Nat} {x1 : Int} {m : MM} {γ : GM} {t : am_H} {Q : Int → MM → GM → am_H → Prop} (hx1 : rJ x1) (hW : W_X5_term E k x1 m γ t Q) : TL E k 61 [.ref 28, .int (iI x1)] m γ t Q := by
  unfold W_X5_term at hW
  intro h S
  refine wp_g (n := 2) (pc' := 3) (L' := [some (.ref 28), some (.int (iI x1))]) (st' := [.int (iI (-100)), .int (iI x1)]) rfl ?_
  refine wp_icmpI (a := x1) (b := (-100)) rfl rfl hx1.1 hx1.2 (by decide) (by decide) (fun c1 => ?_) (fun c1 => ?_)
  · have dc1 := c1
    have hW := hW.1 dc1
    refine wp_g (n := 2) (pc' := 25) (L' := [some (.ref 28), some (.int (iI x1))]) (st' := [.long (lI 0)]) rfl ?_
    exact wp_lret rfl rfl ⟨_, _, _, _, rfl, (by decide), S, hW⟩
  · have dc1 := c1
    have hW := hW.2 dc1
    refine wp_g (n := 2) (pc' := 9) (L' := [some (.ref 28), some (.int (iI x1))]) (st' := [.int (iI 100), .int (iI x1)]) rfl ?_
    refine wp_icmpI (a := x1) (b := 100) rfl rfl hx1.1 hx1.2 (by decide) (by decide) (fun c2 => ?_) (fun c2 => ?_)
    · have dc2 := c2
      have hW := hW.1 dc2
      refine wp_g (n := 1) (pc' := 17) (L' := [some (.ref 28), some (.int (iI x1))]) (st' := [.ref 28]) rfl ?_
      refine wp_getf (v := .ref 50) rfl rfl (S.cell 28 (nc rfl)) (by decide) rfl ?_
      refine wp_g (n := 2) (pc' := 23) (L' := [some (.ref 28), some (.int (iI x1))]) (st' := [.int (iI 100), .int (iI x1), .ref 50]) rfl ?_
      refine wp_add (a := x1) (b := 100) rfl ?_
      obtain ⟨p3, hW⟩ := hW
      refine wp_lald (n := 201) (F := (m 50)) rfl (S.cell 50 (nc rfl)) (by decide) p3.1 p3.2 (by decide) ?_
      show wp _ _ _ _ _ [.long (lI (m 50 (((x1 + 100)).toNat)))] _ _
      have hr4 : rK (m 50 (((x1 + 100)).toNat)) := S.rl 50 (((x1 + 100)).toNat)
      exact wp_lret rfl rfl ⟨_, _, _, _, rfl, hr4, S, hW⟩
    · have dc2 := c2
      have hW := hW.2 dc2
      refine wp_g (n := 2) (pc' := 25) (L' := [some (.ref 28), some (.int (iI x1))]) (st' := [.long (lI 0)]) rfl ?_
      exact wp_lret rfl rfl ⟨_, _, _, _, rfl, (by decide), S, hW⟩
def hd_X5_clear_7 (E : am_E) (k : Nat) (y1 : Int) (m : MM) (γ : GM) (t : am_H) (Q : MM → GM → am_H → Prop) : Prop := TT (pV Q) E (k + 1) 62 7 [some (.ref 28), some (.int (iI y1))] [] m γ t
def hd_X5_clear_33 (E : am_E) (k : Nat) (y1 : Int) (m : MM) (γ : GM) (t : am_H) (Q : MM → GM → am_H → Prop) : Prop := TT (pV Q) E (k + 1) 62 33 [some (.ref 28), some (.int (iI y1))] [] m γ t
abbrev W_X5_clear (E : am_E) (k : Nat) (m : MM) (γ : GM) (t : am_H) (Q : MM → GM → am_H → Prop) : Prop := (hd_X5_clear_7 E k 0 (up m 28 (up (m 28) 1 0)) γ t Q)
abbrev W_X5_clear_7 (E : am_E) (k : Nat) (y1 : Int) (m : MM) (γ : GM) (t : am_H) (Q : MM → GM → am_H → Prop) : Prop := (((y1 < 128) → ((0 ≤ y1 ∧ y1 < 128) ∧ (hd_X5_clear_7 E k (y1 + 1) (up m 33 (up (m 33) ((y1).toNat) (bXor y1 1))) γ t Q))) ∧ (¬ (y1 < 128) → (hd_X5_clear_33 E k 0 m γ t Q)))
abbrev W_X5_clear_33 (E : am_E) (k : Nat) (y1 : Int) (m : MM) (γ : GM) (t : am_H) (Q : MM → GM → am_H → Prop) : Prop := (((y1 ≤ 12) → ((0 ≤ y1 ∧ y1 < 13) ∧ (TV E k 320 [.ref (37 + (y1).toNat), .int (iI 0)] m γ t (fun m5 γ5 t5 => (hd_X5_clear_33 E k (y1 + 1) m5 γ5 t5 Q))))) ∧ (¬ (y1 ≤ 12) → (TV E k 319 [.ref 50, .long (lI 0)] m γ t (fun m2 γ2 t2 => (Q m2 γ2 t2)))))
theorem vc_X5_clear {E : am_E} {k : Nat} {m : MM} {γ : GM} {t : am_H} {Q : MM → GM → am_H → Prop} (hW : W_X5_clear E k  m γ t Q) : TV E (k + 1) 62 [.ref 28] m γ t Q := by
  unfold W_X5_clear at hW
  intro h S
  refine wp_g (n := 2) (pc' := 2) (L' := [some (.ref 28), none]) (st' := [.int (iI 0), .ref 28]) rfl ?_
  refine wp_putI rfl rfl (S.cell 28 (nc rfl)) (Nat.le_of_ble_eq_true rfl) rfl (fun H1 hl1 hz1 hf1 => ?_)
  have S : ST H1 (up m 28 (up (m 28) 1 0)) γ t := S.setI 28 (nc rfl) hl1 hz1 hf1 (by decide) (by decide)
  refine wp_g (n := 2) (pc' := 7) (L' := [some (.ref 28), some (.int (iI 0))]) (st' := []) rfl ?_
  exact hW _ S
theorem vc_X5_clear_7 {E : am_E} {k : Nat} {y1 : Int} {m : MM} {γ : GM} {t : am_H} {Q : MM → GM → am_H → Prop} (hy1 : rJ y1) (hW : W_X5_clear_7 E k y1 m γ t Q) : hd_X5_clear_7 E k y1 m γ t Q := by
  unfold W_X5_clear_7 at hW
  intro h S
  refine wp_g (n := 2) (pc' := 9) (L' := [some (.ref 28), some (.int (iI y1))]) (st' := [.ref 28, .int (iI y1)]) rfl ?_
  refine wp_getf (v := .ref 33) rfl rfl (S.cell 28 (nc rfl)) (by decide) rfl ?_
  refine wp_alen (n := 128) (F := (m 33)) rfl (S.cell 33 (nc rfl)) (by decide) ?_
  show wp _ _ _ _ _ [.int (iI 128), .int (iI y1)] _ _
  refine wp_icmpI (a := y1) (b := 128) rfl rfl hy1.1 hy1.2 (by decide) (by decide) (fun c1 => ?_) (fun c1 => ?_)
  · have dc1 := (Int.not_lt.mpr c1)
    have hW := hW.2 dc1
    refine wp_g (n := 2) (pc' := 33) (L' := [some (.ref 28), some (.int (iI 0))]) (st' := []) rfl ?_
    exact hW _ S
  · have dc1 := (Int.not_le.mp c1)
    have hW := hW.1 dc1
    refine wp_g (n := 1) (pc' := 17) (L' := [some (.ref 28), some (.int (iI y1))]) (st' := [.ref 28]) rfl ?_
    refine wp_getf (v := .ref 33) rfl rfl (S.cell 28 (nc rfl)) (by decide) rfl ?_
    refine wp_g (n := 3) (pc' := 23) (L' := [some (.ref 28), some (.int (iI y1))]) (st' := [.int (iI 1), .int (iI y1), .int (iI y1), .ref 33]) rfl ?_
    refine wp_bXor (a := y1) (b := 1) rfl ?_
    have hr2 : rJ (bXor y1 1) := i32_rg _
    obtain ⟨p4, hW⟩ := hW
    refine wp_iasF (n := 128) (F := (m 33)) (y := (bXor y1 1)) rfl (S.cell 33 (nc rfl)) p4.1 p4.2 (by decide) (fun H3 hl3 hz3 hf3 => ?_)
    have S : ST H3 (up m 33 (up (m 33) ((y1).toNat) (bXor y1 1))) γ t := S.setI 33 (nc rfl) hl3 hz3 hf3 hr2.1 hr2.2
    refine wp_iinc (L' := [some (.ref 28), some (.int (iI (y1 + 1)))]) (a := y1) rfl rfl rfl ?_
    refine wp_g (n := 1) (pc' := 7) (L' := [some (.ref 28), some (.int (iI (y1 + 1)))]) (st' := []) rfl ?_
    exact hW _ S
theorem vc_X5_clear_33 {E : am_E} {k : Nat} {y1 : Int} {m : MM} {γ : GM} {t : am_H} {Q : MM → GM → am_H → Prop} (hy1 : rJ y1) (hW : W_X5_clear_33 E k y1 m γ t Q) : hd_X5_clear_33 E k y1 m γ t Q := by
  unfold W_X5_clear_33 at hW
  intro h S
  refine wp_g (n := 2) (pc' := 36) (L' := [some (.ref 28), some (.int (iI y1))]) (st' := [.int (iI 12), .int (iI y1)]) rfl ?_
  refine wp_icmpI (a := y1) (b := 12) rfl rfl hy1.1 hy1.2 (by decide) (by decide) (fun c1 => ?_) (fun c1 => ?_)
  · have dc1 := (Int.not_le.mpr c1)
    have hW := hW.2 dc1
    refine wp_g (n := 1) (pc' := 56) (L' := [some (.ref 28), some (.int (iI y1))]) (st' := [.ref 28]) rfl ?_
    refine wp_getf (v := .ref 50) rfl rfl (S.cell 28 (nc rfl)) (by decide) rfl ?_
    refine wp_g (n := 1) (pc' := 60) (L' := [some (.ref 28), some (.int (iI y1))]) (st' := [.long (lI 0), .ref 50]) rfl ?_
    refine wp_cs (As := [.ref 50, .long (lI 0)]) (rest := []) rfl rfl rfl rfl (Nat.le_of_ble_eq_true rfl) (Nat.le_of_ble_eq_true rfl) (hW _ S) (fun r2 H2 q2 => ?_)
    obtain ⟨m2, γ2, t2, rfl, S, hW⟩ := q2
    show wp _ _ _ _ _ [] _ _
    exact wp_vret rfl rfl ⟨_, _, _, rfl, S, hW⟩
  · have dc1 := (Int.not_lt.mp c1)
    have hW := hW.1 dc1
    refine wp_g (n := 1) (pc' := 40) (L' := [some (.ref 28), some (.int (iI y1))]) (st' := [.ref 28]) rfl ?_
    refine wp_getf (v := .ref 36) rfl rfl (S.cell 28 (nc rfl)) (by decide) rfl ?_
    refine wp_g (n := 1) (pc' := 44) (L' := [some (.ref 28), some (.int (iI y1))]) (st' := [.int (iI y1), .ref 36]) rfl ?_
    obtain ⟨p3, hW⟩ := hW
    have hn4 : (y1).toNat < 13 := by omega
    refine wp_rald (n := 13) (b := (37 + (y1).toNat)) rfl (S.cell 36 (nc rfl)) p3.1 p3.2 (by decide) (if_pos hn4) ?_
    refine wp_g (n := 1) (pc' := 46) (L' := [some (.ref 28), some (.int (iI y1))]) (st' := [.int (iI 0), .ref (37 + (y1).toNat)]) rfl ?_
    refine wp_cs (As := [.ref (37 + (y1).toNat), .int (iI 0)]) (rest := []) rfl rfl rfl rfl (Nat.le_of_ble_eq_true rfl) (Nat.le_of_ble_eq_true rfl) (hW _ S) (fun r5 H5 q5 => ?_)
    obtain ⟨m5, γ5, t5, rfl, S, hW⟩ := q5
    show wp _ _ _ _ _ [] _ _
    refine wp_iinc (L' := [some (.ref 28), some (.int (iI (y1 + 1)))]) (a := y1) rfl rfl rfl ?_
    refine wp_g (n := 1) (pc' := 33) (L' := [some (.ref 28), some (.int (iI (y1 + 1)))]) (st' := []) rfl ?_
    exact hW _ S
abbrev W_X5_openingEnd (E : am_E) (k : Nat) (x1 : Int) (x2 : Int) (m : MM) (γ : GM) (t : am_H) (Q : Int → MM → GM → am_H → Prop) : Prop := (rJ (2 * ((4 * x1) + x2)) ∧ (Q (2 * ((4 * x1) + x2)) m γ t))
theorem vc_X5_openingEnd {E : am_E} {k : Nat} {x1 : Int} {x2 : Int} {m : MM} {γ : GM} {t : am_H} {Q : Int → MM → GM → am_H → Prop} (hx1 : rJ x1) (hx2 : rJ x2) (hW : W_X5_openingEnd E k x1 x2 m γ t Q) : TI E k 63 [.int (iI x1), .int (iI x2)] m γ t Q := by
  unfold W_X5_openingEnd at hW
  intro h S
  refine wp_g (n := 3) (pc' := 3) (L' := [some (.int (iI x1)), some (.int (iI x2))]) (st' := [.int (iI x1), .int (iI 4), .int (iI 2)]) rfl ?_
  refine wp_mul (a := 4) (b := x1) rfl ?_
  refine wp_g (n := 1) (pc' := 5) (L' := [some (.int (iI x1)), some (.int (iI x2))]) (st' := [.int (iI x2), .int (iI (4 * x1)), .int (iI 2)]) rfl ?_
  refine wp_add (a := (4 * x1)) (b := x2) rfl ?_
  refine wp_mul (a := 2) (b := ((4 * x1) + x2)) rfl ?_
  obtain ⟨p1, hW⟩ := hW
  exact wp_iret rfl rfl ⟨_, _, _, _, rfl, p1, S, hW⟩
abbrev W_X5_closingEnd (E : am_E) (k : Nat) (x1 : Int) (x2 : Int) (m : MM) (γ : GM) (t : am_H) (Q : Int → MM → GM → am_H → Prop) : Prop := (rJ (x2 + 3) ∧ (0 ≤ (x2 + 3) ∧ (rJ ((2 * ((4 * x1) + ((x2 + 3) % 4))) + 1) ∧ (Q ((2 * ((4 * x1) + ((x2 + 3) % 4))) + 1) m γ t))))
theorem vc_X5_closingEnd {E : am_E} {k : Nat} {x1 : Int} {x2 : Int} {m : MM} {γ : GM} {t : am_H} {Q : Int → MM → GM → am_H → Prop} (hx1 : rJ x1) (hx2 : rJ x2) (hW : W_X5_closingEnd E k x1 x2 m γ t Q) : TI E k 64 [.int (iI x1), .int (iI x2)] m γ t Q := by
  unfold W_X5_closingEnd at hW
  intro h S
  refine wp_g (n := 3) (pc' := 3) (L' := [some (.int (iI x1)), some (.int (iI x2))]) (st' := [.int (iI x1), .int (iI 4), .int (iI 2)]) rfl ?_
  refine wp_mul (a := 4) (b := x1) rfl ?_
  refine wp_g (n := 2) (pc' := 6) (L' := [some (.int (iI x1)), some (.int (iI x2))]) (st' := [.int (iI 3), .int (iI x2), .int (iI (4 * x1)), .int (iI 2)]) rfl ?_
  refine wp_add (a := x2) (b := 3) rfl ?_
  refine wp_g (n := 1) (pc' := 8) (L' := [some (.int (iI x1)), some (.int (iI x2))]) (st' := [.int (iI 3), .int (iI (x2 + 3)), .int (iI (4 * x1)), .int (iI 2)]) rfl ?_
  obtain ⟨p1, hW⟩ := hW
  obtain ⟨p2, hW⟩ := hW
  refine wp_and3 (a := (x2 + 3)) rfl p2 p1.2 ?_
  have hr3 : rJ ((x2 + 3) % 4) := by omega
  refine wp_add (a := (4 * x1)) (b := ((x2 + 3) % 4)) rfl ?_
  refine wp_mul (a := 2) (b := ((4 * x1) + ((x2 + 3) % 4))) rfl ?_
  refine wp_g (n := 1) (pc' := 12) (L' := [some (.int (iI x1)), some (.int (iI x2))]) (st' := [.int (iI 1), .int (iI (2 * ((4 * x1) + ((x2 + 3) % 4))))]) rfl ?_
  refine wp_add (a := (2 * ((4 * x1) + ((x2 + 3) % 4)))) (b := 1) rfl ?_
  obtain ⟨p4, hW⟩ := hW
  exact wp_iret rfl rfl ⟨_, _, _, _, rfl, p4, S, hW⟩
def hd_X5_joinRim_4 (E : am_E) (k : Nat) (y1 : Int) (y2 : Int) (m : MM) (γ : GM) (t : am_H) (Q : Int → MM → GM → am_H → Prop) : Prop := ∀ (z3 : Option Value), TT (pI Q) E (k + 1) 65 4 [some (.ref 28), some (.int (iI y1)), some (.int (iI y2)), z3] [] m γ t
def hd_X5_joinRim_17 (E : am_E) (k : Nat) (y1 : Int) (y2 : Int) (y3 : Int) (m : MM) (γ : GM) (t : am_H) (Q : Int → MM → GM → am_H → Prop) : Prop := TT (pI Q) E (k + 1) 65 17 [some (.ref 28), some (.int (iI y1)), some (.int (iI y2)), some (.int (iI y3))] [] m γ t
abbrev W_X5_joinRim (E : am_E) (k : Nat) (m : MM) (γ : GM) (t : am_H) (Q : Int → MM → GM → am_H → Prop) : Prop := (hd_X5_joinRim_4 E k 0 0 m γ t Q)
abbrev W_X5_joinRim_4 (E : am_E) (k : Nat) (y1 : Int) (y2 : Int) (m : MM) (γ : GM) (t : am_H) (Q : Int → MM → GM → am_H → Prop) : Prop := (TI E k 27 [.ref 29] m γ t (fun v1 m1 γ1 t1 => (((y2 < v1) → (hd_X5_joinRim_17 E k y1 y2 0 m1 γ1 t1 Q)) ∧ (¬ (y2 < v1) → (Q y1 m1 γ1 t1)))))
abbrev W_X5_joinRim_17 (E : am_E) (k : Nat) (y1 : Int) (y2 : Int) (y3 : Int) (m : MM) (γ : GM) (t : am_H) (Q : Int → MM → GM → am_H → Prop) : Prop := (((y3 < 4) → (TI E k 38 [.ref 29, .int (iI y2), .int (iI y3)] m γ t (fun v2 m2 γ2 t2 => (((v2 = (-1)) → (TI E k 63 [.int (iI y2), .int (iI y3)] m2 γ2 t2 (fun v4 m4 γ4 t4 => (TI E k 64 [.int (iI y2), .int (iI y3)] m4 γ4 t4 (fun v5 m5 γ5 t5 => (TI E k 67 [.ref 28, .int (iI v4), .int (iI v5)] m5 γ5 t5 (fun v6 m6 γ6 t6 => (hd_X5_joinRim_17 E k (y1 + v6) y2 (y3 + 1) m6 γ6 t6 Q)))))))) ∧ (¬ (v2 = (-1)) → (hd_X5_joinRim_17 E k y1 y2 (y3 + 1) m2 γ2 t2 Q)))))) ∧ (¬ (y3 < 4) → (hd_X5_joinRim_4 E k y1 (y2 + 1) m γ t Q)))
theorem vc_X5_joinRim {E : am_E} {k : Nat} {m : MM} {γ : GM} {t : am_H} {Q : Int → MM → GM → am_H → Prop} (hW : W_X5_joinRim E k  m γ t Q) : TI E (k + 1) 65 [.ref 28] m γ t Q := by
  unfold W_X5_joinRim at hW
  intro h S
  refine wp_g (n := 4) (pc' := 4) (L' := [some (.ref 28), some (.int (iI 0)), some (.int (iI 0)), none]) (st' := []) rfl ?_
  exact hW none _ S
theorem vc_X5_joinRim_4 {E : am_E} {k : Nat} {y1 : Int} {y2 : Int} {m : MM} {γ : GM} {t : am_H} {Q : Int → MM → GM → am_H → Prop} (hy1 : rJ y1) (hy2 : rJ y2) (hW : W_X5_joinRim_4 E k y1 y2 m γ t Q) : hd_X5_joinRim_4 E k y1 y2 m γ t Q := by
  unfold W_X5_joinRim_4 at hW
  intro z3 h S
  refine wp_g (n := 2) (pc' := 6) (L' := [some (.ref 28), some (.int (iI y1)), some (.int (iI y2)), z3]) (st' := [.ref 28, .int (iI y2)]) rfl ?_
  refine wp_getf (v := .ref 29) rfl rfl (S.cell 28 (nc rfl)) (by decide) rfl ?_
  refine wp_cv (As := []) (rest := [.int (iI y2)]) rfl rfl (S.gg 29 (gi rfl)).obj (by decide) rfl rfl rfl (Nat.le_of_ble_eq_true rfl) (Nat.le_of_ble_eq_true rfl) (hW _ S) (fun r1 H1 q1 => ?_)
  obtain ⟨v1, m1, γ1, t1, rfl, hv1, S, hW⟩ := q1
  show wp _ _ _ _ _ [.int (iI v1), .int (iI y2)] _ _
  refine wp_icmpI (a := y2) (b := v1) rfl rfl hy2.1 hy2.2 hv1.1 hv1.2 (fun c2 => ?_) (fun c2 => ?_)
  · have dc2 := (Int.not_lt.mpr c2)
    have hW := hW.2 dc2
    refine wp_g (n := 1) (pc' := 65) (L' := [some (.ref 28), some (.int (iI y1)), some (.int (iI y2)), z3]) (st' := [.int (iI y1)]) rfl ?_
    exact wp_iret rfl rfl ⟨_, _, _, _, rfl, hy1, S, hW⟩
  · have dc2 := (Int.not_le.mp c2)
    have hW := hW.1 dc2
    refine wp_g (n := 2) (pc' := 17) (L' := [some (.ref 28), some (.int (iI y1)), some (.int (iI y2)), some (.int (iI 0))]) (st' := []) rfl ?_
    exact hW _ S
theorem vc_X5_joinRim_17 {E : am_E} {k : Nat} {y1 : Int} {y2 : Int} {y3 : Int} {m : MM} {γ : GM} {t : am_H} {Q : Int → MM → GM → am_H → Prop} (hy1 : rJ y1) (hy2 : rJ y2) (hy3 : rJ y3) (hW : W_X5_joinRim_17 E k y1 y2 y3 m γ t Q) : hd_X5_joinRim_17 E k y1 y2 y3 m γ t Q := by
  unfold W_X5_joinRim_17 at hW
  intro h S
  refine wp_g (n := 2) (pc' := 19) (L' := [some (.ref 28), some (.int (iI y1)), some (.int (iI y2)), some (.int (iI y3))]) (st' := [.int (iI 4), .int (iI y3)]) rfl ?_
  refine wp_icmpI (a := y3) (b := 4) rfl rfl hy3.1 hy3.2 (by decide) (by decide) (fun c1 => ?_) (fun c1 => ?_)
  · have dc1 := (Int.not_lt.mpr c1)
    have hW := hW.2 dc1
    refine wp_iinc (L' := [some (.ref 28), some (.int (iI y1)), some (.int (iI (y2 + 1))), some (.int (iI y3))]) (a := y2) rfl rfl rfl ?_
    refine wp_g (n := 1) (pc' := 4) (L' := [some (.ref 28), some (.int (iI y1)), some (.int (iI (y2 + 1))), some (.int (iI y3))]) (st' := []) rfl ?_
    exact hW (some (.int (iI y3))) _ S
  · have dc1 := (Int.not_le.mp c1)
    have hW := hW.1 dc1
    refine wp_g (n := 1) (pc' := 23) (L' := [some (.ref 28), some (.int (iI y1)), some (.int (iI y2)), some (.int (iI y3))]) (st' := [.ref 28]) rfl ?_
    refine wp_getf (v := .ref 29) rfl rfl (S.cell 28 (nc rfl)) (by decide) rfl ?_
    refine wp_g (n := 2) (pc' := 28) (L' := [some (.ref 28), some (.int (iI y1)), some (.int (iI y2)), some (.int (iI y3))]) (st' := [.int (iI y3), .int (iI y2), .ref 29]) rfl ?_
    refine wp_cv (As := [.int (iI y2), .int (iI y3)]) (rest := []) rfl rfl (S.gg 29 (gi rfl)).obj (by decide) rfl rfl rfl (Nat.le_of_ble_eq_true rfl) (Nat.le_of_ble_eq_true rfl) (hW _ S) (fun r2 H2 q2 => ?_)
    obtain ⟨v2, m2, γ2, t2, rfl, hv2, S, hW⟩ := q2
    show wp _ _ _ _ _ [.int (iI v2)] _ _
    refine wp_g (n := 1) (pc' := 32) (L' := [some (.ref 28), some (.int (iI y1)), some (.int (iI y2)), some (.int (iI y3))]) (st' := [.int (iI (-1)), .int (iI v2)]) rfl ?_
    refine wp_icmpI (a := v2) (b := (-1)) rfl rfl hv2.1 hv2.2 (by decide) (by decide) (fun c3 => ?_) (fun c3 => ?_)
    · have dc3 := c3
      have hW := hW.2 dc3
      refine wp_iinc (L' := [some (.ref 28), some (.int (iI y1)), some (.int (iI y2)), some (.int (iI (y3 + 1)))]) (a := y3) rfl rfl rfl ?_
      refine wp_g (n := 1) (pc' := 17) (L' := [some (.ref 28), some (.int (iI y1)), some (.int (iI y2)), some (.int (iI (y3 + 1)))]) (st' := []) rfl ?_
      exact hW _ S
    · have dc3 := (Classical.not_not.mp c3)
      have hW := hW.1 dc3
      refine wp_g (n := 4) (pc' := 39) (L' := [some (.ref 28), some (.int (iI y1)), some (.int (iI y2)), some (.int (iI y3))]) (st' := [.int (iI y3), .int (iI y2), .ref 28, .int (iI y1)]) rfl ?_
      refine wp_cs (As := [.int (iI y2), .int (iI y3)]) (rest := [.ref 28, .int (iI y1)]) rfl rfl rfl rfl (Nat.le_of_ble_eq_true rfl) (Nat.le_of_ble_eq_true rfl) (hW _ S) (fun r4 H4 q4 => ?_)
      obtain ⟨v4, m4, γ4, t4, rfl, hv4, S, hW⟩ := q4
      show wp _ _ _ _ _ [.int (iI v4), .ref 28, .int (iI y1)] _ _
      refine wp_g (n := 2) (pc' := 44) (L' := [some (.ref 28), some (.int (iI y1)), some (.int (iI y2)), some (.int (iI y3))]) (st' := [.int (iI y3), .int (iI y2), .int (iI v4), .ref 28, .int (iI y1)]) rfl ?_
      refine wp_cs (As := [.int (iI y2), .int (iI y3)]) (rest := [.int (iI v4), .ref 28, .int (iI y1)]) rfl rfl rfl rfl (Nat.le_of_ble_eq_true rfl) (Nat.le_of_ble_eq_true rfl) (hW _ S) (fun r5 H5 q5 => ?_)
      obtain ⟨v5, m5, γ5, t5, rfl, hv5, S, hW⟩ := q5
      show wp _ _ _ _ _ [.int (iI v5), .int (iI v4), .ref 28, .int (iI y1)] _ _
      refine wp_cv (As := [.int (iI v4), .int (iI v5)]) (rest := [.int (iI y1)]) rfl rfl (S.cell 28 (nc rfl)) (by decide) rfl rfl rfl (Nat.le_of_ble_eq_true rfl) (Nat.le_of_ble_eq_true rfl) (hW _ S) (fun r6 H6 q6 => ?_)
      obtain ⟨v6, m6, γ6, t6, rfl, hv6, S, hW⟩ := q6
      show wp _ _ _ _ _ [.int (iI v6), .int (iI y1)] _ _
      refine wp_add (a := y1) (b := v6) rfl ?_
      refine wp_g (n := 1) (pc' := 52) (L' := [some (.ref 28), some (.int (iI (y1 + v6))), some (.int (iI y2)), some (.int (iI y3))]) (st' := []) rfl ?_
      refine wp_iinc (L' := [some (.ref 28), some (.int (iI (y1 + v6))), some (.int (iI y2)), some (.int (iI (y3 + 1)))]) (a := y3) rfl rfl rfl ?_
      refine wp_g (n := 1) (pc' := 17) (L' := [some (.ref 28), some (.int (iI (y1 + v6))), some (.int (iI y2)), some (.int (iI (y3 + 1)))]) (st' := []) rfl ?_
      exact hW _ S
abbrev W_X5_joinOrKeep (E : am_E) (k : Nat) (x1 : Int) (m : MM) (γ : GM) (t : am_H) (Q : Int → MM → GM → am_H → Prop) : Prop := (TI E k 35 [.ref 29, .int (iI x1)] m γ t (fun v1 m1 γ1 t1 => (TI E k 36 [.ref 29, .int (iI x1)] m1 γ1 t1 (fun v2 m2 γ2 t2 => (((v2 = 0) → (TI E k 39 [.ref 29, .int (iI v1), .int (iI 1)] m2 γ2 t2 (fun v51 m51 γ51 t51 => (TI E k 63 [.int (iI v1), .int (iI 1)] m51 γ51 t51 (fun v52 m52 γ52 t52 => (TI E k 64 [.int (iI v1), .int (iI 1)] m52 γ52 t52 (fun v53 m53 γ53 t53 => (TI E k 63 [.int (iI v51), .int (iI (bXor 1 2))] m53 γ53 t53 (fun v55 m55 γ55 t55 => (TI E k 64 [.int (iI v51), .int (iI (bXor 1 2))] m55 γ55 t55 (fun v57 m57 γ57 t57 => (TI E k 33 [.ref 29, .int (iI x1)] m57 γ57 t57 (fun v58 m58 γ58 t58 => (((v58 = 2) → (TI E k 67 [.ref 28, .int (iI v52), .int (iI v53)] m58 γ58 t58 (fun v95 m95 γ95 t95 => (TI E k 67 [.ref 28, .int (iI v55), .int (iI v57)] m95 γ95 t95 (fun v96 m96 γ96 t96 => (rJ (v95 + v96) ∧ (Q (v95 + v96) m96 γ96 t96))))))) ∧ (¬ (v58 = 2) → (TI E k 33 [.ref 29, .int (iI x1)] m58 γ58 t58 (fun v60 m60 γ60 t60 => (((v60 = 3) → (TI E k 67 [.ref 28, .int (iI v52), .int (iI v57)] m60 γ60 t60 (fun v92 m92 γ92 t92 => (TI E k 67 [.ref 28, .int (iI v53), .int (iI v55)] m92 γ92 t92 (fun v93 m93 γ93 t93 => (rJ (v92 + v93) ∧ (Q (v92 + v93) m93 γ93 t93))))))) ∧ (¬ (v60 = 3) → ((((m60 28 1) < 12) → (TI E k 33 [.ref 29, .int (iI x1)] m60 γ60 t60 (fun v64 m64 γ64 t64 => (((v64 = 1) → ((0 ≤ (m60 28 1) ∧ (m60 28 1) < 12) ∧ (TV E k 183 [.ref 34, .int (iI (4 * (m64 28 1))), .int (iI v52)] (up m64 35 (up (m64 35) (((m60 28 1)).toNat) 1)) γ64 t64 (fun m82 γ82 t82 => (TV E k 183 [.ref 34, .int (iI ((4 * (m82 28 1)) + 1)), .int (iI v53)] m82 γ82 t82 (fun m84 γ84 t84 => (TV E k 183 [.ref 34, .int (iI ((4 * (m84 28 1)) + 2)), .int (iI v55)] m84 γ84 t84 (fun m86 γ86 t86 => (TV E k 183 [.ref 34, .int (iI ((4 * (m86 28 1)) + 3)), .int (iI v57)] m86 γ86 t86 (fun m88 γ88 t88 => (rJ ((m88 28 1) + 1) ∧ (Q 0 (up m88 28 (up (m88 28) 1 ((m88 28 1) + 1))) γ88 t88)))))))))))) ∧ (¬ (v64 = 1) → ((0 ≤ (m60 28 1) ∧ (m60 28 1) < 12) ∧ (TV E k 183 [.ref 34, .int (iI (4 * (m64 28 1))), .int (iI v52)] (up m64 35 (up (m64 35) (((m60 28 1)).toNat) 0)) γ64 t64 (fun m69 γ69 t69 => (TV E k 183 [.ref 34, .int (iI ((4 * (m69 28 1)) + 1)), .int (iI v53)] m69 γ69 t69 (fun m71 γ71 t71 => (TV E k 183 [.ref 34, .int (iI ((4 * (m71 28 1)) + 2)), .int (iI v55)] m71 γ71 t71 (fun m73 γ73 t73 => (TV E k 183 [.ref 34, .int (iI ((4 * (m73 28 1)) + 3)), .int (iI v57)] m73 γ73 t73 (fun m75 γ75 t75 => (rJ ((m75 28 1) + 1) ∧ (Q 0 (up m75 28 (up (m75 28) 1 ((m75 28 1) + 1))) γ75 t75)))))))))))))))) ∧ (¬ ((m60 28 1) < 12) → (Q 0 m60 γ60 t60)))))))))))))))))))))) ∧ (¬ (v2 = 0) → (TI E k 39 [.ref 29, .int (iI v1), .int (iI 2)] m2 γ2 t2 (fun v4 m4 γ4 t4 => (TI E k 63 [.int (iI v1), .int (iI 2)] m4 γ4 t4 (fun v5 m5 γ5 t5 => (TI E k 64 [.int (iI v1), .int (iI 2)] m5 γ5 t5 (fun v6 m6 γ6 t6 => (TI E k 63 [.int (iI v4), .int (iI (bXor 2 2))] m6 γ6 t6 (fun v8 m8 γ8 t8 => (TI E k 64 [.int (iI v4), .int (iI (bXor 2 2))] m8 γ8 t8 (fun v10 m10 γ10 t10 => (TI E k 33 [.ref 29, .int (iI x1)] m10 γ10 t10 (fun v11 m11 γ11 t11 => (((v11 = 2) → (TI E k 67 [.ref 28, .int (iI v5), .int (iI v6)] m11 γ11 t11 (fun v48 m48 γ48 t48 => (TI E k 67 [.ref 28, .int (iI v8), .int (iI v10)] m48 γ48 t48 (fun v49 m49 γ49 t49 => (rJ (v48 + v49) ∧ (Q (v48 + v49) m49 γ49 t49))))))) ∧ (¬ (v11 = 2) → (TI E k 33 [.ref 29, .int (iI x1)] m11 γ11 t11 (fun v13 m13 γ13 t13 => (((v13 = 3) → (TI E k 67 [.ref 28, .int (iI v5), .int (iI v10)] m13 γ13 t13 (fun v45 m45 γ45 t45 => (TI E k 67 [.ref 28, .int (iI v6), .int (iI v8)] m45 γ45 t45 (fun v46 m46 γ46 t46 => (rJ (v45 + v46) ∧ (Q (v45 + v46) m46 γ46 t46))))))) ∧ (¬ (v13 = 3) → ((((m13 28 1) < 12) → (TI E k 33 [.ref 29, .int (iI x1)] m13 γ13 t13 (fun v17 m17 γ17 t17 => (((v17 = 1) → ((0 ≤ (m13 28 1) ∧ (m13 28 1) < 12) ∧ (TV E k 183 [.ref 34, .int (iI (4 * (m17 28 1))), .int (iI v5)] (up m17 35 (up (m17 35) (((m13 28 1)).toNat) 1)) γ17 t17 (fun m35 γ35 t35 => (TV E k 183 [.ref 34, .int (iI ((4 * (m35 28 1)) + 1)), .int (iI v6)] m35 γ35 t35 (fun m37 γ37 t37 => (TV E k 183 [.ref 34, .int (iI ((4 * (m37 28 1)) + 2)), .int (iI v8)] m37 γ37 t37 (fun m39 γ39 t39 => (TV E k 183 [.ref 34, .int (iI ((4 * (m39 28 1)) + 3)), .int (iI v10)] m39 γ39 t39 (fun m41 γ41 t41 => (rJ ((m41 28 1) + 1) ∧ (Q 0 (up m41 28 (up (m41 28) 1 ((m41 28 1) + 1))) γ41 t41)))))))))))) ∧ (¬ (v17 = 1) → ((0 ≤ (m13 28 1) ∧ (m13 28 1) < 12) ∧ (TV E k 183 [.ref 34, .int (iI (4 * (m17 28 1))), .int (iI v5)] (up m17 35 (up (m17 35) (((m13 28 1)).toNat) 0)) γ17 t17 (fun m22 γ22 t22 => (TV E k 183 [.ref 34, .int (iI ((4 * (m22 28 1)) + 1)), .int (iI v6)] m22 γ22 t22 (fun m24 γ24 t24 => (TV E k 183 [.ref 34, .int (iI ((4 * (m24 28 1)) + 2)), .int (iI v8)] m24 γ24 t24 (fun m26 γ26 t26 => (TV E k 183 [.ref 34, .int (iI ((4 * (m26 28 1)) + 3)), .int (iI v10)] m26 γ26 t26 (fun m28 γ28 t28 => (rJ ((m28 28 1) + 1) ∧ (Q 0 (up m28 28 (up (m28 28) 1 ((m28 28 1) + 1))) γ28 t28)))))))))))))))) ∧ (¬ ((m13 28 1) < 12) → (Q 0 m13 γ13 t13)))))))))))))))))))))))))))
theorem vc_X5_joinOrKeep {E : am_E} {k : Nat} {x1 : Int} {m : MM} {γ : GM} {t : am_H} {Q : Int → MM → GM → am_H → Prop} (hx1 : rJ x1) (hW : W_X5_joinOrKeep E k x1 m γ t Q) : TI E (k + 1) 66 [.ref 28, .int (iI x1)] m γ t Q := by
  unfold W_X5_joinOrKeep at hW
  intro h S
  refine wp_g (n := 1) (pc' := 1) (L' := [some (.ref 28), some (.int (iI x1)), none, none, none, none, none, none, none]) (st' := [.ref 28]) rfl ?_
  refine wp_getf (v := .ref 29) rfl rfl (S.cell 28 (nc rfl)) (by decide) rfl ?_
  refine wp_g (n := 1) (pc' := 5) (L' := [some (.ref 28), some (.int (iI x1)), none, none, none, none, none, none, none]) (st' := [.int (iI x1), .ref 29]) rfl ?_
  refine wp_cv (As := [.int (iI x1)]) (rest := []) rfl rfl (S.gg 29 (gi rfl)).obj (by decide) rfl rfl rfl (Nat.le_of_ble_eq_true rfl) (Nat.le_of_ble_eq_true rfl) (hW _ S) (fun r1 H1 q1 => ?_)
  obtain ⟨v1, m1, γ1, t1, rfl, hv1, S, hW⟩ := q1
  show wp _ _ _ _ _ [.int (iI v1)] _ _
  refine wp_g (n := 2) (pc' := 10) (L' := [some (.ref 28), some (.int (iI x1)), some (.int (iI v1)), none, none, none, none, none, none]) (st' := [.ref 28]) rfl ?_
  refine wp_getf (v := .ref 29) rfl rfl (S.cell 28 (nc rfl)) (by decide) rfl ?_
  refine wp_g (n := 1) (pc' := 14) (L' := [some (.ref 28), some (.int (iI x1)), some (.int (iI v1)), none, none, none, none, none, none]) (st' := [.int (iI x1), .ref 29]) rfl ?_
  refine wp_cv (As := [.int (iI x1)]) (rest := []) rfl rfl (S.gg 29 (gi rfl)).obj (by decide) rfl rfl rfl (Nat.le_of_ble_eq_true rfl) (Nat.le_of_ble_eq_true rfl) (hW _ S) (fun r2 H2 q2 => ?_)
  obtain ⟨v2, m2, γ2, t2, rfl, hv2, S, hW⟩ := q2
  show wp _ _ _ _ _ [.int (iI v2)] _ _
  refine wp_ifI (a := v2) rfl rfl hv2.1 hv2.2 (fun c3 => ?_) (fun c3 => ?_)
  · have dc3 := c3
    have hW := hW.2 dc3
    refine wp_g (n := 3) (pc' := 27) (L' := [some (.ref 28), some (.int (iI x1)), some (.int (iI v1)), some (.int (iI 2)), none, none, none, none, none]) (st' := [.ref 28]) rfl ?_
    refine wp_getf (v := .ref 29) rfl rfl (S.cell 28 (nc rfl)) (by decide) rfl ?_
    refine wp_g (n := 2) (pc' := 32) (L' := [some (.ref 28), some (.int (iI x1)), some (.int (iI v1)), some (.int (iI 2)), none, none, none, none, none]) (st' := [.int (iI 2), .int (iI v1), .ref 29]) rfl ?_
    refine wp_cv (As := [.int (iI v1), .int (iI 2)]) (rest := []) rfl rfl (S.gg 29 (gi rfl)).obj (by decide) rfl rfl rfl (Nat.le_of_ble_eq_true rfl) (Nat.le_of_ble_eq_true rfl) (hW _ S) (fun r4 H4 q4 => ?_)
    obtain ⟨v4, m4, γ4, t4, rfl, hv4, S, hW⟩ := q4
    show wp _ _ _ _ _ [.int (iI v4)] _ _
    refine wp_g (n := 3) (pc' := 39) (L' := [some (.ref 28), some (.int (iI x1)), some (.int (iI v1)), some (.int (iI 2)), some (.int (iI v4)), none, none, none, none]) (st' := [.int (iI 2), .int (iI v1)]) rfl ?_
    refine wp_cs (As := [.int (iI v1), .int (iI 2)]) (rest := []) rfl rfl rfl rfl (Nat.le_of_ble_eq_true rfl) (Nat.le_of_ble_eq_true rfl) (hW _ S) (fun r5 H5 q5 => ?_)
    obtain ⟨v5, m5, γ5, t5, rfl, hv5, S, hW⟩ := q5
    show wp _ _ _ _ _ [.int (iI v5)] _ _
    refine wp_g (n := 3) (pc' := 46) (L' := [some (.ref 28), some (.int (iI x1)), some (.int (iI v1)), some (.int (iI 2)), some (.int (iI v4)), some (.int (iI v5)), none, none, none]) (st' := [.int (iI 2), .int (iI v1)]) rfl ?_
    refine wp_cs (As := [.int (iI v1), .int (iI 2)]) (rest := []) rfl rfl rfl rfl (Nat.le_of_ble_eq_true rfl) (Nat.le_of_ble_eq_true rfl) (hW _ S) (fun r6 H6 q6 => ?_)
    obtain ⟨v6, m6, γ6, t6, rfl, hv6, S, hW⟩ := q6
    show wp _ _ _ _ _ [.int (iI v6)] _ _
    refine wp_g (n := 4) (pc' := 55) (L' := [some (.ref 28), some (.int (iI x1)), some (.int (iI v1)), some (.int (iI 2)), some (.int (iI v4)), some (.int (iI v5)), some (.int (iI v6)), none, none]) (st' := [.int (iI 2), .int (iI 2), .int (iI v4)]) rfl ?_
    refine wp_bXor (a := 2) (b := 2) rfl ?_
    have hr7 : rJ (bXor 2 2) := i32_rg _
    refine wp_cs (As := [.int (iI v4), .int (iI (bXor 2 2))]) (rest := []) rfl rfl rfl rfl (Nat.le_of_ble_eq_true rfl) (Nat.le_of_ble_eq_true rfl) (hW _ S) (fun r8 H8 q8 => ?_)
    obtain ⟨v8, m8, γ8, t8, rfl, hv8, S, hW⟩ := q8
    show wp _ _ _ _ _ [.int (iI v8)] _ _
    refine wp_g (n := 4) (pc' := 65) (L' := [some (.ref 28), some (.int (iI x1)), some (.int (iI v1)), some (.int (iI 2)), some (.int (iI v4)), some (.int (iI v5)), some (.int (iI v6)), some (.int (iI v8)), none]) (st' := [.int (iI 2), .int (iI 2), .int (iI v4)]) rfl ?_
    refine wp_bXor (a := 2) (b := 2) rfl ?_
    have hr9 : rJ (bXor 2 2) := i32_rg _
    refine wp_cs (As := [.int (iI v4), .int (iI (bXor 2 2))]) (rest := []) rfl rfl rfl rfl (Nat.le_of_ble_eq_true rfl) (Nat.le_of_ble_eq_true rfl) (hW _ S) (fun r10 H10 q10 => ?_)
    obtain ⟨v10, m10, γ10, t10, rfl, hv10, S, hW⟩ := q10
    show wp _ _ _ _ _ [.int (iI v10)] _ _
    refine wp_g (n := 2) (pc' := 72) (L' := [some (.ref 28), some (.int (iI x1)), some (.int (iI v1)), some (.int (iI 2)), some (.int (iI v4)), some (.int (iI v5)), some (.int (iI v6)), some (.int (iI v8)), some (.int (iI v10))]) (st' := [.ref 28]) rfl ?_
    refine wp_getf (v := .ref 29) rfl rfl (S.cell 28 (nc rfl)) (by decide) rfl ?_
    refine wp_g (n := 1) (pc' := 76) (L' := [some (.ref 28), some (.int (iI x1)), some (.int (iI v1)), some (.int (iI 2)), some (.int (iI v4)), some (.int (iI v5)), some (.int (iI v6)), some (.int (iI v8)), some (.int (iI v10))]) (st' := [.int (iI x1), .ref 29]) rfl ?_
    refine wp_cv (As := [.int (iI x1)]) (rest := []) rfl rfl (S.gg 29 (gi rfl)).obj (by decide) rfl rfl rfl (Nat.le_of_ble_eq_true rfl) (Nat.le_of_ble_eq_true rfl) (hW _ S) (fun r11 H11 q11 => ?_)
    obtain ⟨v11, m11, γ11, t11, rfl, hv11, S, hW⟩ := q11
    show wp _ _ _ _ _ [.int (iI v11)] _ _
    refine wp_g (n := 1) (pc' := 80) (L' := [some (.ref 28), some (.int (iI x1)), some (.int (iI v1)), some (.int (iI 2)), some (.int (iI v4)), some (.int (iI v5)), some (.int (iI v6)), some (.int (iI v8)), some (.int (iI v10))]) (st' := [.int (iI 2), .int (iI v11)]) rfl ?_
    refine wp_icmpI (a := v11) (b := 2) rfl rfl hv11.1 hv11.2 (by decide) (by decide) (fun c12 => ?_) (fun c12 => ?_)
    · have dc12 := c12
      have hW := hW.2 dc12
      refine wp_g (n := 1) (pc' := 102) (L' := [some (.ref 28), some (.int (iI x1)), some (.int (iI v1)), some (.int (iI 2)), some (.int (iI v4)), some (.int (iI v5)), some (.int (iI v6)), some (.int (iI v8)), some (.int (iI v10))]) (st' := [.ref 28]) rfl ?_
      refine wp_getf (v := .ref 29) rfl rfl (S.cell 28 (nc rfl)) (by decide) rfl ?_
      refine wp_g (n := 1) (pc' := 106) (L' := [some (.ref 28), some (.int (iI x1)), some (.int (iI v1)), some (.int (iI 2)), some (.int (iI v4)), some (.int (iI v5)), some (.int (iI v6)), some (.int (iI v8)), some (.int (iI v10))]) (st' := [.int (iI x1), .ref 29]) rfl ?_
      refine wp_cv (As := [.int (iI x1)]) (rest := []) rfl rfl (S.gg 29 (gi rfl)).obj (by decide) rfl rfl rfl (Nat.le_of_ble_eq_true rfl) (Nat.le_of_ble_eq_true rfl) (hW _ S) (fun r13 H13 q13 => ?_)
      obtain ⟨v13, m13, γ13, t13, rfl, hv13, S, hW⟩ := q13
      show wp _ _ _ _ _ [.int (iI v13)] _ _
      refine wp_g (n := 1) (pc' := 110) (L' := [some (.ref 28), some (.int (iI x1)), some (.int (iI v1)), some (.int (iI 2)), some (.int (iI v4)), some (.int (iI v5)), some (.int (iI v6)), some (.int (iI v8)), some (.int (iI v10))]) (st' := [.int (iI 3), .int (iI v13)]) rfl ?_
      refine wp_icmpI (a := v13) (b := 3) rfl rfl hv13.1 hv13.2 (by decide) (by decide) (fun c14 => ?_) (fun c14 => ?_)
      · have dc14 := c14
        have hW := hW.2 dc14
        refine wp_g (n := 1) (pc' := 132) (L' := [some (.ref 28), some (.int (iI x1)), some (.int (iI v1)), some (.int (iI 2)), some (.int (iI v4)), some (.int (iI v5)), some (.int (iI v6)), some (.int (iI v8)), some (.int (iI v10))]) (st' := [.ref 28]) rfl ?_
        refine wp_getf (v := .int (iI (m13 28 1))) rfl rfl (S.cell 28 (nc rfl)) (by decide) rfl ?_
        have hr15 : rJ (m13 28 1) := S.rg 28 1 (nl rfl)
        refine wp_g (n := 1) (pc' := 137) (L' := [some (.ref 28), some (.int (iI x1)), some (.int (iI v1)), some (.int (iI 2)), some (.int (iI v4)), some (.int (iI v5)), some (.int (iI v6)), some (.int (iI v8)), some (.int (iI v10))]) (st' := [.int (iI 12), .int (iI (m13 28 1))]) rfl ?_
        refine wp_icmpI (a := (m13 28 1)) (b := 12) rfl rfl hr15.1 hr15.2 (by decide) (by decide) (fun c16 => ?_) (fun c16 => ?_)
        · have dc16 := (Int.not_lt.mpr c16)
          have hW := hW.2 dc16
          refine wp_g (n := 1) (pc' := 243) (L' := [some (.ref 28), some (.int (iI x1)), some (.int (iI v1)), some (.int (iI 2)), some (.int (iI v4)), some (.int (iI v5)), some (.int (iI v6)), some (.int (iI v8)), some (.int (iI v10))]) (st' := [.int (iI 0)]) rfl ?_
          exact wp_iret rfl rfl ⟨_, _, _, _, rfl, (by decide), S, hW⟩
        · have dc16 := (Int.not_le.mp c16)
          have hW := hW.1 dc16
          refine wp_g (n := 1) (pc' := 141) (L' := [some (.ref 28), some (.int (iI x1)), some (.int (iI v1)), some (.int (iI 2)), some (.int (iI v4)), some (.int (iI v5)), some (.int (iI v6)), some (.int (iI v8)), some (.int (iI v10))]) (st' := [.ref 28]) rfl ?_
          refine wp_getf (v := .ref 35) rfl rfl (S.cell 28 (nc rfl)) (by decide) rfl ?_
          refine wp_g (n := 1) (pc' := 145) (L' := [some (.ref 28), some (.int (iI x1)), some (.int (iI v1)), some (.int (iI 2)), some (.int (iI v4)), some (.int (iI v5)), some (.int (iI v6)), some (.int (iI v8)), some (.int (iI v10))]) (st' := [.ref 28, .ref 35]) rfl ?_
          refine wp_getf (v := .int (iI (m13 28 1))) rfl rfl (S.cell 28 (nc rfl)) (by decide) rfl ?_
          refine wp_g (n := 1) (pc' := 149) (L' := [some (.ref 28), some (.int (iI x1)), some (.int (iI v1)), some (.int (iI 2)), some (.int (iI v4)), some (.int (iI v5)), some (.int (iI v6)), some (.int (iI v8)), some (.int (iI v10))]) (st' := [.ref 28, .int (iI (m13 28 1)), .ref 35]) rfl ?_
          refine wp_getf (v := .ref 29) rfl rfl (S.cell 28 (nc rfl)) (by decide) rfl ?_
          refine wp_g (n := 1) (pc' := 153) (L' := [some (.ref 28), some (.int (iI x1)), some (.int (iI v1)), some (.int (iI 2)), some (.int (iI v4)), some (.int (iI v5)), some (.int (iI v6)), some (.int (iI v8)), some (.int (iI v10))]) (st' := [.int (iI x1), .ref 29, .int (iI (m13 28 1)), .ref 35]) rfl ?_
          refine wp_cv (As := [.int (iI x1)]) (rest := [.int (iI (m13 28 1)), .ref 35]) rfl rfl (S.gg 29 (gi rfl)).obj (by decide) rfl rfl rfl (Nat.le_of_ble_eq_true rfl) (Nat.le_of_ble_eq_true rfl) (hW _ S) (fun r17 H17 q17 => ?_)
          obtain ⟨v17, m17, γ17, t17, rfl, hv17, S, hW⟩ := q17
          show wp _ _ _ _ _ [.int (iI v17), .int (iI (m13 28 1)), .ref 35] _ _
          refine wp_g (n := 1) (pc' := 157) (L' := [some (.ref 28), some (.int (iI x1)), some (.int (iI v1)), some (.int (iI 2)), some (.int (iI v4)), some (.int (iI v5)), some (.int (iI v6)), some (.int (iI v8)), some (.int (iI v10))]) (st' := [.int (iI 1), .int (iI v17), .int (iI (m13 28 1)), .ref 35]) rfl ?_
          refine wp_icmpI (a := v17) (b := 1) rfl rfl hv17.1 hv17.2 (by decide) (by decide) (fun c18 => ?_) (fun c18 => ?_)
          · have dc18 := c18
            have hW := hW.2 dc18
            refine wp_g (n := 1) (pc' := 165) (L' := [some (.ref 28), some (.int (iI x1)), some (.int (iI v1)), some (.int (iI 2)), some (.int (iI v4)), some (.int (iI v5)), some (.int (iI v6)), some (.int (iI v8)), some (.int (iI v10))]) (st' := [.int (iI 0), .int (iI (m13 28 1)), .ref 35]) rfl ?_
            obtain ⟨p20, hW⟩ := hW
            refine wp_tasF (n := 12) (F := (m17 35)) (y := 0) rfl (S.cell 35 (nc rfl)) p20.1 p20.2 (by decide) (by decide) (fun H19 hl19 hz19 hf19 => ?_)
            have S : ST H19 (up m17 35 (up (m17 35) (((m13 28 1)).toNat) 0)) γ17 t17 := S.setI 35 (nc rfl) hl19 hz19 hf19 (by decide) (by decide)
            refine wp_g (n := 1) (pc' := 167) (L' := [some (.ref 28), some (.int (iI x1)), some (.int (iI v1)), some (.int (iI 2)), some (.int (iI v4)), some (.int (iI v5)), some (.int (iI v6)), some (.int (iI v8)), some (.int (iI v10))]) (st' := [.ref 28]) rfl ?_
            refine wp_getf (v := .ref 34) rfl rfl (S.cell 28 (nc rfl)) (by decide) rfl ?_
            refine wp_g (n := 2) (pc' := 172) (L' := [some (.ref 28), some (.int (iI x1)), some (.int (iI v1)), some (.int (iI 2)), some (.int (iI v4)), some (.int (iI v5)), some (.int (iI v6)), some (.int (iI v8)), some (.int (iI v10))]) (st' := [.ref 28, .int (iI 4), .ref 34]) rfl ?_
            refine wp_getf (v := .int (iI (m17 28 1))) rfl rfl (S.cell 28 (nc rfl)) (by decide) rfl ?_
            have hr21 : rJ (m17 28 1) := S.rg 28 1 (nl rfl)
            refine wp_mul (a := 4) (b := (m17 28 1)) rfl ?_
            refine wp_g (n := 1) (pc' := 178) (L' := [some (.ref 28), some (.int (iI x1)), some (.int (iI v1)), some (.int (iI 2)), some (.int (iI v4)), some (.int (iI v5)), some (.int (iI v6)), some (.int (iI v8)), some (.int (iI v10))]) (st' := [.int (iI v5), .int (iI (4 * (m17 28 1))), .ref 34]) rfl ?_
            refine wp_cs (As := [.ref 34, .int (iI (4 * (m17 28 1))), .int (iI v5)]) (rest := []) rfl rfl rfl rfl (Nat.le_of_ble_eq_true rfl) (Nat.le_of_ble_eq_true rfl) (hW _ S) (fun r22 H22 q22 => ?_)
            obtain ⟨m22, γ22, t22, rfl, S, hW⟩ := q22
            show wp _ _ _ _ _ [] _ _
            refine wp_g (n := 1) (pc' := 182) (L' := [some (.ref 28), some (.int (iI x1)), some (.int (iI v1)), some (.int (iI 2)), some (.int (iI v4)), some (.int (iI v5)), some (.int (iI v6)), some (.int (iI v8)), some (.int (iI v10))]) (st' := [.ref 28]) rfl ?_
            refine wp_getf (v := .ref 34) rfl rfl (S.cell 28 (nc rfl)) (by decide) rfl ?_
            refine wp_g (n := 2) (pc' := 187) (L' := [some (.ref 28), some (.int (iI x1)), some (.int (iI v1)), some (.int (iI 2)), some (.int (iI v4)), some (.int (iI v5)), some (.int (iI v6)), some (.int (iI v8)), some (.int (iI v10))]) (st' := [.ref 28, .int (iI 4), .ref 34]) rfl ?_
            refine wp_getf (v := .int (iI (m22 28 1))) rfl rfl (S.cell 28 (nc rfl)) (by decide) rfl ?_
            have hr23 : rJ (m22 28 1) := S.rg 28 1 (nl rfl)
            refine wp_mul (a := 4) (b := (m22 28 1)) rfl ?_
            refine wp_g (n := 1) (pc' := 192) (L' := [some (.ref 28), some (.int (iI x1)), some (.int (iI v1)), some (.int (iI 2)), some (.int (iI v4)), some (.int (iI v5)), some (.int (iI v6)), some (.int (iI v8)), some (.int (iI v10))]) (st' := [.int (iI 1), .int (iI (4 * (m22 28 1))), .ref 34]) rfl ?_
            refine wp_add (a := (4 * (m22 28 1))) (b := 1) rfl ?_
            refine wp_g (n := 1) (pc' := 195) (L' := [some (.ref 28), some (.int (iI x1)), some (.int (iI v1)), some (.int (iI 2)), some (.int (iI v4)), some (.int (iI v5)), some (.int (iI v6)), some (.int (iI v8)), some (.int (iI v10))]) (st' := [.int (iI v6), .int (iI ((4 * (m22 28 1)) + 1)), .ref 34]) rfl ?_
            refine wp_cs (As := [.ref 34, .int (iI ((4 * (m22 28 1)) + 1)), .int (iI v6)]) (rest := []) rfl rfl rfl rfl (Nat.le_of_ble_eq_true rfl) (Nat.le_of_ble_eq_true rfl) (hW _ S) (fun r24 H24 q24 => ?_)
            obtain ⟨m24, γ24, t24, rfl, S, hW⟩ := q24
            show wp _ _ _ _ _ [] _ _
            refine wp_g (n := 1) (pc' := 199) (L' := [some (.ref 28), some (.int (iI x1)), some (.int (iI v1)), some (.int (iI 2)), some (.int (iI v4)), some (.int (iI v5)), some (.int (iI v6)), some (.int (iI v8)), some (.int (iI v10))]) (st' := [.ref 28]) rfl ?_
            refine wp_getf (v := .ref 34) rfl rfl (S.cell 28 (nc rfl)) (by decide) rfl ?_
            refine wp_g (n := 2) (pc' := 204) (L' := [some (.ref 28), some (.int (iI x1)), some (.int (iI v1)), some (.int (iI 2)), some (.int (iI v4)), some (.int (iI v5)), some (.int (iI v6)), some (.int (iI v8)), some (.int (iI v10))]) (st' := [.ref 28, .int (iI 4), .ref 34]) rfl ?_
            refine wp_getf (v := .int (iI (m24 28 1))) rfl rfl (S.cell 28 (nc rfl)) (by decide) rfl ?_
            have hr25 : rJ (m24 28 1) := S.rg 28 1 (nl rfl)
            refine wp_mul (a := 4) (b := (m24 28 1)) rfl ?_
            refine wp_g (n := 1) (pc' := 209) (L' := [some (.ref 28), some (.int (iI x1)), some (.int (iI v1)), some (.int (iI 2)), some (.int (iI v4)), some (.int (iI v5)), some (.int (iI v6)), some (.int (iI v8)), some (.int (iI v10))]) (st' := [.int (iI 2), .int (iI (4 * (m24 28 1))), .ref 34]) rfl ?_
            refine wp_add (a := (4 * (m24 28 1))) (b := 2) rfl ?_
            refine wp_g (n := 1) (pc' := 212) (L' := [some (.ref 28), some (.int (iI x1)), some (.int (iI v1)), some (.int (iI 2)), some (.int (iI v4)), some (.int (iI v5)), some (.int (iI v6)), some (.int (iI v8)), some (.int (iI v10))]) (st' := [.int (iI v8), .int (iI ((4 * (m24 28 1)) + 2)), .ref 34]) rfl ?_
            refine wp_cs (As := [.ref 34, .int (iI ((4 * (m24 28 1)) + 2)), .int (iI v8)]) (rest := []) rfl rfl rfl rfl (Nat.le_of_ble_eq_true rfl) (Nat.le_of_ble_eq_true rfl) (hW _ S) (fun r26 H26 q26 => ?_)
            obtain ⟨m26, γ26, t26, rfl, S, hW⟩ := q26
            show wp _ _ _ _ _ [] _ _
            refine wp_g (n := 1) (pc' := 216) (L' := [some (.ref 28), some (.int (iI x1)), some (.int (iI v1)), some (.int (iI 2)), some (.int (iI v4)), some (.int (iI v5)), some (.int (iI v6)), some (.int (iI v8)), some (.int (iI v10))]) (st' := [.ref 28]) rfl ?_
            refine wp_getf (v := .ref 34) rfl rfl (S.cell 28 (nc rfl)) (by decide) rfl ?_
            refine wp_g (n := 2) (pc' := 221) (L' := [some (.ref 28), some (.int (iI x1)), some (.int (iI v1)), some (.int (iI 2)), some (.int (iI v4)), some (.int (iI v5)), some (.int (iI v6)), some (.int (iI v8)), some (.int (iI v10))]) (st' := [.ref 28, .int (iI 4), .ref 34]) rfl ?_
            refine wp_getf (v := .int (iI (m26 28 1))) rfl rfl (S.cell 28 (nc rfl)) (by decide) rfl ?_
            have hr27 : rJ (m26 28 1) := S.rg 28 1 (nl rfl)
            refine wp_mul (a := 4) (b := (m26 28 1)) rfl ?_
            refine wp_g (n := 1) (pc' := 226) (L' := [some (.ref 28), some (.int (iI x1)), some (.int (iI v1)), some (.int (iI 2)), some (.int (iI v4)), some (.int (iI v5)), some (.int (iI v6)), some (.int (iI v8)), some (.int (iI v10))]) (st' := [.int (iI 3), .int (iI (4 * (m26 28 1))), .ref 34]) rfl ?_
            refine wp_add (a := (4 * (m26 28 1))) (b := 3) rfl ?_
            refine wp_g (n := 1) (pc' := 229) (L' := [some (.ref 28), some (.int (iI x1)), some (.int (iI v1)), some (.int (iI 2)), some (.int (iI v4)), some (.int (iI v5)), some (.int (iI v6)), some (.int (iI v8)), some (.int (iI v10))]) (st' := [.int (iI v10), .int (iI ((4 * (m26 28 1)) + 3)), .ref 34]) rfl ?_
            refine wp_cs (As := [.ref 34, .int (iI ((4 * (m26 28 1)) + 3)), .int (iI v10)]) (rest := []) rfl rfl rfl rfl (Nat.le_of_ble_eq_true rfl) (Nat.le_of_ble_eq_true rfl) (hW _ S) (fun r28 H28 q28 => ?_)
            obtain ⟨m28, γ28, t28, rfl, S, hW⟩ := q28
            show wp _ _ _ _ _ [] _ _
            refine wp_g (n := 2) (pc' := 234) (L' := [some (.ref 28), some (.int (iI x1)), some (.int (iI v1)), some (.int (iI 2)), some (.int (iI v4)), some (.int (iI v5)), some (.int (iI v6)), some (.int (iI v8)), some (.int (iI v10))]) (st' := [.ref 28, .ref 28]) rfl ?_
            refine wp_getf (v := .int (iI (m28 28 1))) rfl rfl (S.cell 28 (nc rfl)) (by decide) rfl ?_
            have hr29 : rJ (m28 28 1) := S.rg 28 1 (nl rfl)
            refine wp_g (n := 1) (pc' := 238) (L' := [some (.ref 28), some (.int (iI x1)), some (.int (iI v1)), some (.int (iI 2)), some (.int (iI v4)), some (.int (iI v5)), some (.int (iI v6)), some (.int (iI v8)), some (.int (iI v10))]) (st' := [.int (iI 1), .int (iI (m28 28 1)), .ref 28]) rfl ?_
            refine wp_add (a := (m28 28 1)) (b := 1) rfl ?_
            obtain ⟨p31, hW⟩ := hW
            refine wp_putI rfl rfl (S.cell 28 (nc rfl)) (Nat.le_of_ble_eq_true rfl) rfl (fun H30 hl30 hz30 hf30 => ?_)
            have S : ST H30 (up m28 28 (up (m28 28) 1 ((m28 28 1) + 1))) γ28 t28 := S.setI 28 (nc rfl) hl30 hz30 hf30 p31.1 p31.2
            refine wp_g (n := 1) (pc' := 243) (L' := [some (.ref 28), some (.int (iI x1)), some (.int (iI v1)), some (.int (iI 2)), some (.int (iI v4)), some (.int (iI v5)), some (.int (iI v6)), some (.int (iI v8)), some (.int (iI v10))]) (st' := [.int (iI 0)]) rfl ?_
            exact wp_iret rfl rfl ⟨_, _, _, _, rfl, (by decide), S, hW⟩
          · have dc18 := (Classical.not_not.mp c18)
            have hW := hW.1 dc18
            refine wp_g (n := 2) (pc' := 165) (L' := [some (.ref 28), some (.int (iI x1)), some (.int (iI v1)), some (.int (iI 2)), some (.int (iI v4)), some (.int (iI v5)), some (.int (iI v6)), some (.int (iI v8)), some (.int (iI v10))]) (st' := [.int (iI 1), .int (iI (m13 28 1)), .ref 35]) rfl ?_
            obtain ⟨p33, hW⟩ := hW
            refine wp_tasF (n := 12) (F := (m17 35)) (y := 1) rfl (S.cell 35 (nc rfl)) p33.1 p33.2 (by decide) (by decide) (fun H32 hl32 hz32 hf32 => ?_)
            have S : ST H32 (up m17 35 (up (m17 35) (((m13 28 1)).toNat) 1)) γ17 t17 := S.setI 35 (nc rfl) hl32 hz32 hf32 (by decide) (by decide)
            refine wp_g (n := 1) (pc' := 167) (L' := [some (.ref 28), some (.int (iI x1)), some (.int (iI v1)), some (.int (iI 2)), some (.int (iI v4)), some (.int (iI v5)), some (.int (iI v6)), some (.int (iI v8)), some (.int (iI v10))]) (st' := [.ref 28]) rfl ?_
            refine wp_getf (v := .ref 34) rfl rfl (S.cell 28 (nc rfl)) (by decide) rfl ?_
            refine wp_g (n := 2) (pc' := 172) (L' := [some (.ref 28), some (.int (iI x1)), some (.int (iI v1)), some (.int (iI 2)), some (.int (iI v4)), some (.int (iI v5)), some (.int (iI v6)), some (.int (iI v8)), some (.int (iI v10))]) (st' := [.ref 28, .int (iI 4), .ref 34]) rfl ?_
            refine wp_getf (v := .int (iI (m17 28 1))) rfl rfl (S.cell 28 (nc rfl)) (by decide) rfl ?_
            have hr34 : rJ (m17 28 1) := S.rg 28 1 (nl rfl)
            refine wp_mul (a := 4) (b := (m17 28 1)) rfl ?_
            refine wp_g (n := 1) (pc' := 178) (L' := [some (.ref 28), some (.int (iI x1)), some (.int (iI v1)), some (.int (iI 2)), some (.int (iI v4)), some (.int (iI v5)), some (.int (iI v6)), some (.int (iI v8)), some (.int (iI v10))]) (st' := [.int (iI v5), .int (iI (4 * (m17 28 1))), .ref 34]) rfl ?_
            refine wp_cs (As := [.ref 34, .int (iI (4 * (m17 28 1))), .int (iI v5)]) (rest := []) rfl rfl rfl rfl (Nat.le_of_ble_eq_true rfl) (Nat.le_of_ble_eq_true rfl) (hW _ S) (fun r35 H35 q35 => ?_)
            obtain ⟨m35, γ35, t35, rfl, S, hW⟩ := q35
            show wp _ _ _ _ _ [] _ _
            refine wp_g (n := 1) (pc' := 182) (L' := [some (.ref 28), some (.int (iI x1)), some (.int (iI v1)), some (.int (iI 2)), some (.int (iI v4)), some (.int (iI v5)), some (.int (iI v6)), some (.int (iI v8)), some (.int (iI v10))]) (st' := [.ref 28]) rfl ?_
            refine wp_getf (v := .ref 34) rfl rfl (S.cell 28 (nc rfl)) (by decide) rfl ?_
            refine wp_g (n := 2) (pc' := 187) (L' := [some (.ref 28), some (.int (iI x1)), some (.int (iI v1)), some (.int (iI 2)), some (.int (iI v4)), some (.int (iI v5)), some (.int (iI v6)), some (.int (iI v8)), some (.int (iI v10))]) (st' := [.ref 28, .int (iI 4), .ref 34]) rfl ?_
            refine wp_getf (v := .int (iI (m35 28 1))) rfl rfl (S.cell 28 (nc rfl)) (by decide) rfl ?_
            have hr36 : rJ (m35 28 1) := S.rg 28 1 (nl rfl)
            refine wp_mul (a := 4) (b := (m35 28 1)) rfl ?_
            refine wp_g (n := 1) (pc' := 192) (L' := [some (.ref 28), some (.int (iI x1)), some (.int (iI v1)), some (.int (iI 2)), some (.int (iI v4)), some (.int (iI v5)), some (.int (iI v6)), some (.int (iI v8)), some (.int (iI v10))]) (st' := [.int (iI 1), .int (iI (4 * (m35 28 1))), .ref 34]) rfl ?_
            refine wp_add (a := (4 * (m35 28 1))) (b := 1) rfl ?_
            refine wp_g (n := 1) (pc' := 195) (L' := [some (.ref 28), some (.int (iI x1)), some (.int (iI v1)), some (.int (iI 2)), some (.int (iI v4)), some (.int (iI v5)), some (.int (iI v6)), some (.int (iI v8)), some (.int (iI v10))]) (st' := [.int (iI v6), .int (iI ((4 * (m35 28 1)) + 1)), .ref 34]) rfl ?_
            refine wp_cs (As := [.ref 34, .int (iI ((4 * (m35 28 1)) + 1)), .int (iI v6)]) (rest := []) rfl rfl rfl rfl (Nat.le_of_ble_eq_true rfl) (Nat.le_of_ble_eq_true rfl) (hW _ S) (fun r37 H37 q37 => ?_)
            obtain ⟨m37, γ37, t37, rfl, S, hW⟩ := q37
            show wp _ _ _ _ _ [] _ _
            refine wp_g (n := 1) (pc' := 199) (L' := [some (.ref 28), some (.int (iI x1)), some (.int (iI v1)), some (.int (iI 2)), some (.int (iI v4)), some (.int (iI v5)), some (.int (iI v6)), some (.int (iI v8)), some (.int (iI v10))]) (st' := [.ref 28]) rfl ?_
            refine wp_getf (v := .ref 34) rfl rfl (S.cell 28 (nc rfl)) (by decide) rfl ?_
            refine wp_g (n := 2) (pc' := 204) (L' := [some (.ref 28), some (.int (iI x1)), some (.int (iI v1)), some (.int (iI 2)), some (.int (iI v4)), some (.int (iI v5)), some (.int (iI v6)), some (.int (iI v8)), some (.int (iI v10))]) (st' := [.ref 28, .int (iI 4), .ref 34]) rfl ?_
            refine wp_getf (v := .int (iI (m37 28 1))) rfl rfl (S.cell 28 (nc rfl)) (by decide) rfl ?_
            have hr38 : rJ (m37 28 1) := S.rg 28 1 (nl rfl)
            refine wp_mul (a := 4) (b := (m37 28 1)) rfl ?_
            refine wp_g (n := 1) (pc' := 209) (L' := [some (.ref 28), some (.int (iI x1)), some (.int (iI v1)), some (.int (iI 2)), some (.int (iI v4)), some (.int (iI v5)), some (.int (iI v6)), some (.int (iI v8)), some (.int (iI v10))]) (st' := [.int (iI 2), .int (iI (4 * (m37 28 1))), .ref 34]) rfl ?_
            refine wp_add (a := (4 * (m37 28 1))) (b := 2) rfl ?_
            refine wp_g (n := 1) (pc' := 212) (L' := [some (.ref 28), some (.int (iI x1)), some (.int (iI v1)), some (.int (iI 2)), some (.int (iI v4)), some (.int (iI v5)), some (.int (iI v6)), some (.int (iI v8)), some (.int (iI v10))]) (st' := [.int (iI v8), .int (iI ((4 * (m37 28 1)) + 2)), .ref 34]) rfl ?_
            refine wp_cs (As := [.ref 34, .int (iI ((4 * (m37 28 1)) + 2)), .int (iI v8)]) (rest := []) rfl rfl rfl rfl (Nat.le_of_ble_eq_true rfl) (Nat.le_of_ble_eq_true rfl) (hW _ S) (fun r39 H39 q39 => ?_)
            obtain ⟨m39, γ39, t39, rfl, S, hW⟩ := q39
            show wp _ _ _ _ _ [] _ _
            refine wp_g (n := 1) (pc' := 216) (L' := [some (.ref 28), some (.int (iI x1)), some (.int (iI v1)), some (.int (iI 2)), some (.int (iI v4)), some (.int (iI v5)), some (.int (iI v6)), some (.int (iI v8)), some (.int (iI v10))]) (st' := [.ref 28]) rfl ?_
            refine wp_getf (v := .ref 34) rfl rfl (S.cell 28 (nc rfl)) (by decide) rfl ?_
            refine wp_g (n := 2) (pc' := 221) (L' := [some (.ref 28), some (.int (iI x1)), some (.int (iI v1)), some (.int (iI 2)), some (.int (iI v4)), some (.int (iI v5)), some (.int (iI v6)), some (.int (iI v8)), some (.int (iI v10))]) (st' := [.ref 28, .int (iI 4), .ref 34]) rfl ?_
            refine wp_getf (v := .int (iI (m39 28 1))) rfl rfl (S.cell 28 (nc rfl)) (by decide) rfl ?_
            have hr40 : rJ (m39 28 1) := S.rg 28 1 (nl rfl)
            refine wp_mul (a := 4) (b := (m39 28 1)) rfl ?_
            refine wp_g (n := 1) (pc' := 226) (L' := [some (.ref 28), some (.int (iI x1)), some (.int (iI v1)), some (.int (iI 2)), some (.int (iI v4)), some (.int (iI v5)), some (.int (iI v6)), some (.int (iI v8)), some (.int (iI v10))]) (st' := [.int (iI 3), .int (iI (4 * (m39 28 1))), .ref 34]) rfl ?_
            refine wp_add (a := (4 * (m39 28 1))) (b := 3) rfl ?_
            refine wp_g (n := 1) (pc' := 229) (L' := [some (.ref 28), some (.int (iI x1)), some (.int (iI v1)), some (.int (iI 2)), some (.int (iI v4)), some (.int (iI v5)), some (.int (iI v6)), some (.int (iI v8)), some (.int (iI v10))]) (st' := [.int (iI v10), .int (iI ((4 * (m39 28 1)) + 3)), .ref 34]) rfl ?_
            refine wp_cs (As := [.ref 34, .int (iI ((4 * (m39 28 1)) + 3)), .int (iI v10)]) (rest := []) rfl rfl rfl rfl (Nat.le_of_ble_eq_true rfl) (Nat.le_of_ble_eq_true rfl) (hW _ S) (fun r41 H41 q41 => ?_)
            obtain ⟨m41, γ41, t41, rfl, S, hW⟩ := q41
            show wp _ _ _ _ _ [] _ _
            refine wp_g (n := 2) (pc' := 234) (L' := [some (.ref 28), some (.int (iI x1)), some (.int (iI v1)), some (.int (iI 2)), some (.int (iI v4)), some (.int (iI v5)), some (.int (iI v6)), some (.int (iI v8)), some (.int (iI v10))]) (st' := [.ref 28, .ref 28]) rfl ?_
            refine wp_getf (v := .int (iI (m41 28 1))) rfl rfl (S.cell 28 (nc rfl)) (by decide) rfl ?_
            have hr42 : rJ (m41 28 1) := S.rg 28 1 (nl rfl)
            refine wp_g (n := 1) (pc' := 238) (L' := [some (.ref 28), some (.int (iI x1)), some (.int (iI v1)), some (.int (iI 2)), some (.int (iI v4)), some (.int (iI v5)), some (.int (iI v6)), some (.int (iI v8)), some (.int (iI v10))]) (st' := [.int (iI 1), .int (iI (m41 28 1)), .ref 28]) rfl ?_
            refine wp_add (a := (m41 28 1)) (b := 1) rfl ?_
            obtain ⟨p44, hW⟩ := hW
            refine wp_putI rfl rfl (S.cell 28 (nc rfl)) (Nat.le_of_ble_eq_true rfl) rfl (fun H43 hl43 hz43 hf43 => ?_)
            have S : ST H43 (up m41 28 (up (m41 28) 1 ((m41 28 1) + 1))) γ41 t41 := S.setI 28 (nc rfl) hl43 hz43 hf43 p44.1 p44.2
            refine wp_g (n := 1) (pc' := 243) (L' := [some (.ref 28), some (.int (iI x1)), some (.int (iI v1)), some (.int (iI 2)), some (.int (iI v4)), some (.int (iI v5)), some (.int (iI v6)), some (.int (iI v8)), some (.int (iI v10))]) (st' := [.int (iI 0)]) rfl ?_
            exact wp_iret rfl rfl ⟨_, _, _, _, rfl, (by decide), S, hW⟩
      · have dc14 := (Classical.not_not.mp c14)
        have hW := hW.1 dc14
        refine wp_g (n := 3) (pc' := 118) (L' := [some (.ref 28), some (.int (iI x1)), some (.int (iI v1)), some (.int (iI 2)), some (.int (iI v4)), some (.int (iI v5)), some (.int (iI v6)), some (.int (iI v8)), some (.int (iI v10))]) (st' := [.int (iI v10), .int (iI v5), .ref 28]) rfl ?_
        refine wp_cv (As := [.int (iI v5), .int (iI v10)]) (rest := []) rfl rfl (S.cell 28 (nc rfl)) (by decide) rfl rfl rfl (Nat.le_of_ble_eq_true rfl) (Nat.le_of_ble_eq_true rfl) (hW _ S) (fun r45 H45 q45 => ?_)
        obtain ⟨v45, m45, γ45, t45, rfl, hv45, S, hW⟩ := q45
        show wp _ _ _ _ _ [.int (iI v45)] _ _
        refine wp_g (n := 3) (pc' := 126) (L' := [some (.ref 28), some (.int (iI x1)), some (.int (iI v1)), some (.int (iI 2)), some (.int (iI v4)), some (.int (iI v5)), some (.int (iI v6)), some (.int (iI v8)), some (.int (iI v10))]) (st' := [.int (iI v8), .int (iI v6), .ref 28, .int (iI v45)]) rfl ?_
        refine wp_cv (As := [.int (iI v6), .int (iI v8)]) (rest := [.int (iI v45)]) rfl rfl (S.cell 28 (nc rfl)) (by decide) rfl rfl rfl (Nat.le_of_ble_eq_true rfl) (Nat.le_of_ble_eq_true rfl) (hW _ S) (fun r46 H46 q46 => ?_)
        obtain ⟨v46, m46, γ46, t46, rfl, hv46, S, hW⟩ := q46
        show wp _ _ _ _ _ [.int (iI v46), .int (iI v45)] _ _
        refine wp_add (a := v45) (b := v46) rfl ?_
        obtain ⟨p47, hW⟩ := hW
        exact wp_iret rfl rfl ⟨_, _, _, _, rfl, p47, S, hW⟩
    · have dc12 := (Classical.not_not.mp c12)
      have hW := hW.1 dc12
      refine wp_g (n := 3) (pc' := 88) (L' := [some (.ref 28), some (.int (iI x1)), some (.int (iI v1)), some (.int (iI 2)), some (.int (iI v4)), some (.int (iI v5)), some (.int (iI v6)), some (.int (iI v8)), some (.int (iI v10))]) (st' := [.int (iI v6), .int (iI v5), .ref 28]) rfl ?_
      refine wp_cv (As := [.int (iI v5), .int (iI v6)]) (rest := []) rfl rfl (S.cell 28 (nc rfl)) (by decide) rfl rfl rfl (Nat.le_of_ble_eq_true rfl) (Nat.le_of_ble_eq_true rfl) (hW _ S) (fun r48 H48 q48 => ?_)
      obtain ⟨v48, m48, γ48, t48, rfl, hv48, S, hW⟩ := q48
      show wp _ _ _ _ _ [.int (iI v48)] _ _
      refine wp_g (n := 3) (pc' := 96) (L' := [some (.ref 28), some (.int (iI x1)), some (.int (iI v1)), some (.int (iI 2)), some (.int (iI v4)), some (.int (iI v5)), some (.int (iI v6)), some (.int (iI v8)), some (.int (iI v10))]) (st' := [.int (iI v10), .int (iI v8), .ref 28, .int (iI v48)]) rfl ?_
      refine wp_cv (As := [.int (iI v8), .int (iI v10)]) (rest := [.int (iI v48)]) rfl rfl (S.cell 28 (nc rfl)) (by decide) rfl rfl rfl (Nat.le_of_ble_eq_true rfl) (Nat.le_of_ble_eq_true rfl) (hW _ S) (fun r49 H49 q49 => ?_)
      obtain ⟨v49, m49, γ49, t49, rfl, hv49, S, hW⟩ := q49
      show wp _ _ _ _ _ [.int (iI v49), .int (iI v48)] _ _
      refine wp_add (a := v48) (b := v49) rfl ?_
      obtain ⟨p50, hW⟩ := hW
      exact wp_iret rfl rfl ⟨_, _, _, _, rfl, p50, S, hW⟩
  · have dc3 := (Classical.not_not.mp c3)
    have hW := hW.1 dc3
    refine wp_g (n := 4) (pc' := 27) (L' := [some (.ref 28), some (.int (iI x1)), some (.int (iI v1)), some (.int (iI 1)), none, none, none, none, none]) (st' := [.ref 28]) rfl ?_
    refine wp_getf (v := .ref 29) rfl rfl (S.cell 28 (nc rfl)) (by decide) rfl ?_
    refine wp_g (n := 2) (pc' := 32) (L' := [some (.ref 28), some (.int (iI x1)), some (.int (iI v1)), some (.int (iI 1)), none, none, none, none, none]) (st' := [.int (iI 1), .int (iI v1), .ref 29]) rfl ?_
    refine wp_cv (As := [.int (iI v1), .int (iI 1)]) (rest := []) rfl rfl (S.gg 29 (gi rfl)).obj (by decide) rfl rfl rfl (Nat.le_of_ble_eq_true rfl) (Nat.le_of_ble_eq_true rfl) (hW _ S) (fun r51 H51 q51 => ?_)
    obtain ⟨v51, m51, γ51, t51, rfl, hv51, S, hW⟩ := q51
    show wp _ _ _ _ _ [.int (iI v51)] _ _
    refine wp_g (n := 3) (pc' := 39) (L' := [some (.ref 28), some (.int (iI x1)), some (.int (iI v1)), some (.int (iI 1)), some (.int (iI v51)), none, none, none, none]) (st' := [.int (iI 1), .int (iI v1)]) rfl ?_
    refine wp_cs (As := [.int (iI v1), .int (iI 1)]) (rest := []) rfl rfl rfl rfl (Nat.le_of_ble_eq_true rfl) (Nat.le_of_ble_eq_true rfl) (hW _ S) (fun r52 H52 q52 => ?_)
    obtain ⟨v52, m52, γ52, t52, rfl, hv52, S, hW⟩ := q52
    show wp _ _ _ _ _ [.int (iI v52)] _ _
    refine wp_g (n := 3) (pc' := 46) (L' := [some (.ref 28), some (.int (iI x1)), some (.int (iI v1)), some (.int (iI 1)), some (.int (iI v51)), some (.int (iI v52)), none, none, none]) (st' := [.int (iI 1), .int (iI v1)]) rfl ?_
    refine wp_cs (As := [.int (iI v1), .int (iI 1)]) (rest := []) rfl rfl rfl rfl (Nat.le_of_ble_eq_true rfl) (Nat.le_of_ble_eq_true rfl) (hW _ S) (fun r53 H53 q53 => ?_)
    obtain ⟨v53, m53, γ53, t53, rfl, hv53, S, hW⟩ := q53
    show wp _ _ _ _ _ [.int (iI v53)] _ _
    refine wp_g (n := 4) (pc' := 55) (L' := [some (.ref 28), some (.int (iI x1)), some (.int (iI v1)), some (.int (iI 1)), some (.int (iI v51)), some (.int (iI v52)), some (.int (iI v53)), none, none]) (st' := [.int (iI 2), .int (iI 1), .int (iI v51)]) rfl ?_
    refine wp_bXor (a := 1) (b := 2) rfl ?_
    have hr54 : rJ (bXor 1 2) := i32_rg _
    refine wp_cs (As := [.int (iI v51), .int (iI (bXor 1 2))]) (rest := []) rfl rfl rfl rfl (Nat.le_of_ble_eq_true rfl) (Nat.le_of_ble_eq_true rfl) (hW _ S) (fun r55 H55 q55 => ?_)
    obtain ⟨v55, m55, γ55, t55, rfl, hv55, S, hW⟩ := q55
    show wp _ _ _ _ _ [.int (iI v55)] _ _
    refine wp_g (n := 4) (pc' := 65) (L' := [some (.ref 28), some (.int (iI x1)), some (.int (iI v1)), some (.int (iI 1)), some (.int (iI v51)), some (.int (iI v52)), some (.int (iI v53)), some (.int (iI v55)), none]) (st' := [.int (iI 2), .int (iI 1), .int (iI v51)]) rfl ?_
    refine wp_bXor (a := 1) (b := 2) rfl ?_
    have hr56 : rJ (bXor 1 2) := i32_rg _
    refine wp_cs (As := [.int (iI v51), .int (iI (bXor 1 2))]) (rest := []) rfl rfl rfl rfl (Nat.le_of_ble_eq_true rfl) (Nat.le_of_ble_eq_true rfl) (hW _ S) (fun r57 H57 q57 => ?_)
    obtain ⟨v57, m57, γ57, t57, rfl, hv57, S, hW⟩ := q57
    show wp _ _ _ _ _ [.int (iI v57)] _ _
    refine wp_g (n := 2) (pc' := 72) (L' := [some (.ref 28), some (.int (iI x1)), some (.int (iI v1)), some (.int (iI 1)), some (.int (iI v51)), some (.int (iI v52)), some (.int (iI v53)), some (.int (iI v55)), some (.int (iI v57))]) (st' := [.ref 28]) rfl ?_
    refine wp_getf (v := .ref 29) rfl rfl (S.cell 28 (nc rfl)) (by decide) rfl ?_
    refine wp_g (n := 1) (pc' := 76) (L' := [some (.ref 28), some (.int (iI x1)), some (.int (iI v1)), some (.int (iI 1)), some (.int (iI v51)), some (.int (iI v52)), some (.int (iI v53)), some (.int (iI v55)), some (.int (iI v57))]) (st' := [.int (iI x1), .ref 29]) rfl ?_
    refine wp_cv (As := [.int (iI x1)]) (rest := []) rfl rfl (S.gg 29 (gi rfl)).obj (by decide) rfl rfl rfl (Nat.le_of_ble_eq_true rfl) (Nat.le_of_ble_eq_true rfl) (hW _ S) (fun r58 H58 q58 => ?_)
    obtain ⟨v58, m58, γ58, t58, rfl, hv58, S, hW⟩ := q58
    show wp _ _ _ _ _ [.int (iI v58)] _ _
    refine wp_g (n := 1) (pc' := 80) (L' := [some (.ref 28), some (.int (iI x1)), some (.int (iI v1)), some (.int (iI 1)), some (.int (iI v51)), some (.int (iI v52)), some (.int (iI v53)), some (.int (iI v55)), some (.int (iI v57))]) (st' := [.int (iI 2), .int (iI v58)]) rfl ?_
    refine wp_icmpI (a := v58) (b := 2) rfl rfl hv58.1 hv58.2 (by decide) (by decide) (fun c59 => ?_) (fun c59 => ?_)
    · have dc59 := c59
      have hW := hW.2 dc59
      refine wp_g (n := 1) (pc' := 102) (L' := [some (.ref 28), some (.int (iI x1)), some (.int (iI v1)), some (.int (iI 1)), some (.int (iI v51)), some (.int (iI v52)), some (.int (iI v53)), some (.int (iI v55)), some (.int (iI v57))]) (st' := [.ref 28]) rfl ?_
      refine wp_getf (v := .ref 29) rfl rfl (S.cell 28 (nc rfl)) (by decide) rfl ?_
      refine wp_g (n := 1) (pc' := 106) (L' := [some (.ref 28), some (.int (iI x1)), some (.int (iI v1)), some (.int (iI 1)), some (.int (iI v51)), some (.int (iI v52)), some (.int (iI v53)), some (.int (iI v55)), some (.int (iI v57))]) (st' := [.int (iI x1), .ref 29]) rfl ?_
      refine wp_cv (As := [.int (iI x1)]) (rest := []) rfl rfl (S.gg 29 (gi rfl)).obj (by decide) rfl rfl rfl (Nat.le_of_ble_eq_true rfl) (Nat.le_of_ble_eq_true rfl) (hW _ S) (fun r60 H60 q60 => ?_)
      obtain ⟨v60, m60, γ60, t60, rfl, hv60, S, hW⟩ := q60
      show wp _ _ _ _ _ [.int (iI v60)] _ _
      refine wp_g (n := 1) (pc' := 110) (L' := [some (.ref 28), some (.int (iI x1)), some (.int (iI v1)), some (.int (iI 1)), some (.int (iI v51)), some (.int (iI v52)), some (.int (iI v53)), some (.int (iI v55)), some (.int (iI v57))]) (st' := [.int (iI 3), .int (iI v60)]) rfl ?_
      refine wp_icmpI (a := v60) (b := 3) rfl rfl hv60.1 hv60.2 (by decide) (by decide) (fun c61 => ?_) (fun c61 => ?_)
      · have dc61 := c61
        have hW := hW.2 dc61
        refine wp_g (n := 1) (pc' := 132) (L' := [some (.ref 28), some (.int (iI x1)), some (.int (iI v1)), some (.int (iI 1)), some (.int (iI v51)), some (.int (iI v52)), some (.int (iI v53)), some (.int (iI v55)), some (.int (iI v57))]) (st' := [.ref 28]) rfl ?_
        refine wp_getf (v := .int (iI (m60 28 1))) rfl rfl (S.cell 28 (nc rfl)) (by decide) rfl ?_
        have hr62 : rJ (m60 28 1) := S.rg 28 1 (nl rfl)
        refine wp_g (n := 1) (pc' := 137) (L' := [some (.ref 28), some (.int (iI x1)), some (.int (iI v1)), some (.int (iI 1)), some (.int (iI v51)), some (.int (iI v52)), some (.int (iI v53)), some (.int (iI v55)), some (.int (iI v57))]) (st' := [.int (iI 12), .int (iI (m60 28 1))]) rfl ?_
        refine wp_icmpI (a := (m60 28 1)) (b := 12) rfl rfl hr62.1 hr62.2 (by decide) (by decide) (fun c63 => ?_) (fun c63 => ?_)
        · have dc63 := (Int.not_lt.mpr c63)
          have hW := hW.2 dc63
          refine wp_g (n := 1) (pc' := 243) (L' := [some (.ref 28), some (.int (iI x1)), some (.int (iI v1)), some (.int (iI 1)), some (.int (iI v51)), some (.int (iI v52)), some (.int (iI v53)), some (.int (iI v55)), some (.int (iI v57))]) (st' := [.int (iI 0)]) rfl ?_
          exact wp_iret rfl rfl ⟨_, _, _, _, rfl, (by decide), S, hW⟩
        · have dc63 := (Int.not_le.mp c63)
          have hW := hW.1 dc63
          refine wp_g (n := 1) (pc' := 141) (L' := [some (.ref 28), some (.int (iI x1)), some (.int (iI v1)), some (.int (iI 1)), some (.int (iI v51)), some (.int (iI v52)), some (.int (iI v53)), some (.int (iI v55)), some (.int (iI v57))]) (st' := [.ref 28]) rfl ?_
          refine wp_getf (v := .ref 35) rfl rfl (S.cell 28 (nc rfl)) (by decide) rfl ?_
          refine wp_g (n := 1) (pc' := 145) (L' := [some (.ref 28), some (.int (iI x1)), some (.int (iI v1)), some (.int (iI 1)), some (.int (iI v51)), some (.int (iI v52)), some (.int (iI v53)), some (.int (iI v55)), some (.int (iI v57))]) (st' := [.ref 28, .ref 35]) rfl ?_
          refine wp_getf (v := .int (iI (m60 28 1))) rfl rfl (S.cell 28 (nc rfl)) (by decide) rfl ?_
          refine wp_g (n := 1) (pc' := 149) (L' := [some (.ref 28), some (.int (iI x1)), some (.int (iI v1)), some (.int (iI 1)), some (.int (iI v51)), some (.int (iI v52)), some (.int (iI v53)), some (.int (iI v55)), some (.int (iI v57))]) (st' := [.ref 28, .int (iI (m60 28 1)), .ref 35]) rfl ?_
          refine wp_getf (v := .ref 29) rfl rfl (S.cell 28 (nc rfl)) (by decide) rfl ?_
          refine wp_g (n := 1) (pc' := 153) (L' := [some (.ref 28), some (.int (iI x1)), some (.int (iI v1)), some (.int (iI 1)), some (.int (iI v51)), some (.int (iI v52)), some (.int (iI v53)), some (.int (iI v55)), some (.int (iI v57))]) (st' := [.int (iI x1), .ref 29, .int (iI (m60 28 1)), .ref 35]) rfl ?_
          refine wp_cv (As := [.int (iI x1)]) (rest := [.int (iI (m60 28 1)), .ref 35]) rfl rfl (S.gg 29 (gi rfl)).obj (by decide) rfl rfl rfl (Nat.le_of_ble_eq_true rfl) (Nat.le_of_ble_eq_true rfl) (hW _ S) (fun r64 H64 q64 => ?_)
          obtain ⟨v64, m64, γ64, t64, rfl, hv64, S, hW⟩ := q64
          show wp _ _ _ _ _ [.int (iI v64), .int (iI (m60 28 1)), .ref 35] _ _
          refine wp_g (n := 1) (pc' := 157) (L' := [some (.ref 28), some (.int (iI x1)), some (.int (iI v1)), some (.int (iI 1)), some (.int (iI v51)), some (.int (iI v52)), some (.int (iI v53)), some (.int (iI v55)), some (.int (iI v57))]) (st' := [.int (iI 1), .int (iI v64), .int (iI (m60 28 1)), .ref 35]) rfl ?_
          refine wp_icmpI (a := v64) (b := 1) rfl rfl hv64.1 hv64.2 (by decide) (by decide) (fun c65 => ?_) (fun c65 => ?_)
          · have dc65 := c65
            have hW := hW.2 dc65
            refine wp_g (n := 1) (pc' := 165) (L' := [some (.ref 28), some (.int (iI x1)), some (.int (iI v1)), some (.int (iI 1)), some (.int (iI v51)), some (.int (iI v52)), some (.int (iI v53)), some (.int (iI v55)), some (.int (iI v57))]) (st' := [.int (iI 0), .int (iI (m60 28 1)), .ref 35]) rfl ?_
            obtain ⟨p67, hW⟩ := hW
            refine wp_tasF (n := 12) (F := (m64 35)) (y := 0) rfl (S.cell 35 (nc rfl)) p67.1 p67.2 (by decide) (by decide) (fun H66 hl66 hz66 hf66 => ?_)
            have S : ST H66 (up m64 35 (up (m64 35) (((m60 28 1)).toNat) 0)) γ64 t64 := S.setI 35 (nc rfl) hl66 hz66 hf66 (by decide) (by decide)
            refine wp_g (n := 1) (pc' := 167) (L' := [some (.ref 28), some (.int (iI x1)), some (.int (iI v1)), some (.int (iI 1)), some (.int (iI v51)), some (.int (iI v52)), some (.int (iI v53)), some (.int (iI v55)), some (.int (iI v57))]) (st' := [.ref 28]) rfl ?_
            refine wp_getf (v := .ref 34) rfl rfl (S.cell 28 (nc rfl)) (by decide) rfl ?_
            refine wp_g (n := 2) (pc' := 172) (L' := [some (.ref 28), some (.int (iI x1)), some (.int (iI v1)), some (.int (iI 1)), some (.int (iI v51)), some (.int (iI v52)), some (.int (iI v53)), some (.int (iI v55)), some (.int (iI v57))]) (st' := [.ref 28, .int (iI 4), .ref 34]) rfl ?_
            refine wp_getf (v := .int (iI (m64 28 1))) rfl rfl (S.cell 28 (nc rfl)) (by decide) rfl ?_
            have hr68 : rJ (m64 28 1) := S.rg 28 1 (nl rfl)
            refine wp_mul (a := 4) (b := (m64 28 1)) rfl ?_
            refine wp_g (n := 1) (pc' := 178) (L' := [some (.ref 28), some (.int (iI x1)), some (.int (iI v1)), some (.int (iI 1)), some (.int (iI v51)), some (.int (iI v52)), some (.int (iI v53)), some (.int (iI v55)), some (.int (iI v57))]) (st' := [.int (iI v52), .int (iI (4 * (m64 28 1))), .ref 34]) rfl ?_
            refine wp_cs (As := [.ref 34, .int (iI (4 * (m64 28 1))), .int (iI v52)]) (rest := []) rfl rfl rfl rfl (Nat.le_of_ble_eq_true rfl) (Nat.le_of_ble_eq_true rfl) (hW _ S) (fun r69 H69 q69 => ?_)
            obtain ⟨m69, γ69, t69, rfl, S, hW⟩ := q69
            show wp _ _ _ _ _ [] _ _
            refine wp_g (n := 1) (pc' := 182) (L' := [some (.ref 28), some (.int (iI x1)), some (.int (iI v1)), some (.int (iI 1)), some (.int (iI v51)), some (.int (iI v52)), some (.int (iI v53)), some (.int (iI v55)), some (.int (iI v57))]) (st' := [.ref 28]) rfl ?_
            refine wp_getf (v := .ref 34) rfl rfl (S.cell 28 (nc rfl)) (by decide) rfl ?_
            refine wp_g (n := 2) (pc' := 187) (L' := [some (.ref 28), some (.int (iI x1)), some (.int (iI v1)), some (.int (iI 1)), some (.int (iI v51)), some (.int (iI v52)), some (.int (iI v53)), some (.int (iI v55)), some (.int (iI v57))]) (st' := [.ref 28, .int (iI 4), .ref 34]) rfl ?_
            refine wp_getf (v := .int (iI (m69 28 1))) rfl rfl (S.cell 28 (nc rfl)) (by decide) rfl ?_
            have hr70 : rJ (m69 28 1) := S.rg 28 1 (nl rfl)
            refine wp_mul (a := 4) (b := (m69 28 1)) rfl ?_
            refine wp_g (n := 1) (pc' := 192) (L' := [some (.ref 28), some (.int (iI x1)), some (.int (iI v1)), some (.int (iI 1)), some (.int (iI v51)), some (.int (iI v52)), some (.int (iI v53)), some (.int (iI v55)), some (.int (iI v57))]) (st' := [.int (iI 1), .int (iI (4 * (m69 28 1))), .ref 34]) rfl ?_
            refine wp_add (a := (4 * (m69 28 1))) (b := 1) rfl ?_
            refine wp_g (n := 1) (pc' := 195) (L' := [some (.ref 28), some (.int (iI x1)), some (.int (iI v1)), some (.int (iI 1)), some (.int (iI v51)), some (.int (iI v52)), some (.int (iI v53)), some (.int (iI v55)), some (.int (iI v57))]) (st' := [.int (iI v53), .int (iI ((4 * (m69 28 1)) + 1)), .ref 34]) rfl ?_
            refine wp_cs (As := [.ref 34, .int (iI ((4 * (m69 28 1)) + 1)), .int (iI v53)]) (rest := []) rfl rfl rfl rfl (Nat.le_of_ble_eq_true rfl) (Nat.le_of_ble_eq_true rfl) (hW _ S) (fun r71 H71 q71 => ?_)
            obtain ⟨m71, γ71, t71, rfl, S, hW⟩ := q71
            show wp _ _ _ _ _ [] _ _
            refine wp_g (n := 1) (pc' := 199) (L' := [some (.ref 28), some (.int (iI x1)), some (.int (iI v1)), some (.int (iI 1)), some (.int (iI v51)), some (.int (iI v52)), some (.int (iI v53)), some (.int (iI v55)), some (.int (iI v57))]) (st' := [.ref 28]) rfl ?_
            refine wp_getf (v := .ref 34) rfl rfl (S.cell 28 (nc rfl)) (by decide) rfl ?_
            refine wp_g (n := 2) (pc' := 204) (L' := [some (.ref 28), some (.int (iI x1)), some (.int (iI v1)), some (.int (iI 1)), some (.int (iI v51)), some (.int (iI v52)), some (.int (iI v53)), some (.int (iI v55)), some (.int (iI v57))]) (st' := [.ref 28, .int (iI 4), .ref 34]) rfl ?_
            refine wp_getf (v := .int (iI (m71 28 1))) rfl rfl (S.cell 28 (nc rfl)) (by decide) rfl ?_
            have hr72 : rJ (m71 28 1) := S.rg 28 1 (nl rfl)
            refine wp_mul (a := 4) (b := (m71 28 1)) rfl ?_
            refine wp_g (n := 1) (pc' := 209) (L' := [some (.ref 28), some (.int (iI x1)), some (.int (iI v1)), some (.int (iI 1)), some (.int (iI v51)), some (.int (iI v52)), some (.int (iI v53)), some (.int (iI v55)), some (.int (iI v57))]) (st' := [.int (iI 2), .int (iI (4 * (m71 28 1))), .ref 34]) rfl ?_
            refine wp_add (a := (4 * (m71 28 1))) (b := 2) rfl ?_
            refine wp_g (n := 1) (pc' := 212) (L' := [some (.ref 28), some (.int (iI x1)), some (.int (iI v1)), some (.int (iI 1)), some (.int (iI v51)), some (.int (iI v52)), some (.int (iI v53)), some (.int (iI v55)), some (.int (iI v57))]) (st' := [.int (iI v55), .int (iI ((4 * (m71 28 1)) + 2)), .ref 34]) rfl ?_
            refine wp_cs (As := [.ref 34, .int (iI ((4 * (m71 28 1)) + 2)), .int (iI v55)]) (rest := []) rfl rfl rfl rfl (Nat.le_of_ble_eq_true rfl) (Nat.le_of_ble_eq_true rfl) (hW _ S) (fun r73 H73 q73 => ?_)
            obtain ⟨m73, γ73, t73, rfl, S, hW⟩ := q73
            show wp _ _ _ _ _ [] _ _
            refine wp_g (n := 1) (pc' := 216) (L' := [some (.ref 28), some (.int (iI x1)), some (.int (iI v1)), some (.int (iI 1)), some (.int (iI v51)), some (.int (iI v52)), some (.int (iI v53)), some (.int (iI v55)), some (.int (iI v57))]) (st' := [.ref 28]) rfl ?_
            refine wp_getf (v := .ref 34) rfl rfl (S.cell 28 (nc rfl)) (by decide) rfl ?_
            refine wp_g (n := 2) (pc' := 221) (L' := [some (.ref 28), some (.int (iI x1)), some (.int (iI v1)), some (.int (iI 1)), some (.int (iI v51)), some (.int (iI v52)), some (.int (iI v53)), some (.int (iI v55)), some (.int (iI v57))]) (st' := [.ref 28, .int (iI 4), .ref 34]) rfl ?_
            refine wp_getf (v := .int (iI (m73 28 1))) rfl rfl (S.cell 28 (nc rfl)) (by decide) rfl ?_
            have hr74 : rJ (m73 28 1) := S.rg 28 1 (nl rfl)
            refine wp_mul (a := 4) (b := (m73 28 1)) rfl ?_
            refine wp_g (n := 1) (pc' := 226) (L' := [some (.ref 28), some (.int (iI x1)), some (.int (iI v1)), some (.int (iI 1)), some (.int (iI v51)), some (.int (iI v52)), some (.int (iI v53)), some (.int (iI v55)), some (.int (iI v57))]) (st' := [.int (iI 3), .int (iI (4 * (m73 28 1))), .ref 34]) rfl ?_
            refine wp_add (a := (4 * (m73 28 1))) (b := 3) rfl ?_
            refine wp_g (n := 1) (pc' := 229) (L' := [some (.ref 28), some (.int (iI x1)), some (.int (iI v1)), some (.int (iI 1)), some (.int (iI v51)), some (.int (iI v52)), some (.int (iI v53)), some (.int (iI v55)), some (.int (iI v57))]) (st' := [.int (iI v57), .int (iI ((4 * (m73 28 1)) + 3)), .ref 34]) rfl ?_
            refine wp_cs (As := [.ref 34, .int (iI ((4 * (m73 28 1)) + 3)), .int (iI v57)]) (rest := []) rfl rfl rfl rfl (Nat.le_of_ble_eq_true rfl) (Nat.le_of_ble_eq_true rfl) (hW _ S) (fun r75 H75 q75 => ?_)
            obtain ⟨m75, γ75, t75, rfl, S, hW⟩ := q75
            show wp _ _ _ _ _ [] _ _
            refine wp_g (n := 2) (pc' := 234) (L' := [some (.ref 28), some (.int (iI x1)), some (.int (iI v1)), some (.int (iI 1)), some (.int (iI v51)), some (.int (iI v52)), some (.int (iI v53)), some (.int (iI v55)), some (.int (iI v57))]) (st' := [.ref 28, .ref 28]) rfl ?_
            refine wp_getf (v := .int (iI (m75 28 1))) rfl rfl (S.cell 28 (nc rfl)) (by decide) rfl ?_
            have hr76 : rJ (m75 28 1) := S.rg 28 1 (nl rfl)
            refine wp_g (n := 1) (pc' := 238) (L' := [some (.ref 28), some (.int (iI x1)), some (.int (iI v1)), some (.int (iI 1)), some (.int (iI v51)), some (.int (iI v52)), some (.int (iI v53)), some (.int (iI v55)), some (.int (iI v57))]) (st' := [.int (iI 1), .int (iI (m75 28 1)), .ref 28]) rfl ?_
            refine wp_add (a := (m75 28 1)) (b := 1) rfl ?_
            obtain ⟨p78, hW⟩ := hW
            refine wp_putI rfl rfl (S.cell 28 (nc rfl)) (Nat.le_of_ble_eq_true rfl) rfl (fun H77 hl77 hz77 hf77 => ?_)
            have S : ST H77 (up m75 28 (up (m75 28) 1 ((m75 28 1) + 1))) γ75 t75 := S.setI 28 (nc rfl) hl77 hz77 hf77 p78.1 p78.2
            refine wp_g (n := 1) (pc' := 243) (L' := [some (.ref 28), some (.int (iI x1)), some (.int (iI v1)), some (.int (iI 1)), some (.int (iI v51)), some (.int (iI v52)), some (.int (iI v53)), some (.int (iI v55)), some (.int (iI v57))]) (st' := [.int (iI 0)]) rfl ?_
            exact wp_iret rfl rfl ⟨_, _, _, _, rfl, (by decide), S, hW⟩
          · have dc65 := (Classical.not_not.mp c65)
            have hW := hW.1 dc65
            refine wp_g (n := 2) (pc' := 165) (L' := [some (.ref 28), some (.int (iI x1)), some (.int (iI v1)), some (.int (iI 1)), some (.int (iI v51)), some (.int (iI v52)), some (.int (iI v53)), some (.int (iI v55)), some (.int (iI v57))]) (st' := [.int (iI 1), .int (iI (m60 28 1)), .ref 35]) rfl ?_
            obtain ⟨p80, hW⟩ := hW
            refine wp_tasF (n := 12) (F := (m64 35)) (y := 1) rfl (S.cell 35 (nc rfl)) p80.1 p80.2 (by decide) (by decide) (fun H79 hl79 hz79 hf79 => ?_)
            have S : ST H79 (up m64 35 (up (m64 35) (((m60 28 1)).toNat) 1)) γ64 t64 := S.setI 35 (nc rfl) hl79 hz79 hf79 (by decide) (by decide)
            refine wp_g (n := 1) (pc' := 167) (L' := [some (.ref 28), some (.int (iI x1)), some (.int (iI v1)), some (.int (iI 1)), some (.int (iI v51)), some (.int (iI v52)), some (.int (iI v53)), some (.int (iI v55)), some (.int (iI v57))]) (st' := [.ref 28]) rfl ?_
            refine wp_getf (v := .ref 34) rfl rfl (S.cell 28 (nc rfl)) (by decide) rfl ?_
            refine wp_g (n := 2) (pc' := 172) (L' := [some (.ref 28), some (.int (iI x1)), some (.int (iI v1)), some (.int (iI 1)), some (.int (iI v51)), some (.int (iI v52)), some (.int (iI v53)), some (.int (iI v55)), some (.int (iI v57))]) (st' := [.ref 28, .int (iI 4), .ref 34]) rfl ?_
            refine wp_getf (v := .int (iI (m64 28 1))) rfl rfl (S.cell 28 (nc rfl)) (by decide) rfl ?_
            have hr81 : rJ (m64 28 1) := S.rg 28 1 (nl rfl)
            refine wp_mul (a := 4) (b := (m64 28 1)) rfl ?_
            refine wp_g (n := 1) (pc' := 178) (L' := [some (.ref 28), some (.int (iI x1)), some (.int (iI v1)), some (.int (iI 1)), some (.int (iI v51)), some (.int (iI v52)), some (.int (iI v53)), some (.int (iI v55)), some (.int (iI v57))]) (st' := [.int (iI v52), .int (iI (4 * (m64 28 1))), .ref 34]) rfl ?_
            refine wp_cs (As := [.ref 34, .int (iI (4 * (m64 28 1))), .int (iI v52)]) (rest := []) rfl rfl rfl rfl (Nat.le_of_ble_eq_true rfl) (Nat.le_of_ble_eq_true rfl) (hW _ S) (fun r82 H82 q82 => ?_)
            obtain ⟨m82, γ82, t82, rfl, S, hW⟩ := q82
            show wp _ _ _ _ _ [] _ _
            refine wp_g (n := 1) (pc' := 182) (L' := [some (.ref 28), some (.int (iI x1)), some (.int (iI v1)), some (.int (iI 1)), some (.int (iI v51)), some (.int (iI v52)), some (.int (iI v53)), some (.int (iI v55)), some (.int (iI v57))]) (st' := [.ref 28]) rfl ?_
            refine wp_getf (v := .ref 34) rfl rfl (S.cell 28 (nc rfl)) (by decide) rfl ?_
            refine wp_g (n := 2) (pc' := 187) (L' := [some (.ref 28), some (.int (iI x1)), some (.int (iI v1)), some (.int (iI 1)), some (.int (iI v51)), some (.int (iI v52)), some (.int (iI v53)), some (.int (iI v55)), some (.int (iI v57))]) (st' := [.ref 28, .int (iI 4), .ref 34]) rfl ?_
            refine wp_getf (v := .int (iI (m82 28 1))) rfl rfl (S.cell 28 (nc rfl)) (by decide) rfl ?_
            have hr83 : rJ (m82 28 1) := S.rg 28 1 (nl rfl)
            refine wp_mul (a := 4) (b := (m82 28 1)) rfl ?_
            refine wp_g (n := 1) (pc' := 192) (L' := [some (.ref 28), some (.int (iI x1)), some (.int (iI v1)), some (.int (iI 1)), some (.int (iI v51)), some (.int (iI v52)), some (.int (iI v53)), some (.int (iI v55)), some (.int (iI v57))]) (st' := [.int (iI 1), .int (iI (4 * (m82 28 1))), .ref 34]) rfl ?_
            refine wp_add (a := (4 * (m82 28 1))) (b := 1) rfl ?_
            refine wp_g (n := 1) (pc' := 195) (L' := [some (.ref 28), some (.int (iI x1)), some (.int (iI v1)), some (.int (iI 1)), some (.int (iI v51)), some (.int (iI v52)), some (.int (iI v53)), some (.int (iI v55)), some (.int (iI v57))]) (st' := [.int (iI v53), .int (iI ((4 * (m82 28 1)) + 1)), .ref 34]) rfl ?_
            refine wp_cs (As := [.ref 34, .int (iI ((4 * (m82 28 1)) + 1)), .int (iI v53)]) (rest := []) rfl rfl rfl rfl (Nat.le_of_ble_eq_true rfl) (Nat.le_of_ble_eq_true rfl) (hW _ S) (fun r84 H84 q84 => ?_)
            obtain ⟨m84, γ84, t84, rfl, S, hW⟩ := q84
            show wp _ _ _ _ _ [] _ _
            refine wp_g (n := 1) (pc' := 199) (L' := [some (.ref 28), some (.int (iI x1)), some (.int (iI v1)), some (.int (iI 1)), some (.int (iI v51)), some (.int (iI v52)), some (.int (iI v53)), some (.int (iI v55)), some (.int (iI v57))]) (st' := [.ref 28]) rfl ?_
            refine wp_getf (v := .ref 34) rfl rfl (S.cell 28 (nc rfl)) (by decide) rfl ?_
            refine wp_g (n := 2) (pc' := 204) (L' := [some (.ref 28), some (.int (iI x1)), some (.int (iI v1)), some (.int (iI 1)), some (.int (iI v51)), some (.int (iI v52)), some (.int (iI v53)), some (.int (iI v55)), some (.int (iI v57))]) (st' := [.ref 28, .int (iI 4), .ref 34]) rfl ?_
            refine wp_getf (v := .int (iI (m84 28 1))) rfl rfl (S.cell 28 (nc rfl)) (by decide) rfl ?_
            have hr85 : rJ (m84 28 1) := S.rg 28 1 (nl rfl)
            refine wp_mul (a := 4) (b := (m84 28 1)) rfl ?_
            refine wp_g (n := 1) (pc' := 209) (L' := [some (.ref 28), some (.int (iI x1)), some (.int (iI v1)), some (.int (iI 1)), some (.int (iI v51)), some (.int (iI v52)), some (.int (iI v53)), some (.int (iI v55)), some (.int (iI v57))]) (st' := [.int (iI 2), .int (iI (4 * (m84 28 1))), .ref 34]) rfl ?_
            refine wp_add (a := (4 * (m84 28 1))) (b := 2) rfl ?_
            refine wp_g (n := 1) (pc' := 212) (L' := [some (.ref 28), some (.int (iI x1)), some (.int (iI v1)), some (.int (iI 1)), some (.int (iI v51)), some (.int (iI v52)), some (.int (iI v53)), some (.int (iI v55)), some (.int (iI v57))]) (st' := [.int (iI v55), .int (iI ((4 * (m84 28 1)) + 2)), .ref 34]) rfl ?_
            refine wp_cs (As := [.ref 34, .int (iI ((4 * (m84 28 1)) + 2)), .int (iI v55)]) (rest := []) rfl rfl rfl rfl (Nat.le_of_ble_eq_true rfl) (Nat.le_of_ble_eq_true rfl) (hW _ S) (fun r86 H86 q86 => ?_)
            obtain ⟨m86, γ86, t86, rfl, S, hW⟩ := q86
            show wp _ _ _ _ _ [] _ _
            refine wp_g (n := 1) (pc' := 216) (L' := [some (.ref 28), some (.int (iI x1)), some (.int (iI v1)), some (.int (iI 1)), some (.int (iI v51)), some (.int (iI v52)), some (.int (iI v53)), some (.int (iI v55)), some (.int (iI v57))]) (st' := [.ref 28]) rfl ?_
            refine wp_getf (v := .ref 34) rfl rfl (S.cell 28 (nc rfl)) (by decide) rfl ?_
            refine wp_g (n := 2) (pc' := 221) (L' := [some (.ref 28), some (.int (iI x1)), some (.int (iI v1)), some (.int (iI 1)), some (.int (iI v51)), some (.int (iI v52)), some (.int (iI v53)), some (.int (iI v55)), some (.int (iI v57))]) (st' := [.ref 28, .int (iI 4), .ref 34]) rfl ?_
            refine wp_getf (v := .int (iI (m86 28 1))) rfl rfl (S.cell 28 (nc rfl)) (by decide) rfl ?_
            have hr87 : rJ (m86 28 1) := S.rg 28 1 (nl rfl)
            refine wp_mul (a := 4) (b := (m86 28 1)) rfl ?_
            refine wp_g (n := 1) (pc' := 226) (L' := [some (.ref 28), some (.int (iI x1)), some (.int (iI v1)), some (.int (iI 1)), some (.int (iI v51)), some (.int (iI v52)), some (.int (iI v53)), some (.int (iI v55)), some (.int (iI v57))]) (st' := [.int (iI 3), .int (iI (4 * (m86 28 1))), .ref 34]) rfl ?_
            refine wp_add (a := (4 * (m86 28 1))) (b := 3) rfl ?_
            refine wp_g (n := 1) (pc' := 229) (L' := [some (.ref 28), some (.int (iI x1)), some (.int (iI v1)), some (.int (iI 1)), some (.int (iI v51)), some (.int (iI v52)), some (.int (iI v53)), some (.int (iI v55)), some (.int (iI v57))]) (st' := [.int (iI v57), .int (iI ((4 * (m86 28 1)) + 3)), .ref 34]) rfl ?_
            refine wp_cs (As := [.ref 34, .int (iI ((4 * (m86 28 1)) + 3)), .int (iI v57)]) (rest := []) rfl rfl rfl rfl (Nat.le_of_ble_eq_true rfl) (Nat.le_of_ble_eq_true rfl) (hW _ S) (fun r88 H88 q88 => ?_)
            obtain ⟨m88, γ88, t88, rfl, S, hW⟩ := q88
            show wp _ _ _ _ _ [] _ _
            refine wp_g (n := 2) (pc' := 234) (L' := [some (.ref 28), some (.int (iI x1)), some (.int (iI v1)), some (.int (iI 1)), some (.int (iI v51)), some (.int (iI v52)), some (.int (iI v53)), some (.int (iI v55)), some (.int (iI v57))]) (st' := [.ref 28, .ref 28]) rfl ?_
            refine wp_getf (v := .int (iI (m88 28 1))) rfl rfl (S.cell 28 (nc rfl)) (by decide) rfl ?_
            have hr89 : rJ (m88 28 1) := S.rg 28 1 (nl rfl)
            refine wp_g (n := 1) (pc' := 238) (L' := [some (.ref 28), some (.int (iI x1)), some (.int (iI v1)), some (.int (iI 1)), some (.int (iI v51)), some (.int (iI v52)), some (.int (iI v53)), some (.int (iI v55)), some (.int (iI v57))]) (st' := [.int (iI 1), .int (iI (m88 28 1)), .ref 28]) rfl ?_
            refine wp_add (a := (m88 28 1)) (b := 1) rfl ?_
            obtain ⟨p91, hW⟩ := hW
            refine wp_putI rfl rfl (S.cell 28 (nc rfl)) (Nat.le_of_ble_eq_true rfl) rfl (fun H90 hl90 hz90 hf90 => ?_)
            have S : ST H90 (up m88 28 (up (m88 28) 1 ((m88 28 1) + 1))) γ88 t88 := S.setI 28 (nc rfl) hl90 hz90 hf90 p91.1 p91.2
            refine wp_g (n := 1) (pc' := 243) (L' := [some (.ref 28), some (.int (iI x1)), some (.int (iI v1)), some (.int (iI 1)), some (.int (iI v51)), some (.int (iI v52)), some (.int (iI v53)), some (.int (iI v55)), some (.int (iI v57))]) (st' := [.int (iI 0)]) rfl ?_
            exact wp_iret rfl rfl ⟨_, _, _, _, rfl, (by decide), S, hW⟩
      · have dc61 := (Classical.not_not.mp c61)
        have hW := hW.1 dc61
        refine wp_g (n := 3) (pc' := 118) (L' := [some (.ref 28), some (.int (iI x1)), some (.int (iI v1)), some (.int (iI 1)), some (.int (iI v51)), some (.int (iI v52)), some (.int (iI v53)), some (.int (iI v55)), some (.int (iI v57))]) (st' := [.int (iI v57), .int (iI v52), .ref 28]) rfl ?_
        refine wp_cv (As := [.int (iI v52), .int (iI v57)]) (rest := []) rfl rfl (S.cell 28 (nc rfl)) (by decide) rfl rfl rfl (Nat.le_of_ble_eq_true rfl) (Nat.le_of_ble_eq_true rfl) (hW _ S) (fun r92 H92 q92 => ?_)
        obtain ⟨v92, m92, γ92, t92, rfl, hv92, S, hW⟩ := q92
        show wp _ _ _ _ _ [.int (iI v92)] _ _
        refine wp_g (n := 3) (pc' := 126) (L' := [some (.ref 28), some (.int (iI x1)), some (.int (iI v1)), some (.int (iI 1)), some (.int (iI v51)), some (.int (iI v52)), some (.int (iI v53)), some (.int (iI v55)), some (.int (iI v57))]) (st' := [.int (iI v55), .int (iI v53), .ref 28, .int (iI v92)]) rfl ?_
        refine wp_cv (As := [.int (iI v53), .int (iI v55)]) (rest := [.int (iI v92)]) rfl rfl (S.cell 28 (nc rfl)) (by decide) rfl rfl rfl (Nat.le_of_ble_eq_true rfl) (Nat.le_of_ble_eq_true rfl) (hW _ S) (fun r93 H93 q93 => ?_)
        obtain ⟨v93, m93, γ93, t93, rfl, hv93, S, hW⟩ := q93
        show wp _ _ _ _ _ [.int (iI v93), .int (iI v92)] _ _
        refine wp_add (a := v92) (b := v93) rfl ?_
        obtain ⟨p94, hW⟩ := hW
        exact wp_iret rfl rfl ⟨_, _, _, _, rfl, p94, S, hW⟩
    · have dc59 := (Classical.not_not.mp c59)
      have hW := hW.1 dc59
      refine wp_g (n := 3) (pc' := 88) (L' := [some (.ref 28), some (.int (iI x1)), some (.int (iI v1)), some (.int (iI 1)), some (.int (iI v51)), some (.int (iI v52)), some (.int (iI v53)), some (.int (iI v55)), some (.int (iI v57))]) (st' := [.int (iI v53), .int (iI v52), .ref 28]) rfl ?_
      refine wp_cv (As := [.int (iI v52), .int (iI v53)]) (rest := []) rfl rfl (S.cell 28 (nc rfl)) (by decide) rfl rfl rfl (Nat.le_of_ble_eq_true rfl) (Nat.le_of_ble_eq_true rfl) (hW _ S) (fun r95 H95 q95 => ?_)
      obtain ⟨v95, m95, γ95, t95, rfl, hv95, S, hW⟩ := q95
      show wp _ _ _ _ _ [.int (iI v95)] _ _
      refine wp_g (n := 3) (pc' := 96) (L' := [some (.ref 28), some (.int (iI x1)), some (.int (iI v1)), some (.int (iI 1)), some (.int (iI v51)), some (.int (iI v52)), some (.int (iI v53)), some (.int (iI v55)), some (.int (iI v57))]) (st' := [.int (iI v57), .int (iI v55), .ref 28, .int (iI v95)]) rfl ?_
      refine wp_cv (As := [.int (iI v55), .int (iI v57)]) (rest := [.int (iI v95)]) rfl rfl (S.cell 28 (nc rfl)) (by decide) rfl rfl rfl (Nat.le_of_ble_eq_true rfl) (Nat.le_of_ble_eq_true rfl) (hW _ S) (fun r96 H96 q96 => ?_)
      obtain ⟨v96, m96, γ96, t96, rfl, hv96, S, hW⟩ := q96
      show wp _ _ _ _ _ [.int (iI v96), .int (iI v95)] _ _
      refine wp_add (a := v95) (b := v96) rfl ?_
      obtain ⟨p97, hW⟩ := hW
      exact wp_iret rfl rfl ⟨_, _, _, _, rfl, p97, S, hW⟩
abbrev W_X5_join (E : am_E) (k : Nat) (x1 : Int) (x2 : Int) (m : MM) (γ : GM) (t : am_H) (Q : Int → MM → GM → am_H → Prop) : Prop := (TI E k 182 [.ref 33, .int (iI x1)] m γ t (fun v1 m1 γ1 t1 => (TI E k 182 [.ref 33, .int (iI x2)] m1 γ1 t1 (fun v2 m2 γ2 t2 => (((v1 = x2) → (Q 1 m2 γ2 t2)) ∧ (¬ (v1 = x2) → (TV E k 183 [.ref 33, .int (iI v1), .int (iI v2)] m2 γ2 t2 (fun m4 γ4 t4 => (TV E k 183 [.ref 33, .int (iI v2), .int (iI v1)] m4 γ4 t4 (fun m5 γ5 t5 => (Q 0 m5 γ5 t5)))))))))))
theorem vc_X5_join {E : am_E} {k : Nat} {x1 : Int} {x2 : Int} {m : MM} {γ : GM} {t : am_H} {Q : Int → MM → GM → am_H → Prop} (hx1 : rJ x1) (hx2 : rJ x2) (hW : W_X5_join E k x1 x2 m γ t Q) : TI E (k + 1) 67 [.ref 28, .int (iI x1), .int (iI x2)] m γ t Q := by
  unfold W_X5_join at hW
  intro h S
  refine wp_g (n := 1) (pc' := 1) (L' := [some (.ref 28), some (.int (iI x1)), some (.int (iI x2)), none, none]) (st' := [.ref 28]) rfl ?_
  refine wp_getf (v := .ref 33) rfl rfl (S.cell 28 (nc rfl)) (by decide) rfl ?_
  refine wp_g (n := 1) (pc' := 5) (L' := [some (.ref 28), some (.int (iI x1)), some (.int (iI x2)), none, none]) (st' := [.int (iI x1), .ref 33]) rfl ?_
  refine wp_cs (As := [.ref 33, .int (iI x1)]) (rest := []) rfl rfl rfl rfl (Nat.le_of_ble_eq_true rfl) (Nat.le_of_ble_eq_true rfl) (hW _ S) (fun r1 H1 q1 => ?_)
  obtain ⟨v1, m1, γ1, t1, rfl, hv1, S, hW⟩ := q1
  show wp _ _ _ _ _ [.int (iI v1)] _ _
  refine wp_g (n := 2) (pc' := 10) (L' := [some (.ref 28), some (.int (iI x1)), some (.int (iI x2)), some (.int (iI v1)), none]) (st' := [.ref 28]) rfl ?_
  refine wp_getf (v := .ref 33) rfl rfl (S.cell 28 (nc rfl)) (by decide) rfl ?_
  refine wp_g (n := 1) (pc' := 14) (L' := [some (.ref 28), some (.int (iI x1)), some (.int (iI x2)), some (.int (iI v1)), none]) (st' := [.int (iI x2), .ref 33]) rfl ?_
  refine wp_cs (As := [.ref 33, .int (iI x2)]) (rest := []) rfl rfl rfl rfl (Nat.le_of_ble_eq_true rfl) (Nat.le_of_ble_eq_true rfl) (hW _ S) (fun r2 H2 q2 => ?_)
  obtain ⟨v2, m2, γ2, t2, rfl, hv2, S, hW⟩ := q2
  show wp _ _ _ _ _ [.int (iI v2)] _ _
  refine wp_g (n := 3) (pc' := 21) (L' := [some (.ref 28), some (.int (iI x1)), some (.int (iI x2)), some (.int (iI v1)), some (.int (iI v2))]) (st' := [.int (iI x2), .int (iI v1)]) rfl ?_
  refine wp_icmpI (a := v1) (b := x2) rfl rfl hv1.1 hv1.2 hx2.1 hx2.2 (fun c3 => ?_) (fun c3 => ?_)
  · have dc3 := c3
    have hW := hW.2 dc3
    refine wp_g (n := 1) (pc' := 27) (L' := [some (.ref 28), some (.int (iI x1)), some (.int (iI x2)), some (.int (iI v1)), some (.int (iI v2))]) (st' := [.ref 28]) rfl ?_
    refine wp_getf (v := .ref 33) rfl rfl (S.cell 28 (nc rfl)) (by decide) rfl ?_
    refine wp_g (n := 2) (pc' := 33) (L' := [some (.ref 28), some (.int (iI x1)), some (.int (iI x2)), some (.int (iI v1)), some (.int (iI v2))]) (st' := [.int (iI v2), .int (iI v1), .ref 33]) rfl ?_
    refine wp_cs (As := [.ref 33, .int (iI v1), .int (iI v2)]) (rest := []) rfl rfl rfl rfl (Nat.le_of_ble_eq_true rfl) (Nat.le_of_ble_eq_true rfl) (hW _ S) (fun r4 H4 q4 => ?_)
    obtain ⟨m4, γ4, t4, rfl, S, hW⟩ := q4
    show wp _ _ _ _ _ [] _ _
    refine wp_g (n := 1) (pc' := 37) (L' := [some (.ref 28), some (.int (iI x1)), some (.int (iI x2)), some (.int (iI v1)), some (.int (iI v2))]) (st' := [.ref 28]) rfl ?_
    refine wp_getf (v := .ref 33) rfl rfl (S.cell 28 (nc rfl)) (by decide) rfl ?_
    refine wp_g (n := 2) (pc' := 43) (L' := [some (.ref 28), some (.int (iI x1)), some (.int (iI x2)), some (.int (iI v1)), some (.int (iI v2))]) (st' := [.int (iI v1), .int (iI v2), .ref 33]) rfl ?_
    refine wp_cs (As := [.ref 33, .int (iI v2), .int (iI v1)]) (rest := []) rfl rfl rfl rfl (Nat.le_of_ble_eq_true rfl) (Nat.le_of_ble_eq_true rfl) (hW _ S) (fun r5 H5 q5 => ?_)
    obtain ⟨m5, γ5, t5, rfl, S, hW⟩ := q5
    show wp _ _ _ _ _ [] _ _
    refine wp_g (n := 1) (pc' := 47) (L' := [some (.ref 28), some (.int (iI x1)), some (.int (iI x2)), some (.int (iI v1)), some (.int (iI v2))]) (st' := [.int (iI 0)]) rfl ?_
    exact wp_iret rfl rfl ⟨_, _, _, _, rfl, (by decide), S, hW⟩
  · have dc3 := (Classical.not_not.mp c3)
    have hW := hW.1 dc3
    refine wp_g (n := 1) (pc' := 25) (L' := [some (.ref 28), some (.int (iI x1)), some (.int (iI x2)), some (.int (iI v1)), some (.int (iI v2))]) (st' := [.int (iI 1)]) rfl ?_
    exact wp_iret rfl rfl ⟨_, _, _, _, rfl, (by decide), S, hW⟩
abbrev W_X5_part (E : am_E) (k : Nat) (x1 : Int) (x2 : Int) (m : MM) (γ : GM) (t : am_H) (Q : MM → GM → am_H → Prop) : Prop := (TI E k 182 [.ref 33, .int (iI x1)] m γ t (fun v1 m1 γ1 t1 => (((v1 = x2) → (Q m1 γ1 t1)) ∧ (¬ (v1 = x2) → (TI E k 182 [.ref 33, .int (iI x1)] m1 γ1 t1 (fun v3 m3 γ3 t3 => (TV E k 183 [.ref 33, .int (iI v3), .int (iI x1)] m3 γ3 t3 (fun m4 γ4 t4 => (TI E k 182 [.ref 33, .int (iI x2)] m4 γ4 t4 (fun v5 m5 γ5 t5 => (TV E k 183 [.ref 33, .int (iI v5), .int (iI x2)] m5 γ5 t5 (fun m6 γ6 t6 => (Q m6 γ6 t6)))))))))))))
theorem vc_X5_part {E : am_E} {k : Nat} {x1 : Int} {x2 : Int} {m : MM} {γ : GM} {t : am_H} {Q : MM → GM → am_H → Prop} (hx1 : rJ x1) (hx2 : rJ x2) (hW : W_X5_part E k x1 x2 m γ t Q) : TV E (k + 1) 68 [.ref 28, .int (iI x1), .int (iI x2)] m γ t Q := by
  unfold W_X5_part at hW
  intro h S
  refine wp_g (n := 1) (pc' := 1) (L' := [some (.ref 28), some (.int (iI x1)), some (.int (iI x2))]) (st' := [.ref 28]) rfl ?_
  refine wp_getf (v := .ref 33) rfl rfl (S.cell 28 (nc rfl)) (by decide) rfl ?_
  refine wp_g (n := 1) (pc' := 5) (L' := [some (.ref 28), some (.int (iI x1)), some (.int (iI x2))]) (st' := [.int (iI x1), .ref 33]) rfl ?_
  refine wp_cs (As := [.ref 33, .int (iI x1)]) (rest := []) rfl rfl rfl rfl (Nat.le_of_ble_eq_true rfl) (Nat.le_of_ble_eq_true rfl) (hW _ S) (fun r1 H1 q1 => ?_)
  obtain ⟨v1, m1, γ1, t1, rfl, hv1, S, hW⟩ := q1
  show wp _ _ _ _ _ [.int (iI v1)] _ _
  refine wp_g (n := 1) (pc' := 9) (L' := [some (.ref 28), some (.int (iI x1)), some (.int (iI x2))]) (st' := [.int (iI x2), .int (iI v1)]) rfl ?_
  refine wp_icmpI (a := v1) (b := x2) rfl rfl hv1.1 hv1.2 hx2.1 hx2.2 (fun c2 => ?_) (fun c2 => ?_)
  · have dc2 := c2
    have hW := hW.1 dc2
    exact wp_vret rfl rfl ⟨_, _, _, rfl, S, hW⟩
  · have dc2 := c2
    have hW := hW.2 dc2
    refine wp_g (n := 1) (pc' := 13) (L' := [some (.ref 28), some (.int (iI x1)), some (.int (iI x2))]) (st' := [.ref 28]) rfl ?_
    refine wp_getf (v := .ref 33) rfl rfl (S.cell 28 (nc rfl)) (by decide) rfl ?_
    refine wp_g (n := 1) (pc' := 17) (L' := [some (.ref 28), some (.int (iI x1)), some (.int (iI x2))]) (st' := [.ref 28, .ref 33]) rfl ?_
    refine wp_getf (v := .ref 33) rfl rfl (S.cell 28 (nc rfl)) (by decide) rfl ?_
    refine wp_g (n := 1) (pc' := 21) (L' := [some (.ref 28), some (.int (iI x1)), some (.int (iI x2))]) (st' := [.int (iI x1), .ref 33, .ref 33]) rfl ?_
    refine wp_cs (As := [.ref 33, .int (iI x1)]) (rest := [.ref 33]) rfl rfl rfl rfl (Nat.le_of_ble_eq_true rfl) (Nat.le_of_ble_eq_true rfl) (hW _ S) (fun r3 H3 q3 => ?_)
    obtain ⟨v3, m3, γ3, t3, rfl, hv3, S, hW⟩ := q3
    show wp _ _ _ _ _ [.int (iI v3), .ref 33] _ _
    refine wp_g (n := 1) (pc' := 25) (L' := [some (.ref 28), some (.int (iI x1)), some (.int (iI x2))]) (st' := [.int (iI x1), .int (iI v3), .ref 33]) rfl ?_
    refine wp_cs (As := [.ref 33, .int (iI v3), .int (iI x1)]) (rest := []) rfl rfl rfl rfl (Nat.le_of_ble_eq_true rfl) (Nat.le_of_ble_eq_true rfl) (hW _ S) (fun r4 H4 q4 => ?_)
    obtain ⟨m4, γ4, t4, rfl, S, hW⟩ := q4
    show wp _ _ _ _ _ [] _ _
    refine wp_g (n := 1) (pc' := 29) (L' := [some (.ref 28), some (.int (iI x1)), some (.int (iI x2))]) (st' := [.ref 28]) rfl ?_
    refine wp_getf (v := .ref 33) rfl rfl (S.cell 28 (nc rfl)) (by decide) rfl ?_
    refine wp_g (n := 1) (pc' := 33) (L' := [some (.ref 28), some (.int (iI x1)), some (.int (iI x2))]) (st' := [.ref 28, .ref 33]) rfl ?_
    refine wp_getf (v := .ref 33) rfl rfl (S.cell 28 (nc rfl)) (by decide) rfl ?_
    refine wp_g (n := 1) (pc' := 37) (L' := [some (.ref 28), some (.int (iI x1)), some (.int (iI x2))]) (st' := [.int (iI x2), .ref 33, .ref 33]) rfl ?_
    refine wp_cs (As := [.ref 33, .int (iI x2)]) (rest := [.ref 33]) rfl rfl rfl rfl (Nat.le_of_ble_eq_true rfl) (Nat.le_of_ble_eq_true rfl) (hW _ S) (fun r5 H5 q5 => ?_)
    obtain ⟨v5, m5, γ5, t5, rfl, hv5, S, hW⟩ := q5
    show wp _ _ _ _ _ [.int (iI v5), .ref 33] _ _
    refine wp_g (n := 1) (pc' := 41) (L' := [some (.ref 28), some (.int (iI x1)), some (.int (iI x2))]) (st' := [.int (iI x2), .int (iI v5), .ref 33]) rfl ?_
    refine wp_cs (As := [.ref 33, .int (iI v5), .int (iI x2)]) (rest := []) rfl rfl rfl rfl (Nat.le_of_ble_eq_true rfl) (Nat.le_of_ble_eq_true rfl) (hW _ S) (fun r6 H6 q6 => ?_)
    obtain ⟨m6, γ6, t6, rfl, S, hW⟩ := q6
    show wp _ _ _ _ _ [] _ _
    exact wp_vret rfl rfl ⟨_, _, _, rfl, S, hW⟩
