def hd_X7_firstKink_2 (E : am_E) (k : Nat) (y1 : Int) (m : MM) (γ : GM) (t : am_H) (Q : Int → MM → GM → am_H → Prop) : Prop := TT (pI Q) E (k + 1) 126 2 [some (.ref 10), some (.int (iI y1))] [] m γ t
abbrev W_X7_firstKink (E : am_E) (k : Nat) (m : MM) (γ : GM) (t : am_H) (Q : Int → MM → GM → am_H → Prop) : Prop := (hd_X7_firstKink_2 E k 0 m γ t Q)
abbrev W_X7_firstKink_2 (E : am_E) (k : Nat) (y1 : Int) (m : MM) (γ : GM) (t : am_H) (Q : Int → MM → GM → am_H → Prop) : Prop := (TI E k 28 [.ref 11] m γ t (fun v1 m1 γ1 t1 => (((y1 < v1) → (TI E k 127 [.ref 10, .int (iI y1)] m1 γ1 t1 (fun v3 m3 γ3 t3 => (((v3 = 0) → (hd_X7_firstKink_2 E k (y1 + 1) m3 γ3 t3 Q)) ∧ (¬ (v3 = 0) → (Q y1 m3 γ3 t3)))))) ∧ (¬ (y1 < v1) → (Q (-1) m1 γ1 t1)))))
theorem vc_X7_firstKink {E : am_E} {k : Nat} {m : MM} {γ : GM} {t : am_H} {Q : Int → MM → GM → am_H → Prop} (hW : W_X7_firstKink E k  m γ t Q) : TI E (k + 1) 126 [.ref 10] m γ t Q := by
  unfold W_X7_firstKink at hW
  intro h S
  refine wp_g (n := 2) (pc' := 2) (L' := [some (.ref 10), some (.int (iI 0))]) (st' := []) rfl ?_
  exact hW _ S
theorem vc_X7_firstKink_2 {E : am_E} {k : Nat} {y1 : Int} {m : MM} {γ : GM} {t : am_H} {Q : Int → MM → GM → am_H → Prop} (hy1 : rJ y1) (hW : W_X7_firstKink_2 E k y1 m γ t Q) : hd_X7_firstKink_2 E k y1 m γ t Q := by
  unfold W_X7_firstKink_2 at hW
  intro h S
  refine wp_g (n := 2) (pc' := 4) (L' := [some (.ref 10), some (.int (iI y1))]) (st' := [.ref 10, .int (iI y1)]) rfl ?_
  refine wp_getf (v := .ref 11) rfl rfl (S.cell 10 (nc rfl)) (by decide) rfl ?_
  refine wp_cv (As := []) (rest := [.int (iI y1)]) rfl rfl (S.gg 11 (gi rfl)).obj (by decide) rfl rfl rfl (Nat.le_of_ble_eq_true rfl) (Nat.le_of_ble_eq_true rfl) (hW _ S) (fun r1 H1 q1 => ?_)
  obtain ⟨v1, m1, γ1, t1, rfl, hv1, S, hW⟩ := q1
  show wp _ _ _ _ _ [.int (iI v1), .int (iI y1)] _ _
  refine wp_icmpI (a := y1) (b := v1) rfl rfl hy1.1 hy1.2 hv1.1 hv1.2 (fun c2 => ?_) (fun c2 => ?_)
  · have dc2 := (Int.not_lt.mpr c2)
    have hW := hW.2 dc2
    refine wp_g (n := 1) (pc' := 30) (L' := [some (.ref 10), some (.int (iI y1))]) (st' := [.int (iI (-1))]) rfl ?_
    exact wp_iret rfl rfl ⟨_, _, _, _, rfl, (by decide), S, hW⟩
  · have dc2 := (Int.not_le.mp c2)
    have hW := hW.1 dc2
    refine wp_g (n := 2) (pc' := 15) (L' := [some (.ref 10), some (.int (iI y1))]) (st' := [.int (iI y1), .ref 10]) rfl ?_
    refine wp_cv (As := [.int (iI y1)]) (rest := []) rfl rfl (S.cell 10 (nc rfl)) (by decide) rfl rfl rfl (Nat.le_of_ble_eq_true rfl) (Nat.le_of_ble_eq_true rfl) (hW _ S) (fun r3 H3 q3 => ?_)
    obtain ⟨v3, m3, γ3, t3, rfl, hv3, S, hW⟩ := q3
    show wp _ _ _ _ _ [.int (iI v3)] _ _
    refine wp_ifI (a := v3) rfl rfl hv3.1 hv3.2 (fun c4 => ?_) (fun c4 => ?_)
    · have dc4 := c4
      have hW := hW.1 dc4
      refine wp_iinc (L' := [some (.ref 10), some (.int (iI (y1 + 1)))]) (a := y1) rfl rfl rfl ?_
      refine wp_g (n := 1) (pc' := 2) (L' := [some (.ref 10), some (.int (iI (y1 + 1)))]) (st' := []) rfl ?_
      exact hW _ S
    · have dc4 := c4
      have hW := hW.2 dc4
      refine wp_g (n := 1) (pc' := 22) (L' := [some (.ref 10), some (.int (iI y1))]) (st' := [.int (iI y1)]) rfl ?_
      exact wp_iret rfl rfl ⟨_, _, _, _, rfl, hy1, S, hW⟩
abbrev W_X7_isKink (E : am_E) (k : Nat) (x1 : Int) (m : MM) (γ : GM) (t : am_H) (Q : Int → MM → GM → am_H → Prop) : Prop := (TI E k 112 [.ref 10, .int (iI x1)] m γ t (fun v1 m1 γ1 t1 => (((v1 = (-1)) → (Q 0 m1 γ1 t1)) ∧ (¬ (v1 = (-1)) → (TI E k 182 [.ref 25, .int (iI x1)] m1 γ1 t1 (fun v3 m3 γ3 t3 => (TI E k 182 [.ref 26, .int (iI x1)] m3 γ3 t3 (fun v4 m4 γ4 t4 => (TI E k 310 [.int (iI (v3 - v4))] m4 γ4 t4 (fun v5 m5 γ5 t5 => (((v5 = 1) → (Q 1 m5 γ5 t5)) ∧ (¬ (v5 = 1) → (TI E k 107 [.ref 10, .int (iI v1)] m5 γ5 t5 (fun v7 m7 γ7 t7 => (rJ (v7 - 1) ∧ (((v5 = (v7 - 1)) → (Q 1 m7 γ7 t7)) ∧ (¬ (v5 = (v7 - 1)) → (Q 0 m7 γ7 t7))))))))))))))))))
theorem vc_X7_isKink {E : am_E} {k : Nat} {x1 : Int} {m : MM} {γ : GM} {t : am_H} {Q : Int → MM → GM → am_H → Prop} (hx1 : rJ x1) (hW : W_X7_isKink E k x1 m γ t Q) : TI E (k + 1) 127 [.ref 10, .int (iI x1)] m γ t Q := by
  unfold W_X7_isKink at hW
  intro h S
  refine wp_g (n := 2) (pc' := 2) (L' := [some (.ref 10), some (.int (iI x1)), none, none]) (st' := [.int (iI x1), .ref 10]) rfl ?_
  refine wp_cv (As := [.int (iI x1)]) (rest := []) rfl rfl (S.cell 10 (nc rfl)) (by decide) rfl rfl rfl (Nat.le_of_ble_eq_true rfl) (Nat.le_of_ble_eq_true rfl) (hW _ S) (fun r1 H1 q1 => ?_)
  obtain ⟨v1, m1, γ1, t1, rfl, hv1, S, hW⟩ := q1
  show wp _ _ _ _ _ [.int (iI v1)] _ _
  refine wp_g (n := 3) (pc' := 8) (L' := [some (.ref 10), some (.int (iI x1)), some (.int (iI v1)), none]) (st' := [.int (iI (-1)), .int (iI v1)]) rfl ?_
  refine wp_icmpI (a := v1) (b := (-1)) rfl rfl hv1.1 hv1.2 (by decide) (by decide) (fun c2 => ?_) (fun c2 => ?_)
  · have dc2 := c2
    have hW := hW.2 dc2
    refine wp_g (n := 1) (pc' := 14) (L' := [some (.ref 10), some (.int (iI x1)), some (.int (iI v1)), none]) (st' := [.ref 10]) rfl ?_
    refine wp_getf (v := .ref 25) rfl rfl (S.cell 10 (nc rfl)) (by decide) rfl ?_
    refine wp_g (n := 1) (pc' := 18) (L' := [some (.ref 10), some (.int (iI x1)), some (.int (iI v1)), none]) (st' := [.int (iI x1), .ref 25]) rfl ?_
    refine wp_cs (As := [.ref 25, .int (iI x1)]) (rest := []) rfl rfl rfl rfl (Nat.le_of_ble_eq_true rfl) (Nat.le_of_ble_eq_true rfl) (hW _ S) (fun r3 H3 q3 => ?_)
    obtain ⟨v3, m3, γ3, t3, rfl, hv3, S, hW⟩ := q3
    show wp _ _ _ _ _ [.int (iI v3)] _ _
    refine wp_g (n := 1) (pc' := 22) (L' := [some (.ref 10), some (.int (iI x1)), some (.int (iI v1)), none]) (st' := [.ref 10, .int (iI v3)]) rfl ?_
    refine wp_getf (v := .ref 26) rfl rfl (S.cell 10 (nc rfl)) (by decide) rfl ?_
    refine wp_g (n := 1) (pc' := 26) (L' := [some (.ref 10), some (.int (iI x1)), some (.int (iI v1)), none]) (st' := [.int (iI x1), .ref 26, .int (iI v3)]) rfl ?_
    refine wp_cs (As := [.ref 26, .int (iI x1)]) (rest := [.int (iI v3)]) rfl rfl rfl rfl (Nat.le_of_ble_eq_true rfl) (Nat.le_of_ble_eq_true rfl) (hW _ S) (fun r4 H4 q4 => ?_)
    obtain ⟨v4, m4, γ4, t4, rfl, hv4, S, hW⟩ := q4
    show wp _ _ _ _ _ [.int (iI v4), .int (iI v3)] _ _
    refine wp_sub (a := v3) (b := v4) rfl ?_
    refine wp_cs (As := [.int (iI (v3 - v4))]) (rest := []) rfl rfl rfl rfl (Nat.le_of_ble_eq_true rfl) (Nat.le_of_ble_eq_true rfl) (hW _ S) (fun r5 H5 q5 => ?_)
    obtain ⟨v5, m5, γ5, t5, rfl, hv5, S, hW⟩ := q5
    show wp _ _ _ _ _ [.int (iI v5)] _ _
    refine wp_g (n := 3) (pc' := 36) (L' := [some (.ref 10), some (.int (iI x1)), some (.int (iI v1)), some (.int (iI v5))]) (st' := [.int (iI 1), .int (iI v5)]) rfl ?_
    refine wp_icmpI (a := v5) (b := 1) rfl rfl hv5.1 hv5.2 (by decide) (by decide) (fun c6 => ?_) (fun c6 => ?_)
    · have dc6 := c6
      have hW := hW.1 dc6
      refine wp_g (n := 2) (pc' := 55) (L' := [some (.ref 10), some (.int (iI x1)), some (.int (iI v1)), some (.int (iI v5))]) (st' := [.int (iI 1)]) rfl ?_
      exact wp_zret rfl rfl (by decide) ⟨_, _, _, _, rfl, (by decide), S, hW⟩
    · have dc6 := c6
      have hW := hW.2 dc6
      refine wp_g (n := 3) (pc' := 42) (L' := [some (.ref 10), some (.int (iI x1)), some (.int (iI v1)), some (.int (iI v5))]) (st' := [.int (iI v1), .ref 10, .int (iI v5)]) rfl ?_
      refine wp_cv (As := [.int (iI v1)]) (rest := [.int (iI v5)]) rfl rfl (S.cell 10 (nc rfl)) (by decide) rfl rfl rfl (Nat.le_of_ble_eq_true rfl) (Nat.le_of_ble_eq_true rfl) (hW _ S) (fun r7 H7 q7 => ?_)
      obtain ⟨v7, m7, γ7, t7, rfl, hv7, S, hW⟩ := q7
      show wp _ _ _ _ _ [.int (iI v7), .int (iI v5)] _ _
      refine wp_g (n := 1) (pc' := 46) (L' := [some (.ref 10), some (.int (iI x1)), some (.int (iI v1)), some (.int (iI v5))]) (st' := [.int (iI 1), .int (iI v7), .int (iI v5)]) rfl ?_
      refine wp_sub (a := v7) (b := 1) rfl ?_
      obtain ⟨p8, hW⟩ := hW
      refine wp_icmpI (a := v5) (b := (v7 - 1)) rfl rfl hv5.1 hv5.2 p8.1 p8.2 (fun c9 => ?_) (fun c9 => ?_)
      · have dc9 := c9
        have hW := hW.2 dc9
        refine wp_g (n := 1) (pc' := 55) (L' := [some (.ref 10), some (.int (iI x1)), some (.int (iI v1)), some (.int (iI v5))]) (st' := [.int (iI 0)]) rfl ?_
        exact wp_zret rfl rfl (by decide) ⟨_, _, _, _, rfl, (by decide), S, hW⟩
      · have dc9 := (Classical.not_not.mp c9)
        have hW := hW.1 dc9
        refine wp_g (n := 2) (pc' := 55) (L' := [some (.ref 10), some (.int (iI x1)), some (.int (iI v1)), some (.int (iI v5))]) (st' := [.int (iI 1)]) rfl ?_
        exact wp_zret rfl rfl (by decide) ⟨_, _, _, _, rfl, (by decide), S, hW⟩
  · have dc2 := (Classical.not_not.mp c2)
    have hW := hW.1 dc2
    refine wp_g (n := 1) (pc' := 12) (L' := [some (.ref 10), some (.int (iI x1)), some (.int (iI v1)), none]) (st' := [.int (iI 0)]) rfl ?_
    exact wp_zret rfl rfl (by decide) ⟨_, _, _, _, rfl, (by decide), S, hW⟩
abbrev W_X8_feed (E : am_E) (k : Nat) (x1 : Int) (x2 : Int) (x3 : Int) (x4 : Int) (x5 : Int) (m : MM) (γ : GM) (t : am_H) (Q : Int → MM → GM → am_H → Prop) : Prop := (TI E k 77 [.ref 99, .int (iI 20)] m γ t (fun v1 m1 γ1 t1 => (((v1 = 0) → (Q (-1) m1 γ1 t1)) ∧ (¬ (v1 = 0) → (TV E k 78 [.ref 99, .int (iI x1)] m1 γ1 t1 (fun m3 γ3 t3 => (TV E k 78 [.ref 99, .int (iI x2)] m3 γ3 t3 (fun m4 γ4 t4 => (TV E k 78 [.ref 99, .int (iI x3)] m4 γ4 t4 (fun m5 γ5 t5 => (TV E k 78 [.ref 99, .int (iI x4)] m5 γ5 t5 (fun m6 γ6 t6 => (TV E k 78 [.ref 99, .int (iI x5)] m6 γ6 t6 (fun m7 γ7 t7 => (TI E k 74 [.ref 99] m7 γ7 t7 (fun v8 m8 γ8 t8 => (Q v8 m8 γ8 t8)))))))))))))))))
theorem vc_X8_feed {E : am_E} {k : Nat} {x1 : Int} {x2 : Int} {x3 : Int} {x4 : Int} {x5 : Int} {m : MM} {γ : GM} {t : am_H} {Q : Int → MM → GM → am_H → Prop} (hx1 : rJ x1) (hx2 : rJ x2) (hx3 : rJ x3) (hx4 : rJ x4) (hx5 : rJ x5) (hW : W_X8_feed E k x1 x2 x3 x4 x5 m γ t Q) : TI E (k + 1) 129 [.ref 0, .int (iI x1), .int (iI x2), .int (iI x3), .int (iI x4), .int (iI x5)] m γ t Q := by
  unfold W_X8_feed at hW
  intro h S
  refine wp_g (n := 1) (pc' := 1) (L' := [some (.ref 0), some (.int (iI x1)), some (.int (iI x2)), some (.int (iI x3)), some (.int (iI x4)), some (.int (iI x5))]) (st' := [.ref 0]) rfl ?_
  refine wp_getf (v := .ref 99) rfl rfl (S.cell 0 (nc rfl)) (by decide) rfl ?_
  refine wp_g (n := 1) (pc' := 6) (L' := [some (.ref 0), some (.int (iI x1)), some (.int (iI x2)), some (.int (iI x3)), some (.int (iI x4)), some (.int (iI x5))]) (st' := [.int (iI 20), .ref 99]) rfl ?_
  refine wp_cv (As := [.int (iI 20)]) (rest := []) rfl rfl (S.cell 99 (nc rfl)) (by decide) rfl rfl rfl (Nat.le_of_ble_eq_true rfl) (Nat.le_of_ble_eq_true rfl) (hW _ S) (fun r1 H1 q1 => ?_)
  obtain ⟨v1, m1, γ1, t1, rfl, hv1, S, hW⟩ := q1
  show wp _ _ _ _ _ [.int (iI v1)] _ _
  refine wp_ifI (a := v1) rfl rfl hv1.1 hv1.2 (fun c2 => ?_) (fun c2 => ?_)
  · have dc2 := c2
    have hW := hW.2 dc2
    refine wp_g (n := 1) (pc' := 15) (L' := [some (.ref 0), some (.int (iI x1)), some (.int (iI x2)), some (.int (iI x3)), some (.int (iI x4)), some (.int (iI x5))]) (st' := [.ref 0]) rfl ?_
    refine wp_getf (v := .ref 99) rfl rfl (S.cell 0 (nc rfl)) (by decide) rfl ?_
    refine wp_g (n := 1) (pc' := 19) (L' := [some (.ref 0), some (.int (iI x1)), some (.int (iI x2)), some (.int (iI x3)), some (.int (iI x4)), some (.int (iI x5))]) (st' := [.int (iI x1), .ref 99]) rfl ?_
    refine wp_cv (As := [.int (iI x1)]) (rest := []) rfl rfl (S.cell 99 (nc rfl)) (by decide) rfl rfl rfl (Nat.le_of_ble_eq_true rfl) (Nat.le_of_ble_eq_true rfl) (hW _ S) (fun r3 H3 q3 => ?_)
    obtain ⟨m3, γ3, t3, rfl, S, hW⟩ := q3
    show wp _ _ _ _ _ [] _ _
    refine wp_g (n := 1) (pc' := 23) (L' := [some (.ref 0), some (.int (iI x1)), some (.int (iI x2)), some (.int (iI x3)), some (.int (iI x4)), some (.int (iI x5))]) (st' := [.ref 0]) rfl ?_
    refine wp_getf (v := .ref 99) rfl rfl (S.cell 0 (nc rfl)) (by decide) rfl ?_
    refine wp_g (n := 1) (pc' := 27) (L' := [some (.ref 0), some (.int (iI x1)), some (.int (iI x2)), some (.int (iI x3)), some (.int (iI x4)), some (.int (iI x5))]) (st' := [.int (iI x2), .ref 99]) rfl ?_
    refine wp_cv (As := [.int (iI x2)]) (rest := []) rfl rfl (S.cell 99 (nc rfl)) (by decide) rfl rfl rfl (Nat.le_of_ble_eq_true rfl) (Nat.le_of_ble_eq_true rfl) (hW _ S) (fun r4 H4 q4 => ?_)
    obtain ⟨m4, γ4, t4, rfl, S, hW⟩ := q4
    show wp _ _ _ _ _ [] _ _
    refine wp_g (n := 1) (pc' := 31) (L' := [some (.ref 0), some (.int (iI x1)), some (.int (iI x2)), some (.int (iI x3)), some (.int (iI x4)), some (.int (iI x5))]) (st' := [.ref 0]) rfl ?_
    refine wp_getf (v := .ref 99) rfl rfl (S.cell 0 (nc rfl)) (by decide) rfl ?_
    refine wp_g (n := 1) (pc' := 35) (L' := [some (.ref 0), some (.int (iI x1)), some (.int (iI x2)), some (.int (iI x3)), some (.int (iI x4)), some (.int (iI x5))]) (st' := [.int (iI x3), .ref 99]) rfl ?_
    refine wp_cv (As := [.int (iI x3)]) (rest := []) rfl rfl (S.cell 99 (nc rfl)) (by decide) rfl rfl rfl (Nat.le_of_ble_eq_true rfl) (Nat.le_of_ble_eq_true rfl) (hW _ S) (fun r5 H5 q5 => ?_)
    obtain ⟨m5, γ5, t5, rfl, S, hW⟩ := q5
    show wp _ _ _ _ _ [] _ _
    refine wp_g (n := 1) (pc' := 39) (L' := [some (.ref 0), some (.int (iI x1)), some (.int (iI x2)), some (.int (iI x3)), some (.int (iI x4)), some (.int (iI x5))]) (st' := [.ref 0]) rfl ?_
    refine wp_getf (v := .ref 99) rfl rfl (S.cell 0 (nc rfl)) (by decide) rfl ?_
    refine wp_g (n := 1) (pc' := 44) (L' := [some (.ref 0), some (.int (iI x1)), some (.int (iI x2)), some (.int (iI x3)), some (.int (iI x4)), some (.int (iI x5))]) (st' := [.int (iI x4), .ref 99]) rfl ?_
    refine wp_cv (As := [.int (iI x4)]) (rest := []) rfl rfl (S.cell 99 (nc rfl)) (by decide) rfl rfl rfl (Nat.le_of_ble_eq_true rfl) (Nat.le_of_ble_eq_true rfl) (hW _ S) (fun r6 H6 q6 => ?_)
    obtain ⟨m6, γ6, t6, rfl, S, hW⟩ := q6
    show wp _ _ _ _ _ [] _ _
    refine wp_g (n := 1) (pc' := 48) (L' := [some (.ref 0), some (.int (iI x1)), some (.int (iI x2)), some (.int (iI x3)), some (.int (iI x4)), some (.int (iI x5))]) (st' := [.ref 0]) rfl ?_
    refine wp_getf (v := .ref 99) rfl rfl (S.cell 0 (nc rfl)) (by decide) rfl ?_
    refine wp_g (n := 1) (pc' := 53) (L' := [some (.ref 0), some (.int (iI x1)), some (.int (iI x2)), some (.int (iI x3)), some (.int (iI x4)), some (.int (iI x5))]) (st' := [.int (iI x5), .ref 99]) rfl ?_
    refine wp_cv (As := [.int (iI x5)]) (rest := []) rfl rfl (S.cell 99 (nc rfl)) (by decide) rfl rfl rfl (Nat.le_of_ble_eq_true rfl) (Nat.le_of_ble_eq_true rfl) (hW _ S) (fun r7 H7 q7 => ?_)
    obtain ⟨m7, γ7, t7, rfl, S, hW⟩ := q7
    show wp _ _ _ _ _ [] _ _
    refine wp_g (n := 1) (pc' := 57) (L' := [some (.ref 0), some (.int (iI x1)), some (.int (iI x2)), some (.int (iI x3)), some (.int (iI x4)), some (.int (iI x5))]) (st' := [.ref 0]) rfl ?_
    refine wp_getf (v := .ref 99) rfl rfl (S.cell 0 (nc rfl)) (by decide) rfl ?_
    refine wp_cv (As := []) (rest := []) rfl rfl (S.cell 99 (nc rfl)) (by decide) rfl rfl rfl (Nat.le_of_ble_eq_true rfl) (Nat.le_of_ble_eq_true rfl) (hW _ S) (fun r8 H8 q8 => ?_)
    obtain ⟨v8, m8, γ8, t8, rfl, hv8, S, hW⟩ := q8
    show wp _ _ _ _ _ [.int (iI v8)] _ _
    exact wp_iret rfl rfl ⟨_, _, _, _, rfl, hv8, S, hW⟩
  · have dc2 := (Classical.not_not.mp c2)
    have hW := hW.1 dc2
    refine wp_g (n := 1) (pc' := 13) (L' := [some (.ref 0), some (.int (iI x1)), some (.int (iI x2)), some (.int (iI x3)), some (.int (iI x4)), some (.int (iI x5))]) (st' := [.int (iI (-1))]) rfl ?_
    exact wp_iret rfl rfl ⟨_, _, _, _, rfl, (by decide), S, hW⟩
abbrev W_X8_end (E : am_E) (k : Nat) (x1 : Int) (m : MM) (γ : GM) (t : am_H) (Q : Int → MM → GM → am_H → Prop) : Prop := (TI E k 79 [.ref 99, .int (iI x1)] m γ t (fun v1 m1 γ1 t1 => (((v1 = 0) → (Q (-1) m1 γ1 t1)) ∧ (¬ (v1 = 0) → (Q x1 m1 γ1 t1)))))
theorem vc_X8_end {E : am_E} {k : Nat} {x1 : Int} {m : MM} {γ : GM} {t : am_H} {Q : Int → MM → GM → am_H → Prop} (hx1 : rJ x1) (hW : W_X8_end E k x1 m γ t Q) : TI E (k + 1) 130 [.ref 0, .int (iI x1)] m γ t Q := by
  unfold W_X8_end at hW
  intro h S
  refine wp_g (n := 1) (pc' := 1) (L' := [some (.ref 0), some (.int (iI x1))]) (st' := [.ref 0]) rfl ?_
  refine wp_getf (v := .ref 99) rfl rfl (S.cell 0 (nc rfl)) (by decide) rfl ?_
  refine wp_g (n := 1) (pc' := 5) (L' := [some (.ref 0), some (.int (iI x1))]) (st' := [.int (iI x1), .ref 99]) rfl ?_
  refine wp_cv (As := [.int (iI x1)]) (rest := []) rfl rfl (S.cell 99 (nc rfl)) (by decide) rfl rfl rfl (Nat.le_of_ble_eq_true rfl) (Nat.le_of_ble_eq_true rfl) (hW _ S) (fun r1 H1 q1 => ?_)
  obtain ⟨v1, m1, γ1, t1, rfl, hv1, S, hW⟩ := q1
  show wp _ _ _ _ _ [.int (iI v1)] _ _
  refine wp_ifI (a := v1) rfl rfl hv1.1 hv1.2 (fun c2 => ?_) (fun c2 => ?_)
  · have dc2 := c2
    have hW := hW.1 dc2
    refine wp_g (n := 1) (pc' := 16) (L' := [some (.ref 0), some (.int (iI x1))]) (st' := [.int (iI (-1))]) rfl ?_
    exact wp_iret rfl rfl ⟨_, _, _, _, rfl, (by decide), S, hW⟩
  · have dc2 := c2
    have hW := hW.2 dc2
    refine wp_g (n := 2) (pc' := 16) (L' := [some (.ref 0), some (.int (iI x1))]) (st' := [.int (iI x1)]) rfl ?_
    exact wp_iret rfl rfl ⟨_, _, _, _, rfl, hx1, S, hW⟩
abbrev W_X8_told (E : am_E) (k : Nat) (x1 : Int) (m : MM) (γ : GM) (t : am_H) (Q : Int → MM → GM → am_H → Prop) : Prop := (TI E k 176 [.int (iI x1)] m γ t (fun v1 m1 γ1 t1 => (((v1 = 0) → (Q (-2) m1 γ1 t1)) ∧ (¬ (v1 = 0) → (TI E k 80 [.ref 99, .ref 2] m1 γ1 t1 (fun v3 m3 γ3 t3 => (((v3 = 0) → (Q (-4) m3 γ3 t3)) ∧ (¬ (v3 = 0) → (TV E k 191 [.ref 0, .int (iI x1)] m3 γ3 t3 (fun m5 γ5 t5 => (TI E k 189 [.ref 0, .int (iI x1)] m5 γ5 t5 (fun v6 m6 γ6 t6 => (Q v6 m6 γ6 t6)))))))))))))
theorem vc_X8_told {E : am_E} {k : Nat} {x1 : Int} {m : MM} {γ : GM} {t : am_H} {Q : Int → MM → GM → am_H → Prop} (hx1 : rJ x1) (hW : W_X8_told E k x1 m γ t Q) : TI E (k + 1) 131 [.ref 0, .int (iI x1)] m γ t Q := by
  unfold W_X8_told at hW
  intro h S
  refine wp_g (n := 1) (pc' := 1) (L' := [some (.ref 0), some (.int (iI x1))]) (st' := [.int (iI x1)]) rfl ?_
  refine wp_cs (As := [.int (iI x1)]) (rest := []) rfl rfl rfl rfl (Nat.le_of_ble_eq_true rfl) (Nat.le_of_ble_eq_true rfl) (hW _ S) (fun r1 H1 q1 => ?_)
  obtain ⟨v1, m1, γ1, t1, rfl, hv1, S, hW⟩ := q1
  show wp _ _ _ _ _ [.int (iI v1)] _ _
  refine wp_ifI (a := v1) rfl rfl hv1.1 hv1.2 (fun c2 => ?_) (fun c2 => ?_)
  · have dc2 := c2
    have hW := hW.2 dc2
    refine wp_g (n := 1) (pc' := 11) (L' := [some (.ref 0), some (.int (iI x1))]) (st' := [.ref 0]) rfl ?_
    refine wp_getf (v := .ref 99) rfl rfl (S.cell 0 (nc rfl)) (by decide) rfl ?_
    refine wp_g (n := 1) (pc' := 15) (L' := [some (.ref 0), some (.int (iI x1))]) (st' := [.ref 0, .ref 99]) rfl ?_
    refine wp_getf (v := .ref 2) rfl rfl (S.cell 0 (nc rfl)) (by decide) rfl ?_
    refine wp_cv (As := [.ref 2]) (rest := []) rfl rfl (S.cell 99 (nc rfl)) (by decide) rfl rfl rfl (Nat.le_of_ble_eq_true rfl) (Nat.le_of_ble_eq_true rfl) (hW _ S) (fun r3 H3 q3 => ?_)
    obtain ⟨v3, m3, γ3, t3, rfl, hv3, S, hW⟩ := q3
    show wp _ _ _ _ _ [.int (iI v3)] _ _
    refine wp_ifI (a := v3) rfl rfl hv3.1 hv3.2 (fun c4 => ?_) (fun c4 => ?_)
    · have dc4 := c4
      have hW := hW.2 dc4
      refine wp_g (n := 2) (pc' := 29) (L' := [some (.ref 0), some (.int (iI x1))]) (st' := [.int (iI x1), .ref 0]) rfl ?_
      refine wp_cv (As := [.int (iI x1)]) (rest := []) rfl rfl (S.cell 0 (nc rfl)) (by decide) rfl rfl rfl (Nat.le_of_ble_eq_true rfl) (Nat.le_of_ble_eq_true rfl) (hW _ S) (fun r5 H5 q5 => ?_)
      obtain ⟨m5, γ5, t5, rfl, S, hW⟩ := q5
      show wp _ _ _ _ _ [] _ _
      refine wp_g (n := 2) (pc' := 34) (L' := [some (.ref 0), some (.int (iI x1))]) (st' := [.int (iI x1), .ref 0]) rfl ?_
      refine wp_cv (As := [.int (iI x1)]) (rest := []) rfl rfl (S.cell 0 (nc rfl)) (by decide) rfl rfl rfl (Nat.le_of_ble_eq_true rfl) (Nat.le_of_ble_eq_true rfl) (hW _ S) (fun r6 H6 q6 => ?_)
      obtain ⟨v6, m6, γ6, t6, rfl, hv6, S, hW⟩ := q6
      show wp _ _ _ _ _ [.int (iI v6)] _ _
      exact wp_iret rfl rfl ⟨_, _, _, _, rfl, hv6, S, hW⟩
    · have dc4 := (Classical.not_not.mp c4)
      have hW := hW.1 dc4
      refine wp_g (n := 1) (pc' := 26) (L' := [some (.ref 0), some (.int (iI x1))]) (st' := [.int (iI (-4))]) rfl ?_
      exact wp_iret rfl rfl ⟨_, _, _, _, rfl, (by decide), S, hW⟩
  · have dc2 := (Classical.not_not.mp c2)
    have hW := hW.1 dc2
    refine wp_g (n := 1) (pc' := 9) (L' := [some (.ref 0), some (.int (iI x1))]) (st' := [.int (iI (-2))]) rfl ?_
    exact wp_iret rfl rfl ⟨_, _, _, _, rfl, (by decide), S, hW⟩
abbrev W_X8_fault (E : am_E) (k : Nat) (x1 : Int) (m : MM) (γ : GM) (t : am_H) (Q : Int → MM → GM → am_H → Prop) : Prop := (((x1 = 0) → (TI E k 75 [.ref 99] m γ t (fun v4 m4 γ4 t4 => (Q v4 m4 γ4 t4)))) ∧ (¬ (x1 = 0) → (((x1 = 1) → (TI E k 76 [.ref 99] m γ t (fun v3 m3 γ3 t3 => (Q v3 m3 γ3 t3)))) ∧ (¬ (x1 = 1) → (Q (-1) m γ t)))))
theorem vc_X8_fault {E : am_E} {k : Nat} {x1 : Int} {m : MM} {γ : GM} {t : am_H} {Q : Int → MM → GM → am_H → Prop} (hx1 : rJ x1) (hW : W_X8_fault E k x1 m γ t Q) : TI E (k + 1) 132 [.ref 0, .int (iI x1)] m γ t Q := by
  unfold W_X8_fault at hW
  intro h S
  refine wp_g (n := 1) (pc' := 1) (L' := [some (.ref 0), some (.int (iI x1))]) (st' := [.int (iI x1)]) rfl ?_
  refine wp_ifI (a := x1) rfl rfl hx1.1 hx1.2 (fun c1 => ?_) (fun c1 => ?_)
  · have dc1 := c1
    have hW := hW.2 dc1
    refine wp_g (n := 2) (pc' := 14) (L' := [some (.ref 0), some (.int (iI x1))]) (st' := [.int (iI 1), .int (iI x1)]) rfl ?_
    refine wp_icmpI (a := x1) (b := 1) rfl rfl hx1.1 hx1.2 (by decide) (by decide) (fun c2 => ?_) (fun c2 => ?_)
    · have dc2 := c2
      have hW := hW.2 dc2
      refine wp_g (n := 1) (pc' := 28) (L' := [some (.ref 0), some (.int (iI x1))]) (st' := [.int (iI (-1))]) rfl ?_
      exact wp_iret rfl rfl ⟨_, _, _, _, rfl, (by decide), S, hW⟩
    · have dc2 := (Classical.not_not.mp c2)
      have hW := hW.1 dc2
      refine wp_g (n := 1) (pc' := 18) (L' := [some (.ref 0), some (.int (iI x1))]) (st' := [.ref 0]) rfl ?_
      refine wp_getf (v := .ref 99) rfl rfl (S.cell 0 (nc rfl)) (by decide) rfl ?_
      refine wp_cv (As := []) (rest := []) rfl rfl (S.cell 99 (nc rfl)) (by decide) rfl rfl rfl (Nat.le_of_ble_eq_true rfl) (Nat.le_of_ble_eq_true rfl) (hW _ S) (fun r3 H3 q3 => ?_)
      obtain ⟨v3, m3, γ3, t3, rfl, hv3, S, hW⟩ := q3
      show wp _ _ _ _ _ [.int (iI v3)] _ _
      refine wp_g (n := 1) (pc' := 28) (L' := [some (.ref 0), some (.int (iI x1))]) (st' := [.int (iI v3)]) rfl ?_
      exact wp_iret rfl rfl ⟨_, _, _, _, rfl, hv3, S, hW⟩
  · have dc1 := (Classical.not_not.mp c1)
    have hW := hW.1 dc1
    refine wp_g (n := 1) (pc' := 5) (L' := [some (.ref 0), some (.int (iI x1))]) (st' := [.ref 0]) rfl ?_
    refine wp_getf (v := .ref 99) rfl rfl (S.cell 0 (nc rfl)) (by decide) rfl ?_
    refine wp_cv (As := []) (rest := []) rfl rfl (S.cell 99 (nc rfl)) (by decide) rfl rfl rfl (Nat.le_of_ble_eq_true rfl) (Nat.le_of_ble_eq_true rfl) (hW _ S) (fun r4 H4 q4 => ?_)
    obtain ⟨v4, m4, γ4, t4, rfl, hv4, S, hW⟩ := q4
    show wp _ _ _ _ _ [.int (iI v4)] _ _
    exact wp_iret rfl rfl ⟨_, _, _, _, rfl, hv4, S, hW⟩
abbrev W_X8_count (E : am_E) (k : Nat) (x1 : Int) (m : MM) (γ : GM) (t : am_H) (Q : Int → MM → GM → am_H → Prop) : Prop := ((x1 = 0 → (TI E k 190 [.ref 0] m γ t (fun v2 m2 γ2 t2 => (Q v2 m2 γ2 t2)))) ∧ (¬ x1 = 0 → ((x1 = 1 → (TI E k 1 [.ref 103] m γ t (fun v4 m4 γ4 t4 => (Q v4 m4 γ4 t4)))) ∧ (¬ x1 = 1 → ((x1 = 2 → (TI E k 74 [.ref 99] m γ t (fun v6 m6 γ6 t6 => (Q v6 m6 γ6 t6)))) ∧ (¬ x1 = 2 → ((x1 = 3 → (TI E k 49 [.ref 101] m γ t (fun v8 m8 γ8 t8 => (Q v8 m8 γ8 t8)))) ∧ (¬ x1 = 3 → (Q (-1) m γ t)))))))))
theorem vc_X8_count {E : am_E} {k : Nat} {x1 : Int} {m : MM} {γ : GM} {t : am_H} {Q : Int → MM → GM → am_H → Prop} (hx1 : rJ x1) (hW : W_X8_count E k x1 m γ t Q) : TI E (k + 1) 133 [.ref 0, .int (iI x1)] m γ t Q := by
  unfold W_X8_count at hW
  intro h S
  refine wp_g (n := 1) (pc' := 1) (L' := [some (.ref 0), some (.int (iI x1))]) (st' := [.int (iI x1)]) rfl ?_
  by_cases c1 : x1 = 0
  · have hW := hW.1 c1
    refine wp_tswI rfl (by rw [c1]; decide) (by rw [c1]; decide) 0 (by rw [c1]; decide) rfl rfl ?_
    refine wp_g (n := 1) (pc' := 33) (L' := [some (.ref 0), some (.int (iI x1))]) (st' := [.ref 0]) rfl ?_
    refine wp_cv (As := []) (rest := []) rfl rfl (S.cell 0 (nc rfl)) (by decide) rfl rfl rfl (Nat.le_of_ble_eq_true rfl) (Nat.le_of_ble_eq_true rfl) (hW _ S) (fun r2 H2 q2 => ?_)
    obtain ⟨v2, m2, γ2, t2, rfl, hv2, S, hW⟩ := q2
    show wp _ _ _ _ _ [.int (iI v2)] _ _
    exact wp_iret rfl rfl ⟨_, _, _, _, rfl, hv2, S, hW⟩
  have hW := hW.2 c1
  by_cases c3 : x1 = 1
  · have hW := hW.1 c3
    refine wp_tswI rfl (by rw [c3]; decide) (by rw [c3]; decide) 1 (by rw [c3]; decide) rfl rfl ?_
    refine wp_g (n := 1) (pc' := 38) (L' := [some (.ref 0), some (.int (iI x1))]) (st' := [.ref 0]) rfl ?_
    refine wp_getf (v := .ref 103) rfl rfl (S.cell 0 (nc rfl)) (by decide) rfl ?_
    refine wp_cv (As := []) (rest := []) rfl rfl (S.cell 103 (nc rfl)) (by decide) rfl rfl rfl (Nat.le_of_ble_eq_true rfl) (Nat.le_of_ble_eq_true rfl) (hW _ S) (fun r4 H4 q4 => ?_)
    obtain ⟨v4, m4, γ4, t4, rfl, hv4, S, hW⟩ := q4
    show wp _ _ _ _ _ [.int (iI v4)] _ _
    exact wp_iret rfl rfl ⟨_, _, _, _, rfl, hv4, S, hW⟩
  have hW := hW.2 c3
  by_cases c5 : x1 = 2
  · have hW := hW.1 c5
    refine wp_tswI rfl (by rw [c5]; decide) (by rw [c5]; decide) 2 (by rw [c5]; decide) rfl rfl ?_
    refine wp_g (n := 1) (pc' := 46) (L' := [some (.ref 0), some (.int (iI x1))]) (st' := [.ref 0]) rfl ?_
    refine wp_getf (v := .ref 99) rfl rfl (S.cell 0 (nc rfl)) (by decide) rfl ?_
    refine wp_cv (As := []) (rest := []) rfl rfl (S.cell 99 (nc rfl)) (by decide) rfl rfl rfl (Nat.le_of_ble_eq_true rfl) (Nat.le_of_ble_eq_true rfl) (hW _ S) (fun r6 H6 q6 => ?_)
    obtain ⟨v6, m6, γ6, t6, rfl, hv6, S, hW⟩ := q6
    show wp _ _ _ _ _ [.int (iI v6)] _ _
    exact wp_iret rfl rfl ⟨_, _, _, _, rfl, hv6, S, hW⟩
  have hW := hW.2 c5
  by_cases c7 : x1 = 3
  · have hW := hW.1 c7
    refine wp_tswI rfl (by rw [c7]; decide) (by rw [c7]; decide) 3 (by rw [c7]; decide) rfl rfl ?_
    refine wp_g (n := 1) (pc' := 54) (L' := [some (.ref 0), some (.int (iI x1))]) (st' := [.ref 0]) rfl ?_
    refine wp_getf (v := .ref 101) rfl rfl (S.cell 0 (nc rfl)) (by decide) rfl ?_
    refine wp_cv (As := []) (rest := []) rfl rfl (S.cell 101 (nc rfl)) (by decide) rfl rfl rfl (Nat.le_of_ble_eq_true rfl) (Nat.le_of_ble_eq_true rfl) (hW _ S) (fun r8 H8 q8 => ?_)
    obtain ⟨v8, m8, γ8, t8, rfl, hv8, S, hW⟩ := q8
    show wp _ _ _ _ _ [.int (iI v8)] _ _
    exact wp_iret rfl rfl ⟨_, _, _, _, rfl, hv8, S, hW⟩
  have hW := hW.2 c7
  refine wp_tswO rfl hx1.1 hx1.2 (ts (ts (ts (ts (ts0 (z := x1) (lo := 0) (a := (-1)) (by decide)) c1 (by decide : (0 : Int) = (-1) + 1)) c3 (by decide : (1 : Int) = 0 + 1)) c5 (by decide : (2 : Int) = 1 + 1)) c7 (by decide : (3 : Int) = 2 + 1)) rfl ?_
  refine wp_g (n := 1) (pc' := 62) (L' := [some (.ref 0), some (.int (iI x1))]) (st' := [.int (iI (-1))]) rfl ?_
  exact wp_iret rfl rfl ⟨_, _, _, _, rfl, (by decide), S, hW⟩
abbrev W_X8_look (E : am_E) (k : Nat) (x1 : Int) (x2 : Int) (m : MM) (γ : GM) (t : am_H) (Q : Int → MM → GM → am_H → Prop) : Prop := (TA E k 184 [.ref 0, .int (iI x1)] m γ t (fun o1 m1 γ1 t1 => ((o1 = none → (Q (-2) m1 γ1 t1)) ∧ (∀ a1, o1 = some a1 → (isg a1 ∧ ((x2 = 0 → (TI E k 25 [.ref a1] m1 γ1 t1 (fun v3 m3 γ3 t3 => (Q v3 m3 γ3 t3)))) ∧ (¬ x2 = 0 → ((x2 = 1 → (TI E k 26 [.ref a1] m1 γ1 t1 (fun v5 m5 γ5 t5 => (Q v5 m5 γ5 t5)))) ∧ (¬ x2 = 1 → ((x2 = 2 → (TI E k 28 [.ref a1] m1 γ1 t1 (fun v7 m7 γ7 t7 => (Q v7 m7 γ7 t7)))) ∧ (¬ x2 = 2 → ((x2 = 3 → (TI E k 41 [.ref a1] m1 γ1 t1 (fun v9 m9 γ9 t9 => (Q v9 m9 γ9 t9)))) ∧ (¬ x2 = 3 → ((x2 = 4 → (TI E k 40 [.ref a1, .int (iI 1)] m1 γ1 t1 (fun v11 m11 γ11 t11 => (Q v11 m11 γ11 t11)))) ∧ (¬ x2 = 4 → ((x2 = 5 → (TI E k 40 [.ref a1, .int (iI 2)] m1 γ1 t1 (fun v13 m13 γ13 t13 => (Q v13 m13 γ13 t13)))) ∧ (¬ x2 = 5 → ((x2 = 6 → (TI E k 40 [.ref a1, .int (iI 3)] m1 γ1 t1 (fun v15 m15 γ15 t15 => (Q v15 m15 γ15 t15)))) ∧ (¬ x2 = 6 → ((x2 = 7 → (TI E k 189 [.ref 0, .int (iI x1)] m1 γ1 t1 (fun v17 m17 γ17 t17 => (Q v17 m17 γ17 t17)))) ∧ (¬ x2 = 7 → ((x2 = 8 → (TA E k 186 [.ref 0, .ref a1] m1 γ1 t1 (fun o19 m19 γ19 t19 => o19 = some 10 ∧ (TI E k 123 [.ref 10] m19 γ19 t19 (fun v20 m20 γ20 t20 => (Q v20 m20 γ20 t20)))))) ∧ (¬ x2 = 8 → (Q (-2) m1 γ1 t1))))))))))))))))))))))))
theorem vc_X8_look {E : am_E} {k : Nat} {x1 : Int} {x2 : Int} {m : MM} {γ : GM} {t : am_H} {Q : Int → MM → GM → am_H → Prop} (hx1 : rJ x1) (hx2 : rJ x2) (hW : W_X8_look E k x1 x2 m γ t Q) : TI E (k + 1) 134 [.ref 0, .int (iI x1), .int (iI x2)] m γ t Q := by
  unfold W_X8_look at hW
  intro h S
  refine wp_g (n := 2) (pc' := 2) (L' := [some (.ref 0), some (.int (iI x1)), some (.int (iI x2)), none]) (st' := [.int (iI x1), .ref 0]) rfl ?_
  refine wp_cv (As := [.int (iI x1)]) (rest := []) rfl rfl (S.cell 0 (nc rfl)) (by decide) rfl rfl rfl (Nat.le_of_ble_eq_true rfl) (Nat.le_of_ble_eq_true rfl) (hW _ S) (fun r1 H1 q1 => ?_)
  obtain ⟨o1, m1, γ1, t1, rfl, S, hW⟩ := q1
  cases o1 with
  | none =>
    have hW := hW.1 rfl
    show wp _ _ _ _ _ [.null] _ _
    refine wp_g (n := 2) (pc' := 7) (L' := [some (.ref 0), some (.int (iI x1)), some (.int (iI x2)), some (.null)]) (st' := [.null]) rfl ?_
    refine wp_g (n := 1) (pc' := 10) (L' := [some (.ref 0), some (.int (iI x1)), some (.int (iI x2)), some (.null)]) (st' := []) rfl ?_
    refine wp_g (n := 1) (pc' := 12) (L' := [some (.ref 0), some (.int (iI x1)), some (.int (iI x2)), some (.null)]) (st' := [.int (iI (-2))]) rfl ?_
    exact wp_iret rfl rfl ⟨_, _, _, _, rfl, (by decide), S, hW⟩
  | some a1 =>
    obtain ⟨hg1, hW⟩ := hW.2 _ rfl
    show wp _ _ _ _ _ [.ref a1] _ _
    refine wp_g (n := 2) (pc' := 7) (L' := [some (.ref 0), some (.int (iI x1)), some (.int (iI x2)), some (.ref a1)]) (st' := [.ref a1]) rfl ?_
    refine wp_g (n := 1) (pc' := 13) (L' := [some (.ref 0), some (.int (iI x1)), some (.int (iI x2)), some (.ref a1)]) (st' := []) rfl ?_
    refine wp_g (n := 1) (pc' := 14) (L' := [some (.ref 0), some (.int (iI x1)), some (.int (iI x2)), some (.ref a1)]) (st' := [.int (iI x2)]) rfl ?_
    by_cases c2 : x2 = 0
    · have hW := hW.1 c2
      refine wp_tswI rfl (by rw [c2]; decide) (by rw [c2]; decide) 0 (by rw [c2]; decide) rfl rfl ?_
      refine wp_g (n := 1) (pc' := 65) (L' := [some (.ref 0), some (.int (iI x1)), some (.int (iI x2)), some (.ref a1)]) (st' := [.ref a1]) rfl ?_
      refine wp_cv (As := []) (rest := []) rfl rfl (S.gg a1 hg1).obj (isg_lt hg1) rfl rfl rfl (Nat.le_of_ble_eq_true rfl) (Nat.le_of_ble_eq_true rfl) (hW _ S) (fun r3 H3 q3 => ?_)
      obtain ⟨v3, m3, γ3, t3, rfl, hv3, S, hW⟩ := q3
      show wp _ _ _ _ _ [.int (iI v3)] _ _
      exact wp_iret rfl rfl ⟨_, _, _, _, rfl, hv3, S, hW⟩
    have hW := hW.2 c2
    by_cases c4 : x2 = 1
    · have hW := hW.1 c4
      refine wp_tswI rfl (by rw [c4]; decide) (by rw [c4]; decide) 1 (by rw [c4]; decide) rfl rfl ?_
      refine wp_g (n := 1) (pc' := 70) (L' := [some (.ref 0), some (.int (iI x1)), some (.int (iI x2)), some (.ref a1)]) (st' := [.ref a1]) rfl ?_
      refine wp_cv (As := []) (rest := []) rfl rfl (S.gg a1 hg1).obj (isg_lt hg1) rfl rfl rfl (Nat.le_of_ble_eq_true rfl) (Nat.le_of_ble_eq_true rfl) (hW _ S) (fun r5 H5 q5 => ?_)
      obtain ⟨v5, m5, γ5, t5, rfl, hv5, S, hW⟩ := q5
      show wp _ _ _ _ _ [.int (iI v5)] _ _
      exact wp_iret rfl rfl ⟨_, _, _, _, rfl, hv5, S, hW⟩
    have hW := hW.2 c4
    by_cases c6 : x2 = 2
    · have hW := hW.1 c6
      refine wp_tswI rfl (by rw [c6]; decide) (by rw [c6]; decide) 2 (by rw [c6]; decide) rfl rfl ?_
      refine wp_g (n := 1) (pc' := 75) (L' := [some (.ref 0), some (.int (iI x1)), some (.int (iI x2)), some (.ref a1)]) (st' := [.ref a1]) rfl ?_
      refine wp_cv (As := []) (rest := []) rfl rfl (S.gg a1 hg1).obj (isg_lt hg1) rfl rfl rfl (Nat.le_of_ble_eq_true rfl) (Nat.le_of_ble_eq_true rfl) (hW _ S) (fun r7 H7 q7 => ?_)
      obtain ⟨v7, m7, γ7, t7, rfl, hv7, S, hW⟩ := q7
      show wp _ _ _ _ _ [.int (iI v7)] _ _
      exact wp_iret rfl rfl ⟨_, _, _, _, rfl, hv7, S, hW⟩
    have hW := hW.2 c6
    by_cases c8 : x2 = 3
    · have hW := hW.1 c8
      refine wp_tswI rfl (by rw [c8]; decide) (by rw [c8]; decide) 3 (by rw [c8]; decide) rfl rfl ?_
      refine wp_g (n := 1) (pc' := 80) (L' := [some (.ref 0), some (.int (iI x1)), some (.int (iI x2)), some (.ref a1)]) (st' := [.ref a1]) rfl ?_
      refine wp_cv (As := []) (rest := []) rfl rfl (S.gg a1 hg1).obj (isg_lt hg1) rfl rfl rfl (Nat.le_of_ble_eq_true rfl) (Nat.le_of_ble_eq_true rfl) (hW _ S) (fun r9 H9 q9 => ?_)
      obtain ⟨v9, m9, γ9, t9, rfl, hv9, S, hW⟩ := q9
      show wp _ _ _ _ _ [.int (iI v9)] _ _
      exact wp_iret rfl rfl ⟨_, _, _, _, rfl, hv9, S, hW⟩
    have hW := hW.2 c8
    by_cases c10 : x2 = 4
    · have hW := hW.1 c10
      refine wp_tswI rfl (by rw [c10]; decide) (by rw [c10]; decide) 4 (by rw [c10]; decide) rfl rfl ?_
      refine wp_g (n := 2) (pc' := 86) (L' := [some (.ref 0), some (.int (iI x1)), some (.int (iI x2)), some (.ref a1)]) (st' := [.int (iI 1), .ref a1]) rfl ?_
      refine wp_cv (As := [.int (iI 1)]) (rest := []) rfl rfl (S.gg a1 hg1).obj (isg_lt hg1) rfl rfl rfl (Nat.le_of_ble_eq_true rfl) (Nat.le_of_ble_eq_true rfl) (hW _ S) (fun r11 H11 q11 => ?_)
      obtain ⟨v11, m11, γ11, t11, rfl, hv11, S, hW⟩ := q11
      show wp _ _ _ _ _ [.int (iI v11)] _ _
      exact wp_iret rfl rfl ⟨_, _, _, _, rfl, hv11, S, hW⟩
    have hW := hW.2 c10
    by_cases c12 : x2 = 5
    · have hW := hW.1 c12
      refine wp_tswI rfl (by rw [c12]; decide) (by rw [c12]; decide) 5 (by rw [c12]; decide) rfl rfl ?_
      refine wp_g (n := 2) (pc' := 92) (L' := [some (.ref 0), some (.int (iI x1)), some (.int (iI x2)), some (.ref a1)]) (st' := [.int (iI 2), .ref a1]) rfl ?_
      refine wp_cv (As := [.int (iI 2)]) (rest := []) rfl rfl (S.gg a1 hg1).obj (isg_lt hg1) rfl rfl rfl (Nat.le_of_ble_eq_true rfl) (Nat.le_of_ble_eq_true rfl) (hW _ S) (fun r13 H13 q13 => ?_)
      obtain ⟨v13, m13, γ13, t13, rfl, hv13, S, hW⟩ := q13
      show wp _ _ _ _ _ [.int (iI v13)] _ _
      exact wp_iret rfl rfl ⟨_, _, _, _, rfl, hv13, S, hW⟩
    have hW := hW.2 c12
    by_cases c14 : x2 = 6
    · have hW := hW.1 c14
      refine wp_tswI rfl (by rw [c14]; decide) (by rw [c14]; decide) 6 (by rw [c14]; decide) rfl rfl ?_
      refine wp_g (n := 2) (pc' := 98) (L' := [some (.ref 0), some (.int (iI x1)), some (.int (iI x2)), some (.ref a1)]) (st' := [.int (iI 3), .ref a1]) rfl ?_
      refine wp_cv (As := [.int (iI 3)]) (rest := []) rfl rfl (S.gg a1 hg1).obj (isg_lt hg1) rfl rfl rfl (Nat.le_of_ble_eq_true rfl) (Nat.le_of_ble_eq_true rfl) (hW _ S) (fun r15 H15 q15 => ?_)
      obtain ⟨v15, m15, γ15, t15, rfl, hv15, S, hW⟩ := q15
      show wp _ _ _ _ _ [.int (iI v15)] _ _
      exact wp_iret rfl rfl ⟨_, _, _, _, rfl, hv15, S, hW⟩
    have hW := hW.2 c14
    by_cases c16 : x2 = 7
    · have hW := hW.1 c16
      refine wp_tswI rfl (by rw [c16]; decide) (by rw [c16]; decide) 7 (by rw [c16]; decide) rfl rfl ?_
      refine wp_g (n := 2) (pc' := 104) (L' := [some (.ref 0), some (.int (iI x1)), some (.int (iI x2)), some (.ref a1)]) (st' := [.int (iI x1), .ref 0]) rfl ?_
      refine wp_cv (As := [.int (iI x1)]) (rest := []) rfl rfl (S.cell 0 (nc rfl)) (by decide) rfl rfl rfl (Nat.le_of_ble_eq_true rfl) (Nat.le_of_ble_eq_true rfl) (hW _ S) (fun r17 H17 q17 => ?_)
      obtain ⟨v17, m17, γ17, t17, rfl, hv17, S, hW⟩ := q17
      show wp _ _ _ _ _ [.int (iI v17)] _ _
      exact wp_iret rfl rfl ⟨_, _, _, _, rfl, hv17, S, hW⟩
    have hW := hW.2 c16
    by_cases c18 : x2 = 8
    · have hW := hW.1 c18
      refine wp_tswI rfl (by rw [c18]; decide) (by rw [c18]; decide) 8 (by rw [c18]; decide) rfl rfl ?_
      refine wp_g (n := 2) (pc' := 110) (L' := [some (.ref 0), some (.int (iI x1)), some (.int (iI x2)), some (.ref a1)]) (st' := [.ref a1, .ref 0]) rfl ?_
      refine wp_cv (As := [.ref a1]) (rest := []) rfl rfl (S.cell 0 (nc rfl)) (by decide) rfl rfl rfl (Nat.le_of_ble_eq_true rfl) (Nat.le_of_ble_eq_true rfl) (hW _ S) (fun r19 H19 q19 => ?_)
      obtain ⟨o19, m19, γ19, t19, rfl, S, hW⟩ := q19
      obtain ⟨rfl, hW⟩ := hW
      show wp _ _ _ _ _ [.ref 10] _ _
      refine wp_cv (As := []) (rest := []) rfl rfl (S.cell 10 (nc rfl)) (by decide) rfl rfl rfl (Nat.le_of_ble_eq_true rfl) (Nat.le_of_ble_eq_true rfl) (hW _ S) (fun r20 H20 q20 => ?_)
      obtain ⟨v20, m20, γ20, t20, rfl, hv20, S, hW⟩ := q20
      show wp _ _ _ _ _ [.int (iI v20)] _ _
      exact wp_iret rfl rfl ⟨_, _, _, _, rfl, hv20, S, hW⟩
    have hW := hW.2 c18
    refine wp_tswO rfl hx2.1 hx2.2 (ts (ts (ts (ts (ts (ts (ts (ts (ts (ts0 (z := x2) (lo := 0) (a := (-1)) (by decide)) c2 (by decide : (0 : Int) = (-1) + 1)) c4 (by decide : (1 : Int) = 0 + 1)) c6 (by decide : (2 : Int) = 1 + 1)) c8 (by decide : (3 : Int) = 2 + 1)) c10 (by decide : (4 : Int) = 3 + 1)) c12 (by decide : (5 : Int) = 4 + 1)) c14 (by decide : (6 : Int) = 5 + 1)) c16 (by decide : (7 : Int) = 6 + 1)) c18 (by decide : (8 : Int) = 7 + 1)) rfl ?_
    refine wp_g (n := 1) (pc' := 119) (L' := [some (.ref 0), some (.int (iI x1)), some (.int (iI x2)), some (.ref a1)]) (st' := [.int (iI (-2))]) rfl ?_
    exact wp_iret rfl rfl ⟨_, _, _, _, rfl, (by decide), S, hW⟩
abbrev W_X8_edge (E : am_E) (k : Nat) (x1 : Int) (x2 : Int) (m : MM) (γ : GM) (t : am_H) (Q : Int → MM → GM → am_H → Prop) : Prop := (TA E k 184 [.ref 0, .int (iI x1)] m γ t (fun o1 m1 γ1 t1 => ((o1 = none → (Q (-2) m1 γ1 t1)) ∧ (∀ a1, o1 = some a1 → (isg a1 ∧ (TI E k 29 [.ref a1, .int (iI x2)] m1 γ1 t1 (fun v2 m2 γ2 t2 => (((v2 = 0) → (Q (-2) m2 γ2 t2)) ∧ (¬ (v2 = 0) → (TI E k 33 [.ref a1, .int (iI x2)] m2 γ2 t2 (fun v4 m4 γ4 t4 => (Q v4 m4 γ4 t4))))))))))))
theorem vc_X8_edge {E : am_E} {k : Nat} {x1 : Int} {x2 : Int} {m : MM} {γ : GM} {t : am_H} {Q : Int → MM → GM → am_H → Prop} (hx1 : rJ x1) (hx2 : rJ x2) (hW : W_X8_edge E k x1 x2 m γ t Q) : TI E (k + 1) 135 [.ref 0, .int (iI x1), .int (iI x2)] m γ t Q := by
  unfold W_X8_edge at hW
  intro h S
  refine wp_g (n := 2) (pc' := 2) (L' := [some (.ref 0), some (.int (iI x1)), some (.int (iI x2)), none]) (st' := [.int (iI x1), .ref 0]) rfl ?_
  refine wp_cv (As := [.int (iI x1)]) (rest := []) rfl rfl (S.cell 0 (nc rfl)) (by decide) rfl rfl rfl (Nat.le_of_ble_eq_true rfl) (Nat.le_of_ble_eq_true rfl) (hW _ S) (fun r1 H1 q1 => ?_)
  obtain ⟨o1, m1, γ1, t1, rfl, S, hW⟩ := q1
  cases o1 with
  | none =>
    have hW := hW.1 rfl
    show wp _ _ _ _ _ [.null] _ _
    refine wp_g (n := 2) (pc' := 7) (L' := [some (.ref 0), some (.int (iI x1)), some (.int (iI x2)), some (.null)]) (st' := [.null]) rfl ?_
    refine wp_g (n := 1) (pc' := 18) (L' := [some (.ref 0), some (.int (iI x1)), some (.int (iI x2)), some (.null)]) (st' := []) rfl ?_
    refine wp_g (n := 2) (pc' := 28) (L' := [some (.ref 0), some (.int (iI x1)), some (.int (iI x2)), some (.null)]) (st' := [.int (iI (-2))]) rfl ?_
    exact wp_iret rfl rfl ⟨_, _, _, _, rfl, (by decide), S, hW⟩
  | some a1 =>
    obtain ⟨hg1, hW⟩ := hW.2 _ rfl
    show wp _ _ _ _ _ [.ref a1] _ _
    refine wp_g (n := 2) (pc' := 7) (L' := [some (.ref 0), some (.int (iI x1)), some (.int (iI x2)), some (.ref a1)]) (st' := [.ref a1]) rfl ?_
    refine wp_g (n := 1) (pc' := 10) (L' := [some (.ref 0), some (.int (iI x1)), some (.int (iI x2)), some (.ref a1)]) (st' := []) rfl ?_
    refine wp_g (n := 2) (pc' := 12) (L' := [some (.ref 0), some (.int (iI x1)), some (.int (iI x2)), some (.ref a1)]) (st' := [.int (iI x2), .ref a1]) rfl ?_
    refine wp_cv (As := [.int (iI x2)]) (rest := []) rfl rfl (S.gg a1 hg1).obj (isg_lt hg1) rfl rfl rfl (Nat.le_of_ble_eq_true rfl) (Nat.le_of_ble_eq_true rfl) (hW _ S) (fun r2 H2 q2 => ?_)
    obtain ⟨v2, m2, γ2, t2, rfl, hv2, S, hW⟩ := q2
    show wp _ _ _ _ _ [.int (iI v2)] _ _
    refine wp_ifI (a := v2) rfl rfl hv2.1 hv2.2 (fun c3 => ?_) (fun c3 => ?_)
    · have dc3 := c3
      have hW := hW.2 dc3
      refine wp_g (n := 2) (pc' := 25) (L' := [some (.ref 0), some (.int (iI x1)), some (.int (iI x2)), some (.ref a1)]) (st' := [.int (iI x2), .ref a1]) rfl ?_
      refine wp_cv (As := [.int (iI x2)]) (rest := []) rfl rfl (S.gg a1 hg1).obj (isg_lt hg1) rfl rfl rfl (Nat.le_of_ble_eq_true rfl) (Nat.le_of_ble_eq_true rfl) (hW _ S) (fun r4 H4 q4 => ?_)
      obtain ⟨v4, m4, γ4, t4, rfl, hv4, S, hW⟩ := q4
      show wp _ _ _ _ _ [.int (iI v4)] _ _
      exact wp_iret rfl rfl ⟨_, _, _, _, rfl, hv4, S, hW⟩
    · have dc3 := (Classical.not_not.mp c3)
      have hW := hW.1 dc3
      refine wp_g (n := 2) (pc' := 28) (L' := [some (.ref 0), some (.int (iI x1)), some (.int (iI x2)), some (.ref a1)]) (st' := [.int (iI (-2))]) rfl ?_
      exact wp_iret rfl rfl ⟨_, _, _, _, rfl, (by decide), S, hW⟩
abbrev W_X8_name (E : am_E) (k : Nat) (x1 : Int) (x2 : Int) (x3 : Int) (m : MM) (γ : GM) (t : am_H) (Q : Int → MM → GM → am_H → Prop) : Prop := (TA E k 184 [.ref 0, .int (iI x1)] m γ t (fun o1 m1 γ1 t1 => ((o1 = none → (Q (-2) m1 γ1 t1)) ∧ (∀ a1, o1 = some a1 → (isg a1 ∧ (TI E k 29 [.ref a1, .int (iI x2)] m1 γ1 t1 (fun v2 m2 γ2 t2 => (((v2 = 0) → (Q (-2) m2 γ2 t2)) ∧ (¬ (v2 = 0) → (TI E k 177 [.int (iI x3)] m2 γ2 t2 (fun v4 m4 γ4 t4 => (((v4 = 0) → (Q (-2) m4 γ4 t4)) ∧ (¬ (v4 = 0) → (((x3 = 0) → (TI E k 35 [.ref a1, .int (iI x2)] m4 γ4 t4 (fun v8 m8 γ8 t8 => (Q v8 m8 γ8 t8)))) ∧ (¬ (x3 = 0) → (TI E k 36 [.ref a1, .int (iI x2)] m4 γ4 t4 (fun v7 m7 γ7 t7 => (Q v7 m7 γ7 t7))))))))))))))))))
theorem vc_X8_name {E : am_E} {k : Nat} {x1 : Int} {x2 : Int} {x3 : Int} {m : MM} {γ : GM} {t : am_H} {Q : Int → MM → GM → am_H → Prop} (hx1 : rJ x1) (hx2 : rJ x2) (hx3 : rJ x3) (hW : W_X8_name E k x1 x2 x3 m γ t Q) : TI E (k + 1) 136 [.ref 0, .int (iI x1), .int (iI x2), .int (iI x3)] m γ t Q := by
  unfold W_X8_name at hW
  intro h S
  refine wp_g (n := 2) (pc' := 2) (L' := [some (.ref 0), some (.int (iI x1)), some (.int (iI x2)), some (.int (iI x3)), none]) (st' := [.int (iI x1), .ref 0]) rfl ?_
  refine wp_cv (As := [.int (iI x1)]) (rest := []) rfl rfl (S.cell 0 (nc rfl)) (by decide) rfl rfl rfl (Nat.le_of_ble_eq_true rfl) (Nat.le_of_ble_eq_true rfl) (hW _ S) (fun r1 H1 q1 => ?_)
  obtain ⟨o1, m1, γ1, t1, rfl, S, hW⟩ := q1
  cases o1 with
  | none =>
    have hW := hW.1 rfl
    show wp _ _ _ _ _ [.null] _ _
    refine wp_g (n := 2) (pc' := 9) (L' := [some (.ref 0), some (.int (iI x1)), some (.int (iI x2)), some (.int (iI x3)), some (.null)]) (st' := [.null]) rfl ?_
    refine wp_g (n := 1) (pc' := 28) (L' := [some (.ref 0), some (.int (iI x1)), some (.int (iI x2)), some (.int (iI x3)), some (.null)]) (st' := []) rfl ?_
    refine wp_g (n := 1) (pc' := 30) (L' := [some (.ref 0), some (.int (iI x1)), some (.int (iI x2)), some (.int (iI x3)), some (.null)]) (st' := [.int (iI (-2))]) rfl ?_
    exact wp_iret rfl rfl ⟨_, _, _, _, rfl, (by decide), S, hW⟩
  | some a1 =>
    obtain ⟨hg1, hW⟩ := hW.2 _ rfl
    show wp _ _ _ _ _ [.ref a1] _ _
    refine wp_g (n := 2) (pc' := 9) (L' := [some (.ref 0), some (.int (iI x1)), some (.int (iI x2)), some (.int (iI x3)), some (.ref a1)]) (st' := [.ref a1]) rfl ?_
    refine wp_g (n := 1) (pc' := 12) (L' := [some (.ref 0), some (.int (iI x1)), some (.int (iI x2)), some (.int (iI x3)), some (.ref a1)]) (st' := []) rfl ?_
    refine wp_g (n := 2) (pc' := 15) (L' := [some (.ref 0), some (.int (iI x1)), some (.int (iI x2)), some (.int (iI x3)), some (.ref a1)]) (st' := [.int (iI x2), .ref a1]) rfl ?_
    refine wp_cv (As := [.int (iI x2)]) (rest := []) rfl rfl (S.gg a1 hg1).obj (isg_lt hg1) rfl rfl rfl (Nat.le_of_ble_eq_true rfl) (Nat.le_of_ble_eq_true rfl) (hW _ S) (fun r2 H2 q2 => ?_)
    obtain ⟨v2, m2, γ2, t2, rfl, hv2, S, hW⟩ := q2
    show wp _ _ _ _ _ [.int (iI v2)] _ _
    refine wp_ifI (a := v2) rfl rfl hv2.1 hv2.2 (fun c3 => ?_) (fun c3 => ?_)
    · have dc3 := c3
      have hW := hW.1 dc3
      refine wp_g (n := 1) (pc' := 30) (L' := [some (.ref 0), some (.int (iI x1)), some (.int (iI x2)), some (.int (iI x3)), some (.ref a1)]) (st' := [.int (iI (-2))]) rfl ?_
      exact wp_iret rfl rfl ⟨_, _, _, _, rfl, (by decide), S, hW⟩
    · have dc3 := c3
      have hW := hW.2 dc3
      refine wp_g (n := 1) (pc' := 22) (L' := [some (.ref 0), some (.int (iI x1)), some (.int (iI x2)), some (.int (iI x3)), some (.ref a1)]) (st' := [.int (iI x3)]) rfl ?_
      refine wp_cs (As := [.int (iI x3)]) (rest := []) rfl rfl rfl rfl (Nat.le_of_ble_eq_true rfl) (Nat.le_of_ble_eq_true rfl) (hW _ S) (fun r4 H4 q4 => ?_)
      obtain ⟨v4, m4, γ4, t4, rfl, hv4, S, hW⟩ := q4
      show wp _ _ _ _ _ [.int (iI v4)] _ _
      refine wp_ifI (a := v4) rfl rfl hv4.1 hv4.2 (fun c5 => ?_) (fun c5 => ?_)
      · have dc5 := c5
        have hW := hW.2 dc5
        refine wp_g (n := 1) (pc' := 32) (L' := [some (.ref 0), some (.int (iI x1)), some (.int (iI x2)), some (.int (iI x3)), some (.ref a1)]) (st' := [.int (iI x3)]) rfl ?_
        refine wp_ifI (a := x3) rfl rfl hx3.1 hx3.2 (fun c6 => ?_) (fun c6 => ?_)
        · have dc6 := c6
          have hW := hW.2 dc6
          refine wp_g (n := 2) (pc' := 47) (L' := [some (.ref 0), some (.int (iI x1)), some (.int (iI x2)), some (.int (iI x3)), some (.ref a1)]) (st' := [.int (iI x2), .ref a1]) rfl ?_
          refine wp_cv (As := [.int (iI x2)]) (rest := []) rfl rfl (S.gg a1 hg1).obj (isg_lt hg1) rfl rfl rfl (Nat.le_of_ble_eq_true rfl) (Nat.le_of_ble_eq_true rfl) (hW _ S) (fun r7 H7 q7 => ?_)
          obtain ⟨v7, m7, γ7, t7, rfl, hv7, S, hW⟩ := q7
          show wp _ _ _ _ _ [.int (iI v7)] _ _
          exact wp_iret rfl rfl ⟨_, _, _, _, rfl, hv7, S, hW⟩
        · have dc6 := (Classical.not_not.mp c6)
          have hW := hW.1 dc6
          refine wp_g (n := 2) (pc' := 38) (L' := [some (.ref 0), some (.int (iI x1)), some (.int (iI x2)), some (.int (iI x3)), some (.ref a1)]) (st' := [.int (iI x2), .ref a1]) rfl ?_
          refine wp_cv (As := [.int (iI x2)]) (rest := []) rfl rfl (S.gg a1 hg1).obj (isg_lt hg1) rfl rfl rfl (Nat.le_of_ble_eq_true rfl) (Nat.le_of_ble_eq_true rfl) (hW _ S) (fun r8 H8 q8 => ?_)
          obtain ⟨v8, m8, γ8, t8, rfl, hv8, S, hW⟩ := q8
          show wp _ _ _ _ _ [.int (iI v8)] _ _
          refine wp_g (n := 1) (pc' := 50) (L' := [some (.ref 0), some (.int (iI x1)), some (.int (iI x2)), some (.int (iI x3)), some (.ref a1)]) (st' := [.int (iI v8)]) rfl ?_
          exact wp_iret rfl rfl ⟨_, _, _, _, rfl, hv8, S, hW⟩
      · have dc5 := (Classical.not_not.mp c5)
        have hW := hW.1 dc5
        refine wp_g (n := 1) (pc' := 30) (L' := [some (.ref 0), some (.int (iI x1)), some (.int (iI x2)), some (.int (iI x3)), some (.ref a1)]) (st' := [.int (iI (-2))]) rfl ?_
        exact wp_iret rfl rfl ⟨_, _, _, _, rfl, (by decide), S, hW⟩
abbrev W_X8_edgeOf (E : am_E) (k : Nat) (x1 : Int) (x2 : Int) (x3 : Int) (m : MM) (γ : GM) (t : am_H) (Q : Int → MM → GM → am_H → Prop) : Prop := (TA E k 184 [.ref 0, .int (iI x1)] m γ t (fun o1 m1 γ1 t1 => ((o1 = none → (Q (-2) m1 γ1 t1)) ∧ (∀ a1, o1 = some a1 → (isg a1 ∧ (TI E k 30 [.ref a1, .int (iI x2)] m1 γ1 t1 (fun v2 m2 γ2 t2 => (((v2 = 0) → (Q (-2) m2 γ2 t2)) ∧ (¬ (v2 = 0) → (TI E k 177 [.int (iI x3)] m2 γ2 t2 (fun v4 m4 γ4 t4 => (((v4 = 0) → (Q (-2) m4 γ4 t4)) ∧ (¬ (v4 = 0) → (TI E k 37 [.ref a1, .int (iI x2), .int (iI x3)] m4 γ4 t4 (fun v6 m6 γ6 t6 => (Q v6 m6 γ6 t6))))))))))))))))
theorem vc_X8_edgeOf {E : am_E} {k : Nat} {x1 : Int} {x2 : Int} {x3 : Int} {m : MM} {γ : GM} {t : am_H} {Q : Int → MM → GM → am_H → Prop} (hx1 : rJ x1) (hx2 : rJ x2) (hx3 : rJ x3) (hW : W_X8_edgeOf E k x1 x2 x3 m γ t Q) : TI E (k + 1) 137 [.ref 0, .int (iI x1), .int (iI x2), .int (iI x3)] m γ t Q := by
  unfold W_X8_edgeOf at hW
  intro h S
  refine wp_g (n := 2) (pc' := 2) (L' := [some (.ref 0), some (.int (iI x1)), some (.int (iI x2)), some (.int (iI x3)), none]) (st' := [.int (iI x1), .ref 0]) rfl ?_
  refine wp_cv (As := [.int (iI x1)]) (rest := []) rfl rfl (S.cell 0 (nc rfl)) (by decide) rfl rfl rfl (Nat.le_of_ble_eq_true rfl) (Nat.le_of_ble_eq_true rfl) (hW _ S) (fun r1 H1 q1 => ?_)
  obtain ⟨o1, m1, γ1, t1, rfl, S, hW⟩ := q1
  cases o1 with
  | none =>
    have hW := hW.1 rfl
    show wp _ _ _ _ _ [.null] _ _
    refine wp_g (n := 2) (pc' := 9) (L' := [some (.ref 0), some (.int (iI x1)), some (.int (iI x2)), some (.int (iI x3)), some (.null)]) (st' := [.null]) rfl ?_
    refine wp_g (n := 1) (pc' := 28) (L' := [some (.ref 0), some (.int (iI x1)), some (.int (iI x2)), some (.int (iI x3)), some (.null)]) (st' := []) rfl ?_
    refine wp_g (n := 1) (pc' := 30) (L' := [some (.ref 0), some (.int (iI x1)), some (.int (iI x2)), some (.int (iI x3)), some (.null)]) (st' := [.int (iI (-2))]) rfl ?_
    exact wp_iret rfl rfl ⟨_, _, _, _, rfl, (by decide), S, hW⟩
  | some a1 =>
    obtain ⟨hg1, hW⟩ := hW.2 _ rfl
    show wp _ _ _ _ _ [.ref a1] _ _
    refine wp_g (n := 2) (pc' := 9) (L' := [some (.ref 0), some (.int (iI x1)), some (.int (iI x2)), some (.int (iI x3)), some (.ref a1)]) (st' := [.ref a1]) rfl ?_
    refine wp_g (n := 1) (pc' := 12) (L' := [some (.ref 0), some (.int (iI x1)), some (.int (iI x2)), some (.int (iI x3)), some (.ref a1)]) (st' := []) rfl ?_
    refine wp_g (n := 2) (pc' := 15) (L' := [some (.ref 0), some (.int (iI x1)), some (.int (iI x2)), some (.int (iI x3)), some (.ref a1)]) (st' := [.int (iI x2), .ref a1]) rfl ?_
    refine wp_cv (As := [.int (iI x2)]) (rest := []) rfl rfl (S.gg a1 hg1).obj (isg_lt hg1) rfl rfl rfl (Nat.le_of_ble_eq_true rfl) (Nat.le_of_ble_eq_true rfl) (hW _ S) (fun r2 H2 q2 => ?_)
    obtain ⟨v2, m2, γ2, t2, rfl, hv2, S, hW⟩ := q2
    show wp _ _ _ _ _ [.int (iI v2)] _ _
    refine wp_ifI (a := v2) rfl rfl hv2.1 hv2.2 (fun c3 => ?_) (fun c3 => ?_)
    · have dc3 := c3
      have hW := hW.1 dc3
      refine wp_g (n := 1) (pc' := 30) (L' := [some (.ref 0), some (.int (iI x1)), some (.int (iI x2)), some (.int (iI x3)), some (.ref a1)]) (st' := [.int (iI (-2))]) rfl ?_
      exact wp_iret rfl rfl ⟨_, _, _, _, rfl, (by decide), S, hW⟩
    · have dc3 := c3
      have hW := hW.2 dc3
      refine wp_g (n := 1) (pc' := 22) (L' := [some (.ref 0), some (.int (iI x1)), some (.int (iI x2)), some (.int (iI x3)), some (.ref a1)]) (st' := [.int (iI x3)]) rfl ?_
      refine wp_cs (As := [.int (iI x3)]) (rest := []) rfl rfl rfl rfl (Nat.le_of_ble_eq_true rfl) (Nat.le_of_ble_eq_true rfl) (hW _ S) (fun r4 H4 q4 => ?_)
      obtain ⟨v4, m4, γ4, t4, rfl, hv4, S, hW⟩ := q4
      show wp _ _ _ _ _ [.int (iI v4)] _ _
      refine wp_ifI (a := v4) rfl rfl hv4.1 hv4.2 (fun c5 => ?_) (fun c5 => ?_)
      · have dc5 := c5
        have hW := hW.2 dc5
        refine wp_g (n := 3) (pc' := 35) (L' := [some (.ref 0), some (.int (iI x1)), some (.int (iI x2)), some (.int (iI x3)), some (.ref a1)]) (st' := [.int (iI x3), .int (iI x2), .ref a1]) rfl ?_
        refine wp_cv (As := [.int (iI x2), .int (iI x3)]) (rest := []) rfl rfl (S.gg a1 hg1).obj (isg_lt hg1) rfl rfl rfl (Nat.le_of_ble_eq_true rfl) (Nat.le_of_ble_eq_true rfl) (hW _ S) (fun r6 H6 q6 => ?_)
        obtain ⟨v6, m6, γ6, t6, rfl, hv6, S, hW⟩ := q6
        show wp _ _ _ _ _ [.int (iI v6)] _ _
        exact wp_iret rfl rfl ⟨_, _, _, _, rfl, hv6, S, hW⟩
      · have dc5 := (Classical.not_not.mp c5)
        have hW := hW.1 dc5
        refine wp_g (n := 1) (pc' := 30) (L' := [some (.ref 0), some (.int (iI x1)), some (.int (iI x2)), some (.int (iI x3)), some (.ref a1)]) (st' := [.int (iI (-2))]) rfl ?_
        exact wp_iret rfl rfl ⟨_, _, _, _, rfl, (by decide), S, hW⟩
abbrev W_X8_strand (E : am_E) (k : Nat) (x1 : Int) (x2 : Int) (x3 : Int) (m : MM) (γ : GM) (t : am_H) (Q : Int → MM → GM → am_H → Prop) : Prop := (TA E k 187 [.ref 0, .int (iI x1), .int (iI x2), .int (iI x3)] m γ t (fun o1 m1 γ1 t1 => ((o1 = none → (Q (-2) m1 γ1 t1)) ∧ (∀ a1, o1 = some a1 → (a1 = 10 ∧ (TI E k 101 [.ref 10, .int (iI ((4 * x2) + x3))] m1 γ1 t1 (fun v2 m2 γ2 t2 => (Q v2 m2 γ2 t2))))))))
theorem vc_X8_strand {E : am_E} {k : Nat} {x1 : Int} {x2 : Int} {x3 : Int} {m : MM} {γ : GM} {t : am_H} {Q : Int → MM → GM → am_H → Prop} (hx1 : rJ x1) (hx2 : rJ x2) (hx3 : rJ x3) (hW : W_X8_strand E k x1 x2 x3 m γ t Q) : TI E (k + 1) 138 [.ref 0, .int (iI x1), .int (iI x2), .int (iI x3)] m γ t Q := by
  unfold W_X8_strand at hW
  intro h S
  refine wp_g (n := 4) (pc' := 4) (L' := [some (.ref 0), some (.int (iI x1)), some (.int (iI x2)), some (.int (iI x3)), none]) (st' := [.int (iI x3), .int (iI x2), .int (iI x1), .ref 0]) rfl ?_
  refine wp_cv (As := [.int (iI x1), .int (iI x2), .int (iI x3)]) (rest := []) rfl rfl (S.cell 0 (nc rfl)) (by decide) rfl rfl rfl (Nat.le_of_ble_eq_true rfl) (Nat.le_of_ble_eq_true rfl) (hW _ S) (fun r1 H1 q1 => ?_)
  obtain ⟨o1, m1, γ1, t1, rfl, S, hW⟩ := q1
  cases o1 with
  | none =>
    have hW := hW.1 rfl
    show wp _ _ _ _ _ [.null] _ _
    refine wp_g (n := 2) (pc' := 11) (L' := [some (.ref 0), some (.int (iI x1)), some (.int (iI x2)), some (.int (iI x3)), some (.null)]) (st' := [.null]) rfl ?_
    refine wp_g (n := 1) (pc' := 14) (L' := [some (.ref 0), some (.int (iI x1)), some (.int (iI x2)), some (.int (iI x3)), some (.null)]) (st' := []) rfl ?_
    refine wp_g (n := 2) (pc' := 29) (L' := [some (.ref 0), some (.int (iI x1)), some (.int (iI x2)), some (.int (iI x3)), some (.null)]) (st' := [.int (iI (-2))]) rfl ?_
    exact wp_iret rfl rfl ⟨_, _, _, _, rfl, (by decide), S, hW⟩
  | some a1 =>
    obtain ⟨he1, hV1⟩ := hW.2 _ rfl
    subst he1
    have hW := hV1
    show wp _ _ _ _ _ [.ref 10] _ _
    refine wp_g (n := 2) (pc' := 11) (L' := [some (.ref 0), some (.int (iI x1)), some (.int (iI x2)), some (.int (iI x3)), some (.ref 10)]) (st' := [.ref 10]) rfl ?_
    refine wp_g (n := 1) (pc' := 19) (L' := [some (.ref 0), some (.int (iI x1)), some (.int (iI x2)), some (.int (iI x3)), some (.ref 10)]) (st' := []) rfl ?_
    refine wp_g (n := 3) (pc' := 23) (L' := [some (.ref 0), some (.int (iI x1)), some (.int (iI x2)), some (.int (iI x3)), some (.ref 10)]) (st' := [.int (iI x2), .int (iI 4), .ref 10]) rfl ?_
    refine wp_mul (a := 4) (b := x2) rfl ?_
    refine wp_g (n := 1) (pc' := 25) (L' := [some (.ref 0), some (.int (iI x1)), some (.int (iI x2)), some (.int (iI x3)), some (.ref 10)]) (st' := [.int (iI x3), .int (iI (4 * x2)), .ref 10]) rfl ?_
    refine wp_add (a := (4 * x2)) (b := x3) rfl ?_
    refine wp_cv (As := [.int (iI ((4 * x2) + x3))]) (rest := []) rfl rfl (S.cell 10 (nc rfl)) (by decide) rfl rfl rfl (Nat.le_of_ble_eq_true rfl) (Nat.le_of_ble_eq_true rfl) (hW _ S) (fun r2 H2 q2 => ?_)
    obtain ⟨v2, m2, γ2, t2, rfl, hv2, S, hW⟩ := q2
    show wp _ _ _ _ _ [.int (iI v2)] _ _
    exact wp_iret rfl rfl ⟨_, _, _, _, rfl, hv2, S, hW⟩
abbrev W_X8_place (E : am_E) (k : Nat) (x1 : Int) (x2 : Int) (x3 : Int) (m : MM) (γ : GM) (t : am_H) (Q : Int → MM → GM → am_H → Prop) : Prop := (TA E k 187 [.ref 0, .int (iI x1), .int (iI x2), .int (iI x3)] m γ t (fun o1 m1 γ1 t1 => ((o1 = none → (Q (-2) m1 γ1 t1)) ∧ (∀ a1, o1 = some a1 → (a1 = 10 ∧ (TI E k 102 [.ref 10, .int (iI ((4 * x2) + x3))] m1 γ1 t1 (fun v2 m2 γ2 t2 => (Q v2 m2 γ2 t2))))))))
theorem vc_X8_place {E : am_E} {k : Nat} {x1 : Int} {x2 : Int} {x3 : Int} {m : MM} {γ : GM} {t : am_H} {Q : Int → MM → GM → am_H → Prop} (hx1 : rJ x1) (hx2 : rJ x2) (hx3 : rJ x3) (hW : W_X8_place E k x1 x2 x3 m γ t Q) : TI E (k + 1) 139 [.ref 0, .int (iI x1), .int (iI x2), .int (iI x3)] m γ t Q := by
  unfold W_X8_place at hW
  intro h S
  refine wp_g (n := 4) (pc' := 4) (L' := [some (.ref 0), some (.int (iI x1)), some (.int (iI x2)), some (.int (iI x3)), none]) (st' := [.int (iI x3), .int (iI x2), .int (iI x1), .ref 0]) rfl ?_
  refine wp_cv (As := [.int (iI x1), .int (iI x2), .int (iI x3)]) (rest := []) rfl rfl (S.cell 0 (nc rfl)) (by decide) rfl rfl rfl (Nat.le_of_ble_eq_true rfl) (Nat.le_of_ble_eq_true rfl) (hW _ S) (fun r1 H1 q1 => ?_)
  obtain ⟨o1, m1, γ1, t1, rfl, S, hW⟩ := q1
  cases o1 with
  | none =>
    have hW := hW.1 rfl
    show wp _ _ _ _ _ [.null] _ _
    refine wp_g (n := 2) (pc' := 11) (L' := [some (.ref 0), some (.int (iI x1)), some (.int (iI x2)), some (.int (iI x3)), some (.null)]) (st' := [.null]) rfl ?_
    refine wp_g (n := 1) (pc' := 14) (L' := [some (.ref 0), some (.int (iI x1)), some (.int (iI x2)), some (.int (iI x3)), some (.null)]) (st' := []) rfl ?_
    refine wp_g (n := 2) (pc' := 29) (L' := [some (.ref 0), some (.int (iI x1)), some (.int (iI x2)), some (.int (iI x3)), some (.null)]) (st' := [.int (iI (-2))]) rfl ?_
    exact wp_iret rfl rfl ⟨_, _, _, _, rfl, (by decide), S, hW⟩
  | some a1 =>
    obtain ⟨he1, hV1⟩ := hW.2 _ rfl
    subst he1
    have hW := hV1
    show wp _ _ _ _ _ [.ref 10] _ _
    refine wp_g (n := 2) (pc' := 11) (L' := [some (.ref 0), some (.int (iI x1)), some (.int (iI x2)), some (.int (iI x3)), some (.ref 10)]) (st' := [.ref 10]) rfl ?_
    refine wp_g (n := 1) (pc' := 19) (L' := [some (.ref 0), some (.int (iI x1)), some (.int (iI x2)), some (.int (iI x3)), some (.ref 10)]) (st' := []) rfl ?_
    refine wp_g (n := 3) (pc' := 23) (L' := [some (.ref 0), some (.int (iI x1)), some (.int (iI x2)), some (.int (iI x3)), some (.ref 10)]) (st' := [.int (iI x2), .int (iI 4), .ref 10]) rfl ?_
    refine wp_mul (a := 4) (b := x2) rfl ?_
    refine wp_g (n := 1) (pc' := 25) (L' := [some (.ref 0), some (.int (iI x1)), some (.int (iI x2)), some (.int (iI x3)), some (.ref 10)]) (st' := [.int (iI x3), .int (iI (4 * x2)), .ref 10]) rfl ?_
    refine wp_add (a := (4 * x2)) (b := x3) rfl ?_
    refine wp_cv (As := [.int (iI ((4 * x2) + x3))]) (rest := []) rfl rfl (S.cell 10 (nc rfl)) (by decide) rfl rfl rfl (Nat.le_of_ble_eq_true rfl) (Nat.le_of_ble_eq_true rfl) (hW _ S) (fun r2 H2 q2 => ?_)
    obtain ⟨v2, m2, γ2, t2, rfl, hv2, S, hW⟩ := q2
    show wp _ _ _ _ _ [.int (iI v2)] _ _
    exact wp_iret rfl rfl ⟨_, _, _, _, rfl, hv2, S, hW⟩
abbrev W_X8_walk (E : am_E) (k : Nat) (x1 : Int) (x2 : Int) (x3 : Int) (m : MM) (γ : GM) (t : am_H) (Q : Int → MM → GM → am_H → Prop) : Prop := (TA E k 188 [.ref 0, .int (iI x1), .int (iI x2)] m γ t (fun o1 m1 γ1 t1 => ((o1 = none → (Q (-2) m1 γ1 t1)) ∧ (∀ a1, o1 = some a1 → (a1 = 10 ∧ (((x3 < 0) → (Q (-2) m1 γ1 t1)) ∧ (¬ (x3 < 0) → (TI E k 106 [.ref 10, .int (iI x2), .int (iI x3)] m1 γ1 t1 (fun v3 m3 γ3 t3 => (Q v3 m3 γ3 t3))))))))))
theorem vc_X8_walk {E : am_E} {k : Nat} {x1 : Int} {x2 : Int} {x3 : Int} {m : MM} {γ : GM} {t : am_H} {Q : Int → MM → GM → am_H → Prop} (hx1 : rJ x1) (hx2 : rJ x2) (hx3 : rJ x3) (hW : W_X8_walk E k x1 x2 x3 m γ t Q) : TI E (k + 1) 140 [.ref 0, .int (iI x1), .int (iI x2), .int (iI x3)] m γ t Q := by
  unfold W_X8_walk at hW
  intro h S
  refine wp_g (n := 3) (pc' := 3) (L' := [some (.ref 0), some (.int (iI x1)), some (.int (iI x2)), some (.int (iI x3)), none]) (st' := [.int (iI x2), .int (iI x1), .ref 0]) rfl ?_
  refine wp_cv (As := [.int (iI x1), .int (iI x2)]) (rest := []) rfl rfl (S.cell 0 (nc rfl)) (by decide) rfl rfl rfl (Nat.le_of_ble_eq_true rfl) (Nat.le_of_ble_eq_true rfl) (hW _ S) (fun r1 H1 q1 => ?_)
  obtain ⟨o1, m1, γ1, t1, rfl, S, hW⟩ := q1
  cases o1 with
  | none =>
    have hW := hW.1 rfl
    show wp _ _ _ _ _ [.null] _ _
    refine wp_g (n := 2) (pc' := 10) (L' := [some (.ref 0), some (.int (iI x1)), some (.int (iI x2)), some (.int (iI x3)), some (.null)]) (st' := [.null]) rfl ?_
    refine wp_g (n := 1) (pc' := 17) (L' := [some (.ref 0), some (.int (iI x1)), some (.int (iI x2)), some (.int (iI x3)), some (.null)]) (st' := []) rfl ?_
    refine wp_g (n := 2) (pc' := 29) (L' := [some (.ref 0), some (.int (iI x1)), some (.int (iI x2)), some (.int (iI x3)), some (.null)]) (st' := [.int (iI (-2))]) rfl ?_
    exact wp_iret rfl rfl ⟨_, _, _, _, rfl, (by decide), S, hW⟩
  | some a1 =>
    obtain ⟨he1, hV1⟩ := hW.2 _ rfl
    subst he1
    have hW := hV1
    show wp _ _ _ _ _ [.ref 10] _ _
    refine wp_g (n := 2) (pc' := 10) (L' := [some (.ref 0), some (.int (iI x1)), some (.int (iI x2)), some (.int (iI x3)), some (.ref 10)]) (st' := [.ref 10]) rfl ?_
    refine wp_g (n := 1) (pc' := 13) (L' := [some (.ref 0), some (.int (iI x1)), some (.int (iI x2)), some (.int (iI x3)), some (.ref 10)]) (st' := []) rfl ?_
    refine wp_g (n := 1) (pc' := 14) (L' := [some (.ref 0), some (.int (iI x1)), some (.int (iI x2)), some (.int (iI x3)), some (.ref 10)]) (st' := [.int (iI x3)]) rfl ?_
    refine wp_ifI (a := x3) rfl rfl hx3.1 hx3.2 (fun c2 => ?_) (fun c2 => ?_)
    · have dc2 := (Int.not_lt.mpr c2)
      have hW := hW.2 dc2
      refine wp_g (n := 3) (pc' := 26) (L' := [some (.ref 0), some (.int (iI x1)), some (.int (iI x2)), some (.int (iI x3)), some (.ref 10)]) (st' := [.int (iI x3), .int (iI x2), .ref 10]) rfl ?_
      refine wp_cv (As := [.int (iI x2), .int (iI x3)]) (rest := []) rfl rfl (S.cell 10 (nc rfl)) (by decide) rfl rfl rfl (Nat.le_of_ble_eq_true rfl) (Nat.le_of_ble_eq_true rfl) (hW _ S) (fun r3 H3 q3 => ?_)
      obtain ⟨v3, m3, γ3, t3, rfl, hv3, S, hW⟩ := q3
      show wp _ _ _ _ _ [.int (iI v3)] _ _
      exact wp_iret rfl rfl ⟨_, _, _, _, rfl, hv3, S, hW⟩
    · have dc2 := (Int.not_le.mp c2)
      have hW := hW.1 dc2
      refine wp_g (n := 2) (pc' := 29) (L' := [some (.ref 0), some (.int (iI x1)), some (.int (iI x2)), some (.int (iI x3)), some (.ref 10)]) (st' := [.int (iI (-2))]) rfl ?_
      exact wp_iret rfl rfl ⟨_, _, _, _, rfl, (by decide), S, hW⟩
abbrev W_X8_length (E : am_E) (k : Nat) (x1 : Int) (x2 : Int) (m : MM) (γ : GM) (t : am_H) (Q : Int → MM → GM → am_H → Prop) : Prop := (TA E k 188 [.ref 0, .int (iI x1), .int (iI x2)] m γ t (fun o1 m1 γ1 t1 => ((o1 = none → (Q (-2) m1 γ1 t1)) ∧ (∀ a1, o1 = some a1 → (a1 = 10 ∧ (TI E k 105 [.ref 10, .int (iI x2)] m1 γ1 t1 (fun v2 m2 γ2 t2 => (Q v2 m2 γ2 t2))))))))
theorem vc_X8_length {E : am_E} {k : Nat} {x1 : Int} {x2 : Int} {m : MM} {γ : GM} {t : am_H} {Q : Int → MM → GM → am_H → Prop} (hx1 : rJ x1) (hx2 : rJ x2) (hW : W_X8_length E k x1 x2 m γ t Q) : TI E (k + 1) 141 [.ref 0, .int (iI x1), .int (iI x2)] m γ t Q := by
  unfold W_X8_length at hW
  intro h S
  refine wp_g (n := 3) (pc' := 3) (L' := [some (.ref 0), some (.int (iI x1)), some (.int (iI x2)), none]) (st' := [.int (iI x2), .int (iI x1), .ref 0]) rfl ?_
  refine wp_cv (As := [.int (iI x1), .int (iI x2)]) (rest := []) rfl rfl (S.cell 0 (nc rfl)) (by decide) rfl rfl rfl (Nat.le_of_ble_eq_true rfl) (Nat.le_of_ble_eq_true rfl) (hW _ S) (fun r1 H1 q1 => ?_)
  obtain ⟨o1, m1, γ1, t1, rfl, S, hW⟩ := q1
  cases o1 with
  | none =>
    have hW := hW.1 rfl
    show wp _ _ _ _ _ [.null] _ _
    refine wp_g (n := 2) (pc' := 8) (L' := [some (.ref 0), some (.int (iI x1)), some (.int (iI x2)), some (.null)]) (st' := [.null]) rfl ?_
    refine wp_g (n := 1) (pc' := 11) (L' := [some (.ref 0), some (.int (iI x1)), some (.int (iI x2)), some (.null)]) (st' := []) rfl ?_
    refine wp_g (n := 2) (pc' := 21) (L' := [some (.ref 0), some (.int (iI x1)), some (.int (iI x2)), some (.null)]) (st' := [.int (iI (-2))]) rfl ?_
    exact wp_iret rfl rfl ⟨_, _, _, _, rfl, (by decide), S, hW⟩
  | some a1 =>
    obtain ⟨he1, hV1⟩ := hW.2 _ rfl
    subst he1
    have hW := hV1
    show wp _ _ _ _ _ [.ref 10] _ _
    refine wp_g (n := 2) (pc' := 8) (L' := [some (.ref 0), some (.int (iI x1)), some (.int (iI x2)), some (.ref 10)]) (st' := [.ref 10]) rfl ?_
    refine wp_g (n := 1) (pc' := 16) (L' := [some (.ref 0), some (.int (iI x1)), some (.int (iI x2)), some (.ref 10)]) (st' := []) rfl ?_
    refine wp_g (n := 2) (pc' := 18) (L' := [some (.ref 0), some (.int (iI x1)), some (.int (iI x2)), some (.ref 10)]) (st' := [.int (iI x2), .ref 10]) rfl ?_
    refine wp_cv (As := [.int (iI x2)]) (rest := []) rfl rfl (S.cell 10 (nc rfl)) (by decide) rfl rfl rfl (Nat.le_of_ble_eq_true rfl) (Nat.le_of_ble_eq_true rfl) (hW _ S) (fun r2 H2 q2 => ?_)
    obtain ⟨v2, m2, γ2, t2, rfl, hv2, S, hW⟩ := q2
    show wp _ _ _ _ _ [.int (iI v2)] _ _
    exact wp_iret rfl rfl ⟨_, _, _, _, rfl, hv2, S, hW⟩
abbrev W_X8_meets (E : am_E) (k : Nat) (x1 : Int) (x2 : Int) (x3 : Int) (m : MM) (γ : GM) (t : am_H) (Q : Int → MM → GM → am_H → Prop) : Prop := (TA E k 188 [.ref 0, .int (iI x1), .int (iI x2)] m γ t (fun o1 m1 γ1 t1 => ((o1 = none → (Q (-2) m1 γ1 t1)) ∧ (∀ a1, o1 = some a1 → (a1 = 10 ∧ (TI E k 100 [.ref 10, .int (iI x3)] m1 γ1 t1 (fun v2 m2 γ2 t2 => (((v2 = 0) → (Q (-2) m2 γ2 t2)) ∧ (¬ (v2 = 0) → (TI E k 116 [.ref 10, .int (iI x2), .int (iI x3)] m2 γ2 t2 (fun v4 m4 γ4 t4 => (((x2 = x3) → (Q v4 m4 γ4 t4)) ∧ (¬ (x2 = x3) → (TI E k 116 [.ref 10, .int (iI x3), .int (iI x2)] m4 γ4 t4 (fun v6 m6 γ6 t6 => (rJ (v4 + v6) ∧ (Q (v4 + v6) m6 γ6 t6)))))))))))))))))
theorem vc_X8_meets {E : am_E} {k : Nat} {x1 : Int} {x2 : Int} {x3 : Int} {m : MM} {γ : GM} {t : am_H} {Q : Int → MM → GM → am_H → Prop} (hx1 : rJ x1) (hx2 : rJ x2) (hx3 : rJ x3) (hW : W_X8_meets E k x1 x2 x3 m γ t Q) : TI E (k + 1) 142 [.ref 0, .int (iI x1), .int (iI x2), .int (iI x3)] m γ t Q := by
  unfold W_X8_meets at hW
  intro h S
  refine wp_g (n := 3) (pc' := 3) (L' := [some (.ref 0), some (.int (iI x1)), some (.int (iI x2)), some (.int (iI x3)), none, none]) (st' := [.int (iI x2), .int (iI x1), .ref 0]) rfl ?_
  refine wp_cv (As := [.int (iI x1), .int (iI x2)]) (rest := []) rfl rfl (S.cell 0 (nc rfl)) (by decide) rfl rfl rfl (Nat.le_of_ble_eq_true rfl) (Nat.le_of_ble_eq_true rfl) (hW _ S) (fun r1 H1 q1 => ?_)
  obtain ⟨o1, m1, γ1, t1, rfl, S, hW⟩ := q1
  cases o1 with
  | none =>
    have hW := hW.1 rfl
    show wp _ _ _ _ _ [.null] _ _
    refine wp_g (n := 2) (pc' := 10) (L' := [some (.ref 0), some (.int (iI x1)), some (.int (iI x2)), some (.int (iI x3)), some (.null), none]) (st' := [.null]) rfl ?_
    refine wp_g (n := 1) (pc' := 22) (L' := [some (.ref 0), some (.int (iI x1)), some (.int (iI x2)), some (.int (iI x3)), some (.null), none]) (st' := []) rfl ?_
    refine wp_g (n := 1) (pc' := 24) (L' := [some (.ref 0), some (.int (iI x1)), some (.int (iI x2)), some (.int (iI x3)), some (.null), none]) (st' := [.int (iI (-2))]) rfl ?_
    exact wp_iret rfl rfl ⟨_, _, _, _, rfl, (by decide), S, hW⟩
  | some a1 =>
    obtain ⟨he1, hV1⟩ := hW.2 _ rfl
    subst he1
    have hW := hV1
    show wp _ _ _ _ _ [.ref 10] _ _
    refine wp_g (n := 2) (pc' := 10) (L' := [some (.ref 0), some (.int (iI x1)), some (.int (iI x2)), some (.int (iI x3)), some (.ref 10), none]) (st' := [.ref 10]) rfl ?_
    refine wp_g (n := 1) (pc' := 13) (L' := [some (.ref 0), some (.int (iI x1)), some (.int (iI x2)), some (.int (iI x3)), some (.ref 10), none]) (st' := []) rfl ?_
    refine wp_g (n := 2) (pc' := 16) (L' := [some (.ref 0), some (.int (iI x1)), some (.int (iI x2)), some (.int (iI x3)), some (.ref 10), none]) (st' := [.int (iI x3), .ref 10]) rfl ?_
    refine wp_cv (As := [.int (iI x3)]) (rest := []) rfl rfl (S.cell 10 (nc rfl)) (by decide) rfl rfl rfl (Nat.le_of_ble_eq_true rfl) (Nat.le_of_ble_eq_true rfl) (hW _ S) (fun r2 H2 q2 => ?_)
    obtain ⟨v2, m2, γ2, t2, rfl, hv2, S, hW⟩ := q2
    show wp _ _ _ _ _ [.int (iI v2)] _ _
    refine wp_ifI (a := v2) rfl rfl hv2.1 hv2.2 (fun c3 => ?_) (fun c3 => ?_)
    · have dc3 := c3
      have hW := hW.2 dc3
      refine wp_g (n := 3) (pc' := 29) (L' := [some (.ref 0), some (.int (iI x1)), some (.int (iI x2)), some (.int (iI x3)), some (.ref 10), none]) (st' := [.int (iI x3), .int (iI x2), .ref 10]) rfl ?_
      refine wp_cv (As := [.int (iI x2), .int (iI x3)]) (rest := []) rfl rfl (S.cell 10 (nc rfl)) (by decide) rfl rfl rfl (Nat.le_of_ble_eq_true rfl) (Nat.le_of_ble_eq_true rfl) (hW _ S) (fun r4 H4 q4 => ?_)
      obtain ⟨v4, m4, γ4, t4, rfl, hv4, S, hW⟩ := q4
      show wp _ _ _ _ _ [.int (iI v4)] _ _
      refine wp_g (n := 3) (pc' := 36) (L' := [some (.ref 0), some (.int (iI x1)), some (.int (iI x2)), some (.int (iI x3)), some (.ref 10), some (.int (iI v4))]) (st' := [.int (iI x3), .int (iI x2)]) rfl ?_
      refine wp_icmpI (a := x2) (b := x3) rfl rfl hx2.1 hx2.2 hx3.1 hx3.2 (fun c5 => ?_) (fun c5 => ?_)
      · have dc5 := c5
        have hW := hW.2 dc5
        refine wp_g (n := 4) (pc' := 50) (L' := [some (.ref 0), some (.int (iI x1)), some (.int (iI x2)), some (.int (iI x3)), some (.ref 10), some (.int (iI v4))]) (st' := [.int (iI x2), .int (iI x3), .ref 10, .int (iI v4)]) rfl ?_
        refine wp_cv (As := [.int (iI x3), .int (iI x2)]) (rest := [.int (iI v4)]) rfl rfl (S.cell 10 (nc rfl)) (by decide) rfl rfl rfl (Nat.le_of_ble_eq_true rfl) (Nat.le_of_ble_eq_true rfl) (hW _ S) (fun r6 H6 q6 => ?_)
        obtain ⟨v6, m6, γ6, t6, rfl, hv6, S, hW⟩ := q6
        show wp _ _ _ _ _ [.int (iI v6), .int (iI v4)] _ _
        refine wp_add (a := v4) (b := v6) rfl ?_
        obtain ⟨p7, hW⟩ := hW
        exact wp_iret rfl rfl ⟨_, _, _, _, rfl, p7, S, hW⟩
      · have dc5 := (Classical.not_not.mp c5)
        have hW := hW.1 dc5
        refine wp_g (n := 2) (pc' := 54) (L' := [some (.ref 0), some (.int (iI x1)), some (.int (iI x2)), some (.int (iI x3)), some (.ref 10), some (.int (iI v4))]) (st' := [.int (iI v4)]) rfl ?_
        exact wp_iret rfl rfl ⟨_, _, _, _, rfl, hv4, S, hW⟩
    · have dc3 := (Classical.not_not.mp c3)
      have hW := hW.1 dc3
      refine wp_g (n := 1) (pc' := 24) (L' := [some (.ref 0), some (.int (iI x1)), some (.int (iI x2)), some (.int (iI x3)), some (.ref 10), none]) (st' := [.int (iI (-2))]) rfl ?_
      exact wp_iret rfl rfl ⟨_, _, _, _, rfl, (by decide), S, hW⟩
abbrev W_X8_over (E : am_E) (k : Nat) (x1 : Int) (x2 : Int) (x3 : Int) (m : MM) (γ : GM) (t : am_H) (Q : Int → MM → GM → am_H → Prop) : Prop := (TA E k 188 [.ref 0, .int (iI x1), .int (iI x2)] m γ t (fun o1 m1 γ1 t1 => ((o1 = none → (Q (-2) m1 γ1 t1)) ∧ (∀ a1, o1 = some a1 → (a1 = 10 ∧ (TI E k 100 [.ref 10, .int (iI x3)] m1 γ1 t1 (fun v2 m2 γ2 t2 => (((v2 = 0) → (Q (-2) m2 γ2 t2)) ∧ (¬ (v2 = 0) → (TI E k 116 [.ref 10, .int (iI x2), .int (iI x3)] m2 γ2 t2 (fun v4 m4 γ4 t4 => (Q v4 m4 γ4 t4))))))))))))
theorem vc_X8_over {E : am_E} {k : Nat} {x1 : Int} {x2 : Int} {x3 : Int} {m : MM} {γ : GM} {t : am_H} {Q : Int → MM → GM → am_H → Prop} (hx1 : rJ x1) (hx2 : rJ x2) (hx3 : rJ x3) (hW : W_X8_over E k x1 x2 x3 m γ t Q) : TI E (k + 1) 143 [.ref 0, .int (iI x1), .int (iI x2), .int (iI x3)] m γ t Q := by
  unfold W_X8_over at hW
  intro h S
  refine wp_g (n := 3) (pc' := 3) (L' := [some (.ref 0), some (.int (iI x1)), some (.int (iI x2)), some (.int (iI x3)), none]) (st' := [.int (iI x2), .int (iI x1), .ref 0]) rfl ?_
  refine wp_cv (As := [.int (iI x1), .int (iI x2)]) (rest := []) rfl rfl (S.cell 0 (nc rfl)) (by decide) rfl rfl rfl (Nat.le_of_ble_eq_true rfl) (Nat.le_of_ble_eq_true rfl) (hW _ S) (fun r1 H1 q1 => ?_)
  obtain ⟨o1, m1, γ1, t1, rfl, S, hW⟩ := q1
  cases o1 with
  | none =>
    have hW := hW.1 rfl
    show wp _ _ _ _ _ [.null] _ _
    refine wp_g (n := 2) (pc' := 10) (L' := [some (.ref 0), some (.int (iI x1)), some (.int (iI x2)), some (.int (iI x3)), some (.null)]) (st' := [.null]) rfl ?_
    refine wp_g (n := 1) (pc' := 22) (L' := [some (.ref 0), some (.int (iI x1)), some (.int (iI x2)), some (.int (iI x3)), some (.null)]) (st' := []) rfl ?_
    refine wp_g (n := 2) (pc' := 34) (L' := [some (.ref 0), some (.int (iI x1)), some (.int (iI x2)), some (.int (iI x3)), some (.null)]) (st' := [.int (iI (-2))]) rfl ?_
    exact wp_iret rfl rfl ⟨_, _, _, _, rfl, (by decide), S, hW⟩
  | some a1 =>
    obtain ⟨he1, hV1⟩ := hW.2 _ rfl
    subst he1
    have hW := hV1
    show wp _ _ _ _ _ [.ref 10] _ _
    refine wp_g (n := 2) (pc' := 10) (L' := [some (.ref 0), some (.int (iI x1)), some (.int (iI x2)), some (.int (iI x3)), some (.ref 10)]) (st' := [.ref 10]) rfl ?_
    refine wp_g (n := 1) (pc' := 13) (L' := [some (.ref 0), some (.int (iI x1)), some (.int (iI x2)), some (.int (iI x3)), some (.ref 10)]) (st' := []) rfl ?_
    refine wp_g (n := 2) (pc' := 16) (L' := [some (.ref 0), some (.int (iI x1)), some (.int (iI x2)), some (.int (iI x3)), some (.ref 10)]) (st' := [.int (iI x3), .ref 10]) rfl ?_
    refine wp_cv (As := [.int (iI x3)]) (rest := []) rfl rfl (S.cell 10 (nc rfl)) (by decide) rfl rfl rfl (Nat.le_of_ble_eq_true rfl) (Nat.le_of_ble_eq_true rfl) (hW _ S) (fun r2 H2 q2 => ?_)
    obtain ⟨v2, m2, γ2, t2, rfl, hv2, S, hW⟩ := q2
    show wp _ _ _ _ _ [.int (iI v2)] _ _
    refine wp_ifI (a := v2) rfl rfl hv2.1 hv2.2 (fun c3 => ?_) (fun c3 => ?_)
    · have dc3 := c3
      have hW := hW.2 dc3
      refine wp_g (n := 3) (pc' := 31) (L' := [some (.ref 0), some (.int (iI x1)), some (.int (iI x2)), some (.int (iI x3)), some (.ref 10)]) (st' := [.int (iI x3), .int (iI x2), .ref 10]) rfl ?_
      refine wp_cv (As := [.int (iI x2), .int (iI x3)]) (rest := []) rfl rfl (S.cell 10 (nc rfl)) (by decide) rfl rfl rfl (Nat.le_of_ble_eq_true rfl) (Nat.le_of_ble_eq_true rfl) (hW _ S) (fun r4 H4 q4 => ?_)
      obtain ⟨v4, m4, γ4, t4, rfl, hv4, S, hW⟩ := q4
      show wp _ _ _ _ _ [.int (iI v4)] _ _
      exact wp_iret rfl rfl ⟨_, _, _, _, rfl, hv4, S, hW⟩
    · have dc3 := (Classical.not_not.mp c3)
      have hW := hW.1 dc3
      refine wp_g (n := 2) (pc' := 34) (L' := [some (.ref 0), some (.int (iI x1)), some (.int (iI x2)), some (.int (iI x3)), some (.ref 10)]) (st' := [.int (iI (-2))]) rfl ?_
      exact wp_iret rfl rfl ⟨_, _, _, _, rfl, (by decide), S, hW⟩
abbrev W_X8_sign (E : am_E) (k : Nat) (x1 : Int) (x2 : Int) (m : MM) (γ : GM) (t : am_H) (Q : Int → MM → GM → am_H → Prop) : Prop := (TA E k 184 [.ref 0, .int (iI x1)] m γ t (fun o1 m1 γ1 t1 => ((o1 = none → (Q (-2) m1 γ1 t1)) ∧ (∀ a1, o1 = some a1 → (isg a1 ∧ (TI E k 29 [.ref a1, .int (iI x2)] m1 γ1 t1 (fun v2 m2 γ2 t2 => (((v2 = 0) → (Q (-2) m2 γ2 t2)) ∧ (¬ (v2 = 0) → (TA E k 186 [.ref 0, .ref a1] m2 γ2 t2 (fun o4 m4 γ4 t4 => o4 = some 10 ∧ (TI E k 114 [.ref 10, .int (iI x2)] m4 γ4 t4 (fun v5 m5 γ5 t5 => (((v5 = 0) → (Q (-1) m5 γ5 t5)) ∧ (¬ (v5 = 0) → (((v5 ≤ 0) → (Q 0 m5 γ5 t5)) ∧ (¬ (v5 ≤ 0) → (Q 1 m5 γ5 t5))))))))))))))))))
theorem vc_X8_sign {E : am_E} {k : Nat} {x1 : Int} {x2 : Int} {m : MM} {γ : GM} {t : am_H} {Q : Int → MM → GM → am_H → Prop} (hx1 : rJ x1) (hx2 : rJ x2) (hW : W_X8_sign E k x1 x2 m γ t Q) : TI E (k + 1) 144 [.ref 0, .int (iI x1), .int (iI x2)] m γ t Q := by
  unfold W_X8_sign at hW
  intro h S
  refine wp_g (n := 2) (pc' := 2) (L' := [some (.ref 0), some (.int (iI x1)), some (.int (iI x2)), none, none]) (st' := [.int (iI x1), .ref 0]) rfl ?_
  refine wp_cv (As := [.int (iI x1)]) (rest := []) rfl rfl (S.cell 0 (nc rfl)) (by decide) rfl rfl rfl (Nat.le_of_ble_eq_true rfl) (Nat.le_of_ble_eq_true rfl) (hW _ S) (fun r1 H1 q1 => ?_)
  obtain ⟨o1, m1, γ1, t1, rfl, S, hW⟩ := q1
  cases o1 with
  | none =>
    have hW := hW.1 rfl
    show wp _ _ _ _ _ [.null] _ _
    refine wp_g (n := 2) (pc' := 7) (L' := [some (.ref 0), some (.int (iI x1)), some (.int (iI x2)), some (.null), none]) (st' := [.null]) rfl ?_
    refine wp_g (n := 1) (pc' := 18) (L' := [some (.ref 0), some (.int (iI x1)), some (.int (iI x2)), some (.null), none]) (st' := []) rfl ?_
    refine wp_g (n := 1) (pc' := 20) (L' := [some (.ref 0), some (.int (iI x1)), some (.int (iI x2)), some (.null), none]) (st' := [.int (iI (-2))]) rfl ?_
    exact wp_iret rfl rfl ⟨_, _, _, _, rfl, (by decide), S, hW⟩
  | some a1 =>
    obtain ⟨hg1, hW⟩ := hW.2 _ rfl
    show wp _ _ _ _ _ [.ref a1] _ _
    refine wp_g (n := 2) (pc' := 7) (L' := [some (.ref 0), some (.int (iI x1)), some (.int (iI x2)), some (.ref a1), none]) (st' := [.ref a1]) rfl ?_
    refine wp_g (n := 1) (pc' := 10) (L' := [some (.ref 0), some (.int (iI x1)), some (.int (iI x2)), some (.ref a1), none]) (st' := []) rfl ?_
    refine wp_g (n := 2) (pc' := 12) (L' := [some (.ref 0), some (.int (iI x1)), some (.int (iI x2)), some (.ref a1), none]) (st' := [.int (iI x2), .ref a1]) rfl ?_
    refine wp_cv (As := [.int (iI x2)]) (rest := []) rfl rfl (S.gg a1 hg1).obj (isg_lt hg1) rfl rfl rfl (Nat.le_of_ble_eq_true rfl) (Nat.le_of_ble_eq_true rfl) (hW _ S) (fun r2 H2 q2 => ?_)
    obtain ⟨v2, m2, γ2, t2, rfl, hv2, S, hW⟩ := q2
    show wp _ _ _ _ _ [.int (iI v2)] _ _
    refine wp_ifI (a := v2) rfl rfl hv2.1 hv2.2 (fun c3 => ?_) (fun c3 => ?_)
    · have dc3 := c3
      have hW := hW.2 dc3
      refine wp_g (n := 2) (pc' := 23) (L' := [some (.ref 0), some (.int (iI x1)), some (.int (iI x2)), some (.ref a1), none]) (st' := [.ref a1, .ref 0]) rfl ?_
      refine wp_cv (As := [.ref a1]) (rest := []) rfl rfl (S.cell 0 (nc rfl)) (by decide) rfl rfl rfl (Nat.le_of_ble_eq_true rfl) (Nat.le_of_ble_eq_true rfl) (hW _ S) (fun r4 H4 q4 => ?_)
      obtain ⟨o4, m4, γ4, t4, rfl, S, hW⟩ := q4
      obtain ⟨rfl, hW⟩ := hW
      show wp _ _ _ _ _ [.ref 10] _ _
      refine wp_g (n := 1) (pc' := 27) (L' := [some (.ref 0), some (.int (iI x1)), some (.int (iI x2)), some (.ref a1), none]) (st' := [.int (iI x2), .ref 10]) rfl ?_
      refine wp_cv (As := [.int (iI x2)]) (rest := []) rfl rfl (S.cell 10 (nc rfl)) (by decide) rfl rfl rfl (Nat.le_of_ble_eq_true rfl) (Nat.le_of_ble_eq_true rfl) (hW _ S) (fun r5 H5 q5 => ?_)
      obtain ⟨v5, m5, γ5, t5, rfl, hv5, S, hW⟩ := q5
      show wp _ _ _ _ _ [.int (iI v5)] _ _
      refine wp_g (n := 2) (pc' := 34) (L' := [some (.ref 0), some (.int (iI x1)), some (.int (iI x2)), some (.ref a1), some (.int (iI v5))]) (st' := [.int (iI v5)]) rfl ?_
      refine wp_ifI (a := v5) rfl rfl hv5.1 hv5.2 (fun c6 => ?_) (fun c6 => ?_)
      · have dc6 := c6
        have hW := hW.2 dc6
        refine wp_g (n := 1) (pc' := 41) (L' := [some (.ref 0), some (.int (iI x1)), some (.int (iI x2)), some (.ref a1), some (.int (iI v5))]) (st' := [.int (iI v5)]) rfl ?_
        refine wp_ifI (a := v5) rfl rfl hv5.1 hv5.2 (fun c7 => ?_) (fun c7 => ?_)
        · have dc7 := c7
          have hW := hW.1 dc7
          refine wp_g (n := 1) (pc' := 49) (L' := [some (.ref 0), some (.int (iI x1)), some (.int (iI x2)), some (.ref a1), some (.int (iI v5))]) (st' := [.int (iI 0)]) rfl ?_
          exact wp_iret rfl rfl ⟨_, _, _, _, rfl, (by decide), S, hW⟩
        · have dc7 := c7
          have hW := hW.2 dc7
          refine wp_g (n := 2) (pc' := 49) (L' := [some (.ref 0), some (.int (iI x1)), some (.int (iI x2)), some (.ref a1), some (.int (iI v5))]) (st' := [.int (iI 1)]) rfl ?_
          exact wp_iret rfl rfl ⟨_, _, _, _, rfl, (by decide), S, hW⟩
      · have dc6 := (Classical.not_not.mp c6)
        have hW := hW.1 dc6
        refine wp_g (n := 1) (pc' := 38) (L' := [some (.ref 0), some (.int (iI x1)), some (.int (iI x2)), some (.ref a1), some (.int (iI v5))]) (st' := [.int (iI (-1))]) rfl ?_
        exact wp_iret rfl rfl ⟨_, _, _, _, rfl, (by decide), S, hW⟩
    · have dc3 := (Classical.not_not.mp c3)
      have hW := hW.1 dc3
      refine wp_g (n := 1) (pc' := 20) (L' := [some (.ref 0), some (.int (iI x1)), some (.int (iI x2)), some (.ref a1), none]) (st' := [.int (iI (-2))]) rfl ?_
      exact wp_iret rfl rfl ⟨_, _, _, _, rfl, (by decide), S, hW⟩
abbrev W_X8_twist (E : am_E) (k : Nat) (x1 : Int) (x2 : Int) (m : MM) (γ : GM) (t : am_H) (Q : Int → MM → GM → am_H → Prop) : Prop := (TA E k 188 [.ref 0, .int (iI x1), .int (iI x2)] m γ t (fun o1 m1 γ1 t1 => ((o1 = none → (Q (-1000) m1 γ1 t1)) ∧ (∀ a1, o1 = some a1 → (a1 = 10 ∧ (TI E k 117 [.ref 10, .int (iI x2), .int (iI x2)] m1 γ1 t1 (fun v2 m2 γ2 t2 => (Q v2 m2 γ2 t2))))))))
theorem vc_X8_twist {E : am_E} {k : Nat} {x1 : Int} {x2 : Int} {m : MM} {γ : GM} {t : am_H} {Q : Int → MM → GM → am_H → Prop} (hx1 : rJ x1) (hx2 : rJ x2) (hW : W_X8_twist E k x1 x2 m γ t Q) : TI E (k + 1) 145 [.ref 0, .int (iI x1), .int (iI x2)] m γ t Q := by
  unfold W_X8_twist at hW
  intro h S
  refine wp_g (n := 3) (pc' := 3) (L' := [some (.ref 0), some (.int (iI x1)), some (.int (iI x2)), none]) (st' := [.int (iI x2), .int (iI x1), .ref 0]) rfl ?_
  refine wp_cv (As := [.int (iI x1), .int (iI x2)]) (rest := []) rfl rfl (S.cell 0 (nc rfl)) (by decide) rfl rfl rfl (Nat.le_of_ble_eq_true rfl) (Nat.le_of_ble_eq_true rfl) (hW _ S) (fun r1 H1 q1 => ?_)
  obtain ⟨o1, m1, γ1, t1, rfl, S, hW⟩ := q1
  cases o1 with
  | none =>
    have hW := hW.1 rfl
    show wp _ _ _ _ _ [.null] _ _
    refine wp_g (n := 2) (pc' := 8) (L' := [some (.ref 0), some (.int (iI x1)), some (.int (iI x2)), some (.null)]) (st' := [.null]) rfl ?_
    refine wp_g (n := 1) (pc' := 11) (L' := [some (.ref 0), some (.int (iI x1)), some (.int (iI x2)), some (.null)]) (st' := []) rfl ?_
    refine wp_g (n := 2) (pc' := 23) (L' := [some (.ref 0), some (.int (iI x1)), some (.int (iI x2)), some (.null)]) (st' := [.int (iI (-1000))]) rfl ?_
    exact wp_iret rfl rfl ⟨_, _, _, _, rfl, (by decide), S, hW⟩
  | some a1 =>
    obtain ⟨he1, hV1⟩ := hW.2 _ rfl
    subst he1
    have hW := hV1
    show wp _ _ _ _ _ [.ref 10] _ _
    refine wp_g (n := 2) (pc' := 8) (L' := [some (.ref 0), some (.int (iI x1)), some (.int (iI x2)), some (.ref 10)]) (st' := [.ref 10]) rfl ?_
    refine wp_g (n := 1) (pc' := 17) (L' := [some (.ref 0), some (.int (iI x1)), some (.int (iI x2)), some (.ref 10)]) (st' := []) rfl ?_
    refine wp_g (n := 3) (pc' := 20) (L' := [some (.ref 0), some (.int (iI x1)), some (.int (iI x2)), some (.ref 10)]) (st' := [.int (iI x2), .int (iI x2), .ref 10]) rfl ?_
    refine wp_cv (As := [.int (iI x2), .int (iI x2)]) (rest := []) rfl rfl (S.cell 10 (nc rfl)) (by decide) rfl rfl rfl (Nat.le_of_ble_eq_true rfl) (Nat.le_of_ble_eq_true rfl) (hW _ S) (fun r2 H2 q2 => ?_)
    obtain ⟨v2, m2, γ2, t2, rfl, hv2, S, hW⟩ := q2
    show wp _ _ _ _ _ [.int (iI v2)] _ _
    exact wp_iret rfl rfl ⟨_, _, _, _, rfl, hv2, S, hW⟩
abbrev W_X8_link (E : am_E) (k : Nat) (x1 : Int) (x2 : Int) (x3 : Int) (m : MM) (γ : GM) (t : am_H) (Q : Int → MM → GM → am_H → Prop) : Prop := (TA E k 188 [.ref 0, .int (iI x1), .int (iI x2)] m γ t (fun o1 m1 γ1 t1 => ((o1 = none → (Q (-1000) m1 γ1 t1)) ∧ (∀ a1, o1 = some a1 → (a1 = 10 ∧ (TI E k 100 [.ref 10, .int (iI x3)] m1 γ1 t1 (fun v2 m2 γ2 t2 => (((v2 = 0) → (Q (-1000) m2 γ2 t2)) ∧ (¬ (v2 = 0) → (((x2 = x3) → (Q (-1000) m2 γ2 t2)) ∧ (¬ (x2 = x3) → (TI E k 117 [.ref 10, .int (iI x2), .int (iI x3)] m2 γ2 t2 (fun v5 m5 γ5 t5 => (TI E k 117 [.ref 10, .int (iI x3), .int (iI x2)] m5 γ5 t5 (fun v6 m6 γ6 t6 => (rJ (v5 + v6) ∧ (rJ (Int.tdiv (v5 + v6) 2) ∧ (Q (Int.tdiv (v5 + v6) 2) m6 γ6 t6))))))))))))))))))
theorem vc_X8_link {E : am_E} {k : Nat} {x1 : Int} {x2 : Int} {x3 : Int} {m : MM} {γ : GM} {t : am_H} {Q : Int → MM → GM → am_H → Prop} (hx1 : rJ x1) (hx2 : rJ x2) (hx3 : rJ x3) (hW : W_X8_link E k x1 x2 x3 m γ t Q) : TI E (k + 1) 146 [.ref 0, .int (iI x1), .int (iI x2), .int (iI x3)] m γ t Q := by
  unfold W_X8_link at hW
  intro h S
  refine wp_g (n := 3) (pc' := 3) (L' := [some (.ref 0), some (.int (iI x1)), some (.int (iI x2)), some (.int (iI x3)), none]) (st' := [.int (iI x2), .int (iI x1), .ref 0]) rfl ?_
  refine wp_cv (As := [.int (iI x1), .int (iI x2)]) (rest := []) rfl rfl (S.cell 0 (nc rfl)) (by decide) rfl rfl rfl (Nat.le_of_ble_eq_true rfl) (Nat.le_of_ble_eq_true rfl) (hW _ S) (fun r1 H1 q1 => ?_)
  obtain ⟨o1, m1, γ1, t1, rfl, S, hW⟩ := q1
  cases o1 with
  | none =>
    have hW := hW.1 rfl
    show wp _ _ _ _ _ [.null] _ _
    refine wp_g (n := 2) (pc' := 10) (L' := [some (.ref 0), some (.int (iI x1)), some (.int (iI x2)), some (.int (iI x3)), some (.null)]) (st' := [.null]) rfl ?_
    refine wp_g (n := 1) (pc' := 27) (L' := [some (.ref 0), some (.int (iI x1)), some (.int (iI x2)), some (.int (iI x3)), some (.null)]) (st' := []) rfl ?_
    refine wp_g (n := 1) (pc' := 30) (L' := [some (.ref 0), some (.int (iI x1)), some (.int (iI x2)), some (.int (iI x3)), some (.null)]) (st' := [.int (iI (-1000))]) rfl ?_
    exact wp_iret rfl rfl ⟨_, _, _, _, rfl, (by decide), S, hW⟩
  | some a1 =>
    obtain ⟨he1, hV1⟩ := hW.2 _ rfl
    subst he1
    have hW := hV1
    show wp _ _ _ _ _ [.ref 10] _ _
    refine wp_g (n := 2) (pc' := 10) (L' := [some (.ref 0), some (.int (iI x1)), some (.int (iI x2)), some (.int (iI x3)), some (.ref 10)]) (st' := [.ref 10]) rfl ?_
    refine wp_g (n := 1) (pc' := 13) (L' := [some (.ref 0), some (.int (iI x1)), some (.int (iI x2)), some (.int (iI x3)), some (.ref 10)]) (st' := []) rfl ?_
    refine wp_g (n := 2) (pc' := 16) (L' := [some (.ref 0), some (.int (iI x1)), some (.int (iI x2)), some (.int (iI x3)), some (.ref 10)]) (st' := [.int (iI x3), .ref 10]) rfl ?_
    refine wp_cv (As := [.int (iI x3)]) (rest := []) rfl rfl (S.cell 10 (nc rfl)) (by decide) rfl rfl rfl (Nat.le_of_ble_eq_true rfl) (Nat.le_of_ble_eq_true rfl) (hW _ S) (fun r2 H2 q2 => ?_)
    obtain ⟨v2, m2, γ2, t2, rfl, hv2, S, hW⟩ := q2
    show wp _ _ _ _ _ [.int (iI v2)] _ _
    refine wp_ifI (a := v2) rfl rfl hv2.1 hv2.2 (fun c3 => ?_) (fun c3 => ?_)
    · have dc3 := c3
      have hW := hW.1 dc3
      refine wp_g (n := 1) (pc' := 30) (L' := [some (.ref 0), some (.int (iI x1)), some (.int (iI x2)), some (.int (iI x3)), some (.ref 10)]) (st' := [.int (iI (-1000))]) rfl ?_
      exact wp_iret rfl rfl ⟨_, _, _, _, rfl, (by decide), S, hW⟩
    · have dc3 := c3
      have hW := hW.2 dc3
      refine wp_g (n := 2) (pc' := 24) (L' := [some (.ref 0), some (.int (iI x1)), some (.int (iI x2)), some (.int (iI x3)), some (.ref 10)]) (st' := [.int (iI x3), .int (iI x2)]) rfl ?_
      refine wp_icmpI (a := x2) (b := x3) rfl rfl hx2.1 hx2.2 hx3.1 hx3.2 (fun c4 => ?_) (fun c4 => ?_)
      · have dc4 := c4
        have hW := hW.2 dc4
        refine wp_g (n := 3) (pc' := 35) (L' := [some (.ref 0), some (.int (iI x1)), some (.int (iI x2)), some (.int (iI x3)), some (.ref 10)]) (st' := [.int (iI x3), .int (iI x2), .ref 10]) rfl ?_
        refine wp_cv (As := [.int (iI x2), .int (iI x3)]) (rest := []) rfl rfl (S.cell 10 (nc rfl)) (by decide) rfl rfl rfl (Nat.le_of_ble_eq_true rfl) (Nat.le_of_ble_eq_true rfl) (hW _ S) (fun r5 H5 q5 => ?_)
        obtain ⟨v5, m5, γ5, t5, rfl, hv5, S, hW⟩ := q5
        show wp _ _ _ _ _ [.int (iI v5)] _ _
        refine wp_g (n := 3) (pc' := 42) (L' := [some (.ref 0), some (.int (iI x1)), some (.int (iI x2)), some (.int (iI x3)), some (.ref 10)]) (st' := [.int (iI x2), .int (iI x3), .ref 10, .int (iI v5)]) rfl ?_
        refine wp_cv (As := [.int (iI x3), .int (iI x2)]) (rest := [.int (iI v5)]) rfl rfl (S.cell 10 (nc rfl)) (by decide) rfl rfl rfl (Nat.le_of_ble_eq_true rfl) (Nat.le_of_ble_eq_true rfl) (hW _ S) (fun r6 H6 q6 => ?_)
        obtain ⟨v6, m6, γ6, t6, rfl, hv6, S, hW⟩ := q6
        show wp _ _ _ _ _ [.int (iI v6), .int (iI v5)] _ _
        refine wp_add (a := v5) (b := v6) rfl ?_
        refine wp_g (n := 1) (pc' := 47) (L' := [some (.ref 0), some (.int (iI x1)), some (.int (iI x2)), some (.int (iI x3)), some (.ref 10)]) (st' := [.int (iI 2), .int (iI (v5 + v6))]) rfl ?_
        obtain ⟨p7, hW⟩ := hW
        refine wp_divt (a := (v5 + v6)) (b := 2) rfl p7 (by decide) (by decide) ?_
        obtain ⟨p8, hW⟩ := hW
        exact wp_iret rfl rfl ⟨_, _, _, _, rfl, p8, S, hW⟩
      · have dc4 := (Classical.not_not.mp c4)
        have hW := hW.1 dc4
        refine wp_g (n := 1) (pc' := 30) (L' := [some (.ref 0), some (.int (iI x1)), some (.int (iI x2)), some (.int (iI x3)), some (.ref 10)]) (st' := [.int (iI (-1000))]) rfl ?_
        exact wp_iret rfl rfl ⟨_, _, _, _, rfl, (by decide), S, hW⟩
abbrev W_X8_alternates (E : am_E) (k : Nat) (x1 : Int) (x2 : Int) (m : MM) (γ : GM) (t : am_H) (Q : Int → MM → GM → am_H → Prop) : Prop := (TA E k 188 [.ref 0, .int (iI x1), .int (iI x2)] m γ t (fun o1 m1 γ1 t1 => ((o1 = none → (Q (-2) m1 γ1 t1)) ∧ (∀ a1, o1 = some a1 → (a1 = 10 ∧ (TI E k 118 [.ref 10, .int (iI x2)] m1 γ1 t1 (fun v2 m2 γ2 t2 => (((v2 = 0) → (Q 0 m2 γ2 t2)) ∧ (¬ (v2 = 0) → (Q 1 m2 γ2 t2))))))))))
theorem vc_X8_alternates {E : am_E} {k : Nat} {x1 : Int} {x2 : Int} {m : MM} {γ : GM} {t : am_H} {Q : Int → MM → GM → am_H → Prop} (hx1 : rJ x1) (hx2 : rJ x2) (hW : W_X8_alternates E k x1 x2 m γ t Q) : TI E (k + 1) 147 [.ref 0, .int (iI x1), .int (iI x2)] m γ t Q := by
  unfold W_X8_alternates at hW
  intro h S
  refine wp_g (n := 3) (pc' := 3) (L' := [some (.ref 0), some (.int (iI x1)), some (.int (iI x2)), none]) (st' := [.int (iI x2), .int (iI x1), .ref 0]) rfl ?_
  refine wp_cv (As := [.int (iI x1), .int (iI x2)]) (rest := []) rfl rfl (S.cell 0 (nc rfl)) (by decide) rfl rfl rfl (Nat.le_of_ble_eq_true rfl) (Nat.le_of_ble_eq_true rfl) (hW _ S) (fun r1 H1 q1 => ?_)
  obtain ⟨o1, m1, γ1, t1, rfl, S, hW⟩ := q1
  cases o1 with
  | none =>
    have hW := hW.1 rfl
    show wp _ _ _ _ _ [.null] _ _
    refine wp_g (n := 2) (pc' := 8) (L' := [some (.ref 0), some (.int (iI x1)), some (.int (iI x2)), some (.null)]) (st' := [.null]) rfl ?_
    refine wp_g (n := 1) (pc' := 11) (L' := [some (.ref 0), some (.int (iI x1)), some (.int (iI x2)), some (.null)]) (st' := []) rfl ?_
    refine wp_g (n := 1) (pc' := 13) (L' := [some (.ref 0), some (.int (iI x1)), some (.int (iI x2)), some (.null)]) (st' := [.int (iI (-2))]) rfl ?_
    exact wp_iret rfl rfl ⟨_, _, _, _, rfl, (by decide), S, hW⟩
  | some a1 =>
    obtain ⟨he1, hV1⟩ := hW.2 _ rfl
    subst he1
    have hW := hV1
    show wp _ _ _ _ _ [.ref 10] _ _
    refine wp_g (n := 2) (pc' := 8) (L' := [some (.ref 0), some (.int (iI x1)), some (.int (iI x2)), some (.ref 10)]) (st' := [.ref 10]) rfl ?_
    refine wp_g (n := 1) (pc' := 14) (L' := [some (.ref 0), some (.int (iI x1)), some (.int (iI x2)), some (.ref 10)]) (st' := []) rfl ?_
    refine wp_g (n := 2) (pc' := 16) (L' := [some (.ref 0), some (.int (iI x1)), some (.int (iI x2)), some (.ref 10)]) (st' := [.int (iI x2), .ref 10]) rfl ?_
    refine wp_cv (As := [.int (iI x2)]) (rest := []) rfl rfl (S.cell 10 (nc rfl)) (by decide) rfl rfl rfl (Nat.le_of_ble_eq_true rfl) (Nat.le_of_ble_eq_true rfl) (hW _ S) (fun r2 H2 q2 => ?_)
    obtain ⟨v2, m2, γ2, t2, rfl, hv2, S, hW⟩ := q2
    show wp _ _ _ _ _ [.int (iI v2)] _ _
    refine wp_ifI (a := v2) rfl rfl hv2.1 hv2.2 (fun c3 => ?_) (fun c3 => ?_)
    · have dc3 := c3
      have hW := hW.1 dc3
      refine wp_g (n := 1) (pc' := 27) (L' := [some (.ref 0), some (.int (iI x1)), some (.int (iI x2)), some (.ref 10)]) (st' := [.int (iI 0)]) rfl ?_
      exact wp_iret rfl rfl ⟨_, _, _, _, rfl, (by decide), S, hW⟩
    · have dc3 := c3
      have hW := hW.2 dc3
      refine wp_g (n := 2) (pc' := 27) (L' := [some (.ref 0), some (.int (iI x1)), some (.int (iI x2)), some (.ref 10)]) (st' := [.int (iI 1)]) rfl ?_
      exact wp_iret rfl rfl ⟨_, _, _, _, rfl, (by decide), S, hW⟩
abbrev W_X8_passed (E : am_E) (k : Nat) (x1 : Int) (x2 : Int) (x3 : Int) (m : MM) (γ : GM) (t : am_H) (Q : Int → MM → GM → am_H → Prop) : Prop := (TA E k 188 [.ref 0, .int (iI x1), .int (iI x2)] m γ t (fun o1 m1 γ1 t1 => ((o1 = none → (Q (-2) m1 γ1 t1)) ∧ (∀ a1, o1 = some a1 → (a1 = 10 ∧ (((x3 < 0) → (Q (-2) m1 γ1 t1)) ∧ (¬ (x3 < 0) → (TI E k 108 [.ref 10, .int (iI x2), .int (iI x3)] m1 γ1 t1 (fun v3 m3 γ3 t3 => (Q v3 m3 γ3 t3))))))))))
theorem vc_X8_passed {E : am_E} {k : Nat} {x1 : Int} {x2 : Int} {x3 : Int} {m : MM} {γ : GM} {t : am_H} {Q : Int → MM → GM → am_H → Prop} (hx1 : rJ x1) (hx2 : rJ x2) (hx3 : rJ x3) (hW : W_X8_passed E k x1 x2 x3 m γ t Q) : TI E (k + 1) 148 [.ref 0, .int (iI x1), .int (iI x2), .int (iI x3)] m γ t Q := by
  unfold W_X8_passed at hW
  intro h S
  refine wp_g (n := 3) (pc' := 3) (L' := [some (.ref 0), some (.int (iI x1)), some (.int (iI x2)), some (.int (iI x3)), none]) (st' := [.int (iI x2), .int (iI x1), .ref 0]) rfl ?_
  refine wp_cv (As := [.int (iI x1), .int (iI x2)]) (rest := []) rfl rfl (S.cell 0 (nc rfl)) (by decide) rfl rfl rfl (Nat.le_of_ble_eq_true rfl) (Nat.le_of_ble_eq_true rfl) (hW _ S) (fun r1 H1 q1 => ?_)
  obtain ⟨o1, m1, γ1, t1, rfl, S, hW⟩ := q1
  cases o1 with
  | none =>
    have hW := hW.1 rfl
    show wp _ _ _ _ _ [.null] _ _
    refine wp_g (n := 2) (pc' := 10) (L' := [some (.ref 0), some (.int (iI x1)), some (.int (iI x2)), some (.int (iI x3)), some (.null)]) (st' := [.null]) rfl ?_
    refine wp_g (n := 1) (pc' := 17) (L' := [some (.ref 0), some (.int (iI x1)), some (.int (iI x2)), some (.int (iI x3)), some (.null)]) (st' := []) rfl ?_
    refine wp_g (n := 2) (pc' := 29) (L' := [some (.ref 0), some (.int (iI x1)), some (.int (iI x2)), some (.int (iI x3)), some (.null)]) (st' := [.int (iI (-2))]) rfl ?_
    exact wp_iret rfl rfl ⟨_, _, _, _, rfl, (by decide), S, hW⟩
  | some a1 =>
    obtain ⟨he1, hV1⟩ := hW.2 _ rfl
    subst he1
    have hW := hV1
    show wp _ _ _ _ _ [.ref 10] _ _
    refine wp_g (n := 2) (pc' := 10) (L' := [some (.ref 0), some (.int (iI x1)), some (.int (iI x2)), some (.int (iI x3)), some (.ref 10)]) (st' := [.ref 10]) rfl ?_
    refine wp_g (n := 1) (pc' := 13) (L' := [some (.ref 0), some (.int (iI x1)), some (.int (iI x2)), some (.int (iI x3)), some (.ref 10)]) (st' := []) rfl ?_
    refine wp_g (n := 1) (pc' := 14) (L' := [some (.ref 0), some (.int (iI x1)), some (.int (iI x2)), some (.int (iI x3)), some (.ref 10)]) (st' := [.int (iI x3)]) rfl ?_
    refine wp_ifI (a := x3) rfl rfl hx3.1 hx3.2 (fun c2 => ?_) (fun c2 => ?_)
    · have dc2 := (Int.not_lt.mpr c2)
      have hW := hW.2 dc2
      refine wp_g (n := 3) (pc' := 26) (L' := [some (.ref 0), some (.int (iI x1)), some (.int (iI x2)), some (.int (iI x3)), some (.ref 10)]) (st' := [.int (iI x3), .int (iI x2), .ref 10]) rfl ?_
      refine wp_cv (As := [.int (iI x2), .int (iI x3)]) (rest := []) rfl rfl (S.cell 10 (nc rfl)) (by decide) rfl rfl rfl (Nat.le_of_ble_eq_true rfl) (Nat.le_of_ble_eq_true rfl) (hW _ S) (fun r3 H3 q3 => ?_)
      obtain ⟨v3, m3, γ3, t3, rfl, hv3, S, hW⟩ := q3
      show wp _ _ _ _ _ [.int (iI v3)] _ _
      exact wp_iret rfl rfl ⟨_, _, _, _, rfl, hv3, S, hW⟩
    · have dc2 := (Int.not_le.mp c2)
      have hW := hW.1 dc2
      refine wp_g (n := 2) (pc' := 29) (L' := [some (.ref 0), some (.int (iI x1)), some (.int (iI x2)), some (.int (iI x3)), some (.ref 10)]) (st' := [.int (iI (-2))]) rfl ?_
      exact wp_iret rfl rfl ⟨_, _, _, _, rfl, (by decide), S, hW⟩
abbrev W_X8_interlaced (E : am_E) (k : Nat) (x1 : Int) (x2 : Int) (x3 : Int) (m : MM) (γ : GM) (t : am_H) (Q : Int → MM → GM → am_H → Prop) : Prop := (TA E k 184 [.ref 0, .int (iI x1)] m γ t (fun o1 m1 γ1 t1 => ((o1 = none → (Q (-2) m1 γ1 t1)) ∧ (∀ a1, o1 = some a1 → (isg a1 ∧ (TI E k 29 [.ref a1, .int (iI x2)] m1 γ1 t1 (fun v2 m2 γ2 t2 => (((v2 = 0) → (Q (-2) m2 γ2 t2)) ∧ (¬ (v2 = 0) → (TI E k 29 [.ref a1, .int (iI x3)] m2 γ2 t2 (fun v4 m4 γ4 t4 => (((v4 = 0) → (Q (-2) m4 γ4 t4)) ∧ (¬ (v4 = 0) → (TA E k 186 [.ref 0, .ref a1] m4 γ4 t4 (fun o6 m6 γ6 t6 => o6 = some 10 ∧ (TI E k 112 [.ref 10, .int (iI x2)] m6 γ6 t6 (fun v7 m7 γ7 t7 => (((x2 = x3) → (Q (-1) m7 γ7 t7)) ∧ (¬ (x2 = x3) → (((v7 = (-1)) → (Q (-1) m7 γ7 t7)) ∧ (¬ (v7 = (-1)) → (TI E k 112 [.ref 10, .int (iI x3)] m7 γ7 t7 (fun v10 m10 γ10 t10 => (((v7 = v10) → (TI E k 119 [.ref 10, .int (iI x2), .int (iI x3)] m10 γ10 t10 (fun v12 m12 γ12 t12 => (((v12 = 0) → (Q 0 m12 γ12 t12)) ∧ (¬ (v12 = 0) → (Q 1 m12 γ12 t12)))))) ∧ (¬ (v7 = v10) → (Q (-1) m10 γ10 t10))))))))))))))))))))))))))
theorem vc_X8_interlaced {E : am_E} {k : Nat} {x1 : Int} {x2 : Int} {x3 : Int} {m : MM} {γ : GM} {t : am_H} {Q : Int → MM → GM → am_H → Prop} (hx1 : rJ x1) (hx2 : rJ x2) (hx3 : rJ x3) (hW : W_X8_interlaced E k x1 x2 x3 m γ t Q) : TI E (k + 1) 149 [.ref 0, .int (iI x1), .int (iI x2), .int (iI x3)] m γ t Q := by
  unfold W_X8_interlaced at hW
  intro h S
  refine wp_g (n := 2) (pc' := 2) (L' := [some (.ref 0), some (.int (iI x1)), some (.int (iI x2)), some (.int (iI x3)), none, none, none]) (st' := [.int (iI x1), .ref 0]) rfl ?_
  refine wp_cv (As := [.int (iI x1)]) (rest := []) rfl rfl (S.cell 0 (nc rfl)) (by decide) rfl rfl rfl (Nat.le_of_ble_eq_true rfl) (Nat.le_of_ble_eq_true rfl) (hW _ S) (fun r1 H1 q1 => ?_)
  obtain ⟨o1, m1, γ1, t1, rfl, S, hW⟩ := q1
  cases o1 with
  | none =>
    have hW := hW.1 rfl
    show wp _ _ _ _ _ [.null] _ _
    refine wp_g (n := 2) (pc' := 9) (L' := [some (.ref 0), some (.int (iI x1)), some (.int (iI x2)), some (.int (iI x3)), some (.null), none, none]) (st' := [.null]) rfl ?_
    refine wp_g (n := 1) (pc' := 30) (L' := [some (.ref 0), some (.int (iI x1)), some (.int (iI x2)), some (.int (iI x3)), some (.null), none, none]) (st' := []) rfl ?_
    refine wp_g (n := 1) (pc' := 32) (L' := [some (.ref 0), some (.int (iI x1)), some (.int (iI x2)), some (.int (iI x3)), some (.null), none, none]) (st' := [.int (iI (-2))]) rfl ?_
    exact wp_iret rfl rfl ⟨_, _, _, _, rfl, (by decide), S, hW⟩
  | some a1 =>
    obtain ⟨hg1, hW⟩ := hW.2 _ rfl
    show wp _ _ _ _ _ [.ref a1] _ _
    refine wp_g (n := 2) (pc' := 9) (L' := [some (.ref 0), some (.int (iI x1)), some (.int (iI x2)), some (.int (iI x3)), some (.ref a1), none, none]) (st' := [.ref a1]) rfl ?_
    refine wp_g (n := 1) (pc' := 12) (L' := [some (.ref 0), some (.int (iI x1)), some (.int (iI x2)), some (.int (iI x3)), some (.ref a1), none, none]) (st' := []) rfl ?_
    refine wp_g (n := 2) (pc' := 15) (L' := [some (.ref 0), some (.int (iI x1)), some (.int (iI x2)), some (.int (iI x3)), some (.ref a1), none, none]) (st' := [.int (iI x2), .ref a1]) rfl ?_
    refine wp_cv (As := [.int (iI x2)]) (rest := []) rfl rfl (S.gg a1 hg1).obj (isg_lt hg1) rfl rfl rfl (Nat.le_of_ble_eq_true rfl) (Nat.le_of_ble_eq_true rfl) (hW _ S) (fun r2 H2 q2 => ?_)
    obtain ⟨v2, m2, γ2, t2, rfl, hv2, S, hW⟩ := q2
    show wp _ _ _ _ _ [.int (iI v2)] _ _
    refine wp_ifI (a := v2) rfl rfl hv2.1 hv2.2 (fun c3 => ?_) (fun c3 => ?_)
    · have dc3 := c3
      have hW := hW.1 dc3
      refine wp_g (n := 1) (pc' := 32) (L' := [some (.ref 0), some (.int (iI x1)), some (.int (iI x2)), some (.int (iI x3)), some (.ref a1), none, none]) (st' := [.int (iI (-2))]) rfl ?_
      exact wp_iret rfl rfl ⟨_, _, _, _, rfl, (by decide), S, hW⟩
    · have dc3 := c3
      have hW := hW.2 dc3
      refine wp_g (n := 2) (pc' := 24) (L' := [some (.ref 0), some (.int (iI x1)), some (.int (iI x2)), some (.int (iI x3)), some (.ref a1), none, none]) (st' := [.int (iI x3), .ref a1]) rfl ?_
      refine wp_cv (As := [.int (iI x3)]) (rest := []) rfl rfl (S.gg a1 hg1).obj (isg_lt hg1) rfl rfl rfl (Nat.le_of_ble_eq_true rfl) (Nat.le_of_ble_eq_true rfl) (hW _ S) (fun r4 H4 q4 => ?_)
      obtain ⟨v4, m4, γ4, t4, rfl, hv4, S, hW⟩ := q4
      show wp _ _ _ _ _ [.int (iI v4)] _ _
      refine wp_ifI (a := v4) rfl rfl hv4.1 hv4.2 (fun c5 => ?_) (fun c5 => ?_)
      · have dc5 := c5
        have hW := hW.2 dc5
        refine wp_g (n := 2) (pc' := 36) (L' := [some (.ref 0), some (.int (iI x1)), some (.int (iI x2)), some (.int (iI x3)), some (.ref a1), none, none]) (st' := [.ref a1, .ref 0]) rfl ?_
        refine wp_cv (As := [.ref a1]) (rest := []) rfl rfl (S.cell 0 (nc rfl)) (by decide) rfl rfl rfl (Nat.le_of_ble_eq_true rfl) (Nat.le_of_ble_eq_true rfl) (hW _ S) (fun r6 H6 q6 => ?_)
        obtain ⟨o6, m6, γ6, t6, rfl, S, hW⟩ := q6
        obtain ⟨rfl, hW⟩ := hW
        show wp _ _ _ _ _ [.ref 10] _ _
        refine wp_g (n := 3) (pc' := 44) (L' := [some (.ref 0), some (.int (iI x1)), some (.int (iI x2)), some (.int (iI x3)), some (.ref a1), some (.ref 10), none]) (st' := [.int (iI x2), .ref 10]) rfl ?_
        refine wp_cv (As := [.int (iI x2)]) (rest := []) rfl rfl (S.cell 10 (nc rfl)) (by decide) rfl rfl rfl (Nat.le_of_ble_eq_true rfl) (Nat.le_of_ble_eq_true rfl) (hW _ S) (fun r7 H7 q7 => ?_)
        obtain ⟨v7, m7, γ7, t7, rfl, hv7, S, hW⟩ := q7
        show wp _ _ _ _ _ [.int (iI v7)] _ _
        refine wp_g (n := 3) (pc' := 51) (L' := [some (.ref 0), some (.int (iI x1)), some (.int (iI x2)), some (.int (iI x3)), some (.ref a1), some (.ref 10), some (.int (iI v7))]) (st' := [.int (iI x3), .int (iI x2)]) rfl ?_
        refine wp_icmpI (a := x2) (b := x3) rfl rfl hx2.1 hx2.2 hx3.1 hx3.2 (fun c8 => ?_) (fun c8 => ?_)
        · have dc8 := c8
          have hW := hW.1 dc8
          refine wp_g (n := 1) (pc' := 72) (L' := [some (.ref 0), some (.int (iI x1)), some (.int (iI x2)), some (.int (iI x3)), some (.ref a1), some (.ref 10), some (.int (iI v7))]) (st' := [.int (iI (-1))]) rfl ?_
          exact wp_iret rfl rfl ⟨_, _, _, _, rfl, (by decide), S, hW⟩
        · have dc8 := c8
          have hW := hW.2 dc8
          refine wp_g (n := 2) (pc' := 57) (L' := [some (.ref 0), some (.int (iI x1)), some (.int (iI x2)), some (.int (iI x3)), some (.ref a1), some (.ref 10), some (.int (iI v7))]) (st' := [.int (iI (-1)), .int (iI v7)]) rfl ?_
          refine wp_icmpI (a := v7) (b := (-1)) rfl rfl hv7.1 hv7.2 (by decide) (by decide) (fun c9 => ?_) (fun c9 => ?_)
          · have dc9 := c9
            have hW := hW.1 dc9
            refine wp_g (n := 1) (pc' := 72) (L' := [some (.ref 0), some (.int (iI x1)), some (.int (iI x2)), some (.int (iI x3)), some (.ref a1), some (.ref 10), some (.int (iI v7))]) (st' := [.int (iI (-1))]) rfl ?_
            exact wp_iret rfl rfl ⟨_, _, _, _, rfl, (by decide), S, hW⟩
          · have dc9 := c9
            have hW := hW.2 dc9
            refine wp_g (n := 3) (pc' := 65) (L' := [some (.ref 0), some (.int (iI x1)), some (.int (iI x2)), some (.int (iI x3)), some (.ref a1), some (.ref 10), some (.int (iI v7))]) (st' := [.int (iI x3), .ref 10, .int (iI v7)]) rfl ?_
            refine wp_cv (As := [.int (iI x3)]) (rest := [.int (iI v7)]) rfl rfl (S.cell 10 (nc rfl)) (by decide) rfl rfl rfl (Nat.le_of_ble_eq_true rfl) (Nat.le_of_ble_eq_true rfl) (hW _ S) (fun r10 H10 q10 => ?_)
            obtain ⟨v10, m10, γ10, t10, rfl, hv10, S, hW⟩ := q10
            show wp _ _ _ _ _ [.int (iI v10), .int (iI v7)] _ _
            refine wp_icmpI (a := v7) (b := v10) rfl rfl hv7.1 hv7.2 hv10.1 hv10.2 (fun c11 => ?_) (fun c11 => ?_)
            · have dc11 := c11
              have hW := hW.1 dc11
              refine wp_g (n := 3) (pc' := 77) (L' := [some (.ref 0), some (.int (iI x1)), some (.int (iI x2)), some (.int (iI x3)), some (.ref a1), some (.ref 10), some (.int (iI v7))]) (st' := [.int (iI x3), .int (iI x2), .ref 10]) rfl ?_
              refine wp_cv (As := [.int (iI x2), .int (iI x3)]) (rest := []) rfl rfl (S.cell 10 (nc rfl)) (by decide) rfl rfl rfl (Nat.le_of_ble_eq_true rfl) (Nat.le_of_ble_eq_true rfl) (hW _ S) (fun r12 H12 q12 => ?_)
              obtain ⟨v12, m12, γ12, t12, rfl, hv12, S, hW⟩ := q12
              show wp _ _ _ _ _ [.int (iI v12)] _ _
              refine wp_ifI (a := v12) rfl rfl hv12.1 hv12.2 (fun c13 => ?_) (fun c13 => ?_)
              · have dc13 := c13
                have hW := hW.1 dc13
                refine wp_g (n := 1) (pc' := 88) (L' := [some (.ref 0), some (.int (iI x1)), some (.int (iI x2)), some (.int (iI x3)), some (.ref a1), some (.ref 10), some (.int (iI v7))]) (st' := [.int (iI 0)]) rfl ?_
                exact wp_iret rfl rfl ⟨_, _, _, _, rfl, (by decide), S, hW⟩
              · have dc13 := c13
                have hW := hW.2 dc13
                refine wp_g (n := 2) (pc' := 88) (L' := [some (.ref 0), some (.int (iI x1)), some (.int (iI x2)), some (.int (iI x3)), some (.ref a1), some (.ref 10), some (.int (iI v7))]) (st' := [.int (iI 1)]) rfl ?_
                exact wp_iret rfl rfl ⟨_, _, _, _, rfl, (by decide), S, hW⟩
            · have dc11 := c11
              have hW := hW.2 dc11
              refine wp_g (n := 1) (pc' := 72) (L' := [some (.ref 0), some (.int (iI x1)), some (.int (iI x2)), some (.int (iI x3)), some (.ref a1), some (.ref 10), some (.int (iI v7))]) (st' := [.int (iI (-1))]) rfl ?_
              exact wp_iret rfl rfl ⟨_, _, _, _, rfl, (by decide), S, hW⟩
      · have dc5 := (Classical.not_not.mp c5)
        have hW := hW.1 dc5
        refine wp_g (n := 1) (pc' := 32) (L' := [some (.ref 0), some (.int (iI x1)), some (.int (iI x2)), some (.int (iI x3)), some (.ref a1), none, none]) (st' := [.int (iI (-2))]) rfl ?_
        exact wp_iret rfl rfl ⟨_, _, _, _, rfl, (by decide), S, hW⟩
abbrev W_X8_visits (E : am_E) (k : Nat) (x1 : Int) (x2 : Int) (m : MM) (γ : GM) (t : am_H) (Q : Int → MM → GM → am_H → Prop) : Prop := (TA E k 188 [.ref 0, .int (iI x1), .int (iI x2)] m γ t (fun o1 m1 γ1 t1 => ((o1 = none → (Q (-2) m1 γ1 t1)) ∧ (∀ a1, o1 = some a1 → (a1 = 10 ∧ (TI E k 121 [.ref 10, .int (iI x2)] m1 γ1 t1 (fun v2 m2 γ2 t2 => (Q v2 m2 γ2 t2))))))))
theorem vc_X8_visits {E : am_E} {k : Nat} {x1 : Int} {x2 : Int} {m : MM} {γ : GM} {t : am_H} {Q : Int → MM → GM → am_H → Prop} (hx1 : rJ x1) (hx2 : rJ x2) (hW : W_X8_visits E k x1 x2 m γ t Q) : TI E (k + 1) 150 [.ref 0, .int (iI x1), .int (iI x2)] m γ t Q := by
  unfold W_X8_visits at hW
  intro h S
  refine wp_g (n := 3) (pc' := 3) (L' := [some (.ref 0), some (.int (iI x1)), some (.int (iI x2)), none]) (st' := [.int (iI x2), .int (iI x1), .ref 0]) rfl ?_
  refine wp_cv (As := [.int (iI x1), .int (iI x2)]) (rest := []) rfl rfl (S.cell 0 (nc rfl)) (by decide) rfl rfl rfl (Nat.le_of_ble_eq_true rfl) (Nat.le_of_ble_eq_true rfl) (hW _ S) (fun r1 H1 q1 => ?_)
  obtain ⟨o1, m1, γ1, t1, rfl, S, hW⟩ := q1
  cases o1 with
  | none =>
    have hW := hW.1 rfl
    show wp _ _ _ _ _ [.null] _ _
    refine wp_g (n := 2) (pc' := 8) (L' := [some (.ref 0), some (.int (iI x1)), some (.int (iI x2)), some (.null)]) (st' := [.null]) rfl ?_
    refine wp_g (n := 1) (pc' := 11) (L' := [some (.ref 0), some (.int (iI x1)), some (.int (iI x2)), some (.null)]) (st' := []) rfl ?_
    refine wp_g (n := 2) (pc' := 21) (L' := [some (.ref 0), some (.int (iI x1)), some (.int (iI x2)), some (.null)]) (st' := [.int (iI (-2))]) rfl ?_
    exact wp_iret rfl rfl ⟨_, _, _, _, rfl, (by decide), S, hW⟩
  | some a1 =>
    obtain ⟨he1, hV1⟩ := hW.2 _ rfl
    subst he1
    have hW := hV1
    show wp _ _ _ _ _ [.ref 10] _ _
    refine wp_g (n := 2) (pc' := 8) (L' := [some (.ref 0), some (.int (iI x1)), some (.int (iI x2)), some (.ref 10)]) (st' := [.ref 10]) rfl ?_
    refine wp_g (n := 1) (pc' := 16) (L' := [some (.ref 0), some (.int (iI x1)), some (.int (iI x2)), some (.ref 10)]) (st' := []) rfl ?_
    refine wp_g (n := 2) (pc' := 18) (L' := [some (.ref 0), some (.int (iI x1)), some (.int (iI x2)), some (.ref 10)]) (st' := [.int (iI x2), .ref 10]) rfl ?_
    refine wp_cv (As := [.int (iI x2)]) (rest := []) rfl rfl (S.cell 10 (nc rfl)) (by decide) rfl rfl rfl (Nat.le_of_ble_eq_true rfl) (Nat.le_of_ble_eq_true rfl) (hW _ S) (fun r2 H2 q2 => ?_)
    obtain ⟨v2, m2, γ2, t2, rfl, hv2, S, hW⟩ := q2
    show wp _ _ _ _ _ [.int (iI v2)] _ _
    exact wp_iret rfl rfl ⟨_, _, _, _, rfl, hv2, S, hW⟩
abbrev W_X8_winds (E : am_E) (k : Nat) (x1 : Int) (x2 : Int) (x3 : Int) (m : MM) (γ : GM) (t : am_H) (Q : Int → MM → GM → am_H → Prop) : Prop := (TA E k 188 [.ref 0, .int (iI x1), .int (iI x2)] m γ t (fun o1 m1 γ1 t1 => ((o1 = none → (Q (-1000) m1 γ1 t1)) ∧ (∀ a1, o1 = some a1 → (a1 = 10 ∧ (TI E k 185 [.ref 0, .int (iI x1), .int (iI x3)] m1 γ1 t1 (fun v2 m2 γ2 t2 => (((v2 = 0) → (Q (-1000) m2 γ2 t2)) ∧ (¬ (v2 = 0) → (TI E k 122 [.ref 10, .int (iI x2), .int (iI x3)] m2 γ2 t2 (fun v4 m4 γ4 t4 => (Q v4 m4 γ4 t4))))))))))))
theorem vc_X8_winds {E : am_E} {k : Nat} {x1 : Int} {x2 : Int} {x3 : Int} {m : MM} {γ : GM} {t : am_H} {Q : Int → MM → GM → am_H → Prop} (hx1 : rJ x1) (hx2 : rJ x2) (hx3 : rJ x3) (hW : W_X8_winds E k x1 x2 x3 m γ t Q) : TI E (k + 1) 151 [.ref 0, .int (iI x1), .int (iI x2), .int (iI x3)] m γ t Q := by
  unfold W_X8_winds at hW
  intro h S
  refine wp_g (n := 3) (pc' := 3) (L' := [some (.ref 0), some (.int (iI x1)), some (.int (iI x2)), some (.int (iI x3)), none]) (st' := [.int (iI x2), .int (iI x1), .ref 0]) rfl ?_
  refine wp_cv (As := [.int (iI x1), .int (iI x2)]) (rest := []) rfl rfl (S.cell 0 (nc rfl)) (by decide) rfl rfl rfl (Nat.le_of_ble_eq_true rfl) (Nat.le_of_ble_eq_true rfl) (hW _ S) (fun r1 H1 q1 => ?_)
  obtain ⟨o1, m1, γ1, t1, rfl, S, hW⟩ := q1
  cases o1 with
  | none =>
    have hW := hW.1 rfl
    show wp _ _ _ _ _ [.null] _ _
    refine wp_g (n := 2) (pc' := 10) (L' := [some (.ref 0), some (.int (iI x1)), some (.int (iI x2)), some (.int (iI x3)), some (.null)]) (st' := [.null]) rfl ?_
    refine wp_g (n := 1) (pc' := 22) (L' := [some (.ref 0), some (.int (iI x1)), some (.int (iI x2)), some (.int (iI x3)), some (.null)]) (st' := []) rfl ?_
    refine wp_g (n := 1) (pc' := 25) (L' := [some (.ref 0), some (.int (iI x1)), some (.int (iI x2)), some (.int (iI x3)), some (.null)]) (st' := [.int (iI (-1000))]) rfl ?_
    exact wp_iret rfl rfl ⟨_, _, _, _, rfl, (by decide), S, hW⟩
  | some a1 =>
    obtain ⟨he1, hV1⟩ := hW.2 _ rfl
    subst he1
    have hW := hV1
    show wp _ _ _ _ _ [.ref 10] _ _
    refine wp_g (n := 2) (pc' := 10) (L' := [some (.ref 0), some (.int (iI x1)), some (.int (iI x2)), some (.int (iI x3)), some (.ref 10)]) (st' := [.ref 10]) rfl ?_
    refine wp_g (n := 1) (pc' := 13) (L' := [some (.ref 0), some (.int (iI x1)), some (.int (iI x2)), some (.int (iI x3)), some (.ref 10)]) (st' := []) rfl ?_
    refine wp_g (n := 3) (pc' := 16) (L' := [some (.ref 0), some (.int (iI x1)), some (.int (iI x2)), some (.int (iI x3)), some (.ref 10)]) (st' := [.int (iI x3), .int (iI x1), .ref 0]) rfl ?_
    refine wp_cv (As := [.int (iI x1), .int (iI x3)]) (rest := []) rfl rfl (S.cell 0 (nc rfl)) (by decide) rfl rfl rfl (Nat.le_of_ble_eq_true rfl) (Nat.le_of_ble_eq_true rfl) (hW _ S) (fun r2 H2 q2 => ?_)
    obtain ⟨v2, m2, γ2, t2, rfl, hv2, S, hW⟩ := q2
    show wp _ _ _ _ _ [.int (iI v2)] _ _
    refine wp_ifI (a := v2) rfl rfl hv2.1 hv2.2 (fun c3 => ?_) (fun c3 => ?_)
    · have dc3 := c3
      have hW := hW.2 dc3
      refine wp_g (n := 3) (pc' := 30) (L' := [some (.ref 0), some (.int (iI x1)), some (.int (iI x2)), some (.int (iI x3)), some (.ref 10)]) (st' := [.int (iI x3), .int (iI x2), .ref 10]) rfl ?_
      refine wp_cv (As := [.int (iI x2), .int (iI x3)]) (rest := []) rfl rfl (S.cell 10 (nc rfl)) (by decide) rfl rfl rfl (Nat.le_of_ble_eq_true rfl) (Nat.le_of_ble_eq_true rfl) (hW _ S) (fun r4 H4 q4 => ?_)
      obtain ⟨v4, m4, γ4, t4, rfl, hv4, S, hW⟩ := q4
      show wp _ _ _ _ _ [.int (iI v4)] _ _
      exact wp_iret rfl rfl ⟨_, _, _, _, rfl, hv4, S, hW⟩
    · have dc3 := (Classical.not_not.mp c3)
      have hW := hW.1 dc3
      refine wp_g (n := 1) (pc' := 25) (L' := [some (.ref 0), some (.int (iI x1)), some (.int (iI x2)), some (.int (iI x3)), some (.ref 10)]) (st' := [.int (iI (-1000))]) rfl ?_
      exact wp_iret rfl rfl ⟨_, _, _, _, rfl, (by decide), S, hW⟩
abbrev W_X8_paint (E : am_E) (k : Nat) (x1 : Int) (x2 : Int) (x3 : Int) (m : MM) (γ : GM) (t : am_H) (Q : Int → MM → GM → am_H → Prop) : Prop := (TA E k 187 [.ref 0, .int (iI x1), .int (iI x2), .int (iI x3)] m γ t (fun o1 m1 γ1 t1 => ((o1 = none → (Q (-2) m1 γ1 t1)) ∧ (∀ a1, o1 = some a1 → (a1 = 10 ∧ (TI E k 103 [.ref 10, .int (iI ((4 * x2) + x3))] m1 γ1 t1 (fun v2 m2 γ2 t2 => (Q v2 m2 γ2 t2))))))))
theorem vc_X8_paint {E : am_E} {k : Nat} {x1 : Int} {x2 : Int} {x3 : Int} {m : MM} {γ : GM} {t : am_H} {Q : Int → MM → GM → am_H → Prop} (hx1 : rJ x1) (hx2 : rJ x2) (hx3 : rJ x3) (hW : W_X8_paint E k x1 x2 x3 m γ t Q) : TI E (k + 1) 152 [.ref 0, .int (iI x1), .int (iI x2), .int (iI x3)] m γ t Q := by
  unfold W_X8_paint at hW
  intro h S
  refine wp_g (n := 4) (pc' := 4) (L' := [some (.ref 0), some (.int (iI x1)), some (.int (iI x2)), some (.int (iI x3)), none]) (st' := [.int (iI x3), .int (iI x2), .int (iI x1), .ref 0]) rfl ?_
  refine wp_cv (As := [.int (iI x1), .int (iI x2), .int (iI x3)]) (rest := []) rfl rfl (S.cell 0 (nc rfl)) (by decide) rfl rfl rfl (Nat.le_of_ble_eq_true rfl) (Nat.le_of_ble_eq_true rfl) (hW _ S) (fun r1 H1 q1 => ?_)
  obtain ⟨o1, m1, γ1, t1, rfl, S, hW⟩ := q1
  cases o1 with
  | none =>
    have hW := hW.1 rfl
    show wp _ _ _ _ _ [.null] _ _
    refine wp_g (n := 2) (pc' := 11) (L' := [some (.ref 0), some (.int (iI x1)), some (.int (iI x2)), some (.int (iI x3)), some (.null)]) (st' := [.null]) rfl ?_
    refine wp_g (n := 1) (pc' := 14) (L' := [some (.ref 0), some (.int (iI x1)), some (.int (iI x2)), some (.int (iI x3)), some (.null)]) (st' := []) rfl ?_
    refine wp_g (n := 2) (pc' := 29) (L' := [some (.ref 0), some (.int (iI x1)), some (.int (iI x2)), some (.int (iI x3)), some (.null)]) (st' := [.int (iI (-2))]) rfl ?_
    exact wp_iret rfl rfl ⟨_, _, _, _, rfl, (by decide), S, hW⟩
  | some a1 =>
    obtain ⟨he1, hV1⟩ := hW.2 _ rfl
    subst he1
    have hW := hV1
    show wp _ _ _ _ _ [.ref 10] _ _
    refine wp_g (n := 2) (pc' := 11) (L' := [some (.ref 0), some (.int (iI x1)), some (.int (iI x2)), some (.int (iI x3)), some (.ref 10)]) (st' := [.ref 10]) rfl ?_
    refine wp_g (n := 1) (pc' := 19) (L' := [some (.ref 0), some (.int (iI x1)), some (.int (iI x2)), some (.int (iI x3)), some (.ref 10)]) (st' := []) rfl ?_
    refine wp_g (n := 3) (pc' := 23) (L' := [some (.ref 0), some (.int (iI x1)), some (.int (iI x2)), some (.int (iI x3)), some (.ref 10)]) (st' := [.int (iI x2), .int (iI 4), .ref 10]) rfl ?_
    refine wp_mul (a := 4) (b := x2) rfl ?_
    refine wp_g (n := 1) (pc' := 25) (L' := [some (.ref 0), some (.int (iI x1)), some (.int (iI x2)), some (.int (iI x3)), some (.ref 10)]) (st' := [.int (iI x3), .int (iI (4 * x2)), .ref 10]) rfl ?_
    refine wp_add (a := (4 * x2)) (b := x3) rfl ?_
    refine wp_cv (As := [.int (iI ((4 * x2) + x3))]) (rest := []) rfl rfl (S.cell 10 (nc rfl)) (by decide) rfl rfl rfl (Nat.le_of_ble_eq_true rfl) (Nat.le_of_ble_eq_true rfl) (hW _ S) (fun r2 H2 q2 => ?_)
    obtain ⟨v2, m2, γ2, t2, rfl, hv2, S, hW⟩ := q2
    show wp _ _ _ _ _ [.int (iI v2)] _ _
    exact wp_iret rfl rfl ⟨_, _, _, _, rfl, hv2, S, hW⟩
def hd_X8_painted_64 (E : am_E) (k : Nat) (x1 : Int) (x2 : Int) (x3 : Int) (y2 : Int) (y3 : Int) (y4 : Nat) (y6 : Int) (y7 : Int) (m : MM) (γ : GM) (t : am_H) (Q : Int → MM → GM → am_H → Prop) : Prop := ∀ (z0 z1 : Option Value), TT (pI Q) E (k + 1) 153 64 [z0, z1, some (.int (iI y2)), some (.int (iI y3)), some (.ref y4), some (.ref 10), some (.int (iI y6)), some (.int (iI y7))] [] m γ t
abbrev W_X8_painted (E : am_E) (k : Nat) (x1 : Int) (x2 : Int) (x3 : Int) (m : MM) (γ : GM) (t : am_H) (Q : Int → MM → GM → am_H → Prop) : Prop := (TA E k 184 [.ref 0, .int (iI x1)] m γ t (fun o1 m1 γ1 t1 => ((o1 = none → (Q (-2) m1 γ1 t1)) ∧ (∀ a1, o1 = some a1 → (isg a1 ∧ (TI E k 177 [.int (iI x2)] m1 γ1 t1 (fun v2 m2 γ2 t2 => (((v2 = 0) → (Q (-2) m2 γ2 t2)) ∧ (¬ (v2 = 0) → (((x3 < 0) → (Q (-2) m2 γ2 t2)) ∧ (¬ (x3 < 0) → (((x2 = 0) → (TI E k 25 [.ref a1] m2 γ2 t2 (fun v9 m9 γ9 t9 => (((x3 < v9) → (TA E k 186 [.ref 0, .ref a1] m9 γ9 t9 (fun o11 m11 γ11 t11 => o11 = some 10 ∧ (hd_X8_painted_64 E k x1 x2 x3 x2 x3 a1 0 0 m11 γ11 t11 Q)))) ∧ (¬ (x3 < v9) → (Q (-2) m9 γ9 t9)))))) ∧ (¬ (x2 = 0) → (TI E k 26 [.ref a1] m2 γ2 t2 (fun v6 m6 γ6 t6 => (((x3 < v6) → (TA E k 186 [.ref 0, .ref a1] m6 γ6 t6 (fun o8 m8 γ8 t8 => o8 = some 10 ∧ (hd_X8_painted_64 E k x1 x2 x3 x2 x3 a1 0 0 m8 γ8 t8 Q)))) ∧ (¬ (x3 < v6) → (Q (-2) m6 γ6 t6))))))))))))))))))
abbrev W_X8_painted_64 (E : am_E) (k : Nat) (x1 : Int) (x2 : Int) (x3 : Int) (y2 : Int) (y3 : Int) (y4 : Nat) (y6 : Int) (y7 : Int) (m : MM) (γ : GM) (t : am_H) (Q : Int → MM → GM → am_H → Prop) : Prop := (TI E k 27 [.ref y4] m γ t (fun v1 m1 γ1 t1 => (((y7 < v1) → (((y2 = 0) → (TI E k 31 [.ref y4, .int (iI y7)] m1 γ1 t1 (fun v7 m7 γ7 t7 => (((v7 = y3) → (TI E k 104 [.ref 10, .int (iI y7)] m7 γ7 t7 (fun v9 m9 γ9 t9 => (hd_X8_painted_64 E k x1 x2 x3 y2 y3 y4 (y6 + v9) (y7 + 1) m9 γ9 t9 Q)))) ∧ (¬ (v7 = y3) → (hd_X8_painted_64 E k x1 x2 x3 y2 y3 y4 y6 (y7 + 1) m7 γ7 t7 Q)))))) ∧ (¬ (y2 = 0) → (TI E k 32 [.ref y4, .int (iI y7)] m1 γ1 t1 (fun v4 m4 γ4 t4 => (((v4 = y3) → (TI E k 104 [.ref 10, .int (iI y7)] m4 γ4 t4 (fun v6 m6 γ6 t6 => (hd_X8_painted_64 E k x1 x2 x3 y2 y3 y4 (y6 + v6) (y7 + 1) m6 γ6 t6 Q)))) ∧ (¬ (v4 = y3) → (hd_X8_painted_64 E k x1 x2 x3 y2 y3 y4 y6 (y7 + 1) m4 γ4 t4 Q)))))))) ∧ (¬ (y7 < v1) → (Q y6 m1 γ1 t1)))))
theorem vc_X8_painted {E : am_E} {k : Nat} {x1 : Int} {x2 : Int} {x3 : Int} {m : MM} {γ : GM} {t : am_H} {Q : Int → MM → GM → am_H → Prop} (hx1 : rJ x1) (hx2 : rJ x2) (hx3 : rJ x3) (hW : W_X8_painted E k x1 x2 x3 m γ t Q) : TI E (k + 1) 153 [.ref 0, .int (iI x1), .int (iI x2), .int (iI x3)] m γ t Q := by
  unfold W_X8_painted at hW
  intro h S
  refine wp_g (n := 2) (pc' := 2) (L' := [some (.ref 0), some (.int (iI x1)), some (.int (iI x2)), some (.int (iI x3)), none, none, none, none]) (st' := [.int (iI x1), .ref 0]) rfl ?_
  refine wp_cv (As := [.int (iI x1)]) (rest := []) rfl rfl (S.cell 0 (nc rfl)) (by decide) rfl rfl rfl (Nat.le_of_ble_eq_true rfl) (Nat.le_of_ble_eq_true rfl) (hW _ S) (fun r1 H1 q1 => ?_)
  obtain ⟨o1, m1, γ1, t1, rfl, S, hW⟩ := q1
  cases o1 with
  | none =>
    have hW := hW.1 rfl
    show wp _ _ _ _ _ [.null] _ _
    refine wp_g (n := 2) (pc' := 9) (L' := [some (.ref 0), some (.int (iI x1)), some (.int (iI x2)), some (.int (iI x3)), some (.null), none, none, none]) (st' := [.null]) rfl ?_
    refine wp_g (n := 1) (pc' := 19) (L' := [some (.ref 0), some (.int (iI x1)), some (.int (iI x2)), some (.int (iI x3)), some (.null), none, none, none]) (st' := []) rfl ?_
    refine wp_g (n := 1) (pc' := 21) (L' := [some (.ref 0), some (.int (iI x1)), some (.int (iI x2)), some (.int (iI x3)), some (.null), none, none, none]) (st' := [.int (iI (-2))]) rfl ?_
    exact wp_iret rfl rfl ⟨_, _, _, _, rfl, (by decide), S, hW⟩
  | some a1 =>
    obtain ⟨hg1, hW⟩ := hW.2 _ rfl
    show wp _ _ _ _ _ [.ref a1] _ _
    refine wp_g (n := 2) (pc' := 9) (L' := [some (.ref 0), some (.int (iI x1)), some (.int (iI x2)), some (.int (iI x3)), some (.ref a1), none, none, none]) (st' := [.ref a1]) rfl ?_
    refine wp_g (n := 1) (pc' := 12) (L' := [some (.ref 0), some (.int (iI x1)), some (.int (iI x2)), some (.int (iI x3)), some (.ref a1), none, none, none]) (st' := []) rfl ?_
    refine wp_g (n := 1) (pc' := 13) (L' := [some (.ref 0), some (.int (iI x1)), some (.int (iI x2)), some (.int (iI x3)), some (.ref a1), none, none, none]) (st' := [.int (iI x2)]) rfl ?_
    refine wp_cs (As := [.int (iI x2)]) (rest := []) rfl rfl rfl rfl (Nat.le_of_ble_eq_true rfl) (Nat.le_of_ble_eq_true rfl) (hW _ S) (fun r2 H2 q2 => ?_)
    obtain ⟨v2, m2, γ2, t2, rfl, hv2, S, hW⟩ := q2
    show wp _ _ _ _ _ [.int (iI v2)] _ _
    refine wp_ifI (a := v2) rfl rfl hv2.1 hv2.2 (fun c3 => ?_) (fun c3 => ?_)
    · have dc3 := c3
      have hW := hW.2 dc3
      refine wp_g (n := 1) (pc' := 23) (L' := [some (.ref 0), some (.int (iI x1)), some (.int (iI x2)), some (.int (iI x3)), some (.ref a1), none, none, none]) (st' := [.int (iI x3)]) rfl ?_
      refine wp_ifI (a := x3) rfl rfl hx3.1 hx3.2 (fun c4 => ?_) (fun c4 => ?_)
      · have dc4 := c4
        have hW := hW.1 dc4
        refine wp_g (n := 1) (pc' := 49) (L' := [some (.ref 0), some (.int (iI x1)), some (.int (iI x2)), some (.int (iI x3)), some (.ref a1), none, none, none]) (st' := [.int (iI (-2))]) rfl ?_
        exact wp_iret rfl rfl ⟨_, _, _, _, rfl, (by decide), S, hW⟩
      · have dc4 := c4
        have hW := hW.2 dc4
        refine wp_g (n := 2) (pc' := 28) (L' := [some (.ref 0), some (.int (iI x1)), some (.int (iI x2)), some (.int (iI x3)), some (.ref a1), none, none, none]) (st' := [.int (iI x2), .int (iI x3)]) rfl ?_
        refine wp_ifI (a := x2) rfl rfl hx2.1 hx2.2 (fun c5 => ?_) (fun c5 => ?_)
        · have dc5 := c5
          have hW := hW.2 dc5
          refine wp_g (n := 1) (pc' := 41) (L' := [some (.ref 0), some (.int (iI x1)), some (.int (iI x2)), some (.int (iI x3)), some (.ref a1), none, none, none]) (st' := [.ref a1, .int (iI x3)]) rfl ?_
          refine wp_cv (As := []) (rest := [.int (iI x3)]) rfl rfl (S.gg a1 hg1).obj (isg_lt hg1) rfl rfl rfl (Nat.le_of_ble_eq_true rfl) (Nat.le_of_ble_eq_true rfl) (hW _ S) (fun r6 H6 q6 => ?_)
          obtain ⟨v6, m6, γ6, t6, rfl, hv6, S, hW⟩ := q6
          show wp _ _ _ _ _ [.int (iI v6), .int (iI x3)] _ _
          refine wp_icmpI (a := x3) (b := v6) rfl rfl hx3.1 hx3.2 hv6.1 hv6.2 (fun c7 => ?_) (fun c7 => ?_)
          · have dc7 := c7
            have hW := hW.1 dc7
            refine wp_g (n := 2) (pc' := 53) (L' := [some (.ref 0), some (.int (iI x1)), some (.int (iI x2)), some (.int (iI x3)), some (.ref a1), none, none, none]) (st' := [.ref a1, .ref 0]) rfl ?_
            refine wp_cv (As := [.ref a1]) (rest := []) rfl rfl (S.cell 0 (nc rfl)) (by decide) rfl rfl rfl (Nat.le_of_ble_eq_true rfl) (Nat.le_of_ble_eq_true rfl) (hW _ S) (fun r8 H8 q8 => ?_)
            obtain ⟨o8, m8, γ8, t8, rfl, S, hW⟩ := q8
            obtain ⟨rfl, hW⟩ := hW
            show wp _ _ _ _ _ [.ref 10] _ _
            refine wp_g (n := 5) (pc' := 64) (L' := [some (.ref 0), some (.int (iI x1)), some (.int (iI x2)), some (.int (iI x3)), some (.ref a1), some (.ref 10), some (.int (iI 0)), some (.int (iI 0))]) (st' := []) rfl ?_
            exact hW (some (.ref 0)) (some (.int (iI x1))) _ S
          · have dc7 := c7
            have hW := hW.2 dc7
            refine wp_g (n := 1) (pc' := 49) (L' := [some (.ref 0), some (.int (iI x1)), some (.int (iI x2)), some (.int (iI x3)), some (.ref a1), none, none, none]) (st' := [.int (iI (-2))]) rfl ?_
            exact wp_iret rfl rfl ⟨_, _, _, _, rfl, (by decide), S, hW⟩
        · have dc5 := (Classical.not_not.mp c5)
          have hW := hW.1 dc5
          refine wp_g (n := 1) (pc' := 33) (L' := [some (.ref 0), some (.int (iI x1)), some (.int (iI x2)), some (.int (iI x3)), some (.ref a1), none, none, none]) (st' := [.ref a1, .int (iI x3)]) rfl ?_
          refine wp_cv (As := []) (rest := [.int (iI x3)]) rfl rfl (S.gg a1 hg1).obj (isg_lt hg1) rfl rfl rfl (Nat.le_of_ble_eq_true rfl) (Nat.le_of_ble_eq_true rfl) (hW _ S) (fun r9 H9 q9 => ?_)
          obtain ⟨v9, m9, γ9, t9, rfl, hv9, S, hW⟩ := q9
          show wp _ _ _ _ _ [.int (iI v9), .int (iI x3)] _ _
          refine wp_g (n := 1) (pc' := 44) (L' := [some (.ref 0), some (.int (iI x1)), some (.int (iI x2)), some (.int (iI x3)), some (.ref a1), none, none, none]) (st' := [.int (iI v9), .int (iI x3)]) rfl ?_
          refine wp_icmpI (a := x3) (b := v9) rfl rfl hx3.1 hx3.2 hv9.1 hv9.2 (fun c10 => ?_) (fun c10 => ?_)
          · have dc10 := c10
            have hW := hW.1 dc10
            refine wp_g (n := 2) (pc' := 53) (L' := [some (.ref 0), some (.int (iI x1)), some (.int (iI x2)), some (.int (iI x3)), some (.ref a1), none, none, none]) (st' := [.ref a1, .ref 0]) rfl ?_
            refine wp_cv (As := [.ref a1]) (rest := []) rfl rfl (S.cell 0 (nc rfl)) (by decide) rfl rfl rfl (Nat.le_of_ble_eq_true rfl) (Nat.le_of_ble_eq_true rfl) (hW _ S) (fun r11 H11 q11 => ?_)
            obtain ⟨o11, m11, γ11, t11, rfl, S, hW⟩ := q11
            obtain ⟨rfl, hW⟩ := hW
            show wp _ _ _ _ _ [.ref 10] _ _
            refine wp_g (n := 5) (pc' := 64) (L' := [some (.ref 0), some (.int (iI x1)), some (.int (iI x2)), some (.int (iI x3)), some (.ref a1), some (.ref 10), some (.int (iI 0)), some (.int (iI 0))]) (st' := []) rfl ?_
            exact hW (some (.ref 0)) (some (.int (iI x1))) _ S
          · have dc10 := c10
            have hW := hW.2 dc10
            refine wp_g (n := 1) (pc' := 49) (L' := [some (.ref 0), some (.int (iI x1)), some (.int (iI x2)), some (.int (iI x3)), some (.ref a1), none, none, none]) (st' := [.int (iI (-2))]) rfl ?_
            exact wp_iret rfl rfl ⟨_, _, _, _, rfl, (by decide), S, hW⟩
    · have dc3 := (Classical.not_not.mp c3)
      have hW := hW.1 dc3
      refine wp_g (n := 1) (pc' := 21) (L' := [some (.ref 0), some (.int (iI x1)), some (.int (iI x2)), some (.int (iI x3)), some (.ref a1), none, none, none]) (st' := [.int (iI (-2))]) rfl ?_
      exact wp_iret rfl rfl ⟨_, _, _, _, rfl, (by decide), S, hW⟩
theorem vc_X8_painted_64 {E : am_E} {k : Nat} {x1 : Int} {x2 : Int} {x3 : Int} {y2 : Int} {y3 : Int} {y4 : Nat} {y6 : Int} {y7 : Int} {m : MM} {γ : GM} {t : am_H} {Q : Int → MM → GM → am_H → Prop} (hx1 : rJ x1) (hx2 : rJ x2) (hx3 : rJ x3) (hy2 : rJ y2) (hy3 : rJ y3) (hy4 : isg y4) (hy6 : rJ y6) (hy7 : rJ y7) (hW : W_X8_painted_64 E k x1 x2 x3 y2 y3 y4 y6 y7 m γ t Q) : hd_X8_painted_64 E k x1 x2 x3 y2 y3 y4 y6 y7 m γ t Q := by
  unfold W_X8_painted_64 at hW
  intro z0 z1 h S
  refine wp_g (n := 2) (pc' := 68) (L' := [z0, z1, some (.int (iI y2)), some (.int (iI y3)), some (.ref y4), some (.ref 10), some (.int (iI y6)), some (.int (iI y7))]) (st' := [.ref y4, .int (iI y7)]) rfl ?_
  refine wp_cv (As := []) (rest := [.int (iI y7)]) rfl rfl (S.gg y4 hy4).obj (isg_lt hy4) rfl rfl rfl (Nat.le_of_ble_eq_true rfl) (Nat.le_of_ble_eq_true rfl) (hW _ S) (fun r1 H1 q1 => ?_)
  obtain ⟨v1, m1, γ1, t1, rfl, hv1, S, hW⟩ := q1
  show wp _ _ _ _ _ [.int (iI v1), .int (iI y7)] _ _
  refine wp_icmpI (a := y7) (b := v1) rfl rfl hy7.1 hy7.2 hv1.1 hv1.2 (fun c2 => ?_) (fun c2 => ?_)
  · have dc2 := (Int.not_lt.mpr c2)
    have hW := hW.2 dc2
    refine wp_g (n := 1) (pc' := 119) (L' := [z0, z1, some (.int (iI y2)), some (.int (iI y3)), some (.ref y4), some (.ref 10), some (.int (iI y6)), some (.int (iI y7))]) (st' := [.int (iI y6)]) rfl ?_
    exact wp_iret rfl rfl ⟨_, _, _, _, rfl, hy6, S, hW⟩
  · have dc2 := (Int.not_le.mp c2)
    have hW := hW.1 dc2
    refine wp_g (n := 1) (pc' := 75) (L' := [z0, z1, some (.int (iI y2)), some (.int (iI y3)), some (.ref y4), some (.ref 10), some (.int (iI y6)), some (.int (iI y7))]) (st' := [.int (iI y2)]) rfl ?_
    refine wp_ifI (a := y2) rfl rfl hy2.1 hy2.2 (fun c3 => ?_) (fun c3 => ?_)
    · have dc3 := c3
      have hW := hW.2 dc3
      refine wp_g (n := 2) (pc' := 92) (L' := [z0, z1, some (.int (iI y2)), some (.int (iI y3)), some (.ref y4), some (.ref 10), some (.int (iI y6)), some (.int (iI y7))]) (st' := [.int (iI y7), .ref y4]) rfl ?_
      refine wp_cv (As := [.int (iI y7)]) (rest := []) rfl rfl (S.gg y4 hy4).obj (isg_lt hy4) rfl rfl rfl (Nat.le_of_ble_eq_true rfl) (Nat.le_of_ble_eq_true rfl) (hW _ S) (fun r4 H4 q4 => ?_)
      obtain ⟨v4, m4, γ4, t4, rfl, hv4, S, hW⟩ := q4
      show wp _ _ _ _ _ [.int (iI v4)] _ _
      refine wp_g (n := 1) (pc' := 96) (L' := [z0, z1, some (.int (iI y2)), some (.int (iI y3)), some (.ref y4), some (.ref 10), some (.int (iI y6)), some (.int (iI y7))]) (st' := [.int (iI y3), .int (iI v4)]) rfl ?_
      refine wp_icmpI (a := v4) (b := y3) rfl rfl hv4.1 hv4.2 hy3.1 hy3.2 (fun c5 => ?_) (fun c5 => ?_)
      · have dc5 := c5
        have hW := hW.2 dc5
        refine wp_iinc (L' := [z0, z1, some (.int (iI y2)), some (.int (iI y3)), some (.ref y4), some (.ref 10), some (.int (iI y6)), some (.int (iI (y7 + 1)))]) (a := y7) rfl rfl rfl ?_
        refine wp_g (n := 1) (pc' := 64) (L' := [z0, z1, some (.int (iI y2)), some (.int (iI y3)), some (.ref y4), some (.ref 10), some (.int (iI y6)), some (.int (iI (y7 + 1)))]) (st' := []) rfl ?_
        exact hW z0 z1 _ S
      · have dc5 := (Classical.not_not.mp c5)
        have hW := hW.1 dc5
        refine wp_g (n := 3) (pc' := 105) (L' := [z0, z1, some (.int (iI y2)), some (.int (iI y3)), some (.ref y4), some (.ref 10), some (.int (iI y6)), some (.int (iI y7))]) (st' := [.int (iI y7), .ref 10, .int (iI y6)]) rfl ?_
        refine wp_cv (As := [.int (iI y7)]) (rest := [.int (iI y6)]) rfl rfl (S.cell 10 (nc rfl)) (by decide) rfl rfl rfl (Nat.le_of_ble_eq_true rfl) (Nat.le_of_ble_eq_true rfl) (hW _ S) (fun r6 H6 q6 => ?_)
        obtain ⟨v6, m6, γ6, t6, rfl, hv6, S, hW⟩ := q6
        show wp _ _ _ _ _ [.int (iI v6), .int (iI y6)] _ _
        refine wp_add (a := y6) (b := v6) rfl ?_
        refine wp_g (n := 1) (pc' := 111) (L' := [z0, z1, some (.int (iI y2)), some (.int (iI y3)), some (.ref y4), some (.ref 10), some (.int (iI (y6 + v6))), some (.int (iI y7))]) (st' := []) rfl ?_
        refine wp_iinc (L' := [z0, z1, some (.int (iI y2)), some (.int (iI y3)), some (.ref y4), some (.ref 10), some (.int (iI (y6 + v6))), some (.int (iI (y7 + 1)))]) (a := y7) rfl rfl rfl ?_
        refine wp_g (n := 1) (pc' := 64) (L' := [z0, z1, some (.int (iI y2)), some (.int (iI y3)), some (.ref y4), some (.ref 10), some (.int (iI (y6 + v6))), some (.int (iI (y7 + 1)))]) (st' := []) rfl ?_
        exact hW z0 z1 _ S
    · have dc3 := (Classical.not_not.mp c3)
      have hW := hW.1 dc3
      refine wp_g (n := 2) (pc' := 82) (L' := [z0, z1, some (.int (iI y2)), some (.int (iI y3)), some (.ref y4), some (.ref 10), some (.int (iI y6)), some (.int (iI y7))]) (st' := [.int (iI y7), .ref y4]) rfl ?_
      refine wp_cv (As := [.int (iI y7)]) (rest := []) rfl rfl (S.gg y4 hy4).obj (isg_lt hy4) rfl rfl rfl (Nat.le_of_ble_eq_true rfl) (Nat.le_of_ble_eq_true rfl) (hW _ S) (fun r7 H7 q7 => ?_)
      obtain ⟨v7, m7, γ7, t7, rfl, hv7, S, hW⟩ := q7
      show wp _ _ _ _ _ [.int (iI v7)] _ _
      refine wp_g (n := 2) (pc' := 96) (L' := [z0, z1, some (.int (iI y2)), some (.int (iI y3)), some (.ref y4), some (.ref 10), some (.int (iI y6)), some (.int (iI y7))]) (st' := [.int (iI y3), .int (iI v7)]) rfl ?_
      refine wp_icmpI (a := v7) (b := y3) rfl rfl hv7.1 hv7.2 hy3.1 hy3.2 (fun c8 => ?_) (fun c8 => ?_)
      · have dc8 := c8
        have hW := hW.2 dc8
        refine wp_iinc (L' := [z0, z1, some (.int (iI y2)), some (.int (iI y3)), some (.ref y4), some (.ref 10), some (.int (iI y6)), some (.int (iI (y7 + 1)))]) (a := y7) rfl rfl rfl ?_
        refine wp_g (n := 1) (pc' := 64) (L' := [z0, z1, some (.int (iI y2)), some (.int (iI y3)), some (.ref y4), some (.ref 10), some (.int (iI y6)), some (.int (iI (y7 + 1)))]) (st' := []) rfl ?_
        exact hW z0 z1 _ S
      · have dc8 := (Classical.not_not.mp c8)
        have hW := hW.1 dc8
        refine wp_g (n := 3) (pc' := 105) (L' := [z0, z1, some (.int (iI y2)), some (.int (iI y3)), some (.ref y4), some (.ref 10), some (.int (iI y6)), some (.int (iI y7))]) (st' := [.int (iI y7), .ref 10, .int (iI y6)]) rfl ?_
        refine wp_cv (As := [.int (iI y7)]) (rest := [.int (iI y6)]) rfl rfl (S.cell 10 (nc rfl)) (by decide) rfl rfl rfl (Nat.le_of_ble_eq_true rfl) (Nat.le_of_ble_eq_true rfl) (hW _ S) (fun r9 H9 q9 => ?_)
        obtain ⟨v9, m9, γ9, t9, rfl, hv9, S, hW⟩ := q9
        show wp _ _ _ _ _ [.int (iI v9), .int (iI y6)] _ _
        refine wp_add (a := y6) (b := v9) rfl ?_
        refine wp_g (n := 1) (pc' := 111) (L' := [z0, z1, some (.int (iI y2)), some (.int (iI y3)), some (.ref y4), some (.ref 10), some (.int (iI (y6 + v9))), some (.int (iI y7))]) (st' := []) rfl ?_
        refine wp_iinc (L' := [z0, z1, some (.int (iI y2)), some (.int (iI y3)), some (.ref y4), some (.ref 10), some (.int (iI (y6 + v9))), some (.int (iI (y7 + 1)))]) (a := y7) rfl rfl rfl ?_
        refine wp_g (n := 1) (pc' := 64) (L' := [z0, z1, some (.int (iI y2)), some (.int (iI y3)), some (.ref y4), some (.ref 10), some (.int (iI (y6 + v9))), some (.int (iI (y7 + 1)))]) (st' := []) rfl ?_
        exact hW z0 z1 _ S
def hd_X8_loops_42 (E : am_E) (k : Nat) (x1 : Int) (x2 : Int) (y2 : Int) (y4 : Nat) (y5 : Int) (y6 : Int) (m : MM) (γ : GM) (t : am_H) (Q : Int → MM → GM → am_H → Prop) : Prop := ∀ (z1 z3 : Option Value), TT (pI Q) E (k + 1) 154 42 [some (.ref 0), z1, some (.long (lI y2)), z3, some (.ref y4), some (.int (iI y5)), some (.int (iI y6))] [] m γ t
abbrev W_X8_loops (E : am_E) (k : Nat) (x1 : Int) (x2 : Int) (m : MM) (γ : GM) (t : am_H) (Q : Int → MM → GM → am_H → Prop) : Prop := (TA E k 184 [.ref 0, .int (iI x1)] m γ t (fun o1 m1 γ1 t1 => ((o1 = none → (Q (-2) m1 γ1 t1)) ∧ (∀ a1, o1 = some a1 → (isg a1 ∧ (TI E k 41 [.ref a1] m1 γ1 t1 (fun v2 m2 γ2 t2 => ((((lcI (lUshr x2 v2) 0) = 0) → (TV E k 44 [.ref 2, .ref a1] m2 γ2 t2 (fun m6 γ6 t6 => (hd_X8_loops_42 E k x1 x2 x2 a1 0 0 m6 γ6 t6 Q)))) ∧ (¬ ((lcI (lUshr x2 v2) 0) = 0) → (Q (-2) m2 γ2 t2))))))))))
abbrev W_X8_loops_42 (E : am_E) (k : Nat) (x1 : Int) (x2 : Int) (y2 : Int) (y4 : Nat) (y5 : Int) (y6 : Int) (m : MM) (γ : GM) (t : am_H) (Q : Int → MM → GM → am_H → Prop) : Prop := (TI E k 28 [.ref y4] m γ t (fun v1 m1 γ1 t1 => (((y6 < v1) → (TI E k 34 [.ref y4, .int (iI y6)] m1 γ1 t1 (fun v5 m5 γ5 t5 => (((v5 = 0) → (hd_X8_loops_42 E k x1 x2 y2 y4 y5 (y6 + 1) m5 γ5 t5 Q)) ∧ (¬ (v5 = 0) → ((((lcI (lAnd (lUshr y2 y5) 1) 1) = 0) → (TV E k 42 [.ref 2, .int (iI y6), .int (iI 3)] m5 γ5 t5 (fun m12 γ12 t12 => (hd_X8_loops_42 E k x1 x2 y2 y4 (y5 + 1) (y6 + 1) m12 γ12 t12 Q)))) ∧ (¬ ((lcI (lAnd (lUshr y2 y5) 1) 1) = 0) → (TV E k 42 [.ref 2, .int (iI y6), .int (iI 2)] m5 γ5 t5 (fun m11 γ11 t11 => (hd_X8_loops_42 E k x1 x2 y2 y4 (y5 + 1) (y6 + 1) m11 γ11 t11 Q)))))))))) ∧ (¬ (y6 < v1) → (TA E k 186 [.ref 0, .ref 2] m1 γ1 t1 (fun o3 m3 γ3 t3 => o3 = some 10 ∧ (TI E k 99 [.ref 10] m3 γ3 t3 (fun v4 m4 γ4 t4 => (Q v4 m4 γ4 t4)))))))))
theorem vc_X8_loops {E : am_E} {k : Nat} {x1 : Int} {x2 : Int} {m : MM} {γ : GM} {t : am_H} {Q : Int → MM → GM → am_H → Prop} (hx1 : rJ x1) (hx2 : rK x2) (hW : W_X8_loops E k x1 x2 m γ t Q) : TI E (k + 1) 154 [.ref 0, .int (iI x1), .long (lI x2)] m γ t Q := by
  unfold W_X8_loops at hW
  intro h S
  refine wp_g (n := 2) (pc' := 2) (L' := [some (.ref 0), some (.int (iI x1)), some (.long (lI x2)), none, none, none, none]) (st' := [.int (iI x1), .ref 0]) rfl ?_
  refine wp_cv (As := [.int (iI x1)]) (rest := []) rfl rfl (S.cell 0 (nc rfl)) (by decide) rfl rfl rfl (Nat.le_of_ble_eq_true rfl) (Nat.le_of_ble_eq_true rfl) (hW _ S) (fun r1 H1 q1 => ?_)
  obtain ⟨o1, m1, γ1, t1, rfl, S, hW⟩ := q1
  cases o1 with
  | none =>
    have hW := hW.1 rfl
    show wp _ _ _ _ _ [.null] _ _
    refine wp_g (n := 2) (pc' := 9) (L' := [some (.ref 0), some (.int (iI x1)), some (.long (lI x2)), none, some (.null), none, none]) (st' := [.null]) rfl ?_
    refine wp_g (n := 1) (pc' := 24) (L' := [some (.ref 0), some (.int (iI x1)), some (.long (lI x2)), none, some (.null), none, none]) (st' := []) rfl ?_
    refine wp_g (n := 1) (pc' := 26) (L' := [some (.ref 0), some (.int (iI x1)), some (.long (lI x2)), none, some (.null), none, none]) (st' := [.int (iI (-2))]) rfl ?_
    exact wp_iret rfl rfl ⟨_, _, _, _, rfl, (by decide), S, hW⟩
  | some a1 =>
    obtain ⟨hg1, hW⟩ := hW.2 _ rfl
    show wp _ _ _ _ _ [.ref a1] _ _
    refine wp_g (n := 2) (pc' := 9) (L' := [some (.ref 0), some (.int (iI x1)), some (.long (lI x2)), none, some (.ref a1), none, none]) (st' := [.ref a1]) rfl ?_
    refine wp_g (n := 1) (pc' := 12) (L' := [some (.ref 0), some (.int (iI x1)), some (.long (lI x2)), none, some (.ref a1), none, none]) (st' := []) rfl ?_
    refine wp_g (n := 2) (pc' := 15) (L' := [some (.ref 0), some (.int (iI x1)), some (.long (lI x2)), none, some (.ref a1), none, none]) (st' := [.ref a1, .long (lI x2)]) rfl ?_
    refine wp_cv (As := []) (rest := [.long (lI x2)]) rfl rfl (S.gg a1 hg1).obj (isg_lt hg1) rfl rfl rfl (Nat.le_of_ble_eq_true rfl) (Nat.le_of_ble_eq_true rfl) (hW _ S) (fun r2 H2 q2 => ?_)
    obtain ⟨v2, m2, γ2, t2, rfl, hv2, S, hW⟩ := q2
    show wp _ _ _ _ _ [.int (iI v2), .long (lI x2)] _ _
    refine wp_lUshr (a := x2) (b := v2) rfl ?_
    have hr3 : rK (lUshr x2 v2) := i64_rg _
    refine wp_g (n := 1) (pc' := 20) (L' := [some (.ref 0), some (.int (iI x1)), some (.long (lI x2)), none, some (.ref a1), none, none]) (st' := [.long (lI 0), .long (lI (lUshr x2 v2))]) rfl ?_
    refine wp_lcmp (a := (lUshr x2 v2)) (b := 0) rfl hr3 (by decide) ?_
    have hr4 : rJ (lcI (lUshr x2 v2) 0) := lcI_rg _ _
    refine wp_ifI (a := (lcI (lUshr x2 v2) 0)) rfl rfl hr4.1 hr4.2 (fun c5 => ?_) (fun c5 => ?_)
    · have dc5 := c5
      have hW := hW.1 dc5
      refine wp_g (n := 1) (pc' := 28) (L' := [some (.ref 0), some (.int (iI x1)), some (.long (lI x2)), none, some (.ref a1), none, none]) (st' := [.ref 0]) rfl ?_
      refine wp_getf (v := .ref 2) rfl rfl (S.cell 0 (nc rfl)) (by decide) rfl ?_
      refine wp_g (n := 1) (pc' := 33) (L' := [some (.ref 0), some (.int (iI x1)), some (.long (lI x2)), none, some (.ref a1), none, none]) (st' := [.ref a1, .ref 2]) rfl ?_
      refine wp_cv (As := [.ref a1]) (rest := []) rfl rfl (S.gg 2 (gi rfl)).obj (by decide) rfl rfl rfl (Nat.le_of_ble_eq_true rfl) (Nat.le_of_ble_eq_true rfl) (hW _ S) (fun r6 H6 q6 => ?_)
      obtain ⟨m6, γ6, t6, rfl, S, hW⟩ := q6
      show wp _ _ _ _ _ [] _ _
      refine wp_g (n := 4) (pc' := 42) (L' := [some (.ref 0), some (.int (iI x1)), some (.long (lI x2)), none, some (.ref a1), some (.int (iI 0)), some (.int (iI 0))]) (st' := []) rfl ?_
      exact hW (some (.int (iI x1))) none _ S
    · have dc5 := c5
      have hW := hW.2 dc5
      refine wp_g (n := 1) (pc' := 26) (L' := [some (.ref 0), some (.int (iI x1)), some (.long (lI x2)), none, some (.ref a1), none, none]) (st' := [.int (iI (-2))]) rfl ?_
      exact wp_iret rfl rfl ⟨_, _, _, _, rfl, (by decide), S, hW⟩
theorem vc_X8_loops_42 {E : am_E} {k : Nat} {x1 : Int} {x2 : Int} {y2 : Int} {y4 : Nat} {y5 : Int} {y6 : Int} {m : MM} {γ : GM} {t : am_H} {Q : Int → MM → GM → am_H → Prop} (hx1 : rJ x1) (hx2 : rK x2) (hy2 : rK y2) (hy4 : isg y4) (hy5 : rJ y5) (hy6 : rJ y6) (hW : W_X8_loops_42 E k x1 x2 y2 y4 y5 y6 m γ t Q) : hd_X8_loops_42 E k x1 x2 y2 y4 y5 y6 m γ t Q := by
  unfold W_X8_loops_42 at hW
  intro z1 z3 h S
  refine wp_g (n := 2) (pc' := 46) (L' := [some (.ref 0), z1, some (.long (lI y2)), z3, some (.ref y4), some (.int (iI y5)), some (.int (iI y6))]) (st' := [.ref y4, .int (iI y6)]) rfl ?_
  refine wp_cv (As := []) (rest := [.int (iI y6)]) rfl rfl (S.gg y4 hy4).obj (isg_lt hy4) rfl rfl rfl (Nat.le_of_ble_eq_true rfl) (Nat.le_of_ble_eq_true rfl) (hW _ S) (fun r1 H1 q1 => ?_)
  obtain ⟨v1, m1, γ1, t1, rfl, hv1, S, hW⟩ := q1
  show wp _ _ _ _ _ [.int (iI v1), .int (iI y6)] _ _
  refine wp_icmpI (a := y6) (b := v1) rfl rfl hy6.1 hy6.2 hv1.1 hv1.2 (fun c2 => ?_) (fun c2 => ?_)
  · have dc2 := (Int.not_lt.mpr c2)
    have hW := hW.2 dc2
    refine wp_g (n := 2) (pc' := 98) (L' := [some (.ref 0), z1, some (.long (lI y2)), z3, some (.ref y4), some (.int (iI y5)), some (.int (iI y6))]) (st' := [.ref 0, .ref 0]) rfl ?_
    refine wp_getf (v := .ref 2) rfl rfl (S.cell 0 (nc rfl)) (by decide) rfl ?_
    refine wp_cv (As := [.ref 2]) (rest := []) rfl rfl (S.cell 0 (nc rfl)) (by decide) rfl rfl rfl (Nat.le_of_ble_eq_true rfl) (Nat.le_of_ble_eq_true rfl) (hW _ S) (fun r3 H3 q3 => ?_)
    obtain ⟨o3, m3, γ3, t3, rfl, S, hW⟩ := q3
    obtain ⟨rfl, hW⟩ := hW
    show wp _ _ _ _ _ [.ref 10] _ _
    refine wp_cv (As := []) (rest := []) rfl rfl (S.cell 10 (nc rfl)) (by decide) rfl rfl rfl (Nat.le_of_ble_eq_true rfl) (Nat.le_of_ble_eq_true rfl) (hW _ S) (fun r4 H4 q4 => ?_)
    obtain ⟨v4, m4, γ4, t4, rfl, hv4, S, hW⟩ := q4
    show wp _ _ _ _ _ [.int (iI v4)] _ _
    exact wp_iret rfl rfl ⟨_, _, _, _, rfl, hv4, S, hW⟩
  · have dc2 := (Int.not_le.mp c2)
    have hW := hW.1 dc2
    refine wp_g (n := 2) (pc' := 56) (L' := [some (.ref 0), z1, some (.long (lI y2)), z3, some (.ref y4), some (.int (iI y5)), some (.int (iI y6))]) (st' := [.int (iI y6), .ref y4]) rfl ?_
    refine wp_cv (As := [.int (iI y6)]) (rest := []) rfl rfl (S.gg y4 hy4).obj (isg_lt hy4) rfl rfl rfl (Nat.le_of_ble_eq_true rfl) (Nat.le_of_ble_eq_true rfl) (hW _ S) (fun r5 H5 q5 => ?_)
    obtain ⟨v5, m5, γ5, t5, rfl, hv5, S, hW⟩ := q5
    show wp _ _ _ _ _ [.int (iI v5)] _ _
    refine wp_ifI (a := v5) rfl rfl hv5.1 hv5.2 (fun c6 => ?_) (fun c6 => ?_)
    · have dc6 := c6
      have hW := hW.1 dc6
      refine wp_iinc (L' := [some (.ref 0), z1, some (.long (lI y2)), z3, some (.ref y4), some (.int (iI y5)), some (.int (iI (y6 + 1)))]) (a := y6) rfl rfl rfl ?_
      refine wp_g (n := 1) (pc' := 42) (L' := [some (.ref 0), z1, some (.long (lI y2)), z3, some (.ref y4), some (.int (iI y5)), some (.int (iI (y6 + 1)))]) (st' := []) rfl ?_
      exact hW z1 z3 _ S
    · have dc6 := c6
      have hW := hW.2 dc6
      refine wp_g (n := 1) (pc' := 63) (L' := [some (.ref 0), z1, some (.long (lI y2)), z3, some (.ref y4), some (.int (iI y5)), some (.int (iI y6))]) (st' := [.ref 0]) rfl ?_
      refine wp_getf (v := .ref 2) rfl rfl (S.cell 0 (nc rfl)) (by decide) rfl ?_
      refine wp_g (n := 3) (pc' := 71) (L' := [some (.ref 0), z1, some (.long (lI y2)), z3, some (.ref y4), some (.int (iI y5)), some (.int (iI y6))]) (st' := [.int (iI y5), .long (lI y2), .int (iI y6), .ref 2]) rfl ?_
      refine wp_lUshr (a := y2) (b := y5) rfl ?_
      have hr7 : rK (lUshr y2 y5) := i64_rg _
      refine wp_g (n := 1) (pc' := 73) (L' := [some (.ref 0), z1, some (.long (lI y2)), z3, some (.ref y4), some (.int (iI y5)), some (.int (iI y6))]) (st' := [.long (lI 1), .long (lI (lUshr y2 y5)), .int (iI y6), .ref 2]) rfl ?_
      refine wp_lAnd (a := (lUshr y2 y5)) (b := 1) rfl ?_
      have hr8 : rK (lAnd (lUshr y2 y5) 1) := i64_rg _
      refine wp_g (n := 1) (pc' := 75) (L' := [some (.ref 0), z1, some (.long (lI y2)), z3, some (.ref y4), some (.int (iI y5)), some (.int (iI y6))]) (st' := [.long (lI 1), .long (lI (lAnd (lUshr y2 y5) 1)), .int (iI y6), .ref 2]) rfl ?_
      refine wp_lcmp (a := (lAnd (lUshr y2 y5) 1)) (b := 1) rfl hr8 (by decide) ?_
      have hr9 : rJ (lcI (lAnd (lUshr y2 y5) 1) 1) := lcI_rg _ _
      refine wp_ifI (a := (lcI (lAnd (lUshr y2 y5) 1) 1)) rfl rfl hr9.1 hr9.2 (fun c10 => ?_) (fun c10 => ?_)
      · have dc10 := c10
        have hW := hW.2 dc10
        refine wp_g (n := 1) (pc' := 84) (L' := [some (.ref 0), z1, some (.long (lI y2)), z3, some (.ref y4), some (.int (iI y5)), some (.int (iI y6))]) (st' := [.int (iI 2), .int (iI y6), .ref 2]) rfl ?_
        refine wp_cv (As := [.int (iI y6), .int (iI 2)]) (rest := []) rfl rfl (S.gg 2 (gi rfl)).obj (by decide) rfl rfl rfl (Nat.le_of_ble_eq_true rfl) (Nat.le_of_ble_eq_true rfl) (hW _ S) (fun r11 H11 q11 => ?_)
        obtain ⟨m11, γ11, t11, rfl, S, hW⟩ := q11
        show wp _ _ _ _ _ [] _ _
        refine wp_iinc (L' := [some (.ref 0), z1, some (.long (lI y2)), z3, some (.ref y4), some (.int (iI (y5 + 1))), some (.int (iI y6))]) (a := y5) rfl rfl rfl ?_
        refine wp_iinc (L' := [some (.ref 0), z1, some (.long (lI y2)), z3, some (.ref y4), some (.int (iI (y5 + 1))), some (.int (iI (y6 + 1)))]) (a := y6) rfl rfl rfl ?_
        refine wp_g (n := 1) (pc' := 42) (L' := [some (.ref 0), z1, some (.long (lI y2)), z3, some (.ref y4), some (.int (iI (y5 + 1))), some (.int (iI (y6 + 1)))]) (st' := []) rfl ?_
        exact hW z1 z3 _ S
      · have dc10 := (Classical.not_not.mp c10)
        have hW := hW.1 dc10
        refine wp_g (n := 2) (pc' := 84) (L' := [some (.ref 0), z1, some (.long (lI y2)), z3, some (.ref y4), some (.int (iI y5)), some (.int (iI y6))]) (st' := [.int (iI 3), .int (iI y6), .ref 2]) rfl ?_
        refine wp_cv (As := [.int (iI y6), .int (iI 3)]) (rest := []) rfl rfl (S.gg 2 (gi rfl)).obj (by decide) rfl rfl rfl (Nat.le_of_ble_eq_true rfl) (Nat.le_of_ble_eq_true rfl) (hW _ S) (fun r12 H12 q12 => ?_)
        obtain ⟨m12, γ12, t12, rfl, S, hW⟩ := q12
        show wp _ _ _ _ _ [] _ _
        refine wp_iinc (L' := [some (.ref 0), z1, some (.long (lI y2)), z3, some (.ref y4), some (.int (iI (y5 + 1))), some (.int (iI y6))]) (a := y5) rfl rfl rfl ?_
        refine wp_iinc (L' := [some (.ref 0), z1, some (.long (lI y2)), z3, some (.ref y4), some (.int (iI (y5 + 1))), some (.int (iI (y6 + 1)))]) (a := y6) rfl rfl rfl ?_
        refine wp_g (n := 1) (pc' := 42) (L' := [some (.ref 0), z1, some (.long (lI y2)), z3, some (.ref y4), some (.int (iI (y5 + 1))), some (.int (iI (y6 + 1)))]) (st' := []) rfl ?_
        exact hW z1 z3 _ S
abbrev W_X8_settings (E : am_E) (k : Nat) (x1 : Int) (x2 : Int) (m : MM) (γ : GM) (t : am_H) (Q : Int → MM → GM → am_H → Prop) : Prop := (TA E k 184 [.ref 0, .int (iI x1)] m γ t (fun o1 m1 γ1 t1 => ((o1 = none → (Q (-2) m1 γ1 t1)) ∧ (∀ a1, o1 = some a1 → (isg a1 ∧ (((x2 < 0) → (Q (-2) m1 γ1 t1)) ∧ (¬ (x2 < 0) → (TI E k 41 [.ref a1] m1 γ1 t1 (fun v3 m3 γ3 t3 => (((v3 ≤ 12) → (TV E k 59 [.ref 28, .ref a1] m3 γ3 t3 (fun m5 γ5 t5 => (TI E k 60 [.ref 28, .int (iI x2)] m5 γ5 t5 (fun v6 m6 γ6 t6 => (Q v6 m6 γ6 t6)))))) ∧ (¬ (v3 ≤ 12) → (Q (-5) m3 γ3 t3))))))))))))
theorem vc_X8_settings {E : am_E} {k : Nat} {x1 : Int} {x2 : Int} {m : MM} {γ : GM} {t : am_H} {Q : Int → MM → GM → am_H → Prop} (hx1 : rJ x1) (hx2 : rJ x2) (hW : W_X8_settings E k x1 x2 m γ t Q) : TI E (k + 1) 155 [.ref 0, .int (iI x1), .int (iI x2)] m γ t Q := by
  unfold W_X8_settings at hW
  intro h S
  refine wp_g (n := 2) (pc' := 2) (L' := [some (.ref 0), some (.int (iI x1)), some (.int (iI x2)), none]) (st' := [.int (iI x1), .ref 0]) rfl ?_
  refine wp_cv (As := [.int (iI x1)]) (rest := []) rfl rfl (S.cell 0 (nc rfl)) (by decide) rfl rfl rfl (Nat.le_of_ble_eq_true rfl) (Nat.le_of_ble_eq_true rfl) (hW _ S) (fun r1 H1 q1 => ?_)
  obtain ⟨o1, m1, γ1, t1, rfl, S, hW⟩ := q1
  cases o1 with
  | none =>
    have hW := hW.1 rfl
    show wp _ _ _ _ _ [.null] _ _
    refine wp_g (n := 2) (pc' := 7) (L' := [some (.ref 0), some (.int (iI x1)), some (.int (iI x2)), some (.null)]) (st' := [.null]) rfl ?_
    refine wp_g (n := 1) (pc' := 14) (L' := [some (.ref 0), some (.int (iI x1)), some (.int (iI x2)), some (.null)]) (st' := []) rfl ?_
    refine wp_g (n := 1) (pc' := 16) (L' := [some (.ref 0), some (.int (iI x1)), some (.int (iI x2)), some (.null)]) (st' := [.int (iI (-2))]) rfl ?_
    exact wp_iret rfl rfl ⟨_, _, _, _, rfl, (by decide), S, hW⟩
  | some a1 =>
    obtain ⟨hg1, hW⟩ := hW.2 _ rfl
    show wp _ _ _ _ _ [.ref a1] _ _
    refine wp_g (n := 2) (pc' := 7) (L' := [some (.ref 0), some (.int (iI x1)), some (.int (iI x2)), some (.ref a1)]) (st' := [.ref a1]) rfl ?_
    refine wp_g (n := 1) (pc' := 10) (L' := [some (.ref 0), some (.int (iI x1)), some (.int (iI x2)), some (.ref a1)]) (st' := []) rfl ?_
    refine wp_g (n := 1) (pc' := 11) (L' := [some (.ref 0), some (.int (iI x1)), some (.int (iI x2)), some (.ref a1)]) (st' := [.int (iI x2)]) rfl ?_
    refine wp_ifI (a := x2) rfl rfl hx2.1 hx2.2 (fun c2 => ?_) (fun c2 => ?_)
    · have dc2 := (Int.not_lt.mpr c2)
      have hW := hW.2 dc2
      refine wp_g (n := 1) (pc' := 18) (L' := [some (.ref 0), some (.int (iI x1)), some (.int (iI x2)), some (.ref a1)]) (st' := [.ref a1]) rfl ?_
      refine wp_cv (As := []) (rest := []) rfl rfl (S.gg a1 hg1).obj (isg_lt hg1) rfl rfl rfl (Nat.le_of_ble_eq_true rfl) (Nat.le_of_ble_eq_true rfl) (hW _ S) (fun r3 H3 q3 => ?_)
      obtain ⟨v3, m3, γ3, t3, rfl, hv3, S, hW⟩ := q3
      show wp _ _ _ _ _ [.int (iI v3)] _ _
      refine wp_g (n := 1) (pc' := 23) (L' := [some (.ref 0), some (.int (iI x1)), some (.int (iI x2)), some (.ref a1)]) (st' := [.int (iI 12), .int (iI v3)]) rfl ?_
      refine wp_icmpI (a := v3) (b := 12) rfl rfl hv3.1 hv3.2 (by decide) (by decide) (fun c4 => ?_) (fun c4 => ?_)
      · have dc4 := c4
        have hW := hW.1 dc4
        refine wp_g (n := 1) (pc' := 30) (L' := [some (.ref 0), some (.int (iI x1)), some (.int (iI x2)), some (.ref a1)]) (st' := [.ref 0]) rfl ?_
        refine wp_getf (v := .ref 28) rfl rfl (S.cell 0 (nc rfl)) (by decide) rfl ?_
        refine wp_g (n := 1) (pc' := 34) (L' := [some (.ref 0), some (.int (iI x1)), some (.int (iI x2)), some (.ref a1)]) (st' := [.ref a1, .ref 28]) rfl ?_
        refine wp_cv (As := [.ref a1]) (rest := []) rfl rfl (S.cell 28 (nc rfl)) (by decide) rfl rfl rfl (Nat.le_of_ble_eq_true rfl) (Nat.le_of_ble_eq_true rfl) (hW _ S) (fun r5 H5 q5 => ?_)
        obtain ⟨m5, γ5, t5, rfl, S, hW⟩ := q5
        show wp _ _ _ _ _ [] _ _
        refine wp_g (n := 1) (pc' := 38) (L' := [some (.ref 0), some (.int (iI x1)), some (.int (iI x2)), some (.ref a1)]) (st' := [.ref 0]) rfl ?_
        refine wp_getf (v := .ref 28) rfl rfl (S.cell 0 (nc rfl)) (by decide) rfl ?_
        refine wp_g (n := 1) (pc' := 42) (L' := [some (.ref 0), some (.int (iI x1)), some (.int (iI x2)), some (.ref a1)]) (st' := [.int (iI x2), .ref 28]) rfl ?_
        refine wp_cv (As := [.int (iI x2)]) (rest := []) rfl rfl (S.cell 28 (nc rfl)) (by decide) rfl rfl rfl (Nat.le_of_ble_eq_true rfl) (Nat.le_of_ble_eq_true rfl) (hW _ S) (fun r6 H6 q6 => ?_)
        obtain ⟨v6, m6, γ6, t6, rfl, hv6, S, hW⟩ := q6
        show wp _ _ _ _ _ [.int (iI v6)] _ _
        exact wp_iret rfl rfl ⟨_, _, _, _, rfl, hv6, S, hW⟩
      · have dc4 := c4
        have hW := hW.2 dc4
        refine wp_g (n := 1) (pc' := 28) (L' := [some (.ref 0), some (.int (iI x1)), some (.int (iI x2)), some (.ref a1)]) (st' := [.int (iI (-5))]) rfl ?_
        exact wp_iret rfl rfl ⟨_, _, _, _, rfl, (by decide), S, hW⟩
    · have dc2 := (Int.not_le.mp c2)
      have hW := hW.1 dc2
      refine wp_g (n := 1) (pc' := 16) (L' := [some (.ref 0), some (.int (iI x1)), some (.int (iI x2)), some (.ref a1)]) (st' := [.int (iI (-2))]) rfl ?_
      exact wp_iret rfl rfl ⟨_, _, _, _, rfl, (by decide), S, hW⟩
abbrev W_X8_bracket (E : am_E) (k : Nat) (x1 : Int) (x2 : Int) (m : MM) (γ : GM) (t : am_H) (Q : Int → MM → GM → am_H → Prop) : Prop := (TA E k 184 [.ref 0, .int (iI x1)] m γ t (fun o1 m1 γ1 t1 => ((o1 = none → (Q (-1000000000) m1 γ1 t1)) ∧ (∀ a1, o1 = some a1 → (isg a1 ∧ (TI E k 180 [.ref a1, .int (iI x2)] m1 γ1 t1 (fun v2 m2 γ2 t2 => (((v2 = 0) → (Q (-1000000000) m2 γ2 t2)) ∧ (¬ (v2 = 0) → (TV E k 59 [.ref 28, .ref a1] m2 γ2 t2 (fun m4 γ4 t4 => (TL E k 61 [.ref 28, .int (iI x2)] m4 γ4 t4 (fun v5 m5 γ5 t5 => (Q v5 m5 γ5 t5))))))))))))))
theorem vc_X8_bracket {E : am_E} {k : Nat} {x1 : Int} {x2 : Int} {m : MM} {γ : GM} {t : am_H} {Q : Int → MM → GM → am_H → Prop} (hx1 : rJ x1) (hx2 : rJ x2) (hW : W_X8_bracket E k x1 x2 m γ t Q) : TL E (k + 1) 156 [.ref 0, .int (iI x1), .int (iI x2)] m γ t Q := by
  unfold W_X8_bracket at hW
  intro h S
  refine wp_g (n := 2) (pc' := 2) (L' := [some (.ref 0), some (.int (iI x1)), some (.int (iI x2)), none]) (st' := [.int (iI x1), .ref 0]) rfl ?_
  refine wp_cv (As := [.int (iI x1)]) (rest := []) rfl rfl (S.cell 0 (nc rfl)) (by decide) rfl rfl rfl (Nat.le_of_ble_eq_true rfl) (Nat.le_of_ble_eq_true rfl) (hW _ S) (fun r1 H1 q1 => ?_)
  obtain ⟨o1, m1, γ1, t1, rfl, S, hW⟩ := q1
  cases o1 with
  | none =>
    have hW := hW.1 rfl
    show wp _ _ _ _ _ [.null] _ _
    refine wp_g (n := 2) (pc' := 7) (L' := [some (.ref 0), some (.int (iI x1)), some (.int (iI x2)), some (.null)]) (st' := [.null]) rfl ?_
    refine wp_g (n := 1) (pc' := 18) (L' := [some (.ref 0), some (.int (iI x1)), some (.int (iI x2)), some (.null)]) (st' := []) rfl ?_
    refine wp_g (n := 1) (pc' := 21) (L' := [some (.ref 0), some (.int (iI x1)), some (.int (iI x2)), some (.null)]) (st' := [.long (lI (-1000000000))]) rfl ?_
    exact wp_lret rfl rfl ⟨_, _, _, _, rfl, (by decide), S, hW⟩
  | some a1 =>
    obtain ⟨hg1, hW⟩ := hW.2 _ rfl
    show wp _ _ _ _ _ [.ref a1] _ _
    refine wp_g (n := 2) (pc' := 7) (L' := [some (.ref 0), some (.int (iI x1)), some (.int (iI x2)), some (.ref a1)]) (st' := [.ref a1]) rfl ?_
    refine wp_g (n := 1) (pc' := 10) (L' := [some (.ref 0), some (.int (iI x1)), some (.int (iI x2)), some (.ref a1)]) (st' := []) rfl ?_
    refine wp_g (n := 2) (pc' := 12) (L' := [some (.ref 0), some (.int (iI x1)), some (.int (iI x2)), some (.ref a1)]) (st' := [.int (iI x2), .ref a1]) rfl ?_
    refine wp_cs (As := [.ref a1, .int (iI x2)]) (rest := []) rfl rfl rfl rfl (Nat.le_of_ble_eq_true rfl) (Nat.le_of_ble_eq_true rfl) (hW _ S) (fun r2 H2 q2 => ?_)
    obtain ⟨v2, m2, γ2, t2, rfl, hv2, S, hW⟩ := q2
    show wp _ _ _ _ _ [.int (iI v2)] _ _
    refine wp_ifI (a := v2) rfl rfl hv2.1 hv2.2 (fun c3 => ?_) (fun c3 => ?_)
    · have dc3 := c3
      have hW := hW.2 dc3
      refine wp_g (n := 1) (pc' := 23) (L' := [some (.ref 0), some (.int (iI x1)), some (.int (iI x2)), some (.ref a1)]) (st' := [.ref 0]) rfl ?_
      refine wp_getf (v := .ref 28) rfl rfl (S.cell 0 (nc rfl)) (by decide) rfl ?_
      refine wp_g (n := 1) (pc' := 27) (L' := [some (.ref 0), some (.int (iI x1)), some (.int (iI x2)), some (.ref a1)]) (st' := [.ref a1, .ref 28]) rfl ?_
      refine wp_cv (As := [.ref a1]) (rest := []) rfl rfl (S.cell 28 (nc rfl)) (by decide) rfl rfl rfl (Nat.le_of_ble_eq_true rfl) (Nat.le_of_ble_eq_true rfl) (hW _ S) (fun r4 H4 q4 => ?_)
      obtain ⟨m4, γ4, t4, rfl, S, hW⟩ := q4
      show wp _ _ _ _ _ [] _ _
      refine wp_g (n := 1) (pc' := 31) (L' := [some (.ref 0), some (.int (iI x1)), some (.int (iI x2)), some (.ref a1)]) (st' := [.ref 0]) rfl ?_
      refine wp_getf (v := .ref 28) rfl rfl (S.cell 0 (nc rfl)) (by decide) rfl ?_
      refine wp_g (n := 1) (pc' := 35) (L' := [some (.ref 0), some (.int (iI x1)), some (.int (iI x2)), some (.ref a1)]) (st' := [.int (iI x2), .ref 28]) rfl ?_
      refine wp_cv (As := [.int (iI x2)]) (rest := []) rfl rfl (S.cell 28 (nc rfl)) (by decide) rfl rfl rfl (Nat.le_of_ble_eq_true rfl) (Nat.le_of_ble_eq_true rfl) (hW _ S) (fun r5 H5 q5 => ?_)
      obtain ⟨v5, m5, γ5, t5, rfl, hv5, S, hW⟩ := q5
      show wp _ _ _ _ _ [.long (lI v5)] _ _
      exact wp_lret rfl rfl ⟨_, _, _, _, rfl, hv5, S, hW⟩
    · have dc3 := (Classical.not_not.mp c3)
      have hW := hW.1 dc3
      refine wp_g (n := 1) (pc' := 21) (L' := [some (.ref 0), some (.int (iI x1)), some (.int (iI x2)), some (.ref a1)]) (st' := [.long (lI (-1000000000))]) rfl ?_
      exact wp_lret rfl rfl ⟨_, _, _, _, rfl, (by decide), S, hW⟩
