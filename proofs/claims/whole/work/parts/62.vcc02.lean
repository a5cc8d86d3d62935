abbrev W_X5_settle (E : am_E) (k : Nat) (x2 : Int) (x3 : Int) (x4 : Int) (m : MM) (γ : GM) (t : am_H) (Q : MM → GM → am_H → Prop) : Prop := (((x2 < (m 28 1)) → (((x2 < 12) → (TI E k 182 [.ref 34, .int (iI (4 * x2))] m γ t (fun v5 m5 γ5 t5 => (TI E k 182 [.ref 34, .int (iI ((4 * x2) + 1))] m5 γ5 t5 (fun v6 m6 γ6 t6 => (TI E k 182 [.ref 34, .int (iI ((4 * x2) + 2))] m6 γ6 t6 (fun v7 m7 γ7 t7 => (TI E k 182 [.ref 34, .int (iI ((4 * x2) + 3))] m7 γ7 t7 (fun v8 m8 γ8 t8 => ((0 ≤ x2 ∧ x2 < 12) ∧ ((((m8 35 ((x2).toNat)) = 0) → (TI E k 67 [.ref 28, .int (iI v5), .int (iI v6)] m8 γ8 t8 (fun v12 m12 γ12 t12 => (TI E k 67 [.ref 28, .int (iI v7), .int (iI v8)] m12 γ12 t12 (fun v13 m13 γ13 t13 => (TV E k 69 [.ref 28, .int (iI (x2 + 1)), .int (iI (x3 + 0)), .int (iI (x4 + (v12 + v13)))] m13 γ13 t13 (fun m14 γ14 t14 => (TV E k 68 [.ref 28, .int (iI v7), .int (iI v8)] m14 γ14 t14 (fun m15 γ15 t15 => (TV E k 68 [.ref 28, .int (iI v5), .int (iI v6)] m15 γ15 t15 (fun m16 γ16 t16 => (TI E k 67 [.ref 28, .int (iI v5), .int (iI v8)] m16 γ16 t16 (fun v17 m17 γ17 t17 => (TI E k 67 [.ref 28, .int (iI v6), .int (iI v7)] m17 γ17 t17 (fun v18 m18 γ18 t18 => (TV E k 69 [.ref 28, .int (iI (x2 + 1)), .int (iI ((x3 + 1) - 0)), .int (iI (x4 + (v17 + v18)))] m18 γ18 t18 (fun m19 γ19 t19 => (TV E k 68 [.ref 28, .int (iI v6), .int (iI v7)] m19 γ19 t19 (fun m20 γ20 t20 => (TV E k 68 [.ref 28, .int (iI v5), .int (iI v8)] m20 γ20 t20 (fun m21 γ21 t21 => (Q m21 γ21 t21)))))))))))))))))))))) ∧ (¬ ((m8 35 ((x2).toNat)) = 0) → (TI E k 67 [.ref 28, .int (iI v5), .int (iI v6)] m8 γ8 t8 (fun v22 m22 γ22 t22 => (TI E k 67 [.ref 28, .int (iI v7), .int (iI v8)] m22 γ22 t22 (fun v23 m23 γ23 t23 => (TV E k 69 [.ref 28, .int (iI (x2 + 1)), .int (iI (x3 + 1)), .int (iI (x4 + (v22 + v23)))] m23 γ23 t23 (fun m24 γ24 t24 => (TV E k 68 [.ref 28, .int (iI v7), .int (iI v8)] m24 γ24 t24 (fun m25 γ25 t25 => (TV E k 68 [.ref 28, .int (iI v5), .int (iI v6)] m25 γ25 t25 (fun m26 γ26 t26 => (TI E k 67 [.ref 28, .int (iI v5), .int (iI v8)] m26 γ26 t26 (fun v27 m27 γ27 t27 => (TI E k 67 [.ref 28, .int (iI v6), .int (iI v7)] m27 γ27 t27 (fun v28 m28 γ28 t28 => (TV E k 69 [.ref 28, .int (iI (x2 + 1)), .int (iI ((x3 + 1) - 1)), .int (iI (x4 + (v27 + v28)))] m28 γ28 t28 (fun m29 γ29 t29 => (TV E k 68 [.ref 28, .int (iI v6), .int (iI v7)] m29 γ29 t29 (fun m30 γ30 t30 => (TV E k 68 [.ref 28, .int (iI v5), .int (iI v8)] m30 γ30 t30 (fun m31 γ31 t31 => (Q m31 γ31 t31))))))))))))))))))))))))))))))))) ∧ (¬ (x2 < 12) → (TV E k 70 [.ref 28, .int (iI x3), .int (iI x4)] m γ t (fun m32 γ32 t32 => (Q m32 γ32 t32)))))) ∧ (¬ (x2 < (m 28 1)) → (TV E k 70 [.ref 28, .int (iI x3), .int (iI x4)] m γ t (fun m3 γ3 t3 => (Q m3 γ3 t3)))))
theorem vc_X5_settle {E : am_E} {k : Nat} {x2 : Int} {x3 : Int} {x4 : Int} {m : MM} {γ : GM} {t : am_H} {Q : MM → GM → am_H → Prop} (hx2 : rJ x2) (hx3 : rJ x3) (hx4 : rJ x4) (hW : W_X5_settle E k x2 x3 x4 m γ t Q) : TV E (k + 1) 69 [.ref 28, .int (iI x2), .int (iI x3), .int (iI x4)] m γ t Q := by
  unfold W_X5_settle at hW
  intro h S
  refine wp_g (n := 2) (pc' := 2) (L' := [some (.ref 28), some (.int (iI x2)), some (.int (iI x3)), some (.int (iI x4)), none, none, none, none, none, none, none]) (st' := [.ref 28, .int (iI x2)]) rfl ?_
  refine wp_getf (v := .int (iI (m 28 1))) rfl rfl (S.cell 28 (nc rfl)) (by decide) rfl ?_
  have hr1 : rJ (m 28 1) := S.rg 28 1 (nl rfl)
  refine wp_icmpI (a := x2) (b := (m 28 1)) rfl rfl hx2.1 hx2.2 hr1.1 hr1.2 (fun c2 => ?_) (fun c2 => ?_)
  · have dc2 := (Int.not_lt.mpr c2)
    have hW := hW.2 dc2
    refine wp_g (n := 3) (pc' := 17) (L' := [some (.ref 28), some (.int (iI x2)), some (.int (iI x3)), some (.int (iI x4)), none, none, none, none, none, none, none]) (st' := [.int (iI x4), .int (iI x3), .ref 28]) rfl ?_
    refine wp_cv (As := [.int (iI x3), .int (iI x4)]) (rest := []) rfl rfl (S.cell 28 (nc rfl)) (by decide) rfl rfl rfl (Nat.le_of_ble_eq_true rfl) (Nat.le_of_ble_eq_true rfl) (hW _ S) (fun r3 H3 q3 => ?_)
    obtain ⟨m3, γ3, t3, rfl, S, hW⟩ := q3
    show wp _ _ _ _ _ [] _ _
    exact wp_vret rfl rfl ⟨_, _, _, rfl, S, hW⟩
  · have dc2 := (Int.not_le.mp c2)
    have hW := hW.1 dc2
    refine wp_g (n := 2) (pc' := 11) (L' := [some (.ref 28), some (.int (iI x2)), some (.int (iI x3)), some (.int (iI x4)), none, none, none, none, none, none, none]) (st' := [.int (iI 12), .int (iI x2)]) rfl ?_
    refine wp_icmpI (a := x2) (b := 12) rfl rfl hx2.1 hx2.2 (by decide) (by decide) (fun c4 => ?_) (fun c4 => ?_)
    · have dc4 := c4
      have hW := hW.1 dc4
      refine wp_g (n := 1) (pc' := 22) (L' := [some (.ref 28), some (.int (iI x2)), some (.int (iI x3)), some (.int (iI x4)), none, none, none, none, none, none, none]) (st' := [.ref 28]) rfl ?_
      refine wp_getf (v := .ref 34) rfl rfl (S.cell 28 (nc rfl)) (by decide) rfl ?_
      refine wp_g (n := 2) (pc' := 27) (L' := [some (.ref 28), some (.int (iI x2)), some (.int (iI x3)), some (.int (iI x4)), none, none, none, none, none, none, none]) (st' := [.int (iI x2), .int (iI 4), .ref 34]) rfl ?_
      refine wp_mul (a := 4) (b := x2) rfl ?_
      refine wp_cs (As := [.ref 34, .int (iI (4 * x2))]) (rest := []) rfl rfl rfl rfl (Nat.le_of_ble_eq_true rfl) (Nat.le_of_ble_eq_true rfl) (hW _ S) (fun r5 H5 q5 => ?_)
      obtain ⟨v5, m5, γ5, t5, rfl, hv5, S, hW⟩ := q5
      show wp _ _ _ _ _ [.int (iI v5)] _ _
      refine wp_g (n := 2) (pc' := 34) (L' := [some (.ref 28), some (.int (iI x2)), some (.int (iI x3)), some (.int (iI x4)), some (.int (iI v5)), none, none, none, none, none, none]) (st' := [.ref 28]) rfl ?_
      refine wp_getf (v := .ref 34) rfl rfl (S.cell 28 (nc rfl)) (by decide) rfl ?_
      refine wp_g (n := 2) (pc' := 39) (L' := [some (.ref 28), some (.int (iI x2)), some (.int (iI x3)), some (.int (iI x4)), some (.int (iI v5)), none, none, none, none, none, none]) (st' := [.int (iI x2), .int (iI 4), .ref 34]) rfl ?_
      refine wp_mul (a := 4) (b := x2) rfl ?_
      refine wp_g (n := 1) (pc' := 41) (L' := [some (.ref 28), some (.int (iI x2)), some (.int (iI x3)), some (.int (iI x4)), some (.int (iI v5)), none, none, none, none, none, none]) (st' := [.int (iI 1), .int (iI (4 * x2)), .ref 34]) rfl ?_
      refine wp_add (a := (4 * x2)) (b := 1) rfl ?_
      refine wp_cs (As := [.ref 34, .int (iI ((4 * x2) + 1))]) (rest := []) rfl rfl rfl rfl (Nat.le_of_ble_eq_true rfl) (Nat.le_of_ble_eq_true rfl) (hW _ S) (fun r6 H6 q6 => ?_)
      obtain ⟨v6, m6, γ6, t6, rfl, hv6, S, hW⟩ := q6
      show wp _ _ _ _ _ [.int (iI v6)] _ _
      refine wp_g (n := 2) (pc' := 48) (L' := [some (.ref 28), some (.int (iI x2)), some (.int (iI x3)), some (.int (iI x4)), some (.int (iI v5)), some (.int (iI v6)), none, none, none, none, none]) (st' := [.ref 28]) rfl ?_
      refine wp_getf (v := .ref 34) rfl rfl (S.cell 28 (nc rfl)) (by decide) rfl ?_
      refine wp_g (n := 2) (pc' := 53) (L' := [some (.ref 28), some (.int (iI x2)), some (.int (iI x3)), some (.int (iI x4)), some (.int (iI v5)), some (.int (iI v6)), none, none, none, none, none]) (st' := [.int (iI x2), .int (iI 4), .ref 34]) rfl ?_
      refine wp_mul (a := 4) (b := x2) rfl ?_
      refine wp_g (n := 1) (pc' := 55) (L' := [some (.ref 28), some (.int (iI x2)), some (.int (iI x3)), some (.int (iI x4)), some (.int (iI v5)), some (.int (iI v6)), none, none, none, none, none]) (st' := [.int (iI 2), .int (iI (4 * x2)), .ref 34]) rfl ?_
      refine wp_add (a := (4 * x2)) (b := 2) rfl ?_
      refine wp_cs (As := [.ref 34, .int (iI ((4 * x2) + 2))]) (rest := []) rfl rfl rfl rfl (Nat.le_of_ble_eq_true rfl) (Nat.le_of_ble_eq_true rfl) (hW _ S) (fun r7 H7 q7 => ?_)
      obtain ⟨v7, m7, γ7, t7, rfl, hv7, S, hW⟩ := q7
      show wp _ _ _ _ _ [.int (iI v7)] _ _
      refine wp_g (n := 2) (pc' := 62) (L' := [some (.ref 28), some (.int (iI x2)), some (.int (iI x3)), some (.int (iI x4)), some (.int (iI v5)), some (.int (iI v6)), some (.int (iI v7)), none, none, none, none]) (st' := [.ref 28]) rfl ?_
      refine wp_getf (v := .ref 34) rfl rfl (S.cell 28 (nc rfl)) (by decide) rfl ?_
      refine wp_g (n := 2) (pc' := 67) (L' := [some (.ref 28), some (.int (iI x2)), some (.int (iI x3)), some (.int (iI x4)), some (.int (iI v5)), some (.int (iI v6)), some (.int (iI v7)), none, none, none, none]) (st' := [.int (iI x2), .int (iI 4), .ref 34]) rfl ?_
      refine wp_mul (a := 4) (b := x2) rfl ?_
      refine wp_g (n := 1) (pc' := 69) (L' := [some (.ref 28), some (.int (iI x2)), some (.int (iI x3)), some (.int (iI x4)), some (.int (iI v5)), some (.int (iI v6)), some (.int (iI v7)), none, none, none, none]) (st' := [.int (iI 3), .int (iI (4 * x2)), .ref 34]) rfl ?_
      refine wp_add (a := (4 * x2)) (b := 3) rfl ?_
      refine wp_cs (As := [.ref 34, .int (iI ((4 * x2) + 3))]) (rest := []) rfl rfl rfl rfl (Nat.le_of_ble_eq_true rfl) (Nat.le_of_ble_eq_true rfl) (hW _ S) (fun r8 H8 q8 => ?_)
      obtain ⟨v8, m8, γ8, t8, rfl, hv8, S, hW⟩ := q8
      show wp _ _ _ _ _ [.int (iI v8)] _ _
      refine wp_g (n := 2) (pc' := 76) (L' := [some (.ref 28), some (.int (iI x2)), some (.int (iI x3)), some (.int (iI x4)), some (.int (iI v5)), some (.int (iI v6)), some (.int (iI v7)), some (.int (iI v8)), none, none, none]) (st' := [.ref 28]) rfl ?_
      refine wp_getf (v := .ref 35) rfl rfl (S.cell 28 (nc rfl)) (by decide) rfl ?_
      refine wp_g (n := 1) (pc' := 80) (L' := [some (.ref 28), some (.int (iI x2)), some (.int (iI x3)), some (.int (iI x4)), some (.int (iI v5)), some (.int (iI v6)), some (.int (iI v7)), some (.int (iI v8)), none, none, none]) (st' := [.int (iI x2), .ref 35]) rfl ?_
      obtain ⟨p9, hW⟩ := hW
      refine wp_tald (n := 12) (F := (m8 35)) rfl (S.cell 35 (nc rfl)) (by decide) p9.1 p9.2 (by decide) ?_
      show wp _ _ _ _ _ [.int (iI (m8 35 ((x2).toNat)))] _ _
      have hr10 : rJ (m8 35 ((x2).toNat)) := S.rg 35 ((x2).toNat) (nl rfl)
      refine wp_ifI (a := (m8 35 ((x2).toNat))) rfl rfl hr10.1 hr10.2 (fun c11 => ?_) (fun c11 => ?_)
      · have dc11 := c11
        have hW := hW.1 dc11
        refine wp_g (n := 5) (pc' := 96) (L' := [some (.ref 28), some (.int (iI x2)), some (.int (iI x3)), some (.int (iI x4)), some (.int (iI v5)), some (.int (iI v6)), some (.int (iI v7)), some (.int (iI v8)), some (.int (iI 0)), none, none]) (st' := [.int (iI v6), .int (iI v5), .ref 28]) rfl ?_
        refine wp_cv (As := [.int (iI v5), .int (iI v6)]) (rest := []) rfl rfl (S.cell 28 (nc rfl)) (by decide) rfl rfl rfl (Nat.le_of_ble_eq_true rfl) (Nat.le_of_ble_eq_true rfl) (hW _ S) (fun r12 H12 q12 => ?_)
        obtain ⟨v12, m12, γ12, t12, rfl, hv12, S, hW⟩ := q12
        show wp _ _ _ _ _ [.int (iI v12)] _ _
        refine wp_g (n := 3) (pc' := 104) (L' := [some (.ref 28), some (.int (iI x2)), some (.int (iI x3)), some (.int (iI x4)), some (.int (iI v5)), some (.int (iI v6)), some (.int (iI v7)), some (.int (iI v8)), some (.int (iI 0)), none, none]) (st' := [.int (iI v8), .int (iI v7), .ref 28, .int (iI v12)]) rfl ?_
        refine wp_cv (As := [.int (iI v7), .int (iI v8)]) (rest := [.int (iI v12)]) rfl rfl (S.cell 28 (nc rfl)) (by decide) rfl rfl rfl (Nat.le_of_ble_eq_true rfl) (Nat.le_of_ble_eq_true rfl) (hW _ S) (fun r13 H13 q13 => ?_)
        obtain ⟨v13, m13, γ13, t13, rfl, hv13, S, hW⟩ := q13
        show wp _ _ _ _ _ [.int (iI v13), .int (iI v12)] _ _
        refine wp_add (a := v12) (b := v13) rfl ?_
        refine wp_g (n := 4) (pc' := 113) (L' := [some (.ref 28), some (.int (iI x2)), some (.int (iI x3)), some (.int (iI x4)), some (.int (iI v5)), some (.int (iI v6)), some (.int (iI v7)), some (.int (iI v8)), some (.int (iI 0)), some (.int (iI (v12 + v13))), none]) (st' := [.int (iI 1), .int (iI x2), .ref 28]) rfl ?_
        refine wp_add (a := x2) (b := 1) rfl ?_
        refine wp_g (n := 2) (pc' := 117) (L' := [some (.ref 28), some (.int (iI x2)), some (.int (iI x3)), some (.int (iI x4)), some (.int (iI v5)), some (.int (iI v6)), some (.int (iI v7)), some (.int (iI v8)), some (.int (iI 0)), some (.int (iI (v12 + v13))), none]) (st' := [.int (iI 0), .int (iI x3), .int (iI (x2 + 1)), .ref 28]) rfl ?_
        refine wp_add (a := x3) (b := 0) rfl ?_
        refine wp_g (n := 2) (pc' := 121) (L' := [some (.ref 28), some (.int (iI x2)), some (.int (iI x3)), some (.int (iI x4)), some (.int (iI v5)), some (.int (iI v6)), some (.int (iI v7)), some (.int (iI v8)), some (.int (iI 0)), some (.int (iI (v12 + v13))), none]) (st' := [.int (iI (v12 + v13)), .int (iI x4), .int (iI (x3 + 0)), .int (iI (x2 + 1)), .ref 28]) rfl ?_
        refine wp_add (a := x4) (b := (v12 + v13)) rfl ?_
        refine wp_cs (As := [.ref 28, .int (iI (x2 + 1)), .int (iI (x3 + 0)), .int (iI (x4 + (v12 + v13)))]) (rest := []) rfl rfl rfl rfl (Nat.le_of_ble_eq_true rfl) (Nat.le_of_ble_eq_true rfl) (hW _ S) (fun r14 H14 q14 => ?_)
        obtain ⟨m14, γ14, t14, rfl, S, hW⟩ := q14
        show wp _ _ _ _ _ [] _ _
        refine wp_g (n := 3) (pc' := 130) (L' := [some (.ref 28), some (.int (iI x2)), some (.int (iI x3)), some (.int (iI x4)), some (.int (iI v5)), some (.int (iI v6)), some (.int (iI v7)), some (.int (iI v8)), some (.int (iI 0)), some (.int (iI (v12 + v13))), none]) (st' := [.int (iI v8), .int (iI v7), .ref 28]) rfl ?_
        refine wp_cv (As := [.int (iI v7), .int (iI v8)]) (rest := []) rfl rfl (S.cell 28 (nc rfl)) (by decide) rfl rfl rfl (Nat.le_of_ble_eq_true rfl) (Nat.le_of_ble_eq_true rfl) (hW _ S) (fun r15 H15 q15 => ?_)
        obtain ⟨m15, γ15, t15, rfl, S, hW⟩ := q15
        show wp _ _ _ _ _ [] _ _
        refine wp_g (n := 3) (pc' := 138) (L' := [some (.ref 28), some (.int (iI x2)), some (.int (iI x3)), some (.int (iI x4)), some (.int (iI v5)), some (.int (iI v6)), some (.int (iI v7)), some (.int (iI v8)), some (.int (iI 0)), some (.int (iI (v12 + v13))), none]) (st' := [.int (iI v6), .int (iI v5), .ref 28]) rfl ?_
        refine wp_cv (As := [.int (iI v5), .int (iI v6)]) (rest := []) rfl rfl (S.cell 28 (nc rfl)) (by decide) rfl rfl rfl (Nat.le_of_ble_eq_true rfl) (Nat.le_of_ble_eq_true rfl) (hW _ S) (fun r16 H16 q16 => ?_)
        obtain ⟨m16, γ16, t16, rfl, S, hW⟩ := q16
        show wp _ _ _ _ _ [] _ _
        refine wp_g (n := 3) (pc' := 146) (L' := [some (.ref 28), some (.int (iI x2)), some (.int (iI x3)), some (.int (iI x4)), some (.int (iI v5)), some (.int (iI v6)), some (.int (iI v7)), some (.int (iI v8)), some (.int (iI 0)), some (.int (iI (v12 + v13))), none]) (st' := [.int (iI v8), .int (iI v5), .ref 28]) rfl ?_
        refine wp_cv (As := [.int (iI v5), .int (iI v8)]) (rest := []) rfl rfl (S.cell 28 (nc rfl)) (by decide) rfl rfl rfl (Nat.le_of_ble_eq_true rfl) (Nat.le_of_ble_eq_true rfl) (hW _ S) (fun r17 H17 q17 => ?_)
        obtain ⟨v17, m17, γ17, t17, rfl, hv17, S, hW⟩ := q17
        show wp _ _ _ _ _ [.int (iI v17)] _ _
        refine wp_g (n := 3) (pc' := 154) (L' := [some (.ref 28), some (.int (iI x2)), some (.int (iI x3)), some (.int (iI x4)), some (.int (iI v5)), some (.int (iI v6)), some (.int (iI v7)), some (.int (iI v8)), some (.int (iI 0)), some (.int (iI (v12 + v13))), none]) (st' := [.int (iI v7), .int (iI v6), .ref 28, .int (iI v17)]) rfl ?_
        refine wp_cv (As := [.int (iI v6), .int (iI v7)]) (rest := [.int (iI v17)]) rfl rfl (S.cell 28 (nc rfl)) (by decide) rfl rfl rfl (Nat.le_of_ble_eq_true rfl) (Nat.le_of_ble_eq_true rfl) (hW _ S) (fun r18 H18 q18 => ?_)
        obtain ⟨v18, m18, γ18, t18, rfl, hv18, S, hW⟩ := q18
        show wp _ _ _ _ _ [.int (iI v18), .int (iI v17)] _ _
        refine wp_add (a := v17) (b := v18) rfl ?_
        refine wp_g (n := 4) (pc' := 163) (L' := [some (.ref 28), some (.int (iI x2)), some (.int (iI x3)), some (.int (iI x4)), some (.int (iI v5)), some (.int (iI v6)), some (.int (iI v7)), some (.int (iI v8)), some (.int (iI 0)), some (.int (iI (v12 + v13))), some (.int (iI (v17 + v18)))]) (st' := [.int (iI 1), .int (iI x2), .ref 28]) rfl ?_
        refine wp_add (a := x2) (b := 1) rfl ?_
        refine wp_g (n := 2) (pc' := 166) (L' := [some (.ref 28), some (.int (iI x2)), some (.int (iI x3)), some (.int (iI x4)), some (.int (iI v5)), some (.int (iI v6)), some (.int (iI v7)), some (.int (iI v8)), some (.int (iI 0)), some (.int (iI (v12 + v13))), some (.int (iI (v17 + v18)))]) (st' := [.int (iI 1), .int (iI x3), .int (iI (x2 + 1)), .ref 28]) rfl ?_
        refine wp_add (a := x3) (b := 1) rfl ?_
        refine wp_g (n := 1) (pc' := 169) (L' := [some (.ref 28), some (.int (iI x2)), some (.int (iI x3)), some (.int (iI x4)), some (.int (iI v5)), some (.int (iI v6)), some (.int (iI v7)), some (.int (iI v8)), some (.int (iI 0)), some (.int (iI (v12 + v13))), some (.int (iI (v17 + v18)))]) (st' := [.int (iI 0), .int (iI (x3 + 1)), .int (iI (x2 + 1)), .ref 28]) rfl ?_
        refine wp_sub (a := (x3 + 1)) (b := 0) rfl ?_
        refine wp_g (n := 2) (pc' := 173) (L' := [some (.ref 28), some (.int (iI x2)), some (.int (iI x3)), some (.int (iI x4)), some (.int (iI v5)), some (.int (iI v6)), some (.int (iI v7)), some (.int (iI v8)), some (.int (iI 0)), some (.int (iI (v12 + v13))), some (.int (iI (v17 + v18)))]) (st' := [.int (iI (v17 + v18)), .int (iI x4), .int (iI ((x3 + 1) - 0)), .int (iI (x2 + 1)), .ref 28]) rfl ?_
        refine wp_add (a := x4) (b := (v17 + v18)) rfl ?_
        refine wp_cs (As := [.ref 28, .int (iI (x2 + 1)), .int (iI ((x3 + 1) - 0)), .int (iI (x4 + (v17 + v18)))]) (rest := []) rfl rfl rfl rfl (Nat.le_of_ble_eq_true rfl) (Nat.le_of_ble_eq_true rfl) (hW _ S) (fun r19 H19 q19 => ?_)
        obtain ⟨m19, γ19, t19, rfl, S, hW⟩ := q19
        show wp _ _ _ _ _ [] _ _
        refine wp_g (n := 3) (pc' := 182) (L' := [some (.ref 28), some (.int (iI x2)), some (.int (iI x3)), some (.int (iI x4)), some (.int (iI v5)), some (.int (iI v6)), some (.int (iI v7)), some (.int (iI v8)), some (.int (iI 0)), some (.int (iI (v12 + v13))), some (.int (iI (v17 + v18)))]) (st' := [.int (iI v7), .int (iI v6), .ref 28]) rfl ?_
        refine wp_cv (As := [.int (iI v6), .int (iI v7)]) (rest := []) rfl rfl (S.cell 28 (nc rfl)) (by decide) rfl rfl rfl (Nat.le_of_ble_eq_true rfl) (Nat.le_of_ble_eq_true rfl) (hW _ S) (fun r20 H20 q20 => ?_)
        obtain ⟨m20, γ20, t20, rfl, S, hW⟩ := q20
        show wp _ _ _ _ _ [] _ _
        refine wp_g (n := 3) (pc' := 190) (L' := [some (.ref 28), some (.int (iI x2)), some (.int (iI x3)), some (.int (iI x4)), some (.int (iI v5)), some (.int (iI v6)), some (.int (iI v7)), some (.int (iI v8)), some (.int (iI 0)), some (.int (iI (v12 + v13))), some (.int (iI (v17 + v18)))]) (st' := [.int (iI v8), .int (iI v5), .ref 28]) rfl ?_
        refine wp_cv (As := [.int (iI v5), .int (iI v8)]) (rest := []) rfl rfl (S.cell 28 (nc rfl)) (by decide) rfl rfl rfl (Nat.le_of_ble_eq_true rfl) (Nat.le_of_ble_eq_true rfl) (hW _ S) (fun r21 H21 q21 => ?_)
        obtain ⟨m21, γ21, t21, rfl, S, hW⟩ := q21
        show wp _ _ _ _ _ [] _ _
        exact wp_vret rfl rfl ⟨_, _, _, rfl, S, hW⟩
      · have dc11 := c11
        have hW := hW.2 dc11
        refine wp_g (n := 6) (pc' := 96) (L' := [some (.ref 28), some (.int (iI x2)), some (.int (iI x3)), some (.int (iI x4)), some (.int (iI v5)), some (.int (iI v6)), some (.int (iI v7)), some (.int (iI v8)), some (.int (iI 1)), none, none]) (st' := [.int (iI v6), .int (iI v5), .ref 28]) rfl ?_
        refine wp_cv (As := [.int (iI v5), .int (iI v6)]) (rest := []) rfl rfl (S.cell 28 (nc rfl)) (by decide) rfl rfl rfl (Nat.le_of_ble_eq_true rfl) (Nat.le_of_ble_eq_true rfl) (hW _ S) (fun r22 H22 q22 => ?_)
        obtain ⟨v22, m22, γ22, t22, rfl, hv22, S, hW⟩ := q22
        show wp _ _ _ _ _ [.int (iI v22)] _ _
        refine wp_g (n := 3) (pc' := 104) (L' := [some (.ref 28), some (.int (iI x2)), some (.int (iI x3)), some (.int (iI x4)), some (.int (iI v5)), some (.int (iI v6)), some (.int (iI v7)), some (.int (iI v8)), some (.int (iI 1)), none, none]) (st' := [.int (iI v8), .int (iI v7), .ref 28, .int (iI v22)]) rfl ?_
        refine wp_cv (As := [.int (iI v7), .int (iI v8)]) (rest := [.int (iI v22)]) rfl rfl (S.cell 28 (nc rfl)) (by decide) rfl rfl rfl (Nat.le_of_ble_eq_true rfl) (Nat.le_of_ble_eq_true rfl) (hW _ S) (fun r23 H23 q23 => ?_)
        obtain ⟨v23, m23, γ23, t23, rfl, hv23, S, hW⟩ := q23
        show wp _ _ _ _ _ [.int (iI v23), .int (iI v22)] _ _
        refine wp_add (a := v22) (b := v23) rfl ?_
        refine wp_g (n := 4) (pc' := 113) (L' := [some (.ref 28), some (.int (iI x2)), some (.int (iI x3)), some (.int (iI x4)), some (.int (iI v5)), some (.int (iI v6)), some (.int (iI v7)), some (.int (iI v8)), some (.int (iI 1)), some (.int (iI (v22 + v23))), none]) (st' := [.int (iI 1), .int (iI x2), .ref 28]) rfl ?_
        refine wp_add (a := x2) (b := 1) rfl ?_
        refine wp_g (n := 2) (pc' := 117) (L' := [some (.ref 28), some (.int (iI x2)), some (.int (iI x3)), some (.int (iI x4)), some (.int (iI v5)), some (.int (iI v6)), some (.int (iI v7)), some (.int (iI v8)), some (.int (iI 1)), some (.int (iI (v22 + v23))), none]) (st' := [.int (iI 1), .int (iI x3), .int (iI (x2 + 1)), .ref 28]) rfl ?_
        refine wp_add (a := x3) (b := 1) rfl ?_
        refine wp_g (n := 2) (pc' := 121) (L' := [some (.ref 28), some (.int (iI x2)), some (.int (iI x3)), some (.int (iI x4)), some (.int (iI v5)), some (.int (iI v6)), some (.int (iI v7)), some (.int (iI v8)), some (.int (iI 1)), some (.int (iI (v22 + v23))), none]) (st' := [.int (iI (v22 + v23)), .int (iI x4), .int (iI (x3 + 1)), .int (iI (x2 + 1)), .ref 28]) rfl ?_
        refine wp_add (a := x4) (b := (v22 + v23)) rfl ?_
        refine wp_cs (As := [.ref 28, .int (iI (x2 + 1)), .int (iI (x3 + 1)), .int (iI (x4 + (v22 + v23)))]) (rest := []) rfl rfl rfl rfl (Nat.le_of_ble_eq_true rfl) (Nat.le_of_ble_eq_true rfl) (hW _ S) (fun r24 H24 q24 => ?_)
        obtain ⟨m24, γ24, t24, rfl, S, hW⟩ := q24
        show wp _ _ _ _ _ [] _ _
        refine wp_g (n := 3) (pc' := 130) (L' := [some (.ref 28), some (.int (iI x2)), some (.int (iI x3)), some (.int (iI x4)), some (.int (iI v5)), some (.int (iI v6)), some (.int (iI v7)), some (.int (iI v8)), some (.int (iI 1)), some (.int (iI (v22 + v23))), none]) (st' := [.int (iI v8), .int (iI v7), .ref 28]) rfl ?_
        refine wp_cv (As := [.int (iI v7), .int (iI v8)]) (rest := []) rfl rfl (S.cell 28 (nc rfl)) (by decide) rfl rfl rfl (Nat.le_of_ble_eq_true rfl) (Nat.le_of_ble_eq_true rfl) (hW _ S) (fun r25 H25 q25 => ?_)
        obtain ⟨m25, γ25, t25, rfl, S, hW⟩ := q25
        show wp _ _ _ _ _ [] _ _
        refine wp_g (n := 3) (pc' := 138) (L' := [some (.ref 28), some (.int (iI x2)), some (.int (iI x3)), some (.int (iI x4)), some (.int (iI v5)), some (.int (iI v6)), some (.int (iI v7)), some (.int (iI v8)), some (.int (iI 1)), some (.int (iI (v22 + v23))), none]) (st' := [.int (iI v6), .int (iI v5), .ref 28]) rfl ?_
        refine wp_cv (As := [.int (iI v5), .int (iI v6)]) (rest := []) rfl rfl (S.cell 28 (nc rfl)) (by decide) rfl rfl rfl (Nat.le_of_ble_eq_true rfl) (Nat.le_of_ble_eq_true rfl) (hW _ S) (fun r26 H26 q26 => ?_)
        obtain ⟨m26, γ26, t26, rfl, S, hW⟩ := q26
        show wp _ _ _ _ _ [] _ _
        refine wp_g (n := 3) (pc' := 146) (L' := [some (.ref 28), some (.int (iI x2)), some (.int (iI x3)), some (.int (iI x4)), some (.int (iI v5)), some (.int (iI v6)), some (.int (iI v7)), some (.int (iI v8)), some (.int (iI 1)), some (.int (iI (v22 + v23))), none]) (st' := [.int (iI v8), .int (iI v5), .ref 28]) rfl ?_
        refine wp_cv (As := [.int (iI v5), .int (iI v8)]) (rest := []) rfl rfl (S.cell 28 (nc rfl)) (by decide) rfl rfl rfl (Nat.le_of_ble_eq_true rfl) (Nat.le_of_ble_eq_true rfl) (hW _ S) (fun r27 H27 q27 => ?_)
        obtain ⟨v27, m27, γ27, t27, rfl, hv27, S, hW⟩ := q27
        show wp _ _ _ _ _ [.int (iI v27)] _ _
        refine wp_g (n := 3) (pc' := 154) (L' := [some (.ref 28), some (.int (iI x2)), some (.int (iI x3)), some (.int (iI x4)), some (.int (iI v5)), some (.int (iI v6)), some (.int (iI v7)), some (.int (iI v8)), some (.int (iI 1)), some (.int (iI (v22 + v23))), none]) (st' := [.int (iI v7), .int (iI v6), .ref 28, .int (iI v27)]) rfl ?_
        refine wp_cv (As := [.int (iI v6), .int (iI v7)]) (rest := [.int (iI v27)]) rfl rfl (S.cell 28 (nc rfl)) (by decide) rfl rfl rfl (Nat.le_of_ble_eq_true rfl) (Nat.le_of_ble_eq_true rfl) (hW _ S) (fun r28 H28 q28 => ?_)
        obtain ⟨v28, m28, γ28, t28, rfl, hv28, S, hW⟩ := q28
        show wp _ _ _ _ _ [.int (iI v28), .int (iI v27)] _ _
        refine wp_add (a := v27) (b := v28) rfl ?_
        refine wp_g (n := 4) (pc' := 163) (L' := [some (.ref 28), some (.int (iI x2)), some (.int (iI x3)), some (.int (iI x4)), some (.int (iI v5)), some (.int (iI v6)), some (.int (iI v7)), some (.int (iI v8)), some (.int (iI 1)), some (.int (iI (v22 + v23))), some (.int (iI (v27 + v28)))]) (st' := [.int (iI 1), .int (iI x2), .ref 28]) rfl ?_
        refine wp_add (a := x2) (b := 1) rfl ?_
        refine wp_g (n := 2) (pc' := 166) (L' := [some (.ref 28), some (.int (iI x2)), some (.int (iI x3)), some (.int (iI x4)), some (.int (iI v5)), some (.int (iI v6)), some (.int (iI v7)), some (.int (iI v8)), some (.int (iI 1)), some (.int (iI (v22 + v23))), some (.int (iI (v27 + v28)))]) (st' := [.int (iI 1), .int (iI x3), .int (iI (x2 + 1)), .ref 28]) rfl ?_
        refine wp_add (a := x3) (b := 1) rfl ?_
        refine wp_g (n := 1) (pc' := 169) (L' := [some (.ref 28), some (.int (iI x2)), some (.int (iI x3)), some (.int (iI x4)), some (.int (iI v5)), some (.int (iI v6)), some (.int (iI v7)), some (.int (iI v8)), some (.int (iI 1)), some (.int (iI (v22 + v23))), some (.int (iI (v27 + v28)))]) (st' := [.int (iI 1), .int (iI (x3 + 1)), .int (iI (x2 + 1)), .ref 28]) rfl ?_
        refine wp_sub (a := (x3 + 1)) (b := 1) rfl ?_
        refine wp_g (n := 2) (pc' := 173) (L' := [some (.ref 28), some (.int (iI x2)), some (.int (iI x3)), some (.int (iI x4)), some (.int (iI v5)), some (.int (iI v6)), some (.int (iI v7)), some (.int (iI v8)), some (.int (iI 1)), some (.int (iI (v22 + v23))), some (.int (iI (v27 + v28)))]) (st' := [.int (iI (v27 + v28)), .int (iI x4), .int (iI ((x3 + 1) - 1)), .int (iI (x2 + 1)), .ref 28]) rfl ?_
        refine wp_add (a := x4) (b := (v27 + v28)) rfl ?_
        refine wp_cs (As := [.ref 28, .int (iI (x2 + 1)), .int (iI ((x3 + 1) - 1)), .int (iI (x4 + (v27 + v28)))]) (rest := []) rfl rfl rfl rfl (Nat.le_of_ble_eq_true rfl) (Nat.le_of_ble_eq_true rfl) (hW _ S) (fun r29 H29 q29 => ?_)
        obtain ⟨m29, γ29, t29, rfl, S, hW⟩ := q29
        show wp _ _ _ _ _ [] _ _
        refine wp_g (n := 3) (pc' := 182) (L' := [some (.ref 28), some (.int (iI x2)), some (.int (iI x3)), some (.int (iI x4)), some (.int (iI v5)), some (.int (iI v6)), some (.int (iI v7)), some (.int (iI v8)), some (.int (iI 1)), some (.int (iI (v22 + v23))), some (.int (iI (v27 + v28)))]) (st' := [.int (iI v7), .int (iI v6), .ref 28]) rfl ?_
        refine wp_cv (As := [.int (iI v6), .int (iI v7)]) (rest := []) rfl rfl (S.cell 28 (nc rfl)) (by decide) rfl rfl rfl (Nat.le_of_ble_eq_true rfl) (Nat.le_of_ble_eq_true rfl) (hW _ S) (fun r30 H30 q30 => ?_)
        obtain ⟨m30, γ30, t30, rfl, S, hW⟩ := q30
        show wp _ _ _ _ _ [] _ _
        refine wp_g (n := 3) (pc' := 190) (L' := [some (.ref 28), some (.int (iI x2)), some (.int (iI x3)), some (.int (iI x4)), some (.int (iI v5)), some (.int (iI v6)), some (.int (iI v7)), some (.int (iI v8)), some (.int (iI 1)), some (.int (iI (v22 + v23))), some (.int (iI (v27 + v28)))]) (st' := [.int (iI v8), .int (iI v5), .ref 28]) rfl ?_
        refine wp_cv (As := [.int (iI v5), .int (iI v8)]) (rest := []) rfl rfl (S.cell 28 (nc rfl)) (by decide) rfl rfl rfl (Nat.le_of_ble_eq_true rfl) (Nat.le_of_ble_eq_true rfl) (hW _ S) (fun r31 H31 q31 => ?_)
        obtain ⟨m31, γ31, t31, rfl, S, hW⟩ := q31
        show wp _ _ _ _ _ [] _ _
        exact wp_vret rfl rfl ⟨_, _, _, rfl, S, hW⟩
    · have dc4 := c4
      have hW := hW.2 dc4
      refine wp_g (n := 3) (pc' := 17) (L' := [some (.ref 28), some (.int (iI x2)), some (.int (iI x3)), some (.int (iI x4)), none, none, none, none, none, none, none]) (st' := [.int (iI x4), .int (iI x3), .ref 28]) rfl ?_
      refine wp_cv (As := [.int (iI x3), .int (iI x4)]) (rest := []) rfl rfl (S.cell 28 (nc rfl)) (by decide) rfl rfl rfl (Nat.le_of_ble_eq_true rfl) (Nat.le_of_ble_eq_true rfl) (hW _ S) (fun r32 H32 q32 => ?_)
      obtain ⟨m32, γ32, t32, rfl, S, hW⟩ := q32
      show wp _ _ _ _ _ [] _ _
      exact wp_vret rfl rfl ⟨_, _, _, rfl, S, hW⟩
abbrev W_X5_note (E : am_E) (k : Nat) (x1 : Int) (x2 : Int) (m : MM) (γ : GM) (t : am_H) (Q : MM → GM → am_H → Prop) : Prop := (((x1 < 0) → (Q m γ t)) ∧ (¬ (x1 < 0) → (((x1 ≤ 12) → (((x2 < 0) → (Q m γ t)) ∧ (¬ (x2 < 0) → (((x2 ≤ 16) → ((0 ≤ x1 ∧ x1 < 13) ∧ ((0 ≤ x2 ∧ x2 < 17) ∧ ((0 ≤ x2 ∧ x2 < 17) ∧ (rJ ((m (37 + (x1).toNat) ((x2).toNat)) + 1) ∧ (∀ m12, m12 = (up m (37 + (x1).toNat) (up (m (37 + (x1).toNat)) ((x2).toNat) ((m (37 + (x1).toNat) ((x2).toNat)) + 1))) → (Q m12 γ t))))))) ∧ (¬ (x2 ≤ 16) → (Q m γ t)))))) ∧ (¬ (x1 ≤ 12) → (Q m γ t)))))
theorem vc_X5_note {E : am_E} {k : Nat} {x1 : Int} {x2 : Int} {m : MM} {γ : GM} {t : am_H} {Q : MM → GM → am_H → Prop} (hx1 : rJ x1) (hx2 : rJ x2) (hW : W_X5_note E k x1 x2 m γ t Q) : TV E k 70 [.ref 28, .int (iI x1), .int (iI x2)] m γ t Q := by
  unfold W_X5_note at hW
  intro h S
  refine wp_g (n := 1) (pc' := 1) (L' := [some (.ref 28), some (.int (iI x1)), some (.int (iI x2))]) (st' := [.int (iI x1)]) rfl ?_
  refine wp_ifI (a := x1) rfl rfl hx1.1 hx1.2 (fun c1 => ?_) (fun c1 => ?_)
  · have dc1 := c1
    have hW := hW.1 dc1
    exact wp_vret rfl rfl ⟨_, _, _, rfl, S, hW⟩
  · have dc1 := c1
    have hW := hW.2 dc1
    refine wp_g (n := 2) (pc' := 7) (L' := [some (.ref 28), some (.int (iI x1)), some (.int (iI x2))]) (st' := [.int (iI 12), .int (iI x1)]) rfl ?_
    refine wp_icmpI (a := x1) (b := 12) rfl rfl hx1.1 hx1.2 (by decide) (by decide) (fun c2 => ?_) (fun c2 => ?_)
    · have dc2 := (Int.not_le.mpr c2)
      have hW := hW.2 dc2
      exact wp_vret rfl rfl ⟨_, _, _, rfl, S, hW⟩
    · have dc2 := (Int.not_lt.mp c2)
      have hW := hW.1 dc2
      refine wp_g (n := 1) (pc' := 11) (L' := [some (.ref 28), some (.int (iI x1)), some (.int (iI x2))]) (st' := [.int (iI x2)]) rfl ?_
      refine wp_ifI (a := x2) rfl rfl hx2.1 hx2.2 (fun c3 => ?_) (fun c3 => ?_)
      · have dc3 := c3
        have hW := hW.1 dc3
        exact wp_vret rfl rfl ⟨_, _, _, rfl, S, hW⟩
      · have dc3 := c3
        have hW := hW.2 dc3
        refine wp_g (n := 2) (pc' := 17) (L' := [some (.ref 28), some (.int (iI x1)), some (.int (iI x2))]) (st' := [.int (iI 16), .int (iI x2)]) rfl ?_
        refine wp_icmpI (a := x2) (b := 16) rfl rfl hx2.1 hx2.2 (by decide) (by decide) (fun c4 => ?_) (fun c4 => ?_)
        · have dc4 := (Int.not_le.mpr c4)
          have hW := hW.2 dc4
          exact wp_vret rfl rfl ⟨_, _, _, rfl, S, hW⟩
        · have dc4 := (Int.not_lt.mp c4)
          have hW := hW.1 dc4
          refine wp_g (n := 1) (pc' := 21) (L' := [some (.ref 28), some (.int (iI x1)), some (.int (iI x2))]) (st' := [.ref 28]) rfl ?_
          refine wp_getf (v := .ref 36) rfl rfl (S.cell 28 (nc rfl)) (by decide) rfl ?_
          refine wp_g (n := 1) (pc' := 25) (L' := [some (.ref 28), some (.int (iI x1)), some (.int (iI x2))]) (st' := [.int (iI x1), .ref 36]) rfl ?_
          obtain ⟨p5, hW⟩ := hW
          have hn6 : (x1).toNat < 13 := by omega
          refine wp_rald (n := 13) (b := (37 + (x1).toNat)) rfl (S.cell 36 (nc rfl)) p5.1 p5.2 (by decide) (if_pos hn6) ?_
          refine wp_g (n := 2) (pc' := 28) (L' := [some (.ref 28), some (.int (iI x1)), some (.int (iI x2))]) (st' := [.int (iI x2), .ref (37 + (x1).toNat), .int (iI x2), .ref (37 + (x1).toNat)]) rfl ?_
          obtain ⟨p7, hW⟩ := hW
          refine wp_iald (n := 17) (F := (m (37 + (x1).toNat))) rfl (ST.tal S hn6) (by omega) p7.1 p7.2 (by decide) ?_
          show wp _ _ _ _ _ [.int (iI (m (37 + (x1).toNat) ((x2).toNat))), .int (iI x2), .ref (37 + (x1).toNat)] _ _
          have hr8 : rJ (m (37 + (x1).toNat) ((x2).toNat)) := S.rg (37 + (x1).toNat) ((x2).toNat) (nl_37 hn6)
          refine wp_g (n := 1) (pc' := 30) (L' := [some (.ref 28), some (.int (iI x1)), some (.int (iI x2))]) (st' := [.int (iI 1), .int (iI (m (37 + (x1).toNat) ((x2).toNat))), .int (iI x2), .ref (37 + (x1).toNat)]) rfl ?_
          refine wp_add (a := (m (37 + (x1).toNat) ((x2).toNat))) (b := 1) rfl ?_
          obtain ⟨p10, hW⟩ := hW
          obtain ⟨p11, hW⟩ := hW
          refine wp_iasF (n := 17) (F := (m (37 + (x1).toNat))) (y := ((m (37 + (x1).toNat) ((x2).toNat)) + 1)) rfl (ST.tal S hn6) p10.1 p10.2 (by decide) (fun H9 hl9 hz9 hf9 => ?_)
          have S : ST H9 (up m (37 + (x1).toNat) (up (m (37 + (x1).toNat)) ((x2).toNat) ((m (37 + (x1).toNat) ((x2).toNat)) + 1))) γ t := S.setI (37 + (x1).toNat) (nc_37 hn6) hl9 (by rw [lay_37 hn6]; exact hz9) hf9 p11.1 p11.2
          obtain ⟨m12, hm12⟩ : ∃ m12, m12 = (up m (37 + (x1).toNat) (up (m (37 + (x1).toNat)) ((x2).toNat) ((m (37 + (x1).toNat) ((x2).toNat)) + 1))) := ⟨_, rfl⟩
          rw [← hm12] at S
          have hW := hW m12 hm12
          exact wp_vret rfl rfl ⟨_, _, _, rfl, S, hW⟩
def hd_X5_addTerms_2 (E : am_E) (k : Nat) (y1 : Int) (m : MM) (γ : GM) (t : am_H) (Q : MM → GM → am_H → Prop) : Prop := ∀ (z2 : Option Value), TT (pV Q) E (k + 1) 71 2 [some (.ref 28), some (.int (iI y1)), z2] [] m γ t
def hd_X5_addTerms_10 (E : am_E) (k : Nat) (y1 : Int) (y2 : Int) (m : MM) (γ : GM) (t : am_H) (Q : MM → GM → am_H → Prop) : Prop := TT (pV Q) E (k + 1) 71 10 [some (.ref 28), some (.int (iI y1)), some (.int (iI y2))] [] m γ t
abbrev W_X5_addTerms (E : am_E) (k : Nat) (m : MM) (γ : GM) (t : am_H) (Q : MM → GM → am_H → Prop) : Prop := (hd_X5_addTerms_2 E k 0 m γ t Q)
abbrev W_X5_addTerms_2 (E : am_E) (k : Nat) (y1 : Int) (m : MM) (γ : GM) (t : am_H) (Q : MM → GM → am_H → Prop) : Prop := (((y1 ≤ 12) → (hd_X5_addTerms_10 E k y1 1 m γ t Q)) ∧ (¬ (y1 ≤ 12) → (Q m γ t)))
abbrev W_X5_addTerms_10 (E : am_E) (k : Nat) (y1 : Int) (y2 : Int) (m : MM) (γ : GM) (t : am_H) (Q : MM → GM → am_H → Prop) : Prop := (((y2 ≤ 16) → ((0 ≤ y1 ∧ y1 < 13) ∧ ((0 ≤ y2 ∧ y2 < 17) ∧ ((((m (37 + (y1).toNat) ((y2).toNat)) = 0) → (hd_X5_addTerms_10 E k y1 (y2 + 1) m γ t Q)) ∧ (¬ ((m (37 + (y1).toNat) ((y2).toNat)) = 0) → ((0 ≤ y1 ∧ y1 < 13) ∧ ((0 ≤ y2 ∧ y2 < 17) ∧ (TV E k 72 [.ref 28, .int (iI (m (37 + (y1).toNat) ((y2).toNat))), .int (iI ((2 * y1) - (m 28 1))), .int (iI (y2 - 1))] m γ t (fun m11 γ11 t11 => (hd_X5_addTerms_10 E k y1 (y2 + 1) m11 γ11 t11 Q)))))))))) ∧ (¬ (y2 ≤ 16) → (hd_X5_addTerms_2 E k (y1 + 1) m γ t Q)))
theorem vc_X5_addTerms {E : am_E} {k : Nat} {m : MM} {γ : GM} {t : am_H} {Q : MM → GM → am_H → Prop} (hW : W_X5_addTerms E k  m γ t Q) : TV E (k + 1) 71 [.ref 28] m γ t Q := by
  unfold W_X5_addTerms at hW
  intro h S
  refine wp_g (n := 2) (pc' := 2) (L' := [some (.ref 28), some (.int (iI 0)), none]) (st' := []) rfl ?_
  exact hW none _ S
theorem vc_X5_addTerms_2 {E : am_E} {k : Nat} {y1 : Int} {m : MM} {γ : GM} {t : am_H} {Q : MM → GM → am_H → Prop} (hy1 : rJ y1) (hW : W_X5_addTerms_2 E k y1 m γ t Q) : hd_X5_addTerms_2 E k y1 m γ t Q := by
  unfold W_X5_addTerms_2 at hW
  intro z2 h S
  refine wp_g (n := 2) (pc' := 5) (L' := [some (.ref 28), some (.int (iI y1)), z2]) (st' := [.int (iI 12), .int (iI y1)]) rfl ?_
  refine wp_icmpI (a := y1) (b := 12) rfl rfl hy1.1 hy1.2 (by decide) (by decide) (fun c1 => ?_) (fun c1 => ?_)
  · have dc1 := (Int.not_le.mpr c1)
    have hW := hW.2 dc1
    exact wp_vret rfl rfl ⟨_, _, _, rfl, S, hW⟩
  · have dc1 := (Int.not_lt.mp c1)
    have hW := hW.1 dc1
    refine wp_g (n := 2) (pc' := 10) (L' := [some (.ref 28), some (.int (iI y1)), some (.int (iI 1))]) (st' := []) rfl ?_
    exact hW _ S
theorem vc_X5_addTerms_10 {E : am_E} {k : Nat} {y1 : Int} {y2 : Int} {m : MM} {γ : GM} {t : am_H} {Q : MM → GM → am_H → Prop} (hy1 : rJ y1) (hy2 : rJ y2) (hW : W_X5_addTerms_10 E k y1 y2 m γ t Q) : hd_X5_addTerms_10 E k y1 y2 m γ t Q := by
  unfold W_X5_addTerms_10 at hW
  intro h S
  refine wp_g (n := 2) (pc' := 13) (L' := [some (.ref 28), some (.int (iI y1)), some (.int (iI y2))]) (st' := [.int (iI 16), .int (iI y2)]) rfl ?_
  refine wp_icmpI (a := y2) (b := 16) rfl rfl hy2.1 hy2.2 (by decide) (by decide) (fun c1 => ?_) (fun c1 => ?_)
  · have dc1 := (Int.not_le.mpr c1)
    have hW := hW.2 dc1
    refine wp_iinc (L' := [some (.ref 28), some (.int (iI (y1 + 1))), some (.int (iI y2))]) (a := y1) rfl rfl rfl ?_
    refine wp_g (n := 1) (pc' := 2) (L' := [some (.ref 28), some (.int (iI (y1 + 1))), some (.int (iI y2))]) (st' := []) rfl ?_
    exact hW (some (.int (iI y2))) _ S
  · have dc1 := (Int.not_lt.mp c1)
    have hW := hW.1 dc1
    refine wp_g (n := 1) (pc' := 17) (L' := [some (.ref 28), some (.int (iI y1)), some (.int (iI y2))]) (st' := [.ref 28]) rfl ?_
    refine wp_getf (v := .ref 36) rfl rfl (S.cell 28 (nc rfl)) (by decide) rfl ?_
    refine wp_g (n := 1) (pc' := 21) (L' := [some (.ref 28), some (.int (iI y1)), some (.int (iI y2))]) (st' := [.int (iI y1), .ref 36]) rfl ?_
    obtain ⟨p2, hW⟩ := hW
    have hn3 : (y1).toNat < 13 := by omega
    refine wp_rald (n := 13) (b := (37 + (y1).toNat)) rfl (S.cell 36 (nc rfl)) p2.1 p2.2 (by decide) (if_pos hn3) ?_
    refine wp_g (n := 1) (pc' := 23) (L' := [some (.ref 28), some (.int (iI y1)), some (.int (iI y2))]) (st' := [.int (iI y2), .ref (37 + (y1).toNat)]) rfl ?_
    obtain ⟨p4, hW⟩ := hW
    refine wp_iald (n := 17) (F := (m (37 + (y1).toNat))) rfl (ST.tal S hn3) (by omega) p4.1 p4.2 (by decide) ?_
    show wp _ _ _ _ _ [.int (iI (m (37 + (y1).toNat) ((y2).toNat)))] _ _
    have hr5 : rJ (m (37 + (y1).toNat) ((y2).toNat)) := S.rg (37 + (y1).toNat) ((y2).toNat) (nl_37 hn3)
    refine wp_ifI (a := (m (37 + (y1).toNat) ((y2).toNat))) rfl rfl hr5.1 hr5.2 (fun c6 => ?_) (fun c6 => ?_)
    · have dc6 := c6
      have hW := hW.1 dc6
      refine wp_iinc (L' := [some (.ref 28), some (.int (iI y1)), some (.int (iI (y2 + 1)))]) (a := y2) rfl rfl rfl ?_
      refine wp_g (n := 1) (pc' := 10) (L' := [some (.ref 28), some (.int (iI y1)), some (.int (iI (y2 + 1)))]) (st' := []) rfl ?_
      exact hW _ S
    · have dc6 := c6
      have hW := hW.2 dc6
      refine wp_g (n := 2) (pc' := 29) (L' := [some (.ref 28), some (.int (iI y1)), some (.int (iI y2))]) (st' := [.ref 28, .ref 28]) rfl ?_
      refine wp_getf (v := .ref 36) rfl rfl (S.cell 28 (nc rfl)) (by decide) rfl ?_
      refine wp_g (n := 1) (pc' := 33) (L' := [some (.ref 28), some (.int (iI y1)), some (.int (iI y2))]) (st' := [.int (iI y1), .ref 36, .ref 28]) rfl ?_
      obtain ⟨p7, hW⟩ := hW
      have hn8 : (y1).toNat < 13 := by omega
      refine wp_rald (n := 13) (b := (37 + (y1).toNat)) rfl (S.cell 36 (nc rfl)) p7.1 p7.2 (by decide) (if_pos hn8) ?_
      refine wp_g (n := 1) (pc' := 35) (L' := [some (.ref 28), some (.int (iI y1)), some (.int (iI y2))]) (st' := [.int (iI y2), .ref (37 + (y1).toNat), .ref 28]) rfl ?_
      obtain ⟨p9, hW⟩ := hW
      refine wp_iald (n := 17) (F := (m (37 + (y1).toNat))) rfl (ST.tal S hn8) (by omega) p9.1 p9.2 (by decide) ?_
      show wp _ _ _ _ _ [.int (iI (m (37 + (y1).toNat) ((y2).toNat))), .ref 28] _ _
      refine wp_g (n := 2) (pc' := 38) (L' := [some (.ref 28), some (.int (iI y1)), some (.int (iI y2))]) (st' := [.int (iI y1), .int (iI 2), .int (iI (m (37 + (y1).toNat) ((y2).toNat))), .ref 28]) rfl ?_
      refine wp_mul (a := 2) (b := y1) rfl ?_
      refine wp_g (n := 1) (pc' := 40) (L' := [some (.ref 28), some (.int (iI y1)), some (.int (iI y2))]) (st' := [.ref 28, .int (iI (2 * y1)), .int (iI (m (37 + (y1).toNat) ((y2).toNat))), .ref 28]) rfl ?_
      refine wp_getf (v := .int (iI (m 28 1))) rfl rfl (S.cell 28 (nc rfl)) (by decide) rfl ?_
      have hr10 : rJ (m 28 1) := S.rg 28 1 (nl rfl)
      refine wp_sub (a := (2 * y1)) (b := (m 28 1)) rfl ?_
      refine wp_g (n := 2) (pc' := 46) (L' := [some (.ref 28), some (.int (iI y1)), some (.int (iI y2))]) (st' := [.int (iI 1), .int (iI y2), .int (iI ((2 * y1) - (m 28 1))), .int (iI (m (37 + (y1).toNat) ((y2).toNat))), .ref 28]) rfl ?_
      refine wp_sub (a := y2) (b := 1) rfl ?_
      refine wp_cv (As := [.int (iI (m (37 + (y1).toNat) ((y2).toNat))), .int (iI ((2 * y1) - (m 28 1))), .int (iI (y2 - 1))]) (rest := []) rfl rfl (S.cell 28 (nc rfl)) (by decide) rfl rfl rfl (Nat.le_of_ble_eq_true rfl) (Nat.le_of_ble_eq_true rfl) (hW _ S) (fun r11 H11 q11 => ?_)
      obtain ⟨m11, γ11, t11, rfl, S, hW⟩ := q11
      show wp _ _ _ _ _ [] _ _
      refine wp_iinc (L' := [some (.ref 28), some (.int (iI y1)), some (.int (iI (y2 + 1)))]) (a := y2) rfl rfl rfl ?_
      refine wp_g (n := 1) (pc' := 10) (L' := [some (.ref 28), some (.int (iI y1)), some (.int (iI (y2 + 1)))]) (st' := []) rfl ?_
      exact hW _ S
def hd_X5_addPower_19 (E : am_E) (k : Nat) (x1 : Int) (x2 : Int) (x3 : Int) (y2 : Int) (y3 : Int) (y4 : Int) (y6 : Int) (m : MM) (γ : GM) (t : am_H) (Q : MM → GM → am_H → Prop) : Prop := ∀ (z1 z5 z7 : Option Value), TT (pV Q) E k 72 19 [some (.ref 28), z1, some (.int (iI y2)), some (.int (iI y3)), some (.long (lI y4)), z5, some (.int (iI y6)), z7] [] m γ t
abbrev W_X5_addPower (E : am_E) (k : Nat) (x1 : Int) (x2 : Int) (x3 : Int) (m : MM) (γ : GM) (t : am_H) (Q : MM → GM → am_H → Prop) : Prop := (0 ≤ x3 ∧ ((((x3 % 2) = 0) → (hd_X5_addPower_19 E k x1 x2 x3 x2 x3 x1 0 m γ t Q)) ∧ (¬ ((x3 % 2) = 0) → (rJ (-x1) ∧ (hd_X5_addPower_19 E k x1 x2 x3 x2 x3 (-x1) 0 m γ t Q)))))
abbrev W_X5_addPower_19 (E : am_E) (k : Nat) (x1 : Int) (x2 : Int) (x3 : Int) (y2 : Int) (y3 : Int) (y4 : Int) (y6 : Int) (m : MM) (γ : GM) (t : am_H) (Q : MM → GM → am_H → Prop) : Prop := (((y6 ≤ y3) → (rJ ((y2 + (2 * y3)) - (4 * y6)) ∧ (((((y2 + (2 * y3)) - (4 * y6)) < (-100)) → (rJ (y3 - y6) ∧ (rJ (y6 + 1) ∧ (rK (y4 * (y3 - y6)) ∧ ((y6 + 1) ≠ 0 ∧ (hd_X5_addPower_19 E k x1 x2 x3 y2 y3 (Int.tdiv (y4 * (y3 - y6)) (y6 + 1)) (y6 + 1) m γ t Q)))))) ∧ (¬ (((y2 + (2 * y3)) - (4 * y6)) < (-100)) → (((((y2 + (2 * y3)) - (4 * y6)) ≤ 100) → ((0 ≤ (((y2 + (2 * y3)) - (4 * y6)) + 100) ∧ (((y2 + (2 * y3)) - (4 * y6)) + 100) < 201) ∧ ((0 ≤ (((y2 + (2 * y3)) - (4 * y6)) + 100) ∧ (((y2 + (2 * y3)) - (4 * y6)) + 100) < 201) ∧ (rK ((m 50 (((((y2 + (2 * y3)) - (4 * y6)) + 100)).toNat)) + y4) ∧ (rJ (y3 - y6) ∧ (rJ (y6 + 1) ∧ (rK (y4 * (y3 - y6)) ∧ ((y6 + 1) ≠ 0 ∧ (hd_X5_addPower_19 E k x1 x2 x3 y2 y3 (Int.tdiv (y4 * (y3 - y6)) (y6 + 1)) (y6 + 1) (up m 50 (up (m 50) (((((y2 + (2 * y3)) - (4 * y6)) + 100)).toNat) ((m 50 (((((y2 + (2 * y3)) - (4 * y6)) + 100)).toNat)) + y4))) γ t Q))))))))) ∧ (¬ (((y2 + (2 * y3)) - (4 * y6)) ≤ 100) → (rJ (y3 - y6) ∧ (rJ (y6 + 1) ∧ (rK (y4 * (y3 - y6)) ∧ ((y6 + 1) ≠ 0 ∧ (hd_X5_addPower_19 E k x1 x2 x3 y2 y3 (Int.tdiv (y4 * (y3 - y6)) (y6 + 1)) (y6 + 1) m γ t Q))))))))))) ∧ (¬ (y6 ≤ y3) → (Q m γ t)))
theorem vc_X5_addPower {E : am_E} {k : Nat} {x1 : Int} {x2 : Int} {x3 : Int} {m : MM} {γ : GM} {t : am_H} {Q : MM → GM → am_H → Prop} (hx1 : rJ x1) (hx2 : rJ x2) (hx3 : rJ x3) (hW : W_X5_addPower E k x1 x2 x3 m γ t Q) : TV E k 72 [.ref 28, .int (iI x1), .int (iI x2), .int (iI x3)] m γ t Q := by
  unfold W_X5_addPower at hW
  intro h S
  refine wp_g (n := 2) (pc' := 2) (L' := [some (.ref 28), some (.int (iI x1)), some (.int (iI x2)), some (.int (iI x3)), none, none, none, none]) (st' := [.int (iI 1), .int (iI x3)]) rfl ?_
  obtain ⟨p1, hW⟩ := hW
  refine wp_and1 (a := x3) rfl p1 hx3.2 ?_
  have hr2 : rJ (x3 % 2) := by omega
  refine wp_ifI (a := (x3 % 2)) rfl rfl hr2.1 hr2.2 (fun c3 => ?_) (fun c3 => ?_)
  · have dc3 := c3
    have hW := hW.2 dc3
    refine wp_g (n := 1) (pc' := 12) (L' := [some (.ref 28), some (.int (iI x1)), some (.int (iI x2)), some (.int (iI x3)), none, none, none, none]) (st' := [.int (iI x1)]) rfl ?_
    refine wp_neg (a := x1) rfl ?_
    obtain ⟨p4, hW⟩ := hW
    refine wp_i2l (a := (-x1)) rfl p4 ?_
    refine wp_g (n := 3) (pc' := 19) (L' := [some (.ref 28), some (.int (iI x1)), some (.int (iI x2)), some (.int (iI x3)), some (.long (lI (-x1))), none, some (.int (iI 0)), none]) (st' := []) rfl ?_
    exact hW (some (.int (iI x1))) none none _ S
  · have dc3 := (Classical.not_not.mp c3)
    have hW := hW.1 dc3
    refine wp_g (n := 1) (pc' := 7) (L' := [some (.ref 28), some (.int (iI x1)), some (.int (iI x2)), some (.int (iI x3)), none, none, none, none]) (st' := [.int (iI x1)]) rfl ?_
    refine wp_i2l (a := x1) rfl hx1 ?_
    refine wp_g (n := 4) (pc' := 19) (L' := [some (.ref 28), some (.int (iI x1)), some (.int (iI x2)), some (.int (iI x3)), some (.long (lI x1)), none, some (.int (iI 0)), none]) (st' := []) rfl ?_
    exact hW (some (.int (iI x1))) none none _ S
theorem vc_X5_addPower_19 {E : am_E} {k : Nat} {x1 : Int} {x2 : Int} {x3 : Int} {y2 : Int} {y3 : Int} {y4 : Int} {y6 : Int} {m : MM} {γ : GM} {t : am_H} {Q : MM → GM → am_H → Prop} (hx1 : rJ x1) (hx2 : rJ x2) (hx3 : rJ x3) (hy2 : rJ y2) (hy3 : rJ y3) (hy4 : rK y4) (hy6 : rJ y6) (hW : W_X5_addPower_19 E k x1 x2 x3 y2 y3 y4 y6 m γ t Q) : hd_X5_addPower_19 E k x1 x2 x3 y2 y3 y4 y6 m γ t Q := by
  unfold W_X5_addPower_19 at hW
  intro z1 z5 z7 h S
  refine wp_g (n := 2) (pc' := 22) (L' := [some (.ref 28), z1, some (.int (iI y2)), some (.int (iI y3)), some (.long (lI y4)), z5, some (.int (iI y6)), z7]) (st' := [.int (iI y3), .int (iI y6)]) rfl ?_
  refine wp_icmpI (a := y6) (b := y3) rfl rfl hy6.1 hy6.2 hy3.1 hy3.2 (fun c1 => ?_) (fun c1 => ?_)
  · have dc1 := (Int.not_le.mpr c1)
    have hW := hW.2 dc1
    exact wp_vret rfl rfl ⟨_, _, _, rfl, S, hW⟩
  · have dc1 := (Int.not_lt.mp c1)
    have hW := hW.1 dc1
    refine wp_g (n := 3) (pc' := 28) (L' := [some (.ref 28), z1, some (.int (iI y2)), some (.int (iI y3)), some (.long (lI y4)), z5, some (.int (iI y6)), z7]) (st' := [.int (iI y3), .int (iI 2), .int (iI y2)]) rfl ?_
    refine wp_mul (a := 2) (b := y3) rfl ?_
    refine wp_add (a := y2) (b := (2 * y3)) rfl ?_
    refine wp_g (n := 2) (pc' := 33) (L' := [some (.ref 28), z1, some (.int (iI y2)), some (.int (iI y3)), some (.long (lI y4)), z5, some (.int (iI y6)), z7]) (st' := [.int (iI y6), .int (iI 4), .int (iI (y2 + (2 * y3)))]) rfl ?_
    refine wp_mul (a := 4) (b := y6) rfl ?_
    refine wp_sub (a := (y2 + (2 * y3))) (b := (4 * y6)) rfl ?_
    refine wp_g (n := 3) (pc' := 41) (L' := [some (.ref 28), z1, some (.int (iI y2)), some (.int (iI y3)), some (.long (lI y4)), z5, some (.int (iI y6)), some (.int (iI ((y2 + (2 * y3)) - (4 * y6))))]) (st' := [.int (iI (-100)), .int (iI ((y2 + (2 * y3)) - (4 * y6)))]) rfl ?_
    obtain ⟨p2, hW⟩ := hW
    refine wp_icmpI (a := ((y2 + (2 * y3)) - (4 * y6))) (b := (-100)) rfl rfl p2.1 p2.2 (by decide) (by decide) (fun c3 => ?_) (fun c3 => ?_)
    · have dc3 := c3
      have hW := hW.1 dc3
      refine wp_g (n := 3) (pc' := 71) (L' := [some (.ref 28), z1, some (.int (iI y2)), some (.int (iI y3)), some (.long (lI y4)), z5, some (.int (iI y6)), some (.int (iI ((y2 + (2 * y3)) - (4 * y6))))]) (st' := [.int (iI y6), .int (iI y3), .long (lI y4)]) rfl ?_
      refine wp_sub (a := y3) (b := y6) rfl ?_
      obtain ⟨p4, hW⟩ := hW
      refine wp_i2l (a := (y3 - y6)) rfl p4 ?_
      refine wp_lmul (a := y4) (b := (y3 - y6)) rfl ?_
      refine wp_g (n := 2) (pc' := 77) (L' := [some (.ref 28), z1, some (.int (iI y2)), some (.int (iI y3)), some (.long (lI y4)), z5, some (.int (iI y6)), some (.int (iI ((y2 + (2 * y3)) - (4 * y6))))]) (st' := [.int (iI 1), .int (iI y6), .long (lI (y4 * (y3 - y6)))]) rfl ?_
      refine wp_add (a := y6) (b := 1) rfl ?_
      obtain ⟨p5, hW⟩ := hW
      refine wp_i2l (a := (y6 + 1)) rfl p5 ?_
      obtain ⟨p6, hW⟩ := hW
      obtain ⟨p7, hW⟩ := hW
      refine wp_ldivt (a := (y4 * (y3 - y6))) (b := (y6 + 1)) rfl p6 (by have := p5; omega) p7 ?_
      refine wp_g (n := 1) (pc' := 82) (L' := [some (.ref 28), z1, some (.int (iI y2)), some (.int (iI y3)), some (.long (lI (Int.tdiv (y4 * (y3 - y6)) (y6 + 1)))), none, some (.int (iI y6)), some (.int (iI ((y2 + (2 * y3)) - (4 * y6))))]) (st' := []) rfl ?_
      refine wp_iinc (L' := [some (.ref 28), z1, some (.int (iI y2)), some (.int (iI y3)), some (.long (lI (Int.tdiv (y4 * (y3 - y6)) (y6 + 1)))), none, some (.int (iI (y6 + 1))), some (.int (iI ((y2 + (2 * y3)) - (4 * y6))))]) (a := y6) rfl rfl rfl ?_
      refine wp_g (n := 1) (pc' := 19) (L' := [some (.ref 28), z1, some (.int (iI y2)), some (.int (iI y3)), some (.long (lI (Int.tdiv (y4 * (y3 - y6)) (y6 + 1)))), none, some (.int (iI (y6 + 1))), some (.int (iI ((y2 + (2 * y3)) - (4 * y6))))]) (st' := []) rfl ?_
      exact hW z1 none (some (.int (iI ((y2 + (2 * y3)) - (4 * y6))))) _ S
    · have dc3 := c3
      have hW := hW.2 dc3
      refine wp_g (n := 2) (pc' := 48) (L' := [some (.ref 28), z1, some (.int (iI y2)), some (.int (iI y3)), some (.long (lI y4)), z5, some (.int (iI y6)), some (.int (iI ((y2 + (2 * y3)) - (4 * y6))))]) (st' := [.int (iI 100), .int (iI ((y2 + (2 * y3)) - (4 * y6)))]) rfl ?_
      refine wp_icmpI (a := ((y2 + (2 * y3)) - (4 * y6))) (b := 100) rfl rfl p2.1 p2.2 (by decide) (by decide) (fun c8 => ?_) (fun c8 => ?_)
      · have dc8 := (Int.not_le.mpr c8)
        have hW := hW.2 dc8
        refine wp_g (n := 3) (pc' := 71) (L' := [some (.ref 28), z1, some (.int (iI y2)), some (.int (iI y3)), some (.long (lI y4)), z5, some (.int (iI y6)), some (.int (iI ((y2 + (2 * y3)) - (4 * y6))))]) (st' := [.int (iI y6), .int (iI y3), .long (lI y4)]) rfl ?_
        refine wp_sub (a := y3) (b := y6) rfl ?_
        obtain ⟨p9, hW⟩ := hW
        refine wp_i2l (a := (y3 - y6)) rfl p9 ?_
        refine wp_lmul (a := y4) (b := (y3 - y6)) rfl ?_
        refine wp_g (n := 2) (pc' := 77) (L' := [some (.ref 28), z1, some (.int (iI y2)), some (.int (iI y3)), some (.long (lI y4)), z5, some (.int (iI y6)), some (.int (iI ((y2 + (2 * y3)) - (4 * y6))))]) (st' := [.int (iI 1), .int (iI y6), .long (lI (y4 * (y3 - y6)))]) rfl ?_
        refine wp_add (a := y6) (b := 1) rfl ?_
        obtain ⟨p10, hW⟩ := hW
        refine wp_i2l (a := (y6 + 1)) rfl p10 ?_
        obtain ⟨p11, hW⟩ := hW
        obtain ⟨p12, hW⟩ := hW
        refine wp_ldivt (a := (y4 * (y3 - y6))) (b := (y6 + 1)) rfl p11 (by have := p10; omega) p12 ?_
        refine wp_g (n := 1) (pc' := 82) (L' := [some (.ref 28), z1, some (.int (iI y2)), some (.int (iI y3)), some (.long (lI (Int.tdiv (y4 * (y3 - y6)) (y6 + 1)))), none, some (.int (iI y6)), some (.int (iI ((y2 + (2 * y3)) - (4 * y6))))]) (st' := []) rfl ?_
        refine wp_iinc (L' := [some (.ref 28), z1, some (.int (iI y2)), some (.int (iI y3)), some (.long (lI (Int.tdiv (y4 * (y3 - y6)) (y6 + 1)))), none, some (.int (iI (y6 + 1))), some (.int (iI ((y2 + (2 * y3)) - (4 * y6))))]) (a := y6) rfl rfl rfl ?_
        refine wp_g (n := 1) (pc' := 19) (L' := [some (.ref 28), z1, some (.int (iI y2)), some (.int (iI y3)), some (.long (lI (Int.tdiv (y4 * (y3 - y6)) (y6 + 1)))), none, some (.int (iI (y6 + 1))), some (.int (iI ((y2 + (2 * y3)) - (4 * y6))))]) (st' := []) rfl ?_
        exact hW z1 none (some (.int (iI ((y2 + (2 * y3)) - (4 * y6))))) _ S
      · have dc8 := (Int.not_lt.mp c8)
        have hW := hW.1 dc8
        refine wp_g (n := 1) (pc' := 52) (L' := [some (.ref 28), z1, some (.int (iI y2)), some (.int (iI y3)), some (.long (lI y4)), z5, some (.int (iI y6)), some (.int (iI ((y2 + (2 * y3)) - (4 * y6))))]) (st' := [.ref 28]) rfl ?_
        refine wp_getf (v := .ref 50) rfl rfl (S.cell 28 (nc rfl)) (by decide) rfl ?_
        refine wp_g (n := 2) (pc' := 59) (L' := [some (.ref 28), z1, some (.int (iI y2)), some (.int (iI y3)), some (.long (lI y4)), z5, some (.int (iI y6)), some (.int (iI ((y2 + (2 * y3)) - (4 * y6))))]) (st' := [.int (iI 100), .int (iI ((y2 + (2 * y3)) - (4 * y6))), .ref 50]) rfl ?_
        refine wp_add (a := ((y2 + (2 * y3)) - (4 * y6))) (b := 100) rfl ?_
        refine wp_g (n := 1) (pc' := 61) (L' := [some (.ref 28), z1, some (.int (iI y2)), some (.int (iI y3)), some (.long (lI y4)), z5, some (.int (iI y6)), some (.int (iI ((y2 + (2 * y3)) - (4 * y6))))]) (st' := [.int (iI (((y2 + (2 * y3)) - (4 * y6)) + 100)), .ref 50, .int (iI (((y2 + (2 * y3)) - (4 * y6)) + 100)), .ref 50]) rfl ?_
        obtain ⟨p13, hW⟩ := hW
        refine wp_lald (n := 201) (F := (m 50)) rfl (S.cell 50 (nc rfl)) (by decide) p13.1 p13.2 (by decide) ?_
        show wp _ _ _ _ _ [.long (lI (m 50 (((((y2 + (2 * y3)) - (4 * y6)) + 100)).toNat))), .int (iI (((y2 + (2 * y3)) - (4 * y6)) + 100)), .ref 50] _ _
        have hr14 : rK (m 50 (((((y2 + (2 * y3)) - (4 * y6)) + 100)).toNat)) := S.rl 50 (((((y2 + (2 * y3)) - (4 * y6)) + 100)).toNat)
        refine wp_g (n := 1) (pc' := 64) (L' := [some (.ref 28), z1, some (.int (iI y2)), some (.int (iI y3)), some (.long (lI y4)), z5, some (.int (iI y6)), some (.int (iI ((y2 + (2 * y3)) - (4 * y6))))]) (st' := [.long (lI y4), .long (lI (m 50 (((((y2 + (2 * y3)) - (4 * y6)) + 100)).toNat))), .int (iI (((y2 + (2 * y3)) - (4 * y6)) + 100)), .ref 50]) rfl ?_
        refine wp_ladd (a := (m 50 (((((y2 + (2 * y3)) - (4 * y6)) + 100)).toNat))) (b := y4) rfl ?_
        obtain ⟨p16, hW⟩ := hW
        obtain ⟨p17, hW⟩ := hW
        refine wp_lasF (n := 201) (F := (m 50)) (y := ((m 50 (((((y2 + (2 * y3)) - (4 * y6)) + 100)).toNat)) + y4)) rfl (S.cell 50 (nc rfl)) p16.1 p16.2 (by decide) (fun H15 hl15 hz15 hf15 => ?_)
        have S : ST H15 (up m 50 (up (m 50) (((((y2 + (2 * y3)) - (4 * y6)) + 100)).toNat) ((m 50 (((((y2 + (2 * y3)) - (4 * y6)) + 100)).toNat)) + y4))) γ t := S.setL 50 (nc rfl) (lc rfl) hl15 hz15 hf15 p17.1 p17.2
        refine wp_g (n := 3) (pc' := 71) (L' := [some (.ref 28), z1, some (.int (iI y2)), some (.int (iI y3)), some (.long (lI y4)), z5, some (.int (iI y6)), some (.int (iI ((y2 + (2 * y3)) - (4 * y6))))]) (st' := [.int (iI y6), .int (iI y3), .long (lI y4)]) rfl ?_
        refine wp_sub (a := y3) (b := y6) rfl ?_
        obtain ⟨p18, hW⟩ := hW
        refine wp_i2l (a := (y3 - y6)) rfl p18 ?_
        refine wp_lmul (a := y4) (b := (y3 - y6)) rfl ?_
        refine wp_g (n := 2) (pc' := 77) (L' := [some (.ref 28), z1, some (.int (iI y2)), some (.int (iI y3)), some (.long (lI y4)), z5, some (.int (iI y6)), some (.int (iI ((y2 + (2 * y3)) - (4 * y6))))]) (st' := [.int (iI 1), .int (iI y6), .long (lI (y4 * (y3 - y6)))]) rfl ?_
        refine wp_add (a := y6) (b := 1) rfl ?_
        obtain ⟨p19, hW⟩ := hW
        refine wp_i2l (a := (y6 + 1)) rfl p19 ?_
        obtain ⟨p20, hW⟩ := hW
        obtain ⟨p21, hW⟩ := hW
        refine wp_ldivt (a := (y4 * (y3 - y6))) (b := (y6 + 1)) rfl p20 (by have := p19; omega) p21 ?_
        refine wp_g (n := 1) (pc' := 82) (L' := [some (.ref 28), z1, some (.int (iI y2)), some (.int (iI y3)), some (.long (lI (Int.tdiv (y4 * (y3 - y6)) (y6 + 1)))), none, some (.int (iI y6)), some (.int (iI ((y2 + (2 * y3)) - (4 * y6))))]) (st' := []) rfl ?_
        refine wp_iinc (L' := [some (.ref 28), z1, some (.int (iI y2)), some (.int (iI y3)), some (.long (lI (Int.tdiv (y4 * (y3 - y6)) (y6 + 1)))), none, some (.int (iI (y6 + 1))), some (.int (iI ((y2 + (2 * y3)) - (4 * y6))))]) (a := y6) rfl rfl rfl ?_
        refine wp_g (n := 1) (pc' := 19) (L' := [some (.ref 28), z1, some (.int (iI y2)), some (.int (iI y3)), some (.long (lI (Int.tdiv (y4 * (y3 - y6)) (y6 + 1)))), none, some (.int (iI (y6 + 1))), some (.int (iI ((y2 + (2 * y3)) - (4 * y6))))]) (st' := []) rfl ?_
        exact hW z1 none (some (.int (iI ((y2 + (2 * y3)) - (4 * y6))))) _ S
abbrev W_X6_size (E : am_E) (k : Nat) (m : MM) (γ : GM) (t : am_H) (Q : Int → MM → GM → am_H → Prop) : Prop := (Q (m 99 1) m γ t)
theorem vc_X6_size {E : am_E} {k : Nat} {m : MM} {γ : GM} {t : am_H} {Q : Int → MM → GM → am_H → Prop} (hW : W_X6_size E k  m γ t Q) : TI E k 74 [.ref 99] m γ t Q := by
  unfold W_X6_size at hW
  intro h S
  refine wp_g (n := 1) (pc' := 1) (L' := [some (.ref 99)]) (st' := [.ref 99]) rfl ?_
  refine wp_getf (v := .int (iI (m 99 1))) rfl rfl (S.cell 99 (nc rfl)) (by decide) rfl ?_
  have hr1 : rJ (m 99 1) := S.rg 99 1 (nl rfl)
  exact wp_iret rfl rfl ⟨_, _, _, _, rfl, hr1, S, hW⟩
abbrev W_X6_faultNumber (E : am_E) (k : Nat) (m : MM) (γ : GM) (t : am_H) (Q : Int → MM → GM → am_H → Prop) : Prop := (Q (m 99 2) m γ t)
theorem vc_X6_faultNumber {E : am_E} {k : Nat} {m : MM} {γ : GM} {t : am_H} {Q : Int → MM → GM → am_H → Prop} (hW : W_X6_faultNumber E k  m γ t Q) : TI E k 75 [.ref 99] m γ t Q := by
  unfold W_X6_faultNumber at hW
  intro h S
  refine wp_g (n := 1) (pc' := 1) (L' := [some (.ref 99)]) (st' := [.ref 99]) rfl ?_
  refine wp_getf (v := .int (iI (m 99 2))) rfl rfl (S.cell 99 (nc rfl)) (by decide) rfl ?_
  have hr1 : rJ (m 99 2) := S.rg 99 2 (nl rfl)
  exact wp_iret rfl rfl ⟨_, _, _, _, rfl, hr1, S, hW⟩
abbrev W_X6_faultPlace (E : am_E) (k : Nat) (m : MM) (γ : GM) (t : am_H) (Q : Int → MM → GM → am_H → Prop) : Prop := (Q (m 99 3) m γ t)
theorem vc_X6_faultPlace {E : am_E} {k : Nat} {m : MM} {γ : GM} {t : am_H} {Q : Int → MM → GM → am_H → Prop} (hW : W_X6_faultPlace E k  m γ t Q) : TI E k 76 [.ref 99] m γ t Q := by
  unfold W_X6_faultPlace at hW
  intro h S
  refine wp_g (n := 1) (pc' := 1) (L' := [some (.ref 99)]) (st' := [.ref 99]) rfl ?_
  refine wp_getf (v := .int (iI (m 99 3))) rfl rfl (S.cell 99 (nc rfl)) (by decide) rfl ?_
  have hr1 : rJ (m 99 3) := S.rg 99 3 (nl rfl)
  exact wp_iret rfl rfl ⟨_, _, _, _, rfl, hr1, S, hW⟩
abbrev W_X6_hasRoom (E : am_E) (k : Nat) (x1 : Int) (m : MM) (γ : GM) (t : am_H) (Q : Int → MM → GM → am_H → Prop) : Prop := (rJ ((m 99 1) + x1) ∧ (((((m 99 1) + x1) ≤ 400) → (Q 1 m γ t)) ∧ (¬ (((m 99 1) + x1) ≤ 400) → (Q 0 m γ t))))
theorem vc_X6_hasRoom {E : am_E} {k : Nat} {x1 : Int} {m : MM} {γ : GM} {t : am_H} {Q : Int → MM → GM → am_H → Prop} (hx1 : rJ x1) (hW : W_X6_hasRoom E k x1 m γ t Q) : TI E k 77 [.ref 99, .int (iI x1)] m γ t Q := by
  unfold W_X6_hasRoom at hW
  intro h S
  refine wp_g (n := 1) (pc' := 1) (L' := [some (.ref 99), some (.int (iI x1))]) (st' := [.ref 99]) rfl ?_
  refine wp_getf (v := .int (iI (m 99 1))) rfl rfl (S.cell 99 (nc rfl)) (by decide) rfl ?_
  have hr1 : rJ (m 99 1) := S.rg 99 1 (nl rfl)
  refine wp_g (n := 1) (pc' := 5) (L' := [some (.ref 99), some (.int (iI x1))]) (st' := [.int (iI x1), .int (iI (m 99 1))]) rfl ?_
  refine wp_add (a := (m 99 1)) (b := x1) rfl ?_
  refine wp_g (n := 1) (pc' := 9) (L' := [some (.ref 99), some (.int (iI x1))]) (st' := [.int (iI 400), .int (iI ((m 99 1) + x1))]) rfl ?_
  obtain ⟨p2, hW⟩ := hW
  refine wp_icmpI (a := ((m 99 1) + x1)) (b := 400) rfl rfl p2.1 p2.2 (by decide) (by decide) (fun c3 => ?_) (fun c3 => ?_)
  · have dc3 := (Int.not_le.mpr c3)
    have hW := hW.2 dc3
    refine wp_g (n := 1) (pc' := 17) (L' := [some (.ref 99), some (.int (iI x1))]) (st' := [.int (iI 0)]) rfl ?_
    exact wp_zret rfl rfl (by decide) ⟨_, _, _, _, rfl, (by decide), S, hW⟩
  · have dc3 := (Int.not_lt.mp c3)
    have hW := hW.1 dc3
    refine wp_g (n := 2) (pc' := 17) (L' := [some (.ref 99), some (.int (iI x1))]) (st' := [.int (iI 1)]) rfl ?_
    exact wp_zret rfl rfl (by decide) ⟨_, _, _, _, rfl, (by decide), S, hW⟩
def hd_X6_add_3 (E : am_E) (k : Nat) (x1 : Int) (y1 : Int) (y2 : Int) (m : MM) (γ : GM) (t : am_H) (Q : MM → GM → am_H → Prop) : Prop := TT (pV Q) E k 78 3 [some (.ref 99), some (.int (iI y1)), some (.int (iI y2))] [] m γ t
abbrev W_X6_add (E : am_E) (k : Nat) (x1 : Int) (m : MM) (γ : GM) (t : am_H) (Q : MM → GM → am_H → Prop) : Prop := (hd_X6_add_3 E k x1 x1 24 m γ t Q)
abbrev W_X6_add_3 (E : am_E) (k : Nat) (x1 : Int) (y1 : Int) (y2 : Int) (m : MM) (γ : GM) (t : am_H) (Q : MM → GM → am_H → Prop) : Prop := (((y2 < 0) → (Q m γ t)) ∧ (¬ (y2 < 0) → ((((m 99 1) < 400) → ((0 ≤ (m 99 1) ∧ (m 99 1) < 400) ∧ ((-128 ≤ (bByt (bUshr y1 y2)) ∧ (bByt (bUshr y1 y2)) < 128) ∧ (rJ ((m 99 1) + 1) ∧ (hd_X6_add_3 E k x1 y1 (y2 + (-8)) (up (up m 100 (up (m 100) (((m 99 1)).toNat) (bByt (bUshr y1 y2)))) 99 (up (m 99) 1 ((m 99 1) + 1))) γ t Q))))) ∧ (¬ ((m 99 1) < 400) → (hd_X6_add_3 E k x1 y1 (y2 + (-8)) m γ t Q)))))
theorem vc_X6_add {E : am_E} {k : Nat} {x1 : Int} {m : MM} {γ : GM} {t : am_H} {Q : MM → GM → am_H → Prop} (hx1 : rJ x1) (hW : W_X6_add E k x1 m γ t Q) : TV E k 78 [.ref 99, .int (iI x1)] m γ t Q := by
  unfold W_X6_add at hW
  intro h S
  refine wp_g (n := 2) (pc' := 3) (L' := [some (.ref 99), some (.int (iI x1)), some (.int (iI 24))]) (st' := []) rfl ?_
  exact hW _ S
theorem vc_X6_add_3 {E : am_E} {k : Nat} {x1 : Int} {y1 : Int} {y2 : Int} {m : MM} {γ : GM} {t : am_H} {Q : MM → GM → am_H → Prop} (hx1 : rJ x1) (hy1 : rJ y1) (hy2 : rJ y2) (hW : W_X6_add_3 E k x1 y1 y2 m γ t Q) : hd_X6_add_3 E k x1 y1 y2 m γ t Q := by
  unfold W_X6_add_3 at hW
  intro h S
  refine wp_g (n := 1) (pc' := 4) (L' := [some (.ref 99), some (.int (iI y1)), some (.int (iI y2))]) (st' := [.int (iI y2)]) rfl ?_
  refine wp_ifI (a := y2) rfl rfl hy2.1 hy2.2 (fun c1 => ?_) (fun c1 => ?_)
  · have dc1 := c1
    have hW := hW.1 dc1
    exact wp_vret rfl rfl ⟨_, _, _, rfl, S, hW⟩
  · have dc1 := c1
    have hW := hW.2 dc1
    refine wp_g (n := 1) (pc' := 8) (L' := [some (.ref 99), some (.int (iI y1)), some (.int (iI y2))]) (st' := [.ref 99]) rfl ?_
    refine wp_getf (v := .int (iI (m 99 1))) rfl rfl (S.cell 99 (nc rfl)) (by decide) rfl ?_
    have hr2 : rJ (m 99 1) := S.rg 99 1 (nl rfl)
    refine wp_g (n := 1) (pc' := 14) (L' := [some (.ref 99), some (.int (iI y1)), some (.int (iI y2))]) (st' := [.int (iI 400), .int (iI (m 99 1))]) rfl ?_
    refine wp_icmpI (a := (m 99 1)) (b := 400) rfl rfl hr2.1 hr2.2 (by decide) (by decide) (fun c3 => ?_) (fun c3 => ?_)
    · have dc3 := (Int.not_lt.mpr c3)
      have hW := hW.2 dc3
      refine wp_iinc (L' := [some (.ref 99), some (.int (iI y1)), some (.int (iI (y2 + (-8))))]) (a := y2) rfl rfl rfl ?_
      refine wp_g (n := 1) (pc' := 3) (L' := [some (.ref 99), some (.int (iI y1)), some (.int (iI (y2 + (-8))))]) (st' := []) rfl ?_
      exact hW _ S
    · have dc3 := (Int.not_le.mp c3)
      have hW := hW.1 dc3
      refine wp_g (n := 1) (pc' := 18) (L' := [some (.ref 99), some (.int (iI y1)), some (.int (iI y2))]) (st' := [.ref 99]) rfl ?_
      refine wp_getf (v := .ref 100) rfl rfl (S.cell 99 (nc rfl)) (by decide) rfl ?_
      refine wp_g (n := 1) (pc' := 22) (L' := [some (.ref 99), some (.int (iI y1)), some (.int (iI y2))]) (st' := [.ref 99, .ref 100]) rfl ?_
      refine wp_getf (v := .int (iI (m 99 1))) rfl rfl (S.cell 99 (nc rfl)) (by decide) rfl ?_
      refine wp_g (n := 2) (pc' := 27) (L' := [some (.ref 99), some (.int (iI y1)), some (.int (iI y2))]) (st' := [.int (iI y2), .int (iI y1), .int (iI (m 99 1)), .ref 100]) rfl ?_
      refine wp_bUshr (a := y1) (b := y2) rfl ?_
      have hr4 : rJ (bUshr y1 y2) := i32_rg _
      refine wp_bByt (a := (bUshr y1 y2)) rfl ?_
      have hr5 : rJ (bByt (bUshr y1 y2)) := i32_rg _
      obtain ⟨p7, hW⟩ := hW
      obtain ⟨p8, hW⟩ := hW
      refine wp_basF (n := 400) (F := (m 100)) (y := (bByt (bUshr y1 y2))) rfl (S.cell 100 (nc rfl)) p7.1 p7.2 (by decide) p8.1 p8.2 (fun H6 hl6 hz6 hf6 => ?_)
      have S : ST H6 (up m 100 (up (m 100) (((m 99 1)).toNat) (bByt (bUshr y1 y2)))) γ t := S.setI 100 (nc rfl) hl6 hz6 hf6 hr5.1 hr5.2
      refine wp_g (n := 2) (pc' := 32) (L' := [some (.ref 99), some (.int (iI y1)), some (.int (iI y2))]) (st' := [.ref 99, .ref 99]) rfl ?_
      refine wp_getf (v := .int (iI (m 99 1))) rfl rfl (S.cell 99 (nc rfl)) (by decide) rfl ?_
      refine wp_g (n := 1) (pc' := 36) (L' := [some (.ref 99), some (.int (iI y1)), some (.int (iI y2))]) (st' := [.int (iI 1), .int (iI (m 99 1)), .ref 99]) rfl ?_
      refine wp_add (a := (m 99 1)) (b := 1) rfl ?_
      obtain ⟨p10, hW⟩ := hW
      refine wp_putI rfl rfl (S.cell 99 (nc rfl)) (Nat.le_of_ble_eq_true rfl) rfl (fun H9 hl9 hz9 hf9 => ?_)
      have S : ST H9 (up (up m 100 (up (m 100) (((m 99 1)).toNat) (bByt (bUshr y1 y2)))) 99 (up (m 99) 1 ((m 99 1) + 1))) γ t := S.setI 99 (nc rfl) hl9 hz9 hf9 p10.1 p10.2
      refine wp_iinc (L' := [some (.ref 99), some (.int (iI y1)), some (.int (iI (y2 + (-8))))]) (a := y2) rfl rfl rfl ?_
      refine wp_g (n := 1) (pc' := 3) (L' := [some (.ref 99), some (.int (iI y1)), some (.int (iI (y2 + (-8))))]) (st' := []) rfl ?_
      exact hW _ S
abbrev W_X6_cut (E : am_E) (k : Nat) (x1 : Int) (m : MM) (γ : GM) (t : am_H) (Q : Int → MM → GM → am_H → Prop) : Prop := (((x1 < 0) → (Q 0 m γ t)) ∧ (¬ (x1 < 0) → (((x1 ≤ (m 99 1)) → (Q 1 (up m 99 (up (m 99) 1 x1)) γ t)) ∧ (¬ (x1 ≤ (m 99 1)) → (Q 0 m γ t)))))
theorem vc_X6_cut {E : am_E} {k : Nat} {x1 : Int} {m : MM} {γ : GM} {t : am_H} {Q : Int → MM → GM → am_H → Prop} (hx1 : rJ x1) (hW : W_X6_cut E k x1 m γ t Q) : TI E k 79 [.ref 99, .int (iI x1)] m γ t Q := by
  unfold W_X6_cut at hW
  intro h S
  refine wp_g (n := 1) (pc' := 1) (L' := [some (.ref 99), some (.int (iI x1))]) (st' := [.int (iI x1)]) rfl ?_
  refine wp_ifI (a := x1) rfl rfl hx1.1 hx1.2 (fun c1 => ?_) (fun c1 => ?_)
  · have dc1 := c1
    have hW := hW.1 dc1
    refine wp_g (n := 1) (pc' := 13) (L' := [some (.ref 99), some (.int (iI x1))]) (st' := [.int (iI 0)]) rfl ?_
    exact wp_zret rfl rfl (by decide) ⟨_, _, _, _, rfl, (by decide), S, hW⟩
  · have dc1 := c1
    have hW := hW.2 dc1
    refine wp_g (n := 2) (pc' := 6) (L' := [some (.ref 99), some (.int (iI x1))]) (st' := [.ref 99, .int (iI x1)]) rfl ?_
    refine wp_getf (v := .int (iI (m 99 1))) rfl rfl (S.cell 99 (nc rfl)) (by decide) rfl ?_
    have hr2 : rJ (m 99 1) := S.rg 99 1 (nl rfl)
    refine wp_icmpI (a := x1) (b := (m 99 1)) rfl rfl hx1.1 hx1.2 hr2.1 hr2.2 (fun c3 => ?_) (fun c3 => ?_)
    · have dc3 := c3
      have hW := hW.1 dc3
      refine wp_g (n := 2) (pc' := 16) (L' := [some (.ref 99), some (.int (iI x1))]) (st' := [.int (iI x1), .ref 99]) rfl ?_
      refine wp_putI rfl rfl (S.cell 99 (nc rfl)) (Nat.le_of_ble_eq_true rfl) rfl (fun H4 hl4 hz4 hf4 => ?_)
      have S : ST H4 (up m 99 (up (m 99) 1 x1)) γ t := S.setI 99 (nc rfl) hl4 hz4 hf4 hx1.1 hx1.2
      refine wp_g (n := 1) (pc' := 20) (L' := [some (.ref 99), some (.int (iI x1))]) (st' := [.int (iI 1)]) rfl ?_
      exact wp_zret rfl rfl (by decide) ⟨_, _, _, _, rfl, (by decide), S, hW⟩
    · have dc3 := c3
      have hW := hW.2 dc3
      refine wp_g (n := 1) (pc' := 13) (L' := [some (.ref 99), some (.int (iI x1))]) (st' := [.int (iI 0)]) rfl ?_
      exact wp_zret rfl rfl (by decide) ⟨_, _, _, _, rfl, (by decide), S, hW⟩
def hd_X6_readInto_26 (E : am_E) (k : Nat) (g1 : Nat) (y2 : Int) (m : MM) (γ : GM) (t : am_H) (Q : Int → MM → GM → am_H → Prop) : Prop := TT (pI Q) E (k + 1) 80 26 [some (.ref 99), some (.ref g1), some (.int (iI y2))] [] m γ t
abbrev W_X6_readInto (E : am_E) (k : Nat) (g1 : Nat) (m : MM) (γ : GM) (t : am_H) (Q : Int → MM → GM → am_H → Prop) : Prop := (TV E k 22 [.ref g1] m γ t (fun m1 γ1 t1 => (hd_X6_readInto_26 E k g1 0 (up (up (up (up m1 99 (up (m1 99) 5 0)) 99 (up (up (m1 99) 5 0) 8 0)) 99 (up (up (up (m1 99) 5 0) 8 0) 2 0)) 99 (up (up (up (up (m1 99) 5 0) 8 0) 2 0) 3 (-1))) γ1 t1 Q)))
abbrev W_X6_readInto_26 (E : am_E) (k : Nat) (g1 : Nat) (y2 : Int) (m : MM) (γ : GM) (t : am_H) (Q : Int → MM → GM → am_H → Prop) : Prop := (((y2 ≤ 400) → (TV E k 84 [.ref 99] m γ t (fun m5 γ5 t5 => ((((m5 99 6) = 0) → ((((m5 99 8) = 4) → ((((m5 99 2) = 0) → (Q 1 (up m5 99 (up (m5 99) 1 0)) γ5 t5)) ∧ (¬ ((m5 99 2) = 0) → (Q 0 (up m5 99 (up (m5 99) 1 0)) γ5 t5)))) ∧ (¬ ((m5 99 8) = 4) → (TI E k 89 [.ref 99, .ref g1] m5 γ5 t5 (fun v17 m17 γ17 t17 => (((v17 = 0) → (hd_X6_readInto_26 E k g1 (y2 + 1) (up m17 99 (up (m17 99) 2 v17)) γ17 t17 Q)) ∧ (¬ (v17 = 0) → (Q 0 (up (up (up m17 99 (up (m17 99) 2 v17)) 99 (up (up (m17 99) 2 v17) 3 (m17 99 4))) 99 (up (up (up (m17 99) 2 v17) 3 (m17 99 4)) 1 0)) γ17 t17)))))))) ∧ (¬ ((m5 99 6) = 0) → (TI E k 89 [.ref 99, .ref g1] m5 γ5 t5 (fun v8 m8 γ8 t8 => (((v8 = 0) → (hd_X6_readInto_26 E k g1 (y2 + 1) (up m8 99 (up (m8 99) 2 v8)) γ8 t8 Q)) ∧ (¬ (v8 = 0) → (Q 0 (up (up (up m8 99 (up (m8 99) 2 v8)) 99 (up (up (m8 99) 2 v8) 3 (m8 99 4))) 99 (up (up (up (m8 99) 2 v8) 3 (m8 99 4)) 1 0)) γ8 t8)))))))))) ∧ (¬ (y2 ≤ 400) → ((((m 99 2) = 0) → (Q 1 (up m 99 (up (m 99) 1 0)) γ t)) ∧ (¬ ((m 99 2) = 0) → (Q 0 (up m 99 (up (m 99) 1 0)) γ t)))))
theorem vc_X6_readInto {E : am_E} {k : Nat} {g1 : Nat} {m : MM} {γ : GM} {t : am_H} {Q : Int → MM → GM → am_H → Prop} (hg1 : isg g1) (hW : W_X6_readInto E k g1 m γ t Q) : TI E (k + 1) 80 [.ref 99, .ref g1] m γ t Q := by
  unfold W_X6_readInto at hW
  intro h S
  refine wp_g (n := 1) (pc' := 1) (L' := [some (.ref 99), some (.ref g1), none]) (st' := [.ref g1]) rfl ?_
  refine wp_cv (As := []) (rest := []) rfl rfl (S.gg g1 hg1).obj (isg_lt hg1) rfl rfl rfl (Nat.le_of_ble_eq_true rfl) (Nat.le_of_ble_eq_true rfl) (hW _ S) (fun r1 H1 q1 => ?_)
  obtain ⟨m1, γ1, t1, rfl, S, hW⟩ := q1
  show wp _ _ _ _ _ [] _ _
  refine wp_g (n := 2) (pc' := 6) (L' := [some (.ref 99), some (.ref g1), none]) (st' := [.int (iI 0), .ref 99]) rfl ?_
  refine wp_putI rfl rfl (S.cell 99 (nc rfl)) (Nat.le_of_ble_eq_true rfl) rfl (fun H2 hl2 hz2 hf2 => ?_)
  have S : ST H2 (up m1 99 (up (m1 99) 5 0)) γ1 t1 := S.setI 99 (nc rfl) hl2 hz2 hf2 (by decide) (by decide)
  refine wp_g (n := 2) (pc' := 11) (L' := [some (.ref 99), some (.ref g1), none]) (st' := [.int (iI 0), .ref 99]) rfl ?_
  refine wp_putI rfl rfl (S.cell 99 (nc rfl)) (Nat.le_of_ble_eq_true rfl) rfl (fun H3 hl3 hz3 hf3 => ?_)
  have S : ST H3 (up (up m1 99 (up (m1 99) 5 0)) 99 (up (up (m1 99) 5 0) 8 0)) γ1 t1 := S.setI 99 (nc rfl) hl3 hz3 hf3 (by decide) (by decide)
  refine wp_g (n := 2) (pc' := 16) (L' := [some (.ref 99), some (.ref g1), none]) (st' := [.int (iI 0), .ref 99]) rfl ?_
  refine wp_putI rfl rfl (S.cell 99 (nc rfl)) (Nat.le_of_ble_eq_true rfl) rfl (fun H4 hl4 hz4 hf4 => ?_)
  have S : ST H4 (up (up (up m1 99 (up (m1 99) 5 0)) 99 (up (up (m1 99) 5 0) 8 0)) 99 (up (up (up (m1 99) 5 0) 8 0) 2 0)) γ1 t1 := S.setI 99 (nc rfl) hl4 hz4 hf4 (by decide) (by decide)
  refine wp_g (n := 2) (pc' := 21) (L' := [some (.ref 99), some (.ref g1), none]) (st' := [.int (iI (-1)), .ref 99]) rfl ?_
  refine wp_putI rfl rfl (S.cell 99 (nc rfl)) (Nat.le_of_ble_eq_true rfl) rfl (fun H5 hl5 hz5 hf5 => ?_)
  have S : ST H5 (up (up (up (up m1 99 (up (m1 99) 5 0)) 99 (up (up (m1 99) 5 0) 8 0)) 99 (up (up (up (m1 99) 5 0) 8 0) 2 0)) 99 (up (up (up (up (m1 99) 5 0) 8 0) 2 0) 3 (-1))) γ1 t1 := S.setI 99 (nc rfl) hl5 hz5 hf5 (by decide) (by decide)
  refine wp_g (n := 2) (pc' := 26) (L' := [some (.ref 99), some (.ref g1), some (.int (iI 0))]) (st' := []) rfl ?_
  exact hW _ S
theorem vc_X6_readInto_26 {E : am_E} {k : Nat} {g1 : Nat} {y2 : Int} {m : MM} {γ : GM} {t : am_H} {Q : Int → MM → GM → am_H → Prop} (hg1 : isg g1) (hy2 : rJ y2) (hW : W_X6_readInto_26 E k g1 y2 m γ t Q) : hd_X6_readInto_26 E k g1 y2 m γ t Q := by
  unfold W_X6_readInto_26 at hW
  intro h S
  refine wp_g (n := 2) (pc' := 30) (L' := [some (.ref 99), some (.ref g1), some (.int (iI y2))]) (st' := [.int (iI 400), .int (iI y2)]) rfl ?_
  refine wp_icmpI (a := y2) (b := 400) rfl rfl hy2.1 hy2.2 (by decide) (by decide) (fun c1 => ?_) (fun c1 => ?_)
  · have dc1 := (Int.not_le.mpr c1)
    have hW := hW.2 dc1
    refine wp_g (n := 2) (pc' := 90) (L' := [some (.ref 99), some (.ref g1), some (.int (iI y2))]) (st' := [.int (iI 0), .ref 99]) rfl ?_
    refine wp_putI rfl rfl (S.cell 99 (nc rfl)) (Nat.le_of_ble_eq_true rfl) rfl (fun H2 hl2 hz2 hf2 => ?_)
    have S : ST H2 (up m 99 (up (m 99) 1 0)) γ t := S.setI 99 (nc rfl) hl2 hz2 hf2 (by decide) (by decide)
    refine wp_g (n := 1) (pc' := 94) (L' := [some (.ref 99), some (.ref g1), some (.int (iI y2))]) (st' := [.ref 99]) rfl ?_
    refine wp_getf (v := .int (iI (m 99 2))) rfl rfl (S.cell 99 (nc rfl)) (by decide) rfl ?_
    have hr3 : rJ (m 99 2) := S.rg 99 2 (nl rfl)
    refine wp_ifI (a := (m 99 2)) rfl rfl hr3.1 hr3.2 (fun c4 => ?_) (fun c4 => ?_)
    · have dc4 := c4
      have hW := hW.2 dc4
      refine wp_g (n := 1) (pc' := 105) (L' := [some (.ref 99), some (.ref g1), some (.int (iI y2))]) (st' := [.int (iI 0)]) rfl ?_
      exact wp_zret rfl rfl (by decide) ⟨_, _, _, _, rfl, (by decide), S, hW⟩
    · have dc4 := (Classical.not_not.mp c4)
      have hW := hW.1 dc4
      refine wp_g (n := 2) (pc' := 105) (L' := [some (.ref 99), some (.ref g1), some (.int (iI y2))]) (st' := [.int (iI 1)]) rfl ?_
      exact wp_zret rfl rfl (by decide) ⟨_, _, _, _, rfl, (by decide), S, hW⟩
  · have dc1 := (Int.not_lt.mp c1)
    have hW := hW.1 dc1
    refine wp_g (n := 1) (pc' := 34) (L' := [some (.ref 99), some (.ref g1), some (.int (iI y2))]) (st' := [.ref 99]) rfl ?_
    refine wp_cv (As := []) (rest := []) rfl rfl (S.cell 99 (nc rfl)) (by decide) rfl rfl rfl (Nat.le_of_ble_eq_true rfl) (Nat.le_of_ble_eq_true rfl) (hW _ S) (fun r5 H5 q5 => ?_)
    obtain ⟨m5, γ5, t5, rfl, S, hW⟩ := q5
    show wp _ _ _ _ _ [] _ _
    refine wp_g (n := 1) (pc' := 38) (L' := [some (.ref 99), some (.ref g1), some (.int (iI y2))]) (st' := [.ref 99]) rfl ?_
    refine wp_getf (v := .int (iI (m5 99 6))) rfl rfl (S.cell 99 (nc rfl)) (by decide) rfl ?_
    have hr6 : rJ (m5 99 6) := S.rg 99 6 (nl rfl)
    refine wp_ifI (a := (m5 99 6)) rfl rfl hr6.1 hr6.2 (fun c7 => ?_) (fun c7 => ?_)
    · have dc7 := c7
      have hW := hW.2 dc7
      refine wp_g (n := 3) (pc' := 58) (L' := [some (.ref 99), some (.ref g1), some (.int (iI y2))]) (st' := [.ref g1, .ref 99, .ref 99]) rfl ?_
      refine wp_cv (As := [.ref g1]) (rest := [.ref 99]) rfl rfl (S.cell 99 (nc rfl)) (by decide) rfl rfl rfl (Nat.le_of_ble_eq_true rfl) (Nat.le_of_ble_eq_true rfl) (hW _ S) (fun r8 H8 q8 => ?_)
      obtain ⟨v8, m8, γ8, t8, rfl, hv8, S, hW⟩ := q8
      show wp _ _ _ _ _ [.int (iI v8), .ref 99] _ _
      refine wp_putI rfl rfl (S.cell 99 (nc rfl)) (Nat.le_of_ble_eq_true rfl) rfl (fun H9 hl9 hz9 hf9 => ?_)
      have S : ST H9 (up m8 99 (up (m8 99) 2 v8)) γ8 t8 := S.setI 99 (nc rfl) hl9 hz9 hf9 hv8.1 hv8.2
      refine wp_g (n := 1) (pc' := 65) (L' := [some (.ref 99), some (.ref g1), some (.int (iI y2))]) (st' := [.ref 99]) rfl ?_
      refine wp_getf (v := .int (iI v8)) rfl rfl (S.cell 99 (nc rfl)) (by decide) rfl ?_
      refine wp_ifI (a := v8) rfl rfl hv8.1 hv8.2 (fun c10 => ?_) (fun c10 => ?_)
      · have dc10 := c10
        have hW := hW.1 dc10
        refine wp_iinc (L' := [some (.ref 99), some (.ref g1), some (.int (iI (y2 + 1)))]) (a := y2) rfl rfl rfl ?_
        refine wp_g (n := 1) (pc' := 26) (L' := [some (.ref 99), some (.ref g1), some (.int (iI (y2 + 1)))]) (st' := []) rfl ?_
        exact hW _ S
      · have dc10 := c10
        have hW := hW.2 dc10
        refine wp_g (n := 2) (pc' := 73) (L' := [some (.ref 99), some (.ref g1), some (.int (iI y2))]) (st' := [.ref 99, .ref 99]) rfl ?_
        refine wp_getf (v := .int (iI (m8 99 4))) rfl rfl (S.cell 99 (nc rfl)) (by decide) rfl ?_
        have hr11 : rJ (m8 99 4) := S.rg 99 4 (nl rfl)
        refine wp_putI rfl rfl (S.cell 99 (nc rfl)) (Nat.le_of_ble_eq_true rfl) rfl (fun H12 hl12 hz12 hf12 => ?_)
        have S : ST H12 (up (up m8 99 (up (m8 99) 2 v8)) 99 (up (up (m8 99) 2 v8) 3 (m8 99 4))) γ8 t8 := S.setI 99 (nc rfl) hl12 hz12 hf12 hr11.1 hr11.2
        refine wp_g (n := 3) (pc' := 90) (L' := [some (.ref 99), some (.ref g1), some (.int (iI y2))]) (st' := [.int (iI 0), .ref 99]) rfl ?_
        refine wp_putI rfl rfl (S.cell 99 (nc rfl)) (Nat.le_of_ble_eq_true rfl) rfl (fun H13 hl13 hz13 hf13 => ?_)
        have S : ST H13 (up (up (up m8 99 (up (m8 99) 2 v8)) 99 (up (up (m8 99) 2 v8) 3 (m8 99 4))) 99 (up (up (up (m8 99) 2 v8) 3 (m8 99 4)) 1 0)) γ8 t8 := S.setI 99 (nc rfl) hl13 hz13 hf13 (by decide) (by decide)
        refine wp_g (n := 1) (pc' := 94) (L' := [some (.ref 99), some (.ref g1), some (.int (iI y2))]) (st' := [.ref 99]) rfl ?_
        refine wp_getf (v := .int (iI v8)) rfl rfl (S.cell 99 (nc rfl)) (by decide) rfl ?_
        refine wp_ifI (a := v8) rfl rfl hv8.1 hv8.2 (fun c14 => ?_) (fun c14 => ?_)
        · skip
          refine wp_g (n := 1) (pc' := 105) (L' := [some (.ref 99), some (.ref g1), some (.int (iI y2))]) (st' := [.int (iI 0)]) rfl ?_
          exact wp_zret rfl rfl (by decide) ⟨_, _, _, _, rfl, (by decide), S, hW⟩
        · exact absurd (Classical.not_not.mp c14) dc10
    · have dc7 := (Classical.not_not.mp c7)
      have hW := hW.1 dc7
      refine wp_g (n := 1) (pc' := 45) (L' := [some (.ref 99), some (.ref g1), some (.int (iI y2))]) (st' := [.ref 99]) rfl ?_
      refine wp_getf (v := .int (iI (m5 99 8))) rfl rfl (S.cell 99 (nc rfl)) (by decide) rfl ?_
      have hr15 : rJ (m5 99 8) := S.rg 99 8 (nl rfl)
      refine wp_g (n := 1) (pc' := 49) (L' := [some (.ref 99), some (.ref g1), some (.int (iI y2))]) (st' := [.int (iI 4), .int (iI (m5 99 8))]) rfl ?_
      refine wp_icmpI (a := (m5 99 8)) (b := 4) rfl rfl hr15.1 hr15.2 (by decide) (by decide) (fun c16 => ?_) (fun c16 => ?_)
      · have dc16 := c16
        have hW := hW.2 dc16
        refine wp_g (n := 3) (pc' := 58) (L' := [some (.ref 99), some (.ref g1), some (.int (iI y2))]) (st' := [.ref g1, .ref 99, .ref 99]) rfl ?_
        refine wp_cv (As := [.ref g1]) (rest := [.ref 99]) rfl rfl (S.cell 99 (nc rfl)) (by decide) rfl rfl rfl (Nat.le_of_ble_eq_true rfl) (Nat.le_of_ble_eq_true rfl) (hW _ S) (fun r17 H17 q17 => ?_)
        obtain ⟨v17, m17, γ17, t17, rfl, hv17, S, hW⟩ := q17
        show wp _ _ _ _ _ [.int (iI v17), .ref 99] _ _
        refine wp_putI rfl rfl (S.cell 99 (nc rfl)) (Nat.le_of_ble_eq_true rfl) rfl (fun H18 hl18 hz18 hf18 => ?_)
        have S : ST H18 (up m17 99 (up (m17 99) 2 v17)) γ17 t17 := S.setI 99 (nc rfl) hl18 hz18 hf18 hv17.1 hv17.2
        refine wp_g (n := 1) (pc' := 65) (L' := [some (.ref 99), some (.ref g1), some (.int (iI y2))]) (st' := [.ref 99]) rfl ?_
        refine wp_getf (v := .int (iI v17)) rfl rfl (S.cell 99 (nc rfl)) (by decide) rfl ?_
        refine wp_ifI (a := v17) rfl rfl hv17.1 hv17.2 (fun c19 => ?_) (fun c19 => ?_)
        · have dc19 := c19
          have hW := hW.1 dc19
          refine wp_iinc (L' := [some (.ref 99), some (.ref g1), some (.int (iI (y2 + 1)))]) (a := y2) rfl rfl rfl ?_
          refine wp_g (n := 1) (pc' := 26) (L' := [some (.ref 99), some (.ref g1), some (.int (iI (y2 + 1)))]) (st' := []) rfl ?_
          exact hW _ S
        · have dc19 := c19
          have hW := hW.2 dc19
          refine wp_g (n := 2) (pc' := 73) (L' := [some (.ref 99), some (.ref g1), some (.int (iI y2))]) (st' := [.ref 99, .ref 99]) rfl ?_
          refine wp_getf (v := .int (iI (m17 99 4))) rfl rfl (S.cell 99 (nc rfl)) (by decide) rfl ?_
          have hr20 : rJ (m17 99 4) := S.rg 99 4 (nl rfl)
          refine wp_putI rfl rfl (S.cell 99 (nc rfl)) (Nat.le_of_ble_eq_true rfl) rfl (fun H21 hl21 hz21 hf21 => ?_)
          have S : ST H21 (up (up m17 99 (up (m17 99) 2 v17)) 99 (up (up (m17 99) 2 v17) 3 (m17 99 4))) γ17 t17 := S.setI 99 (nc rfl) hl21 hz21 hf21 hr20.1 hr20.2
          refine wp_g (n := 3) (pc' := 90) (L' := [some (.ref 99), some (.ref g1), some (.int (iI y2))]) (st' := [.int (iI 0), .ref 99]) rfl ?_
          refine wp_putI rfl rfl (S.cell 99 (nc rfl)) (Nat.le_of_ble_eq_true rfl) rfl (fun H22 hl22 hz22 hf22 => ?_)
          have S : ST H22 (up (up (up m17 99 (up (m17 99) 2 v17)) 99 (up (up (m17 99) 2 v17) 3 (m17 99 4))) 99 (up (up (up (m17 99) 2 v17) 3 (m17 99 4)) 1 0)) γ17 t17 := S.setI 99 (nc rfl) hl22 hz22 hf22 (by decide) (by decide)
          refine wp_g (n := 1) (pc' := 94) (L' := [some (.ref 99), some (.ref g1), some (.int (iI y2))]) (st' := [.ref 99]) rfl ?_
          refine wp_getf (v := .int (iI v17)) rfl rfl (S.cell 99 (nc rfl)) (by decide) rfl ?_
          refine wp_ifI (a := v17) rfl rfl hv17.1 hv17.2 (fun c23 => ?_) (fun c23 => ?_)
          · skip
            refine wp_g (n := 1) (pc' := 105) (L' := [some (.ref 99), some (.ref g1), some (.int (iI y2))]) (st' := [.int (iI 0)]) rfl ?_
            exact wp_zret rfl rfl (by decide) ⟨_, _, _, _, rfl, (by decide), S, hW⟩
          · exact absurd (Classical.not_not.mp c23) dc19
      · have dc16 := (Classical.not_not.mp c16)
        have hW := hW.1 dc16
        refine wp_g (n := 3) (pc' := 90) (L' := [some (.ref 99), some (.ref g1), some (.int (iI y2))]) (st' := [.int (iI 0), .ref 99]) rfl ?_
        refine wp_putI rfl rfl (S.cell 99 (nc rfl)) (Nat.le_of_ble_eq_true rfl) rfl (fun H24 hl24 hz24 hf24 => ?_)
        have S : ST H24 (up m5 99 (up (m5 99) 1 0)) γ5 t5 := S.setI 99 (nc rfl) hl24 hz24 hf24 (by decide) (by decide)
        refine wp_g (n := 1) (pc' := 94) (L' := [some (.ref 99), some (.ref g1), some (.int (iI y2))]) (st' := [.ref 99]) rfl ?_
        refine wp_getf (v := .int (iI (m5 99 2))) rfl rfl (S.cell 99 (nc rfl)) (by decide) rfl ?_
        have hr25 : rJ (m5 99 2) := S.rg 99 2 (nl rfl)
        refine wp_ifI (a := (m5 99 2)) rfl rfl hr25.1 hr25.2 (fun c26 => ?_) (fun c26 => ?_)
        · have dc26 := c26
          have hW := hW.2 dc26
          refine wp_g (n := 1) (pc' := 105) (L' := [some (.ref 99), some (.ref g1), some (.int (iI y2))]) (st' := [.int (iI 0)]) rfl ?_
          exact wp_zret rfl rfl (by decide) ⟨_, _, _, _, rfl, (by decide), S, hW⟩
        · have dc26 := (Classical.not_not.mp c26)
          have hW := hW.1 dc26
          refine wp_g (n := 2) (pc' := 105) (L' := [some (.ref 99), some (.ref g1), some (.int (iI y2))]) (st' := [.int (iI 1)]) rfl ?_
          exact wp_zret rfl rfl (by decide) ⟨_, _, _, _, rfl, (by decide), S, hW⟩
abbrev W_X6_byteAt (E : am_E) (k : Nat) (x1 : Int) (m : MM) (γ : GM) (t : am_H) (Q : Int → MM → GM → am_H → Prop) : Prop := (((x1 < 0) → (Q (-1) m γ t)) ∧ (¬ (x1 < 0) → (((x1 < (m 99 1)) → (((x1 < 400) → ((0 ≤ x1 ∧ x1 < 400) ∧ (Q (m 100 ((x1).toNat)) m γ t))) ∧ (¬ (x1 < 400) → (Q (-1) m γ t)))) ∧ (¬ (x1 < (m 99 1)) → (Q (-1) m γ t)))))
theorem vc_X6_byteAt {E : am_E} {k : Nat} {x1 : Int} {m : MM} {γ : GM} {t : am_H} {Q : Int → MM → GM → am_H → Prop} (hx1 : rJ x1) (hW : W_X6_byteAt E k x1 m γ t Q) : TI E k 81 [.ref 99, .int (iI x1)] m γ t Q := by
  unfold W_X6_byteAt at hW
  intro h S
  refine wp_g (n := 1) (pc' := 1) (L' := [some (.ref 99), some (.int (iI x1))]) (st' := [.int (iI x1)]) rfl ?_
  refine wp_ifI (a := x1) rfl rfl hx1.1 hx1.2 (fun c1 => ?_) (fun c1 => ?_)
  · have dc1 := c1
    have hW := hW.1 dc1
    refine wp_g (n := 1) (pc' := 29) (L' := [some (.ref 99), some (.int (iI x1))]) (st' := [.int (iI (-1))]) rfl ?_
    exact wp_iret rfl rfl ⟨_, _, _, _, rfl, (by decide), S, hW⟩
  · have dc1 := c1
    have hW := hW.2 dc1
    refine wp_g (n := 2) (pc' := 6) (L' := [some (.ref 99), some (.int (iI x1))]) (st' := [.ref 99, .int (iI x1)]) rfl ?_
    refine wp_getf (v := .int (iI (m 99 1))) rfl rfl (S.cell 99 (nc rfl)) (by decide) rfl ?_
    have hr2 : rJ (m 99 1) := S.rg 99 1 (nl rfl)
    refine wp_icmpI (a := x1) (b := (m 99 1)) rfl rfl hx1.1 hx1.2 hr2.1 hr2.2 (fun c3 => ?_) (fun c3 => ?_)
    · have dc3 := (Int.not_lt.mpr c3)
      have hW := hW.2 dc3
      refine wp_g (n := 1) (pc' := 29) (L' := [some (.ref 99), some (.int (iI x1))]) (st' := [.int (iI (-1))]) rfl ?_
      exact wp_iret rfl rfl ⟨_, _, _, _, rfl, (by decide), S, hW⟩
    · have dc3 := (Int.not_le.mp c3)
      have hW := hW.1 dc3
      refine wp_g (n := 2) (pc' := 16) (L' := [some (.ref 99), some (.int (iI x1))]) (st' := [.int (iI 400), .int (iI x1)]) rfl ?_
      refine wp_icmpI (a := x1) (b := 400) rfl rfl hx1.1 hx1.2 (by decide) (by decide) (fun c4 => ?_) (fun c4 => ?_)
      · have dc4 := (Int.not_lt.mpr c4)
        have hW := hW.2 dc4
        refine wp_g (n := 1) (pc' := 29) (L' := [some (.ref 99), some (.int (iI x1))]) (st' := [.int (iI (-1))]) rfl ?_
        exact wp_iret rfl rfl ⟨_, _, _, _, rfl, (by decide), S, hW⟩
      · have dc4 := (Int.not_le.mp c4)
        have hW := hW.1 dc4
        refine wp_g (n := 1) (pc' := 20) (L' := [some (.ref 99), some (.int (iI x1))]) (st' := [.ref 99]) rfl ?_
        refine wp_getf (v := .ref 100) rfl rfl (S.cell 99 (nc rfl)) (by decide) rfl ?_
        refine wp_g (n := 1) (pc' := 24) (L' := [some (.ref 99), some (.int (iI x1))]) (st' := [.int (iI x1), .ref 100]) rfl ?_
        obtain ⟨p5, hW⟩ := hW
        refine wp_bald (n := 400) (F := (m 100)) rfl (S.cell 100 (nc rfl)) (by decide) p5.1 p5.2 (by decide) ?_
        show wp _ _ _ _ _ [.int (iI (m 100 ((x1).toNat)))] _ _
        have hr6 : rJ (m 100 ((x1).toNat)) := S.rg 100 ((x1).toNat) (nl rfl)
        refine wp_g (n := 1) (pc' := 29) (L' := [some (.ref 99), some (.int (iI x1))]) (st' := [.int (iI (m 100 ((x1).toNat)))]) rfl ?_
        exact wp_iret rfl rfl ⟨_, _, _, _, rfl, hr6, S, hW⟩
abbrev W_X6_isLetter (E : am_E) (k : Nat) (x1 : Int) (m : MM) (γ : GM) (t : am_H) (Q : Int → MM → GM → am_H → Prop) : Prop := (TI E k 81 [.ref 99, .int (iI x1)] m γ t (fun v1 m1 γ1 t1 => (((v1 < 97) → (Q 0 m1 γ1 t1)) ∧ (¬ (v1 < 97) → (TI E k 81 [.ref 99, .int (iI x1)] m1 γ1 t1 (fun v3 m3 γ3 t3 => (((v3 ≤ 122) → (Q 1 m3 γ3 t3)) ∧ (¬ (v3 ≤ 122) → (Q 0 m3 γ3 t3)))))))))
theorem vc_X6_isLetter {E : am_E} {k : Nat} {x1 : Int} {m : MM} {γ : GM} {t : am_H} {Q : Int → MM → GM → am_H → Prop} (hx1 : rJ x1) (hW : W_X6_isLetter E k x1 m γ t Q) : TI E (k + 1) 82 [.ref 99, .int (iI x1)] m γ t Q := by
  unfold W_X6_isLetter at hW
  intro h S
  refine wp_g (n := 2) (pc' := 2) (L' := [some (.ref 99), some (.int (iI x1))]) (st' := [.int (iI x1), .ref 99]) rfl ?_
  refine wp_cv (As := [.int (iI x1)]) (rest := []) rfl rfl (S.cell 99 (nc rfl)) (by decide) rfl rfl rfl (Nat.le_of_ble_eq_true rfl) (Nat.le_of_ble_eq_true rfl) (hW _ S) (fun r1 H1 q1 => ?_)
  obtain ⟨v1, m1, γ1, t1, rfl, hv1, S, hW⟩ := q1
  show wp _ _ _ _ _ [.int (iI v1)] _ _
  refine wp_g (n := 1) (pc' := 7) (L' := [some (.ref 99), some (.int (iI x1))]) (st' := [.int (iI 97), .int (iI v1)]) rfl ?_
  refine wp_icmpI (a := v1) (b := 97) rfl rfl hv1.1 hv1.2 (by decide) (by decide) (fun c2 => ?_) (fun c2 => ?_)
  · have dc2 := c2
    have hW := hW.1 dc2
    refine wp_g (n := 1) (pc' := 25) (L' := [some (.ref 99), some (.int (iI x1))]) (st' := [.int (iI 0)]) rfl ?_
    exact wp_zret rfl rfl (by decide) ⟨_, _, _, _, rfl, (by decide), S, hW⟩
  · have dc2 := c2
    have hW := hW.2 dc2
    refine wp_g (n := 2) (pc' := 12) (L' := [some (.ref 99), some (.int (iI x1))]) (st' := [.int (iI x1), .ref 99]) rfl ?_
    refine wp_cv (As := [.int (iI x1)]) (rest := []) rfl rfl (S.cell 99 (nc rfl)) (by decide) rfl rfl rfl (Nat.le_of_ble_eq_true rfl) (Nat.le_of_ble_eq_true rfl) (hW _ S) (fun r3 H3 q3 => ?_)
    obtain ⟨v3, m3, γ3, t3, rfl, hv3, S, hW⟩ := q3
    show wp _ _ _ _ _ [.int (iI v3)] _ _
    refine wp_g (n := 1) (pc' := 17) (L' := [some (.ref 99), some (.int (iI x1))]) (st' := [.int (iI 122), .int (iI v3)]) rfl ?_
    refine wp_icmpI (a := v3) (b := 122) rfl rfl hv3.1 hv3.2 (by decide) (by decide) (fun c4 => ?_) (fun c4 => ?_)
    · have dc4 := (Int.not_le.mpr c4)
      have hW := hW.2 dc4
      refine wp_g (n := 1) (pc' := 25) (L' := [some (.ref 99), some (.int (iI x1))]) (st' := [.int (iI 0)]) rfl ?_
      exact wp_zret rfl rfl (by decide) ⟨_, _, _, _, rfl, (by decide), S, hW⟩
    · have dc4 := (Int.not_lt.mp c4)
      have hW := hW.1 dc4
      refine wp_g (n := 2) (pc' := 25) (L' := [some (.ref 99), some (.int (iI x1))]) (st' := [.int (iI 1)]) rfl ?_
      exact wp_zret rfl rfl (by decide) ⟨_, _, _, _, rfl, (by decide), S, hW⟩
abbrev W_X6_isDigit (E : am_E) (k : Nat) (x1 : Int) (m : MM) (γ : GM) (t : am_H) (Q : Int → MM → GM → am_H → Prop) : Prop := (TI E k 81 [.ref 99, .int (iI x1)] m γ t (fun v1 m1 γ1 t1 => (((v1 < 48) → (Q 0 m1 γ1 t1)) ∧ (¬ (v1 < 48) → (TI E k 81 [.ref 99, .int (iI x1)] m1 γ1 t1 (fun v3 m3 γ3 t3 => (((v3 ≤ 57) → (Q 1 m3 γ3 t3)) ∧ (¬ (v3 ≤ 57) → (Q 0 m3 γ3 t3)))))))))
theorem vc_X6_isDigit {E : am_E} {k : Nat} {x1 : Int} {m : MM} {γ : GM} {t : am_H} {Q : Int → MM → GM → am_H → Prop} (hx1 : rJ x1) (hW : W_X6_isDigit E k x1 m γ t Q) : TI E (k + 1) 83 [.ref 99, .int (iI x1)] m γ t Q := by
  unfold W_X6_isDigit at hW
  intro h S
  refine wp_g (n := 2) (pc' := 2) (L' := [some (.ref 99), some (.int (iI x1))]) (st' := [.int (iI x1), .ref 99]) rfl ?_
  refine wp_cv (As := [.int (iI x1)]) (rest := []) rfl rfl (S.cell 99 (nc rfl)) (by decide) rfl rfl rfl (Nat.le_of_ble_eq_true rfl) (Nat.le_of_ble_eq_true rfl) (hW _ S) (fun r1 H1 q1 => ?_)
  obtain ⟨v1, m1, γ1, t1, rfl, hv1, S, hW⟩ := q1
  show wp _ _ _ _ _ [.int (iI v1)] _ _
  refine wp_g (n := 1) (pc' := 7) (L' := [some (.ref 99), some (.int (iI x1))]) (st' := [.int (iI 48), .int (iI v1)]) rfl ?_
  refine wp_icmpI (a := v1) (b := 48) rfl rfl hv1.1 hv1.2 (by decide) (by decide) (fun c2 => ?_) (fun c2 => ?_)
  · have dc2 := c2
    have hW := hW.1 dc2
    refine wp_g (n := 1) (pc' := 25) (L' := [some (.ref 99), some (.int (iI x1))]) (st' := [.int (iI 0)]) rfl ?_
    exact wp_zret rfl rfl (by decide) ⟨_, _, _, _, rfl, (by decide), S, hW⟩
  · have dc2 := c2
    have hW := hW.2 dc2
    refine wp_g (n := 2) (pc' := 12) (L' := [some (.ref 99), some (.int (iI x1))]) (st' := [.int (iI x1), .ref 99]) rfl ?_
    refine wp_cv (As := [.int (iI x1)]) (rest := []) rfl rfl (S.cell 99 (nc rfl)) (by decide) rfl rfl rfl (Nat.le_of_ble_eq_true rfl) (Nat.le_of_ble_eq_true rfl) (hW _ S) (fun r3 H3 q3 => ?_)
    obtain ⟨v3, m3, γ3, t3, rfl, hv3, S, hW⟩ := q3
    show wp _ _ _ _ _ [.int (iI v3)] _ _
    refine wp_g (n := 1) (pc' := 17) (L' := [some (.ref 99), some (.int (iI x1))]) (st' := [.int (iI 57), .int (iI v3)]) rfl ?_
    refine wp_icmpI (a := v3) (b := 57) rfl rfl hv3.1 hv3.2 (by decide) (by decide) (fun c4 => ?_) (fun c4 => ?_)
    · have dc4 := (Int.not_le.mpr c4)
      have hW := hW.2 dc4
      refine wp_g (n := 1) (pc' := 25) (L' := [some (.ref 99), some (.int (iI x1))]) (st' := [.int (iI 0)]) rfl ?_
      exact wp_zret rfl rfl (by decide) ⟨_, _, _, _, rfl, (by decide), S, hW⟩
    · have dc4 := (Int.not_lt.mp c4)
      have hW := hW.1 dc4
      refine wp_g (n := 2) (pc' := 25) (L' := [some (.ref 99), some (.int (iI x1))]) (st' := [.int (iI 1)]) rfl ?_
      exact wp_zret rfl rfl (by decide) ⟨_, _, _, _, rfl, (by decide), S, hW⟩
def hd_X6_scan_8 (E : am_E) (k : Nat) (m : MM) (γ : GM) (t : am_H) (Q : MM → GM → am_H → Prop) : Prop := TT (pV Q) E (k + 1) 84 8 [some (.ref 99)] [] m γ t
abbrev W_X6_scan (E : am_E) (k : Nat) (m : MM) (γ : GM) (t : am_H) (Q : MM → GM → am_H → Prop) : Prop := (hd_X6_scan_8 E k (up m 99 (up (m 99) 4 (m 99 5))) γ t Q)
abbrev W_X6_scan_8 (E : am_E) (k : Nat) (m : MM) (γ : GM) (t : am_H) (Q : MM → GM → am_H → Prop) : Prop := ((((m 99 4) < (m 99 1)) → (TI E k 81 [.ref 99, .int (iI (m 99 4))] m γ t (fun v7 m7 γ7 t7 => (((v7 = 32) → (rJ ((m7 99 4) + 1) ∧ (hd_X6_scan_8 E k (up m7 99 (up (m7 99) 4 ((m7 99 4) + 1))) γ7 t7 Q))) ∧ (¬ (v7 = 32) → (TI E k 81 [.ref 99, .int (iI (m7 99 4))] m7 γ7 t7 (fun v13 m13 γ13 t13 => (((v13 = 10) → (rJ ((m13 99 4) + 1) ∧ (hd_X6_scan_8 E k (up m13 99 (up (m13 99) 4 ((m13 99 4) + 1))) γ13 t13 Q))) ∧ (¬ (v13 = 10) → ((((m13 99 4) < (m13 99 1)) → (TI E k 82 [.ref 99, .int (iI (m13 99 4))] (up m13 99 (up (m13 99) 5 (m13 99 4))) γ13 t13 (fun v19 m19 γ19 t19 => (((v19 = 0) → (TI E k 83 [.ref 99, .int (iI (m19 99 4))] m19 γ19 t19 (fun v22 m22 γ22 t22 => (((v22 = 0) → (TI E k 81 [.ref 99, .int (iI (m22 99 4))] (up m22 99 (up (m22 99) 6 3)) γ22 t22 (fun v26 m26 γ26 t26 => (rJ ((m26 99 5) + 1) ∧ (Q (up (up m26 99 (up (m26 99) 7 v26)) 99 (up (up (m26 99) 7 v26) 5 ((m26 99 5) + 1))) γ26 t26))))) ∧ (¬ (v22 = 0) → (TV E k 86 [.ref 99] m22 γ22 t22 (fun m31 γ31 t31 => (Q m31 γ31 t31)))))))) ∧ (¬ (v19 = 0) → (TV E k 85 [.ref 99] m19 γ19 t19 (fun m32 γ32 t32 => (Q m32 γ32 t32)))))))) ∧ (¬ ((m13 99 4) < (m13 99 1)) → (Q (up (up m13 99 (up (m13 99) 5 (m13 99 4))) 99 (up (up (m13 99) 5 (m13 99 4)) 6 0)) γ13 t13)))))))))))) ∧ (¬ ((m 99 4) < (m 99 1)) → (Q (up (up m 99 (up (m 99) 5 (m 99 4))) 99 (up (up (m 99) 5 (m 99 4)) 6 0)) γ t)))
theorem vc_X6_scan {E : am_E} {k : Nat} {m : MM} {γ : GM} {t : am_H} {Q : MM → GM → am_H → Prop} (hW : W_X6_scan E k  m γ t Q) : TV E (k + 1) 84 [.ref 99] m γ t Q := by
  unfold W_X6_scan at hW
  intro h S
  refine wp_g (n := 2) (pc' := 2) (L' := [some (.ref 99)]) (st' := [.ref 99, .ref 99]) rfl ?_
  refine wp_getf (v := .int (iI (m 99 5))) rfl rfl (S.cell 99 (nc rfl)) (by decide) rfl ?_
  have hr1 : rJ (m 99 5) := S.rg 99 5 (nl rfl)
  refine wp_putI rfl rfl (S.cell 99 (nc rfl)) (Nat.le_of_ble_eq_true rfl) rfl (fun H2 hl2 hz2 hf2 => ?_)
  have S : ST H2 (up m 99 (up (m 99) 4 (m 99 5))) γ t := S.setI 99 (nc rfl) hl2 hz2 hf2 hr1.1 hr1.2
  exact hW _ S
theorem vc_X6_scan_8 {E : am_E} {k : Nat} {m : MM} {γ : GM} {t : am_H} {Q : MM → GM → am_H → Prop} (hW : W_X6_scan_8 E k  m γ t Q) : hd_X6_scan_8 E k m γ t Q := by
  unfold W_X6_scan_8 at hW
  intro h S
  refine wp_g (n := 1) (pc' := 9) (L' := [some (.ref 99)]) (st' := [.ref 99]) rfl ?_
  refine wp_getf (v := .int (iI (m 99 4))) rfl rfl (S.cell 99 (nc rfl)) (by decide) rfl ?_
  have hr1 : rJ (m 99 4) := S.rg 99 4 (nl rfl)
  refine wp_g (n := 1) (pc' := 13) (L' := [some (.ref 99)]) (st' := [.ref 99, .int (iI (m 99 4))]) rfl ?_
  refine wp_getf (v := .int (iI (m 99 1))) rfl rfl (S.cell 99 (nc rfl)) (by decide) rfl ?_
  have hr2 : rJ (m 99 1) := S.rg 99 1 (nl rfl)
  refine wp_icmpI (a := (m 99 4)) (b := (m 99 1)) rfl rfl hr1.1 hr1.2 hr2.1 hr2.2 (fun c3 => ?_) (fun c3 => ?_)
  · have dc3 := (Int.not_lt.mpr c3)
    have hW := hW.2 dc3
    refine wp_g (n := 2) (pc' := 60) (L' := [some (.ref 99)]) (st' := [.ref 99, .ref 99]) rfl ?_
    refine wp_getf (v := .int (iI (m 99 4))) rfl rfl (S.cell 99 (nc rfl)) (by decide) rfl ?_
    refine wp_putI rfl rfl (S.cell 99 (nc rfl)) (Nat.le_of_ble_eq_true rfl) rfl (fun H4 hl4 hz4 hf4 => ?_)
    have S : ST H4 (up m 99 (up (m 99) 5 (m 99 4))) γ t := S.setI 99 (nc rfl) hl4 hz4 hf4 hr1.1 hr1.2
    refine wp_g (n := 1) (pc' := 67) (L' := [some (.ref 99)]) (st' := [.ref 99]) rfl ?_
    refine wp_getf (v := .int (iI (m 99 4))) rfl rfl (S.cell 99 (nc rfl)) (by decide) rfl ?_
    refine wp_g (n := 1) (pc' := 71) (L' := [some (.ref 99)]) (st' := [.ref 99, .int (iI (m 99 4))]) rfl ?_
    refine wp_getf (v := .int (iI (m 99 1))) rfl rfl (S.cell 99 (nc rfl)) (by decide) rfl ?_
    refine wp_icmpI (a := (m 99 4)) (b := (m 99 1)) rfl rfl hr1.1 hr1.2 hr2.1 hr2.2 (fun c5 => ?_) (fun c5 => ?_)
    · exact absurd c5 dc3
    · skip
      refine wp_g (n := 2) (pc' := 79) (L' := [some (.ref 99)]) (st' := [.int (iI 0), .ref 99]) rfl ?_
      refine wp_putI rfl rfl (S.cell 99 (nc rfl)) (Nat.le_of_ble_eq_true rfl) rfl (fun H6 hl6 hz6 hf6 => ?_)
      have S : ST H6 (up (up m 99 (up (m 99) 5 (m 99 4))) 99 (up (up (m 99) 5 (m 99 4)) 6 0)) γ t := S.setI 99 (nc rfl) hl6 hz6 hf6 (by decide) (by decide)
      refine wp_g (n := 1) (pc' := 148) (L' := [some (.ref 99)]) (st' := []) rfl ?_
      exact wp_vret rfl rfl ⟨_, _, _, rfl, S, hW⟩
  · have dc3 := (Int.not_le.mp c3)
    have hW := hW.1 dc3
    refine wp_g (n := 2) (pc' := 21) (L' := [some (.ref 99)]) (st' := [.ref 99, .ref 99]) rfl ?_
    refine wp_getf (v := .int (iI (m 99 4))) rfl rfl (S.cell 99 (nc rfl)) (by decide) rfl ?_
    refine wp_cv (As := [.int (iI (m 99 4))]) (rest := []) rfl rfl (S.cell 99 (nc rfl)) (by decide) rfl rfl rfl (Nat.le_of_ble_eq_true rfl) (Nat.le_of_ble_eq_true rfl) (hW _ S) (fun r7 H7 q7 => ?_)
    obtain ⟨v7, m7, γ7, t7, rfl, hv7, S, hW⟩ := q7
    show wp _ _ _ _ _ [.int (iI v7)] _ _
    refine wp_g (n := 1) (pc' := 29) (L' := [some (.ref 99)]) (st' := [.int (iI 32), .int (iI v7)]) rfl ?_
    refine wp_icmpI (a := v7) (b := 32) rfl rfl hv7.1 hv7.2 (by decide) (by decide) (fun c8 => ?_) (fun c8 => ?_)
    · have dc8 := c8
      have hW := hW.1 dc8
      refine wp_g (n := 2) (pc' := 47) (L' := [some (.ref 99)]) (st' := [.ref 99, .ref 99]) rfl ?_
      refine wp_getf (v := .int (iI (m7 99 4))) rfl rfl (S.cell 99 (nc rfl)) (by decide) rfl ?_
      have hr9 : rJ (m7 99 4) := S.rg 99 4 (nl rfl)
      refine wp_g (n := 1) (pc' := 51) (L' := [some (.ref 99)]) (st' := [.int (iI 1), .int (iI (m7 99 4)), .ref 99]) rfl ?_
      refine wp_add (a := (m7 99 4)) (b := 1) rfl ?_
      obtain ⟨p11, hW⟩ := hW
      refine wp_putI rfl rfl (S.cell 99 (nc rfl)) (Nat.le_of_ble_eq_true rfl) rfl (fun H10 hl10 hz10 hf10 => ?_)
      have S : ST H10 (up m7 99 (up (m7 99) 4 ((m7 99 4) + 1))) γ7 t7 := S.setI 99 (nc rfl) hl10 hz10 hf10 p11.1 p11.2
      refine wp_g (n := 1) (pc' := 8) (L' := [some (.ref 99)]) (st' := []) rfl ?_
      exact hW _ S
    · have dc8 := c8
      have hW := hW.2 dc8
      refine wp_g (n := 2) (pc' := 34) (L' := [some (.ref 99)]) (st' := [.ref 99, .ref 99]) rfl ?_
      refine wp_getf (v := .int (iI (m7 99 4))) rfl rfl (S.cell 99 (nc rfl)) (by decide) rfl ?_
      have hr12 : rJ (m7 99 4) := S.rg 99 4 (nl rfl)
      refine wp_cv (As := [.int (iI (m7 99 4))]) (rest := []) rfl rfl (S.cell 99 (nc rfl)) (by decide) rfl rfl rfl (Nat.le_of_ble_eq_true rfl) (Nat.le_of_ble_eq_true rfl) (hW _ S) (fun r13 H13 q13 => ?_)
      obtain ⟨v13, m13, γ13, t13, rfl, hv13, S, hW⟩ := q13
      show wp _ _ _ _ _ [.int (iI v13)] _ _
      refine wp_g (n := 1) (pc' := 42) (L' := [some (.ref 99)]) (st' := [.int (iI 10), .int (iI v13)]) rfl ?_
      refine wp_icmpI (a := v13) (b := 10) rfl rfl hv13.1 hv13.2 (by decide) (by decide) (fun c14 => ?_) (fun c14 => ?_)
      · have dc14 := c14
        have hW := hW.2 dc14
        refine wp_g (n := 2) (pc' := 60) (L' := [some (.ref 99)]) (st' := [.ref 99, .ref 99]) rfl ?_
        refine wp_getf (v := .int (iI (m13 99 4))) rfl rfl (S.cell 99 (nc rfl)) (by decide) rfl ?_
        have hr15 : rJ (m13 99 4) := S.rg 99 4 (nl rfl)
        refine wp_putI rfl rfl (S.cell 99 (nc rfl)) (Nat.le_of_ble_eq_true rfl) rfl (fun H16 hl16 hz16 hf16 => ?_)
        have S : ST H16 (up m13 99 (up (m13 99) 5 (m13 99 4))) γ13 t13 := S.setI 99 (nc rfl) hl16 hz16 hf16 hr15.1 hr15.2
        refine wp_g (n := 1) (pc' := 67) (L' := [some (.ref 99)]) (st' := [.ref 99]) rfl ?_
        refine wp_getf (v := .int (iI (m13 99 4))) rfl rfl (S.cell 99 (nc rfl)) (by decide) rfl ?_
        refine wp_g (n := 1) (pc' := 71) (L' := [some (.ref 99)]) (st' := [.ref 99, .int (iI (m13 99 4))]) rfl ?_
        refine wp_getf (v := .int (iI (m13 99 1))) rfl rfl (S.cell 99 (nc rfl)) (by decide) rfl ?_
        have hr17 : rJ (m13 99 1) := S.rg 99 1 (nl rfl)
        refine wp_icmpI (a := (m13 99 4)) (b := (m13 99 1)) rfl rfl hr15.1 hr15.2 hr17.1 hr17.2 (fun c18 => ?_) (fun c18 => ?_)
        · have dc18 := c18
          have hW := hW.1 dc18
          refine wp_g (n := 2) (pc' := 87) (L' := [some (.ref 99)]) (st' := [.ref 99, .ref 99]) rfl ?_
          refine wp_getf (v := .int (iI (m13 99 4))) rfl rfl (S.cell 99 (nc rfl)) (by decide) rfl ?_
          refine wp_cv (As := [.int (iI (m13 99 4))]) (rest := []) rfl rfl (S.cell 99 (nc rfl)) (by decide) rfl rfl rfl (Nat.le_of_ble_eq_true rfl) (Nat.le_of_ble_eq_true rfl) (hW _ S) (fun r19 H19 q19 => ?_)
          obtain ⟨v19, m19, γ19, t19, rfl, hv19, S, hW⟩ := q19
          show wp _ _ _ _ _ [.int (iI v19)] _ _
          refine wp_ifI (a := v19) rfl rfl hv19.1 hv19.2 (fun c20 => ?_) (fun c20 => ?_)
          · have dc20 := c20
            have hW := hW.1 dc20
            refine wp_g (n := 2) (pc' := 105) (L' := [some (.ref 99)]) (st' := [.ref 99, .ref 99]) rfl ?_
            refine wp_getf (v := .int (iI (m19 99 4))) rfl rfl (S.cell 99 (nc rfl)) (by decide) rfl ?_
            have hr21 : rJ (m19 99 4) := S.rg 99 4 (nl rfl)
            refine wp_cv (As := [.int (iI (m19 99 4))]) (rest := []) rfl rfl (S.cell 99 (nc rfl)) (by decide) rfl rfl rfl (Nat.le_of_ble_eq_true rfl) (Nat.le_of_ble_eq_true rfl) (hW _ S) (fun r22 H22 q22 => ?_)
            obtain ⟨v22, m22, γ22, t22, rfl, hv22, S, hW⟩ := q22
            show wp _ _ _ _ _ [.int (iI v22)] _ _
            refine wp_ifI (a := v22) rfl rfl hv22.1 hv22.2 (fun c23 => ?_) (fun c23 => ?_)
            · have dc23 := c23
              have hW := hW.1 dc23
              refine wp_g (n := 2) (pc' := 123) (L' := [some (.ref 99)]) (st' := [.int (iI 3), .ref 99]) rfl ?_
              refine wp_putI rfl rfl (S.cell 99 (nc rfl)) (Nat.le_of_ble_eq_true rfl) rfl (fun H24 hl24 hz24 hf24 => ?_)
              have S : ST H24 (up m22 99 (up (m22 99) 6 3)) γ22 t22 := S.setI 99 (nc rfl) hl24 hz24 hf24 (by decide) (by decide)
              refine wp_g (n := 3) (pc' := 129) (L' := [some (.ref 99)]) (st' := [.ref 99, .ref 99, .ref 99]) rfl ?_
              refine wp_getf (v := .int (iI (m22 99 4))) rfl rfl (S.cell 99 (nc rfl)) (by decide) rfl ?_
              have hr25 : rJ (m22 99 4) := S.rg 99 4 (nl rfl)
              refine wp_cv (As := [.int (iI (m22 99 4))]) (rest := [.ref 99]) rfl rfl (S.cell 99 (nc rfl)) (by decide) rfl rfl rfl (Nat.le_of_ble_eq_true rfl) (Nat.le_of_ble_eq_true rfl) (hW _ S) (fun r26 H26 q26 => ?_)
              obtain ⟨v26, m26, γ26, t26, rfl, hv26, S, hW⟩ := q26
              show wp _ _ _ _ _ [.int (iI v26), .ref 99] _ _
              refine wp_putI rfl rfl (S.cell 99 (nc rfl)) (Nat.le_of_ble_eq_true rfl) rfl (fun H27 hl27 hz27 hf27 => ?_)
              have S : ST H27 (up m26 99 (up (m26 99) 7 v26)) γ26 t26 := S.setI 99 (nc rfl) hl27 hz27 hf27 hv26.1 hv26.2
              refine wp_g (n := 2) (pc' := 140) (L' := [some (.ref 99)]) (st' := [.ref 99, .ref 99]) rfl ?_
              refine wp_getf (v := .int (iI (m26 99 5))) rfl rfl (S.cell 99 (nc rfl)) (by decide) rfl ?_
              have hr28 : rJ (m26 99 5) := S.rg 99 5 (nl rfl)
              refine wp_g (n := 1) (pc' := 144) (L' := [some (.ref 99)]) (st' := [.int (iI 1), .int (iI (m26 99 5)), .ref 99]) rfl ?_
              refine wp_add (a := (m26 99 5)) (b := 1) rfl ?_
              obtain ⟨p30, hW⟩ := hW
              refine wp_putI rfl rfl (S.cell 99 (nc rfl)) (Nat.le_of_ble_eq_true rfl) rfl (fun H29 hl29 hz29 hf29 => ?_)
              have S : ST H29 (up (up m26 99 (up (m26 99) 7 v26)) 99 (up (up (m26 99) 7 v26) 5 ((m26 99 5) + 1))) γ26 t26 := S.setI 99 (nc rfl) hl29 hz29 hf29 p30.1 p30.2
              exact wp_vret rfl rfl ⟨_, _, _, rfl, S, hW⟩
            · have dc23 := c23
              have hW := hW.2 dc23
              refine wp_g (n := 1) (pc' := 115) (L' := [some (.ref 99)]) (st' := [.ref 99]) rfl ?_
              refine wp_cv (As := []) (rest := []) rfl rfl (S.cell 99 (nc rfl)) (by decide) rfl rfl rfl (Nat.le_of_ble_eq_true rfl) (Nat.le_of_ble_eq_true rfl) (hW _ S) (fun r31 H31 q31 => ?_)
              obtain ⟨m31, γ31, t31, rfl, S, hW⟩ := q31
              show wp _ _ _ _ _ [] _ _
              refine wp_g (n := 1) (pc' := 148) (L' := [some (.ref 99)]) (st' := []) rfl ?_
              exact wp_vret rfl rfl ⟨_, _, _, rfl, S, hW⟩
          · have dc20 := c20
            have hW := hW.2 dc20
            refine wp_g (n := 1) (pc' := 97) (L' := [some (.ref 99)]) (st' := [.ref 99]) rfl ?_
            refine wp_cv (As := []) (rest := []) rfl rfl (S.cell 99 (nc rfl)) (by decide) rfl rfl rfl (Nat.le_of_ble_eq_true rfl) (Nat.le_of_ble_eq_true rfl) (hW _ S) (fun r32 H32 q32 => ?_)
            obtain ⟨m32, γ32, t32, rfl, S, hW⟩ := q32
            show wp _ _ _ _ _ [] _ _
            refine wp_g (n := 1) (pc' := 148) (L' := [some (.ref 99)]) (st' := []) rfl ?_
            exact wp_vret rfl rfl ⟨_, _, _, rfl, S, hW⟩
        · have dc18 := c18
          have hW := hW.2 dc18
          refine wp_g (n := 2) (pc' := 79) (L' := [some (.ref 99)]) (st' := [.int (iI 0), .ref 99]) rfl ?_
          refine wp_putI rfl rfl (S.cell 99 (nc rfl)) (Nat.le_of_ble_eq_true rfl) rfl (fun H33 hl33 hz33 hf33 => ?_)
          have S : ST H33 (up (up m13 99 (up (m13 99) 5 (m13 99 4))) 99 (up (up (m13 99) 5 (m13 99 4)) 6 0)) γ13 t13 := S.setI 99 (nc rfl) hl33 hz33 hf33 (by decide) (by decide)
          refine wp_g (n := 1) (pc' := 148) (L' := [some (.ref 99)]) (st' := []) rfl ?_
          exact wp_vret rfl rfl ⟨_, _, _, rfl, S, hW⟩
      · have dc14 := (Classical.not_not.mp c14)
        have hW := hW.1 dc14
        refine wp_g (n := 2) (pc' := 47) (L' := [some (.ref 99)]) (st' := [.ref 99, .ref 99]) rfl ?_
        refine wp_getf (v := .int (iI (m13 99 4))) rfl rfl (S.cell 99 (nc rfl)) (by decide) rfl ?_
        have hr34 : rJ (m13 99 4) := S.rg 99 4 (nl rfl)
        refine wp_g (n := 1) (pc' := 51) (L' := [some (.ref 99)]) (st' := [.int (iI 1), .int (iI (m13 99 4)), .ref 99]) rfl ?_
        refine wp_add (a := (m13 99 4)) (b := 1) rfl ?_
        obtain ⟨p36, hW⟩ := hW
        refine wp_putI rfl rfl (S.cell 99 (nc rfl)) (Nat.le_of_ble_eq_true rfl) rfl (fun H35 hl35 hz35 hf35 => ?_)
        have S : ST H35 (up m13 99 (up (m13 99) 4 ((m13 99 4) + 1))) γ13 t13 := S.setI 99 (nc rfl) hl35 hz35 hf35 p36.1 p36.2
        refine wp_g (n := 1) (pc' := 8) (L' := [some (.ref 99)]) (st' := []) rfl ?_
        exact hW _ S
def hd_X6_scanWord_0 (E : am_E) (k : Nat) (m : MM) (γ : GM) (t : am_H) (Q : MM → GM → am_H → Prop) : Prop := TT (pV Q) E (k + 1) 85 0 [some (.ref 99)] [] m γ t
abbrev W_X6_scanWord (E : am_E) (k : Nat) (m : MM) (γ : GM) (t : am_H) (Q : MM → GM → am_H → Prop) : Prop := ((((m 99 5) < (m 99 1)) → (TI E k 82 [.ref 99, .int (iI (m 99 5))] m γ t (fun v7 m7 γ7 t7 => (((v7 = 0) → (TI E k 87 [.ref 99] (up m7 99 (up (m7 99) 6 1)) γ7 t7 (fun v10 m10 γ10 t10 => (Q (up m10 99 (up (m10 99) 7 v10)) γ10 t10)))) ∧ (¬ (v7 = 0) → (rJ ((m7 99 5) + 1) ∧ (hd_X6_scanWord_0 E k (up m7 99 (up (m7 99) 5 ((m7 99 5) + 1))) γ7 t7 Q))))))) ∧ (¬ ((m 99 5) < (m 99 1)) → (TI E k 87 [.ref 99] (up m 99 (up (m 99) 6 1)) γ t (fun v5 m5 γ5 t5 => (Q (up m5 99 (up (m5 99) 7 v5)) γ5 t5)))))
abbrev W_X6_scanWord_0 (E : am_E) (k : Nat) (m : MM) (γ : GM) (t : am_H) (Q : MM → GM → am_H → Prop) : Prop := ((((m 99 5) < (m 99 1)) → (TI E k 82 [.ref 99, .int (iI (m 99 5))] m γ t (fun v7 m7 γ7 t7 => (((v7 = 0) → (TI E k 87 [.ref 99] (up m7 99 (up (m7 99) 6 1)) γ7 t7 (fun v10 m10 γ10 t10 => (Q (up m10 99 (up (m10 99) 7 v10)) γ10 t10)))) ∧ (¬ (v7 = 0) → (rJ ((m7 99 5) + 1) ∧ (hd_X6_scanWord_0 E k (up m7 99 (up (m7 99) 5 ((m7 99 5) + 1))) γ7 t7 Q))))))) ∧ (¬ ((m 99 5) < (m 99 1)) → (TI E k 87 [.ref 99] (up m 99 (up (m 99) 6 1)) γ t (fun v5 m5 γ5 t5 => (Q (up m5 99 (up (m5 99) 7 v5)) γ5 t5)))))
theorem vc_X6_scanWord {E : am_E} {k : Nat} {m : MM} {γ : GM} {t : am_H} {Q : MM → GM → am_H → Prop} (hW : W_X6_scanWord E k  m γ t Q) : TV E (k + 1) 85 [.ref 99] m γ t Q := by
  unfold W_X6_scanWord at hW
  intro h S
  refine wp_g (n := 1) (pc' := 1) (L' := [some (.ref 99)]) (st' := [.ref 99]) rfl ?_
  refine wp_getf (v := .int (iI (m 99 5))) rfl rfl (S.cell 99 (nc rfl)) (by decide) rfl ?_
  have hr1 : rJ (m 99 5) := S.rg 99 5 (nl rfl)
  refine wp_g (n := 1) (pc' := 5) (L' := [some (.ref 99)]) (st' := [.ref 99, .int (iI (m 99 5))]) rfl ?_
  refine wp_getf (v := .int (iI (m 99 1))) rfl rfl (S.cell 99 (nc rfl)) (by decide) rfl ?_
  have hr2 : rJ (m 99 1) := S.rg 99 1 (nl rfl)
  refine wp_icmpI (a := (m 99 5)) (b := (m 99 1)) rfl rfl hr1.1 hr1.2 hr2.1 hr2.2 (fun c3 => ?_) (fun c3 => ?_)
  · have dc3 := (Int.not_lt.mpr c3)
    have hW := hW.2 dc3
    refine wp_g (n := 2) (pc' := 37) (L' := [some (.ref 99)]) (st' := [.int (iI 1), .ref 99]) rfl ?_
    refine wp_putI rfl rfl (S.cell 99 (nc rfl)) (Nat.le_of_ble_eq_true rfl) rfl (fun H4 hl4 hz4 hf4 => ?_)
    have S : ST H4 (up m 99 (up (m 99) 6 1)) γ t := S.setI 99 (nc rfl) hl4 hz4 hf4 (by decide) (by decide)
    refine wp_g (n := 2) (pc' := 42) (L' := [some (.ref 99)]) (st' := [.ref 99, .ref 99]) rfl ?_
    refine wp_cv (As := []) (rest := [.ref 99]) rfl rfl (S.cell 99 (nc rfl)) (by decide) rfl rfl rfl (Nat.le_of_ble_eq_true rfl) (Nat.le_of_ble_eq_true rfl) (hW _ S) (fun r5 H5 q5 => ?_)
    obtain ⟨v5, m5, γ5, t5, rfl, hv5, S, hW⟩ := q5
    show wp _ _ _ _ _ [.int (iI v5), .ref 99] _ _
    refine wp_putI rfl rfl (S.cell 99 (nc rfl)) (Nat.le_of_ble_eq_true rfl) rfl (fun H6 hl6 hz6 hf6 => ?_)
    have S : ST H6 (up m5 99 (up (m5 99) 7 v5)) γ5 t5 := S.setI 99 (nc rfl) hl6 hz6 hf6 hv5.1 hv5.2
    exact wp_vret rfl rfl ⟨_, _, _, rfl, S, hW⟩
  · have dc3 := (Int.not_le.mp c3)
    have hW := hW.1 dc3
    refine wp_g (n := 2) (pc' := 13) (L' := [some (.ref 99)]) (st' := [.ref 99, .ref 99]) rfl ?_
    refine wp_getf (v := .int (iI (m 99 5))) rfl rfl (S.cell 99 (nc rfl)) (by decide) rfl ?_
    refine wp_cv (As := [.int (iI (m 99 5))]) (rest := []) rfl rfl (S.cell 99 (nc rfl)) (by decide) rfl rfl rfl (Nat.le_of_ble_eq_true rfl) (Nat.le_of_ble_eq_true rfl) (hW _ S) (fun r7 H7 q7 => ?_)
    obtain ⟨v7, m7, γ7, t7, rfl, hv7, S, hW⟩ := q7
    show wp _ _ _ _ _ [.int (iI v7)] _ _
    refine wp_ifI (a := v7) rfl rfl hv7.1 hv7.2 (fun c8 => ?_) (fun c8 => ?_)
    · have dc8 := c8
      have hW := hW.1 dc8
      refine wp_g (n := 2) (pc' := 37) (L' := [some (.ref 99)]) (st' := [.int (iI 1), .ref 99]) rfl ?_
      refine wp_putI rfl rfl (S.cell 99 (nc rfl)) (Nat.le_of_ble_eq_true rfl) rfl (fun H9 hl9 hz9 hf9 => ?_)
      have S : ST H9 (up m7 99 (up (m7 99) 6 1)) γ7 t7 := S.setI 99 (nc rfl) hl9 hz9 hf9 (by decide) (by decide)
      refine wp_g (n := 2) (pc' := 42) (L' := [some (.ref 99)]) (st' := [.ref 99, .ref 99]) rfl ?_
      refine wp_cv (As := []) (rest := [.ref 99]) rfl rfl (S.cell 99 (nc rfl)) (by decide) rfl rfl rfl (Nat.le_of_ble_eq_true rfl) (Nat.le_of_ble_eq_true rfl) (hW _ S) (fun r10 H10 q10 => ?_)
      obtain ⟨v10, m10, γ10, t10, rfl, hv10, S, hW⟩ := q10
      show wp _ _ _ _ _ [.int (iI v10), .ref 99] _ _
      refine wp_putI rfl rfl (S.cell 99 (nc rfl)) (Nat.le_of_ble_eq_true rfl) rfl (fun H11 hl11 hz11 hf11 => ?_)
      have S : ST H11 (up m10 99 (up (m10 99) 7 v10)) γ10 t10 := S.setI 99 (nc rfl) hl11 hz11 hf11 hv10.1 hv10.2
      exact wp_vret rfl rfl ⟨_, _, _, rfl, S, hW⟩
    · have dc8 := c8
      have hW := hW.2 dc8
      refine wp_g (n := 2) (pc' := 24) (L' := [some (.ref 99)]) (st' := [.ref 99, .ref 99]) rfl ?_
      refine wp_getf (v := .int (iI (m7 99 5))) rfl rfl (S.cell 99 (nc rfl)) (by decide) rfl ?_
      have hr12 : rJ (m7 99 5) := S.rg 99 5 (nl rfl)
      refine wp_g (n := 1) (pc' := 28) (L' := [some (.ref 99)]) (st' := [.int (iI 1), .int (iI (m7 99 5)), .ref 99]) rfl ?_
      refine wp_add (a := (m7 99 5)) (b := 1) rfl ?_
      obtain ⟨p14, hW⟩ := hW
      refine wp_putI rfl rfl (S.cell 99 (nc rfl)) (Nat.le_of_ble_eq_true rfl) rfl (fun H13 hl13 hz13 hf13 => ?_)
      have S : ST H13 (up m7 99 (up (m7 99) 5 ((m7 99 5) + 1))) γ7 t7 := S.setI 99 (nc rfl) hl13 hz13 hf13 p14.1 p14.2
      refine wp_g (n := 1) (pc' := 0) (L' := [some (.ref 99)]) (st' := []) rfl ?_
      exact hW _ S
theorem vc_X6_scanWord_0 {E : am_E} {k : Nat} {m : MM} {γ : GM} {t : am_H} {Q : MM → GM → am_H → Prop} (hW : W_X6_scanWord_0 E k  m γ t Q) : hd_X6_scanWord_0 E k m γ t Q := by
  unfold W_X6_scanWord_0 at hW
  intro h S
  refine wp_g (n := 1) (pc' := 1) (L' := [some (.ref 99)]) (st' := [.ref 99]) rfl ?_
  refine wp_getf (v := .int (iI (m 99 5))) rfl rfl (S.cell 99 (nc rfl)) (by decide) rfl ?_
  have hr1 : rJ (m 99 5) := S.rg 99 5 (nl rfl)
  refine wp_g (n := 1) (pc' := 5) (L' := [some (.ref 99)]) (st' := [.ref 99, .int (iI (m 99 5))]) rfl ?_
  refine wp_getf (v := .int (iI (m 99 1))) rfl rfl (S.cell 99 (nc rfl)) (by decide) rfl ?_
  have hr2 : rJ (m 99 1) := S.rg 99 1 (nl rfl)
  refine wp_icmpI (a := (m 99 5)) (b := (m 99 1)) rfl rfl hr1.1 hr1.2 hr2.1 hr2.2 (fun c3 => ?_) (fun c3 => ?_)
  · have dc3 := (Int.not_lt.mpr c3)
    have hW := hW.2 dc3
    refine wp_g (n := 2) (pc' := 37) (L' := [some (.ref 99)]) (st' := [.int (iI 1), .ref 99]) rfl ?_
    refine wp_putI rfl rfl (S.cell 99 (nc rfl)) (Nat.le_of_ble_eq_true rfl) rfl (fun H4 hl4 hz4 hf4 => ?_)
    have S : ST H4 (up m 99 (up (m 99) 6 1)) γ t := S.setI 99 (nc rfl) hl4 hz4 hf4 (by decide) (by decide)
    refine wp_g (n := 2) (pc' := 42) (L' := [some (.ref 99)]) (st' := [.ref 99, .ref 99]) rfl ?_
    refine wp_cv (As := []) (rest := [.ref 99]) rfl rfl (S.cell 99 (nc rfl)) (by decide) rfl rfl rfl (Nat.le_of_ble_eq_true rfl) (Nat.le_of_ble_eq_true rfl) (hW _ S) (fun r5 H5 q5 => ?_)
    obtain ⟨v5, m5, γ5, t5, rfl, hv5, S, hW⟩ := q5
    show wp _ _ _ _ _ [.int (iI v5), .ref 99] _ _
    refine wp_putI rfl rfl (S.cell 99 (nc rfl)) (Nat.le_of_ble_eq_true rfl) rfl (fun H6 hl6 hz6 hf6 => ?_)
    have S : ST H6 (up m5 99 (up (m5 99) 7 v5)) γ5 t5 := S.setI 99 (nc rfl) hl6 hz6 hf6 hv5.1 hv5.2
    exact wp_vret rfl rfl ⟨_, _, _, rfl, S, hW⟩
  · have dc3 := (Int.not_le.mp c3)
    have hW := hW.1 dc3
    refine wp_g (n := 2) (pc' := 13) (L' := [some (.ref 99)]) (st' := [.ref 99, .ref 99]) rfl ?_
    refine wp_getf (v := .int (iI (m 99 5))) rfl rfl (S.cell 99 (nc rfl)) (by decide) rfl ?_
    refine wp_cv (As := [.int (iI (m 99 5))]) (rest := []) rfl rfl (S.cell 99 (nc rfl)) (by decide) rfl rfl rfl (Nat.le_of_ble_eq_true rfl) (Nat.le_of_ble_eq_true rfl) (hW _ S) (fun r7 H7 q7 => ?_)
    obtain ⟨v7, m7, γ7, t7, rfl, hv7, S, hW⟩ := q7
    show wp _ _ _ _ _ [.int (iI v7)] _ _
    refine wp_ifI (a := v7) rfl rfl hv7.1 hv7.2 (fun c8 => ?_) (fun c8 => ?_)
    · have dc8 := c8
      have hW := hW.1 dc8
      refine wp_g (n := 2) (pc' := 37) (L' := [some (.ref 99)]) (st' := [.int (iI 1), .ref 99]) rfl ?_
      refine wp_putI rfl rfl (S.cell 99 (nc rfl)) (Nat.le_of_ble_eq_true rfl) rfl (fun H9 hl9 hz9 hf9 => ?_)
      have S : ST H9 (up m7 99 (up (m7 99) 6 1)) γ7 t7 := S.setI 99 (nc rfl) hl9 hz9 hf9 (by decide) (by decide)
      refine wp_g (n := 2) (pc' := 42) (L' := [some (.ref 99)]) (st' := [.ref 99, .ref 99]) rfl ?_
      refine wp_cv (As := []) (rest := [.ref 99]) rfl rfl (S.cell 99 (nc rfl)) (by decide) rfl rfl rfl (Nat.le_of_ble_eq_true rfl) (Nat.le_of_ble_eq_true rfl) (hW _ S) (fun r10 H10 q10 => ?_)
      obtain ⟨v10, m10, γ10, t10, rfl, hv10, S, hW⟩ := q10
      show wp _ _ _ _ _ [.int (iI v10), .ref 99] _ _
      refine wp_putI rfl rfl (S.cell 99 (nc rfl)) (Nat.le_of_ble_eq_true rfl) rfl (fun H11 hl11 hz11 hf11 => ?_)
      have S : ST H11 (up m10 99 (up (m10 99) 7 v10)) γ10 t10 := S.setI 99 (nc rfl) hl11 hz11 hf11 hv10.1 hv10.2
      exact wp_vret rfl rfl ⟨_, _, _, rfl, S, hW⟩
    · have dc8 := c8
      have hW := hW.2 dc8
      refine wp_g (n := 2) (pc' := 24) (L' := [some (.ref 99)]) (st' := [.ref 99, .ref 99]) rfl ?_
      refine wp_getf (v := .int (iI (m7 99 5))) rfl rfl (S.cell 99 (nc rfl)) (by decide) rfl ?_
      have hr12 : rJ (m7 99 5) := S.rg 99 5 (nl rfl)
      refine wp_g (n := 1) (pc' := 28) (L' := [some (.ref 99)]) (st' := [.int (iI 1), .int (iI (m7 99 5)), .ref 99]) rfl ?_
      refine wp_add (a := (m7 99 5)) (b := 1) rfl ?_
      obtain ⟨p14, hW⟩ := hW
      refine wp_putI rfl rfl (S.cell 99 (nc rfl)) (Nat.le_of_ble_eq_true rfl) rfl (fun H13 hl13 hz13 hf13 => ?_)
      have S : ST H13 (up m7 99 (up (m7 99) 5 ((m7 99 5) + 1))) γ7 t7 := S.setI 99 (nc rfl) hl13 hz13 hf13 p14.1 p14.2
      refine wp_g (n := 1) (pc' := 0) (L' := [some (.ref 99)]) (st' := []) rfl ?_
      exact hW _ S
def hd_X6_scanNumber_10 (E : am_E) (k : Nat) (m : MM) (γ : GM) (t : am_H) (Q : MM → GM → am_H → Prop) : Prop := TT (pV Q) E (k + 1) 86 10 [some (.ref 99)] [] m γ t
abbrev W_X6_scanNumber (E : am_E) (k : Nat) (m : MM) (γ : GM) (t : am_H) (Q : MM → GM → am_H → Prop) : Prop := (hd_X6_scanNumber_10 E k (up (up m 99 (up (m 99) 6 2)) 99 (up (up (m 99) 6 2) 7 0)) γ t Q)
abbrev W_X6_scanNumber_10 (E : am_E) (k : Nat) (m : MM) (γ : GM) (t : am_H) (Q : MM → GM → am_H → Prop) : Prop := ((((m 99 5) < (m 99 1)) → (TI E k 83 [.ref 99, .int (iI (m 99 5))] m γ t (fun v4 m4 γ4 t4 => (((v4 = 0) → (Q m4 γ4 t4)) ∧ (¬ (v4 = 0) → (TI E k 81 [.ref 99, .int (iI (m4 99 5))] m4 γ4 t4 (fun v8 m8 γ8 t8 => (TI E k 312 [.int (iI 1000), .int (iI (((10 * (m4 99 7)) + v8) - 48))] m8 γ8 t8 (fun v9 m9 γ9 t9 => (rJ ((m9 99 5) + 1) ∧ (hd_X6_scanNumber_10 E k (up (up m9 99 (up (m9 99) 7 v9)) 99 (up (up (m9 99) 7 v9) 5 ((m9 99 5) + 1))) γ9 t9 Q))))))))))) ∧ (¬ ((m 99 5) < (m 99 1)) → (Q m γ t)))
theorem vc_X6_scanNumber {E : am_E} {k : Nat} {m : MM} {γ : GM} {t : am_H} {Q : MM → GM → am_H → Prop} (hW : W_X6_scanNumber E k  m γ t Q) : TV E (k + 1) 86 [.ref 99] m γ t Q := by
  unfold W_X6_scanNumber at hW
  intro h S
  refine wp_g (n := 2) (pc' := 2) (L' := [some (.ref 99)]) (st' := [.int (iI 2), .ref 99]) rfl ?_
  refine wp_putI rfl rfl (S.cell 99 (nc rfl)) (Nat.le_of_ble_eq_true rfl) rfl (fun H1 hl1 hz1 hf1 => ?_)
  have S : ST H1 (up m 99 (up (m 99) 6 2)) γ t := S.setI 99 (nc rfl) hl1 hz1 hf1 (by decide) (by decide)
  refine wp_g (n := 2) (pc' := 7) (L' := [some (.ref 99)]) (st' := [.int (iI 0), .ref 99]) rfl ?_
  refine wp_putI rfl rfl (S.cell 99 (nc rfl)) (Nat.le_of_ble_eq_true rfl) rfl (fun H2 hl2 hz2 hf2 => ?_)
  have S : ST H2 (up (up m 99 (up (m 99) 6 2)) 99 (up (up (m 99) 6 2) 7 0)) γ t := S.setI 99 (nc rfl) hl2 hz2 hf2 (by decide) (by decide)
  exact hW _ S
theorem vc_X6_scanNumber_10 {E : am_E} {k : Nat} {m : MM} {γ : GM} {t : am_H} {Q : MM → GM → am_H → Prop} (hW : W_X6_scanNumber_10 E k  m γ t Q) : hd_X6_scanNumber_10 E k m γ t Q := by
  unfold W_X6_scanNumber_10 at hW
  intro h S
  refine wp_g (n := 1) (pc' := 11) (L' := [some (.ref 99)]) (st' := [.ref 99]) rfl ?_
  refine wp_getf (v := .int (iI (m 99 5))) rfl rfl (S.cell 99 (nc rfl)) (by decide) rfl ?_
  have hr1 : rJ (m 99 5) := S.rg 99 5 (nl rfl)
  refine wp_g (n := 1) (pc' := 15) (L' := [some (.ref 99)]) (st' := [.ref 99, .int (iI (m 99 5))]) rfl ?_
  refine wp_getf (v := .int (iI (m 99 1))) rfl rfl (S.cell 99 (nc rfl)) (by decide) rfl ?_
  have hr2 : rJ (m 99 1) := S.rg 99 1 (nl rfl)
  refine wp_icmpI (a := (m 99 5)) (b := (m 99 1)) rfl rfl hr1.1 hr1.2 hr2.1 hr2.2 (fun c3 => ?_) (fun c3 => ?_)
  · have dc3 := (Int.not_lt.mpr c3)
    have hW := hW.2 dc3
    exact wp_vret rfl rfl ⟨_, _, _, rfl, S, hW⟩
  · have dc3 := (Int.not_le.mp c3)
    have hW := hW.1 dc3
    refine wp_g (n := 2) (pc' := 23) (L' := [some (.ref 99)]) (st' := [.ref 99, .ref 99]) rfl ?_
    refine wp_getf (v := .int (iI (m 99 5))) rfl rfl (S.cell 99 (nc rfl)) (by decide) rfl ?_
    refine wp_cv (As := [.int (iI (m 99 5))]) (rest := []) rfl rfl (S.cell 99 (nc rfl)) (by decide) rfl rfl rfl (Nat.le_of_ble_eq_true rfl) (Nat.le_of_ble_eq_true rfl) (hW _ S) (fun r4 H4 q4 => ?_)
    obtain ⟨v4, m4, γ4, t4, rfl, hv4, S, hW⟩ := q4
    show wp _ _ _ _ _ [.int (iI v4)] _ _
    refine wp_ifI (a := v4) rfl rfl hv4.1 hv4.2 (fun c5 => ?_) (fun c5 => ?_)
    · have dc5 := c5
      have hW := hW.1 dc5
      exact wp_vret rfl rfl ⟨_, _, _, rfl, S, hW⟩
    · have dc5 := c5
      have hW := hW.2 dc5
      refine wp_g (n := 4) (pc' := 39) (L' := [some (.ref 99)]) (st' := [.ref 99, .int (iI 10), .int (iI 1000), .ref 99]) rfl ?_
      refine wp_getf (v := .int (iI (m4 99 7))) rfl rfl (S.cell 99 (nc rfl)) (by decide) rfl ?_
      have hr6 : rJ (m4 99 7) := S.rg 99 7 (nl rfl)
      refine wp_mul (a := 10) (b := (m4 99 7)) rfl ?_
      refine wp_g (n := 2) (pc' := 45) (L' := [some (.ref 99)]) (st' := [.ref 99, .ref 99, .int (iI (10 * (m4 99 7))), .int (iI 1000), .ref 99]) rfl ?_
      refine wp_getf (v := .int (iI (m4 99 5))) rfl rfl (S.cell 99 (nc rfl)) (by decide) rfl ?_
      have hr7 : rJ (m4 99 5) := S.rg 99 5 (nl rfl)
      refine wp_cv (As := [.int (iI (m4 99 5))]) (rest := [.int (iI (10 * (m4 99 7))), .int (iI 1000), .ref 99]) rfl rfl (S.cell 99 (nc rfl)) (by decide) rfl rfl rfl (Nat.le_of_ble_eq_true rfl) (Nat.le_of_ble_eq_true rfl) (hW _ S) (fun r8 H8 q8 => ?_)
      obtain ⟨v8, m8, γ8, t8, rfl, hv8, S, hW⟩ := q8
      show wp _ _ _ _ _ [.int (iI v8), .int (iI (10 * (m4 99 7))), .int (iI 1000), .ref 99] _ _
      refine wp_add (a := (10 * (m4 99 7))) (b := v8) rfl ?_
      refine wp_g (n := 1) (pc' := 54) (L' := [some (.ref 99)]) (st' := [.int (iI 48), .int (iI ((10 * (m4 99 7)) + v8)), .int (iI 1000), .ref 99]) rfl ?_
      refine wp_sub (a := ((10 * (m4 99 7)) + v8)) (b := 48) rfl ?_
      refine wp_cs (As := [.int (iI 1000), .int (iI (((10 * (m4 99 7)) + v8) - 48))]) (rest := [.ref 99]) rfl rfl rfl rfl (Nat.le_of_ble_eq_true rfl) (Nat.le_of_ble_eq_true rfl) (hW _ S) (fun r9 H9 q9 => ?_)
      obtain ⟨v9, m9, γ9, t9, rfl, hv9, S, hW⟩ := q9
      show wp _ _ _ _ _ [.int (iI v9), .ref 99] _ _
      refine wp_putI rfl rfl (S.cell 99 (nc rfl)) (Nat.le_of_ble_eq_true rfl) rfl (fun H10 hl10 hz10 hf10 => ?_)
      have S : ST H10 (up m9 99 (up (m9 99) 7 v9)) γ9 t9 := S.setI 99 (nc rfl) hl10 hz10 hf10 hv9.1 hv9.2
      refine wp_g (n := 2) (pc' := 63) (L' := [some (.ref 99)]) (st' := [.ref 99, .ref 99]) rfl ?_
      refine wp_getf (v := .int (iI (m9 99 5))) rfl rfl (S.cell 99 (nc rfl)) (by decide) rfl ?_
      have hr11 : rJ (m9 99 5) := S.rg 99 5 (nl rfl)
      refine wp_g (n := 1) (pc' := 67) (L' := [some (.ref 99)]) (st' := [.int (iI 1), .int (iI (m9 99 5)), .ref 99]) rfl ?_
      refine wp_add (a := (m9 99 5)) (b := 1) rfl ?_
      obtain ⟨p13, hW⟩ := hW
      refine wp_putI rfl rfl (S.cell 99 (nc rfl)) (Nat.le_of_ble_eq_true rfl) rfl (fun H12 hl12 hz12 hf12 => ?_)
      have S : ST H12 (up (up m9 99 (up (m9 99) 7 v9)) 99 (up (up (m9 99) 7 v9) 5 ((m9 99 5) + 1))) γ9 t9 := S.setI 99 (nc rfl) hl12 hz12 hf12 p13.1 p13.2
      refine wp_g (n := 1) (pc' := 10) (L' := [some (.ref 99)]) (st' := []) rfl ?_
      exact hW _ S
abbrev W_X6_wordNumber (E : am_E) (k : Nat) (m : MM) (γ : GM) (t : am_H) (Q : Int → MM → GM → am_H → Prop) : Prop := (TI E k 88 [.ref 99, .ref 1000000] m γ t (fun v1 m1 γ1 t1 => (((v1 = 0) → (TI E k 88 [.ref 99, .ref 1000002] m1 γ1 t1 (fun v3 m3 γ3 t3 => (((v3 = 0) → (TI E k 88 [.ref 99, .ref 1000004] m3 γ3 t3 (fun v5 m5 γ5 t5 => (((v5 = 0) → (TI E k 88 [.ref 99, .ref 1000006] m5 γ5 t5 (fun v7 m7 γ7 t7 => (((v7 = 0) → (TI E k 88 [.ref 99, .ref 1000008] m7 γ7 t7 (fun v9 m9 γ9 t9 => (((v9 = 0) → (TI E k 88 [.ref 99, .ref 1000010] m9 γ9 t9 (fun v11 m11 γ11 t11 => (((v11 = 0) → (Q (-1) m11 γ11 t11)) ∧ (¬ (v11 = 0) → (Q 5 m11 γ11 t11)))))) ∧ (¬ (v9 = 0) → (Q 4 m9 γ9 t9)))))) ∧ (¬ (v7 = 0) → (Q 3 m7 γ7 t7)))))) ∧ (¬ (v5 = 0) → (Q 2 m5 γ5 t5)))))) ∧ (¬ (v3 = 0) → (Q 1 m3 γ3 t3)))))) ∧ (¬ (v1 = 0) → (Q 0 m1 γ1 t1)))))
theorem vc_X6_wordNumber {E : am_E} {k : Nat} {m : MM} {γ : GM} {t : am_H} {Q : Int → MM → GM → am_H → Prop} (hW : W_X6_wordNumber E k  m γ t Q) : TI E (k + 1) 87 [.ref 99] m γ t Q := by
  unfold W_X6_wordNumber at hW
  intro h S
  refine wp_g (n := 2) (pc' := 3) (L' := [some (.ref 99)]) (st' := [.ref 1000000, .ref 99]) rfl ?_
  refine wp_cv (As := [.ref 1000000]) (rest := []) rfl rfl (S.cell 99 (nc rfl)) (by decide) rfl rfl rfl (Nat.le_of_ble_eq_true rfl) (Nat.le_of_ble_eq_true rfl) (hW _ S) (fun r1 H1 q1 => ?_)
  obtain ⟨v1, m1, γ1, t1, rfl, hv1, S, hW⟩ := q1
  show wp _ _ _ _ _ [.int (iI v1)] _ _
  refine wp_ifI (a := v1) rfl rfl hv1.1 hv1.2 (fun c2 => ?_) (fun c2 => ?_)
  · have dc2 := c2
    have hW := hW.1 dc2
    refine wp_g (n := 2) (pc' := 14) (L' := [some (.ref 99)]) (st' := [.ref 1000002, .ref 99]) rfl ?_
    refine wp_cv (As := [.ref 1000002]) (rest := []) rfl rfl (S.cell 99 (nc rfl)) (by decide) rfl rfl rfl (Nat.le_of_ble_eq_true rfl) (Nat.le_of_ble_eq_true rfl) (hW _ S) (fun r3 H3 q3 => ?_)
    obtain ⟨v3, m3, γ3, t3, rfl, hv3, S, hW⟩ := q3
    show wp _ _ _ _ _ [.int (iI v3)] _ _
    refine wp_ifI (a := v3) rfl rfl hv3.1 hv3.2 (fun c4 => ?_) (fun c4 => ?_)
    · have dc4 := c4
      have hW := hW.1 dc4
      refine wp_g (n := 2) (pc' := 25) (L' := [some (.ref 99)]) (st' := [.ref 1000004, .ref 99]) rfl ?_
      refine wp_cv (As := [.ref 1000004]) (rest := []) rfl rfl (S.cell 99 (nc rfl)) (by decide) rfl rfl rfl (Nat.le_of_ble_eq_true rfl) (Nat.le_of_ble_eq_true rfl) (hW _ S) (fun r5 H5 q5 => ?_)
      obtain ⟨v5, m5, γ5, t5, rfl, hv5, S, hW⟩ := q5
      show wp _ _ _ _ _ [.int (iI v5)] _ _
      refine wp_ifI (a := v5) rfl rfl hv5.1 hv5.2 (fun c6 => ?_) (fun c6 => ?_)
      · have dc6 := c6
        have hW := hW.1 dc6
        refine wp_g (n := 2) (pc' := 36) (L' := [some (.ref 99)]) (st' := [.ref 1000006, .ref 99]) rfl ?_
        refine wp_cv (As := [.ref 1000006]) (rest := []) rfl rfl (S.cell 99 (nc rfl)) (by decide) rfl rfl rfl (Nat.le_of_ble_eq_true rfl) (Nat.le_of_ble_eq_true rfl) (hW _ S) (fun r7 H7 q7 => ?_)
        obtain ⟨v7, m7, γ7, t7, rfl, hv7, S, hW⟩ := q7
        show wp _ _ _ _ _ [.int (iI v7)] _ _
        refine wp_ifI (a := v7) rfl rfl hv7.1 hv7.2 (fun c8 => ?_) (fun c8 => ?_)
        · have dc8 := c8
          have hW := hW.1 dc8
          refine wp_g (n := 2) (pc' := 47) (L' := [some (.ref 99)]) (st' := [.ref 1000008, .ref 99]) rfl ?_
          refine wp_cv (As := [.ref 1000008]) (rest := []) rfl rfl (S.cell 99 (nc rfl)) (by decide) rfl rfl rfl (Nat.le_of_ble_eq_true rfl) (Nat.le_of_ble_eq_true rfl) (hW _ S) (fun r9 H9 q9 => ?_)
          obtain ⟨v9, m9, γ9, t9, rfl, hv9, S, hW⟩ := q9
          show wp _ _ _ _ _ [.int (iI v9)] _ _
          refine wp_ifI (a := v9) rfl rfl hv9.1 hv9.2 (fun c10 => ?_) (fun c10 => ?_)
          · have dc10 := c10
            have hW := hW.1 dc10
            refine wp_g (n := 2) (pc' := 58) (L' := [some (.ref 99)]) (st' := [.ref 1000010, .ref 99]) rfl ?_
            refine wp_cv (As := [.ref 1000010]) (rest := []) rfl rfl (S.cell 99 (nc rfl)) (by decide) rfl rfl rfl (Nat.le_of_ble_eq_true rfl) (Nat.le_of_ble_eq_true rfl) (hW _ S) (fun r11 H11 q11 => ?_)
            obtain ⟨v11, m11, γ11, t11, rfl, hv11, S, hW⟩ := q11
            show wp _ _ _ _ _ [.int (iI v11)] _ _
            refine wp_ifI (a := v11) rfl rfl hv11.1 hv11.2 (fun c12 => ?_) (fun c12 => ?_)
            · have dc12 := c12
              have hW := hW.1 dc12
              refine wp_g (n := 1) (pc' := 69) (L' := [some (.ref 99)]) (st' := [.int (iI (-1))]) rfl ?_
              exact wp_iret rfl rfl ⟨_, _, _, _, rfl, (by decide), S, hW⟩
            · have dc12 := c12
              have hW := hW.2 dc12
              refine wp_g (n := 2) (pc' := 69) (L' := [some (.ref 99)]) (st' := [.int (iI 5)]) rfl ?_
              exact wp_iret rfl rfl ⟨_, _, _, _, rfl, (by decide), S, hW⟩
          · have dc10 := c10
            have hW := hW.2 dc10
            refine wp_g (n := 1) (pc' := 54) (L' := [some (.ref 99)]) (st' := [.int (iI 4)]) rfl ?_
            exact wp_iret rfl rfl ⟨_, _, _, _, rfl, (by decide), S, hW⟩
        · have dc8 := c8
          have hW := hW.2 dc8
          refine wp_g (n := 1) (pc' := 43) (L' := [some (.ref 99)]) (st' := [.int (iI 3)]) rfl ?_
          exact wp_iret rfl rfl ⟨_, _, _, _, rfl, (by decide), S, hW⟩
      · have dc6 := c6
        have hW := hW.2 dc6
        refine wp_g (n := 1) (pc' := 32) (L' := [some (.ref 99)]) (st' := [.int (iI 2)]) rfl ?_
        exact wp_iret rfl rfl ⟨_, _, _, _, rfl, (by decide), S, hW⟩
    · have dc4 := c4
      have hW := hW.2 dc4
      refine wp_g (n := 1) (pc' := 21) (L' := [some (.ref 99)]) (st' := [.int (iI 1)]) rfl ?_
      exact wp_iret rfl rfl ⟨_, _, _, _, rfl, (by decide), S, hW⟩
  · have dc2 := c2
    have hW := hW.2 dc2
    refine wp_g (n := 1) (pc' := 10) (L' := [some (.ref 99)]) (st' := [.int (iI 0)]) rfl ?_
    exact wp_iret rfl rfl ⟨_, _, _, _, rfl, (by decide), S, hW⟩
def hd_X6_spells_20 (E : am_E) (k : Nat) (w1 : Nat) (y2 : Int) (m : MM) (γ : GM) (t : am_H) (Q : Int → MM → GM → am_H → Prop) : Prop := TT (pI Q) E (k + 1) 88 20 [some (.ref 99), some (.ref w1), some (.int (iI y2))] [] m γ t
abbrev W_X6_spells (E : am_E) (k : Nat) (w1 : Nat) (m : MM) (γ : GM) (t : am_H) (Q : Int → MM → GM → am_H → Prop) : Prop := (TI E k 313 [.ref w1] m γ t (fun v3 m3 γ3 t3 => (rJ ((m 99 5) - (m 99 4)) ∧ (((((m 99 5) - (m 99 4)) = v3) → (hd_X6_spells_20 E k w1 0 m3 γ3 t3 Q)) ∧ (¬ (((m 99 5) - (m 99 4)) = v3) → (Q 0 m3 γ3 t3))))))
abbrev W_X6_spells_20 (E : am_E) (k : Nat) (w1 : Nat) (y2 : Int) (m : MM) (γ : GM) (t : am_H) (Q : Int → MM → GM → am_H → Prop) : Prop := (TI E k 313 [.ref w1] m γ t (fun v1 m1 γ1 t1 => (((y2 < v1) → (TI E k 81 [.ref 99, .int (iI ((m1 99 4) + y2))] m1 γ1 t1 (fun v4 m4 γ4 t4 => (TI E k 314 [.ref w1, .int (iI y2)] m4 γ4 t4 (fun v5 m5 γ5 t5 => (((v4 = v5) → (hd_X6_spells_20 E k w1 (y2 + 1) m5 γ5 t5 Q)) ∧ (¬ (v4 = v5) → (Q 0 m5 γ5 t5)))))))) ∧ (¬ (y2 < v1) → (Q 1 m1 γ1 t1)))))
theorem vc_X6_spells {E : am_E} {k : Nat} {w1 : Nat} {m : MM} {γ : GM} {t : am_H} {Q : Int → MM → GM → am_H → Prop} (hw1 : isS w1) (hW : W_X6_spells E k w1 m γ t Q) : TI E (k + 1) 88 [.ref 99, .ref w1] m γ t Q := by
  unfold W_X6_spells at hW
  intro h S
  refine wp_g (n := 1) (pc' := 1) (L' := [some (.ref 99), some (.ref w1), none]) (st' := [.ref 99]) rfl ?_
  refine wp_getf (v := .int (iI (m 99 5))) rfl rfl (S.cell 99 (nc rfl)) (by decide) rfl ?_
  have hr1 : rJ (m 99 5) := S.rg 99 5 (nl rfl)
  refine wp_g (n := 1) (pc' := 5) (L' := [some (.ref 99), some (.ref w1), none]) (st' := [.ref 99, .int (iI (m 99 5))]) rfl ?_
  refine wp_getf (v := .int (iI (m 99 4))) rfl rfl (S.cell 99 (nc rfl)) (by decide) rfl ?_
  have hr2 : rJ (m 99 4) := S.rg 99 4 (nl rfl)
  refine wp_sub (a := (m 99 5)) (b := (m 99 4)) rfl ?_
  refine wp_g (n := 1) (pc' := 10) (L' := [some (.ref 99), some (.ref w1), none]) (st' := [.ref w1, .int (iI ((m 99 5) - (m 99 4)))]) rfl ?_
  refine wp_cvS (As := []) (rest := [.int (iI ((m 99 5) - (m 99 4)))]) rfl rfl hw1 rfl rfl rfl (Nat.le_of_ble_eq_true rfl) (Nat.le_of_ble_eq_true rfl) (hW _ S) (fun r3 H3 q3 => ?_)
  obtain ⟨v3, m3, γ3, t3, rfl, hv3, S, hW⟩ := q3
  show wp _ _ _ _ _ [.int (iI v3), .int (iI ((m 99 5) - (m 99 4)))] _ _
  obtain ⟨p4, hW⟩ := hW
  refine wp_icmpI (a := ((m 99 5) - (m 99 4))) (b := v3) rfl rfl p4.1 p4.2 hv3.1 hv3.2 (fun c5 => ?_) (fun c5 => ?_)
  · have dc5 := c5
    have hW := hW.1 dc5
    refine wp_g (n := 2) (pc' := 20) (L' := [some (.ref 99), some (.ref w1), some (.int (iI 0))]) (st' := []) rfl ?_
    exact hW _ S
  · have dc5 := c5
    have hW := hW.2 dc5
    refine wp_g (n := 1) (pc' := 17) (L' := [some (.ref 99), some (.ref w1), none]) (st' := [.int (iI 0)]) rfl ?_
    exact wp_zret rfl rfl (by decide) ⟨_, _, _, _, rfl, (by decide), S, hW⟩
theorem vc_X6_spells_20 {E : am_E} {k : Nat} {w1 : Nat} {y2 : Int} {m : MM} {γ : GM} {t : am_H} {Q : Int → MM → GM → am_H → Prop} (hw1 : isS w1) (hy2 : rJ y2) (hW : W_X6_spells_20 E k w1 y2 m γ t Q) : hd_X6_spells_20 E k w1 y2 m γ t Q := by
  unfold W_X6_spells_20 at hW
  intro h S
  refine wp_g (n := 2) (pc' := 22) (L' := [some (.ref 99), some (.ref w1), some (.int (iI y2))]) (st' := [.ref w1, .int (iI y2)]) rfl ?_
  refine wp_cvS (As := []) (rest := [.int (iI y2)]) rfl rfl hw1 rfl rfl rfl (Nat.le_of_ble_eq_true rfl) (Nat.le_of_ble_eq_true rfl) (hW _ S) (fun r1 H1 q1 => ?_)
  obtain ⟨v1, m1, γ1, t1, rfl, hv1, S, hW⟩ := q1
  show wp _ _ _ _ _ [.int (iI v1), .int (iI y2)] _ _
  refine wp_icmpI (a := y2) (b := v1) rfl rfl hy2.1 hy2.2 hv1.1 hv1.2 (fun c2 => ?_) (fun c2 => ?_)
  · have dc2 := (Int.not_lt.mpr c2)
    have hW := hW.2 dc2
    refine wp_g (n := 1) (pc' := 55) (L' := [some (.ref 99), some (.ref w1), some (.int (iI y2))]) (st' := [.int (iI 1)]) rfl ?_
    exact wp_zret rfl rfl (by decide) ⟨_, _, _, _, rfl, (by decide), S, hW⟩
  · have dc2 := (Int.not_le.mp c2)
    have hW := hW.1 dc2
    refine wp_g (n := 2) (pc' := 30) (L' := [some (.ref 99), some (.ref w1), some (.int (iI y2))]) (st' := [.ref 99, .ref 99]) rfl ?_
    refine wp_getf (v := .int (iI (m1 99 4))) rfl rfl (S.cell 99 (nc rfl)) (by decide) rfl ?_
    have hr3 : rJ (m1 99 4) := S.rg 99 4 (nl rfl)
    refine wp_g (n := 1) (pc' := 34) (L' := [some (.ref 99), some (.ref w1), some (.int (iI y2))]) (st' := [.int (iI y2), .int (iI (m1 99 4)), .ref 99]) rfl ?_
    refine wp_add (a := (m1 99 4)) (b := y2) rfl ?_
    refine wp_cv (As := [.int (iI ((m1 99 4) + y2))]) (rest := []) rfl rfl (S.cell 99 (nc rfl)) (by decide) rfl rfl rfl (Nat.le_of_ble_eq_true rfl) (Nat.le_of_ble_eq_true rfl) (hW _ S) (fun r4 H4 q4 => ?_)
    obtain ⟨v4, m4, γ4, t4, rfl, hv4, S, hW⟩ := q4
    show wp _ _ _ _ _ [.int (iI v4)] _ _
    refine wp_g (n := 2) (pc' := 40) (L' := [some (.ref 99), some (.ref w1), some (.int (iI y2))]) (st' := [.int (iI y2), .ref w1, .int (iI v4)]) rfl ?_
    refine wp_cvS (As := [.int (iI y2)]) (rest := [.int (iI v4)]) rfl rfl hw1 rfl rfl rfl (Nat.le_of_ble_eq_true rfl) (Nat.le_of_ble_eq_true rfl) (hW _ S) (fun r5 H5 q5 => ?_)
    obtain ⟨v5, m5, γ5, t5, rfl, hv5, S, hW⟩ := q5
    show wp _ _ _ _ _ [.int (iI v5), .int (iI v4)] _ _
    refine wp_icmpI (a := v4) (b := v5) rfl rfl hv4.1 hv4.2 hv5.1 hv5.2 (fun c6 => ?_) (fun c6 => ?_)
    · have dc6 := c6
      have hW := hW.1 dc6
      refine wp_iinc (L' := [some (.ref 99), some (.ref w1), some (.int (iI (y2 + 1)))]) (a := y2) rfl rfl rfl ?_
      refine wp_g (n := 1) (pc' := 20) (L' := [some (.ref 99), some (.ref w1), some (.int (iI (y2 + 1)))]) (st' := []) rfl ?_
      exact hW _ S
    · have dc6 := c6
      have hW := hW.2 dc6
      refine wp_g (n := 1) (pc' := 47) (L' := [some (.ref 99), some (.ref w1), some (.int (iI y2))]) (st' := [.int (iI 0)]) rfl ?_
      exact wp_zret rfl rfl (by decide) ⟨_, _, _, _, rfl, (by decide), S, hW⟩
abbrev W_X6_take (E : am_E) (k : Nat) (g1 : Nat) (m : MM) (γ : GM) (t : am_H) (Q : Int → MM → GM → am_H → Prop) : Prop := (((m 99 8) = 0 → ((((m 99 6) = 1) → ((((m 99 7) = 0) → (TI E k 91 [.ref 99, .int (iI 1), .int (iI 1)] m γ t (fun v9 m9 γ9 t9 => (Q v9 m9 γ9 t9)))) ∧ (¬ ((m 99 7) = 0) → (TI E k 91 [.ref 99, .int (iI 0), .int (iI 1)] m γ t (fun v8 m8 γ8 t8 => (Q v8 m8 γ8 t8)))))) ∧ (¬ ((m 99 6) = 1) → (TI E k 91 [.ref 99, .int (iI 0), .int (iI 1)] m γ t (fun v5 m5 γ5 t5 => (Q v5 m5 γ5 t5)))))) ∧ (¬ (m 99 8) = 0 → (((m 99 8) = 1 → (TI E k 92 [.ref 99, .int (iI 1), .int (iI 4), .int (iI 2)] (up m 99 (up (m 99) 9 (m 99 7))) γ t (fun v13 m13 γ13 t13 => (Q v13 m13 γ13 t13)))) ∧ (¬ (m 99 8) = 1 → (((m 99 8) = 2 → (TV E k 23 [.ref g1, .int (iI (m 99 9)), .int (iI (m 99 7))] m γ t (fun m17 γ17 t17 => (TI E k 92 [.ref 99, .int (iI 1), .int (iI 4), .int (iI 3)] m17 γ17 t17 (fun v18 m18 γ18 t18 => (Q v18 m18 γ18 t18)))))) ∧ (¬ (m 99 8) = 2 → (((m 99 8) = 3 → (TI E k 90 [.ref 99, .int (iI 59)] m γ t (fun v20 m20 γ20 t20 => (TI E k 91 [.ref 99, .int (iI v20), .int (iI 4)] m20 γ20 t20 (fun v21 m21 γ21 t21 => (Q v21 m21 γ21 t21)))))) ∧ (¬ (m 99 8) = 3 → (((m 99 8) = 4 → ((((m 99 6) = 1) → ((((m 99 7) < 1) → (TI E k 91 [.ref 99, .int (iI 0), .int (iI 5)] (up m 99 (up (m 99) 10 (m 99 7))) γ t (fun v29 m29 γ29 t29 => (Q v29 m29 γ29 t29)))) ∧ (¬ ((m 99 7) < 1) → ((((m 99 7) ≤ 3) → (TI E k 91 [.ref 99, .int (iI 1), .int (iI 5)] (up m 99 (up (m 99) 10 (m 99 7))) γ t (fun v32 m32 γ32 t32 => (Q v32 m32 γ32 t32)))) ∧ (¬ ((m 99 7) ≤ 3) → (TI E k 91 [.ref 99, .int (iI 0), .int (iI 5)] (up m 99 (up (m 99) 10 (m 99 7))) γ t (fun v31 m31 γ31 t31 => (Q v31 m31 γ31 t31)))))))) ∧ (¬ ((m 99 6) = 1) → (TI E k 91 [.ref 99, .int (iI 0), .int (iI 5)] (up m 99 (up (m 99) 10 (m 99 7))) γ t (fun v27 m27 γ27 t27 => (Q v27 m27 γ27 t27)))))) ∧ (¬ (m 99 8) = 4 → (((m 99 8) = 5 → (TI E k 27 [.ref g1] (up m 99 (up (m 99) 11 (m 99 7))) γ t (fun v36 m36 γ36 t36 => (TI E k 92 [.ref 99, .int (iI 0), .int (iI (v36 - 1)), .int (iI 6)] m36 γ36 t36 (fun v37 m37 γ37 t37 => (Q v37 m37 γ37 t37)))))) ∧ (¬ (m 99 8) = 5 → (((m 99 8) = 6 → (TI E k 93 [.ref 99, .ref g1] m γ t (fun v39 m39 γ39 t39 => (Q v39 m39 γ39 t39)))) ∧ (¬ (m 99 8) = 6 → (TI E k 90 [.ref 99, .int (iI 59)] m γ t (fun v40 m40 γ40 t40 => (((v40 = 0) → (TI E k 90 [.ref 99, .int (iI 44)] m40 γ40 t40 (fun v46 m46 γ46 t46 => (((v46 = 0) → (TI E k 90 [.ref 99, .int (iI 59)] m46 γ46 t46 (fun v48 m48 γ48 t48 => (((v48 = 0) → (TI E k 91 [.ref 99, .int (iI 0), .int (iI 5)] m48 γ48 t48 (fun v50 m50 γ50 t50 => (Q v50 m50 γ50 t50)))) ∧ (¬ (v48 = 0) → (TI E k 91 [.ref 99, .int (iI 0), .int (iI 4)] m48 γ48 t48 (fun v51 m51 γ51 t51 => (Q v51 m51 γ51 t51)))))))) ∧ (¬ (v46 = 0) → (TI E k 90 [.ref 99, .int (iI 59)] m46 γ46 t46 (fun v52 m52 γ52 t52 => (((v52 = 0) → (TI E k 91 [.ref 99, .int (iI 1), .int (iI 5)] m52 γ52 t52 (fun v54 m54 γ54 t54 => (Q v54 m54 γ54 t54)))) ∧ (¬ (v52 = 0) → (TI E k 91 [.ref 99, .int (iI 1), .int (iI 4)] m52 γ52 t52 (fun v55 m55 γ55 t55 => (Q v55 m55 γ55 t55)))))))))))) ∧ (¬ (v40 = 0) → (TI E k 90 [.ref 99, .int (iI 59)] m40 γ40 t40 (fun v42 m42 γ42 t42 => (((v42 = 0) → (TI E k 91 [.ref 99, .int (iI 1), .int (iI 5)] m42 γ42 t42 (fun v44 m44 γ44 t44 => (Q v44 m44 γ44 t44)))) ∧ (¬ (v42 = 0) → (TI E k 91 [.ref 99, .int (iI 1), .int (iI 4)] m42 γ42 t42 (fun v45 m45 γ45 t45 => (Q v45 m45 γ45 t45)))))))))))))))))))))))))
theorem vc_X6_take {E : am_E} {k : Nat} {g1 : Nat} {m : MM} {γ : GM} {t : am_H} {Q : Int → MM → GM → am_H → Prop} (hg1 : isg g1) (hW : W_X6_take E k g1 m γ t Q) : TI E (k + 1) 89 [.ref 99, .ref g1] m γ t Q := by
  unfold W_X6_take at hW
  intro h S
  refine wp_g (n := 1) (pc' := 1) (L' := [some (.ref 99), some (.ref g1)]) (st' := [.ref 99]) rfl ?_
  refine wp_getf (v := .int (iI (m 99 8))) rfl rfl (S.cell 99 (nc rfl)) (by decide) rfl ?_
  have hr1 : rJ (m 99 8) := S.rg 99 8 (nl rfl)
  by_cases c2 : (m 99 8) = 0
  · have hW := hW.1 c2
    refine wp_tswI rfl (by rw [c2]; decide) (by rw [c2]; decide) 0 (by rw [c2]; decide) rfl rfl ?_
    refine wp_g (n := 2) (pc' := 50) (L' := [some (.ref 99), some (.ref g1)]) (st' := [.ref 99, .ref 99]) rfl ?_
    refine wp_getf (v := .int (iI (m 99 6))) rfl rfl (S.cell 99 (nc rfl)) (by decide) rfl ?_
    have hr3 : rJ (m 99 6) := S.rg 99 6 (nl rfl)
    refine wp_g (n := 1) (pc' := 54) (L' := [some (.ref 99), some (.ref g1)]) (st' := [.int (iI 1), .int (iI (m 99 6)), .ref 99]) rfl ?_
    refine wp_icmpI (a := (m 99 6)) (b := 1) rfl rfl hr3.1 hr3.2 (by decide) (by decide) (fun c4 => ?_) (fun c4 => ?_)
    · have dc4 := c4
      have hW := hW.2 dc4
      refine wp_g (n := 2) (pc' := 70) (L' := [some (.ref 99), some (.ref g1)]) (st' := [.int (iI 1), .int (iI 0), .ref 99]) rfl ?_
      refine wp_cv (As := [.int (iI 0), .int (iI 1)]) (rest := []) rfl rfl (S.cell 99 (nc rfl)) (by decide) rfl rfl rfl (Nat.le_of_ble_eq_true rfl) (Nat.le_of_ble_eq_true rfl) (hW _ S) (fun r5 H5 q5 => ?_)
      obtain ⟨v5, m5, γ5, t5, rfl, hv5, S, hW⟩ := q5
      show wp _ _ _ _ _ [.int (iI v5)] _ _
      exact wp_iret rfl rfl ⟨_, _, _, _, rfl, hv5, S, hW⟩
    · have dc4 := (Classical.not_not.mp c4)
      have hW := hW.1 dc4
      refine wp_g (n := 1) (pc' := 58) (L' := [some (.ref 99), some (.ref g1)]) (st' := [.ref 99, .ref 99]) rfl ?_
      refine wp_getf (v := .int (iI (m 99 7))) rfl rfl (S.cell 99 (nc rfl)) (by decide) rfl ?_
      have hr6 : rJ (m 99 7) := S.rg 99 7 (nl rfl)
      refine wp_ifI (a := (m 99 7)) rfl rfl hr6.1 hr6.2 (fun c7 => ?_) (fun c7 => ?_)
      · have dc7 := c7
        have hW := hW.2 dc7
        refine wp_g (n := 2) (pc' := 70) (L' := [some (.ref 99), some (.ref g1)]) (st' := [.int (iI 1), .int (iI 0), .ref 99]) rfl ?_
        refine wp_cv (As := [.int (iI 0), .int (iI 1)]) (rest := []) rfl rfl (S.cell 99 (nc rfl)) (by decide) rfl rfl rfl (Nat.le_of_ble_eq_true rfl) (Nat.le_of_ble_eq_true rfl) (hW _ S) (fun r8 H8 q8 => ?_)
        obtain ⟨v8, m8, γ8, t8, rfl, hv8, S, hW⟩ := q8
        show wp _ _ _ _ _ [.int (iI v8)] _ _
        exact wp_iret rfl rfl ⟨_, _, _, _, rfl, hv8, S, hW⟩
      · have dc7 := (Classical.not_not.mp c7)
        have hW := hW.1 dc7
        refine wp_g (n := 3) (pc' := 70) (L' := [some (.ref 99), some (.ref g1)]) (st' := [.int (iI 1), .int (iI 1), .ref 99]) rfl ?_
        refine wp_cv (As := [.int (iI 1), .int (iI 1)]) (rest := []) rfl rfl (S.cell 99 (nc rfl)) (by decide) rfl rfl rfl (Nat.le_of_ble_eq_true rfl) (Nat.le_of_ble_eq_true rfl) (hW _ S) (fun r9 H9 q9 => ?_)
        obtain ⟨v9, m9, γ9, t9, rfl, hv9, S, hW⟩ := q9
        show wp _ _ _ _ _ [.int (iI v9)] _ _
        exact wp_iret rfl rfl ⟨_, _, _, _, rfl, hv9, S, hW⟩
  have hW := hW.2 c2
  by_cases c10 : (m 99 8) = 1
  · have hW := hW.1 c10
    refine wp_tswI rfl (by rw [c10]; decide) (by rw [c10]; decide) 1 (by rw [c10]; decide) rfl rfl ?_
    refine wp_g (n := 2) (pc' := 76) (L' := [some (.ref 99), some (.ref g1)]) (st' := [.ref 99, .ref 99]) rfl ?_
    refine wp_getf (v := .int (iI (m 99 7))) rfl rfl (S.cell 99 (nc rfl)) (by decide) rfl ?_
    have hr11 : rJ (m 99 7) := S.rg 99 7 (nl rfl)
    refine wp_putI rfl rfl (S.cell 99 (nc rfl)) (Nat.le_of_ble_eq_true rfl) rfl (fun H12 hl12 hz12 hf12 => ?_)
    have S : ST H12 (up m 99 (up (m 99) 9 (m 99 7))) γ t := S.setI 99 (nc rfl) hl12 hz12 hf12 hr11.1 hr11.2
    refine wp_g (n := 4) (pc' := 86) (L' := [some (.ref 99), some (.ref g1)]) (st' := [.int (iI 2), .int (iI 4), .int (iI 1), .ref 99]) rfl ?_
    refine wp_cv (As := [.int (iI 1), .int (iI 4), .int (iI 2)]) (rest := []) rfl rfl (S.cell 99 (nc rfl)) (by decide) rfl rfl rfl (Nat.le_of_ble_eq_true rfl) (Nat.le_of_ble_eq_true rfl) (hW _ S) (fun r13 H13 q13 => ?_)
    obtain ⟨v13, m13, γ13, t13, rfl, hv13, S, hW⟩ := q13
    show wp _ _ _ _ _ [.int (iI v13)] _ _
    exact wp_iret rfl rfl ⟨_, _, _, _, rfl, hv13, S, hW⟩
  have hW := hW.2 c10
  by_cases c14 : (m 99 8) = 2
  · have hW := hW.1 c14
    refine wp_tswI rfl (by rw [c14]; decide) (by rw [c14]; decide) 2 (by rw [c14]; decide) rfl rfl ?_
    refine wp_g (n := 2) (pc' := 92) (L' := [some (.ref 99), some (.ref g1)]) (st' := [.ref 99, .ref g1]) rfl ?_
    refine wp_getf (v := .int (iI (m 99 9))) rfl rfl (S.cell 99 (nc rfl)) (by decide) rfl ?_
    have hr15 : rJ (m 99 9) := S.rg 99 9 (nl rfl)
    refine wp_g (n := 1) (pc' := 96) (L' := [some (.ref 99), some (.ref g1)]) (st' := [.ref 99, .int (iI (m 99 9)), .ref g1]) rfl ?_
    refine wp_getf (v := .int (iI (m 99 7))) rfl rfl (S.cell 99 (nc rfl)) (by decide) rfl ?_
    have hr16 : rJ (m 99 7) := S.rg 99 7 (nl rfl)
    refine wp_cv (As := [.int (iI (m 99 9)), .int (iI (m 99 7))]) (rest := []) rfl rfl (S.gg g1 hg1).obj (isg_lt hg1) rfl rfl rfl (Nat.le_of_ble_eq_true rfl) (Nat.le_of_ble_eq_true rfl) (hW _ S) (fun r17 H17 q17 => ?_)
    obtain ⟨m17, γ17, t17, rfl, S, hW⟩ := q17
    show wp _ _ _ _ _ [] _ _
    refine wp_g (n := 4) (pc' := 106) (L' := [some (.ref 99), some (.ref g1)]) (st' := [.int (iI 3), .int (iI 4), .int (iI 1), .ref 99]) rfl ?_
    refine wp_cv (As := [.int (iI 1), .int (iI 4), .int (iI 3)]) (rest := []) rfl rfl (S.cell 99 (nc rfl)) (by decide) rfl rfl rfl (Nat.le_of_ble_eq_true rfl) (Nat.le_of_ble_eq_true rfl) (hW _ S) (fun r18 H18 q18 => ?_)
    obtain ⟨v18, m18, γ18, t18, rfl, hv18, S, hW⟩ := q18
    show wp _ _ _ _ _ [.int (iI v18)] _ _
    exact wp_iret rfl rfl ⟨_, _, _, _, rfl, hv18, S, hW⟩
  have hW := hW.2 c14
  by_cases c19 : (m 99 8) = 3
  · have hW := hW.1 c19
    refine wp_tswI rfl (by rw [c19]; decide) (by rw [c19]; decide) 3 (by rw [c19]; decide) rfl rfl ?_
    refine wp_g (n := 3) (pc' := 114) (L' := [some (.ref 99), some (.ref g1)]) (st' := [.int (iI 59), .ref 99, .ref 99]) rfl ?_
    refine wp_cv (As := [.int (iI 59)]) (rest := [.ref 99]) rfl rfl (S.cell 99 (nc rfl)) (by decide) rfl rfl rfl (Nat.le_of_ble_eq_true rfl) (Nat.le_of_ble_eq_true rfl) (hW _ S) (fun r20 H20 q20 => ?_)
    obtain ⟨v20, m20, γ20, t20, rfl, hv20, S, hW⟩ := q20
    show wp _ _ _ _ _ [.int (iI v20), .ref 99] _ _
    refine wp_g (n := 1) (pc' := 118) (L' := [some (.ref 99), some (.ref g1)]) (st' := [.int (iI 4), .int (iI v20), .ref 99]) rfl ?_
    refine wp_cv (As := [.int (iI v20), .int (iI 4)]) (rest := []) rfl rfl (S.cell 99 (nc rfl)) (by decide) rfl rfl rfl (Nat.le_of_ble_eq_true rfl) (Nat.le_of_ble_eq_true rfl) (hW _ S) (fun r21 H21 q21 => ?_)
    obtain ⟨v21, m21, γ21, t21, rfl, hv21, S, hW⟩ := q21
    show wp _ _ _ _ _ [.int (iI v21)] _ _
    exact wp_iret rfl rfl ⟨_, _, _, _, rfl, hv21, S, hW⟩
  have hW := hW.2 c19
  by_cases c22 : (m 99 8) = 4
  · have hW := hW.1 c22
    refine wp_tswI rfl (by rw [c22]; decide) (by rw [c22]; decide) 4 (by rw [c22]; decide) rfl rfl ?_
    refine wp_g (n := 2) (pc' := 124) (L' := [some (.ref 99), some (.ref g1)]) (st' := [.ref 99, .ref 99]) rfl ?_
    refine wp_getf (v := .int (iI (m 99 7))) rfl rfl (S.cell 99 (nc rfl)) (by decide) rfl ?_
    have hr23 : rJ (m 99 7) := S.rg 99 7 (nl rfl)
    refine wp_putI rfl rfl (S.cell 99 (nc rfl)) (Nat.le_of_ble_eq_true rfl) rfl (fun H24 hl24 hz24 hf24 => ?_)
    have S : ST H24 (up m 99 (up (m 99) 10 (m 99 7))) γ t := S.setI 99 (nc rfl) hl24 hz24 hf24 hr23.1 hr23.2
    refine wp_g (n := 2) (pc' := 132) (L' := [some (.ref 99), some (.ref g1)]) (st' := [.ref 99, .ref 99]) rfl ?_
    refine wp_getf (v := .int (iI (m 99 6))) rfl rfl (S.cell 99 (nc rfl)) (by decide) rfl ?_
    have hr25 : rJ (m 99 6) := S.rg 99 6 (nl rfl)
    refine wp_g (n := 1) (pc' := 136) (L' := [some (.ref 99), some (.ref g1)]) (st' := [.int (iI 1), .int (iI (m 99 6)), .ref 99]) rfl ?_
    refine wp_icmpI (a := (m 99 6)) (b := 1) rfl rfl hr25.1 hr25.2 (by decide) (by decide) (fun c26 => ?_) (fun c26 => ?_)
    · have dc26 := c26
      have hW := hW.2 dc26
      refine wp_g (n := 2) (pc' := 161) (L' := [some (.ref 99), some (.ref g1)]) (st' := [.int (iI 5), .int (iI 0), .ref 99]) rfl ?_
      refine wp_cv (As := [.int (iI 0), .int (iI 5)]) (rest := []) rfl rfl (S.cell 99 (nc rfl)) (by decide) rfl rfl rfl (Nat.le_of_ble_eq_true rfl) (Nat.le_of_ble_eq_true rfl) (hW _ S) (fun r27 H27 q27 => ?_)
      obtain ⟨v27, m27, γ27, t27, rfl, hv27, S, hW⟩ := q27
      show wp _ _ _ _ _ [.int (iI v27)] _ _
      exact wp_iret rfl rfl ⟨_, _, _, _, rfl, hv27, S, hW⟩
    · have dc26 := (Classical.not_not.mp c26)
      have hW := hW.1 dc26
      refine wp_g (n := 1) (pc' := 140) (L' := [some (.ref 99), some (.ref g1)]) (st' := [.ref 99, .ref 99]) rfl ?_
      refine wp_getf (v := .int (iI (m 99 7))) rfl rfl (S.cell 99 (nc rfl)) (by decide) rfl ?_
      refine wp_g (n := 1) (pc' := 144) (L' := [some (.ref 99), some (.ref g1)]) (st' := [.int (iI 1), .int (iI (m 99 7)), .ref 99]) rfl ?_
      refine wp_icmpI (a := (m 99 7)) (b := 1) rfl rfl hr23.1 hr23.2 (by decide) (by decide) (fun c28 => ?_) (fun c28 => ?_)
      · have dc28 := c28
        have hW := hW.1 dc28
        refine wp_g (n := 2) (pc' := 161) (L' := [some (.ref 99), some (.ref g1)]) (st' := [.int (iI 5), .int (iI 0), .ref 99]) rfl ?_
        refine wp_cv (As := [.int (iI 0), .int (iI 5)]) (rest := []) rfl rfl (S.cell 99 (nc rfl)) (by decide) rfl rfl rfl (Nat.le_of_ble_eq_true rfl) (Nat.le_of_ble_eq_true rfl) (hW _ S) (fun r29 H29 q29 => ?_)
        obtain ⟨v29, m29, γ29, t29, rfl, hv29, S, hW⟩ := q29
        show wp _ _ _ _ _ [.int (iI v29)] _ _
        exact wp_iret rfl rfl ⟨_, _, _, _, rfl, hv29, S, hW⟩
      · have dc28 := c28
        have hW := hW.2 dc28
        refine wp_g (n := 1) (pc' := 148) (L' := [some (.ref 99), some (.ref g1)]) (st' := [.ref 99, .ref 99]) rfl ?_
        refine wp_getf (v := .int (iI (m 99 7))) rfl rfl (S.cell 99 (nc rfl)) (by decide) rfl ?_
        refine wp_g (n := 1) (pc' := 152) (L' := [some (.ref 99), some (.ref g1)]) (st' := [.int (iI 3), .int (iI (m 99 7)), .ref 99]) rfl ?_
        refine wp_icmpI (a := (m 99 7)) (b := 3) rfl rfl hr23.1 hr23.2 (by decide) (by decide) (fun c30 => ?_) (fun c30 => ?_)
        · have dc30 := (Int.not_le.mpr c30)
          have hW := hW.2 dc30
          refine wp_g (n := 2) (pc' := 161) (L' := [some (.ref 99), some (.ref g1)]) (st' := [.int (iI 5), .int (iI 0), .ref 99]) rfl ?_
          refine wp_cv (As := [.int (iI 0), .int (iI 5)]) (rest := []) rfl rfl (S.cell 99 (nc rfl)) (by decide) rfl rfl rfl (Nat.le_of_ble_eq_true rfl) (Nat.le_of_ble_eq_true rfl) (hW _ S) (fun r31 H31 q31 => ?_)
          obtain ⟨v31, m31, γ31, t31, rfl, hv31, S, hW⟩ := q31
          show wp _ _ _ _ _ [.int (iI v31)] _ _
          exact wp_iret rfl rfl ⟨_, _, _, _, rfl, hv31, S, hW⟩
        · have dc30 := (Int.not_lt.mp c30)
          have hW := hW.1 dc30
          refine wp_g (n := 3) (pc' := 161) (L' := [some (.ref 99), some (.ref g1)]) (st' := [.int (iI 5), .int (iI 1), .ref 99]) rfl ?_
          refine wp_cv (As := [.int (iI 1), .int (iI 5)]) (rest := []) rfl rfl (S.cell 99 (nc rfl)) (by decide) rfl rfl rfl (Nat.le_of_ble_eq_true rfl) (Nat.le_of_ble_eq_true rfl) (hW _ S) (fun r32 H32 q32 => ?_)
          obtain ⟨v32, m32, γ32, t32, rfl, hv32, S, hW⟩ := q32
          show wp _ _ _ _ _ [.int (iI v32)] _ _
          exact wp_iret rfl rfl ⟨_, _, _, _, rfl, hv32, S, hW⟩
  have hW := hW.2 c22
  by_cases c33 : (m 99 8) = 5
  · have hW := hW.1 c33
    refine wp_tswI rfl (by rw [c33]; decide) (by rw [c33]; decide) 5 (by rw [c33]; decide) rfl rfl ?_
    refine wp_g (n := 2) (pc' := 167) (L' := [some (.ref 99), some (.ref g1)]) (st' := [.ref 99, .ref 99]) rfl ?_
    refine wp_getf (v := .int (iI (m 99 7))) rfl rfl (S.cell 99 (nc rfl)) (by decide) rfl ?_
    have hr34 : rJ (m 99 7) := S.rg 99 7 (nl rfl)
    refine wp_putI rfl rfl (S.cell 99 (nc rfl)) (Nat.le_of_ble_eq_true rfl) rfl (fun H35 hl35 hz35 hf35 => ?_)
    have S : ST H35 (up m 99 (up (m 99) 11 (m 99 7))) γ t := S.setI 99 (nc rfl) hl35 hz35 hf35 hr34.1 hr34.2
    refine wp_g (n := 3) (pc' := 176) (L' := [some (.ref 99), some (.ref g1)]) (st' := [.ref g1, .int (iI 0), .ref 99]) rfl ?_
    refine wp_cv (As := []) (rest := [.int (iI 0), .ref 99]) rfl rfl (S.gg g1 hg1).obj (isg_lt hg1) rfl rfl rfl (Nat.le_of_ble_eq_true rfl) (Nat.le_of_ble_eq_true rfl) (hW _ S) (fun r36 H36 q36 => ?_)
    obtain ⟨v36, m36, γ36, t36, rfl, hv36, S, hW⟩ := q36
    show wp _ _ _ _ _ [.int (iI v36), .int (iI 0), .ref 99] _ _
    refine wp_g (n := 1) (pc' := 180) (L' := [some (.ref 99), some (.ref g1)]) (st' := [.int (iI 1), .int (iI v36), .int (iI 0), .ref 99]) rfl ?_
    refine wp_sub (a := v36) (b := 1) rfl ?_
    refine wp_g (n := 1) (pc' := 183) (L' := [some (.ref 99), some (.ref g1)]) (st' := [.int (iI 6), .int (iI (v36 - 1)), .int (iI 0), .ref 99]) rfl ?_
    refine wp_cv (As := [.int (iI 0), .int (iI (v36 - 1)), .int (iI 6)]) (rest := []) rfl rfl (S.cell 99 (nc rfl)) (by decide) rfl rfl rfl (Nat.le_of_ble_eq_true rfl) (Nat.le_of_ble_eq_true rfl) (hW _ S) (fun r37 H37 q37 => ?_)
    obtain ⟨v37, m37, γ37, t37, rfl, hv37, S, hW⟩ := q37
    show wp _ _ _ _ _ [.int (iI v37)] _ _
    exact wp_iret rfl rfl ⟨_, _, _, _, rfl, hv37, S, hW⟩
  have hW := hW.2 c33
  by_cases c38 : (m 99 8) = 6
  · have hW := hW.1 c38
    refine wp_tswI rfl (by rw [c38]; decide) (by rw [c38]; decide) 6 (by rw [c38]; decide) rfl rfl ?_
    refine wp_g (n := 2) (pc' := 189) (L' := [some (.ref 99), some (.ref g1)]) (st' := [.ref g1, .ref 99]) rfl ?_
    refine wp_cv (As := [.ref g1]) (rest := []) rfl rfl (S.cell 99 (nc rfl)) (by decide) rfl rfl rfl (Nat.le_of_ble_eq_true rfl) (Nat.le_of_ble_eq_true rfl) (hW _ S) (fun r39 H39 q39 => ?_)
    obtain ⟨v39, m39, γ39, t39, rfl, hv39, S, hW⟩ := q39
    show wp _ _ _ _ _ [.int (iI v39)] _ _
    exact wp_iret rfl rfl ⟨_, _, _, _, rfl, hv39, S, hW⟩
  have hW := hW.2 c38
  refine wp_tswO rfl hr1.1 hr1.2 (ts (ts (ts (ts (ts (ts (ts (ts0 (z := (m 99 8)) (lo := 0) (a := (-1)) (by decide)) c2 (by decide : (0 : Int) = (-1) + 1)) c10 (by decide : (1 : Int) = 0 + 1)) c14 (by decide : (2 : Int) = 1 + 1)) c19 (by decide : (3 : Int) = 2 + 1)) c22 (by decide : (4 : Int) = 3 + 1)) c33 (by decide : (5 : Int) = 4 + 1)) c38 (by decide : (6 : Int) = 5 + 1)) rfl ?_
  refine wp_g (n := 3) (pc' := 197) (L' := [some (.ref 99), some (.ref g1)]) (st' := [.int (iI 59), .ref 99, .ref 99]) rfl ?_
  refine wp_cv (As := [.int (iI 59)]) (rest := [.ref 99]) rfl rfl (S.cell 99 (nc rfl)) (by decide) rfl rfl rfl (Nat.le_of_ble_eq_true rfl) (Nat.le_of_ble_eq_true rfl) (hW _ S) (fun r40 H40 q40 => ?_)
  obtain ⟨v40, m40, γ40, t40, rfl, hv40, S, hW⟩ := q40
  show wp _ _ _ _ _ [.int (iI v40), .ref 99] _ _
  refine wp_ifI (a := v40) rfl rfl hv40.1 hv40.2 (fun c41 => ?_) (fun c41 => ?_)
  · have dc41 := c41
    have hW := hW.2 dc41
    refine wp_g (n := 4) (pc' := 220) (L' := [some (.ref 99), some (.ref g1)]) (st' := [.int (iI 59), .ref 99, .int (iI 1), .ref 99]) rfl ?_
    refine wp_cv (As := [.int (iI 59)]) (rest := [.int (iI 1), .ref 99]) rfl rfl (S.cell 99 (nc rfl)) (by decide) rfl rfl rfl (Nat.le_of_ble_eq_true rfl) (Nat.le_of_ble_eq_true rfl) (hW _ S) (fun r42 H42 q42 => ?_)
    obtain ⟨v42, m42, γ42, t42, rfl, hv42, S, hW⟩ := q42
    show wp _ _ _ _ _ [.int (iI v42), .int (iI 1), .ref 99] _ _
    refine wp_ifI (a := v42) rfl rfl hv42.1 hv42.2 (fun c43 => ?_) (fun c43 => ?_)
    · have dc43 := c43
      have hW := hW.1 dc43
      refine wp_g (n := 1) (pc' := 231) (L' := [some (.ref 99), some (.ref g1)]) (st' := [.int (iI 5), .int (iI 1), .ref 99]) rfl ?_
      refine wp_cv (As := [.int (iI 1), .int (iI 5)]) (rest := []) rfl rfl (S.cell 99 (nc rfl)) (by decide) rfl rfl rfl (Nat.le_of_ble_eq_true rfl) (Nat.le_of_ble_eq_true rfl) (hW _ S) (fun r44 H44 q44 => ?_)
      obtain ⟨v44, m44, γ44, t44, rfl, hv44, S, hW⟩ := q44
      show wp _ _ _ _ _ [.int (iI v44)] _ _
      exact wp_iret rfl rfl ⟨_, _, _, _, rfl, hv44, S, hW⟩
    · have dc43 := c43
      have hW := hW.2 dc43
      refine wp_g (n := 2) (pc' := 231) (L' := [some (.ref 99), some (.ref g1)]) (st' := [.int (iI 4), .int (iI 1), .ref 99]) rfl ?_
      refine wp_cv (As := [.int (iI 1), .int (iI 4)]) (rest := []) rfl rfl (S.cell 99 (nc rfl)) (by decide) rfl rfl rfl (Nat.le_of_ble_eq_true rfl) (Nat.le_of_ble_eq_true rfl) (hW _ S) (fun r45 H45 q45 => ?_)
      obtain ⟨v45, m45, γ45, t45, rfl, hv45, S, hW⟩ := q45
      show wp _ _ _ _ _ [.int (iI v45)] _ _
      exact wp_iret rfl rfl ⟨_, _, _, _, rfl, hv45, S, hW⟩
  · have dc41 := (Classical.not_not.mp c41)
    have hW := hW.1 dc41
    refine wp_g (n := 2) (pc' := 206) (L' := [some (.ref 99), some (.ref g1)]) (st' := [.int (iI 44), .ref 99, .ref 99]) rfl ?_
    refine wp_cv (As := [.int (iI 44)]) (rest := [.ref 99]) rfl rfl (S.cell 99 (nc rfl)) (by decide) rfl rfl rfl (Nat.le_of_ble_eq_true rfl) (Nat.le_of_ble_eq_true rfl) (hW _ S) (fun r46 H46 q46 => ?_)
    obtain ⟨v46, m46, γ46, t46, rfl, hv46, S, hW⟩ := q46
    show wp _ _ _ _ _ [.int (iI v46), .ref 99] _ _
    refine wp_ifI (a := v46) rfl rfl hv46.1 hv46.2 (fun c47 => ?_) (fun c47 => ?_)
    · have dc47 := c47
      have hW := hW.1 dc47
      refine wp_g (n := 3) (pc' := 220) (L' := [some (.ref 99), some (.ref g1)]) (st' := [.int (iI 59), .ref 99, .int (iI 0), .ref 99]) rfl ?_
      refine wp_cv (As := [.int (iI 59)]) (rest := [.int (iI 0), .ref 99]) rfl rfl (S.cell 99 (nc rfl)) (by decide) rfl rfl rfl (Nat.le_of_ble_eq_true rfl) (Nat.le_of_ble_eq_true rfl) (hW _ S) (fun r48 H48 q48 => ?_)
      obtain ⟨v48, m48, γ48, t48, rfl, hv48, S, hW⟩ := q48
      show wp _ _ _ _ _ [.int (iI v48), .int (iI 0), .ref 99] _ _
      refine wp_ifI (a := v48) rfl rfl hv48.1 hv48.2 (fun c49 => ?_) (fun c49 => ?_)
      · have dc49 := c49
        have hW := hW.1 dc49
        refine wp_g (n := 1) (pc' := 231) (L' := [some (.ref 99), some (.ref g1)]) (st' := [.int (iI 5), .int (iI 0), .ref 99]) rfl ?_
        refine wp_cv (As := [.int (iI 0), .int (iI 5)]) (rest := []) rfl rfl (S.cell 99 (nc rfl)) (by decide) rfl rfl rfl (Nat.le_of_ble_eq_true rfl) (Nat.le_of_ble_eq_true rfl) (hW _ S) (fun r50 H50 q50 => ?_)
        obtain ⟨v50, m50, γ50, t50, rfl, hv50, S, hW⟩ := q50
        show wp _ _ _ _ _ [.int (iI v50)] _ _
        exact wp_iret rfl rfl ⟨_, _, _, _, rfl, hv50, S, hW⟩
      · have dc49 := c49
        have hW := hW.2 dc49
        refine wp_g (n := 2) (pc' := 231) (L' := [some (.ref 99), some (.ref g1)]) (st' := [.int (iI 4), .int (iI 0), .ref 99]) rfl ?_
        refine wp_cv (As := [.int (iI 0), .int (iI 4)]) (rest := []) rfl rfl (S.cell 99 (nc rfl)) (by decide) rfl rfl rfl (Nat.le_of_ble_eq_true rfl) (Nat.le_of_ble_eq_true rfl) (hW _ S) (fun r51 H51 q51 => ?_)
        obtain ⟨v51, m51, γ51, t51, rfl, hv51, S, hW⟩ := q51
        show wp _ _ _ _ _ [.int (iI v51)] _ _
        exact wp_iret rfl rfl ⟨_, _, _, _, rfl, hv51, S, hW⟩
    · have dc47 := c47
      have hW := hW.2 dc47
      refine wp_g (n := 4) (pc' := 220) (L' := [some (.ref 99), some (.ref g1)]) (st' := [.int (iI 59), .ref 99, .int (iI 1), .ref 99]) rfl ?_
      refine wp_cv (As := [.int (iI 59)]) (rest := [.int (iI 1), .ref 99]) rfl rfl (S.cell 99 (nc rfl)) (by decide) rfl rfl rfl (Nat.le_of_ble_eq_true rfl) (Nat.le_of_ble_eq_true rfl) (hW _ S) (fun r52 H52 q52 => ?_)
      obtain ⟨v52, m52, γ52, t52, rfl, hv52, S, hW⟩ := q52
      show wp _ _ _ _ _ [.int (iI v52), .int (iI 1), .ref 99] _ _
      refine wp_ifI (a := v52) rfl rfl hv52.1 hv52.2 (fun c53 => ?_) (fun c53 => ?_)
      · have dc53 := c53
        have hW := hW.1 dc53
        refine wp_g (n := 1) (pc' := 231) (L' := [some (.ref 99), some (.ref g1)]) (st' := [.int (iI 5), .int (iI 1), .ref 99]) rfl ?_
        refine wp_cv (As := [.int (iI 1), .int (iI 5)]) (rest := []) rfl rfl (S.cell 99 (nc rfl)) (by decide) rfl rfl rfl (Nat.le_of_ble_eq_true rfl) (Nat.le_of_ble_eq_true rfl) (hW _ S) (fun r54 H54 q54 => ?_)
        obtain ⟨v54, m54, γ54, t54, rfl, hv54, S, hW⟩ := q54
        show wp _ _ _ _ _ [.int (iI v54)] _ _
        exact wp_iret rfl rfl ⟨_, _, _, _, rfl, hv54, S, hW⟩
      · have dc53 := c53
        have hW := hW.2 dc53
        refine wp_g (n := 2) (pc' := 231) (L' := [some (.ref 99), some (.ref g1)]) (st' := [.int (iI 4), .int (iI 1), .ref 99]) rfl ?_
        refine wp_cv (As := [.int (iI 1), .int (iI 4)]) (rest := []) rfl rfl (S.cell 99 (nc rfl)) (by decide) rfl rfl rfl (Nat.le_of_ble_eq_true rfl) (Nat.le_of_ble_eq_true rfl) (hW _ S) (fun r55 H55 q55 => ?_)
        obtain ⟨v55, m55, γ55, t55, rfl, hv55, S, hW⟩ := q55
        show wp _ _ _ _ _ [.int (iI v55)] _ _
        exact wp_iret rfl rfl ⟨_, _, _, _, rfl, hv55, S, hW⟩
