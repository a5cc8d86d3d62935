abbrev W_X9_edgeOf (E : am_E) (k : Nat) (x1 : Int) (x2 : Int) (x3 : Int) (m : MM) (γ : GM) (t : am_H) (Q : Int → MM → GM → am_H → Prop) : Prop := (TI E k 218 [.ref 158, .int (iI x1), .int (iI x2), .int (iI 0)] m γ t (fun v1 m1 γ1 t1 => (((v1 = 0) → (Q (-2) m1 γ1 t1)) ∧ (¬ (v1 = 0) → (TI E k 192 [.long (lI x3), .long (lI 0), .long (lI 1)] m1 γ1 t1 (fun v3 m3 γ3 t3 => (((v3 = 0) → (Q (-2) m3 γ3 t3)) ∧ (¬ (v3 = 0) → ((0 ≤ ((2 * x2) + x3) ∧ ((2 * x2) + x3) < 32) ∧ (Q (m3 165 ((((2 * x2) + x3)).toNat)) m3 γ3 t3))))))))))
theorem vc_X9_edgeOf {E : am_E} {k : Nat} {x1 : Int} {x2 : Int} {x3 : Int} {m : MM} {γ : GM} {t : am_H} {Q : Int → MM → GM → am_H → Prop} (hx1 : rJ x1) (hx2 : rJ x2) (hx3 : rJ x3) (hW : W_X9_edgeOf E k x1 x2 x3 m γ t Q) : TI E (k + 1) 238 [.ref 158, .int (iI x1), .int (iI x2), .int (iI x3)] m γ t Q := by
  unfold W_X9_edgeOf at hW
  intro h S
  refine wp_g (n := 4) (pc' := 4) (L' := [some (.ref 158), some (.int (iI x1)), some (.int (iI x2)), some (.int (iI x3))]) (st' := [.int (iI 0), .int (iI x2), .int (iI x1), .ref 158]) rfl ?_
  refine wp_cv (As := [.int (iI x1), .int (iI x2), .int (iI 0)]) (rest := []) rfl rfl (S.cell 158 (nc rfl)) (by decide) rfl rfl rfl (Nat.le_of_ble_eq_true rfl) (Nat.le_of_ble_eq_true rfl) (hW _ S) (fun r1 H1 q1 => ?_)
  obtain ⟨v1, m1, γ1, t1, rfl, hv1, S, hW⟩ := q1
  show wp _ _ _ _ _ [.int (iI v1)] _ _
  refine wp_ifI (a := v1) rfl rfl hv1.1 hv1.2 (fun c2 => ?_) (fun c2 => ?_)
  · have dc2 := c2
    have hW := hW.1 dc2
    refine wp_g (n := 1) (pc' := 35) (L' := [some (.ref 158), some (.int (iI x1)), some (.int (iI x2)), some (.int (iI x3))]) (st' := [.int (iI (-2))]) rfl ?_
    exact wp_iret rfl rfl ⟨_, _, _, _, rfl, (by decide), S, hW⟩
  · have dc2 := c2
    have hW := hW.2 dc2
    refine wp_g (n := 1) (pc' := 11) (L' := [some (.ref 158), some (.int (iI x1)), some (.int (iI x2)), some (.int (iI x3))]) (st' := [.int (iI x3)]) rfl ?_
    refine wp_i2l (a := x3) rfl hx3 ?_
    refine wp_g (n := 2) (pc' := 14) (L' := [some (.ref 158), some (.int (iI x1)), some (.int (iI x2)), some (.int (iI x3))]) (st' := [.long (lI 1), .long (lI 0), .long (lI x3)]) rfl ?_
    refine wp_cs (As := [.long (lI x3), .long (lI 0), .long (lI 1)]) (rest := []) rfl rfl rfl rfl (Nat.le_of_ble_eq_true rfl) (Nat.le_of_ble_eq_true rfl) (hW _ S) (fun r3 H3 q3 => ?_)
    obtain ⟨v3, m3, γ3, t3, rfl, hv3, S, hW⟩ := q3
    show wp _ _ _ _ _ [.int (iI v3)] _ _
    refine wp_ifI (a := v3) rfl rfl hv3.1 hv3.2 (fun c4 => ?_) (fun c4 => ?_)
    · have dc4 := c4
      have hW := hW.1 dc4
      refine wp_g (n := 1) (pc' := 35) (L' := [some (.ref 158), some (.int (iI x1)), some (.int (iI x2)), some (.int (iI x3))]) (st' := [.int (iI (-2))]) rfl ?_
      exact wp_iret rfl rfl ⟨_, _, _, _, rfl, (by decide), S, hW⟩
    · have dc4 := c4
      have hW := hW.2 dc4
      refine wp_g (n := 1) (pc' := 21) (L' := [some (.ref 158), some (.int (iI x1)), some (.int (iI x2)), some (.int (iI x3))]) (st' := [.ref 158]) rfl ?_
      refine wp_getf (v := .ref 165) rfl rfl (S.cell 158 (nc rfl)) (by decide) rfl ?_
      refine wp_g (n := 2) (pc' := 26) (L' := [some (.ref 158), some (.int (iI x1)), some (.int (iI x2)), some (.int (iI x3))]) (st' := [.int (iI x2), .int (iI 2), .ref 165]) rfl ?_
      refine wp_mul (a := 2) (b := x2) rfl ?_
      refine wp_g (n := 1) (pc' := 28) (L' := [some (.ref 158), some (.int (iI x1)), some (.int (iI x2)), some (.int (iI x3))]) (st' := [.int (iI x3), .int (iI (2 * x2)), .ref 165]) rfl ?_
      refine wp_add (a := (2 * x2)) (b := x3) rfl ?_
      obtain ⟨p5, hW⟩ := hW
      refine wp_iald (n := 32) (F := (m3 165)) rfl (S.cell 165 (nc rfl)) (by decide) p5.1 p5.2 (by decide) ?_
      show wp _ _ _ _ _ [.int (iI (m3 165 ((((2 * x2) + x3)).toNat)))] _ _
      have hr6 : rJ (m3 165 ((((2 * x2) + x3)).toNat)) := S.rg 165 ((((2 * x2) + x3)).toNat) (nl rfl)
      refine wp_g (n := 1) (pc' := 35) (L' := [some (.ref 158), some (.int (iI x1)), some (.int (iI x2)), some (.int (iI x3))]) (st' := [.int (iI (m3 165 ((((2 * x2) + x3)).toNat)))]) rfl ?_
      exact wp_iret rfl rfl ⟨_, _, _, _, rfl, hr6, S, hW⟩
abbrev W_X9_strand (E : am_E) (k : Nat) (x1 : Int) (x2 : Int) (x3 : Int) (m : MM) (γ : GM) (t : am_H) (Q : Int → MM → GM → am_H → Prop) : Prop := (TI E k 218 [.ref 158, .int (iI x1), .int (iI x2), .int (iI x3)] m γ t (fun v1 m1 γ1 t1 => (((v1 = 0) → (Q (-2) m1 γ1 t1)) ∧ (¬ (v1 = 0) → ((0 ≤ ((4 * x2) + x3) ∧ ((4 * x2) + x3) < 64) ∧ (Q (m1 166 ((((4 * x2) + x3)).toNat)) m1 γ1 t1))))))
theorem vc_X9_strand {E : am_E} {k : Nat} {x1 : Int} {x2 : Int} {x3 : Int} {m : MM} {γ : GM} {t : am_H} {Q : Int → MM → GM → am_H → Prop} (hx1 : rJ x1) (hx2 : rJ x2) (hx3 : rJ x3) (hW : W_X9_strand E k x1 x2 x3 m γ t Q) : TI E (k + 1) 239 [.ref 158, .int (iI x1), .int (iI x2), .int (iI x3)] m γ t Q := by
  unfold W_X9_strand at hW
  intro h S
  refine wp_g (n := 4) (pc' := 4) (L' := [some (.ref 158), some (.int (iI x1)), some (.int (iI x2)), some (.int (iI x3))]) (st' := [.int (iI x3), .int (iI x2), .int (iI x1), .ref 158]) rfl ?_
  refine wp_cv (As := [.int (iI x1), .int (iI x2), .int (iI x3)]) (rest := []) rfl rfl (S.cell 158 (nc rfl)) (by decide) rfl rfl rfl (Nat.le_of_ble_eq_true rfl) (Nat.le_of_ble_eq_true rfl) (hW _ S) (fun r1 H1 q1 => ?_)
  obtain ⟨v1, m1, γ1, t1, rfl, hv1, S, hW⟩ := q1
  show wp _ _ _ _ _ [.int (iI v1)] _ _
  refine wp_ifI (a := v1) rfl rfl hv1.1 hv1.2 (fun c2 => ?_) (fun c2 => ?_)
  · have dc2 := c2
    have hW := hW.1 dc2
    refine wp_g (n := 1) (pc' := 25) (L' := [some (.ref 158), some (.int (iI x1)), some (.int (iI x2)), some (.int (iI x3))]) (st' := [.int (iI (-2))]) rfl ?_
    exact wp_iret rfl rfl ⟨_, _, _, _, rfl, (by decide), S, hW⟩
  · have dc2 := c2
    have hW := hW.2 dc2
    refine wp_g (n := 1) (pc' := 11) (L' := [some (.ref 158), some (.int (iI x1)), some (.int (iI x2)), some (.int (iI x3))]) (st' := [.ref 158]) rfl ?_
    refine wp_getf (v := .ref 166) rfl rfl (S.cell 158 (nc rfl)) (by decide) rfl ?_
    refine wp_g (n := 2) (pc' := 16) (L' := [some (.ref 158), some (.int (iI x1)), some (.int (iI x2)), some (.int (iI x3))]) (st' := [.int (iI x2), .int (iI 4), .ref 166]) rfl ?_
    refine wp_mul (a := 4) (b := x2) rfl ?_
    refine wp_g (n := 1) (pc' := 18) (L' := [some (.ref 158), some (.int (iI x1)), some (.int (iI x2)), some (.int (iI x3))]) (st' := [.int (iI x3), .int (iI (4 * x2)), .ref 166]) rfl ?_
    refine wp_add (a := (4 * x2)) (b := x3) rfl ?_
    obtain ⟨p3, hW⟩ := hW
    refine wp_iald (n := 64) (F := (m1 166)) rfl (S.cell 166 (nc rfl)) (by decide) p3.1 p3.2 (by decide) ?_
    show wp _ _ _ _ _ [.int (iI (m1 166 ((((4 * x2) + x3)).toNat)))] _ _
    have hr4 : rJ (m1 166 ((((4 * x2) + x3)).toNat)) := S.rg 166 ((((4 * x2) + x3)).toNat) (nl rfl)
    refine wp_g (n := 1) (pc' := 25) (L' := [some (.ref 158), some (.int (iI x1)), some (.int (iI x2)), some (.int (iI x3))]) (st' := [.int (iI (m1 166 ((((4 * x2) + x3)).toNat)))]) rfl ?_
    exact wp_iret rfl rfl ⟨_, _, _, _, rfl, hr4, S, hW⟩
abbrev W_X9_place (E : am_E) (k : Nat) (x1 : Int) (x2 : Int) (x3 : Int) (m : MM) (γ : GM) (t : am_H) (Q : Int → MM → GM → am_H → Prop) : Prop := (TI E k 218 [.ref 158, .int (iI x1), .int (iI x2), .int (iI x3)] m γ t (fun v1 m1 γ1 t1 => (((v1 = 0) → (Q (-2) m1 γ1 t1)) ∧ (¬ (v1 = 0) → ((0 ≤ ((4 * x2) + x3) ∧ ((4 * x2) + x3) < 64) ∧ (Q (m1 167 ((((4 * x2) + x3)).toNat)) m1 γ1 t1))))))
theorem vc_X9_place {E : am_E} {k : Nat} {x1 : Int} {x2 : Int} {x3 : Int} {m : MM} {γ : GM} {t : am_H} {Q : Int → MM → GM → am_H → Prop} (hx1 : rJ x1) (hx2 : rJ x2) (hx3 : rJ x3) (hW : W_X9_place E k x1 x2 x3 m γ t Q) : TI E (k + 1) 240 [.ref 158, .int (iI x1), .int (iI x2), .int (iI x3)] m γ t Q := by
  unfold W_X9_place at hW
  intro h S
  refine wp_g (n := 4) (pc' := 4) (L' := [some (.ref 158), some (.int (iI x1)), some (.int (iI x2)), some (.int (iI x3))]) (st' := [.int (iI x3), .int (iI x2), .int (iI x1), .ref 158]) rfl ?_
  refine wp_cv (As := [.int (iI x1), .int (iI x2), .int (iI x3)]) (rest := []) rfl rfl (S.cell 158 (nc rfl)) (by decide) rfl rfl rfl (Nat.le_of_ble_eq_true rfl) (Nat.le_of_ble_eq_true rfl) (hW _ S) (fun r1 H1 q1 => ?_)
  obtain ⟨v1, m1, γ1, t1, rfl, hv1, S, hW⟩ := q1
  show wp _ _ _ _ _ [.int (iI v1)] _ _
  refine wp_ifI (a := v1) rfl rfl hv1.1 hv1.2 (fun c2 => ?_) (fun c2 => ?_)
  · have dc2 := c2
    have hW := hW.1 dc2
    refine wp_g (n := 1) (pc' := 25) (L' := [some (.ref 158), some (.int (iI x1)), some (.int (iI x2)), some (.int (iI x3))]) (st' := [.int (iI (-2))]) rfl ?_
    exact wp_iret rfl rfl ⟨_, _, _, _, rfl, (by decide), S, hW⟩
  · have dc2 := c2
    have hW := hW.2 dc2
    refine wp_g (n := 1) (pc' := 11) (L' := [some (.ref 158), some (.int (iI x1)), some (.int (iI x2)), some (.int (iI x3))]) (st' := [.ref 158]) rfl ?_
    refine wp_getf (v := .ref 167) rfl rfl (S.cell 158 (nc rfl)) (by decide) rfl ?_
    refine wp_g (n := 2) (pc' := 16) (L' := [some (.ref 158), some (.int (iI x1)), some (.int (iI x2)), some (.int (iI x3))]) (st' := [.int (iI x2), .int (iI 4), .ref 167]) rfl ?_
    refine wp_mul (a := 4) (b := x2) rfl ?_
    refine wp_g (n := 1) (pc' := 18) (L' := [some (.ref 158), some (.int (iI x1)), some (.int (iI x2)), some (.int (iI x3))]) (st' := [.int (iI x3), .int (iI (4 * x2)), .ref 167]) rfl ?_
    refine wp_add (a := (4 * x2)) (b := x3) rfl ?_
    obtain ⟨p3, hW⟩ := hW
    refine wp_iald (n := 64) (F := (m1 167)) rfl (S.cell 167 (nc rfl)) (by decide) p3.1 p3.2 (by decide) ?_
    show wp _ _ _ _ _ [.int (iI (m1 167 ((((4 * x2) + x3)).toNat)))] _ _
    have hr4 : rJ (m1 167 ((((4 * x2) + x3)).toNat)) := S.rg 167 ((((4 * x2) + x3)).toNat) (nl rfl)
    refine wp_g (n := 1) (pc' := 25) (L' := [some (.ref 158), some (.int (iI x1)), some (.int (iI x2)), some (.int (iI x3))]) (st' := [.int (iI (m1 167 ((((4 * x2) + x3)).toNat)))]) rfl ?_
    exact wp_iret rfl rfl ⟨_, _, _, _, rfl, hr4, S, hW⟩
abbrev W_X9_walk (E : am_E) (k : Nat) (x1 : Int) (x2 : Int) (x3 : Int) (m : MM) (γ : GM) (t : am_H) (Q : Int → MM → GM → am_H → Prop) : Prop := (TI E k 217 [.ref 158, .int (iI x1), .int (iI x2)] m γ t (fun v1 m1 γ1 t1 => (((v1 = 0) → (Q (-2) m1 γ1 t1)) ∧ (¬ (v1 = 0) → (((x3 < 0) → (Q (-2) m1 γ1 t1)) ∧ (¬ (x3 < 0) → (TI E k 211 [.ref 158, .int (iI x2)] m1 γ1 t1 (fun v4 m4 γ4 t4 => (((x3 < v4) → ((0 ≤ x2 ∧ x2 < 65) ∧ ((0 ≤ ((m4 170 ((x2).toNat)) + x3) ∧ ((m4 170 ((x2).toNat)) + x3) < 64) ∧ (Q (m4 169 ((((m4 170 ((x2).toNat)) + x3)).toNat)) m4 γ4 t4)))) ∧ (¬ (x3 < v4) → (Q (-1) m4 γ4 t4)))))))))))
theorem vc_X9_walk {E : am_E} {k : Nat} {x1 : Int} {x2 : Int} {x3 : Int} {m : MM} {γ : GM} {t : am_H} {Q : Int → MM → GM → am_H → Prop} (hx1 : rJ x1) (hx2 : rJ x2) (hx3 : rJ x3) (hW : W_X9_walk E k x1 x2 x3 m γ t Q) : TI E (k + 1) 241 [.ref 158, .int (iI x1), .int (iI x2), .int (iI x3)] m γ t Q := by
  unfold W_X9_walk at hW
  intro h S
  refine wp_g (n := 3) (pc' := 3) (L' := [some (.ref 158), some (.int (iI x1)), some (.int (iI x2)), some (.int (iI x3))]) (st' := [.int (iI x2), .int (iI x1), .ref 158]) rfl ?_
  refine wp_cv (As := [.int (iI x1), .int (iI x2)]) (rest := []) rfl rfl (S.cell 158 (nc rfl)) (by decide) rfl rfl rfl (Nat.le_of_ble_eq_true rfl) (Nat.le_of_ble_eq_true rfl) (hW _ S) (fun r1 H1 q1 => ?_)
  obtain ⟨v1, m1, γ1, t1, rfl, hv1, S, hW⟩ := q1
  show wp _ _ _ _ _ [.int (iI v1)] _ _
  refine wp_ifI (a := v1) rfl rfl hv1.1 hv1.2 (fun c2 => ?_) (fun c2 => ?_)
  · have dc2 := c2
    have hW := hW.1 dc2
    refine wp_g (n := 1) (pc' := 15) (L' := [some (.ref 158), some (.int (iI x1)), some (.int (iI x2)), some (.int (iI x3))]) (st' := [.int (iI (-2))]) rfl ?_
    exact wp_iret rfl rfl ⟨_, _, _, _, rfl, (by decide), S, hW⟩
  · have dc2 := c2
    have hW := hW.2 dc2
    refine wp_g (n := 1) (pc' := 10) (L' := [some (.ref 158), some (.int (iI x1)), some (.int (iI x2)), some (.int (iI x3))]) (st' := [.int (iI x3)]) rfl ?_
    refine wp_ifI (a := x3) rfl rfl hx3.1 hx3.2 (fun c3 => ?_) (fun c3 => ?_)
    · have dc3 := (Int.not_lt.mpr c3)
      have hW := hW.2 dc3
      refine wp_g (n := 3) (pc' := 19) (L' := [some (.ref 158), some (.int (iI x1)), some (.int (iI x2)), some (.int (iI x3))]) (st' := [.int (iI x2), .ref 158, .int (iI x3)]) rfl ?_
      refine wp_cv (As := [.int (iI x2)]) (rest := [.int (iI x3)]) rfl rfl (S.cell 158 (nc rfl)) (by decide) rfl rfl rfl (Nat.le_of_ble_eq_true rfl) (Nat.le_of_ble_eq_true rfl) (hW _ S) (fun r4 H4 q4 => ?_)
      obtain ⟨v4, m4, γ4, t4, rfl, hv4, S, hW⟩ := q4
      show wp _ _ _ _ _ [.int (iI v4), .int (iI x3)] _ _
      refine wp_icmpI (a := x3) (b := v4) rfl rfl hx3.1 hx3.2 hv4.1 hv4.2 (fun c5 => ?_) (fun c5 => ?_)
      · have dc5 := (Int.not_lt.mpr c5)
        have hW := hW.2 dc5
        refine wp_g (n := 1) (pc' := 42) (L' := [some (.ref 158), some (.int (iI x1)), some (.int (iI x2)), some (.int (iI x3))]) (st' := [.int (iI (-1))]) rfl ?_
        exact wp_iret rfl rfl ⟨_, _, _, _, rfl, (by decide), S, hW⟩
      · have dc5 := (Int.not_le.mp c5)
        have hW := hW.1 dc5
        refine wp_g (n := 1) (pc' := 26) (L' := [some (.ref 158), some (.int (iI x1)), some (.int (iI x2)), some (.int (iI x3))]) (st' := [.ref 158]) rfl ?_
        refine wp_getf (v := .ref 169) rfl rfl (S.cell 158 (nc rfl)) (by decide) rfl ?_
        refine wp_g (n := 1) (pc' := 30) (L' := [some (.ref 158), some (.int (iI x1)), some (.int (iI x2)), some (.int (iI x3))]) (st' := [.ref 158, .ref 169]) rfl ?_
        refine wp_getf (v := .ref 170) rfl rfl (S.cell 158 (nc rfl)) (by decide) rfl ?_
        refine wp_g (n := 1) (pc' := 34) (L' := [some (.ref 158), some (.int (iI x1)), some (.int (iI x2)), some (.int (iI x3))]) (st' := [.int (iI x2), .ref 170, .ref 169]) rfl ?_
        obtain ⟨p6, hW⟩ := hW
        refine wp_iald (n := 65) (F := (m4 170)) rfl (S.cell 170 (nc rfl)) (by decide) p6.1 p6.2 (by decide) ?_
        show wp _ _ _ _ _ [.int (iI (m4 170 ((x2).toNat))), .ref 169] _ _
        have hr7 : rJ (m4 170 ((x2).toNat)) := S.rg 170 ((x2).toNat) (nl rfl)
        refine wp_g (n := 1) (pc' := 36) (L' := [some (.ref 158), some (.int (iI x1)), some (.int (iI x2)), some (.int (iI x3))]) (st' := [.int (iI x3), .int (iI (m4 170 ((x2).toNat))), .ref 169]) rfl ?_
        refine wp_add (a := (m4 170 ((x2).toNat))) (b := x3) rfl ?_
        obtain ⟨p8, hW⟩ := hW
        refine wp_iald (n := 64) (F := (m4 169)) rfl (S.cell 169 (nc rfl)) (by decide) p8.1 p8.2 (by decide) ?_
        show wp _ _ _ _ _ [.int (iI (m4 169 ((((m4 170 ((x2).toNat)) + x3)).toNat)))] _ _
        have hr9 : rJ (m4 169 ((((m4 170 ((x2).toNat)) + x3)).toNat)) := S.rg 169 ((((m4 170 ((x2).toNat)) + x3)).toNat) (nl rfl)
        refine wp_g (n := 1) (pc' := 42) (L' := [some (.ref 158), some (.int (iI x1)), some (.int (iI x2)), some (.int (iI x3))]) (st' := [.int (iI (m4 169 ((((m4 170 ((x2).toNat)) + x3)).toNat)))]) rfl ?_
        exact wp_iret rfl rfl ⟨_, _, _, _, rfl, hr9, S, hW⟩
    · have dc3 := (Int.not_le.mp c3)
      have hW := hW.1 dc3
      refine wp_g (n := 1) (pc' := 15) (L' := [some (.ref 158), some (.int (iI x1)), some (.int (iI x2)), some (.int (iI x3))]) (st' := [.int (iI (-2))]) rfl ?_
      exact wp_iret rfl rfl ⟨_, _, _, _, rfl, (by decide), S, hW⟩
abbrev W_X9_length (E : am_E) (k : Nat) (x1 : Int) (x2 : Int) (m : MM) (γ : GM) (t : am_H) (Q : Int → MM → GM → am_H → Prop) : Prop := (TI E k 217 [.ref 158, .int (iI x1), .int (iI x2)] m γ t (fun v1 m1 γ1 t1 => (((v1 = 0) → (Q (-2) m1 γ1 t1)) ∧ (¬ (v1 = 0) → (TI E k 211 [.ref 158, .int (iI x2)] m1 γ1 t1 (fun v3 m3 γ3 t3 => (Q v3 m3 γ3 t3)))))))
theorem vc_X9_length {E : am_E} {k : Nat} {x1 : Int} {x2 : Int} {m : MM} {γ : GM} {t : am_H} {Q : Int → MM → GM → am_H → Prop} (hx1 : rJ x1) (hx2 : rJ x2) (hW : W_X9_length E k x1 x2 m γ t Q) : TI E (k + 1) 242 [.ref 158, .int (iI x1), .int (iI x2)] m γ t Q := by
  unfold W_X9_length at hW
  intro h S
  refine wp_g (n := 3) (pc' := 3) (L' := [some (.ref 158), some (.int (iI x1)), some (.int (iI x2))]) (st' := [.int (iI x2), .int (iI x1), .ref 158]) rfl ?_
  refine wp_cv (As := [.int (iI x1), .int (iI x2)]) (rest := []) rfl rfl (S.cell 158 (nc rfl)) (by decide) rfl rfl rfl (Nat.le_of_ble_eq_true rfl) (Nat.le_of_ble_eq_true rfl) (hW _ S) (fun r1 H1 q1 => ?_)
  obtain ⟨v1, m1, γ1, t1, rfl, hv1, S, hW⟩ := q1
  show wp _ _ _ _ _ [.int (iI v1)] _ _
  refine wp_ifI (a := v1) rfl rfl hv1.1 hv1.2 (fun c2 => ?_) (fun c2 => ?_)
  · have dc2 := c2
    have hW := hW.1 dc2
    refine wp_g (n := 1) (pc' := 19) (L' := [some (.ref 158), some (.int (iI x1)), some (.int (iI x2))]) (st' := [.int (iI (-2))]) rfl ?_
    exact wp_iret rfl rfl ⟨_, _, _, _, rfl, (by decide), S, hW⟩
  · have dc2 := c2
    have hW := hW.2 dc2
    refine wp_g (n := 2) (pc' := 11) (L' := [some (.ref 158), some (.int (iI x1)), some (.int (iI x2))]) (st' := [.int (iI x2), .ref 158]) rfl ?_
    refine wp_cv (As := [.int (iI x2)]) (rest := []) rfl rfl (S.cell 158 (nc rfl)) (by decide) rfl rfl rfl (Nat.le_of_ble_eq_true rfl) (Nat.le_of_ble_eq_true rfl) (hW _ S) (fun r3 H3 q3 => ?_)
    obtain ⟨v3, m3, γ3, t3, rfl, hv3, S, hW⟩ := q3
    show wp _ _ _ _ _ [.int (iI v3)] _ _
    refine wp_g (n := 1) (pc' := 19) (L' := [some (.ref 158), some (.int (iI x1)), some (.int (iI x2))]) (st' := [.int (iI v3)]) rfl ?_
    exact wp_iret rfl rfl ⟨_, _, _, _, rfl, hv3, S, hW⟩
abbrev W_X9_areStrands (E : am_E) (k : Nat) (x1 : Int) (x2 : Int) (x3 : Int) (m : MM) (γ : GM) (t : am_H) (Q : Int → MM → GM → am_H → Prop) : Prop := (TI E k 217 [.ref 158, .int (iI x1), .int (iI x2)] m γ t (fun v1 m1 γ1 t1 => (((v1 = 0) → (Q 0 m1 γ1 t1)) ∧ (¬ (v1 = 0) → (rJ ((m1 158 16) - 1) ∧ (TI E k 192 [.long (lI x3), .long (lI 0), .long (lI ((m1 158 16) - 1))] m1 γ1 t1 (fun v5 m5 γ5 t5 => (((v5 = 0) → (Q 0 m5 γ5 t5)) ∧ (¬ (v5 = 0) → (Q 1 m5 γ5 t5))))))))))
theorem vc_X9_areStrands {E : am_E} {k : Nat} {x1 : Int} {x2 : Int} {x3 : Int} {m : MM} {γ : GM} {t : am_H} {Q : Int → MM → GM → am_H → Prop} (hx1 : rJ x1) (hx2 : rJ x2) (hx3 : rJ x3) (hW : W_X9_areStrands E k x1 x2 x3 m γ t Q) : TI E (k + 1) 243 [.ref 158, .int (iI x1), .int (iI x2), .int (iI x3)] m γ t Q := by
  unfold W_X9_areStrands at hW
  intro h S
  refine wp_g (n := 3) (pc' := 3) (L' := [some (.ref 158), some (.int (iI x1)), some (.int (iI x2)), some (.int (iI x3))]) (st' := [.int (iI x2), .int (iI x1), .ref 158]) rfl ?_
  refine wp_cv (As := [.int (iI x1), .int (iI x2)]) (rest := []) rfl rfl (S.cell 158 (nc rfl)) (by decide) rfl rfl rfl (Nat.le_of_ble_eq_true rfl) (Nat.le_of_ble_eq_true rfl) (hW _ S) (fun r1 H1 q1 => ?_)
  obtain ⟨v1, m1, γ1, t1, rfl, hv1, S, hW⟩ := q1
  show wp _ _ _ _ _ [.int (iI v1)] _ _
  refine wp_ifI (a := v1) rfl rfl hv1.1 hv1.2 (fun c2 => ?_) (fun c2 => ?_)
  · have dc2 := c2
    have hW := hW.1 dc2
    refine wp_g (n := 1) (pc' := 30) (L' := [some (.ref 158), some (.int (iI x1)), some (.int (iI x2)), some (.int (iI x3))]) (st' := [.int (iI 0)]) rfl ?_
    exact wp_zret rfl rfl (by decide) ⟨_, _, _, _, rfl, (by decide), S, hW⟩
  · have dc2 := c2
    have hW := hW.2 dc2
    refine wp_g (n := 1) (pc' := 10) (L' := [some (.ref 158), some (.int (iI x1)), some (.int (iI x2)), some (.int (iI x3))]) (st' := [.int (iI x3)]) rfl ?_
    refine wp_i2l (a := x3) rfl hx3 ?_
    refine wp_g (n := 2) (pc' := 13) (L' := [some (.ref 158), some (.int (iI x1)), some (.int (iI x2)), some (.int (iI x3))]) (st' := [.ref 158, .long (lI 0), .long (lI x3)]) rfl ?_
    refine wp_getf (v := .int (iI (m1 158 16))) rfl rfl (S.cell 158 (nc rfl)) (by decide) rfl ?_
    have hr3 : rJ (m1 158 16) := S.rg 158 16 (nl rfl)
    refine wp_g (n := 1) (pc' := 17) (L' := [some (.ref 158), some (.int (iI x1)), some (.int (iI x2)), some (.int (iI x3))]) (st' := [.int (iI 1), .int (iI (m1 158 16)), .long (lI 0), .long (lI x3)]) rfl ?_
    refine wp_sub (a := (m1 158 16)) (b := 1) rfl ?_
    obtain ⟨p4, hW⟩ := hW
    refine wp_i2l (a := ((m1 158 16) - 1)) rfl p4 ?_
    refine wp_cs (As := [.long (lI x3), .long (lI 0), .long (lI ((m1 158 16) - 1))]) (rest := []) rfl rfl rfl rfl (Nat.le_of_ble_eq_true rfl) (Nat.le_of_ble_eq_true rfl) (hW _ S) (fun r5 H5 q5 => ?_)
    obtain ⟨v5, m5, γ5, t5, rfl, hv5, S, hW⟩ := q5
    show wp _ _ _ _ _ [.int (iI v5)] _ _
    refine wp_ifI (a := v5) rfl rfl hv5.1 hv5.2 (fun c6 => ?_) (fun c6 => ?_)
    · have dc6 := c6
      have hW := hW.1 dc6
      refine wp_g (n := 1) (pc' := 30) (L' := [some (.ref 158), some (.int (iI x1)), some (.int (iI x2)), some (.int (iI x3))]) (st' := [.int (iI 0)]) rfl ?_
      exact wp_zret rfl rfl (by decide) ⟨_, _, _, _, rfl, (by decide), S, hW⟩
    · have dc6 := c6
      have hW := hW.2 dc6
      refine wp_g (n := 2) (pc' := 30) (L' := [some (.ref 158), some (.int (iI x1)), some (.int (iI x2)), some (.int (iI x3))]) (st' := [.int (iI 1)]) rfl ?_
      exact wp_zret rfl rfl (by decide) ⟨_, _, _, _, rfl, (by decide), S, hW⟩
abbrev W_X9_isOf (E : am_E) (k : Nat) (x1 : Int) (x2 : Int) (x3 : Int) (m : MM) (γ : GM) (t : am_H) (Q : Int → MM → GM → am_H → Prop) : Prop := ((0 ≤ x1 ∧ x1 < 24) ∧ (TI E k 204 [.int (iI (m 162 ((x1).toNat)))] m γ t (fun v3 m3 γ3 t3 => (((v3 = 0) → (Q 0 m3 γ3 t3)) ∧ (¬ (v3 = 0) → ((0 ≤ x1 ∧ x1 < 24) ∧ ((((m3 171 ((x1).toNat)) = x2) → ((0 ≤ x1 ∧ x1 < 24) ∧ ((((m3 172 ((x1).toNat)) = x3) → (Q 1 m3 γ3 t3)) ∧ (¬ ((m3 172 ((x1).toNat)) = x3) → ((0 ≤ x1 ∧ x1 < 24) ∧ ((((m3 171 ((x1).toNat)) = x3) → ((0 ≤ x1 ∧ x1 < 24) ∧ ((((m3 172 ((x1).toNat)) = x2) → (Q 1 m3 γ3 t3)) ∧ (¬ ((m3 172 ((x1).toNat)) = x2) → (Q 0 m3 γ3 t3))))) ∧ (¬ ((m3 171 ((x1).toNat)) = x3) → (Q 0 m3 γ3 t3)))))))) ∧ (¬ ((m3 171 ((x1).toNat)) = x2) → ((0 ≤ x1 ∧ x1 < 24) ∧ ((((m3 171 ((x1).toNat)) = x3) → ((0 ≤ x1 ∧ x1 < 24) ∧ ((((m3 172 ((x1).toNat)) = x2) → (Q 1 m3 γ3 t3)) ∧ (¬ ((m3 172 ((x1).toNat)) = x2) → (Q 0 m3 γ3 t3))))) ∧ (¬ ((m3 171 ((x1).toNat)) = x3) → (Q 0 m3 γ3 t3))))))))))))
theorem vc_X9_isOf {E : am_E} {k : Nat} {x1 : Int} {x2 : Int} {x3 : Int} {m : MM} {γ : GM} {t : am_H} {Q : Int → MM → GM → am_H → Prop} (hx1 : rJ x1) (hx2 : rJ x2) (hx3 : rJ x3) (hW : W_X9_isOf E k x1 x2 x3 m γ t Q) : TI E (k + 1) 244 [.ref 158, .int (iI x1), .int (iI x2), .int (iI x3)] m γ t Q := by
  unfold W_X9_isOf at hW
  intro h S
  refine wp_g (n := 1) (pc' := 1) (L' := [some (.ref 158), some (.int (iI x1)), some (.int (iI x2)), some (.int (iI x3))]) (st' := [.ref 158]) rfl ?_
  refine wp_getf (v := .ref 162) rfl rfl (S.cell 158 (nc rfl)) (by decide) rfl ?_
  refine wp_g (n := 1) (pc' := 5) (L' := [some (.ref 158), some (.int (iI x1)), some (.int (iI x2)), some (.int (iI x3))]) (st' := [.int (iI x1), .ref 162]) rfl ?_
  obtain ⟨p1, hW⟩ := hW
  refine wp_iald (n := 24) (F := (m 162)) rfl (S.cell 162 (nc rfl)) (by decide) p1.1 p1.2 (by decide) ?_
  show wp _ _ _ _ _ [.int (iI (m 162 ((x1).toNat)))] _ _
  have hr2 : rJ (m 162 ((x1).toNat)) := S.rg 162 ((x1).toNat) (nl rfl)
  refine wp_cs (As := [.int (iI (m 162 ((x1).toNat)))]) (rest := []) rfl rfl rfl rfl (Nat.le_of_ble_eq_true rfl) (Nat.le_of_ble_eq_true rfl) (hW _ S) (fun r3 H3 q3 => ?_)
  obtain ⟨v3, m3, γ3, t3, rfl, hv3, S, hW⟩ := q3
  show wp _ _ _ _ _ [.int (iI v3)] _ _
  refine wp_ifI (a := v3) rfl rfl hv3.1 hv3.2 (fun c4 => ?_) (fun c4 => ?_)
  · have dc4 := c4
    have hW := hW.1 dc4
    refine wp_g (n := 1) (pc' := 57) (L' := [some (.ref 158), some (.int (iI x1)), some (.int (iI x2)), some (.int (iI x3))]) (st' := [.int (iI 0)]) rfl ?_
    exact wp_zret rfl rfl (by decide) ⟨_, _, _, _, rfl, (by decide), S, hW⟩
  · have dc4 := c4
    have hW := hW.2 dc4
    refine wp_g (n := 1) (pc' := 13) (L' := [some (.ref 158), some (.int (iI x1)), some (.int (iI x2)), some (.int (iI x3))]) (st' := [.ref 158]) rfl ?_
    refine wp_getf (v := .ref 171) rfl rfl (S.cell 158 (nc rfl)) (by decide) rfl ?_
    refine wp_g (n := 1) (pc' := 17) (L' := [some (.ref 158), some (.int (iI x1)), some (.int (iI x2)), some (.int (iI x3))]) (st' := [.int (iI x1), .ref 171]) rfl ?_
    obtain ⟨p5, hW⟩ := hW
    refine wp_iald (n := 24) (F := (m3 171)) rfl (S.cell 171 (nc rfl)) (by decide) p5.1 p5.2 (by decide) ?_
    show wp _ _ _ _ _ [.int (iI (m3 171 ((x1).toNat)))] _ _
    have hr6 : rJ (m3 171 ((x1).toNat)) := S.rg 171 ((x1).toNat) (nl rfl)
    refine wp_g (n := 1) (pc' := 19) (L' := [some (.ref 158), some (.int (iI x1)), some (.int (iI x2)), some (.int (iI x3))]) (st' := [.int (iI x2), .int (iI (m3 171 ((x1).toNat)))]) rfl ?_
    refine wp_icmpI (a := (m3 171 ((x1).toNat))) (b := x2) rfl rfl hr6.1 hr6.2 hx2.1 hx2.2 (fun c7 => ?_) (fun c7 => ?_)
    · have dc7 := c7
      have hW := hW.2 dc7
      refine wp_g (n := 1) (pc' := 33) (L' := [some (.ref 158), some (.int (iI x1)), some (.int (iI x2)), some (.int (iI x3))]) (st' := [.ref 158]) rfl ?_
      refine wp_getf (v := .ref 171) rfl rfl (S.cell 158 (nc rfl)) (by decide) rfl ?_
      refine wp_g (n := 1) (pc' := 37) (L' := [some (.ref 158), some (.int (iI x1)), some (.int (iI x2)), some (.int (iI x3))]) (st' := [.int (iI x1), .ref 171]) rfl ?_
      obtain ⟨p8, hW⟩ := hW
      refine wp_iald (n := 24) (F := (m3 171)) rfl (S.cell 171 (nc rfl)) (by decide) p8.1 p8.2 (by decide) ?_
      show wp _ _ _ _ _ [.int (iI (m3 171 ((x1).toNat)))] _ _
      refine wp_g (n := 1) (pc' := 39) (L' := [some (.ref 158), some (.int (iI x1)), some (.int (iI x2)), some (.int (iI x3))]) (st' := [.int (iI x3), .int (iI (m3 171 ((x1).toNat)))]) rfl ?_
      refine wp_icmpI (a := (m3 171 ((x1).toNat))) (b := x3) rfl rfl hr6.1 hr6.2 hx3.1 hx3.2 (fun c9 => ?_) (fun c9 => ?_)
      · have dc9 := c9
        have hW := hW.2 dc9
        refine wp_g (n := 1) (pc' := 57) (L' := [some (.ref 158), some (.int (iI x1)), some (.int (iI x2)), some (.int (iI x3))]) (st' := [.int (iI 0)]) rfl ?_
        exact wp_zret rfl rfl (by decide) ⟨_, _, _, _, rfl, (by decide), S, hW⟩
      · have dc9 := (Classical.not_not.mp c9)
        have hW := hW.1 dc9
        refine wp_g (n := 1) (pc' := 43) (L' := [some (.ref 158), some (.int (iI x1)), some (.int (iI x2)), some (.int (iI x3))]) (st' := [.ref 158]) rfl ?_
        refine wp_getf (v := .ref 172) rfl rfl (S.cell 158 (nc rfl)) (by decide) rfl ?_
        refine wp_g (n := 1) (pc' := 47) (L' := [some (.ref 158), some (.int (iI x1)), some (.int (iI x2)), some (.int (iI x3))]) (st' := [.int (iI x1), .ref 172]) rfl ?_
        obtain ⟨p10, hW⟩ := hW
        refine wp_iald (n := 24) (F := (m3 172)) rfl (S.cell 172 (nc rfl)) (by decide) p10.1 p10.2 (by decide) ?_
        show wp _ _ _ _ _ [.int (iI (m3 172 ((x1).toNat)))] _ _
        have hr11 : rJ (m3 172 ((x1).toNat)) := S.rg 172 ((x1).toNat) (nl rfl)
        refine wp_g (n := 1) (pc' := 49) (L' := [some (.ref 158), some (.int (iI x1)), some (.int (iI x2)), some (.int (iI x3))]) (st' := [.int (iI x2), .int (iI (m3 172 ((x1).toNat)))]) rfl ?_
        refine wp_icmpI (a := (m3 172 ((x1).toNat))) (b := x2) rfl rfl hr11.1 hr11.2 hx2.1 hx2.2 (fun c12 => ?_) (fun c12 => ?_)
        · have dc12 := c12
          have hW := hW.2 dc12
          refine wp_g (n := 1) (pc' := 57) (L' := [some (.ref 158), some (.int (iI x1)), some (.int (iI x2)), some (.int (iI x3))]) (st' := [.int (iI 0)]) rfl ?_
          exact wp_zret rfl rfl (by decide) ⟨_, _, _, _, rfl, (by decide), S, hW⟩
        · have dc12 := (Classical.not_not.mp c12)
          have hW := hW.1 dc12
          refine wp_g (n := 2) (pc' := 57) (L' := [some (.ref 158), some (.int (iI x1)), some (.int (iI x2)), some (.int (iI x3))]) (st' := [.int (iI 1)]) rfl ?_
          exact wp_zret rfl rfl (by decide) ⟨_, _, _, _, rfl, (by decide), S, hW⟩
    · have dc7 := (Classical.not_not.mp c7)
      have hW := hW.1 dc7
      refine wp_g (n := 1) (pc' := 23) (L' := [some (.ref 158), some (.int (iI x1)), some (.int (iI x2)), some (.int (iI x3))]) (st' := [.ref 158]) rfl ?_
      refine wp_getf (v := .ref 172) rfl rfl (S.cell 158 (nc rfl)) (by decide) rfl ?_
      refine wp_g (n := 1) (pc' := 27) (L' := [some (.ref 158), some (.int (iI x1)), some (.int (iI x2)), some (.int (iI x3))]) (st' := [.int (iI x1), .ref 172]) rfl ?_
      obtain ⟨p13, hW⟩ := hW
      refine wp_iald (n := 24) (F := (m3 172)) rfl (S.cell 172 (nc rfl)) (by decide) p13.1 p13.2 (by decide) ?_
      show wp _ _ _ _ _ [.int (iI (m3 172 ((x1).toNat)))] _ _
      have hr14 : rJ (m3 172 ((x1).toNat)) := S.rg 172 ((x1).toNat) (nl rfl)
      refine wp_g (n := 1) (pc' := 29) (L' := [some (.ref 158), some (.int (iI x1)), some (.int (iI x2)), some (.int (iI x3))]) (st' := [.int (iI x3), .int (iI (m3 172 ((x1).toNat)))]) rfl ?_
      refine wp_icmpI (a := (m3 172 ((x1).toNat))) (b := x3) rfl rfl hr14.1 hr14.2 hx3.1 hx3.2 (fun c15 => ?_) (fun c15 => ?_)
      · have dc15 := c15
        have hW := hW.1 dc15
        refine wp_g (n := 2) (pc' := 57) (L' := [some (.ref 158), some (.int (iI x1)), some (.int (iI x2)), some (.int (iI x3))]) (st' := [.int (iI 1)]) rfl ?_
        exact wp_zret rfl rfl (by decide) ⟨_, _, _, _, rfl, (by decide), S, hW⟩
      · have dc15 := c15
        have hW := hW.2 dc15
        refine wp_g (n := 1) (pc' := 33) (L' := [some (.ref 158), some (.int (iI x1)), some (.int (iI x2)), some (.int (iI x3))]) (st' := [.ref 158]) rfl ?_
        refine wp_getf (v := .ref 171) rfl rfl (S.cell 158 (nc rfl)) (by decide) rfl ?_
        refine wp_g (n := 1) (pc' := 37) (L' := [some (.ref 158), some (.int (iI x1)), some (.int (iI x2)), some (.int (iI x3))]) (st' := [.int (iI x1), .ref 171]) rfl ?_
        obtain ⟨p16, hW⟩ := hW
        refine wp_iald (n := 24) (F := (m3 171)) rfl (S.cell 171 (nc rfl)) (by decide) p16.1 p16.2 (by decide) ?_
        show wp _ _ _ _ _ [.int (iI (m3 171 ((x1).toNat)))] _ _
        refine wp_g (n := 1) (pc' := 39) (L' := [some (.ref 158), some (.int (iI x1)), some (.int (iI x2)), some (.int (iI x3))]) (st' := [.int (iI x3), .int (iI (m3 171 ((x1).toNat)))]) rfl ?_
        refine wp_icmpI (a := (m3 171 ((x1).toNat))) (b := x3) rfl rfl hr6.1 hr6.2 hx3.1 hx3.2 (fun c17 => ?_) (fun c17 => ?_)
        · have dc17 := c17
          have hW := hW.2 dc17
          refine wp_g (n := 1) (pc' := 57) (L' := [some (.ref 158), some (.int (iI x1)), some (.int (iI x2)), some (.int (iI x3))]) (st' := [.int (iI 0)]) rfl ?_
          exact wp_zret rfl rfl (by decide) ⟨_, _, _, _, rfl, (by decide), S, hW⟩
        · have dc17 := (Classical.not_not.mp c17)
          have hW := hW.1 dc17
          refine wp_g (n := 1) (pc' := 43) (L' := [some (.ref 158), some (.int (iI x1)), some (.int (iI x2)), some (.int (iI x3))]) (st' := [.ref 158]) rfl ?_
          refine wp_getf (v := .ref 172) rfl rfl (S.cell 158 (nc rfl)) (by decide) rfl ?_
          refine wp_g (n := 1) (pc' := 47) (L' := [some (.ref 158), some (.int (iI x1)), some (.int (iI x2)), some (.int (iI x3))]) (st' := [.int (iI x1), .ref 172]) rfl ?_
          obtain ⟨p18, hW⟩ := hW
          refine wp_iald (n := 24) (F := (m3 172)) rfl (S.cell 172 (nc rfl)) (by decide) p18.1 p18.2 (by decide) ?_
          show wp _ _ _ _ _ [.int (iI (m3 172 ((x1).toNat)))] _ _
          refine wp_g (n := 1) (pc' := 49) (L' := [some (.ref 158), some (.int (iI x1)), some (.int (iI x2)), some (.int (iI x3))]) (st' := [.int (iI x2), .int (iI (m3 172 ((x1).toNat)))]) rfl ?_
          refine wp_icmpI (a := (m3 172 ((x1).toNat))) (b := x2) rfl rfl hr14.1 hr14.2 hx2.1 hx2.2 (fun c19 => ?_) (fun c19 => ?_)
          · have dc19 := c19
            have hW := hW.2 dc19
            refine wp_g (n := 1) (pc' := 57) (L' := [some (.ref 158), some (.int (iI x1)), some (.int (iI x2)), some (.int (iI x3))]) (st' := [.int (iI 0)]) rfl ?_
            exact wp_zret rfl rfl (by decide) ⟨_, _, _, _, rfl, (by decide), S, hW⟩
          · have dc19 := (Classical.not_not.mp c19)
            have hW := hW.1 dc19
            refine wp_g (n := 2) (pc' := 57) (L' := [some (.ref 158), some (.int (iI x1)), some (.int (iI x2)), some (.int (iI x3))]) (st' := [.int (iI 1)]) rfl ?_
            exact wp_zret rfl rfl (by decide) ⟨_, _, _, _, rfl, (by decide), S, hW⟩
def hd_X9_meets_19 (E : am_E) (k : Nat) (x1 : Int) (x2 : Int) (x3 : Int) (y2 : Int) (y3 : Int) (y4 : Int) (y5 : Int) (m : MM) (γ : GM) (t : am_H) (Q : Int → MM → GM → am_H → Prop) : Prop := ∀ (z1 : Option Value), TT (pI Q) E (k + 1) 245 19 [some (.ref 158), z1, some (.int (iI y2)), some (.int (iI y3)), some (.int (iI y4)), some (.int (iI y5))] [] m γ t
abbrev W_X9_meets (E : am_E) (k : Nat) (x1 : Int) (x2 : Int) (x3 : Int) (m : MM) (γ : GM) (t : am_H) (Q : Int → MM → GM → am_H → Prop) : Prop := (TI E k 243 [.ref 158, .int (iI x1), .int (iI x2), .int (iI x3)] m γ t (fun v1 m1 γ1 t1 => (((v1 = 0) → (Q (-2) m1 γ1 t1)) ∧ (¬ (v1 = 0) → (hd_X9_meets_19 E k x1 x2 x3 x2 x3 0 0 m1 γ1 t1 Q)))))
abbrev W_X9_meets_19 (E : am_E) (k : Nat) (x1 : Int) (x2 : Int) (x3 : Int) (y2 : Int) (y3 : Int) (y4 : Int) (y5 : Int) (m : MM) (γ : GM) (t : am_H) (Q : Int → MM → GM → am_H → Prop) : Prop := (((y5 < (m 158 6)) → (TI E k 244 [.ref 158, .int (iI y5), .int (iI y2), .int (iI y3)] m γ t (fun v3 m3 γ3 t3 => (((v3 = 0) → (hd_X9_meets_19 E k x1 x2 x3 y2 y3 (y4 + 0) (y5 + 1) m3 γ3 t3 Q)) ∧ (¬ (v3 = 0) → (hd_X9_meets_19 E k x1 x2 x3 y2 y3 (y4 + 1) (y5 + 1) m3 γ3 t3 Q)))))) ∧ (¬ (y5 < (m 158 6)) → (Q y4 m γ t)))
theorem vc_X9_meets {E : am_E} {k : Nat} {x1 : Int} {x2 : Int} {x3 : Int} {m : MM} {γ : GM} {t : am_H} {Q : Int → MM → GM → am_H → Prop} (hx1 : rJ x1) (hx2 : rJ x2) (hx3 : rJ x3) (hW : W_X9_meets E k x1 x2 x3 m γ t Q) : TI E (k + 1) 245 [.ref 158, .int (iI x1), .int (iI x2), .int (iI x3)] m γ t Q := by
  unfold W_X9_meets at hW
  intro h S
  refine wp_g (n := 4) (pc' := 4) (L' := [some (.ref 158), some (.int (iI x1)), some (.int (iI x2)), some (.int (iI x3)), none, none]) (st' := [.int (iI x3), .int (iI x2), .int (iI x1), .ref 158]) rfl ?_
  refine wp_cv (As := [.int (iI x1), .int (iI x2), .int (iI x3)]) (rest := []) rfl rfl (S.cell 158 (nc rfl)) (by decide) rfl rfl rfl (Nat.le_of_ble_eq_true rfl) (Nat.le_of_ble_eq_true rfl) (hW _ S) (fun r1 H1 q1 => ?_)
  obtain ⟨v1, m1, γ1, t1, rfl, hv1, S, hW⟩ := q1
  show wp _ _ _ _ _ [.int (iI v1)] _ _
  refine wp_ifI (a := v1) rfl rfl hv1.1 hv1.2 (fun c2 => ?_) (fun c2 => ?_)
  · have dc2 := c2
    have hW := hW.2 dc2
    refine wp_g (n := 4) (pc' := 19) (L' := [some (.ref 158), some (.int (iI x1)), some (.int (iI x2)), some (.int (iI x3)), some (.int (iI 0)), some (.int (iI 0))]) (st' := []) rfl ?_
    exact hW (some (.int (iI x1))) _ S
  · have dc2 := (Classical.not_not.mp c2)
    have hW := hW.1 dc2
    refine wp_g (n := 1) (pc' := 12) (L' := [some (.ref 158), some (.int (iI x1)), some (.int (iI x2)), some (.int (iI x3)), none, none]) (st' := [.int (iI (-2))]) rfl ?_
    exact wp_iret rfl rfl ⟨_, _, _, _, rfl, (by decide), S, hW⟩
theorem vc_X9_meets_19 {E : am_E} {k : Nat} {x1 : Int} {x2 : Int} {x3 : Int} {y2 : Int} {y3 : Int} {y4 : Int} {y5 : Int} {m : MM} {γ : GM} {t : am_H} {Q : Int → MM → GM → am_H → Prop} (hx1 : rJ x1) (hx2 : rJ x2) (hx3 : rJ x3) (hy2 : rJ y2) (hy3 : rJ y3) (hy4 : rJ y4) (hy5 : rJ y5) (hW : W_X9_meets_19 E k x1 x2 x3 y2 y3 y4 y5 m γ t Q) : hd_X9_meets_19 E k x1 x2 x3 y2 y3 y4 y5 m γ t Q := by
  unfold W_X9_meets_19 at hW
  intro z1 h S
  refine wp_g (n := 2) (pc' := 22) (L' := [some (.ref 158), z1, some (.int (iI y2)), some (.int (iI y3)), some (.int (iI y4)), some (.int (iI y5))]) (st' := [.ref 158, .int (iI y5)]) rfl ?_
  refine wp_getf (v := .int (iI (m 158 6))) rfl rfl (S.cell 158 (nc rfl)) (by decide) rfl ?_
  have hr1 : rJ (m 158 6) := S.rg 158 6 (nl rfl)
  refine wp_icmpI (a := y5) (b := (m 158 6)) rfl rfl hy5.1 hy5.2 hr1.1 hr1.2 (fun c2 => ?_) (fun c2 => ?_)
  · have dc2 := (Int.not_lt.mpr c2)
    have hW := hW.2 dc2
    refine wp_g (n := 1) (pc' := 57) (L' := [some (.ref 158), z1, some (.int (iI y2)), some (.int (iI y3)), some (.int (iI y4)), some (.int (iI y5))]) (st' := [.int (iI y4)]) rfl ?_
    exact wp_iret rfl rfl ⟨_, _, _, _, rfl, hy4, S, hW⟩
  · have dc2 := (Int.not_le.mp c2)
    have hW := hW.1 dc2
    refine wp_g (n := 5) (pc' := 35) (L' := [some (.ref 158), z1, some (.int (iI y2)), some (.int (iI y3)), some (.int (iI y4)), some (.int (iI y5))]) (st' := [.int (iI y3), .int (iI y2), .int (iI y5), .ref 158, .int (iI y4)]) rfl ?_
    refine wp_cv (As := [.int (iI y5), .int (iI y2), .int (iI y3)]) (rest := [.int (iI y4)]) rfl rfl (S.cell 158 (nc rfl)) (by decide) rfl rfl rfl (Nat.le_of_ble_eq_true rfl) (Nat.le_of_ble_eq_true rfl) (hW _ S) (fun r3 H3 q3 => ?_)
    obtain ⟨v3, m3, γ3, t3, rfl, hv3, S, hW⟩ := q3
    show wp _ _ _ _ _ [.int (iI v3), .int (iI y4)] _ _
    refine wp_ifI (a := v3) rfl rfl hv3.1 hv3.2 (fun c4 => ?_) (fun c4 => ?_)
    · have dc4 := c4
      have hW := hW.1 dc4
      refine wp_g (n := 1) (pc' := 46) (L' := [some (.ref 158), z1, some (.int (iI y2)), some (.int (iI y3)), some (.int (iI y4)), some (.int (iI y5))]) (st' := [.int (iI 0), .int (iI y4)]) rfl ?_
      refine wp_add (a := y4) (b := 0) rfl ?_
      refine wp_g (n := 1) (pc' := 49) (L' := [some (.ref 158), z1, some (.int (iI y2)), some (.int (iI y3)), some (.int (iI (y4 + 0))), some (.int (iI y5))]) (st' := []) rfl ?_
      refine wp_iinc (L' := [some (.ref 158), z1, some (.int (iI y2)), some (.int (iI y3)), some (.int (iI (y4 + 0))), some (.int (iI (y5 + 1)))]) (a := y5) rfl rfl rfl ?_
      refine wp_g (n := 1) (pc' := 19) (L' := [some (.ref 158), z1, some (.int (iI y2)), some (.int (iI y3)), some (.int (iI (y4 + 0))), some (.int (iI (y5 + 1)))]) (st' := []) rfl ?_
      exact hW z1 _ S
    · have dc4 := c4
      have hW := hW.2 dc4
      refine wp_g (n := 2) (pc' := 46) (L' := [some (.ref 158), z1, some (.int (iI y2)), some (.int (iI y3)), some (.int (iI y4)), some (.int (iI y5))]) (st' := [.int (iI 1), .int (iI y4)]) rfl ?_
      refine wp_add (a := y4) (b := 1) rfl ?_
      refine wp_g (n := 1) (pc' := 49) (L' := [some (.ref 158), z1, some (.int (iI y2)), some (.int (iI y3)), some (.int (iI (y4 + 1))), some (.int (iI y5))]) (st' := []) rfl ?_
      refine wp_iinc (L' := [some (.ref 158), z1, some (.int (iI y2)), some (.int (iI y3)), some (.int (iI (y4 + 1))), some (.int (iI (y5 + 1)))]) (a := y5) rfl rfl rfl ?_
      refine wp_g (n := 1) (pc' := 19) (L' := [some (.ref 158), z1, some (.int (iI y2)), some (.int (iI y3)), some (.int (iI (y4 + 1))), some (.int (iI (y5 + 1)))]) (st' := []) rfl ?_
      exact hW z1 _ S
def hd_X9_over_19 (E : am_E) (k : Nat) (x1 : Int) (x2 : Int) (x3 : Int) (y2 : Int) (y3 : Int) (y4 : Int) (y5 : Int) (m : MM) (γ : GM) (t : am_H) (Q : Int → MM → GM → am_H → Prop) : Prop := ∀ (z1 : Option Value), TT (pI Q) E (k + 1) 246 19 [some (.ref 158), z1, some (.int (iI y2)), some (.int (iI y3)), some (.int (iI y4)), some (.int (iI y5))] [] m γ t
abbrev W_X9_over (E : am_E) (k : Nat) (x1 : Int) (x2 : Int) (x3 : Int) (m : MM) (γ : GM) (t : am_H) (Q : Int → MM → GM → am_H → Prop) : Prop := (TI E k 243 [.ref 158, .int (iI x1), .int (iI x2), .int (iI x3)] m γ t (fun v1 m1 γ1 t1 => (((v1 = 0) → (Q (-2) m1 γ1 t1)) ∧ (¬ (v1 = 0) → (hd_X9_over_19 E k x1 x2 x3 x2 x3 0 0 m1 γ1 t1 Q)))))
abbrev W_X9_over_19 (E : am_E) (k : Nat) (x1 : Int) (x2 : Int) (x3 : Int) (y2 : Int) (y3 : Int) (y4 : Int) (y5 : Int) (m : MM) (γ : GM) (t : am_H) (Q : Int → MM → GM → am_H → Prop) : Prop := (((y5 < (m 158 6)) → (TI E k 244 [.ref 158, .int (iI y5), .int (iI y2), .int (iI y3)] m γ t (fun v3 m3 γ3 t3 => (((v3 = 0) → (hd_X9_over_19 E k x1 x2 x3 y2 y3 (y4 + 0) (y5 + 1) m3 γ3 t3 Q)) ∧ (¬ (v3 = 0) → ((0 ≤ y5 ∧ y5 < 24) ∧ ((((m3 171 ((y5).toNat)) = y2) → (hd_X9_over_19 E k x1 x2 x3 y2 y3 (y4 + 1) (y5 + 1) m3 γ3 t3 Q)) ∧ (¬ ((m3 171 ((y5).toNat)) = y2) → (hd_X9_over_19 E k x1 x2 x3 y2 y3 (y4 + 0) (y5 + 1) m3 γ3 t3 Q))))))))) ∧ (¬ (y5 < (m 158 6)) → (Q y4 m γ t)))
theorem vc_X9_over {E : am_E} {k : Nat} {x1 : Int} {x2 : Int} {x3 : Int} {m : MM} {γ : GM} {t : am_H} {Q : Int → MM → GM → am_H → Prop} (hx1 : rJ x1) (hx2 : rJ x2) (hx3 : rJ x3) (hW : W_X9_over E k x1 x2 x3 m γ t Q) : TI E (k + 1) 246 [.ref 158, .int (iI x1), .int (iI x2), .int (iI x3)] m γ t Q := by
  unfold W_X9_over at hW
  intro h S
  refine wp_g (n := 4) (pc' := 4) (L' := [some (.ref 158), some (.int (iI x1)), some (.int (iI x2)), some (.int (iI x3)), none, none]) (st' := [.int (iI x3), .int (iI x2), .int (iI x1), .ref 158]) rfl ?_
  refine wp_cv (As := [.int (iI x1), .int (iI x2), .int (iI x3)]) (rest := []) rfl rfl (S.cell 158 (nc rfl)) (by decide) rfl rfl rfl (Nat.le_of_ble_eq_true rfl) (Nat.le_of_ble_eq_true rfl) (hW _ S) (fun r1 H1 q1 => ?_)
  obtain ⟨v1, m1, γ1, t1, rfl, hv1, S, hW⟩ := q1
  show wp _ _ _ _ _ [.int (iI v1)] _ _
  refine wp_ifI (a := v1) rfl rfl hv1.1 hv1.2 (fun c2 => ?_) (fun c2 => ?_)
  · have dc2 := c2
    have hW := hW.2 dc2
    refine wp_g (n := 4) (pc' := 19) (L' := [some (.ref 158), some (.int (iI x1)), some (.int (iI x2)), some (.int (iI x3)), some (.int (iI 0)), some (.int (iI 0))]) (st' := []) rfl ?_
    exact hW (some (.int (iI x1))) _ S
  · have dc2 := (Classical.not_not.mp c2)
    have hW := hW.1 dc2
    refine wp_g (n := 1) (pc' := 12) (L' := [some (.ref 158), some (.int (iI x1)), some (.int (iI x2)), some (.int (iI x3)), none, none]) (st' := [.int (iI (-2))]) rfl ?_
    exact wp_iret rfl rfl ⟨_, _, _, _, rfl, (by decide), S, hW⟩
theorem vc_X9_over_19 {E : am_E} {k : Nat} {x1 : Int} {x2 : Int} {x3 : Int} {y2 : Int} {y3 : Int} {y4 : Int} {y5 : Int} {m : MM} {γ : GM} {t : am_H} {Q : Int → MM → GM → am_H → Prop} (hx1 : rJ x1) (hx2 : rJ x2) (hx3 : rJ x3) (hy2 : rJ y2) (hy3 : rJ y3) (hy4 : rJ y4) (hy5 : rJ y5) (hW : W_X9_over_19 E k x1 x2 x3 y2 y3 y4 y5 m γ t Q) : hd_X9_over_19 E k x1 x2 x3 y2 y3 y4 y5 m γ t Q := by
  unfold W_X9_over_19 at hW
  intro z1 h S
  refine wp_g (n := 2) (pc' := 22) (L' := [some (.ref 158), z1, some (.int (iI y2)), some (.int (iI y3)), some (.int (iI y4)), some (.int (iI y5))]) (st' := [.ref 158, .int (iI y5)]) rfl ?_
  refine wp_getf (v := .int (iI (m 158 6))) rfl rfl (S.cell 158 (nc rfl)) (by decide) rfl ?_
  have hr1 : rJ (m 158 6) := S.rg 158 6 (nl rfl)
  refine wp_icmpI (a := y5) (b := (m 158 6)) rfl rfl hy5.1 hy5.2 hr1.1 hr1.2 (fun c2 => ?_) (fun c2 => ?_)
  · have dc2 := (Int.not_lt.mpr c2)
    have hW := hW.2 dc2
    refine wp_g (n := 1) (pc' := 68) (L' := [some (.ref 158), z1, some (.int (iI y2)), some (.int (iI y3)), some (.int (iI y4)), some (.int (iI y5))]) (st' := [.int (iI y4)]) rfl ?_
    exact wp_iret rfl rfl ⟨_, _, _, _, rfl, hy4, S, hW⟩
  · have dc2 := (Int.not_le.mp c2)
    have hW := hW.1 dc2
    refine wp_g (n := 5) (pc' := 35) (L' := [some (.ref 158), z1, some (.int (iI y2)), some (.int (iI y3)), some (.int (iI y4)), some (.int (iI y5))]) (st' := [.int (iI y3), .int (iI y2), .int (iI y5), .ref 158, .int (iI y4)]) rfl ?_
    refine wp_cv (As := [.int (iI y5), .int (iI y2), .int (iI y3)]) (rest := [.int (iI y4)]) rfl rfl (S.cell 158 (nc rfl)) (by decide) rfl rfl rfl (Nat.le_of_ble_eq_true rfl) (Nat.le_of_ble_eq_true rfl) (hW _ S) (fun r3 H3 q3 => ?_)
    obtain ⟨v3, m3, γ3, t3, rfl, hv3, S, hW⟩ := q3
    show wp _ _ _ _ _ [.int (iI v3), .int (iI y4)] _ _
    refine wp_ifI (a := v3) rfl rfl hv3.1 hv3.2 (fun c4 => ?_) (fun c4 => ?_)
    · have dc4 := c4
      have hW := hW.1 dc4
      refine wp_g (n := 1) (pc' := 57) (L' := [some (.ref 158), z1, some (.int (iI y2)), some (.int (iI y3)), some (.int (iI y4)), some (.int (iI y5))]) (st' := [.int (iI 0), .int (iI y4)]) rfl ?_
      refine wp_add (a := y4) (b := 0) rfl ?_
      refine wp_g (n := 1) (pc' := 60) (L' := [some (.ref 158), z1, some (.int (iI y2)), some (.int (iI y3)), some (.int (iI (y4 + 0))), some (.int (iI y5))]) (st' := []) rfl ?_
      refine wp_iinc (L' := [some (.ref 158), z1, some (.int (iI y2)), some (.int (iI y3)), some (.int (iI (y4 + 0))), some (.int (iI (y5 + 1)))]) (a := y5) rfl rfl rfl ?_
      refine wp_g (n := 1) (pc' := 19) (L' := [some (.ref 158), z1, some (.int (iI y2)), some (.int (iI y3)), some (.int (iI (y4 + 0))), some (.int (iI (y5 + 1)))]) (st' := []) rfl ?_
      exact hW z1 _ S
    · have dc4 := c4
      have hW := hW.2 dc4
      refine wp_g (n := 1) (pc' := 42) (L' := [some (.ref 158), z1, some (.int (iI y2)), some (.int (iI y3)), some (.int (iI y4)), some (.int (iI y5))]) (st' := [.ref 158, .int (iI y4)]) rfl ?_
      refine wp_getf (v := .ref 171) rfl rfl (S.cell 158 (nc rfl)) (by decide) rfl ?_
      refine wp_g (n := 1) (pc' := 47) (L' := [some (.ref 158), z1, some (.int (iI y2)), some (.int (iI y3)), some (.int (iI y4)), some (.int (iI y5))]) (st' := [.int (iI y5), .ref 171, .int (iI y4)]) rfl ?_
      obtain ⟨p5, hW⟩ := hW
      refine wp_iald (n := 24) (F := (m3 171)) rfl (S.cell 171 (nc rfl)) (by decide) p5.1 p5.2 (by decide) ?_
      show wp _ _ _ _ _ [.int (iI (m3 171 ((y5).toNat))), .int (iI y4)] _ _
      have hr6 : rJ (m3 171 ((y5).toNat)) := S.rg 171 ((y5).toNat) (nl rfl)
      refine wp_g (n := 1) (pc' := 49) (L' := [some (.ref 158), z1, some (.int (iI y2)), some (.int (iI y3)), some (.int (iI y4)), some (.int (iI y5))]) (st' := [.int (iI y2), .int (iI (m3 171 ((y5).toNat))), .int (iI y4)]) rfl ?_
      refine wp_icmpI (a := (m3 171 ((y5).toNat))) (b := y2) rfl rfl hr6.1 hr6.2 hy2.1 hy2.2 (fun c7 => ?_) (fun c7 => ?_)
      · have dc7 := c7
        have hW := hW.2 dc7
        refine wp_g (n := 1) (pc' := 57) (L' := [some (.ref 158), z1, some (.int (iI y2)), some (.int (iI y3)), some (.int (iI y4)), some (.int (iI y5))]) (st' := [.int (iI 0), .int (iI y4)]) rfl ?_
        refine wp_add (a := y4) (b := 0) rfl ?_
        refine wp_g (n := 1) (pc' := 60) (L' := [some (.ref 158), z1, some (.int (iI y2)), some (.int (iI y3)), some (.int (iI (y4 + 0))), some (.int (iI y5))]) (st' := []) rfl ?_
        refine wp_iinc (L' := [some (.ref 158), z1, some (.int (iI y2)), some (.int (iI y3)), some (.int (iI (y4 + 0))), some (.int (iI (y5 + 1)))]) (a := y5) rfl rfl rfl ?_
        refine wp_g (n := 1) (pc' := 19) (L' := [some (.ref 158), z1, some (.int (iI y2)), some (.int (iI y3)), some (.int (iI (y4 + 0))), some (.int (iI (y5 + 1)))]) (st' := []) rfl ?_
        exact hW z1 _ S
      · have dc7 := (Classical.not_not.mp c7)
        have hW := hW.1 dc7
        refine wp_g (n := 2) (pc' := 57) (L' := [some (.ref 158), z1, some (.int (iI y2)), some (.int (iI y3)), some (.int (iI y4)), some (.int (iI y5))]) (st' := [.int (iI 1), .int (iI y4)]) rfl ?_
        refine wp_add (a := y4) (b := 1) rfl ?_
        refine wp_g (n := 1) (pc' := 60) (L' := [some (.ref 158), z1, some (.int (iI y2)), some (.int (iI y3)), some (.int (iI (y4 + 1))), some (.int (iI y5))]) (st' := []) rfl ?_
        refine wp_iinc (L' := [some (.ref 158), z1, some (.int (iI y2)), some (.int (iI y3)), some (.int (iI (y4 + 1))), some (.int (iI (y5 + 1)))]) (a := y5) rfl rfl rfl ?_
        refine wp_g (n := 1) (pc' := 19) (L' := [some (.ref 158), z1, some (.int (iI y2)), some (.int (iI y3)), some (.int (iI (y4 + 1))), some (.int (iI (y5 + 1)))]) (st' := []) rfl ?_
        exact hW z1 _ S
abbrev W_X9_sign (E : am_E) (k : Nat) (x1 : Int) (x2 : Int) (m : MM) (γ : GM) (t : am_H) (Q : Int → MM → GM → am_H → Prop) : Prop := (TI E k 219 [.ref 158, .int (iI x1), .int (iI x2)] m γ t (fun v1 m1 γ1 t1 => (((v1 = 0) → (Q (-2) m1 γ1 t1)) ∧ (¬ (v1 = 0) → ((0 ≤ x2 ∧ x2 < 24) ∧ (TI E k 204 [.int (iI (m1 162 ((x2).toNat)))] m1 γ1 t1 (fun v5 m5 γ5 t5 => (((v5 = 0) → (Q (-1) m5 γ5 t5)) ∧ (¬ (v5 = 0) → (TI E k 214 [.ref 158, .int (iI x2)] m5 γ5 t5 (fun v7 m7 γ7 t7 => (((v7 ≤ 0) → (Q 0 m7 γ7 t7)) ∧ (¬ (v7 ≤ 0) → (Q 1 m7 γ7 t7))))))))))))))
theorem vc_X9_sign {E : am_E} {k : Nat} {x1 : Int} {x2 : Int} {m : MM} {γ : GM} {t : am_H} {Q : Int → MM → GM → am_H → Prop} (hx1 : rJ x1) (hx2 : rJ x2) (hW : W_X9_sign E k x1 x2 m γ t Q) : TI E (k + 1) 247 [.ref 158, .int (iI x1), .int (iI x2)] m γ t Q := by
  unfold W_X9_sign at hW
  intro h S
  refine wp_g (n := 3) (pc' := 3) (L' := [some (.ref 158), some (.int (iI x1)), some (.int (iI x2))]) (st' := [.int (iI x2), .int (iI x1), .ref 158]) rfl ?_
  refine wp_cv (As := [.int (iI x1), .int (iI x2)]) (rest := []) rfl rfl (S.cell 158 (nc rfl)) (by decide) rfl rfl rfl (Nat.le_of_ble_eq_true rfl) (Nat.le_of_ble_eq_true rfl) (hW _ S) (fun r1 H1 q1 => ?_)
  obtain ⟨v1, m1, γ1, t1, rfl, hv1, S, hW⟩ := q1
  show wp _ _ _ _ _ [.int (iI v1)] _ _
  refine wp_ifI (a := v1) rfl rfl hv1.1 hv1.2 (fun c2 => ?_) (fun c2 => ?_)
  · have dc2 := c2
    have hW := hW.2 dc2
    refine wp_g (n := 1) (pc' := 13) (L' := [some (.ref 158), some (.int (iI x1)), some (.int (iI x2))]) (st' := [.ref 158]) rfl ?_
    refine wp_getf (v := .ref 162) rfl rfl (S.cell 158 (nc rfl)) (by decide) rfl ?_
    refine wp_g (n := 1) (pc' := 17) (L' := [some (.ref 158), some (.int (iI x1)), some (.int (iI x2))]) (st' := [.int (iI x2), .ref 162]) rfl ?_
    obtain ⟨p3, hW⟩ := hW
    refine wp_iald (n := 24) (F := (m1 162)) rfl (S.cell 162 (nc rfl)) (by decide) p3.1 p3.2 (by decide) ?_
    show wp _ _ _ _ _ [.int (iI (m1 162 ((x2).toNat)))] _ _
    have hr4 : rJ (m1 162 ((x2).toNat)) := S.rg 162 ((x2).toNat) (nl rfl)
    refine wp_cs (As := [.int (iI (m1 162 ((x2).toNat)))]) (rest := []) rfl rfl rfl rfl (Nat.le_of_ble_eq_true rfl) (Nat.le_of_ble_eq_true rfl) (hW _ S) (fun r5 H5 q5 => ?_)
    obtain ⟨v5, m5, γ5, t5, rfl, hv5, S, hW⟩ := q5
    show wp _ _ _ _ _ [.int (iI v5)] _ _
    refine wp_ifI (a := v5) rfl rfl hv5.1 hv5.2 (fun c6 => ?_) (fun c6 => ?_)
    · have dc6 := c6
      have hW := hW.2 dc6
      refine wp_g (n := 2) (pc' := 30) (L' := [some (.ref 158), some (.int (iI x1)), some (.int (iI x2))]) (st' := [.int (iI x2), .ref 158]) rfl ?_
      refine wp_cv (As := [.int (iI x2)]) (rest := []) rfl rfl (S.cell 158 (nc rfl)) (by decide) rfl rfl rfl (Nat.le_of_ble_eq_true rfl) (Nat.le_of_ble_eq_true rfl) (hW _ S) (fun r7 H7 q7 => ?_)
      obtain ⟨v7, m7, γ7, t7, rfl, hv7, S, hW⟩ := q7
      show wp _ _ _ _ _ [.int (iI v7)] _ _
      refine wp_ifI (a := v7) rfl rfl hv7.1 hv7.2 (fun c8 => ?_) (fun c8 => ?_)
      · have dc8 := c8
        have hW := hW.1 dc8
        refine wp_g (n := 1) (pc' := 41) (L' := [some (.ref 158), some (.int (iI x1)), some (.int (iI x2))]) (st' := [.int (iI 0)]) rfl ?_
        exact wp_iret rfl rfl ⟨_, _, _, _, rfl, (by decide), S, hW⟩
      · have dc8 := c8
        have hW := hW.2 dc8
        refine wp_g (n := 2) (pc' := 41) (L' := [some (.ref 158), some (.int (iI x1)), some (.int (iI x2))]) (st' := [.int (iI 1)]) rfl ?_
        exact wp_iret rfl rfl ⟨_, _, _, _, rfl, (by decide), S, hW⟩
    · have dc6 := (Classical.not_not.mp c6)
      have hW := hW.1 dc6
      refine wp_g (n := 2) (pc' := 41) (L' := [some (.ref 158), some (.int (iI x1)), some (.int (iI x2))]) (st' := [.int (iI (-1))]) rfl ?_
      exact wp_iret rfl rfl ⟨_, _, _, _, rfl, (by decide), S, hW⟩
  · have dc2 := (Classical.not_not.mp c2)
    have hW := hW.1 dc2
    refine wp_g (n := 1) (pc' := 11) (L' := [some (.ref 158), some (.int (iI x1)), some (.int (iI x2))]) (st' := [.int (iI (-2))]) rfl ?_
    exact wp_iret rfl rfl ⟨_, _, _, _, rfl, (by decide), S, hW⟩
def hd_X9_signsOf_5 (E : am_E) (k : Nat) (x1 : Int) (x2 : Int) (y1 : Int) (y2 : Int) (y3 : Int) (y4 : Int) (m : MM) (γ : GM) (t : am_H) (Q : Int → MM → GM → am_H → Prop) : Prop := TT (pI Q) E (k + 1) 248 5 [some (.ref 158), some (.int (iI y1)), some (.int (iI y2)), some (.int (iI y3)), some (.int (iI y4))] [] m γ t
abbrev W_X9_signsOf (E : am_E) (k : Nat) (x1 : Int) (x2 : Int) (m : MM) (γ : GM) (t : am_H) (Q : Int → MM → GM → am_H → Prop) : Prop := (hd_X9_signsOf_5 E k x1 x2 x1 x2 0 0 m γ t Q)
abbrev W_X9_signsOf_5 (E : am_E) (k : Nat) (x1 : Int) (x2 : Int) (y1 : Int) (y2 : Int) (y3 : Int) (y4 : Int) (m : MM) (γ : GM) (t : am_H) (Q : Int → MM → GM → am_H → Prop) : Prop := (((y4 < (m 158 6)) → (TI E k 244 [.ref 158, .int (iI y4), .int (iI y1), .int (iI y2)] m γ t (fun v3 m3 γ3 t3 => (((v3 = 0) → (hd_X9_signsOf_5 E k x1 x2 y1 y2 (y3 + 0) (y4 + 1) m3 γ3 t3 Q)) ∧ (¬ (v3 = 0) → (TI E k 214 [.ref 158, .int (iI y4)] m3 γ3 t3 (fun v5 m5 γ5 t5 => (hd_X9_signsOf_5 E k x1 x2 y1 y2 (y3 + v5) (y4 + 1) m5 γ5 t5 Q)))))))) ∧ (¬ (y4 < (m 158 6)) → (Q y3 m γ t)))
theorem vc_X9_signsOf {E : am_E} {k : Nat} {x1 : Int} {x2 : Int} {m : MM} {γ : GM} {t : am_H} {Q : Int → MM → GM → am_H → Prop} (hx1 : rJ x1) (hx2 : rJ x2) (hW : W_X9_signsOf E k x1 x2 m γ t Q) : TI E (k + 1) 248 [.ref 158, .int (iI x1), .int (iI x2)] m γ t Q := by
  unfold W_X9_signsOf at hW
  intro h S
  refine wp_g (n := 4) (pc' := 5) (L' := [some (.ref 158), some (.int (iI x1)), some (.int (iI x2)), some (.int (iI 0)), some (.int (iI 0))]) (st' := []) rfl ?_
  exact hW _ S
theorem vc_X9_signsOf_5 {E : am_E} {k : Nat} {x1 : Int} {x2 : Int} {y1 : Int} {y2 : Int} {y3 : Int} {y4 : Int} {m : MM} {γ : GM} {t : am_H} {Q : Int → MM → GM → am_H → Prop} (hx1 : rJ x1) (hx2 : rJ x2) (hy1 : rJ y1) (hy2 : rJ y2) (hy3 : rJ y3) (hy4 : rJ y4) (hW : W_X9_signsOf_5 E k x1 x2 y1 y2 y3 y4 m γ t Q) : hd_X9_signsOf_5 E k x1 x2 y1 y2 y3 y4 m γ t Q := by
  unfold W_X9_signsOf_5 at hW
  intro h S
  refine wp_g (n := 2) (pc' := 8) (L' := [some (.ref 158), some (.int (iI y1)), some (.int (iI y2)), some (.int (iI y3)), some (.int (iI y4))]) (st' := [.ref 158, .int (iI y4)]) rfl ?_
  refine wp_getf (v := .int (iI (m 158 6))) rfl rfl (S.cell 158 (nc rfl)) (by decide) rfl ?_
  have hr1 : rJ (m 158 6) := S.rg 158 6 (nl rfl)
  refine wp_icmpI (a := y4) (b := (m 158 6)) rfl rfl hy4.1 hy4.2 hr1.1 hr1.2 (fun c2 => ?_) (fun c2 => ?_)
  · have dc2 := (Int.not_lt.mpr c2)
    have hW := hW.2 dc2
    refine wp_g (n := 1) (pc' := 45) (L' := [some (.ref 158), some (.int (iI y1)), some (.int (iI y2)), some (.int (iI y3)), some (.int (iI y4))]) (st' := [.int (iI y3)]) rfl ?_
    exact wp_iret rfl rfl ⟨_, _, _, _, rfl, hy3, S, hW⟩
  · have dc2 := (Int.not_le.mp c2)
    have hW := hW.1 dc2
    refine wp_g (n := 5) (pc' := 20) (L' := [some (.ref 158), some (.int (iI y1)), some (.int (iI y2)), some (.int (iI y3)), some (.int (iI y4))]) (st' := [.int (iI y2), .int (iI y1), .int (iI y4), .ref 158, .int (iI y3)]) rfl ?_
    refine wp_cv (As := [.int (iI y4), .int (iI y1), .int (iI y2)]) (rest := [.int (iI y3)]) rfl rfl (S.cell 158 (nc rfl)) (by decide) rfl rfl rfl (Nat.le_of_ble_eq_true rfl) (Nat.le_of_ble_eq_true rfl) (hW _ S) (fun r3 H3 q3 => ?_)
    obtain ⟨v3, m3, γ3, t3, rfl, hv3, S, hW⟩ := q3
    show wp _ _ _ _ _ [.int (iI v3), .int (iI y3)] _ _
    refine wp_ifI (a := v3) rfl rfl hv3.1 hv3.2 (fun c4 => ?_) (fun c4 => ?_)
    · have dc4 := c4
      have hW := hW.1 dc4
      refine wp_g (n := 1) (pc' := 36) (L' := [some (.ref 158), some (.int (iI y1)), some (.int (iI y2)), some (.int (iI y3)), some (.int (iI y4))]) (st' := [.int (iI 0), .int (iI y3)]) rfl ?_
      refine wp_add (a := y3) (b := 0) rfl ?_
      refine wp_g (n := 1) (pc' := 38) (L' := [some (.ref 158), some (.int (iI y1)), some (.int (iI y2)), some (.int (iI (y3 + 0))), some (.int (iI y4))]) (st' := []) rfl ?_
      refine wp_iinc (L' := [some (.ref 158), some (.int (iI y1)), some (.int (iI y2)), some (.int (iI (y3 + 0))), some (.int (iI (y4 + 1)))]) (a := y4) rfl rfl rfl ?_
      refine wp_g (n := 1) (pc' := 5) (L' := [some (.ref 158), some (.int (iI y1)), some (.int (iI y2)), some (.int (iI (y3 + 0))), some (.int (iI (y4 + 1)))]) (st' := []) rfl ?_
      exact hW _ S
    · have dc4 := c4
      have hW := hW.2 dc4
      refine wp_g (n := 2) (pc' := 29) (L' := [some (.ref 158), some (.int (iI y1)), some (.int (iI y2)), some (.int (iI y3)), some (.int (iI y4))]) (st' := [.int (iI y4), .ref 158, .int (iI y3)]) rfl ?_
      refine wp_cv (As := [.int (iI y4)]) (rest := [.int (iI y3)]) rfl rfl (S.cell 158 (nc rfl)) (by decide) rfl rfl rfl (Nat.le_of_ble_eq_true rfl) (Nat.le_of_ble_eq_true rfl) (hW _ S) (fun r5 H5 q5 => ?_)
      obtain ⟨v5, m5, γ5, t5, rfl, hv5, S, hW⟩ := q5
      show wp _ _ _ _ _ [.int (iI v5), .int (iI y3)] _ _
      refine wp_g (n := 1) (pc' := 36) (L' := [some (.ref 158), some (.int (iI y1)), some (.int (iI y2)), some (.int (iI y3)), some (.int (iI y4))]) (st' := [.int (iI v5), .int (iI y3)]) rfl ?_
      refine wp_add (a := y3) (b := v5) rfl ?_
      refine wp_g (n := 1) (pc' := 38) (L' := [some (.ref 158), some (.int (iI y1)), some (.int (iI y2)), some (.int (iI (y3 + v5))), some (.int (iI y4))]) (st' := []) rfl ?_
      refine wp_iinc (L' := [some (.ref 158), some (.int (iI y1)), some (.int (iI y2)), some (.int (iI (y3 + v5))), some (.int (iI (y4 + 1)))]) (a := y4) rfl rfl rfl ?_
      refine wp_g (n := 1) (pc' := 5) (L' := [some (.ref 158), some (.int (iI y1)), some (.int (iI y2)), some (.int (iI (y3 + v5))), some (.int (iI (y4 + 1)))]) (st' := []) rfl ?_
      exact hW _ S
abbrev W_X9_twist (E : am_E) (k : Nat) (x1 : Int) (x2 : Int) (m : MM) (γ : GM) (t : am_H) (Q : Int → MM → GM → am_H → Prop) : Prop := (TI E k 217 [.ref 158, .int (iI x1), .int (iI x2)] m γ t (fun v1 m1 γ1 t1 => (((v1 = 0) → (Q (-1000) m1 γ1 t1)) ∧ (¬ (v1 = 0) → (TI E k 248 [.ref 158, .int (iI x2), .int (iI x2)] m1 γ1 t1 (fun v3 m3 γ3 t3 => (Q v3 m3 γ3 t3)))))))
theorem vc_X9_twist {E : am_E} {k : Nat} {x1 : Int} {x2 : Int} {m : MM} {γ : GM} {t : am_H} {Q : Int → MM → GM → am_H → Prop} (hx1 : rJ x1) (hx2 : rJ x2) (hW : W_X9_twist E k x1 x2 m γ t Q) : TI E (k + 1) 249 [.ref 158, .int (iI x1), .int (iI x2)] m γ t Q := by
  unfold W_X9_twist at hW
  intro h S
  refine wp_g (n := 3) (pc' := 3) (L' := [some (.ref 158), some (.int (iI x1)), some (.int (iI x2))]) (st' := [.int (iI x2), .int (iI x1), .ref 158]) rfl ?_
  refine wp_cv (As := [.int (iI x1), .int (iI x2)]) (rest := []) rfl rfl (S.cell 158 (nc rfl)) (by decide) rfl rfl rfl (Nat.le_of_ble_eq_true rfl) (Nat.le_of_ble_eq_true rfl) (hW _ S) (fun r1 H1 q1 => ?_)
  obtain ⟨v1, m1, γ1, t1, rfl, hv1, S, hW⟩ := q1
  show wp _ _ _ _ _ [.int (iI v1)] _ _
  refine wp_ifI (a := v1) rfl rfl hv1.1 hv1.2 (fun c2 => ?_) (fun c2 => ?_)
  · have dc2 := c2
    have hW := hW.1 dc2
    refine wp_g (n := 1) (pc' := 21) (L' := [some (.ref 158), some (.int (iI x1)), some (.int (iI x2))]) (st' := [.int (iI (-1000))]) rfl ?_
    exact wp_iret rfl rfl ⟨_, _, _, _, rfl, (by decide), S, hW⟩
  · have dc2 := c2
    have hW := hW.2 dc2
    refine wp_g (n := 3) (pc' := 12) (L' := [some (.ref 158), some (.int (iI x1)), some (.int (iI x2))]) (st' := [.int (iI x2), .int (iI x2), .ref 158]) rfl ?_
    refine wp_cv (As := [.int (iI x2), .int (iI x2)]) (rest := []) rfl rfl (S.cell 158 (nc rfl)) (by decide) rfl rfl rfl (Nat.le_of_ble_eq_true rfl) (Nat.le_of_ble_eq_true rfl) (hW _ S) (fun r3 H3 q3 => ?_)
    obtain ⟨v3, m3, γ3, t3, rfl, hv3, S, hW⟩ := q3
    show wp _ _ _ _ _ [.int (iI v3)] _ _
    refine wp_g (n := 1) (pc' := 21) (L' := [some (.ref 158), some (.int (iI x1)), some (.int (iI x2))]) (st' := [.int (iI v3)]) rfl ?_
    exact wp_iret rfl rfl ⟨_, _, _, _, rfl, hv3, S, hW⟩
abbrev W_X9_link (E : am_E) (k : Nat) (x1 : Int) (x2 : Int) (x3 : Int) (m : MM) (γ : GM) (t : am_H) (Q : Int → MM → GM → am_H → Prop) : Prop := (TI E k 243 [.ref 158, .int (iI x1), .int (iI x2), .int (iI x3)] m γ t (fun v1 m1 γ1 t1 => (((v1 = 0) → (Q (-1000) m1 γ1 t1)) ∧ (¬ (v1 = 0) → (((x2 = x3) → (Q (-1000) m1 γ1 t1)) ∧ (¬ (x2 = x3) → (TI E k 248 [.ref 158, .int (iI x2), .int (iI x3)] m1 γ1 t1 (fun v4 m4 γ4 t4 => (rJ (Int.tdiv v4 2) ∧ (Q (Int.tdiv v4 2) m4 γ4 t4))))))))))
theorem vc_X9_link {E : am_E} {k : Nat} {x1 : Int} {x2 : Int} {x3 : Int} {m : MM} {γ : GM} {t : am_H} {Q : Int → MM → GM → am_H → Prop} (hx1 : rJ x1) (hx2 : rJ x2) (hx3 : rJ x3) (hW : W_X9_link E k x1 x2 x3 m γ t Q) : TI E (k + 1) 250 [.ref 158, .int (iI x1), .int (iI x2), .int (iI x3)] m γ t Q := by
  unfold W_X9_link at hW
  intro h S
  refine wp_g (n := 4) (pc' := 4) (L' := [some (.ref 158), some (.int (iI x1)), some (.int (iI x2)), some (.int (iI x3))]) (st' := [.int (iI x3), .int (iI x2), .int (iI x1), .ref 158]) rfl ?_
  refine wp_cv (As := [.int (iI x1), .int (iI x2), .int (iI x3)]) (rest := []) rfl rfl (S.cell 158 (nc rfl)) (by decide) rfl rfl rfl (Nat.le_of_ble_eq_true rfl) (Nat.le_of_ble_eq_true rfl) (hW _ S) (fun r1 H1 q1 => ?_)
  obtain ⟨v1, m1, γ1, t1, rfl, hv1, S, hW⟩ := q1
  show wp _ _ _ _ _ [.int (iI v1)] _ _
  refine wp_ifI (a := v1) rfl rfl hv1.1 hv1.2 (fun c2 => ?_) (fun c2 => ?_)
  · have dc2 := c2
    have hW := hW.1 dc2
    refine wp_g (n := 1) (pc' := 29) (L' := [some (.ref 158), some (.int (iI x1)), some (.int (iI x2)), some (.int (iI x3))]) (st' := [.int (iI (-1000))]) rfl ?_
    exact wp_iret rfl rfl ⟨_, _, _, _, rfl, (by decide), S, hW⟩
  · have dc2 := c2
    have hW := hW.2 dc2
    refine wp_g (n := 2) (pc' := 12) (L' := [some (.ref 158), some (.int (iI x1)), some (.int (iI x2)), some (.int (iI x3))]) (st' := [.int (iI x3), .int (iI x2)]) rfl ?_
    refine wp_icmpI (a := x2) (b := x3) rfl rfl hx2.1 hx2.2 hx3.1 hx3.2 (fun c3 => ?_) (fun c3 => ?_)
    · have dc3 := c3
      have hW := hW.1 dc3
      refine wp_g (n := 1) (pc' := 29) (L' := [some (.ref 158), some (.int (iI x1)), some (.int (iI x2)), some (.int (iI x3))]) (st' := [.int (iI (-1000))]) rfl ?_
      exact wp_iret rfl rfl ⟨_, _, _, _, rfl, (by decide), S, hW⟩
    · have dc3 := c3
      have hW := hW.2 dc3
      refine wp_g (n := 3) (pc' := 18) (L' := [some (.ref 158), some (.int (iI x1)), some (.int (iI x2)), some (.int (iI x3))]) (st' := [.int (iI x3), .int (iI x2), .ref 158]) rfl ?_
      refine wp_cv (As := [.int (iI x2), .int (iI x3)]) (rest := []) rfl rfl (S.cell 158 (nc rfl)) (by decide) rfl rfl rfl (Nat.le_of_ble_eq_true rfl) (Nat.le_of_ble_eq_true rfl) (hW _ S) (fun r4 H4 q4 => ?_)
      obtain ⟨v4, m4, γ4, t4, rfl, hv4, S, hW⟩ := q4
      show wp _ _ _ _ _ [.int (iI v4)] _ _
      refine wp_g (n := 1) (pc' := 22) (L' := [some (.ref 158), some (.int (iI x1)), some (.int (iI x2)), some (.int (iI x3))]) (st' := [.int (iI 2), .int (iI v4)]) rfl ?_
      refine wp_divt (a := v4) (b := 2) rfl hv4 (by decide) (by decide) ?_
      refine wp_g (n := 1) (pc' := 29) (L' := [some (.ref 158), some (.int (iI x1)), some (.int (iI x2)), some (.int (iI x3))]) (st' := [.int (iI (Int.tdiv v4 2))]) rfl ?_
      obtain ⟨p5, hW⟩ := hW
      exact wp_iret rfl rfl ⟨_, _, _, _, rfl, p5, S, hW⟩
abbrev W_X9_passings (E : am_E) (k : Nat) (x1 : Int) (m : MM) (γ : GM) (t : am_H) (Q : Int → MM → GM → am_H → Prop) : Prop := ((0 ≤ (x1 + 1) ∧ (x1 + 1) < 65) ∧ ((0 ≤ x1 ∧ x1 < 65) ∧ (rJ ((m 181 (((x1 + 1)).toNat)) - (m 181 ((x1).toNat))) ∧ (Q ((m 181 (((x1 + 1)).toNat)) - (m 181 ((x1).toNat))) m γ t))))
theorem vc_X9_passings {E : am_E} {k : Nat} {x1 : Int} {m : MM} {γ : GM} {t : am_H} {Q : Int → MM → GM → am_H → Prop} (hx1 : rJ x1) (hW : W_X9_passings E k x1 m γ t Q) : TI E k 251 [.ref 158, .int (iI x1)] m γ t Q := by
  unfold W_X9_passings at hW
  intro h S
  refine wp_g (n := 1) (pc' := 1) (L' := [some (.ref 158), some (.int (iI x1))]) (st' := [.ref 158]) rfl ?_
  refine wp_getf (v := .ref 181) rfl rfl (S.cell 158 (nc rfl)) (by decide) rfl ?_
  refine wp_g (n := 2) (pc' := 6) (L' := [some (.ref 158), some (.int (iI x1))]) (st' := [.int (iI 1), .int (iI x1), .ref 181]) rfl ?_
  refine wp_add (a := x1) (b := 1) rfl ?_
  obtain ⟨p1, hW⟩ := hW
  refine wp_iald (n := 65) (F := (m 181)) rfl (S.cell 181 (nc rfl)) (by decide) p1.1 p1.2 (by decide) ?_
  show wp _ _ _ _ _ [.int (iI (m 181 (((x1 + 1)).toNat)))] _ _
  have hr2 : rJ (m 181 (((x1 + 1)).toNat)) := S.rg 181 (((x1 + 1)).toNat) (nl rfl)
  refine wp_g (n := 1) (pc' := 9) (L' := [some (.ref 158), some (.int (iI x1))]) (st' := [.ref 158, .int (iI (m 181 (((x1 + 1)).toNat)))]) rfl ?_
  refine wp_getf (v := .ref 181) rfl rfl (S.cell 158 (nc rfl)) (by decide) rfl ?_
  refine wp_g (n := 1) (pc' := 13) (L' := [some (.ref 158), some (.int (iI x1))]) (st' := [.int (iI x1), .ref 181, .int (iI (m 181 (((x1 + 1)).toNat)))]) rfl ?_
  obtain ⟨p3, hW⟩ := hW
  refine wp_iald (n := 65) (F := (m 181)) rfl (S.cell 181 (nc rfl)) (by decide) p3.1 p3.2 (by decide) ?_
  show wp _ _ _ _ _ [.int (iI (m 181 ((x1).toNat))), .int (iI (m 181 (((x1 + 1)).toNat)))] _ _
  have hr4 : rJ (m 181 ((x1).toNat)) := S.rg 181 ((x1).toNat) (nl rfl)
  refine wp_sub (a := (m 181 (((x1 + 1)).toNat))) (b := (m 181 ((x1).toNat))) rfl ?_
  obtain ⟨p5, hW⟩ := hW
  exact wp_iret rfl rfl ⟨_, _, _, _, rfl, p5, S, hW⟩
def hd_X9_alternates_21 (E : am_E) (k : Nat) (x1 : Int) (x2 : Int) (y2 : Int) (y3 : Int) (y4 : Int) (m : MM) (γ : GM) (t : am_H) (Q : Int → MM → GM → am_H → Prop) : Prop := ∀ (z1 : Option Value), TT (pI Q) E (k + 1) 252 21 [some (.ref 158), z1, some (.int (iI y2)), some (.int (iI y3)), some (.int (iI y4))] [] m γ t
abbrev W_X9_alternates (E : am_E) (k : Nat) (x1 : Int) (x2 : Int) (m : MM) (γ : GM) (t : am_H) (Q : Int → MM → GM → am_H → Prop) : Prop := (TI E k 217 [.ref 158, .int (iI x1), .int (iI x2)] m γ t (fun v1 m1 γ1 t1 => (((v1 = 0) → (Q (-2) m1 γ1 t1)) ∧ (¬ (v1 = 0) → (TI E k 251 [.ref 158, .int (iI x2)] m1 γ1 t1 (fun v3 m3 γ3 t3 => (hd_X9_alternates_21 E k x1 x2 x2 v3 0 m3 γ3 t3 Q)))))))
abbrev W_X9_alternates_21 (E : am_E) (k : Nat) (x1 : Int) (x2 : Int) (y2 : Int) (y3 : Int) (y4 : Int) (m : MM) (γ : GM) (t : am_H) (Q : Int → MM → GM → am_H → Prop) : Prop := (((y4 < y3) → ((0 ≤ y2 ∧ y2 < 65) ∧ ((0 ≤ ((m 181 ((y2).toNat)) + y4) ∧ ((m 181 ((y2).toNat)) + y4) < 48) ∧ ((0 ≤ y2 ∧ y2 < 65) ∧ (rJ (y4 + 1) ∧ (0 ≤ (y4 + 1) ∧ (0 < y3 ∧ ((0 ≤ ((m 181 ((y2).toNat)) + ((y4 + 1) % y3)) ∧ ((m 181 ((y2).toNat)) + ((y4 + 1) % y3)) < 48) ∧ ((((m 180 ((((m 181 ((y2).toNat)) + y4)).toNat)) = (m 180 ((((m 181 ((y2).toNat)) + ((y4 + 1) % y3))).toNat))) → (Q 0 m γ t)) ∧ (¬ ((m 180 ((((m 181 ((y2).toNat)) + y4)).toNat)) = (m 180 ((((m 181 ((y2).toNat)) + ((y4 + 1) % y3))).toNat))) → (hd_X9_alternates_21 E k x1 x2 y2 y3 (y4 + 1) m γ t Q))))))))))) ∧ (¬ (y4 < y3) → (Q 1 m γ t)))
theorem vc_X9_alternates {E : am_E} {k : Nat} {x1 : Int} {x2 : Int} {m : MM} {γ : GM} {t : am_H} {Q : Int → MM → GM → am_H → Prop} (hx1 : rJ x1) (hx2 : rJ x2) (hW : W_X9_alternates E k x1 x2 m γ t Q) : TI E (k + 1) 252 [.ref 158, .int (iI x1), .int (iI x2)] m γ t Q := by
  unfold W_X9_alternates at hW
  intro h S
  refine wp_g (n := 3) (pc' := 3) (L' := [some (.ref 158), some (.int (iI x1)), some (.int (iI x2)), none, none]) (st' := [.int (iI x2), .int (iI x1), .ref 158]) rfl ?_
  refine wp_cv (As := [.int (iI x1), .int (iI x2)]) (rest := []) rfl rfl (S.cell 158 (nc rfl)) (by decide) rfl rfl rfl (Nat.le_of_ble_eq_true rfl) (Nat.le_of_ble_eq_true rfl) (hW _ S) (fun r1 H1 q1 => ?_)
  obtain ⟨v1, m1, γ1, t1, rfl, hv1, S, hW⟩ := q1
  show wp _ _ _ _ _ [.int (iI v1)] _ _
  refine wp_ifI (a := v1) rfl rfl hv1.1 hv1.2 (fun c2 => ?_) (fun c2 => ?_)
  · have dc2 := c2
    have hW := hW.2 dc2
    refine wp_g (n := 2) (pc' := 14) (L' := [some (.ref 158), some (.int (iI x1)), some (.int (iI x2)), none, none]) (st' := [.int (iI x2), .ref 158]) rfl ?_
    refine wp_cv (As := [.int (iI x2)]) (rest := []) rfl rfl (S.cell 158 (nc rfl)) (by decide) rfl rfl rfl (Nat.le_of_ble_eq_true rfl) (Nat.le_of_ble_eq_true rfl) (hW _ S) (fun r3 H3 q3 => ?_)
    obtain ⟨v3, m3, γ3, t3, rfl, hv3, S, hW⟩ := q3
    show wp _ _ _ _ _ [.int (iI v3)] _ _
    refine wp_g (n := 3) (pc' := 21) (L' := [some (.ref 158), some (.int (iI x1)), some (.int (iI x2)), some (.int (iI v3)), some (.int (iI 0))]) (st' := []) rfl ?_
    exact hW (some (.int (iI x1))) _ S
  · have dc2 := (Classical.not_not.mp c2)
    have hW := hW.1 dc2
    refine wp_g (n := 1) (pc' := 11) (L' := [some (.ref 158), some (.int (iI x1)), some (.int (iI x2)), none, none]) (st' := [.int (iI (-2))]) rfl ?_
    exact wp_iret rfl rfl ⟨_, _, _, _, rfl, (by decide), S, hW⟩
theorem vc_X9_alternates_21 {E : am_E} {k : Nat} {x1 : Int} {x2 : Int} {y2 : Int} {y3 : Int} {y4 : Int} {m : MM} {γ : GM} {t : am_H} {Q : Int → MM → GM → am_H → Prop} (hx1 : rJ x1) (hx2 : rJ x2) (hy2 : rJ y2) (hy3 : rJ y3) (hy4 : rJ y4) (hW : W_X9_alternates_21 E k x1 x2 y2 y3 y4 m γ t Q) : hd_X9_alternates_21 E k x1 x2 y2 y3 y4 m γ t Q := by
  unfold W_X9_alternates_21 at hW
  intro z1 h S
  refine wp_g (n := 2) (pc' := 24) (L' := [some (.ref 158), z1, some (.int (iI y2)), some (.int (iI y3)), some (.int (iI y4))]) (st' := [.int (iI y3), .int (iI y4)]) rfl ?_
  refine wp_icmpI (a := y4) (b := y3) rfl rfl hy4.1 hy4.2 hy3.1 hy3.2 (fun c1 => ?_) (fun c1 => ?_)
  · have dc1 := (Int.not_lt.mpr c1)
    have hW := hW.2 dc1
    refine wp_g (n := 1) (pc' := 71) (L' := [some (.ref 158), z1, some (.int (iI y2)), some (.int (iI y3)), some (.int (iI y4))]) (st' := [.int (iI 1)]) rfl ?_
    exact wp_iret rfl rfl ⟨_, _, _, _, rfl, (by decide), S, hW⟩
  · have dc1 := (Int.not_le.mp c1)
    have hW := hW.1 dc1
    refine wp_g (n := 1) (pc' := 28) (L' := [some (.ref 158), z1, some (.int (iI y2)), some (.int (iI y3)), some (.int (iI y4))]) (st' := [.ref 158]) rfl ?_
    refine wp_getf (v := .ref 180) rfl rfl (S.cell 158 (nc rfl)) (by decide) rfl ?_
    refine wp_g (n := 1) (pc' := 32) (L' := [some (.ref 158), z1, some (.int (iI y2)), some (.int (iI y3)), some (.int (iI y4))]) (st' := [.ref 158, .ref 180]) rfl ?_
    refine wp_getf (v := .ref 181) rfl rfl (S.cell 158 (nc rfl)) (by decide) rfl ?_
    refine wp_g (n := 1) (pc' := 36) (L' := [some (.ref 158), z1, some (.int (iI y2)), some (.int (iI y3)), some (.int (iI y4))]) (st' := [.int (iI y2), .ref 181, .ref 180]) rfl ?_
    obtain ⟨p2, hW⟩ := hW
    refine wp_iald (n := 65) (F := (m 181)) rfl (S.cell 181 (nc rfl)) (by decide) p2.1 p2.2 (by decide) ?_
    show wp _ _ _ _ _ [.int (iI (m 181 ((y2).toNat))), .ref 180] _ _
    have hr3 : rJ (m 181 ((y2).toNat)) := S.rg 181 ((y2).toNat) (nl rfl)
    refine wp_g (n := 1) (pc' := 39) (L' := [some (.ref 158), z1, some (.int (iI y2)), some (.int (iI y3)), some (.int (iI y4))]) (st' := [.int (iI y4), .int (iI (m 181 ((y2).toNat))), .ref 180]) rfl ?_
    refine wp_add (a := (m 181 ((y2).toNat))) (b := y4) rfl ?_
    obtain ⟨p4, hW⟩ := hW
    refine wp_tald (n := 48) (F := (m 180)) rfl (S.cell 180 (nc rfl)) (by decide) p4.1 p4.2 (by decide) ?_
    show wp _ _ _ _ _ [.int (iI (m 180 ((((m 181 ((y2).toNat)) + y4)).toNat)))] _ _
    have hr5 : rJ (m 180 ((((m 181 ((y2).toNat)) + y4)).toNat)) := S.rg 180 ((((m 181 ((y2).toNat)) + y4)).toNat) (nl rfl)
    refine wp_g (n := 1) (pc' := 42) (L' := [some (.ref 158), z1, some (.int (iI y2)), some (.int (iI y3)), some (.int (iI y4))]) (st' := [.ref 158, .int (iI (m 180 ((((m 181 ((y2).toNat)) + y4)).toNat)))]) rfl ?_
    refine wp_getf (v := .ref 180) rfl rfl (S.cell 158 (nc rfl)) (by decide) rfl ?_
    refine wp_g (n := 1) (pc' := 46) (L' := [some (.ref 158), z1, some (.int (iI y2)), some (.int (iI y3)), some (.int (iI y4))]) (st' := [.ref 158, .ref 180, .int (iI (m 180 ((((m 181 ((y2).toNat)) + y4)).toNat)))]) rfl ?_
    refine wp_getf (v := .ref 181) rfl rfl (S.cell 158 (nc rfl)) (by decide) rfl ?_
    refine wp_g (n := 1) (pc' := 50) (L' := [some (.ref 158), z1, some (.int (iI y2)), some (.int (iI y3)), some (.int (iI y4))]) (st' := [.int (iI y2), .ref 181, .ref 180, .int (iI (m 180 ((((m 181 ((y2).toNat)) + y4)).toNat)))]) rfl ?_
    obtain ⟨p6, hW⟩ := hW
    refine wp_iald (n := 65) (F := (m 181)) rfl (S.cell 181 (nc rfl)) (by decide) p6.1 p6.2 (by decide) ?_
    show wp _ _ _ _ _ [.int (iI (m 181 ((y2).toNat))), .ref 180, .int (iI (m 180 ((((m 181 ((y2).toNat)) + y4)).toNat)))] _ _
    refine wp_g (n := 2) (pc' := 54) (L' := [some (.ref 158), z1, some (.int (iI y2)), some (.int (iI y3)), some (.int (iI y4))]) (st' := [.int (iI 1), .int (iI y4), .int (iI (m 181 ((y2).toNat))), .ref 180, .int (iI (m 180 ((((m 181 ((y2).toNat)) + y4)).toNat)))]) rfl ?_
    refine wp_add (a := y4) (b := 1) rfl ?_
    refine wp_g (n := 1) (pc' := 56) (L' := [some (.ref 158), z1, some (.int (iI y2)), some (.int (iI y3)), some (.int (iI y4))]) (st' := [.int (iI y3), .int (iI (y4 + 1)), .int (iI (m 181 ((y2).toNat))), .ref 180, .int (iI (m 180 ((((m 181 ((y2).toNat)) + y4)).toNat)))]) rfl ?_
    obtain ⟨p7, hW⟩ := hW
    obtain ⟨p8, hW⟩ := hW
    obtain ⟨p9, hW⟩ := hW
    refine wp_rem (a := (y4 + 1)) (b := y3) rfl p8 p7.2 p9 hy3.2 ?_
    refine wp_add (a := (m 181 ((y2).toNat))) (b := ((y4 + 1) % y3)) rfl ?_
    obtain ⟨p10, hW⟩ := hW
    refine wp_tald (n := 48) (F := (m 180)) rfl (S.cell 180 (nc rfl)) (by decide) p10.1 p10.2 (by decide) ?_
    show wp _ _ _ _ _ [.int (iI (m 180 ((((m 181 ((y2).toNat)) + ((y4 + 1) % y3))).toNat))), .int (iI (m 180 ((((m 181 ((y2).toNat)) + y4)).toNat)))] _ _
    have hr11 : rJ (m 180 ((((m 181 ((y2).toNat)) + ((y4 + 1) % y3))).toNat)) := S.rg 180 ((((m 181 ((y2).toNat)) + ((y4 + 1) % y3))).toNat) (nl rfl)
    refine wp_icmpI (a := (m 180 ((((m 181 ((y2).toNat)) + y4)).toNat))) (b := (m 180 ((((m 181 ((y2).toNat)) + ((y4 + 1) % y3))).toNat))) rfl rfl hr5.1 hr5.2 hr11.1 hr11.2 (fun c12 => ?_) (fun c12 => ?_)
    · have dc12 := c12
      have hW := hW.2 dc12
      refine wp_iinc (L' := [some (.ref 158), z1, some (.int (iI y2)), some (.int (iI y3)), some (.int (iI (y4 + 1)))]) (a := y4) rfl rfl rfl ?_
      refine wp_g (n := 1) (pc' := 21) (L' := [some (.ref 158), z1, some (.int (iI y2)), some (.int (iI y3)), some (.int (iI (y4 + 1)))]) (st' := []) rfl ?_
      exact hW z1 _ S
    · have dc12 := (Classical.not_not.mp c12)
      have hW := hW.1 dc12
      refine wp_g (n := 1) (pc' := 63) (L' := [some (.ref 158), z1, some (.int (iI y2)), some (.int (iI y3)), some (.int (iI y4))]) (st' := [.int (iI 0)]) rfl ?_
      exact wp_iret rfl rfl ⟨_, _, _, _, rfl, (by decide), S, hW⟩
abbrev W_X9_passed (E : am_E) (k : Nat) (x1 : Int) (x2 : Int) (x3 : Int) (m : MM) (γ : GM) (t : am_H) (Q : Int → MM → GM → am_H → Prop) : Prop := (TI E k 217 [.ref 158, .int (iI x1), .int (iI x2)] m γ t (fun v1 m1 γ1 t1 => (((v1 = 0) → (Q (-2) m1 γ1 t1)) ∧ (¬ (v1 = 0) → (((x3 < 0) → (Q (-2) m1 γ1 t1)) ∧ (¬ (x3 < 0) → (TI E k 251 [.ref 158, .int (iI x2)] m1 γ1 t1 (fun v4 m4 γ4 t4 => (((x3 < v4) → ((0 ≤ x2 ∧ x2 < 65) ∧ ((0 ≤ ((m4 181 ((x2).toNat)) + x3) ∧ ((m4 181 ((x2).toNat)) + x3) < 48) ∧ (Q (m4 179 ((((m4 181 ((x2).toNat)) + x3)).toNat)) m4 γ4 t4)))) ∧ (¬ (x3 < v4) → (Q (-1) m4 γ4 t4)))))))))))
theorem vc_X9_passed {E : am_E} {k : Nat} {x1 : Int} {x2 : Int} {x3 : Int} {m : MM} {γ : GM} {t : am_H} {Q : Int → MM → GM → am_H → Prop} (hx1 : rJ x1) (hx2 : rJ x2) (hx3 : rJ x3) (hW : W_X9_passed E k x1 x2 x3 m γ t Q) : TI E (k + 1) 253 [.ref 158, .int (iI x1), .int (iI x2), .int (iI x3)] m γ t Q := by
  unfold W_X9_passed at hW
  intro h S
  refine wp_g (n := 3) (pc' := 3) (L' := [some (.ref 158), some (.int (iI x1)), some (.int (iI x2)), some (.int (iI x3))]) (st' := [.int (iI x2), .int (iI x1), .ref 158]) rfl ?_
  refine wp_cv (As := [.int (iI x1), .int (iI x2)]) (rest := []) rfl rfl (S.cell 158 (nc rfl)) (by decide) rfl rfl rfl (Nat.le_of_ble_eq_true rfl) (Nat.le_of_ble_eq_true rfl) (hW _ S) (fun r1 H1 q1 => ?_)
  obtain ⟨v1, m1, γ1, t1, rfl, hv1, S, hW⟩ := q1
  show wp _ _ _ _ _ [.int (iI v1)] _ _
  refine wp_ifI (a := v1) rfl rfl hv1.1 hv1.2 (fun c2 => ?_) (fun c2 => ?_)
  · have dc2 := c2
    have hW := hW.1 dc2
    refine wp_g (n := 1) (pc' := 15) (L' := [some (.ref 158), some (.int (iI x1)), some (.int (iI x2)), some (.int (iI x3))]) (st' := [.int (iI (-2))]) rfl ?_
    exact wp_iret rfl rfl ⟨_, _, _, _, rfl, (by decide), S, hW⟩
  · have dc2 := c2
    have hW := hW.2 dc2
    refine wp_g (n := 1) (pc' := 10) (L' := [some (.ref 158), some (.int (iI x1)), some (.int (iI x2)), some (.int (iI x3))]) (st' := [.int (iI x3)]) rfl ?_
    refine wp_ifI (a := x3) rfl rfl hx3.1 hx3.2 (fun c3 => ?_) (fun c3 => ?_)
    · have dc3 := (Int.not_lt.mpr c3)
      have hW := hW.2 dc3
      refine wp_g (n := 3) (pc' := 19) (L' := [some (.ref 158), some (.int (iI x1)), some (.int (iI x2)), some (.int (iI x3))]) (st' := [.int (iI x2), .ref 158, .int (iI x3)]) rfl ?_
      refine wp_cv (As := [.int (iI x2)]) (rest := [.int (iI x3)]) rfl rfl (S.cell 158 (nc rfl)) (by decide) rfl rfl rfl (Nat.le_of_ble_eq_true rfl) (Nat.le_of_ble_eq_true rfl) (hW _ S) (fun r4 H4 q4 => ?_)
      obtain ⟨v4, m4, γ4, t4, rfl, hv4, S, hW⟩ := q4
      show wp _ _ _ _ _ [.int (iI v4), .int (iI x3)] _ _
      refine wp_icmpI (a := x3) (b := v4) rfl rfl hx3.1 hx3.2 hv4.1 hv4.2 (fun c5 => ?_) (fun c5 => ?_)
      · have dc5 := (Int.not_lt.mpr c5)
        have hW := hW.2 dc5
        refine wp_g (n := 1) (pc' := 42) (L' := [some (.ref 158), some (.int (iI x1)), some (.int (iI x2)), some (.int (iI x3))]) (st' := [.int (iI (-1))]) rfl ?_
        exact wp_iret rfl rfl ⟨_, _, _, _, rfl, (by decide), S, hW⟩
      · have dc5 := (Int.not_le.mp c5)
        have hW := hW.1 dc5
        refine wp_g (n := 1) (pc' := 26) (L' := [some (.ref 158), some (.int (iI x1)), some (.int (iI x2)), some (.int (iI x3))]) (st' := [.ref 158]) rfl ?_
        refine wp_getf (v := .ref 179) rfl rfl (S.cell 158 (nc rfl)) (by decide) rfl ?_
        refine wp_g (n := 1) (pc' := 30) (L' := [some (.ref 158), some (.int (iI x1)), some (.int (iI x2)), some (.int (iI x3))]) (st' := [.ref 158, .ref 179]) rfl ?_
        refine wp_getf (v := .ref 181) rfl rfl (S.cell 158 (nc rfl)) (by decide) rfl ?_
        refine wp_g (n := 1) (pc' := 34) (L' := [some (.ref 158), some (.int (iI x1)), some (.int (iI x2)), some (.int (iI x3))]) (st' := [.int (iI x2), .ref 181, .ref 179]) rfl ?_
        obtain ⟨p6, hW⟩ := hW
        refine wp_iald (n := 65) (F := (m4 181)) rfl (S.cell 181 (nc rfl)) (by decide) p6.1 p6.2 (by decide) ?_
        show wp _ _ _ _ _ [.int (iI (m4 181 ((x2).toNat))), .ref 179] _ _
        have hr7 : rJ (m4 181 ((x2).toNat)) := S.rg 181 ((x2).toNat) (nl rfl)
        refine wp_g (n := 1) (pc' := 36) (L' := [some (.ref 158), some (.int (iI x1)), some (.int (iI x2)), some (.int (iI x3))]) (st' := [.int (iI x3), .int (iI (m4 181 ((x2).toNat))), .ref 179]) rfl ?_
        refine wp_add (a := (m4 181 ((x2).toNat))) (b := x3) rfl ?_
        obtain ⟨p8, hW⟩ := hW
        refine wp_iald (n := 48) (F := (m4 179)) rfl (S.cell 179 (nc rfl)) (by decide) p8.1 p8.2 (by decide) ?_
        show wp _ _ _ _ _ [.int (iI (m4 179 ((((m4 181 ((x2).toNat)) + x3)).toNat)))] _ _
        have hr9 : rJ (m4 179 ((((m4 181 ((x2).toNat)) + x3)).toNat)) := S.rg 179 ((((m4 181 ((x2).toNat)) + x3)).toNat) (nl rfl)
        refine wp_g (n := 1) (pc' := 42) (L' := [some (.ref 158), some (.int (iI x1)), some (.int (iI x2)), some (.int (iI x3))]) (st' := [.int (iI (m4 179 ((((m4 181 ((x2).toNat)) + x3)).toNat)))]) rfl ?_
        exact wp_iret rfl rfl ⟨_, _, _, _, rfl, hr9, S, hW⟩
    · have dc3 := (Int.not_le.mp c3)
      have hW := hW.1 dc3
      refine wp_g (n := 1) (pc' := 15) (L' := [some (.ref 158), some (.int (iI x1)), some (.int (iI x2)), some (.int (iI x3))]) (st' := [.int (iI (-2))]) rfl ?_
      exact wp_iret rfl rfl ⟨_, _, _, _, rfl, (by decide), S, hW⟩
abbrev W_X9_isOwn (E : am_E) (k : Nat) (x1 : Int) (m : MM) (γ : GM) (t : am_H) (Q : Int → MM → GM → am_H → Prop) : Prop := ((0 ≤ x1 ∧ x1 < 24) ∧ (TI E k 204 [.int (iI (m 162 ((x1).toNat)))] m γ t (fun v3 m3 γ3 t3 => (((v3 = 0) → (Q 0 m3 γ3 t3)) ∧ (¬ (v3 = 0) → ((0 ≤ x1 ∧ x1 < 24) ∧ ((0 ≤ x1 ∧ x1 < 24) ∧ ((((m3 171 ((x1).toNat)) = (m3 172 ((x1).toNat))) → (Q 1 m3 γ3 t3)) ∧ (¬ ((m3 171 ((x1).toNat)) = (m3 172 ((x1).toNat))) → (Q 0 m3 γ3 t3))))))))))
theorem vc_X9_isOwn {E : am_E} {k : Nat} {x1 : Int} {m : MM} {γ : GM} {t : am_H} {Q : Int → MM → GM → am_H → Prop} (hx1 : rJ x1) (hW : W_X9_isOwn E k x1 m γ t Q) : TI E (k + 1) 254 [.ref 158, .int (iI x1)] m γ t Q := by
  unfold W_X9_isOwn at hW
  intro h S
  refine wp_g (n := 1) (pc' := 1) (L' := [some (.ref 158), some (.int (iI x1))]) (st' := [.ref 158]) rfl ?_
  refine wp_getf (v := .ref 162) rfl rfl (S.cell 158 (nc rfl)) (by decide) rfl ?_
  refine wp_g (n := 1) (pc' := 5) (L' := [some (.ref 158), some (.int (iI x1))]) (st' := [.int (iI x1), .ref 162]) rfl ?_
  obtain ⟨p1, hW⟩ := hW
  refine wp_iald (n := 24) (F := (m 162)) rfl (S.cell 162 (nc rfl)) (by decide) p1.1 p1.2 (by decide) ?_
  show wp _ _ _ _ _ [.int (iI (m 162 ((x1).toNat)))] _ _
  have hr2 : rJ (m 162 ((x1).toNat)) := S.rg 162 ((x1).toNat) (nl rfl)
  refine wp_cs (As := [.int (iI (m 162 ((x1).toNat)))]) (rest := []) rfl rfl rfl rfl (Nat.le_of_ble_eq_true rfl) (Nat.le_of_ble_eq_true rfl) (hW _ S) (fun r3 H3 q3 => ?_)
  obtain ⟨v3, m3, γ3, t3, rfl, hv3, S, hW⟩ := q3
  show wp _ _ _ _ _ [.int (iI v3)] _ _
  refine wp_ifI (a := v3) rfl rfl hv3.1 hv3.2 (fun c4 => ?_) (fun c4 => ?_)
  · have dc4 := c4
    have hW := hW.1 dc4
    refine wp_g (n := 1) (pc' := 32) (L' := [some (.ref 158), some (.int (iI x1))]) (st' := [.int (iI 0)]) rfl ?_
    exact wp_zret rfl rfl (by decide) ⟨_, _, _, _, rfl, (by decide), S, hW⟩
  · have dc4 := c4
    have hW := hW.2 dc4
    refine wp_g (n := 1) (pc' := 13) (L' := [some (.ref 158), some (.int (iI x1))]) (st' := [.ref 158]) rfl ?_
    refine wp_getf (v := .ref 171) rfl rfl (S.cell 158 (nc rfl)) (by decide) rfl ?_
    refine wp_g (n := 1) (pc' := 17) (L' := [some (.ref 158), some (.int (iI x1))]) (st' := [.int (iI x1), .ref 171]) rfl ?_
    obtain ⟨p5, hW⟩ := hW
    refine wp_iald (n := 24) (F := (m3 171)) rfl (S.cell 171 (nc rfl)) (by decide) p5.1 p5.2 (by decide) ?_
    show wp _ _ _ _ _ [.int (iI (m3 171 ((x1).toNat)))] _ _
    have hr6 : rJ (m3 171 ((x1).toNat)) := S.rg 171 ((x1).toNat) (nl rfl)
    refine wp_g (n := 1) (pc' := 19) (L' := [some (.ref 158), some (.int (iI x1))]) (st' := [.ref 158, .int (iI (m3 171 ((x1).toNat)))]) rfl ?_
    refine wp_getf (v := .ref 172) rfl rfl (S.cell 158 (nc rfl)) (by decide) rfl ?_
    refine wp_g (n := 1) (pc' := 23) (L' := [some (.ref 158), some (.int (iI x1))]) (st' := [.int (iI x1), .ref 172, .int (iI (m3 171 ((x1).toNat)))]) rfl ?_
    obtain ⟨p7, hW⟩ := hW
    refine wp_iald (n := 24) (F := (m3 172)) rfl (S.cell 172 (nc rfl)) (by decide) p7.1 p7.2 (by decide) ?_
    show wp _ _ _ _ _ [.int (iI (m3 172 ((x1).toNat))), .int (iI (m3 171 ((x1).toNat)))] _ _
    have hr8 : rJ (m3 172 ((x1).toNat)) := S.rg 172 ((x1).toNat) (nl rfl)
    refine wp_icmpI (a := (m3 171 ((x1).toNat))) (b := (m3 172 ((x1).toNat))) rfl rfl hr6.1 hr6.2 hr8.1 hr8.2 (fun c9 => ?_) (fun c9 => ?_)
    · have dc9 := c9
      have hW := hW.2 dc9
      refine wp_g (n := 1) (pc' := 32) (L' := [some (.ref 158), some (.int (iI x1))]) (st' := [.int (iI 0)]) rfl ?_
      exact wp_zret rfl rfl (by decide) ⟨_, _, _, _, rfl, (by decide), S, hW⟩
    · have dc9 := (Classical.not_not.mp c9)
      have hW := hW.1 dc9
      refine wp_g (n := 2) (pc' := 32) (L' := [some (.ref 158), some (.int (iI x1))]) (st' := [.int (iI 1)]) rfl ?_
      exact wp_zret rfl rfl (by decide) ⟨_, _, _, _, rfl, (by decide), S, hW⟩
abbrev W_X9_firstPass (E : am_E) (k : Nat) (x1 : Int) (m : MM) (γ : GM) (t : am_H) (Q : Int → MM → GM → am_H → Prop) : Prop := ((0 ≤ x1 ∧ x1 < 24) ∧ ((0 ≤ x1 ∧ x1 < 24) ∧ (TI E k 312 [.int (iI (m 173 ((x1).toNat))), .int (iI (m 174 ((x1).toNat)))] m γ t (fun v5 m5 γ5 t5 => (Q v5 m5 γ5 t5)))))
theorem vc_X9_firstPass {E : am_E} {k : Nat} {x1 : Int} {m : MM} {γ : GM} {t : am_H} {Q : Int → MM → GM → am_H → Prop} (hx1 : rJ x1) (hW : W_X9_firstPass E k x1 m γ t Q) : TI E (k + 1) 255 [.ref 158, .int (iI x1)] m γ t Q := by
  unfold W_X9_firstPass at hW
  intro h S
  refine wp_g (n := 1) (pc' := 1) (L' := [some (.ref 158), some (.int (iI x1))]) (st' := [.ref 158]) rfl ?_
  refine wp_getf (v := .ref 173) rfl rfl (S.cell 158 (nc rfl)) (by decide) rfl ?_
  refine wp_g (n := 1) (pc' := 5) (L' := [some (.ref 158), some (.int (iI x1))]) (st' := [.int (iI x1), .ref 173]) rfl ?_
  obtain ⟨p1, hW⟩ := hW
  refine wp_iald (n := 24) (F := (m 173)) rfl (S.cell 173 (nc rfl)) (by decide) p1.1 p1.2 (by decide) ?_
  show wp _ _ _ _ _ [.int (iI (m 173 ((x1).toNat)))] _ _
  have hr2 : rJ (m 173 ((x1).toNat)) := S.rg 173 ((x1).toNat) (nl rfl)
  refine wp_g (n := 1) (pc' := 7) (L' := [some (.ref 158), some (.int (iI x1))]) (st' := [.ref 158, .int (iI (m 173 ((x1).toNat)))]) rfl ?_
  refine wp_getf (v := .ref 174) rfl rfl (S.cell 158 (nc rfl)) (by decide) rfl ?_
  refine wp_g (n := 1) (pc' := 11) (L' := [some (.ref 158), some (.int (iI x1))]) (st' := [.int (iI x1), .ref 174, .int (iI (m 173 ((x1).toNat)))]) rfl ?_
  obtain ⟨p3, hW⟩ := hW
  refine wp_iald (n := 24) (F := (m 174)) rfl (S.cell 174 (nc rfl)) (by decide) p3.1 p3.2 (by decide) ?_
  show wp _ _ _ _ _ [.int (iI (m 174 ((x1).toNat))), .int (iI (m 173 ((x1).toNat)))] _ _
  have hr4 : rJ (m 174 ((x1).toNat)) := S.rg 174 ((x1).toNat) (nl rfl)
  refine wp_cs (As := [.int (iI (m 173 ((x1).toNat))), .int (iI (m 174 ((x1).toNat)))]) (rest := []) rfl rfl rfl rfl (Nat.le_of_ble_eq_true rfl) (Nat.le_of_ble_eq_true rfl) (hW _ S) (fun r5 H5 q5 => ?_)
  obtain ⟨v5, m5, γ5, t5, rfl, hv5, S, hW⟩ := q5
  show wp _ _ _ _ _ [.int (iI v5)] _ _
  exact wp_iret rfl rfl ⟨_, _, _, _, rfl, hv5, S, hW⟩
abbrev W_X9_lastPass (E : am_E) (k : Nat) (x1 : Int) (m : MM) (γ : GM) (t : am_H) (Q : Int → MM → GM → am_H → Prop) : Prop := ((0 ≤ x1 ∧ x1 < 24) ∧ ((0 ≤ x1 ∧ x1 < 24) ∧ (TI E k 311 [.int (iI (m 173 ((x1).toNat))), .int (iI (m 174 ((x1).toNat)))] m γ t (fun v5 m5 γ5 t5 => (Q v5 m5 γ5 t5)))))
theorem vc_X9_lastPass {E : am_E} {k : Nat} {x1 : Int} {m : MM} {γ : GM} {t : am_H} {Q : Int → MM → GM → am_H → Prop} (hx1 : rJ x1) (hW : W_X9_lastPass E k x1 m γ t Q) : TI E (k + 1) 256 [.ref 158, .int (iI x1)] m γ t Q := by
  unfold W_X9_lastPass at hW
  intro h S
  refine wp_g (n := 1) (pc' := 1) (L' := [some (.ref 158), some (.int (iI x1))]) (st' := [.ref 158]) rfl ?_
  refine wp_getf (v := .ref 173) rfl rfl (S.cell 158 (nc rfl)) (by decide) rfl ?_
  refine wp_g (n := 1) (pc' := 5) (L' := [some (.ref 158), some (.int (iI x1))]) (st' := [.int (iI x1), .ref 173]) rfl ?_
  obtain ⟨p1, hW⟩ := hW
  refine wp_iald (n := 24) (F := (m 173)) rfl (S.cell 173 (nc rfl)) (by decide) p1.1 p1.2 (by decide) ?_
  show wp _ _ _ _ _ [.int (iI (m 173 ((x1).toNat)))] _ _
  have hr2 : rJ (m 173 ((x1).toNat)) := S.rg 173 ((x1).toNat) (nl rfl)
  refine wp_g (n := 1) (pc' := 7) (L' := [some (.ref 158), some (.int (iI x1))]) (st' := [.ref 158, .int (iI (m 173 ((x1).toNat)))]) rfl ?_
  refine wp_getf (v := .ref 174) rfl rfl (S.cell 158 (nc rfl)) (by decide) rfl ?_
  refine wp_g (n := 1) (pc' := 11) (L' := [some (.ref 158), some (.int (iI x1))]) (st' := [.int (iI x1), .ref 174, .int (iI (m 173 ((x1).toNat)))]) rfl ?_
  obtain ⟨p3, hW⟩ := hW
  refine wp_iald (n := 24) (F := (m 174)) rfl (S.cell 174 (nc rfl)) (by decide) p3.1 p3.2 (by decide) ?_
  show wp _ _ _ _ _ [.int (iI (m 174 ((x1).toNat))), .int (iI (m 173 ((x1).toNat)))] _ _
  have hr4 : rJ (m 174 ((x1).toNat)) := S.rg 174 ((x1).toNat) (nl rfl)
  refine wp_cs (As := [.int (iI (m 173 ((x1).toNat))), .int (iI (m 174 ((x1).toNat)))]) (rest := []) rfl rfl rfl rfl (Nat.le_of_ble_eq_true rfl) (Nat.le_of_ble_eq_true rfl) (hW _ S) (fun r5 H5 q5 => ?_)
  obtain ⟨v5, m5, γ5, t5, rfl, hv5, S, hW⟩ := q5
  show wp _ _ _ _ _ [.int (iI v5)] _ _
  exact wp_iret rfl rfl ⟨_, _, _, _, rfl, hv5, S, hW⟩
abbrev W_X9_interlaced (E : am_E) (k : Nat) (x1 : Int) (x2 : Int) (x3 : Int) (m : MM) (γ : GM) (t : am_H) (Q : Int → MM → GM → am_H → Prop) : Prop := (TI E k 219 [.ref 158, .int (iI x1), .int (iI x2)] m γ t (fun v1 m1 γ1 t1 => (((v1 = 0) → (Q (-2) m1 γ1 t1)) ∧ (¬ (v1 = 0) → (rJ ((m1 158 6) - 1) ∧ (TI E k 192 [.long (lI x3), .long (lI 0), .long (lI ((m1 158 6) - 1))] m1 γ1 t1 (fun v5 m5 γ5 t5 => (((v5 = 0) → (Q (-2) m5 γ5 t5)) ∧ (¬ (v5 = 0) → (((x2 = x3) → (Q (-1) m5 γ5 t5)) ∧ (¬ (x2 = x3) → (TI E k 254 [.ref 158, .int (iI x2)] m5 γ5 t5 (fun v8 m8 γ8 t8 => (((v8 = 0) → (Q (-1) m8 γ8 t8)) ∧ (¬ (v8 = 0) → (TI E k 254 [.ref 158, .int (iI x3)] m8 γ8 t8 (fun v10 m10 γ10 t10 => (((v10 = 0) → (Q (-1) m10 γ10 t10)) ∧ (¬ (v10 = 0) → ((0 ≤ x2 ∧ x2 < 24) ∧ ((0 ≤ x3 ∧ x3 < 24) ∧ ((((m10 171 ((x2).toNat)) = (m10 171 ((x3).toNat))) → (TI E k 255 [.ref 158, .int (iI x3)] m10 γ10 t10 (fun v17 m17 γ17 t17 => (TI E k 255 [.ref 158, .int (iI x2)] m17 γ17 t17 (fun v18 m18 γ18 t18 => (TI E k 256 [.ref 158, .int (iI x2)] m18 γ18 t18 (fun v19 m19 γ19 t19 => (TI E k 192 [.long (lI v17), .long (lI v18), .long (lI v19)] m19 γ19 t19 (fun v20 m20 γ20 t20 => (TI E k 256 [.ref 158, .int (iI x3)] m20 γ20 t20 (fun v21 m21 γ21 t21 => (TI E k 255 [.ref 158, .int (iI x2)] m21 γ21 t21 (fun v22 m22 γ22 t22 => (TI E k 256 [.ref 158, .int (iI x2)] m22 γ22 t22 (fun v23 m23 γ23 t23 => (TI E k 192 [.long (lI v21), .long (lI v22), .long (lI v23)] m23 γ23 t23 (fun v24 m24 γ24 t24 => (((v20 = v24) → (Q 0 m24 γ24 t24)) ∧ (¬ (v20 = v24) → (Q 1 m24 γ24 t24)))))))))))))))))))) ∧ (¬ ((m10 171 ((x2).toNat)) = (m10 171 ((x3).toNat))) → (Q (-1) m10 γ10 t10))))))))))))))))))))))))
theorem vc_X9_interlaced {E : am_E} {k : Nat} {x1 : Int} {x2 : Int} {x3 : Int} {m : MM} {γ : GM} {t : am_H} {Q : Int → MM → GM → am_H → Prop} (hx1 : rJ x1) (hx2 : rJ x2) (hx3 : rJ x3) (hW : W_X9_interlaced E k x1 x2 x3 m γ t Q) : TI E (k + 1) 257 [.ref 158, .int (iI x1), .int (iI x2), .int (iI x3)] m γ t Q := by
  unfold W_X9_interlaced at hW
  intro h S
  refine wp_g (n := 3) (pc' := 3) (L' := [some (.ref 158), some (.int (iI x1)), some (.int (iI x2)), some (.int (iI x3)), none, none]) (st' := [.int (iI x2), .int (iI x1), .ref 158]) rfl ?_
  refine wp_cv (As := [.int (iI x1), .int (iI x2)]) (rest := []) rfl rfl (S.cell 158 (nc rfl)) (by decide) rfl rfl rfl (Nat.le_of_ble_eq_true rfl) (Nat.le_of_ble_eq_true rfl) (hW _ S) (fun r1 H1 q1 => ?_)
  obtain ⟨v1, m1, γ1, t1, rfl, hv1, S, hW⟩ := q1
  show wp _ _ _ _ _ [.int (iI v1)] _ _
  refine wp_ifI (a := v1) rfl rfl hv1.1 hv1.2 (fun c2 => ?_) (fun c2 => ?_)
  · have dc2 := c2
    have hW := hW.1 dc2
    refine wp_g (n := 1) (pc' := 27) (L' := [some (.ref 158), some (.int (iI x1)), some (.int (iI x2)), some (.int (iI x3)), none, none]) (st' := [.int (iI (-2))]) rfl ?_
    exact wp_iret rfl rfl ⟨_, _, _, _, rfl, (by decide), S, hW⟩
  · have dc2 := c2
    have hW := hW.2 dc2
    refine wp_g (n := 1) (pc' := 10) (L' := [some (.ref 158), some (.int (iI x1)), some (.int (iI x2)), some (.int (iI x3)), none, none]) (st' := [.int (iI x3)]) rfl ?_
    refine wp_i2l (a := x3) rfl hx3 ?_
    refine wp_g (n := 2) (pc' := 13) (L' := [some (.ref 158), some (.int (iI x1)), some (.int (iI x2)), some (.int (iI x3)), none, none]) (st' := [.ref 158, .long (lI 0), .long (lI x3)]) rfl ?_
    refine wp_getf (v := .int (iI (m1 158 6))) rfl rfl (S.cell 158 (nc rfl)) (by decide) rfl ?_
    have hr3 : rJ (m1 158 6) := S.rg 158 6 (nl rfl)
    refine wp_g (n := 1) (pc' := 17) (L' := [some (.ref 158), some (.int (iI x1)), some (.int (iI x2)), some (.int (iI x3)), none, none]) (st' := [.int (iI 1), .int (iI (m1 158 6)), .long (lI 0), .long (lI x3)]) rfl ?_
    refine wp_sub (a := (m1 158 6)) (b := 1) rfl ?_
    obtain ⟨p4, hW⟩ := hW
    refine wp_i2l (a := ((m1 158 6) - 1)) rfl p4 ?_
    refine wp_cs (As := [.long (lI x3), .long (lI 0), .long (lI ((m1 158 6) - 1))]) (rest := []) rfl rfl rfl rfl (Nat.le_of_ble_eq_true rfl) (Nat.le_of_ble_eq_true rfl) (hW _ S) (fun r5 H5 q5 => ?_)
    obtain ⟨v5, m5, γ5, t5, rfl, hv5, S, hW⟩ := q5
    show wp _ _ _ _ _ [.int (iI v5)] _ _
    refine wp_ifI (a := v5) rfl rfl hv5.1 hv5.2 (fun c6 => ?_) (fun c6 => ?_)
    · have dc6 := c6
      have hW := hW.2 dc6
      refine wp_g (n := 2) (pc' := 30) (L' := [some (.ref 158), some (.int (iI x1)), some (.int (iI x2)), some (.int (iI x3)), none, none]) (st' := [.int (iI x3), .int (iI x2)]) rfl ?_
      refine wp_icmpI (a := x2) (b := x3) rfl rfl hx2.1 hx2.2 hx3.1 hx3.2 (fun c7 => ?_) (fun c7 => ?_)
      · have dc7 := c7
        have hW := hW.1 dc7
        refine wp_g (n := 1) (pc' := 65) (L' := [some (.ref 158), some (.int (iI x1)), some (.int (iI x2)), some (.int (iI x3)), none, none]) (st' := [.int (iI (-1))]) rfl ?_
        exact wp_iret rfl rfl ⟨_, _, _, _, rfl, (by decide), S, hW⟩
      · have dc7 := c7
        have hW := hW.2 dc7
        refine wp_g (n := 2) (pc' := 35) (L' := [some (.ref 158), some (.int (iI x1)), some (.int (iI x2)), some (.int (iI x3)), none, none]) (st' := [.int (iI x2), .ref 158]) rfl ?_
        refine wp_cv (As := [.int (iI x2)]) (rest := []) rfl rfl (S.cell 158 (nc rfl)) (by decide) rfl rfl rfl (Nat.le_of_ble_eq_true rfl) (Nat.le_of_ble_eq_true rfl) (hW _ S) (fun r8 H8 q8 => ?_)
        obtain ⟨v8, m8, γ8, t8, rfl, hv8, S, hW⟩ := q8
        show wp _ _ _ _ _ [.int (iI v8)] _ _
        refine wp_ifI (a := v8) rfl rfl hv8.1 hv8.2 (fun c9 => ?_) (fun c9 => ?_)
        · have dc9 := c9
          have hW := hW.1 dc9
          refine wp_g (n := 1) (pc' := 65) (L' := [some (.ref 158), some (.int (iI x1)), some (.int (iI x2)), some (.int (iI x3)), none, none]) (st' := [.int (iI (-1))]) rfl ?_
          exact wp_iret rfl rfl ⟨_, _, _, _, rfl, (by decide), S, hW⟩
        · have dc9 := c9
          have hW := hW.2 dc9
          refine wp_g (n := 2) (pc' := 43) (L' := [some (.ref 158), some (.int (iI x1)), some (.int (iI x2)), some (.int (iI x3)), none, none]) (st' := [.int (iI x3), .ref 158]) rfl ?_
          refine wp_cv (As := [.int (iI x3)]) (rest := []) rfl rfl (S.cell 158 (nc rfl)) (by decide) rfl rfl rfl (Nat.le_of_ble_eq_true rfl) (Nat.le_of_ble_eq_true rfl) (hW _ S) (fun r10 H10 q10 => ?_)
          obtain ⟨v10, m10, γ10, t10, rfl, hv10, S, hW⟩ := q10
          show wp _ _ _ _ _ [.int (iI v10)] _ _
          refine wp_ifI (a := v10) rfl rfl hv10.1 hv10.2 (fun c11 => ?_) (fun c11 => ?_)
          · have dc11 := c11
            have hW := hW.1 dc11
            refine wp_g (n := 1) (pc' := 65) (L' := [some (.ref 158), some (.int (iI x1)), some (.int (iI x2)), some (.int (iI x3)), none, none]) (st' := [.int (iI (-1))]) rfl ?_
            exact wp_iret rfl rfl ⟨_, _, _, _, rfl, (by decide), S, hW⟩
          · have dc11 := c11
            have hW := hW.2 dc11
            refine wp_g (n := 1) (pc' := 50) (L' := [some (.ref 158), some (.int (iI x1)), some (.int (iI x2)), some (.int (iI x3)), none, none]) (st' := [.ref 158]) rfl ?_
            refine wp_getf (v := .ref 171) rfl rfl (S.cell 158 (nc rfl)) (by decide) rfl ?_
            refine wp_g (n := 1) (pc' := 54) (L' := [some (.ref 158), some (.int (iI x1)), some (.int (iI x2)), some (.int (iI x3)), none, none]) (st' := [.int (iI x2), .ref 171]) rfl ?_
            obtain ⟨p12, hW⟩ := hW
            refine wp_iald (n := 24) (F := (m10 171)) rfl (S.cell 171 (nc rfl)) (by decide) p12.1 p12.2 (by decide) ?_
            show wp _ _ _ _ _ [.int (iI (m10 171 ((x2).toNat)))] _ _
            have hr13 : rJ (m10 171 ((x2).toNat)) := S.rg 171 ((x2).toNat) (nl rfl)
            refine wp_g (n := 1) (pc' := 56) (L' := [some (.ref 158), some (.int (iI x1)), some (.int (iI x2)), some (.int (iI x3)), none, none]) (st' := [.ref 158, .int (iI (m10 171 ((x2).toNat)))]) rfl ?_
            refine wp_getf (v := .ref 171) rfl rfl (S.cell 158 (nc rfl)) (by decide) rfl ?_
            refine wp_g (n := 1) (pc' := 60) (L' := [some (.ref 158), some (.int (iI x1)), some (.int (iI x2)), some (.int (iI x3)), none, none]) (st' := [.int (iI x3), .ref 171, .int (iI (m10 171 ((x2).toNat)))]) rfl ?_
            obtain ⟨p14, hW⟩ := hW
            refine wp_iald (n := 24) (F := (m10 171)) rfl (S.cell 171 (nc rfl)) (by decide) p14.1 p14.2 (by decide) ?_
            show wp _ _ _ _ _ [.int (iI (m10 171 ((x3).toNat))), .int (iI (m10 171 ((x2).toNat)))] _ _
            have hr15 : rJ (m10 171 ((x3).toNat)) := S.rg 171 ((x3).toNat) (nl rfl)
            refine wp_icmpI (a := (m10 171 ((x2).toNat))) (b := (m10 171 ((x3).toNat))) rfl rfl hr13.1 hr13.2 hr15.1 hr15.2 (fun c16 => ?_) (fun c16 => ?_)
            · have dc16 := c16
              have hW := hW.1 dc16
              refine wp_g (n := 2) (pc' := 68) (L' := [some (.ref 158), some (.int (iI x1)), some (.int (iI x2)), some (.int (iI x3)), none, none]) (st' := [.int (iI x3), .ref 158]) rfl ?_
              refine wp_cv (As := [.int (iI x3)]) (rest := []) rfl rfl (S.cell 158 (nc rfl)) (by decide) rfl rfl rfl (Nat.le_of_ble_eq_true rfl) (Nat.le_of_ble_eq_true rfl) (hW _ S) (fun r17 H17 q17 => ?_)
              obtain ⟨v17, m17, γ17, t17, rfl, hv17, S, hW⟩ := q17
              show wp _ _ _ _ _ [.int (iI v17)] _ _
              refine wp_i2l (a := v17) rfl hv17 ?_
              refine wp_g (n := 2) (pc' := 74) (L' := [some (.ref 158), some (.int (iI x1)), some (.int (iI x2)), some (.int (iI x3)), none, none]) (st' := [.int (iI x2), .ref 158, .long (lI v17)]) rfl ?_
              refine wp_cv (As := [.int (iI x2)]) (rest := [.long (lI v17)]) rfl rfl (S.cell 158 (nc rfl)) (by decide) rfl rfl rfl (Nat.le_of_ble_eq_true rfl) (Nat.le_of_ble_eq_true rfl) (hW _ S) (fun r18 H18 q18 => ?_)
              obtain ⟨v18, m18, γ18, t18, rfl, hv18, S, hW⟩ := q18
              show wp _ _ _ _ _ [.int (iI v18), .long (lI v17)] _ _
              refine wp_i2l (a := v18) rfl hv18 ?_
              refine wp_g (n := 2) (pc' := 80) (L' := [some (.ref 158), some (.int (iI x1)), some (.int (iI x2)), some (.int (iI x3)), none, none]) (st' := [.int (iI x2), .ref 158, .long (lI v18), .long (lI v17)]) rfl ?_
              refine wp_cv (As := [.int (iI x2)]) (rest := [.long (lI v18), .long (lI v17)]) rfl rfl (S.cell 158 (nc rfl)) (by decide) rfl rfl rfl (Nat.le_of_ble_eq_true rfl) (Nat.le_of_ble_eq_true rfl) (hW _ S) (fun r19 H19 q19 => ?_)
              obtain ⟨v19, m19, γ19, t19, rfl, hv19, S, hW⟩ := q19
              show wp _ _ _ _ _ [.int (iI v19), .long (lI v18), .long (lI v17)] _ _
              refine wp_i2l (a := v19) rfl hv19 ?_
              refine wp_cs (As := [.long (lI v17), .long (lI v18), .long (lI v19)]) (rest := []) rfl rfl rfl rfl (Nat.le_of_ble_eq_true rfl) (Nat.le_of_ble_eq_true rfl) (hW _ S) (fun r20 H20 q20 => ?_)
              obtain ⟨v20, m20, γ20, t20, rfl, hv20, S, hW⟩ := q20
              show wp _ _ _ _ _ [.int (iI v20)] _ _
              refine wp_g (n := 3) (pc' := 91) (L' := [some (.ref 158), some (.int (iI x1)), some (.int (iI x2)), some (.int (iI x3)), some (.int (iI v20)), none]) (st' := [.int (iI x3), .ref 158]) rfl ?_
              refine wp_cv (As := [.int (iI x3)]) (rest := []) rfl rfl (S.cell 158 (nc rfl)) (by decide) rfl rfl rfl (Nat.le_of_ble_eq_true rfl) (Nat.le_of_ble_eq_true rfl) (hW _ S) (fun r21 H21 q21 => ?_)
              obtain ⟨v21, m21, γ21, t21, rfl, hv21, S, hW⟩ := q21
              show wp _ _ _ _ _ [.int (iI v21)] _ _
              refine wp_i2l (a := v21) rfl hv21 ?_
              refine wp_g (n := 2) (pc' := 97) (L' := [some (.ref 158), some (.int (iI x1)), some (.int (iI x2)), some (.int (iI x3)), some (.int (iI v20)), none]) (st' := [.int (iI x2), .ref 158, .long (lI v21)]) rfl ?_
              refine wp_cv (As := [.int (iI x2)]) (rest := [.long (lI v21)]) rfl rfl (S.cell 158 (nc rfl)) (by decide) rfl rfl rfl (Nat.le_of_ble_eq_true rfl) (Nat.le_of_ble_eq_true rfl) (hW _ S) (fun r22 H22 q22 => ?_)
              obtain ⟨v22, m22, γ22, t22, rfl, hv22, S, hW⟩ := q22
              show wp _ _ _ _ _ [.int (iI v22), .long (lI v21)] _ _
              refine wp_i2l (a := v22) rfl hv22 ?_
              refine wp_g (n := 2) (pc' := 103) (L' := [some (.ref 158), some (.int (iI x1)), some (.int (iI x2)), some (.int (iI x3)), some (.int (iI v20)), none]) (st' := [.int (iI x2), .ref 158, .long (lI v22), .long (lI v21)]) rfl ?_
              refine wp_cv (As := [.int (iI x2)]) (rest := [.long (lI v22), .long (lI v21)]) rfl rfl (S.cell 158 (nc rfl)) (by decide) rfl rfl rfl (Nat.le_of_ble_eq_true rfl) (Nat.le_of_ble_eq_true rfl) (hW _ S) (fun r23 H23 q23 => ?_)
              obtain ⟨v23, m23, γ23, t23, rfl, hv23, S, hW⟩ := q23
              show wp _ _ _ _ _ [.int (iI v23), .long (lI v22), .long (lI v21)] _ _
              refine wp_i2l (a := v23) rfl hv23 ?_
              refine wp_cs (As := [.long (lI v21), .long (lI v22), .long (lI v23)]) (rest := []) rfl rfl rfl rfl (Nat.le_of_ble_eq_true rfl) (Nat.le_of_ble_eq_true rfl) (hW _ S) (fun r24 H24 q24 => ?_)
              obtain ⟨v24, m24, γ24, t24, rfl, hv24, S, hW⟩ := q24
              show wp _ _ _ _ _ [.int (iI v24)] _ _
              refine wp_g (n := 3) (pc' := 116) (L' := [some (.ref 158), some (.int (iI x1)), some (.int (iI x2)), some (.int (iI x3)), some (.int (iI v20)), some (.int (iI v24))]) (st' := [.int (iI v24), .int (iI v20)]) rfl ?_
              refine wp_icmpI (a := v20) (b := v24) rfl rfl hv20.1 hv20.2 hv24.1 hv24.2 (fun c25 => ?_) (fun c25 => ?_)
              · have dc25 := c25
                have hW := hW.1 dc25
                refine wp_g (n := 1) (pc' := 124) (L' := [some (.ref 158), some (.int (iI x1)), some (.int (iI x2)), some (.int (iI x3)), some (.int (iI v20)), some (.int (iI v24))]) (st' := [.int (iI 0)]) rfl ?_
                exact wp_iret rfl rfl ⟨_, _, _, _, rfl, (by decide), S, hW⟩
              · have dc25 := c25
                have hW := hW.2 dc25
                refine wp_g (n := 2) (pc' := 124) (L' := [some (.ref 158), some (.int (iI x1)), some (.int (iI x2)), some (.int (iI x3)), some (.int (iI v20)), some (.int (iI v24))]) (st' := [.int (iI 1)]) rfl ?_
                exact wp_iret rfl rfl ⟨_, _, _, _, rfl, (by decide), S, hW⟩
            · have dc16 := c16
              have hW := hW.2 dc16
              refine wp_g (n := 1) (pc' := 65) (L' := [some (.ref 158), some (.int (iI x1)), some (.int (iI x2)), some (.int (iI x3)), none, none]) (st' := [.int (iI (-1))]) rfl ?_
              exact wp_iret rfl rfl ⟨_, _, _, _, rfl, (by decide), S, hW⟩
    · have dc6 := (Classical.not_not.mp c6)
      have hW := hW.1 dc6
      refine wp_g (n := 1) (pc' := 27) (L' := [some (.ref 158), some (.int (iI x1)), some (.int (iI x2)), some (.int (iI x3)), none, none]) (st' := [.int (iI (-2))]) rfl ?_
      exact wp_iret rfl rfl ⟨_, _, _, _, rfl, (by decide), S, hW⟩
def hd_X9_visits_22 (E : am_E) (k : Nat) (x1 : Int) (x2 : Int) (y2 : Int) (y3 : Int) (y4 : Int) (m : MM) (γ : GM) (t : am_H) (Q : Int → MM → GM → am_H → Prop) : Prop := ∀ (z1 : Option Value), TT (pI Q) E (k + 1) 258 22 [some (.ref 158), z1, some (.int (iI y2)), some (.int (iI y3)), some (.int (iI y4))] [] m γ t
abbrev W_X9_visits (E : am_E) (k : Nat) (x1 : Int) (x2 : Int) (m : MM) (γ : GM) (t : am_H) (Q : Int → MM → GM → am_H → Prop) : Prop := (TI E k 217 [.ref 158, .int (iI x1), .int (iI x2)] m γ t (fun v1 m1 γ1 t1 => (((v1 = 0) → (Q (-2) m1 γ1 t1)) ∧ (¬ (v1 = 0) → ((0 ≤ x2 ∧ x2 < 65) ∧ (hd_X9_visits_22 E k x1 x2 x2 0 (m1 170 ((x2).toNat)) m1 γ1 t1 Q))))))
abbrev W_X9_visits_22 (E : am_E) (k : Nat) (x1 : Int) (x2 : Int) (y2 : Int) (y3 : Int) (y4 : Int) (m : MM) (γ : GM) (t : am_H) (Q : Int → MM → GM → am_H → Prop) : Prop := ((0 ≤ (y2 + 1) ∧ (y2 + 1) < 65) ∧ (((y4 < (m 170 (((y2 + 1)).toNat))) → ((0 ≤ y4 ∧ y4 < 64) ∧ (0 ≤ (m 169 ((y4).toNat)) ∧ (hd_X9_visits_22 E k x1 x2 y2 (bOr y3 (bShl 1 ((m 169 ((y4).toNat)) / 4))) (y4 + 1) m γ t Q)))) ∧ (¬ (y4 < (m 170 (((y2 + 1)).toNat))) → (Q y3 m γ t))))
theorem vc_X9_visits {E : am_E} {k : Nat} {x1 : Int} {x2 : Int} {m : MM} {γ : GM} {t : am_H} {Q : Int → MM → GM → am_H → Prop} (hx1 : rJ x1) (hx2 : rJ x2) (hW : W_X9_visits E k x1 x2 m γ t Q) : TI E (k + 1) 258 [.ref 158, .int (iI x1), .int (iI x2)] m γ t Q := by
  unfold W_X9_visits at hW
  intro h S
  refine wp_g (n := 3) (pc' := 3) (L' := [some (.ref 158), some (.int (iI x1)), some (.int (iI x2)), none, none]) (st' := [.int (iI x2), .int (iI x1), .ref 158]) rfl ?_
  refine wp_cv (As := [.int (iI x1), .int (iI x2)]) (rest := []) rfl rfl (S.cell 158 (nc rfl)) (by decide) rfl rfl rfl (Nat.le_of_ble_eq_true rfl) (Nat.le_of_ble_eq_true rfl) (hW _ S) (fun r1 H1 q1 => ?_)
  obtain ⟨v1, m1, γ1, t1, rfl, hv1, S, hW⟩ := q1
  show wp _ _ _ _ _ [.int (iI v1)] _ _
  refine wp_ifI (a := v1) rfl rfl hv1.1 hv1.2 (fun c2 => ?_) (fun c2 => ?_)
  · have dc2 := c2
    have hW := hW.2 dc2
    refine wp_g (n := 3) (pc' := 15) (L' := [some (.ref 158), some (.int (iI x1)), some (.int (iI x2)), some (.int (iI 0)), none]) (st' := [.ref 158]) rfl ?_
    refine wp_getf (v := .ref 170) rfl rfl (S.cell 158 (nc rfl)) (by decide) rfl ?_
    refine wp_g (n := 1) (pc' := 19) (L' := [some (.ref 158), some (.int (iI x1)), some (.int (iI x2)), some (.int (iI 0)), none]) (st' := [.int (iI x2), .ref 170]) rfl ?_
    obtain ⟨p3, hW⟩ := hW
    refine wp_iald (n := 65) (F := (m1 170)) rfl (S.cell 170 (nc rfl)) (by decide) p3.1 p3.2 (by decide) ?_
    show wp _ _ _ _ _ [.int (iI (m1 170 ((x2).toNat)))] _ _
    have hr4 : rJ (m1 170 ((x2).toNat)) := S.rg 170 ((x2).toNat) (nl rfl)
    refine wp_g (n := 1) (pc' := 22) (L' := [some (.ref 158), some (.int (iI x1)), some (.int (iI x2)), some (.int (iI 0)), some (.int (iI (m1 170 ((x2).toNat))))]) (st' := []) rfl ?_
    exact hW (some (.int (iI x1))) _ S
  · have dc2 := (Classical.not_not.mp c2)
    have hW := hW.1 dc2
    refine wp_g (n := 1) (pc' := 11) (L' := [some (.ref 158), some (.int (iI x1)), some (.int (iI x2)), none, none]) (st' := [.int (iI (-2))]) rfl ?_
    exact wp_iret rfl rfl ⟨_, _, _, _, rfl, (by decide), S, hW⟩
theorem vc_X9_visits_22 {E : am_E} {k : Nat} {x1 : Int} {x2 : Int} {y2 : Int} {y3 : Int} {y4 : Int} {m : MM} {γ : GM} {t : am_H} {Q : Int → MM → GM → am_H → Prop} (hx1 : rJ x1) (hx2 : rJ x2) (hy2 : rJ y2) (hy3 : rJ y3) (hy4 : rJ y4) (hW : W_X9_visits_22 E k x1 x2 y2 y3 y4 m γ t Q) : hd_X9_visits_22 E k x1 x2 y2 y3 y4 m γ t Q := by
  unfold W_X9_visits_22 at hW
  intro z1 h S
  refine wp_g (n := 2) (pc' := 25) (L' := [some (.ref 158), z1, some (.int (iI y2)), some (.int (iI y3)), some (.int (iI y4))]) (st' := [.ref 158, .int (iI y4)]) rfl ?_
  refine wp_getf (v := .ref 170) rfl rfl (S.cell 158 (nc rfl)) (by decide) rfl ?_
  refine wp_g (n := 2) (pc' := 30) (L' := [some (.ref 158), z1, some (.int (iI y2)), some (.int (iI y3)), some (.int (iI y4))]) (st' := [.int (iI 1), .int (iI y2), .ref 170, .int (iI y4)]) rfl ?_
  refine wp_add (a := y2) (b := 1) rfl ?_
  obtain ⟨p1, hW⟩ := hW
  refine wp_iald (n := 65) (F := (m 170)) rfl (S.cell 170 (nc rfl)) (by decide) p1.1 p1.2 (by decide) ?_
  show wp _ _ _ _ _ [.int (iI (m 170 (((y2 + 1)).toNat))), .int (iI y4)] _ _
  have hr2 : rJ (m 170 (((y2 + 1)).toNat)) := S.rg 170 (((y2 + 1)).toNat) (nl rfl)
  refine wp_icmpI (a := y4) (b := (m 170 (((y2 + 1)).toNat))) rfl rfl hy4.1 hy4.2 hr2.1 hr2.2 (fun c3 => ?_) (fun c3 => ?_)
  · have dc3 := (Int.not_lt.mpr c3)
    have hW := hW.2 dc3
    refine wp_g (n := 1) (pc' := 56) (L' := [some (.ref 158), z1, some (.int (iI y2)), some (.int (iI y3)), some (.int (iI y4))]) (st' := [.int (iI y3)]) rfl ?_
    exact wp_iret rfl rfl ⟨_, _, _, _, rfl, hy3, S, hW⟩
  · have dc3 := (Int.not_le.mp c3)
    have hW := hW.1 dc3
    refine wp_g (n := 3) (pc' := 38) (L' := [some (.ref 158), z1, some (.int (iI y2)), some (.int (iI y3)), some (.int (iI y4))]) (st' := [.ref 158, .int (iI 1), .int (iI y3)]) rfl ?_
    refine wp_getf (v := .ref 169) rfl rfl (S.cell 158 (nc rfl)) (by decide) rfl ?_
    refine wp_g (n := 1) (pc' := 43) (L' := [some (.ref 158), z1, some (.int (iI y2)), some (.int (iI y3)), some (.int (iI y4))]) (st' := [.int (iI y4), .ref 169, .int (iI 1), .int (iI y3)]) rfl ?_
    obtain ⟨p4, hW⟩ := hW
    refine wp_iald (n := 64) (F := (m 169)) rfl (S.cell 169 (nc rfl)) (by decide) p4.1 p4.2 (by decide) ?_
    show wp _ _ _ _ _ [.int (iI (m 169 ((y4).toNat))), .int (iI 1), .int (iI y3)] _ _
    have hr5 : rJ (m 169 ((y4).toNat)) := S.rg 169 ((y4).toNat) (nl rfl)
    refine wp_g (n := 1) (pc' := 45) (L' := [some (.ref 158), z1, some (.int (iI y2)), some (.int (iI y3)), some (.int (iI y4))]) (st' := [.int (iI 4), .int (iI (m 169 ((y4).toNat))), .int (iI 1), .int (iI y3)]) rfl ?_
    obtain ⟨p6, hW⟩ := hW
    refine wp_div (a := (m 169 ((y4).toNat))) (b := 4) rfl p6 hr5.2 (by decide) (by decide) ?_
    have hr7 : rJ ((m 169 ((y4).toNat)) / 4) := by have := hr5; omega
    refine wp_bShl (a := 1) (b := ((m 169 ((y4).toNat)) / 4)) rfl ?_
    have hr8 : rJ (bShl 1 ((m 169 ((y4).toNat)) / 4)) := i32_rg _
    refine wp_bOr (a := y3) (b := (bShl 1 ((m 169 ((y4).toNat)) / 4))) rfl ?_
    have hr9 : rJ (bOr y3 (bShl 1 ((m 169 ((y4).toNat)) / 4))) := i32_rg _
    refine wp_g (n := 1) (pc' := 49) (L' := [some (.ref 158), z1, some (.int (iI y2)), some (.int (iI (bOr y3 (bShl 1 ((m 169 ((y4).toNat)) / 4))))), some (.int (iI y4))]) (st' := []) rfl ?_
    refine wp_iinc (L' := [some (.ref 158), z1, some (.int (iI y2)), some (.int (iI (bOr y3 (bShl 1 ((m 169 ((y4).toNat)) / 4))))), some (.int (iI (y4 + 1)))]) (a := y4) rfl rfl rfl ?_
    refine wp_g (n := 1) (pc' := 22) (L' := [some (.ref 158), z1, some (.int (iI y2)), some (.int (iI (bOr y3 (bShl 1 ((m 169 ((y4).toNat)) / 4))))), some (.int (iI (y4 + 1)))]) (st' := []) rfl ?_
    exact hW z1 _ S
abbrev W_X9_sideX (E : am_E) (k : Nat) (x1 : Int) (x2 : Int) (m : MM) (γ : GM) (t : am_H) (Q : Int → MM → GM → am_H → Prop) : Prop := (0 ≤ x1 ∧ (0 < (m 158 5) ∧ (((x2 = 1) → (rJ (((2 * (x1 % (m 158 5))) + 1) + 1) ∧ (Q (((2 * (x1 % (m 158 5))) + 1) + 1) m γ t))) ∧ (¬ (x2 = 1) → (((x2 = 3) → (rJ (((2 * (x1 % (m 158 5))) + 1) + (-1)) ∧ (Q (((2 * (x1 % (m 158 5))) + 1) + (-1)) m γ t))) ∧ (¬ (x2 = 3) → (rJ (((2 * (x1 % (m 158 5))) + 1) + 0) ∧ (Q (((2 * (x1 % (m 158 5))) + 1) + 0) m γ t))))))))
theorem vc_X9_sideX {E : am_E} {k : Nat} {x1 : Int} {x2 : Int} {m : MM} {γ : GM} {t : am_H} {Q : Int → MM → GM → am_H → Prop} (hx1 : rJ x1) (hx2 : rJ x2) (hW : W_X9_sideX E k x1 x2 m γ t Q) : TI E k 259 [.ref 158, .int (iI x1), .int (iI x2)] m γ t Q := by
  unfold W_X9_sideX at hW
  intro h S
  refine wp_g (n := 3) (pc' := 3) (L' := [some (.ref 158), some (.int (iI x1)), some (.int (iI x2))]) (st' := [.ref 158, .int (iI x1), .int (iI 2)]) rfl ?_
  refine wp_getf (v := .int (iI (m 158 5))) rfl rfl (S.cell 158 (nc rfl)) (by decide) rfl ?_
  have hr1 : rJ (m 158 5) := S.rg 158 5 (nl rfl)
  obtain ⟨p2, hW⟩ := hW
  obtain ⟨p3, hW⟩ := hW
  refine wp_rem (a := x1) (b := (m 158 5)) rfl p2 hx1.2 p3 hr1.2 ?_
  refine wp_mul (a := 2) (b := (x1 % (m 158 5))) rfl ?_
  refine wp_g (n := 1) (pc' := 9) (L' := [some (.ref 158), some (.int (iI x1)), some (.int (iI x2))]) (st' := [.int (iI 1), .int (iI (2 * (x1 % (m 158 5))))]) rfl ?_
  refine wp_add (a := (2 * (x1 % (m 158 5)))) (b := 1) rfl ?_
  refine wp_g (n := 2) (pc' := 12) (L' := [some (.ref 158), some (.int (iI x1)), some (.int (iI x2))]) (st' := [.int (iI 1), .int (iI x2), .int (iI ((2 * (x1 % (m 158 5))) + 1))]) rfl ?_
  refine wp_icmpI (a := x2) (b := 1) rfl rfl hx2.1 hx2.2 (by decide) (by decide) (fun c4 => ?_) (fun c4 => ?_)
  · have dc4 := c4
    have hW := hW.2 dc4
    refine wp_g (n := 2) (pc' := 21) (L' := [some (.ref 158), some (.int (iI x1)), some (.int (iI x2))]) (st' := [.int (iI 3), .int (iI x2), .int (iI ((2 * (x1 % (m 158 5))) + 1))]) rfl ?_
    refine wp_icmpI (a := x2) (b := 3) rfl rfl hx2.1 hx2.2 (by decide) (by decide) (fun c5 => ?_) (fun c5 => ?_)
    · have dc5 := c5
      have hW := hW.2 dc5
      refine wp_g (n := 1) (pc' := 29) (L' := [some (.ref 158), some (.int (iI x1)), some (.int (iI x2))]) (st' := [.int (iI 0), .int (iI ((2 * (x1 % (m 158 5))) + 1))]) rfl ?_
      refine wp_add (a := ((2 * (x1 % (m 158 5))) + 1)) (b := 0) rfl ?_
      obtain ⟨p6, hW⟩ := hW
      exact wp_iret rfl rfl ⟨_, _, _, _, rfl, p6, S, hW⟩
    · have dc5 := (Classical.not_not.mp c5)
      have hW := hW.1 dc5
      refine wp_g (n := 2) (pc' := 29) (L' := [some (.ref 158), some (.int (iI x1)), some (.int (iI x2))]) (st' := [.int (iI (-1)), .int (iI ((2 * (x1 % (m 158 5))) + 1))]) rfl ?_
      refine wp_add (a := ((2 * (x1 % (m 158 5))) + 1)) (b := (-1)) rfl ?_
      obtain ⟨p7, hW⟩ := hW
      exact wp_iret rfl rfl ⟨_, _, _, _, rfl, p7, S, hW⟩
  · have dc4 := (Classical.not_not.mp c4)
    have hW := hW.1 dc4
    refine wp_g (n := 2) (pc' := 29) (L' := [some (.ref 158), some (.int (iI x1)), some (.int (iI x2))]) (st' := [.int (iI 1), .int (iI ((2 * (x1 % (m 158 5))) + 1))]) rfl ?_
    refine wp_add (a := ((2 * (x1 % (m 158 5))) + 1)) (b := 1) rfl ?_
    obtain ⟨p8, hW⟩ := hW
    exact wp_iret rfl rfl ⟨_, _, _, _, rfl, p8, S, hW⟩
abbrev W_X9_sideY (E : am_E) (k : Nat) (x1 : Int) (x2 : Int) (m : MM) (γ : GM) (t : am_H) (Q : Int → MM → GM → am_H → Prop) : Prop := (0 ≤ x1 ∧ (0 < (m 158 5) ∧ (((x2 = 2) → (rJ (((2 * (x1 / (m 158 5))) + 1) + 1) ∧ (Q (((2 * (x1 / (m 158 5))) + 1) + 1) m γ t))) ∧ (¬ (x2 = 2) → (((x2 = 0) → (rJ (((2 * (x1 / (m 158 5))) + 1) + (-1)) ∧ (Q (((2 * (x1 / (m 158 5))) + 1) + (-1)) m γ t))) ∧ (¬ (x2 = 0) → (rJ (((2 * (x1 / (m 158 5))) + 1) + 0) ∧ (Q (((2 * (x1 / (m 158 5))) + 1) + 0) m γ t))))))))
theorem vc_X9_sideY {E : am_E} {k : Nat} {x1 : Int} {x2 : Int} {m : MM} {γ : GM} {t : am_H} {Q : Int → MM → GM → am_H → Prop} (hx1 : rJ x1) (hx2 : rJ x2) (hW : W_X9_sideY E k x1 x2 m γ t Q) : TI E k 260 [.ref 158, .int (iI x1), .int (iI x2)] m γ t Q := by
  unfold W_X9_sideY at hW
  intro h S
  refine wp_g (n := 3) (pc' := 3) (L' := [some (.ref 158), some (.int (iI x1)), some (.int (iI x2))]) (st' := [.ref 158, .int (iI x1), .int (iI 2)]) rfl ?_
  refine wp_getf (v := .int (iI (m 158 5))) rfl rfl (S.cell 158 (nc rfl)) (by decide) rfl ?_
  have hr1 : rJ (m 158 5) := S.rg 158 5 (nl rfl)
  obtain ⟨p2, hW⟩ := hW
  obtain ⟨p3, hW⟩ := hW
  refine wp_div (a := x1) (b := (m 158 5)) rfl p2 hx1.2 p3 hr1.2 ?_
  refine wp_mul (a := 2) (b := (x1 / (m 158 5))) rfl ?_
  refine wp_g (n := 1) (pc' := 9) (L' := [some (.ref 158), some (.int (iI x1)), some (.int (iI x2))]) (st' := [.int (iI 1), .int (iI (2 * (x1 / (m 158 5))))]) rfl ?_
  refine wp_add (a := (2 * (x1 / (m 158 5)))) (b := 1) rfl ?_
  refine wp_g (n := 2) (pc' := 12) (L' := [some (.ref 158), some (.int (iI x1)), some (.int (iI x2))]) (st' := [.int (iI 2), .int (iI x2), .int (iI ((2 * (x1 / (m 158 5))) + 1))]) rfl ?_
  refine wp_icmpI (a := x2) (b := 2) rfl rfl hx2.1 hx2.2 (by decide) (by decide) (fun c4 => ?_) (fun c4 => ?_)
  · have dc4 := c4
    have hW := hW.2 dc4
    refine wp_g (n := 1) (pc' := 20) (L' := [some (.ref 158), some (.int (iI x1)), some (.int (iI x2))]) (st' := [.int (iI x2), .int (iI ((2 * (x1 / (m 158 5))) + 1))]) rfl ?_
    refine wp_ifI (a := x2) rfl rfl hx2.1 hx2.2 (fun c5 => ?_) (fun c5 => ?_)
    · have dc5 := c5
      have hW := hW.2 dc5
      refine wp_g (n := 1) (pc' := 28) (L' := [some (.ref 158), some (.int (iI x1)), some (.int (iI x2))]) (st' := [.int (iI 0), .int (iI ((2 * (x1 / (m 158 5))) + 1))]) rfl ?_
      refine wp_add (a := ((2 * (x1 / (m 158 5))) + 1)) (b := 0) rfl ?_
      obtain ⟨p6, hW⟩ := hW
      exact wp_iret rfl rfl ⟨_, _, _, _, rfl, p6, S, hW⟩
    · have dc5 := (Classical.not_not.mp c5)
      have hW := hW.1 dc5
      refine wp_g (n := 2) (pc' := 28) (L' := [some (.ref 158), some (.int (iI x1)), some (.int (iI x2))]) (st' := [.int (iI (-1)), .int (iI ((2 * (x1 / (m 158 5))) + 1))]) rfl ?_
      refine wp_add (a := ((2 * (x1 / (m 158 5))) + 1)) (b := (-1)) rfl ?_
      obtain ⟨p7, hW⟩ := hW
      exact wp_iret rfl rfl ⟨_, _, _, _, rfl, p7, S, hW⟩
  · have dc4 := (Classical.not_not.mp c4)
    have hW := hW.1 dc4
    refine wp_g (n := 2) (pc' := 28) (L' := [some (.ref 158), some (.int (iI x1)), some (.int (iI x2))]) (st' := [.int (iI 1), .int (iI ((2 * (x1 / (m 158 5))) + 1))]) rfl ?_
    refine wp_add (a := ((2 * (x1 / (m 158 5))) + 1)) (b := 1) rfl ?_
    obtain ⟨p8, hW⟩ := hW
    exact wp_iret rfl rfl ⟨_, _, _, _, rfl, p8, S, hW⟩
def hd_X9_winds_64 (E : am_E) (k : Nat) (x1 : Int) (x2 : Int) (x3 : Int) (y2 : Int) (y4 : Int) (y5 : Int) (y6 : Int) (y7 : Int) (m : MM) (γ : GM) (t : am_H) (Q : Int → MM → GM → am_H → Prop) : Prop := ∀ (z1 z3 z8 z9 z10 z11 z12 z13 z14 z15 : Option Value), TT (pI Q) E (k + 1) 261 64 [some (.ref 158), z1, some (.int (iI y2)), z3, some (.int (iI y4)), some (.int (iI y5)), some (.int (iI y6)), some (.int (iI y7)), z8, z9, z10, z11, z12, z13, z14, z15] [] m γ t
def hd_X9_winds_149 (E : am_E) (k : Nat) (x1 : Int) (x2 : Int) (x3 : Int) (y2 : Int) (y4 : Int) (y5 : Int) (y6 : Int) (y7 : Int) (y8 : Int) (y11 : Int) (y12 : Int) (m : MM) (γ : GM) (t : am_H) (Q : Int → MM → GM → am_H → Prop) : Prop := ∀ (z1 z3 z9 z10 z13 z14 z15 : Option Value), TT (pI Q) E (k + 1) 261 149 [some (.ref 158), z1, some (.int (iI y2)), z3, some (.int (iI y4)), some (.int (iI y5)), some (.int (iI y6)), some (.int (iI y7)), some (.int (iI y8)), z9, z10, some (.int (iI y11)), some (.int (iI y12)), z13, z14, z15] [] m γ t
def hd_X9_winds_212 (E : am_E) (k : Nat) (x1 : Int) (x2 : Int) (x3 : Int) (y2 : Int) (y4 : Int) (y5 : Int) (y6 : Int) (y7 : Int) (y13 : Int) (y14 : Int) (y15 : Int) (m : MM) (γ : GM) (t : am_H) (Q : Int → MM → GM → am_H → Prop) : Prop := ∀ (z1 z3 z8 z9 z10 z11 z12 : Option Value), TT (pI Q) E (k + 1) 261 212 [some (.ref 158), z1, some (.int (iI y2)), z3, some (.int (iI y4)), some (.int (iI y5)), some (.int (iI y6)), some (.int (iI y7)), z8, z9, z10, z11, z12, some (.int (iI y13)), some (.int (iI y14)), some (.int (iI y15))] [] m γ t
def hd_X9_winds_241 (E : am_E) (k : Nat) (x1 : Int) (x2 : Int) (x3 : Int) (y2 : Int) (y4 : Int) (y5 : Int) (y6 : Int) (y7 : Int) (y13 : Int) (y14 : Int) (y15 : Int) (m : MM) (γ : GM) (t : am_H) (Q : Int → MM → GM → am_H → Prop) : Prop := ∀ (z1 z3 z8 z9 z10 z11 z12 : Option Value), TT (pI Q) E (k + 1) 261 241 [some (.ref 158), z1, some (.int (iI y2)), z3, some (.int (iI y4)), some (.int (iI y5)), some (.int (iI y6)), some (.int (iI y7)), z8, z9, z10, z11, z12, some (.int (iI y13)), some (.int (iI y14)), some (.int (iI y15))] [] m γ t
abbrev W_X9_winds (E : am_E) (k : Nat) (x1 : Int) (x2 : Int) (x3 : Int) (m : MM) (γ : GM) (t : am_H) (Q : Int → MM → GM → am_H → Prop) : Prop := (TI E k 217 [.ref 158, .int (iI x1), .int (iI x2)] m γ t (fun v1 m1 γ1 t1 => (((v1 = 0) → (Q (-1000) m1 γ1 t1)) ∧ (¬ (v1 = 0) → (TI E k 203 [.ref 158] m1 γ1 t1 (fun v3 m3 γ3 t3 => (rJ (v3 - 1) ∧ (TI E k 192 [.long (lI x3), .long (lI 0), .long (lI (v3 - 1))] m3 γ3 t3 (fun v5 m5 γ5 t5 => (((v5 = 0) → (Q (-1000) m5 γ5 t5)) ∧ (¬ (v5 = 0) → (0 ≤ x3 ∧ (0 < (m5 158 5) ∧ (0 ≤ x3 ∧ (0 < (m5 158 5) ∧ ((0 ≤ x2 ∧ x2 < 65) ∧ (hd_X9_winds_64 E k x1 x2 x3 x2 ((2 * (x3 % (m5 158 5))) + 1) ((2 * (x3 / (m5 158 5))) + 1) 0 (m5 170 ((x2).toNat)) m5 γ5 t5 Q)))))))))))))))))
abbrev W_X9_winds_64 (E : am_E) (k : Nat) (x1 : Int) (x2 : Int) (x3 : Int) (y2 : Int) (y4 : Int) (y5 : Int) (y6 : Int) (y7 : Int) (m : MM) (γ : GM) (t : am_H) (Q : Int → MM → GM → am_H → Prop) : Prop := ((0 ≤ (y2 + 1) ∧ (y2 + 1) < 65) ∧ (((y7 < (m 170 (((y2 + 1)).toNat))) → ((0 ≤ y7 ∧ y7 < 64) ∧ (0 ≤ (m 169 ((y7).toNat)) ∧ ((0 ≤ y7 ∧ y7 < 64) ∧ (0 ≤ (m 169 ((y7).toNat)) ∧ ((0 ≤ y7 ∧ y7 < 64) ∧ ((0 ≤ (m 169 ((y7).toNat)) ∧ (m 169 ((y7).toNat)) < 64) ∧ ((((m 168 (((m 169 ((y7).toNat))).toNat)) = 0) → (rJ (((m 169 ((y7).toNat)) % 4) + 1) ∧ (0 ≤ (((m 169 ((y7).toNat)) % 4) + 1) ∧ (hd_X9_winds_149 E k x1 x2 x3 y2 y4 y5 y6 y7 ((m 169 ((y7).toNat)) / 4) ((((m 169 ((y7).toNat)) % 4) + 1) % 4) ((m 169 ((y7).toNat)) % 4) m γ t Q)))) ∧ (¬ ((m 168 (((m 169 ((y7).toNat))).toNat)) = 0) → (rJ (((m 169 ((y7).toNat)) % 4) + 1) ∧ (0 ≤ (((m 169 ((y7).toNat)) % 4) + 1) ∧ (hd_X9_winds_149 E k x1 x2 x3 y2 y4 y5 y6 y7 ((m 169 ((y7).toNat)) / 4) ((m 169 ((y7).toNat)) % 4) ((((m 169 ((y7).toNat)) % 4) + 1) % 4) m γ t Q)))))))))))) ∧ (¬ (y7 < (m 170 (((y2 + 1)).toNat))) → (Q y6 m γ t))))
abbrev W_X9_winds_149 (E : am_E) (k : Nat) (x1 : Int) (x2 : Int) (x3 : Int) (y2 : Int) (y4 : Int) (y5 : Int) (y6 : Int) (y7 : Int) (y8 : Int) (y11 : Int) (y12 : Int) (m : MM) (γ : GM) (t : am_H) (Q : Int → MM → GM → am_H → Prop) : Prop := (TI E k 260 [.ref 158, .int (iI y8), .int (iI y11)] m γ t (fun v1 m1 γ1 t1 => (TI E k 260 [.ref 158, .int (iI y8), .int (iI y12)] m1 γ1 t1 (fun v2 m2 γ2 t2 => (TI E k 259 [.ref 158, .int (iI y8), .int (iI y12)] m2 γ2 t2 (fun v3 m3 γ3 t3 => (TI E k 259 [.ref 158, .int (iI y8), .int (iI y11)] m3 γ3 t3 (fun v4 m4 γ4 t4 => (TI E k 259 [.ref 158, .int (iI y8), .int (iI y11)] m4 γ4 t4 (fun v5 m5 γ5 t5 => (hd_X9_winds_212 E k x1 x2 x3 y2 y4 y5 y6 y7 v1 v2 (((v3 - v4) * (y5 - v1)) - ((y4 - v5) * (v2 - v1))) m5 γ5 t5 Q)))))))))))
abbrev W_X9_winds_212 (E : am_E) (k : Nat) (x1 : Int) (x2 : Int) (x3 : Int) (y2 : Int) (y4 : Int) (y5 : Int) (y6 : Int) (y7 : Int) (y13 : Int) (y14 : Int) (y15 : Int) (m : MM) (γ : GM) (t : am_H) (Q : Int → MM → GM → am_H → Prop) : Prop := (((y13 ≤ y5) → (((y14 ≤ y5) → (hd_X9_winds_241 E k x1 x2 x3 y2 y4 y5 (y6 + 0) y7 y13 y14 y15 m γ t Q)) ∧ (¬ (y14 ≤ y5) → (((y15 ≤ 0) → (hd_X9_winds_241 E k x1 x2 x3 y2 y4 y5 (y6 + 0) y7 y13 y14 y15 m γ t Q)) ∧ (¬ (y15 ≤ 0) → (hd_X9_winds_241 E k x1 x2 x3 y2 y4 y5 (y6 + 1) y7 y13 y14 y15 m γ t Q)))))) ∧ (¬ (y13 ≤ y5) → (hd_X9_winds_241 E k x1 x2 x3 y2 y4 y5 (y6 + 0) y7 y13 y14 y15 m γ t Q)))
abbrev W_X9_winds_241 (E : am_E) (k : Nat) (x1 : Int) (x2 : Int) (x3 : Int) (y2 : Int) (y4 : Int) (y5 : Int) (y6 : Int) (y7 : Int) (y13 : Int) (y14 : Int) (y15 : Int) (m : MM) (γ : GM) (t : am_H) (Q : Int → MM → GM → am_H → Prop) : Prop := (((y13 ≤ y5) → (hd_X9_winds_64 E k x1 x2 x3 y2 y4 y5 (y6 - 0) (y7 + 1) m γ t Q)) ∧ (¬ (y13 ≤ y5) → (((y14 ≤ y5) → (((y15 < 0) → (hd_X9_winds_64 E k x1 x2 x3 y2 y4 y5 (y6 - 1) (y7 + 1) m γ t Q)) ∧ (¬ (y15 < 0) → (hd_X9_winds_64 E k x1 x2 x3 y2 y4 y5 (y6 - 0) (y7 + 1) m γ t Q)))) ∧ (¬ (y14 ≤ y5) → (hd_X9_winds_64 E k x1 x2 x3 y2 y4 y5 (y6 - 0) (y7 + 1) m γ t Q)))))
theorem vc_X9_winds {E : am_E} {k : Nat} {x1 : Int} {x2 : Int} {x3 : Int} {m : MM} {γ : GM} {t : am_H} {Q : Int → MM → GM → am_H → Prop} (hx1 : rJ x1) (hx2 : rJ x2) (hx3 : rJ x3) (hW : W_X9_winds E k x1 x2 x3 m γ t Q) : TI E (k + 1) 261 [.ref 158, .int (iI x1), .int (iI x2), .int (iI x3)] m γ t Q := by
  unfold W_X9_winds at hW
  intro h S
  refine wp_g (n := 3) (pc' := 3) (L' := [some (.ref 158), some (.int (iI x1)), some (.int (iI x2)), some (.int (iI x3)), none, none, none, none, none, none, none, none, none, none, none, none]) (st' := [.int (iI x2), .int (iI x1), .ref 158]) rfl ?_
  refine wp_cv (As := [.int (iI x1), .int (iI x2)]) (rest := []) rfl rfl (S.cell 158 (nc rfl)) (by decide) rfl rfl rfl (Nat.le_of_ble_eq_true rfl) (Nat.le_of_ble_eq_true rfl) (hW _ S) (fun r1 H1 q1 => ?_)
  obtain ⟨v1, m1, γ1, t1, rfl, hv1, S, hW⟩ := q1
  show wp _ _ _ _ _ [.int (iI v1)] _ _
  refine wp_ifI (a := v1) rfl rfl hv1.1 hv1.2 (fun c2 => ?_) (fun c2 => ?_)
  · have dc2 := c2
    have hW := hW.1 dc2
    refine wp_g (n := 1) (pc' := 28) (L' := [some (.ref 158), some (.int (iI x1)), some (.int (iI x2)), some (.int (iI x3)), none, none, none, none, none, none, none, none, none, none, none, none]) (st' := [.int (iI (-1000))]) rfl ?_
    exact wp_iret rfl rfl ⟨_, _, _, _, rfl, (by decide), S, hW⟩
  · have dc2 := c2
    have hW := hW.2 dc2
    refine wp_g (n := 1) (pc' := 10) (L' := [some (.ref 158), some (.int (iI x1)), some (.int (iI x2)), some (.int (iI x3)), none, none, none, none, none, none, none, none, none, none, none, none]) (st' := [.int (iI x3)]) rfl ?_
    refine wp_i2l (a := x3) rfl hx3 ?_
    refine wp_g (n := 2) (pc' := 13) (L' := [some (.ref 158), some (.int (iI x1)), some (.int (iI x2)), some (.int (iI x3)), none, none, none, none, none, none, none, none, none, none, none, none]) (st' := [.ref 158, .long (lI 0), .long (lI x3)]) rfl ?_
    refine wp_cv (As := []) (rest := [.long (lI 0), .long (lI x3)]) rfl rfl (S.cell 158 (nc rfl)) (by decide) rfl rfl rfl (Nat.le_of_ble_eq_true rfl) (Nat.le_of_ble_eq_true rfl) (hW _ S) (fun r3 H3 q3 => ?_)
    obtain ⟨v3, m3, γ3, t3, rfl, hv3, S, hW⟩ := q3
    show wp _ _ _ _ _ [.int (iI v3), .long (lI 0), .long (lI x3)] _ _
    refine wp_g (n := 1) (pc' := 17) (L' := [some (.ref 158), some (.int (iI x1)), some (.int (iI x2)), some (.int (iI x3)), none, none, none, none, none, none, none, none, none, none, none, none]) (st' := [.int (iI 1), .int (iI v3), .long (lI 0), .long (lI x3)]) rfl ?_
    refine wp_sub (a := v3) (b := 1) rfl ?_
    obtain ⟨p4, hW⟩ := hW
    refine wp_i2l (a := (v3 - 1)) rfl p4 ?_
    refine wp_cs (As := [.long (lI x3), .long (lI 0), .long (lI (v3 - 1))]) (rest := []) rfl rfl rfl rfl (Nat.le_of_ble_eq_true rfl) (Nat.le_of_ble_eq_true rfl) (hW _ S) (fun r5 H5 q5 => ?_)
    obtain ⟨v5, m5, γ5, t5, rfl, hv5, S, hW⟩ := q5
    show wp _ _ _ _ _ [.int (iI v5)] _ _
    refine wp_ifI (a := v5) rfl rfl hv5.1 hv5.2 (fun c6 => ?_) (fun c6 => ?_)
    · have dc6 := c6
      have hW := hW.2 dc6
      refine wp_g (n := 3) (pc' := 32) (L' := [some (.ref 158), some (.int (iI x1)), some (.int (iI x2)), some (.int (iI x3)), none, none, none, none, none, none, none, none, none, none, none, none]) (st' := [.ref 158, .int (iI x3), .int (iI 2)]) rfl ?_
      refine wp_getf (v := .int (iI (m5 158 5))) rfl rfl (S.cell 158 (nc rfl)) (by decide) rfl ?_
      have hr7 : rJ (m5 158 5) := S.rg 158 5 (nl rfl)
      obtain ⟨p8, hW⟩ := hW
      obtain ⟨p9, hW⟩ := hW
      refine wp_rem (a := x3) (b := (m5 158 5)) rfl p8 hx3.2 p9 hr7.2 ?_
      refine wp_mul (a := 2) (b := (x3 % (m5 158 5))) rfl ?_
      refine wp_g (n := 1) (pc' := 38) (L' := [some (.ref 158), some (.int (iI x1)), some (.int (iI x2)), some (.int (iI x3)), none, none, none, none, none, none, none, none, none, none, none, none]) (st' := [.int (iI 1), .int (iI (2 * (x3 % (m5 158 5))))]) rfl ?_
      refine wp_add (a := (2 * (x3 % (m5 158 5)))) (b := 1) rfl ?_
      refine wp_g (n := 4) (pc' := 44) (L' := [some (.ref 158), some (.int (iI x1)), some (.int (iI x2)), some (.int (iI x3)), some (.int (iI ((2 * (x3 % (m5 158 5))) + 1))), none, none, none, none, none, none, none, none, none, none, none]) (st' := [.ref 158, .int (iI x3), .int (iI 2)]) rfl ?_
      refine wp_getf (v := .int (iI (m5 158 5))) rfl rfl (S.cell 158 (nc rfl)) (by decide) rfl ?_
      obtain ⟨p10, hW⟩ := hW
      obtain ⟨p11, hW⟩ := hW
      refine wp_div (a := x3) (b := (m5 158 5)) rfl p10 hx3.2 p11 hr7.2 ?_
      refine wp_mul (a := 2) (b := (x3 / (m5 158 5))) rfl ?_
      refine wp_g (n := 1) (pc' := 50) (L' := [some (.ref 158), some (.int (iI x1)), some (.int (iI x2)), some (.int (iI x3)), some (.int (iI ((2 * (x3 % (m5 158 5))) + 1))), none, none, none, none, none, none, none, none, none, none, none]) (st' := [.int (iI 1), .int (iI (2 * (x3 / (m5 158 5))))]) rfl ?_
      refine wp_add (a := (2 * (x3 / (m5 158 5)))) (b := 1) rfl ?_
      refine wp_g (n := 4) (pc' := 57) (L' := [some (.ref 158), some (.int (iI x1)), some (.int (iI x2)), some (.int (iI x3)), some (.int (iI ((2 * (x3 % (m5 158 5))) + 1))), some (.int (iI ((2 * (x3 / (m5 158 5))) + 1))), some (.int (iI 0)), none, none, none, none, none, none, none, none, none]) (st' := [.ref 158]) rfl ?_
      refine wp_getf (v := .ref 170) rfl rfl (S.cell 158 (nc rfl)) (by decide) rfl ?_
      refine wp_g (n := 1) (pc' := 61) (L' := [some (.ref 158), some (.int (iI x1)), some (.int (iI x2)), some (.int (iI x3)), some (.int (iI ((2 * (x3 % (m5 158 5))) + 1))), some (.int (iI ((2 * (x3 / (m5 158 5))) + 1))), some (.int (iI 0)), none, none, none, none, none, none, none, none, none]) (st' := [.int (iI x2), .ref 170]) rfl ?_
      obtain ⟨p12, hW⟩ := hW
      refine wp_iald (n := 65) (F := (m5 170)) rfl (S.cell 170 (nc rfl)) (by decide) p12.1 p12.2 (by decide) ?_
      show wp _ _ _ _ _ [.int (iI (m5 170 ((x2).toNat)))] _ _
      have hr13 : rJ (m5 170 ((x2).toNat)) := S.rg 170 ((x2).toNat) (nl rfl)
      refine wp_g (n := 1) (pc' := 64) (L' := [some (.ref 158), some (.int (iI x1)), some (.int (iI x2)), some (.int (iI x3)), some (.int (iI ((2 * (x3 % (m5 158 5))) + 1))), some (.int (iI ((2 * (x3 / (m5 158 5))) + 1))), some (.int (iI 0)), some (.int (iI (m5 170 ((x2).toNat)))), none, none, none, none, none, none, none, none]) (st' := []) rfl ?_
      exact hW (some (.int (iI x1))) (some (.int (iI x3))) none none none none none none none none _ S
    · have dc6 := (Classical.not_not.mp c6)
      have hW := hW.1 dc6
      refine wp_g (n := 1) (pc' := 28) (L' := [some (.ref 158), some (.int (iI x1)), some (.int (iI x2)), some (.int (iI x3)), none, none, none, none, none, none, none, none, none, none, none, none]) (st' := [.int (iI (-1000))]) rfl ?_
      exact wp_iret rfl rfl ⟨_, _, _, _, rfl, (by decide), S, hW⟩
theorem vc_X9_winds_64 {E : am_E} {k : Nat} {x1 : Int} {x2 : Int} {x3 : Int} {y2 : Int} {y4 : Int} {y5 : Int} {y6 : Int} {y7 : Int} {m : MM} {γ : GM} {t : am_H} {Q : Int → MM → GM → am_H → Prop} (hx1 : rJ x1) (hx2 : rJ x2) (hx3 : rJ x3) (hy2 : rJ y2) (hy4 : rJ y4) (hy5 : rJ y5) (hy6 : rJ y6) (hy7 : rJ y7) (hW : W_X9_winds_64 E k x1 x2 x3 y2 y4 y5 y6 y7 m γ t Q) : hd_X9_winds_64 E k x1 x2 x3 y2 y4 y5 y6 y7 m γ t Q := by
  unfold W_X9_winds_64 at hW
  intro z1 z3 z8 z9 z10 z11 z12 z13 z14 z15 h S
  refine wp_g (n := 2) (pc' := 67) (L' := [some (.ref 158), z1, some (.int (iI y2)), z3, some (.int (iI y4)), some (.int (iI y5)), some (.int (iI y6)), some (.int (iI y7)), z8, z9, z10, z11, z12, z13, z14, z15]) (st' := [.ref 158, .int (iI y7)]) rfl ?_
  refine wp_getf (v := .ref 170) rfl rfl (S.cell 158 (nc rfl)) (by decide) rfl ?_
  refine wp_g (n := 2) (pc' := 72) (L' := [some (.ref 158), z1, some (.int (iI y2)), z3, some (.int (iI y4)), some (.int (iI y5)), some (.int (iI y6)), some (.int (iI y7)), z8, z9, z10, z11, z12, z13, z14, z15]) (st' := [.int (iI 1), .int (iI y2), .ref 170, .int (iI y7)]) rfl ?_
  refine wp_add (a := y2) (b := 1) rfl ?_
  obtain ⟨p1, hW⟩ := hW
  refine wp_iald (n := 65) (F := (m 170)) rfl (S.cell 170 (nc rfl)) (by decide) p1.1 p1.2 (by decide) ?_
  show wp _ _ _ _ _ [.int (iI (m 170 (((y2 + 1)).toNat))), .int (iI y7)] _ _
  have hr2 : rJ (m 170 (((y2 + 1)).toNat)) := S.rg 170 (((y2 + 1)).toNat) (nl rfl)
  refine wp_icmpI (a := y7) (b := (m 170 (((y2 + 1)).toNat))) rfl rfl hy7.1 hy7.2 hr2.1 hr2.2 (fun c3 => ?_) (fun c3 => ?_)
  · have dc3 := (Int.not_lt.mpr c3)
    have hW := hW.2 dc3
    refine wp_g (n := 1) (pc' := 278) (L' := [some (.ref 158), z1, some (.int (iI y2)), z3, some (.int (iI y4)), some (.int (iI y5)), some (.int (iI y6)), some (.int (iI y7)), z8, z9, z10, z11, z12, z13, z14, z15]) (st' := [.int (iI y6)]) rfl ?_
    exact wp_iret rfl rfl ⟨_, _, _, _, rfl, hy6, S, hW⟩
  · have dc3 := (Int.not_le.mp c3)
    have hW := hW.1 dc3
    refine wp_g (n := 1) (pc' := 78) (L' := [some (.ref 158), z1, some (.int (iI y2)), z3, some (.int (iI y4)), some (.int (iI y5)), some (.int (iI y6)), some (.int (iI y7)), z8, z9, z10, z11, z12, z13, z14, z15]) (st' := [.ref 158]) rfl ?_
    refine wp_getf (v := .ref 169) rfl rfl (S.cell 158 (nc rfl)) (by decide) rfl ?_
    refine wp_g (n := 1) (pc' := 83) (L' := [some (.ref 158), z1, some (.int (iI y2)), z3, some (.int (iI y4)), some (.int (iI y5)), some (.int (iI y6)), some (.int (iI y7)), z8, z9, z10, z11, z12, z13, z14, z15]) (st' := [.int (iI y7), .ref 169]) rfl ?_
    obtain ⟨p4, hW⟩ := hW
    refine wp_iald (n := 64) (F := (m 169)) rfl (S.cell 169 (nc rfl)) (by decide) p4.1 p4.2 (by decide) ?_
    show wp _ _ _ _ _ [.int (iI (m 169 ((y7).toNat)))] _ _
    have hr5 : rJ (m 169 ((y7).toNat)) := S.rg 169 ((y7).toNat) (nl rfl)
    refine wp_g (n := 1) (pc' := 85) (L' := [some (.ref 158), z1, some (.int (iI y2)), z3, some (.int (iI y4)), some (.int (iI y5)), some (.int (iI y6)), some (.int (iI y7)), z8, z9, z10, z11, z12, z13, z14, z15]) (st' := [.int (iI 4), .int (iI (m 169 ((y7).toNat)))]) rfl ?_
    obtain ⟨p6, hW⟩ := hW
    refine wp_div (a := (m 169 ((y7).toNat))) (b := 4) rfl p6 hr5.2 (by decide) (by decide) ?_
    have hr7 : rJ ((m 169 ((y7).toNat)) / 4) := by have := hr5; omega
    refine wp_g (n := 2) (pc' := 89) (L' := [some (.ref 158), z1, some (.int (iI y2)), z3, some (.int (iI y4)), some (.int (iI y5)), some (.int (iI y6)), some (.int (iI y7)), some (.int (iI ((m 169 ((y7).toNat)) / 4))), z9, z10, z11, z12, z13, z14, z15]) (st' := [.ref 158]) rfl ?_
    refine wp_getf (v := .ref 169) rfl rfl (S.cell 158 (nc rfl)) (by decide) rfl ?_
    refine wp_g (n := 1) (pc' := 94) (L' := [some (.ref 158), z1, some (.int (iI y2)), z3, some (.int (iI y4)), some (.int (iI y5)), some (.int (iI y6)), some (.int (iI y7)), some (.int (iI ((m 169 ((y7).toNat)) / 4))), z9, z10, z11, z12, z13, z14, z15]) (st' := [.int (iI y7), .ref 169]) rfl ?_
    obtain ⟨p8, hW⟩ := hW
    refine wp_iald (n := 64) (F := (m 169)) rfl (S.cell 169 (nc rfl)) (by decide) p8.1 p8.2 (by decide) ?_
    show wp _ _ _ _ _ [.int (iI (m 169 ((y7).toNat)))] _ _
    refine wp_g (n := 1) (pc' := 96) (L' := [some (.ref 158), z1, some (.int (iI y2)), z3, some (.int (iI y4)), some (.int (iI y5)), some (.int (iI y6)), some (.int (iI y7)), some (.int (iI ((m 169 ((y7).toNat)) / 4))), z9, z10, z11, z12, z13, z14, z15]) (st' := [.int (iI 4), .int (iI (m 169 ((y7).toNat)))]) rfl ?_
    obtain ⟨p9, hW⟩ := hW
    refine wp_rem (a := (m 169 ((y7).toNat))) (b := 4) rfl p9 hr5.2 (by decide) (by decide) ?_
    have hr10 : rJ ((m 169 ((y7).toNat)) % 4) := by omega
    refine wp_g (n := 2) (pc' := 100) (L' := [some (.ref 158), z1, some (.int (iI y2)), z3, some (.int (iI y4)), some (.int (iI y5)), some (.int (iI y6)), some (.int (iI y7)), some (.int (iI ((m 169 ((y7).toNat)) / 4))), some (.int (iI ((m 169 ((y7).toNat)) % 4))), z10, z11, z12, z13, z14, z15]) (st' := [.ref 158]) rfl ?_
    refine wp_getf (v := .ref 168) rfl rfl (S.cell 158 (nc rfl)) (by decide) rfl ?_
    refine wp_g (n := 1) (pc' := 104) (L' := [some (.ref 158), z1, some (.int (iI y2)), z3, some (.int (iI y4)), some (.int (iI y5)), some (.int (iI y6)), some (.int (iI y7)), some (.int (iI ((m 169 ((y7).toNat)) / 4))), some (.int (iI ((m 169 ((y7).toNat)) % 4))), z10, z11, z12, z13, z14, z15]) (st' := [.ref 158, .ref 168]) rfl ?_
    refine wp_getf (v := .ref 169) rfl rfl (S.cell 158 (nc rfl)) (by decide) rfl ?_
    refine wp_g (n := 1) (pc' := 109) (L' := [some (.ref 158), z1, some (.int (iI y2)), z3, some (.int (iI y4)), some (.int (iI y5)), some (.int (iI y6)), some (.int (iI y7)), some (.int (iI ((m 169 ((y7).toNat)) / 4))), some (.int (iI ((m 169 ((y7).toNat)) % 4))), z10, z11, z12, z13, z14, z15]) (st' := [.int (iI y7), .ref 169, .ref 168]) rfl ?_
    obtain ⟨p11, hW⟩ := hW
    refine wp_iald (n := 64) (F := (m 169)) rfl (S.cell 169 (nc rfl)) (by decide) p11.1 p11.2 (by decide) ?_
    show wp _ _ _ _ _ [.int (iI (m 169 ((y7).toNat))), .ref 168] _ _
    obtain ⟨p12, hW⟩ := hW
    refine wp_tald (n := 64) (F := (m 168)) rfl (S.cell 168 (nc rfl)) (by decide) p12.1 p12.2 (by decide) ?_
    show wp _ _ _ _ _ [.int (iI (m 168 (((m 169 ((y7).toNat))).toNat)))] _ _
    have hr13 : rJ (m 168 (((m 169 ((y7).toNat))).toNat)) := S.rg 168 (((m 169 ((y7).toNat))).toNat) (nl rfl)
    refine wp_g (n := 2) (pc' := 115) (L' := [some (.ref 158), z1, some (.int (iI y2)), z3, some (.int (iI y4)), some (.int (iI y5)), some (.int (iI y6)), some (.int (iI y7)), some (.int (iI ((m 169 ((y7).toNat)) / 4))), some (.int (iI ((m 169 ((y7).toNat)) % 4))), some (.int (iI (m 168 (((m 169 ((y7).toNat))).toNat)))), z11, z12, z13, z14, z15]) (st' := [.int (iI (m 168 (((m 169 ((y7).toNat))).toNat)))]) rfl ?_
    refine wp_ifI (a := (m 168 (((m 169 ((y7).toNat))).toNat))) rfl rfl hr13.1 hr13.2 (fun c14 => ?_) (fun c14 => ?_)
    · have dc14 := c14
      have hW := hW.1 dc14
      refine wp_g (n := 2) (pc' := 126) (L' := [some (.ref 158), z1, some (.int (iI y2)), z3, some (.int (iI y4)), some (.int (iI y5)), some (.int (iI y6)), some (.int (iI y7)), some (.int (iI ((m 169 ((y7).toNat)) / 4))), some (.int (iI ((m 169 ((y7).toNat)) % 4))), some (.int (iI (m 168 (((m 169 ((y7).toNat))).toNat)))), z11, z12, z13, z14, z15]) (st' := [.int (iI 1), .int (iI ((m 169 ((y7).toNat)) % 4))]) rfl ?_
      refine wp_add (a := ((m 169 ((y7).toNat)) % 4)) (b := 1) rfl ?_
      refine wp_g (n := 1) (pc' := 128) (L' := [some (.ref 158), z1, some (.int (iI y2)), z3, some (.int (iI y4)), some (.int (iI y5)), some (.int (iI y6)), some (.int (iI y7)), some (.int (iI ((m 169 ((y7).toNat)) / 4))), some (.int (iI ((m 169 ((y7).toNat)) % 4))), some (.int (iI (m 168 (((m 169 ((y7).toNat))).toNat)))), z11, z12, z13, z14, z15]) (st' := [.int (iI 4), .int (iI (((m 169 ((y7).toNat)) % 4) + 1))]) rfl ?_
      obtain ⟨p15, hW⟩ := hW
      obtain ⟨p16, hW⟩ := hW
      refine wp_rem (a := (((m 169 ((y7).toNat)) % 4) + 1)) (b := 4) rfl p16 p15.2 (by decide) (by decide) ?_
      have hr17 : rJ ((((m 169 ((y7).toNat)) % 4) + 1) % 4) := by omega
      refine wp_g (n := 2) (pc' := 133) (L' := [some (.ref 158), z1, some (.int (iI y2)), z3, some (.int (iI y4)), some (.int (iI y5)), some (.int (iI y6)), some (.int (iI y7)), some (.int (iI ((m 169 ((y7).toNat)) / 4))), some (.int (iI ((m 169 ((y7).toNat)) % 4))), some (.int (iI (m 168 (((m 169 ((y7).toNat))).toNat)))), some (.int (iI ((((m 169 ((y7).toNat)) % 4) + 1) % 4))), z12, z13, z14, z15]) (st' := [.int (iI (m 168 (((m 169 ((y7).toNat))).toNat)))]) rfl ?_
      refine wp_ifI (a := (m 168 (((m 169 ((y7).toNat))).toNat))) rfl rfl hr13.1 hr13.2 (fun c18 => ?_) (fun c18 => ?_)
      · skip
        refine wp_g (n := 2) (pc' := 149) (L' := [some (.ref 158), z1, some (.int (iI y2)), z3, some (.int (iI y4)), some (.int (iI y5)), some (.int (iI y6)), some (.int (iI y7)), some (.int (iI ((m 169 ((y7).toNat)) / 4))), some (.int (iI ((m 169 ((y7).toNat)) % 4))), some (.int (iI (m 168 (((m 169 ((y7).toNat))).toNat)))), some (.int (iI ((((m 169 ((y7).toNat)) % 4) + 1) % 4))), some (.int (iI ((m 169 ((y7).toNat)) % 4))), z13, z14, z15]) (st' := []) rfl ?_
        exact hW z1 z3 (some (.int (iI ((m 169 ((y7).toNat)) % 4)))) (some (.int (iI (m 168 (((m 169 ((y7).toNat))).toNat))))) z13 z14 z15 _ S
      · exact absurd dc14 c18
    · have dc14 := c14
      have hW := hW.2 dc14
      refine wp_g (n := 4) (pc' := 133) (L' := [some (.ref 158), z1, some (.int (iI y2)), z3, some (.int (iI y4)), some (.int (iI y5)), some (.int (iI y6)), some (.int (iI y7)), some (.int (iI ((m 169 ((y7).toNat)) / 4))), some (.int (iI ((m 169 ((y7).toNat)) % 4))), some (.int (iI (m 168 (((m 169 ((y7).toNat))).toNat)))), some (.int (iI ((m 169 ((y7).toNat)) % 4))), z12, z13, z14, z15]) (st' := [.int (iI (m 168 (((m 169 ((y7).toNat))).toNat)))]) rfl ?_
      refine wp_ifI (a := (m 168 (((m 169 ((y7).toNat))).toNat))) rfl rfl hr13.1 hr13.2 (fun c19 => ?_) (fun c19 => ?_)
      · exact absurd c19 dc14
      · skip
        refine wp_g (n := 2) (pc' := 139) (L' := [some (.ref 158), z1, some (.int (iI y2)), z3, some (.int (iI y4)), some (.int (iI y5)), some (.int (iI y6)), some (.int (iI y7)), some (.int (iI ((m 169 ((y7).toNat)) / 4))), some (.int (iI ((m 169 ((y7).toNat)) % 4))), some (.int (iI (m 168 (((m 169 ((y7).toNat))).toNat)))), some (.int (iI ((m 169 ((y7).toNat)) % 4))), z12, z13, z14, z15]) (st' := [.int (iI 1), .int (iI ((m 169 ((y7).toNat)) % 4))]) rfl ?_
        refine wp_add (a := ((m 169 ((y7).toNat)) % 4)) (b := 1) rfl ?_
        refine wp_g (n := 1) (pc' := 141) (L' := [some (.ref 158), z1, some (.int (iI y2)), z3, some (.int (iI y4)), some (.int (iI y5)), some (.int (iI y6)), some (.int (iI y7)), some (.int (iI ((m 169 ((y7).toNat)) / 4))), some (.int (iI ((m 169 ((y7).toNat)) % 4))), some (.int (iI (m 168 (((m 169 ((y7).toNat))).toNat)))), some (.int (iI ((m 169 ((y7).toNat)) % 4))), z12, z13, z14, z15]) (st' := [.int (iI 4), .int (iI (((m 169 ((y7).toNat)) % 4) + 1))]) rfl ?_
        obtain ⟨p20, hW⟩ := hW
        obtain ⟨p21, hW⟩ := hW
        refine wp_rem (a := (((m 169 ((y7).toNat)) % 4) + 1)) (b := 4) rfl p21 p20.2 (by decide) (by decide) ?_
        have hr22 : rJ ((((m 169 ((y7).toNat)) % 4) + 1) % 4) := by omega
        refine wp_g (n := 2) (pc' := 149) (L' := [some (.ref 158), z1, some (.int (iI y2)), z3, some (.int (iI y4)), some (.int (iI y5)), some (.int (iI y6)), some (.int (iI y7)), some (.int (iI ((m 169 ((y7).toNat)) / 4))), some (.int (iI ((m 169 ((y7).toNat)) % 4))), some (.int (iI (m 168 (((m 169 ((y7).toNat))).toNat)))), some (.int (iI ((m 169 ((y7).toNat)) % 4))), some (.int (iI ((((m 169 ((y7).toNat)) % 4) + 1) % 4))), z13, z14, z15]) (st' := []) rfl ?_
        exact hW z1 z3 (some (.int (iI ((m 169 ((y7).toNat)) % 4)))) (some (.int (iI (m 168 (((m 169 ((y7).toNat))).toNat))))) z13 z14 z15 _ S
theorem vc_X9_winds_149 {E : am_E} {k : Nat} {x1 : Int} {x2 : Int} {x3 : Int} {y2 : Int} {y4 : Int} {y5 : Int} {y6 : Int} {y7 : Int} {y8 : Int} {y11 : Int} {y12 : Int} {m : MM} {γ : GM} {t : am_H} {Q : Int → MM → GM → am_H → Prop} (hx1 : rJ x1) (hx2 : rJ x2) (hx3 : rJ x3) (hy2 : rJ y2) (hy4 : rJ y4) (hy5 : rJ y5) (hy6 : rJ y6) (hy7 : rJ y7) (hy8 : rJ y8) (hy11 : rJ y11) (hy12 : rJ y12) (hW : W_X9_winds_149 E k x1 x2 x3 y2 y4 y5 y6 y7 y8 y11 y12 m γ t Q) : hd_X9_winds_149 E k x1 x2 x3 y2 y4 y5 y6 y7 y8 y11 y12 m γ t Q := by
  unfold W_X9_winds_149 at hW
  intro z1 z3 z9 z10 z13 z14 z15 h S
  refine wp_g (n := 3) (pc' := 154) (L' := [some (.ref 158), z1, some (.int (iI y2)), z3, some (.int (iI y4)), some (.int (iI y5)), some (.int (iI y6)), some (.int (iI y7)), some (.int (iI y8)), z9, z10, some (.int (iI y11)), some (.int (iI y12)), z13, z14, z15]) (st' := [.int (iI y11), .int (iI y8), .ref 158]) rfl ?_
  refine wp_cv (As := [.int (iI y8), .int (iI y11)]) (rest := []) rfl rfl (S.cell 158 (nc rfl)) (by decide) rfl rfl rfl (Nat.le_of_ble_eq_true rfl) (Nat.le_of_ble_eq_true rfl) (hW _ S) (fun r1 H1 q1 => ?_)
  obtain ⟨v1, m1, γ1, t1, rfl, hv1, S, hW⟩ := q1
  show wp _ _ _ _ _ [.int (iI v1)] _ _
  refine wp_g (n := 4) (pc' := 164) (L' := [some (.ref 158), z1, some (.int (iI y2)), z3, some (.int (iI y4)), some (.int (iI y5)), some (.int (iI y6)), some (.int (iI y7)), some (.int (iI y8)), z9, z10, some (.int (iI y11)), some (.int (iI y12)), some (.int (iI v1)), z14, z15]) (st' := [.int (iI y12), .int (iI y8), .ref 158]) rfl ?_
  refine wp_cv (As := [.int (iI y8), .int (iI y12)]) (rest := []) rfl rfl (S.cell 158 (nc rfl)) (by decide) rfl rfl rfl (Nat.le_of_ble_eq_true rfl) (Nat.le_of_ble_eq_true rfl) (hW _ S) (fun r2 H2 q2 => ?_)
  obtain ⟨v2, m2, γ2, t2, rfl, hv2, S, hW⟩ := q2
  show wp _ _ _ _ _ [.int (iI v2)] _ _
  refine wp_g (n := 4) (pc' := 174) (L' := [some (.ref 158), z1, some (.int (iI y2)), z3, some (.int (iI y4)), some (.int (iI y5)), some (.int (iI y6)), some (.int (iI y7)), some (.int (iI y8)), z9, z10, some (.int (iI y11)), some (.int (iI y12)), some (.int (iI v1)), some (.int (iI v2)), z15]) (st' := [.int (iI y12), .int (iI y8), .ref 158]) rfl ?_
  refine wp_cv (As := [.int (iI y8), .int (iI y12)]) (rest := []) rfl rfl (S.cell 158 (nc rfl)) (by decide) rfl rfl rfl (Nat.le_of_ble_eq_true rfl) (Nat.le_of_ble_eq_true rfl) (hW _ S) (fun r3 H3 q3 => ?_)
  obtain ⟨v3, m3, γ3, t3, rfl, hv3, S, hW⟩ := q3
  show wp _ _ _ _ _ [.int (iI v3)] _ _
  refine wp_g (n := 3) (pc' := 182) (L' := [some (.ref 158), z1, some (.int (iI y2)), z3, some (.int (iI y4)), some (.int (iI y5)), some (.int (iI y6)), some (.int (iI y7)), some (.int (iI y8)), z9, z10, some (.int (iI y11)), some (.int (iI y12)), some (.int (iI v1)), some (.int (iI v2)), z15]) (st' := [.int (iI y11), .int (iI y8), .ref 158, .int (iI v3)]) rfl ?_
  refine wp_cv (As := [.int (iI y8), .int (iI y11)]) (rest := [.int (iI v3)]) rfl rfl (S.cell 158 (nc rfl)) (by decide) rfl rfl rfl (Nat.le_of_ble_eq_true rfl) (Nat.le_of_ble_eq_true rfl) (hW _ S) (fun r4 H4 q4 => ?_)
  obtain ⟨v4, m4, γ4, t4, rfl, hv4, S, hW⟩ := q4
  show wp _ _ _ _ _ [.int (iI v4), .int (iI v3)] _ _
  refine wp_sub (a := v3) (b := v4) rfl ?_
  refine wp_g (n := 2) (pc' := 190) (L' := [some (.ref 158), z1, some (.int (iI y2)), z3, some (.int (iI y4)), some (.int (iI y5)), some (.int (iI y6)), some (.int (iI y7)), some (.int (iI y8)), z9, z10, some (.int (iI y11)), some (.int (iI y12)), some (.int (iI v1)), some (.int (iI v2)), z15]) (st' := [.int (iI v1), .int (iI y5), .int (iI (v3 - v4))]) rfl ?_
  refine wp_sub (a := y5) (b := v1) rfl ?_
  refine wp_mul (a := (v3 - v4)) (b := (y5 - v1)) rfl ?_
  refine wp_g (n := 4) (pc' := 199) (L' := [some (.ref 158), z1, some (.int (iI y2)), z3, some (.int (iI y4)), some (.int (iI y5)), some (.int (iI y6)), some (.int (iI y7)), some (.int (iI y8)), z9, z10, some (.int (iI y11)), some (.int (iI y12)), some (.int (iI v1)), some (.int (iI v2)), z15]) (st' := [.int (iI y11), .int (iI y8), .ref 158, .int (iI y4), .int (iI ((v3 - v4) * (y5 - v1)))]) rfl ?_
  refine wp_cv (As := [.int (iI y8), .int (iI y11)]) (rest := [.int (iI y4), .int (iI ((v3 - v4) * (y5 - v1)))]) rfl rfl (S.cell 158 (nc rfl)) (by decide) rfl rfl rfl (Nat.le_of_ble_eq_true rfl) (Nat.le_of_ble_eq_true rfl) (hW _ S) (fun r5 H5 q5 => ?_)
  obtain ⟨v5, m5, γ5, t5, rfl, hv5, S, hW⟩ := q5
  show wp _ _ _ _ _ [.int (iI v5), .int (iI y4), .int (iI ((v3 - v4) * (y5 - v1)))] _ _
  refine wp_sub (a := y4) (b := v5) rfl ?_
  refine wp_g (n := 2) (pc' := 207) (L' := [some (.ref 158), z1, some (.int (iI y2)), z3, some (.int (iI y4)), some (.int (iI y5)), some (.int (iI y6)), some (.int (iI y7)), some (.int (iI y8)), z9, z10, some (.int (iI y11)), some (.int (iI y12)), some (.int (iI v1)), some (.int (iI v2)), z15]) (st' := [.int (iI v1), .int (iI v2), .int (iI (y4 - v5)), .int (iI ((v3 - v4) * (y5 - v1)))]) rfl ?_
  refine wp_sub (a := v2) (b := v1) rfl ?_
  refine wp_mul (a := (y4 - v5)) (b := (v2 - v1)) rfl ?_
  refine wp_sub (a := ((v3 - v4) * (y5 - v1))) (b := ((y4 - v5) * (v2 - v1))) rfl ?_
  refine wp_g (n := 1) (pc' := 212) (L' := [some (.ref 158), z1, some (.int (iI y2)), z3, some (.int (iI y4)), some (.int (iI y5)), some (.int (iI y6)), some (.int (iI y7)), some (.int (iI y8)), z9, z10, some (.int (iI y11)), some (.int (iI y12)), some (.int (iI v1)), some (.int (iI v2)), some (.int (iI (((v3 - v4) * (y5 - v1)) - ((y4 - v5) * (v2 - v1)))))]) (st' := []) rfl ?_
  exact hW z1 z3 (some (.int (iI y8))) z9 z10 (some (.int (iI y11))) (some (.int (iI y12))) _ S
theorem vc_X9_winds_212 {E : am_E} {k : Nat} {x1 : Int} {x2 : Int} {x3 : Int} {y2 : Int} {y4 : Int} {y5 : Int} {y6 : Int} {y7 : Int} {y13 : Int} {y14 : Int} {y15 : Int} {m : MM} {γ : GM} {t : am_H} {Q : Int → MM → GM → am_H → Prop} (hx1 : rJ x1) (hx2 : rJ x2) (hx3 : rJ x3) (hy2 : rJ y2) (hy4 : rJ y4) (hy5 : rJ y5) (hy6 : rJ y6) (hy7 : rJ y7) (hy13 : rJ y13) (hy14 : rJ y14) (hy15 : rJ y15) (hW : W_X9_winds_212 E k x1 x2 x3 y2 y4 y5 y6 y7 y13 y14 y15 m γ t Q) : hd_X9_winds_212 E k x1 x2 x3 y2 y4 y5 y6 y7 y13 y14 y15 m γ t Q := by
  unfold W_X9_winds_212 at hW
  intro z1 z3 z8 z9 z10 z11 z12 h S
  refine wp_g (n := 3) (pc' := 218) (L' := [some (.ref 158), z1, some (.int (iI y2)), z3, some (.int (iI y4)), some (.int (iI y5)), some (.int (iI y6)), some (.int (iI y7)), z8, z9, z10, z11, z12, some (.int (iI y13)), some (.int (iI y14)), some (.int (iI y15))]) (st' := [.int (iI y5), .int (iI y13), .int (iI y6)]) rfl ?_
  refine wp_icmpI (a := y13) (b := y5) rfl rfl hy13.1 hy13.2 hy5.1 hy5.2 (fun c1 => ?_) (fun c1 => ?_)
  · have dc1 := (Int.not_le.mpr c1)
    have hW := hW.2 dc1
    refine wp_g (n := 1) (pc' := 238) (L' := [some (.ref 158), z1, some (.int (iI y2)), z3, some (.int (iI y4)), some (.int (iI y5)), some (.int (iI y6)), some (.int (iI y7)), z8, z9, z10, z11, z12, some (.int (iI y13)), some (.int (iI y14)), some (.int (iI y15))]) (st' := [.int (iI 0), .int (iI y6)]) rfl ?_
    refine wp_add (a := y6) (b := 0) rfl ?_
    refine wp_g (n := 1) (pc' := 241) (L' := [some (.ref 158), z1, some (.int (iI y2)), z3, some (.int (iI y4)), some (.int (iI y5)), some (.int (iI (y6 + 0))), some (.int (iI y7)), z8, z9, z10, z11, z12, some (.int (iI y13)), some (.int (iI y14)), some (.int (iI y15))]) (st' := []) rfl ?_
    exact hW z1 z3 z8 z9 z10 z11 z12 _ S
  · have dc1 := (Int.not_lt.mp c1)
    have hW := hW.1 dc1
    refine wp_g (n := 2) (pc' := 225) (L' := [some (.ref 158), z1, some (.int (iI y2)), z3, some (.int (iI y4)), some (.int (iI y5)), some (.int (iI y6)), some (.int (iI y7)), z8, z9, z10, z11, z12, some (.int (iI y13)), some (.int (iI y14)), some (.int (iI y15))]) (st' := [.int (iI y5), .int (iI y14), .int (iI y6)]) rfl ?_
    refine wp_icmpI (a := y14) (b := y5) rfl rfl hy14.1 hy14.2 hy5.1 hy5.2 (fun c2 => ?_) (fun c2 => ?_)
    · have dc2 := c2
      have hW := hW.1 dc2
      refine wp_g (n := 1) (pc' := 238) (L' := [some (.ref 158), z1, some (.int (iI y2)), z3, some (.int (iI y4)), some (.int (iI y5)), some (.int (iI y6)), some (.int (iI y7)), z8, z9, z10, z11, z12, some (.int (iI y13)), some (.int (iI y14)), some (.int (iI y15))]) (st' := [.int (iI 0), .int (iI y6)]) rfl ?_
      refine wp_add (a := y6) (b := 0) rfl ?_
      refine wp_g (n := 1) (pc' := 241) (L' := [some (.ref 158), z1, some (.int (iI y2)), z3, some (.int (iI y4)), some (.int (iI y5)), some (.int (iI (y6 + 0))), some (.int (iI y7)), z8, z9, z10, z11, z12, some (.int (iI y13)), some (.int (iI y14)), some (.int (iI y15))]) (st' := []) rfl ?_
      exact hW z1 z3 z8 z9 z10 z11 z12 _ S
    · have dc2 := c2
      have hW := hW.2 dc2
      refine wp_g (n := 1) (pc' := 230) (L' := [some (.ref 158), z1, some (.int (iI y2)), z3, some (.int (iI y4)), some (.int (iI y5)), some (.int (iI y6)), some (.int (iI y7)), z8, z9, z10, z11, z12, some (.int (iI y13)), some (.int (iI y14)), some (.int (iI y15))]) (st' := [.int (iI y15), .int (iI y6)]) rfl ?_
      refine wp_ifI (a := y15) rfl rfl hy15.1 hy15.2 (fun c3 => ?_) (fun c3 => ?_)
      · have dc3 := c3
        have hW := hW.1 dc3
        refine wp_g (n := 1) (pc' := 238) (L' := [some (.ref 158), z1, some (.int (iI y2)), z3, some (.int (iI y4)), some (.int (iI y5)), some (.int (iI y6)), some (.int (iI y7)), z8, z9, z10, z11, z12, some (.int (iI y13)), some (.int (iI y14)), some (.int (iI y15))]) (st' := [.int (iI 0), .int (iI y6)]) rfl ?_
        refine wp_add (a := y6) (b := 0) rfl ?_
        refine wp_g (n := 1) (pc' := 241) (L' := [some (.ref 158), z1, some (.int (iI y2)), z3, some (.int (iI y4)), some (.int (iI y5)), some (.int (iI (y6 + 0))), some (.int (iI y7)), z8, z9, z10, z11, z12, some (.int (iI y13)), some (.int (iI y14)), some (.int (iI y15))]) (st' := []) rfl ?_
        exact hW z1 z3 z8 z9 z10 z11 z12 _ S
      · have dc3 := c3
        have hW := hW.2 dc3
        refine wp_g (n := 2) (pc' := 238) (L' := [some (.ref 158), z1, some (.int (iI y2)), z3, some (.int (iI y4)), some (.int (iI y5)), some (.int (iI y6)), some (.int (iI y7)), z8, z9, z10, z11, z12, some (.int (iI y13)), some (.int (iI y14)), some (.int (iI y15))]) (st' := [.int (iI 1), .int (iI y6)]) rfl ?_
        refine wp_add (a := y6) (b := 1) rfl ?_
        refine wp_g (n := 1) (pc' := 241) (L' := [some (.ref 158), z1, some (.int (iI y2)), z3, some (.int (iI y4)), some (.int (iI y5)), some (.int (iI (y6 + 1))), some (.int (iI y7)), z8, z9, z10, z11, z12, some (.int (iI y13)), some (.int (iI y14)), some (.int (iI y15))]) (st' := []) rfl ?_
        exact hW z1 z3 z8 z9 z10 z11 z12 _ S
theorem vc_X9_winds_241 {E : am_E} {k : Nat} {x1 : Int} {x2 : Int} {x3 : Int} {y2 : Int} {y4 : Int} {y5 : Int} {y6 : Int} {y7 : Int} {y13 : Int} {y14 : Int} {y15 : Int} {m : MM} {γ : GM} {t : am_H} {Q : Int → MM → GM → am_H → Prop} (hx1 : rJ x1) (hx2 : rJ x2) (hx3 : rJ x3) (hy2 : rJ y2) (hy4 : rJ y4) (hy5 : rJ y5) (hy6 : rJ y6) (hy7 : rJ y7) (hy13 : rJ y13) (hy14 : rJ y14) (hy15 : rJ y15) (hW : W_X9_winds_241 E k x1 x2 x3 y2 y4 y5 y6 y7 y13 y14 y15 m γ t Q) : hd_X9_winds_241 E k x1 x2 x3 y2 y4 y5 y6 y7 y13 y14 y15 m γ t Q := by
  unfold W_X9_winds_241 at hW
  intro z1 z3 z8 z9 z10 z11 z12 h S
  refine wp_g (n := 3) (pc' := 247) (L' := [some (.ref 158), z1, some (.int (iI y2)), z3, some (.int (iI y4)), some (.int (iI y5)), some (.int (iI y6)), some (.int (iI y7)), z8, z9, z10, z11, z12, some (.int (iI y13)), some (.int (iI y14)), some (.int (iI y15))]) (st' := [.int (iI y5), .int (iI y13), .int (iI y6)]) rfl ?_
  refine wp_icmpI (a := y13) (b := y5) rfl rfl hy13.1 hy13.2 hy5.1 hy5.2 (fun c1 => ?_) (fun c1 => ?_)
  · have dc1 := c1
    have hW := hW.1 dc1
    refine wp_g (n := 1) (pc' := 267) (L' := [some (.ref 158), z1, some (.int (iI y2)), z3, some (.int (iI y4)), some (.int (iI y5)), some (.int (iI y6)), some (.int (iI y7)), z8, z9, z10, z11, z12, some (.int (iI y13)), some (.int (iI y14)), some (.int (iI y15))]) (st' := [.int (iI 0), .int (iI y6)]) rfl ?_
    refine wp_sub (a := y6) (b := 0) rfl ?_
    refine wp_g (n := 1) (pc' := 270) (L' := [some (.ref 158), z1, some (.int (iI y2)), z3, some (.int (iI y4)), some (.int (iI y5)), some (.int (iI (y6 - 0))), some (.int (iI y7)), z8, z9, z10, z11, z12, some (.int (iI y13)), some (.int (iI y14)), some (.int (iI y15))]) (st' := []) rfl ?_
    refine wp_iinc (L' := [some (.ref 158), z1, some (.int (iI y2)), z3, some (.int (iI y4)), some (.int (iI y5)), some (.int (iI (y6 - 0))), some (.int (iI (y7 + 1))), z8, z9, z10, z11, z12, some (.int (iI y13)), some (.int (iI y14)), some (.int (iI y15))]) (a := y7) rfl rfl rfl ?_
    refine wp_g (n := 1) (pc' := 64) (L' := [some (.ref 158), z1, some (.int (iI y2)), z3, some (.int (iI y4)), some (.int (iI y5)), some (.int (iI (y6 - 0))), some (.int (iI (y7 + 1))), z8, z9, z10, z11, z12, some (.int (iI y13)), some (.int (iI y14)), some (.int (iI y15))]) (st' := []) rfl ?_
    exact hW z1 z3 z8 z9 z10 z11 z12 (some (.int (iI y13))) (some (.int (iI y14))) (some (.int (iI y15))) _ S
  · have dc1 := c1
    have hW := hW.2 dc1
    refine wp_g (n := 2) (pc' := 254) (L' := [some (.ref 158), z1, some (.int (iI y2)), z3, some (.int (iI y4)), some (.int (iI y5)), some (.int (iI y6)), some (.int (iI y7)), z8, z9, z10, z11, z12, some (.int (iI y13)), some (.int (iI y14)), some (.int (iI y15))]) (st' := [.int (iI y5), .int (iI y14), .int (iI y6)]) rfl ?_
    refine wp_icmpI (a := y14) (b := y5) rfl rfl hy14.1 hy14.2 hy5.1 hy5.2 (fun c2 => ?_) (fun c2 => ?_)
    · have dc2 := (Int.not_le.mpr c2)
      have hW := hW.2 dc2
      refine wp_g (n := 1) (pc' := 267) (L' := [some (.ref 158), z1, some (.int (iI y2)), z3, some (.int (iI y4)), some (.int (iI y5)), some (.int (iI y6)), some (.int (iI y7)), z8, z9, z10, z11, z12, some (.int (iI y13)), some (.int (iI y14)), some (.int (iI y15))]) (st' := [.int (iI 0), .int (iI y6)]) rfl ?_
      refine wp_sub (a := y6) (b := 0) rfl ?_
      refine wp_g (n := 1) (pc' := 270) (L' := [some (.ref 158), z1, some (.int (iI y2)), z3, some (.int (iI y4)), some (.int (iI y5)), some (.int (iI (y6 - 0))), some (.int (iI y7)), z8, z9, z10, z11, z12, some (.int (iI y13)), some (.int (iI y14)), some (.int (iI y15))]) (st' := []) rfl ?_
      refine wp_iinc (L' := [some (.ref 158), z1, some (.int (iI y2)), z3, some (.int (iI y4)), some (.int (iI y5)), some (.int (iI (y6 - 0))), some (.int (iI (y7 + 1))), z8, z9, z10, z11, z12, some (.int (iI y13)), some (.int (iI y14)), some (.int (iI y15))]) (a := y7) rfl rfl rfl ?_
      refine wp_g (n := 1) (pc' := 64) (L' := [some (.ref 158), z1, some (.int (iI y2)), z3, some (.int (iI y4)), some (.int (iI y5)), some (.int (iI (y6 - 0))), some (.int (iI (y7 + 1))), z8, z9, z10, z11, z12, some (.int (iI y13)), some (.int (iI y14)), some (.int (iI y15))]) (st' := []) rfl ?_
      exact hW z1 z3 z8 z9 z10 z11 z12 (some (.int (iI y13))) (some (.int (iI y14))) (some (.int (iI y15))) _ S
    · have dc2 := (Int.not_lt.mp c2)
      have hW := hW.1 dc2
      refine wp_g (n := 1) (pc' := 259) (L' := [some (.ref 158), z1, some (.int (iI y2)), z3, some (.int (iI y4)), some (.int (iI y5)), some (.int (iI y6)), some (.int (iI y7)), z8, z9, z10, z11, z12, some (.int (iI y13)), some (.int (iI y14)), some (.int (iI y15))]) (st' := [.int (iI y15), .int (iI y6)]) rfl ?_
      refine wp_ifI (a := y15) rfl rfl hy15.1 hy15.2 (fun c3 => ?_) (fun c3 => ?_)
      · have dc3 := (Int.not_lt.mpr c3)
        have hW := hW.2 dc3
        refine wp_g (n := 1) (pc' := 267) (L' := [some (.ref 158), z1, some (.int (iI y2)), z3, some (.int (iI y4)), some (.int (iI y5)), some (.int (iI y6)), some (.int (iI y7)), z8, z9, z10, z11, z12, some (.int (iI y13)), some (.int (iI y14)), some (.int (iI y15))]) (st' := [.int (iI 0), .int (iI y6)]) rfl ?_
        refine wp_sub (a := y6) (b := 0) rfl ?_
        refine wp_g (n := 1) (pc' := 270) (L' := [some (.ref 158), z1, some (.int (iI y2)), z3, some (.int (iI y4)), some (.int (iI y5)), some (.int (iI (y6 - 0))), some (.int (iI y7)), z8, z9, z10, z11, z12, some (.int (iI y13)), some (.int (iI y14)), some (.int (iI y15))]) (st' := []) rfl ?_
        refine wp_iinc (L' := [some (.ref 158), z1, some (.int (iI y2)), z3, some (.int (iI y4)), some (.int (iI y5)), some (.int (iI (y6 - 0))), some (.int (iI (y7 + 1))), z8, z9, z10, z11, z12, some (.int (iI y13)), some (.int (iI y14)), some (.int (iI y15))]) (a := y7) rfl rfl rfl ?_
        refine wp_g (n := 1) (pc' := 64) (L' := [some (.ref 158), z1, some (.int (iI y2)), z3, some (.int (iI y4)), some (.int (iI y5)), some (.int (iI (y6 - 0))), some (.int (iI (y7 + 1))), z8, z9, z10, z11, z12, some (.int (iI y13)), some (.int (iI y14)), some (.int (iI y15))]) (st' := []) rfl ?_
        exact hW z1 z3 z8 z9 z10 z11 z12 (some (.int (iI y13))) (some (.int (iI y14))) (some (.int (iI y15))) _ S
      · have dc3 := (Int.not_le.mp c3)
        have hW := hW.1 dc3
        refine wp_g (n := 2) (pc' := 267) (L' := [some (.ref 158), z1, some (.int (iI y2)), z3, some (.int (iI y4)), some (.int (iI y5)), some (.int (iI y6)), some (.int (iI y7)), z8, z9, z10, z11, z12, some (.int (iI y13)), some (.int (iI y14)), some (.int (iI y15))]) (st' := [.int (iI 1), .int (iI y6)]) rfl ?_
        refine wp_sub (a := y6) (b := 1) rfl ?_
        refine wp_g (n := 1) (pc' := 270) (L' := [some (.ref 158), z1, some (.int (iI y2)), z3, some (.int (iI y4)), some (.int (iI y5)), some (.int (iI (y6 - 1))), some (.int (iI y7)), z8, z9, z10, z11, z12, some (.int (iI y13)), some (.int (iI y14)), some (.int (iI y15))]) (st' := []) rfl ?_
        refine wp_iinc (L' := [some (.ref 158), z1, some (.int (iI y2)), z3, some (.int (iI y4)), some (.int (iI y5)), some (.int (iI (y6 - 1))), some (.int (iI (y7 + 1))), z8, z9, z10, z11, z12, some (.int (iI y13)), some (.int (iI y14)), some (.int (iI y15))]) (a := y7) rfl rfl rfl ?_
        refine wp_g (n := 1) (pc' := 64) (L' := [some (.ref 158), z1, some (.int (iI y2)), z3, some (.int (iI y4)), some (.int (iI y5)), some (.int (iI (y6 - 1))), some (.int (iI (y7 + 1))), z8, z9, z10, z11, z12, some (.int (iI y13)), some (.int (iI y14)), some (.int (iI y15))]) (st' := []) rfl ?_
        exact hW z1 z3 z8 z9 z10 z11 z12 (some (.int (iI y13))) (some (.int (iI y14))) (some (.int (iI y15))) _ S
