def hd_X9_isAs_42 (E : am_E) (k : Nat) (x1 : Int) (y1 : Int) (y2 : Int) (y3 : Int) (m : MM) (γ : GM) (t : am_H) (Q : Int → MM → GM → am_H → Prop) : Prop := TT (pI Q) E k 299 42 [some (.ref 158), some (.int (iI y1)), some (.int (iI y2)), some (.int (iI y3))] [] m γ t
abbrev W_X9_isAs (E : am_E) (k : Nat) (x1 : Int) (m : MM) (γ : GM) (t : am_H) (Q : Int → MM → GM → am_H → Prop) : Prop := ((0 ≤ (26 * x1) ∧ (26 * x1) < 78) ∧ ((((m 159 (((26 * x1)).toNat)) = (m 158 4)) → ((0 ≤ ((26 * x1) + 1) ∧ ((26 * x1) + 1) < 78) ∧ ((((m 159 ((((26 * x1) + 1)).toNat)) = (m 158 5)) → (hd_X9_isAs_42 E k x1 x1 1 0 m γ t Q)) ∧ (¬ ((m 159 ((((26 * x1) + 1)).toNat)) = (m 158 5)) → (hd_X9_isAs_42 E k x1 x1 0 0 m γ t Q))))) ∧ (¬ ((m 159 (((26 * x1)).toNat)) = (m 158 4)) → (hd_X9_isAs_42 E k x1 x1 0 0 m γ t Q))))
abbrev W_X9_isAs_42 (E : am_E) (k : Nat) (x1 : Int) (y1 : Int) (y2 : Int) (y3 : Int) (m : MM) (γ : GM) (t : am_H) (Q : Int → MM → GM → am_H → Prop) : Prop := (((y3 < (m 158 6)) → (((y2 = 0) → ((y2 = 0 ∨ y2 = 1) ∧ (Q y2 m γ t))) ∧ (¬ (y2 = 0) → ((0 ≤ (((26 * y1) + 2) + y3) ∧ (((26 * y1) + 2) + y3) < 78) ∧ ((0 ≤ y3 ∧ y3 < 24) ∧ ((((m 159 (((((26 * y1) + 2) + y3)).toNat)) = (m 162 ((y3).toNat))) → (hd_X9_isAs_42 E k x1 y1 1 (y3 + 1) m γ t Q)) ∧ (¬ ((m 159 (((((26 * y1) + 2) + y3)).toNat)) = (m 162 ((y3).toNat))) → (hd_X9_isAs_42 E k x1 y1 0 (y3 + 1) m γ t Q)))))))) ∧ (¬ (y3 < (m 158 6)) → ((y2 = 0 ∨ y2 = 1) ∧ (Q y2 m γ t))))
theorem vc_X9_isAs {E : am_E} {k : Nat} {x1 : Int} {m : MM} {γ : GM} {t : am_H} {Q : Int → MM → GM → am_H → Prop} (hx1 : rJ x1) (hW : W_X9_isAs E k x1 m γ t Q) : TI E k 299 [.ref 158, .int (iI x1)] m γ t Q := by
  unfold W_X9_isAs at hW
  intro h S
  refine wp_g (n := 1) (pc' := 1) (L' := [some (.ref 158), some (.int (iI x1)), none, none]) (st' := [.ref 158]) rfl ?_
  refine wp_getf (v := .ref 159) rfl rfl (S.cell 158 (nc rfl)) (by decide) rfl ?_
  refine wp_g (n := 2) (pc' := 7) (L' := [some (.ref 158), some (.int (iI x1)), none, none]) (st' := [.int (iI x1), .int (iI 26), .ref 159]) rfl ?_
  refine wp_mul (a := 26) (b := x1) rfl ?_
  obtain ⟨p1, hW⟩ := hW
  refine wp_iald (n := 78) (F := (m 159)) rfl (S.cell 159 (nc rfl)) (by decide) p1.1 p1.2 (by decide) ?_
  show wp _ _ _ _ _ [.int (iI (m 159 (((26 * x1)).toNat)))] _ _
  have hr2 : rJ (m 159 (((26 * x1)).toNat)) := S.rg 159 (((26 * x1)).toNat) (nl rfl)
  refine wp_g (n := 1) (pc' := 10) (L' := [some (.ref 158), some (.int (iI x1)), none, none]) (st' := [.ref 158, .int (iI (m 159 (((26 * x1)).toNat)))]) rfl ?_
  refine wp_getf (v := .int (iI (m 158 4))) rfl rfl (S.cell 158 (nc rfl)) (by decide) rfl ?_
  have hr3 : rJ (m 158 4) := S.rg 158 4 (nl rfl)
  refine wp_icmpI (a := (m 159 (((26 * x1)).toNat))) (b := (m 158 4)) rfl rfl hr2.1 hr2.2 hr3.1 hr3.2 (fun c4 => ?_) (fun c4 => ?_)
  · have dc4 := c4
    have hW := hW.2 dc4
    refine wp_g (n := 4) (pc' := 42) (L' := [some (.ref 158), some (.int (iI x1)), some (.int (iI 0)), some (.int (iI 0))]) (st' := []) rfl ?_
    exact hW _ S
  · have dc4 := (Classical.not_not.mp c4)
    have hW := hW.1 dc4
    refine wp_g (n := 1) (pc' := 17) (L' := [some (.ref 158), some (.int (iI x1)), none, none]) (st' := [.ref 158]) rfl ?_
    refine wp_getf (v := .ref 159) rfl rfl (S.cell 158 (nc rfl)) (by decide) rfl ?_
    refine wp_g (n := 2) (pc' := 23) (L' := [some (.ref 158), some (.int (iI x1)), none, none]) (st' := [.int (iI x1), .int (iI 26), .ref 159]) rfl ?_
    refine wp_mul (a := 26) (b := x1) rfl ?_
    refine wp_g (n := 1) (pc' := 25) (L' := [some (.ref 158), some (.int (iI x1)), none, none]) (st' := [.int (iI 1), .int (iI (26 * x1)), .ref 159]) rfl ?_
    refine wp_add (a := (26 * x1)) (b := 1) rfl ?_
    obtain ⟨p5, hW⟩ := hW
    refine wp_iald (n := 78) (F := (m 159)) rfl (S.cell 159 (nc rfl)) (by decide) p5.1 p5.2 (by decide) ?_
    show wp _ _ _ _ _ [.int (iI (m 159 ((((26 * x1) + 1)).toNat)))] _ _
    have hr6 : rJ (m 159 ((((26 * x1) + 1)).toNat)) := S.rg 159 ((((26 * x1) + 1)).toNat) (nl rfl)
    refine wp_g (n := 1) (pc' := 28) (L' := [some (.ref 158), some (.int (iI x1)), none, none]) (st' := [.ref 158, .int (iI (m 159 ((((26 * x1) + 1)).toNat)))]) rfl ?_
    refine wp_getf (v := .int (iI (m 158 5))) rfl rfl (S.cell 158 (nc rfl)) (by decide) rfl ?_
    have hr7 : rJ (m 158 5) := S.rg 158 5 (nl rfl)
    refine wp_icmpI (a := (m 159 ((((26 * x1) + 1)).toNat))) (b := (m 158 5)) rfl rfl hr6.1 hr6.2 hr7.1 hr7.2 (fun c8 => ?_) (fun c8 => ?_)
    · have dc8 := c8
      have hW := hW.2 dc8
      refine wp_g (n := 4) (pc' := 42) (L' := [some (.ref 158), some (.int (iI x1)), some (.int (iI 0)), some (.int (iI 0))]) (st' := []) rfl ?_
      exact hW _ S
    · have dc8 := (Classical.not_not.mp c8)
      have hW := hW.1 dc8
      refine wp_g (n := 5) (pc' := 42) (L' := [some (.ref 158), some (.int (iI x1)), some (.int (iI 1)), some (.int (iI 0))]) (st' := []) rfl ?_
      exact hW _ S
theorem vc_X9_isAs_42 {E : am_E} {k : Nat} {x1 : Int} {y1 : Int} {y2 : Int} {y3 : Int} {m : MM} {γ : GM} {t : am_H} {Q : Int → MM → GM → am_H → Prop} (hx1 : rJ x1) (hy1 : rJ y1) (hy2 : rJ y2) (hy3 : rJ y3) (hW : W_X9_isAs_42 E k x1 y1 y2 y3 m γ t Q) : hd_X9_isAs_42 E k x1 y1 y2 y3 m γ t Q := by
  unfold W_X9_isAs_42 at hW
  intro h S
  refine wp_g (n := 2) (pc' := 44) (L' := [some (.ref 158), some (.int (iI y1)), some (.int (iI y2)), some (.int (iI y3))]) (st' := [.ref 158, .int (iI y3)]) rfl ?_
  refine wp_getf (v := .int (iI (m 158 6))) rfl rfl (S.cell 158 (nc rfl)) (by decide) rfl ?_
  have hr1 : rJ (m 158 6) := S.rg 158 6 (nl rfl)
  refine wp_icmpI (a := y3) (b := (m 158 6)) rfl rfl hy3.1 hy3.2 hr1.1 hr1.2 (fun c2 => ?_) (fun c2 => ?_)
  · have dc2 := (Int.not_lt.mpr c2)
    have hW := hW.2 dc2
    refine wp_g (n := 1) (pc' := 89) (L' := [some (.ref 158), some (.int (iI y1)), some (.int (iI y2)), some (.int (iI y3))]) (st' := [.int (iI y2)]) rfl ?_
    obtain ⟨p3, hW⟩ := hW
    exact wp_zret rfl rfl p3 ⟨_, _, _, _, rfl, hy2, S, hW⟩
  · have dc2 := (Int.not_le.mp c2)
    have hW := hW.1 dc2
    refine wp_g (n := 1) (pc' := 51) (L' := [some (.ref 158), some (.int (iI y1)), some (.int (iI y2)), some (.int (iI y3))]) (st' := [.int (iI y2)]) rfl ?_
    refine wp_ifI (a := y2) rfl rfl hy2.1 hy2.2 (fun c4 => ?_) (fun c4 => ?_)
    · have dc4 := c4
      have hW := hW.1 dc4
      refine wp_g (n := 1) (pc' := 89) (L' := [some (.ref 158), some (.int (iI y1)), some (.int (iI y2)), some (.int (iI y3))]) (st' := [.int (iI y2)]) rfl ?_
      obtain ⟨p5, hW⟩ := hW
      exact wp_zret rfl rfl p5 ⟨_, _, _, _, rfl, hy2, S, hW⟩
    · have dc4 := c4
      have hW := hW.2 dc4
      refine wp_g (n := 1) (pc' := 55) (L' := [some (.ref 158), some (.int (iI y1)), some (.int (iI y2)), some (.int (iI y3))]) (st' := [.ref 158]) rfl ?_
      refine wp_getf (v := .ref 159) rfl rfl (S.cell 158 (nc rfl)) (by decide) rfl ?_
      refine wp_g (n := 2) (pc' := 61) (L' := [some (.ref 158), some (.int (iI y1)), some (.int (iI y2)), some (.int (iI y3))]) (st' := [.int (iI y1), .int (iI 26), .ref 159]) rfl ?_
      refine wp_mul (a := 26) (b := y1) rfl ?_
      refine wp_g (n := 1) (pc' := 63) (L' := [some (.ref 158), some (.int (iI y1)), some (.int (iI y2)), some (.int (iI y3))]) (st' := [.int (iI 2), .int (iI (26 * y1)), .ref 159]) rfl ?_
      refine wp_add (a := (26 * y1)) (b := 2) rfl ?_
      refine wp_g (n := 1) (pc' := 65) (L' := [some (.ref 158), some (.int (iI y1)), some (.int (iI y2)), some (.int (iI y3))]) (st' := [.int (iI y3), .int (iI ((26 * y1) + 2)), .ref 159]) rfl ?_
      refine wp_add (a := ((26 * y1) + 2)) (b := y3) rfl ?_
      obtain ⟨p6, hW⟩ := hW
      refine wp_iald (n := 78) (F := (m 159)) rfl (S.cell 159 (nc rfl)) (by decide) p6.1 p6.2 (by decide) ?_
      show wp _ _ _ _ _ [.int (iI (m 159 (((((26 * y1) + 2) + y3)).toNat)))] _ _
      have hr7 : rJ (m 159 (((((26 * y1) + 2) + y3)).toNat)) := S.rg 159 (((((26 * y1) + 2) + y3)).toNat) (nl rfl)
      refine wp_g (n := 1) (pc' := 68) (L' := [some (.ref 158), some (.int (iI y1)), some (.int (iI y2)), some (.int (iI y3))]) (st' := [.ref 158, .int (iI (m 159 (((((26 * y1) + 2) + y3)).toNat)))]) rfl ?_
      refine wp_getf (v := .ref 162) rfl rfl (S.cell 158 (nc rfl)) (by decide) rfl ?_
      refine wp_g (n := 1) (pc' := 72) (L' := [some (.ref 158), some (.int (iI y1)), some (.int (iI y2)), some (.int (iI y3))]) (st' := [.int (iI y3), .ref 162, .int (iI (m 159 (((((26 * y1) + 2) + y3)).toNat)))]) rfl ?_
      obtain ⟨p8, hW⟩ := hW
      refine wp_iald (n := 24) (F := (m 162)) rfl (S.cell 162 (nc rfl)) (by decide) p8.1 p8.2 (by decide) ?_
      show wp _ _ _ _ _ [.int (iI (m 162 ((y3).toNat))), .int (iI (m 159 (((((26 * y1) + 2) + y3)).toNat)))] _ _
      have hr9 : rJ (m 162 ((y3).toNat)) := S.rg 162 ((y3).toNat) (nl rfl)
      refine wp_icmpI (a := (m 159 (((((26 * y1) + 2) + y3)).toNat))) (b := (m 162 ((y3).toNat))) rfl rfl hr7.1 hr7.2 hr9.1 hr9.2 (fun c10 => ?_) (fun c10 => ?_)
      · have dc10 := c10
        have hW := hW.2 dc10
        refine wp_g (n := 2) (pc' := 82) (L' := [some (.ref 158), some (.int (iI y1)), some (.int (iI 0)), some (.int (iI y3))]) (st' := []) rfl ?_
        refine wp_iinc (L' := [some (.ref 158), some (.int (iI y1)), some (.int (iI 0)), some (.int (iI (y3 + 1)))]) (a := y3) rfl rfl rfl ?_
        refine wp_g (n := 1) (pc' := 42) (L' := [some (.ref 158), some (.int (iI y1)), some (.int (iI 0)), some (.int (iI (y3 + 1)))]) (st' := []) rfl ?_
        exact hW _ S
      · have dc10 := (Classical.not_not.mp c10)
        have hW := hW.1 dc10
        refine wp_g (n := 3) (pc' := 82) (L' := [some (.ref 158), some (.int (iI y1)), some (.int (iI 1)), some (.int (iI y3))]) (st' := []) rfl ?_
        refine wp_iinc (L' := [some (.ref 158), some (.int (iI y1)), some (.int (iI 1)), some (.int (iI (y3 + 1)))]) (a := y3) rfl rfl rfl ?_
        refine wp_g (n := 1) (pc' := 42) (L' := [some (.ref 158), some (.int (iI y1)), some (.int (iI 1)), some (.int (iI (y3 + 1)))]) (st' := []) rfl ?_
        exact hW _ S
def hd_X9_alike_26 (E : am_E) (k : Nat) (x1 : Int) (x2 : Int) (y2 : Int) (y3 : Int) (m : MM) (γ : GM) (t : am_H) (Q : Int → MM → GM → am_H → Prop) : Prop := ∀ (z1 : Option Value), TT (pI Q) E (k + 1) 300 26 [some (.ref 158), z1, some (.int (iI y2)), some (.int (iI y3))] [] m γ t
abbrev W_X9_alike (E : am_E) (k : Nat) (x1 : Int) (x2 : Int) (m : MM) (γ : GM) (t : am_H) (Q : Int → MM → GM → am_H → Prop) : Prop := (TI E k 195 [.ref 158, .int (iI x1)] m γ t (fun v1 m1 γ1 t1 => (((v1 = 0) → (Q (-2) m1 γ1 t1)) ∧ (¬ (v1 = 0) → (TI E k 195 [.ref 158, .int (iI x2)] m1 γ1 t1 (fun v3 m3 γ3 t3 => (((v3 = 0) → (Q (-2) m3 γ3 t3)) ∧ (¬ (v3 = 0) → (TV E k 201 [.ref 158, .int (iI x1)] m3 γ3 t3 (fun m5 γ5 t5 => (hd_X9_alike_26 E k x1 x2 x2 0 m5 γ5 t5 Q)))))))))))
abbrev W_X9_alike_26 (E : am_E) (k : Nat) (x1 : Int) (x2 : Int) (y2 : Int) (y3 : Int) (m : MM) (γ : GM) (t : am_H) (Q : Int → MM → GM → am_H → Prop) : Prop := (((y3 < 8) → (TI E k 299 [.ref 158, .int (iI y2)] m γ t (fun v2 m2 γ2 t2 => (((v2 = 0) → (TV E k 294 [.ref 158] m2 γ2 t2 (fun m4 γ4 t4 => (((y3 = 3) → (TV E k 295 [.ref 158] m4 γ4 t4 (fun m6 γ6 t6 => (hd_X9_alike_26 E k x1 x2 y2 (y3 + 1) m6 γ6 t6 Q)))) ∧ (¬ (y3 = 3) → (hd_X9_alike_26 E k x1 x2 y2 (y3 + 1) m4 γ4 t4 Q)))))) ∧ (¬ (v2 = 0) → (Q 1 m2 γ2 t2)))))) ∧ (¬ (y3 < 8) → (Q 0 m γ t)))
theorem vc_X9_alike {E : am_E} {k : Nat} {x1 : Int} {x2 : Int} {m : MM} {γ : GM} {t : am_H} {Q : Int → MM → GM → am_H → Prop} (hx1 : rJ x1) (hx2 : rJ x2) (hW : W_X9_alike E k x1 x2 m γ t Q) : TI E (k + 1) 300 [.ref 158, .int (iI x1), .int (iI x2)] m γ t Q := by
  unfold W_X9_alike at hW
  intro h S
  refine wp_g (n := 2) (pc' := 2) (L' := [some (.ref 158), some (.int (iI x1)), some (.int (iI x2)), none]) (st' := [.int (iI x1), .ref 158]) rfl ?_
  refine wp_cv (As := [.int (iI x1)]) (rest := []) rfl rfl (S.cell 158 (nc rfl)) (by decide) rfl rfl rfl (Nat.le_of_ble_eq_true rfl) (Nat.le_of_ble_eq_true rfl) (hW _ S) (fun r1 H1 q1 => ?_)
  obtain ⟨v1, m1, γ1, t1, rfl, hv1, S, hW⟩ := q1
  show wp _ _ _ _ _ [.int (iI v1)] _ _
  refine wp_ifI (a := v1) rfl rfl hv1.1 hv1.2 (fun c2 => ?_) (fun c2 => ?_)
  · have dc2 := c2
    have hW := hW.1 dc2
    refine wp_g (n := 1) (pc' := 18) (L' := [some (.ref 158), some (.int (iI x1)), some (.int (iI x2)), none]) (st' := [.int (iI (-2))]) rfl ?_
    exact wp_iret rfl rfl ⟨_, _, _, _, rfl, (by decide), S, hW⟩
  · have dc2 := c2
    have hW := hW.2 dc2
    refine wp_g (n := 2) (pc' := 10) (L' := [some (.ref 158), some (.int (iI x1)), some (.int (iI x2)), none]) (st' := [.int (iI x2), .ref 158]) rfl ?_
    refine wp_cv (As := [.int (iI x2)]) (rest := []) rfl rfl (S.cell 158 (nc rfl)) (by decide) rfl rfl rfl (Nat.le_of_ble_eq_true rfl) (Nat.le_of_ble_eq_true rfl) (hW _ S) (fun r3 H3 q3 => ?_)
    obtain ⟨v3, m3, γ3, t3, rfl, hv3, S, hW⟩ := q3
    show wp _ _ _ _ _ [.int (iI v3)] _ _
    refine wp_ifI (a := v3) rfl rfl hv3.1 hv3.2 (fun c4 => ?_) (fun c4 => ?_)
    · have dc4 := c4
      have hW := hW.2 dc4
      refine wp_g (n := 2) (pc' := 21) (L' := [some (.ref 158), some (.int (iI x1)), some (.int (iI x2)), none]) (st' := [.int (iI x1), .ref 158]) rfl ?_
      refine wp_cv (As := [.int (iI x1)]) (rest := []) rfl rfl (S.cell 158 (nc rfl)) (by decide) rfl rfl rfl (Nat.le_of_ble_eq_true rfl) (Nat.le_of_ble_eq_true rfl) (hW _ S) (fun r5 H5 q5 => ?_)
      obtain ⟨m5, γ5, t5, rfl, S, hW⟩ := q5
      show wp _ _ _ _ _ [] _ _
      refine wp_g (n := 2) (pc' := 26) (L' := [some (.ref 158), some (.int (iI x1)), some (.int (iI x2)), some (.int (iI 0))]) (st' := []) rfl ?_
      exact hW (some (.int (iI x1))) _ S
    · have dc4 := (Classical.not_not.mp c4)
      have hW := hW.1 dc4
      refine wp_g (n := 1) (pc' := 18) (L' := [some (.ref 158), some (.int (iI x1)), some (.int (iI x2)), none]) (st' := [.int (iI (-2))]) rfl ?_
      exact wp_iret rfl rfl ⟨_, _, _, _, rfl, (by decide), S, hW⟩
theorem vc_X9_alike_26 {E : am_E} {k : Nat} {x1 : Int} {x2 : Int} {y2 : Int} {y3 : Int} {m : MM} {γ : GM} {t : am_H} {Q : Int → MM → GM → am_H → Prop} (hx1 : rJ x1) (hx2 : rJ x2) (hy2 : rJ y2) (hy3 : rJ y3) (hW : W_X9_alike_26 E k x1 x2 y2 y3 m γ t Q) : hd_X9_alike_26 E k x1 x2 y2 y3 m γ t Q := by
  unfold W_X9_alike_26 at hW
  intro z1 h S
  refine wp_g (n := 2) (pc' := 29) (L' := [some (.ref 158), z1, some (.int (iI y2)), some (.int (iI y3))]) (st' := [.int (iI 8), .int (iI y3)]) rfl ?_
  refine wp_icmpI (a := y3) (b := 8) rfl rfl hy3.1 hy3.2 (by decide) (by decide) (fun c1 => ?_) (fun c1 => ?_)
  · have dc1 := (Int.not_lt.mpr c1)
    have hW := hW.2 dc1
    refine wp_g (n := 1) (pc' := 62) (L' := [some (.ref 158), z1, some (.int (iI y2)), some (.int (iI y3))]) (st' := [.int (iI 0)]) rfl ?_
    exact wp_iret rfl rfl ⟨_, _, _, _, rfl, (by decide), S, hW⟩
  · have dc1 := (Int.not_le.mp c1)
    have hW := hW.1 dc1
    refine wp_g (n := 2) (pc' := 34) (L' := [some (.ref 158), z1, some (.int (iI y2)), some (.int (iI y3))]) (st' := [.int (iI y2), .ref 158]) rfl ?_
    refine wp_cv (As := [.int (iI y2)]) (rest := []) rfl rfl (S.cell 158 (nc rfl)) (by decide) rfl rfl rfl (Nat.le_of_ble_eq_true rfl) (Nat.le_of_ble_eq_true rfl) (hW _ S) (fun r2 H2 q2 => ?_)
    obtain ⟨v2, m2, γ2, t2, rfl, hv2, S, hW⟩ := q2
    show wp _ _ _ _ _ [.int (iI v2)] _ _
    refine wp_ifI (a := v2) rfl rfl hv2.1 hv2.2 (fun c3 => ?_) (fun c3 => ?_)
    · have dc3 := c3
      have hW := hW.1 dc3
      refine wp_g (n := 1) (pc' := 43) (L' := [some (.ref 158), z1, some (.int (iI y2)), some (.int (iI y3))]) (st' := [.ref 158]) rfl ?_
      refine wp_cv (As := []) (rest := []) rfl rfl (S.cell 158 (nc rfl)) (by decide) rfl rfl rfl (Nat.le_of_ble_eq_true rfl) (Nat.le_of_ble_eq_true rfl) (hW _ S) (fun r4 H4 q4 => ?_)
      obtain ⟨m4, γ4, t4, rfl, S, hW⟩ := q4
      show wp _ _ _ _ _ [] _ _
      refine wp_g (n := 2) (pc' := 48) (L' := [some (.ref 158), z1, some (.int (iI y2)), some (.int (iI y3))]) (st' := [.int (iI 3), .int (iI y3)]) rfl ?_
      refine wp_icmpI (a := y3) (b := 3) rfl rfl hy3.1 hy3.2 (by decide) (by decide) (fun c5 => ?_) (fun c5 => ?_)
      · have dc5 := c5
        have hW := hW.2 dc5
        refine wp_iinc (L' := [some (.ref 158), z1, some (.int (iI y2)), some (.int (iI (y3 + 1)))]) (a := y3) rfl rfl rfl ?_
        refine wp_g (n := 1) (pc' := 26) (L' := [some (.ref 158), z1, some (.int (iI y2)), some (.int (iI (y3 + 1)))]) (st' := []) rfl ?_
        exact hW z1 _ S
      · have dc5 := (Classical.not_not.mp c5)
        have hW := hW.1 dc5
        refine wp_g (n := 1) (pc' := 52) (L' := [some (.ref 158), z1, some (.int (iI y2)), some (.int (iI y3))]) (st' := [.ref 158]) rfl ?_
        refine wp_cv (As := []) (rest := []) rfl rfl (S.cell 158 (nc rfl)) (by decide) rfl rfl rfl (Nat.le_of_ble_eq_true rfl) (Nat.le_of_ble_eq_true rfl) (hW _ S) (fun r6 H6 q6 => ?_)
        obtain ⟨m6, γ6, t6, rfl, S, hW⟩ := q6
        show wp _ _ _ _ _ [] _ _
        refine wp_iinc (L' := [some (.ref 158), z1, some (.int (iI y2)), some (.int (iI (y3 + 1)))]) (a := y3) rfl rfl rfl ?_
        refine wp_g (n := 1) (pc' := 26) (L' := [some (.ref 158), z1, some (.int (iI y2)), some (.int (iI (y3 + 1)))]) (st' := []) rfl ?_
        exact hW z1 _ S
    · have dc3 := c3
      have hW := hW.2 dc3
      refine wp_g (n := 1) (pc' := 41) (L' := [some (.ref 158), z1, some (.int (iI y2)), some (.int (iI y3))]) (st' := [.int (iI 1)]) rfl ?_
      exact wp_iret rfl rfl ⟨_, _, _, _, rfl, (by decide), S, hW⟩
def hd_X9_same_56 (E : am_E) (k : Nat) (x1 : Int) (x2 : Int) (y1 : Int) (y3 : Int) (m : MM) (γ : GM) (t : am_H) (Q : Int → MM → GM → am_H → Prop) : Prop := ∀ (z2 : Option Value), TT (pI Q) E (k + 1) 301 56 [some (.ref 158), some (.int (iI y1)), z2, some (.int (iI y3))] [] m γ t
abbrev W_X9_same (E : am_E) (k : Nat) (x1 : Int) (x2 : Int) (m : MM) (γ : GM) (t : am_H) (Q : Int → MM → GM → am_H → Prop) : Prop := (TI E k 195 [.ref 158, .int (iI x1)] m γ t (fun v1 m1 γ1 t1 => (((v1 = 0) → (Q (-2) m1 γ1 t1)) ∧ (¬ (v1 = 0) → (TI E k 192 [.long (lI x2), .long (lI 0), .long (lI 3)] m1 γ1 t1 (fun v3 m3 γ3 t3 => (((v3 = 0) → (Q (-2) m3 γ3 t3)) ∧ (¬ (v3 = 0) → (TV E k 201 [.ref 158, .int (iI x1)] m3 γ3 t3 (fun m5 γ5 t5 => (((x2 ≤ 1) → (((x2 = 0) → (hd_X9_same_56 E k x1 x2 x1 1 m5 γ5 t5 Q)) ∧ (¬ (x2 = 0) → (((x2 = 2) → (hd_X9_same_56 E k x1 x2 x1 0 m5 γ5 t5 Q)) ∧ (¬ (x2 = 2) → (hd_X9_same_56 E k x1 x2 x1 2 m5 γ5 t5 Q)))))) ∧ (¬ (x2 ≤ 1) → (TV E k 295 [.ref 158] m5 γ5 t5 (fun m9 γ9 t9 => (((x2 = 0) → (hd_X9_same_56 E k x1 x2 x1 1 m9 γ9 t9 Q)) ∧ (¬ (x2 = 0) → (((x2 = 2) → (hd_X9_same_56 E k x1 x2 x1 0 m9 γ9 t9 Q)) ∧ (¬ (x2 = 2) → (hd_X9_same_56 E k x1 x2 x1 2 m9 γ9 t9 Q)))))))))))))))))))
abbrev W_X9_same_56 (E : am_E) (k : Nat) (x1 : Int) (x2 : Int) (y1 : Int) (y3 : Int) (m : MM) (γ : GM) (t : am_H) (Q : Int → MM → GM → am_H → Prop) : Prop := (((y3 ≤ 0) → (TI E k 299 [.ref 158, .int (iI y1)] m γ t (fun v2 m2 γ2 t2 => (((v2 = 0) → (Q 0 m2 γ2 t2)) ∧ (¬ (v2 = 0) → (Q 1 m2 γ2 t2)))))) ∧ (¬ (y3 ≤ 0) → (TV E k 294 [.ref 158] m γ t (fun m4 γ4 t4 => (hd_X9_same_56 E k x1 x2 y1 (y3 + (-1)) m4 γ4 t4 Q)))))
theorem vc_X9_same {E : am_E} {k : Nat} {x1 : Int} {x2 : Int} {m : MM} {γ : GM} {t : am_H} {Q : Int → MM → GM → am_H → Prop} (hx1 : rJ x1) (hx2 : rJ x2) (hW : W_X9_same E k x1 x2 m γ t Q) : TI E (k + 1) 301 [.ref 158, .int (iI x1), .int (iI x2)] m γ t Q := by
  unfold W_X9_same at hW
  intro h S
  refine wp_g (n := 2) (pc' := 2) (L' := [some (.ref 158), some (.int (iI x1)), some (.int (iI x2)), none]) (st' := [.int (iI x1), .ref 158]) rfl ?_
  refine wp_cv (As := [.int (iI x1)]) (rest := []) rfl rfl (S.cell 158 (nc rfl)) (by decide) rfl rfl rfl (Nat.le_of_ble_eq_true rfl) (Nat.le_of_ble_eq_true rfl) (hW _ S) (fun r1 H1 q1 => ?_)
  obtain ⟨v1, m1, γ1, t1, rfl, hv1, S, hW⟩ := q1
  show wp _ _ _ _ _ [.int (iI v1)] _ _
  refine wp_ifI (a := v1) rfl rfl hv1.1 hv1.2 (fun c2 => ?_) (fun c2 => ?_)
  · have dc2 := c2
    have hW := hW.1 dc2
    refine wp_g (n := 1) (pc' := 22) (L' := [some (.ref 158), some (.int (iI x1)), some (.int (iI x2)), none]) (st' := [.int (iI (-2))]) rfl ?_
    exact wp_iret rfl rfl ⟨_, _, _, _, rfl, (by decide), S, hW⟩
  · have dc2 := c2
    have hW := hW.2 dc2
    refine wp_g (n := 1) (pc' := 9) (L' := [some (.ref 158), some (.int (iI x1)), some (.int (iI x2)), none]) (st' := [.int (iI x2)]) rfl ?_
    refine wp_i2l (a := x2) rfl hx2 ?_
    refine wp_g (n := 2) (pc' := 14) (L' := [some (.ref 158), some (.int (iI x1)), some (.int (iI x2)), none]) (st' := [.long (lI 3), .long (lI 0), .long (lI x2)]) rfl ?_
    refine wp_cs (As := [.long (lI x2), .long (lI 0), .long (lI 3)]) (rest := []) rfl rfl rfl rfl (Nat.le_of_ble_eq_true rfl) (Nat.le_of_ble_eq_true rfl) (hW _ S) (fun r3 H3 q3 => ?_)
    obtain ⟨v3, m3, γ3, t3, rfl, hv3, S, hW⟩ := q3
    show wp _ _ _ _ _ [.int (iI v3)] _ _
    refine wp_ifI (a := v3) rfl rfl hv3.1 hv3.2 (fun c4 => ?_) (fun c4 => ?_)
    · have dc4 := c4
      have hW := hW.2 dc4
      refine wp_g (n := 2) (pc' := 25) (L' := [some (.ref 158), some (.int (iI x1)), some (.int (iI x2)), none]) (st' := [.int (iI x1), .ref 158]) rfl ?_
      refine wp_cv (As := [.int (iI x1)]) (rest := []) rfl rfl (S.cell 158 (nc rfl)) (by decide) rfl rfl rfl (Nat.le_of_ble_eq_true rfl) (Nat.le_of_ble_eq_true rfl) (hW _ S) (fun r5 H5 q5 => ?_)
      obtain ⟨m5, γ5, t5, rfl, S, hW⟩ := q5
      show wp _ _ _ _ _ [] _ _
      refine wp_g (n := 2) (pc' := 30) (L' := [some (.ref 158), some (.int (iI x1)), some (.int (iI x2)), none]) (st' := [.int (iI 1), .int (iI x2)]) rfl ?_
      refine wp_icmpI (a := x2) (b := 1) rfl rfl hx2.1 hx2.2 (by decide) (by decide) (fun c6 => ?_) (fun c6 => ?_)
      · have dc6 := c6
        have hW := hW.1 dc6
        refine wp_g (n := 1) (pc' := 38) (L' := [some (.ref 158), some (.int (iI x1)), some (.int (iI x2)), none]) (st' := [.int (iI x2)]) rfl ?_
        refine wp_ifI (a := x2) rfl rfl hx2.1 hx2.2 (fun c7 => ?_) (fun c7 => ?_)
        · have dc7 := c7
          have hW := hW.2 dc7
          refine wp_g (n := 2) (pc' := 47) (L' := [some (.ref 158), some (.int (iI x1)), some (.int (iI x2)), none]) (st' := [.int (iI 2), .int (iI x2)]) rfl ?_
          refine wp_icmpI (a := x2) (b := 2) rfl rfl hx2.1 hx2.2 (by decide) (by decide) (fun c8 => ?_) (fun c8 => ?_)
          · have dc8 := c8
            have hW := hW.2 dc8
            refine wp_g (n := 2) (pc' := 56) (L' := [some (.ref 158), some (.int (iI x1)), some (.int (iI x2)), some (.int (iI 2))]) (st' := []) rfl ?_
            exact hW (some (.int (iI x2))) _ S
          · have dc8 := (Classical.not_not.mp c8)
            have hW := hW.1 dc8
            refine wp_g (n := 3) (pc' := 56) (L' := [some (.ref 158), some (.int (iI x1)), some (.int (iI x2)), some (.int (iI 0))]) (st' := []) rfl ?_
            exact hW (some (.int (iI x2))) _ S
        · have dc7 := (Classical.not_not.mp c7)
          have hW := hW.1 dc7
          refine wp_g (n := 3) (pc' := 56) (L' := [some (.ref 158), some (.int (iI x1)), some (.int (iI x2)), some (.int (iI 1))]) (st' := []) rfl ?_
          exact hW (some (.int (iI x2))) _ S
      · have dc6 := c6
        have hW := hW.2 dc6
        refine wp_g (n := 1) (pc' := 34) (L' := [some (.ref 158), some (.int (iI x1)), some (.int (iI x2)), none]) (st' := [.ref 158]) rfl ?_
        refine wp_cv (As := []) (rest := []) rfl rfl (S.cell 158 (nc rfl)) (by decide) rfl rfl rfl (Nat.le_of_ble_eq_true rfl) (Nat.le_of_ble_eq_true rfl) (hW _ S) (fun r9 H9 q9 => ?_)
        obtain ⟨m9, γ9, t9, rfl, S, hW⟩ := q9
        show wp _ _ _ _ _ [] _ _
        refine wp_g (n := 1) (pc' := 38) (L' := [some (.ref 158), some (.int (iI x1)), some (.int (iI x2)), none]) (st' := [.int (iI x2)]) rfl ?_
        refine wp_ifI (a := x2) rfl rfl hx2.1 hx2.2 (fun c10 => ?_) (fun c10 => ?_)
        · have dc10 := c10
          have hW := hW.2 dc10
          refine wp_g (n := 2) (pc' := 47) (L' := [some (.ref 158), some (.int (iI x1)), some (.int (iI x2)), none]) (st' := [.int (iI 2), .int (iI x2)]) rfl ?_
          refine wp_icmpI (a := x2) (b := 2) rfl rfl hx2.1 hx2.2 (by decide) (by decide) (fun c11 => ?_) (fun c11 => ?_)
          · have dc11 := c11
            have hW := hW.2 dc11
            refine wp_g (n := 2) (pc' := 56) (L' := [some (.ref 158), some (.int (iI x1)), some (.int (iI x2)), some (.int (iI 2))]) (st' := []) rfl ?_
            exact hW (some (.int (iI x2))) _ S
          · have dc11 := (Classical.not_not.mp c11)
            have hW := hW.1 dc11
            refine wp_g (n := 3) (pc' := 56) (L' := [some (.ref 158), some (.int (iI x1)), some (.int (iI x2)), some (.int (iI 0))]) (st' := []) rfl ?_
            exact hW (some (.int (iI x2))) _ S
        · have dc10 := (Classical.not_not.mp c10)
          have hW := hW.1 dc10
          refine wp_g (n := 3) (pc' := 56) (L' := [some (.ref 158), some (.int (iI x1)), some (.int (iI x2)), some (.int (iI 1))]) (st' := []) rfl ?_
          exact hW (some (.int (iI x2))) _ S
    · have dc4 := (Classical.not_not.mp c4)
      have hW := hW.1 dc4
      refine wp_g (n := 1) (pc' := 22) (L' := [some (.ref 158), some (.int (iI x1)), some (.int (iI x2)), none]) (st' := [.int (iI (-2))]) rfl ?_
      exact wp_iret rfl rfl ⟨_, _, _, _, rfl, (by decide), S, hW⟩
theorem vc_X9_same_56 {E : am_E} {k : Nat} {x1 : Int} {x2 : Int} {y1 : Int} {y3 : Int} {m : MM} {γ : GM} {t : am_H} {Q : Int → MM → GM → am_H → Prop} (hx1 : rJ x1) (hx2 : rJ x2) (hy1 : rJ y1) (hy3 : rJ y3) (hW : W_X9_same_56 E k x1 x2 y1 y3 m γ t Q) : hd_X9_same_56 E k x1 x2 y1 y3 m γ t Q := by
  unfold W_X9_same_56 at hW
  intro z2 h S
  refine wp_g (n := 1) (pc' := 57) (L' := [some (.ref 158), some (.int (iI y1)), z2, some (.int (iI y3))]) (st' := [.int (iI y3)]) rfl ?_
  refine wp_ifI (a := y3) rfl rfl hy3.1 hy3.2 (fun c1 => ?_) (fun c1 => ?_)
  · have dc1 := c1
    have hW := hW.1 dc1
    refine wp_g (n := 2) (pc' := 72) (L' := [some (.ref 158), some (.int (iI y1)), z2, some (.int (iI y3))]) (st' := [.int (iI y1), .ref 158]) rfl ?_
    refine wp_cv (As := [.int (iI y1)]) (rest := []) rfl rfl (S.cell 158 (nc rfl)) (by decide) rfl rfl rfl (Nat.le_of_ble_eq_true rfl) (Nat.le_of_ble_eq_true rfl) (hW _ S) (fun r2 H2 q2 => ?_)
    obtain ⟨v2, m2, γ2, t2, rfl, hv2, S, hW⟩ := q2
    show wp _ _ _ _ _ [.int (iI v2)] _ _
    refine wp_ifI (a := v2) rfl rfl hv2.1 hv2.2 (fun c3 => ?_) (fun c3 => ?_)
    · have dc3 := c3
      have hW := hW.1 dc3
      refine wp_g (n := 1) (pc' := 83) (L' := [some (.ref 158), some (.int (iI y1)), z2, some (.int (iI y3))]) (st' := [.int (iI 0)]) rfl ?_
      exact wp_iret rfl rfl ⟨_, _, _, _, rfl, (by decide), S, hW⟩
    · have dc3 := c3
      have hW := hW.2 dc3
      refine wp_g (n := 2) (pc' := 83) (L' := [some (.ref 158), some (.int (iI y1)), z2, some (.int (iI y3))]) (st' := [.int (iI 1)]) rfl ?_
      exact wp_iret rfl rfl ⟨_, _, _, _, rfl, (by decide), S, hW⟩
  · have dc1 := c1
    have hW := hW.2 dc1
    refine wp_g (n := 1) (pc' := 61) (L' := [some (.ref 158), some (.int (iI y1)), z2, some (.int (iI y3))]) (st' := [.ref 158]) rfl ?_
    refine wp_cv (As := []) (rest := []) rfl rfl (S.cell 158 (nc rfl)) (by decide) rfl rfl rfl (Nat.le_of_ble_eq_true rfl) (Nat.le_of_ble_eq_true rfl) (hW _ S) (fun r4 H4 q4 => ?_)
    obtain ⟨m4, γ4, t4, rfl, S, hW⟩ := q4
    show wp _ _ _ _ _ [] _ _
    refine wp_iinc (L' := [some (.ref 158), some (.int (iI y1)), (bif am_c2 z2 then none else z2), some (.int (iI (y3 + (-1))))]) (a := y3) rfl rfl rfl ?_
    refine wp_g (n := 1) (pc' := 56) (L' := [some (.ref 158), some (.int (iI y1)), (bif am_c2 z2 then none else z2), some (.int (iI (y3 + (-1))))]) (st' := []) rfl ?_
    exact hW (bif am_c2 z2 then none else z2) _ S
def hd_X9_plain_32 (E : am_E) (k : Nat) (x1 : Int) (x2 : Int) (y3 : Int) (y4 : Int) (m : MM) (γ : GM) (t : am_H) (Q : Int → MM → GM → am_H → Prop) : Prop := ∀ (z0 z1 z2 z5 : Option Value), TT (pI Q) E (k + 1) 302 32 [z0, z1, z2, some (.int (iI y3)), some (.int (iI y4)), z5] [] m γ t
abbrev W_X9_plain (E : am_E) (k : Nat) (x1 : Int) (x2 : Int) (m : MM) (γ : GM) (t : am_H) (Q : Int → MM → GM → am_H → Prop) : Prop := (TI E k 192 [.long (lI x1), .long (lI 1), .long (lI 9999)] m γ t (fun v1 m1 γ1 t1 => (((v1 = 0) → (Q (-2) m1 γ1 t1)) ∧ (¬ (v1 = 0) → (TI E k 192 [.long (lI x2), .long (lI 1), .long (lI 9999)] m1 γ1 t1 (fun v3 m3 γ3 t3 => (((v3 = 0) → (Q (-2) m3 γ3 t3)) ∧ (¬ (v3 = 0) → (hd_X9_plain_32 E k x1 x2 x1 x2 m3 γ3 t3 Q)))))))))
abbrev W_X9_plain_32 (E : am_E) (k : Nat) (x1 : Int) (x2 : Int) (y3 : Int) (y4 : Int) (m : MM) (γ : GM) (t : am_H) (Q : Int → MM → GM → am_H → Prop) : Prop := (((y4 = 0) → (Q y3 m γ t)) ∧ (¬ (y4 = 0) → (0 ≤ y3 ∧ (0 < y4 ∧ (hd_X9_plain_32 E k x1 x2 y4 (y3 % y4) m γ t Q)))))
theorem vc_X9_plain {E : am_E} {k : Nat} {x1 : Int} {x2 : Int} {m : MM} {γ : GM} {t : am_H} {Q : Int → MM → GM → am_H → Prop} (hx1 : rJ x1) (hx2 : rJ x2) (hW : W_X9_plain E k x1 x2 m γ t Q) : TI E (k + 1) 302 [.ref 158, .int (iI x1), .int (iI x2)] m γ t Q := by
  unfold W_X9_plain at hW
  intro h S
  refine wp_g (n := 1) (pc' := 1) (L' := [some (.ref 158), some (.int (iI x1)), some (.int (iI x2)), none, none, none]) (st' := [.int (iI x1)]) rfl ?_
  refine wp_i2l (a := x1) rfl hx1 ?_
  refine wp_g (n := 2) (pc' := 6) (L' := [some (.ref 158), some (.int (iI x1)), some (.int (iI x2)), none, none, none]) (st' := [.long (lI 9999), .long (lI 1), .long (lI x1)]) rfl ?_
  refine wp_cs (As := [.long (lI x1), .long (lI 1), .long (lI 9999)]) (rest := []) rfl rfl rfl rfl (Nat.le_of_ble_eq_true rfl) (Nat.le_of_ble_eq_true rfl) (hW _ S) (fun r1 H1 q1 => ?_)
  obtain ⟨v1, m1, γ1, t1, rfl, hv1, S, hW⟩ := q1
  show wp _ _ _ _ _ [.int (iI v1)] _ _
  refine wp_ifI (a := v1) rfl rfl hv1.1 hv1.2 (fun c2 => ?_) (fun c2 => ?_)
  · have dc2 := c2
    have hW := hW.1 dc2
    refine wp_g (n := 1) (pc' := 26) (L' := [some (.ref 158), some (.int (iI x1)), some (.int (iI x2)), none, none, none]) (st' := [.int (iI (-2))]) rfl ?_
    exact wp_iret rfl rfl ⟨_, _, _, _, rfl, (by decide), S, hW⟩
  · have dc2 := c2
    have hW := hW.2 dc2
    refine wp_g (n := 1) (pc' := 13) (L' := [some (.ref 158), some (.int (iI x1)), some (.int (iI x2)), none, none, none]) (st' := [.int (iI x2)]) rfl ?_
    refine wp_i2l (a := x2) rfl hx2 ?_
    refine wp_g (n := 2) (pc' := 18) (L' := [some (.ref 158), some (.int (iI x1)), some (.int (iI x2)), none, none, none]) (st' := [.long (lI 9999), .long (lI 1), .long (lI x2)]) rfl ?_
    refine wp_cs (As := [.long (lI x2), .long (lI 1), .long (lI 9999)]) (rest := []) rfl rfl rfl rfl (Nat.le_of_ble_eq_true rfl) (Nat.le_of_ble_eq_true rfl) (hW _ S) (fun r3 H3 q3 => ?_)
    obtain ⟨v3, m3, γ3, t3, rfl, hv3, S, hW⟩ := q3
    show wp _ _ _ _ _ [.int (iI v3)] _ _
    refine wp_ifI (a := v3) rfl rfl hv3.1 hv3.2 (fun c4 => ?_) (fun c4 => ?_)
    · have dc4 := c4
      have hW := hW.2 dc4
      refine wp_g (n := 4) (pc' := 32) (L' := [some (.ref 158), some (.int (iI x1)), some (.int (iI x2)), some (.int (iI x1)), some (.int (iI x2)), none]) (st' := []) rfl ?_
      exact hW (some (.ref 158)) (some (.int (iI x1))) (some (.int (iI x2))) none _ S
    · have dc4 := (Classical.not_not.mp c4)
      have hW := hW.1 dc4
      refine wp_g (n := 1) (pc' := 26) (L' := [some (.ref 158), some (.int (iI x1)), some (.int (iI x2)), none, none, none]) (st' := [.int (iI (-2))]) rfl ?_
      exact wp_iret rfl rfl ⟨_, _, _, _, rfl, (by decide), S, hW⟩
theorem vc_X9_plain_32 {E : am_E} {k : Nat} {x1 : Int} {x2 : Int} {y3 : Int} {y4 : Int} {m : MM} {γ : GM} {t : am_H} {Q : Int → MM → GM → am_H → Prop} (hx1 : rJ x1) (hx2 : rJ x2) (hy3 : rJ y3) (hy4 : rJ y4) (hW : W_X9_plain_32 E k x1 x2 y3 y4 m γ t Q) : hd_X9_plain_32 E k x1 x2 y3 y4 m γ t Q := by
  unfold W_X9_plain_32 at hW
  intro z0 z1 z2 z5 h S
  refine wp_g (n := 1) (pc' := 34) (L' := [z0, z1, z2, some (.int (iI y3)), some (.int (iI y4)), z5]) (st' := [.int (iI y4)]) rfl ?_
  refine wp_ifI (a := y4) rfl rfl hy4.1 hy4.2 (fun c1 => ?_) (fun c1 => ?_)
  · have dc1 := c1
    have hW := hW.1 dc1
    refine wp_g (n := 1) (pc' := 54) (L' := [z0, z1, z2, some (.int (iI y3)), some (.int (iI y4)), z5]) (st' := [.int (iI y3)]) rfl ?_
    exact wp_iret rfl rfl ⟨_, _, _, _, rfl, hy3, S, hW⟩
  · have dc1 := c1
    have hW := hW.2 dc1
    refine wp_g (n := 2) (pc' := 40) (L' := [z0, z1, z2, some (.int (iI y3)), some (.int (iI y4)), z5]) (st' := [.int (iI y4), .int (iI y3)]) rfl ?_
    obtain ⟨p2, hW⟩ := hW
    obtain ⟨p3, hW⟩ := hW
    refine wp_rem (a := y3) (b := y4) rfl p2 hy3.2 p3 hy4.2 ?_
    refine wp_g (n := 6) (pc' := 32) (L' := [z0, z1, (bif am_c2 z2 then none else z2), some (.int (iI y4)), some (.int (iI (y3 % y4))), some (.int (iI (y3 % y4)))]) (st' := []) rfl ?_
    exact hW z0 z1 (bif am_c2 z2 then none else z2) (some (.int (iI (y3 % y4)))) _ S
def hd_X9_says_2 (E : am_E) (k : Nat) (w1 : Nat) (y2 : Int) (m : MM) (γ : GM) (t : am_H) (Q : MM → GM → am_H → Prop) : Prop := TT (pV Q) E (k + 1) 303 2 [some (.ref 158), some (.ref w1), some (.int (iI y2))] [] m γ t
abbrev W_X9_says (E : am_E) (k : Nat) (w1 : Nat) (m : MM) (γ : GM) (t : am_H) (Q : MM → GM → am_H → Prop) : Prop := (hd_X9_says_2 E k w1 0 m γ t Q)
abbrev W_X9_says_2 (E : am_E) (k : Nat) (w1 : Nat) (y2 : Int) (m : MM) (γ : GM) (t : am_H) (Q : MM → GM → am_H → Prop) : Prop := (TI E k 313 [.ref w1] m γ t (fun v1 m1 γ1 t1 => (((y2 < v1) → (TI E k 314 [.ref w1, .int (iI y2)] m1 γ1 t1 (fun v4 m4 γ4 t4 => ((0 ≤ (m1 158 53) ∧ (m1 158 53) < 1000) ∧ (rJ ((m4 158 53) + 1) ∧ (hd_X9_says_2 E k w1 (y2 + 1) (up (up m4 194 (up (m4 194) (((m1 158 53)).toNat) v4)) 158 (up (m4 158) 53 ((m4 158 53) + 1))) γ4 t4 Q)))))) ∧ (¬ (y2 < v1) → (Q m1 γ1 t1)))))
theorem vc_X9_says {E : am_E} {k : Nat} {w1 : Nat} {m : MM} {γ : GM} {t : am_H} {Q : MM → GM → am_H → Prop} (hw1 : isS w1) (hW : W_X9_says E k w1 m γ t Q) : TV E (k + 1) 303 [.ref 158, .ref w1] m γ t Q := by
  unfold W_X9_says at hW
  intro h S
  refine wp_g (n := 2) (pc' := 2) (L' := [some (.ref 158), some (.ref w1), some (.int (iI 0))]) (st' := []) rfl ?_
  exact hW _ S
theorem vc_X9_says_2 {E : am_E} {k : Nat} {w1 : Nat} {y2 : Int} {m : MM} {γ : GM} {t : am_H} {Q : MM → GM → am_H → Prop} (hw1 : isS w1) (hy2 : rJ y2) (hW : W_X9_says_2 E k w1 y2 m γ t Q) : hd_X9_says_2 E k w1 y2 m γ t Q := by
  unfold W_X9_says_2 at hW
  intro h S
  refine wp_g (n := 2) (pc' := 4) (L' := [some (.ref 158), some (.ref w1), some (.int (iI y2))]) (st' := [.ref w1, .int (iI y2)]) rfl ?_
  refine wp_cvS (As := []) (rest := [.int (iI y2)]) rfl rfl hw1 rfl rfl rfl (Nat.le_of_ble_eq_true rfl) (Nat.le_of_ble_eq_true rfl) (hW _ S) (fun r1 H1 q1 => ?_)
  obtain ⟨v1, m1, γ1, t1, rfl, hv1, S, hW⟩ := q1
  show wp _ _ _ _ _ [.int (iI v1), .int (iI y2)] _ _
  refine wp_icmpI (a := y2) (b := v1) rfl rfl hy2.1 hy2.2 hv1.1 hv1.2 (fun c2 => ?_) (fun c2 => ?_)
  · have dc2 := (Int.not_lt.mpr c2)
    have hW := hW.2 dc2
    exact wp_vret rfl rfl ⟨_, _, _, rfl, S, hW⟩
  · have dc2 := (Int.not_le.mp c2)
    have hW := hW.1 dc2
    refine wp_g (n := 1) (pc' := 11) (L' := [some (.ref 158), some (.ref w1), some (.int (iI y2))]) (st' := [.ref 158]) rfl ?_
    refine wp_getf (v := .ref 194) rfl rfl (S.cell 158 (nc rfl)) (by decide) rfl ?_
    refine wp_g (n := 1) (pc' := 15) (L' := [some (.ref 158), some (.ref w1), some (.int (iI y2))]) (st' := [.ref 158, .ref 194]) rfl ?_
    refine wp_getf (v := .int (iI (m1 158 53))) rfl rfl (S.cell 158 (nc rfl)) (by decide) rfl ?_
    have hr3 : rJ (m1 158 53) := S.rg 158 53 (nl rfl)
    refine wp_g (n := 2) (pc' := 20) (L' := [some (.ref 158), some (.ref w1), some (.int (iI y2))]) (st' := [.int (iI y2), .ref w1, .int (iI (m1 158 53)), .ref 194]) rfl ?_
    refine wp_cvS (As := [.int (iI y2)]) (rest := [.int (iI (m1 158 53)), .ref 194]) rfl rfl hw1 rfl rfl rfl (Nat.le_of_ble_eq_true rfl) (Nat.le_of_ble_eq_true rfl) (hW _ S) (fun r4 H4 q4 => ?_)
    obtain ⟨v4, m4, γ4, t4, rfl, hv4, S, hW⟩ := q4
    show wp _ _ _ _ _ [.int (iI v4), .int (iI (m1 158 53)), .ref 194] _ _
    obtain ⟨p6, hW⟩ := hW
    refine wp_iasF (n := 1000) (F := (m4 194)) (y := v4) rfl (S.cell 194 (nc rfl)) p6.1 p6.2 (by decide) (fun H5 hl5 hz5 hf5 => ?_)
    have S : ST H5 (up m4 194 (up (m4 194) (((m1 158 53)).toNat) v4)) γ4 t4 := S.setI 194 (nc rfl) hl5 hz5 hf5 hv4.1 hv4.2
    refine wp_g (n := 2) (pc' := 26) (L' := [some (.ref 158), some (.ref w1), some (.int (iI y2))]) (st' := [.ref 158, .ref 158]) rfl ?_
    refine wp_getf (v := .int (iI (m4 158 53))) rfl rfl (S.cell 158 (nc rfl)) (by decide) rfl ?_
    have hr7 : rJ (m4 158 53) := S.rg 158 53 (nl rfl)
    refine wp_g (n := 1) (pc' := 30) (L' := [some (.ref 158), some (.ref w1), some (.int (iI y2))]) (st' := [.int (iI 1), .int (iI (m4 158 53)), .ref 158]) rfl ?_
    refine wp_add (a := (m4 158 53)) (b := 1) rfl ?_
    obtain ⟨p9, hW⟩ := hW
    refine wp_putI rfl rfl (S.cell 158 (nc rfl)) (Nat.le_of_ble_eq_true rfl) rfl (fun H8 hl8 hz8 hf8 => ?_)
    have S : ST H8 (up (up m4 194 (up (m4 194) (((m1 158 53)).toNat) v4)) 158 (up (m4 158) 53 ((m4 158 53) + 1))) γ4 t4 := S.setI 158 (nc rfl) hl8 hz8 hf8 p9.1 p9.2
    refine wp_iinc (L' := [some (.ref 158), some (.ref w1), some (.int (iI (y2 + 1)))]) (a := y2) rfl rfl rfl ?_
    refine wp_g (n := 1) (pc' := 2) (L' := [some (.ref 158), some (.ref w1), some (.int (iI (y2 + 1)))]) (st' := []) rfl ?_
    exact hW _ S
abbrev W_X9_saysNumber (E : am_E) (k : Nat) (x1 : Int) (m : MM) (γ : GM) (t : am_H) (Q : MM → GM → am_H → Prop) : Prop := (((x1 ≤ 9) → (0 ≤ x1 ∧ ((0 ≤ (m 158 53) ∧ (m 158 53) < 1000) ∧ (rJ (48 + (x1 % 10)) ∧ (rJ ((m 158 53) + 1) ∧ (Q (up (up m 194 (up (m 194) (((m 158 53)).toNat) (48 + (x1 % 10)))) 158 (up (m 158) 53 ((m 158 53) + 1))) γ t)))))) ∧ (¬ (x1 ≤ 9) → (0 ≤ x1 ∧ (TV E k 304 [.ref 158, .int (iI (x1 / 10))] m γ t (fun m12 γ12 t12 => (0 ≤ x1 ∧ ((0 ≤ (m12 158 53) ∧ (m12 158 53) < 1000) ∧ (rJ (48 + (x1 % 10)) ∧ (rJ ((m12 158 53) + 1) ∧ (Q (up (up m12 194 (up (m12 194) (((m12 158 53)).toNat) (48 + (x1 % 10)))) 158 (up (m12 158) 53 ((m12 158 53) + 1))) γ12 t12))))))))))
theorem vc_X9_saysNumber {E : am_E} {k : Nat} {x1 : Int} {m : MM} {γ : GM} {t : am_H} {Q : MM → GM → am_H → Prop} (hx1 : rJ x1) (hW : W_X9_saysNumber E k x1 m γ t Q) : TV E (k + 1) 304 [.ref 158, .int (iI x1)] m γ t Q := by
  unfold W_X9_saysNumber at hW
  intro h S
  refine wp_g (n := 2) (pc' := 3) (L' := [some (.ref 158), some (.int (iI x1))]) (st' := [.int (iI 9), .int (iI x1)]) rfl ?_
  refine wp_icmpI (a := x1) (b := 9) rfl rfl hx1.1 hx1.2 (by decide) (by decide) (fun c1 => ?_) (fun c1 => ?_)
  · have dc1 := c1
    have hW := hW.1 dc1
    refine wp_g (n := 1) (pc' := 15) (L' := [some (.ref 158), some (.int (iI x1))]) (st' := [.ref 158]) rfl ?_
    refine wp_getf (v := .ref 194) rfl rfl (S.cell 158 (nc rfl)) (by decide) rfl ?_
    refine wp_g (n := 1) (pc' := 19) (L' := [some (.ref 158), some (.int (iI x1))]) (st' := [.ref 158, .ref 194]) rfl ?_
    refine wp_getf (v := .int (iI (m 158 53))) rfl rfl (S.cell 158 (nc rfl)) (by decide) rfl ?_
    have hr2 : rJ (m 158 53) := S.rg 158 53 (nl rfl)
    refine wp_g (n := 3) (pc' := 27) (L' := [some (.ref 158), some (.int (iI x1))]) (st' := [.int (iI 10), .int (iI x1), .int (iI 48), .int (iI (m 158 53)), .ref 194]) rfl ?_
    obtain ⟨p3, hW⟩ := hW
    refine wp_rem (a := x1) (b := 10) rfl p3 hx1.2 (by decide) (by decide) ?_
    have hr4 : rJ (x1 % 10) := by omega
    refine wp_add (a := 48) (b := (x1 % 10)) rfl ?_
    obtain ⟨p6, hW⟩ := hW
    obtain ⟨p7, hW⟩ := hW
    refine wp_iasF (n := 1000) (F := (m 194)) (y := (48 + (x1 % 10))) rfl (S.cell 194 (nc rfl)) p6.1 p6.2 (by decide) (fun H5 hl5 hz5 hf5 => ?_)
    have S : ST H5 (up m 194 (up (m 194) (((m 158 53)).toNat) (48 + (x1 % 10)))) γ t := S.setI 194 (nc rfl) hl5 hz5 hf5 p7.1 p7.2
    refine wp_g (n := 2) (pc' := 32) (L' := [some (.ref 158), some (.int (iI x1))]) (st' := [.ref 158, .ref 158]) rfl ?_
    refine wp_getf (v := .int (iI (m 158 53))) rfl rfl (S.cell 158 (nc rfl)) (by decide) rfl ?_
    refine wp_g (n := 1) (pc' := 36) (L' := [some (.ref 158), some (.int (iI x1))]) (st' := [.int (iI 1), .int (iI (m 158 53)), .ref 158]) rfl ?_
    refine wp_add (a := (m 158 53)) (b := 1) rfl ?_
    obtain ⟨p9, hW⟩ := hW
    refine wp_putI rfl rfl (S.cell 158 (nc rfl)) (Nat.le_of_ble_eq_true rfl) rfl (fun H8 hl8 hz8 hf8 => ?_)
    have S : ST H8 (up (up m 194 (up (m 194) (((m 158 53)).toNat) (48 + (x1 % 10)))) 158 (up (m 158) 53 ((m 158 53) + 1))) γ t := S.setI 158 (nc rfl) hl8 hz8 hf8 p9.1 p9.2
    exact wp_vret rfl rfl ⟨_, _, _, rfl, S, hW⟩
  · have dc1 := c1
    have hW := hW.2 dc1
    refine wp_g (n := 3) (pc' := 10) (L' := [some (.ref 158), some (.int (iI x1))]) (st' := [.int (iI 10), .int (iI x1), .ref 158]) rfl ?_
    obtain ⟨p10, hW⟩ := hW
    refine wp_div (a := x1) (b := 10) rfl p10 hx1.2 (by decide) (by decide) ?_
    have hr11 : rJ (x1 / 10) := by have := hx1; omega
    refine wp_cv (As := [.int (iI (x1 / 10))]) (rest := []) rfl rfl (S.cell 158 (nc rfl)) (by decide) rfl rfl rfl (Nat.le_of_ble_eq_true rfl) (Nat.le_of_ble_eq_true rfl) (hW _ S) (fun r12 H12 q12 => ?_)
    obtain ⟨m12, γ12, t12, rfl, S, hW⟩ := q12
    show wp _ _ _ _ _ [] _ _
    refine wp_g (n := 1) (pc' := 15) (L' := [some (.ref 158), some (.int (iI x1))]) (st' := [.ref 158]) rfl ?_
    refine wp_getf (v := .ref 194) rfl rfl (S.cell 158 (nc rfl)) (by decide) rfl ?_
    refine wp_g (n := 1) (pc' := 19) (L' := [some (.ref 158), some (.int (iI x1))]) (st' := [.ref 158, .ref 194]) rfl ?_
    refine wp_getf (v := .int (iI (m12 158 53))) rfl rfl (S.cell 158 (nc rfl)) (by decide) rfl ?_
    have hr13 : rJ (m12 158 53) := S.rg 158 53 (nl rfl)
    refine wp_g (n := 3) (pc' := 27) (L' := [some (.ref 158), some (.int (iI x1))]) (st' := [.int (iI 10), .int (iI x1), .int (iI 48), .int (iI (m12 158 53)), .ref 194]) rfl ?_
    obtain ⟨p14, hW⟩ := hW
    refine wp_rem (a := x1) (b := 10) rfl p14 hx1.2 (by decide) (by decide) ?_
    have hr15 : rJ (x1 % 10) := by omega
    refine wp_add (a := 48) (b := (x1 % 10)) rfl ?_
    obtain ⟨p17, hW⟩ := hW
    obtain ⟨p18, hW⟩ := hW
    refine wp_iasF (n := 1000) (F := (m12 194)) (y := (48 + (x1 % 10))) rfl (S.cell 194 (nc rfl)) p17.1 p17.2 (by decide) (fun H16 hl16 hz16 hf16 => ?_)
    have S : ST H16 (up m12 194 (up (m12 194) (((m12 158 53)).toNat) (48 + (x1 % 10)))) γ12 t12 := S.setI 194 (nc rfl) hl16 hz16 hf16 p18.1 p18.2
    refine wp_g (n := 2) (pc' := 32) (L' := [some (.ref 158), some (.int (iI x1))]) (st' := [.ref 158, .ref 158]) rfl ?_
    refine wp_getf (v := .int (iI (m12 158 53))) rfl rfl (S.cell 158 (nc rfl)) (by decide) rfl ?_
    refine wp_g (n := 1) (pc' := 36) (L' := [some (.ref 158), some (.int (iI x1))]) (st' := [.int (iI 1), .int (iI (m12 158 53)), .ref 158]) rfl ?_
    refine wp_add (a := (m12 158 53)) (b := 1) rfl ?_
    obtain ⟨p20, hW⟩ := hW
    refine wp_putI rfl rfl (S.cell 158 (nc rfl)) (Nat.le_of_ble_eq_true rfl) rfl (fun H19 hl19 hz19 hf19 => ?_)
    have S : ST H19 (up (up m12 194 (up (m12 194) (((m12 158 53)).toNat) (48 + (x1 % 10)))) 158 (up (m12 158) 53 ((m12 158 53) + 1))) γ12 t12 := S.setI 158 (nc rfl) hl19 hz19 hf19 p20.1 p20.2
    exact wp_vret rfl rfl ⟨_, _, _, rfl, S, hW⟩
def hd_X9_saysLine_5 (E : am_E) (k : Nat) (w1 : Nat) (x2 : Int) (y2 : Int) (y3 : Nat) (y4 : Int) (m : MM) (γ : GM) (t : am_H) (Q : MM → GM → am_H → Prop) : Prop := ∀ (z1 : Option Value), TT (pV Q) E (k + 1) 305 5 [some (.ref 158), z1, some (.int (iI y2)), some (.ref y3), some (.int (iI y4))] [] m γ t
abbrev W_X9_saysLine (E : am_E) (k : Nat) (w1 : Nat) (x2 : Int) (m : MM) (γ : GM) (t : am_H) (Q : MM → GM → am_H → Prop) : Prop := (hd_X9_saysLine_5 E k w1 x2 x2 w1 0 m γ t Q)
abbrev W_X9_saysLine_5 (E : am_E) (k : Nat) (w1 : Nat) (x2 : Int) (y2 : Int) (y3 : Nat) (y4 : Int) (m : MM) (γ : GM) (t : am_H) (Q : MM → GM → am_H → Prop) : Prop := (((y4 < (m 158 6)) → ((0 ≤ y4 ∧ y4 < 24) ∧ ((((m 162 ((y4).toNat)) = y2) → (TV E k 303 [.ref 158, .ref y3] m γ t (fun m9 γ9 t9 => ((0 ≤ y4 ∧ y4 < 24) ∧ (TV E k 304 [.ref 158, .int (iI (m9 163 ((y4).toNat)))] m9 γ9 t9 (fun m12 γ12 t12 => ((0 ≤ y4 ∧ y4 < 24) ∧ ((((m12 164 ((y4).toNat)) = 1) → (TV E k 303 [.ref 158, .ref 1000046] m12 γ12 t12 (fun m17 γ17 t17 => (hd_X9_saysLine_5 E k w1 x2 y2 1000044 (y4 + 1) m17 γ17 t17 Q)))) ∧ (¬ ((m12 164 ((y4).toNat)) = 1) → (TV E k 303 [.ref 158, .ref 1000048] m12 γ12 t12 (fun m16 γ16 t16 => (hd_X9_saysLine_5 E k w1 x2 y2 1000044 (y4 + 1) m16 γ16 t16 Q)))))))))))) ∧ (¬ ((m 162 ((y4).toNat)) = y2) → (hd_X9_saysLine_5 E k w1 x2 y2 y3 (y4 + 1) m γ t Q))))) ∧ (¬ (y4 < (m 158 6)) → (TI E k 205 [.ref 158, .int (iI y2)] m γ t (fun v3 m3 γ3 t3 => (((v3 ≤ 0) → (Q m3 γ3 t3)) ∧ (¬ (v3 ≤ 0) → (TV E k 303 [.ref 158, .ref 1000040] m3 γ3 t3 (fun m5 γ5 t5 => (Q m5 γ5 t5)))))))))
theorem vc_X9_saysLine {E : am_E} {k : Nat} {w1 : Nat} {x2 : Int} {m : MM} {γ : GM} {t : am_H} {Q : MM → GM → am_H → Prop} (hw1 : isS w1) (hx2 : rJ x2) (hW : W_X9_saysLine E k w1 x2 m γ t Q) : TV E (k + 1) 305 [.ref 158, .ref w1, .int (iI x2)] m γ t Q := by
  unfold W_X9_saysLine at hW
  intro h S
  refine wp_g (n := 4) (pc' := 5) (L' := [some (.ref 158), some (.ref w1), some (.int (iI x2)), some (.ref w1), some (.int (iI 0))]) (st' := []) rfl ?_
  exact hW (some (.ref w1)) _ S
theorem vc_X9_saysLine_5 {E : am_E} {k : Nat} {w1 : Nat} {x2 : Int} {y2 : Int} {y3 : Nat} {y4 : Int} {m : MM} {γ : GM} {t : am_H} {Q : MM → GM → am_H → Prop} (hw1 : isS w1) (hx2 : rJ x2) (hy2 : rJ y2) (hy3 : isS y3) (hy4 : rJ y4) (hW : W_X9_saysLine_5 E k w1 x2 y2 y3 y4 m γ t Q) : hd_X9_saysLine_5 E k w1 x2 y2 y3 y4 m γ t Q := by
  unfold W_X9_saysLine_5 at hW
  intro z1 h S
  refine wp_g (n := 2) (pc' := 8) (L' := [some (.ref 158), z1, some (.int (iI y2)), some (.ref y3), some (.int (iI y4))]) (st' := [.ref 158, .int (iI y4)]) rfl ?_
  refine wp_getf (v := .int (iI (m 158 6))) rfl rfl (S.cell 158 (nc rfl)) (by decide) rfl ?_
  have hr1 : rJ (m 158 6) := S.rg 158 6 (nl rfl)
  refine wp_icmpI (a := y4) (b := (m 158 6)) rfl rfl hy4.1 hy4.2 hr1.1 hr1.2 (fun c2 => ?_) (fun c2 => ?_)
  · have dc2 := (Int.not_lt.mpr c2)
    have hW := hW.2 dc2
    refine wp_g (n := 2) (pc' := 80) (L' := [some (.ref 158), z1, some (.int (iI y2)), some (.ref y3), some (.int (iI y4))]) (st' := [.int (iI y2), .ref 158]) rfl ?_
    refine wp_cv (As := [.int (iI y2)]) (rest := []) rfl rfl (S.cell 158 (nc rfl)) (by decide) rfl rfl rfl (Nat.le_of_ble_eq_true rfl) (Nat.le_of_ble_eq_true rfl) (hW _ S) (fun r3 H3 q3 => ?_)
    obtain ⟨v3, m3, γ3, t3, rfl, hv3, S, hW⟩ := q3
    show wp _ _ _ _ _ [.int (iI v3)] _ _
    refine wp_ifI (a := v3) rfl rfl hv3.1 hv3.2 (fun c4 => ?_) (fun c4 => ?_)
    · have dc4 := c4
      have hW := hW.1 dc4
      exact wp_vret rfl rfl ⟨_, _, _, rfl, S, hW⟩
    · have dc4 := c4
      have hW := hW.2 dc4
      refine wp_g (n := 2) (pc' := 90) (L' := [some (.ref 158), z1, some (.int (iI y2)), some (.ref y3), some (.int (iI y4))]) (st' := [.ref 1000040, .ref 158]) rfl ?_
      refine wp_cv (As := [.ref 1000040]) (rest := []) rfl rfl (S.cell 158 (nc rfl)) (by decide) rfl rfl rfl (Nat.le_of_ble_eq_true rfl) (Nat.le_of_ble_eq_true rfl) (hW _ S) (fun r5 H5 q5 => ?_)
      obtain ⟨m5, γ5, t5, rfl, S, hW⟩ := q5
      show wp _ _ _ _ _ [] _ _
      exact wp_vret rfl rfl ⟨_, _, _, rfl, S, hW⟩
  · have dc2 := (Int.not_le.mp c2)
    have hW := hW.1 dc2
    refine wp_g (n := 1) (pc' := 15) (L' := [some (.ref 158), z1, some (.int (iI y2)), some (.ref y3), some (.int (iI y4))]) (st' := [.ref 158]) rfl ?_
    refine wp_getf (v := .ref 162) rfl rfl (S.cell 158 (nc rfl)) (by decide) rfl ?_
    refine wp_g (n := 1) (pc' := 20) (L' := [some (.ref 158), z1, some (.int (iI y2)), some (.ref y3), some (.int (iI y4))]) (st' := [.int (iI y4), .ref 162]) rfl ?_
    obtain ⟨p6, hW⟩ := hW
    refine wp_iald (n := 24) (F := (m 162)) rfl (S.cell 162 (nc rfl)) (by decide) p6.1 p6.2 (by decide) ?_
    show wp _ _ _ _ _ [.int (iI (m 162 ((y4).toNat)))] _ _
    have hr7 : rJ (m 162 ((y4).toNat)) := S.rg 162 ((y4).toNat) (nl rfl)
    refine wp_g (n := 1) (pc' := 22) (L' := [some (.ref 158), z1, some (.int (iI y2)), some (.ref y3), some (.int (iI y4))]) (st' := [.int (iI y2), .int (iI (m 162 ((y4).toNat)))]) rfl ?_
    refine wp_icmpI (a := (m 162 ((y4).toNat))) (b := y2) rfl rfl hr7.1 hr7.2 hy2.1 hy2.2 (fun c8 => ?_) (fun c8 => ?_)
    · have dc8 := c8
      have hW := hW.1 dc8
      refine wp_g (n := 2) (pc' := 30) (L' := [some (.ref 158), z1, some (.int (iI y2)), some (.ref y3), some (.int (iI y4))]) (st' := [.ref y3, .ref 158]) rfl ?_
      refine wp_cv (As := [.ref y3]) (rest := []) rfl rfl (S.cell 158 (nc rfl)) (by decide) rfl rfl rfl (Nat.le_of_ble_eq_true rfl) (Nat.le_of_ble_eq_true rfl) (hW _ S) (fun r9 H9 q9 => ?_)
      obtain ⟨m9, γ9, t9, rfl, S, hW⟩ := q9
      show wp _ _ _ _ _ [] _ _
      refine wp_g (n := 4) (pc' := 39) (L' := [some (.ref 158), z1, some (.int (iI y2)), some (.ref 1000044), some (.int (iI y4))]) (st' := [.ref 158, .ref 158]) rfl ?_
      refine wp_getf (v := .ref 163) rfl rfl (S.cell 158 (nc rfl)) (by decide) rfl ?_
      refine wp_g (n := 1) (pc' := 44) (L' := [some (.ref 158), z1, some (.int (iI y2)), some (.ref 1000044), some (.int (iI y4))]) (st' := [.int (iI y4), .ref 163, .ref 158]) rfl ?_
      obtain ⟨p10, hW⟩ := hW
      refine wp_iald (n := 24) (F := (m9 163)) rfl (S.cell 163 (nc rfl)) (by decide) p10.1 p10.2 (by decide) ?_
      show wp _ _ _ _ _ [.int (iI (m9 163 ((y4).toNat))), .ref 158] _ _
      have hr11 : rJ (m9 163 ((y4).toNat)) := S.rg 163 ((y4).toNat) (nl rfl)
      refine wp_cv (As := [.int (iI (m9 163 ((y4).toNat)))]) (rest := []) rfl rfl (S.cell 158 (nc rfl)) (by decide) rfl rfl rfl (Nat.le_of_ble_eq_true rfl) (Nat.le_of_ble_eq_true rfl) (hW _ S) (fun r12 H12 q12 => ?_)
      obtain ⟨m12, γ12, t12, rfl, S, hW⟩ := q12
      show wp _ _ _ _ _ [] _ _
      refine wp_g (n := 2) (pc' := 50) (L' := [some (.ref 158), z1, some (.int (iI y2)), some (.ref 1000044), some (.int (iI y4))]) (st' := [.ref 158, .ref 158]) rfl ?_
      refine wp_getf (v := .ref 164) rfl rfl (S.cell 158 (nc rfl)) (by decide) rfl ?_
      refine wp_g (n := 1) (pc' := 55) (L' := [some (.ref 158), z1, some (.int (iI y2)), some (.ref 1000044), some (.int (iI y4))]) (st' := [.int (iI y4), .ref 164, .ref 158]) rfl ?_
      obtain ⟨p13, hW⟩ := hW
      refine wp_iald (n := 24) (F := (m12 164)) rfl (S.cell 164 (nc rfl)) (by decide) p13.1 p13.2 (by decide) ?_
      show wp _ _ _ _ _ [.int (iI (m12 164 ((y4).toNat))), .ref 158] _ _
      have hr14 : rJ (m12 164 ((y4).toNat)) := S.rg 164 ((y4).toNat) (nl rfl)
      refine wp_g (n := 1) (pc' := 57) (L' := [some (.ref 158), z1, some (.int (iI y2)), some (.ref 1000044), some (.int (iI y4))]) (st' := [.int (iI 1), .int (iI (m12 164 ((y4).toNat))), .ref 158]) rfl ?_
      refine wp_icmpI (a := (m12 164 ((y4).toNat))) (b := 1) rfl rfl hr14.1 hr14.2 (by decide) (by decide) (fun c15 => ?_) (fun c15 => ?_)
      · have dc15 := c15
        have hW := hW.2 dc15
        refine wp_g (n := 1) (pc' := 69) (L' := [some (.ref 158), z1, some (.int (iI y2)), some (.ref 1000044), some (.int (iI y4))]) (st' := [.ref 1000048, .ref 158]) rfl ?_
        refine wp_cv (As := [.ref 1000048]) (rest := []) rfl rfl (S.cell 158 (nc rfl)) (by decide) rfl rfl rfl (Nat.le_of_ble_eq_true rfl) (Nat.le_of_ble_eq_true rfl) (hW _ S) (fun r16 H16 q16 => ?_)
        obtain ⟨m16, γ16, t16, rfl, S, hW⟩ := q16
        show wp _ _ _ _ _ [] _ _
        refine wp_iinc (L' := [some (.ref 158), z1, some (.int (iI y2)), some (.ref 1000044), some (.int (iI (y4 + 1)))]) (a := y4) rfl rfl rfl ?_
        refine wp_g (n := 1) (pc' := 5) (L' := [some (.ref 158), z1, some (.int (iI y2)), some (.ref 1000044), some (.int (iI (y4 + 1)))]) (st' := []) rfl ?_
        exact hW z1 _ S
      · have dc15 := (Classical.not_not.mp c15)
        have hW := hW.1 dc15
        refine wp_g (n := 2) (pc' := 69) (L' := [some (.ref 158), z1, some (.int (iI y2)), some (.ref 1000044), some (.int (iI y4))]) (st' := [.ref 1000046, .ref 158]) rfl ?_
        refine wp_cv (As := [.ref 1000046]) (rest := []) rfl rfl (S.cell 158 (nc rfl)) (by decide) rfl rfl rfl (Nat.le_of_ble_eq_true rfl) (Nat.le_of_ble_eq_true rfl) (hW _ S) (fun r17 H17 q17 => ?_)
        obtain ⟨m17, γ17, t17, rfl, S, hW⟩ := q17
        show wp _ _ _ _ _ [] _ _
        refine wp_iinc (L' := [some (.ref 158), z1, some (.int (iI y2)), some (.ref 1000044), some (.int (iI (y4 + 1)))]) (a := y4) rfl rfl rfl ?_
        refine wp_g (n := 1) (pc' := 5) (L' := [some (.ref 158), z1, some (.int (iI y2)), some (.ref 1000044), some (.int (iI (y4 + 1)))]) (st' := []) rfl ?_
        exact hW z1 _ S
    · have dc8 := c8
      have hW := hW.2 dc8
      refine wp_g (n := 1) (pc' := 72) (L' := [some (.ref 158), z1, some (.int (iI y2)), some (.ref y3), some (.int (iI y4))]) (st' := []) rfl ?_
      refine wp_iinc (L' := [some (.ref 158), z1, some (.int (iI y2)), some (.ref y3), some (.int (iI (y4 + 1)))]) (a := y4) rfl rfl rfl ?_
      refine wp_g (n := 1) (pc' := 5) (L' := [some (.ref 158), z1, some (.int (iI y2)), some (.ref y3), some (.int (iI (y4 + 1)))]) (st' := []) rfl ?_
      exact hW z1 _ S
def hd_X9_saysPaint_2 (E : am_E) (k : Nat) (y1 : Int) (m : MM) (γ : GM) (t : am_H) (Q : MM → GM → am_H → Prop) : Prop := ∀ (z2 z3 : Option Value), TT (pV Q) E k 306 2 [some (.ref 158), some (.int (iI y1)), z2, z3] [] m γ t
def hd_X9_saysPaint_14 (E : am_E) (k : Nat) (y1 : Int) (y2 : Int) (m : MM) (γ : GM) (t : am_H) (Q : MM → GM → am_H → Prop) : Prop := ∀ (z3 : Option Value), TT (pV Q) E k 306 14 [some (.ref 158), some (.int (iI y1)), some (.int (iI y2)), z3] [] m γ t
abbrev W_X9_saysPaint (E : am_E) (k : Nat) (m : MM) (γ : GM) (t : am_H) (Q : MM → GM → am_H → Prop) : Prop := (hd_X9_saysPaint_2 E k 0 m γ t Q)
abbrev W_X9_saysPaint_2 (E : am_E) (k : Nat) (y1 : Int) (m : MM) (γ : GM) (t : am_H) (Q : MM → GM → am_H → Prop) : Prop := (rJ (2 * (m 158 4)) ∧ (((y1 < (2 * (m 158 4))) → (hd_X9_saysPaint_14 E k y1 0 m γ t Q)) ∧ (¬ (y1 < (2 * (m 158 4))) → (Q m γ t))))
abbrev W_X9_saysPaint_14 (E : am_E) (k : Nat) (y1 : Int) (y2 : Int) (m : MM) (γ : GM) (t : am_H) (Q : MM → GM → am_H → Prop) : Prop := (rJ (2 * (m 158 5)) ∧ (((y2 < (2 * (m 158 5))) → (0 ≤ y1 ∧ ((((y1 % 2) = 0) → (0 ≤ y2 ∧ ((((y2 % 2) = 0) → (0 ≤ y1 ∧ (0 ≤ y2 ∧ ((0 ≤ ((4 * (((y1 / 2) * (m 158 5)) + (y2 / 2))) + 3) ∧ ((4 * (((y1 / 2) * (m 158 5)) + (y2 / 2))) + 3) < 64) ∧ (0 ≤ (m 167 ((((4 * (((y1 / 2) * (m 158 5)) + (y2 / 2))) + 3)).toNat)) ∧ ((0 ≤ (m 158 53) ∧ (m 158 53) < 1000) ∧ (rJ (48 + ((m 167 ((((4 * (((y1 / 2) * (m 158 5)) + (y2 / 2))) + 3)).toNat)) % 2)) ∧ (rJ ((m 158 53) + 1) ∧ (hd_X9_saysPaint_14 E k y1 (y2 + 1) (up (up m 194 (up (m 194) (((m 158 53)).toNat) (48 + ((m 167 ((((4 * (((y1 / 2) * (m 158 5)) + (y2 / 2))) + 3)).toNat)) % 2)))) 158 (up (m 158) 53 ((m 158 53) + 1))) γ t Q))))))))) ∧ (¬ ((y2 % 2) = 0) → (0 ≤ y1 ∧ (0 ≤ y2 ∧ ((0 ≤ ((4 * (((y1 / 2) * (m 158 5)) + (y2 / 2))) + 0) ∧ ((4 * (((y1 / 2) * (m 158 5)) + (y2 / 2))) + 0) < 64) ∧ (0 ≤ (m 167 ((((4 * (((y1 / 2) * (m 158 5)) + (y2 / 2))) + 0)).toNat)) ∧ ((0 ≤ (m 158 53) ∧ (m 158 53) < 1000) ∧ (rJ (48 + ((m 167 ((((4 * (((y1 / 2) * (m 158 5)) + (y2 / 2))) + 0)).toNat)) % 2)) ∧ (rJ ((m 158 53) + 1) ∧ (hd_X9_saysPaint_14 E k y1 (y2 + 1) (up (up m 194 (up (m 194) (((m 158 53)).toNat) (48 + ((m 167 ((((4 * (((y1 / 2) * (m 158 5)) + (y2 / 2))) + 0)).toNat)) % 2)))) 158 (up (m 158) 53 ((m 158 53) + 1))) γ t Q)))))))))))) ∧ (¬ ((y1 % 2) = 0) → (0 ≤ y2 ∧ ((((y2 % 2) = 0) → (0 ≤ y1 ∧ (0 ≤ y2 ∧ ((0 ≤ ((4 * (((y1 / 2) * (m 158 5)) + (y2 / 2))) + 2) ∧ ((4 * (((y1 / 2) * (m 158 5)) + (y2 / 2))) + 2) < 64) ∧ (0 ≤ (m 167 ((((4 * (((y1 / 2) * (m 158 5)) + (y2 / 2))) + 2)).toNat)) ∧ ((0 ≤ (m 158 53) ∧ (m 158 53) < 1000) ∧ (rJ (48 + ((m 167 ((((4 * (((y1 / 2) * (m 158 5)) + (y2 / 2))) + 2)).toNat)) % 2)) ∧ (rJ ((m 158 53) + 1) ∧ (hd_X9_saysPaint_14 E k y1 (y2 + 1) (up (up m 194 (up (m 194) (((m 158 53)).toNat) (48 + ((m 167 ((((4 * (((y1 / 2) * (m 158 5)) + (y2 / 2))) + 2)).toNat)) % 2)))) 158 (up (m 158) 53 ((m 158 53) + 1))) γ t Q))))))))) ∧ (¬ ((y2 % 2) = 0) → (0 ≤ y1 ∧ (0 ≤ y2 ∧ ((0 ≤ ((4 * (((y1 / 2) * (m 158 5)) + (y2 / 2))) + 1) ∧ ((4 * (((y1 / 2) * (m 158 5)) + (y2 / 2))) + 1) < 64) ∧ (0 ≤ (m 167 ((((4 * (((y1 / 2) * (m 158 5)) + (y2 / 2))) + 1)).toNat)) ∧ ((0 ≤ (m 158 53) ∧ (m 158 53) < 1000) ∧ (rJ (48 + ((m 167 ((((4 * (((y1 / 2) * (m 158 5)) + (y2 / 2))) + 1)).toNat)) % 2)) ∧ (rJ ((m 158 53) + 1) ∧ (hd_X9_saysPaint_14 E k y1 (y2 + 1) (up (up m 194 (up (m 194) (((m 158 53)).toNat) (48 + ((m 167 ((((4 * (((y1 / 2) * (m 158 5)) + (y2 / 2))) + 1)).toNat)) % 2)))) 158 (up (m 158) 53 ((m 158 53) + 1))) γ t Q))))))))))))))) ∧ (¬ (y2 < (2 * (m 158 5))) → ((0 ≤ (m 158 53) ∧ (m 158 53) < 1000) ∧ (rJ ((m 158 53) + 1) ∧ (hd_X9_saysPaint_2 E k (y1 + 1) (up (up m 194 (up (m 194) (((m 158 53)).toNat) 10)) 158 (up (m 158) 53 ((m 158 53) + 1))) γ t Q))))))
theorem vc_X9_saysPaint {E : am_E} {k : Nat} {m : MM} {γ : GM} {t : am_H} {Q : MM → GM → am_H → Prop} (hW : W_X9_saysPaint E k  m γ t Q) : TV E k 306 [.ref 158] m γ t Q := by
  unfold W_X9_saysPaint at hW
  intro h S
  refine wp_g (n := 2) (pc' := 2) (L' := [some (.ref 158), some (.int (iI 0)), none, none]) (st' := []) rfl ?_
  exact hW none none _ S
theorem vc_X9_saysPaint_2 {E : am_E} {k : Nat} {y1 : Int} {m : MM} {γ : GM} {t : am_H} {Q : MM → GM → am_H → Prop} (hy1 : rJ y1) (hW : W_X9_saysPaint_2 E k y1 m γ t Q) : hd_X9_saysPaint_2 E k y1 m γ t Q := by
  unfold W_X9_saysPaint_2 at hW
  intro z2 z3 h S
  refine wp_g (n := 3) (pc' := 5) (L' := [some (.ref 158), some (.int (iI y1)), z2, z3]) (st' := [.ref 158, .int (iI 2), .int (iI y1)]) rfl ?_
  refine wp_getf (v := .int (iI (m 158 4))) rfl rfl (S.cell 158 (nc rfl)) (by decide) rfl ?_
  have hr1 : rJ (m 158 4) := S.rg 158 4 (nl rfl)
  refine wp_mul (a := 2) (b := (m 158 4)) rfl ?_
  obtain ⟨p2, hW⟩ := hW
  refine wp_icmpI (a := y1) (b := (2 * (m 158 4))) rfl rfl hy1.1 hy1.2 p2.1 p2.2 (fun c3 => ?_) (fun c3 => ?_)
  · have dc3 := (Int.not_lt.mpr c3)
    have hW := hW.2 dc3
    exact wp_vret rfl rfl ⟨_, _, _, rfl, S, hW⟩
  · have dc3 := (Int.not_le.mp c3)
    have hW := hW.1 dc3
    refine wp_g (n := 2) (pc' := 14) (L' := [some (.ref 158), some (.int (iI y1)), some (.int (iI 0)), z3]) (st' := []) rfl ?_
    exact hW z3 _ S
theorem vc_X9_saysPaint_14 {E : am_E} {k : Nat} {y1 : Int} {y2 : Int} {m : MM} {γ : GM} {t : am_H} {Q : MM → GM → am_H → Prop} (hy1 : rJ y1) (hy2 : rJ y2) (hW : W_X9_saysPaint_14 E k y1 y2 m γ t Q) : hd_X9_saysPaint_14 E k y1 y2 m γ t Q := by
  unfold W_X9_saysPaint_14 at hW
  intro z3 h S
  refine wp_g (n := 3) (pc' := 17) (L' := [some (.ref 158), some (.int (iI y1)), some (.int (iI y2)), z3]) (st' := [.ref 158, .int (iI 2), .int (iI y2)]) rfl ?_
  refine wp_getf (v := .int (iI (m 158 5))) rfl rfl (S.cell 158 (nc rfl)) (by decide) rfl ?_
  have hr1 : rJ (m 158 5) := S.rg 158 5 (nl rfl)
  refine wp_mul (a := 2) (b := (m 158 5)) rfl ?_
  obtain ⟨p2, hW⟩ := hW
  refine wp_icmpI (a := y2) (b := (2 * (m 158 5))) rfl rfl hy2.1 hy2.2 p2.1 p2.2 (fun c3 => ?_) (fun c3 => ?_)
  · have dc3 := (Int.not_lt.mpr c3)
    have hW := hW.2 dc3
    refine wp_g (n := 1) (pc' := 108) (L' := [some (.ref 158), some (.int (iI y1)), some (.int (iI y2)), z3]) (st' := [.ref 158]) rfl ?_
    refine wp_getf (v := .ref 194) rfl rfl (S.cell 158 (nc rfl)) (by decide) rfl ?_
    refine wp_g (n := 1) (pc' := 112) (L' := [some (.ref 158), some (.int (iI y1)), some (.int (iI y2)), z3]) (st' := [.ref 158, .ref 194]) rfl ?_
    refine wp_getf (v := .int (iI (m 158 53))) rfl rfl (S.cell 158 (nc rfl)) (by decide) rfl ?_
    have hr4 : rJ (m 158 53) := S.rg 158 53 (nl rfl)
    refine wp_g (n := 1) (pc' := 117) (L' := [some (.ref 158), some (.int (iI y1)), some (.int (iI y2)), z3]) (st' := [.int (iI 10), .int (iI (m 158 53)), .ref 194]) rfl ?_
    obtain ⟨p6, hW⟩ := hW
    refine wp_iasF (n := 1000) (F := (m 194)) (y := 10) rfl (S.cell 194 (nc rfl)) p6.1 p6.2 (by decide) (fun H5 hl5 hz5 hf5 => ?_)
    have S : ST H5 (up m 194 (up (m 194) (((m 158 53)).toNat) 10)) γ t := S.setI 194 (nc rfl) hl5 hz5 hf5 (by decide) (by decide)
    refine wp_g (n := 2) (pc' := 120) (L' := [some (.ref 158), some (.int (iI y1)), some (.int (iI y2)), z3]) (st' := [.ref 158, .ref 158]) rfl ?_
    refine wp_getf (v := .int (iI (m 158 53))) rfl rfl (S.cell 158 (nc rfl)) (by decide) rfl ?_
    refine wp_g (n := 1) (pc' := 124) (L' := [some (.ref 158), some (.int (iI y1)), some (.int (iI y2)), z3]) (st' := [.int (iI 1), .int (iI (m 158 53)), .ref 158]) rfl ?_
    refine wp_add (a := (m 158 53)) (b := 1) rfl ?_
    obtain ⟨p8, hW⟩ := hW
    refine wp_putI rfl rfl (S.cell 158 (nc rfl)) (Nat.le_of_ble_eq_true rfl) rfl (fun H7 hl7 hz7 hf7 => ?_)
    have S : ST H7 (up (up m 194 (up (m 194) (((m 158 53)).toNat) 10)) 158 (up (m 158) 53 ((m 158 53) + 1))) γ t := S.setI 158 (nc rfl) hl7 hz7 hf7 p8.1 p8.2
    refine wp_iinc (L' := [some (.ref 158), some (.int (iI (y1 + 1))), some (.int (iI y2)), z3]) (a := y1) rfl rfl rfl ?_
    refine wp_g (n := 1) (pc' := 2) (L' := [some (.ref 158), some (.int (iI (y1 + 1))), some (.int (iI y2)), z3]) (st' := []) rfl ?_
    exact hW (some (.int (iI y2))) z3 _ S
  · have dc3 := (Int.not_le.mp c3)
    have hW := hW.1 dc3
    refine wp_g (n := 2) (pc' := 26) (L' := [some (.ref 158), some (.int (iI y1)), some (.int (iI y2)), z3]) (st' := [.int (iI 2), .int (iI y1)]) rfl ?_
    obtain ⟨p9, hW⟩ := hW
    refine wp_rem (a := y1) (b := 2) rfl p9 hy1.2 (by decide) (by decide) ?_
    have hr10 : rJ (y1 % 2) := by omega
    refine wp_ifI (a := (y1 % 2)) rfl rfl hr10.1 hr10.2 (fun c11 => ?_) (fun c11 => ?_)
    · have dc11 := c11
      have hW := hW.2 dc11
      refine wp_g (n := 2) (pc' := 46) (L' := [some (.ref 158), some (.int (iI y1)), some (.int (iI y2)), z3]) (st' := [.int (iI 2), .int (iI y2)]) rfl ?_
      obtain ⟨p12, hW⟩ := hW
      refine wp_rem (a := y2) (b := 2) rfl p12 hy2.2 (by decide) (by decide) ?_
      have hr13 : rJ (y2 % 2) := by omega
      refine wp_ifI (a := (y2 % 2)) rfl rfl hr13.1 hr13.2 (fun c14 => ?_) (fun c14 => ?_)
      · have dc14 := c14
        have hW := hW.2 dc14
        refine wp_g (n := 3) (pc' := 57) (L' := [some (.ref 158), some (.int (iI y1)), some (.int (iI y2)), some (.int (iI 1))]) (st' := [.ref 158]) rfl ?_
        refine wp_getf (v := .ref 194) rfl rfl (S.cell 158 (nc rfl)) (by decide) rfl ?_
        refine wp_g (n := 1) (pc' := 61) (L' := [some (.ref 158), some (.int (iI y1)), some (.int (iI y2)), some (.int (iI 1))]) (st' := [.ref 158, .ref 194]) rfl ?_
        refine wp_getf (v := .int (iI (m 158 53))) rfl rfl (S.cell 158 (nc rfl)) (by decide) rfl ?_
        have hr15 : rJ (m 158 53) := S.rg 158 53 (nl rfl)
        refine wp_g (n := 2) (pc' := 67) (L' := [some (.ref 158), some (.int (iI y1)), some (.int (iI y2)), some (.int (iI 1))]) (st' := [.ref 158, .int (iI 48), .int (iI (m 158 53)), .ref 194]) rfl ?_
        refine wp_getf (v := .ref 167) rfl rfl (S.cell 158 (nc rfl)) (by decide) rfl ?_
        refine wp_g (n := 3) (pc' := 73) (L' := [some (.ref 158), some (.int (iI y1)), some (.int (iI y2)), some (.int (iI 1))]) (st' := [.int (iI 2), .int (iI y1), .int (iI 4), .ref 167, .int (iI 48), .int (iI (m 158 53)), .ref 194]) rfl ?_
        obtain ⟨p16, hW⟩ := hW
        refine wp_div (a := y1) (b := 2) rfl p16 hy1.2 (by decide) (by decide) ?_
        have hr17 : rJ (y1 / 2) := by have := hy1; omega
        refine wp_g (n := 1) (pc' := 75) (L' := [some (.ref 158), some (.int (iI y1)), some (.int (iI y2)), some (.int (iI 1))]) (st' := [.ref 158, .int (iI (y1 / 2)), .int (iI 4), .ref 167, .int (iI 48), .int (iI (m 158 53)), .ref 194]) rfl ?_
        refine wp_getf (v := .int (iI (m 158 5))) rfl rfl (S.cell 158 (nc rfl)) (by decide) rfl ?_
        refine wp_mul (a := (y1 / 2)) (b := (m 158 5)) rfl ?_
        refine wp_g (n := 2) (pc' := 81) (L' := [some (.ref 158), some (.int (iI y1)), some (.int (iI y2)), some (.int (iI 1))]) (st' := [.int (iI 2), .int (iI y2), .int (iI ((y1 / 2) * (m 158 5))), .int (iI 4), .ref 167, .int (iI 48), .int (iI (m 158 53)), .ref 194]) rfl ?_
        obtain ⟨p18, hW⟩ := hW
        refine wp_div (a := y2) (b := 2) rfl p18 hy2.2 (by decide) (by decide) ?_
        have hr19 : rJ (y2 / 2) := by have := hy2; omega
        refine wp_add (a := ((y1 / 2) * (m 158 5))) (b := (y2 / 2)) rfl ?_
        refine wp_mul (a := 4) (b := (((y1 / 2) * (m 158 5)) + (y2 / 2))) rfl ?_
        refine wp_g (n := 1) (pc' := 85) (L' := [some (.ref 158), some (.int (iI y1)), some (.int (iI y2)), some (.int (iI 1))]) (st' := [.int (iI 1), .int (iI (4 * (((y1 / 2) * (m 158 5)) + (y2 / 2)))), .ref 167, .int (iI 48), .int (iI (m 158 53)), .ref 194]) rfl ?_
        refine wp_add (a := (4 * (((y1 / 2) * (m 158 5)) + (y2 / 2)))) (b := 1) rfl ?_
        obtain ⟨p20, hW⟩ := hW
        refine wp_iald (n := 64) (F := (m 167)) rfl (S.cell 167 (nc rfl)) (by decide) p20.1 p20.2 (by decide) ?_
        show wp _ _ _ _ _ [.int (iI (m 167 ((((4 * (((y1 / 2) * (m 158 5)) + (y2 / 2))) + 1)).toNat))), .int (iI 48), .int (iI (m 158 53)), .ref 194] _ _
        have hr21 : rJ (m 167 ((((4 * (((y1 / 2) * (m 158 5)) + (y2 / 2))) + 1)).toNat)) := S.rg 167 ((((4 * (((y1 / 2) * (m 158 5)) + (y2 / 2))) + 1)).toNat) (nl rfl)
        refine wp_g (n := 1) (pc' := 88) (L' := [some (.ref 158), some (.int (iI y1)), some (.int (iI y2)), some (.int (iI 1))]) (st' := [.int (iI 2), .int (iI (m 167 ((((4 * (((y1 / 2) * (m 158 5)) + (y2 / 2))) + 1)).toNat))), .int (iI 48), .int (iI (m 158 53)), .ref 194]) rfl ?_
        obtain ⟨p22, hW⟩ := hW
        refine wp_rem (a := (m 167 ((((4 * (((y1 / 2) * (m 158 5)) + (y2 / 2))) + 1)).toNat))) (b := 2) rfl p22 hr21.2 (by decide) (by decide) ?_
        have hr23 : rJ ((m 167 ((((4 * (((y1 / 2) * (m 158 5)) + (y2 / 2))) + 1)).toNat)) % 2) := by omega
        refine wp_add (a := 48) (b := ((m 167 ((((4 * (((y1 / 2) * (m 158 5)) + (y2 / 2))) + 1)).toNat)) % 2)) rfl ?_
        obtain ⟨p25, hW⟩ := hW
        obtain ⟨p26, hW⟩ := hW
        refine wp_iasF (n := 1000) (F := (m 194)) (y := (48 + ((m 167 ((((4 * (((y1 / 2) * (m 158 5)) + (y2 / 2))) + 1)).toNat)) % 2))) rfl (S.cell 194 (nc rfl)) p25.1 p25.2 (by decide) (fun H24 hl24 hz24 hf24 => ?_)
        have S : ST H24 (up m 194 (up (m 194) (((m 158 53)).toNat) (48 + ((m 167 ((((4 * (((y1 / 2) * (m 158 5)) + (y2 / 2))) + 1)).toNat)) % 2)))) γ t := S.setI 194 (nc rfl) hl24 hz24 hf24 p26.1 p26.2
        refine wp_g (n := 2) (pc' := 93) (L' := [some (.ref 158), some (.int (iI y1)), some (.int (iI y2)), some (.int (iI 1))]) (st' := [.ref 158, .ref 158]) rfl ?_
        refine wp_getf (v := .int (iI (m 158 53))) rfl rfl (S.cell 158 (nc rfl)) (by decide) rfl ?_
        refine wp_g (n := 1) (pc' := 97) (L' := [some (.ref 158), some (.int (iI y1)), some (.int (iI y2)), some (.int (iI 1))]) (st' := [.int (iI 1), .int (iI (m 158 53)), .ref 158]) rfl ?_
        refine wp_add (a := (m 158 53)) (b := 1) rfl ?_
        obtain ⟨p28, hW⟩ := hW
        refine wp_putI rfl rfl (S.cell 158 (nc rfl)) (Nat.le_of_ble_eq_true rfl) rfl (fun H27 hl27 hz27 hf27 => ?_)
        have S : ST H27 (up (up m 194 (up (m 194) (((m 158 53)).toNat) (48 + ((m 167 ((((4 * (((y1 / 2) * (m 158 5)) + (y2 / 2))) + 1)).toNat)) % 2)))) 158 (up (m 158) 53 ((m 158 53) + 1))) γ t := S.setI 158 (nc rfl) hl27 hz27 hf27 p28.1 p28.2
        refine wp_iinc (L' := [some (.ref 158), some (.int (iI y1)), some (.int (iI (y2 + 1))), some (.int (iI 1))]) (a := y2) rfl rfl rfl ?_
        refine wp_g (n := 1) (pc' := 14) (L' := [some (.ref 158), some (.int (iI y1)), some (.int (iI (y2 + 1))), some (.int (iI 1))]) (st' := []) rfl ?_
        exact hW (some (.int (iI 1))) _ S
      · have dc14 := (Classical.not_not.mp c14)
        have hW := hW.1 dc14
        refine wp_g (n := 4) (pc' := 57) (L' := [some (.ref 158), some (.int (iI y1)), some (.int (iI y2)), some (.int (iI 2))]) (st' := [.ref 158]) rfl ?_
        refine wp_getf (v := .ref 194) rfl rfl (S.cell 158 (nc rfl)) (by decide) rfl ?_
        refine wp_g (n := 1) (pc' := 61) (L' := [some (.ref 158), some (.int (iI y1)), some (.int (iI y2)), some (.int (iI 2))]) (st' := [.ref 158, .ref 194]) rfl ?_
        refine wp_getf (v := .int (iI (m 158 53))) rfl rfl (S.cell 158 (nc rfl)) (by decide) rfl ?_
        have hr29 : rJ (m 158 53) := S.rg 158 53 (nl rfl)
        refine wp_g (n := 2) (pc' := 67) (L' := [some (.ref 158), some (.int (iI y1)), some (.int (iI y2)), some (.int (iI 2))]) (st' := [.ref 158, .int (iI 48), .int (iI (m 158 53)), .ref 194]) rfl ?_
        refine wp_getf (v := .ref 167) rfl rfl (S.cell 158 (nc rfl)) (by decide) rfl ?_
        refine wp_g (n := 3) (pc' := 73) (L' := [some (.ref 158), some (.int (iI y1)), some (.int (iI y2)), some (.int (iI 2))]) (st' := [.int (iI 2), .int (iI y1), .int (iI 4), .ref 167, .int (iI 48), .int (iI (m 158 53)), .ref 194]) rfl ?_
        obtain ⟨p30, hW⟩ := hW
        refine wp_div (a := y1) (b := 2) rfl p30 hy1.2 (by decide) (by decide) ?_
        have hr31 : rJ (y1 / 2) := by have := hy1; omega
        refine wp_g (n := 1) (pc' := 75) (L' := [some (.ref 158), some (.int (iI y1)), some (.int (iI y2)), some (.int (iI 2))]) (st' := [.ref 158, .int (iI (y1 / 2)), .int (iI 4), .ref 167, .int (iI 48), .int (iI (m 158 53)), .ref 194]) rfl ?_
        refine wp_getf (v := .int (iI (m 158 5))) rfl rfl (S.cell 158 (nc rfl)) (by decide) rfl ?_
        refine wp_mul (a := (y1 / 2)) (b := (m 158 5)) rfl ?_
        refine wp_g (n := 2) (pc' := 81) (L' := [some (.ref 158), some (.int (iI y1)), some (.int (iI y2)), some (.int (iI 2))]) (st' := [.int (iI 2), .int (iI y2), .int (iI ((y1 / 2) * (m 158 5))), .int (iI 4), .ref 167, .int (iI 48), .int (iI (m 158 53)), .ref 194]) rfl ?_
        obtain ⟨p32, hW⟩ := hW
        refine wp_div (a := y2) (b := 2) rfl p32 hy2.2 (by decide) (by decide) ?_
        have hr33 : rJ (y2 / 2) := by have := hy2; omega
        refine wp_add (a := ((y1 / 2) * (m 158 5))) (b := (y2 / 2)) rfl ?_
        refine wp_mul (a := 4) (b := (((y1 / 2) * (m 158 5)) + (y2 / 2))) rfl ?_
        refine wp_g (n := 1) (pc' := 85) (L' := [some (.ref 158), some (.int (iI y1)), some (.int (iI y2)), some (.int (iI 2))]) (st' := [.int (iI 2), .int (iI (4 * (((y1 / 2) * (m 158 5)) + (y2 / 2)))), .ref 167, .int (iI 48), .int (iI (m 158 53)), .ref 194]) rfl ?_
        refine wp_add (a := (4 * (((y1 / 2) * (m 158 5)) + (y2 / 2)))) (b := 2) rfl ?_
        obtain ⟨p34, hW⟩ := hW
        refine wp_iald (n := 64) (F := (m 167)) rfl (S.cell 167 (nc rfl)) (by decide) p34.1 p34.2 (by decide) ?_
        show wp _ _ _ _ _ [.int (iI (m 167 ((((4 * (((y1 / 2) * (m 158 5)) + (y2 / 2))) + 2)).toNat))), .int (iI 48), .int (iI (m 158 53)), .ref 194] _ _
        have hr35 : rJ (m 167 ((((4 * (((y1 / 2) * (m 158 5)) + (y2 / 2))) + 2)).toNat)) := S.rg 167 ((((4 * (((y1 / 2) * (m 158 5)) + (y2 / 2))) + 2)).toNat) (nl rfl)
        refine wp_g (n := 1) (pc' := 88) (L' := [some (.ref 158), some (.int (iI y1)), some (.int (iI y2)), some (.int (iI 2))]) (st' := [.int (iI 2), .int (iI (m 167 ((((4 * (((y1 / 2) * (m 158 5)) + (y2 / 2))) + 2)).toNat))), .int (iI 48), .int (iI (m 158 53)), .ref 194]) rfl ?_
        obtain ⟨p36, hW⟩ := hW
        refine wp_rem (a := (m 167 ((((4 * (((y1 / 2) * (m 158 5)) + (y2 / 2))) + 2)).toNat))) (b := 2) rfl p36 hr35.2 (by decide) (by decide) ?_
        have hr37 : rJ ((m 167 ((((4 * (((y1 / 2) * (m 158 5)) + (y2 / 2))) + 2)).toNat)) % 2) := by omega
        refine wp_add (a := 48) (b := ((m 167 ((((4 * (((y1 / 2) * (m 158 5)) + (y2 / 2))) + 2)).toNat)) % 2)) rfl ?_
        obtain ⟨p39, hW⟩ := hW
        obtain ⟨p40, hW⟩ := hW
        refine wp_iasF (n := 1000) (F := (m 194)) (y := (48 + ((m 167 ((((4 * (((y1 / 2) * (m 158 5)) + (y2 / 2))) + 2)).toNat)) % 2))) rfl (S.cell 194 (nc rfl)) p39.1 p39.2 (by decide) (fun H38 hl38 hz38 hf38 => ?_)
        have S : ST H38 (up m 194 (up (m 194) (((m 158 53)).toNat) (48 + ((m 167 ((((4 * (((y1 / 2) * (m 158 5)) + (y2 / 2))) + 2)).toNat)) % 2)))) γ t := S.setI 194 (nc rfl) hl38 hz38 hf38 p40.1 p40.2
        refine wp_g (n := 2) (pc' := 93) (L' := [some (.ref 158), some (.int (iI y1)), some (.int (iI y2)), some (.int (iI 2))]) (st' := [.ref 158, .ref 158]) rfl ?_
        refine wp_getf (v := .int (iI (m 158 53))) rfl rfl (S.cell 158 (nc rfl)) (by decide) rfl ?_
        refine wp_g (n := 1) (pc' := 97) (L' := [some (.ref 158), some (.int (iI y1)), some (.int (iI y2)), some (.int (iI 2))]) (st' := [.int (iI 1), .int (iI (m 158 53)), .ref 158]) rfl ?_
        refine wp_add (a := (m 158 53)) (b := 1) rfl ?_
        obtain ⟨p42, hW⟩ := hW
        refine wp_putI rfl rfl (S.cell 158 (nc rfl)) (Nat.le_of_ble_eq_true rfl) rfl (fun H41 hl41 hz41 hf41 => ?_)
        have S : ST H41 (up (up m 194 (up (m 194) (((m 158 53)).toNat) (48 + ((m 167 ((((4 * (((y1 / 2) * (m 158 5)) + (y2 / 2))) + 2)).toNat)) % 2)))) 158 (up (m 158) 53 ((m 158 53) + 1))) γ t := S.setI 158 (nc rfl) hl41 hz41 hf41 p42.1 p42.2
        refine wp_iinc (L' := [some (.ref 158), some (.int (iI y1)), some (.int (iI (y2 + 1))), some (.int (iI 2))]) (a := y2) rfl rfl rfl ?_
        refine wp_g (n := 1) (pc' := 14) (L' := [some (.ref 158), some (.int (iI y1)), some (.int (iI (y2 + 1))), some (.int (iI 2))]) (st' := []) rfl ?_
        exact hW (some (.int (iI 2))) _ S
    · have dc11 := (Classical.not_not.mp c11)
      have hW := hW.1 dc11
      refine wp_g (n := 2) (pc' := 32) (L' := [some (.ref 158), some (.int (iI y1)), some (.int (iI y2)), z3]) (st' := [.int (iI 2), .int (iI y2)]) rfl ?_
      obtain ⟨p43, hW⟩ := hW
      refine wp_rem (a := y2) (b := 2) rfl p43 hy2.2 (by decide) (by decide) ?_
      have hr44 : rJ (y2 % 2) := by omega
      refine wp_ifI (a := (y2 % 2)) rfl rfl hr44.1 hr44.2 (fun c45 => ?_) (fun c45 => ?_)
      · have dc45 := c45
        have hW := hW.2 dc45
        refine wp_g (n := 4) (pc' := 57) (L' := [some (.ref 158), some (.int (iI y1)), some (.int (iI y2)), some (.int (iI 0))]) (st' := [.ref 158]) rfl ?_
        refine wp_getf (v := .ref 194) rfl rfl (S.cell 158 (nc rfl)) (by decide) rfl ?_
        refine wp_g (n := 1) (pc' := 61) (L' := [some (.ref 158), some (.int (iI y1)), some (.int (iI y2)), some (.int (iI 0))]) (st' := [.ref 158, .ref 194]) rfl ?_
        refine wp_getf (v := .int (iI (m 158 53))) rfl rfl (S.cell 158 (nc rfl)) (by decide) rfl ?_
        have hr46 : rJ (m 158 53) := S.rg 158 53 (nl rfl)
        refine wp_g (n := 2) (pc' := 67) (L' := [some (.ref 158), some (.int (iI y1)), some (.int (iI y2)), some (.int (iI 0))]) (st' := [.ref 158, .int (iI 48), .int (iI (m 158 53)), .ref 194]) rfl ?_
        refine wp_getf (v := .ref 167) rfl rfl (S.cell 158 (nc rfl)) (by decide) rfl ?_
        refine wp_g (n := 3) (pc' := 73) (L' := [some (.ref 158), some (.int (iI y1)), some (.int (iI y2)), some (.int (iI 0))]) (st' := [.int (iI 2), .int (iI y1), .int (iI 4), .ref 167, .int (iI 48), .int (iI (m 158 53)), .ref 194]) rfl ?_
        obtain ⟨p47, hW⟩ := hW
        refine wp_div (a := y1) (b := 2) rfl p47 hy1.2 (by decide) (by decide) ?_
        have hr48 : rJ (y1 / 2) := by have := hy1; omega
        refine wp_g (n := 1) (pc' := 75) (L' := [some (.ref 158), some (.int (iI y1)), some (.int (iI y2)), some (.int (iI 0))]) (st' := [.ref 158, .int (iI (y1 / 2)), .int (iI 4), .ref 167, .int (iI 48), .int (iI (m 158 53)), .ref 194]) rfl ?_
        refine wp_getf (v := .int (iI (m 158 5))) rfl rfl (S.cell 158 (nc rfl)) (by decide) rfl ?_
        refine wp_mul (a := (y1 / 2)) (b := (m 158 5)) rfl ?_
        refine wp_g (n := 2) (pc' := 81) (L' := [some (.ref 158), some (.int (iI y1)), some (.int (iI y2)), some (.int (iI 0))]) (st' := [.int (iI 2), .int (iI y2), .int (iI ((y1 / 2) * (m 158 5))), .int (iI 4), .ref 167, .int (iI 48), .int (iI (m 158 53)), .ref 194]) rfl ?_
        obtain ⟨p49, hW⟩ := hW
        refine wp_div (a := y2) (b := 2) rfl p49 hy2.2 (by decide) (by decide) ?_
        have hr50 : rJ (y2 / 2) := by have := hy2; omega
        refine wp_add (a := ((y1 / 2) * (m 158 5))) (b := (y2 / 2)) rfl ?_
        refine wp_mul (a := 4) (b := (((y1 / 2) * (m 158 5)) + (y2 / 2))) rfl ?_
        refine wp_g (n := 1) (pc' := 85) (L' := [some (.ref 158), some (.int (iI y1)), some (.int (iI y2)), some (.int (iI 0))]) (st' := [.int (iI 0), .int (iI (4 * (((y1 / 2) * (m 158 5)) + (y2 / 2)))), .ref 167, .int (iI 48), .int (iI (m 158 53)), .ref 194]) rfl ?_
        refine wp_add (a := (4 * (((y1 / 2) * (m 158 5)) + (y2 / 2)))) (b := 0) rfl ?_
        obtain ⟨p51, hW⟩ := hW
        refine wp_iald (n := 64) (F := (m 167)) rfl (S.cell 167 (nc rfl)) (by decide) p51.1 p51.2 (by decide) ?_
        show wp _ _ _ _ _ [.int (iI (m 167 ((((4 * (((y1 / 2) * (m 158 5)) + (y2 / 2))) + 0)).toNat))), .int (iI 48), .int (iI (m 158 53)), .ref 194] _ _
        have hr52 : rJ (m 167 ((((4 * (((y1 / 2) * (m 158 5)) + (y2 / 2))) + 0)).toNat)) := S.rg 167 ((((4 * (((y1 / 2) * (m 158 5)) + (y2 / 2))) + 0)).toNat) (nl rfl)
        refine wp_g (n := 1) (pc' := 88) (L' := [some (.ref 158), some (.int (iI y1)), some (.int (iI y2)), some (.int (iI 0))]) (st' := [.int (iI 2), .int (iI (m 167 ((((4 * (((y1 / 2) * (m 158 5)) + (y2 / 2))) + 0)).toNat))), .int (iI 48), .int (iI (m 158 53)), .ref 194]) rfl ?_
        obtain ⟨p53, hW⟩ := hW
        refine wp_rem (a := (m 167 ((((4 * (((y1 / 2) * (m 158 5)) + (y2 / 2))) + 0)).toNat))) (b := 2) rfl p53 hr52.2 (by decide) (by decide) ?_
        have hr54 : rJ ((m 167 ((((4 * (((y1 / 2) * (m 158 5)) + (y2 / 2))) + 0)).toNat)) % 2) := by omega
        refine wp_add (a := 48) (b := ((m 167 ((((4 * (((y1 / 2) * (m 158 5)) + (y2 / 2))) + 0)).toNat)) % 2)) rfl ?_
        obtain ⟨p56, hW⟩ := hW
        obtain ⟨p57, hW⟩ := hW
        refine wp_iasF (n := 1000) (F := (m 194)) (y := (48 + ((m 167 ((((4 * (((y1 / 2) * (m 158 5)) + (y2 / 2))) + 0)).toNat)) % 2))) rfl (S.cell 194 (nc rfl)) p56.1 p56.2 (by decide) (fun H55 hl55 hz55 hf55 => ?_)
        have S : ST H55 (up m 194 (up (m 194) (((m 158 53)).toNat) (48 + ((m 167 ((((4 * (((y1 / 2) * (m 158 5)) + (y2 / 2))) + 0)).toNat)) % 2)))) γ t := S.setI 194 (nc rfl) hl55 hz55 hf55 p57.1 p57.2
        refine wp_g (n := 2) (pc' := 93) (L' := [some (.ref 158), some (.int (iI y1)), some (.int (iI y2)), some (.int (iI 0))]) (st' := [.ref 158, .ref 158]) rfl ?_
        refine wp_getf (v := .int (iI (m 158 53))) rfl rfl (S.cell 158 (nc rfl)) (by decide) rfl ?_
        refine wp_g (n := 1) (pc' := 97) (L' := [some (.ref 158), some (.int (iI y1)), some (.int (iI y2)), some (.int (iI 0))]) (st' := [.int (iI 1), .int (iI (m 158 53)), .ref 158]) rfl ?_
        refine wp_add (a := (m 158 53)) (b := 1) rfl ?_
        obtain ⟨p59, hW⟩ := hW
        refine wp_putI rfl rfl (S.cell 158 (nc rfl)) (Nat.le_of_ble_eq_true rfl) rfl (fun H58 hl58 hz58 hf58 => ?_)
        have S : ST H58 (up (up m 194 (up (m 194) (((m 158 53)).toNat) (48 + ((m 167 ((((4 * (((y1 / 2) * (m 158 5)) + (y2 / 2))) + 0)).toNat)) % 2)))) 158 (up (m 158) 53 ((m 158 53) + 1))) γ t := S.setI 158 (nc rfl) hl58 hz58 hf58 p59.1 p59.2
        refine wp_iinc (L' := [some (.ref 158), some (.int (iI y1)), some (.int (iI (y2 + 1))), some (.int (iI 0))]) (a := y2) rfl rfl rfl ?_
        refine wp_g (n := 1) (pc' := 14) (L' := [some (.ref 158), some (.int (iI y1)), some (.int (iI (y2 + 1))), some (.int (iI 0))]) (st' := []) rfl ?_
        exact hW (some (.int (iI 0))) _ S
      · have dc45 := (Classical.not_not.mp c45)
        have hW := hW.1 dc45
        refine wp_g (n := 4) (pc' := 57) (L' := [some (.ref 158), some (.int (iI y1)), some (.int (iI y2)), some (.int (iI 3))]) (st' := [.ref 158]) rfl ?_
        refine wp_getf (v := .ref 194) rfl rfl (S.cell 158 (nc rfl)) (by decide) rfl ?_
        refine wp_g (n := 1) (pc' := 61) (L' := [some (.ref 158), some (.int (iI y1)), some (.int (iI y2)), some (.int (iI 3))]) (st' := [.ref 158, .ref 194]) rfl ?_
        refine wp_getf (v := .int (iI (m 158 53))) rfl rfl (S.cell 158 (nc rfl)) (by decide) rfl ?_
        have hr60 : rJ (m 158 53) := S.rg 158 53 (nl rfl)
        refine wp_g (n := 2) (pc' := 67) (L' := [some (.ref 158), some (.int (iI y1)), some (.int (iI y2)), some (.int (iI 3))]) (st' := [.ref 158, .int (iI 48), .int (iI (m 158 53)), .ref 194]) rfl ?_
        refine wp_getf (v := .ref 167) rfl rfl (S.cell 158 (nc rfl)) (by decide) rfl ?_
        refine wp_g (n := 3) (pc' := 73) (L' := [some (.ref 158), some (.int (iI y1)), some (.int (iI y2)), some (.int (iI 3))]) (st' := [.int (iI 2), .int (iI y1), .int (iI 4), .ref 167, .int (iI 48), .int (iI (m 158 53)), .ref 194]) rfl ?_
        obtain ⟨p61, hW⟩ := hW
        refine wp_div (a := y1) (b := 2) rfl p61 hy1.2 (by decide) (by decide) ?_
        have hr62 : rJ (y1 / 2) := by have := hy1; omega
        refine wp_g (n := 1) (pc' := 75) (L' := [some (.ref 158), some (.int (iI y1)), some (.int (iI y2)), some (.int (iI 3))]) (st' := [.ref 158, .int (iI (y1 / 2)), .int (iI 4), .ref 167, .int (iI 48), .int (iI (m 158 53)), .ref 194]) rfl ?_
        refine wp_getf (v := .int (iI (m 158 5))) rfl rfl (S.cell 158 (nc rfl)) (by decide) rfl ?_
        refine wp_mul (a := (y1 / 2)) (b := (m 158 5)) rfl ?_
        refine wp_g (n := 2) (pc' := 81) (L' := [some (.ref 158), some (.int (iI y1)), some (.int (iI y2)), some (.int (iI 3))]) (st' := [.int (iI 2), .int (iI y2), .int (iI ((y1 / 2) * (m 158 5))), .int (iI 4), .ref 167, .int (iI 48), .int (iI (m 158 53)), .ref 194]) rfl ?_
        obtain ⟨p63, hW⟩ := hW
        refine wp_div (a := y2) (b := 2) rfl p63 hy2.2 (by decide) (by decide) ?_
        have hr64 : rJ (y2 / 2) := by have := hy2; omega
        refine wp_add (a := ((y1 / 2) * (m 158 5))) (b := (y2 / 2)) rfl ?_
        refine wp_mul (a := 4) (b := (((y1 / 2) * (m 158 5)) + (y2 / 2))) rfl ?_
        refine wp_g (n := 1) (pc' := 85) (L' := [some (.ref 158), some (.int (iI y1)), some (.int (iI y2)), some (.int (iI 3))]) (st' := [.int (iI 3), .int (iI (4 * (((y1 / 2) * (m 158 5)) + (y2 / 2)))), .ref 167, .int (iI 48), .int (iI (m 158 53)), .ref 194]) rfl ?_
        refine wp_add (a := (4 * (((y1 / 2) * (m 158 5)) + (y2 / 2)))) (b := 3) rfl ?_
        obtain ⟨p65, hW⟩ := hW
        refine wp_iald (n := 64) (F := (m 167)) rfl (S.cell 167 (nc rfl)) (by decide) p65.1 p65.2 (by decide) ?_
        show wp _ _ _ _ _ [.int (iI (m 167 ((((4 * (((y1 / 2) * (m 158 5)) + (y2 / 2))) + 3)).toNat))), .int (iI 48), .int (iI (m 158 53)), .ref 194] _ _
        have hr66 : rJ (m 167 ((((4 * (((y1 / 2) * (m 158 5)) + (y2 / 2))) + 3)).toNat)) := S.rg 167 ((((4 * (((y1 / 2) * (m 158 5)) + (y2 / 2))) + 3)).toNat) (nl rfl)
        refine wp_g (n := 1) (pc' := 88) (L' := [some (.ref 158), some (.int (iI y1)), some (.int (iI y2)), some (.int (iI 3))]) (st' := [.int (iI 2), .int (iI (m 167 ((((4 * (((y1 / 2) * (m 158 5)) + (y2 / 2))) + 3)).toNat))), .int (iI 48), .int (iI (m 158 53)), .ref 194]) rfl ?_
        obtain ⟨p67, hW⟩ := hW
        refine wp_rem (a := (m 167 ((((4 * (((y1 / 2) * (m 158 5)) + (y2 / 2))) + 3)).toNat))) (b := 2) rfl p67 hr66.2 (by decide) (by decide) ?_
        have hr68 : rJ ((m 167 ((((4 * (((y1 / 2) * (m 158 5)) + (y2 / 2))) + 3)).toNat)) % 2) := by omega
        refine wp_add (a := 48) (b := ((m 167 ((((4 * (((y1 / 2) * (m 158 5)) + (y2 / 2))) + 3)).toNat)) % 2)) rfl ?_
        obtain ⟨p70, hW⟩ := hW
        obtain ⟨p71, hW⟩ := hW
        refine wp_iasF (n := 1000) (F := (m 194)) (y := (48 + ((m 167 ((((4 * (((y1 / 2) * (m 158 5)) + (y2 / 2))) + 3)).toNat)) % 2))) rfl (S.cell 194 (nc rfl)) p70.1 p70.2 (by decide) (fun H69 hl69 hz69 hf69 => ?_)
        have S : ST H69 (up m 194 (up (m 194) (((m 158 53)).toNat) (48 + ((m 167 ((((4 * (((y1 / 2) * (m 158 5)) + (y2 / 2))) + 3)).toNat)) % 2)))) γ t := S.setI 194 (nc rfl) hl69 hz69 hf69 p71.1 p71.2
        refine wp_g (n := 2) (pc' := 93) (L' := [some (.ref 158), some (.int (iI y1)), some (.int (iI y2)), some (.int (iI 3))]) (st' := [.ref 158, .ref 158]) rfl ?_
        refine wp_getf (v := .int (iI (m 158 53))) rfl rfl (S.cell 158 (nc rfl)) (by decide) rfl ?_
        refine wp_g (n := 1) (pc' := 97) (L' := [some (.ref 158), some (.int (iI y1)), some (.int (iI y2)), some (.int (iI 3))]) (st' := [.int (iI 1), .int (iI (m 158 53)), .ref 158]) rfl ?_
        refine wp_add (a := (m 158 53)) (b := 1) rfl ?_
        obtain ⟨p73, hW⟩ := hW
        refine wp_putI rfl rfl (S.cell 158 (nc rfl)) (Nat.le_of_ble_eq_true rfl) rfl (fun H72 hl72 hz72 hf72 => ?_)
        have S : ST H72 (up (up m 194 (up (m 194) (((m 158 53)).toNat) (48 + ((m 167 ((((4 * (((y1 / 2) * (m 158 5)) + (y2 / 2))) + 3)).toNat)) % 2)))) 158 (up (m 158) 53 ((m 158 53) + 1))) γ t := S.setI 158 (nc rfl) hl72 hz72 hf72 p73.1 p73.2
        refine wp_iinc (L' := [some (.ref 158), some (.int (iI y1)), some (.int (iI (y2 + 1))), some (.int (iI 3))]) (a := y2) rfl rfl rfl ?_
        refine wp_g (n := 1) (pc' := 14) (L' := [some (.ref 158), some (.int (iI y1)), some (.int (iI (y2 + 1))), some (.int (iI 3))]) (st' := []) rfl ?_
        exact hW (some (.int (iI 3))) _ S
abbrev W_X9_tell (E : am_E) (k : Nat) (x1 : Int) (x2 : Int) (m : MM) (γ : GM) (t : am_H) (Q : Int → MM → GM → am_H → Prop) : Prop := (TI E k 192 [.long (lI x2), .long (lI 0), .long (lI 1)] m γ t (fun v1 m1 γ1 t1 => (((v1 = 0) → (Q (-2) m1 γ1 t1)) ∧ (¬ (v1 = 0) → (TI E k 216 [.ref 158, .int (iI x1)] m1 γ1 t1 (fun v3 m3 γ3 t3 => (((v3 = 0) → (Q (-2) m3 γ3 t3)) ∧ (¬ (v3 = 0) → (((x2 = 1) → (TV E k 306 [.ref 158] (up m3 158 (up (m3 158) 53 0)) γ3 t3 (fun m18 γ18 t18 => (Q (m18 158 53) m18 γ18 t18)))) ∧ (¬ (x2 = 1) → (TV E k 303 [.ref 158, .ref 1000036] (up m3 158 (up (m3 158) 53 0)) γ3 t3 (fun m7 γ7 t7 => (TV E k 304 [.ref 158, .int (iI (m7 158 4))] m7 γ7 t7 (fun m9 γ9 t9 => (TV E k 303 [.ref 158, .ref 1000038] m9 γ9 t9 (fun m10 γ10 t10 => (TV E k 304 [.ref 158, .int (iI (m10 158 5))] m10 γ10 t10 (fun m12 γ12 t12 => (TV E k 303 [.ref 158, .ref 1000040] m12 γ12 t12 (fun m13 γ13 t13 => (TV E k 305 [.ref 158, .ref 1000042, .int (iI 1)] m13 γ13 t13 (fun m14 γ14 t14 => (TV E k 305 [.ref 158, .ref 1000050, .int (iI 2)] m14 γ14 t14 (fun m15 γ15 t15 => (TV E k 305 [.ref 158, .ref 1000052, .int (iI 3)] m15 γ15 t15 (fun m16 γ16 t16 => (Q (m16 158 53) m16 γ16 t16)))))))))))))))))))))))))))
theorem vc_X9_tell {E : am_E} {k : Nat} {x1 : Int} {x2 : Int} {m : MM} {γ : GM} {t : am_H} {Q : Int → MM → GM → am_H → Prop} (hx1 : rJ x1) (hx2 : rJ x2) (hW : W_X9_tell E k x1 x2 m γ t Q) : TI E (k + 1) 307 [.ref 158, .int (iI x1), .int (iI x2)] m γ t Q := by
  unfold W_X9_tell at hW
  intro h S
  refine wp_g (n := 1) (pc' := 1) (L' := [some (.ref 158), some (.int (iI x1)), some (.int (iI x2))]) (st' := [.int (iI x2)]) rfl ?_
  refine wp_i2l (a := x2) rfl hx2 ?_
  refine wp_g (n := 2) (pc' := 4) (L' := [some (.ref 158), some (.int (iI x1)), some (.int (iI x2))]) (st' := [.long (lI 1), .long (lI 0), .long (lI x2)]) rfl ?_
  refine wp_cs (As := [.long (lI x2), .long (lI 0), .long (lI 1)]) (rest := []) rfl rfl rfl rfl (Nat.le_of_ble_eq_true rfl) (Nat.le_of_ble_eq_true rfl) (hW _ S) (fun r1 H1 q1 => ?_)
  obtain ⟨v1, m1, γ1, t1, rfl, hv1, S, hW⟩ := q1
  show wp _ _ _ _ _ [.int (iI v1)] _ _
  refine wp_ifI (a := v1) rfl rfl hv1.1 hv1.2 (fun c2 => ?_) (fun c2 => ?_)
  · have dc2 := c2
    have hW := hW.1 dc2
    refine wp_g (n := 1) (pc' := 20) (L' := [some (.ref 158), some (.int (iI x1)), some (.int (iI x2))]) (st' := [.int (iI (-2))]) rfl ?_
    exact wp_iret rfl rfl ⟨_, _, _, _, rfl, (by decide), S, hW⟩
  · have dc2 := c2
    have hW := hW.2 dc2
    refine wp_g (n := 2) (pc' := 12) (L' := [some (.ref 158), some (.int (iI x1)), some (.int (iI x2))]) (st' := [.int (iI x1), .ref 158]) rfl ?_
    refine wp_cv (As := [.int (iI x1)]) (rest := []) rfl rfl (S.cell 158 (nc rfl)) (by decide) rfl rfl rfl (Nat.le_of_ble_eq_true rfl) (Nat.le_of_ble_eq_true rfl) (hW _ S) (fun r3 H3 q3 => ?_)
    obtain ⟨v3, m3, γ3, t3, rfl, hv3, S, hW⟩ := q3
    show wp _ _ _ _ _ [.int (iI v3)] _ _
    refine wp_ifI (a := v3) rfl rfl hv3.1 hv3.2 (fun c4 => ?_) (fun c4 => ?_)
    · have dc4 := c4
      have hW := hW.2 dc4
      refine wp_g (n := 2) (pc' := 23) (L' := [some (.ref 158), some (.int (iI x1)), some (.int (iI x2))]) (st' := [.int (iI 0), .ref 158]) rfl ?_
      refine wp_putI rfl rfl (S.cell 158 (nc rfl)) (Nat.le_of_ble_eq_true rfl) rfl (fun H5 hl5 hz5 hf5 => ?_)
      have S : ST H5 (up m3 158 (up (m3 158) 53 0)) γ3 t3 := S.setI 158 (nc rfl) hl5 hz5 hf5 (by decide) (by decide)
      refine wp_g (n := 2) (pc' := 28) (L' := [some (.ref 158), some (.int (iI x1)), some (.int (iI x2))]) (st' := [.int (iI 1), .int (iI x2)]) rfl ?_
      refine wp_icmpI (a := x2) (b := 1) rfl rfl hx2.1 hx2.2 (by decide) (by decide) (fun c6 => ?_) (fun c6 => ?_)
      · have dc6 := c6
        have hW := hW.2 dc6
        refine wp_g (n := 2) (pc' := 44) (L' := [some (.ref 158), some (.int (iI x1)), some (.int (iI x2))]) (st' := [.ref 1000036, .ref 158]) rfl ?_
        refine wp_cv (As := [.ref 1000036]) (rest := []) rfl rfl (S.cell 158 (nc rfl)) (by decide) rfl rfl rfl (Nat.le_of_ble_eq_true rfl) (Nat.le_of_ble_eq_true rfl) (hW _ S) (fun r7 H7 q7 => ?_)
        obtain ⟨m7, γ7, t7, rfl, S, hW⟩ := q7
        show wp _ _ _ _ _ [] _ _
        refine wp_g (n := 2) (pc' := 49) (L' := [some (.ref 158), some (.int (iI x1)), some (.int (iI x2))]) (st' := [.ref 158, .ref 158]) rfl ?_
        refine wp_getf (v := .int (iI (m7 158 4))) rfl rfl (S.cell 158 (nc rfl)) (by decide) rfl ?_
        have hr8 : rJ (m7 158 4) := S.rg 158 4 (nl rfl)
        refine wp_cv (As := [.int (iI (m7 158 4))]) (rest := []) rfl rfl (S.cell 158 (nc rfl)) (by decide) rfl rfl rfl (Nat.le_of_ble_eq_true rfl) (Nat.le_of_ble_eq_true rfl) (hW _ S) (fun r9 H9 q9 => ?_)
        obtain ⟨m9, γ9, t9, rfl, S, hW⟩ := q9
        show wp _ _ _ _ _ [] _ _
        refine wp_g (n := 2) (pc' := 59) (L' := [some (.ref 158), some (.int (iI x1)), some (.int (iI x2))]) (st' := [.ref 1000038, .ref 158]) rfl ?_
        refine wp_cv (As := [.ref 1000038]) (rest := []) rfl rfl (S.cell 158 (nc rfl)) (by decide) rfl rfl rfl (Nat.le_of_ble_eq_true rfl) (Nat.le_of_ble_eq_true rfl) (hW _ S) (fun r10 H10 q10 => ?_)
        obtain ⟨m10, γ10, t10, rfl, S, hW⟩ := q10
        show wp _ _ _ _ _ [] _ _
        refine wp_g (n := 2) (pc' := 64) (L' := [some (.ref 158), some (.int (iI x1)), some (.int (iI x2))]) (st' := [.ref 158, .ref 158]) rfl ?_
        refine wp_getf (v := .int (iI (m10 158 5))) rfl rfl (S.cell 158 (nc rfl)) (by decide) rfl ?_
        have hr11 : rJ (m10 158 5) := S.rg 158 5 (nl rfl)
        refine wp_cv (As := [.int (iI (m10 158 5))]) (rest := []) rfl rfl (S.cell 158 (nc rfl)) (by decide) rfl rfl rfl (Nat.le_of_ble_eq_true rfl) (Nat.le_of_ble_eq_true rfl) (hW _ S) (fun r12 H12 q12 => ?_)
        obtain ⟨m12, γ12, t12, rfl, S, hW⟩ := q12
        show wp _ _ _ _ _ [] _ _
        refine wp_g (n := 2) (pc' := 74) (L' := [some (.ref 158), some (.int (iI x1)), some (.int (iI x2))]) (st' := [.ref 1000040, .ref 158]) rfl ?_
        refine wp_cv (As := [.ref 1000040]) (rest := []) rfl rfl (S.cell 158 (nc rfl)) (by decide) rfl rfl rfl (Nat.le_of_ble_eq_true rfl) (Nat.le_of_ble_eq_true rfl) (hW _ S) (fun r13 H13 q13 => ?_)
        obtain ⟨m13, γ13, t13, rfl, S, hW⟩ := q13
        show wp _ _ _ _ _ [] _ _
        refine wp_g (n := 3) (pc' := 82) (L' := [some (.ref 158), some (.int (iI x1)), some (.int (iI x2))]) (st' := [.int (iI 1), .ref 1000042, .ref 158]) rfl ?_
        refine wp_cv (As := [.ref 1000042, .int (iI 1)]) (rest := []) rfl rfl (S.cell 158 (nc rfl)) (by decide) rfl rfl rfl (Nat.le_of_ble_eq_true rfl) (Nat.le_of_ble_eq_true rfl) (hW _ S) (fun r14 H14 q14 => ?_)
        obtain ⟨m14, γ14, t14, rfl, S, hW⟩ := q14
        show wp _ _ _ _ _ [] _ _
        refine wp_g (n := 3) (pc' := 90) (L' := [some (.ref 158), some (.int (iI x1)), some (.int (iI x2))]) (st' := [.int (iI 2), .ref 1000050, .ref 158]) rfl ?_
        refine wp_cv (As := [.ref 1000050, .int (iI 2)]) (rest := []) rfl rfl (S.cell 158 (nc rfl)) (by decide) rfl rfl rfl (Nat.le_of_ble_eq_true rfl) (Nat.le_of_ble_eq_true rfl) (hW _ S) (fun r15 H15 q15 => ?_)
        obtain ⟨m15, γ15, t15, rfl, S, hW⟩ := q15
        show wp _ _ _ _ _ [] _ _
        refine wp_g (n := 3) (pc' := 98) (L' := [some (.ref 158), some (.int (iI x1)), some (.int (iI x2))]) (st' := [.int (iI 3), .ref 1000052, .ref 158]) rfl ?_
        refine wp_cv (As := [.ref 1000052, .int (iI 3)]) (rest := []) rfl rfl (S.cell 158 (nc rfl)) (by decide) rfl rfl rfl (Nat.le_of_ble_eq_true rfl) (Nat.le_of_ble_eq_true rfl) (hW _ S) (fun r16 H16 q16 => ?_)
        obtain ⟨m16, γ16, t16, rfl, S, hW⟩ := q16
        show wp _ _ _ _ _ [] _ _
        refine wp_g (n := 1) (pc' := 102) (L' := [some (.ref 158), some (.int (iI x1)), some (.int (iI x2))]) (st' := [.ref 158]) rfl ?_
        refine wp_getf (v := .int (iI (m16 158 53))) rfl rfl (S.cell 158 (nc rfl)) (by decide) rfl ?_
        have hr17 : rJ (m16 158 53) := S.rg 158 53 (nl rfl)
        exact wp_iret rfl rfl ⟨_, _, _, _, rfl, hr17, S, hW⟩
      · have dc6 := (Classical.not_not.mp c6)
        have hW := hW.1 dc6
        refine wp_g (n := 1) (pc' := 32) (L' := [some (.ref 158), some (.int (iI x1)), some (.int (iI x2))]) (st' := [.ref 158]) rfl ?_
        refine wp_cv (As := []) (rest := []) rfl rfl (S.cell 158 (nc rfl)) (by decide) rfl rfl rfl (Nat.le_of_ble_eq_true rfl) (Nat.le_of_ble_eq_true rfl) (hW _ S) (fun r18 H18 q18 => ?_)
        obtain ⟨m18, γ18, t18, rfl, S, hW⟩ := q18
        show wp _ _ _ _ _ [] _ _
        refine wp_g (n := 1) (pc' := 36) (L' := [some (.ref 158), some (.int (iI x1)), some (.int (iI x2))]) (st' := [.ref 158]) rfl ?_
        refine wp_getf (v := .int (iI (m18 158 53))) rfl rfl (S.cell 158 (nc rfl)) (by decide) rfl ?_
        have hr19 : rJ (m18 158 53) := S.rg 158 53 (nl rfl)
        exact wp_iret rfl rfl ⟨_, _, _, _, rfl, hr19, S, hW⟩
    · have dc4 := (Classical.not_not.mp c4)
      have hW := hW.1 dc4
      refine wp_g (n := 1) (pc' := 20) (L' := [some (.ref 158), some (.int (iI x1)), some (.int (iI x2))]) (st' := [.int (iI (-2))]) rfl ?_
      exact wp_iret rfl rfl ⟨_, _, _, _, rfl, (by decide), S, hW⟩
abbrev W_X9_octet (E : am_E) (k : Nat) (x1 : Int) (m : MM) (γ : GM) (t : am_H) (Q : Int → MM → GM → am_H → Prop) : Prop := (rJ ((m 158 53) - 1) ∧ (TI E k 192 [.long (lI x1), .long (lI 0), .long (lI ((m 158 53) - 1))] m γ t (fun v3 m3 γ3 t3 => (((v3 = 0) → (Q (-1) m3 γ3 t3)) ∧ (¬ (v3 = 0) → ((0 ≤ x1 ∧ x1 < 1000) ∧ (Q (m3 194 ((x1).toNat)) m3 γ3 t3)))))))
theorem vc_X9_octet {E : am_E} {k : Nat} {x1 : Int} {m : MM} {γ : GM} {t : am_H} {Q : Int → MM → GM → am_H → Prop} (hx1 : rJ x1) (hW : W_X9_octet E k x1 m γ t Q) : TI E (k + 1) 308 [.ref 158, .int (iI x1)] m γ t Q := by
  unfold W_X9_octet at hW
  intro h S
  refine wp_g (n := 1) (pc' := 1) (L' := [some (.ref 158), some (.int (iI x1))]) (st' := [.int (iI x1)]) rfl ?_
  refine wp_i2l (a := x1) rfl hx1 ?_
  refine wp_g (n := 2) (pc' := 4) (L' := [some (.ref 158), some (.int (iI x1))]) (st' := [.ref 158, .long (lI 0), .long (lI x1)]) rfl ?_
  refine wp_getf (v := .int (iI (m 158 53))) rfl rfl (S.cell 158 (nc rfl)) (by decide) rfl ?_
  have hr1 : rJ (m 158 53) := S.rg 158 53 (nl rfl)
  refine wp_g (n := 1) (pc' := 8) (L' := [some (.ref 158), some (.int (iI x1))]) (st' := [.int (iI 1), .int (iI (m 158 53)), .long (lI 0), .long (lI x1)]) rfl ?_
  refine wp_sub (a := (m 158 53)) (b := 1) rfl ?_
  obtain ⟨p2, hW⟩ := hW
  refine wp_i2l (a := ((m 158 53) - 1)) rfl p2 ?_
  refine wp_cs (As := [.long (lI x1), .long (lI 0), .long (lI ((m 158 53) - 1))]) (rest := []) rfl rfl rfl rfl (Nat.le_of_ble_eq_true rfl) (Nat.le_of_ble_eq_true rfl) (hW _ S) (fun r3 H3 q3 => ?_)
  obtain ⟨v3, m3, γ3, t3, rfl, hv3, S, hW⟩ := q3
  show wp _ _ _ _ _ [.int (iI v3)] _ _
  refine wp_ifI (a := v3) rfl rfl hv3.1 hv3.2 (fun c4 => ?_) (fun c4 => ?_)
  · have dc4 := c4
    have hW := hW.1 dc4
    refine wp_g (n := 1) (pc' := 26) (L' := [some (.ref 158), some (.int (iI x1))]) (st' := [.int (iI (-1))]) rfl ?_
    exact wp_iret rfl rfl ⟨_, _, _, _, rfl, (by decide), S, hW⟩
  · have dc4 := c4
    have hW := hW.2 dc4
    refine wp_g (n := 1) (pc' := 17) (L' := [some (.ref 158), some (.int (iI x1))]) (st' := [.ref 158]) rfl ?_
    refine wp_getf (v := .ref 194) rfl rfl (S.cell 158 (nc rfl)) (by decide) rfl ?_
    refine wp_g (n := 1) (pc' := 21) (L' := [some (.ref 158), some (.int (iI x1))]) (st' := [.int (iI x1), .ref 194]) rfl ?_
    obtain ⟨p5, hW⟩ := hW
    refine wp_iald (n := 1000) (F := (m3 194)) rfl (S.cell 194 (nc rfl)) (by decide) p5.1 p5.2 (by decide) ?_
    show wp _ _ _ _ _ [.int (iI (m3 194 ((x1).toNat)))] _ _
    have hr6 : rJ (m3 194 ((x1).toNat)) := S.rg 194 ((x1).toNat) (nl rfl)
    refine wp_g (n := 1) (pc' := 26) (L' := [some (.ref 158), some (.int (iI x1))]) (st' := [.int (iI (m3 194 ((x1).toNat)))]) rfl ?_
    exact wp_iret rfl rfl ⟨_, _, _, _, rfl, hr6, S, hW⟩
