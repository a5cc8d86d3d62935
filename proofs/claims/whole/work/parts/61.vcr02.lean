abbrev W_X9_isLaid (E : am_E) (k : Nat) (x1 : Int) (m : MM) (γ : GM) (t : am_H) (Q : Int → MM → GM → am_H → Prop) : Prop := (TI E k 195 [.ref 158, .int (iI x1)] m γ t (fun v1 m1 γ1 t1 => (((v1 = 0) → (Q 0 m1 γ1 t1)) ∧ (¬ (v1 = 0) → (TV E k 201 [.ref 158, .int (iI x1)] m1 γ1 t1 (fun m3 γ3 t3 => (TV E k 212 [.ref 158] m3 γ3 t3 (fun m4 γ4 t4 => (Q 1 m4 γ4 t4)))))))))
theorem vc_X9_isLaid {E : am_E} {k : Nat} {x1 : Int} {m : MM} {γ : GM} {t : am_H} {Q : Int → MM → GM → am_H → Prop} (hx1 : rJ x1) (hW : W_X9_isLaid E k x1 m γ t Q) : TI E (k + 1) 216 [.ref 158, .int (iI x1)] m γ t Q := by
  unfold W_X9_isLaid at hW
  intro h S
  refine wp_g (n := 2) (pc' := 2) (L' := [some (.ref 158), some (.int (iI x1))]) (st' := [.int (iI x1), .ref 158]) rfl ?_
  refine wp_cv (As := [.int (iI x1)]) (rest := []) rfl rfl (S.cell 158 (nc rfl)) (by decide) rfl rfl rfl (Nat.le_of_ble_eq_true rfl) (Nat.le_of_ble_eq_true rfl) (hW _ S) (fun r1 H1 q1 => ?_)
  obtain ⟨v1, m1, γ1, t1, rfl, hv1, S, hW⟩ := q1
  show wp _ _ _ _ _ [.int (iI v1)] _ _
  refine wp_ifI (a := v1) rfl rfl hv1.1 hv1.2 (fun c2 => ?_) (fun c2 => ?_)
  · have dc2 := c2
    have hW := hW.2 dc2
    refine wp_g (n := 2) (pc' := 12) (L' := [some (.ref 158), some (.int (iI x1))]) (st' := [.int (iI x1), .ref 158]) rfl ?_
    refine wp_cv (As := [.int (iI x1)]) (rest := []) rfl rfl (S.cell 158 (nc rfl)) (by decide) rfl rfl rfl (Nat.le_of_ble_eq_true rfl) (Nat.le_of_ble_eq_true rfl) (hW _ S) (fun r3 H3 q3 => ?_)
    obtain ⟨m3, γ3, t3, rfl, S, hW⟩ := q3
    show wp _ _ _ _ _ [] _ _
    refine wp_g (n := 1) (pc' := 16) (L' := [some (.ref 158), some (.int (iI x1))]) (st' := [.ref 158]) rfl ?_
    refine wp_cv (As := []) (rest := []) rfl rfl (S.cell 158 (nc rfl)) (by decide) rfl rfl rfl (Nat.le_of_ble_eq_true rfl) (Nat.le_of_ble_eq_true rfl) (hW _ S) (fun r4 H4 q4 => ?_)
    obtain ⟨m4, γ4, t4, rfl, S, hW⟩ := q4
    show wp _ _ _ _ _ [] _ _
    refine wp_g (n := 1) (pc' := 20) (L' := [some (.ref 158), some (.int (iI x1))]) (st' := [.int (iI 1)]) rfl ?_
    exact wp_zret rfl rfl (by decide) ⟨_, _, _, _, rfl, (by decide), S, hW⟩
  · have dc2 := (Classical.not_not.mp c2)
    have hW := hW.1 dc2
    refine wp_g (n := 1) (pc' := 9) (L' := [some (.ref 158), some (.int (iI x1))]) (st' := [.int (iI 0)]) rfl ?_
    exact wp_zret rfl rfl (by decide) ⟨_, _, _, _, rfl, (by decide), S, hW⟩
abbrev W_X9_isStrand (E : am_E) (k : Nat) (x1 : Int) (x2 : Int) (m : MM) (γ : GM) (t : am_H) (Q : Int → MM → GM → am_H → Prop) : Prop := (TI E k 216 [.ref 158, .int (iI x1)] m γ t (fun v1 m1 γ1 t1 => (((v1 = 0) → (Q 0 m1 γ1 t1)) ∧ (¬ (v1 = 0) → (rJ ((m1 158 16) - 1) ∧ (TI E k 192 [.long (lI x2), .long (lI 0), .long (lI ((m1 158 16) - 1))] m1 γ1 t1 (fun v5 m5 γ5 t5 => (((v5 = 0) → (Q 0 m5 γ5 t5)) ∧ (¬ (v5 = 0) → (Q 1 m5 γ5 t5))))))))))
theorem vc_X9_isStrand {E : am_E} {k : Nat} {x1 : Int} {x2 : Int} {m : MM} {γ : GM} {t : am_H} {Q : Int → MM → GM → am_H → Prop} (hx1 : rJ x1) (hx2 : rJ x2) (hW : W_X9_isStrand E k x1 x2 m γ t Q) : TI E (k + 1) 217 [.ref 158, .int (iI x1), .int (iI x2)] m γ t Q := by
  unfold W_X9_isStrand at hW
  intro h S
  refine wp_g (n := 2) (pc' := 2) (L' := [some (.ref 158), some (.int (iI x1)), some (.int (iI x2))]) (st' := [.int (iI x1), .ref 158]) rfl ?_
  refine wp_cv (As := [.int (iI x1)]) (rest := []) rfl rfl (S.cell 158 (nc rfl)) (by decide) rfl rfl rfl (Nat.le_of_ble_eq_true rfl) (Nat.le_of_ble_eq_true rfl) (hW _ S) (fun r1 H1 q1 => ?_)
  obtain ⟨v1, m1, γ1, t1, rfl, hv1, S, hW⟩ := q1
  show wp _ _ _ _ _ [.int (iI v1)] _ _
  refine wp_ifI (a := v1) rfl rfl hv1.1 hv1.2 (fun c2 => ?_) (fun c2 => ?_)
  · have dc2 := c2
    have hW := hW.1 dc2
    refine wp_g (n := 1) (pc' := 29) (L' := [some (.ref 158), some (.int (iI x1)), some (.int (iI x2))]) (st' := [.int (iI 0)]) rfl ?_
    exact wp_zret rfl rfl (by decide) ⟨_, _, _, _, rfl, (by decide), S, hW⟩
  · have dc2 := c2
    have hW := hW.2 dc2
    refine wp_g (n := 1) (pc' := 9) (L' := [some (.ref 158), some (.int (iI x1)), some (.int (iI x2))]) (st' := [.int (iI x2)]) rfl ?_
    refine wp_i2l (a := x2) rfl hx2 ?_
    refine wp_g (n := 2) (pc' := 12) (L' := [some (.ref 158), some (.int (iI x1)), some (.int (iI x2))]) (st' := [.ref 158, .long (lI 0), .long (lI x2)]) rfl ?_
    refine wp_getf (v := .int (iI (m1 158 16))) rfl rfl (S.cell 158 (nc rfl)) (by decide) rfl ?_
    have hr3 : rJ (m1 158 16) := S.rg 158 16 (nl rfl)
    refine wp_g (n := 1) (pc' := 16) (L' := [some (.ref 158), some (.int (iI x1)), some (.int (iI x2))]) (st' := [.int (iI 1), .int (iI (m1 158 16)), .long (lI 0), .long (lI x2)]) rfl ?_
    refine wp_sub (a := (m1 158 16)) (b := 1) rfl ?_
    obtain ⟨p4, hW⟩ := hW
    refine wp_i2l (a := ((m1 158 16) - 1)) rfl p4 ?_
    refine wp_cs (As := [.long (lI x2), .long (lI 0), .long (lI ((m1 158 16) - 1))]) (rest := []) rfl rfl rfl rfl (Nat.le_of_ble_eq_true rfl) (Nat.le_of_ble_eq_true rfl) (hW _ S) (fun r5 H5 q5 => ?_)
    obtain ⟨v5, m5, γ5, t5, rfl, hv5, S, hW⟩ := q5
    show wp _ _ _ _ _ [.int (iI v5)] _ _
    refine wp_ifI (a := v5) rfl rfl hv5.1 hv5.2 (fun c6 => ?_) (fun c6 => ?_)
    · have dc6 := c6
      have hW := hW.1 dc6
      refine wp_g (n := 1) (pc' := 29) (L' := [some (.ref 158), some (.int (iI x1)), some (.int (iI x2))]) (st' := [.int (iI 0)]) rfl ?_
      exact wp_zret rfl rfl (by decide) ⟨_, _, _, _, rfl, (by decide), S, hW⟩
    · have dc6 := c6
      have hW := hW.2 dc6
      refine wp_g (n := 2) (pc' := 29) (L' := [some (.ref 158), some (.int (iI x1)), some (.int (iI x2))]) (st' := [.int (iI 1)]) rfl ?_
      exact wp_zret rfl rfl (by decide) ⟨_, _, _, _, rfl, (by decide), S, hW⟩
abbrev W_X9_isCorner (E : am_E) (k : Nat) (x1 : Int) (x2 : Int) (x3 : Int) (m : MM) (γ : GM) (t : am_H) (Q : Int → MM → GM → am_H → Prop) : Prop := (TI E k 216 [.ref 158, .int (iI x1)] m γ t (fun v1 m1 γ1 t1 => (((v1 = 0) → (Q 0 m1 γ1 t1)) ∧ (¬ (v1 = 0) → (TI E k 203 [.ref 158] m1 γ1 t1 (fun v3 m3 γ3 t3 => (rJ (v3 - 1) ∧ (TI E k 192 [.long (lI x2), .long (lI 0), .long (lI (v3 - 1))] m3 γ3 t3 (fun v5 m5 γ5 t5 => (((v5 = 0) → (Q 0 m5 γ5 t5)) ∧ (¬ (v5 = 0) → (TI E k 192 [.long (lI x3), .long (lI 0), .long (lI 3)] m5 γ5 t5 (fun v7 m7 γ7 t7 => (((v7 = 0) → (Q 0 m7 γ7 t7)) ∧ (¬ (v7 = 0) → (Q 1 m7 γ7 t7))))))))))))))))
theorem vc_X9_isCorner {E : am_E} {k : Nat} {x1 : Int} {x2 : Int} {x3 : Int} {m : MM} {γ : GM} {t : am_H} {Q : Int → MM → GM → am_H → Prop} (hx1 : rJ x1) (hx2 : rJ x2) (hx3 : rJ x3) (hW : W_X9_isCorner E k x1 x2 x3 m γ t Q) : TI E (k + 1) 218 [.ref 158, .int (iI x1), .int (iI x2), .int (iI x3)] m γ t Q := by
  unfold W_X9_isCorner at hW
  intro h S
  refine wp_g (n := 2) (pc' := 2) (L' := [some (.ref 158), some (.int (iI x1)), some (.int (iI x2)), some (.int (iI x3))]) (st' := [.int (iI x1), .ref 158]) rfl ?_
  refine wp_cv (As := [.int (iI x1)]) (rest := []) rfl rfl (S.cell 158 (nc rfl)) (by decide) rfl rfl rfl (Nat.le_of_ble_eq_true rfl) (Nat.le_of_ble_eq_true rfl) (hW _ S) (fun r1 H1 q1 => ?_)
  obtain ⟨v1, m1, γ1, t1, rfl, hv1, S, hW⟩ := q1
  show wp _ _ _ _ _ [.int (iI v1)] _ _
  refine wp_ifI (a := v1) rfl rfl hv1.1 hv1.2 (fun c2 => ?_) (fun c2 => ?_)
  · have dc2 := c2
    have hW := hW.1 dc2
    refine wp_g (n := 1) (pc' := 41) (L' := [some (.ref 158), some (.int (iI x1)), some (.int (iI x2)), some (.int (iI x3))]) (st' := [.int (iI 0)]) rfl ?_
    exact wp_zret rfl rfl (by decide) ⟨_, _, _, _, rfl, (by decide), S, hW⟩
  · have dc2 := c2
    have hW := hW.2 dc2
    refine wp_g (n := 1) (pc' := 9) (L' := [some (.ref 158), some (.int (iI x1)), some (.int (iI x2)), some (.int (iI x3))]) (st' := [.int (iI x2)]) rfl ?_
    refine wp_i2l (a := x2) rfl hx2 ?_
    refine wp_g (n := 2) (pc' := 12) (L' := [some (.ref 158), some (.int (iI x1)), some (.int (iI x2)), some (.int (iI x3))]) (st' := [.ref 158, .long (lI 0), .long (lI x2)]) rfl ?_
    refine wp_cv (As := []) (rest := [.long (lI 0), .long (lI x2)]) rfl rfl (S.cell 158 (nc rfl)) (by decide) rfl rfl rfl (Nat.le_of_ble_eq_true rfl) (Nat.le_of_ble_eq_true rfl) (hW _ S) (fun r3 H3 q3 => ?_)
    obtain ⟨v3, m3, γ3, t3, rfl, hv3, S, hW⟩ := q3
    show wp _ _ _ _ _ [.int (iI v3), .long (lI 0), .long (lI x2)] _ _
    refine wp_g (n := 1) (pc' := 16) (L' := [some (.ref 158), some (.int (iI x1)), some (.int (iI x2)), some (.int (iI x3))]) (st' := [.int (iI 1), .int (iI v3), .long (lI 0), .long (lI x2)]) rfl ?_
    refine wp_sub (a := v3) (b := 1) rfl ?_
    obtain ⟨p4, hW⟩ := hW
    refine wp_i2l (a := (v3 - 1)) rfl p4 ?_
    refine wp_cs (As := [.long (lI x2), .long (lI 0), .long (lI (v3 - 1))]) (rest := []) rfl rfl rfl rfl (Nat.le_of_ble_eq_true rfl) (Nat.le_of_ble_eq_true rfl) (hW _ S) (fun r5 H5 q5 => ?_)
    obtain ⟨v5, m5, γ5, t5, rfl, hv5, S, hW⟩ := q5
    show wp _ _ _ _ _ [.int (iI v5)] _ _
    refine wp_ifI (a := v5) rfl rfl hv5.1 hv5.2 (fun c6 => ?_) (fun c6 => ?_)
    · have dc6 := c6
      have hW := hW.1 dc6
      refine wp_g (n := 1) (pc' := 41) (L' := [some (.ref 158), some (.int (iI x1)), some (.int (iI x2)), some (.int (iI x3))]) (st' := [.int (iI 0)]) rfl ?_
      exact wp_zret rfl rfl (by decide) ⟨_, _, _, _, rfl, (by decide), S, hW⟩
    · have dc6 := c6
      have hW := hW.2 dc6
      refine wp_g (n := 1) (pc' := 25) (L' := [some (.ref 158), some (.int (iI x1)), some (.int (iI x2)), some (.int (iI x3))]) (st' := [.int (iI x3)]) rfl ?_
      refine wp_i2l (a := x3) rfl hx3 ?_
      refine wp_g (n := 2) (pc' := 30) (L' := [some (.ref 158), some (.int (iI x1)), some (.int (iI x2)), some (.int (iI x3))]) (st' := [.long (lI 3), .long (lI 0), .long (lI x3)]) rfl ?_
      refine wp_cs (As := [.long (lI x3), .long (lI 0), .long (lI 3)]) (rest := []) rfl rfl rfl rfl (Nat.le_of_ble_eq_true rfl) (Nat.le_of_ble_eq_true rfl) (hW _ S) (fun r7 H7 q7 => ?_)
      obtain ⟨v7, m7, γ7, t7, rfl, hv7, S, hW⟩ := q7
      show wp _ _ _ _ _ [.int (iI v7)] _ _
      refine wp_ifI (a := v7) rfl rfl hv7.1 hv7.2 (fun c8 => ?_) (fun c8 => ?_)
      · have dc8 := c8
        have hW := hW.1 dc8
        refine wp_g (n := 1) (pc' := 41) (L' := [some (.ref 158), some (.int (iI x1)), some (.int (iI x2)), some (.int (iI x3))]) (st' := [.int (iI 0)]) rfl ?_
        exact wp_zret rfl rfl (by decide) ⟨_, _, _, _, rfl, (by decide), S, hW⟩
      · have dc8 := c8
        have hW := hW.2 dc8
        refine wp_g (n := 2) (pc' := 41) (L' := [some (.ref 158), some (.int (iI x1)), some (.int (iI x2)), some (.int (iI x3))]) (st' := [.int (iI 1)]) rfl ?_
        exact wp_zret rfl rfl (by decide) ⟨_, _, _, _, rfl, (by decide), S, hW⟩
abbrev W_X9_isEdge (E : am_E) (k : Nat) (x1 : Int) (x2 : Int) (m : MM) (γ : GM) (t : am_H) (Q : Int → MM → GM → am_H → Prop) : Prop := (TI E k 216 [.ref 158, .int (iI x1)] m γ t (fun v1 m1 γ1 t1 => (((v1 = 0) → (Q 0 m1 γ1 t1)) ∧ (¬ (v1 = 0) → (rJ ((m1 158 6) - 1) ∧ (TI E k 192 [.long (lI x2), .long (lI 0), .long (lI ((m1 158 6) - 1))] m1 γ1 t1 (fun v5 m5 γ5 t5 => (((v5 = 0) → (Q 0 m5 γ5 t5)) ∧ (¬ (v5 = 0) → (Q 1 m5 γ5 t5))))))))))
theorem vc_X9_isEdge {E : am_E} {k : Nat} {x1 : Int} {x2 : Int} {m : MM} {γ : GM} {t : am_H} {Q : Int → MM → GM → am_H → Prop} (hx1 : rJ x1) (hx2 : rJ x2) (hW : W_X9_isEdge E k x1 x2 m γ t Q) : TI E (k + 1) 219 [.ref 158, .int (iI x1), .int (iI x2)] m γ t Q := by
  unfold W_X9_isEdge at hW
  intro h S
  refine wp_g (n := 2) (pc' := 2) (L' := [some (.ref 158), some (.int (iI x1)), some (.int (iI x2))]) (st' := [.int (iI x1), .ref 158]) rfl ?_
  refine wp_cv (As := [.int (iI x1)]) (rest := []) rfl rfl (S.cell 158 (nc rfl)) (by decide) rfl rfl rfl (Nat.le_of_ble_eq_true rfl) (Nat.le_of_ble_eq_true rfl) (hW _ S) (fun r1 H1 q1 => ?_)
  obtain ⟨v1, m1, γ1, t1, rfl, hv1, S, hW⟩ := q1
  show wp _ _ _ _ _ [.int (iI v1)] _ _
  refine wp_ifI (a := v1) rfl rfl hv1.1 hv1.2 (fun c2 => ?_) (fun c2 => ?_)
  · have dc2 := c2
    have hW := hW.1 dc2
    refine wp_g (n := 1) (pc' := 29) (L' := [some (.ref 158), some (.int (iI x1)), some (.int (iI x2))]) (st' := [.int (iI 0)]) rfl ?_
    exact wp_zret rfl rfl (by decide) ⟨_, _, _, _, rfl, (by decide), S, hW⟩
  · have dc2 := c2
    have hW := hW.2 dc2
    refine wp_g (n := 1) (pc' := 9) (L' := [some (.ref 158), some (.int (iI x1)), some (.int (iI x2))]) (st' := [.int (iI x2)]) rfl ?_
    refine wp_i2l (a := x2) rfl hx2 ?_
    refine wp_g (n := 2) (pc' := 12) (L' := [some (.ref 158), some (.int (iI x1)), some (.int (iI x2))]) (st' := [.ref 158, .long (lI 0), .long (lI x2)]) rfl ?_
    refine wp_getf (v := .int (iI (m1 158 6))) rfl rfl (S.cell 158 (nc rfl)) (by decide) rfl ?_
    have hr3 : rJ (m1 158 6) := S.rg 158 6 (nl rfl)
    refine wp_g (n := 1) (pc' := 16) (L' := [some (.ref 158), some (.int (iI x1)), some (.int (iI x2))]) (st' := [.int (iI 1), .int (iI (m1 158 6)), .long (lI 0), .long (lI x2)]) rfl ?_
    refine wp_sub (a := (m1 158 6)) (b := 1) rfl ?_
    obtain ⟨p4, hW⟩ := hW
    refine wp_i2l (a := ((m1 158 6) - 1)) rfl p4 ?_
    refine wp_cs (As := [.long (lI x2), .long (lI 0), .long (lI ((m1 158 6) - 1))]) (rest := []) rfl rfl rfl rfl (Nat.le_of_ble_eq_true rfl) (Nat.le_of_ble_eq_true rfl) (hW _ S) (fun r5 H5 q5 => ?_)
    obtain ⟨v5, m5, γ5, t5, rfl, hv5, S, hW⟩ := q5
    show wp _ _ _ _ _ [.int (iI v5)] _ _
    refine wp_ifI (a := v5) rfl rfl hv5.1 hv5.2 (fun c6 => ?_) (fun c6 => ?_)
    · have dc6 := c6
      have hW := hW.1 dc6
      refine wp_g (n := 1) (pc' := 29) (L' := [some (.ref 158), some (.int (iI x1)), some (.int (iI x2))]) (st' := [.int (iI 0)]) rfl ?_
      exact wp_zret rfl rfl (by decide) ⟨_, _, _, _, rfl, (by decide), S, hW⟩
    · have dc6 := c6
      have hW := hW.2 dc6
      refine wp_g (n := 2) (pc' := 29) (L' := [some (.ref 158), some (.int (iI x1)), some (.int (iI x2))]) (st' := [.int (iI 1)]) rfl ?_
      exact wp_zret rfl rfl (by decide) ⟨_, _, _, _, rfl, (by decide), S, hW⟩
def hd_X9_feed_42 (E : am_E) (k : Nat) (x1 : Int) (x2 : Int) (x3 : Int) (x4 : Int) (x5 : Int) (F : Nat → Int) (t0 : am_H) (y7 : Int) (m : MM) (γ : GM) (Q : Int → MM → GM → am_H → Prop) : Prop := ∀ (z1 z2 z3 z4 z5 : Option Value), TT (pI Q) E k 220 42 [some (.ref 158), z1, z2, z3, z4, z5, some (.ref (195 + t0.length)), some (.int (iI y7))] [] m γ (t0 ++ [cI 5 F])
abbrev W_X9_feed (E : am_E) (k : Nat) (x1 : Int) (x2 : Int) (x3 : Int) (x4 : Int) (x5 : Int) (m : MM) (γ : GM) (t : am_H) (Q : Int → MM → GM → am_H → Prop) : Prop := ((((m 158 32) ≤ 380) → (t.length < 900000 ∧ (hd_X9_feed_42 E k x1 x2 x3 x4 x5 (up (up (up (up (up (fun _ => 0) 0 x1) 1 x2) 2 x3) 3 x4) 4 x5) t 0 m γ Q))) ∧ (¬ ((m 158 32) ≤ 380) → (Q (-1) m γ t)))
abbrev W_X9_feed_42 (E : am_E) (k : Nat) (x1 : Int) (x2 : Int) (x3 : Int) (x4 : Int) (x5 : Int) (F : Nat → Int) (t0 : am_H) (y7 : Int) (m : MM) (γ : GM) (Q : Int → MM → GM → am_H → Prop) : Prop := (((y7 < 20) → (0 ≤ y7 ∧ ((0 ≤ (y7 / 4) ∧ (y7 / 4) < 5) ∧ (0 ≤ y7 ∧ ((0 ≤ ((m 158 32) + y7) ∧ ((m 158 32) + y7) < 400) ∧ (hd_X9_feed_42 E k x1 x2 x3 x4 x5 F t0 (y7 + 1) (up m 182 (up (m 182) ((((m 158 32) + y7)).toNat) (bAnd (bUshr (F (((y7 / 4)).toNat)) (24 - (8 * (y7 % 4)))) 255))) γ Q)))))) ∧ (¬ (y7 < 20) → (rJ ((m 158 32) + 20) ∧ (Q ((m 158 32) + 20) (up m 158 (up (m 158) 32 ((m 158 32) + 20))) γ (t0 ++ [cI 5 F])))))
theorem vc_X9_feed {E : am_E} {k : Nat} {x1 : Int} {x2 : Int} {x3 : Int} {x4 : Int} {x5 : Int} {m : MM} {γ : GM} {t : am_H} {Q : Int → MM → GM → am_H → Prop} (hx1 : rJ x1) (hx2 : rJ x2) (hx3 : rJ x3) (hx4 : rJ x4) (hx5 : rJ x5) (hW : W_X9_feed E k x1 x2 x3 x4 x5 m γ t Q) : TI E k 220 [.ref 158, .int (iI x1), .int (iI x2), .int (iI x3), .int (iI x4), .int (iI x5)] m γ t Q := by
  unfold W_X9_feed at hW
  intro h S
  refine wp_g (n := 1) (pc' := 1) (L' := [some (.ref 158), some (.int (iI x1)), some (.int (iI x2)), some (.int (iI x3)), some (.int (iI x4)), some (.int (iI x5)), none, none]) (st' := [.ref 158]) rfl ?_
  refine wp_getf (v := .int (iI (m 158 32))) rfl rfl (S.cell 158 (nc rfl)) (by decide) rfl ?_
  have hr1 : rJ (m 158 32) := S.rg 158 32 (nl rfl)
  refine wp_g (n := 1) (pc' := 7) (L' := [some (.ref 158), some (.int (iI x1)), some (.int (iI x2)), some (.int (iI x3)), some (.int (iI x4)), some (.int (iI x5)), none, none]) (st' := [.int (iI 380), .int (iI (m 158 32))]) rfl ?_
  refine wp_icmpI (a := (m 158 32)) (b := 380) rfl rfl hr1.1 hr1.2 (by decide) (by decide) (fun c2 => ?_) (fun c2 => ?_)
  · have dc2 := c2
    have hW := hW.1 dc2
    refine wp_g (n := 1) (pc' := 13) (L' := [some (.ref 158), some (.int (iI x1)), some (.int (iI x2)), some (.int (iI x3)), some (.int (iI x4)), some (.int (iI x5)), none, none]) (st' := [.int (iI 5)]) rfl ?_
    obtain ⟨p3, hW⟩ := hW
    refine wp_newI (n := 5) rfl (by decide) S p3 (fun H4 S => ?_)
    refine wp_g (n := 3) (pc' := 18) (L' := [some (.ref 158), some (.int (iI x1)), some (.int (iI x2)), some (.int (iI x3)), some (.int (iI x4)), some (.int (iI x5)), none, none]) (st' := [.int (iI x1), .int (iI 0), .ref (195 + t.length), .ref (195 + t.length)]) rfl ?_
    refine wp_iasF (n := 5) (F := (fun _ => 0)) (y := x1) rfl S.tl (by decide) (by decide) (by decide) (fun H5 hl5 hz5 hf5 => ?_)
    have S : ST H5 m γ (t ++ [cI 5 (up (fun _ => 0) 0 x1)]) := S.setT hl5 hz5 hf5
    refine wp_g (n := 3) (pc' := 22) (L' := [some (.ref 158), some (.int (iI x1)), some (.int (iI x2)), some (.int (iI x3)), some (.int (iI x4)), some (.int (iI x5)), none, none]) (st' := [.int (iI x2), .int (iI 1), .ref (195 + t.length), .ref (195 + t.length)]) rfl ?_
    refine wp_iasF (n := 5) (F := (up (fun _ => 0) 0 x1)) (y := x2) rfl S.tl (by decide) (by decide) (by decide) (fun H6 hl6 hz6 hf6 => ?_)
    have S : ST H6 m γ (t ++ [cI 5 (up (up (fun _ => 0) 0 x1) 1 x2)]) := S.setT hl6 hz6 hf6
    refine wp_g (n := 3) (pc' := 26) (L' := [some (.ref 158), some (.int (iI x1)), some (.int (iI x2)), some (.int (iI x3)), some (.int (iI x4)), some (.int (iI x5)), none, none]) (st' := [.int (iI x3), .int (iI 2), .ref (195 + t.length), .ref (195 + t.length)]) rfl ?_
    refine wp_iasF (n := 5) (F := (up (up (fun _ => 0) 0 x1) 1 x2)) (y := x3) rfl S.tl (by decide) (by decide) (by decide) (fun H7 hl7 hz7 hf7 => ?_)
    have S : ST H7 m γ (t ++ [cI 5 (up (up (up (fun _ => 0) 0 x1) 1 x2) 2 x3)]) := S.setT hl7 hz7 hf7
    refine wp_g (n := 3) (pc' := 31) (L' := [some (.ref 158), some (.int (iI x1)), some (.int (iI x2)), some (.int (iI x3)), some (.int (iI x4)), some (.int (iI x5)), none, none]) (st' := [.int (iI x4), .int (iI 3), .ref (195 + t.length), .ref (195 + t.length)]) rfl ?_
    refine wp_iasF (n := 5) (F := (up (up (up (fun _ => 0) 0 x1) 1 x2) 2 x3)) (y := x4) rfl S.tl (by decide) (by decide) (by decide) (fun H8 hl8 hz8 hf8 => ?_)
    have S : ST H8 m γ (t ++ [cI 5 (up (up (up (up (fun _ => 0) 0 x1) 1 x2) 2 x3) 3 x4)]) := S.setT hl8 hz8 hf8
    refine wp_g (n := 3) (pc' := 36) (L' := [some (.ref 158), some (.int (iI x1)), some (.int (iI x2)), some (.int (iI x3)), some (.int (iI x4)), some (.int (iI x5)), none, none]) (st' := [.int (iI x5), .int (iI 4), .ref (195 + t.length), .ref (195 + t.length)]) rfl ?_
    refine wp_iasF (n := 5) (F := (up (up (up (up (fun _ => 0) 0 x1) 1 x2) 2 x3) 3 x4)) (y := x5) rfl S.tl (by decide) (by decide) (by decide) (fun H9 hl9 hz9 hf9 => ?_)
    have S : ST H9 m γ (t ++ [cI 5 (up (up (up (up (up (fun _ => 0) 0 x1) 1 x2) 2 x3) 3 x4) 4 x5)]) := S.setT hl9 hz9 hf9
    refine wp_g (n := 3) (pc' := 42) (L' := [some (.ref 158), some (.int (iI x1)), some (.int (iI x2)), some (.int (iI x3)), some (.int (iI x4)), some (.int (iI x5)), some (.ref (195 + t.length)), some (.int (iI 0))]) (st' := []) rfl ?_
    exact hW (some (.int (iI x1))) (some (.int (iI x2))) (some (.int (iI x3))) (some (.int (iI x4))) (some (.int (iI x5))) _ S
  · have dc2 := c2
    have hW := hW.2 dc2
    refine wp_g (n := 1) (pc' := 11) (L' := [some (.ref 158), some (.int (iI x1)), some (.int (iI x2)), some (.int (iI x3)), some (.int (iI x4)), some (.int (iI x5)), none, none]) (st' := [.int (iI (-1))]) rfl ?_
    exact wp_iret rfl rfl ⟨_, _, _, _, rfl, (by decide), S, hW⟩
theorem vc_X9_feed_42 {E : am_E} {k : Nat} {x1 : Int} {x2 : Int} {x3 : Int} {x4 : Int} {x5 : Int} {F : Nat → Int} {t0 : am_H} {y7 : Int} {m : MM} {γ : GM} {Q : Int → MM → GM → am_H → Prop} (hx1 : rJ x1) (hx2 : rJ x2) (hx3 : rJ x3) (hx4 : rJ x4) (hx5 : rJ x5) (ht0 : t0.length < 900000) (hy7 : rJ y7) (hW : W_X9_feed_42 E k x1 x2 x3 x4 x5 F t0 y7 m γ Q) : hd_X9_feed_42 E k x1 x2 x3 x4 x5 F t0 y7 m γ Q := by
  unfold W_X9_feed_42 at hW
  intro z1 z2 z3 z4 z5 h S
  refine wp_g (n := 2) (pc' := 46) (L' := [some (.ref 158), z1, z2, z3, z4, z5, some (.ref (195 + t0.length)), some (.int (iI y7))]) (st' := [.int (iI 20), .int (iI y7)]) rfl ?_
  refine wp_icmpI (a := y7) (b := 20) rfl rfl hy7.1 hy7.2 (by decide) (by decide) (fun c1 => ?_) (fun c1 => ?_)
  · have dc1 := (Int.not_lt.mpr c1)
    have hW := hW.2 dc1
    refine wp_g (n := 2) (pc' := 91) (L' := [some (.ref 158), z1, z2, z3, z4, z5, some (.ref (195 + t0.length)), some (.int (iI y7))]) (st' := [.ref 158, .ref 158]) rfl ?_
    refine wp_getf (v := .int (iI (m 158 32))) rfl rfl (S.cell 158 (nc rfl)) (by decide) rfl ?_
    have hr2 : rJ (m 158 32) := S.rg 158 32 (nl rfl)
    refine wp_g (n := 1) (pc' := 96) (L' := [some (.ref 158), z1, z2, z3, z4, z5, some (.ref (195 + t0.length)), some (.int (iI y7))]) (st' := [.int (iI 20), .int (iI (m 158 32)), .ref 158]) rfl ?_
    refine wp_add (a := (m 158 32)) (b := 20) rfl ?_
    obtain ⟨p4, hW⟩ := hW
    refine wp_putI rfl rfl (S.cell 158 (nc rfl)) (Nat.le_of_ble_eq_true rfl) rfl (fun H3 hl3 hz3 hf3 => ?_)
    have S : ST H3 (up m 158 (up (m 158) 32 ((m 158 32) + 20))) γ (t0 ++ [cI 5 F]) := S.setI 158 (nc rfl) hl3 hz3 hf3 p4.1 p4.2
    refine wp_g (n := 1) (pc' := 101) (L' := [some (.ref 158), z1, z2, z3, z4, z5, some (.ref (195 + t0.length)), some (.int (iI y7))]) (st' := [.ref 158]) rfl ?_
    refine wp_getf (v := .int (iI ((m 158 32) + 20))) rfl rfl (S.cell 158 (nc rfl)) (by decide) rfl ?_
    exact wp_iret rfl rfl ⟨_, _, _, _, rfl, p4, S, hW⟩
  · have dc1 := (Int.not_le.mp c1)
    have hW := hW.1 dc1
    refine wp_g (n := 1) (pc' := 50) (L' := [some (.ref 158), z1, z2, z3, z4, z5, some (.ref (195 + t0.length)), some (.int (iI y7))]) (st' := [.ref 158]) rfl ?_
    refine wp_getf (v := .ref 182) rfl rfl (S.cell 158 (nc rfl)) (by decide) rfl ?_
    refine wp_g (n := 1) (pc' := 54) (L' := [some (.ref 158), z1, z2, z3, z4, z5, some (.ref (195 + t0.length)), some (.int (iI y7))]) (st' := [.ref 158, .ref 182]) rfl ?_
    refine wp_getf (v := .int (iI (m 158 32))) rfl rfl (S.cell 158 (nc rfl)) (by decide) rfl ?_
    have hr5 : rJ (m 158 32) := S.rg 158 32 (nl rfl)
    refine wp_g (n := 1) (pc' := 59) (L' := [some (.ref 158), z1, z2, z3, z4, z5, some (.ref (195 + t0.length)), some (.int (iI y7))]) (st' := [.int (iI y7), .int (iI (m 158 32)), .ref 182]) rfl ?_
    refine wp_add (a := (m 158 32)) (b := y7) rfl ?_
    refine wp_g (n := 3) (pc' := 65) (L' := [some (.ref 158), z1, z2, z3, z4, z5, some (.ref (195 + t0.length)), some (.int (iI y7))]) (st' := [.int (iI 4), .int (iI y7), .ref (195 + t0.length), .int (iI ((m 158 32) + y7)), .ref 182]) rfl ?_
    obtain ⟨p6, hW⟩ := hW
    refine wp_div (a := y7) (b := 4) rfl p6 hy7.2 (by decide) (by decide) ?_
    have hr7 : rJ (y7 / 4) := by have := hy7; omega
    obtain ⟨p8, hW⟩ := hW
    refine wp_iald (n := 5) (F := F) rfl S.tl (by omega) p8.1 p8.2 (by decide) ?_
    refine wp_g (n := 4) (pc' := 74) (L' := [some (.ref 158), z1, z2, z3, z4, z5, some (.ref (195 + t0.length)), some (.int (iI y7))]) (st' := [.int (iI 4), .int (iI y7), .int (iI 8), .int (iI 24), .int (iI (F (((y7 / 4)).toNat))), .int (iI ((m 158 32) + y7)), .ref 182]) rfl ?_
    obtain ⟨p9, hW⟩ := hW
    refine wp_rem (a := y7) (b := 4) rfl p9 hy7.2 (by decide) (by decide) ?_
    have hr10 : rJ (y7 % 4) := by omega
    refine wp_mul (a := 8) (b := (y7 % 4)) rfl ?_
    refine wp_sub (a := 24) (b := (8 * (y7 % 4))) rfl ?_
    refine wp_bUshr (a := (F (((y7 / 4)).toNat))) (b := (24 - (8 * (y7 % 4)))) rfl ?_
    have hr11 : rJ (bUshr (F (((y7 / 4)).toNat)) (24 - (8 * (y7 % 4)))) := i32_rg _
    refine wp_g (n := 1) (pc' := 81) (L' := [some (.ref 158), z1, z2, z3, z4, z5, some (.ref (195 + t0.length)), some (.int (iI y7))]) (st' := [.int (iI 255), .int (iI (bUshr (F (((y7 / 4)).toNat)) (24 - (8 * (y7 % 4))))), .int (iI ((m 158 32) + y7)), .ref 182]) rfl ?_
    refine wp_bAnd (a := (bUshr (F (((y7 / 4)).toNat)) (24 - (8 * (y7 % 4))))) (b := 255) rfl ?_
    have hr12 : rJ (bAnd (bUshr (F (((y7 / 4)).toNat)) (24 - (8 * (y7 % 4)))) 255) := i32_rg _
    obtain ⟨p14, hW⟩ := hW
    refine wp_iasF (n := 400) (F := (m 182)) (y := (bAnd (bUshr (F (((y7 / 4)).toNat)) (24 - (8 * (y7 % 4)))) 255)) rfl (S.cell 182 (nc rfl)) p14.1 p14.2 (by decide) (fun H13 hl13 hz13 hf13 => ?_)
    have S : ST H13 (up m 182 (up (m 182) ((((m 158 32) + y7)).toNat) (bAnd (bUshr (F (((y7 / 4)).toNat)) (24 - (8 * (y7 % 4)))) 255))) γ (t0 ++ [cI 5 F]) := S.setI 182 (nc rfl) hl13 hz13 hf13 hr12.1 hr12.2
    refine wp_iinc (L' := [some (.ref 158), z1, z2, z3, z4, z5, some (.ref (195 + t0.length)), some (.int (iI (y7 + 1)))]) (a := y7) rfl rfl rfl ?_
    refine wp_g (n := 1) (pc' := 42) (L' := [some (.ref 158), z1, z2, z3, z4, z5, some (.ref (195 + t0.length)), some (.int (iI (y7 + 1)))]) (st' := []) rfl ?_
    exact hW z1 z2 z3 z4 z5 _ S
abbrev W_X9_end (E : am_E) (k : Nat) (x1 : Int) (m : MM) (γ : GM) (t : am_H) (Q : Int → MM → GM → am_H → Prop) : Prop := (TI E k 192 [.long (lI x1), .long (lI 0), .long (lI (m 158 32))] m γ t (fun v2 m2 γ2 t2 => (((v2 = 0) → (Q (-1) m2 γ2 t2)) ∧ (¬ (v2 = 0) → (Q x1 (up m2 158 (up (m2 158) 32 x1)) γ2 t2)))))
theorem vc_X9_end {E : am_E} {k : Nat} {x1 : Int} {m : MM} {γ : GM} {t : am_H} {Q : Int → MM → GM → am_H → Prop} (hx1 : rJ x1) (hW : W_X9_end E k x1 m γ t Q) : TI E (k + 1) 221 [.ref 158, .int (iI x1)] m γ t Q := by
  unfold W_X9_end at hW
  intro h S
  refine wp_g (n := 1) (pc' := 1) (L' := [some (.ref 158), some (.int (iI x1))]) (st' := [.int (iI x1)]) rfl ?_
  refine wp_i2l (a := x1) rfl hx1 ?_
  refine wp_g (n := 2) (pc' := 4) (L' := [some (.ref 158), some (.int (iI x1))]) (st' := [.ref 158, .long (lI 0), .long (lI x1)]) rfl ?_
  refine wp_getf (v := .int (iI (m 158 32))) rfl rfl (S.cell 158 (nc rfl)) (by decide) rfl ?_
  have hr1 : rJ (m 158 32) := S.rg 158 32 (nl rfl)
  refine wp_i2l (a := (m 158 32)) rfl hr1 ?_
  refine wp_cs (As := [.long (lI x1), .long (lI 0), .long (lI (m 158 32))]) (rest := []) rfl rfl rfl rfl (Nat.le_of_ble_eq_true rfl) (Nat.le_of_ble_eq_true rfl) (hW _ S) (fun r2 H2 q2 => ?_)
  obtain ⟨v2, m2, γ2, t2, rfl, hv2, S, hW⟩ := q2
  show wp _ _ _ _ _ [.int (iI v2)] _ _
  refine wp_ifI (a := v2) rfl rfl hv2.1 hv2.2 (fun c3 => ?_) (fun c3 => ?_)
  · have dc3 := c3
    have hW := hW.2 dc3
    refine wp_g (n := 2) (pc' := 18) (L' := [some (.ref 158), some (.int (iI x1))]) (st' := [.int (iI x1), .ref 158]) rfl ?_
    refine wp_putI rfl rfl (S.cell 158 (nc rfl)) (Nat.le_of_ble_eq_true rfl) rfl (fun H4 hl4 hz4 hf4 => ?_)
    have S : ST H4 (up m2 158 (up (m2 158) 32 x1)) γ2 t2 := S.setI 158 (nc rfl) hl4 hz4 hf4 hx1.1 hx1.2
    refine wp_g (n := 1) (pc' := 22) (L' := [some (.ref 158), some (.int (iI x1))]) (st' := [.int (iI x1)]) rfl ?_
    exact wp_iret rfl rfl ⟨_, _, _, _, rfl, hx1, S, hW⟩
  · have dc3 := (Classical.not_not.mp c3)
    have hW := hW.1 dc3
    refine wp_g (n := 1) (pc' := 15) (L' := [some (.ref 158), some (.int (iI x1))]) (st' := [.int (iI (-1))]) rfl ?_
    exact wp_iret rfl rfl ⟨_, _, _, _, rfl, (by decide), S, hW⟩
abbrev W_X9_isAt (E : am_E) (k : Nat) (x1 : Int) (x2 : Int) (m : MM) (γ : GM) (t : am_H) (Q : Int → MM → GM → am_H → Prop) : Prop := ((((m 158 35) < (m 158 32)) → ((0 ≤ (m 158 35) ∧ (m 158 35) < 400) ∧ (TI E k 192 [.long (lI (m 182 (((m 158 35)).toNat))), .long (lI x1), .long (lI x2)] m γ t (fun v6 m6 γ6 t6 => (((v6 = 0) → (Q 0 m6 γ6 t6)) ∧ (¬ (v6 = 0) → (Q 1 m6 γ6 t6))))))) ∧ (¬ ((m 158 35) < (m 158 32)) → (Q 0 m γ t)))
theorem vc_X9_isAt {E : am_E} {k : Nat} {x1 : Int} {x2 : Int} {m : MM} {γ : GM} {t : am_H} {Q : Int → MM → GM → am_H → Prop} (hx1 : rJ x1) (hx2 : rJ x2) (hW : W_X9_isAt E k x1 x2 m γ t Q) : TI E (k + 1) 222 [.ref 158, .int (iI x1), .int (iI x2)] m γ t Q := by
  unfold W_X9_isAt at hW
  intro h S
  refine wp_g (n := 1) (pc' := 1) (L' := [some (.ref 158), some (.int (iI x1)), some (.int (iI x2))]) (st' := [.ref 158]) rfl ?_
  refine wp_getf (v := .int (iI (m 158 35))) rfl rfl (S.cell 158 (nc rfl)) (by decide) rfl ?_
  have hr1 : rJ (m 158 35) := S.rg 158 35 (nl rfl)
  refine wp_g (n := 1) (pc' := 5) (L' := [some (.ref 158), some (.int (iI x1)), some (.int (iI x2))]) (st' := [.ref 158, .int (iI (m 158 35))]) rfl ?_
  refine wp_getf (v := .int (iI (m 158 32))) rfl rfl (S.cell 158 (nc rfl)) (by decide) rfl ?_
  have hr2 : rJ (m 158 32) := S.rg 158 32 (nl rfl)
  refine wp_icmpI (a := (m 158 35)) (b := (m 158 32)) rfl rfl hr1.1 hr1.2 hr2.1 hr2.2 (fun c3 => ?_) (fun c3 => ?_)
  · have dc3 := (Int.not_lt.mpr c3)
    have hW := hW.2 dc3
    refine wp_g (n := 1) (pc' := 36) (L' := [some (.ref 158), some (.int (iI x1)), some (.int (iI x2))]) (st' := [.int (iI 0)]) rfl ?_
    exact wp_zret rfl rfl (by decide) ⟨_, _, _, _, rfl, (by decide), S, hW⟩
  · have dc3 := (Int.not_le.mp c3)
    have hW := hW.1 dc3
    refine wp_g (n := 1) (pc' := 12) (L' := [some (.ref 158), some (.int (iI x1)), some (.int (iI x2))]) (st' := [.ref 158]) rfl ?_
    refine wp_getf (v := .ref 182) rfl rfl (S.cell 158 (nc rfl)) (by decide) rfl ?_
    refine wp_g (n := 1) (pc' := 16) (L' := [some (.ref 158), some (.int (iI x1)), some (.int (iI x2))]) (st' := [.ref 158, .ref 182]) rfl ?_
    refine wp_getf (v := .int (iI (m 158 35))) rfl rfl (S.cell 158 (nc rfl)) (by decide) rfl ?_
    obtain ⟨p4, hW⟩ := hW
    refine wp_iald (n := 400) (F := (m 182)) rfl (S.cell 182 (nc rfl)) (by decide) p4.1 p4.2 (by decide) ?_
    show wp _ _ _ _ _ [.int (iI (m 182 (((m 158 35)).toNat)))] _ _
    have hr5 : rJ (m 182 (((m 158 35)).toNat)) := S.rg 182 (((m 158 35)).toNat) (nl rfl)
    refine wp_i2l (a := (m 182 (((m 158 35)).toNat))) rfl hr5 ?_
    refine wp_g (n := 1) (pc' := 22) (L' := [some (.ref 158), some (.int (iI x1)), some (.int (iI x2))]) (st' := [.int (iI x1), .long (lI (m 182 (((m 158 35)).toNat)))]) rfl ?_
    refine wp_i2l (a := x1) rfl hx1 ?_
    refine wp_g (n := 1) (pc' := 24) (L' := [some (.ref 158), some (.int (iI x1)), some (.int (iI x2))]) (st' := [.int (iI x2), .long (lI x1), .long (lI (m 182 (((m 158 35)).toNat)))]) rfl ?_
    refine wp_i2l (a := x2) rfl hx2 ?_
    refine wp_cs (As := [.long (lI (m 182 (((m 158 35)).toNat))), .long (lI x1), .long (lI x2)]) (rest := []) rfl rfl rfl rfl (Nat.le_of_ble_eq_true rfl) (Nat.le_of_ble_eq_true rfl) (hW _ S) (fun r6 H6 q6 => ?_)
    obtain ⟨v6, m6, γ6, t6, rfl, hv6, S, hW⟩ := q6
    show wp _ _ _ _ _ [.int (iI v6)] _ _
    refine wp_ifI (a := v6) rfl rfl hv6.1 hv6.2 (fun c7 => ?_) (fun c7 => ?_)
    · have dc7 := c7
      have hW := hW.1 dc7
      refine wp_g (n := 1) (pc' := 36) (L' := [some (.ref 158), some (.int (iI x1)), some (.int (iI x2))]) (st' := [.int (iI 0)]) rfl ?_
      exact wp_zret rfl rfl (by decide) ⟨_, _, _, _, rfl, (by decide), S, hW⟩
    · have dc7 := c7
      have hW := hW.2 dc7
      refine wp_g (n := 2) (pc' := 36) (L' := [some (.ref 158), some (.int (iI x1)), some (.int (iI x2))]) (st' := [.int (iI 1)]) rfl ?_
      exact wp_zret rfl rfl (by decide) ⟨_, _, _, _, rfl, (by decide), S, hW⟩
def hd_X9_next_0 (E : am_E) (k : Nat) (m : MM) (γ : GM) (t : am_H) (Q : MM → GM → am_H → Prop) : Prop := TT (pV Q) E (k + 1) 223 0 [some (.ref 158)] [] m γ t
def hd_X9_next_123 (E : am_E) (k : Nat) (m : MM) (γ : GM) (t : am_H) (Q : MM → GM → am_H → Prop) : Prop := TT (pV Q) E (k + 1) 223 123 [some (.ref 158)] [] m γ t
def hd_X9_next_83 (E : am_E) (k : Nat) (m : MM) (γ : GM) (t : am_H) (Q : MM → GM → am_H → Prop) : Prop := TT (pV Q) E (k + 1) 223 83 [some (.ref 158)] [] m γ t
abbrev W_X9_next (E : am_E) (k : Nat) (m : MM) (γ : GM) (t : am_H) (Q : MM → GM → am_H → Prop) : Prop := (TI E k 222 [.ref 158, .int (iI 32), .int (iI 32)] m γ t (fun v1 m1 γ1 t1 => (((v1 = 0) → (TI E k 222 [.ref 158, .int (iI 10), .int (iI 10)] m1 γ1 t1 (fun v6 m6 γ6 t6 => (((v6 = 0) → ((((m6 158 35) = (m6 158 32)) → (Q (up (up (up m6 158 (up (m6 158) 36 (m6 158 35))) 158 (up (up (m6 158) 36 (m6 158 35)) 38 0)) 158 (up (up (up (m6 158) 36 (m6 158 35)) 38 0) 37 0)) γ6 t6)) ∧ (¬ ((m6 158 35) = (m6 158 32)) → (TI E k 222 [.ref 158, .int (iI 97), .int (iI 122)] (up (up m6 158 (up (m6 158) 36 (m6 158 35))) 158 (up (up (m6 158) 36 (m6 158 35)) 38 0)) γ6 t6 (fun v13 m13 γ13 t13 => (((v13 = 0) → (TI E k 222 [.ref 158, .int (iI 48), .int (iI 57)] m13 γ13 t13 (fun v15 m15 γ15 t15 => (((v15 = 0) → (rJ ((m15 158 35) + 1) ∧ (Q (up (up m15 158 (up (m15 158) 37 3)) 158 (up (up (m15 158) 37 3) 35 ((m15 158 35) + 1))) γ15 t15))) ∧ (¬ (v15 = 0) → (hd_X9_next_123 E k (up m15 158 (up (m15 158) 37 2)) γ15 t15 Q)))))) ∧ (¬ (v13 = 0) → (hd_X9_next_83 E k (up m13 158 (up (m13 158) 37 1)) γ13 t13 Q)))))))) ∧ (¬ (v6 = 0) → (rJ ((m6 158 35) + 1) ∧ (hd_X9_next_0 E k (up m6 158 (up (m6 158) 35 ((m6 158 35) + 1))) γ6 t6 Q))))))) ∧ (¬ (v1 = 0) → (rJ ((m1 158 35) + 1) ∧ (hd_X9_next_0 E k (up m1 158 (up (m1 158) 35 ((m1 158 35) + 1))) γ1 t1 Q))))))
abbrev W_X9_next_0 (E : am_E) (k : Nat) (m : MM) (γ : GM) (t : am_H) (Q : MM → GM → am_H → Prop) : Prop := (TI E k 222 [.ref 158, .int (iI 32), .int (iI 32)] m γ t (fun v1 m1 γ1 t1 => (((v1 = 0) → (TI E k 222 [.ref 158, .int (iI 10), .int (iI 10)] m1 γ1 t1 (fun v6 m6 γ6 t6 => (((v6 = 0) → ((((m6 158 35) = (m6 158 32)) → (Q (up (up (up m6 158 (up (m6 158) 36 (m6 158 35))) 158 (up (up (m6 158) 36 (m6 158 35)) 38 0)) 158 (up (up (up (m6 158) 36 (m6 158 35)) 38 0) 37 0)) γ6 t6)) ∧ (¬ ((m6 158 35) = (m6 158 32)) → (TI E k 222 [.ref 158, .int (iI 97), .int (iI 122)] (up (up m6 158 (up (m6 158) 36 (m6 158 35))) 158 (up (up (m6 158) 36 (m6 158 35)) 38 0)) γ6 t6 (fun v13 m13 γ13 t13 => (((v13 = 0) → (TI E k 222 [.ref 158, .int (iI 48), .int (iI 57)] m13 γ13 t13 (fun v15 m15 γ15 t15 => (((v15 = 0) → (rJ ((m15 158 35) + 1) ∧ (Q (up (up m15 158 (up (m15 158) 37 3)) 158 (up (up (m15 158) 37 3) 35 ((m15 158 35) + 1))) γ15 t15))) ∧ (¬ (v15 = 0) → (hd_X9_next_123 E k (up m15 158 (up (m15 158) 37 2)) γ15 t15 Q)))))) ∧ (¬ (v13 = 0) → (hd_X9_next_83 E k (up m13 158 (up (m13 158) 37 1)) γ13 t13 Q)))))))) ∧ (¬ (v6 = 0) → (rJ ((m6 158 35) + 1) ∧ (hd_X9_next_0 E k (up m6 158 (up (m6 158) 35 ((m6 158 35) + 1))) γ6 t6 Q))))))) ∧ (¬ (v1 = 0) → (rJ ((m1 158 35) + 1) ∧ (hd_X9_next_0 E k (up m1 158 (up (m1 158) 35 ((m1 158 35) + 1))) γ1 t1 Q))))))
abbrev W_X9_next_123 (E : am_E) (k : Nat) (m : MM) (γ : GM) (t : am_H) (Q : MM → GM → am_H → Prop) : Prop := (TI E k 222 [.ref 158, .int (iI 48), .int (iI 57)] m γ t (fun v1 m1 γ1 t1 => (((v1 = 0) → (Q m1 γ1 t1)) ∧ (¬ (v1 = 0) → ((0 ≤ (m1 158 35) ∧ (m1 158 35) < 400) ∧ (TI E k 312 [.int (iI 1000), .int (iI (((10 * (m1 158 38)) + (m1 182 (((m1 158 35)).toNat))) - 48))] m1 γ1 t1 (fun v7 m7 γ7 t7 => (rJ ((m7 158 35) + 1) ∧ (hd_X9_next_123 E k (up (up m7 158 (up (m7 158) 38 v7)) 158 (up (up (m7 158) 38 v7) 35 ((m7 158 35) + 1))) γ7 t7 Q)))))))))
abbrev W_X9_next_83 (E : am_E) (k : Nat) (m : MM) (γ : GM) (t : am_H) (Q : MM → GM → am_H → Prop) : Prop := (TI E k 222 [.ref 158, .int (iI 97), .int (iI 122)] m γ t (fun v1 m1 γ1 t1 => (((v1 = 0) → (Q m1 γ1 t1)) ∧ (¬ (v1 = 0) → (rJ ((m1 158 35) + 1) ∧ (hd_X9_next_83 E k (up m1 158 (up (m1 158) 35 ((m1 158 35) + 1))) γ1 t1 Q))))))
theorem vc_X9_next {E : am_E} {k : Nat} {m : MM} {γ : GM} {t : am_H} {Q : MM → GM → am_H → Prop} (hW : W_X9_next E k  m γ t Q) : TV E (k + 1) 223 [.ref 158] m γ t Q := by
  unfold W_X9_next at hW
  intro h S
  refine wp_g (n := 3) (pc' := 5) (L' := [some (.ref 158)]) (st' := [.int (iI 32), .int (iI 32), .ref 158]) rfl ?_
  refine wp_cv (As := [.int (iI 32), .int (iI 32)]) (rest := []) rfl rfl (S.cell 158 (nc rfl)) (by decide) rfl rfl rfl (Nat.le_of_ble_eq_true rfl) (Nat.le_of_ble_eq_true rfl) (hW _ S) (fun r1 H1 q1 => ?_)
  obtain ⟨v1, m1, γ1, t1, rfl, hv1, S, hW⟩ := q1
  show wp _ _ _ _ _ [.int (iI v1)] _ _
  refine wp_ifI (a := v1) rfl rfl hv1.1 hv1.2 (fun c2 => ?_) (fun c2 => ?_)
  · have dc2 := c2
    have hW := hW.2 dc2
    refine wp_g (n := 2) (pc' := 24) (L' := [some (.ref 158)]) (st' := [.ref 158, .ref 158]) rfl ?_
    refine wp_getf (v := .int (iI (m1 158 35))) rfl rfl (S.cell 158 (nc rfl)) (by decide) rfl ?_
    have hr3 : rJ (m1 158 35) := S.rg 158 35 (nl rfl)
    refine wp_g (n := 1) (pc' := 28) (L' := [some (.ref 158)]) (st' := [.int (iI 1), .int (iI (m1 158 35)), .ref 158]) rfl ?_
    refine wp_add (a := (m1 158 35)) (b := 1) rfl ?_
    obtain ⟨p5, hW⟩ := hW
    refine wp_putI rfl rfl (S.cell 158 (nc rfl)) (Nat.le_of_ble_eq_true rfl) rfl (fun H4 hl4 hz4 hf4 => ?_)
    have S : ST H4 (up m1 158 (up (m1 158) 35 ((m1 158 35) + 1))) γ1 t1 := S.setI 158 (nc rfl) hl4 hz4 hf4 p5.1 p5.2
    refine wp_g (n := 1) (pc' := 0) (L' := [some (.ref 158)]) (st' := []) rfl ?_
    exact hW _ S
  · have dc2 := (Classical.not_not.mp c2)
    have hW := hW.1 dc2
    refine wp_g (n := 3) (pc' := 16) (L' := [some (.ref 158)]) (st' := [.int (iI 10), .int (iI 10), .ref 158]) rfl ?_
    refine wp_cv (As := [.int (iI 10), .int (iI 10)]) (rest := []) rfl rfl (S.cell 158 (nc rfl)) (by decide) rfl rfl rfl (Nat.le_of_ble_eq_true rfl) (Nat.le_of_ble_eq_true rfl) (hW _ S) (fun r6 H6 q6 => ?_)
    obtain ⟨v6, m6, γ6, t6, rfl, hv6, S, hW⟩ := q6
    show wp _ _ _ _ _ [.int (iI v6)] _ _
    refine wp_ifI (a := v6) rfl rfl hv6.1 hv6.2 (fun c7 => ?_) (fun c7 => ?_)
    · have dc7 := c7
      have hW := hW.1 dc7
      refine wp_g (n := 2) (pc' := 37) (L' := [some (.ref 158)]) (st' := [.ref 158, .ref 158]) rfl ?_
      refine wp_getf (v := .int (iI (m6 158 35))) rfl rfl (S.cell 158 (nc rfl)) (by decide) rfl ?_
      have hr8 : rJ (m6 158 35) := S.rg 158 35 (nl rfl)
      refine wp_putI rfl rfl (S.cell 158 (nc rfl)) (Nat.le_of_ble_eq_true rfl) rfl (fun H9 hl9 hz9 hf9 => ?_)
      have S : ST H9 (up m6 158 (up (m6 158) 36 (m6 158 35))) γ6 t6 := S.setI 158 (nc rfl) hl9 hz9 hf9 hr8.1 hr8.2
      refine wp_g (n := 2) (pc' := 45) (L' := [some (.ref 158)]) (st' := [.int (iI 0), .ref 158]) rfl ?_
      refine wp_putI rfl rfl (S.cell 158 (nc rfl)) (Nat.le_of_ble_eq_true rfl) rfl (fun H10 hl10 hz10 hf10 => ?_)
      have S : ST H10 (up (up m6 158 (up (m6 158) 36 (m6 158 35))) 158 (up (up (m6 158) 36 (m6 158 35)) 38 0)) γ6 t6 := S.setI 158 (nc rfl) hl10 hz10 hf10 (by decide) (by decide)
      refine wp_g (n := 1) (pc' := 49) (L' := [some (.ref 158)]) (st' := [.ref 158]) rfl ?_
      refine wp_getf (v := .int (iI (m6 158 35))) rfl rfl (S.cell 158 (nc rfl)) (by decide) rfl ?_
      refine wp_g (n := 1) (pc' := 53) (L' := [some (.ref 158)]) (st' := [.ref 158, .int (iI (m6 158 35))]) rfl ?_
      refine wp_getf (v := .int (iI (m6 158 32))) rfl rfl (S.cell 158 (nc rfl)) (by decide) rfl ?_
      have hr11 : rJ (m6 158 32) := S.rg 158 32 (nl rfl)
      refine wp_icmpI (a := (m6 158 35)) (b := (m6 158 32)) rfl rfl hr8.1 hr8.2 hr11.1 hr11.2 (fun c12 => ?_) (fun c12 => ?_)
      · have dc12 := c12
        have hW := hW.2 dc12
        refine wp_g (n := 3) (pc' := 72) (L' := [some (.ref 158)]) (st' := [.int (iI 122), .int (iI 97), .ref 158]) rfl ?_
        refine wp_cv (As := [.int (iI 97), .int (iI 122)]) (rest := []) rfl rfl (S.cell 158 (nc rfl)) (by decide) rfl rfl rfl (Nat.le_of_ble_eq_true rfl) (Nat.le_of_ble_eq_true rfl) (hW _ S) (fun r13 H13 q13 => ?_)
        obtain ⟨v13, m13, γ13, t13, rfl, hv13, S, hW⟩ := q13
        show wp _ _ _ _ _ [.int (iI v13)] _ _
        refine wp_ifI (a := v13) rfl rfl hv13.1 hv13.2 (fun c14 => ?_) (fun c14 => ?_)
        · have dc14 := c14
          have hW := hW.1 dc14
          refine wp_g (n := 3) (pc' := 112) (L' := [some (.ref 158)]) (st' := [.int (iI 57), .int (iI 48), .ref 158]) rfl ?_
          refine wp_cv (As := [.int (iI 48), .int (iI 57)]) (rest := []) rfl rfl (S.cell 158 (nc rfl)) (by decide) rfl rfl rfl (Nat.le_of_ble_eq_true rfl) (Nat.le_of_ble_eq_true rfl) (hW _ S) (fun r15 H15 q15 => ?_)
          obtain ⟨v15, m15, γ15, t15, rfl, hv15, S, hW⟩ := q15
          show wp _ _ _ _ _ [.int (iI v15)] _ _
          refine wp_ifI (a := v15) rfl rfl hv15.1 hv15.2 (fun c16 => ?_) (fun c16 => ?_)
          · have dc16 := c16
            have hW := hW.1 dc16
            refine wp_g (n := 2) (pc' := 179) (L' := [some (.ref 158)]) (st' := [.int (iI 3), .ref 158]) rfl ?_
            refine wp_putI rfl rfl (S.cell 158 (nc rfl)) (Nat.le_of_ble_eq_true rfl) rfl (fun H17 hl17 hz17 hf17 => ?_)
            have S : ST H17 (up m15 158 (up (m15 158) 37 3)) γ15 t15 := S.setI 158 (nc rfl) hl17 hz17 hf17 (by decide) (by decide)
            refine wp_g (n := 2) (pc' := 184) (L' := [some (.ref 158)]) (st' := [.ref 158, .ref 158]) rfl ?_
            refine wp_getf (v := .int (iI (m15 158 35))) rfl rfl (S.cell 158 (nc rfl)) (by decide) rfl ?_
            have hr18 : rJ (m15 158 35) := S.rg 158 35 (nl rfl)
            refine wp_g (n := 1) (pc' := 188) (L' := [some (.ref 158)]) (st' := [.int (iI 1), .int (iI (m15 158 35)), .ref 158]) rfl ?_
            refine wp_add (a := (m15 158 35)) (b := 1) rfl ?_
            obtain ⟨p20, hW⟩ := hW
            refine wp_putI rfl rfl (S.cell 158 (nc rfl)) (Nat.le_of_ble_eq_true rfl) rfl (fun H19 hl19 hz19 hf19 => ?_)
            have S : ST H19 (up (up m15 158 (up (m15 158) 37 3)) 158 (up (up (m15 158) 37 3) 35 ((m15 158 35) + 1))) γ15 t15 := S.setI 158 (nc rfl) hl19 hz19 hf19 p20.1 p20.2
            exact wp_vret rfl rfl ⟨_, _, _, rfl, S, hW⟩
          · have dc16 := c16
            have hW := hW.2 dc16
            refine wp_g (n := 2) (pc' := 120) (L' := [some (.ref 158)]) (st' := [.int (iI 2), .ref 158]) rfl ?_
            refine wp_putI rfl rfl (S.cell 158 (nc rfl)) (Nat.le_of_ble_eq_true rfl) rfl (fun H21 hl21 hz21 hf21 => ?_)
            have S : ST H21 (up m15 158 (up (m15 158) 37 2)) γ15 t15 := S.setI 158 (nc rfl) hl21 hz21 hf21 (by decide) (by decide)
            exact hW _ S
        · have dc14 := c14
          have hW := hW.2 dc14
          refine wp_g (n := 2) (pc' := 80) (L' := [some (.ref 158)]) (st' := [.int (iI 1), .ref 158]) rfl ?_
          refine wp_putI rfl rfl (S.cell 158 (nc rfl)) (Nat.le_of_ble_eq_true rfl) rfl (fun H22 hl22 hz22 hf22 => ?_)
          have S : ST H22 (up m13 158 (up (m13 158) 37 1)) γ13 t13 := S.setI 158 (nc rfl) hl22 hz22 hf22 (by decide) (by decide)
          exact hW _ S
      · have dc12 := (Classical.not_not.mp c12)
        have hW := hW.1 dc12
        refine wp_g (n := 2) (pc' := 61) (L' := [some (.ref 158)]) (st' := [.int (iI 0), .ref 158]) rfl ?_
        refine wp_putI rfl rfl (S.cell 158 (nc rfl)) (Nat.le_of_ble_eq_true rfl) rfl (fun H23 hl23 hz23 hf23 => ?_)
        have S : ST H23 (up (up (up m6 158 (up (m6 158) 36 (m6 158 35))) 158 (up (up (m6 158) 36 (m6 158 35)) 38 0)) 158 (up (up (up (m6 158) 36 (m6 158 35)) 38 0) 37 0)) γ6 t6 := S.setI 158 (nc rfl) hl23 hz23 hf23 (by decide) (by decide)
        refine wp_g (n := 1) (pc' := 192) (L' := [some (.ref 158)]) (st' := []) rfl ?_
        exact wp_vret rfl rfl ⟨_, _, _, rfl, S, hW⟩
    · have dc7 := c7
      have hW := hW.2 dc7
      refine wp_g (n := 2) (pc' := 24) (L' := [some (.ref 158)]) (st' := [.ref 158, .ref 158]) rfl ?_
      refine wp_getf (v := .int (iI (m6 158 35))) rfl rfl (S.cell 158 (nc rfl)) (by decide) rfl ?_
      have hr24 : rJ (m6 158 35) := S.rg 158 35 (nl rfl)
      refine wp_g (n := 1) (pc' := 28) (L' := [some (.ref 158)]) (st' := [.int (iI 1), .int (iI (m6 158 35)), .ref 158]) rfl ?_
      refine wp_add (a := (m6 158 35)) (b := 1) rfl ?_
      obtain ⟨p26, hW⟩ := hW
      refine wp_putI rfl rfl (S.cell 158 (nc rfl)) (Nat.le_of_ble_eq_true rfl) rfl (fun H25 hl25 hz25 hf25 => ?_)
      have S : ST H25 (up m6 158 (up (m6 158) 35 ((m6 158 35) + 1))) γ6 t6 := S.setI 158 (nc rfl) hl25 hz25 hf25 p26.1 p26.2
      refine wp_g (n := 1) (pc' := 0) (L' := [some (.ref 158)]) (st' := []) rfl ?_
      exact hW _ S
theorem vc_X9_next_0 {E : am_E} {k : Nat} {m : MM} {γ : GM} {t : am_H} {Q : MM → GM → am_H → Prop} (hW : W_X9_next_0 E k  m γ t Q) : hd_X9_next_0 E k m γ t Q := by
  unfold W_X9_next_0 at hW
  intro h S
  refine wp_g (n := 3) (pc' := 5) (L' := [some (.ref 158)]) (st' := [.int (iI 32), .int (iI 32), .ref 158]) rfl ?_
  refine wp_cv (As := [.int (iI 32), .int (iI 32)]) (rest := []) rfl rfl (S.cell 158 (nc rfl)) (by decide) rfl rfl rfl (Nat.le_of_ble_eq_true rfl) (Nat.le_of_ble_eq_true rfl) (hW _ S) (fun r1 H1 q1 => ?_)
  obtain ⟨v1, m1, γ1, t1, rfl, hv1, S, hW⟩ := q1
  show wp _ _ _ _ _ [.int (iI v1)] _ _
  refine wp_ifI (a := v1) rfl rfl hv1.1 hv1.2 (fun c2 => ?_) (fun c2 => ?_)
  · have dc2 := c2
    have hW := hW.2 dc2
    refine wp_g (n := 2) (pc' := 24) (L' := [some (.ref 158)]) (st' := [.ref 158, .ref 158]) rfl ?_
    refine wp_getf (v := .int (iI (m1 158 35))) rfl rfl (S.cell 158 (nc rfl)) (by decide) rfl ?_
    have hr3 : rJ (m1 158 35) := S.rg 158 35 (nl rfl)
    refine wp_g (n := 1) (pc' := 28) (L' := [some (.ref 158)]) (st' := [.int (iI 1), .int (iI (m1 158 35)), .ref 158]) rfl ?_
    refine wp_add (a := (m1 158 35)) (b := 1) rfl ?_
    obtain ⟨p5, hW⟩ := hW
    refine wp_putI rfl rfl (S.cell 158 (nc rfl)) (Nat.le_of_ble_eq_true rfl) rfl (fun H4 hl4 hz4 hf4 => ?_)
    have S : ST H4 (up m1 158 (up (m1 158) 35 ((m1 158 35) + 1))) γ1 t1 := S.setI 158 (nc rfl) hl4 hz4 hf4 p5.1 p5.2
    refine wp_g (n := 1) (pc' := 0) (L' := [some (.ref 158)]) (st' := []) rfl ?_
    exact hW _ S
  · have dc2 := (Classical.not_not.mp c2)
    have hW := hW.1 dc2
    refine wp_g (n := 3) (pc' := 16) (L' := [some (.ref 158)]) (st' := [.int (iI 10), .int (iI 10), .ref 158]) rfl ?_
    refine wp_cv (As := [.int (iI 10), .int (iI 10)]) (rest := []) rfl rfl (S.cell 158 (nc rfl)) (by decide) rfl rfl rfl (Nat.le_of_ble_eq_true rfl) (Nat.le_of_ble_eq_true rfl) (hW _ S) (fun r6 H6 q6 => ?_)
    obtain ⟨v6, m6, γ6, t6, rfl, hv6, S, hW⟩ := q6
    show wp _ _ _ _ _ [.int (iI v6)] _ _
    refine wp_ifI (a := v6) rfl rfl hv6.1 hv6.2 (fun c7 => ?_) (fun c7 => ?_)
    · have dc7 := c7
      have hW := hW.1 dc7
      refine wp_g (n := 2) (pc' := 37) (L' := [some (.ref 158)]) (st' := [.ref 158, .ref 158]) rfl ?_
      refine wp_getf (v := .int (iI (m6 158 35))) rfl rfl (S.cell 158 (nc rfl)) (by decide) rfl ?_
      have hr8 : rJ (m6 158 35) := S.rg 158 35 (nl rfl)
      refine wp_putI rfl rfl (S.cell 158 (nc rfl)) (Nat.le_of_ble_eq_true rfl) rfl (fun H9 hl9 hz9 hf9 => ?_)
      have S : ST H9 (up m6 158 (up (m6 158) 36 (m6 158 35))) γ6 t6 := S.setI 158 (nc rfl) hl9 hz9 hf9 hr8.1 hr8.2
      refine wp_g (n := 2) (pc' := 45) (L' := [some (.ref 158)]) (st' := [.int (iI 0), .ref 158]) rfl ?_
      refine wp_putI rfl rfl (S.cell 158 (nc rfl)) (Nat.le_of_ble_eq_true rfl) rfl (fun H10 hl10 hz10 hf10 => ?_)
      have S : ST H10 (up (up m6 158 (up (m6 158) 36 (m6 158 35))) 158 (up (up (m6 158) 36 (m6 158 35)) 38 0)) γ6 t6 := S.setI 158 (nc rfl) hl10 hz10 hf10 (by decide) (by decide)
      refine wp_g (n := 1) (pc' := 49) (L' := [some (.ref 158)]) (st' := [.ref 158]) rfl ?_
      refine wp_getf (v := .int (iI (m6 158 35))) rfl rfl (S.cell 158 (nc rfl)) (by decide) rfl ?_
      refine wp_g (n := 1) (pc' := 53) (L' := [some (.ref 158)]) (st' := [.ref 158, .int (iI (m6 158 35))]) rfl ?_
      refine wp_getf (v := .int (iI (m6 158 32))) rfl rfl (S.cell 158 (nc rfl)) (by decide) rfl ?_
      have hr11 : rJ (m6 158 32) := S.rg 158 32 (nl rfl)
      refine wp_icmpI (a := (m6 158 35)) (b := (m6 158 32)) rfl rfl hr8.1 hr8.2 hr11.1 hr11.2 (fun c12 => ?_) (fun c12 => ?_)
      · have dc12 := c12
        have hW := hW.2 dc12
        refine wp_g (n := 3) (pc' := 72) (L' := [some (.ref 158)]) (st' := [.int (iI 122), .int (iI 97), .ref 158]) rfl ?_
        refine wp_cv (As := [.int (iI 97), .int (iI 122)]) (rest := []) rfl rfl (S.cell 158 (nc rfl)) (by decide) rfl rfl rfl (Nat.le_of_ble_eq_true rfl) (Nat.le_of_ble_eq_true rfl) (hW _ S) (fun r13 H13 q13 => ?_)
        obtain ⟨v13, m13, γ13, t13, rfl, hv13, S, hW⟩ := q13
        show wp _ _ _ _ _ [.int (iI v13)] _ _
        refine wp_ifI (a := v13) rfl rfl hv13.1 hv13.2 (fun c14 => ?_) (fun c14 => ?_)
        · have dc14 := c14
          have hW := hW.1 dc14
          refine wp_g (n := 3) (pc' := 112) (L' := [some (.ref 158)]) (st' := [.int (iI 57), .int (iI 48), .ref 158]) rfl ?_
          refine wp_cv (As := [.int (iI 48), .int (iI 57)]) (rest := []) rfl rfl (S.cell 158 (nc rfl)) (by decide) rfl rfl rfl (Nat.le_of_ble_eq_true rfl) (Nat.le_of_ble_eq_true rfl) (hW _ S) (fun r15 H15 q15 => ?_)
          obtain ⟨v15, m15, γ15, t15, rfl, hv15, S, hW⟩ := q15
          show wp _ _ _ _ _ [.int (iI v15)] _ _
          refine wp_ifI (a := v15) rfl rfl hv15.1 hv15.2 (fun c16 => ?_) (fun c16 => ?_)
          · have dc16 := c16
            have hW := hW.1 dc16
            refine wp_g (n := 2) (pc' := 179) (L' := [some (.ref 158)]) (st' := [.int (iI 3), .ref 158]) rfl ?_
            refine wp_putI rfl rfl (S.cell 158 (nc rfl)) (Nat.le_of_ble_eq_true rfl) rfl (fun H17 hl17 hz17 hf17 => ?_)
            have S : ST H17 (up m15 158 (up (m15 158) 37 3)) γ15 t15 := S.setI 158 (nc rfl) hl17 hz17 hf17 (by decide) (by decide)
            refine wp_g (n := 2) (pc' := 184) (L' := [some (.ref 158)]) (st' := [.ref 158, .ref 158]) rfl ?_
            refine wp_getf (v := .int (iI (m15 158 35))) rfl rfl (S.cell 158 (nc rfl)) (by decide) rfl ?_
            have hr18 : rJ (m15 158 35) := S.rg 158 35 (nl rfl)
            refine wp_g (n := 1) (pc' := 188) (L' := [some (.ref 158)]) (st' := [.int (iI 1), .int (iI (m15 158 35)), .ref 158]) rfl ?_
            refine wp_add (a := (m15 158 35)) (b := 1) rfl ?_
            obtain ⟨p20, hW⟩ := hW
            refine wp_putI rfl rfl (S.cell 158 (nc rfl)) (Nat.le_of_ble_eq_true rfl) rfl (fun H19 hl19 hz19 hf19 => ?_)
            have S : ST H19 (up (up m15 158 (up (m15 158) 37 3)) 158 (up (up (m15 158) 37 3) 35 ((m15 158 35) + 1))) γ15 t15 := S.setI 158 (nc rfl) hl19 hz19 hf19 p20.1 p20.2
            exact wp_vret rfl rfl ⟨_, _, _, rfl, S, hW⟩
          · have dc16 := c16
            have hW := hW.2 dc16
            refine wp_g (n := 2) (pc' := 120) (L' := [some (.ref 158)]) (st' := [.int (iI 2), .ref 158]) rfl ?_
            refine wp_putI rfl rfl (S.cell 158 (nc rfl)) (Nat.le_of_ble_eq_true rfl) rfl (fun H21 hl21 hz21 hf21 => ?_)
            have S : ST H21 (up m15 158 (up (m15 158) 37 2)) γ15 t15 := S.setI 158 (nc rfl) hl21 hz21 hf21 (by decide) (by decide)
            exact hW _ S
        · have dc14 := c14
          have hW := hW.2 dc14
          refine wp_g (n := 2) (pc' := 80) (L' := [some (.ref 158)]) (st' := [.int (iI 1), .ref 158]) rfl ?_
          refine wp_putI rfl rfl (S.cell 158 (nc rfl)) (Nat.le_of_ble_eq_true rfl) rfl (fun H22 hl22 hz22 hf22 => ?_)
          have S : ST H22 (up m13 158 (up (m13 158) 37 1)) γ13 t13 := S.setI 158 (nc rfl) hl22 hz22 hf22 (by decide) (by decide)
          exact hW _ S
      · have dc12 := (Classical.not_not.mp c12)
        have hW := hW.1 dc12
        refine wp_g (n := 2) (pc' := 61) (L' := [some (.ref 158)]) (st' := [.int (iI 0), .ref 158]) rfl ?_
        refine wp_putI rfl rfl (S.cell 158 (nc rfl)) (Nat.le_of_ble_eq_true rfl) rfl (fun H23 hl23 hz23 hf23 => ?_)
        have S : ST H23 (up (up (up m6 158 (up (m6 158) 36 (m6 158 35))) 158 (up (up (m6 158) 36 (m6 158 35)) 38 0)) 158 (up (up (up (m6 158) 36 (m6 158 35)) 38 0) 37 0)) γ6 t6 := S.setI 158 (nc rfl) hl23 hz23 hf23 (by decide) (by decide)
        refine wp_g (n := 1) (pc' := 192) (L' := [some (.ref 158)]) (st' := []) rfl ?_
        exact wp_vret rfl rfl ⟨_, _, _, rfl, S, hW⟩
    · have dc7 := c7
      have hW := hW.2 dc7
      refine wp_g (n := 2) (pc' := 24) (L' := [some (.ref 158)]) (st' := [.ref 158, .ref 158]) rfl ?_
      refine wp_getf (v := .int (iI (m6 158 35))) rfl rfl (S.cell 158 (nc rfl)) (by decide) rfl ?_
      have hr24 : rJ (m6 158 35) := S.rg 158 35 (nl rfl)
      refine wp_g (n := 1) (pc' := 28) (L' := [some (.ref 158)]) (st' := [.int (iI 1), .int (iI (m6 158 35)), .ref 158]) rfl ?_
      refine wp_add (a := (m6 158 35)) (b := 1) rfl ?_
      obtain ⟨p26, hW⟩ := hW
      refine wp_putI rfl rfl (S.cell 158 (nc rfl)) (Nat.le_of_ble_eq_true rfl) rfl (fun H25 hl25 hz25 hf25 => ?_)
      have S : ST H25 (up m6 158 (up (m6 158) 35 ((m6 158 35) + 1))) γ6 t6 := S.setI 158 (nc rfl) hl25 hz25 hf25 p26.1 p26.2
      refine wp_g (n := 1) (pc' := 0) (L' := [some (.ref 158)]) (st' := []) rfl ?_
      exact hW _ S
theorem vc_X9_next_123 {E : am_E} {k : Nat} {m : MM} {γ : GM} {t : am_H} {Q : MM → GM → am_H → Prop} (hW : W_X9_next_123 E k  m γ t Q) : hd_X9_next_123 E k m γ t Q := by
  unfold W_X9_next_123 at hW
  intro h S
  refine wp_g (n := 3) (pc' := 128) (L' := [some (.ref 158)]) (st' := [.int (iI 57), .int (iI 48), .ref 158]) rfl ?_
  refine wp_cv (As := [.int (iI 48), .int (iI 57)]) (rest := []) rfl rfl (S.cell 158 (nc rfl)) (by decide) rfl rfl rfl (Nat.le_of_ble_eq_true rfl) (Nat.le_of_ble_eq_true rfl) (hW _ S) (fun r1 H1 q1 => ?_)
  obtain ⟨v1, m1, γ1, t1, rfl, hv1, S, hW⟩ := q1
  show wp _ _ _ _ _ [.int (iI v1)] _ _
  refine wp_ifI (a := v1) rfl rfl hv1.1 hv1.2 (fun c2 => ?_) (fun c2 => ?_)
  · have dc2 := c2
    have hW := hW.1 dc2
    exact wp_vret rfl rfl ⟨_, _, _, rfl, S, hW⟩
  · have dc2 := c2
    have hW := hW.2 dc2
    refine wp_g (n := 4) (pc' := 141) (L' := [some (.ref 158)]) (st' := [.ref 158, .int (iI 10), .int (iI 1000), .ref 158]) rfl ?_
    refine wp_getf (v := .int (iI (m1 158 38))) rfl rfl (S.cell 158 (nc rfl)) (by decide) rfl ?_
    have hr3 : rJ (m1 158 38) := S.rg 158 38 (nl rfl)
    refine wp_mul (a := 10) (b := (m1 158 38)) rfl ?_
    refine wp_g (n := 1) (pc' := 146) (L' := [some (.ref 158)]) (st' := [.ref 158, .int (iI (10 * (m1 158 38))), .int (iI 1000), .ref 158]) rfl ?_
    refine wp_getf (v := .ref 182) rfl rfl (S.cell 158 (nc rfl)) (by decide) rfl ?_
    refine wp_g (n := 1) (pc' := 150) (L' := [some (.ref 158)]) (st' := [.ref 158, .ref 182, .int (iI (10 * (m1 158 38))), .int (iI 1000), .ref 158]) rfl ?_
    refine wp_getf (v := .int (iI (m1 158 35))) rfl rfl (S.cell 158 (nc rfl)) (by decide) rfl ?_
    have hr4 : rJ (m1 158 35) := S.rg 158 35 (nl rfl)
    obtain ⟨p5, hW⟩ := hW
    refine wp_iald (n := 400) (F := (m1 182)) rfl (S.cell 182 (nc rfl)) (by decide) p5.1 p5.2 (by decide) ?_
    show wp _ _ _ _ _ [.int (iI (m1 182 (((m1 158 35)).toNat))), .int (iI (10 * (m1 158 38))), .int (iI 1000), .ref 158] _ _
    have hr6 : rJ (m1 182 (((m1 158 35)).toNat)) := S.rg 182 (((m1 158 35)).toNat) (nl rfl)
    refine wp_add (a := (10 * (m1 158 38))) (b := (m1 182 (((m1 158 35)).toNat))) rfl ?_
    refine wp_g (n := 1) (pc' := 157) (L' := [some (.ref 158)]) (st' := [.int (iI 48), .int (iI ((10 * (m1 158 38)) + (m1 182 (((m1 158 35)).toNat)))), .int (iI 1000), .ref 158]) rfl ?_
    refine wp_sub (a := ((10 * (m1 158 38)) + (m1 182 (((m1 158 35)).toNat)))) (b := 48) rfl ?_
    refine wp_cs (As := [.int (iI 1000), .int (iI (((10 * (m1 158 38)) + (m1 182 (((m1 158 35)).toNat))) - 48))]) (rest := [.ref 158]) rfl rfl rfl rfl (Nat.le_of_ble_eq_true rfl) (Nat.le_of_ble_eq_true rfl) (hW _ S) (fun r7 H7 q7 => ?_)
    obtain ⟨v7, m7, γ7, t7, rfl, hv7, S, hW⟩ := q7
    show wp _ _ _ _ _ [.int (iI v7), .ref 158] _ _
    refine wp_putI rfl rfl (S.cell 158 (nc rfl)) (Nat.le_of_ble_eq_true rfl) rfl (fun H8 hl8 hz8 hf8 => ?_)
    have S : ST H8 (up m7 158 (up (m7 158) 38 v7)) γ7 t7 := S.setI 158 (nc rfl) hl8 hz8 hf8 hv7.1 hv7.2
    refine wp_g (n := 2) (pc' := 166) (L' := [some (.ref 158)]) (st' := [.ref 158, .ref 158]) rfl ?_
    refine wp_getf (v := .int (iI (m7 158 35))) rfl rfl (S.cell 158 (nc rfl)) (by decide) rfl ?_
    have hr9 : rJ (m7 158 35) := S.rg 158 35 (nl rfl)
    refine wp_g (n := 1) (pc' := 170) (L' := [some (.ref 158)]) (st' := [.int (iI 1), .int (iI (m7 158 35)), .ref 158]) rfl ?_
    refine wp_add (a := (m7 158 35)) (b := 1) rfl ?_
    obtain ⟨p11, hW⟩ := hW
    refine wp_putI rfl rfl (S.cell 158 (nc rfl)) (Nat.le_of_ble_eq_true rfl) rfl (fun H10 hl10 hz10 hf10 => ?_)
    have S : ST H10 (up (up m7 158 (up (m7 158) 38 v7)) 158 (up (up (m7 158) 38 v7) 35 ((m7 158 35) + 1))) γ7 t7 := S.setI 158 (nc rfl) hl10 hz10 hf10 p11.1 p11.2
    refine wp_g (n := 1) (pc' := 123) (L' := [some (.ref 158)]) (st' := []) rfl ?_
    exact hW _ S
theorem vc_X9_next_83 {E : am_E} {k : Nat} {m : MM} {γ : GM} {t : am_H} {Q : MM → GM → am_H → Prop} (hW : W_X9_next_83 E k  m γ t Q) : hd_X9_next_83 E k m γ t Q := by
  unfold W_X9_next_83 at hW
  intro h S
  refine wp_g (n := 3) (pc' := 88) (L' := [some (.ref 158)]) (st' := [.int (iI 122), .int (iI 97), .ref 158]) rfl ?_
  refine wp_cv (As := [.int (iI 97), .int (iI 122)]) (rest := []) rfl rfl (S.cell 158 (nc rfl)) (by decide) rfl rfl rfl (Nat.le_of_ble_eq_true rfl) (Nat.le_of_ble_eq_true rfl) (hW _ S) (fun r1 H1 q1 => ?_)
  obtain ⟨v1, m1, γ1, t1, rfl, hv1, S, hW⟩ := q1
  show wp _ _ _ _ _ [.int (iI v1)] _ _
  refine wp_ifI (a := v1) rfl rfl hv1.1 hv1.2 (fun c2 => ?_) (fun c2 => ?_)
  · have dc2 := c2
    have hW := hW.1 dc2
    exact wp_vret rfl rfl ⟨_, _, _, rfl, S, hW⟩
  · have dc2 := c2
    have hW := hW.2 dc2
    refine wp_g (n := 2) (pc' := 96) (L' := [some (.ref 158)]) (st' := [.ref 158, .ref 158]) rfl ?_
    refine wp_getf (v := .int (iI (m1 158 35))) rfl rfl (S.cell 158 (nc rfl)) (by decide) rfl ?_
    have hr3 : rJ (m1 158 35) := S.rg 158 35 (nl rfl)
    refine wp_g (n := 1) (pc' := 100) (L' := [some (.ref 158)]) (st' := [.int (iI 1), .int (iI (m1 158 35)), .ref 158]) rfl ?_
    refine wp_add (a := (m1 158 35)) (b := 1) rfl ?_
    obtain ⟨p5, hW⟩ := hW
    refine wp_putI rfl rfl (S.cell 158 (nc rfl)) (Nat.le_of_ble_eq_true rfl) rfl (fun H4 hl4 hz4 hf4 => ?_)
    have S : ST H4 (up m1 158 (up (m1 158) 35 ((m1 158 35) + 1))) γ1 t1 := S.setI 158 (nc rfl) hl4 hz4 hf4 p5.1 p5.2
    refine wp_g (n := 1) (pc' := 83) (L' := [some (.ref 158)]) (st' := []) rfl ?_
    exact hW _ S
abbrev W_X9_faults (E : am_E) (k : Nat) (x1 : Int) (m : MM) (γ : GM) (t : am_H) (Q : MM → GM → am_H → Prop) : Prop := ((((m 158 39) = 0) → (Q (up (up (up m 158 (up (m 158) 39 1)) 158 (up (up (m 158) 39 1) 33 x1)) 158 (up (up (up (m 158) 39 1) 33 x1) 34 (m 158 36))) γ t)) ∧ (¬ ((m 158 39) = 0) → (Q m γ t)))
theorem vc_X9_faults {E : am_E} {k : Nat} {x1 : Int} {m : MM} {γ : GM} {t : am_H} {Q : MM → GM → am_H → Prop} (hx1 : rJ x1) (hW : W_X9_faults E k x1 m γ t Q) : TV E k 224 [.ref 158, .int (iI x1)] m γ t Q := by
  unfold W_X9_faults at hW
  intro h S
  refine wp_g (n := 1) (pc' := 1) (L' := [some (.ref 158), some (.int (iI x1))]) (st' := [.ref 158]) rfl ?_
  refine wp_getf (v := .int (iI (m 158 39))) rfl rfl (S.cell 158 (nc rfl)) (by decide) rfl ?_
  have hr1 : rJ (m 158 39) := S.rg 158 39 (nl rfl)
  refine wp_ifI (a := (m 158 39)) rfl rfl hr1.1 hr1.2 (fun c2 => ?_) (fun c2 => ?_)
  · have dc2 := c2
    have hW := hW.2 dc2
    exact wp_vret rfl rfl ⟨_, _, _, rfl, S, hW⟩
  · have dc2 := (Classical.not_not.mp c2)
    have hW := hW.1 dc2
    refine wp_g (n := 2) (pc' := 9) (L' := [some (.ref 158), some (.int (iI x1))]) (st' := [.int (iI 1), .ref 158]) rfl ?_
    refine wp_putZ rfl rfl (S.cell 158 (nc rfl)) (Nat.le_of_ble_eq_true rfl) rfl (by decide) (fun H3 hl3 hz3 hf3 => ?_)
    have S : ST H3 (up m 158 (up (m 158) 39 1)) γ t := S.setI 158 (nc rfl) hl3 hz3 hf3 (by decide) (by decide)
    refine wp_g (n := 2) (pc' := 14) (L' := [some (.ref 158), some (.int (iI x1))]) (st' := [.int (iI x1), .ref 158]) rfl ?_
    refine wp_putI rfl rfl (S.cell 158 (nc rfl)) (Nat.le_of_ble_eq_true rfl) rfl (fun H4 hl4 hz4 hf4 => ?_)
    have S : ST H4 (up (up m 158 (up (m 158) 39 1)) 158 (up (up (m 158) 39 1) 33 x1)) γ t := S.setI 158 (nc rfl) hl4 hz4 hf4 hx1.1 hx1.2
    refine wp_g (n := 2) (pc' := 19) (L' := [some (.ref 158), some (.int (iI x1))]) (st' := [.ref 158, .ref 158]) rfl ?_
    refine wp_getf (v := .int (iI (m 158 36))) rfl rfl (S.cell 158 (nc rfl)) (by decide) rfl ?_
    have hr5 : rJ (m 158 36) := S.rg 158 36 (nl rfl)
    refine wp_putI rfl rfl (S.cell 158 (nc rfl)) (Nat.le_of_ble_eq_true rfl) rfl (fun H6 hl6 hz6 hf6 => ?_)
    have S : ST H6 (up (up (up m 158 (up (m 158) 39 1)) 158 (up (up (m 158) 39 1) 33 x1)) 158 (up (up (up (m 158) 39 1) 33 x1) 34 (m 158 36))) γ t := S.setI 158 (nc rfl) hl6 hz6 hf6 hr5.1 hr5.2
    exact wp_vret rfl rfl ⟨_, _, _, rfl, S, hW⟩
abbrev W_X9_passes_ (E : am_E) (k : Nat) (m : MM) (γ : GM) (t : am_H) (Q : MM → GM → am_H → Prop) : Prop := ((((m 158 39) = 0) → (TV E k 223 [.ref 158] m γ t (fun m3 γ3 t3 => (Q m3 γ3 t3)))) ∧ (¬ ((m 158 39) = 0) → (Q m γ t)))
theorem vc_X9_passes_ {E : am_E} {k : Nat} {m : MM} {γ : GM} {t : am_H} {Q : MM → GM → am_H → Prop} (hW : W_X9_passes_ E k  m γ t Q) : TV E (k + 1) 225 [.ref 158] m γ t Q := by
  unfold W_X9_passes_ at hW
  intro h S
  refine wp_g (n := 1) (pc' := 1) (L' := [some (.ref 158)]) (st' := [.ref 158]) rfl ?_
  refine wp_getf (v := .int (iI (m 158 39))) rfl rfl (S.cell 158 (nc rfl)) (by decide) rfl ?_
  have hr1 : rJ (m 158 39) := S.rg 158 39 (nl rfl)
  refine wp_ifI (a := (m 158 39)) rfl rfl hr1.1 hr1.2 (fun c2 => ?_) (fun c2 => ?_)
  · have dc2 := c2
    have hW := hW.2 dc2
    exact wp_vret rfl rfl ⟨_, _, _, rfl, S, hW⟩
  · have dc2 := (Classical.not_not.mp c2)
    have hW := hW.1 dc2
    refine wp_g (n := 1) (pc' := 8) (L' := [some (.ref 158)]) (st' := [.ref 158]) rfl ?_
    refine wp_cv (As := []) (rest := []) rfl rfl (S.cell 158 (nc rfl)) (by decide) rfl rfl rfl (Nat.le_of_ble_eq_true rfl) (Nat.le_of_ble_eq_true rfl) (hW _ S) (fun r3 H3 q3 => ?_)
    obtain ⟨m3, γ3, t3, rfl, S, hW⟩ := q3
    show wp _ _ _ _ _ [] _ _
    exact wp_vret rfl rfl ⟨_, _, _, rfl, S, hW⟩
def hd_X9_isWord_39 (E : am_E) (k : Nat) (w1 : Nat) (y2 : Int) (y3 : Int) (m : MM) (γ : GM) (t : am_H) (Q : Int → MM → GM → am_H → Prop) : Prop := TT (pI Q) E (k + 1) 226 39 [some (.ref 158), some (.ref w1), some (.int (iI y2)), some (.int (iI y3))] [] m γ t
abbrev W_X9_isWord (E : am_E) (k : Nat) (w1 : Nat) (m : MM) (γ : GM) (t : am_H) (Q : Int → MM → GM → am_H → Prop) : Prop := ((((m 158 39) = 0) → ((((m 158 37) = 1) → (TI E k 313 [.ref w1] m γ t (fun v7 m7 γ7 t7 => (rJ ((m 158 35) - (m 158 36)) ∧ (((((m 158 35) - (m 158 36)) = v7) → (hd_X9_isWord_39 E k w1 1 0 m7 γ7 t7 Q)) ∧ (¬ (((m 158 35) - (m 158 36)) = v7) → (hd_X9_isWord_39 E k w1 0 0 m7 γ7 t7 Q))))))) ∧ (¬ ((m 158 37) = 1) → (hd_X9_isWord_39 E k w1 0 0 m γ t Q)))) ∧ (¬ ((m 158 39) = 0) → (hd_X9_isWord_39 E k w1 0 0 m γ t Q)))
abbrev W_X9_isWord_39 (E : am_E) (k : Nat) (w1 : Nat) (y2 : Int) (y3 : Int) (m : MM) (γ : GM) (t : am_H) (Q : Int → MM → GM → am_H → Prop) : Prop := (TI E k 313 [.ref w1] m γ t (fun v1 m1 γ1 t1 => (((y3 < v1) → (((y2 = 0) → ((y2 = 0 ∨ y2 = 1) ∧ (Q y2 m1 γ1 t1))) ∧ (¬ (y2 = 0) → ((0 ≤ ((m1 158 36) + y3) ∧ ((m1 158 36) + y3) < 400) ∧ (TI E k 314 [.ref w1, .int (iI y3)] m1 γ1 t1 (fun v9 m9 γ9 t9 => ((((m1 182 ((((m1 158 36) + y3)).toNat)) = v9) → (hd_X9_isWord_39 E k w1 1 (y3 + 1) m9 γ9 t9 Q)) ∧ (¬ ((m1 182 ((((m1 158 36) + y3)).toNat)) = v9) → (hd_X9_isWord_39 E k w1 0 (y3 + 1) m9 γ9 t9 Q))))))))) ∧ (¬ (y3 < v1) → ((y2 = 0 ∨ y2 = 1) ∧ (Q y2 m1 γ1 t1))))))
theorem vc_X9_isWord {E : am_E} {k : Nat} {w1 : Nat} {m : MM} {γ : GM} {t : am_H} {Q : Int → MM → GM → am_H → Prop} (hw1 : isS w1) (hW : W_X9_isWord E k w1 m γ t Q) : TI E (k + 1) 226 [.ref 158, .ref w1] m γ t Q := by
  unfold W_X9_isWord at hW
  intro h S
  refine wp_g (n := 1) (pc' := 1) (L' := [some (.ref 158), some (.ref w1), none, none]) (st' := [.ref 158]) rfl ?_
  refine wp_getf (v := .int (iI (m 158 39))) rfl rfl (S.cell 158 (nc rfl)) (by decide) rfl ?_
  have hr1 : rJ (m 158 39) := S.rg 158 39 (nl rfl)
  refine wp_ifI (a := (m 158 39)) rfl rfl hr1.1 hr1.2 (fun c2 => ?_) (fun c2 => ?_)
  · have dc2 := c2
    have hW := hW.2 dc2
    refine wp_g (n := 4) (pc' := 39) (L' := [some (.ref 158), some (.ref w1), some (.int (iI 0)), some (.int (iI 0))]) (st' := []) rfl ?_
    exact hW _ S
  · have dc2 := (Classical.not_not.mp c2)
    have hW := hW.1 dc2
    refine wp_g (n := 1) (pc' := 8) (L' := [some (.ref 158), some (.ref w1), none, none]) (st' := [.ref 158]) rfl ?_
    refine wp_getf (v := .int (iI (m 158 37))) rfl rfl (S.cell 158 (nc rfl)) (by decide) rfl ?_
    have hr3 : rJ (m 158 37) := S.rg 158 37 (nl rfl)
    refine wp_g (n := 1) (pc' := 12) (L' := [some (.ref 158), some (.ref w1), none, none]) (st' := [.int (iI 1), .int (iI (m 158 37))]) rfl ?_
    refine wp_icmpI (a := (m 158 37)) (b := 1) rfl rfl hr3.1 hr3.2 (by decide) (by decide) (fun c4 => ?_) (fun c4 => ?_)
    · have dc4 := c4
      have hW := hW.2 dc4
      refine wp_g (n := 4) (pc' := 39) (L' := [some (.ref 158), some (.ref w1), some (.int (iI 0)), some (.int (iI 0))]) (st' := []) rfl ?_
      exact hW _ S
    · have dc4 := (Classical.not_not.mp c4)
      have hW := hW.1 dc4
      refine wp_g (n := 1) (pc' := 16) (L' := [some (.ref 158), some (.ref w1), none, none]) (st' := [.ref 158]) rfl ?_
      refine wp_getf (v := .int (iI (m 158 35))) rfl rfl (S.cell 158 (nc rfl)) (by decide) rfl ?_
      have hr5 : rJ (m 158 35) := S.rg 158 35 (nl rfl)
      refine wp_g (n := 1) (pc' := 20) (L' := [some (.ref 158), some (.ref w1), none, none]) (st' := [.ref 158, .int (iI (m 158 35))]) rfl ?_
      refine wp_getf (v := .int (iI (m 158 36))) rfl rfl (S.cell 158 (nc rfl)) (by decide) rfl ?_
      have hr6 : rJ (m 158 36) := S.rg 158 36 (nl rfl)
      refine wp_sub (a := (m 158 35)) (b := (m 158 36)) rfl ?_
      refine wp_g (n := 1) (pc' := 25) (L' := [some (.ref 158), some (.ref w1), none, none]) (st' := [.ref w1, .int (iI ((m 158 35) - (m 158 36)))]) rfl ?_
      refine wp_cvS (As := []) (rest := [.int (iI ((m 158 35) - (m 158 36)))]) rfl rfl hw1 rfl rfl rfl (Nat.le_of_ble_eq_true rfl) (Nat.le_of_ble_eq_true rfl) (hW _ S) (fun r7 H7 q7 => ?_)
      obtain ⟨v7, m7, γ7, t7, rfl, hv7, S, hW⟩ := q7
      show wp _ _ _ _ _ [.int (iI v7), .int (iI ((m 158 35) - (m 158 36)))] _ _
      obtain ⟨p8, hW⟩ := hW
      refine wp_icmpI (a := ((m 158 35) - (m 158 36))) (b := v7) rfl rfl p8.1 p8.2 hv7.1 hv7.2 (fun c9 => ?_) (fun c9 => ?_)
      · have dc9 := c9
        have hW := hW.2 dc9
        refine wp_g (n := 4) (pc' := 39) (L' := [some (.ref 158), some (.ref w1), some (.int (iI 0)), some (.int (iI 0))]) (st' := []) rfl ?_
        exact hW _ S
      · have dc9 := (Classical.not_not.mp c9)
        have hW := hW.1 dc9
        refine wp_g (n := 5) (pc' := 39) (L' := [some (.ref 158), some (.ref w1), some (.int (iI 1)), some (.int (iI 0))]) (st' := []) rfl ?_
        exact hW _ S
theorem vc_X9_isWord_39 {E : am_E} {k : Nat} {w1 : Nat} {y2 : Int} {y3 : Int} {m : MM} {γ : GM} {t : am_H} {Q : Int → MM → GM → am_H → Prop} (hw1 : isS w1) (hy2 : rJ y2) (hy3 : rJ y3) (hW : W_X9_isWord_39 E k w1 y2 y3 m γ t Q) : hd_X9_isWord_39 E k w1 y2 y3 m γ t Q := by
  unfold W_X9_isWord_39 at hW
  intro h S
  refine wp_g (n := 2) (pc' := 41) (L' := [some (.ref 158), some (.ref w1), some (.int (iI y2)), some (.int (iI y3))]) (st' := [.ref w1, .int (iI y3)]) rfl ?_
  refine wp_cvS (As := []) (rest := [.int (iI y3)]) rfl rfl hw1 rfl rfl rfl (Nat.le_of_ble_eq_true rfl) (Nat.le_of_ble_eq_true rfl) (hW _ S) (fun r1 H1 q1 => ?_)
  obtain ⟨v1, m1, γ1, t1, rfl, hv1, S, hW⟩ := q1
  show wp _ _ _ _ _ [.int (iI v1), .int (iI y3)] _ _
  refine wp_icmpI (a := y3) (b := v1) rfl rfl hy3.1 hy3.2 hv1.1 hv1.2 (fun c2 => ?_) (fun c2 => ?_)
  · have dc2 := (Int.not_lt.mpr c2)
    have hW := hW.2 dc2
    refine wp_g (n := 1) (pc' := 83) (L' := [some (.ref 158), some (.ref w1), some (.int (iI y2)), some (.int (iI y3))]) (st' := [.int (iI y2)]) rfl ?_
    obtain ⟨p3, hW⟩ := hW
    exact wp_zret rfl rfl p3 ⟨_, _, _, _, rfl, hy2, S, hW⟩
  · have dc2 := (Int.not_le.mp c2)
    have hW := hW.1 dc2
    refine wp_g (n := 1) (pc' := 48) (L' := [some (.ref 158), some (.ref w1), some (.int (iI y2)), some (.int (iI y3))]) (st' := [.int (iI y2)]) rfl ?_
    refine wp_ifI (a := y2) rfl rfl hy2.1 hy2.2 (fun c4 => ?_) (fun c4 => ?_)
    · have dc4 := c4
      have hW := hW.1 dc4
      refine wp_g (n := 1) (pc' := 83) (L' := [some (.ref 158), some (.ref w1), some (.int (iI y2)), some (.int (iI y3))]) (st' := [.int (iI y2)]) rfl ?_
      obtain ⟨p5, hW⟩ := hW
      exact wp_zret rfl rfl p5 ⟨_, _, _, _, rfl, hy2, S, hW⟩
    · have dc4 := c4
      have hW := hW.2 dc4
      refine wp_g (n := 1) (pc' := 52) (L' := [some (.ref 158), some (.ref w1), some (.int (iI y2)), some (.int (iI y3))]) (st' := [.ref 158]) rfl ?_
      refine wp_getf (v := .ref 182) rfl rfl (S.cell 158 (nc rfl)) (by decide) rfl ?_
      refine wp_g (n := 1) (pc' := 56) (L' := [some (.ref 158), some (.ref w1), some (.int (iI y2)), some (.int (iI y3))]) (st' := [.ref 158, .ref 182]) rfl ?_
      refine wp_getf (v := .int (iI (m1 158 36))) rfl rfl (S.cell 158 (nc rfl)) (by decide) rfl ?_
      have hr6 : rJ (m1 158 36) := S.rg 158 36 (nl rfl)
      refine wp_g (n := 1) (pc' := 60) (L' := [some (.ref 158), some (.ref w1), some (.int (iI y2)), some (.int (iI y3))]) (st' := [.int (iI y3), .int (iI (m1 158 36)), .ref 182]) rfl ?_
      refine wp_add (a := (m1 158 36)) (b := y3) rfl ?_
      obtain ⟨p7, hW⟩ := hW
      refine wp_iald (n := 400) (F := (m1 182)) rfl (S.cell 182 (nc rfl)) (by decide) p7.1 p7.2 (by decide) ?_
      show wp _ _ _ _ _ [.int (iI (m1 182 ((((m1 158 36) + y3)).toNat)))] _ _
      have hr8 : rJ (m1 182 ((((m1 158 36) + y3)).toNat)) := S.rg 182 ((((m1 158 36) + y3)).toNat) (nl rfl)
      refine wp_g (n := 2) (pc' := 64) (L' := [some (.ref 158), some (.ref w1), some (.int (iI y2)), some (.int (iI y3))]) (st' := [.int (iI y3), .ref w1, .int (iI (m1 182 ((((m1 158 36) + y3)).toNat)))]) rfl ?_
      refine wp_cvS (As := [.int (iI y3)]) (rest := [.int (iI (m1 182 ((((m1 158 36) + y3)).toNat)))]) rfl rfl hw1 rfl rfl rfl (Nat.le_of_ble_eq_true rfl) (Nat.le_of_ble_eq_true rfl) (hW _ S) (fun r9 H9 q9 => ?_)
      obtain ⟨v9, m9, γ9, t9, rfl, hv9, S, hW⟩ := q9
      show wp _ _ _ _ _ [.int (iI v9), .int (iI (m1 182 ((((m1 158 36) + y3)).toNat)))] _ _
      refine wp_icmpI (a := (m1 182 ((((m1 158 36) + y3)).toNat))) (b := v9) rfl rfl hr8.1 hr8.2 hv9.1 hv9.2 (fun c10 => ?_) (fun c10 => ?_)
      · have dc10 := c10
        have hW := hW.2 dc10
        refine wp_g (n := 2) (pc' := 76) (L' := [some (.ref 158), some (.ref w1), some (.int (iI 0)), some (.int (iI y3))]) (st' := []) rfl ?_
        refine wp_iinc (L' := [some (.ref 158), some (.ref w1), some (.int (iI 0)), some (.int (iI (y3 + 1)))]) (a := y3) rfl rfl rfl ?_
        refine wp_g (n := 1) (pc' := 39) (L' := [some (.ref 158), some (.ref w1), some (.int (iI 0)), some (.int (iI (y3 + 1)))]) (st' := []) rfl ?_
        exact hW _ S
      · have dc10 := (Classical.not_not.mp c10)
        have hW := hW.1 dc10
        refine wp_g (n := 3) (pc' := 76) (L' := [some (.ref 158), some (.ref w1), some (.int (iI 1)), some (.int (iI y3))]) (st' := []) rfl ?_
        refine wp_iinc (L' := [some (.ref 158), some (.ref w1), some (.int (iI 1)), some (.int (iI (y3 + 1)))]) (a := y3) rfl rfl rfl ?_
        refine wp_g (n := 1) (pc' := 39) (L' := [some (.ref 158), some (.ref w1), some (.int (iI 1)), some (.int (iI (y3 + 1)))]) (st' := []) rfl ?_
        exact hW _ S
abbrev W_X9_must (E : am_E) (k : Nat) (x1 : Int) (m : MM) (γ : GM) (t : am_H) (Q : MM → GM → am_H → Prop) : Prop := (((x1 = 0) → (TV E k 224 [.ref 158, .int (iI 1)] m γ t (fun m3 γ3 t3 => (TV E k 225 [.ref 158] m3 γ3 t3 (fun m4 γ4 t4 => (Q m4 γ4 t4)))))) ∧ (¬ (x1 = 0) → (TV E k 225 [.ref 158] m γ t (fun m2 γ2 t2 => (Q m2 γ2 t2)))))
theorem vc_X9_must {E : am_E} {k : Nat} {x1 : Int} {m : MM} {γ : GM} {t : am_H} {Q : MM → GM → am_H → Prop} (hx1 : rJ x1) (hW : W_X9_must E k x1 m γ t Q) : TV E (k + 1) 227 [.ref 158, .int (iI x1)] m γ t Q := by
  unfold W_X9_must at hW
  intro h S
  refine wp_g (n := 1) (pc' := 1) (L' := [some (.ref 158), some (.int (iI x1))]) (st' := [.int (iI x1)]) rfl ?_
  refine wp_ifI (a := x1) rfl rfl hx1.1 hx1.2 (fun c1 => ?_) (fun c1 => ?_)
  · have dc1 := c1
    have hW := hW.2 dc1
    refine wp_g (n := 1) (pc' := 10) (L' := [some (.ref 158), some (.int (iI x1))]) (st' := [.ref 158]) rfl ?_
    refine wp_cv (As := []) (rest := []) rfl rfl (S.cell 158 (nc rfl)) (by decide) rfl rfl rfl (Nat.le_of_ble_eq_true rfl) (Nat.le_of_ble_eq_true rfl) (hW _ S) (fun r2 H2 q2 => ?_)
    obtain ⟨m2, γ2, t2, rfl, S, hW⟩ := q2
    show wp _ _ _ _ _ [] _ _
    exact wp_vret rfl rfl ⟨_, _, _, rfl, S, hW⟩
  · have dc1 := (Classical.not_not.mp c1)
    have hW := hW.1 dc1
    refine wp_g (n := 2) (pc' := 6) (L' := [some (.ref 158), some (.int (iI x1))]) (st' := [.int (iI 1), .ref 158]) rfl ?_
    refine wp_cv (As := [.int (iI 1)]) (rest := []) rfl rfl (S.cell 158 (nc rfl)) (by decide) rfl rfl rfl (Nat.le_of_ble_eq_true rfl) (Nat.le_of_ble_eq_true rfl) (hW _ S) (fun r3 H3 q3 => ?_)
    obtain ⟨m3, γ3, t3, rfl, S, hW⟩ := q3
    show wp _ _ _ _ _ [] _ _
    refine wp_g (n := 1) (pc' := 10) (L' := [some (.ref 158), some (.int (iI x1))]) (st' := [.ref 158]) rfl ?_
    refine wp_cv (As := []) (rest := []) rfl rfl (S.cell 158 (nc rfl)) (by decide) rfl rfl rfl (Nat.le_of_ble_eq_true rfl) (Nat.le_of_ble_eq_true rfl) (hW _ S) (fun r4 H4 q4 => ?_)
    obtain ⟨m4, γ4, t4, rfl, S, hW⟩ := q4
    show wp _ _ _ _ _ [] _ _
    exact wp_vret rfl rfl ⟨_, _, _, rfl, S, hW⟩
abbrev W_X9_isSign (E : am_E) (k : Nat) (x1 : Int) (m : MM) (γ : GM) (t : am_H) (Q : Int → MM → GM → am_H → Prop) : Prop := ((((m 158 39) = 0) → ((((m 158 37) = 3) → ((0 ≤ (m 158 36) ∧ (m 158 36) < 400) ∧ ((((m 182 (((m 158 36)).toNat)) = x1) → (Q 1 m γ t)) ∧ (¬ ((m 182 (((m 158 36)).toNat)) = x1) → (Q 0 m γ t))))) ∧ (¬ ((m 158 37) = 3) → (Q 0 m γ t)))) ∧ (¬ ((m 158 39) = 0) → (Q 0 m γ t)))
theorem vc_X9_isSign {E : am_E} {k : Nat} {x1 : Int} {m : MM} {γ : GM} {t : am_H} {Q : Int → MM → GM → am_H → Prop} (hx1 : rJ x1) (hW : W_X9_isSign E k x1 m γ t Q) : TI E k 228 [.ref 158, .int (iI x1)] m γ t Q := by
  unfold W_X9_isSign at hW
  intro h S
  refine wp_g (n := 1) (pc' := 1) (L' := [some (.ref 158), some (.int (iI x1))]) (st' := [.ref 158]) rfl ?_
  refine wp_getf (v := .int (iI (m 158 39))) rfl rfl (S.cell 158 (nc rfl)) (by decide) rfl ?_
  have hr1 : rJ (m 158 39) := S.rg 158 39 (nl rfl)
  refine wp_ifI (a := (m 158 39)) rfl rfl hr1.1 hr1.2 (fun c2 => ?_) (fun c2 => ?_)
  · have dc2 := c2
    have hW := hW.2 dc2
    refine wp_g (n := 1) (pc' := 33) (L' := [some (.ref 158), some (.int (iI x1))]) (st' := [.int (iI 0)]) rfl ?_
    exact wp_zret rfl rfl (by decide) ⟨_, _, _, _, rfl, (by decide), S, hW⟩
  · have dc2 := (Classical.not_not.mp c2)
    have hW := hW.1 dc2
    refine wp_g (n := 1) (pc' := 8) (L' := [some (.ref 158), some (.int (iI x1))]) (st' := [.ref 158]) rfl ?_
    refine wp_getf (v := .int (iI (m 158 37))) rfl rfl (S.cell 158 (nc rfl)) (by decide) rfl ?_
    have hr3 : rJ (m 158 37) := S.rg 158 37 (nl rfl)
    refine wp_g (n := 1) (pc' := 12) (L' := [some (.ref 158), some (.int (iI x1))]) (st' := [.int (iI 3), .int (iI (m 158 37))]) rfl ?_
    refine wp_icmpI (a := (m 158 37)) (b := 3) rfl rfl hr3.1 hr3.2 (by decide) (by decide) (fun c4 => ?_) (fun c4 => ?_)
    · have dc4 := c4
      have hW := hW.2 dc4
      refine wp_g (n := 1) (pc' := 33) (L' := [some (.ref 158), some (.int (iI x1))]) (st' := [.int (iI 0)]) rfl ?_
      exact wp_zret rfl rfl (by decide) ⟨_, _, _, _, rfl, (by decide), S, hW⟩
    · have dc4 := (Classical.not_not.mp c4)
      have hW := hW.1 dc4
      refine wp_g (n := 1) (pc' := 16) (L' := [some (.ref 158), some (.int (iI x1))]) (st' := [.ref 158]) rfl ?_
      refine wp_getf (v := .ref 182) rfl rfl (S.cell 158 (nc rfl)) (by decide) rfl ?_
      refine wp_g (n := 1) (pc' := 20) (L' := [some (.ref 158), some (.int (iI x1))]) (st' := [.ref 158, .ref 182]) rfl ?_
      refine wp_getf (v := .int (iI (m 158 36))) rfl rfl (S.cell 158 (nc rfl)) (by decide) rfl ?_
      have hr5 : rJ (m 158 36) := S.rg 158 36 (nl rfl)
      obtain ⟨p6, hW⟩ := hW
      refine wp_iald (n := 400) (F := (m 182)) rfl (S.cell 182 (nc rfl)) (by decide) p6.1 p6.2 (by decide) ?_
      show wp _ _ _ _ _ [.int (iI (m 182 (((m 158 36)).toNat)))] _ _
      have hr7 : rJ (m 182 (((m 158 36)).toNat)) := S.rg 182 (((m 158 36)).toNat) (nl rfl)
      refine wp_g (n := 1) (pc' := 25) (L' := [some (.ref 158), some (.int (iI x1))]) (st' := [.int (iI x1), .int (iI (m 182 (((m 158 36)).toNat)))]) rfl ?_
      refine wp_icmpI (a := (m 182 (((m 158 36)).toNat))) (b := x1) rfl rfl hr7.1 hr7.2 hx1.1 hx1.2 (fun c8 => ?_) (fun c8 => ?_)
      · have dc8 := c8
        have hW := hW.2 dc8
        refine wp_g (n := 1) (pc' := 33) (L' := [some (.ref 158), some (.int (iI x1))]) (st' := [.int (iI 0)]) rfl ?_
        exact wp_zret rfl rfl (by decide) ⟨_, _, _, _, rfl, (by decide), S, hW⟩
      · have dc8 := (Classical.not_not.mp c8)
        have hW := hW.1 dc8
        refine wp_g (n := 2) (pc' := 33) (L' := [some (.ref 158), some (.int (iI x1))]) (st' := [.int (iI 1)]) rfl ?_
        exact wp_zret rfl rfl (by decide) ⟨_, _, _, _, rfl, (by decide), S, hW⟩
abbrev W_X9_number (E : am_E) (k : Nat) (x1 : Int) (x2 : Int) (m : MM) (γ : GM) (t : am_H) (Q : Int → MM → GM → am_H → Prop) : Prop := ((((m 158 39) = 0) → ((((m 158 37) = 2) → (TI E k 192 [.long (lI (m 158 38)), .long (lI x1), .long (lI x2)] m γ t (fun v6 m6 γ6 t6 => (((v6 = 0) → (TV E k 224 [.ref 158, .int (iI 2)] m6 γ6 t6 (fun m11 γ11 t11 => (TV E k 225 [.ref 158] m11 γ11 t11 (fun m12 γ12 t12 => ((((m12 158 39) = 0) → (Q (m 158 38) m12 γ12 t12)) ∧ (¬ ((m12 158 39) = 0) → (Q x1 m12 γ12 t12)))))))) ∧ (¬ (v6 = 0) → (TV E k 225 [.ref 158] m6 γ6 t6 (fun m8 γ8 t8 => ((((m8 158 39) = 0) → (Q (m 158 38) m8 γ8 t8)) ∧ (¬ ((m8 158 39) = 0) → (Q x1 m8 γ8 t8)))))))))) ∧ (¬ ((m 158 37) = 2) → (TV E k 224 [.ref 158, .int (iI 1)] m γ t (fun m15 γ15 t15 => (TV E k 225 [.ref 158] m15 γ15 t15 (fun m16 γ16 t16 => ((((m16 158 39) = 0) → (Q (m 158 38) m16 γ16 t16)) ∧ (¬ ((m16 158 39) = 0) → (Q x1 m16 γ16 t16)))))))))) ∧ (¬ ((m 158 39) = 0) → (Q x1 m γ t)))
theorem vc_X9_number {E : am_E} {k : Nat} {x1 : Int} {x2 : Int} {m : MM} {γ : GM} {t : am_H} {Q : Int → MM → GM → am_H → Prop} (hx1 : rJ x1) (hx2 : rJ x2) (hW : W_X9_number E k x1 x2 m γ t Q) : TI E (k + 1) 229 [.ref 158, .int (iI x1), .int (iI x2)] m γ t Q := by
  unfold W_X9_number at hW
  intro h S
  refine wp_g (n := 1) (pc' := 1) (L' := [some (.ref 158), some (.int (iI x1)), some (.int (iI x2)), none]) (st' := [.ref 158]) rfl ?_
  refine wp_getf (v := .int (iI (m 158 39))) rfl rfl (S.cell 158 (nc rfl)) (by decide) rfl ?_
  have hr1 : rJ (m 158 39) := S.rg 158 39 (nl rfl)
  refine wp_ifI (a := (m 158 39)) rfl rfl hr1.1 hr1.2 (fun c2 => ?_) (fun c2 => ?_)
  · have dc2 := c2
    have hW := hW.1 dc2
    refine wp_g (n := 1) (pc' := 10) (L' := [some (.ref 158), some (.int (iI x1)), some (.int (iI x2)), none]) (st' := [.ref 158]) rfl ?_
    refine wp_getf (v := .int (iI (m 158 38))) rfl rfl (S.cell 158 (nc rfl)) (by decide) rfl ?_
    have hr3 : rJ (m 158 38) := S.rg 158 38 (nl rfl)
    refine wp_g (n := 2) (pc' := 15) (L' := [some (.ref 158), some (.int (iI x1)), some (.int (iI x2)), some (.int (iI (m 158 38)))]) (st' := [.ref 158]) rfl ?_
    refine wp_getf (v := .int (iI (m 158 37))) rfl rfl (S.cell 158 (nc rfl)) (by decide) rfl ?_
    have hr4 : rJ (m 158 37) := S.rg 158 37 (nl rfl)
    refine wp_g (n := 1) (pc' := 19) (L' := [some (.ref 158), some (.int (iI x1)), some (.int (iI x2)), some (.int (iI (m 158 38)))]) (st' := [.int (iI 2), .int (iI (m 158 37))]) rfl ?_
    refine wp_icmpI (a := (m 158 37)) (b := 2) rfl rfl hr4.1 hr4.2 (by decide) (by decide) (fun c5 => ?_) (fun c5 => ?_)
    · have dc5 := c5
      have hW := hW.1 dc5
      refine wp_g (n := 1) (pc' := 31) (L' := [some (.ref 158), some (.int (iI x1)), some (.int (iI x2)), some (.int (iI (m 158 38)))]) (st' := [.int (iI (m 158 38))]) rfl ?_
      refine wp_i2l (a := (m 158 38)) rfl hr3 ?_
      refine wp_g (n := 1) (pc' := 33) (L' := [some (.ref 158), some (.int (iI x1)), some (.int (iI x2)), some (.int (iI (m 158 38)))]) (st' := [.int (iI x1), .long (lI (m 158 38))]) rfl ?_
      refine wp_i2l (a := x1) rfl hx1 ?_
      refine wp_g (n := 1) (pc' := 35) (L' := [some (.ref 158), some (.int (iI x1)), some (.int (iI x2)), some (.int (iI (m 158 38)))]) (st' := [.int (iI x2), .long (lI x1), .long (lI (m 158 38))]) rfl ?_
      refine wp_i2l (a := x2) rfl hx2 ?_
      refine wp_cs (As := [.long (lI (m 158 38)), .long (lI x1), .long (lI x2)]) (rest := []) rfl rfl rfl rfl (Nat.le_of_ble_eq_true rfl) (Nat.le_of_ble_eq_true rfl) (hW _ S) (fun r6 H6 q6 => ?_)
      obtain ⟨v6, m6, γ6, t6, rfl, hv6, S, hW⟩ := q6
      show wp _ _ _ _ _ [.int (iI v6)] _ _
      refine wp_ifI (a := v6) rfl rfl hv6.1 hv6.2 (fun c7 => ?_) (fun c7 => ?_)
      · have dc7 := c7
        have hW := hW.2 dc7
        refine wp_g (n := 1) (pc' := 48) (L' := [some (.ref 158), some (.int (iI x1)), some (.int (iI x2)), some (.int (iI (m 158 38)))]) (st' := [.ref 158]) rfl ?_
        refine wp_cv (As := []) (rest := []) rfl rfl (S.cell 158 (nc rfl)) (by decide) rfl rfl rfl (Nat.le_of_ble_eq_true rfl) (Nat.le_of_ble_eq_true rfl) (hW _ S) (fun r8 H8 q8 => ?_)
        obtain ⟨m8, γ8, t8, rfl, S, hW⟩ := q8
        show wp _ _ _ _ _ [] _ _
        refine wp_g (n := 1) (pc' := 52) (L' := [some (.ref 158), some (.int (iI x1)), some (.int (iI x2)), some (.int (iI (m 158 38)))]) (st' := [.ref 158]) rfl ?_
        refine wp_getf (v := .int (iI (m8 158 39))) rfl rfl (S.cell 158 (nc rfl)) (by decide) rfl ?_
        have hr9 : rJ (m8 158 39) := S.rg 158 39 (nl rfl)
        refine wp_ifI (a := (m8 158 39)) rfl rfl hr9.1 hr9.2 (fun c10 => ?_) (fun c10 => ?_)
        · have dc10 := c10
          have hW := hW.1 dc10
          refine wp_g (n := 1) (pc' := 63) (L' := [some (.ref 158), some (.int (iI x1)), some (.int (iI x2)), some (.int (iI (m 158 38)))]) (st' := [.int (iI (m 158 38))]) rfl ?_
          exact wp_iret rfl rfl ⟨_, _, _, _, rfl, hr3, S, hW⟩
        · have dc10 := c10
          have hW := hW.2 dc10
          refine wp_g (n := 2) (pc' := 63) (L' := [some (.ref 158), some (.int (iI x1)), some (.int (iI x2)), some (.int (iI (m 158 38)))]) (st' := [.int (iI x1)]) rfl ?_
          exact wp_iret rfl rfl ⟨_, _, _, _, rfl, hx1, S, hW⟩
      · have dc7 := (Classical.not_not.mp c7)
        have hW := hW.1 dc7
        refine wp_g (n := 2) (pc' := 44) (L' := [some (.ref 158), some (.int (iI x1)), some (.int (iI x2)), some (.int (iI (m 158 38)))]) (st' := [.int (iI 2), .ref 158]) rfl ?_
        refine wp_cv (As := [.int (iI 2)]) (rest := []) rfl rfl (S.cell 158 (nc rfl)) (by decide) rfl rfl rfl (Nat.le_of_ble_eq_true rfl) (Nat.le_of_ble_eq_true rfl) (hW _ S) (fun r11 H11 q11 => ?_)
        obtain ⟨m11, γ11, t11, rfl, S, hW⟩ := q11
        show wp _ _ _ _ _ [] _ _
        refine wp_g (n := 1) (pc' := 48) (L' := [some (.ref 158), some (.int (iI x1)), some (.int (iI x2)), some (.int (iI (m 158 38)))]) (st' := [.ref 158]) rfl ?_
        refine wp_cv (As := []) (rest := []) rfl rfl (S.cell 158 (nc rfl)) (by decide) rfl rfl rfl (Nat.le_of_ble_eq_true rfl) (Nat.le_of_ble_eq_true rfl) (hW _ S) (fun r12 H12 q12 => ?_)
        obtain ⟨m12, γ12, t12, rfl, S, hW⟩ := q12
        show wp _ _ _ _ _ [] _ _
        refine wp_g (n := 1) (pc' := 52) (L' := [some (.ref 158), some (.int (iI x1)), some (.int (iI x2)), some (.int (iI (m 158 38)))]) (st' := [.ref 158]) rfl ?_
        refine wp_getf (v := .int (iI (m12 158 39))) rfl rfl (S.cell 158 (nc rfl)) (by decide) rfl ?_
        have hr13 : rJ (m12 158 39) := S.rg 158 39 (nl rfl)
        refine wp_ifI (a := (m12 158 39)) rfl rfl hr13.1 hr13.2 (fun c14 => ?_) (fun c14 => ?_)
        · have dc14 := c14
          have hW := hW.1 dc14
          refine wp_g (n := 1) (pc' := 63) (L' := [some (.ref 158), some (.int (iI x1)), some (.int (iI x2)), some (.int (iI (m 158 38)))]) (st' := [.int (iI (m 158 38))]) rfl ?_
          exact wp_iret rfl rfl ⟨_, _, _, _, rfl, hr3, S, hW⟩
        · have dc14 := c14
          have hW := hW.2 dc14
          refine wp_g (n := 2) (pc' := 63) (L' := [some (.ref 158), some (.int (iI x1)), some (.int (iI x2)), some (.int (iI (m 158 38)))]) (st' := [.int (iI x1)]) rfl ?_
          exact wp_iret rfl rfl ⟨_, _, _, _, rfl, hx1, S, hW⟩
    · have dc5 := c5
      have hW := hW.2 dc5
      refine wp_g (n := 2) (pc' := 24) (L' := [some (.ref 158), some (.int (iI x1)), some (.int (iI x2)), some (.int (iI (m 158 38)))]) (st' := [.int (iI 1), .ref 158]) rfl ?_
      refine wp_cv (As := [.int (iI 1)]) (rest := []) rfl rfl (S.cell 158 (nc rfl)) (by decide) rfl rfl rfl (Nat.le_of_ble_eq_true rfl) (Nat.le_of_ble_eq_true rfl) (hW _ S) (fun r15 H15 q15 => ?_)
      obtain ⟨m15, γ15, t15, rfl, S, hW⟩ := q15
      show wp _ _ _ _ _ [] _ _
      refine wp_g (n := 2) (pc' := 48) (L' := [some (.ref 158), some (.int (iI x1)), some (.int (iI x2)), some (.int (iI (m 158 38)))]) (st' := [.ref 158]) rfl ?_
      refine wp_cv (As := []) (rest := []) rfl rfl (S.cell 158 (nc rfl)) (by decide) rfl rfl rfl (Nat.le_of_ble_eq_true rfl) (Nat.le_of_ble_eq_true rfl) (hW _ S) (fun r16 H16 q16 => ?_)
      obtain ⟨m16, γ16, t16, rfl, S, hW⟩ := q16
      show wp _ _ _ _ _ [] _ _
      refine wp_g (n := 1) (pc' := 52) (L' := [some (.ref 158), some (.int (iI x1)), some (.int (iI x2)), some (.int (iI (m 158 38)))]) (st' := [.ref 158]) rfl ?_
      refine wp_getf (v := .int (iI (m16 158 39))) rfl rfl (S.cell 158 (nc rfl)) (by decide) rfl ?_
      have hr17 : rJ (m16 158 39) := S.rg 158 39 (nl rfl)
      refine wp_ifI (a := (m16 158 39)) rfl rfl hr17.1 hr17.2 (fun c18 => ?_) (fun c18 => ?_)
      · have dc18 := c18
        have hW := hW.1 dc18
        refine wp_g (n := 1) (pc' := 63) (L' := [some (.ref 158), some (.int (iI x1)), some (.int (iI x2)), some (.int (iI (m 158 38)))]) (st' := [.int (iI (m 158 38))]) rfl ?_
        exact wp_iret rfl rfl ⟨_, _, _, _, rfl, hr3, S, hW⟩
      · have dc18 := c18
        have hW := hW.2 dc18
        refine wp_g (n := 2) (pc' := 63) (L' := [some (.ref 158), some (.int (iI x1)), some (.int (iI x2)), some (.int (iI (m 158 38)))]) (st' := [.int (iI x1)]) rfl ?_
        exact wp_iret rfl rfl ⟨_, _, _, _, rfl, hx1, S, hW⟩
  · have dc2 := c2
    have hW := hW.2 dc2
    refine wp_g (n := 1) (pc' := 8) (L' := [some (.ref 158), some (.int (iI x1)), some (.int (iI x2)), none]) (st' := [.int (iI x1)]) rfl ?_
    exact wp_iret rfl rfl ⟨_, _, _, _, rfl, hx1, S, hW⟩
def hd_X9_readsEdge_46 (E : am_E) (k : Nat) (x1 : Int) (y1 : Int) (y2 : Int) (y3 : Int) (m : MM) (γ : GM) (t : am_H) (Q : MM → GM → am_H → Prop) : Prop := ∀ (z4 : Option Value), TT (pV Q) E (k + 1) 230 46 [some (.ref 158), some (.int (iI y1)), some (.int (iI y2)), some (.int (iI y3)), z4] [] m γ t
def hd_X9_readsEdge_77 (E : am_E) (k : Nat) (x1 : Int) (y1 : Int) (y4 : Int) (m : MM) (γ : GM) (t : am_H) (Q : MM → GM → am_H → Prop) : Prop := ∀ (z2 z3 : Option Value), TT (pV Q) E (k + 1) 230 77 [some (.ref 158), some (.int (iI y1)), z2, z3, some (.int (iI y4))] [] m γ t
def hd_X9_readsEdge_120 (E : am_E) (k : Nat) (x1 : Int) (y1 : Int) (y4 : Int) (m : MM) (γ : GM) (t : am_H) (Q : MM → GM → am_H → Prop) : Prop := ∀ (z2 z3 : Option Value), TT (pV Q) E (k + 1) 230 120 [some (.ref 158), some (.int (iI y1)), z2, z3, some (.int (iI y4))] [] m γ t
abbrev W_X9_readsEdge (E : am_E) (k : Nat) (x1 : Int) (m : MM) (γ : GM) (t : am_H) (Q : MM → GM → am_H → Prop) : Prop := (TI E k 203 [.ref 158] m γ t (fun v1 m1 γ1 t1 => (TI E k 229 [.ref 158, .int (iI 0), .int (iI (v1 - 1))] m1 γ1 t1 (fun v2 m2 γ2 t2 => (TI E k 226 [.ref 158, .ref 1000032] m2 γ2 t2 (fun v3 m3 γ3 t3 => ((((m3 158 39) = 0) → (((v3 = 0) → (TI E k 226 [.ref 158, .ref 1000034] m3 γ3 t3 (fun v7 m7 γ7 t7 => (((v7 = 0) → (TV E k 224 [.ref 158, .int (iI 1)] m7 γ7 t7 (fun m9 γ9 t9 => (hd_X9_readsEdge_46 E k x1 x1 v2 v3 m9 γ9 t9 Q)))) ∧ (¬ (v7 = 0) → (hd_X9_readsEdge_46 E k x1 x1 v2 v3 m7 γ7 t7 Q)))))) ∧ (¬ (v3 = 0) → (hd_X9_readsEdge_46 E k x1 x1 v2 v3 m3 γ3 t3 Q)))) ∧ (¬ ((m3 158 39) = 0) → (hd_X9_readsEdge_46 E k x1 x1 v2 v3 m3 γ3 t3 Q)))))))))
abbrev W_X9_readsEdge_46 (E : am_E) (k : Nat) (x1 : Int) (y1 : Int) (y2 : Int) (y3 : Int) (m : MM) (γ : GM) (t : am_H) (Q : MM → GM → am_H → Prop) : Prop := ((((m 158 39) = 0) → (((y3 = 0) → ((0 ≤ ((2 * y2) + 0) ∧ ((2 * y2) + 0) < 32) ∧ (hd_X9_readsEdge_77 E k x1 y1 (m 165 ((((2 * y2) + 0)).toNat)) m γ t Q))) ∧ (¬ (y3 = 0) → ((0 ≤ ((2 * y2) + 1) ∧ ((2 * y2) + 1) < 32) ∧ (hd_X9_readsEdge_77 E k x1 y1 (m 165 ((((2 * y2) + 1)).toNat)) m γ t Q))))) ∧ (¬ ((m 158 39) = 0) → (hd_X9_readsEdge_77 E k x1 y1 (-1) m γ t Q)))
abbrev W_X9_readsEdge_77 (E : am_E) (k : Nat) (x1 : Int) (y1 : Int) (y4 : Int) (m : MM) (γ : GM) (t : am_H) (Q : MM → GM → am_H → Prop) : Prop := ((((m 158 39) = 0) → (((y4 = (-1)) → (TV E k 224 [.ref 158, .int (iI 3)] m γ t (fun m10 γ10 t10 => (hd_X9_readsEdge_120 E k x1 y1 y4 m10 γ10 t10 Q)))) ∧ (¬ (y4 = (-1)) → ((0 ≤ y4 ∧ y4 < 24) ∧ ((((m 162 ((y4).toNat)) = 0) → (hd_X9_readsEdge_120 E k x1 y1 y4 m γ t Q)) ∧ (¬ ((m 162 ((y4).toNat)) = 0) → (TV E k 224 [.ref 158, .int (iI 4)] m γ t (fun m9 γ9 t9 => (hd_X9_readsEdge_120 E k x1 y1 y4 m9 γ9 t9 Q))))))))) ∧ (¬ ((m 158 39) = 0) → (hd_X9_readsEdge_120 E k x1 y1 y4 m γ t Q)))
abbrev W_X9_readsEdge_120 (E : am_E) (k : Nat) (x1 : Int) (y1 : Int) (y4 : Int) (m : MM) (γ : GM) (t : am_H) (Q : MM → GM → am_H → Prop) : Prop := (TV E k 225 [.ref 158] m γ t (fun m1 γ1 t1 => ((((m1 158 39) = 0) → ((0 ≤ y4 ∧ y4 < 24) ∧ (Q (up m1 162 (up (m1 162) ((y4).toNat) y1)) γ1 t1))) ∧ (¬ ((m1 158 39) = 0) → (Q m1 γ1 t1)))))
theorem vc_X9_readsEdge {E : am_E} {k : Nat} {x1 : Int} {m : MM} {γ : GM} {t : am_H} {Q : MM → GM → am_H → Prop} (hx1 : rJ x1) (hW : W_X9_readsEdge E k x1 m γ t Q) : TV E (k + 1) 230 [.ref 158, .int (iI x1)] m γ t Q := by
  unfold W_X9_readsEdge at hW
  intro h S
  refine wp_g (n := 3) (pc' := 3) (L' := [some (.ref 158), some (.int (iI x1)), none, none, none]) (st' := [.ref 158, .int (iI 0), .ref 158]) rfl ?_
  refine wp_cv (As := []) (rest := [.int (iI 0), .ref 158]) rfl rfl (S.cell 158 (nc rfl)) (by decide) rfl rfl rfl (Nat.le_of_ble_eq_true rfl) (Nat.le_of_ble_eq_true rfl) (hW _ S) (fun r1 H1 q1 => ?_)
  obtain ⟨v1, m1, γ1, t1, rfl, hv1, S, hW⟩ := q1
  show wp _ _ _ _ _ [.int (iI v1), .int (iI 0), .ref 158] _ _
  refine wp_g (n := 1) (pc' := 7) (L' := [some (.ref 158), some (.int (iI x1)), none, none, none]) (st' := [.int (iI 1), .int (iI v1), .int (iI 0), .ref 158]) rfl ?_
  refine wp_sub (a := v1) (b := 1) rfl ?_
  refine wp_cv (As := [.int (iI 0), .int (iI (v1 - 1))]) (rest := []) rfl rfl (S.cell 158 (nc rfl)) (by decide) rfl rfl rfl (Nat.le_of_ble_eq_true rfl) (Nat.le_of_ble_eq_true rfl) (hW _ S) (fun r2 H2 q2 => ?_)
  obtain ⟨v2, m2, γ2, t2, rfl, hv2, S, hW⟩ := q2
  show wp _ _ _ _ _ [.int (iI v2)] _ _
  refine wp_g (n := 3) (pc' := 16) (L' := [some (.ref 158), some (.int (iI x1)), some (.int (iI v2)), none, none]) (st' := [.ref 1000032, .ref 158]) rfl ?_
  refine wp_cv (As := [.ref 1000032]) (rest := []) rfl rfl (S.cell 158 (nc rfl)) (by decide) rfl rfl rfl (Nat.le_of_ble_eq_true rfl) (Nat.le_of_ble_eq_true rfl) (hW _ S) (fun r3 H3 q3 => ?_)
  obtain ⟨v3, m3, γ3, t3, rfl, hv3, S, hW⟩ := q3
  show wp _ _ _ _ _ [.int (iI v3)] _ _
  refine wp_g (n := 2) (pc' := 21) (L' := [some (.ref 158), some (.int (iI x1)), some (.int (iI v2)), some (.int (iI v3)), none]) (st' := [.ref 158]) rfl ?_
  refine wp_getf (v := .int (iI (m3 158 39))) rfl rfl (S.cell 158 (nc rfl)) (by decide) rfl ?_
  have hr4 : rJ (m3 158 39) := S.rg 158 39 (nl rfl)
  refine wp_ifI (a := (m3 158 39)) rfl rfl hr4.1 hr4.2 (fun c5 => ?_) (fun c5 => ?_)
  · have dc5 := c5
    have hW := hW.2 dc5
    exact hW none _ S
  · have dc5 := (Classical.not_not.mp c5)
    have hW := hW.1 dc5
    refine wp_g (n := 1) (pc' := 28) (L' := [some (.ref 158), some (.int (iI x1)), some (.int (iI v2)), some (.int (iI v3)), none]) (st' := [.int (iI v3)]) rfl ?_
    refine wp_ifI (a := v3) rfl rfl hv3.1 hv3.2 (fun c6 => ?_) (fun c6 => ?_)
    · have dc6 := c6
      have hW := hW.2 dc6
      exact hW none _ S
    · have dc6 := (Classical.not_not.mp c6)
      have hW := hW.1 dc6
      refine wp_g (n := 2) (pc' := 35) (L' := [some (.ref 158), some (.int (iI x1)), some (.int (iI v2)), some (.int (iI v3)), none]) (st' := [.ref 1000034, .ref 158]) rfl ?_
      refine wp_cv (As := [.ref 1000034]) (rest := []) rfl rfl (S.cell 158 (nc rfl)) (by decide) rfl rfl rfl (Nat.le_of_ble_eq_true rfl) (Nat.le_of_ble_eq_true rfl) (hW _ S) (fun r7 H7 q7 => ?_)
      obtain ⟨v7, m7, γ7, t7, rfl, hv7, S, hW⟩ := q7
      show wp _ _ _ _ _ [.int (iI v7)] _ _
      refine wp_ifI (a := v7) rfl rfl hv7.1 hv7.2 (fun c8 => ?_) (fun c8 => ?_)
      · have dc8 := c8
        have hW := hW.2 dc8
        exact hW none _ S
      · have dc8 := (Classical.not_not.mp c8)
        have hW := hW.1 dc8
        refine wp_g (n := 2) (pc' := 43) (L' := [some (.ref 158), some (.int (iI x1)), some (.int (iI v2)), some (.int (iI v3)), none]) (st' := [.int (iI 1), .ref 158]) rfl ?_
        refine wp_cv (As := [.int (iI 1)]) (rest := []) rfl rfl (S.cell 158 (nc rfl)) (by decide) rfl rfl rfl (Nat.le_of_ble_eq_true rfl) (Nat.le_of_ble_eq_true rfl) (hW _ S) (fun r9 H9 q9 => ?_)
        obtain ⟨m9, γ9, t9, rfl, S, hW⟩ := q9
        show wp _ _ _ _ _ [] _ _
        exact hW none _ S
theorem vc_X9_readsEdge_46 {E : am_E} {k : Nat} {x1 : Int} {y1 : Int} {y2 : Int} {y3 : Int} {m : MM} {γ : GM} {t : am_H} {Q : MM → GM → am_H → Prop} (hx1 : rJ x1) (hy1 : rJ y1) (hy2 : rJ y2) (hy3 : rJ y3) (hW : W_X9_readsEdge_46 E k x1 y1 y2 y3 m γ t Q) : hd_X9_readsEdge_46 E k x1 y1 y2 y3 m γ t Q := by
  unfold W_X9_readsEdge_46 at hW
  intro z4 h S
  refine wp_g (n := 1) (pc' := 47) (L' := [some (.ref 158), some (.int (iI y1)), some (.int (iI y2)), some (.int (iI y3)), z4]) (st' := [.ref 158]) rfl ?_
  refine wp_getf (v := .int (iI (m 158 39))) rfl rfl (S.cell 158 (nc rfl)) (by decide) rfl ?_
  have hr1 : rJ (m 158 39) := S.rg 158 39 (nl rfl)
  refine wp_ifI (a := (m 158 39)) rfl rfl hr1.1 hr1.2 (fun c2 => ?_) (fun c2 => ?_)
  · have dc2 := c2
    have hW := hW.1 dc2
    refine wp_g (n := 1) (pc' := 58) (L' := [some (.ref 158), some (.int (iI y1)), some (.int (iI y2)), some (.int (iI y3)), z4]) (st' := [.ref 158]) rfl ?_
    refine wp_getf (v := .ref 165) rfl rfl (S.cell 158 (nc rfl)) (by decide) rfl ?_
    refine wp_g (n := 2) (pc' := 63) (L' := [some (.ref 158), some (.int (iI y1)), some (.int (iI y2)), some (.int (iI y3)), z4]) (st' := [.int (iI y2), .int (iI 2), .ref 165]) rfl ?_
    refine wp_mul (a := 2) (b := y2) rfl ?_
    refine wp_g (n := 1) (pc' := 65) (L' := [some (.ref 158), some (.int (iI y1)), some (.int (iI y2)), some (.int (iI y3)), z4]) (st' := [.int (iI y3), .int (iI (2 * y2)), .ref 165]) rfl ?_
    refine wp_ifI (a := y3) rfl rfl hy3.1 hy3.2 (fun c3 => ?_) (fun c3 => ?_)
    · have dc3 := c3
      have hW := hW.1 dc3
      refine wp_g (n := 1) (pc' := 73) (L' := [some (.ref 158), some (.int (iI y1)), some (.int (iI y2)), some (.int (iI y3)), z4]) (st' := [.int (iI 0), .int (iI (2 * y2)), .ref 165]) rfl ?_
      refine wp_add (a := (2 * y2)) (b := 0) rfl ?_
      obtain ⟨p4, hW⟩ := hW
      refine wp_iald (n := 32) (F := (m 165)) rfl (S.cell 165 (nc rfl)) (by decide) p4.1 p4.2 (by decide) ?_
      show wp _ _ _ _ _ [.int (iI (m 165 ((((2 * y2) + 0)).toNat)))] _ _
      have hr5 : rJ (m 165 ((((2 * y2) + 0)).toNat)) := S.rg 165 ((((2 * y2) + 0)).toNat) (nl rfl)
      refine wp_g (n := 1) (pc' := 77) (L' := [some (.ref 158), some (.int (iI y1)), some (.int (iI y2)), some (.int (iI y3)), some (.int (iI (m 165 ((((2 * y2) + 0)).toNat))))]) (st' := []) rfl ?_
      exact hW (some (.int (iI y2))) (some (.int (iI y3))) _ S
    · have dc3 := c3
      have hW := hW.2 dc3
      refine wp_g (n := 2) (pc' := 73) (L' := [some (.ref 158), some (.int (iI y1)), some (.int (iI y2)), some (.int (iI y3)), z4]) (st' := [.int (iI 1), .int (iI (2 * y2)), .ref 165]) rfl ?_
      refine wp_add (a := (2 * y2)) (b := 1) rfl ?_
      obtain ⟨p6, hW⟩ := hW
      refine wp_iald (n := 32) (F := (m 165)) rfl (S.cell 165 (nc rfl)) (by decide) p6.1 p6.2 (by decide) ?_
      show wp _ _ _ _ _ [.int (iI (m 165 ((((2 * y2) + 1)).toNat)))] _ _
      have hr7 : rJ (m 165 ((((2 * y2) + 1)).toNat)) := S.rg 165 ((((2 * y2) + 1)).toNat) (nl rfl)
      refine wp_g (n := 1) (pc' := 77) (L' := [some (.ref 158), some (.int (iI y1)), some (.int (iI y2)), some (.int (iI y3)), some (.int (iI (m 165 ((((2 * y2) + 1)).toNat))))]) (st' := []) rfl ?_
      exact hW (some (.int (iI y2))) (some (.int (iI y3))) _ S
  · have dc2 := c2
    have hW := hW.2 dc2
    refine wp_g (n := 3) (pc' := 77) (L' := [some (.ref 158), some (.int (iI y1)), some (.int (iI y2)), some (.int (iI y3)), some (.int (iI (-1)))]) (st' := []) rfl ?_
    exact hW (some (.int (iI y2))) (some (.int (iI y3))) _ S
theorem vc_X9_readsEdge_77 {E : am_E} {k : Nat} {x1 : Int} {y1 : Int} {y4 : Int} {m : MM} {γ : GM} {t : am_H} {Q : MM → GM → am_H → Prop} (hx1 : rJ x1) (hy1 : rJ y1) (hy4 : rJ y4) (hW : W_X9_readsEdge_77 E k x1 y1 y4 m γ t Q) : hd_X9_readsEdge_77 E k x1 y1 y4 m γ t Q := by
  unfold W_X9_readsEdge_77 at hW
  intro z2 z3 h S
  refine wp_g (n := 1) (pc' := 78) (L' := [some (.ref 158), some (.int (iI y1)), z2, z3, some (.int (iI y4))]) (st' := [.ref 158]) rfl ?_
  refine wp_getf (v := .int (iI (m 158 39))) rfl rfl (S.cell 158 (nc rfl)) (by decide) rfl ?_
  have hr1 : rJ (m 158 39) := S.rg 158 39 (nl rfl)
  refine wp_ifI (a := (m 158 39)) rfl rfl hr1.1 hr1.2 (fun c2 => ?_) (fun c2 => ?_)
  · have dc2 := c2
    have hW := hW.2 dc2
    refine wp_g (n := 1) (pc' := 99) (L' := [some (.ref 158), some (.int (iI y1)), z2, z3, some (.int (iI y4))]) (st' := [.ref 158]) rfl ?_
    refine wp_getf (v := .int (iI (m 158 39))) rfl rfl (S.cell 158 (nc rfl)) (by decide) rfl ?_
    refine wp_ifI (a := (m 158 39)) rfl rfl hr1.1 hr1.2 (fun c3 => ?_) (fun c3 => ?_)
    · skip
      exact hW z2 z3 _ S
    · exact absurd (Classical.not_not.mp c3) dc2
  · have dc2 := (Classical.not_not.mp c2)
    have hW := hW.1 dc2
    refine wp_g (n := 2) (pc' := 87) (L' := [some (.ref 158), some (.int (iI y1)), z2, z3, some (.int (iI y4))]) (st' := [.int (iI (-1)), .int (iI y4)]) rfl ?_
    refine wp_icmpI (a := y4) (b := (-1)) rfl rfl hy4.1 hy4.2 (by decide) (by decide) (fun c4 => ?_) (fun c4 => ?_)
    · have dc4 := c4
      have hW := hW.2 dc4
      refine wp_g (n := 1) (pc' := 99) (L' := [some (.ref 158), some (.int (iI y1)), z2, z3, some (.int (iI y4))]) (st' := [.ref 158]) rfl ?_
      refine wp_getf (v := .int (iI (m 158 39))) rfl rfl (S.cell 158 (nc rfl)) (by decide) rfl ?_
      refine wp_ifI (a := (m 158 39)) rfl rfl hr1.1 hr1.2 (fun c5 => ?_) (fun c5 => ?_)
      · exact absurd dc2 c5
      · skip
        refine wp_g (n := 1) (pc' := 106) (L' := [some (.ref 158), some (.int (iI y1)), z2, z3, some (.int (iI y4))]) (st' := [.ref 158]) rfl ?_
        refine wp_getf (v := .ref 162) rfl rfl (S.cell 158 (nc rfl)) (by decide) rfl ?_
        refine wp_g (n := 1) (pc' := 111) (L' := [some (.ref 158), some (.int (iI y1)), z2, z3, some (.int (iI y4))]) (st' := [.int (iI y4), .ref 162]) rfl ?_
        obtain ⟨p6, hW⟩ := hW
        refine wp_iald (n := 24) (F := (m 162)) rfl (S.cell 162 (nc rfl)) (by decide) p6.1 p6.2 (by decide) ?_
        show wp _ _ _ _ _ [.int (iI (m 162 ((y4).toNat)))] _ _
        have hr7 : rJ (m 162 ((y4).toNat)) := S.rg 162 ((y4).toNat) (nl rfl)
        refine wp_ifI (a := (m 162 ((y4).toNat))) rfl rfl hr7.1 hr7.2 (fun c8 => ?_) (fun c8 => ?_)
        · have dc8 := c8
          have hW := hW.1 dc8
          exact hW z2 z3 _ S
        · have dc8 := c8
          have hW := hW.2 dc8
          refine wp_g (n := 2) (pc' := 117) (L' := [some (.ref 158), some (.int (iI y1)), z2, z3, some (.int (iI y4))]) (st' := [.int (iI 4), .ref 158]) rfl ?_
          refine wp_cv (As := [.int (iI 4)]) (rest := []) rfl rfl (S.cell 158 (nc rfl)) (by decide) rfl rfl rfl (Nat.le_of_ble_eq_true rfl) (Nat.le_of_ble_eq_true rfl) (hW _ S) (fun r9 H9 q9 => ?_)
          obtain ⟨m9, γ9, t9, rfl, S, hW⟩ := q9
          show wp _ _ _ _ _ [] _ _
          exact hW z2 z3 _ S
    · have dc4 := (Classical.not_not.mp c4)
      have hW := hW.1 dc4
      refine wp_g (n := 2) (pc' := 92) (L' := [some (.ref 158), some (.int (iI y1)), z2, z3, some (.int (iI y4))]) (st' := [.int (iI 3), .ref 158]) rfl ?_
      refine wp_cv (As := [.int (iI 3)]) (rest := []) rfl rfl (S.cell 158 (nc rfl)) (by decide) rfl rfl rfl (Nat.le_of_ble_eq_true rfl) (Nat.le_of_ble_eq_true rfl) (hW _ S) (fun r10 H10 q10 => ?_)
      obtain ⟨m10, γ10, t10, rfl, S, hW⟩ := q10
      show wp _ _ _ _ _ [] _ _
      refine wp_g (n := 1) (pc' := 120) (L' := [some (.ref 158), some (.int (iI y1)), z2, z3, some (.int (iI y4))]) (st' := []) rfl ?_
      exact hW z2 z3 _ S
theorem vc_X9_readsEdge_120 {E : am_E} {k : Nat} {x1 : Int} {y1 : Int} {y4 : Int} {m : MM} {γ : GM} {t : am_H} {Q : MM → GM → am_H → Prop} (hx1 : rJ x1) (hy1 : rJ y1) (hy4 : rJ y4) (hW : W_X9_readsEdge_120 E k x1 y1 y4 m γ t Q) : hd_X9_readsEdge_120 E k x1 y1 y4 m γ t Q := by
  unfold W_X9_readsEdge_120 at hW
  intro z2 z3 h S
  refine wp_g (n := 1) (pc' := 121) (L' := [some (.ref 158), some (.int (iI y1)), z2, z3, some (.int (iI y4))]) (st' := [.ref 158]) rfl ?_
  refine wp_cv (As := []) (rest := []) rfl rfl (S.cell 158 (nc rfl)) (by decide) rfl rfl rfl (Nat.le_of_ble_eq_true rfl) (Nat.le_of_ble_eq_true rfl) (hW _ S) (fun r1 H1 q1 => ?_)
  obtain ⟨m1, γ1, t1, rfl, S, hW⟩ := q1
  show wp _ _ _ _ _ [] _ _
  refine wp_g (n := 1) (pc' := 125) (L' := [some (.ref 158), some (.int (iI y1)), z2, z3, some (.int (iI y4))]) (st' := [.ref 158]) rfl ?_
  refine wp_getf (v := .int (iI (m1 158 39))) rfl rfl (S.cell 158 (nc rfl)) (by decide) rfl ?_
  have hr2 : rJ (m1 158 39) := S.rg 158 39 (nl rfl)
  refine wp_ifI (a := (m1 158 39)) rfl rfl hr2.1 hr2.2 (fun c3 => ?_) (fun c3 => ?_)
  · have dc3 := c3
    have hW := hW.2 dc3
    exact wp_vret rfl rfl ⟨_, _, _, rfl, S, hW⟩
  · have dc3 := (Classical.not_not.mp c3)
    have hW := hW.1 dc3
    refine wp_g (n := 1) (pc' := 132) (L' := [some (.ref 158), some (.int (iI y1)), z2, z3, some (.int (iI y4))]) (st' := [.ref 158]) rfl ?_
    refine wp_getf (v := .ref 162) rfl rfl (S.cell 158 (nc rfl)) (by decide) rfl ?_
    refine wp_g (n := 2) (pc' := 138) (L' := [some (.ref 158), some (.int (iI y1)), z2, z3, some (.int (iI y4))]) (st' := [.int (iI y1), .int (iI y4), .ref 162]) rfl ?_
    obtain ⟨p5, hW⟩ := hW
    refine wp_iasF (n := 24) (F := (m1 162)) (y := y1) rfl (S.cell 162 (nc rfl)) p5.1 p5.2 (by decide) (fun H4 hl4 hz4 hf4 => ?_)
    have S : ST H4 (up m1 162 (up (m1 162) ((y4).toNat) y1)) γ1 t1 := S.setI 162 (nc rfl) hl4 hz4 hf4 hy1.1 hy1.2
    exact wp_vret rfl rfl ⟨_, _, _, rfl, S, hW⟩
def hd_X9_readsLine_59 (E : am_E) (k : Nat) (y1 : Int) (m : MM) (γ : GM) (t : am_H) (Q : MM → GM → am_H → Prop) : Prop := TT (pV Q) E (k + 1) 231 59 [some (.ref 158), some (.int (iI y1))] [] m γ t
abbrev W_X9_readsLine (E : am_E) (k : Nat) (m : MM) (γ : GM) (t : am_H) (Q : MM → GM → am_H → Prop) : Prop := (TI E k 226 [.ref 158, .ref 1000026] m γ t (fun v1 m1 γ1 t1 => (((v1 = 0) → (TI E k 226 [.ref 158, .ref 1000028] m1 γ1 t1 (fun v3 m3 γ3 t3 => (((v3 = 0) → (TI E k 226 [.ref 158, .ref 1000030] m3 γ3 t3 (fun v5 m5 γ5 t5 => (((v5 = 0) → (TV E k 227 [.ref 158, .int (iI 0)] m5 γ5 t5 (fun m7 γ7 t7 => (TV E k 230 [.ref 158, .int (iI 3)] m7 γ7 t7 (fun m8 γ8 t8 => (hd_X9_readsLine_59 E k 3 m8 γ8 t8 Q)))))) ∧ (¬ (v5 = 0) → (TV E k 227 [.ref 158, .int (iI 1)] m5 γ5 t5 (fun m9 γ9 t9 => (TV E k 230 [.ref 158, .int (iI 3)] m9 γ9 t9 (fun m10 γ10 t10 => (hd_X9_readsLine_59 E k 3 m10 γ10 t10 Q)))))))))) ∧ (¬ (v3 = 0) → (TV E k 227 [.ref 158, .int (iI 1)] m3 γ3 t3 (fun m11 γ11 t11 => (TV E k 230 [.ref 158, .int (iI 2)] m11 γ11 t11 (fun m12 γ12 t12 => (hd_X9_readsLine_59 E k 2 m12 γ12 t12 Q)))))))))) ∧ (¬ (v1 = 0) → (TV E k 227 [.ref 158, .int (iI 1)] m1 γ1 t1 (fun m13 γ13 t13 => (TV E k 230 [.ref 158, .int (iI 1)] m13 γ13 t13 (fun m14 γ14 t14 => (hd_X9_readsLine_59 E k 1 m14 γ14 t14 Q)))))))))
abbrev W_X9_readsLine_59 (E : am_E) (k : Nat) (y1 : Int) (m : MM) (γ : GM) (t : am_H) (Q : MM → GM → am_H → Prop) : Prop := (TI E k 228 [.ref 158, .int (iI 44)] m γ t (fun v1 m1 γ1 t1 => (((v1 = 0) → (TI E k 228 [.ref 158, .int (iI 59)] m1 γ1 t1 (fun v3 m3 γ3 t3 => (TV E k 227 [.ref 158, .int (iI v3)] m3 γ3 t3 (fun m4 γ4 t4 => (Q m4 γ4 t4)))))) ∧ (¬ (v1 = 0) → (TV E k 223 [.ref 158] m1 γ1 t1 (fun m5 γ5 t5 => (TV E k 230 [.ref 158, .int (iI y1)] m5 γ5 t5 (fun m6 γ6 t6 => (hd_X9_readsLine_59 E k y1 m6 γ6 t6 Q)))))))))
theorem vc_X9_readsLine {E : am_E} {k : Nat} {m : MM} {γ : GM} {t : am_H} {Q : MM → GM → am_H → Prop} (hW : W_X9_readsLine E k  m γ t Q) : TV E (k + 1) 231 [.ref 158] m γ t Q := by
  unfold W_X9_readsLine at hW
  intro h S
  refine wp_g (n := 2) (pc' := 4) (L' := [some (.ref 158), none]) (st' := [.ref 1000026, .ref 158]) rfl ?_
  refine wp_cv (As := [.ref 1000026]) (rest := []) rfl rfl (S.cell 158 (nc rfl)) (by decide) rfl rfl rfl (Nat.le_of_ble_eq_true rfl) (Nat.le_of_ble_eq_true rfl) (hW _ S) (fun r1 H1 q1 => ?_)
  obtain ⟨v1, m1, γ1, t1, rfl, hv1, S, hW⟩ := q1
  show wp _ _ _ _ _ [.int (iI v1)] _ _
  refine wp_ifI (a := v1) rfl rfl hv1.1 hv1.2 (fun c2 => ?_) (fun c2 => ?_)
  · have dc2 := c2
    have hW := hW.1 dc2
    refine wp_g (n := 2) (pc' := 18) (L' := [some (.ref 158), none]) (st' := [.ref 1000028, .ref 158]) rfl ?_
    refine wp_cv (As := [.ref 1000028]) (rest := []) rfl rfl (S.cell 158 (nc rfl)) (by decide) rfl rfl rfl (Nat.le_of_ble_eq_true rfl) (Nat.le_of_ble_eq_true rfl) (hW _ S) (fun r3 H3 q3 => ?_)
    obtain ⟨v3, m3, γ3, t3, rfl, hv3, S, hW⟩ := q3
    show wp _ _ _ _ _ [.int (iI v3)] _ _
    refine wp_ifI (a := v3) rfl rfl hv3.1 hv3.2 (fun c4 => ?_) (fun c4 => ?_)
    · have dc4 := c4
      have hW := hW.1 dc4
      refine wp_g (n := 5) (pc' := 33) (L' := [some (.ref 158), some (.int (iI 3))]) (st' := [.int (iI 3), .int (iI 3), .ref 158]) rfl ?_
      refine wp_g (n := 1) (pc' := 36) (L' := [some (.ref 158), some (.int (iI 3))]) (st' := [.ref 158]) rfl ?_
      refine wp_g (n := 2) (pc' := 40) (L' := [some (.ref 158), some (.int (iI 3))]) (st' := [.ref 1000030, .ref 158, .ref 158]) rfl ?_
      refine wp_cv (As := [.ref 1000030]) (rest := [.ref 158]) rfl rfl (S.cell 158 (nc rfl)) (by decide) rfl rfl rfl (Nat.le_of_ble_eq_true rfl) (Nat.le_of_ble_eq_true rfl) (hW _ S) (fun r5 H5 q5 => ?_)
      obtain ⟨v5, m5, γ5, t5, rfl, hv5, S, hW⟩ := q5
      show wp _ _ _ _ _ [.int (iI v5), .ref 158] _ _
      refine wp_ifI (a := v5) rfl rfl hv5.1 hv5.2 (fun c6 => ?_) (fun c6 => ?_)
      · have dc6 := c6
        have hW := hW.1 dc6
        refine wp_g (n := 1) (pc' := 51) (L' := [some (.ref 158), some (.int (iI 3))]) (st' := [.int (iI 0), .ref 158]) rfl ?_
        refine wp_cv (As := [.int (iI 0)]) (rest := []) rfl rfl (S.cell 158 (nc rfl)) (by decide) rfl rfl rfl (Nat.le_of_ble_eq_true rfl) (Nat.le_of_ble_eq_true rfl) (hW _ S) (fun r7 H7 q7 => ?_)
        obtain ⟨m7, γ7, t7, rfl, S, hW⟩ := q7
        show wp _ _ _ _ _ [] _ _
        refine wp_g (n := 2) (pc' := 56) (L' := [some (.ref 158), some (.int (iI 3))]) (st' := [.int (iI 3), .ref 158]) rfl ?_
        refine wp_cv (As := [.int (iI 3)]) (rest := []) rfl rfl (S.cell 158 (nc rfl)) (by decide) rfl rfl rfl (Nat.le_of_ble_eq_true rfl) (Nat.le_of_ble_eq_true rfl) (hW _ S) (fun r8 H8 q8 => ?_)
        obtain ⟨m8, γ8, t8, rfl, S, hW⟩ := q8
        show wp _ _ _ _ _ [] _ _
        exact hW _ S
      · have dc6 := c6
        have hW := hW.2 dc6
        refine wp_g (n := 2) (pc' := 51) (L' := [some (.ref 158), some (.int (iI 3))]) (st' := [.int (iI 1), .ref 158]) rfl ?_
        refine wp_cv (As := [.int (iI 1)]) (rest := []) rfl rfl (S.cell 158 (nc rfl)) (by decide) rfl rfl rfl (Nat.le_of_ble_eq_true rfl) (Nat.le_of_ble_eq_true rfl) (hW _ S) (fun r9 H9 q9 => ?_)
        obtain ⟨m9, γ9, t9, rfl, S, hW⟩ := q9
        show wp _ _ _ _ _ [] _ _
        refine wp_g (n := 2) (pc' := 56) (L' := [some (.ref 158), some (.int (iI 3))]) (st' := [.int (iI 3), .ref 158]) rfl ?_
        refine wp_cv (As := [.int (iI 3)]) (rest := []) rfl rfl (S.cell 158 (nc rfl)) (by decide) rfl rfl rfl (Nat.le_of_ble_eq_true rfl) (Nat.le_of_ble_eq_true rfl) (hW _ S) (fun r10 H10 q10 => ?_)
        obtain ⟨m10, γ10, t10, rfl, S, hW⟩ := q10
        show wp _ _ _ _ _ [] _ _
        exact hW _ S
    · have dc4 := c4
      have hW := hW.2 dc4
      refine wp_g (n := 6) (pc' := 33) (L' := [some (.ref 158), some (.int (iI 2))]) (st' := [.int (iI 3), .int (iI 2), .ref 158]) rfl ?_
      refine wp_g (n := 1) (pc' := 46) (L' := [some (.ref 158), some (.int (iI 2))]) (st' := [.ref 158]) rfl ?_
      refine wp_g (n := 2) (pc' := 51) (L' := [some (.ref 158), some (.int (iI 2))]) (st' := [.int (iI 1), .ref 158]) rfl ?_
      refine wp_cv (As := [.int (iI 1)]) (rest := []) rfl rfl (S.cell 158 (nc rfl)) (by decide) rfl rfl rfl (Nat.le_of_ble_eq_true rfl) (Nat.le_of_ble_eq_true rfl) (hW _ S) (fun r11 H11 q11 => ?_)
      obtain ⟨m11, γ11, t11, rfl, S, hW⟩ := q11
      show wp _ _ _ _ _ [] _ _
      refine wp_g (n := 2) (pc' := 56) (L' := [some (.ref 158), some (.int (iI 2))]) (st' := [.int (iI 2), .ref 158]) rfl ?_
      refine wp_cv (As := [.int (iI 2)]) (rest := []) rfl rfl (S.cell 158 (nc rfl)) (by decide) rfl rfl rfl (Nat.le_of_ble_eq_true rfl) (Nat.le_of_ble_eq_true rfl) (hW _ S) (fun r12 H12 q12 => ?_)
      obtain ⟨m12, γ12, t12, rfl, S, hW⟩ := q12
      show wp _ _ _ _ _ [] _ _
      exact hW _ S
  · have dc2 := c2
    have hW := hW.2 dc2
    refine wp_g (n := 6) (pc' := 33) (L' := [some (.ref 158), some (.int (iI 1))]) (st' := [.int (iI 3), .int (iI 1), .ref 158]) rfl ?_
    refine wp_g (n := 1) (pc' := 46) (L' := [some (.ref 158), some (.int (iI 1))]) (st' := [.ref 158]) rfl ?_
    refine wp_g (n := 2) (pc' := 51) (L' := [some (.ref 158), some (.int (iI 1))]) (st' := [.int (iI 1), .ref 158]) rfl ?_
    refine wp_cv (As := [.int (iI 1)]) (rest := []) rfl rfl (S.cell 158 (nc rfl)) (by decide) rfl rfl rfl (Nat.le_of_ble_eq_true rfl) (Nat.le_of_ble_eq_true rfl) (hW _ S) (fun r13 H13 q13 => ?_)
    obtain ⟨m13, γ13, t13, rfl, S, hW⟩ := q13
    show wp _ _ _ _ _ [] _ _
    refine wp_g (n := 2) (pc' := 56) (L' := [some (.ref 158), some (.int (iI 1))]) (st' := [.int (iI 1), .ref 158]) rfl ?_
    refine wp_cv (As := [.int (iI 1)]) (rest := []) rfl rfl (S.cell 158 (nc rfl)) (by decide) rfl rfl rfl (Nat.le_of_ble_eq_true rfl) (Nat.le_of_ble_eq_true rfl) (hW _ S) (fun r14 H14 q14 => ?_)
    obtain ⟨m14, γ14, t14, rfl, S, hW⟩ := q14
    show wp _ _ _ _ _ [] _ _
    exact hW _ S
theorem vc_X9_readsLine_59 {E : am_E} {k : Nat} {y1 : Int} {m : MM} {γ : GM} {t : am_H} {Q : MM → GM → am_H → Prop} (hy1 : rJ y1) (hW : W_X9_readsLine_59 E k y1 m γ t Q) : hd_X9_readsLine_59 E k y1 m γ t Q := by
  unfold W_X9_readsLine_59 at hW
  intro h S
  refine wp_g (n := 2) (pc' := 62) (L' := [some (.ref 158), some (.int (iI y1))]) (st' := [.int (iI 44), .ref 158]) rfl ?_
  refine wp_cv (As := [.int (iI 44)]) (rest := []) rfl rfl (S.cell 158 (nc rfl)) (by decide) rfl rfl rfl (Nat.le_of_ble_eq_true rfl) (Nat.le_of_ble_eq_true rfl) (hW _ S) (fun r1 H1 q1 => ?_)
  obtain ⟨v1, m1, γ1, t1, rfl, hv1, S, hW⟩ := q1
  show wp _ _ _ _ _ [.int (iI v1)] _ _
  refine wp_ifI (a := v1) rfl rfl hv1.1 hv1.2 (fun c2 => ?_) (fun c2 => ?_)
  · have dc2 := c2
    have hW := hW.1 dc2
    refine wp_g (n := 3) (pc' := 84) (L' := [some (.ref 158), some (.int (iI y1))]) (st' := [.int (iI 59), .ref 158, .ref 158]) rfl ?_
    refine wp_cv (As := [.int (iI 59)]) (rest := [.ref 158]) rfl rfl (S.cell 158 (nc rfl)) (by decide) rfl rfl rfl (Nat.le_of_ble_eq_true rfl) (Nat.le_of_ble_eq_true rfl) (hW _ S) (fun r3 H3 q3 => ?_)
    obtain ⟨v3, m3, γ3, t3, rfl, hv3, S, hW⟩ := q3
    show wp _ _ _ _ _ [.int (iI v3), .ref 158] _ _
    refine wp_cv (As := [.int (iI v3)]) (rest := []) rfl rfl (S.cell 158 (nc rfl)) (by decide) rfl rfl rfl (Nat.le_of_ble_eq_true rfl) (Nat.le_of_ble_eq_true rfl) (hW _ S) (fun r4 H4 q4 => ?_)
    obtain ⟨m4, γ4, t4, rfl, S, hW⟩ := q4
    show wp _ _ _ _ _ [] _ _
    exact wp_vret rfl rfl ⟨_, _, _, rfl, S, hW⟩
  · have dc2 := c2
    have hW := hW.2 dc2
    refine wp_g (n := 1) (pc' := 69) (L' := [some (.ref 158), some (.int (iI y1))]) (st' := [.ref 158]) rfl ?_
    refine wp_cv (As := []) (rest := []) rfl rfl (S.cell 158 (nc rfl)) (by decide) rfl rfl rfl (Nat.le_of_ble_eq_true rfl) (Nat.le_of_ble_eq_true rfl) (hW _ S) (fun r5 H5 q5 => ?_)
    obtain ⟨m5, γ5, t5, rfl, S, hW⟩ := q5
    show wp _ _ _ _ _ [] _ _
    refine wp_g (n := 2) (pc' := 74) (L' := [some (.ref 158), some (.int (iI y1))]) (st' := [.int (iI y1), .ref 158]) rfl ?_
    refine wp_cv (As := [.int (iI y1)]) (rest := []) rfl rfl (S.cell 158 (nc rfl)) (by decide) rfl rfl rfl (Nat.le_of_ble_eq_true rfl) (Nat.le_of_ble_eq_true rfl) (hW _ S) (fun r6 H6 q6 => ?_)
    obtain ⟨m6, γ6, t6, rfl, S, hW⟩ := q6
    show wp _ _ _ _ _ [] _ _
    refine wp_g (n := 1) (pc' := 59) (L' := [some (.ref 158), some (.int (iI y1))]) (st' := []) rfl ?_
    exact hW _ S
def hd_X9_told_78 (E : am_E) (k : Nat) (x1 : Int) (y1 : Int) (y4 : Int) (m : MM) (γ : GM) (t : am_H) (Q : Int → MM → GM → am_H → Prop) : Prop := ∀ (z2 z3 : Option Value), TT (pI Q) E (k + 1) 232 78 [some (.ref 158), some (.int (iI y1)), z2, z3, some (.int (iI y4))] [] m γ t
def hd_X9_told_99 (E : am_E) (k : Nat) (x1 : Int) (y1 : Int) (m : MM) (γ : GM) (t : am_H) (Q : Int → MM → GM → am_H → Prop) : Prop := ∀ (z2 z3 z4 : Option Value), TT (pI Q) E (k + 1) 232 99 [some (.ref 158), some (.int (iI y1)), z2, z3, z4] [] m γ t
abbrev W_X9_told (E : am_E) (k : Nat) (x1 : Int) (m : MM) (γ : GM) (t : am_H) (Q : Int → MM → GM → am_H → Prop) : Prop := (TI E k 194 [.int (iI x1)] m γ t (fun v1 m1 γ1 t1 => (((v1 = 0) → (Q (-2) m1 γ1 t1)) ∧ (¬ (v1 = 0) → (TV E k 223 [.ref 158] (up (up (up (up m1 158 (up (m1 158) 33 0)) 158 (up (up (m1 158) 33 0) 34 (-1))) 158 (up (up (up (m1 158) 33 0) 34 (-1)) 39 0)) 158 (up (up (up (up (m1 158) 33 0) 34 (-1)) 39 0) 35 0)) γ1 t1 (fun m7 γ7 t7 => (TI E k 226 [.ref 158, .ref 1000024] m7 γ7 t7 (fun v8 m8 γ8 t8 => (TV E k 227 [.ref 158, .int (iI v8)] m8 γ8 t8 (fun m9 γ9 t9 => (TI E k 229 [.ref 158, .int (iI 1), .int (iI 4)] m9 γ9 t9 (fun v10 m10 γ10 t10 => (TI E k 229 [.ref 158, .int (iI 1), .int (iI 4)] m10 γ10 t10 (fun v11 m11 γ11 t11 => (TI E k 228 [.ref 158, .int (iI 59)] m11 γ11 t11 (fun v12 m12 γ12 t12 => (TV E k 227 [.ref 158, .int (iI v12)] m12 γ12 t12 (fun m13 γ13 t13 => (TV E k 200 [.ref 158, .int (iI v10), .int (iI v11)] m13 γ13 t13 (fun m14 γ14 t14 => (hd_X9_told_78 E k x1 x1 0 m14 γ14 t14 Q)))))))))))))))))))))
abbrev W_X9_told_78 (E : am_E) (k : Nat) (x1 : Int) (y1 : Int) (y4 : Int) (m : MM) (γ : GM) (t : am_H) (Q : Int → MM → GM → am_H → Prop) : Prop := (((y4 < 24) → ((0 ≤ y4 ∧ y4 < 24) ∧ (hd_X9_told_78 E k x1 y1 (y4 + 1) (up m 162 (up (m 162) ((y4).toNat) 0)) γ t Q))) ∧ (¬ (y4 < 24) → (hd_X9_told_99 E k x1 y1 m γ t Q)))
abbrev W_X9_told_99 (E : am_E) (k : Nat) (x1 : Int) (y1 : Int) (m : MM) (γ : GM) (t : am_H) (Q : Int → MM → GM → am_H → Prop) : Prop := ((((m 158 39) = 0) → ((((m 158 37) = 0) → (TV E k 210 [.ref 158] (up m 158 (up (m 158) 32 0)) γ t (fun m9 γ9 t9 => (TI E k 202 [.ref 158, .int (iI y1), .int (iI (m9 158 16))] m9 γ9 t9 (fun v11 m11 γ11 t11 => (Q v11 m11 γ11 t11)))))) ∧ (¬ ((m 158 37) = 0) → (TV E k 231 [.ref 158] m γ t (fun m12 γ12 t12 => (hd_X9_told_99 E k x1 y1 m12 γ12 t12 Q)))))) ∧ (¬ ((m 158 39) = 0) → (Q (-4) (up m 158 (up (m 158) 32 0)) γ t)))
theorem vc_X9_told {E : am_E} {k : Nat} {x1 : Int} {m : MM} {γ : GM} {t : am_H} {Q : Int → MM → GM → am_H → Prop} (hx1 : rJ x1) (hW : W_X9_told E k x1 m γ t Q) : TI E (k + 1) 232 [.ref 158, .int (iI x1)] m γ t Q := by
  unfold W_X9_told at hW
  intro h S
  refine wp_g (n := 1) (pc' := 1) (L' := [some (.ref 158), some (.int (iI x1)), none, none, none]) (st' := [.int (iI x1)]) rfl ?_
  refine wp_cs (As := [.int (iI x1)]) (rest := []) rfl rfl rfl rfl (Nat.le_of_ble_eq_true rfl) (Nat.le_of_ble_eq_true rfl) (hW _ S) (fun r1 H1 q1 => ?_)
  obtain ⟨v1, m1, γ1, t1, rfl, hv1, S, hW⟩ := q1
  show wp _ _ _ _ _ [.int (iI v1)] _ _
  refine wp_ifI (a := v1) rfl rfl hv1.1 hv1.2 (fun c2 => ?_) (fun c2 => ?_)
  · have dc2 := c2
    have hW := hW.2 dc2
    refine wp_g (n := 2) (pc' := 12) (L' := [some (.ref 158), some (.int (iI x1)), none, none, none]) (st' := [.int (iI 0), .ref 158]) rfl ?_
    refine wp_putI rfl rfl (S.cell 158 (nc rfl)) (Nat.le_of_ble_eq_true rfl) rfl (fun H3 hl3 hz3 hf3 => ?_)
    have S : ST H3 (up m1 158 (up (m1 158) 33 0)) γ1 t1 := S.setI 158 (nc rfl) hl3 hz3 hf3 (by decide) (by decide)
    refine wp_g (n := 2) (pc' := 17) (L' := [some (.ref 158), some (.int (iI x1)), none, none, none]) (st' := [.int (iI (-1)), .ref 158]) rfl ?_
    refine wp_putI rfl rfl (S.cell 158 (nc rfl)) (Nat.le_of_ble_eq_true rfl) rfl (fun H4 hl4 hz4 hf4 => ?_)
    have S : ST H4 (up (up m1 158 (up (m1 158) 33 0)) 158 (up (up (m1 158) 33 0) 34 (-1))) γ1 t1 := S.setI 158 (nc rfl) hl4 hz4 hf4 (by decide) (by decide)
    refine wp_g (n := 2) (pc' := 22) (L' := [some (.ref 158), some (.int (iI x1)), none, none, none]) (st' := [.int (iI 0), .ref 158]) rfl ?_
    refine wp_putZ rfl rfl (S.cell 158 (nc rfl)) (Nat.le_of_ble_eq_true rfl) rfl (by decide) (fun H5 hl5 hz5 hf5 => ?_)
    have S : ST H5 (up (up (up m1 158 (up (m1 158) 33 0)) 158 (up (up (m1 158) 33 0) 34 (-1))) 158 (up (up (up (m1 158) 33 0) 34 (-1)) 39 0)) γ1 t1 := S.setI 158 (nc rfl) hl5 hz5 hf5 (by decide) (by decide)
    refine wp_g (n := 2) (pc' := 27) (L' := [some (.ref 158), some (.int (iI x1)), none, none, none]) (st' := [.int (iI 0), .ref 158]) rfl ?_
    refine wp_putI rfl rfl (S.cell 158 (nc rfl)) (Nat.le_of_ble_eq_true rfl) rfl (fun H6 hl6 hz6 hf6 => ?_)
    have S : ST H6 (up (up (up (up m1 158 (up (m1 158) 33 0)) 158 (up (up (m1 158) 33 0) 34 (-1))) 158 (up (up (up (m1 158) 33 0) 34 (-1)) 39 0)) 158 (up (up (up (up (m1 158) 33 0) 34 (-1)) 39 0) 35 0)) γ1 t1 := S.setI 158 (nc rfl) hl6 hz6 hf6 (by decide) (by decide)
    refine wp_g (n := 1) (pc' := 31) (L' := [some (.ref 158), some (.int (iI x1)), none, none, none]) (st' := [.ref 158]) rfl ?_
    refine wp_cv (As := []) (rest := []) rfl rfl (S.cell 158 (nc rfl)) (by decide) rfl rfl rfl (Nat.le_of_ble_eq_true rfl) (Nat.le_of_ble_eq_true rfl) (hW _ S) (fun r7 H7 q7 => ?_)
    obtain ⟨m7, γ7, t7, rfl, S, hW⟩ := q7
    show wp _ _ _ _ _ [] _ _
    refine wp_g (n := 3) (pc' := 39) (L' := [some (.ref 158), some (.int (iI x1)), none, none, none]) (st' := [.ref 1000024, .ref 158, .ref 158]) rfl ?_
    refine wp_cv (As := [.ref 1000024]) (rest := [.ref 158]) rfl rfl (S.cell 158 (nc rfl)) (by decide) rfl rfl rfl (Nat.le_of_ble_eq_true rfl) (Nat.le_of_ble_eq_true rfl) (hW _ S) (fun r8 H8 q8 => ?_)
    obtain ⟨v8, m8, γ8, t8, rfl, hv8, S, hW⟩ := q8
    show wp _ _ _ _ _ [.int (iI v8), .ref 158] _ _
    refine wp_cv (As := [.int (iI v8)]) (rest := []) rfl rfl (S.cell 158 (nc rfl)) (by decide) rfl rfl rfl (Nat.le_of_ble_eq_true rfl) (Nat.le_of_ble_eq_true rfl) (hW _ S) (fun r9 H9 q9 => ?_)
    obtain ⟨m9, γ9, t9, rfl, S, hW⟩ := q9
    show wp _ _ _ _ _ [] _ _
    refine wp_g (n := 3) (pc' := 48) (L' := [some (.ref 158), some (.int (iI x1)), none, none, none]) (st' := [.int (iI 4), .int (iI 1), .ref 158]) rfl ?_
    refine wp_cv (As := [.int (iI 1), .int (iI 4)]) (rest := []) rfl rfl (S.cell 158 (nc rfl)) (by decide) rfl rfl rfl (Nat.le_of_ble_eq_true rfl) (Nat.le_of_ble_eq_true rfl) (hW _ S) (fun r10 H10 q10 => ?_)
    obtain ⟨v10, m10, γ10, t10, rfl, hv10, S, hW⟩ := q10
    show wp _ _ _ _ _ [.int (iI v10)] _ _
    refine wp_g (n := 4) (pc' := 55) (L' := [some (.ref 158), some (.int (iI x1)), some (.int (iI v10)), none, none]) (st' := [.int (iI 4), .int (iI 1), .ref 158]) rfl ?_
    refine wp_cv (As := [.int (iI 1), .int (iI 4)]) (rest := []) rfl rfl (S.cell 158 (nc rfl)) (by decide) rfl rfl rfl (Nat.le_of_ble_eq_true rfl) (Nat.le_of_ble_eq_true rfl) (hW _ S) (fun r11 H11 q11 => ?_)
    obtain ⟨v11, m11, γ11, t11, rfl, hv11, S, hW⟩ := q11
    show wp _ _ _ _ _ [.int (iI v11)] _ _
    refine wp_g (n := 4) (pc' := 63) (L' := [some (.ref 158), some (.int (iI x1)), some (.int (iI v10)), some (.int (iI v11)), none]) (st' := [.int (iI 59), .ref 158, .ref 158]) rfl ?_
    refine wp_cv (As := [.int (iI 59)]) (rest := [.ref 158]) rfl rfl (S.cell 158 (nc rfl)) (by decide) rfl rfl rfl (Nat.le_of_ble_eq_true rfl) (Nat.le_of_ble_eq_true rfl) (hW _ S) (fun r12 H12 q12 => ?_)
    obtain ⟨v12, m12, γ12, t12, rfl, hv12, S, hW⟩ := q12
    show wp _ _ _ _ _ [.int (iI v12), .ref 158] _ _
    refine wp_cv (As := [.int (iI v12)]) (rest := []) rfl rfl (S.cell 158 (nc rfl)) (by decide) rfl rfl rfl (Nat.le_of_ble_eq_true rfl) (Nat.le_of_ble_eq_true rfl) (hW _ S) (fun r13 H13 q13 => ?_)
    obtain ⟨m13, γ13, t13, rfl, S, hW⟩ := q13
    show wp _ _ _ _ _ [] _ _
    refine wp_g (n := 3) (pc' := 72) (L' := [some (.ref 158), some (.int (iI x1)), some (.int (iI v10)), some (.int (iI v11)), none]) (st' := [.int (iI v11), .int (iI v10), .ref 158]) rfl ?_
    refine wp_cv (As := [.int (iI v10), .int (iI v11)]) (rest := []) rfl rfl (S.cell 158 (nc rfl)) (by decide) rfl rfl rfl (Nat.le_of_ble_eq_true rfl) (Nat.le_of_ble_eq_true rfl) (hW _ S) (fun r14 H14 q14 => ?_)
    obtain ⟨m14, γ14, t14, rfl, S, hW⟩ := q14
    show wp _ _ _ _ _ [] _ _
    refine wp_g (n := 2) (pc' := 78) (L' := [some (.ref 158), some (.int (iI x1)), some (.int (iI v10)), some (.int (iI v11)), some (.int (iI 0))]) (st' := []) rfl ?_
    exact hW (some (.int (iI v10))) (some (.int (iI v11))) _ S
  · have dc2 := (Classical.not_not.mp c2)
    have hW := hW.1 dc2
    refine wp_g (n := 1) (pc' := 9) (L' := [some (.ref 158), some (.int (iI x1)), none, none, none]) (st' := [.int (iI (-2))]) rfl ?_
    exact wp_iret rfl rfl ⟨_, _, _, _, rfl, (by decide), S, hW⟩
theorem vc_X9_told_78 {E : am_E} {k : Nat} {x1 : Int} {y1 : Int} {y4 : Int} {m : MM} {γ : GM} {t : am_H} {Q : Int → MM → GM → am_H → Prop} (hx1 : rJ x1) (hy1 : rJ y1) (hy4 : rJ y4) (hW : W_X9_told_78 E k x1 y1 y4 m γ t Q) : hd_X9_told_78 E k x1 y1 y4 m γ t Q := by
  unfold W_X9_told_78 at hW
  intro z2 z3 h S
  refine wp_g (n := 2) (pc' := 82) (L' := [some (.ref 158), some (.int (iI y1)), z2, z3, some (.int (iI y4))]) (st' := [.int (iI 24), .int (iI y4)]) rfl ?_
  refine wp_icmpI (a := y4) (b := 24) rfl rfl hy4.1 hy4.2 (by decide) (by decide) (fun c1 => ?_) (fun c1 => ?_)
  · have dc1 := (Int.not_lt.mpr c1)
    have hW := hW.2 dc1
    exact hW z2 z3 (some (.int (iI y4))) _ S
  · have dc1 := (Int.not_le.mp c1)
    have hW := hW.1 dc1
    refine wp_g (n := 1) (pc' := 86) (L' := [some (.ref 158), some (.int (iI y1)), z2, z3, some (.int (iI y4))]) (st' := [.ref 158]) rfl ?_
    refine wp_getf (v := .ref 162) rfl rfl (S.cell 158 (nc rfl)) (by decide) rfl ?_
    refine wp_g (n := 2) (pc' := 92) (L' := [some (.ref 158), some (.int (iI y1)), z2, z3, some (.int (iI y4))]) (st' := [.int (iI 0), .int (iI y4), .ref 162]) rfl ?_
    obtain ⟨p3, hW⟩ := hW
    refine wp_iasF (n := 24) (F := (m 162)) (y := 0) rfl (S.cell 162 (nc rfl)) p3.1 p3.2 (by decide) (fun H2 hl2 hz2 hf2 => ?_)
    have S : ST H2 (up m 162 (up (m 162) ((y4).toNat) 0)) γ t := S.setI 162 (nc rfl) hl2 hz2 hf2 (by decide) (by decide)
    refine wp_iinc (L' := [some (.ref 158), some (.int (iI y1)), z2, (bif am_c2 z3 then none else z3), some (.int (iI (y4 + 1)))]) (a := y4) rfl rfl rfl ?_
    refine wp_g (n := 1) (pc' := 78) (L' := [some (.ref 158), some (.int (iI y1)), z2, (bif am_c2 z3 then none else z3), some (.int (iI (y4 + 1)))]) (st' := []) rfl ?_
    exact hW z2 (bif am_c2 z3 then none else z3) _ S
theorem vc_X9_told_99 {E : am_E} {k : Nat} {x1 : Int} {y1 : Int} {m : MM} {γ : GM} {t : am_H} {Q : Int → MM → GM → am_H → Prop} (hx1 : rJ x1) (hy1 : rJ y1) (hW : W_X9_told_99 E k x1 y1 m γ t Q) : hd_X9_told_99 E k x1 y1 m γ t Q := by
  unfold W_X9_told_99 at hW
  intro z2 z3 z4 h S
  refine wp_g (n := 1) (pc' := 100) (L' := [some (.ref 158), some (.int (iI y1)), z2, z3, z4]) (st' := [.ref 158]) rfl ?_
  refine wp_getf (v := .int (iI (m 158 39))) rfl rfl (S.cell 158 (nc rfl)) (by decide) rfl ?_
  have hr1 : rJ (m 158 39) := S.rg 158 39 (nl rfl)
  refine wp_ifI (a := (m 158 39)) rfl rfl hr1.1 hr1.2 (fun c2 => ?_) (fun c2 => ?_)
  · have dc2 := c2
    have hW := hW.2 dc2
    refine wp_g (n := 2) (pc' := 122) (L' := [some (.ref 158), some (.int (iI y1)), z2, z3, z4]) (st' := [.int (iI 0), .ref 158]) rfl ?_
    refine wp_putI rfl rfl (S.cell 158 (nc rfl)) (Nat.le_of_ble_eq_true rfl) rfl (fun H3 hl3 hz3 hf3 => ?_)
    have S : ST H3 (up m 158 (up (m 158) 32 0)) γ t := S.setI 158 (nc rfl) hl3 hz3 hf3 (by decide) (by decide)
    refine wp_g (n := 1) (pc' := 126) (L' := [some (.ref 158), some (.int (iI y1)), z2, z3, z4]) (st' := [.ref 158]) rfl ?_
    refine wp_getf (v := .int (iI (m 158 39))) rfl rfl (S.cell 158 (nc rfl)) (by decide) rfl ?_
    refine wp_ifI (a := (m 158 39)) rfl rfl hr1.1 hr1.2 (fun c4 => ?_) (fun c4 => ?_)
    · exact absurd c4 dc2
    · skip
      refine wp_g (n := 1) (pc' := 134) (L' := [some (.ref 158), some (.int (iI y1)), z2, z3, z4]) (st' := [.int (iI (-4))]) rfl ?_
      exact wp_iret rfl rfl ⟨_, _, _, _, rfl, (by decide), S, hW⟩
  · have dc2 := (Classical.not_not.mp c2)
    have hW := hW.1 dc2
    refine wp_g (n := 1) (pc' := 107) (L' := [some (.ref 158), some (.int (iI y1)), z2, z3, z4]) (st' := [.ref 158]) rfl ?_
    refine wp_getf (v := .int (iI (m 158 37))) rfl rfl (S.cell 158 (nc rfl)) (by decide) rfl ?_
    have hr5 : rJ (m 158 37) := S.rg 158 37 (nl rfl)
    refine wp_ifI (a := (m 158 37)) rfl rfl hr5.1 hr5.2 (fun c6 => ?_) (fun c6 => ?_)
    · have dc6 := c6
      have hW := hW.1 dc6
      refine wp_g (n := 2) (pc' := 122) (L' := [some (.ref 158), some (.int (iI y1)), z2, z3, z4]) (st' := [.int (iI 0), .ref 158]) rfl ?_
      refine wp_putI rfl rfl (S.cell 158 (nc rfl)) (Nat.le_of_ble_eq_true rfl) rfl (fun H7 hl7 hz7 hf7 => ?_)
      have S : ST H7 (up m 158 (up (m 158) 32 0)) γ t := S.setI 158 (nc rfl) hl7 hz7 hf7 (by decide) (by decide)
      refine wp_g (n := 1) (pc' := 126) (L' := [some (.ref 158), some (.int (iI y1)), z2, z3, z4]) (st' := [.ref 158]) rfl ?_
      refine wp_getf (v := .int (iI (m 158 39))) rfl rfl (S.cell 158 (nc rfl)) (by decide) rfl ?_
      refine wp_ifI (a := (m 158 39)) rfl rfl hr1.1 hr1.2 (fun c8 => ?_) (fun c8 => ?_)
      · skip
        refine wp_g (n := 1) (pc' := 136) (L' := [some (.ref 158), some (.int (iI y1)), z2, z3, z4]) (st' := [.ref 158]) rfl ?_
        refine wp_cv (As := []) (rest := []) rfl rfl (S.cell 158 (nc rfl)) (by decide) rfl rfl rfl (Nat.le_of_ble_eq_true rfl) (Nat.le_of_ble_eq_true rfl) (hW _ S) (fun r9 H9 q9 => ?_)
        obtain ⟨m9, γ9, t9, rfl, S, hW⟩ := q9
        show wp _ _ _ _ _ [] _ _
        refine wp_g (n := 3) (pc' := 142) (L' := [some (.ref 158), some (.int (iI y1)), z2, z3, z4]) (st' := [.ref 158, .int (iI y1), .ref 158]) rfl ?_
        refine wp_getf (v := .int (iI (m9 158 16))) rfl rfl (S.cell 158 (nc rfl)) (by decide) rfl ?_
        have hr10 : rJ (m9 158 16) := S.rg 158 16 (nl rfl)
        refine wp_cv (As := [.int (iI y1), .int (iI (m9 158 16))]) (rest := []) rfl rfl (S.cell 158 (nc rfl)) (by decide) rfl rfl rfl (Nat.le_of_ble_eq_true rfl) (Nat.le_of_ble_eq_true rfl) (hW _ S) (fun r11 H11 q11 => ?_)
        obtain ⟨v11, m11, γ11, t11, rfl, hv11, S, hW⟩ := q11
        show wp _ _ _ _ _ [.int (iI v11)] _ _
        exact wp_iret rfl rfl ⟨_, _, _, _, rfl, hv11, S, hW⟩
      · exact absurd dc2 c8
    · have dc6 := c6
      have hW := hW.2 dc6
      refine wp_g (n := 1) (pc' := 114) (L' := [some (.ref 158), some (.int (iI y1)), z2, z3, z4]) (st' := [.ref 158]) rfl ?_
      refine wp_cv (As := []) (rest := []) rfl rfl (S.cell 158 (nc rfl)) (by decide) rfl rfl rfl (Nat.le_of_ble_eq_true rfl) (Nat.le_of_ble_eq_true rfl) (hW _ S) (fun r12 H12 q12 => ?_)
      obtain ⟨m12, γ12, t12, rfl, S, hW⟩ := q12
      show wp _ _ _ _ _ [] _ _
      refine wp_g (n := 1) (pc' := 99) (L' := [some (.ref 158), some (.int (iI y1)), z2, z3, z4]) (st' := []) rfl ?_
      exact hW z2 z3 z4 _ S
abbrev W_X9_fault (E : am_E) (k : Nat) (x1 : Int) (m : MM) (γ : GM) (t : am_H) (Q : Int → MM → GM → am_H → Prop) : Prop := (((x1 = 0) → (Q (m 158 33) m γ t)) ∧ (¬ (x1 = 0) → (((x1 = 1) → (Q (m 158 34) m γ t)) ∧ (¬ (x1 = 1) → (Q (-1) m γ t)))))
theorem vc_X9_fault {E : am_E} {k : Nat} {x1 : Int} {m : MM} {γ : GM} {t : am_H} {Q : Int → MM → GM → am_H → Prop} (hx1 : rJ x1) (hW : W_X9_fault E k x1 m γ t Q) : TI E k 233 [.ref 158, .int (iI x1)] m γ t Q := by
  unfold W_X9_fault at hW
  intro h S
  refine wp_g (n := 1) (pc' := 1) (L' := [some (.ref 158), some (.int (iI x1))]) (st' := [.int (iI x1)]) rfl ?_
  refine wp_ifI (a := x1) rfl rfl hx1.1 hx1.2 (fun c1 => ?_) (fun c1 => ?_)
  · have dc1 := c1
    have hW := hW.2 dc1
    refine wp_g (n := 2) (pc' := 13) (L' := [some (.ref 158), some (.int (iI x1))]) (st' := [.int (iI 1), .int (iI x1)]) rfl ?_
    refine wp_icmpI (a := x1) (b := 1) rfl rfl hx1.1 hx1.2 (by decide) (by decide) (fun c2 => ?_) (fun c2 => ?_)
    · have dc2 := c2
      have hW := hW.2 dc2
      refine wp_g (n := 1) (pc' := 24) (L' := [some (.ref 158), some (.int (iI x1))]) (st' := [.int (iI (-1))]) rfl ?_
      exact wp_iret rfl rfl ⟨_, _, _, _, rfl, (by decide), S, hW⟩
    · have dc2 := (Classical.not_not.mp c2)
      have hW := hW.1 dc2
      refine wp_g (n := 1) (pc' := 17) (L' := [some (.ref 158), some (.int (iI x1))]) (st' := [.ref 158]) rfl ?_
      refine wp_getf (v := .int (iI (m 158 34))) rfl rfl (S.cell 158 (nc rfl)) (by decide) rfl ?_
      have hr3 : rJ (m 158 34) := S.rg 158 34 (nl rfl)
      refine wp_g (n := 1) (pc' := 24) (L' := [some (.ref 158), some (.int (iI x1))]) (st' := [.int (iI (m 158 34))]) rfl ?_
      exact wp_iret rfl rfl ⟨_, _, _, _, rfl, hr3, S, hW⟩
  · have dc1 := (Classical.not_not.mp c1)
    have hW := hW.1 dc1
    refine wp_g (n := 1) (pc' := 5) (L' := [some (.ref 158), some (.int (iI x1))]) (st' := [.ref 158]) rfl ?_
    refine wp_getf (v := .int (iI (m 158 33))) rfl rfl (S.cell 158 (nc rfl)) (by decide) rfl ?_
    have hr4 : rJ (m 158 33) := S.rg 158 33 (nl rfl)
    refine wp_g (n := 1) (pc' := 24) (L' := [some (.ref 158), some (.int (iI x1))]) (st' := [.int (iI (m 158 33))]) rfl ?_
    exact wp_iret rfl rfl ⟨_, _, _, _, rfl, hr4, S, hW⟩
def hd_X9_count_4 (E : am_E) (k : Nat) (x1 : Int) (y1 : Int) (y2 : Int) (y3 : Int) (m : MM) (γ : GM) (t : am_H) (Q : Int → MM → GM → am_H → Prop) : Prop := TT (pI Q) E (k + 1) 234 4 [some (.ref 158), some (.int (iI y1)), some (.int (iI y2)), some (.int (iI y3))] [] m γ t
abbrev W_X9_count (E : am_E) (k : Nat) (x1 : Int) (m : MM) (γ : GM) (t : am_H) (Q : Int → MM → GM → am_H → Prop) : Prop := (hd_X9_count_4 E k x1 x1 0 0 m γ t Q)
abbrev W_X9_count_4 (E : am_E) (k : Nat) (x1 : Int) (y1 : Int) (y2 : Int) (y3 : Int) (m : MM) (γ : GM) (t : am_H) (Q : Int → MM → GM → am_H → Prop) : Prop := (((y3 < 3) → (TI E k 195 [.ref 158, .int (iI y3)] m γ t (fun v9 m9 γ9 t9 => (((v9 = 0) → (hd_X9_count_4 E k x1 y1 (bOr y2 0) (y3 + 1) m9 γ9 t9 Q)) ∧ (¬ (v9 = 0) → (hd_X9_count_4 E k x1 y1 (bOr y2 (bShl 1 y3)) (y3 + 1) m9 γ9 t9 Q)))))) ∧ (¬ (y3 < 3) → ((y1 = 0 → (Q y2 m γ t)) ∧ (¬ y1 = 0 → ((y1 = 1 → (Q (m 158 3) m γ t)) ∧ (¬ y1 = 1 → ((y1 = 2 → (Q (m 158 32) m γ t)) ∧ (¬ y1 = 2 → ((y1 = 3 → (Q (m 158 53) m γ t)) ∧ (¬ y1 = 3 → (Q (-1) m γ t)))))))))))
theorem vc_X9_count {E : am_E} {k : Nat} {x1 : Int} {m : MM} {γ : GM} {t : am_H} {Q : Int → MM → GM → am_H → Prop} (hx1 : rJ x1) (hW : W_X9_count E k x1 m γ t Q) : TI E (k + 1) 234 [.ref 158, .int (iI x1)] m γ t Q := by
  unfold W_X9_count at hW
  intro h S
  refine wp_g (n := 4) (pc' := 4) (L' := [some (.ref 158), some (.int (iI x1)), some (.int (iI 0)), some (.int (iI 0))]) (st' := []) rfl ?_
  exact hW _ S
theorem vc_X9_count_4 {E : am_E} {k : Nat} {x1 : Int} {y1 : Int} {y2 : Int} {y3 : Int} {m : MM} {γ : GM} {t : am_H} {Q : Int → MM → GM → am_H → Prop} (hx1 : rJ x1) (hy1 : rJ y1) (hy2 : rJ y2) (hy3 : rJ y3) (hW : W_X9_count_4 E k x1 y1 y2 y3 m γ t Q) : hd_X9_count_4 E k x1 y1 y2 y3 m γ t Q := by
  unfold W_X9_count_4 at hW
  intro h S
  refine wp_g (n := 2) (pc' := 6) (L' := [some (.ref 158), some (.int (iI y1)), some (.int (iI y2)), some (.int (iI y3))]) (st' := [.int (iI 3), .int (iI y3)]) rfl ?_
  refine wp_icmpI (a := y3) (b := 3) rfl rfl hy3.1 hy3.2 (by decide) (by decide) (fun c1 => ?_) (fun c1 => ?_)
  · have dc1 := (Int.not_lt.mpr c1)
    have hW := hW.2 dc1
    refine wp_g (n := 1) (pc' := 34) (L' := [some (.ref 158), some (.int (iI y1)), some (.int (iI y2)), some (.int (iI y3))]) (st' := [.int (iI y1)]) rfl ?_
    by_cases c2 : y1 = 0
    · have hW := hW.1 c2
      refine wp_tswI rfl (by rw [c2]; decide) (by rw [c2]; decide) 0 (by rw [c2]; decide) rfl rfl ?_
      refine wp_g (n := 1) (pc' := 65) (L' := [some (.ref 158), some (.int (iI y1)), some (.int (iI y2)), some (.int (iI y3))]) (st' := [.int (iI y2)]) rfl ?_
      exact wp_iret rfl rfl ⟨_, _, _, _, rfl, hy2, S, hW⟩
    have hW := hW.2 c2
    by_cases c3 : y1 = 1
    · have hW := hW.1 c3
      refine wp_tswI rfl (by rw [c3]; decide) (by rw [c3]; decide) 1 (by rw [c3]; decide) rfl rfl ?_
      refine wp_g (n := 1) (pc' := 67) (L' := [some (.ref 158), some (.int (iI y1)), some (.int (iI y2)), some (.int (iI y3))]) (st' := [.ref 158]) rfl ?_
      refine wp_getf (v := .int (iI (m 158 3))) rfl rfl (S.cell 158 (nc rfl)) (by decide) rfl ?_
      have hr4 : rJ (m 158 3) := S.rg 158 3 (nl rfl)
      exact wp_iret rfl rfl ⟨_, _, _, _, rfl, hr4, S, hW⟩
    have hW := hW.2 c3
    by_cases c5 : y1 = 2
    · have hW := hW.1 c5
      refine wp_tswI rfl (by rw [c5]; decide) (by rw [c5]; decide) 2 (by rw [c5]; decide) rfl rfl ?_
      refine wp_g (n := 1) (pc' := 72) (L' := [some (.ref 158), some (.int (iI y1)), some (.int (iI y2)), some (.int (iI y3))]) (st' := [.ref 158]) rfl ?_
      refine wp_getf (v := .int (iI (m 158 32))) rfl rfl (S.cell 158 (nc rfl)) (by decide) rfl ?_
      have hr6 : rJ (m 158 32) := S.rg 158 32 (nl rfl)
      exact wp_iret rfl rfl ⟨_, _, _, _, rfl, hr6, S, hW⟩
    have hW := hW.2 c5
    by_cases c7 : y1 = 3
    · have hW := hW.1 c7
      refine wp_tswI rfl (by rw [c7]; decide) (by rw [c7]; decide) 3 (by rw [c7]; decide) rfl rfl ?_
      refine wp_g (n := 1) (pc' := 77) (L' := [some (.ref 158), some (.int (iI y1)), some (.int (iI y2)), some (.int (iI y3))]) (st' := [.ref 158]) rfl ?_
      refine wp_getf (v := .int (iI (m 158 53))) rfl rfl (S.cell 158 (nc rfl)) (by decide) rfl ?_
      have hr8 : rJ (m 158 53) := S.rg 158 53 (nl rfl)
      exact wp_iret rfl rfl ⟨_, _, _, _, rfl, hr8, S, hW⟩
    have hW := hW.2 c7
    refine wp_tswO rfl hy1.1 hy1.2 (ts (ts (ts (ts (ts0 (z := y1) (lo := 0) (a := (-1)) (by decide)) c2 (by decide : (0 : Int) = (-1) + 1)) c3 (by decide : (1 : Int) = 0 + 1)) c5 (by decide : (2 : Int) = 1 + 1)) c7 (by decide : (3 : Int) = 2 + 1)) rfl ?_
    refine wp_g (n := 1) (pc' := 82) (L' := [some (.ref 158), some (.int (iI y1)), some (.int (iI y2)), some (.int (iI y3))]) (st' := [.int (iI (-1))]) rfl ?_
    exact wp_iret rfl rfl ⟨_, _, _, _, rfl, (by decide), S, hW⟩
  · have dc1 := (Int.not_le.mp c1)
    have hW := hW.1 dc1
    refine wp_g (n := 3) (pc' := 12) (L' := [some (.ref 158), some (.int (iI y1)), some (.int (iI y2)), some (.int (iI y3))]) (st' := [.int (iI y3), .ref 158, .int (iI y2)]) rfl ?_
    refine wp_cv (As := [.int (iI y3)]) (rest := [.int (iI y2)]) rfl rfl (S.cell 158 (nc rfl)) (by decide) rfl rfl rfl (Nat.le_of_ble_eq_true rfl) (Nat.le_of_ble_eq_true rfl) (hW _ S) (fun r9 H9 q9 => ?_)
    obtain ⟨v9, m9, γ9, t9, rfl, hv9, S, hW⟩ := q9
    show wp _ _ _ _ _ [.int (iI v9), .int (iI y2)] _ _
    refine wp_ifI (a := v9) rfl rfl hv9.1 hv9.2 (fun c10 => ?_) (fun c10 => ?_)
    · have dc10 := c10
      have hW := hW.1 dc10
      refine wp_g (n := 1) (pc' := 25) (L' := [some (.ref 158), some (.int (iI y1)), some (.int (iI y2)), some (.int (iI y3))]) (st' := [.int (iI 0), .int (iI y2)]) rfl ?_
      refine wp_bOr (a := y2) (b := 0) rfl ?_
      have hr11 : rJ (bOr y2 0) := i32_rg _
      refine wp_g (n := 1) (pc' := 27) (L' := [some (.ref 158), some (.int (iI y1)), some (.int (iI (bOr y2 0))), some (.int (iI y3))]) (st' := []) rfl ?_
      refine wp_iinc (L' := [some (.ref 158), some (.int (iI y1)), some (.int (iI (bOr y2 0))), some (.int (iI (y3 + 1)))]) (a := y3) rfl rfl rfl ?_
      refine wp_g (n := 1) (pc' := 4) (L' := [some (.ref 158), some (.int (iI y1)), some (.int (iI (bOr y2 0))), some (.int (iI (y3 + 1)))]) (st' := []) rfl ?_
      exact hW _ S
    · have dc10 := c10
      have hW := hW.2 dc10
      refine wp_g (n := 2) (pc' := 20) (L' := [some (.ref 158), some (.int (iI y1)), some (.int (iI y2)), some (.int (iI y3))]) (st' := [.int (iI y3), .int (iI 1), .int (iI y2)]) rfl ?_
      refine wp_bShl (a := 1) (b := y3) rfl ?_
      have hr12 : rJ (bShl 1 y3) := i32_rg _
      refine wp_g (n := 1) (pc' := 25) (L' := [some (.ref 158), some (.int (iI y1)), some (.int (iI y2)), some (.int (iI y3))]) (st' := [.int (iI (bShl 1 y3)), .int (iI y2)]) rfl ?_
      refine wp_bOr (a := y2) (b := (bShl 1 y3)) rfl ?_
      have hr13 : rJ (bOr y2 (bShl 1 y3)) := i32_rg _
      refine wp_g (n := 1) (pc' := 27) (L' := [some (.ref 158), some (.int (iI y1)), some (.int (iI (bOr y2 (bShl 1 y3)))), some (.int (iI y3))]) (st' := []) rfl ?_
      refine wp_iinc (L' := [some (.ref 158), some (.int (iI y1)), some (.int (iI (bOr y2 (bShl 1 y3)))), some (.int (iI (y3 + 1)))]) (a := y3) rfl rfl rfl ?_
      refine wp_g (n := 1) (pc' := 4) (L' := [some (.ref 158), some (.int (iI y1)), some (.int (iI (bOr y2 (bShl 1 y3)))), some (.int (iI (y3 + 1)))]) (st' := []) rfl ?_
      exact hW _ S
abbrev W_X9_look (E : am_E) (k : Nat) (x1 : Int) (x2 : Int) (m : MM) (γ : GM) (t : am_H) (Q : Int → MM → GM → am_H → Prop) : Prop := (TI E k 192 [.long (lI x2), .long (lI 0), .long (lI 8)] m γ t (fun v1 m1 γ1 t1 => (((v1 = 0) → (Q (-2) m1 γ1 t1)) ∧ (¬ (v1 = 0) → (TI E k 216 [.ref 158, .int (iI x1)] m1 γ1 t1 (fun v3 m3 γ3 t3 => (((v3 = 0) → (Q (-2) m3 γ3 t3)) ∧ (¬ (v3 = 0) → ((x2 = 0 → (Q (m3 158 4) m3 γ3 t3)) ∧ (¬ x2 = 0 → ((x2 = 1 → (Q (m3 158 5) m3 γ3 t3)) ∧ (¬ x2 = 1 → ((x2 = 2 → (Q (m3 158 6) m3 γ3 t3)) ∧ (¬ x2 = 2 → ((x2 = 3 → (TI E k 206 [.ref 158] m3 γ3 t3 (fun v12 m12 γ12 t12 => (Q v12 m12 γ12 t12)))) ∧ (¬ x2 = 3 → ((x2 = 4 → (TI E k 205 [.ref 158, .int (iI 1)] m3 γ3 t3 (fun v14 m14 γ14 t14 => (Q v14 m14 γ14 t14)))) ∧ (¬ x2 = 4 → ((x2 = 5 → (TI E k 205 [.ref 158, .int (iI 2)] m3 γ3 t3 (fun v16 m16 γ16 t16 => (Q v16 m16 γ16 t16)))) ∧ (¬ x2 = 5 → ((x2 = 6 → (TI E k 205 [.ref 158, .int (iI 3)] m3 γ3 t3 (fun v18 m18 γ18 t18 => (Q v18 m18 γ18 t18)))) ∧ (¬ x2 = 6 → ((x2 = 7 → (Q (m3 158 16) m3 γ3 t3)) ∧ (¬ x2 = 7 → (TI E k 215 [.ref 158] m3 γ3 t3 (fun v21 m21 γ21 t21 => (Q v21 m21 γ21 t21)))))))))))))))))))))))))))
theorem vc_X9_look {E : am_E} {k : Nat} {x1 : Int} {x2 : Int} {m : MM} {γ : GM} {t : am_H} {Q : Int → MM → GM → am_H → Prop} (hx1 : rJ x1) (hx2 : rJ x2) (hW : W_X9_look E k x1 x2 m γ t Q) : TI E (k + 1) 235 [.ref 158, .int (iI x1), .int (iI x2)] m γ t Q := by
  unfold W_X9_look at hW
  intro h S
  refine wp_g (n := 1) (pc' := 1) (L' := [some (.ref 158), some (.int (iI x1)), some (.int (iI x2))]) (st' := [.int (iI x2)]) rfl ?_
  refine wp_i2l (a := x2) rfl hx2 ?_
  refine wp_g (n := 2) (pc' := 6) (L' := [some (.ref 158), some (.int (iI x1)), some (.int (iI x2))]) (st' := [.long (lI 8), .long (lI 0), .long (lI x2)]) rfl ?_
  refine wp_cs (As := [.long (lI x2), .long (lI 0), .long (lI 8)]) (rest := []) rfl rfl rfl rfl (Nat.le_of_ble_eq_true rfl) (Nat.le_of_ble_eq_true rfl) (hW _ S) (fun r1 H1 q1 => ?_)
  obtain ⟨v1, m1, γ1, t1, rfl, hv1, S, hW⟩ := q1
  show wp _ _ _ _ _ [.int (iI v1)] _ _
  refine wp_ifI (a := v1) rfl rfl hv1.1 hv1.2 (fun c2 => ?_) (fun c2 => ?_)
  · have dc2 := c2
    have hW := hW.1 dc2
    refine wp_g (n := 1) (pc' := 22) (L' := [some (.ref 158), some (.int (iI x1)), some (.int (iI x2))]) (st' := [.int (iI (-2))]) rfl ?_
    exact wp_iret rfl rfl ⟨_, _, _, _, rfl, (by decide), S, hW⟩
  · have dc2 := c2
    have hW := hW.2 dc2
    refine wp_g (n := 2) (pc' := 14) (L' := [some (.ref 158), some (.int (iI x1)), some (.int (iI x2))]) (st' := [.int (iI x1), .ref 158]) rfl ?_
    refine wp_cv (As := [.int (iI x1)]) (rest := []) rfl rfl (S.cell 158 (nc rfl)) (by decide) rfl rfl rfl (Nat.le_of_ble_eq_true rfl) (Nat.le_of_ble_eq_true rfl) (hW _ S) (fun r3 H3 q3 => ?_)
    obtain ⟨v3, m3, γ3, t3, rfl, hv3, S, hW⟩ := q3
    show wp _ _ _ _ _ [.int (iI v3)] _ _
    refine wp_ifI (a := v3) rfl rfl hv3.1 hv3.2 (fun c4 => ?_) (fun c4 => ?_)
    · have dc4 := c4
      have hW := hW.2 dc4
      refine wp_g (n := 1) (pc' := 24) (L' := [some (.ref 158), some (.int (iI x1)), some (.int (iI x2))]) (st' := [.int (iI x2)]) rfl ?_
      by_cases c5 : x2 = 0
      · have hW := hW.1 c5
        refine wp_tswI rfl (by rw [c5]; decide) (by rw [c5]; decide) 0 (by rw [c5]; decide) rfl rfl ?_
        refine wp_g (n := 1) (pc' := 73) (L' := [some (.ref 158), some (.int (iI x1)), some (.int (iI x2))]) (st' := [.ref 158]) rfl ?_
        refine wp_getf (v := .int (iI (m3 158 4))) rfl rfl (S.cell 158 (nc rfl)) (by decide) rfl ?_
        have hr6 : rJ (m3 158 4) := S.rg 158 4 (nl rfl)
        exact wp_iret rfl rfl ⟨_, _, _, _, rfl, hr6, S, hW⟩
      have hW := hW.2 c5
      by_cases c7 : x2 = 1
      · have hW := hW.1 c7
        refine wp_tswI rfl (by rw [c7]; decide) (by rw [c7]; decide) 1 (by rw [c7]; decide) rfl rfl ?_
        refine wp_g (n := 1) (pc' := 78) (L' := [some (.ref 158), some (.int (iI x1)), some (.int (iI x2))]) (st' := [.ref 158]) rfl ?_
        refine wp_getf (v := .int (iI (m3 158 5))) rfl rfl (S.cell 158 (nc rfl)) (by decide) rfl ?_
        have hr8 : rJ (m3 158 5) := S.rg 158 5 (nl rfl)
        exact wp_iret rfl rfl ⟨_, _, _, _, rfl, hr8, S, hW⟩
      have hW := hW.2 c7
      by_cases c9 : x2 = 2
      · have hW := hW.1 c9
        refine wp_tswI rfl (by rw [c9]; decide) (by rw [c9]; decide) 2 (by rw [c9]; decide) rfl rfl ?_
        refine wp_g (n := 1) (pc' := 83) (L' := [some (.ref 158), some (.int (iI x1)), some (.int (iI x2))]) (st' := [.ref 158]) rfl ?_
        refine wp_getf (v := .int (iI (m3 158 6))) rfl rfl (S.cell 158 (nc rfl)) (by decide) rfl ?_
        have hr10 : rJ (m3 158 6) := S.rg 158 6 (nl rfl)
        exact wp_iret rfl rfl ⟨_, _, _, _, rfl, hr10, S, hW⟩
      have hW := hW.2 c9
      by_cases c11 : x2 = 3
      · have hW := hW.1 c11
        refine wp_tswI rfl (by rw [c11]; decide) (by rw [c11]; decide) 3 (by rw [c11]; decide) rfl rfl ?_
        refine wp_g (n := 1) (pc' := 88) (L' := [some (.ref 158), some (.int (iI x1)), some (.int (iI x2))]) (st' := [.ref 158]) rfl ?_
        refine wp_cv (As := []) (rest := []) rfl rfl (S.cell 158 (nc rfl)) (by decide) rfl rfl rfl (Nat.le_of_ble_eq_true rfl) (Nat.le_of_ble_eq_true rfl) (hW _ S) (fun r12 H12 q12 => ?_)
        obtain ⟨v12, m12, γ12, t12, rfl, hv12, S, hW⟩ := q12
        show wp _ _ _ _ _ [.int (iI v12)] _ _
        exact wp_iret rfl rfl ⟨_, _, _, _, rfl, hv12, S, hW⟩
      have hW := hW.2 c11
      by_cases c13 : x2 = 4
      · have hW := hW.1 c13
        refine wp_tswI rfl (by rw [c13]; decide) (by rw [c13]; decide) 4 (by rw [c13]; decide) rfl rfl ?_
        refine wp_g (n := 2) (pc' := 94) (L' := [some (.ref 158), some (.int (iI x1)), some (.int (iI x2))]) (st' := [.int (iI 1), .ref 158]) rfl ?_
        refine wp_cv (As := [.int (iI 1)]) (rest := []) rfl rfl (S.cell 158 (nc rfl)) (by decide) rfl rfl rfl (Nat.le_of_ble_eq_true rfl) (Nat.le_of_ble_eq_true rfl) (hW _ S) (fun r14 H14 q14 => ?_)
        obtain ⟨v14, m14, γ14, t14, rfl, hv14, S, hW⟩ := q14
        show wp _ _ _ _ _ [.int (iI v14)] _ _
        exact wp_iret rfl rfl ⟨_, _, _, _, rfl, hv14, S, hW⟩
      have hW := hW.2 c13
      by_cases c15 : x2 = 5
      · have hW := hW.1 c15
        refine wp_tswI rfl (by rw [c15]; decide) (by rw [c15]; decide) 5 (by rw [c15]; decide) rfl rfl ?_
        refine wp_g (n := 2) (pc' := 100) (L' := [some (.ref 158), some (.int (iI x1)), some (.int (iI x2))]) (st' := [.int (iI 2), .ref 158]) rfl ?_
        refine wp_cv (As := [.int (iI 2)]) (rest := []) rfl rfl (S.cell 158 (nc rfl)) (by decide) rfl rfl rfl (Nat.le_of_ble_eq_true rfl) (Nat.le_of_ble_eq_true rfl) (hW _ S) (fun r16 H16 q16 => ?_)
        obtain ⟨v16, m16, γ16, t16, rfl, hv16, S, hW⟩ := q16
        show wp _ _ _ _ _ [.int (iI v16)] _ _
        exact wp_iret rfl rfl ⟨_, _, _, _, rfl, hv16, S, hW⟩
      have hW := hW.2 c15
      by_cases c17 : x2 = 6
      · have hW := hW.1 c17
        refine wp_tswI rfl (by rw [c17]; decide) (by rw [c17]; decide) 6 (by rw [c17]; decide) rfl rfl ?_
        refine wp_g (n := 2) (pc' := 106) (L' := [some (.ref 158), some (.int (iI x1)), some (.int (iI x2))]) (st' := [.int (iI 3), .ref 158]) rfl ?_
        refine wp_cv (As := [.int (iI 3)]) (rest := []) rfl rfl (S.cell 158 (nc rfl)) (by decide) rfl rfl rfl (Nat.le_of_ble_eq_true rfl) (Nat.le_of_ble_eq_true rfl) (hW _ S) (fun r18 H18 q18 => ?_)
        obtain ⟨v18, m18, γ18, t18, rfl, hv18, S, hW⟩ := q18
        show wp _ _ _ _ _ [.int (iI v18)] _ _
        exact wp_iret rfl rfl ⟨_, _, _, _, rfl, hv18, S, hW⟩
      have hW := hW.2 c17
      by_cases c19 : x2 = 7
      · have hW := hW.1 c19
        refine wp_tswI rfl (by rw [c19]; decide) (by rw [c19]; decide) 7 (by rw [c19]; decide) rfl rfl ?_
        refine wp_g (n := 1) (pc' := 111) (L' := [some (.ref 158), some (.int (iI x1)), some (.int (iI x2))]) (st' := [.ref 158]) rfl ?_
        refine wp_getf (v := .int (iI (m3 158 16))) rfl rfl (S.cell 158 (nc rfl)) (by decide) rfl ?_
        have hr20 : rJ (m3 158 16) := S.rg 158 16 (nl rfl)
        exact wp_iret rfl rfl ⟨_, _, _, _, rfl, hr20, S, hW⟩
      have hW := hW.2 c19
      refine wp_tswO rfl hx2.1 hx2.2 (ts (ts (ts (ts (ts (ts (ts (ts (ts0 (z := x2) (lo := 0) (a := (-1)) (by decide)) c5 (by decide : (0 : Int) = (-1) + 1)) c7 (by decide : (1 : Int) = 0 + 1)) c9 (by decide : (2 : Int) = 1 + 1)) c11 (by decide : (3 : Int) = 2 + 1)) c13 (by decide : (4 : Int) = 3 + 1)) c15 (by decide : (5 : Int) = 4 + 1)) c17 (by decide : (6 : Int) = 5 + 1)) c19 (by decide : (7 : Int) = 6 + 1)) rfl ?_
      refine wp_g (n := 1) (pc' := 116) (L' := [some (.ref 158), some (.int (iI x1)), some (.int (iI x2))]) (st' := [.ref 158]) rfl ?_
      refine wp_cv (As := []) (rest := []) rfl rfl (S.cell 158 (nc rfl)) (by decide) rfl rfl rfl (Nat.le_of_ble_eq_true rfl) (Nat.le_of_ble_eq_true rfl) (hW _ S) (fun r21 H21 q21 => ?_)
      obtain ⟨v21, m21, γ21, t21, rfl, hv21, S, hW⟩ := q21
      show wp _ _ _ _ _ [.int (iI v21)] _ _
      exact wp_iret rfl rfl ⟨_, _, _, _, rfl, hv21, S, hW⟩
    · have dc4 := (Classical.not_not.mp c4)
      have hW := hW.1 dc4
      refine wp_g (n := 1) (pc' := 22) (L' := [some (.ref 158), some (.int (iI x1)), some (.int (iI x2))]) (st' := [.int (iI (-2))]) rfl ?_
      exact wp_iret rfl rfl ⟨_, _, _, _, rfl, (by decide), S, hW⟩
abbrev W_X9_edge (E : am_E) (k : Nat) (x1 : Int) (x2 : Int) (m : MM) (γ : GM) (t : am_H) (Q : Int → MM → GM → am_H → Prop) : Prop := (TI E k 219 [.ref 158, .int (iI x1), .int (iI x2)] m γ t (fun v1 m1 γ1 t1 => (((v1 = 0) → (Q (-2) m1 γ1 t1)) ∧ (¬ (v1 = 0) → ((0 ≤ x2 ∧ x2 < 24) ∧ (Q (m1 162 ((x2).toNat)) m1 γ1 t1))))))
theorem vc_X9_edge {E : am_E} {k : Nat} {x1 : Int} {x2 : Int} {m : MM} {γ : GM} {t : am_H} {Q : Int → MM → GM → am_H → Prop} (hx1 : rJ x1) (hx2 : rJ x2) (hW : W_X9_edge E k x1 x2 m γ t Q) : TI E (k + 1) 236 [.ref 158, .int (iI x1), .int (iI x2)] m γ t Q := by
  unfold W_X9_edge at hW
  intro h S
  refine wp_g (n := 3) (pc' := 3) (L' := [some (.ref 158), some (.int (iI x1)), some (.int (iI x2))]) (st' := [.int (iI x2), .int (iI x1), .ref 158]) rfl ?_
  refine wp_cv (As := [.int (iI x1), .int (iI x2)]) (rest := []) rfl rfl (S.cell 158 (nc rfl)) (by decide) rfl rfl rfl (Nat.le_of_ble_eq_true rfl) (Nat.le_of_ble_eq_true rfl) (hW _ S) (fun r1 H1 q1 => ?_)
  obtain ⟨v1, m1, γ1, t1, rfl, hv1, S, hW⟩ := q1
  show wp _ _ _ _ _ [.int (iI v1)] _ _
  refine wp_ifI (a := v1) rfl rfl hv1.1 hv1.2 (fun c2 => ?_) (fun c2 => ?_)
  · have dc2 := c2
    have hW := hW.1 dc2
    refine wp_g (n := 1) (pc' := 20) (L' := [some (.ref 158), some (.int (iI x1)), some (.int (iI x2))]) (st' := [.int (iI (-2))]) rfl ?_
    exact wp_iret rfl rfl ⟨_, _, _, _, rfl, (by decide), S, hW⟩
  · have dc2 := c2
    have hW := hW.2 dc2
    refine wp_g (n := 1) (pc' := 10) (L' := [some (.ref 158), some (.int (iI x1)), some (.int (iI x2))]) (st' := [.ref 158]) rfl ?_
    refine wp_getf (v := .ref 162) rfl rfl (S.cell 158 (nc rfl)) (by decide) rfl ?_
    refine wp_g (n := 1) (pc' := 14) (L' := [some (.ref 158), some (.int (iI x1)), some (.int (iI x2))]) (st' := [.int (iI x2), .ref 162]) rfl ?_
    obtain ⟨p3, hW⟩ := hW
    refine wp_iald (n := 24) (F := (m1 162)) rfl (S.cell 162 (nc rfl)) (by decide) p3.1 p3.2 (by decide) ?_
    show wp _ _ _ _ _ [.int (iI (m1 162 ((x2).toNat)))] _ _
    have hr4 : rJ (m1 162 ((x2).toNat)) := S.rg 162 ((x2).toNat) (nl rfl)
    refine wp_g (n := 1) (pc' := 20) (L' := [some (.ref 158), some (.int (iI x1)), some (.int (iI x2))]) (st' := [.int (iI (m1 162 ((x2).toNat)))]) rfl ?_
    exact wp_iret rfl rfl ⟨_, _, _, _, rfl, hr4, S, hW⟩
abbrev W_X9_name (E : am_E) (k : Nat) (x1 : Int) (x2 : Int) (x3 : Int) (m : MM) (γ : GM) (t : am_H) (Q : Int → MM → GM → am_H → Prop) : Prop := (TI E k 219 [.ref 158, .int (iI x1), .int (iI x2)] m γ t (fun v1 m1 γ1 t1 => (((v1 = 0) → (Q (-2) m1 γ1 t1)) ∧ (¬ (v1 = 0) → (TI E k 192 [.long (lI x3), .long (lI 0), .long (lI 1)] m1 γ1 t1 (fun v3 m3 γ3 t3 => (((v3 = 0) → (Q (-2) m3 γ3 t3)) ∧ (¬ (v3 = 0) → (((x3 = 0) → ((0 ≤ x2 ∧ x2 < 24) ∧ (Q (m3 163 ((x2).toNat)) m3 γ3 t3))) ∧ (¬ (x3 = 0) → ((0 ≤ x2 ∧ x2 < 24) ∧ (Q (m3 164 ((x2).toNat)) m3 γ3 t3))))))))))))
theorem vc_X9_name {E : am_E} {k : Nat} {x1 : Int} {x2 : Int} {x3 : Int} {m : MM} {γ : GM} {t : am_H} {Q : Int → MM → GM → am_H → Prop} (hx1 : rJ x1) (hx2 : rJ x2) (hx3 : rJ x3) (hW : W_X9_name E k x1 x2 x3 m γ t Q) : TI E (k + 1) 237 [.ref 158, .int (iI x1), .int (iI x2), .int (iI x3)] m γ t Q := by
  unfold W_X9_name at hW
  intro h S
  refine wp_g (n := 3) (pc' := 3) (L' := [some (.ref 158), some (.int (iI x1)), some (.int (iI x2)), some (.int (iI x3))]) (st' := [.int (iI x2), .int (iI x1), .ref 158]) rfl ?_
  refine wp_cv (As := [.int (iI x1), .int (iI x2)]) (rest := []) rfl rfl (S.cell 158 (nc rfl)) (by decide) rfl rfl rfl (Nat.le_of_ble_eq_true rfl) (Nat.le_of_ble_eq_true rfl) (hW _ S) (fun r1 H1 q1 => ?_)
  obtain ⟨v1, m1, γ1, t1, rfl, hv1, S, hW⟩ := q1
  show wp _ _ _ _ _ [.int (iI v1)] _ _
  refine wp_ifI (a := v1) rfl rfl hv1.1 hv1.2 (fun c2 => ?_) (fun c2 => ?_)
  · have dc2 := c2
    have hW := hW.1 dc2
    refine wp_g (n := 1) (pc' := 43) (L' := [some (.ref 158), some (.int (iI x1)), some (.int (iI x2)), some (.int (iI x3))]) (st' := [.int (iI (-2))]) rfl ?_
    exact wp_iret rfl rfl ⟨_, _, _, _, rfl, (by decide), S, hW⟩
  · have dc2 := c2
    have hW := hW.2 dc2
    refine wp_g (n := 1) (pc' := 10) (L' := [some (.ref 158), some (.int (iI x1)), some (.int (iI x2)), some (.int (iI x3))]) (st' := [.int (iI x3)]) rfl ?_
    refine wp_i2l (a := x3) rfl hx3 ?_
    refine wp_g (n := 2) (pc' := 13) (L' := [some (.ref 158), some (.int (iI x1)), some (.int (iI x2)), some (.int (iI x3))]) (st' := [.long (lI 1), .long (lI 0), .long (lI x3)]) rfl ?_
    refine wp_cs (As := [.long (lI x3), .long (lI 0), .long (lI 1)]) (rest := []) rfl rfl rfl rfl (Nat.le_of_ble_eq_true rfl) (Nat.le_of_ble_eq_true rfl) (hW _ S) (fun r3 H3 q3 => ?_)
    obtain ⟨v3, m3, γ3, t3, rfl, hv3, S, hW⟩ := q3
    show wp _ _ _ _ _ [.int (iI v3)] _ _
    refine wp_ifI (a := v3) rfl rfl hv3.1 hv3.2 (fun c4 => ?_) (fun c4 => ?_)
    · have dc4 := c4
      have hW := hW.1 dc4
      refine wp_g (n := 1) (pc' := 43) (L' := [some (.ref 158), some (.int (iI x1)), some (.int (iI x2)), some (.int (iI x3))]) (st' := [.int (iI (-2))]) rfl ?_
      exact wp_iret rfl rfl ⟨_, _, _, _, rfl, (by decide), S, hW⟩
    · have dc4 := c4
      have hW := hW.2 dc4
      refine wp_g (n := 1) (pc' := 20) (L' := [some (.ref 158), some (.int (iI x1)), some (.int (iI x2)), some (.int (iI x3))]) (st' := [.int (iI x3)]) rfl ?_
      refine wp_ifI (a := x3) rfl rfl hx3.1 hx3.2 (fun c5 => ?_) (fun c5 => ?_)
      · have dc5 := c5
        have hW := hW.2 dc5
        refine wp_g (n := 1) (pc' := 33) (L' := [some (.ref 158), some (.int (iI x1)), some (.int (iI x2)), some (.int (iI x3))]) (st' := [.ref 158]) rfl ?_
        refine wp_getf (v := .ref 164) rfl rfl (S.cell 158 (nc rfl)) (by decide) rfl ?_
        refine wp_g (n := 1) (pc' := 37) (L' := [some (.ref 158), some (.int (iI x1)), some (.int (iI x2)), some (.int (iI x3))]) (st' := [.int (iI x2), .ref 164]) rfl ?_
        obtain ⟨p6, hW⟩ := hW
        refine wp_iald (n := 24) (F := (m3 164)) rfl (S.cell 164 (nc rfl)) (by decide) p6.1 p6.2 (by decide) ?_
        show wp _ _ _ _ _ [.int (iI (m3 164 ((x2).toNat)))] _ _
        have hr7 : rJ (m3 164 ((x2).toNat)) := S.rg 164 ((x2).toNat) (nl rfl)
        refine wp_g (n := 1) (pc' := 43) (L' := [some (.ref 158), some (.int (iI x1)), some (.int (iI x2)), some (.int (iI x3))]) (st' := [.int (iI (m3 164 ((x2).toNat)))]) rfl ?_
        exact wp_iret rfl rfl ⟨_, _, _, _, rfl, hr7, S, hW⟩
      · have dc5 := (Classical.not_not.mp c5)
        have hW := hW.1 dc5
        refine wp_g (n := 1) (pc' := 24) (L' := [some (.ref 158), some (.int (iI x1)), some (.int (iI x2)), some (.int (iI x3))]) (st' := [.ref 158]) rfl ?_
        refine wp_getf (v := .ref 163) rfl rfl (S.cell 158 (nc rfl)) (by decide) rfl ?_
        refine wp_g (n := 1) (pc' := 28) (L' := [some (.ref 158), some (.int (iI x1)), some (.int (iI x2)), some (.int (iI x3))]) (st' := [.int (iI x2), .ref 163]) rfl ?_
        obtain ⟨p8, hW⟩ := hW
        refine wp_iald (n := 24) (F := (m3 163)) rfl (S.cell 163 (nc rfl)) (by decide) p8.1 p8.2 (by decide) ?_
        show wp _ _ _ _ _ [.int (iI (m3 163 ((x2).toNat)))] _ _
        have hr9 : rJ (m3 163 ((x2).toNat)) := S.rg 163 ((x2).toNat) (nl rfl)
        refine wp_g (n := 1) (pc' := 43) (L' := [some (.ref 158), some (.int (iI x1)), some (.int (iI x2)), some (.int (iI x3))]) (st' := [.int (iI (m3 163 ((x2).toNat)))]) rfl ?_
        exact wp_iret rfl rfl ⟨_, _, _, _, rfl, hr9, S, hW⟩
