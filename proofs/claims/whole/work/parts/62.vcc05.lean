abbrev W_X8_smooth (E : am_E) (k : Nat) (x1 : Int) (x2 : Int) (m : MM) (γ : GM) (t : am_H) (Q : Int → MM → GM → am_H → Prop) : Prop := (TA E k 184 [.ref 0, .int (iI x1)] m γ t (fun o1 m1 γ1 t1 => ((o1 = none → (Q (-1000000000) m1 γ1 t1)) ∧ (∀ a1, o1 = some a1 → (isg a1 ∧ (TI E k 180 [.ref a1, .int (iI x2)] m1 γ1 t1 (fun v2 m2 γ2 t2 => (((v2 = 0) → (Q (-1000000000) m2 γ2 t2)) ∧ (¬ (v2 = 0) → (TV E k 59 [.ref 28, .ref a1] m2 γ2 t2 (fun m4 γ4 t4 => (TA E k 186 [.ref 0, .ref a1] m4 γ4 t4 (fun o5 m5 γ5 t5 => o5 = some 10 ∧ (TI E k 115 [.ref 10] m5 γ5 t5 (fun v6 m6 γ6 t6 => (TL E k 61 [.ref 28, .int (iI (x2 + (3 * v6)))] m6 γ6 t6 (fun v7 m7 γ7 t7 => (0 ≤ v6 ∧ ((((v6 % 2) = 0) → (Q v7 m7 γ7 t7)) ∧ (¬ ((v6 % 2) = 0) → (rK (-v7) ∧ (Q (-v7) m7 γ7 t7))))))))))))))))))))))
theorem vc_X8_smooth {E : am_E} {k : Nat} {x1 : Int} {x2 : Int} {m : MM} {γ : GM} {t : am_H} {Q : Int → MM → GM → am_H → Prop} (hx1 : rJ x1) (hx2 : rJ x2) (hW : W_X8_smooth E k x1 x2 m γ t Q) : TL E (k + 1) 157 [.ref 0, .int (iI x1), .int (iI x2)] m γ t Q := by
  unfold W_X8_smooth at hW
  intro h S
  refine wp_g (n := 2) (pc' := 2) (L' := [some (.ref 0), some (.int (iI x1)), some (.int (iI x2)), none, none, none, none]) (st' := [.int (iI x1), .ref 0]) rfl ?_
  refine wp_cv (As := [.int (iI x1)]) (rest := []) rfl rfl (S.cell 0 (nc rfl)) (by decide) rfl rfl rfl (Nat.le_of_ble_eq_true rfl) (Nat.le_of_ble_eq_true rfl) (hW _ S) (fun r1 H1 q1 => ?_)
  obtain ⟨o1, m1, γ1, t1, rfl, S, hW⟩ := q1
  cases o1 with
  | none =>
    have hW := hW.1 rfl
    show wp _ _ _ _ _ [.null] _ _
    refine wp_g (n := 2) (pc' := 7) (L' := [some (.ref 0), some (.int (iI x1)), some (.int (iI x2)), some (.null), none, none, none]) (st' := [.null]) rfl ?_
    refine wp_g (n := 1) (pc' := 18) (L' := [some (.ref 0), some (.int (iI x1)), some (.int (iI x2)), some (.null), none, none, none]) (st' := []) rfl ?_
    refine wp_g (n := 1) (pc' := 21) (L' := [some (.ref 0), some (.int (iI x1)), some (.int (iI x2)), some (.null), none, none, none]) (st' := [.long (lI (-1000000000))]) rfl ?_
    exact wp_lret rfl rfl ⟨_, _, _, _, rfl, (by decide), S, hW⟩
  | some a1 =>
    obtain ⟨hg1, hW⟩ := hW.2 _ rfl
    show wp _ _ _ _ _ [.ref a1] _ _
    refine wp_g (n := 2) (pc' := 7) (L' := [some (.ref 0), some (.int (iI x1)), some (.int (iI x2)), some (.ref a1), none, none, none]) (st' := [.ref a1]) rfl ?_
    refine wp_g (n := 1) (pc' := 10) (L' := [some (.ref 0), some (.int (iI x1)), some (.int (iI x2)), some (.ref a1), none, none, none]) (st' := []) rfl ?_
    refine wp_g (n := 2) (pc' := 12) (L' := [some (.ref 0), some (.int (iI x1)), some (.int (iI x2)), some (.ref a1), none, none, none]) (st' := [.int (iI x2), .ref a1]) rfl ?_
    refine wp_cs (As := [.ref a1, .int (iI x2)]) (rest := []) rfl rfl rfl rfl (Nat.le_of_ble_eq_true rfl) (Nat.le_of_ble_eq_true rfl) (hW _ S) (fun r2 H2 q2 => ?_)
    obtain ⟨v2, m2, γ2, t2, rfl, hv2, S, hW⟩ := q2
    show wp _ _ _ _ _ [.int (iI v2)] _ _
    refine wp_ifI (a := v2) rfl rfl hv2.1 hv2.2 (fun c3 => ?_) (fun c3 => ?_)
    · have dc3 := c3
      have hW := hW.2 dc3
      refine wp_g (n := 1) (pc' := 23) (L' := [some (.ref 0), some (.int (iI x1)), some (.int (iI x2)), some (.ref a1), none, none, none]) (st' := [.ref 0]) rfl ?_
      refine wp_getf (v := .ref 28) rfl rfl (S.cell 0 (nc rfl)) (by decide) rfl ?_
      refine wp_g (n := 1) (pc' := 27) (L' := [some (.ref 0), some (.int (iI x1)), some (.int (iI x2)), some (.ref a1), none, none, none]) (st' := [.ref a1, .ref 28]) rfl ?_
      refine wp_cv (As := [.ref a1]) (rest := []) rfl rfl (S.cell 28 (nc rfl)) (by decide) rfl rfl rfl (Nat.le_of_ble_eq_true rfl) (Nat.le_of_ble_eq_true rfl) (hW _ S) (fun r4 H4 q4 => ?_)
      obtain ⟨m4, γ4, t4, rfl, S, hW⟩ := q4
      show wp _ _ _ _ _ [] _ _
      refine wp_g (n := 2) (pc' := 32) (L' := [some (.ref 0), some (.int (iI x1)), some (.int (iI x2)), some (.ref a1), none, none, none]) (st' := [.ref a1, .ref 0]) rfl ?_
      refine wp_cv (As := [.ref a1]) (rest := []) rfl rfl (S.cell 0 (nc rfl)) (by decide) rfl rfl rfl (Nat.le_of_ble_eq_true rfl) (Nat.le_of_ble_eq_true rfl) (hW _ S) (fun r5 H5 q5 => ?_)
      obtain ⟨o5, m5, γ5, t5, rfl, S, hW⟩ := q5
      obtain ⟨rfl, hW⟩ := hW
      show wp _ _ _ _ _ [.ref 10] _ _
      refine wp_cv (As := []) (rest := []) rfl rfl (S.cell 10 (nc rfl)) (by decide) rfl rfl rfl (Nat.le_of_ble_eq_true rfl) (Nat.le_of_ble_eq_true rfl) (hW _ S) (fun r6 H6 q6 => ?_)
      obtain ⟨v6, m6, γ6, t6, rfl, hv6, S, hW⟩ := q6
      show wp _ _ _ _ _ [.int (iI v6)] _ _
      refine wp_g (n := 2) (pc' := 41) (L' := [some (.ref 0), some (.int (iI x1)), some (.int (iI x2)), some (.ref a1), some (.int (iI v6)), none, none]) (st' := [.ref 0]) rfl ?_
      refine wp_getf (v := .ref 28) rfl rfl (S.cell 0 (nc rfl)) (by decide) rfl ?_
      refine wp_g (n := 3) (pc' := 48) (L' := [some (.ref 0), some (.int (iI x1)), some (.int (iI x2)), some (.ref a1), some (.int (iI v6)), none, none]) (st' := [.int (iI v6), .int (iI 3), .int (iI x2), .ref 28]) rfl ?_
      refine wp_mul (a := 3) (b := v6) rfl ?_
      refine wp_add (a := x2) (b := (3 * v6)) rfl ?_
      refine wp_cv (As := [.int (iI (x2 + (3 * v6)))]) (rest := []) rfl rfl (S.cell 28 (nc rfl)) (by decide) rfl rfl rfl (Nat.le_of_ble_eq_true rfl) (Nat.le_of_ble_eq_true rfl) (hW _ S) (fun r7 H7 q7 => ?_)
      obtain ⟨v7, m7, γ7, t7, rfl, hv7, S, hW⟩ := q7
      show wp _ _ _ _ _ [.long (lI v7)] _ _
      refine wp_g (n := 3) (pc' := 58) (L' := [some (.ref 0), some (.int (iI x1)), some (.int (iI x2)), some (.ref a1), some (.int (iI v6)), some (.long (lI v7)), none]) (st' := [.int (iI 1), .int (iI v6)]) rfl ?_
      obtain ⟨p8, hW⟩ := hW
      refine wp_and1 (a := v6) rfl p8 hv6.2 ?_
      have hr9 : rJ (v6 % 2) := by omega
      refine wp_ifI (a := (v6 % 2)) rfl rfl hr9.1 hr9.2 (fun c10 => ?_) (fun c10 => ?_)
      · have dc10 := c10
        have hW := hW.2 dc10
        refine wp_g (n := 1) (pc' := 69) (L' := [some (.ref 0), some (.int (iI x1)), some (.int (iI x2)), some (.ref a1), some (.int (iI v6)), some (.long (lI v7)), none]) (st' := [.long (lI v7)]) rfl ?_
        refine wp_lneg (a := v7) rfl ?_
        obtain ⟨p11, hW⟩ := hW
        exact wp_lret rfl rfl ⟨_, _, _, _, rfl, p11, S, hW⟩
      · have dc10 := (Classical.not_not.mp c10)
        have hW := hW.1 dc10
        refine wp_g (n := 2) (pc' := 70) (L' := [some (.ref 0), some (.int (iI x1)), some (.int (iI x2)), some (.ref a1), some (.int (iI v6)), some (.long (lI v7)), none]) (st' := [.long (lI v7)]) rfl ?_
        exact wp_lret rfl rfl ⟨_, _, _, _, rfl, hv7, S, hW⟩
    · have dc3 := (Classical.not_not.mp c3)
      have hW := hW.1 dc3
      refine wp_g (n := 1) (pc' := 21) (L' := [some (.ref 0), some (.int (iI x1)), some (.int (iI x2)), some (.ref a1), none, none, none]) (st' := [.long (lI (-1000000000))]) rfl ?_
      exact wp_lret rfl rfl ⟨_, _, _, _, rfl, (by decide), S, hW⟩
abbrev W_X8_trees (E : am_E) (k : Nat) (x1 : Int) (m : MM) (γ : GM) (t : am_H) (Q : Int → MM → GM → am_H → Prop) : Prop := (TA E k 184 [.ref 0, .int (iI x1)] m γ t (fun o1 m1 γ1 t1 => ((o1 = none → (Q (-2) m1 γ1 t1)) ∧ (∀ a1, o1 = some a1 → (isg a1 ∧ (TL E k 15 [.ref 80, .ref a1] m1 γ1 t1 (fun v2 m2 γ2 t2 => (Q v2 m2 γ2 t2))))))))
theorem vc_X8_trees {E : am_E} {k : Nat} {x1 : Int} {m : MM} {γ : GM} {t : am_H} {Q : Int → MM → GM → am_H → Prop} (hx1 : rJ x1) (hW : W_X8_trees E k x1 m γ t Q) : TL E (k + 1) 158 [.ref 0, .int (iI x1)] m γ t Q := by
  unfold W_X8_trees at hW
  intro h S
  refine wp_g (n := 2) (pc' := 2) (L' := [some (.ref 0), some (.int (iI x1)), none]) (st' := [.int (iI x1), .ref 0]) rfl ?_
  refine wp_cv (As := [.int (iI x1)]) (rest := []) rfl rfl (S.cell 0 (nc rfl)) (by decide) rfl rfl rfl (Nat.le_of_ble_eq_true rfl) (Nat.le_of_ble_eq_true rfl) (hW _ S) (fun r1 H1 q1 => ?_)
  obtain ⟨o1, m1, γ1, t1, rfl, S, hW⟩ := q1
  cases o1 with
  | none =>
    have hW := hW.1 rfl
    show wp _ _ _ _ _ [.null] _ _
    refine wp_g (n := 2) (pc' := 7) (L' := [some (.ref 0), some (.int (iI x1)), some (.null)]) (st' := [.null]) rfl ?_
    refine wp_g (n := 1) (pc' := 10) (L' := [some (.ref 0), some (.int (iI x1)), some (.null)]) (st' := []) rfl ?_
    refine wp_g (n := 2) (pc' := 24) (L' := [some (.ref 0), some (.int (iI x1)), some (.null)]) (st' := [.long (lI (-2))]) rfl ?_
    exact wp_lret rfl rfl ⟨_, _, _, _, rfl, (by decide), S, hW⟩
  | some a1 =>
    obtain ⟨hg1, hW⟩ := hW.2 _ rfl
    show wp _ _ _ _ _ [.ref a1] _ _
    refine wp_g (n := 2) (pc' := 7) (L' := [some (.ref 0), some (.int (iI x1)), some (.ref a1)]) (st' := [.ref a1]) rfl ?_
    refine wp_g (n := 1) (pc' := 16) (L' := [some (.ref 0), some (.int (iI x1)), some (.ref a1)]) (st' := []) rfl ?_
    refine wp_g (n := 1) (pc' := 17) (L' := [some (.ref 0), some (.int (iI x1)), some (.ref a1)]) (st' := [.ref 0]) rfl ?_
    refine wp_getf (v := .ref 80) rfl rfl (S.cell 0 (nc rfl)) (by decide) rfl ?_
    refine wp_g (n := 1) (pc' := 21) (L' := [some (.ref 0), some (.int (iI x1)), some (.ref a1)]) (st' := [.ref a1, .ref 80]) rfl ?_
    refine wp_cv (As := [.ref a1]) (rest := []) rfl rfl (S.cell 80 (nc rfl)) (by decide) rfl rfl rfl (Nat.le_of_ble_eq_true rfl) (Nat.le_of_ble_eq_true rfl) (hW _ S) (fun r2 H2 q2 => ?_)
    obtain ⟨v2, m2, γ2, t2, rfl, hv2, S, hW⟩ := q2
    show wp _ _ _ _ _ [.long (lI v2)] _ _
    exact wp_lret rfl rfl ⟨_, _, _, _, rfl, hv2, S, hW⟩
abbrev W_X8_colours (E : am_E) (k : Nat) (x1 : Int) (x2 : Int) (m : MM) (γ : GM) (t : am_H) (Q : Int → MM → GM → am_H → Prop) : Prop := (TA E k 184 [.ref 0, .int (iI x1)] m γ t (fun o1 m1 γ1 t1 => ((o1 = none → (Q (-2) m1 γ1 t1)) ∧ (∀ a1, o1 = some a1 → (isg a1 ∧ (TI E k 179 [.int (iI x2)] m1 γ1 t1 (fun v2 m2 γ2 t2 => (((v2 = 0) → (Q (-2) m2 γ2 t2)) ∧ (¬ (v2 = 0) → (TA E k 186 [.ref 0, .ref a1] m2 γ2 t2 (fun o4 m4 γ4 t4 => o4 = some 10 ∧ (TI E k 7 [.ref 51, .ref 10, .int (iI x2)] m4 γ4 t4 (fun v5 m5 γ5 t5 => (Q v5 m5 γ5 t5))))))))))))))
theorem vc_X8_colours {E : am_E} {k : Nat} {x1 : Int} {x2 : Int} {m : MM} {γ : GM} {t : am_H} {Q : Int → MM → GM → am_H → Prop} (hx1 : rJ x1) (hx2 : rJ x2) (hW : W_X8_colours E k x1 x2 m γ t Q) : TI E (k + 1) 159 [.ref 0, .int (iI x1), .int (iI x2)] m γ t Q := by
  unfold W_X8_colours at hW
  intro h S
  refine wp_g (n := 2) (pc' := 2) (L' := [some (.ref 0), some (.int (iI x1)), some (.int (iI x2)), none]) (st' := [.int (iI x1), .ref 0]) rfl ?_
  refine wp_cv (As := [.int (iI x1)]) (rest := []) rfl rfl (S.cell 0 (nc rfl)) (by decide) rfl rfl rfl (Nat.le_of_ble_eq_true rfl) (Nat.le_of_ble_eq_true rfl) (hW _ S) (fun r1 H1 q1 => ?_)
  obtain ⟨o1, m1, γ1, t1, rfl, S, hW⟩ := q1
  cases o1 with
  | none =>
    have hW := hW.1 rfl
    show wp _ _ _ _ _ [.null] _ _
    refine wp_g (n := 2) (pc' := 7) (L' := [some (.ref 0), some (.int (iI x1)), some (.int (iI x2)), some (.null)]) (st' := [.null]) rfl ?_
    refine wp_g (n := 1) (pc' := 17) (L' := [some (.ref 0), some (.int (iI x1)), some (.int (iI x2)), some (.null)]) (st' := []) rfl ?_
    refine wp_g (n := 1) (pc' := 19) (L' := [some (.ref 0), some (.int (iI x1)), some (.int (iI x2)), some (.null)]) (st' := [.int (iI (-2))]) rfl ?_
    exact wp_iret rfl rfl ⟨_, _, _, _, rfl, (by decide), S, hW⟩
  | some a1 =>
    obtain ⟨hg1, hW⟩ := hW.2 _ rfl
    show wp _ _ _ _ _ [.ref a1] _ _
    refine wp_g (n := 2) (pc' := 7) (L' := [some (.ref 0), some (.int (iI x1)), some (.int (iI x2)), some (.ref a1)]) (st' := [.ref a1]) rfl ?_
    refine wp_g (n := 1) (pc' := 10) (L' := [some (.ref 0), some (.int (iI x1)), some (.int (iI x2)), some (.ref a1)]) (st' := []) rfl ?_
    refine wp_g (n := 1) (pc' := 11) (L' := [some (.ref 0), some (.int (iI x1)), some (.int (iI x2)), some (.ref a1)]) (st' := [.int (iI x2)]) rfl ?_
    refine wp_cs (As := [.int (iI x2)]) (rest := []) rfl rfl rfl rfl (Nat.le_of_ble_eq_true rfl) (Nat.le_of_ble_eq_true rfl) (hW _ S) (fun r2 H2 q2 => ?_)
    obtain ⟨v2, m2, γ2, t2, rfl, hv2, S, hW⟩ := q2
    show wp _ _ _ _ _ [.int (iI v2)] _ _
    refine wp_ifI (a := v2) rfl rfl hv2.1 hv2.2 (fun c3 => ?_) (fun c3 => ?_)
    · have dc3 := c3
      have hW := hW.2 dc3
      refine wp_g (n := 1) (pc' := 21) (L' := [some (.ref 0), some (.int (iI x1)), some (.int (iI x2)), some (.ref a1)]) (st' := [.ref 0]) rfl ?_
      refine wp_getf (v := .ref 51) rfl rfl (S.cell 0 (nc rfl)) (by decide) rfl ?_
      refine wp_g (n := 2) (pc' := 26) (L' := [some (.ref 0), some (.int (iI x1)), some (.int (iI x2)), some (.ref a1)]) (st' := [.ref a1, .ref 0, .ref 51]) rfl ?_
      refine wp_cv (As := [.ref a1]) (rest := [.ref 51]) rfl rfl (S.cell 0 (nc rfl)) (by decide) rfl rfl rfl (Nat.le_of_ble_eq_true rfl) (Nat.le_of_ble_eq_true rfl) (hW _ S) (fun r4 H4 q4 => ?_)
      obtain ⟨o4, m4, γ4, t4, rfl, S, hW⟩ := q4
      obtain ⟨rfl, hW⟩ := hW
      show wp _ _ _ _ _ [.ref 10, .ref 51] _ _
      refine wp_g (n := 1) (pc' := 30) (L' := [some (.ref 0), some (.int (iI x1)), some (.int (iI x2)), some (.ref a1)]) (st' := [.int (iI x2), .ref 10, .ref 51]) rfl ?_
      refine wp_cv (As := [.ref 10, .int (iI x2)]) (rest := []) rfl rfl (S.cell 51 (nc rfl)) (by decide) rfl rfl rfl (Nat.le_of_ble_eq_true rfl) (Nat.le_of_ble_eq_true rfl) (hW _ S) (fun r5 H5 q5 => ?_)
      obtain ⟨v5, m5, γ5, t5, rfl, hv5, S, hW⟩ := q5
      show wp _ _ _ _ _ [.int (iI v5)] _ _
      exact wp_iret rfl rfl ⟨_, _, _, _, rfl, hv5, S, hW⟩
    · have dc3 := (Classical.not_not.mp c3)
      have hW := hW.1 dc3
      refine wp_g (n := 1) (pc' := 19) (L' := [some (.ref 0), some (.int (iI x1)), some (.int (iI x2)), some (.ref a1)]) (st' := [.int (iI (-2))]) rfl ?_
      exact wp_iret rfl rfl ⟨_, _, _, _, rfl, (by decide), S, hW⟩
abbrev W_X8_needs (E : am_E) (k : Nat) (x1 : Int) (m : MM) (γ : GM) (t : am_H) (Q : Int → MM → GM → am_H → Prop) : Prop := (TA E k 184 [.ref 0, .int (iI x1)] m γ t (fun o1 m1 γ1 t1 => ((o1 = none → (Q (-2) m1 γ1 t1)) ∧ (∀ a1, o1 = some a1 → (isg a1 ∧ (TA E k 186 [.ref 0, .ref a1] m1 γ1 t1 (fun o2 m2 γ2 t2 => o2 = some 10 ∧ (TI E k 123 [.ref 10] m2 γ2 t2 (fun v3 m3 γ3 t3 => (((v3 = 1) → (TI E k 99 [.ref 10] m3 γ3 t3 (fun v5 m5 γ5 t5 => (rJ (v5 - 1) ∧ (Q (v5 - 1) m5 γ5 t5))))) ∧ (¬ (v3 = 1) → (Q (-1) m3 γ3 t3))))))))))))
theorem vc_X8_needs {E : am_E} {k : Nat} {x1 : Int} {m : MM} {γ : GM} {t : am_H} {Q : Int → MM → GM → am_H → Prop} (hx1 : rJ x1) (hW : W_X8_needs E k x1 m γ t Q) : TI E (k + 1) 160 [.ref 0, .int (iI x1)] m γ t Q := by
  unfold W_X8_needs at hW
  intro h S
  refine wp_g (n := 2) (pc' := 2) (L' := [some (.ref 0), some (.int (iI x1)), none, none]) (st' := [.int (iI x1), .ref 0]) rfl ?_
  refine wp_cv (As := [.int (iI x1)]) (rest := []) rfl rfl (S.cell 0 (nc rfl)) (by decide) rfl rfl rfl (Nat.le_of_ble_eq_true rfl) (Nat.le_of_ble_eq_true rfl) (hW _ S) (fun r1 H1 q1 => ?_)
  obtain ⟨o1, m1, γ1, t1, rfl, S, hW⟩ := q1
  cases o1 with
  | none =>
    have hW := hW.1 rfl
    show wp _ _ _ _ _ [.null] _ _
    refine wp_g (n := 2) (pc' := 7) (L' := [some (.ref 0), some (.int (iI x1)), some (.null), none]) (st' := [.null]) rfl ?_
    refine wp_g (n := 1) (pc' := 10) (L' := [some (.ref 0), some (.int (iI x1)), some (.null), none]) (st' := []) rfl ?_
    refine wp_g (n := 1) (pc' := 12) (L' := [some (.ref 0), some (.int (iI x1)), some (.null), none]) (st' := [.int (iI (-2))]) rfl ?_
    exact wp_iret rfl rfl ⟨_, _, _, _, rfl, (by decide), S, hW⟩
  | some a1 =>
    obtain ⟨hg1, hW⟩ := hW.2 _ rfl
    show wp _ _ _ _ _ [.ref a1] _ _
    refine wp_g (n := 2) (pc' := 7) (L' := [some (.ref 0), some (.int (iI x1)), some (.ref a1), none]) (st' := [.ref a1]) rfl ?_
    refine wp_g (n := 1) (pc' := 13) (L' := [some (.ref 0), some (.int (iI x1)), some (.ref a1), none]) (st' := []) rfl ?_
    refine wp_g (n := 2) (pc' := 15) (L' := [some (.ref 0), some (.int (iI x1)), some (.ref a1), none]) (st' := [.ref a1, .ref 0]) rfl ?_
    refine wp_cv (As := [.ref a1]) (rest := []) rfl rfl (S.cell 0 (nc rfl)) (by decide) rfl rfl rfl (Nat.le_of_ble_eq_true rfl) (Nat.le_of_ble_eq_true rfl) (hW _ S) (fun r2 H2 q2 => ?_)
    obtain ⟨o2, m2, γ2, t2, rfl, S, hW⟩ := q2
    obtain ⟨rfl, hW⟩ := hW
    show wp _ _ _ _ _ [.ref 10] _ _
    refine wp_g (n := 2) (pc' := 20) (L' := [some (.ref 0), some (.int (iI x1)), some (.ref a1), some (.ref 10)]) (st' := [.ref 10]) rfl ?_
    refine wp_cv (As := []) (rest := []) rfl rfl (S.cell 10 (nc rfl)) (by decide) rfl rfl rfl (Nat.le_of_ble_eq_true rfl) (Nat.le_of_ble_eq_true rfl) (hW _ S) (fun r3 H3 q3 => ?_)
    obtain ⟨v3, m3, γ3, t3, rfl, hv3, S, hW⟩ := q3
    show wp _ _ _ _ _ [.int (iI v3)] _ _
    refine wp_g (n := 1) (pc' := 24) (L' := [some (.ref 0), some (.int (iI x1)), some (.ref a1), some (.ref 10)]) (st' := [.int (iI 1), .int (iI v3)]) rfl ?_
    refine wp_icmpI (a := v3) (b := 1) rfl rfl hv3.1 hv3.2 (by decide) (by decide) (fun c4 => ?_) (fun c4 => ?_)
    · have dc4 := c4
      have hW := hW.2 dc4
      refine wp_g (n := 1) (pc' := 37) (L' := [some (.ref 0), some (.int (iI x1)), some (.ref a1), some (.ref 10)]) (st' := [.int (iI (-1))]) rfl ?_
      exact wp_iret rfl rfl ⟨_, _, _, _, rfl, (by decide), S, hW⟩
    · have dc4 := (Classical.not_not.mp c4)
      have hW := hW.1 dc4
      refine wp_g (n := 1) (pc' := 28) (L' := [some (.ref 0), some (.int (iI x1)), some (.ref a1), some (.ref 10)]) (st' := [.ref 10]) rfl ?_
      refine wp_cv (As := []) (rest := []) rfl rfl (S.cell 10 (nc rfl)) (by decide) rfl rfl rfl (Nat.le_of_ble_eq_true rfl) (Nat.le_of_ble_eq_true rfl) (hW _ S) (fun r5 H5 q5 => ?_)
      obtain ⟨v5, m5, γ5, t5, rfl, hv5, S, hW⟩ := q5
      show wp _ _ _ _ _ [.int (iI v5)] _ _
      refine wp_g (n := 1) (pc' := 32) (L' := [some (.ref 0), some (.int (iI x1)), some (.ref a1), some (.ref 10)]) (st' := [.int (iI 1), .int (iI v5)]) rfl ?_
      refine wp_sub (a := v5) (b := 1) rfl ?_
      refine wp_g (n := 1) (pc' := 37) (L' := [some (.ref 0), some (.int (iI x1)), some (.ref a1), some (.ref 10)]) (st' := [.int (iI (v5 - 1))]) rfl ?_
      obtain ⟨p6, hW⟩ := hW
      exact wp_iret rfl rfl ⟨_, _, _, _, rfl, p6, S, hW⟩
def hd_X8_oneLine_26 (E : am_E) (k : Nat) (x1 : Int) (y1 : Int) (y3 : Int) (y4 : Int) (m : MM) (γ : GM) (t : am_H) (Q : Int → MM → GM → am_H → Prop) : Prop := ∀ (z2 z5 : Option Value), TT (pI Q) E (k + 1) 161 26 [some (.ref 0), some (.int (iI y1)), z2, some (.int (iI y3)), some (.int (iI y4)), z5] [] m γ t
abbrev W_X8_oneLine (E : am_E) (k : Nat) (x1 : Int) (m : MM) (γ : GM) (t : am_H) (Q : Int → MM → GM → am_H → Prop) : Prop := (TA E k 184 [.ref 0, .int (iI x1)] m γ t (fun o1 m1 γ1 t1 => ((o1 = none → (Q (-2) m1 γ1 t1)) ∧ (∀ a1, o1 = some a1 → (isg a1 ∧ (TV E k 44 [.ref 2, .ref a1] m1 γ1 t1 (fun m2 γ2 t2 => (hd_X8_oneLine_26 E k x1 x1 0 0 m2 γ2 t2 Q))))))))
abbrev W_X8_oneLine_26 (E : am_E) (k : Nat) (x1 : Int) (y1 : Int) (y3 : Int) (y4 : Int) (m : MM) (γ : GM) (t : am_H) (Q : Int → MM → GM → am_H → Prop) : Prop := (((y4 < 24) → (TA E k 186 [.ref 0, .ref 2] m γ t (fun o6 m6 γ6 t6 => o6 = some 10 ∧ (TI E k 125 [.ref 10] m6 γ6 t6 (fun v7 m7 γ7 t7 => (((v7 = (-1)) → (TA E k 186 [.ref 0, .ref 2] m7 γ7 t7 (fun o10 m10 γ10 t10 => o10 = some 10 ∧ (TI E k 99 [.ref 10] m10 γ10 t10 (fun v11 m11 γ11 t11 => (((v11 ≤ 1) → (TV E k 191 [.ref 0, .int (iI y1)] m11 γ11 t11 (fun m13 γ13 t13 => (Q y3 m13 γ13 t13)))) ∧ (¬ (v11 ≤ 1) → (Q (-6) m11 γ11 t11)))))))) ∧ (¬ (v7 = (-1)) → (TV E k 42 [.ref 2, .int (iI v7), .int (iI 2)] m7 γ7 t7 (fun m9 γ9 t9 => (hd_X8_oneLine_26 E k x1 y1 (y3 + 1) (y4 + 1) m9 γ9 t9 Q)))))))))) ∧ (¬ (y4 < 24) → (TA E k 186 [.ref 0, .ref 2] m γ t (fun o2 m2 γ2 t2 => o2 = some 10 ∧ (TI E k 99 [.ref 10] m2 γ2 t2 (fun v3 m3 γ3 t3 => (((v3 ≤ 1) → (TV E k 191 [.ref 0, .int (iI y1)] m3 γ3 t3 (fun m5 γ5 t5 => (Q y3 m5 γ5 t5)))) ∧ (¬ (v3 ≤ 1) → (Q (-6) m3 γ3 t3)))))))))
theorem vc_X8_oneLine {E : am_E} {k : Nat} {x1 : Int} {m : MM} {γ : GM} {t : am_H} {Q : Int → MM → GM → am_H → Prop} (hx1 : rJ x1) (hW : W_X8_oneLine E k x1 m γ t Q) : TI E (k + 1) 161 [.ref 0, .int (iI x1)] m γ t Q := by
  unfold W_X8_oneLine at hW
  intro h S
  refine wp_g (n := 2) (pc' := 2) (L' := [some (.ref 0), some (.int (iI x1)), none, none, none, none]) (st' := [.int (iI x1), .ref 0]) rfl ?_
  refine wp_cv (As := [.int (iI x1)]) (rest := []) rfl rfl (S.cell 0 (nc rfl)) (by decide) rfl rfl rfl (Nat.le_of_ble_eq_true rfl) (Nat.le_of_ble_eq_true rfl) (hW _ S) (fun r1 H1 q1 => ?_)
  obtain ⟨o1, m1, γ1, t1, rfl, S, hW⟩ := q1
  cases o1 with
  | none =>
    have hW := hW.1 rfl
    show wp _ _ _ _ _ [.null] _ _
    refine wp_g (n := 2) (pc' := 7) (L' := [some (.ref 0), some (.int (iI x1)), some (.null), none, none, none]) (st' := [.null]) rfl ?_
    refine wp_g (n := 1) (pc' := 10) (L' := [some (.ref 0), some (.int (iI x1)), some (.null), none, none, none]) (st' := []) rfl ?_
    refine wp_g (n := 1) (pc' := 12) (L' := [some (.ref 0), some (.int (iI x1)), some (.null), none, none, none]) (st' := [.int (iI (-2))]) rfl ?_
    exact wp_iret rfl rfl ⟨_, _, _, _, rfl, (by decide), S, hW⟩
  | some a1 =>
    obtain ⟨hg1, hW⟩ := hW.2 _ rfl
    show wp _ _ _ _ _ [.ref a1] _ _
    refine wp_g (n := 2) (pc' := 7) (L' := [some (.ref 0), some (.int (iI x1)), some (.ref a1), none, none, none]) (st' := [.ref a1]) rfl ?_
    refine wp_g (n := 1) (pc' := 13) (L' := [some (.ref 0), some (.int (iI x1)), some (.ref a1), none, none, none]) (st' := []) rfl ?_
    refine wp_g (n := 1) (pc' := 14) (L' := [some (.ref 0), some (.int (iI x1)), some (.ref a1), none, none, none]) (st' := [.ref 0]) rfl ?_
    refine wp_getf (v := .ref 2) rfl rfl (S.cell 0 (nc rfl)) (by decide) rfl ?_
    refine wp_g (n := 1) (pc' := 18) (L' := [some (.ref 0), some (.int (iI x1)), some (.ref a1), none, none, none]) (st' := [.ref a1, .ref 2]) rfl ?_
    refine wp_cv (As := [.ref a1]) (rest := []) rfl rfl (S.gg 2 (gi rfl)).obj (by decide) rfl rfl rfl (Nat.le_of_ble_eq_true rfl) (Nat.le_of_ble_eq_true rfl) (hW _ S) (fun r2 H2 q2 => ?_)
    obtain ⟨m2, γ2, t2, rfl, S, hW⟩ := q2
    show wp _ _ _ _ _ [] _ _
    refine wp_g (n := 4) (pc' := 26) (L' := [some (.ref 0), some (.int (iI x1)), some (.ref a1), some (.int (iI 0)), some (.int (iI 0)), none]) (st' := []) rfl ?_
    exact hW (some (.ref a1)) none _ S
theorem vc_X8_oneLine_26 {E : am_E} {k : Nat} {x1 : Int} {y1 : Int} {y3 : Int} {y4 : Int} {m : MM} {γ : GM} {t : am_H} {Q : Int → MM → GM → am_H → Prop} (hx1 : rJ x1) (hy1 : rJ y1) (hy3 : rJ y3) (hy4 : rJ y4) (hW : W_X8_oneLine_26 E k x1 y1 y3 y4 m γ t Q) : hd_X8_oneLine_26 E k x1 y1 y3 y4 m γ t Q := by
  unfold W_X8_oneLine_26 at hW
  intro z2 z5 h S
  refine wp_g (n := 2) (pc' := 30) (L' := [some (.ref 0), some (.int (iI y1)), z2, some (.int (iI y3)), some (.int (iI y4)), z5]) (st' := [.int (iI 24), .int (iI y4)]) rfl ?_
  refine wp_icmpI (a := y4) (b := 24) rfl rfl hy4.1 hy4.2 (by decide) (by decide) (fun c1 => ?_) (fun c1 => ?_)
  · have dc1 := (Int.not_lt.mpr c1)
    have hW := hW.2 dc1
    refine wp_g (n := 2) (pc' := 76) (L' := [some (.ref 0), some (.int (iI y1)), z2, some (.int (iI y3)), some (.int (iI y4)), z5]) (st' := [.ref 0, .ref 0]) rfl ?_
    refine wp_getf (v := .ref 2) rfl rfl (S.cell 0 (nc rfl)) (by decide) rfl ?_
    refine wp_cv (As := [.ref 2]) (rest := []) rfl rfl (S.cell 0 (nc rfl)) (by decide) rfl rfl rfl (Nat.le_of_ble_eq_true rfl) (Nat.le_of_ble_eq_true rfl) (hW _ S) (fun r2 H2 q2 => ?_)
    obtain ⟨o2, m2, γ2, t2, rfl, S, hW⟩ := q2
    obtain ⟨rfl, hW⟩ := hW
    show wp _ _ _ _ _ [.ref 10] _ _
    refine wp_cv (As := []) (rest := []) rfl rfl (S.cell 10 (nc rfl)) (by decide) rfl rfl rfl (Nat.le_of_ble_eq_true rfl) (Nat.le_of_ble_eq_true rfl) (hW _ S) (fun r3 H3 q3 => ?_)
    obtain ⟨v3, m3, γ3, t3, rfl, hv3, S, hW⟩ := q3
    show wp _ _ _ _ _ [.int (iI v3)] _ _
    refine wp_g (n := 1) (pc' := 86) (L' := [some (.ref 0), some (.int (iI y1)), z2, some (.int (iI y3)), some (.int (iI y4)), z5]) (st' := [.int (iI 1), .int (iI v3)]) rfl ?_
    refine wp_icmpI (a := v3) (b := 1) rfl rfl hv3.1 hv3.2 (by decide) (by decide) (fun c4 => ?_) (fun c4 => ?_)
    · have dc4 := c4
      have hW := hW.1 dc4
      refine wp_g (n := 2) (pc' := 94) (L' := [some (.ref 0), some (.int (iI y1)), z2, some (.int (iI y3)), some (.int (iI y4)), z5]) (st' := [.int (iI y1), .ref 0]) rfl ?_
      refine wp_cv (As := [.int (iI y1)]) (rest := []) rfl rfl (S.cell 0 (nc rfl)) (by decide) rfl rfl rfl (Nat.le_of_ble_eq_true rfl) (Nat.le_of_ble_eq_true rfl) (hW _ S) (fun r5 H5 q5 => ?_)
      obtain ⟨m5, γ5, t5, rfl, S, hW⟩ := q5
      show wp _ _ _ _ _ [] _ _
      refine wp_g (n := 1) (pc' := 98) (L' := [some (.ref 0), some (.int (iI y1)), z2, some (.int (iI y3)), some (.int (iI y4)), z5]) (st' := [.int (iI y3)]) rfl ?_
      exact wp_iret rfl rfl ⟨_, _, _, _, rfl, hy3, S, hW⟩
    · have dc4 := c4
      have hW := hW.2 dc4
      refine wp_g (n := 1) (pc' := 91) (L' := [some (.ref 0), some (.int (iI y1)), z2, some (.int (iI y3)), some (.int (iI y4)), z5]) (st' := [.int (iI (-6))]) rfl ?_
      exact wp_iret rfl rfl ⟨_, _, _, _, rfl, (by decide), S, hW⟩
  · have dc1 := (Int.not_le.mp c1)
    have hW := hW.1 dc1
    refine wp_g (n := 2) (pc' := 35) (L' := [some (.ref 0), some (.int (iI y1)), z2, some (.int (iI y3)), some (.int (iI y4)), z5]) (st' := [.ref 0, .ref 0]) rfl ?_
    refine wp_getf (v := .ref 2) rfl rfl (S.cell 0 (nc rfl)) (by decide) rfl ?_
    refine wp_cv (As := [.ref 2]) (rest := []) rfl rfl (S.cell 0 (nc rfl)) (by decide) rfl rfl rfl (Nat.le_of_ble_eq_true rfl) (Nat.le_of_ble_eq_true rfl) (hW _ S) (fun r6 H6 q6 => ?_)
    obtain ⟨o6, m6, γ6, t6, rfl, S, hW⟩ := q6
    obtain ⟨rfl, hW⟩ := hW
    show wp _ _ _ _ _ [.ref 10] _ _
    refine wp_cv (As := []) (rest := []) rfl rfl (S.cell 10 (nc rfl)) (by decide) rfl rfl rfl (Nat.le_of_ble_eq_true rfl) (Nat.le_of_ble_eq_true rfl) (hW _ S) (fun r7 H7 q7 => ?_)
    obtain ⟨v7, m7, γ7, t7, rfl, hv7, S, hW⟩ := q7
    show wp _ _ _ _ _ [.int (iI v7)] _ _
    refine wp_g (n := 3) (pc' := 49) (L' := [some (.ref 0), some (.int (iI y1)), z2, some (.int (iI y3)), some (.int (iI y4)), some (.int (iI v7))]) (st' := [.int (iI (-1)), .int (iI v7)]) rfl ?_
    refine wp_icmpI (a := v7) (b := (-1)) rfl rfl hv7.1 hv7.2 (by decide) (by decide) (fun c8 => ?_) (fun c8 => ?_)
    · have dc8 := c8
      have hW := hW.2 dc8
      refine wp_g (n := 1) (pc' := 56) (L' := [some (.ref 0), some (.int (iI y1)), z2, some (.int (iI y3)), some (.int (iI y4)), some (.int (iI v7))]) (st' := [.ref 0]) rfl ?_
      refine wp_getf (v := .ref 2) rfl rfl (S.cell 0 (nc rfl)) (by decide) rfl ?_
      refine wp_g (n := 2) (pc' := 62) (L' := [some (.ref 0), some (.int (iI y1)), z2, some (.int (iI y3)), some (.int (iI y4)), some (.int (iI v7))]) (st' := [.int (iI 2), .int (iI v7), .ref 2]) rfl ?_
      refine wp_cv (As := [.int (iI v7), .int (iI 2)]) (rest := []) rfl rfl (S.gg 2 (gi rfl)).obj (by decide) rfl rfl rfl (Nat.le_of_ble_eq_true rfl) (Nat.le_of_ble_eq_true rfl) (hW _ S) (fun r9 H9 q9 => ?_)
      obtain ⟨m9, γ9, t9, rfl, S, hW⟩ := q9
      show wp _ _ _ _ _ [] _ _
      refine wp_iinc (L' := [some (.ref 0), some (.int (iI y1)), (bif am_c2 z2 then none else z2), some (.int (iI (y3 + 1))), some (.int (iI y4)), some (.int (iI v7))]) (a := y3) rfl rfl rfl ?_
      refine wp_iinc (L' := [some (.ref 0), some (.int (iI y1)), (bif am_c2 z2 then none else z2), some (.int (iI (y3 + 1))), some (.int (iI (y4 + 1))), some (.int (iI v7))]) (a := y4) rfl rfl rfl ?_
      refine wp_g (n := 1) (pc' := 26) (L' := [some (.ref 0), some (.int (iI y1)), (bif am_c2 z2 then none else z2), some (.int (iI (y3 + 1))), some (.int (iI (y4 + 1))), some (.int (iI v7))]) (st' := []) rfl ?_
      exact hW (bif am_c2 z2 then none else z2) (some (.int (iI v7))) _ S
    · have dc8 := (Classical.not_not.mp c8)
      have hW := hW.1 dc8
      refine wp_g (n := 3) (pc' := 76) (L' := [some (.ref 0), some (.int (iI y1)), z2, some (.int (iI y3)), some (.int (iI y4)), some (.int (iI v7))]) (st' := [.ref 0, .ref 0]) rfl ?_
      refine wp_getf (v := .ref 2) rfl rfl (S.cell 0 (nc rfl)) (by decide) rfl ?_
      refine wp_cv (As := [.ref 2]) (rest := []) rfl rfl (S.cell 0 (nc rfl)) (by decide) rfl rfl rfl (Nat.le_of_ble_eq_true rfl) (Nat.le_of_ble_eq_true rfl) (hW _ S) (fun r10 H10 q10 => ?_)
      obtain ⟨o10, m10, γ10, t10, rfl, S, hW⟩ := q10
      obtain ⟨rfl, hW⟩ := hW
      show wp _ _ _ _ _ [.ref 10] _ _
      refine wp_cv (As := []) (rest := []) rfl rfl (S.cell 10 (nc rfl)) (by decide) rfl rfl rfl (Nat.le_of_ble_eq_true rfl) (Nat.le_of_ble_eq_true rfl) (hW _ S) (fun r11 H11 q11 => ?_)
      obtain ⟨v11, m11, γ11, t11, rfl, hv11, S, hW⟩ := q11
      show wp _ _ _ _ _ [.int (iI v11)] _ _
      refine wp_g (n := 1) (pc' := 86) (L' := [some (.ref 0), some (.int (iI y1)), z2, some (.int (iI y3)), some (.int (iI y4)), some (.int (iI v7))]) (st' := [.int (iI 1), .int (iI v11)]) rfl ?_
      refine wp_icmpI (a := v11) (b := 1) rfl rfl hv11.1 hv11.2 (by decide) (by decide) (fun c12 => ?_) (fun c12 => ?_)
      · have dc12 := c12
        have hW := hW.1 dc12
        refine wp_g (n := 2) (pc' := 94) (L' := [some (.ref 0), some (.int (iI y1)), z2, some (.int (iI y3)), some (.int (iI y4)), some (.int (iI v7))]) (st' := [.int (iI y1), .ref 0]) rfl ?_
        refine wp_cv (As := [.int (iI y1)]) (rest := []) rfl rfl (S.cell 0 (nc rfl)) (by decide) rfl rfl rfl (Nat.le_of_ble_eq_true rfl) (Nat.le_of_ble_eq_true rfl) (hW _ S) (fun r13 H13 q13 => ?_)
        obtain ⟨m13, γ13, t13, rfl, S, hW⟩ := q13
        show wp _ _ _ _ _ [] _ _
        refine wp_g (n := 1) (pc' := 98) (L' := [some (.ref 0), some (.int (iI y1)), z2, some (.int (iI y3)), some (.int (iI y4)), some (.int (iI v7))]) (st' := [.int (iI y3)]) rfl ?_
        exact wp_iret rfl rfl ⟨_, _, _, _, rfl, hy3, S, hW⟩
      · have dc12 := c12
        have hW := hW.2 dc12
        refine wp_g (n := 1) (pc' := 91) (L' := [some (.ref 0), some (.int (iI y1)), z2, some (.int (iI y3)), some (.int (iI y4)), some (.int (iI v7))]) (st' := [.int (iI (-6))]) rfl ?_
        exact wp_iret rfl rfl ⟨_, _, _, _, rfl, (by decide), S, hW⟩
def hd_X8_eases_39 (E : am_E) (k : Nat) (x1 : Int) (y1 : Int) (y3 : Int) (y4 : Int) (y5 : Int) (m : MM) (γ : GM) (t : am_H) (Q : Int → MM → GM → am_H → Prop) : Prop := ∀ (z2 z6 : Option Value), TT (pI Q) E (k + 1) 162 39 [some (.ref 0), some (.int (iI y1)), z2, some (.int (iI y3)), some (.int (iI y4)), some (.int (iI y5)), z6] [] m γ t
abbrev W_X8_eases (E : am_E) (k : Nat) (x1 : Int) (m : MM) (γ : GM) (t : am_H) (Q : Int → MM → GM → am_H → Prop) : Prop := (TA E k 184 [.ref 0, .int (iI x1)] m γ t (fun o1 m1 γ1 t1 => ((o1 = none → (Q (-2) m1 γ1 t1)) ∧ (∀ a1, o1 = some a1 → (isg a1 ∧ (TV E k 44 [.ref 2, .ref a1] m1 γ1 t1 (fun m2 γ2 t2 => (TA E k 186 [.ref 0, .ref 2] m2 γ2 t2 (fun o3 m3 γ3 t3 => o3 = some 10 ∧ (TI E k 99 [.ref 10] m3 γ3 t3 (fun v4 m4 γ4 t4 => (hd_X8_eases_39 E k x1 x1 v4 0 0 m4 γ4 t4 Q))))))))))))
abbrev W_X8_eases_39 (E : am_E) (k : Nat) (x1 : Int) (y1 : Int) (y3 : Int) (y4 : Int) (y5 : Int) (m : MM) (γ : GM) (t : am_H) (Q : Int → MM → GM → am_H → Prop) : Prop := (((y5 < 24) → (TA E k 186 [.ref 0, .ref 2] m γ t (fun o3 m3 γ3 t3 => o3 = some 10 ∧ (TI E k 126 [.ref 10] m3 γ3 t3 (fun v4 m4 γ4 t4 => (((v4 = (-1)) → (TV E k 191 [.ref 0, .int (iI y1)] m4 γ4 t4 (fun m11 γ11 t11 => (Q y4 m11 γ11 t11)))) ∧ (¬ (v4 = (-1)) → (TV E k 42 [.ref 2, .int (iI v4), .int (iI 2)] m4 γ4 t4 (fun m6 γ6 t6 => (TA E k 186 [.ref 0, .ref 2] m6 γ6 t6 (fun o7 m7 γ7 t7 => o7 = some 10 ∧ (TI E k 99 [.ref 10] m7 γ7 t7 (fun v8 m8 γ8 t8 => (((v8 = y3) → (hd_X8_eases_39 E k x1 y1 y3 (y4 + 1) (y5 + 1) m8 γ8 t8 Q)) ∧ (¬ (v8 = y3) → (TV E k 42 [.ref 2, .int (iI v4), .int (iI 3)] m8 γ8 t8 (fun m10 γ10 t10 => (hd_X8_eases_39 E k x1 y1 y3 (y4 + 1) (y5 + 1) m10 γ10 t10 Q)))))))))))))))))) ∧ (¬ (y5 < 24) → (TV E k 191 [.ref 0, .int (iI y1)] m γ t (fun m2 γ2 t2 => (Q y4 m2 γ2 t2)))))
theorem vc_X8_eases {E : am_E} {k : Nat} {x1 : Int} {m : MM} {γ : GM} {t : am_H} {Q : Int → MM → GM → am_H → Prop} (hx1 : rJ x1) (hW : W_X8_eases E k x1 m γ t Q) : TI E (k + 1) 162 [.ref 0, .int (iI x1)] m γ t Q := by
  unfold W_X8_eases at hW
  intro h S
  refine wp_g (n := 2) (pc' := 2) (L' := [some (.ref 0), some (.int (iI x1)), none, none, none, none, none]) (st' := [.int (iI x1), .ref 0]) rfl ?_
  refine wp_cv (As := [.int (iI x1)]) (rest := []) rfl rfl (S.cell 0 (nc rfl)) (by decide) rfl rfl rfl (Nat.le_of_ble_eq_true rfl) (Nat.le_of_ble_eq_true rfl) (hW _ S) (fun r1 H1 q1 => ?_)
  obtain ⟨o1, m1, γ1, t1, rfl, S, hW⟩ := q1
  cases o1 with
  | none =>
    have hW := hW.1 rfl
    show wp _ _ _ _ _ [.null] _ _
    refine wp_g (n := 2) (pc' := 7) (L' := [some (.ref 0), some (.int (iI x1)), some (.null), none, none, none, none]) (st' := [.null]) rfl ?_
    refine wp_g (n := 1) (pc' := 10) (L' := [some (.ref 0), some (.int (iI x1)), some (.null), none, none, none, none]) (st' := []) rfl ?_
    refine wp_g (n := 1) (pc' := 12) (L' := [some (.ref 0), some (.int (iI x1)), some (.null), none, none, none, none]) (st' := [.int (iI (-2))]) rfl ?_
    exact wp_iret rfl rfl ⟨_, _, _, _, rfl, (by decide), S, hW⟩
  | some a1 =>
    obtain ⟨hg1, hW⟩ := hW.2 _ rfl
    show wp _ _ _ _ _ [.ref a1] _ _
    refine wp_g (n := 2) (pc' := 7) (L' := [some (.ref 0), some (.int (iI x1)), some (.ref a1), none, none, none, none]) (st' := [.ref a1]) rfl ?_
    refine wp_g (n := 1) (pc' := 13) (L' := [some (.ref 0), some (.int (iI x1)), some (.ref a1), none, none, none, none]) (st' := []) rfl ?_
    refine wp_g (n := 1) (pc' := 14) (L' := [some (.ref 0), some (.int (iI x1)), some (.ref a1), none, none, none, none]) (st' := [.ref 0]) rfl ?_
    refine wp_getf (v := .ref 2) rfl rfl (S.cell 0 (nc rfl)) (by decide) rfl ?_
    refine wp_g (n := 1) (pc' := 18) (L' := [some (.ref 0), some (.int (iI x1)), some (.ref a1), none, none, none, none]) (st' := [.ref a1, .ref 2]) rfl ?_
    refine wp_cv (As := [.ref a1]) (rest := []) rfl rfl (S.gg 2 (gi rfl)).obj (by decide) rfl rfl rfl (Nat.le_of_ble_eq_true rfl) (Nat.le_of_ble_eq_true rfl) (hW _ S) (fun r2 H2 q2 => ?_)
    obtain ⟨m2, γ2, t2, rfl, S, hW⟩ := q2
    show wp _ _ _ _ _ [] _ _
    refine wp_g (n := 2) (pc' := 23) (L' := [some (.ref 0), some (.int (iI x1)), some (.ref a1), none, none, none, none]) (st' := [.ref 0, .ref 0]) rfl ?_
    refine wp_getf (v := .ref 2) rfl rfl (S.cell 0 (nc rfl)) (by decide) rfl ?_
    refine wp_cv (As := [.ref 2]) (rest := []) rfl rfl (S.cell 0 (nc rfl)) (by decide) rfl rfl rfl (Nat.le_of_ble_eq_true rfl) (Nat.le_of_ble_eq_true rfl) (hW _ S) (fun r3 H3 q3 => ?_)
    obtain ⟨o3, m3, γ3, t3, rfl, S, hW⟩ := q3
    obtain ⟨rfl, hW⟩ := hW
    show wp _ _ _ _ _ [.ref 10] _ _
    refine wp_cv (As := []) (rest := []) rfl rfl (S.cell 10 (nc rfl)) (by decide) rfl rfl rfl (Nat.le_of_ble_eq_true rfl) (Nat.le_of_ble_eq_true rfl) (hW _ S) (fun r4 H4 q4 => ?_)
    obtain ⟨v4, m4, γ4, t4, rfl, hv4, S, hW⟩ := q4
    show wp _ _ _ _ _ [.int (iI v4)] _ _
    refine wp_g (n := 5) (pc' := 39) (L' := [some (.ref 0), some (.int (iI x1)), some (.ref a1), some (.int (iI v4)), some (.int (iI 0)), some (.int (iI 0)), none]) (st' := []) rfl ?_
    exact hW (some (.ref a1)) none _ S
theorem vc_X8_eases_39 {E : am_E} {k : Nat} {x1 : Int} {y1 : Int} {y3 : Int} {y4 : Int} {y5 : Int} {m : MM} {γ : GM} {t : am_H} {Q : Int → MM → GM → am_H → Prop} (hx1 : rJ x1) (hy1 : rJ y1) (hy3 : rJ y3) (hy4 : rJ y4) (hy5 : rJ y5) (hW : W_X8_eases_39 E k x1 y1 y3 y4 y5 m γ t Q) : hd_X8_eases_39 E k x1 y1 y3 y4 y5 m γ t Q := by
  unfold W_X8_eases_39 at hW
  intro z2 z6 h S
  refine wp_g (n := 2) (pc' := 43) (L' := [some (.ref 0), some (.int (iI y1)), z2, some (.int (iI y3)), some (.int (iI y4)), some (.int (iI y5)), z6]) (st' := [.int (iI 24), .int (iI y5)]) rfl ?_
  refine wp_icmpI (a := y5) (b := 24) rfl rfl hy5.1 hy5.2 (by decide) (by decide) (fun c1 => ?_) (fun c1 => ?_)
  · have dc1 := (Int.not_lt.mpr c1)
    have hW := hW.2 dc1
    refine wp_g (n := 2) (pc' := 114) (L' := [some (.ref 0), some (.int (iI y1)), z2, some (.int (iI y3)), some (.int (iI y4)), some (.int (iI y5)), z6]) (st' := [.int (iI y1), .ref 0]) rfl ?_
    refine wp_cv (As := [.int (iI y1)]) (rest := []) rfl rfl (S.cell 0 (nc rfl)) (by decide) rfl rfl rfl (Nat.le_of_ble_eq_true rfl) (Nat.le_of_ble_eq_true rfl) (hW _ S) (fun r2 H2 q2 => ?_)
    obtain ⟨m2, γ2, t2, rfl, S, hW⟩ := q2
    show wp _ _ _ _ _ [] _ _
    refine wp_g (n := 1) (pc' := 119) (L' := [some (.ref 0), some (.int (iI y1)), z2, some (.int (iI y3)), some (.int (iI y4)), some (.int (iI y5)), z6]) (st' := [.int (iI y4)]) rfl ?_
    exact wp_iret rfl rfl ⟨_, _, _, _, rfl, hy4, S, hW⟩
  · have dc1 := (Int.not_le.mp c1)
    have hW := hW.1 dc1
    refine wp_g (n := 2) (pc' := 48) (L' := [some (.ref 0), some (.int (iI y1)), z2, some (.int (iI y3)), some (.int (iI y4)), some (.int (iI y5)), z6]) (st' := [.ref 0, .ref 0]) rfl ?_
    refine wp_getf (v := .ref 2) rfl rfl (S.cell 0 (nc rfl)) (by decide) rfl ?_
    refine wp_cv (As := [.ref 2]) (rest := []) rfl rfl (S.cell 0 (nc rfl)) (by decide) rfl rfl rfl (Nat.le_of_ble_eq_true rfl) (Nat.le_of_ble_eq_true rfl) (hW _ S) (fun r3 H3 q3 => ?_)
    obtain ⟨o3, m3, γ3, t3, rfl, S, hW⟩ := q3
    obtain ⟨rfl, hW⟩ := hW
    show wp _ _ _ _ _ [.ref 10] _ _
    refine wp_cv (As := []) (rest := []) rfl rfl (S.cell 10 (nc rfl)) (by decide) rfl rfl rfl (Nat.le_of_ble_eq_true rfl) (Nat.le_of_ble_eq_true rfl) (hW _ S) (fun r4 H4 q4 => ?_)
    obtain ⟨v4, m4, γ4, t4, rfl, hv4, S, hW⟩ := q4
    show wp _ _ _ _ _ [.int (iI v4)] _ _
    refine wp_g (n := 3) (pc' := 62) (L' := [some (.ref 0), some (.int (iI y1)), z2, some (.int (iI y3)), some (.int (iI y4)), some (.int (iI y5)), some (.int (iI v4))]) (st' := [.int (iI (-1)), .int (iI v4)]) rfl ?_
    refine wp_icmpI (a := v4) (b := (-1)) rfl rfl hv4.1 hv4.2 (by decide) (by decide) (fun c5 => ?_) (fun c5 => ?_)
    · have dc5 := c5
      have hW := hW.2 dc5
      refine wp_g (n := 1) (pc' := 69) (L' := [some (.ref 0), some (.int (iI y1)), z2, some (.int (iI y3)), some (.int (iI y4)), some (.int (iI y5)), some (.int (iI v4))]) (st' := [.ref 0]) rfl ?_
      refine wp_getf (v := .ref 2) rfl rfl (S.cell 0 (nc rfl)) (by decide) rfl ?_
      refine wp_g (n := 2) (pc' := 75) (L' := [some (.ref 0), some (.int (iI y1)), z2, some (.int (iI y3)), some (.int (iI y4)), some (.int (iI y5)), some (.int (iI v4))]) (st' := [.int (iI 2), .int (iI v4), .ref 2]) rfl ?_
      refine wp_cv (As := [.int (iI v4), .int (iI 2)]) (rest := []) rfl rfl (S.gg 2 (gi rfl)).obj (by decide) rfl rfl rfl (Nat.le_of_ble_eq_true rfl) (Nat.le_of_ble_eq_true rfl) (hW _ S) (fun r6 H6 q6 => ?_)
      obtain ⟨m6, γ6, t6, rfl, S, hW⟩ := q6
      show wp _ _ _ _ _ [] _ _
      refine wp_g (n := 2) (pc' := 80) (L' := [some (.ref 0), some (.int (iI y1)), z2, some (.int (iI y3)), some (.int (iI y4)), some (.int (iI y5)), some (.int (iI v4))]) (st' := [.ref 0, .ref 0]) rfl ?_
      refine wp_getf (v := .ref 2) rfl rfl (S.cell 0 (nc rfl)) (by decide) rfl ?_
      refine wp_cv (As := [.ref 2]) (rest := []) rfl rfl (S.cell 0 (nc rfl)) (by decide) rfl rfl rfl (Nat.le_of_ble_eq_true rfl) (Nat.le_of_ble_eq_true rfl) (hW _ S) (fun r7 H7 q7 => ?_)
      obtain ⟨o7, m7, γ7, t7, rfl, S, hW⟩ := q7
      obtain ⟨rfl, hW⟩ := hW
      show wp _ _ _ _ _ [.ref 10] _ _
      refine wp_cv (As := []) (rest := []) rfl rfl (S.cell 10 (nc rfl)) (by decide) rfl rfl rfl (Nat.le_of_ble_eq_true rfl) (Nat.le_of_ble_eq_true rfl) (hW _ S) (fun r8 H8 q8 => ?_)
      obtain ⟨v8, m8, γ8, t8, rfl, hv8, S, hW⟩ := q8
      show wp _ _ _ _ _ [.int (iI v8)] _ _
      refine wp_g (n := 1) (pc' := 90) (L' := [some (.ref 0), some (.int (iI y1)), z2, some (.int (iI y3)), some (.int (iI y4)), some (.int (iI y5)), some (.int (iI v4))]) (st' := [.int (iI y3), .int (iI v8)]) rfl ?_
      refine wp_icmpI (a := v8) (b := y3) rfl rfl hv8.1 hv8.2 hy3.1 hy3.2 (fun c9 => ?_) (fun c9 => ?_)
      · have dc9 := c9
        have hW := hW.1 dc9
        refine wp_iinc (L' := [some (.ref 0), some (.int (iI y1)), z2, some (.int (iI y3)), some (.int (iI (y4 + 1))), some (.int (iI y5)), some (.int (iI v4))]) (a := y4) rfl rfl rfl ?_
        refine wp_iinc (L' := [some (.ref 0), some (.int (iI y1)), z2, some (.int (iI y3)), some (.int (iI (y4 + 1))), some (.int (iI (y5 + 1))), some (.int (iI v4))]) (a := y5) rfl rfl rfl ?_
        refine wp_g (n := 1) (pc' := 39) (L' := [some (.ref 0), some (.int (iI y1)), z2, some (.int (iI y3)), some (.int (iI (y4 + 1))), some (.int (iI (y5 + 1))), some (.int (iI v4))]) (st' := []) rfl ?_
        exact hW z2 (some (.int (iI v4))) _ S
      · have dc9 := c9
        have hW := hW.2 dc9
        refine wp_g (n := 1) (pc' := 94) (L' := [some (.ref 0), some (.int (iI y1)), z2, some (.int (iI y3)), some (.int (iI y4)), some (.int (iI y5)), some (.int (iI v4))]) (st' := [.ref 0]) rfl ?_
        refine wp_getf (v := .ref 2) rfl rfl (S.cell 0 (nc rfl)) (by decide) rfl ?_
        refine wp_g (n := 2) (pc' := 100) (L' := [some (.ref 0), some (.int (iI y1)), z2, some (.int (iI y3)), some (.int (iI y4)), some (.int (iI y5)), some (.int (iI v4))]) (st' := [.int (iI 3), .int (iI v4), .ref 2]) rfl ?_
        refine wp_cv (As := [.int (iI v4), .int (iI 3)]) (rest := []) rfl rfl (S.gg 2 (gi rfl)).obj (by decide) rfl rfl rfl (Nat.le_of_ble_eq_true rfl) (Nat.le_of_ble_eq_true rfl) (hW _ S) (fun r10 H10 q10 => ?_)
        obtain ⟨m10, γ10, t10, rfl, S, hW⟩ := q10
        show wp _ _ _ _ _ [] _ _
        refine wp_iinc (L' := [some (.ref 0), some (.int (iI y1)), z2, some (.int (iI y3)), some (.int (iI (y4 + 1))), some (.int (iI y5)), some (.int (iI v4))]) (a := y4) rfl rfl rfl ?_
        refine wp_iinc (L' := [some (.ref 0), some (.int (iI y1)), z2, some (.int (iI y3)), some (.int (iI (y4 + 1))), some (.int (iI (y5 + 1))), some (.int (iI v4))]) (a := y5) rfl rfl rfl ?_
        refine wp_g (n := 1) (pc' := 39) (L' := [some (.ref 0), some (.int (iI y1)), z2, some (.int (iI y3)), some (.int (iI (y4 + 1))), some (.int (iI (y5 + 1))), some (.int (iI v4))]) (st' := []) rfl ?_
        exact hW z2 (some (.int (iI v4))) _ S
    · have dc5 := (Classical.not_not.mp c5)
      have hW := hW.1 dc5
      refine wp_g (n := 3) (pc' := 114) (L' := [some (.ref 0), some (.int (iI y1)), z2, some (.int (iI y3)), some (.int (iI y4)), some (.int (iI y5)), some (.int (iI v4))]) (st' := [.int (iI y1), .ref 0]) rfl ?_
      refine wp_cv (As := [.int (iI y1)]) (rest := []) rfl rfl (S.cell 0 (nc rfl)) (by decide) rfl rfl rfl (Nat.le_of_ble_eq_true rfl) (Nat.le_of_ble_eq_true rfl) (hW _ S) (fun r11 H11 q11 => ?_)
      obtain ⟨m11, γ11, t11, rfl, S, hW⟩ := q11
      show wp _ _ _ _ _ [] _ _
      refine wp_g (n := 1) (pc' := 119) (L' := [some (.ref 0), some (.int (iI y1)), z2, some (.int (iI y3)), some (.int (iI y4)), some (.int (iI y5)), some (.int (iI v4))]) (st' := [.int (iI y4)]) rfl ?_
      exact wp_iret rfl rfl ⟨_, _, _, _, rfl, hy4, S, hW⟩
abbrev W_X8_sets (E : am_E) (k : Nat) (x1 : Int) (x2 : Int) (x3 : Int) (m : MM) (γ : GM) (t : am_H) (Q : Int → MM → GM → am_H → Prop) : Prop := (TA E k 184 [.ref 0, .int (iI x1)] m γ t (fun o1 m1 γ1 t1 => ((o1 = none → (Q (-2) m1 γ1 t1)) ∧ (∀ a1, o1 = some a1 → (isg a1 ∧ (TI E k 29 [.ref a1, .int (iI x2)] m1 γ1 t1 (fun v2 m2 γ2 t2 => (((v2 = 0) → (Q (-2) m2 γ2 t2)) ∧ (¬ (v2 = 0) → (TI E k 178 [.int (iI x3)] m2 γ2 t2 (fun v4 m4 γ4 t4 => (((v4 = 0) → (Q (-2) m4 γ4 t4)) ∧ (¬ (v4 = 0) → (TI E k 33 [.ref a1, .int (iI x2)] m4 γ4 t4 (fun v6 m6 γ6 t6 => (TV E k 44 [.ref 2, .ref a1] m6 γ6 t6 (fun m7 γ7 t7 => (TV E k 42 [.ref 2, .int (iI x2), .int (iI x3)] m7 γ7 t7 (fun m8 γ8 t8 => (TV E k 191 [.ref 0, .int (iI x1)] m8 γ8 t8 (fun m9 γ9 t9 => (Q v6 m9 γ9 t9))))))))))))))))))))))
theorem vc_X8_sets {E : am_E} {k : Nat} {x1 : Int} {x2 : Int} {x3 : Int} {m : MM} {γ : GM} {t : am_H} {Q : Int → MM → GM → am_H → Prop} (hx1 : rJ x1) (hx2 : rJ x2) (hx3 : rJ x3) (hW : W_X8_sets E k x1 x2 x3 m γ t Q) : TI E (k + 1) 163 [.ref 0, .int (iI x1), .int (iI x2), .int (iI x3)] m γ t Q := by
  unfold W_X8_sets at hW
  intro h S
  refine wp_g (n := 2) (pc' := 2) (L' := [some (.ref 0), some (.int (iI x1)), some (.int (iI x2)), some (.int (iI x3)), none, none]) (st' := [.int (iI x1), .ref 0]) rfl ?_
  refine wp_cv (As := [.int (iI x1)]) (rest := []) rfl rfl (S.cell 0 (nc rfl)) (by decide) rfl rfl rfl (Nat.le_of_ble_eq_true rfl) (Nat.le_of_ble_eq_true rfl) (hW _ S) (fun r1 H1 q1 => ?_)
  obtain ⟨o1, m1, γ1, t1, rfl, S, hW⟩ := q1
  cases o1 with
  | none =>
    have hW := hW.1 rfl
    show wp _ _ _ _ _ [.null] _ _
    refine wp_g (n := 2) (pc' := 9) (L' := [some (.ref 0), some (.int (iI x1)), some (.int (iI x2)), some (.int (iI x3)), some (.null), none]) (st' := [.null]) rfl ?_
    refine wp_g (n := 1) (pc' := 28) (L' := [some (.ref 0), some (.int (iI x1)), some (.int (iI x2)), some (.int (iI x3)), some (.null), none]) (st' := []) rfl ?_
    refine wp_g (n := 1) (pc' := 30) (L' := [some (.ref 0), some (.int (iI x1)), some (.int (iI x2)), some (.int (iI x3)), some (.null), none]) (st' := [.int (iI (-2))]) rfl ?_
    exact wp_iret rfl rfl ⟨_, _, _, _, rfl, (by decide), S, hW⟩
  | some a1 =>
    obtain ⟨hg1, hW⟩ := hW.2 _ rfl
    show wp _ _ _ _ _ [.ref a1] _ _
    refine wp_g (n := 2) (pc' := 9) (L' := [some (.ref 0), some (.int (iI x1)), some (.int (iI x2)), some (.int (iI x3)), some (.ref a1), none]) (st' := [.ref a1]) rfl ?_
    refine wp_g (n := 1) (pc' := 12) (L' := [some (.ref 0), some (.int (iI x1)), some (.int (iI x2)), some (.int (iI x3)), some (.ref a1), none]) (st' := []) rfl ?_
    refine wp_g (n := 2) (pc' := 15) (L' := [some (.ref 0), some (.int (iI x1)), some (.int (iI x2)), some (.int (iI x3)), some (.ref a1), none]) (st' := [.int (iI x2), .ref a1]) rfl ?_
    refine wp_cv (As := [.int (iI x2)]) (rest := []) rfl rfl (S.gg a1 hg1).obj (isg_lt hg1) rfl rfl rfl (Nat.le_of_ble_eq_true rfl) (Nat.le_of_ble_eq_true rfl) (hW _ S) (fun r2 H2 q2 => ?_)
    obtain ⟨v2, m2, γ2, t2, rfl, hv2, S, hW⟩ := q2
    show wp _ _ _ _ _ [.int (iI v2)] _ _
    refine wp_ifI (a := v2) rfl rfl hv2.1 hv2.2 (fun c3 => ?_) (fun c3 => ?_)
    · have dc3 := c3
      have hW := hW.1 dc3
      refine wp_g (n := 1) (pc' := 30) (L' := [some (.ref 0), some (.int (iI x1)), some (.int (iI x2)), some (.int (iI x3)), some (.ref a1), none]) (st' := [.int (iI (-2))]) rfl ?_
      exact wp_iret rfl rfl ⟨_, _, _, _, rfl, (by decide), S, hW⟩
    · have dc3 := c3
      have hW := hW.2 dc3
      refine wp_g (n := 1) (pc' := 22) (L' := [some (.ref 0), some (.int (iI x1)), some (.int (iI x2)), some (.int (iI x3)), some (.ref a1), none]) (st' := [.int (iI x3)]) rfl ?_
      refine wp_cs (As := [.int (iI x3)]) (rest := []) rfl rfl rfl rfl (Nat.le_of_ble_eq_true rfl) (Nat.le_of_ble_eq_true rfl) (hW _ S) (fun r4 H4 q4 => ?_)
      obtain ⟨v4, m4, γ4, t4, rfl, hv4, S, hW⟩ := q4
      show wp _ _ _ _ _ [.int (iI v4)] _ _
      refine wp_ifI (a := v4) rfl rfl hv4.1 hv4.2 (fun c5 => ?_) (fun c5 => ?_)
      · have dc5 := c5
        have hW := hW.2 dc5
        refine wp_g (n := 2) (pc' := 34) (L' := [some (.ref 0), some (.int (iI x1)), some (.int (iI x2)), some (.int (iI x3)), some (.ref a1), none]) (st' := [.int (iI x2), .ref a1]) rfl ?_
        refine wp_cv (As := [.int (iI x2)]) (rest := []) rfl rfl (S.gg a1 hg1).obj (isg_lt hg1) rfl rfl rfl (Nat.le_of_ble_eq_true rfl) (Nat.le_of_ble_eq_true rfl) (hW _ S) (fun r6 H6 q6 => ?_)
        obtain ⟨v6, m6, γ6, t6, rfl, hv6, S, hW⟩ := q6
        show wp _ _ _ _ _ [.int (iI v6)] _ _
        refine wp_g (n := 2) (pc' := 40) (L' := [some (.ref 0), some (.int (iI x1)), some (.int (iI x2)), some (.int (iI x3)), some (.ref a1), some (.int (iI v6))]) (st' := [.ref 0]) rfl ?_
        refine wp_getf (v := .ref 2) rfl rfl (S.cell 0 (nc rfl)) (by decide) rfl ?_
        refine wp_g (n := 1) (pc' := 45) (L' := [some (.ref 0), some (.int (iI x1)), some (.int (iI x2)), some (.int (iI x3)), some (.ref a1), some (.int (iI v6))]) (st' := [.ref a1, .ref 2]) rfl ?_
        refine wp_cv (As := [.ref a1]) (rest := []) rfl rfl (S.gg 2 (gi rfl)).obj (by decide) rfl rfl rfl (Nat.le_of_ble_eq_true rfl) (Nat.le_of_ble_eq_true rfl) (hW _ S) (fun r7 H7 q7 => ?_)
        obtain ⟨m7, γ7, t7, rfl, S, hW⟩ := q7
        show wp _ _ _ _ _ [] _ _
        refine wp_g (n := 1) (pc' := 49) (L' := [some (.ref 0), some (.int (iI x1)), some (.int (iI x2)), some (.int (iI x3)), some (.ref a1), some (.int (iI v6))]) (st' := [.ref 0]) rfl ?_
        refine wp_getf (v := .ref 2) rfl rfl (S.cell 0 (nc rfl)) (by decide) rfl ?_
        refine wp_g (n := 2) (pc' := 54) (L' := [some (.ref 0), some (.int (iI x1)), some (.int (iI x2)), some (.int (iI x3)), some (.ref a1), some (.int (iI v6))]) (st' := [.int (iI x3), .int (iI x2), .ref 2]) rfl ?_
        refine wp_cv (As := [.int (iI x2), .int (iI x3)]) (rest := []) rfl rfl (S.gg 2 (gi rfl)).obj (by decide) rfl rfl rfl (Nat.le_of_ble_eq_true rfl) (Nat.le_of_ble_eq_true rfl) (hW _ S) (fun r8 H8 q8 => ?_)
        obtain ⟨m8, γ8, t8, rfl, S, hW⟩ := q8
        show wp _ _ _ _ _ [] _ _
        refine wp_g (n := 2) (pc' := 59) (L' := [some (.ref 0), some (.int (iI x1)), some (.int (iI x2)), some (.int (iI x3)), some (.ref a1), some (.int (iI v6))]) (st' := [.int (iI x1), .ref 0]) rfl ?_
        refine wp_cv (As := [.int (iI x1)]) (rest := []) rfl rfl (S.cell 0 (nc rfl)) (by decide) rfl rfl rfl (Nat.le_of_ble_eq_true rfl) (Nat.le_of_ble_eq_true rfl) (hW _ S) (fun r9 H9 q9 => ?_)
        obtain ⟨m9, γ9, t9, rfl, S, hW⟩ := q9
        show wp _ _ _ _ _ [] _ _
        refine wp_g (n := 1) (pc' := 64) (L' := [some (.ref 0), some (.int (iI x1)), some (.int (iI x2)), some (.int (iI x3)), some (.ref a1), some (.int (iI v6))]) (st' := [.int (iI v6)]) rfl ?_
        exact wp_iret rfl rfl ⟨_, _, _, _, rfl, hv6, S, hW⟩
      · have dc5 := (Classical.not_not.mp c5)
        have hW := hW.1 dc5
        refine wp_g (n := 1) (pc' := 30) (L' := [some (.ref 0), some (.int (iI x1)), some (.int (iI x2)), some (.int (iI x3)), some (.ref a1), none]) (st' := [.int (iI (-2))]) rfl ?_
        exact wp_iret rfl rfl ⟨_, _, _, _, rfl, (by decide), S, hW⟩
def hd_X8_all_51 (E : am_E) (k : Nat) (x1 : Int) (x2 : Int) (x3 : Int) (y1 : Int) (y2 : Int) (y3 : Int) (y4 : Nat) (y5 : Int) (y6 : Int) (m : MM) (γ : GM) (t : am_H) (Q : Int → MM → GM → am_H → Prop) : Prop := TT (pI Q) E (k + 1) 164 51 [some (.ref 0), some (.int (iI y1)), some (.int (iI y2)), some (.int (iI y3)), some (.ref y4), some (.int (iI y5)), some (.int (iI y6))] [] m γ t
abbrev W_X8_all (E : am_E) (k : Nat) (x1 : Int) (x2 : Int) (x3 : Int) (m : MM) (γ : GM) (t : am_H) (Q : Int → MM → GM → am_H → Prop) : Prop := (TA E k 184 [.ref 0, .int (iI x1)] m γ t (fun o1 m1 γ1 t1 => ((o1 = none → (Q (-2) m1 γ1 t1)) ∧ (∀ a1, o1 = some a1 → (isg a1 ∧ (TI E k 178 [.int (iI x2)] m1 γ1 t1 (fun v2 m2 γ2 t2 => (((v2 = 0) → (Q (-2) m2 γ2 t2)) ∧ (¬ (v2 = 0) → (TI E k 178 [.int (iI x3)] m2 γ2 t2 (fun v4 m4 γ4 t4 => (((v4 = 0) → (Q (-2) m4 γ4 t4)) ∧ (¬ (v4 = 0) → (((x2 = x3) → (Q 0 m4 γ4 t4)) ∧ (¬ (x2 = x3) → (TV E k 44 [.ref 2, .ref a1] m4 γ4 t4 (fun m7 γ7 t7 => (hd_X8_all_51 E k x1 x2 x3 x1 x2 x3 a1 0 0 m7 γ7 t7 Q))))))))))))))))))
abbrev W_X8_all_51 (E : am_E) (k : Nat) (x1 : Int) (x2 : Int) (x3 : Int) (y1 : Int) (y2 : Int) (y3 : Int) (y4 : Nat) (y5 : Int) (y6 : Int) (m : MM) (γ : GM) (t : am_H) (Q : Int → MM → GM → am_H → Prop) : Prop := (TI E k 28 [.ref y4] m γ t (fun v1 m1 γ1 t1 => (((y6 < v1) → (TI E k 33 [.ref y4, .int (iI y6)] m1 γ1 t1 (fun v4 m4 γ4 t4 => (((v4 = y2) → (TV E k 42 [.ref 2, .int (iI y6), .int (iI y3)] m4 γ4 t4 (fun m6 γ6 t6 => (hd_X8_all_51 E k x1 x2 x3 y1 y2 y3 y4 (y5 + 1) (y6 + 1) m6 γ6 t6 Q)))) ∧ (¬ (v4 = y2) → (hd_X8_all_51 E k x1 x2 x3 y1 y2 y3 y4 y5 (y6 + 1) m4 γ4 t4 Q)))))) ∧ (¬ (y6 < v1) → (TV E k 191 [.ref 0, .int (iI y1)] m1 γ1 t1 (fun m3 γ3 t3 => (Q y5 m3 γ3 t3)))))))
theorem vc_X8_all {E : am_E} {k : Nat} {x1 : Int} {x2 : Int} {x3 : Int} {m : MM} {γ : GM} {t : am_H} {Q : Int → MM → GM → am_H → Prop} (hx1 : rJ x1) (hx2 : rJ x2) (hx3 : rJ x3) (hW : W_X8_all E k x1 x2 x3 m γ t Q) : TI E (k + 1) 164 [.ref 0, .int (iI x1), .int (iI x2), .int (iI x3)] m γ t Q := by
  unfold W_X8_all at hW
  intro h S
  refine wp_g (n := 2) (pc' := 2) (L' := [some (.ref 0), some (.int (iI x1)), some (.int (iI x2)), some (.int (iI x3)), none, none, none]) (st' := [.int (iI x1), .ref 0]) rfl ?_
  refine wp_cv (As := [.int (iI x1)]) (rest := []) rfl rfl (S.cell 0 (nc rfl)) (by decide) rfl rfl rfl (Nat.le_of_ble_eq_true rfl) (Nat.le_of_ble_eq_true rfl) (hW _ S) (fun r1 H1 q1 => ?_)
  obtain ⟨o1, m1, γ1, t1, rfl, S, hW⟩ := q1
  cases o1 with
  | none =>
    have hW := hW.1 rfl
    show wp _ _ _ _ _ [.null] _ _
    refine wp_g (n := 2) (pc' := 9) (L' := [some (.ref 0), some (.int (iI x1)), some (.int (iI x2)), some (.int (iI x3)), some (.null), none, none]) (st' := [.null]) rfl ?_
    refine wp_g (n := 1) (pc' := 26) (L' := [some (.ref 0), some (.int (iI x1)), some (.int (iI x2)), some (.int (iI x3)), some (.null), none, none]) (st' := []) rfl ?_
    refine wp_g (n := 1) (pc' := 28) (L' := [some (.ref 0), some (.int (iI x1)), some (.int (iI x2)), some (.int (iI x3)), some (.null), none, none]) (st' := [.int (iI (-2))]) rfl ?_
    exact wp_iret rfl rfl ⟨_, _, _, _, rfl, (by decide), S, hW⟩
  | some a1 =>
    obtain ⟨hg1, hW⟩ := hW.2 _ rfl
    show wp _ _ _ _ _ [.ref a1] _ _
    refine wp_g (n := 2) (pc' := 9) (L' := [some (.ref 0), some (.int (iI x1)), some (.int (iI x2)), some (.int (iI x3)), some (.ref a1), none, none]) (st' := [.ref a1]) rfl ?_
    refine wp_g (n := 1) (pc' := 12) (L' := [some (.ref 0), some (.int (iI x1)), some (.int (iI x2)), some (.int (iI x3)), some (.ref a1), none, none]) (st' := []) rfl ?_
    refine wp_g (n := 1) (pc' := 13) (L' := [some (.ref 0), some (.int (iI x1)), some (.int (iI x2)), some (.int (iI x3)), some (.ref a1), none, none]) (st' := [.int (iI x2)]) rfl ?_
    refine wp_cs (As := [.int (iI x2)]) (rest := []) rfl rfl rfl rfl (Nat.le_of_ble_eq_true rfl) (Nat.le_of_ble_eq_true rfl) (hW _ S) (fun r2 H2 q2 => ?_)
    obtain ⟨v2, m2, γ2, t2, rfl, hv2, S, hW⟩ := q2
    show wp _ _ _ _ _ [.int (iI v2)] _ _
    refine wp_ifI (a := v2) rfl rfl hv2.1 hv2.2 (fun c3 => ?_) (fun c3 => ?_)
    · have dc3 := c3
      have hW := hW.1 dc3
      refine wp_g (n := 1) (pc' := 28) (L' := [some (.ref 0), some (.int (iI x1)), some (.int (iI x2)), some (.int (iI x3)), some (.ref a1), none, none]) (st' := [.int (iI (-2))]) rfl ?_
      exact wp_iret rfl rfl ⟨_, _, _, _, rfl, (by decide), S, hW⟩
    · have dc3 := c3
      have hW := hW.2 dc3
      refine wp_g (n := 1) (pc' := 20) (L' := [some (.ref 0), some (.int (iI x1)), some (.int (iI x2)), some (.int (iI x3)), some (.ref a1), none, none]) (st' := [.int (iI x3)]) rfl ?_
      refine wp_cs (As := [.int (iI x3)]) (rest := []) rfl rfl rfl rfl (Nat.le_of_ble_eq_true rfl) (Nat.le_of_ble_eq_true rfl) (hW _ S) (fun r4 H4 q4 => ?_)
      obtain ⟨v4, m4, γ4, t4, rfl, hv4, S, hW⟩ := q4
      show wp _ _ _ _ _ [.int (iI v4)] _ _
      refine wp_ifI (a := v4) rfl rfl hv4.1 hv4.2 (fun c5 => ?_) (fun c5 => ?_)
      · have dc5 := c5
        have hW := hW.2 dc5
        refine wp_g (n := 2) (pc' := 31) (L' := [some (.ref 0), some (.int (iI x1)), some (.int (iI x2)), some (.int (iI x3)), some (.ref a1), none, none]) (st' := [.int (iI x3), .int (iI x2)]) rfl ?_
        refine wp_icmpI (a := x2) (b := x3) rfl rfl hx2.1 hx2.2 hx3.1 hx3.2 (fun c6 => ?_) (fun c6 => ?_)
        · have dc6 := c6
          have hW := hW.2 dc6
          refine wp_g (n := 1) (pc' := 37) (L' := [some (.ref 0), some (.int (iI x1)), some (.int (iI x2)), some (.int (iI x3)), some (.ref a1), none, none]) (st' := [.ref 0]) rfl ?_
          refine wp_getf (v := .ref 2) rfl rfl (S.cell 0 (nc rfl)) (by decide) rfl ?_
          refine wp_g (n := 1) (pc' := 42) (L' := [some (.ref 0), some (.int (iI x1)), some (.int (iI x2)), some (.int (iI x3)), some (.ref a1), none, none]) (st' := [.ref a1, .ref 2]) rfl ?_
          refine wp_cv (As := [.ref a1]) (rest := []) rfl rfl (S.gg 2 (gi rfl)).obj (by decide) rfl rfl rfl (Nat.le_of_ble_eq_true rfl) (Nat.le_of_ble_eq_true rfl) (hW _ S) (fun r7 H7 q7 => ?_)
          obtain ⟨m7, γ7, t7, rfl, S, hW⟩ := q7
          show wp _ _ _ _ _ [] _ _
          refine wp_g (n := 4) (pc' := 51) (L' := [some (.ref 0), some (.int (iI x1)), some (.int (iI x2)), some (.int (iI x3)), some (.ref a1), some (.int (iI 0)), some (.int (iI 0))]) (st' := []) rfl ?_
          exact hW _ S
        · have dc6 := (Classical.not_not.mp c6)
          have hW := hW.1 dc6
          refine wp_g (n := 1) (pc' := 35) (L' := [some (.ref 0), some (.int (iI x1)), some (.int (iI x2)), some (.int (iI x3)), some (.ref a1), none, none]) (st' := [.int (iI 0)]) rfl ?_
          exact wp_iret rfl rfl ⟨_, _, _, _, rfl, (by decide), S, hW⟩
      · have dc5 := (Classical.not_not.mp c5)
        have hW := hW.1 dc5
        refine wp_g (n := 1) (pc' := 28) (L' := [some (.ref 0), some (.int (iI x1)), some (.int (iI x2)), some (.int (iI x3)), some (.ref a1), none, none]) (st' := [.int (iI (-2))]) rfl ?_
        exact wp_iret rfl rfl ⟨_, _, _, _, rfl, (by decide), S, hW⟩
theorem vc_X8_all_51 {E : am_E} {k : Nat} {x1 : Int} {x2 : Int} {x3 : Int} {y1 : Int} {y2 : Int} {y3 : Int} {y4 : Nat} {y5 : Int} {y6 : Int} {m : MM} {γ : GM} {t : am_H} {Q : Int → MM → GM → am_H → Prop} (hx1 : rJ x1) (hx2 : rJ x2) (hx3 : rJ x3) (hy1 : rJ y1) (hy2 : rJ y2) (hy3 : rJ y3) (hy4 : isg y4) (hy5 : rJ y5) (hy6 : rJ y6) (hW : W_X8_all_51 E k x1 x2 x3 y1 y2 y3 y4 y5 y6 m γ t Q) : hd_X8_all_51 E k x1 x2 x3 y1 y2 y3 y4 y5 y6 m γ t Q := by
  unfold W_X8_all_51 at hW
  intro h S
  refine wp_g (n := 2) (pc' := 55) (L' := [some (.ref 0), some (.int (iI y1)), some (.int (iI y2)), some (.int (iI y3)), some (.ref y4), some (.int (iI y5)), some (.int (iI y6))]) (st' := [.ref y4, .int (iI y6)]) rfl ?_
  refine wp_cv (As := []) (rest := [.int (iI y6)]) rfl rfl (S.gg y4 hy4).obj (isg_lt hy4) rfl rfl rfl (Nat.le_of_ble_eq_true rfl) (Nat.le_of_ble_eq_true rfl) (hW _ S) (fun r1 H1 q1 => ?_)
  obtain ⟨v1, m1, γ1, t1, rfl, hv1, S, hW⟩ := q1
  show wp _ _ _ _ _ [.int (iI v1), .int (iI y6)] _ _
  refine wp_icmpI (a := y6) (b := v1) rfl rfl hy6.1 hy6.2 hv1.1 hv1.2 (fun c2 => ?_) (fun c2 => ?_)
  · have dc2 := (Int.not_lt.mpr c2)
    have hW := hW.2 dc2
    refine wp_g (n := 2) (pc' := 93) (L' := [some (.ref 0), some (.int (iI y1)), some (.int (iI y2)), some (.int (iI y3)), some (.ref y4), some (.int (iI y5)), some (.int (iI y6))]) (st' := [.int (iI y1), .ref 0]) rfl ?_
    refine wp_cv (As := [.int (iI y1)]) (rest := []) rfl rfl (S.cell 0 (nc rfl)) (by decide) rfl rfl rfl (Nat.le_of_ble_eq_true rfl) (Nat.le_of_ble_eq_true rfl) (hW _ S) (fun r3 H3 q3 => ?_)
    obtain ⟨m3, γ3, t3, rfl, S, hW⟩ := q3
    show wp _ _ _ _ _ [] _ _
    refine wp_g (n := 1) (pc' := 98) (L' := [some (.ref 0), some (.int (iI y1)), some (.int (iI y2)), some (.int (iI y3)), some (.ref y4), some (.int (iI y5)), some (.int (iI y6))]) (st' := [.int (iI y5)]) rfl ?_
    exact wp_iret rfl rfl ⟨_, _, _, _, rfl, hy5, S, hW⟩
  · have dc2 := (Int.not_le.mp c2)
    have hW := hW.1 dc2
    refine wp_g (n := 2) (pc' := 65) (L' := [some (.ref 0), some (.int (iI y1)), some (.int (iI y2)), some (.int (iI y3)), some (.ref y4), some (.int (iI y5)), some (.int (iI y6))]) (st' := [.int (iI y6), .ref y4]) rfl ?_
    refine wp_cv (As := [.int (iI y6)]) (rest := []) rfl rfl (S.gg y4 hy4).obj (isg_lt hy4) rfl rfl rfl (Nat.le_of_ble_eq_true rfl) (Nat.le_of_ble_eq_true rfl) (hW _ S) (fun r4 H4 q4 => ?_)
    obtain ⟨v4, m4, γ4, t4, rfl, hv4, S, hW⟩ := q4
    show wp _ _ _ _ _ [.int (iI v4)] _ _
    refine wp_g (n := 1) (pc' := 69) (L' := [some (.ref 0), some (.int (iI y1)), some (.int (iI y2)), some (.int (iI y3)), some (.ref y4), some (.int (iI y5)), some (.int (iI y6))]) (st' := [.int (iI y2), .int (iI v4)]) rfl ?_
    refine wp_icmpI (a := v4) (b := y2) rfl rfl hv4.1 hv4.2 hy2.1 hy2.2 (fun c5 => ?_) (fun c5 => ?_)
    · have dc5 := c5
      have hW := hW.2 dc5
      refine wp_iinc (L' := [some (.ref 0), some (.int (iI y1)), some (.int (iI y2)), some (.int (iI y3)), some (.ref y4), some (.int (iI y5)), some (.int (iI (y6 + 1)))]) (a := y6) rfl rfl rfl ?_
      refine wp_g (n := 1) (pc' := 51) (L' := [some (.ref 0), some (.int (iI y1)), some (.int (iI y2)), some (.int (iI y3)), some (.ref y4), some (.int (iI y5)), some (.int (iI (y6 + 1)))]) (st' := []) rfl ?_
      exact hW _ S
    · have dc5 := (Classical.not_not.mp c5)
      have hW := hW.1 dc5
      refine wp_g (n := 1) (pc' := 73) (L' := [some (.ref 0), some (.int (iI y1)), some (.int (iI y2)), some (.int (iI y3)), some (.ref y4), some (.int (iI y5)), some (.int (iI y6))]) (st' := [.ref 0]) rfl ?_
      refine wp_getf (v := .ref 2) rfl rfl (S.cell 0 (nc rfl)) (by decide) rfl ?_
      refine wp_g (n := 2) (pc' := 79) (L' := [some (.ref 0), some (.int (iI y1)), some (.int (iI y2)), some (.int (iI y3)), some (.ref y4), some (.int (iI y5)), some (.int (iI y6))]) (st' := [.int (iI y3), .int (iI y6), .ref 2]) rfl ?_
      refine wp_cv (As := [.int (iI y6), .int (iI y3)]) (rest := []) rfl rfl (S.gg 2 (gi rfl)).obj (by decide) rfl rfl rfl (Nat.le_of_ble_eq_true rfl) (Nat.le_of_ble_eq_true rfl) (hW _ S) (fun r6 H6 q6 => ?_)
      obtain ⟨m6, γ6, t6, rfl, S, hW⟩ := q6
      show wp _ _ _ _ _ [] _ _
      refine wp_iinc (L' := [some (.ref 0), some (.int (iI y1)), some (.int (iI y2)), some (.int (iI y3)), some (.ref y4), some (.int (iI (y5 + 1))), some (.int (iI y6))]) (a := y5) rfl rfl rfl ?_
      refine wp_iinc (L' := [some (.ref 0), some (.int (iI y1)), some (.int (iI y2)), some (.int (iI y3)), some (.ref y4), some (.int (iI (y5 + 1))), some (.int (iI (y6 + 1)))]) (a := y6) rfl rfl rfl ?_
      refine wp_g (n := 1) (pc' := 51) (L' := [some (.ref 0), some (.int (iI y1)), some (.int (iI y2)), some (.int (iI y3)), some (.ref y4), some (.int (iI (y5 + 1))), some (.int (iI (y6 + 1)))]) (st' := []) rfl ?_
      exact hW _ S
def hd_X8_under_23 (E : am_E) (k : Nat) (x1 : Int) (y1 : Int) (y2 : Nat) (y3 : Int) (m : MM) (γ : GM) (t : am_H) (Q : Int → MM → GM → am_H → Prop) : Prop := TT (pI Q) E (k + 1) 165 23 [some (.ref 0), some (.int (iI y1)), some (.ref y2), some (.int (iI y3))] [] m γ t
abbrev W_X8_under (E : am_E) (k : Nat) (x1 : Int) (m : MM) (γ : GM) (t : am_H) (Q : Int → MM → GM → am_H → Prop) : Prop := (TA E k 184 [.ref 0, .int (iI x1)] m γ t (fun o1 m1 γ1 t1 => ((o1 = none → (Q (-2) m1 γ1 t1)) ∧ (∀ a1, o1 = some a1 → (isg a1 ∧ (TV E k 44 [.ref 2, .ref a1] m1 γ1 t1 (fun m2 γ2 t2 => (hd_X8_under_23 E k x1 x1 a1 0 m2 γ2 t2 Q))))))))
abbrev W_X8_under_23 (E : am_E) (k : Nat) (x1 : Int) (y1 : Int) (y2 : Nat) (y3 : Int) (m : MM) (γ : GM) (t : am_H) (Q : Int → MM → GM → am_H → Prop) : Prop := (TI E k 28 [.ref y2] m γ t (fun v1 m1 γ1 t1 => (((y3 < v1) → (TI E k 33 [.ref y2, .int (iI y3)] m1 γ1 t1 (fun v5 m5 γ5 t5 => (TI E k 181 [.int (iI v5)] m5 γ5 t5 (fun v6 m6 γ6 t6 => (TV E k 42 [.ref 2, .int (iI y3), .int (iI v6)] m6 γ6 t6 (fun m7 γ7 t7 => (hd_X8_under_23 E k x1 y1 y2 (y3 + 1) m7 γ7 t7 Q)))))))) ∧ (¬ (y3 < v1) → (TV E k 191 [.ref 0, .int (iI y1)] m1 γ1 t1 (fun m3 γ3 t3 => (TI E k 41 [.ref y2] m3 γ3 t3 (fun v4 m4 γ4 t4 => (Q v4 m4 γ4 t4)))))))))
theorem vc_X8_under {E : am_E} {k : Nat} {x1 : Int} {m : MM} {γ : GM} {t : am_H} {Q : Int → MM → GM → am_H → Prop} (hx1 : rJ x1) (hW : W_X8_under E k x1 m γ t Q) : TI E (k + 1) 165 [.ref 0, .int (iI x1)] m γ t Q := by
  unfold W_X8_under at hW
  intro h S
  refine wp_g (n := 2) (pc' := 2) (L' := [some (.ref 0), some (.int (iI x1)), none, none]) (st' := [.int (iI x1), .ref 0]) rfl ?_
  refine wp_cv (As := [.int (iI x1)]) (rest := []) rfl rfl (S.cell 0 (nc rfl)) (by decide) rfl rfl rfl (Nat.le_of_ble_eq_true rfl) (Nat.le_of_ble_eq_true rfl) (hW _ S) (fun r1 H1 q1 => ?_)
  obtain ⟨o1, m1, γ1, t1, rfl, S, hW⟩ := q1
  cases o1 with
  | none =>
    have hW := hW.1 rfl
    show wp _ _ _ _ _ [.null] _ _
    refine wp_g (n := 2) (pc' := 7) (L' := [some (.ref 0), some (.int (iI x1)), some (.null), none]) (st' := [.null]) rfl ?_
    refine wp_g (n := 1) (pc' := 10) (L' := [some (.ref 0), some (.int (iI x1)), some (.null), none]) (st' := []) rfl ?_
    refine wp_g (n := 1) (pc' := 12) (L' := [some (.ref 0), some (.int (iI x1)), some (.null), none]) (st' := [.int (iI (-2))]) rfl ?_
    exact wp_iret rfl rfl ⟨_, _, _, _, rfl, (by decide), S, hW⟩
  | some a1 =>
    obtain ⟨hg1, hW⟩ := hW.2 _ rfl
    show wp _ _ _ _ _ [.ref a1] _ _
    refine wp_g (n := 2) (pc' := 7) (L' := [some (.ref 0), some (.int (iI x1)), some (.ref a1), none]) (st' := [.ref a1]) rfl ?_
    refine wp_g (n := 1) (pc' := 13) (L' := [some (.ref 0), some (.int (iI x1)), some (.ref a1), none]) (st' := []) rfl ?_
    refine wp_g (n := 1) (pc' := 14) (L' := [some (.ref 0), some (.int (iI x1)), some (.ref a1), none]) (st' := [.ref 0]) rfl ?_
    refine wp_getf (v := .ref 2) rfl rfl (S.cell 0 (nc rfl)) (by decide) rfl ?_
    refine wp_g (n := 1) (pc' := 18) (L' := [some (.ref 0), some (.int (iI x1)), some (.ref a1), none]) (st' := [.ref a1, .ref 2]) rfl ?_
    refine wp_cv (As := [.ref a1]) (rest := []) rfl rfl (S.gg 2 (gi rfl)).obj (by decide) rfl rfl rfl (Nat.le_of_ble_eq_true rfl) (Nat.le_of_ble_eq_true rfl) (hW _ S) (fun r2 H2 q2 => ?_)
    obtain ⟨m2, γ2, t2, rfl, S, hW⟩ := q2
    show wp _ _ _ _ _ [] _ _
    refine wp_g (n := 2) (pc' := 23) (L' := [some (.ref 0), some (.int (iI x1)), some (.ref a1), some (.int (iI 0))]) (st' := []) rfl ?_
    exact hW _ S
theorem vc_X8_under_23 {E : am_E} {k : Nat} {x1 : Int} {y1 : Int} {y2 : Nat} {y3 : Int} {m : MM} {γ : GM} {t : am_H} {Q : Int → MM → GM → am_H → Prop} (hx1 : rJ x1) (hy1 : rJ y1) (hy2 : isg y2) (hy3 : rJ y3) (hW : W_X8_under_23 E k x1 y1 y2 y3 m γ t Q) : hd_X8_under_23 E k x1 y1 y2 y3 m γ t Q := by
  unfold W_X8_under_23 at hW
  intro h S
  refine wp_g (n := 2) (pc' := 25) (L' := [some (.ref 0), some (.int (iI y1)), some (.ref y2), some (.int (iI y3))]) (st' := [.ref y2, .int (iI y3)]) rfl ?_
  refine wp_cv (As := []) (rest := [.int (iI y3)]) rfl rfl (S.gg y2 hy2).obj (isg_lt hy2) rfl rfl rfl (Nat.le_of_ble_eq_true rfl) (Nat.le_of_ble_eq_true rfl) (hW _ S) (fun r1 H1 q1 => ?_)
  obtain ⟨v1, m1, γ1, t1, rfl, hv1, S, hW⟩ := q1
  show wp _ _ _ _ _ [.int (iI v1), .int (iI y3)] _ _
  refine wp_icmpI (a := y3) (b := v1) rfl rfl hy3.1 hy3.2 hv1.1 hv1.2 (fun c2 => ?_) (fun c2 => ?_)
  · have dc2 := (Int.not_lt.mpr c2)
    have hW := hW.2 dc2
    refine wp_g (n := 2) (pc' := 55) (L' := [some (.ref 0), some (.int (iI y1)), some (.ref y2), some (.int (iI y3))]) (st' := [.int (iI y1), .ref 0]) rfl ?_
    refine wp_cv (As := [.int (iI y1)]) (rest := []) rfl rfl (S.cell 0 (nc rfl)) (by decide) rfl rfl rfl (Nat.le_of_ble_eq_true rfl) (Nat.le_of_ble_eq_true rfl) (hW _ S) (fun r3 H3 q3 => ?_)
    obtain ⟨m3, γ3, t3, rfl, S, hW⟩ := q3
    show wp _ _ _ _ _ [] _ _
    refine wp_g (n := 1) (pc' := 59) (L' := [some (.ref 0), some (.int (iI y1)), some (.ref y2), some (.int (iI y3))]) (st' := [.ref y2]) rfl ?_
    refine wp_cv (As := []) (rest := []) rfl rfl (S.gg y2 hy2).obj (isg_lt hy2) rfl rfl rfl (Nat.le_of_ble_eq_true rfl) (Nat.le_of_ble_eq_true rfl) (hW _ S) (fun r4 H4 q4 => ?_)
    obtain ⟨v4, m4, γ4, t4, rfl, hv4, S, hW⟩ := q4
    show wp _ _ _ _ _ [.int (iI v4)] _ _
    exact wp_iret rfl rfl ⟨_, _, _, _, rfl, hv4, S, hW⟩
  · have dc2 := (Int.not_le.mp c2)
    have hW := hW.1 dc2
    refine wp_g (n := 1) (pc' := 32) (L' := [some (.ref 0), some (.int (iI y1)), some (.ref y2), some (.int (iI y3))]) (st' := [.ref 0]) rfl ?_
    refine wp_getf (v := .ref 2) rfl rfl (S.cell 0 (nc rfl)) (by decide) rfl ?_
    refine wp_g (n := 3) (pc' := 38) (L' := [some (.ref 0), some (.int (iI y1)), some (.ref y2), some (.int (iI y3))]) (st' := [.int (iI y3), .ref y2, .int (iI y3), .ref 2]) rfl ?_
    refine wp_cv (As := [.int (iI y3)]) (rest := [.int (iI y3), .ref 2]) rfl rfl (S.gg y2 hy2).obj (isg_lt hy2) rfl rfl rfl (Nat.le_of_ble_eq_true rfl) (Nat.le_of_ble_eq_true rfl) (hW _ S) (fun r5 H5 q5 => ?_)
    obtain ⟨v5, m5, γ5, t5, rfl, hv5, S, hW⟩ := q5
    show wp _ _ _ _ _ [.int (iI v5), .int (iI y3), .ref 2] _ _
    refine wp_cs (As := [.int (iI v5)]) (rest := [.int (iI y3), .ref 2]) rfl rfl rfl rfl (Nat.le_of_ble_eq_true rfl) (Nat.le_of_ble_eq_true rfl) (hW _ S) (fun r6 H6 q6 => ?_)
    obtain ⟨v6, m6, γ6, t6, rfl, hv6, S, hW⟩ := q6
    show wp _ _ _ _ _ [.int (iI v6), .int (iI y3), .ref 2] _ _
    refine wp_cv (As := [.int (iI y3), .int (iI v6)]) (rest := []) rfl rfl (S.gg 2 (gi rfl)).obj (by decide) rfl rfl rfl (Nat.le_of_ble_eq_true rfl) (Nat.le_of_ble_eq_true rfl) (hW _ S) (fun r7 H7 q7 => ?_)
    obtain ⟨m7, γ7, t7, rfl, S, hW⟩ := q7
    show wp _ _ _ _ _ [] _ _
    refine wp_iinc (L' := [some (.ref 0), some (.int (iI y1)), some (.ref y2), some (.int (iI (y3 + 1)))]) (a := y3) rfl rfl rfl ?_
    refine wp_g (n := 1) (pc' := 23) (L' := [some (.ref 0), some (.int (iI y1)), some (.ref y2), some (.int (iI (y3 + 1)))]) (st' := []) rfl ?_
    exact hW _ S
abbrev W_X8_quarter (E : am_E) (k : Nat) (x1 : Int) (m : MM) (γ : GM) (t : am_H) (Q : Int → MM → GM → am_H → Prop) : Prop := (TA E k 184 [.ref 0, .int (iI x1)] m γ t (fun o1 m1 γ1 t1 => ((o1 = none → (Q (-2) m1 γ1 t1)) ∧ (∀ a1, o1 = some a1 → (isg a1 ∧ (TV E k 46 [.ref 2, .ref a1] m1 γ1 t1 (fun m2 γ2 t2 => (TV E k 191 [.ref 0, .int (iI x1)] m2 γ2 t2 (fun m3 γ3 t3 => (TI E k 25 [.ref a1] m3 γ3 t3 (fun v4 m4 γ4 t4 => (Q v4 m4 γ4 t4))))))))))))
theorem vc_X8_quarter {E : am_E} {k : Nat} {x1 : Int} {m : MM} {γ : GM} {t : am_H} {Q : Int → MM → GM → am_H → Prop} (hx1 : rJ x1) (hW : W_X8_quarter E k x1 m γ t Q) : TI E (k + 1) 166 [.ref 0, .int (iI x1)] m γ t Q := by
  unfold W_X8_quarter at hW
  intro h S
  refine wp_g (n := 2) (pc' := 2) (L' := [some (.ref 0), some (.int (iI x1)), none]) (st' := [.int (iI x1), .ref 0]) rfl ?_
  refine wp_cv (As := [.int (iI x1)]) (rest := []) rfl rfl (S.cell 0 (nc rfl)) (by decide) rfl rfl rfl (Nat.le_of_ble_eq_true rfl) (Nat.le_of_ble_eq_true rfl) (hW _ S) (fun r1 H1 q1 => ?_)
  obtain ⟨o1, m1, γ1, t1, rfl, S, hW⟩ := q1
  cases o1 with
  | none =>
    have hW := hW.1 rfl
    show wp _ _ _ _ _ [.null] _ _
    refine wp_g (n := 2) (pc' := 7) (L' := [some (.ref 0), some (.int (iI x1)), some (.null)]) (st' := [.null]) rfl ?_
    refine wp_g (n := 1) (pc' := 10) (L' := [some (.ref 0), some (.int (iI x1)), some (.null)]) (st' := []) rfl ?_
    refine wp_g (n := 1) (pc' := 12) (L' := [some (.ref 0), some (.int (iI x1)), some (.null)]) (st' := [.int (iI (-2))]) rfl ?_
    exact wp_iret rfl rfl ⟨_, _, _, _, rfl, (by decide), S, hW⟩
  | some a1 =>
    obtain ⟨hg1, hW⟩ := hW.2 _ rfl
    show wp _ _ _ _ _ [.ref a1] _ _
    refine wp_g (n := 2) (pc' := 7) (L' := [some (.ref 0), some (.int (iI x1)), some (.ref a1)]) (st' := [.ref a1]) rfl ?_
    refine wp_g (n := 1) (pc' := 13) (L' := [some (.ref 0), some (.int (iI x1)), some (.ref a1)]) (st' := []) rfl ?_
    refine wp_g (n := 1) (pc' := 14) (L' := [some (.ref 0), some (.int (iI x1)), some (.ref a1)]) (st' := [.ref 0]) rfl ?_
    refine wp_getf (v := .ref 2) rfl rfl (S.cell 0 (nc rfl)) (by decide) rfl ?_
    refine wp_g (n := 1) (pc' := 18) (L' := [some (.ref 0), some (.int (iI x1)), some (.ref a1)]) (st' := [.ref a1, .ref 2]) rfl ?_
    refine wp_cv (As := [.ref a1]) (rest := []) rfl rfl (S.gg 2 (gi rfl)).obj (by decide) rfl rfl rfl (Nat.le_of_ble_eq_true rfl) (Nat.le_of_ble_eq_true rfl) (hW _ S) (fun r2 H2 q2 => ?_)
    obtain ⟨m2, γ2, t2, rfl, S, hW⟩ := q2
    show wp _ _ _ _ _ [] _ _
    refine wp_g (n := 2) (pc' := 23) (L' := [some (.ref 0), some (.int (iI x1)), some (.ref a1)]) (st' := [.int (iI x1), .ref 0]) rfl ?_
    refine wp_cv (As := [.int (iI x1)]) (rest := []) rfl rfl (S.cell 0 (nc rfl)) (by decide) rfl rfl rfl (Nat.le_of_ble_eq_true rfl) (Nat.le_of_ble_eq_true rfl) (hW _ S) (fun r3 H3 q3 => ?_)
    obtain ⟨m3, γ3, t3, rfl, S, hW⟩ := q3
    show wp _ _ _ _ _ [] _ _
    refine wp_g (n := 1) (pc' := 27) (L' := [some (.ref 0), some (.int (iI x1)), some (.ref a1)]) (st' := [.ref a1]) rfl ?_
    refine wp_cv (As := []) (rest := []) rfl rfl (S.gg a1 hg1).obj (isg_lt hg1) rfl rfl rfl (Nat.le_of_ble_eq_true rfl) (Nat.le_of_ble_eq_true rfl) (hW _ S) (fun r4 H4 q4 => ?_)
    obtain ⟨v4, m4, γ4, t4, rfl, hv4, S, hW⟩ := q4
    show wp _ _ _ _ _ [.int (iI v4)] _ _
    exact wp_iret rfl rfl ⟨_, _, _, _, rfl, hv4, S, hW⟩
abbrev W_X8_mirror (E : am_E) (k : Nat) (x1 : Int) (m : MM) (γ : GM) (t : am_H) (Q : Int → MM → GM → am_H → Prop) : Prop := (TA E k 184 [.ref 0, .int (iI x1)] m γ t (fun o1 m1 γ1 t1 => ((o1 = none → (Q (-2) m1 γ1 t1)) ∧ (∀ a1, o1 = some a1 → (isg a1 ∧ (TV E k 47 [.ref 2, .ref a1] m1 γ1 t1 (fun m2 γ2 t2 => (TV E k 191 [.ref 0, .int (iI x1)] m2 γ2 t2 (fun m3 γ3 t3 => (TI E k 189 [.ref 0, .int (iI x1)] m3 γ3 t3 (fun v4 m4 γ4 t4 => (Q v4 m4 γ4 t4))))))))))))
theorem vc_X8_mirror {E : am_E} {k : Nat} {x1 : Int} {m : MM} {γ : GM} {t : am_H} {Q : Int → MM → GM → am_H → Prop} (hx1 : rJ x1) (hW : W_X8_mirror E k x1 m γ t Q) : TI E (k + 1) 167 [.ref 0, .int (iI x1)] m γ t Q := by
  unfold W_X8_mirror at hW
  intro h S
  refine wp_g (n := 2) (pc' := 2) (L' := [some (.ref 0), some (.int (iI x1)), none]) (st' := [.int (iI x1), .ref 0]) rfl ?_
  refine wp_cv (As := [.int (iI x1)]) (rest := []) rfl rfl (S.cell 0 (nc rfl)) (by decide) rfl rfl rfl (Nat.le_of_ble_eq_true rfl) (Nat.le_of_ble_eq_true rfl) (hW _ S) (fun r1 H1 q1 => ?_)
  obtain ⟨o1, m1, γ1, t1, rfl, S, hW⟩ := q1
  cases o1 with
  | none =>
    have hW := hW.1 rfl
    show wp _ _ _ _ _ [.null] _ _
    refine wp_g (n := 2) (pc' := 7) (L' := [some (.ref 0), some (.int (iI x1)), some (.null)]) (st' := [.null]) rfl ?_
    refine wp_g (n := 1) (pc' := 10) (L' := [some (.ref 0), some (.int (iI x1)), some (.null)]) (st' := []) rfl ?_
    refine wp_g (n := 1) (pc' := 12) (L' := [some (.ref 0), some (.int (iI x1)), some (.null)]) (st' := [.int (iI (-2))]) rfl ?_
    exact wp_iret rfl rfl ⟨_, _, _, _, rfl, (by decide), S, hW⟩
  | some a1 =>
    obtain ⟨hg1, hW⟩ := hW.2 _ rfl
    show wp _ _ _ _ _ [.ref a1] _ _
    refine wp_g (n := 2) (pc' := 7) (L' := [some (.ref 0), some (.int (iI x1)), some (.ref a1)]) (st' := [.ref a1]) rfl ?_
    refine wp_g (n := 1) (pc' := 13) (L' := [some (.ref 0), some (.int (iI x1)), some (.ref a1)]) (st' := []) rfl ?_
    refine wp_g (n := 1) (pc' := 14) (L' := [some (.ref 0), some (.int (iI x1)), some (.ref a1)]) (st' := [.ref 0]) rfl ?_
    refine wp_getf (v := .ref 2) rfl rfl (S.cell 0 (nc rfl)) (by decide) rfl ?_
    refine wp_g (n := 1) (pc' := 18) (L' := [some (.ref 0), some (.int (iI x1)), some (.ref a1)]) (st' := [.ref a1, .ref 2]) rfl ?_
    refine wp_cv (As := [.ref a1]) (rest := []) rfl rfl (S.gg 2 (gi rfl)).obj (by decide) rfl rfl rfl (Nat.le_of_ble_eq_true rfl) (Nat.le_of_ble_eq_true rfl) (hW _ S) (fun r2 H2 q2 => ?_)
    obtain ⟨m2, γ2, t2, rfl, S, hW⟩ := q2
    show wp _ _ _ _ _ [] _ _
    refine wp_g (n := 2) (pc' := 23) (L' := [some (.ref 0), some (.int (iI x1)), some (.ref a1)]) (st' := [.int (iI x1), .ref 0]) rfl ?_
    refine wp_cv (As := [.int (iI x1)]) (rest := []) rfl rfl (S.cell 0 (nc rfl)) (by decide) rfl rfl rfl (Nat.le_of_ble_eq_true rfl) (Nat.le_of_ble_eq_true rfl) (hW _ S) (fun r3 H3 q3 => ?_)
    obtain ⟨m3, γ3, t3, rfl, S, hW⟩ := q3
    show wp _ _ _ _ _ [] _ _
    refine wp_g (n := 2) (pc' := 28) (L' := [some (.ref 0), some (.int (iI x1)), some (.ref a1)]) (st' := [.int (iI x1), .ref 0]) rfl ?_
    refine wp_cv (As := [.int (iI x1)]) (rest := []) rfl rfl (S.cell 0 (nc rfl)) (by decide) rfl rfl rfl (Nat.le_of_ble_eq_true rfl) (Nat.le_of_ble_eq_true rfl) (hW _ S) (fun r4 H4 q4 => ?_)
    obtain ⟨v4, m4, γ4, t4, rfl, hv4, S, hW⟩ := q4
    show wp _ _ _ _ _ [.int (iI v4)] _ _
    exact wp_iret rfl rfl ⟨_, _, _, _, rfl, hv4, S, hW⟩
def hd_X8_beside_121 (E : am_E) (k : Nat) (x1 : Int) (x2 : Int) (x3 : Int) (x4 : Int) (y3 : Int) (y4 : Int) (y5 : Nat) (y7 : Int) (y8 : Int) (m : MM) (γ : GM) (t : am_H) (Q : Int → MM → GM → am_H → Prop) : Prop := ∀ (z1 z2 z6 : Option Value), TT (pI Q) E (k + 1) 168 121 [some (.ref 0), z1, z2, some (.int (iI y3)), some (.int (iI y4)), some (.ref y5), z6, some (.int (iI y7)), some (.int (iI y8))] [] m γ t
abbrev W_X8_beside (E : am_E) (k : Nat) (x1 : Int) (x2 : Int) (x3 : Int) (x4 : Int) (m : MM) (γ : GM) (t : am_H) (Q : Int → MM → GM → am_H → Prop) : Prop := (TA E k 184 [.ref 0, .int (iI x1)] m γ t (fun o1 m1 γ1 t1 => ((o1 = none → (TA E k 184 [.ref 0, .int (iI x2)] m1 γ1 t1 (fun o2 m2 γ2 t2 => ((o2 = none → (Q (-2) m2 γ2 t2)) ∧ (∀ a2, o2 = some a2 → (isg a2 ∧ (Q (-2) m2 γ2 t2))))))) ∧ (∀ a1, o1 = some a1 → (isg a1 ∧ (TA E k 184 [.ref 0, .int (iI x2)] m1 γ1 t1 (fun o3 m3 γ3 t3 => ((o3 = none → (Q (-2) m3 γ3 t3)) ∧ (∀ a3, o3 = some a3 → (isg a3 ∧ (TI E k 178 [.int (iI x3)] m3 γ3 t3 (fun v4 m4 γ4 t4 => (((v4 = 0) → (Q (-2) m4 γ4 t4)) ∧ (¬ (v4 = 0) → (TI E k 176 [.int (iI x4)] m4 γ4 t4 (fun v6 m6 γ6 t6 => (((v6 = 0) → (Q (-2) m6 γ6 t6)) ∧ (¬ (v6 = 0) → (TI E k 26 [.ref a1] m6 γ6 t6 (fun v8 m8 γ8 t8 => (TI E k 26 [.ref a3] m8 γ8 t8 (fun v9 m9 γ9 t9 => (rJ (v8 + v9) ∧ ((((v8 + v9) ≤ 4) → (TI E k 25 [.ref a1] m9 γ9 t9 (fun v12 m12 γ12 t12 => (TI E k 25 [.ref a3] m12 γ12 t12 (fun v13 m13 γ13 t13 => (((v12 = v13) → (TI E k 25 [.ref a1] m13 γ13 t13 (fun v15 m15 γ15 t15 => (TV E k 23 [.ref 2, .int (iI v15), .int (iI (v8 + v9))] m15 γ15 t15 (fun m16 γ16 t16 => (TV E k 45 [.ref 2, .ref a1, .int (iI 0)] m16 γ16 t16 (fun m17 γ17 t17 => (TI E k 26 [.ref a1] m17 γ17 t17 (fun v18 m18 γ18 t18 => (TV E k 45 [.ref 2, .ref a3, .int (iI v18)] m18 γ18 t18 (fun m19 γ19 t19 => (hd_X8_beside_121 E k x1 x2 x3 x4 x3 x4 a1 (v8 + v9) 0 m19 γ19 t19 Q)))))))))))) ∧ (¬ (v12 = v13) → (Q (-6) m13 γ13 t13)))))))) ∧ (¬ ((v8 + v9) ≤ 4) → (Q (-5) m9 γ9 t9))))))))))))))))))))))))))
abbrev W_X8_beside_121 (E : am_E) (k : Nat) (x1 : Int) (x2 : Int) (x3 : Int) (x4 : Int) (y3 : Int) (y4 : Int) (y5 : Nat) (y7 : Int) (y8 : Int) (m : MM) (γ : GM) (t : am_H) (Q : Int → MM → GM → am_H → Prop) : Prop := (TI E k 25 [.ref 2] m γ t (fun v1 m1 γ1 t1 => (((y8 < v1) → (TI E k 26 [.ref y5] m1 γ1 t1 (fun v4 m4 γ4 t4 => (TI E k 37 [.ref 2, .int (iI (((y8 * y7) + v4) - 1)), .int (iI 0)] m4 γ4 t4 (fun v5 m5 γ5 t5 => (TV E k 42 [.ref 2, .int (iI v5), .int (iI y3)] m5 γ5 t5 (fun m6 γ6 t6 => (hd_X8_beside_121 E k x1 x2 x3 x4 y3 y4 y5 y7 (y8 + 1) m6 γ6 t6 Q)))))))) ∧ (¬ (y8 < v1) → (TV E k 191 [.ref 0, .int (iI y4)] m1 γ1 t1 (fun m3 γ3 t3 => (Q y7 m3 γ3 t3)))))))
theorem vc_X8_beside {E : am_E} {k : Nat} {x1 : Int} {x2 : Int} {x3 : Int} {x4 : Int} {m : MM} {γ : GM} {t : am_H} {Q : Int → MM → GM → am_H → Prop} (hx1 : rJ x1) (hx2 : rJ x2) (hx3 : rJ x3) (hx4 : rJ x4) (hW : W_X8_beside E k x1 x2 x3 x4 m γ t Q) : TI E (k + 1) 168 [.ref 0, .int (iI x1), .int (iI x2), .int (iI x3), .int (iI x4)] m γ t Q := by
  unfold W_X8_beside at hW
  intro h S
  refine wp_g (n := 2) (pc' := 2) (L' := [some (.ref 0), some (.int (iI x1)), some (.int (iI x2)), some (.int (iI x3)), some (.int (iI x4)), none, none, none, none]) (st' := [.int (iI x1), .ref 0]) rfl ?_
  refine wp_cv (As := [.int (iI x1)]) (rest := []) rfl rfl (S.cell 0 (nc rfl)) (by decide) rfl rfl rfl (Nat.le_of_ble_eq_true rfl) (Nat.le_of_ble_eq_true rfl) (hW _ S) (fun r1 H1 q1 => ?_)
  obtain ⟨o1, m1, γ1, t1, rfl, S, hW⟩ := q1
  cases o1 with
  | none =>
    have hW := hW.1 rfl
    show wp _ _ _ _ _ [.null] _ _
    refine wp_g (n := 3) (pc' := 9) (L' := [some (.ref 0), some (.int (iI x1)), some (.int (iI x2)), some (.int (iI x3)), some (.int (iI x4)), some (.null), none, none, none]) (st' := [.int (iI x2), .ref 0]) rfl ?_
    refine wp_cv (As := [.int (iI x2)]) (rest := []) rfl rfl (S.cell 0 (nc rfl)) (by decide) rfl rfl rfl (Nat.le_of_ble_eq_true rfl) (Nat.le_of_ble_eq_true rfl) (hW _ S) (fun r2 H2 q2 => ?_)
    obtain ⟨o2, m2, γ2, t2, rfl, S, hW⟩ := q2
    cases o2 with
    | none =>
      have hW := hW.1 rfl
      show wp _ _ _ _ _ [.null] _ _
      refine wp_g (n := 2) (pc' := 16) (L' := [some (.ref 0), some (.int (iI x1)), some (.int (iI x2)), some (.int (iI x3)), some (.int (iI x4)), some (.null), some (.null), none, none]) (st' := [.null]) rfl ?_
      refine wp_g (n := 1) (pc' := 39) (L' := [some (.ref 0), some (.int (iI x1)), some (.int (iI x2)), some (.int (iI x3)), some (.int (iI x4)), some (.null), some (.null), none, none]) (st' := []) rfl ?_
      refine wp_g (n := 1) (pc' := 41) (L' := [some (.ref 0), some (.int (iI x1)), some (.int (iI x2)), some (.int (iI x3)), some (.int (iI x4)), some (.null), some (.null), none, none]) (st' := [.int (iI (-2))]) rfl ?_
      exact wp_iret rfl rfl ⟨_, _, _, _, rfl, (by decide), S, hW⟩
    | some a2 =>
      obtain ⟨hg2, hW⟩ := hW.2 _ rfl
      show wp _ _ _ _ _ [.ref a2] _ _
      refine wp_g (n := 2) (pc' := 16) (L' := [some (.ref 0), some (.int (iI x1)), some (.int (iI x2)), some (.int (iI x3)), some (.int (iI x4)), some (.null), some (.ref a2), none, none]) (st' := [.null]) rfl ?_
      refine wp_g (n := 1) (pc' := 39) (L' := [some (.ref 0), some (.int (iI x1)), some (.int (iI x2)), some (.int (iI x3)), some (.int (iI x4)), some (.null), some (.ref a2), none, none]) (st' := []) rfl ?_
      refine wp_g (n := 1) (pc' := 41) (L' := [some (.ref 0), some (.int (iI x1)), some (.int (iI x2)), some (.int (iI x3)), some (.int (iI x4)), some (.null), some (.ref a2), none, none]) (st' := [.int (iI (-2))]) rfl ?_
      exact wp_iret rfl rfl ⟨_, _, _, _, rfl, (by decide), S, hW⟩
  | some a1 =>
    obtain ⟨hg1, hW⟩ := hW.2 _ rfl
    show wp _ _ _ _ _ [.ref a1] _ _
    refine wp_g (n := 3) (pc' := 9) (L' := [some (.ref 0), some (.int (iI x1)), some (.int (iI x2)), some (.int (iI x3)), some (.int (iI x4)), some (.ref a1), none, none, none]) (st' := [.int (iI x2), .ref 0]) rfl ?_
    refine wp_cv (As := [.int (iI x2)]) (rest := []) rfl rfl (S.cell 0 (nc rfl)) (by decide) rfl rfl rfl (Nat.le_of_ble_eq_true rfl) (Nat.le_of_ble_eq_true rfl) (hW _ S) (fun r3 H3 q3 => ?_)
    obtain ⟨o3, m3, γ3, t3, rfl, S, hW⟩ := q3
    cases o3 with
    | none =>
      have hW := hW.1 rfl
      show wp _ _ _ _ _ [.null] _ _
      refine wp_g (n := 2) (pc' := 16) (L' := [some (.ref 0), some (.int (iI x1)), some (.int (iI x2)), some (.int (iI x3)), some (.int (iI x4)), some (.ref a1), some (.null), none, none]) (st' := [.ref a1]) rfl ?_
      refine wp_g (n := 1) (pc' := 19) (L' := [some (.ref 0), some (.int (iI x1)), some (.int (iI x2)), some (.int (iI x3)), some (.int (iI x4)), some (.ref a1), some (.null), none, none]) (st' := []) rfl ?_
      refine wp_g (n := 1) (pc' := 21) (L' := [some (.ref 0), some (.int (iI x1)), some (.int (iI x2)), some (.int (iI x3)), some (.int (iI x4)), some (.ref a1), some (.null), none, none]) (st' := [.null]) rfl ?_
      refine wp_g (n := 1) (pc' := 39) (L' := [some (.ref 0), some (.int (iI x1)), some (.int (iI x2)), some (.int (iI x3)), some (.int (iI x4)), some (.ref a1), some (.null), none, none]) (st' := []) rfl ?_
      refine wp_g (n := 1) (pc' := 41) (L' := [some (.ref 0), some (.int (iI x1)), some (.int (iI x2)), some (.int (iI x3)), some (.int (iI x4)), some (.ref a1), some (.null), none, none]) (st' := [.int (iI (-2))]) rfl ?_
      exact wp_iret rfl rfl ⟨_, _, _, _, rfl, (by decide), S, hW⟩
    | some a3 =>
      obtain ⟨hg3, hW⟩ := hW.2 _ rfl
      show wp _ _ _ _ _ [.ref a3] _ _
      refine wp_g (n := 2) (pc' := 16) (L' := [some (.ref 0), some (.int (iI x1)), some (.int (iI x2)), some (.int (iI x3)), some (.int (iI x4)), some (.ref a1), some (.ref a3), none, none]) (st' := [.ref a1]) rfl ?_
      refine wp_g (n := 1) (pc' := 19) (L' := [some (.ref 0), some (.int (iI x1)), some (.int (iI x2)), some (.int (iI x3)), some (.int (iI x4)), some (.ref a1), some (.ref a3), none, none]) (st' := []) rfl ?_
      refine wp_g (n := 1) (pc' := 21) (L' := [some (.ref 0), some (.int (iI x1)), some (.int (iI x2)), some (.int (iI x3)), some (.int (iI x4)), some (.ref a1), some (.ref a3), none, none]) (st' := [.ref a3]) rfl ?_
      refine wp_g (n := 1) (pc' := 24) (L' := [some (.ref 0), some (.int (iI x1)), some (.int (iI x2)), some (.int (iI x3)), some (.int (iI x4)), some (.ref a1), some (.ref a3), none, none]) (st' := []) rfl ?_
      refine wp_g (n := 1) (pc' := 25) (L' := [some (.ref 0), some (.int (iI x1)), some (.int (iI x2)), some (.int (iI x3)), some (.int (iI x4)), some (.ref a1), some (.ref a3), none, none]) (st' := [.int (iI x3)]) rfl ?_
      refine wp_cs (As := [.int (iI x3)]) (rest := []) rfl rfl rfl rfl (Nat.le_of_ble_eq_true rfl) (Nat.le_of_ble_eq_true rfl) (hW _ S) (fun r4 H4 q4 => ?_)
      obtain ⟨v4, m4, γ4, t4, rfl, hv4, S, hW⟩ := q4
      show wp _ _ _ _ _ [.int (iI v4)] _ _
      refine wp_ifI (a := v4) rfl rfl hv4.1 hv4.2 (fun c5 => ?_) (fun c5 => ?_)
      · have dc5 := c5
        have hW := hW.1 dc5
        refine wp_g (n := 1) (pc' := 41) (L' := [some (.ref 0), some (.int (iI x1)), some (.int (iI x2)), some (.int (iI x3)), some (.int (iI x4)), some (.ref a1), some (.ref a3), none, none]) (st' := [.int (iI (-2))]) rfl ?_
        exact wp_iret rfl rfl ⟨_, _, _, _, rfl, (by decide), S, hW⟩
      · have dc5 := c5
        have hW := hW.2 dc5
        refine wp_g (n := 1) (pc' := 33) (L' := [some (.ref 0), some (.int (iI x1)), some (.int (iI x2)), some (.int (iI x3)), some (.int (iI x4)), some (.ref a1), some (.ref a3), none, none]) (st' := [.int (iI x4)]) rfl ?_
        refine wp_cs (As := [.int (iI x4)]) (rest := []) rfl rfl rfl rfl (Nat.le_of_ble_eq_true rfl) (Nat.le_of_ble_eq_true rfl) (hW _ S) (fun r6 H6 q6 => ?_)
        obtain ⟨v6, m6, γ6, t6, rfl, hv6, S, hW⟩ := q6
        show wp _ _ _ _ _ [.int (iI v6)] _ _
        refine wp_ifI (a := v6) rfl rfl hv6.1 hv6.2 (fun c7 => ?_) (fun c7 => ?_)
        · have dc7 := c7
          have hW := hW.2 dc7
          refine wp_g (n := 1) (pc' := 44) (L' := [some (.ref 0), some (.int (iI x1)), some (.int (iI x2)), some (.int (iI x3)), some (.int (iI x4)), some (.ref a1), some (.ref a3), none, none]) (st' := [.ref a1]) rfl ?_
          refine wp_cv (As := []) (rest := []) rfl rfl (S.gg a1 hg1).obj (isg_lt hg1) rfl rfl rfl (Nat.le_of_ble_eq_true rfl) (Nat.le_of_ble_eq_true rfl) (hW _ S) (fun r8 H8 q8 => ?_)
          obtain ⟨v8, m8, γ8, t8, rfl, hv8, S, hW⟩ := q8
          show wp _ _ _ _ _ [.int (iI v8)] _ _
          refine wp_g (n := 1) (pc' := 49) (L' := [some (.ref 0), some (.int (iI x1)), some (.int (iI x2)), some (.int (iI x3)), some (.int (iI x4)), some (.ref a1), some (.ref a3), none, none]) (st' := [.ref a3, .int (iI v8)]) rfl ?_
          refine wp_cv (As := []) (rest := [.int (iI v8)]) rfl rfl (S.gg a3 hg3).obj (isg_lt hg3) rfl rfl rfl (Nat.le_of_ble_eq_true rfl) (Nat.le_of_ble_eq_true rfl) (hW _ S) (fun r9 H9 q9 => ?_)
          obtain ⟨v9, m9, γ9, t9, rfl, hv9, S, hW⟩ := q9
          show wp _ _ _ _ _ [.int (iI v9), .int (iI v8)] _ _
          refine wp_add (a := v8) (b := v9) rfl ?_
          refine wp_g (n := 3) (pc' := 58) (L' := [some (.ref 0), some (.int (iI x1)), some (.int (iI x2)), some (.int (iI x3)), some (.int (iI x4)), some (.ref a1), some (.ref a3), some (.int (iI (v8 + v9))), none]) (st' := [.int (iI 4), .int (iI (v8 + v9))]) rfl ?_
          obtain ⟨p10, hW⟩ := hW
          refine wp_icmpI (a := (v8 + v9)) (b := 4) rfl rfl p10.1 p10.2 (by decide) (by decide) (fun c11 => ?_) (fun c11 => ?_)
          · have dc11 := c11
            have hW := hW.1 dc11
            refine wp_g (n := 1) (pc' := 66) (L' := [some (.ref 0), some (.int (iI x1)), some (.int (iI x2)), some (.int (iI x3)), some (.int (iI x4)), some (.ref a1), some (.ref a3), some (.int (iI (v8 + v9))), none]) (st' := [.ref a1]) rfl ?_
            refine wp_cv (As := []) (rest := []) rfl rfl (S.gg a1 hg1).obj (isg_lt hg1) rfl rfl rfl (Nat.le_of_ble_eq_true rfl) (Nat.le_of_ble_eq_true rfl) (hW _ S) (fun r12 H12 q12 => ?_)
            obtain ⟨v12, m12, γ12, t12, rfl, hv12, S, hW⟩ := q12
            show wp _ _ _ _ _ [.int (iI v12)] _ _
            refine wp_g (n := 1) (pc' := 71) (L' := [some (.ref 0), some (.int (iI x1)), some (.int (iI x2)), some (.int (iI x3)), some (.int (iI x4)), some (.ref a1), some (.ref a3), some (.int (iI (v8 + v9))), none]) (st' := [.ref a3, .int (iI v12)]) rfl ?_
            refine wp_cv (As := []) (rest := [.int (iI v12)]) rfl rfl (S.gg a3 hg3).obj (isg_lt hg3) rfl rfl rfl (Nat.le_of_ble_eq_true rfl) (Nat.le_of_ble_eq_true rfl) (hW _ S) (fun r13 H13 q13 => ?_)
            obtain ⟨v13, m13, γ13, t13, rfl, hv13, S, hW⟩ := q13
            show wp _ _ _ _ _ [.int (iI v13), .int (iI v12)] _ _
            refine wp_icmpI (a := v12) (b := v13) rfl rfl hv12.1 hv12.2 hv13.1 hv13.2 (fun c14 => ?_) (fun c14 => ?_)
            · have dc14 := c14
              have hW := hW.1 dc14
              refine wp_g (n := 1) (pc' := 81) (L' := [some (.ref 0), some (.int (iI x1)), some (.int (iI x2)), some (.int (iI x3)), some (.int (iI x4)), some (.ref a1), some (.ref a3), some (.int (iI (v8 + v9))), none]) (st' := [.ref 0]) rfl ?_
              refine wp_getf (v := .ref 2) rfl rfl (S.cell 0 (nc rfl)) (by decide) rfl ?_
              refine wp_g (n := 1) (pc' := 86) (L' := [some (.ref 0), some (.int (iI x1)), some (.int (iI x2)), some (.int (iI x3)), some (.int (iI x4)), some (.ref a1), some (.ref a3), some (.int (iI (v8 + v9))), none]) (st' := [.ref a1, .ref 2]) rfl ?_
              refine wp_cv (As := []) (rest := [.ref 2]) rfl rfl (S.gg a1 hg1).obj (isg_lt hg1) rfl rfl rfl (Nat.le_of_ble_eq_true rfl) (Nat.le_of_ble_eq_true rfl) (hW _ S) (fun r15 H15 q15 => ?_)
              obtain ⟨v15, m15, γ15, t15, rfl, hv15, S, hW⟩ := q15
              show wp _ _ _ _ _ [.int (iI v15), .ref 2] _ _
              refine wp_g (n := 1) (pc' := 91) (L' := [some (.ref 0), some (.int (iI x1)), some (.int (iI x2)), some (.int (iI x3)), some (.int (iI x4)), some (.ref a1), some (.ref a3), some (.int (iI (v8 + v9))), none]) (st' := [.int (iI (v8 + v9)), .int (iI v15), .ref 2]) rfl ?_
              refine wp_cv (As := [.int (iI v15), .int (iI (v8 + v9))]) (rest := []) rfl rfl (S.gg 2 (gi rfl)).obj (by decide) rfl rfl rfl (Nat.le_of_ble_eq_true rfl) (Nat.le_of_ble_eq_true rfl) (hW _ S) (fun r16 H16 q16 => ?_)
              obtain ⟨m16, γ16, t16, rfl, S, hW⟩ := q16
              show wp _ _ _ _ _ [] _ _
              refine wp_g (n := 1) (pc' := 95) (L' := [some (.ref 0), some (.int (iI x1)), some (.int (iI x2)), some (.int (iI x3)), some (.int (iI x4)), some (.ref a1), some (.ref a3), some (.int (iI (v8 + v9))), none]) (st' := [.ref 0]) rfl ?_
              refine wp_getf (v := .ref 2) rfl rfl (S.cell 0 (nc rfl)) (by decide) rfl ?_
              refine wp_g (n := 2) (pc' := 101) (L' := [some (.ref 0), some (.int (iI x1)), some (.int (iI x2)), some (.int (iI x3)), some (.int (iI x4)), some (.ref a1), some (.ref a3), some (.int (iI (v8 + v9))), none]) (st' := [.int (iI 0), .ref a1, .ref 2]) rfl ?_
              refine wp_cv (As := [.ref a1, .int (iI 0)]) (rest := []) rfl rfl (S.gg 2 (gi rfl)).obj (by decide) rfl rfl rfl (Nat.le_of_ble_eq_true rfl) (Nat.le_of_ble_eq_true rfl) (hW _ S) (fun r17 H17 q17 => ?_)
              obtain ⟨m17, γ17, t17, rfl, S, hW⟩ := q17
              show wp _ _ _ _ _ [] _ _
              refine wp_g (n := 1) (pc' := 105) (L' := [some (.ref 0), some (.int (iI x1)), some (.int (iI x2)), some (.int (iI x3)), some (.int (iI x4)), some (.ref a1), some (.ref a3), some (.int (iI (v8 + v9))), none]) (st' := [.ref 0]) rfl ?_
              refine wp_getf (v := .ref 2) rfl rfl (S.cell 0 (nc rfl)) (by decide) rfl ?_
              refine wp_g (n := 2) (pc' := 112) (L' := [some (.ref 0), some (.int (iI x1)), some (.int (iI x2)), some (.int (iI x3)), some (.int (iI x4)), some (.ref a1), some (.ref a3), some (.int (iI (v8 + v9))), none]) (st' := [.ref a1, .ref a3, .ref 2]) rfl ?_
              refine wp_cv (As := []) (rest := [.ref a3, .ref 2]) rfl rfl (S.gg a1 hg1).obj (isg_lt hg1) rfl rfl rfl (Nat.le_of_ble_eq_true rfl) (Nat.le_of_ble_eq_true rfl) (hW _ S) (fun r18 H18 q18 => ?_)
              obtain ⟨v18, m18, γ18, t18, rfl, hv18, S, hW⟩ := q18
              show wp _ _ _ _ _ [.int (iI v18), .ref a3, .ref 2] _ _
              refine wp_cv (As := [.ref a3, .int (iI v18)]) (rest := []) rfl rfl (S.gg 2 (gi rfl)).obj (by decide) rfl rfl rfl (Nat.le_of_ble_eq_true rfl) (Nat.le_of_ble_eq_true rfl) (hW _ S) (fun r19 H19 q19 => ?_)
              obtain ⟨m19, γ19, t19, rfl, S, hW⟩ := q19
              show wp _ _ _ _ _ [] _ _
              refine wp_g (n := 2) (pc' := 121) (L' := [some (.ref 0), some (.int (iI x1)), some (.int (iI x2)), some (.int (iI x3)), some (.int (iI x4)), some (.ref a1), some (.ref a3), some (.int (iI (v8 + v9))), some (.int (iI 0))]) (st' := []) rfl ?_
              exact hW (some (.int (iI x1))) (some (.int (iI x2))) (some (.ref a3)) _ S
            · have dc14 := c14
              have hW := hW.2 dc14
              refine wp_g (n := 1) (pc' := 79) (L' := [some (.ref 0), some (.int (iI x1)), some (.int (iI x2)), some (.int (iI x3)), some (.int (iI x4)), some (.ref a1), some (.ref a3), some (.int (iI (v8 + v9))), none]) (st' := [.int (iI (-6))]) rfl ?_
              exact wp_iret rfl rfl ⟨_, _, _, _, rfl, (by decide), S, hW⟩
          · have dc11 := c11
            have hW := hW.2 dc11
            refine wp_g (n := 1) (pc' := 63) (L' := [some (.ref 0), some (.int (iI x1)), some (.int (iI x2)), some (.int (iI x3)), some (.int (iI x4)), some (.ref a1), some (.ref a3), some (.int (iI (v8 + v9))), none]) (st' := [.int (iI (-5))]) rfl ?_
            exact wp_iret rfl rfl ⟨_, _, _, _, rfl, (by decide), S, hW⟩
        · have dc7 := (Classical.not_not.mp c7)
          have hW := hW.1 dc7
          refine wp_g (n := 1) (pc' := 41) (L' := [some (.ref 0), some (.int (iI x1)), some (.int (iI x2)), some (.int (iI x3)), some (.int (iI x4)), some (.ref a1), some (.ref a3), none, none]) (st' := [.int (iI (-2))]) rfl ?_
          exact wp_iret rfl rfl ⟨_, _, _, _, rfl, (by decide), S, hW⟩
theorem vc_X8_beside_121 {E : am_E} {k : Nat} {x1 : Int} {x2 : Int} {x3 : Int} {x4 : Int} {y3 : Int} {y4 : Int} {y5 : Nat} {y7 : Int} {y8 : Int} {m : MM} {γ : GM} {t : am_H} {Q : Int → MM → GM → am_H → Prop} (hx1 : rJ x1) (hx2 : rJ x2) (hx3 : rJ x3) (hx4 : rJ x4) (hy3 : rJ y3) (hy4 : rJ y4) (hy5 : isg y5) (hy7 : rJ y7) (hy8 : rJ y8) (hW : W_X8_beside_121 E k x1 x2 x3 x4 y3 y4 y5 y7 y8 m γ t Q) : hd_X8_beside_121 E k x1 x2 x3 x4 y3 y4 y5 y7 y8 m γ t Q := by
  unfold W_X8_beside_121 at hW
  intro z1 z2 z6 h S
  refine wp_g (n := 2) (pc' := 124) (L' := [some (.ref 0), z1, z2, some (.int (iI y3)), some (.int (iI y4)), some (.ref y5), z6, some (.int (iI y7)), some (.int (iI y8))]) (st' := [.ref 0, .int (iI y8)]) rfl ?_
  refine wp_getf (v := .ref 2) rfl rfl (S.cell 0 (nc rfl)) (by decide) rfl ?_
  refine wp_cv (As := []) (rest := [.int (iI y8)]) rfl rfl (S.gg 2 (gi rfl)).obj (by decide) rfl rfl rfl (Nat.le_of_ble_eq_true rfl) (Nat.le_of_ble_eq_true rfl) (hW _ S) (fun r1 H1 q1 => ?_)
  obtain ⟨v1, m1, γ1, t1, rfl, hv1, S, hW⟩ := q1
  show wp _ _ _ _ _ [.int (iI v1), .int (iI y8)] _ _
  refine wp_icmpI (a := y8) (b := v1) rfl rfl hy8.1 hy8.2 hv1.1 hv1.2 (fun c2 => ?_) (fun c2 => ?_)
  · have dc2 := (Int.not_lt.mpr c2)
    have hW := hW.2 dc2
    refine wp_g (n := 2) (pc' := 171) (L' := [some (.ref 0), z1, z2, some (.int (iI y3)), some (.int (iI y4)), some (.ref y5), z6, some (.int (iI y7)), some (.int (iI y8))]) (st' := [.int (iI y4), .ref 0]) rfl ?_
    refine wp_cv (As := [.int (iI y4)]) (rest := []) rfl rfl (S.cell 0 (nc rfl)) (by decide) rfl rfl rfl (Nat.le_of_ble_eq_true rfl) (Nat.le_of_ble_eq_true rfl) (hW _ S) (fun r3 H3 q3 => ?_)
    obtain ⟨m3, γ3, t3, rfl, S, hW⟩ := q3
    show wp _ _ _ _ _ [] _ _
    refine wp_g (n := 1) (pc' := 176) (L' := [some (.ref 0), z1, z2, some (.int (iI y3)), some (.int (iI y4)), some (.ref y5), z6, some (.int (iI y7)), some (.int (iI y8))]) (st' := [.int (iI y7)]) rfl ?_
    exact wp_iret rfl rfl ⟨_, _, _, _, rfl, hy7, S, hW⟩
  · have dc2 := (Int.not_le.mp c2)
    have hW := hW.1 dc2
    refine wp_g (n := 1) (pc' := 134) (L' := [some (.ref 0), z1, z2, some (.int (iI y3)), some (.int (iI y4)), some (.ref y5), z6, some (.int (iI y7)), some (.int (iI y8))]) (st' := [.ref 0]) rfl ?_
    refine wp_getf (v := .ref 2) rfl rfl (S.cell 0 (nc rfl)) (by decide) rfl ?_
    refine wp_g (n := 1) (pc' := 138) (L' := [some (.ref 0), z1, z2, some (.int (iI y3)), some (.int (iI y4)), some (.ref y5), z6, some (.int (iI y7)), some (.int (iI y8))]) (st' := [.ref 0, .ref 2]) rfl ?_
    refine wp_getf (v := .ref 2) rfl rfl (S.cell 0 (nc rfl)) (by decide) rfl ?_
    refine wp_g (n := 2) (pc' := 145) (L' := [some (.ref 0), z1, z2, some (.int (iI y3)), some (.int (iI y4)), some (.ref y5), z6, some (.int (iI y7)), some (.int (iI y8))]) (st' := [.int (iI y7), .int (iI y8), .ref 2, .ref 2]) rfl ?_
    refine wp_mul (a := y8) (b := y7) rfl ?_
    refine wp_g (n := 1) (pc' := 148) (L' := [some (.ref 0), z1, z2, some (.int (iI y3)), some (.int (iI y4)), some (.ref y5), z6, some (.int (iI y7)), some (.int (iI y8))]) (st' := [.ref y5, .int (iI (y8 * y7)), .ref 2, .ref 2]) rfl ?_
    refine wp_cv (As := []) (rest := [.int (iI (y8 * y7)), .ref 2, .ref 2]) rfl rfl (S.gg y5 hy5).obj (isg_lt hy5) rfl rfl rfl (Nat.le_of_ble_eq_true rfl) (Nat.le_of_ble_eq_true rfl) (hW _ S) (fun r4 H4 q4 => ?_)
    obtain ⟨v4, m4, γ4, t4, rfl, hv4, S, hW⟩ := q4
    show wp _ _ _ _ _ [.int (iI v4), .int (iI (y8 * y7)), .ref 2, .ref 2] _ _
    refine wp_add (a := (y8 * y7)) (b := v4) rfl ?_
    refine wp_g (n := 1) (pc' := 153) (L' := [some (.ref 0), z1, z2, some (.int (iI y3)), some (.int (iI y4)), some (.ref y5), z6, some (.int (iI y7)), some (.int (iI y8))]) (st' := [.int (iI 1), .int (iI ((y8 * y7) + v4)), .ref 2, .ref 2]) rfl ?_
    refine wp_sub (a := ((y8 * y7) + v4)) (b := 1) rfl ?_
    refine wp_g (n := 1) (pc' := 155) (L' := [some (.ref 0), z1, z2, some (.int (iI y3)), some (.int (iI y4)), some (.ref y5), z6, some (.int (iI y7)), some (.int (iI y8))]) (st' := [.int (iI 0), .int (iI (((y8 * y7) + v4) - 1)), .ref 2, .ref 2]) rfl ?_
    refine wp_cv (As := [.int (iI (((y8 * y7) + v4) - 1)), .int (iI 0)]) (rest := [.ref 2]) rfl rfl (S.gg 2 (gi rfl)).obj (by decide) rfl rfl rfl (Nat.le_of_ble_eq_true rfl) (Nat.le_of_ble_eq_true rfl) (hW _ S) (fun r5 H5 q5 => ?_)
    obtain ⟨v5, m5, γ5, t5, rfl, hv5, S, hW⟩ := q5
    show wp _ _ _ _ _ [.int (iI v5), .ref 2] _ _
    refine wp_g (n := 1) (pc' := 159) (L' := [some (.ref 0), z1, z2, some (.int (iI y3)), some (.int (iI y4)), some (.ref y5), z6, some (.int (iI y7)), some (.int (iI y8))]) (st' := [.int (iI y3), .int (iI v5), .ref 2]) rfl ?_
    refine wp_cv (As := [.int (iI v5), .int (iI y3)]) (rest := []) rfl rfl (S.gg 2 (gi rfl)).obj (by decide) rfl rfl rfl (Nat.le_of_ble_eq_true rfl) (Nat.le_of_ble_eq_true rfl) (hW _ S) (fun r6 H6 q6 => ?_)
    obtain ⟨m6, γ6, t6, rfl, S, hW⟩ := q6
    show wp _ _ _ _ _ [] _ _
    refine wp_iinc (L' := [some (.ref 0), z1, z2, some (.int (iI y3)), some (.int (iI y4)), some (.ref y5), z6, some (.int (iI y7)), some (.int (iI (y8 + 1)))]) (a := y8) rfl rfl rfl ?_
    refine wp_g (n := 1) (pc' := 121) (L' := [some (.ref 0), z1, z2, some (.int (iI y3)), some (.int (iI y4)), some (.ref y5), z6, some (.int (iI y7)), some (.int (iI (y8 + 1)))]) (st' := []) rfl ?_
    exact hW z1 z2 z6 _ S
def hd_X8_alike_36 (E : am_E) (k : Nat) (x1 : Int) (x2 : Int) (y4 : Nat) (y5 : Int) (m : MM) (γ : GM) (t : am_H) (Q : Int → MM → GM → am_H → Prop) : Prop := ∀ (z1 z2 z3 : Option Value), TT (pI Q) E (k + 1) 169 36 [some (.ref 0), z1, z2, z3, some (.ref y4), some (.int (iI y5))] [] m γ t
abbrev W_X8_alike (E : am_E) (k : Nat) (x1 : Int) (x2 : Int) (m : MM) (γ : GM) (t : am_H) (Q : Int → MM → GM → am_H → Prop) : Prop := (TA E k 184 [.ref 0, .int (iI x1)] m γ t (fun o1 m1 γ1 t1 => ((o1 = none → (TA E k 184 [.ref 0, .int (iI x2)] m1 γ1 t1 (fun o2 m2 γ2 t2 => ((o2 = none → (Q (-2) m2 γ2 t2)) ∧ (∀ a2, o2 = some a2 → (isg a2 ∧ (Q (-2) m2 γ2 t2))))))) ∧ (∀ a1, o1 = some a1 → (isg a1 ∧ (TA E k 184 [.ref 0, .int (iI x2)] m1 γ1 t1 (fun o3 m3 γ3 t3 => ((o3 = none → (Q (-2) m3 γ3 t3)) ∧ (∀ a3, o3 = some a3 → (isg a3 ∧ (TV E k 44 [.ref 2, .ref a1] m3 γ3 t3 (fun m4 γ4 t4 => (hd_X8_alike_36 E k x1 x2 a3 0 m4 γ4 t4 Q)))))))))))))
abbrev W_X8_alike_36 (E : am_E) (k : Nat) (x1 : Int) (x2 : Int) (y4 : Nat) (y5 : Int) (m : MM) (γ : GM) (t : am_H) (Q : Int → MM → GM → am_H → Prop) : Prop := (((y5 < 8) → (TI E k 43 [.ref 2, .ref y4] m γ t (fun v2 m2 γ2 t2 => (((v2 = 0) → (((y5 = 3) → (TV E k 47 [.ref 6, .ref 2] m2 γ2 t2 (fun m7 γ7 t7 => (TV E k 44 [.ref 2, .ref 6] m7 γ7 t7 (fun m8 γ8 t8 => (hd_X8_alike_36 E k x1 x2 y4 (y5 + 1) m8 γ8 t8 Q)))))) ∧ (¬ (y5 = 3) → (TV E k 46 [.ref 6, .ref 2] m2 γ2 t2 (fun m5 γ5 t5 => (TV E k 44 [.ref 2, .ref 6] m5 γ5 t5 (fun m6 γ6 t6 => (hd_X8_alike_36 E k x1 x2 y4 (y5 + 1) m6 γ6 t6 Q)))))))) ∧ (¬ (v2 = 0) → (Q 1 m2 γ2 t2)))))) ∧ (¬ (y5 < 8) → (Q 0 m γ t)))
theorem vc_X8_alike {E : am_E} {k : Nat} {x1 : Int} {x2 : Int} {m : MM} {γ : GM} {t : am_H} {Q : Int → MM → GM → am_H → Prop} (hx1 : rJ x1) (hx2 : rJ x2) (hW : W_X8_alike E k x1 x2 m γ t Q) : TI E (k + 1) 169 [.ref 0, .int (iI x1), .int (iI x2)] m γ t Q := by
  unfold W_X8_alike at hW
  intro h S
  refine wp_g (n := 2) (pc' := 2) (L' := [some (.ref 0), some (.int (iI x1)), some (.int (iI x2)), none, none, none]) (st' := [.int (iI x1), .ref 0]) rfl ?_
  refine wp_cv (As := [.int (iI x1)]) (rest := []) rfl rfl (S.cell 0 (nc rfl)) (by decide) rfl rfl rfl (Nat.le_of_ble_eq_true rfl) (Nat.le_of_ble_eq_true rfl) (hW _ S) (fun r1 H1 q1 => ?_)
  obtain ⟨o1, m1, γ1, t1, rfl, S, hW⟩ := q1
  cases o1 with
  | none =>
    have hW := hW.1 rfl
    show wp _ _ _ _ _ [.null] _ _
    refine wp_g (n := 3) (pc' := 8) (L' := [some (.ref 0), some (.int (iI x1)), some (.int (iI x2)), some (.null), none, none]) (st' := [.int (iI x2), .ref 0]) rfl ?_
    refine wp_cv (As := [.int (iI x2)]) (rest := []) rfl rfl (S.cell 0 (nc rfl)) (by decide) rfl rfl rfl (Nat.le_of_ble_eq_true rfl) (Nat.le_of_ble_eq_true rfl) (hW _ S) (fun r2 H2 q2 => ?_)
    obtain ⟨o2, m2, γ2, t2, rfl, S, hW⟩ := q2
    cases o2 with
    | none =>
      have hW := hW.1 rfl
      show wp _ _ _ _ _ [.null] _ _
      refine wp_g (n := 2) (pc' := 14) (L' := [some (.ref 0), some (.int (iI x1)), some (.int (iI x2)), some (.null), some (.null), none]) (st' := [.null]) rfl ?_
      refine wp_g (n := 1) (pc' := 22) (L' := [some (.ref 0), some (.int (iI x1)), some (.int (iI x2)), some (.null), some (.null), none]) (st' := []) rfl ?_
      refine wp_g (n := 1) (pc' := 24) (L' := [some (.ref 0), some (.int (iI x1)), some (.int (iI x2)), some (.null), some (.null), none]) (st' := [.int (iI (-2))]) rfl ?_
      exact wp_iret rfl rfl ⟨_, _, _, _, rfl, (by decide), S, hW⟩
    | some a2 =>
      obtain ⟨hg2, hW⟩ := hW.2 _ rfl
      show wp _ _ _ _ _ [.ref a2] _ _
      refine wp_g (n := 2) (pc' := 14) (L' := [some (.ref 0), some (.int (iI x1)), some (.int (iI x2)), some (.null), some (.ref a2), none]) (st' := [.null]) rfl ?_
      refine wp_g (n := 1) (pc' := 22) (L' := [some (.ref 0), some (.int (iI x1)), some (.int (iI x2)), some (.null), some (.ref a2), none]) (st' := []) rfl ?_
      refine wp_g (n := 1) (pc' := 24) (L' := [some (.ref 0), some (.int (iI x1)), some (.int (iI x2)), some (.null), some (.ref a2), none]) (st' := [.int (iI (-2))]) rfl ?_
      exact wp_iret rfl rfl ⟨_, _, _, _, rfl, (by decide), S, hW⟩
  | some a1 =>
    obtain ⟨hg1, hW⟩ := hW.2 _ rfl
    show wp _ _ _ _ _ [.ref a1] _ _
    refine wp_g (n := 3) (pc' := 8) (L' := [some (.ref 0), some (.int (iI x1)), some (.int (iI x2)), some (.ref a1), none, none]) (st' := [.int (iI x2), .ref 0]) rfl ?_
    refine wp_cv (As := [.int (iI x2)]) (rest := []) rfl rfl (S.cell 0 (nc rfl)) (by decide) rfl rfl rfl (Nat.le_of_ble_eq_true rfl) (Nat.le_of_ble_eq_true rfl) (hW _ S) (fun r3 H3 q3 => ?_)
    obtain ⟨o3, m3, γ3, t3, rfl, S, hW⟩ := q3
    cases o3 with
    | none =>
      have hW := hW.1 rfl
      show wp _ _ _ _ _ [.null] _ _
      refine wp_g (n := 2) (pc' := 14) (L' := [some (.ref 0), some (.int (iI x1)), some (.int (iI x2)), some (.ref a1), some (.null), none]) (st' := [.ref a1]) rfl ?_
      refine wp_g (n := 1) (pc' := 17) (L' := [some (.ref 0), some (.int (iI x1)), some (.int (iI x2)), some (.ref a1), some (.null), none]) (st' := []) rfl ?_
      refine wp_g (n := 1) (pc' := 19) (L' := [some (.ref 0), some (.int (iI x1)), some (.int (iI x2)), some (.ref a1), some (.null), none]) (st' := [.null]) rfl ?_
      refine wp_g (n := 1) (pc' := 22) (L' := [some (.ref 0), some (.int (iI x1)), some (.int (iI x2)), some (.ref a1), some (.null), none]) (st' := []) rfl ?_
      refine wp_g (n := 1) (pc' := 24) (L' := [some (.ref 0), some (.int (iI x1)), some (.int (iI x2)), some (.ref a1), some (.null), none]) (st' := [.int (iI (-2))]) rfl ?_
      exact wp_iret rfl rfl ⟨_, _, _, _, rfl, (by decide), S, hW⟩
    | some a3 =>
      obtain ⟨hg3, hW⟩ := hW.2 _ rfl
      show wp _ _ _ _ _ [.ref a3] _ _
      refine wp_g (n := 2) (pc' := 14) (L' := [some (.ref 0), some (.int (iI x1)), some (.int (iI x2)), some (.ref a1), some (.ref a3), none]) (st' := [.ref a1]) rfl ?_
      refine wp_g (n := 1) (pc' := 17) (L' := [some (.ref 0), some (.int (iI x1)), some (.int (iI x2)), some (.ref a1), some (.ref a3), none]) (st' := []) rfl ?_
      refine wp_g (n := 1) (pc' := 19) (L' := [some (.ref 0), some (.int (iI x1)), some (.int (iI x2)), some (.ref a1), some (.ref a3), none]) (st' := [.ref a3]) rfl ?_
      refine wp_g (n := 1) (pc' := 25) (L' := [some (.ref 0), some (.int (iI x1)), some (.int (iI x2)), some (.ref a1), some (.ref a3), none]) (st' := []) rfl ?_
      refine wp_g (n := 1) (pc' := 26) (L' := [some (.ref 0), some (.int (iI x1)), some (.int (iI x2)), some (.ref a1), some (.ref a3), none]) (st' := [.ref 0]) rfl ?_
      refine wp_getf (v := .ref 2) rfl rfl (S.cell 0 (nc rfl)) (by decide) rfl ?_
      refine wp_g (n := 1) (pc' := 30) (L' := [some (.ref 0), some (.int (iI x1)), some (.int (iI x2)), some (.ref a1), some (.ref a3), none]) (st' := [.ref a1, .ref 2]) rfl ?_
      refine wp_cv (As := [.ref a1]) (rest := []) rfl rfl (S.gg 2 (gi rfl)).obj (by decide) rfl rfl rfl (Nat.le_of_ble_eq_true rfl) (Nat.le_of_ble_eq_true rfl) (hW _ S) (fun r4 H4 q4 => ?_)
      obtain ⟨m4, γ4, t4, rfl, S, hW⟩ := q4
      show wp _ _ _ _ _ [] _ _
      refine wp_g (n := 2) (pc' := 36) (L' := [some (.ref 0), some (.int (iI x1)), some (.int (iI x2)), some (.ref a1), some (.ref a3), some (.int (iI 0))]) (st' := []) rfl ?_
      exact hW (some (.int (iI x1))) (some (.int (iI x2))) (some (.ref a1)) _ S
theorem vc_X8_alike_36 {E : am_E} {k : Nat} {x1 : Int} {x2 : Int} {y4 : Nat} {y5 : Int} {m : MM} {γ : GM} {t : am_H} {Q : Int → MM → GM → am_H → Prop} (hx1 : rJ x1) (hx2 : rJ x2) (hy4 : isg y4) (hy5 : rJ y5) (hW : W_X8_alike_36 E k x1 x2 y4 y5 m γ t Q) : hd_X8_alike_36 E k x1 x2 y4 y5 m γ t Q := by
  unfold W_X8_alike_36 at hW
  intro z1 z2 z3 h S
  refine wp_g (n := 2) (pc' := 40) (L' := [some (.ref 0), z1, z2, z3, some (.ref y4), some (.int (iI y5))]) (st' := [.int (iI 8), .int (iI y5)]) rfl ?_
  refine wp_icmpI (a := y5) (b := 8) rfl rfl hy5.1 hy5.2 (by decide) (by decide) (fun c1 => ?_) (fun c1 => ?_)
  · have dc1 := (Int.not_lt.mpr c1)
    have hW := hW.2 dc1
    refine wp_g (n := 1) (pc' := 106) (L' := [some (.ref 0), z1, z2, z3, some (.ref y4), some (.int (iI y5))]) (st' := [.int (iI 0)]) rfl ?_
    exact wp_iret rfl rfl ⟨_, _, _, _, rfl, (by decide), S, hW⟩
  · have dc1 := (Int.not_le.mp c1)
    have hW := hW.1 dc1
    refine wp_g (n := 1) (pc' := 44) (L' := [some (.ref 0), z1, z2, z3, some (.ref y4), some (.int (iI y5))]) (st' := [.ref 0]) rfl ?_
    refine wp_getf (v := .ref 2) rfl rfl (S.cell 0 (nc rfl)) (by decide) rfl ?_
    refine wp_g (n := 1) (pc' := 49) (L' := [some (.ref 0), z1, z2, z3, some (.ref y4), some (.int (iI y5))]) (st' := [.ref y4, .ref 2]) rfl ?_
    refine wp_cv (As := [.ref y4]) (rest := []) rfl rfl (S.gg 2 (gi rfl)).obj (by decide) rfl rfl rfl (Nat.le_of_ble_eq_true rfl) (Nat.le_of_ble_eq_true rfl) (hW _ S) (fun r2 H2 q2 => ?_)
    obtain ⟨v2, m2, γ2, t2, rfl, hv2, S, hW⟩ := q2
    show wp _ _ _ _ _ [.int (iI v2)] _ _
    refine wp_ifI (a := v2) rfl rfl hv2.1 hv2.2 (fun c3 => ?_) (fun c3 => ?_)
    · have dc3 := c3
      have hW := hW.1 dc3
      refine wp_g (n := 2) (pc' := 60) (L' := [some (.ref 0), z1, z2, z3, some (.ref y4), some (.int (iI y5))]) (st' := [.int (iI 3), .int (iI y5)]) rfl ?_
      refine wp_icmpI (a := y5) (b := 3) rfl rfl hy5.1 hy5.2 (by decide) (by decide) (fun c4 => ?_) (fun c4 => ?_)
      · have dc4 := c4
        have hW := hW.2 dc4
        refine wp_g (n := 1) (pc' := 78) (L' := [some (.ref 0), z1, z2, z3, some (.ref y4), some (.int (iI y5))]) (st' := [.ref 0]) rfl ?_
        refine wp_getf (v := .ref 6) rfl rfl (S.cell 0 (nc rfl)) (by decide) rfl ?_
        refine wp_g (n := 1) (pc' := 82) (L' := [some (.ref 0), z1, z2, z3, some (.ref y4), some (.int (iI y5))]) (st' := [.ref 0, .ref 6]) rfl ?_
        refine wp_getf (v := .ref 2) rfl rfl (S.cell 0 (nc rfl)) (by decide) rfl ?_
        refine wp_cv (As := [.ref 2]) (rest := []) rfl rfl (S.gg 6 (gi rfl)).obj (by decide) rfl rfl rfl (Nat.le_of_ble_eq_true rfl) (Nat.le_of_ble_eq_true rfl) (hW _ S) (fun r5 H5 q5 => ?_)
        obtain ⟨m5, γ5, t5, rfl, S, hW⟩ := q5
        show wp _ _ _ _ _ [] _ _
        refine wp_g (n := 1) (pc' := 89) (L' := [some (.ref 0), z1, z2, z3, some (.ref y4), some (.int (iI y5))]) (st' := [.ref 0]) rfl ?_
        refine wp_getf (v := .ref 2) rfl rfl (S.cell 0 (nc rfl)) (by decide) rfl ?_
        refine wp_g (n := 1) (pc' := 93) (L' := [some (.ref 0), z1, z2, z3, some (.ref y4), some (.int (iI y5))]) (st' := [.ref 0, .ref 2]) rfl ?_
        refine wp_getf (v := .ref 6) rfl rfl (S.cell 0 (nc rfl)) (by decide) rfl ?_
        refine wp_cv (As := [.ref 6]) (rest := []) rfl rfl (S.gg 2 (gi rfl)).obj (by decide) rfl rfl rfl (Nat.le_of_ble_eq_true rfl) (Nat.le_of_ble_eq_true rfl) (hW _ S) (fun r6 H6 q6 => ?_)
        obtain ⟨m6, γ6, t6, rfl, S, hW⟩ := q6
        show wp _ _ _ _ _ [] _ _
        refine wp_iinc (L' := [some (.ref 0), z1, z2, z3, some (.ref y4), some (.int (iI (y5 + 1)))]) (a := y5) rfl rfl rfl ?_
        refine wp_g (n := 1) (pc' := 36) (L' := [some (.ref 0), z1, z2, z3, some (.ref y4), some (.int (iI (y5 + 1)))]) (st' := []) rfl ?_
        exact hW z1 z2 z3 _ S
      · have dc4 := (Classical.not_not.mp c4)
        have hW := hW.1 dc4
        refine wp_g (n := 1) (pc' := 64) (L' := [some (.ref 0), z1, z2, z3, some (.ref y4), some (.int (iI y5))]) (st' := [.ref 0]) rfl ?_
        refine wp_getf (v := .ref 6) rfl rfl (S.cell 0 (nc rfl)) (by decide) rfl ?_
        refine wp_g (n := 1) (pc' := 68) (L' := [some (.ref 0), z1, z2, z3, some (.ref y4), some (.int (iI y5))]) (st' := [.ref 0, .ref 6]) rfl ?_
        refine wp_getf (v := .ref 2) rfl rfl (S.cell 0 (nc rfl)) (by decide) rfl ?_
        refine wp_cv (As := [.ref 2]) (rest := []) rfl rfl (S.gg 6 (gi rfl)).obj (by decide) rfl rfl rfl (Nat.le_of_ble_eq_true rfl) (Nat.le_of_ble_eq_true rfl) (hW _ S) (fun r7 H7 q7 => ?_)
        obtain ⟨m7, γ7, t7, rfl, S, hW⟩ := q7
        show wp _ _ _ _ _ [] _ _
        refine wp_g (n := 2) (pc' := 89) (L' := [some (.ref 0), z1, z2, z3, some (.ref y4), some (.int (iI y5))]) (st' := [.ref 0]) rfl ?_
        refine wp_getf (v := .ref 2) rfl rfl (S.cell 0 (nc rfl)) (by decide) rfl ?_
        refine wp_g (n := 1) (pc' := 93) (L' := [some (.ref 0), z1, z2, z3, some (.ref y4), some (.int (iI y5))]) (st' := [.ref 0, .ref 2]) rfl ?_
        refine wp_getf (v := .ref 6) rfl rfl (S.cell 0 (nc rfl)) (by decide) rfl ?_
        refine wp_cv (As := [.ref 6]) (rest := []) rfl rfl (S.gg 2 (gi rfl)).obj (by decide) rfl rfl rfl (Nat.le_of_ble_eq_true rfl) (Nat.le_of_ble_eq_true rfl) (hW _ S) (fun r8 H8 q8 => ?_)
        obtain ⟨m8, γ8, t8, rfl, S, hW⟩ := q8
        show wp _ _ _ _ _ [] _ _
        refine wp_iinc (L' := [some (.ref 0), z1, z2, z3, some (.ref y4), some (.int (iI (y5 + 1)))]) (a := y5) rfl rfl rfl ?_
        refine wp_g (n := 1) (pc' := 36) (L' := [some (.ref 0), z1, z2, z3, some (.ref y4), some (.int (iI (y5 + 1)))]) (st' := []) rfl ?_
        exact hW z1 z2 z3 _ S
    · have dc3 := c3
      have hW := hW.2 dc3
      refine wp_g (n := 1) (pc' := 56) (L' := [some (.ref 0), z1, z2, z3, some (.ref y4), some (.int (iI y5))]) (st' := [.int (iI 1)]) rfl ?_
      exact wp_iret rfl rfl ⟨_, _, _, _, rfl, (by decide), S, hW⟩
abbrev W_X8_same (E : am_E) (k : Nat) (x1 : Int) (x2 : Int) (m : MM) (γ : GM) (t : am_H) (Q : Int → MM → GM → am_H → Prop) : Prop := (TA E k 184 [.ref 0, .int (iI x1)] m γ t (fun o1 m1 γ1 t1 => ((o1 = none → (Q (-2) m1 γ1 t1)) ∧ (∀ a1, o1 = some a1 → (isg a1 ∧ (((x2 < 0) → (Q (-2) m1 γ1 t1)) ∧ (¬ (x2 < 0) → (((x2 ≤ 3) → (((x2 = 2) → (TV E k 47 [.ref 2, .ref a1] m1 γ1 t1 (fun m21 γ21 t21 => (TI E k 43 [.ref 2, .ref a1] m21 γ21 t21 (fun v22 m22 γ22 t22 => (((v22 = 0) → (Q 0 m22 γ22 t22)) ∧ (¬ (v22 = 0) → (Q 1 m22 γ22 t22)))))))) ∧ (¬ (x2 = 2) → (TV E k 46 [.ref 2, .ref a1] m1 γ1 t1 (fun m5 γ5 t5 => (((x2 = 0) → (((x2 = 3) → (TV E k 47 [.ref 2, .ref 6] m5 γ5 t5 (fun m10 γ10 t10 => (TI E k 43 [.ref 2, .ref a1] m10 γ10 t10 (fun v11 m11 γ11 t11 => (((v11 = 0) → (Q 0 m11 γ11 t11)) ∧ (¬ (v11 = 0) → (Q 1 m11 γ11 t11)))))))) ∧ (¬ (x2 = 3) → (TI E k 43 [.ref 2, .ref a1] m5 γ5 t5 (fun v8 m8 γ8 t8 => (((v8 = 0) → (Q 0 m8 γ8 t8)) ∧ (¬ (v8 = 0) → (Q 1 m8 γ8 t8)))))))) ∧ (¬ (x2 = 0) → (TV E k 46 [.ref 6, .ref 2] m5 γ5 t5 (fun m13 γ13 t13 => (TV E k 44 [.ref 2, .ref 6] m13 γ13 t13 (fun m14 γ14 t14 => (((x2 = 3) → (TV E k 47 [.ref 2, .ref 6] m14 γ14 t14 (fun m18 γ18 t18 => (TI E k 43 [.ref 2, .ref a1] m18 γ18 t18 (fun v19 m19 γ19 t19 => (((v19 = 0) → (Q 0 m19 γ19 t19)) ∧ (¬ (v19 = 0) → (Q 1 m19 γ19 t19)))))))) ∧ (¬ (x2 = 3) → (TI E k 43 [.ref 2, .ref a1] m14 γ14 t14 (fun v16 m16 γ16 t16 => (((v16 = 0) → (Q 0 m16 γ16 t16)) ∧ (¬ (v16 = 0) → (Q 1 m16 γ16 t16)))))))))))))))))) ∧ (¬ (x2 ≤ 3) → (Q (-2) m1 γ1 t1))))))))))
theorem vc_X8_same {E : am_E} {k : Nat} {x1 : Int} {x2 : Int} {m : MM} {γ : GM} {t : am_H} {Q : Int → MM → GM → am_H → Prop} (hx1 : rJ x1) (hx2 : rJ x2) (hW : W_X8_same E k x1 x2 m γ t Q) : TI E (k + 1) 170 [.ref 0, .int (iI x1), .int (iI x2)] m γ t Q := by
  unfold W_X8_same at hW
  intro h S
  refine wp_g (n := 2) (pc' := 2) (L' := [some (.ref 0), some (.int (iI x1)), some (.int (iI x2)), none]) (st' := [.int (iI x1), .ref 0]) rfl ?_
  refine wp_cv (As := [.int (iI x1)]) (rest := []) rfl rfl (S.cell 0 (nc rfl)) (by decide) rfl rfl rfl (Nat.le_of_ble_eq_true rfl) (Nat.le_of_ble_eq_true rfl) (hW _ S) (fun r1 H1 q1 => ?_)
  obtain ⟨o1, m1, γ1, t1, rfl, S, hW⟩ := q1
  cases o1 with
  | none =>
    have hW := hW.1 rfl
    show wp _ _ _ _ _ [.null] _ _
    refine wp_g (n := 2) (pc' := 7) (L' := [some (.ref 0), some (.int (iI x1)), some (.int (iI x2)), some (.null)]) (st' := [.null]) rfl ?_
    refine wp_g (n := 1) (pc' := 19) (L' := [some (.ref 0), some (.int (iI x1)), some (.int (iI x2)), some (.null)]) (st' := []) rfl ?_
    refine wp_g (n := 1) (pc' := 21) (L' := [some (.ref 0), some (.int (iI x1)), some (.int (iI x2)), some (.null)]) (st' := [.int (iI (-2))]) rfl ?_
    exact wp_iret rfl rfl ⟨_, _, _, _, rfl, (by decide), S, hW⟩
  | some a1 =>
    obtain ⟨hg1, hW⟩ := hW.2 _ rfl
    show wp _ _ _ _ _ [.ref a1] _ _
    refine wp_g (n := 2) (pc' := 7) (L' := [some (.ref 0), some (.int (iI x1)), some (.int (iI x2)), some (.ref a1)]) (st' := [.ref a1]) rfl ?_
    refine wp_g (n := 1) (pc' := 10) (L' := [some (.ref 0), some (.int (iI x1)), some (.int (iI x2)), some (.ref a1)]) (st' := []) rfl ?_
    refine wp_g (n := 1) (pc' := 11) (L' := [some (.ref 0), some (.int (iI x1)), some (.int (iI x2)), some (.ref a1)]) (st' := [.int (iI x2)]) rfl ?_
    refine wp_ifI (a := x2) rfl rfl hx2.1 hx2.2 (fun c2 => ?_) (fun c2 => ?_)
    · have dc2 := c2
      have hW := hW.1 dc2
      refine wp_g (n := 1) (pc' := 21) (L' := [some (.ref 0), some (.int (iI x1)), some (.int (iI x2)), some (.ref a1)]) (st' := [.int (iI (-2))]) rfl ?_
      exact wp_iret rfl rfl ⟨_, _, _, _, rfl, (by decide), S, hW⟩
    · have dc2 := c2
      have hW := hW.2 dc2
      refine wp_g (n := 2) (pc' := 16) (L' := [some (.ref 0), some (.int (iI x1)), some (.int (iI x2)), some (.ref a1)]) (st' := [.int (iI 3), .int (iI x2)]) rfl ?_
      refine wp_icmpI (a := x2) (b := 3) rfl rfl hx2.1 hx2.2 (by decide) (by decide) (fun c3 => ?_) (fun c3 => ?_)
      · have dc3 := c3
        have hW := hW.1 dc3
        refine wp_g (n := 2) (pc' := 24) (L' := [some (.ref 0), some (.int (iI x1)), some (.int (iI x2)), some (.ref a1)]) (st' := [.int (iI 2), .int (iI x2)]) rfl ?_
        refine wp_icmpI (a := x2) (b := 2) rfl rfl hx2.1 hx2.2 (by decide) (by decide) (fun c4 => ?_) (fun c4 => ?_)
        · have dc4 := c4
          have hW := hW.2 dc4
          refine wp_g (n := 1) (pc' := 53) (L' := [some (.ref 0), some (.int (iI x1)), some (.int (iI x2)), some (.ref a1)]) (st' := [.ref 0]) rfl ?_
          refine wp_getf (v := .ref 2) rfl rfl (S.cell 0 (nc rfl)) (by decide) rfl ?_
          refine wp_g (n := 1) (pc' := 57) (L' := [some (.ref 0), some (.int (iI x1)), some (.int (iI x2)), some (.ref a1)]) (st' := [.ref a1, .ref 2]) rfl ?_
          refine wp_cv (As := [.ref a1]) (rest := []) rfl rfl (S.gg 2 (gi rfl)).obj (by decide) rfl rfl rfl (Nat.le_of_ble_eq_true rfl) (Nat.le_of_ble_eq_true rfl) (hW _ S) (fun r5 H5 q5 => ?_)
          obtain ⟨m5, γ5, t5, rfl, S, hW⟩ := q5
          show wp _ _ _ _ _ [] _ _
          refine wp_g (n := 1) (pc' := 61) (L' := [some (.ref 0), some (.int (iI x1)), some (.int (iI x2)), some (.ref a1)]) (st' := [.int (iI x2)]) rfl ?_
          refine wp_ifI (a := x2) rfl rfl hx2.1 hx2.2 (fun c6 => ?_) (fun c6 => ?_)
          · have dc6 := c6
            have hW := hW.1 dc6
            refine wp_g (n := 2) (pc' := 88) (L' := [some (.ref 0), some (.int (iI x1)), some (.int (iI x2)), some (.ref a1)]) (st' := [.int (iI 3), .int (iI x2)]) rfl ?_
            refine wp_icmpI (a := x2) (b := 3) rfl rfl hx2.1 hx2.2 (by decide) (by decide) (fun c7 => ?_) (fun c7 => ?_)
            · have dc7 := c7
              have hW := hW.2 dc7
              refine wp_g (n := 1) (pc' := 103) (L' := [some (.ref 0), some (.int (iI x1)), some (.int (iI x2)), some (.ref a1)]) (st' := [.ref 0]) rfl ?_
              refine wp_getf (v := .ref 2) rfl rfl (S.cell 0 (nc rfl)) (by decide) rfl ?_
              refine wp_g (n := 1) (pc' := 107) (L' := [some (.ref 0), some (.int (iI x1)), some (.int (iI x2)), some (.ref a1)]) (st' := [.ref a1, .ref 2]) rfl ?_
              refine wp_cv (As := [.ref a1]) (rest := []) rfl rfl (S.gg 2 (gi rfl)).obj (by decide) rfl rfl rfl (Nat.le_of_ble_eq_true rfl) (Nat.le_of_ble_eq_true rfl) (hW _ S) (fun r8 H8 q8 => ?_)
              obtain ⟨v8, m8, γ8, t8, rfl, hv8, S, hW⟩ := q8
              show wp _ _ _ _ _ [.int (iI v8)] _ _
              refine wp_ifI (a := v8) rfl rfl hv8.1 hv8.2 (fun c9 => ?_) (fun c9 => ?_)
              · have dc9 := c9
                have hW := hW.1 dc9
                refine wp_g (n := 1) (pc' := 118) (L' := [some (.ref 0), some (.int (iI x1)), some (.int (iI x2)), some (.ref a1)]) (st' := [.int (iI 0)]) rfl ?_
                exact wp_iret rfl rfl ⟨_, _, _, _, rfl, (by decide), S, hW⟩
              · have dc9 := c9
                have hW := hW.2 dc9
                refine wp_g (n := 2) (pc' := 118) (L' := [some (.ref 0), some (.int (iI x1)), some (.int (iI x2)), some (.ref a1)]) (st' := [.int (iI 1)]) rfl ?_
                exact wp_iret rfl rfl ⟨_, _, _, _, rfl, (by decide), S, hW⟩
            · have dc7 := (Classical.not_not.mp c7)
              have hW := hW.1 dc7
              refine wp_g (n := 1) (pc' := 92) (L' := [some (.ref 0), some (.int (iI x1)), some (.int (iI x2)), some (.ref a1)]) (st' := [.ref 0]) rfl ?_
              refine wp_getf (v := .ref 2) rfl rfl (S.cell 0 (nc rfl)) (by decide) rfl ?_
              refine wp_g (n := 1) (pc' := 96) (L' := [some (.ref 0), some (.int (iI x1)), some (.int (iI x2)), some (.ref a1)]) (st' := [.ref 0, .ref 2]) rfl ?_
              refine wp_getf (v := .ref 6) rfl rfl (S.cell 0 (nc rfl)) (by decide) rfl ?_
              refine wp_cv (As := [.ref 6]) (rest := []) rfl rfl (S.gg 2 (gi rfl)).obj (by decide) rfl rfl rfl (Nat.le_of_ble_eq_true rfl) (Nat.le_of_ble_eq_true rfl) (hW _ S) (fun r10 H10 q10 => ?_)
              obtain ⟨m10, γ10, t10, rfl, S, hW⟩ := q10
              show wp _ _ _ _ _ [] _ _
              refine wp_g (n := 1) (pc' := 103) (L' := [some (.ref 0), some (.int (iI x1)), some (.int (iI x2)), some (.ref a1)]) (st' := [.ref 0]) rfl ?_
              refine wp_getf (v := .ref 2) rfl rfl (S.cell 0 (nc rfl)) (by decide) rfl ?_
              refine wp_g (n := 1) (pc' := 107) (L' := [some (.ref 0), some (.int (iI x1)), some (.int (iI x2)), some (.ref a1)]) (st' := [.ref a1, .ref 2]) rfl ?_
              refine wp_cv (As := [.ref a1]) (rest := []) rfl rfl (S.gg 2 (gi rfl)).obj (by decide) rfl rfl rfl (Nat.le_of_ble_eq_true rfl) (Nat.le_of_ble_eq_true rfl) (hW _ S) (fun r11 H11 q11 => ?_)
              obtain ⟨v11, m11, γ11, t11, rfl, hv11, S, hW⟩ := q11
              show wp _ _ _ _ _ [.int (iI v11)] _ _
              refine wp_ifI (a := v11) rfl rfl hv11.1 hv11.2 (fun c12 => ?_) (fun c12 => ?_)
              · have dc12 := c12
                have hW := hW.1 dc12
                refine wp_g (n := 1) (pc' := 118) (L' := [some (.ref 0), some (.int (iI x1)), some (.int (iI x2)), some (.ref a1)]) (st' := [.int (iI 0)]) rfl ?_
                exact wp_iret rfl rfl ⟨_, _, _, _, rfl, (by decide), S, hW⟩
              · have dc12 := c12
                have hW := hW.2 dc12
                refine wp_g (n := 2) (pc' := 118) (L' := [some (.ref 0), some (.int (iI x1)), some (.int (iI x2)), some (.ref a1)]) (st' := [.int (iI 1)]) rfl ?_
                exact wp_iret rfl rfl ⟨_, _, _, _, rfl, (by decide), S, hW⟩
          · have dc6 := c6
            have hW := hW.2 dc6
            refine wp_g (n := 1) (pc' := 65) (L' := [some (.ref 0), some (.int (iI x1)), some (.int (iI x2)), some (.ref a1)]) (st' := [.ref 0]) rfl ?_
            refine wp_getf (v := .ref 6) rfl rfl (S.cell 0 (nc rfl)) (by decide) rfl ?_
            refine wp_g (n := 1) (pc' := 69) (L' := [some (.ref 0), some (.int (iI x1)), some (.int (iI x2)), some (.ref a1)]) (st' := [.ref 0, .ref 6]) rfl ?_
            refine wp_getf (v := .ref 2) rfl rfl (S.cell 0 (nc rfl)) (by decide) rfl ?_
            refine wp_cv (As := [.ref 2]) (rest := []) rfl rfl (S.gg 6 (gi rfl)).obj (by decide) rfl rfl rfl (Nat.le_of_ble_eq_true rfl) (Nat.le_of_ble_eq_true rfl) (hW _ S) (fun r13 H13 q13 => ?_)
            obtain ⟨m13, γ13, t13, rfl, S, hW⟩ := q13
            show wp _ _ _ _ _ [] _ _
            refine wp_g (n := 1) (pc' := 76) (L' := [some (.ref 0), some (.int (iI x1)), some (.int (iI x2)), some (.ref a1)]) (st' := [.ref 0]) rfl ?_
            refine wp_getf (v := .ref 2) rfl rfl (S.cell 0 (nc rfl)) (by decide) rfl ?_
            refine wp_g (n := 1) (pc' := 80) (L' := [some (.ref 0), some (.int (iI x1)), some (.int (iI x2)), some (.ref a1)]) (st' := [.ref 0, .ref 2]) rfl ?_
            refine wp_getf (v := .ref 6) rfl rfl (S.cell 0 (nc rfl)) (by decide) rfl ?_
            refine wp_cv (As := [.ref 6]) (rest := []) rfl rfl (S.gg 2 (gi rfl)).obj (by decide) rfl rfl rfl (Nat.le_of_ble_eq_true rfl) (Nat.le_of_ble_eq_true rfl) (hW _ S) (fun r14 H14 q14 => ?_)
            obtain ⟨m14, γ14, t14, rfl, S, hW⟩ := q14
            show wp _ _ _ _ _ [] _ _
            refine wp_g (n := 2) (pc' := 88) (L' := [some (.ref 0), some (.int (iI x1)), some (.int (iI x2)), some (.ref a1)]) (st' := [.int (iI 3), .int (iI x2)]) rfl ?_
            refine wp_icmpI (a := x2) (b := 3) rfl rfl hx2.1 hx2.2 (by decide) (by decide) (fun c15 => ?_) (fun c15 => ?_)
            · have dc15 := c15
              have hW := hW.2 dc15
              refine wp_g (n := 1) (pc' := 103) (L' := [some (.ref 0), some (.int (iI x1)), some (.int (iI x2)), some (.ref a1)]) (st' := [.ref 0]) rfl ?_
              refine wp_getf (v := .ref 2) rfl rfl (S.cell 0 (nc rfl)) (by decide) rfl ?_
              refine wp_g (n := 1) (pc' := 107) (L' := [some (.ref 0), some (.int (iI x1)), some (.int (iI x2)), some (.ref a1)]) (st' := [.ref a1, .ref 2]) rfl ?_
              refine wp_cv (As := [.ref a1]) (rest := []) rfl rfl (S.gg 2 (gi rfl)).obj (by decide) rfl rfl rfl (Nat.le_of_ble_eq_true rfl) (Nat.le_of_ble_eq_true rfl) (hW _ S) (fun r16 H16 q16 => ?_)
              obtain ⟨v16, m16, γ16, t16, rfl, hv16, S, hW⟩ := q16
              show wp _ _ _ _ _ [.int (iI v16)] _ _
              refine wp_ifI (a := v16) rfl rfl hv16.1 hv16.2 (fun c17 => ?_) (fun c17 => ?_)
              · have dc17 := c17
                have hW := hW.1 dc17
                refine wp_g (n := 1) (pc' := 118) (L' := [some (.ref 0), some (.int (iI x1)), some (.int (iI x2)), some (.ref a1)]) (st' := [.int (iI 0)]) rfl ?_
                exact wp_iret rfl rfl ⟨_, _, _, _, rfl, (by decide), S, hW⟩
              · have dc17 := c17
                have hW := hW.2 dc17
                refine wp_g (n := 2) (pc' := 118) (L' := [some (.ref 0), some (.int (iI x1)), some (.int (iI x2)), some (.ref a1)]) (st' := [.int (iI 1)]) rfl ?_
                exact wp_iret rfl rfl ⟨_, _, _, _, rfl, (by decide), S, hW⟩
            · have dc15 := (Classical.not_not.mp c15)
              have hW := hW.1 dc15
              refine wp_g (n := 1) (pc' := 92) (L' := [some (.ref 0), some (.int (iI x1)), some (.int (iI x2)), some (.ref a1)]) (st' := [.ref 0]) rfl ?_
              refine wp_getf (v := .ref 2) rfl rfl (S.cell 0 (nc rfl)) (by decide) rfl ?_
              refine wp_g (n := 1) (pc' := 96) (L' := [some (.ref 0), some (.int (iI x1)), some (.int (iI x2)), some (.ref a1)]) (st' := [.ref 0, .ref 2]) rfl ?_
              refine wp_getf (v := .ref 6) rfl rfl (S.cell 0 (nc rfl)) (by decide) rfl ?_
              refine wp_cv (As := [.ref 6]) (rest := []) rfl rfl (S.gg 2 (gi rfl)).obj (by decide) rfl rfl rfl (Nat.le_of_ble_eq_true rfl) (Nat.le_of_ble_eq_true rfl) (hW _ S) (fun r18 H18 q18 => ?_)
              obtain ⟨m18, γ18, t18, rfl, S, hW⟩ := q18
              show wp _ _ _ _ _ [] _ _
              refine wp_g (n := 1) (pc' := 103) (L' := [some (.ref 0), some (.int (iI x1)), some (.int (iI x2)), some (.ref a1)]) (st' := [.ref 0]) rfl ?_
              refine wp_getf (v := .ref 2) rfl rfl (S.cell 0 (nc rfl)) (by decide) rfl ?_
              refine wp_g (n := 1) (pc' := 107) (L' := [some (.ref 0), some (.int (iI x1)), some (.int (iI x2)), some (.ref a1)]) (st' := [.ref a1, .ref 2]) rfl ?_
              refine wp_cv (As := [.ref a1]) (rest := []) rfl rfl (S.gg 2 (gi rfl)).obj (by decide) rfl rfl rfl (Nat.le_of_ble_eq_true rfl) (Nat.le_of_ble_eq_true rfl) (hW _ S) (fun r19 H19 q19 => ?_)
              obtain ⟨v19, m19, γ19, t19, rfl, hv19, S, hW⟩ := q19
              show wp _ _ _ _ _ [.int (iI v19)] _ _
              refine wp_ifI (a := v19) rfl rfl hv19.1 hv19.2 (fun c20 => ?_) (fun c20 => ?_)
              · have dc20 := c20
                have hW := hW.1 dc20
                refine wp_g (n := 1) (pc' := 118) (L' := [some (.ref 0), some (.int (iI x1)), some (.int (iI x2)), some (.ref a1)]) (st' := [.int (iI 0)]) rfl ?_
                exact wp_iret rfl rfl ⟨_, _, _, _, rfl, (by decide), S, hW⟩
              · have dc20 := c20
                have hW := hW.2 dc20
                refine wp_g (n := 2) (pc' := 118) (L' := [some (.ref 0), some (.int (iI x1)), some (.int (iI x2)), some (.ref a1)]) (st' := [.int (iI 1)]) rfl ?_
                exact wp_iret rfl rfl ⟨_, _, _, _, rfl, (by decide), S, hW⟩
        · have dc4 := (Classical.not_not.mp c4)
          have hW := hW.1 dc4
          refine wp_g (n := 1) (pc' := 28) (L' := [some (.ref 0), some (.int (iI x1)), some (.int (iI x2)), some (.ref a1)]) (st' := [.ref 0]) rfl ?_
          refine wp_getf (v := .ref 2) rfl rfl (S.cell 0 (nc rfl)) (by decide) rfl ?_
          refine wp_g (n := 1) (pc' := 32) (L' := [some (.ref 0), some (.int (iI x1)), some (.int (iI x2)), some (.ref a1)]) (st' := [.ref a1, .ref 2]) rfl ?_
          refine wp_cv (As := [.ref a1]) (rest := []) rfl rfl (S.gg 2 (gi rfl)).obj (by decide) rfl rfl rfl (Nat.le_of_ble_eq_true rfl) (Nat.le_of_ble_eq_true rfl) (hW _ S) (fun r21 H21 q21 => ?_)
          obtain ⟨m21, γ21, t21, rfl, S, hW⟩ := q21
          show wp _ _ _ _ _ [] _ _
          refine wp_g (n := 1) (pc' := 36) (L' := [some (.ref 0), some (.int (iI x1)), some (.int (iI x2)), some (.ref a1)]) (st' := [.ref 0]) rfl ?_
          refine wp_getf (v := .ref 2) rfl rfl (S.cell 0 (nc rfl)) (by decide) rfl ?_
          refine wp_g (n := 1) (pc' := 40) (L' := [some (.ref 0), some (.int (iI x1)), some (.int (iI x2)), some (.ref a1)]) (st' := [.ref a1, .ref 2]) rfl ?_
          refine wp_cv (As := [.ref a1]) (rest := []) rfl rfl (S.gg 2 (gi rfl)).obj (by decide) rfl rfl rfl (Nat.le_of_ble_eq_true rfl) (Nat.le_of_ble_eq_true rfl) (hW _ S) (fun r22 H22 q22 => ?_)
          obtain ⟨v22, m22, γ22, t22, rfl, hv22, S, hW⟩ := q22
          show wp _ _ _ _ _ [.int (iI v22)] _ _
          refine wp_ifI (a := v22) rfl rfl hv22.1 hv22.2 (fun c23 => ?_) (fun c23 => ?_)
          · have dc23 := c23
            have hW := hW.1 dc23
            refine wp_g (n := 1) (pc' := 51) (L' := [some (.ref 0), some (.int (iI x1)), some (.int (iI x2)), some (.ref a1)]) (st' := [.int (iI 0)]) rfl ?_
            exact wp_iret rfl rfl ⟨_, _, _, _, rfl, (by decide), S, hW⟩
          · have dc23 := c23
            have hW := hW.2 dc23
            refine wp_g (n := 2) (pc' := 51) (L' := [some (.ref 0), some (.int (iI x1)), some (.int (iI x2)), some (.ref a1)]) (st' := [.int (iI 1)]) rfl ?_
            exact wp_iret rfl rfl ⟨_, _, _, _, rfl, (by decide), S, hW⟩
      · have dc3 := c3
        have hW := hW.2 dc3
        refine wp_g (n := 1) (pc' := 21) (L' := [some (.ref 0), some (.int (iI x1)), some (.int (iI x2)), some (.ref a1)]) (st' := [.int (iI (-2))]) rfl ?_
        exact wp_iret rfl rfl ⟨_, _, _, _, rfl, (by decide), S, hW⟩
def hd_X8_plain_35 (E : am_E) (k : Nat) (x1 : Int) (x2 : Int) (y3 : Int) (y4 : Int) (y5 : Int) (m : MM) (γ : GM) (t : am_H) (Q : Int → MM → GM → am_H → Prop) : Prop := ∀ (z0 z1 z2 z6 : Option Value), TT (pI Q) E k 171 35 [z0, z1, z2, some (.int (iI y3)), some (.int (iI y4)), some (.int (iI y5)), z6] [] m γ t
abbrev W_X8_plain (E : am_E) (k : Nat) (x1 : Int) (x2 : Int) (m : MM) (γ : GM) (t : am_H) (Q : Int → MM → GM → am_H → Prop) : Prop := (((x1 < 1) → (Q (-2) m γ t)) ∧ (¬ (x1 < 1) → (((x1 ≤ 9999) → (((x2 < 1) → (Q (-2) m γ t)) ∧ (¬ (x2 < 1) → (((x2 ≤ 9999) → (hd_X8_plain_35 E k x1 x2 x1 x2 0 m γ t Q)) ∧ (¬ (x2 ≤ 9999) → (Q (-2) m γ t)))))) ∧ (¬ (x1 ≤ 9999) → (Q (-2) m γ t)))))
abbrev W_X8_plain_35 (E : am_E) (k : Nat) (x1 : Int) (x2 : Int) (y3 : Int) (y4 : Int) (y5 : Int) (m : MM) (γ : GM) (t : am_H) (Q : Int → MM → GM → am_H → Prop) : Prop := (((y5 ≤ 9999) → (((y4 = 0) → (Q y3 m γ t)) ∧ (¬ (y4 = 0) → (0 ≤ y3 ∧ (0 < y4 ∧ (hd_X8_plain_35 E k x1 x2 y4 (y3 % y4) (y5 + 1) m γ t Q)))))) ∧ (¬ (y5 ≤ 9999) → (Q y3 m γ t)))
theorem vc_X8_plain {E : am_E} {k : Nat} {x1 : Int} {x2 : Int} {m : MM} {γ : GM} {t : am_H} {Q : Int → MM → GM → am_H → Prop} (hx1 : rJ x1) (hx2 : rJ x2) (hW : W_X8_plain E k x1 x2 m γ t Q) : TI E k 171 [.ref 0, .int (iI x1), .int (iI x2)] m γ t Q := by
  unfold W_X8_plain at hW
  intro h S
  refine wp_g (n := 2) (pc' := 2) (L' := [some (.ref 0), some (.int (iI x1)), some (.int (iI x2)), none, none, none, none]) (st' := [.int (iI 1), .int (iI x1)]) rfl ?_
  refine wp_icmpI (a := x1) (b := 1) rfl rfl hx1.1 hx1.2 (by decide) (by decide) (fun c1 => ?_) (fun c1 => ?_)
  · have dc1 := c1
    have hW := hW.1 dc1
    refine wp_g (n := 1) (pc' := 26) (L' := [some (.ref 0), some (.int (iI x1)), some (.int (iI x2)), none, none, none, none]) (st' := [.int (iI (-2))]) rfl ?_
    exact wp_iret rfl rfl ⟨_, _, _, _, rfl, (by decide), S, hW⟩
  · have dc1 := c1
    have hW := hW.2 dc1
    refine wp_g (n := 2) (pc' := 9) (L' := [some (.ref 0), some (.int (iI x1)), some (.int (iI x2)), none, none, none, none]) (st' := [.int (iI 9999), .int (iI x1)]) rfl ?_
    refine wp_icmpI (a := x1) (b := 9999) rfl rfl hx1.1 hx1.2 (by decide) (by decide) (fun c2 => ?_) (fun c2 => ?_)
    · have dc2 := (Int.not_le.mpr c2)
      have hW := hW.2 dc2
      refine wp_g (n := 1) (pc' := 26) (L' := [some (.ref 0), some (.int (iI x1)), some (.int (iI x2)), none, none, none, none]) (st' := [.int (iI (-2))]) rfl ?_
      exact wp_iret rfl rfl ⟨_, _, _, _, rfl, (by decide), S, hW⟩
    · have dc2 := (Int.not_lt.mp c2)
      have hW := hW.1 dc2
      refine wp_g (n := 2) (pc' := 14) (L' := [some (.ref 0), some (.int (iI x1)), some (.int (iI x2)), none, none, none, none]) (st' := [.int (iI 1), .int (iI x2)]) rfl ?_
      refine wp_icmpI (a := x2) (b := 1) rfl rfl hx2.1 hx2.2 (by decide) (by decide) (fun c3 => ?_) (fun c3 => ?_)
      · have dc3 := c3
        have hW := hW.1 dc3
        refine wp_g (n := 1) (pc' := 26) (L' := [some (.ref 0), some (.int (iI x1)), some (.int (iI x2)), none, none, none, none]) (st' := [.int (iI (-2))]) rfl ?_
        exact wp_iret rfl rfl ⟨_, _, _, _, rfl, (by decide), S, hW⟩
      · have dc3 := c3
        have hW := hW.2 dc3
        refine wp_g (n := 2) (pc' := 21) (L' := [some (.ref 0), some (.int (iI x1)), some (.int (iI x2)), none, none, none, none]) (st' := [.int (iI 9999), .int (iI x2)]) rfl ?_
        refine wp_icmpI (a := x2) (b := 9999) rfl rfl hx2.1 hx2.2 (by decide) (by decide) (fun c4 => ?_) (fun c4 => ?_)
        · have dc4 := c4
          have hW := hW.1 dc4
          refine wp_g (n := 6) (pc' := 35) (L' := [some (.ref 0), some (.int (iI x1)), some (.int (iI x2)), some (.int (iI x1)), some (.int (iI x2)), some (.int (iI 0)), none]) (st' := []) rfl ?_
          exact hW (some (.ref 0)) (some (.int (iI x1))) (some (.int (iI x2))) none _ S
        · have dc4 := c4
          have hW := hW.2 dc4
          refine wp_g (n := 1) (pc' := 26) (L' := [some (.ref 0), some (.int (iI x1)), some (.int (iI x2)), none, none, none, none]) (st' := [.int (iI (-2))]) rfl ?_
          exact wp_iret rfl rfl ⟨_, _, _, _, rfl, (by decide), S, hW⟩
theorem vc_X8_plain_35 {E : am_E} {k : Nat} {x1 : Int} {x2 : Int} {y3 : Int} {y4 : Int} {y5 : Int} {m : MM} {γ : GM} {t : am_H} {Q : Int → MM → GM → am_H → Prop} (hx1 : rJ x1) (hx2 : rJ x2) (hy3 : rJ y3) (hy4 : rJ y4) (hy5 : rJ y5) (hW : W_X8_plain_35 E k x1 x2 y3 y4 y5 m γ t Q) : hd_X8_plain_35 E k x1 x2 y3 y4 y5 m γ t Q := by
  unfold W_X8_plain_35 at hW
  intro z0 z1 z2 z6 h S
  refine wp_g (n := 2) (pc' := 40) (L' := [z0, z1, z2, some (.int (iI y3)), some (.int (iI y4)), some (.int (iI y5)), z6]) (st' := [.int (iI 9999), .int (iI y5)]) rfl ?_
  refine wp_icmpI (a := y5) (b := 9999) rfl rfl hy5.1 hy5.2 (by decide) (by decide) (fun c1 => ?_) (fun c1 => ?_)
  · have dc1 := (Int.not_le.mpr c1)
    have hW := hW.2 dc1
    refine wp_g (n := 1) (pc' := 68) (L' := [z0, z1, z2, some (.int (iI y3)), some (.int (iI y4)), some (.int (iI y5)), z6]) (st' := [.int (iI y3)]) rfl ?_
    exact wp_iret rfl rfl ⟨_, _, _, _, rfl, hy3, S, hW⟩
  · have dc1 := (Int.not_lt.mp c1)
    have hW := hW.1 dc1
    refine wp_g (n := 1) (pc' := 45) (L' := [z0, z1, z2, some (.int (iI y3)), some (.int (iI y4)), some (.int (iI y5)), z6]) (st' := [.int (iI y4)]) rfl ?_
    refine wp_ifI (a := y4) rfl rfl hy4.1 hy4.2 (fun c2 => ?_) (fun c2 => ?_)
    · have dc2 := c2
      have hW := hW.1 dc2
      refine wp_g (n := 1) (pc' := 68) (L' := [z0, z1, z2, some (.int (iI y3)), some (.int (iI y4)), some (.int (iI y5)), z6]) (st' := [.int (iI y3)]) rfl ?_
      exact wp_iret rfl rfl ⟨_, _, _, _, rfl, hy3, S, hW⟩
    · have dc2 := c2
      have hW := hW.2 dc2
      refine wp_g (n := 2) (pc' := 51) (L' := [z0, z1, z2, some (.int (iI y3)), some (.int (iI y4)), some (.int (iI y5)), z6]) (st' := [.int (iI y4), .int (iI y3)]) rfl ?_
      obtain ⟨p3, hW⟩ := hW
      obtain ⟨p4, hW⟩ := hW
      refine wp_rem (a := y3) (b := y4) rfl p3 hy3.2 p4 hy4.2 ?_
      refine wp_g (n := 5) (pc' := 61) (L' := [z0, z1, (bif am_c2 z2 then none else z2), some (.int (iI y4)), some (.int (iI (y3 % y4))), some (.int (iI y5)), some (.int (iI (y3 % y4)))]) (st' := []) rfl ?_
      refine wp_iinc (L' := [z0, z1, (bif am_c2 z2 then none else z2), some (.int (iI y4)), some (.int (iI (y3 % y4))), some (.int (iI (y5 + 1))), some (.int (iI (y3 % y4)))]) (a := y5) rfl rfl rfl ?_
      refine wp_g (n := 1) (pc' := 35) (L' := [z0, z1, (bif am_c2 z2 then none else z2), some (.int (iI y4)), some (.int (iI (y3 % y4))), some (.int (iI (y5 + 1))), some (.int (iI (y3 % y4)))]) (st' := []) rfl ?_
      exact hW z0 z1 (bif am_c2 z2 then none else z2) (some (.int (iI (y3 % y4)))) _ S
abbrev W_X8_drops (E : am_E) (k : Nat) (x1 : Int) (m : MM) (γ : GM) (t : am_H) (Q : Int → MM → GM → am_H → Prop) : Prop := (TI E k 176 [.int (iI x1)] m γ t (fun v1 m1 γ1 t1 => (((v1 = 0) → (Q (-2) m1 γ1 t1)) ∧ (¬ (v1 = 0) → (TA E k 184 [.ref 0, .int (iI x1)] m1 γ1 t1 (fun o3 m3 γ3 t3 => ((o3 = none → (Q 0 m3 γ3 t3)) ∧ (∀ a3, o3 = some a3 → (isg a3 ∧ (TV E k 22 [.ref 2] m3 γ3 t3 (fun m4 γ4 t4 => (TV E k 191 [.ref 0, .int (iI x1)] m4 γ4 t4 (fun m5 γ5 t5 => (Q 1 m5 γ5 t5))))))))))))))
theorem vc_X8_drops {E : am_E} {k : Nat} {x1 : Int} {m : MM} {γ : GM} {t : am_H} {Q : Int → MM → GM → am_H → Prop} (hx1 : rJ x1) (hW : W_X8_drops E k x1 m γ t Q) : TI E (k + 1) 172 [.ref 0, .int (iI x1)] m γ t Q := by
  unfold W_X8_drops at hW
  intro h S
  refine wp_g (n := 1) (pc' := 1) (L' := [some (.ref 0), some (.int (iI x1))]) (st' := [.int (iI x1)]) rfl ?_
  refine wp_cs (As := [.int (iI x1)]) (rest := []) rfl rfl rfl rfl (Nat.le_of_ble_eq_true rfl) (Nat.le_of_ble_eq_true rfl) (hW _ S) (fun r1 H1 q1 => ?_)
  obtain ⟨v1, m1, γ1, t1, rfl, hv1, S, hW⟩ := q1
  show wp _ _ _ _ _ [.int (iI v1)] _ _
  refine wp_ifI (a := v1) rfl rfl hv1.1 hv1.2 (fun c2 => ?_) (fun c2 => ?_)
  · have dc2 := c2
    have hW := hW.2 dc2
    refine wp_g (n := 2) (pc' := 12) (L' := [some (.ref 0), some (.int (iI x1))]) (st' := [.int (iI x1), .ref 0]) rfl ?_
    refine wp_cv (As := [.int (iI x1)]) (rest := []) rfl rfl (S.cell 0 (nc rfl)) (by decide) rfl rfl rfl (Nat.le_of_ble_eq_true rfl) (Nat.le_of_ble_eq_true rfl) (hW _ S) (fun r3 H3 q3 => ?_)
    obtain ⟨o3, m3, γ3, t3, rfl, S, hW⟩ := q3
    cases o3 with
    | none =>
      have hW := hW.1 rfl
      show wp _ _ _ _ _ [.null] _ _
      refine wp_g (n := 1) (pc' := 18) (L' := [some (.ref 0), some (.int (iI x1))]) (st' := []) rfl ?_
      refine wp_g (n := 1) (pc' := 19) (L' := [some (.ref 0), some (.int (iI x1))]) (st' := [.int (iI 0)]) rfl ?_
      exact wp_iret rfl rfl ⟨_, _, _, _, rfl, (by decide), S, hW⟩
    | some a3 =>
      obtain ⟨hg3, hW⟩ := hW.2 _ rfl
      show wp _ _ _ _ _ [.ref a3] _ _
      refine wp_g (n := 1) (pc' := 20) (L' := [some (.ref 0), some (.int (iI x1))]) (st' := []) rfl ?_
      refine wp_g (n := 1) (pc' := 21) (L' := [some (.ref 0), some (.int (iI x1))]) (st' := [.ref 0]) rfl ?_
      refine wp_getf (v := .ref 2) rfl rfl (S.cell 0 (nc rfl)) (by decide) rfl ?_
      refine wp_cv (As := []) (rest := []) rfl rfl (S.gg 2 (gi rfl)).obj (by decide) rfl rfl rfl (Nat.le_of_ble_eq_true rfl) (Nat.le_of_ble_eq_true rfl) (hW _ S) (fun r4 H4 q4 => ?_)
      obtain ⟨m4, γ4, t4, rfl, S, hW⟩ := q4
      show wp _ _ _ _ _ [] _ _
      refine wp_g (n := 2) (pc' := 29) (L' := [some (.ref 0), some (.int (iI x1))]) (st' := [.int (iI x1), .ref 0]) rfl ?_
      refine wp_cv (As := [.int (iI x1)]) (rest := []) rfl rfl (S.cell 0 (nc rfl)) (by decide) rfl rfl rfl (Nat.le_of_ble_eq_true rfl) (Nat.le_of_ble_eq_true rfl) (hW _ S) (fun r5 H5 q5 => ?_)
      obtain ⟨m5, γ5, t5, rfl, S, hW⟩ := q5
      show wp _ _ _ _ _ [] _ _
      refine wp_g (n := 1) (pc' := 33) (L' := [some (.ref 0), some (.int (iI x1))]) (st' := [.int (iI 1)]) rfl ?_
      exact wp_iret rfl rfl ⟨_, _, _, _, rfl, (by decide), S, hW⟩
  · have dc2 := (Classical.not_not.mp c2)
    have hW := hW.1 dc2
    refine wp_g (n := 1) (pc' := 9) (L' := [some (.ref 0), some (.int (iI x1))]) (st' := [.int (iI (-2))]) rfl ?_
    exact wp_iret rfl rfl ⟨_, _, _, _, rfl, (by decide), S, hW⟩
abbrev W_X8_undo (E : am_E) (k : Nat) (m : MM) (γ : GM) (t : am_H) (Q : Int → MM → GM → am_H → Prop) : Prop := (TI E k 3 [.ref 103] m γ t (fun v1 m1 γ1 t1 => (TI E k 176 [.int (iI v1)] m1 γ1 t1 (fun v2 m2 γ2 t2 => (((v2 = 0) → (Q (-1) m2 γ2 t2)) ∧ (¬ (v2 = 0) → ((0 ≤ v1 ∧ v1 < 3) ∧ (TV E k 4 [.ref 103, .ref (146 + 4 * (v1).toNat)] m2 γ2 t2 (fun m6 γ6 t6 => (TI E k 1 [.ref 103] m6 γ6 t6 (fun v7 m7 γ7 t7 => (Q v7 m7 γ7 t7))))))))))))
theorem vc_X8_undo {E : am_E} {k : Nat} {m : MM} {γ : GM} {t : am_H} {Q : Int → MM → GM → am_H → Prop} (hW : W_X8_undo E k  m γ t Q) : TI E (k + 1) 173 [.ref 0] m γ t Q := by
  unfold W_X8_undo at hW
  intro h S
  refine wp_g (n := 1) (pc' := 1) (L' := [some (.ref 0), none]) (st' := [.ref 0]) rfl ?_
  refine wp_getf (v := .ref 103) rfl rfl (S.cell 0 (nc rfl)) (by decide) rfl ?_
  refine wp_cv (As := []) (rest := []) rfl rfl (S.cell 103 (nc rfl)) (by decide) rfl rfl rfl (Nat.le_of_ble_eq_true rfl) (Nat.le_of_ble_eq_true rfl) (hW _ S) (fun r1 H1 q1 => ?_)
  obtain ⟨v1, m1, γ1, t1, rfl, hv1, S, hW⟩ := q1
  show wp _ _ _ _ _ [.int (iI v1)] _ _
  refine wp_g (n := 2) (pc' := 9) (L' := [some (.ref 0), some (.int (iI v1))]) (st' := [.int (iI v1)]) rfl ?_
  refine wp_cs (As := [.int (iI v1)]) (rest := []) rfl rfl rfl rfl (Nat.le_of_ble_eq_true rfl) (Nat.le_of_ble_eq_true rfl) (hW _ S) (fun r2 H2 q2 => ?_)
  obtain ⟨v2, m2, γ2, t2, rfl, hv2, S, hW⟩ := q2
  show wp _ _ _ _ _ [.int (iI v2)] _ _
  refine wp_ifI (a := v2) rfl rfl hv2.1 hv2.2 (fun c3 => ?_) (fun c3 => ?_)
  · have dc3 := c3
    have hW := hW.2 dc3
    refine wp_g (n := 1) (pc' := 18) (L' := [some (.ref 0), some (.int (iI v1))]) (st' := [.ref 0]) rfl ?_
    refine wp_getf (v := .ref 103) rfl rfl (S.cell 0 (nc rfl)) (by decide) rfl ?_
    refine wp_g (n := 1) (pc' := 22) (L' := [some (.ref 0), some (.int (iI v1))]) (st' := [.ref 0, .ref 103]) rfl ?_
    refine wp_getf (v := .ref 1) rfl rfl (S.cell 0 (nc rfl)) (by decide) rfl ?_
    refine wp_g (n := 1) (pc' := 26) (L' := [some (.ref 0), some (.int (iI v1))]) (st' := [.int (iI v1), .ref 1, .ref 103]) rfl ?_
    obtain ⟨p4, hW⟩ := hW
    have hn5 : (v1).toNat < 3 := by omega
    refine wp_aald (n := 3) (b := (146 + 4 * (v1).toNat)) rfl (S.cell 1 (nc rfl)) p4.1 p4.2 (by decide) (if_pos hn5) ?_
    refine wp_cv (As := [.ref (146 + 4 * (v1).toNat)]) (rest := []) rfl rfl (S.cell 103 (nc rfl)) (by decide) rfl rfl rfl (Nat.le_of_ble_eq_true rfl) (Nat.le_of_ble_eq_true rfl) (hW _ S) (fun r6 H6 q6 => ?_)
    obtain ⟨m6, γ6, t6, rfl, S, hW⟩ := q6
    show wp _ _ _ _ _ [] _ _
    refine wp_g (n := 1) (pc' := 31) (L' := [some (.ref 0), some (.int (iI v1))]) (st' := [.ref 0]) rfl ?_
    refine wp_getf (v := .ref 103) rfl rfl (S.cell 0 (nc rfl)) (by decide) rfl ?_
    refine wp_cv (As := []) (rest := []) rfl rfl (S.cell 103 (nc rfl)) (by decide) rfl rfl rfl (Nat.le_of_ble_eq_true rfl) (Nat.le_of_ble_eq_true rfl) (hW _ S) (fun r7 H7 q7 => ?_)
    obtain ⟨v7, m7, γ7, t7, rfl, hv7, S, hW⟩ := q7
    show wp _ _ _ _ _ [.int (iI v7)] _ _
    exact wp_iret rfl rfl ⟨_, _, _, _, rfl, hv7, S, hW⟩
  · have dc3 := (Classical.not_not.mp c3)
    have hW := hW.1 dc3
    refine wp_g (n := 1) (pc' := 16) (L' := [some (.ref 0), some (.int (iI v1))]) (st' := [.int (iI (-1))]) rfl ?_
    exact wp_iret rfl rfl ⟨_, _, _, _, rfl, (by decide), S, hW⟩
abbrev W_X8_tell (E : am_E) (k : Nat) (x1 : Int) (x2 : Int) (m : MM) (γ : GM) (t : am_H) (Q : Int → MM → GM → am_H → Prop) : Prop := (TA E k 184 [.ref 0, .int (iI x1)] m γ t (fun o1 m1 γ1 t1 => ((o1 = none → (Q (-2) m1 γ1 t1)) ∧ (∀ a1, o1 = some a1 → (isg a1 ∧ (TI E k 177 [.int (iI x2)] m1 γ1 t1 (fun v2 m2 γ2 t2 => (((v2 = 0) → (Q (-2) m2 γ2 t2)) ∧ (¬ (v2 = 0) → (((x2 = 0) → (TV E k 51 [.ref 101, .ref a1] m2 γ2 t2 (fun m8 γ8 t8 => (TI E k 49 [.ref 101] m8 γ8 t8 (fun v9 m9 γ9 t9 => (Q v9 m9 γ9 t9)))))) ∧ (¬ (x2 = 0) → (TA E k 186 [.ref 0, .ref a1] m2 γ2 t2 (fun o5 m5 γ5 t5 => o5 = some 10 ∧ (TV E k 52 [.ref 101, .ref 10, .ref a1] m5 γ5 t5 (fun m6 γ6 t6 => (TI E k 49 [.ref 101] m6 γ6 t6 (fun v7 m7 γ7 t7 => (Q v7 m7 γ7 t7))))))))))))))))))
theorem vc_X8_tell {E : am_E} {k : Nat} {x1 : Int} {x2 : Int} {m : MM} {γ : GM} {t : am_H} {Q : Int → MM → GM → am_H → Prop} (hx1 : rJ x1) (hx2 : rJ x2) (hW : W_X8_tell E k x1 x2 m γ t Q) : TI E (k + 1) 174 [.ref 0, .int (iI x1), .int (iI x2)] m γ t Q := by
  unfold W_X8_tell at hW
  intro h S
  refine wp_g (n := 2) (pc' := 2) (L' := [some (.ref 0), some (.int (iI x1)), some (.int (iI x2)), none]) (st' := [.int (iI x1), .ref 0]) rfl ?_
  refine wp_cv (As := [.int (iI x1)]) (rest := []) rfl rfl (S.cell 0 (nc rfl)) (by decide) rfl rfl rfl (Nat.le_of_ble_eq_true rfl) (Nat.le_of_ble_eq_true rfl) (hW _ S) (fun r1 H1 q1 => ?_)
  obtain ⟨o1, m1, γ1, t1, rfl, S, hW⟩ := q1
  cases o1 with
  | none =>
    have hW := hW.1 rfl
    show wp _ _ _ _ _ [.null] _ _
    refine wp_g (n := 2) (pc' := 7) (L' := [some (.ref 0), some (.int (iI x1)), some (.int (iI x2)), some (.null)]) (st' := [.null]) rfl ?_
    refine wp_g (n := 1) (pc' := 17) (L' := [some (.ref 0), some (.int (iI x1)), some (.int (iI x2)), some (.null)]) (st' := []) rfl ?_
    refine wp_g (n := 1) (pc' := 19) (L' := [some (.ref 0), some (.int (iI x1)), some (.int (iI x2)), some (.null)]) (st' := [.int (iI (-2))]) rfl ?_
    exact wp_iret rfl rfl ⟨_, _, _, _, rfl, (by decide), S, hW⟩
  | some a1 =>
    obtain ⟨hg1, hW⟩ := hW.2 _ rfl
    show wp _ _ _ _ _ [.ref a1] _ _
    refine wp_g (n := 2) (pc' := 7) (L' := [some (.ref 0), some (.int (iI x1)), some (.int (iI x2)), some (.ref a1)]) (st' := [.ref a1]) rfl ?_
    refine wp_g (n := 1) (pc' := 10) (L' := [some (.ref 0), some (.int (iI x1)), some (.int (iI x2)), some (.ref a1)]) (st' := []) rfl ?_
    refine wp_g (n := 1) (pc' := 11) (L' := [some (.ref 0), some (.int (iI x1)), some (.int (iI x2)), some (.ref a1)]) (st' := [.int (iI x2)]) rfl ?_
    refine wp_cs (As := [.int (iI x2)]) (rest := []) rfl rfl rfl rfl (Nat.le_of_ble_eq_true rfl) (Nat.le_of_ble_eq_true rfl) (hW _ S) (fun r2 H2 q2 => ?_)
    obtain ⟨v2, m2, γ2, t2, rfl, hv2, S, hW⟩ := q2
    show wp _ _ _ _ _ [.int (iI v2)] _ _
    refine wp_ifI (a := v2) rfl rfl hv2.1 hv2.2 (fun c3 => ?_) (fun c3 => ?_)
    · have dc3 := c3
      have hW := hW.2 dc3
      refine wp_g (n := 1) (pc' := 21) (L' := [some (.ref 0), some (.int (iI x1)), some (.int (iI x2)), some (.ref a1)]) (st' := [.int (iI x2)]) rfl ?_
      refine wp_ifI (a := x2) rfl rfl hx2.1 hx2.2 (fun c4 => ?_) (fun c4 => ?_)
      · have dc4 := c4
        have hW := hW.2 dc4
        refine wp_g (n := 1) (pc' := 36) (L' := [some (.ref 0), some (.int (iI x1)), some (.int (iI x2)), some (.ref a1)]) (st' := [.ref 0]) rfl ?_
        refine wp_getf (v := .ref 101) rfl rfl (S.cell 0 (nc rfl)) (by decide) rfl ?_
        refine wp_g (n := 2) (pc' := 41) (L' := [some (.ref 0), some (.int (iI x1)), some (.int (iI x2)), some (.ref a1)]) (st' := [.ref a1, .ref 0, .ref 101]) rfl ?_
        refine wp_cv (As := [.ref a1]) (rest := [.ref 101]) rfl rfl (S.cell 0 (nc rfl)) (by decide) rfl rfl rfl (Nat.le_of_ble_eq_true rfl) (Nat.le_of_ble_eq_true rfl) (hW _ S) (fun r5 H5 q5 => ?_)
        obtain ⟨o5, m5, γ5, t5, rfl, S, hW⟩ := q5
        obtain ⟨rfl, hW⟩ := hW
        show wp _ _ _ _ _ [.ref 10, .ref 101] _ _
        refine wp_g (n := 1) (pc' := 45) (L' := [some (.ref 0), some (.int (iI x1)), some (.int (iI x2)), some (.ref a1)]) (st' := [.ref a1, .ref 10, .ref 101]) rfl ?_
        refine wp_cv (As := [.ref 10, .ref a1]) (rest := []) rfl rfl (S.cell 101 (nc rfl)) (by decide) rfl rfl rfl (Nat.le_of_ble_eq_true rfl) (Nat.le_of_ble_eq_true rfl) (hW _ S) (fun r6 H6 q6 => ?_)
        obtain ⟨m6, γ6, t6, rfl, S, hW⟩ := q6
        show wp _ _ _ _ _ [] _ _
        refine wp_g (n := 1) (pc' := 49) (L' := [some (.ref 0), some (.int (iI x1)), some (.int (iI x2)), some (.ref a1)]) (st' := [.ref 0]) rfl ?_
        refine wp_getf (v := .ref 101) rfl rfl (S.cell 0 (nc rfl)) (by decide) rfl ?_
        refine wp_cv (As := []) (rest := []) rfl rfl (S.cell 101 (nc rfl)) (by decide) rfl rfl rfl (Nat.le_of_ble_eq_true rfl) (Nat.le_of_ble_eq_true rfl) (hW _ S) (fun r7 H7 q7 => ?_)
        obtain ⟨v7, m7, γ7, t7, rfl, hv7, S, hW⟩ := q7
        show wp _ _ _ _ _ [.int (iI v7)] _ _
        exact wp_iret rfl rfl ⟨_, _, _, _, rfl, hv7, S, hW⟩
      · have dc4 := (Classical.not_not.mp c4)
        have hW := hW.1 dc4
        refine wp_g (n := 1) (pc' := 25) (L' := [some (.ref 0), some (.int (iI x1)), some (.int (iI x2)), some (.ref a1)]) (st' := [.ref 0]) rfl ?_
        refine wp_getf (v := .ref 101) rfl rfl (S.cell 0 (nc rfl)) (by decide) rfl ?_
        refine wp_g (n := 1) (pc' := 29) (L' := [some (.ref 0), some (.int (iI x1)), some (.int (iI x2)), some (.ref a1)]) (st' := [.ref a1, .ref 101]) rfl ?_
        refine wp_cv (As := [.ref a1]) (rest := []) rfl rfl (S.cell 101 (nc rfl)) (by decide) rfl rfl rfl (Nat.le_of_ble_eq_true rfl) (Nat.le_of_ble_eq_true rfl) (hW _ S) (fun r8 H8 q8 => ?_)
        obtain ⟨m8, γ8, t8, rfl, S, hW⟩ := q8
        show wp _ _ _ _ _ [] _ _
        refine wp_g (n := 2) (pc' := 49) (L' := [some (.ref 0), some (.int (iI x1)), some (.int (iI x2)), some (.ref a1)]) (st' := [.ref 0]) rfl ?_
        refine wp_getf (v := .ref 101) rfl rfl (S.cell 0 (nc rfl)) (by decide) rfl ?_
        refine wp_cv (As := []) (rest := []) rfl rfl (S.cell 101 (nc rfl)) (by decide) rfl rfl rfl (Nat.le_of_ble_eq_true rfl) (Nat.le_of_ble_eq_true rfl) (hW _ S) (fun r9 H9 q9 => ?_)
        obtain ⟨v9, m9, γ9, t9, rfl, hv9, S, hW⟩ := q9
        show wp _ _ _ _ _ [.int (iI v9)] _ _
        exact wp_iret rfl rfl ⟨_, _, _, _, rfl, hv9, S, hW⟩
    · have dc3 := (Classical.not_not.mp c3)
      have hW := hW.1 dc3
      refine wp_g (n := 1) (pc' := 19) (L' := [some (.ref 0), some (.int (iI x1)), some (.int (iI x2)), some (.ref a1)]) (st' := [.int (iI (-2))]) rfl ?_
      exact wp_iret rfl rfl ⟨_, _, _, _, rfl, (by decide), S, hW⟩
abbrev W_X8_octet (E : am_E) (k : Nat) (x1 : Int) (m : MM) (γ : GM) (t : am_H) (Q : Int → MM → GM → am_H → Prop) : Prop := (TI E k 50 [.ref 101, .int (iI x1)] m γ t (fun v1 m1 γ1 t1 => (Q v1 m1 γ1 t1)))
theorem vc_X8_octet {E : am_E} {k : Nat} {x1 : Int} {m : MM} {γ : GM} {t : am_H} {Q : Int → MM → GM → am_H → Prop} (hx1 : rJ x1) (hW : W_X8_octet E k x1 m γ t Q) : TI E (k + 1) 175 [.ref 0, .int (iI x1)] m γ t Q := by
  unfold W_X8_octet at hW
  intro h S
  refine wp_g (n := 1) (pc' := 1) (L' := [some (.ref 0), some (.int (iI x1))]) (st' := [.ref 0]) rfl ?_
  refine wp_getf (v := .ref 101) rfl rfl (S.cell 0 (nc rfl)) (by decide) rfl ?_
  refine wp_g (n := 1) (pc' := 5) (L' := [some (.ref 0), some (.int (iI x1))]) (st' := [.int (iI x1), .ref 101]) rfl ?_
  refine wp_cv (As := [.int (iI x1)]) (rest := []) rfl rfl (S.cell 101 (nc rfl)) (by decide) rfl rfl rfl (Nat.le_of_ble_eq_true rfl) (Nat.le_of_ble_eq_true rfl) (hW _ S) (fun r1 H1 q1 => ?_)
  obtain ⟨v1, m1, γ1, t1, rfl, hv1, S, hW⟩ := q1
  show wp _ _ _ _ _ [.int (iI v1)] _ _
  exact wp_iret rfl rfl ⟨_, _, _, _, rfl, hv1, S, hW⟩
