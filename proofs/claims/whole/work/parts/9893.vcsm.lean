abbrev W_X8_smoothB (E : am_E) (k : Nat) (x1 : Int) (x2 : Int) (m : MM) (γ : GM) (t : am_H) (Q : Int → MM → GM → am_H → Prop) : Prop := (TA E k 184 [.ref 0, .int (iI x1)] m γ t (fun o1 m1 γ1 t1 => ((o1 = none → (Q (-1000000000) m1 γ1 t1)) ∧ (∀ a1, o1 = some a1 → (isg a1 ∧ (TI E k 180 [.ref a1, .int (iI x2)] m1 γ1 t1 (fun v2 m2 γ2 t2 => (((v2 = 0) → (Q (-1000000000) m2 γ2 t2)) ∧ (¬ (v2 = 0) → (TV E k 59 [.ref 28, .ref a1] m2 γ2 t2 (fun m4 γ4 t4 => (TA E k 186 [.ref 0, .ref a1] m4 γ4 t4 (fun o5 m5 γ5 t5 => o5 = some 10 ∧ (TI E k 115 [.ref 10] m5 γ5 t5 (fun v6 m6 γ6 t6 => (TL E k 61 [.ref 28, .int (iI (x2 + (3 * v6)))] m6 γ6 t6 (fun v7 m7 γ7 t7 => ((((bAnd v6 1) = 0) → (Q v7 m7 γ7 t7)) ∧ (¬ ((bAnd v6 1) = 0) → (rK (-v7) ∧ (Q (-v7) m7 γ7 t7)))))))))))))))))))))
theorem vc_X8_smoothB {E : am_E} {k : Nat} {x1 : Int} {x2 : Int} {m : MM} {γ : GM} {t : am_H} {Q : Int → MM → GM → am_H → Prop} (hx1 : rJ x1) (hx2 : rJ x2) (hW : W_X8_smoothB E k x1 x2 m γ t Q) : TL E (k + 1) 157 [.ref 0, .int (iI x1), .int (iI x2)] m γ t Q := by
  unfold W_X8_smoothB at hW
  intro h S
  refine wp_g (n := 2) (pc' := 2) (L' := [some (.ref 0), some (.int (iI x1)), some (.int (iI x2)), none, none, none, none]) (st' := [.int (iI x1), .ref 0]) rfl ?_
  refine wp_cv (As := [.int (iI x1)]) (rest := []) rfl rfl (S.cell 0 (nc rfl)) (by decide) rfl rfl rfl (Nat.le_of_ble_eq_true rfl) (Nat.le_of_ble_eq_true rfl) (hW _ S) (fun r1 H1 q1 => ?_)
  obtain ⟨o1, m1, γ1, t1, rfl, S, hW⟩ := q1
  cases o1 with
  | none =>
    have hW := hW.1 rfl
    show wp _ _ _ _ _ [.null] _ _
    refine wp_g (n := 2) (pc' := 7) (L' := [some (.ref 0), some (.int (iI x1)), some (.int (iI x2)), some (.null), none, none, none]) (st' := [.null]) rfl ?_
    refine wp_g (n := 1) (pc' := 18) (L' := [some (.ref 0), some (.int (iI x1)), some (.int (iI x2)), some (.null), none, none, none]) (st' := []) rfl ?_
    refine wp_g (n := 1) (pc' := 21) (L' := [some (.ref 0), some (.int (iI x1)), some (.int (iI x2)), some (.null), none, none, none]) (st' := [.long (lI (-1000000000))]) rfl ?_
    exact wp_lret rfl rfl ⟨_, _, _, _, rfl, (by decide), S, hW⟩
  | some a1 =>
    obtain ⟨hg1, hW⟩ := hW.2 _ rfl
    show wp _ _ _ _ _ [.ref a1] _ _
    refine wp_g (n := 2) (pc' := 7) (L' := [some (.ref 0), some (.int (iI x1)), some (.int (iI x2)), some (.ref a1), none, none, none]) (st' := [.ref a1]) rfl ?_
    refine wp_g (n := 1) (pc' := 10) (L' := [some (.ref 0), some (.int (iI x1)), some (.int (iI x2)), some (.ref a1), none, none, none]) (st' := []) rfl ?_
    refine wp_g (n := 2) (pc' := 12) (L' := [some (.ref 0), some (.int (iI x1)), some (.int (iI x2)), some (.ref a1), none, none, none]) (st' := [.int (iI x2), .ref a1]) rfl ?_
    refine wp_cs (As := [.ref a1, .int (iI x2)]) (rest := []) rfl rfl rfl rfl (Nat.le_of_ble_eq_true rfl) (Nat.le_of_ble_eq_true rfl) (hW _ S) (fun r2 H2 q2 => ?_)
    obtain ⟨v2, m2, γ2, t2, rfl, hv2, S, hW⟩ := q2
    show wp _ _ _ _ _ [.int (iI v2)] _ _
    refine wp_ifI (a := v2) rfl rfl hv2.1 hv2.2 (fun c3 => ?_) (fun c3 => ?_)
    · have dc3 := c3
      have hW := hW.2 dc3
      refine wp_g (n := 1) (pc' := 23) (L' := [some (.ref 0), some (.int (iI x1)), some (.int (iI x2)), some (.ref a1), none, none, none]) (st' := [.ref 0]) rfl ?_
      refine wp_getf (v := .ref 28) rfl rfl (S.cell 0 (nc rfl)) (by decide) rfl ?_
      refine wp_g (n := 1) (pc' := 27) (L' := [some (.ref 0), some (.int (iI x1)), some (.int (iI x2)), some (.ref a1), none, none, none]) (st' := [.ref a1, .ref 28]) rfl ?_
      refine wp_cv (As := [.ref a1]) (rest := []) rfl rfl (S.cell 28 (nc rfl)) (by decide) rfl rfl rfl (Nat.le_of_ble_eq_true rfl) (Nat.le_of_ble_eq_true rfl) (hW _ S) (fun r4 H4 q4 => ?_)
      obtain ⟨m4, γ4, t4, rfl, S, hW⟩ := q4
      show wp _ _ _ _ _ [] _ _
      refine wp_g (n := 2) (pc' := 32) (L' := [some (.ref 0), some (.int (iI x1)), some (.int (iI x2)), some (.ref a1), none, none, none]) (st' := [.ref a1, .ref 0]) rfl ?_
      refine wp_cv (As := [.ref a1]) (rest := []) rfl rfl (S.cell 0 (nc rfl)) (by decide) rfl rfl rfl (Nat.le_of_ble_eq_true rfl) (Nat.le_of_ble_eq_true rfl) (hW _ S) (fun r5 H5 q5 => ?_)
      obtain ⟨o5, m5, γ5, t5, rfl, S, hW⟩ := q5
      obtain ⟨rfl, hW⟩ := hW
      show wp _ _ _ _ _ [.ref 10] _ _
      refine wp_cv (As := []) (rest := []) rfl rfl (S.cell 10 (nc rfl)) (by decide) rfl rfl rfl (Nat.le_of_ble_eq_true rfl) (Nat.le_of_ble_eq_true rfl) (hW _ S) (fun r6 H6 q6 => ?_)
      obtain ⟨v6, m6, γ6, t6, rfl, hv6, S, hW⟩ := q6
      show wp _ _ _ _ _ [.int (iI v6)] _ _
      refine wp_g (n := 2) (pc' := 41) (L' := [some (.ref 0), some (.int (iI x1)), some (.int (iI x2)), some (.ref a1), some (.int (iI v6)), none, none]) (st' := [.ref 0]) rfl ?_
      refine wp_getf (v := .ref 28) rfl rfl (S.cell 0 (nc rfl)) (by decide) rfl ?_
      refine wp_g (n := 3) (pc' := 48) (L' := [some (.ref 0), some (.int (iI x1)), some (.int (iI x2)), some (.ref a1), some (.int (iI v6)), none, none]) (st' := [.int (iI v6), .int (iI 3), .int (iI x2), .ref 28]) rfl ?_
      refine wp_mul (a := 3) (b := v6) rfl ?_
      refine wp_add (a := x2) (b := (3 * v6)) rfl ?_
      refine wp_cv (As := [.int (iI (x2 + (3 * v6)))]) (rest := []) rfl rfl (S.cell 28 (nc rfl)) (by decide) rfl rfl rfl (Nat.le_of_ble_eq_true rfl) (Nat.le_of_ble_eq_true rfl) (hW _ S) (fun r7 H7 q7 => ?_)
      obtain ⟨v7, m7, γ7, t7, rfl, hv7, S, hW⟩ := q7
      show wp _ _ _ _ _ [.long (lI v7)] _ _
      refine wp_g (n := 3) (pc' := 58) (L' := [some (.ref 0), some (.int (iI x1)), some (.int (iI x2)), some (.ref a1), some (.int (iI v6)), some (.long (lI v7)), none]) (st' := [.int (iI 1), .int (iI v6)]) rfl ?_
      refine wp_bAnd (a := v6) (b := 1) rfl ?_
      have hr8 : rJ (bAnd v6 1) := i32_rg _
      refine wp_ifI (a := (bAnd v6 1)) rfl rfl hr8.1 hr8.2 (fun c9 => ?_) (fun c9 => ?_)
      · have dc9 := c9
        have hW := hW.2 dc9
        refine wp_g (n := 1) (pc' := 69) (L' := [some (.ref 0), some (.int (iI x1)), some (.int (iI x2)), some (.ref a1), some (.int (iI v6)), some (.long (lI v7)), none]) (st' := [.long (lI v7)]) rfl ?_
        refine wp_lneg (a := v7) rfl ?_
        obtain ⟨p10, hW⟩ := hW
        exact wp_lret rfl rfl ⟨_, _, _, _, rfl, p10, S, hW⟩
      · have dc9 := (Classical.not_not.mp c9)
        have hW := hW.1 dc9
        refine wp_g (n := 2) (pc' := 70) (L' := [some (.ref 0), some (.int (iI x1)), some (.int (iI x2)), some (.ref a1), some (.int (iI v6)), some (.long (lI v7)), none]) (st' := [.long (lI v7)]) rfl ?_
        exact wp_lret rfl rfl ⟨_, _, _, _, rfl, hv7, S, hW⟩
    · have dc3 := (Classical.not_not.mp c3)
      have hW := hW.1 dc3
      refine wp_g (n := 1) (pc' := 21) (L' := [some (.ref 0), some (.int (iI x1)), some (.int (iI x2)), some (.ref a1), none, none, none]) (st' := [.long (lI (-1000000000))]) rfl ?_
      exact wp_lret rfl rfl ⟨_, _, _, _, rfl, (by decide), S, hW⟩
theorem and1 (x : Int32) : (x &&& 1).toInt = x.toInt % 2 := by
  have h1 : (x &&& 1).toBitVec.toNat = x.toBitVec.toNat % 2 := by
    rw [Int32.toBitVec_and, BitVec.toNat_and]
    exact Nat.and_two_pow_sub_one_eq_mod x.toBitVec.toNat 1
  have h2 : (x &&& 1).toInt = (x &&& 1).toBitVec.toInt := rfl
  have h3 : x.toInt = x.toBitVec.toInt := rfl
  rw [h2, h3, BitVec.toInt_eq_toNat_bmod, BitVec.toInt_eq_toNat_bmod, h1]
  have h4 : x.toBitVec.toNat < 2 ^ 32 := x.toBitVec.isLt
  generalize x.toBitVec.toNat = n at *
  unfold Int.bmod
  simp only
  split <;> split <;> omega
theorem bAnd1 {z : Int} (h : rJ z) : bAnd z 1 = z % 2 := by
  have := and1 (iI z)
  rw [iI_toInt h.1 h.2] at this
  exact this
