abbrev W_X9_in (E : am_E) (k : Nat) (x1 : Int) (x2 : Int) (x3 : Int) (m : MM) (γ : GM) (t : am_H) (Q : Int → MM → GM → am_H → Prop) : Prop := ((((lcI x1 x2) < 0) → (Q 0 m γ t)) ∧ (¬ ((lcI x1 x2) < 0) → ((((lcI x1 x3) ≤ 0) → (Q 1 m γ t)) ∧ (¬ ((lcI x1 x3) ≤ 0) → (Q 0 m γ t)))))
theorem vc_X9_in {E : am_E} {k : Nat} {x1 : Int} {x2 : Int} {x3 : Int} {m : MM} {γ : GM} {t : am_H} {Q : Int → MM → GM → am_H → Prop} (hx1 : rK x1) (hx2 : rK x2) (hx3 : rK x3) (hW : W_X9_in E k x1 x2 x3 m γ t Q) : TI E k 192 [.long (lI x1), .long (lI x2), .long (lI x3)] m γ t Q := by
  unfold W_X9_in at hW
  intro h S
  refine wp_g (n := 2) (pc' := 2) (L' := [some (.long (lI x1)), none, some (.long (lI x2)), none, some (.long (lI x3)), none]) (st' := [.long (lI x2), .long (lI x1)]) rfl ?_
  refine wp_lcmp (a := x1) (b := x2) rfl hx1 hx2 ?_
  have hr1 : rJ (lcI x1 x2) := lcI_rg _ _
  refine wp_ifI (a := (lcI x1 x2)) rfl rfl hr1.1 hr1.2 (fun c2 => ?_) (fun c2 => ?_)
  · have dc2 := c2
    have hW := hW.1 dc2
    refine wp_g (n := 1) (pc' := 18) (L' := [some (.long (lI x1)), none, some (.long (lI x2)), none, some (.long (lI x3)), none]) (st' := [.int (iI 0)]) rfl ?_
    exact wp_zret rfl rfl (by decide) ⟨_, _, _, _, rfl, (by decide), S, hW⟩
  · have dc2 := c2
    have hW := hW.2 dc2
    refine wp_g (n := 2) (pc' := 9) (L' := [some (.long (lI x1)), none, some (.long (lI x2)), none, some (.long (lI x3)), none]) (st' := [.long (lI x3), .long (lI x1)]) rfl ?_
    refine wp_lcmp (a := x1) (b := x3) rfl hx1 hx3 ?_
    have hr3 : rJ (lcI x1 x3) := lcI_rg _ _
    refine wp_ifI (a := (lcI x1 x3)) rfl rfl hr3.1 hr3.2 (fun c4 => ?_) (fun c4 => ?_)
    · have dc4 := (Int.not_le.mpr c4)
      have hW := hW.2 dc4
      refine wp_g (n := 1) (pc' := 18) (L' := [some (.long (lI x1)), none, some (.long (lI x2)), none, some (.long (lI x3)), none]) (st' := [.int (iI 0)]) rfl ?_
      exact wp_zret rfl rfl (by decide) ⟨_, _, _, _, rfl, (by decide), S, hW⟩
    · have dc4 := (Int.not_lt.mp c4)
      have hW := hW.1 dc4
      refine wp_g (n := 2) (pc' := 18) (L' := [some (.long (lI x1)), none, some (.long (lI x2)), none, some (.long (lI x3)), none]) (st' := [.int (iI 1)]) rfl ?_
      exact wp_zret rfl rfl (by decide) ⟨_, _, _, _, rfl, (by decide), S, hW⟩
abbrev W_X9_isSlot (E : am_E) (k : Nat) (x1 : Int) (m : MM) (γ : GM) (t : am_H) (Q : Int → MM → GM → am_H → Prop) : Prop := (TI E k 192 [.long (lI x1), .long (lI 0), .long (lI 2)] m γ t (fun v1 m1 γ1 t1 => ((v1 = 0 ∨ v1 = 1) ∧ (Q v1 m1 γ1 t1))))
theorem vc_X9_isSlot {E : am_E} {k : Nat} {x1 : Int} {m : MM} {γ : GM} {t : am_H} {Q : Int → MM → GM → am_H → Prop} (hx1 : rJ x1) (hW : W_X9_isSlot E k x1 m γ t Q) : TI E (k + 1) 194 [.int (iI x1)] m γ t Q := by
  unfold W_X9_isSlot at hW
  intro h S
  refine wp_g (n := 1) (pc' := 1) (L' := [some (.int (iI x1))]) (st' := [.int (iI x1)]) rfl ?_
  refine wp_i2l (a := x1) rfl hx1 ?_
  refine wp_g (n := 2) (pc' := 6) (L' := [some (.int (iI x1))]) (st' := [.long (lI 2), .long (lI 0), .long (lI x1)]) rfl ?_
  refine wp_cs (As := [.long (lI x1), .long (lI 0), .long (lI 2)]) (rest := []) rfl rfl rfl rfl (Nat.le_of_ble_eq_true rfl) (Nat.le_of_ble_eq_true rfl) (hW _ S) (fun r1 H1 q1 => ?_)
  obtain ⟨v1, m1, γ1, t1, rfl, hv1, S, hW⟩ := q1
  show wp _ _ _ _ _ [.int (iI v1)] _ _
  obtain ⟨p2, hW⟩ := hW
  exact wp_zret rfl rfl p2 ⟨_, _, _, _, rfl, hv1, S, hW⟩
abbrev W_X9_isGrid (E : am_E) (k : Nat) (x1 : Int) (m : MM) (γ : GM) (t : am_H) (Q : Int → MM → GM → am_H → Prop) : Prop := (TI E k 194 [.int (iI x1)] m γ t (fun v1 m1 γ1 t1 => (((v1 = 0) → (Q 0 m1 γ1 t1)) ∧ (¬ (v1 = 0) → ((0 ≤ (26 * x1) ∧ (26 * x1) < 78) ∧ ((((m1 159 (((26 * x1)).toNat)) ≤ 0) → (Q 0 m1 γ1 t1)) ∧ (¬ ((m1 159 (((26 * x1)).toNat)) ≤ 0) → (Q 1 m1 γ1 t1))))))))
theorem vc_X9_isGrid {E : am_E} {k : Nat} {x1 : Int} {m : MM} {γ : GM} {t : am_H} {Q : Int → MM → GM → am_H → Prop} (hx1 : rJ x1) (hW : W_X9_isGrid E k x1 m γ t Q) : TI E (k + 1) 195 [.ref 158, .int (iI x1)] m γ t Q := by
  unfold W_X9_isGrid at hW
  intro h S
  refine wp_g (n := 1) (pc' := 1) (L' := [some (.ref 158), some (.int (iI x1))]) (st' := [.int (iI x1)]) rfl ?_
  refine wp_cs (As := [.int (iI x1)]) (rest := []) rfl rfl rfl rfl (Nat.le_of_ble_eq_true rfl) (Nat.le_of_ble_eq_true rfl) (hW _ S) (fun r1 H1 q1 => ?_)
  obtain ⟨v1, m1, γ1, t1, rfl, hv1, S, hW⟩ := q1
  show wp _ _ _ _ _ [.int (iI v1)] _ _
  refine wp_ifI (a := v1) rfl rfl hv1.1 hv1.2 (fun c2 => ?_) (fun c2 => ?_)
  · have dc2 := c2
    have hW := hW.1 dc2
    refine wp_g (n := 1) (pc' := 24) (L' := [some (.ref 158), some (.int (iI x1))]) (st' := [.int (iI 0)]) rfl ?_
    exact wp_zret rfl rfl (by decide) ⟨_, _, _, _, rfl, (by decide), S, hW⟩
  · have dc2 := c2
    have hW := hW.2 dc2
    refine wp_g (n := 1) (pc' := 8) (L' := [some (.ref 158), some (.int (iI x1))]) (st' := [.ref 158]) rfl ?_
    refine wp_getf (v := .ref 159) rfl rfl (S.cell 158 (nc rfl)) (by decide) rfl ?_
    refine wp_g (n := 2) (pc' := 14) (L' := [some (.ref 158), some (.int (iI x1))]) (st' := [.int (iI x1), .int (iI 26), .ref 159]) rfl ?_
    refine wp_mul (a := 26) (b := x1) rfl ?_
    obtain ⟨p3, hW⟩ := hW
    refine wp_iald (n := 78) (F := (m1 159)) rfl (S.cell 159 (nc rfl)) (by decide) p3.1 p3.2 (by decide) ?_
    show wp _ _ _ _ _ [.int (iI (m1 159 (((26 * x1)).toNat)))] _ _
    have hr4 : rJ (m1 159 (((26 * x1)).toNat)) := S.rg 159 (((26 * x1)).toNat) (nl rfl)
    refine wp_ifI (a := (m1 159 (((26 * x1)).toNat))) rfl rfl hr4.1 hr4.2 (fun c5 => ?_) (fun c5 => ?_)
    · have dc5 := c5
      have hW := hW.1 dc5
      refine wp_g (n := 1) (pc' := 24) (L' := [some (.ref 158), some (.int (iI x1))]) (st' := [.int (iI 0)]) rfl ?_
      exact wp_zret rfl rfl (by decide) ⟨_, _, _, _, rfl, (by decide), S, hW⟩
    · have dc5 := c5
      have hW := hW.2 dc5
      refine wp_g (n := 2) (pc' := 24) (L' := [some (.ref 158), some (.int (iI x1))]) (st' := [.int (iI 1)]) rfl ?_
      exact wp_zret rfl rfl (by decide) ⟨_, _, _, _, rfl, (by decide), S, hW⟩
def hd_X9_remembers_2 (E : am_E) (k : Nat) (y1 : Int) (m : MM) (γ : GM) (t : am_H) (Q : MM → GM → am_H → Prop) : Prop := TT (pV Q) E k 196 2 [some (.ref 158), some (.int (iI y1))] [] m γ t
abbrev W_X9_remembers (E : am_E) (k : Nat) (m : MM) (γ : GM) (t : am_H) (Q : MM → GM → am_H → Prop) : Prop := (hd_X9_remembers_2 E k 0 m γ t Q)
abbrev W_X9_remembers_2 (E : am_E) (k : Nat) (y1 : Int) (m : MM) (γ : GM) (t : am_H) (Q : MM → GM → am_H → Prop) : Prop := (((y1 < 78) → ((0 ≤ y1 ∧ y1 < 78) ∧ ((0 ≤ y1 ∧ y1 < 78) ∧ (hd_X9_remembers_2 E k (y1 + 1) (up m 160 (up (m 160) ((y1).toNat) (m 159 ((y1).toNat)))) γ t Q)))) ∧ (¬ (y1 < 78) → (Q m γ t)))
theorem vc_X9_remembers {E : am_E} {k : Nat} {m : MM} {γ : GM} {t : am_H} {Q : MM → GM → am_H → Prop} (hW : W_X9_remembers E k  m γ t Q) : TV E k 196 [.ref 158] m γ t Q := by
  unfold W_X9_remembers at hW
  intro h S
  refine wp_g (n := 2) (pc' := 2) (L' := [some (.ref 158), some (.int (iI 0))]) (st' := []) rfl ?_
  exact hW _ S
theorem vc_X9_remembers_2 {E : am_E} {k : Nat} {y1 : Int} {m : MM} {γ : GM} {t : am_H} {Q : MM → GM → am_H → Prop} (hy1 : rJ y1) (hW : W_X9_remembers_2 E k y1 m γ t Q) : hd_X9_remembers_2 E k y1 m γ t Q := by
  unfold W_X9_remembers_2 at hW
  intro h S
  refine wp_g (n := 2) (pc' := 5) (L' := [some (.ref 158), some (.int (iI y1))]) (st' := [.int (iI 78), .int (iI y1)]) rfl ?_
  refine wp_icmpI (a := y1) (b := 78) rfl rfl hy1.1 hy1.2 (by decide) (by decide) (fun c1 => ?_) (fun c1 => ?_)
  · have dc1 := (Int.not_lt.mpr c1)
    have hW := hW.2 dc1
    exact wp_vret rfl rfl ⟨_, _, _, rfl, S, hW⟩
  · have dc1 := (Int.not_le.mp c1)
    have hW := hW.1 dc1
    refine wp_g (n := 1) (pc' := 9) (L' := [some (.ref 158), some (.int (iI y1))]) (st' := [.ref 158]) rfl ?_
    refine wp_getf (v := .ref 160) rfl rfl (S.cell 158 (nc rfl)) (by decide) rfl ?_
    refine wp_g (n := 2) (pc' := 14) (L' := [some (.ref 158), some (.int (iI y1))]) (st' := [.ref 158, .int (iI y1), .ref 160]) rfl ?_
    refine wp_getf (v := .ref 159) rfl rfl (S.cell 158 (nc rfl)) (by decide) rfl ?_
    refine wp_g (n := 1) (pc' := 18) (L' := [some (.ref 158), some (.int (iI y1))]) (st' := [.int (iI y1), .ref 159, .int (iI y1), .ref 160]) rfl ?_
    obtain ⟨p2, hW⟩ := hW
    refine wp_iald (n := 78) (F := (m 159)) rfl (S.cell 159 (nc rfl)) (by decide) p2.1 p2.2 (by decide) ?_
    show wp _ _ _ _ _ [.int (iI (m 159 ((y1).toNat))), .int (iI y1), .ref 160] _ _
    have hr3 : rJ (m 159 ((y1).toNat)) := S.rg 159 ((y1).toNat) (nl rfl)
    obtain ⟨p5, hW⟩ := hW
    refine wp_iasF (n := 78) (F := (m 160)) (y := (m 159 ((y1).toNat))) rfl (S.cell 160 (nc rfl)) p5.1 p5.2 (by decide) (fun H4 hl4 hz4 hf4 => ?_)
    have S : ST H4 (up m 160 (up (m 160) ((y1).toNat) (m 159 ((y1).toNat)))) γ t := S.setI 160 (nc rfl) hl4 hz4 hf4 hr3.1 hr3.2
    refine wp_iinc (L' := [some (.ref 158), some (.int (iI (y1 + 1)))]) (a := y1) rfl rfl rfl ?_
    refine wp_g (n := 1) (pc' := 2) (L' := [some (.ref 158), some (.int (iI (y1 + 1)))]) (st' := []) rfl ?_
    exact hW _ S
def hd_X9_keeps_51 (E : am_E) (k : Nat) (x1 : Int) (y1 : Int) (y2 : Int) (m : MM) (γ : GM) (t : am_H) (Q : Int → MM → GM → am_H → Prop) : Prop := TT (pI Q) E k 197 51 [some (.ref 158), some (.int (iI y1)), some (.int (iI y2))] [] m γ t
def hd_X9_keeps_11 (E : am_E) (k : Nat) (x1 : Int) (y1 : Int) (y2 : Int) (m : MM) (γ : GM) (t : am_H) (Q : Int → MM → GM → am_H → Prop) : Prop := TT (pI Q) E k 197 11 [some (.ref 158), some (.int (iI y1)), some (.int (iI y2))] [] m γ t
abbrev W_X9_keeps (E : am_E) (k : Nat) (x1 : Int) (m : MM) (γ : GM) (t : am_H) (Q : Int → MM → GM → am_H → Prop) : Prop := ((((m 158 3) = 10) → (hd_X9_keeps_11 E k x1 x1 0 m γ t Q)) ∧ (¬ ((m 158 3) = 10) → (hd_X9_keeps_51 E k x1 x1 0 m γ t Q)))
abbrev W_X9_keeps_51 (E : am_E) (k : Nat) (x1 : Int) (y1 : Int) (y2 : Int) (m : MM) (γ : GM) (t : am_H) (Q : Int → MM → GM → am_H → Prop) : Prop := (((y2 < 78) → ((0 ≤ y2 ∧ y2 < 78) ∧ ((0 ≤ ((78 * (m 158 3)) + y2) ∧ ((78 * (m 158 3)) + y2) < 780) ∧ (hd_X9_keeps_51 E k x1 y1 (y2 + 1) (up m 161 (up (m 161) ((((78 * (m 158 3)) + y2)).toNat) (m 160 ((y2).toNat)))) γ t Q)))) ∧ (¬ (y2 < 78) → (rJ ((m 158 3) + 1) ∧ (Q y1 (up m 158 (up (m 158) 3 ((m 158 3) + 1))) γ t))))
abbrev W_X9_keeps_11 (E : am_E) (k : Nat) (x1 : Int) (y1 : Int) (y2 : Int) (m : MM) (γ : GM) (t : am_H) (Q : Int → MM → GM → am_H → Prop) : Prop := (((y2 < 702) → ((0 ≤ (y2 + 78) ∧ (y2 + 78) < 780) ∧ ((0 ≤ y2 ∧ y2 < 780) ∧ (hd_X9_keeps_11 E k x1 y1 (y2 + 1) (up m 161 (up (m 161) ((y2).toNat) (m 161 (((y2 + 78)).toNat)))) γ t Q)))) ∧ (¬ (y2 < 702) → (rJ ((m 158 3) - 1) ∧ (hd_X9_keeps_51 E k x1 y1 0 (up m 158 (up (m 158) 3 ((m 158 3) - 1))) γ t Q))))
theorem vc_X9_keeps {E : am_E} {k : Nat} {x1 : Int} {m : MM} {γ : GM} {t : am_H} {Q : Int → MM → GM → am_H → Prop} (hx1 : rJ x1) (hW : W_X9_keeps E k x1 m γ t Q) : TI E k 197 [.ref 158, .int (iI x1)] m γ t Q := by
  unfold W_X9_keeps at hW
  intro h S
  refine wp_g (n := 1) (pc' := 1) (L' := [some (.ref 158), some (.int (iI x1)), none]) (st' := [.ref 158]) rfl ?_
  refine wp_getf (v := .int (iI (m 158 3))) rfl rfl (S.cell 158 (nc rfl)) (by decide) rfl ?_
  have hr1 : rJ (m 158 3) := S.rg 158 3 (nl rfl)
  refine wp_g (n := 1) (pc' := 6) (L' := [some (.ref 158), some (.int (iI x1)), none]) (st' := [.int (iI 10), .int (iI (m 158 3))]) rfl ?_
  refine wp_icmpI (a := (m 158 3)) (b := 10) rfl rfl hr1.1 hr1.2 (by decide) (by decide) (fun c2 => ?_) (fun c2 => ?_)
  · have dc2 := c2
    have hW := hW.2 dc2
    refine wp_g (n := 2) (pc' := 51) (L' := [some (.ref 158), some (.int (iI x1)), some (.int (iI 0))]) (st' := []) rfl ?_
    exact hW _ S
  · have dc2 := (Classical.not_not.mp c2)
    have hW := hW.1 dc2
    refine wp_g (n := 2) (pc' := 11) (L' := [some (.ref 158), some (.int (iI x1)), some (.int (iI 0))]) (st' := []) rfl ?_
    exact hW _ S
theorem vc_X9_keeps_51 {E : am_E} {k : Nat} {x1 : Int} {y1 : Int} {y2 : Int} {m : MM} {γ : GM} {t : am_H} {Q : Int → MM → GM → am_H → Prop} (hx1 : rJ x1) (hy1 : rJ y1) (hy2 : rJ y2) (hW : W_X9_keeps_51 E k x1 y1 y2 m γ t Q) : hd_X9_keeps_51 E k x1 y1 y2 m γ t Q := by
  unfold W_X9_keeps_51 at hW
  intro h S
  refine wp_g (n := 2) (pc' := 54) (L' := [some (.ref 158), some (.int (iI y1)), some (.int (iI y2))]) (st' := [.int (iI 78), .int (iI y2)]) rfl ?_
  refine wp_icmpI (a := y2) (b := 78) rfl rfl hy2.1 hy2.2 (by decide) (by decide) (fun c1 => ?_) (fun c1 => ?_)
  · have dc1 := (Int.not_lt.mpr c1)
    have hW := hW.2 dc1
    refine wp_g (n := 2) (pc' := 85) (L' := [some (.ref 158), some (.int (iI y1)), some (.int (iI y2))]) (st' := [.ref 158, .ref 158]) rfl ?_
    refine wp_getf (v := .int (iI (m 158 3))) rfl rfl (S.cell 158 (nc rfl)) (by decide) rfl ?_
    have hr2 : rJ (m 158 3) := S.rg 158 3 (nl rfl)
    refine wp_g (n := 1) (pc' := 89) (L' := [some (.ref 158), some (.int (iI y1)), some (.int (iI y2))]) (st' := [.int (iI 1), .int (iI (m 158 3)), .ref 158]) rfl ?_
    refine wp_add (a := (m 158 3)) (b := 1) rfl ?_
    obtain ⟨p4, hW⟩ := hW
    refine wp_putI rfl rfl (S.cell 158 (nc rfl)) (Nat.le_of_ble_eq_true rfl) rfl (fun H3 hl3 hz3 hf3 => ?_)
    have S : ST H3 (up m 158 (up (m 158) 3 ((m 158 3) + 1))) γ t := S.setI 158 (nc rfl) hl3 hz3 hf3 p4.1 p4.2
    refine wp_g (n := 1) (pc' := 94) (L' := [some (.ref 158), some (.int (iI y1)), some (.int (iI y2))]) (st' := [.int (iI y1)]) rfl ?_
    exact wp_iret rfl rfl ⟨_, _, _, _, rfl, hy1, S, hW⟩
  · have dc1 := (Int.not_le.mp c1)
    have hW := hW.1 dc1
    refine wp_g (n := 1) (pc' := 58) (L' := [some (.ref 158), some (.int (iI y1)), some (.int (iI y2))]) (st' := [.ref 158]) rfl ?_
    refine wp_getf (v := .ref 161) rfl rfl (S.cell 158 (nc rfl)) (by decide) rfl ?_
    refine wp_g (n := 2) (pc' := 64) (L' := [some (.ref 158), some (.int (iI y1)), some (.int (iI y2))]) (st' := [.ref 158, .int (iI 78), .ref 161]) rfl ?_
    refine wp_getf (v := .int (iI (m 158 3))) rfl rfl (S.cell 158 (nc rfl)) (by decide) rfl ?_
    have hr5 : rJ (m 158 3) := S.rg 158 3 (nl rfl)
    refine wp_mul (a := 78) (b := (m 158 3)) rfl ?_
    refine wp_g (n := 1) (pc' := 69) (L' := [some (.ref 158), some (.int (iI y1)), some (.int (iI y2))]) (st' := [.int (iI y2), .int (iI (78 * (m 158 3))), .ref 161]) rfl ?_
    refine wp_add (a := (78 * (m 158 3))) (b := y2) rfl ?_
    refine wp_g (n := 1) (pc' := 71) (L' := [some (.ref 158), some (.int (iI y1)), some (.int (iI y2))]) (st' := [.ref 158, .int (iI ((78 * (m 158 3)) + y2)), .ref 161]) rfl ?_
    refine wp_getf (v := .ref 160) rfl rfl (S.cell 158 (nc rfl)) (by decide) rfl ?_
    refine wp_g (n := 1) (pc' := 75) (L' := [some (.ref 158), some (.int (iI y1)), some (.int (iI y2))]) (st' := [.int (iI y2), .ref 160, .int (iI ((78 * (m 158 3)) + y2)), .ref 161]) rfl ?_
    obtain ⟨p6, hW⟩ := hW
    refine wp_iald (n := 78) (F := (m 160)) rfl (S.cell 160 (nc rfl)) (by decide) p6.1 p6.2 (by decide) ?_
    show wp _ _ _ _ _ [.int (iI (m 160 ((y2).toNat))), .int (iI ((78 * (m 158 3)) + y2)), .ref 161] _ _
    have hr7 : rJ (m 160 ((y2).toNat)) := S.rg 160 ((y2).toNat) (nl rfl)
    obtain ⟨p9, hW⟩ := hW
    refine wp_iasF (n := 780) (F := (m 161)) (y := (m 160 ((y2).toNat))) rfl (S.cell 161 (nc rfl)) p9.1 p9.2 (by decide) (fun H8 hl8 hz8 hf8 => ?_)
    have S : ST H8 (up m 161 (up (m 161) ((((78 * (m 158 3)) + y2)).toNat) (m 160 ((y2).toNat)))) γ t := S.setI 161 (nc rfl) hl8 hz8 hf8 hr7.1 hr7.2
    refine wp_iinc (L' := [some (.ref 158), some (.int (iI y1)), some (.int (iI (y2 + 1)))]) (a := y2) rfl rfl rfl ?_
    refine wp_g (n := 1) (pc' := 51) (L' := [some (.ref 158), some (.int (iI y1)), some (.int (iI (y2 + 1)))]) (st' := []) rfl ?_
    exact hW _ S
theorem vc_X9_keeps_11 {E : am_E} {k : Nat} {x1 : Int} {y1 : Int} {y2 : Int} {m : MM} {γ : GM} {t : am_H} {Q : Int → MM → GM → am_H → Prop} (hx1 : rJ x1) (hy1 : rJ y1) (hy2 : rJ y2) (hW : W_X9_keeps_11 E k x1 y1 y2 m γ t Q) : hd_X9_keeps_11 E k x1 y1 y2 m γ t Q := by
  unfold W_X9_keeps_11 at hW
  intro h S
  refine wp_g (n := 2) (pc' := 15) (L' := [some (.ref 158), some (.int (iI y1)), some (.int (iI y2))]) (st' := [.int (iI 702), .int (iI y2)]) rfl ?_
  refine wp_icmpI (a := y2) (b := 702) rfl rfl hy2.1 hy2.2 (by decide) (by decide) (fun c1 => ?_) (fun c1 => ?_)
  · have dc1 := (Int.not_lt.mpr c1)
    have hW := hW.2 dc1
    refine wp_g (n := 2) (pc' := 41) (L' := [some (.ref 158), some (.int (iI y1)), some (.int (iI y2))]) (st' := [.ref 158, .ref 158]) rfl ?_
    refine wp_getf (v := .int (iI (m 158 3))) rfl rfl (S.cell 158 (nc rfl)) (by decide) rfl ?_
    have hr2 : rJ (m 158 3) := S.rg 158 3 (nl rfl)
    refine wp_g (n := 1) (pc' := 45) (L' := [some (.ref 158), some (.int (iI y1)), some (.int (iI y2))]) (st' := [.int (iI 1), .int (iI (m 158 3)), .ref 158]) rfl ?_
    refine wp_sub (a := (m 158 3)) (b := 1) rfl ?_
    obtain ⟨p4, hW⟩ := hW
    refine wp_putI rfl rfl (S.cell 158 (nc rfl)) (Nat.le_of_ble_eq_true rfl) rfl (fun H3 hl3 hz3 hf3 => ?_)
    have S : ST H3 (up m 158 (up (m 158) 3 ((m 158 3) - 1))) γ t := S.setI 158 (nc rfl) hl3 hz3 hf3 p4.1 p4.2
    refine wp_g (n := 2) (pc' := 51) (L' := [some (.ref 158), some (.int (iI y1)), some (.int (iI 0))]) (st' := []) rfl ?_
    exact hW _ S
  · have dc1 := (Int.not_le.mp c1)
    have hW := hW.1 dc1
    refine wp_g (n := 1) (pc' := 19) (L' := [some (.ref 158), some (.int (iI y1)), some (.int (iI y2))]) (st' := [.ref 158]) rfl ?_
    refine wp_getf (v := .ref 161) rfl rfl (S.cell 158 (nc rfl)) (by decide) rfl ?_
    refine wp_g (n := 2) (pc' := 24) (L' := [some (.ref 158), some (.int (iI y1)), some (.int (iI y2))]) (st' := [.ref 158, .int (iI y2), .ref 161]) rfl ?_
    refine wp_getf (v := .ref 161) rfl rfl (S.cell 158 (nc rfl)) (by decide) rfl ?_
    refine wp_g (n := 2) (pc' := 30) (L' := [some (.ref 158), some (.int (iI y1)), some (.int (iI y2))]) (st' := [.int (iI 78), .int (iI y2), .ref 161, .int (iI y2), .ref 161]) rfl ?_
    refine wp_add (a := y2) (b := 78) rfl ?_
    obtain ⟨p5, hW⟩ := hW
    refine wp_iald (n := 780) (F := (m 161)) rfl (S.cell 161 (nc rfl)) (by decide) p5.1 p5.2 (by decide) ?_
    show wp _ _ _ _ _ [.int (iI (m 161 (((y2 + 78)).toNat))), .int (iI y2), .ref 161] _ _
    have hr6 : rJ (m 161 (((y2 + 78)).toNat)) := S.rg 161 (((y2 + 78)).toNat) (nl rfl)
    obtain ⟨p8, hW⟩ := hW
    refine wp_iasF (n := 780) (F := (m 161)) (y := (m 161 (((y2 + 78)).toNat))) rfl (S.cell 161 (nc rfl)) p8.1 p8.2 (by decide) (fun H7 hl7 hz7 hf7 => ?_)
    have S : ST H7 (up m 161 (up (m 161) ((y2).toNat) (m 161 (((y2 + 78)).toNat)))) γ t := S.setI 161 (nc rfl) hl7 hz7 hf7 hr6.1 hr6.2
    refine wp_iinc (L' := [some (.ref 158), some (.int (iI y1)), some (.int (iI (y2 + 1)))]) (a := y2) rfl rfl rfl ?_
    refine wp_g (n := 1) (pc' := 11) (L' := [some (.ref 158), some (.int (iI y1)), some (.int (iI (y2 + 1)))]) (st' := []) rfl ?_
    exact hW _ S
def hd_X9_undo_21 (E : am_E) (k : Nat) (y1 : Int) (m : MM) (γ : GM) (t : am_H) (Q : Int → MM → GM → am_H → Prop) : Prop := TT (pI Q) E k 198 21 [some (.ref 158), some (.int (iI y1))] [] m γ t
abbrev W_X9_undo (E : am_E) (k : Nat) (m : MM) (γ : GM) (t : am_H) (Q : Int → MM → GM → am_H → Prop) : Prop := ((((m 158 3) = 0) → (Q (-1) m γ t)) ∧ (¬ ((m 158 3) = 0) → (rJ ((m 158 3) - 1) ∧ (hd_X9_undo_21 E k 0 (up m 158 (up (m 158) 3 ((m 158 3) - 1))) γ t Q))))
abbrev W_X9_undo_21 (E : am_E) (k : Nat) (y1 : Int) (m : MM) (γ : GM) (t : am_H) (Q : Int → MM → GM → am_H → Prop) : Prop := (((y1 < 78) → ((0 ≤ ((78 * (m 158 3)) + y1) ∧ ((78 * (m 158 3)) + y1) < 780) ∧ ((0 ≤ y1 ∧ y1 < 78) ∧ (hd_X9_undo_21 E k (y1 + 1) (up m 159 (up (m 159) ((y1).toNat) (m 161 ((((78 * (m 158 3)) + y1)).toNat)))) γ t Q)))) ∧ (¬ (y1 < 78) → (Q (m 158 3) m γ t)))
theorem vc_X9_undo {E : am_E} {k : Nat} {m : MM} {γ : GM} {t : am_H} {Q : Int → MM → GM → am_H → Prop} (hW : W_X9_undo E k  m γ t Q) : TI E k 198 [.ref 158] m γ t Q := by
  unfold W_X9_undo at hW
  intro h S
  refine wp_g (n := 1) (pc' := 1) (L' := [some (.ref 158), none]) (st' := [.ref 158]) rfl ?_
  refine wp_getf (v := .int (iI (m 158 3))) rfl rfl (S.cell 158 (nc rfl)) (by decide) rfl ?_
  have hr1 : rJ (m 158 3) := S.rg 158 3 (nl rfl)
  refine wp_ifI (a := (m 158 3)) rfl rfl hr1.1 hr1.2 (fun c2 => ?_) (fun c2 => ?_)
  · have dc2 := c2
    have hW := hW.2 dc2
    refine wp_g (n := 2) (pc' := 11) (L' := [some (.ref 158), none]) (st' := [.ref 158, .ref 158]) rfl ?_
    refine wp_getf (v := .int (iI (m 158 3))) rfl rfl (S.cell 158 (nc rfl)) (by decide) rfl ?_
    refine wp_g (n := 1) (pc' := 15) (L' := [some (.ref 158), none]) (st' := [.int (iI 1), .int (iI (m 158 3)), .ref 158]) rfl ?_
    refine wp_sub (a := (m 158 3)) (b := 1) rfl ?_
    obtain ⟨p4, hW⟩ := hW
    refine wp_putI rfl rfl (S.cell 158 (nc rfl)) (Nat.le_of_ble_eq_true rfl) rfl (fun H3 hl3 hz3 hf3 => ?_)
    have S : ST H3 (up m 158 (up (m 158) 3 ((m 158 3) - 1))) γ t := S.setI 158 (nc rfl) hl3 hz3 hf3 p4.1 p4.2
    refine wp_g (n := 2) (pc' := 21) (L' := [some (.ref 158), some (.int (iI 0))]) (st' := []) rfl ?_
    exact hW _ S
  · have dc2 := (Classical.not_not.mp c2)
    have hW := hW.1 dc2
    refine wp_g (n := 1) (pc' := 8) (L' := [some (.ref 158), none]) (st' := [.int (iI (-1))]) rfl ?_
    exact wp_iret rfl rfl ⟨_, _, _, _, rfl, (by decide), S, hW⟩
theorem vc_X9_undo_21 {E : am_E} {k : Nat} {y1 : Int} {m : MM} {γ : GM} {t : am_H} {Q : Int → MM → GM → am_H → Prop} (hy1 : rJ y1) (hW : W_X9_undo_21 E k y1 m γ t Q) : hd_X9_undo_21 E k y1 m γ t Q := by
  unfold W_X9_undo_21 at hW
  intro h S
  refine wp_g (n := 2) (pc' := 24) (L' := [some (.ref 158), some (.int (iI y1))]) (st' := [.int (iI 78), .int (iI y1)]) rfl ?_
  refine wp_icmpI (a := y1) (b := 78) rfl rfl hy1.1 hy1.2 (by decide) (by decide) (fun c1 => ?_) (fun c1 => ?_)
  · have dc1 := (Int.not_lt.mpr c1)
    have hW := hW.2 dc1
    refine wp_g (n := 1) (pc' := 54) (L' := [some (.ref 158), some (.int (iI y1))]) (st' := [.ref 158]) rfl ?_
    refine wp_getf (v := .int (iI (m 158 3))) rfl rfl (S.cell 158 (nc rfl)) (by decide) rfl ?_
    have hr2 : rJ (m 158 3) := S.rg 158 3 (nl rfl)
    exact wp_iret rfl rfl ⟨_, _, _, _, rfl, hr2, S, hW⟩
  · have dc1 := (Int.not_le.mp c1)
    have hW := hW.1 dc1
    refine wp_g (n := 1) (pc' := 28) (L' := [some (.ref 158), some (.int (iI y1))]) (st' := [.ref 158]) rfl ?_
    refine wp_getf (v := .ref 159) rfl rfl (S.cell 158 (nc rfl)) (by decide) rfl ?_
    refine wp_g (n := 2) (pc' := 33) (L' := [some (.ref 158), some (.int (iI y1))]) (st' := [.ref 158, .int (iI y1), .ref 159]) rfl ?_
    refine wp_getf (v := .ref 161) rfl rfl (S.cell 158 (nc rfl)) (by decide) rfl ?_
    refine wp_g (n := 2) (pc' := 39) (L' := [some (.ref 158), some (.int (iI y1))]) (st' := [.ref 158, .int (iI 78), .ref 161, .int (iI y1), .ref 159]) rfl ?_
    refine wp_getf (v := .int (iI (m 158 3))) rfl rfl (S.cell 158 (nc rfl)) (by decide) rfl ?_
    have hr3 : rJ (m 158 3) := S.rg 158 3 (nl rfl)
    refine wp_mul (a := 78) (b := (m 158 3)) rfl ?_
    refine wp_g (n := 1) (pc' := 44) (L' := [some (.ref 158), some (.int (iI y1))]) (st' := [.int (iI y1), .int (iI (78 * (m 158 3))), .ref 161, .int (iI y1), .ref 159]) rfl ?_
    refine wp_add (a := (78 * (m 158 3))) (b := y1) rfl ?_
    obtain ⟨p4, hW⟩ := hW
    refine wp_iald (n := 780) (F := (m 161)) rfl (S.cell 161 (nc rfl)) (by decide) p4.1 p4.2 (by decide) ?_
    show wp _ _ _ _ _ [.int (iI (m 161 ((((78 * (m 158 3)) + y1)).toNat))), .int (iI y1), .ref 159] _ _
    have hr5 : rJ (m 161 ((((78 * (m 158 3)) + y1)).toNat)) := S.rg 161 ((((78 * (m 158 3)) + y1)).toNat) (nl rfl)
    obtain ⟨p7, hW⟩ := hW
    refine wp_iasF (n := 78) (F := (m 159)) (y := (m 161 ((((78 * (m 158 3)) + y1)).toNat))) rfl (S.cell 159 (nc rfl)) p7.1 p7.2 (by decide) (fun H6 hl6 hz6 hf6 => ?_)
    have S : ST H6 (up m 159 (up (m 159) ((y1).toNat) (m 161 ((((78 * (m 158 3)) + y1)).toNat)))) γ t := S.setI 159 (nc rfl) hl6 hz6 hf6 hr5.1 hr5.2
    refine wp_iinc (L' := [some (.ref 158), some (.int (iI (y1 + 1)))]) (a := y1) rfl rfl rfl ?_
    refine wp_g (n := 1) (pc' := 21) (L' := [some (.ref 158), some (.int (iI (y1 + 1)))]) (st' := []) rfl ?_
    exact hW _ S
def hd_X9_drops_26 (E : am_E) (k : Nat) (x1 : Int) (y1 : Int) (y2 : Int) (m : MM) (γ : GM) (t : am_H) (Q : Int → MM → GM → am_H → Prop) : Prop := TT (pI Q) E (k + 1) 199 26 [some (.ref 158), some (.int (iI y1)), some (.int (iI y2))] [] m γ t
abbrev W_X9_drops (E : am_E) (k : Nat) (x1 : Int) (m : MM) (γ : GM) (t : am_H) (Q : Int → MM → GM → am_H → Prop) : Prop := (TI E k 194 [.int (iI x1)] m γ t (fun v1 m1 γ1 t1 => (((v1 = 0) → (Q (-2) m1 γ1 t1)) ∧ (¬ (v1 = 0) → (TI E k 195 [.ref 158, .int (iI x1)] m1 γ1 t1 (fun v3 m3 γ3 t3 => (((v3 = 0) → (Q 0 m3 γ3 t3)) ∧ (¬ (v3 = 0) → (TV E k 196 [.ref 158] m3 γ3 t3 (fun m5 γ5 t5 => (hd_X9_drops_26 E k x1 x1 0 m5 γ5 t5 Q)))))))))))
abbrev W_X9_drops_26 (E : am_E) (k : Nat) (x1 : Int) (y1 : Int) (y2 : Int) (m : MM) (γ : GM) (t : am_H) (Q : Int → MM → GM → am_H → Prop) : Prop := (((y2 < 26) → ((0 ≤ ((26 * y1) + y2) ∧ ((26 * y1) + y2) < 78) ∧ (hd_X9_drops_26 E k x1 y1 (y2 + 1) (up m 159 (up (m 159) ((((26 * y1) + y2)).toNat) 0)) γ t Q))) ∧ (¬ (y2 < 26) → (TI E k 197 [.ref 158, .int (iI 1)] m γ t (fun v2 m2 γ2 t2 => (Q v2 m2 γ2 t2)))))
theorem vc_X9_drops {E : am_E} {k : Nat} {x1 : Int} {m : MM} {γ : GM} {t : am_H} {Q : Int → MM → GM → am_H → Prop} (hx1 : rJ x1) (hW : W_X9_drops E k x1 m γ t Q) : TI E (k + 1) 199 [.ref 158, .int (iI x1)] m γ t Q := by
  unfold W_X9_drops at hW
  intro h S
  refine wp_g (n := 1) (pc' := 1) (L' := [some (.ref 158), some (.int (iI x1)), none]) (st' := [.int (iI x1)]) rfl ?_
  refine wp_cs (As := [.int (iI x1)]) (rest := []) rfl rfl rfl rfl (Nat.le_of_ble_eq_true rfl) (Nat.le_of_ble_eq_true rfl) (hW _ S) (fun r1 H1 q1 => ?_)
  obtain ⟨v1, m1, γ1, t1, rfl, hv1, S, hW⟩ := q1
  show wp _ _ _ _ _ [.int (iI v1)] _ _
  refine wp_ifI (a := v1) rfl rfl hv1.1 hv1.2 (fun c2 => ?_) (fun c2 => ?_)
  · have dc2 := c2
    have hW := hW.2 dc2
    refine wp_g (n := 2) (pc' := 12) (L' := [some (.ref 158), some (.int (iI x1)), none]) (st' := [.int (iI x1), .ref 158]) rfl ?_
    refine wp_cv (As := [.int (iI x1)]) (rest := []) rfl rfl (S.cell 158 (nc rfl)) (by decide) rfl rfl rfl (Nat.le_of_ble_eq_true rfl) (Nat.le_of_ble_eq_true rfl) (hW _ S) (fun r3 H3 q3 => ?_)
    obtain ⟨v3, m3, γ3, t3, rfl, hv3, S, hW⟩ := q3
    show wp _ _ _ _ _ [.int (iI v3)] _ _
    refine wp_ifI (a := v3) rfl rfl hv3.1 hv3.2 (fun c4 => ?_) (fun c4 => ?_)
    · have dc4 := c4
      have hW := hW.2 dc4
      refine wp_g (n := 1) (pc' := 21) (L' := [some (.ref 158), some (.int (iI x1)), none]) (st' := [.ref 158]) rfl ?_
      refine wp_cv (As := []) (rest := []) rfl rfl (S.cell 158 (nc rfl)) (by decide) rfl rfl rfl (Nat.le_of_ble_eq_true rfl) (Nat.le_of_ble_eq_true rfl) (hW _ S) (fun r5 H5 q5 => ?_)
      obtain ⟨m5, γ5, t5, rfl, S, hW⟩ := q5
      show wp _ _ _ _ _ [] _ _
      refine wp_g (n := 2) (pc' := 26) (L' := [some (.ref 158), some (.int (iI x1)), some (.int (iI 0))]) (st' := []) rfl ?_
      exact hW _ S
    · have dc4 := (Classical.not_not.mp c4)
      have hW := hW.1 dc4
      refine wp_g (n := 1) (pc' := 19) (L' := [some (.ref 158), some (.int (iI x1)), none]) (st' := [.int (iI 0)]) rfl ?_
      exact wp_iret rfl rfl ⟨_, _, _, _, rfl, (by decide), S, hW⟩
  · have dc2 := (Classical.not_not.mp c2)
    have hW := hW.1 dc2
    refine wp_g (n := 1) (pc' := 9) (L' := [some (.ref 158), some (.int (iI x1)), none]) (st' := [.int (iI (-2))]) rfl ?_
    exact wp_iret rfl rfl ⟨_, _, _, _, rfl, (by decide), S, hW⟩
theorem vc_X9_drops_26 {E : am_E} {k : Nat} {x1 : Int} {y1 : Int} {y2 : Int} {m : MM} {γ : GM} {t : am_H} {Q : Int → MM → GM → am_H → Prop} (hx1 : rJ x1) (hy1 : rJ y1) (hy2 : rJ y2) (hW : W_X9_drops_26 E k x1 y1 y2 m γ t Q) : hd_X9_drops_26 E k x1 y1 y2 m γ t Q := by
  unfold W_X9_drops_26 at hW
  intro h S
  refine wp_g (n := 2) (pc' := 29) (L' := [some (.ref 158), some (.int (iI y1)), some (.int (iI y2))]) (st' := [.int (iI 26), .int (iI y2)]) rfl ?_
  refine wp_icmpI (a := y2) (b := 26) rfl rfl hy2.1 hy2.2 (by decide) (by decide) (fun c1 => ?_) (fun c1 => ?_)
  · have dc1 := (Int.not_lt.mpr c1)
    have hW := hW.2 dc1
    refine wp_g (n := 2) (pc' := 52) (L' := [some (.ref 158), some (.int (iI y1)), some (.int (iI y2))]) (st' := [.int (iI 1), .ref 158]) rfl ?_
    refine wp_cv (As := [.int (iI 1)]) (rest := []) rfl rfl (S.cell 158 (nc rfl)) (by decide) rfl rfl rfl (Nat.le_of_ble_eq_true rfl) (Nat.le_of_ble_eq_true rfl) (hW _ S) (fun r2 H2 q2 => ?_)
    obtain ⟨v2, m2, γ2, t2, rfl, hv2, S, hW⟩ := q2
    show wp _ _ _ _ _ [.int (iI v2)] _ _
    exact wp_iret rfl rfl ⟨_, _, _, _, rfl, hv2, S, hW⟩
  · have dc1 := (Int.not_le.mp c1)
    have hW := hW.1 dc1
    refine wp_g (n := 1) (pc' := 33) (L' := [some (.ref 158), some (.int (iI y1)), some (.int (iI y2))]) (st' := [.ref 158]) rfl ?_
    refine wp_getf (v := .ref 159) rfl rfl (S.cell 158 (nc rfl)) (by decide) rfl ?_
    refine wp_g (n := 2) (pc' := 39) (L' := [some (.ref 158), some (.int (iI y1)), some (.int (iI y2))]) (st' := [.int (iI y1), .int (iI 26), .ref 159]) rfl ?_
    refine wp_mul (a := 26) (b := y1) rfl ?_
    refine wp_g (n := 1) (pc' := 41) (L' := [some (.ref 158), some (.int (iI y1)), some (.int (iI y2))]) (st' := [.int (iI y2), .int (iI (26 * y1)), .ref 159]) rfl ?_
    refine wp_add (a := (26 * y1)) (b := y2) rfl ?_
    refine wp_g (n := 1) (pc' := 43) (L' := [some (.ref 158), some (.int (iI y1)), some (.int (iI y2))]) (st' := [.int (iI 0), .int (iI ((26 * y1) + y2)), .ref 159]) rfl ?_
    obtain ⟨p4, hW⟩ := hW
    refine wp_iasF (n := 78) (F := (m 159)) (y := 0) rfl (S.cell 159 (nc rfl)) p4.1 p4.2 (by decide) (fun H3 hl3 hz3 hf3 => ?_)
    have S : ST H3 (up m 159 (up (m 159) ((((26 * y1) + y2)).toNat) 0)) γ t := S.setI 159 (nc rfl) hl3 hz3 hf3 (by decide) (by decide)
    refine wp_iinc (L' := [some (.ref 158), some (.int (iI y1)), some (.int (iI (y2 + 1)))]) (a := y2) rfl rfl rfl ?_
    refine wp_g (n := 1) (pc' := 26) (L' := [some (.ref 158), some (.int (iI y1)), some (.int (iI (y2 + 1)))]) (st' := []) rfl ?_
    exact hW _ S
def hd_X9_shapes_17 (E : am_E) (k : Nat) (x1 : Int) (x2 : Int) (y1 : Int) (y2 : Int) (y3 : Int) (m : MM) (γ : GM) (t : am_H) (Q : MM → GM → am_H → Prop) : Prop := ∀ (z4 z5 : Option Value), TT (pV Q) E k 200 17 [some (.ref 158), some (.int (iI y1)), some (.int (iI y2)), some (.int (iI y3)), z4, z5] [] m γ t
def hd_X9_shapes_27 (E : am_E) (k : Nat) (x1 : Int) (x2 : Int) (y1 : Int) (y2 : Int) (y3 : Int) (y4 : Int) (m : MM) (γ : GM) (t : am_H) (Q : MM → GM → am_H → Prop) : Prop := ∀ (z5 : Option Value), TT (pV Q) E k 200 27 [some (.ref 158), some (.int (iI y1)), some (.int (iI y2)), some (.int (iI y3)), some (.int (iI y4)), z5] [] m γ t
abbrev W_X9_shapes (E : am_E) (k : Nat) (x1 : Int) (x2 : Int) (m : MM) (γ : GM) (t : am_H) (Q : MM → GM → am_H → Prop) : Prop := (hd_X9_shapes_17 E k x1 x2 x1 x2 0 (up (up (up m 158 (up (m 158) 4 x1)) 158 (up (up (m 158) 4 x1) 5 x2)) 158 (up (up (up (m 158) 4 x1) 5 x2) 6 0)) γ t Q)
abbrev W_X9_shapes_17 (E : am_E) (k : Nat) (x1 : Int) (x2 : Int) (y1 : Int) (y2 : Int) (y3 : Int) (m : MM) (γ : GM) (t : am_H) (Q : MM → GM → am_H → Prop) : Prop := (rJ (y1 * y2) ∧ (((y3 < (y1 * y2)) → (hd_X9_shapes_27 E k x1 x2 y1 y2 y3 0 m γ t Q)) ∧ (¬ (y3 < (y1 * y2)) → (Q m γ t))))
abbrev W_X9_shapes_27 (E : am_E) (k : Nat) (x1 : Int) (x2 : Int) (y1 : Int) (y2 : Int) (y3 : Int) (y4 : Int) (m : MM) (γ : GM) (t : am_H) (Q : MM → GM → am_H → Prop) : Prop := (((y4 < 2) → (((y4 = 0) → (0 ≤ y3 ∧ (0 < y2 ∧ (rJ (y3 % y2) ∧ (rJ (y2 - 1) ∧ ((((y3 % y2) < (y2 - 1)) → ((0 ≤ ((2 * y3) + y4) ∧ ((2 * y3) + y4) < 32) ∧ ((0 ≤ (m 158 6) ∧ (m 158 6) < 24) ∧ ((0 ≤ (m 158 6) ∧ (m 158 6) < 24) ∧ (rJ ((m 158 6) + 1) ∧ (hd_X9_shapes_27 E k x1 x2 y1 y2 y3 (y4 + 1) (up (up (up (up m 165 (up (m 165) ((((2 * y3) + y4)).toNat) (m 158 6))) 163 (up (m 163) (((m 158 6)).toNat) y3)) 164 (up (m 164) (((m 158 6)).toNat) y4)) 158 (up (m 158) 6 ((m 158 6) + 1))) γ t Q)))))) ∧ (¬ ((y3 % y2) < (y2 - 1)) → ((0 ≤ ((2 * y3) + y4) ∧ ((2 * y3) + y4) < 32) ∧ (hd_X9_shapes_27 E k x1 x2 y1 y2 y3 (y4 + 1) (up m 165 (up (m 165) ((((2 * y3) + y4)).toNat) (-1))) γ t Q))))))))) ∧ (¬ (y4 = 0) → (0 ≤ y3 ∧ (0 < y2 ∧ (rJ (y3 / y2) ∧ (rJ (y1 - 1) ∧ ((((y3 / y2) < (y1 - 1)) → ((0 ≤ ((2 * y3) + y4) ∧ ((2 * y3) + y4) < 32) ∧ ((0 ≤ (m 158 6) ∧ (m 158 6) < 24) ∧ ((0 ≤ (m 158 6) ∧ (m 158 6) < 24) ∧ (rJ ((m 158 6) + 1) ∧ (hd_X9_shapes_27 E k x1 x2 y1 y2 y3 (y4 + 1) (up (up (up (up m 165 (up (m 165) ((((2 * y3) + y4)).toNat) (m 158 6))) 163 (up (m 163) (((m 158 6)).toNat) y3)) 164 (up (m 164) (((m 158 6)).toNat) y4)) 158 (up (m 158) 6 ((m 158 6) + 1))) γ t Q)))))) ∧ (¬ ((y3 / y2) < (y1 - 1)) → ((0 ≤ ((2 * y3) + y4) ∧ ((2 * y3) + y4) < 32) ∧ (hd_X9_shapes_27 E k x1 x2 y1 y2 y3 (y4 + 1) (up m 165 (up (m 165) ((((2 * y3) + y4)).toNat) (-1))) γ t Q))))))))))) ∧ (¬ (y4 < 2) → (hd_X9_shapes_17 E k x1 x2 y1 y2 (y3 + 1) m γ t Q)))
theorem vc_X9_shapes {E : am_E} {k : Nat} {x1 : Int} {x2 : Int} {m : MM} {γ : GM} {t : am_H} {Q : MM → GM → am_H → Prop} (hx1 : rJ x1) (hx2 : rJ x2) (hW : W_X9_shapes E k x1 x2 m γ t Q) : TV E k 200 [.ref 158, .int (iI x1), .int (iI x2)] m γ t Q := by
  unfold W_X9_shapes at hW
  intro h S
  refine wp_g (n := 2) (pc' := 2) (L' := [some (.ref 158), some (.int (iI x1)), some (.int (iI x2)), none, none, none]) (st' := [.int (iI x1), .ref 158]) rfl ?_
  refine wp_putI rfl rfl (S.cell 158 (nc rfl)) (Nat.le_of_ble_eq_true rfl) rfl (fun H1 hl1 hz1 hf1 => ?_)
  have S : ST H1 (up m 158 (up (m 158) 4 x1)) γ t := S.setI 158 (nc rfl) hl1 hz1 hf1 hx1.1 hx1.2
  refine wp_g (n := 2) (pc' := 7) (L' := [some (.ref 158), some (.int (iI x1)), some (.int (iI x2)), none, none, none]) (st' := [.int (iI x2), .ref 158]) rfl ?_
  refine wp_putI rfl rfl (S.cell 158 (nc rfl)) (Nat.le_of_ble_eq_true rfl) rfl (fun H2 hl2 hz2 hf2 => ?_)
  have S : ST H2 (up (up m 158 (up (m 158) 4 x1)) 158 (up (up (m 158) 4 x1) 5 x2)) γ t := S.setI 158 (nc rfl) hl2 hz2 hf2 hx2.1 hx2.2
  refine wp_g (n := 2) (pc' := 12) (L' := [some (.ref 158), some (.int (iI x1)), some (.int (iI x2)), none, none, none]) (st' := [.int (iI 0), .ref 158]) rfl ?_
  refine wp_putI rfl rfl (S.cell 158 (nc rfl)) (Nat.le_of_ble_eq_true rfl) rfl (fun H3 hl3 hz3 hf3 => ?_)
  have S : ST H3 (up (up (up m 158 (up (m 158) 4 x1)) 158 (up (up (m 158) 4 x1) 5 x2)) 158 (up (up (up (m 158) 4 x1) 5 x2) 6 0)) γ t := S.setI 158 (nc rfl) hl3 hz3 hf3 (by decide) (by decide)
  refine wp_g (n := 2) (pc' := 17) (L' := [some (.ref 158), some (.int (iI x1)), some (.int (iI x2)), some (.int (iI 0)), none, none]) (st' := []) rfl ?_
  exact hW none none _ S
theorem vc_X9_shapes_17 {E : am_E} {k : Nat} {x1 : Int} {x2 : Int} {y1 : Int} {y2 : Int} {y3 : Int} {m : MM} {γ : GM} {t : am_H} {Q : MM → GM → am_H → Prop} (hx1 : rJ x1) (hx2 : rJ x2) (hy1 : rJ y1) (hy2 : rJ y2) (hy3 : rJ y3) (hW : W_X9_shapes_17 E k x1 x2 y1 y2 y3 m γ t Q) : hd_X9_shapes_17 E k x1 x2 y1 y2 y3 m γ t Q := by
  unfold W_X9_shapes_17 at hW
  intro z4 z5 h S
  refine wp_g (n := 3) (pc' := 20) (L' := [some (.ref 158), some (.int (iI y1)), some (.int (iI y2)), some (.int (iI y3)), z4, z5]) (st' := [.int (iI y2), .int (iI y1), .int (iI y3)]) rfl ?_
  refine wp_mul (a := y1) (b := y2) rfl ?_
  obtain ⟨p1, hW⟩ := hW
  refine wp_icmpI (a := y3) (b := (y1 * y2)) rfl rfl hy3.1 hy3.2 p1.1 p1.2 (fun c2 => ?_) (fun c2 => ?_)
  · have dc2 := (Int.not_lt.mpr c2)
    have hW := hW.2 dc2
    exact wp_vret rfl rfl ⟨_, _, _, rfl, S, hW⟩
  · have dc2 := (Int.not_le.mp c2)
    have hW := hW.1 dc2
    refine wp_g (n := 2) (pc' := 27) (L' := [some (.ref 158), some (.int (iI y1)), some (.int (iI y2)), some (.int (iI y3)), some (.int (iI 0)), z5]) (st' := []) rfl ?_
    exact hW z5 _ S
theorem vc_X9_shapes_27 {E : am_E} {k : Nat} {x1 : Int} {x2 : Int} {y1 : Int} {y2 : Int} {y3 : Int} {y4 : Int} {m : MM} {γ : GM} {t : am_H} {Q : MM → GM → am_H → Prop} (hx1 : rJ x1) (hx2 : rJ x2) (hy1 : rJ y1) (hy2 : rJ y2) (hy3 : rJ y3) (hy4 : rJ y4) (hW : W_X9_shapes_27 E k x1 x2 y1 y2 y3 y4 m γ t Q) : hd_X9_shapes_27 E k x1 x2 y1 y2 y3 y4 m γ t Q := by
  unfold W_X9_shapes_27 at hW
  intro z5 h S
  refine wp_g (n := 2) (pc' := 30) (L' := [some (.ref 158), some (.int (iI y1)), some (.int (iI y2)), some (.int (iI y3)), some (.int (iI y4)), z5]) (st' := [.int (iI 2), .int (iI y4)]) rfl ?_
  refine wp_icmpI (a := y4) (b := 2) rfl rfl hy4.1 hy4.2 (by decide) (by decide) (fun c1 => ?_) (fun c1 => ?_)
  · have dc1 := (Int.not_lt.mpr c1)
    have hW := hW.2 dc1
    refine wp_iinc (L' := [some (.ref 158), some (.int (iI y1)), some (.int (iI y2)), some (.int (iI (y3 + 1))), some (.int (iI y4)), z5]) (a := y3) rfl rfl rfl ?_
    refine wp_g (n := 1) (pc' := 17) (L' := [some (.ref 158), some (.int (iI y1)), some (.int (iI y2)), some (.int (iI (y3 + 1))), some (.int (iI y4)), z5]) (st' := []) rfl ?_
    exact hW (some (.int (iI y4))) z5 _ S
  · have dc1 := (Int.not_le.mp c1)
    have hW := hW.1 dc1
    refine wp_g (n := 1) (pc' := 35) (L' := [some (.ref 158), some (.int (iI y1)), some (.int (iI y2)), some (.int (iI y3)), some (.int (iI y4)), z5]) (st' := [.int (iI y4)]) rfl ?_
    refine wp_ifI (a := y4) rfl rfl hy4.1 hy4.2 (fun c2 => ?_) (fun c2 => ?_)
    · have dc2 := c2
      have hW := hW.2 dc2
      refine wp_g (n := 2) (pc' := 57) (L' := [some (.ref 158), some (.int (iI y1)), some (.int (iI y2)), some (.int (iI y3)), some (.int (iI y4)), z5]) (st' := [.int (iI y2), .int (iI y3)]) rfl ?_
      obtain ⟨p3, hW⟩ := hW
      obtain ⟨p4, hW⟩ := hW
      refine wp_div (a := y3) (b := y2) rfl p3 hy3.2 p4 hy2.2 ?_
      refine wp_g (n := 2) (pc' := 60) (L' := [some (.ref 158), some (.int (iI y1)), some (.int (iI y2)), some (.int (iI y3)), some (.int (iI y4)), z5]) (st' := [.int (iI 1), .int (iI y1), .int (iI (y3 / y2))]) rfl ?_
      refine wp_sub (a := y1) (b := 1) rfl ?_
      obtain ⟨p5, hW⟩ := hW
      obtain ⟨p6, hW⟩ := hW
      refine wp_icmpI (a := (y3 / y2)) (b := (y1 - 1)) rfl rfl p5.1 p5.2 p6.1 p6.2 (fun c7 => ?_) (fun c7 => ?_)
      · have dc7 := (Int.not_lt.mpr c7)
        have hW := hW.2 dc7
        refine wp_g (n := 3) (pc' := 72) (L' := [some (.ref 158), some (.int (iI y1)), some (.int (iI y2)), some (.int (iI y3)), some (.int (iI y4)), some (.int (iI 0))]) (st' := [.ref 158]) rfl ?_
        refine wp_getf (v := .ref 165) rfl rfl (S.cell 158 (nc rfl)) (by decide) rfl ?_
        refine wp_g (n := 2) (pc' := 77) (L' := [some (.ref 158), some (.int (iI y1)), some (.int (iI y2)), some (.int (iI y3)), some (.int (iI y4)), some (.int (iI 0))]) (st' := [.int (iI y3), .int (iI 2), .ref 165]) rfl ?_
        refine wp_mul (a := 2) (b := y3) rfl ?_
        refine wp_g (n := 1) (pc' := 80) (L' := [some (.ref 158), some (.int (iI y1)), some (.int (iI y2)), some (.int (iI y3)), some (.int (iI y4)), some (.int (iI 0))]) (st' := [.int (iI y4), .int (iI (2 * y3)), .ref 165]) rfl ?_
        refine wp_add (a := (2 * y3)) (b := y4) rfl ?_
        refine wp_g (n := 1) (pc' := 83) (L' := [some (.ref 158), some (.int (iI y1)), some (.int (iI y2)), some (.int (iI y3)), some (.int (iI y4)), some (.int (iI 0))]) (st' := [.int (iI 0), .int (iI ((2 * y3) + y4)), .ref 165]) rfl ?_
        refine wp_g (n := 1) (pc' := 93) (L' := [some (.ref 158), some (.int (iI y1)), some (.int (iI y2)), some (.int (iI y3)), some (.int (iI y4)), some (.int (iI 0))]) (st' := [.int (iI ((2 * y3) + y4)), .ref 165]) rfl ?_
        refine wp_g (n := 1) (pc' := 94) (L' := [some (.ref 158), some (.int (iI y1)), some (.int (iI y2)), some (.int (iI y3)), some (.int (iI y4)), some (.int (iI 0))]) (st' := [.int (iI (-1)), .int (iI ((2 * y3) + y4)), .ref 165]) rfl ?_
        obtain ⟨p9, hW⟩ := hW
        refine wp_iasF (n := 32) (F := (m 165)) (y := (-1)) rfl (S.cell 165 (nc rfl)) p9.1 p9.2 (by decide) (fun H8 hl8 hz8 hf8 => ?_)
        have S : ST H8 (up m 165 (up (m 165) ((((2 * y3) + y4)).toNat) (-1))) γ t := S.setI 165 (nc rfl) hl8 hz8 hf8 (by decide) (by decide)
        refine wp_g (n := 1) (pc' := 97) (L' := [some (.ref 158), some (.int (iI y1)), some (.int (iI y2)), some (.int (iI y3)), some (.int (iI y4)), some (.int (iI 0))]) (st' := [.int (iI 0)]) rfl ?_
        refine wp_g (n := 1) (pc' := 131) (L' := [some (.ref 158), some (.int (iI y1)), some (.int (iI y2)), some (.int (iI y3)), some (.int (iI y4)), some (.int (iI 0))]) (st' := []) rfl ?_
        refine wp_iinc (L' := [some (.ref 158), some (.int (iI y1)), some (.int (iI y2)), some (.int (iI y3)), some (.int (iI (y4 + 1))), some (.int (iI 0))]) (a := y4) rfl rfl rfl ?_
        refine wp_g (n := 1) (pc' := 27) (L' := [some (.ref 158), some (.int (iI y1)), some (.int (iI y2)), some (.int (iI y3)), some (.int (iI (y4 + 1))), some (.int (iI 0))]) (st' := []) rfl ?_
        exact hW (some (.int (iI 0))) _ S
      · have dc7 := (Int.not_le.mp c7)
        have hW := hW.1 dc7
        refine wp_g (n := 4) (pc' := 72) (L' := [some (.ref 158), some (.int (iI y1)), some (.int (iI y2)), some (.int (iI y3)), some (.int (iI y4)), some (.int (iI 1))]) (st' := [.ref 158]) rfl ?_
        refine wp_getf (v := .ref 165) rfl rfl (S.cell 158 (nc rfl)) (by decide) rfl ?_
        refine wp_g (n := 2) (pc' := 77) (L' := [some (.ref 158), some (.int (iI y1)), some (.int (iI y2)), some (.int (iI y3)), some (.int (iI y4)), some (.int (iI 1))]) (st' := [.int (iI y3), .int (iI 2), .ref 165]) rfl ?_
        refine wp_mul (a := 2) (b := y3) rfl ?_
        refine wp_g (n := 1) (pc' := 80) (L' := [some (.ref 158), some (.int (iI y1)), some (.int (iI y2)), some (.int (iI y3)), some (.int (iI y4)), some (.int (iI 1))]) (st' := [.int (iI y4), .int (iI (2 * y3)), .ref 165]) rfl ?_
        refine wp_add (a := (2 * y3)) (b := y4) rfl ?_
        refine wp_g (n := 1) (pc' := 83) (L' := [some (.ref 158), some (.int (iI y1)), some (.int (iI y2)), some (.int (iI y3)), some (.int (iI y4)), some (.int (iI 1))]) (st' := [.int (iI 1), .int (iI ((2 * y3) + y4)), .ref 165]) rfl ?_
        refine wp_g (n := 1) (pc' := 86) (L' := [some (.ref 158), some (.int (iI y1)), some (.int (iI y2)), some (.int (iI y3)), some (.int (iI y4)), some (.int (iI 1))]) (st' := [.int (iI ((2 * y3) + y4)), .ref 165]) rfl ?_
        refine wp_g (n := 1) (pc' := 87) (L' := [some (.ref 158), some (.int (iI y1)), some (.int (iI y2)), some (.int (iI y3)), some (.int (iI y4)), some (.int (iI 1))]) (st' := [.ref 158, .int (iI ((2 * y3) + y4)), .ref 165]) rfl ?_
        refine wp_getf (v := .int (iI (m 158 6))) rfl rfl (S.cell 158 (nc rfl)) (by decide) rfl ?_
        have hr10 : rJ (m 158 6) := S.rg 158 6 (nl rfl)
        refine wp_g (n := 1) (pc' := 94) (L' := [some (.ref 158), some (.int (iI y1)), some (.int (iI y2)), some (.int (iI y3)), some (.int (iI y4)), some (.int (iI 1))]) (st' := [.int (iI (m 158 6)), .int (iI ((2 * y3) + y4)), .ref 165]) rfl ?_
        obtain ⟨p12, hW⟩ := hW
        refine wp_iasF (n := 32) (F := (m 165)) (y := (m 158 6)) rfl (S.cell 165 (nc rfl)) p12.1 p12.2 (by decide) (fun H11 hl11 hz11 hf11 => ?_)
        have S : ST H11 (up m 165 (up (m 165) ((((2 * y3) + y4)).toNat) (m 158 6))) γ t := S.setI 165 (nc rfl) hl11 hz11 hf11 hr10.1 hr10.2
        refine wp_g (n := 1) (pc' := 97) (L' := [some (.ref 158), some (.int (iI y1)), some (.int (iI y2)), some (.int (iI y3)), some (.int (iI y4)), some (.int (iI 1))]) (st' := [.int (iI 1)]) rfl ?_
        refine wp_g (n := 1) (pc' := 100) (L' := [some (.ref 158), some (.int (iI y1)), some (.int (iI y2)), some (.int (iI y3)), some (.int (iI y4)), some (.int (iI 1))]) (st' := []) rfl ?_
        refine wp_g (n := 1) (pc' := 101) (L' := [some (.ref 158), some (.int (iI y1)), some (.int (iI y2)), some (.int (iI y3)), some (.int (iI y4)), some (.int (iI 1))]) (st' := [.ref 158]) rfl ?_
        refine wp_getf (v := .ref 163) rfl rfl (S.cell 158 (nc rfl)) (by decide) rfl ?_
        refine wp_g (n := 1) (pc' := 105) (L' := [some (.ref 158), some (.int (iI y1)), some (.int (iI y2)), some (.int (iI y3)), some (.int (iI y4)), some (.int (iI 1))]) (st' := [.ref 158, .ref 163]) rfl ?_
        refine wp_getf (v := .int (iI (m 158 6))) rfl rfl (S.cell 158 (nc rfl)) (by decide) rfl ?_
        refine wp_g (n := 1) (pc' := 109) (L' := [some (.ref 158), some (.int (iI y1)), some (.int (iI y2)), some (.int (iI y3)), some (.int (iI y4)), some (.int (iI 1))]) (st' := [.int (iI y3), .int (iI (m 158 6)), .ref 163]) rfl ?_
        obtain ⟨p14, hW⟩ := hW
        refine wp_iasF (n := 24) (F := (m 163)) (y := y3) rfl (S.cell 163 (nc rfl)) p14.1 p14.2 (by decide) (fun H13 hl13 hz13 hf13 => ?_)
        have S : ST H13 (up (up m 165 (up (m 165) ((((2 * y3) + y4)).toNat) (m 158 6))) 163 (up (m 163) (((m 158 6)).toNat) y3)) γ t := S.setI 163 (nc rfl) hl13 hz13 hf13 hy3.1 hy3.2
        refine wp_g (n := 1) (pc' := 111) (L' := [some (.ref 158), some (.int (iI y1)), some (.int (iI y2)), some (.int (iI y3)), some (.int (iI y4)), some (.int (iI 1))]) (st' := [.ref 158]) rfl ?_
        refine wp_getf (v := .ref 164) rfl rfl (S.cell 158 (nc rfl)) (by decide) rfl ?_
        refine wp_g (n := 1) (pc' := 115) (L' := [some (.ref 158), some (.int (iI y1)), some (.int (iI y2)), some (.int (iI y3)), some (.int (iI y4)), some (.int (iI 1))]) (st' := [.ref 158, .ref 164]) rfl ?_
        refine wp_getf (v := .int (iI (m 158 6))) rfl rfl (S.cell 158 (nc rfl)) (by decide) rfl ?_
        refine wp_g (n := 1) (pc' := 120) (L' := [some (.ref 158), some (.int (iI y1)), some (.int (iI y2)), some (.int (iI y3)), some (.int (iI y4)), some (.int (iI 1))]) (st' := [.int (iI y4), .int (iI (m 158 6)), .ref 164]) rfl ?_
        obtain ⟨p16, hW⟩ := hW
        refine wp_iasF (n := 24) (F := (m 164)) (y := y4) rfl (S.cell 164 (nc rfl)) p16.1 p16.2 (by decide) (fun H15 hl15 hz15 hf15 => ?_)
        have S : ST H15 (up (up (up m 165 (up (m 165) ((((2 * y3) + y4)).toNat) (m 158 6))) 163 (up (m 163) (((m 158 6)).toNat) y3)) 164 (up (m 164) (((m 158 6)).toNat) y4)) γ t := S.setI 164 (nc rfl) hl15 hz15 hf15 hy4.1 hy4.2
        refine wp_g (n := 2) (pc' := 123) (L' := [some (.ref 158), some (.int (iI y1)), some (.int (iI y2)), some (.int (iI y3)), some (.int (iI y4)), some (.int (iI 1))]) (st' := [.ref 158, .ref 158]) rfl ?_
        refine wp_getf (v := .int (iI (m 158 6))) rfl rfl (S.cell 158 (nc rfl)) (by decide) rfl ?_
        refine wp_g (n := 1) (pc' := 127) (L' := [some (.ref 158), some (.int (iI y1)), some (.int (iI y2)), some (.int (iI y3)), some (.int (iI y4)), some (.int (iI 1))]) (st' := [.int (iI 1), .int (iI (m 158 6)), .ref 158]) rfl ?_
        refine wp_add (a := (m 158 6)) (b := 1) rfl ?_
        obtain ⟨p18, hW⟩ := hW
        refine wp_putI rfl rfl (S.cell 158 (nc rfl)) (Nat.le_of_ble_eq_true rfl) rfl (fun H17 hl17 hz17 hf17 => ?_)
        have S : ST H17 (up (up (up (up m 165 (up (m 165) ((((2 * y3) + y4)).toNat) (m 158 6))) 163 (up (m 163) (((m 158 6)).toNat) y3)) 164 (up (m 164) (((m 158 6)).toNat) y4)) 158 (up (m 158) 6 ((m 158 6) + 1))) γ t := S.setI 158 (nc rfl) hl17 hz17 hf17 p18.1 p18.2
        refine wp_iinc (L' := [some (.ref 158), some (.int (iI y1)), some (.int (iI y2)), some (.int (iI y3)), some (.int (iI (y4 + 1))), some (.int (iI 1))]) (a := y4) rfl rfl rfl ?_
        refine wp_g (n := 1) (pc' := 27) (L' := [some (.ref 158), some (.int (iI y1)), some (.int (iI y2)), some (.int (iI y3)), some (.int (iI (y4 + 1))), some (.int (iI 1))]) (st' := []) rfl ?_
        exact hW (some (.int (iI 1))) _ S
    · have dc2 := (Classical.not_not.mp c2)
      have hW := hW.1 dc2
      refine wp_g (n := 2) (pc' := 40) (L' := [some (.ref 158), some (.int (iI y1)), some (.int (iI y2)), some (.int (iI y3)), some (.int (iI y4)), z5]) (st' := [.int (iI y2), .int (iI y3)]) rfl ?_
      obtain ⟨p19, hW⟩ := hW
      obtain ⟨p20, hW⟩ := hW
      refine wp_rem (a := y3) (b := y2) rfl p19 hy3.2 p20 hy2.2 ?_
      refine wp_g (n := 2) (pc' := 43) (L' := [some (.ref 158), some (.int (iI y1)), some (.int (iI y2)), some (.int (iI y3)), some (.int (iI y4)), z5]) (st' := [.int (iI 1), .int (iI y2), .int (iI (y3 % y2))]) rfl ?_
      refine wp_sub (a := y2) (b := 1) rfl ?_
      obtain ⟨p21, hW⟩ := hW
      obtain ⟨p22, hW⟩ := hW
      refine wp_icmpI (a := (y3 % y2)) (b := (y2 - 1)) rfl rfl p21.1 p21.2 p22.1 p22.2 (fun c23 => ?_) (fun c23 => ?_)
      · have dc23 := (Int.not_lt.mpr c23)
        have hW := hW.2 dc23
        refine wp_g (n := 4) (pc' := 72) (L' := [some (.ref 158), some (.int (iI y1)), some (.int (iI y2)), some (.int (iI y3)), some (.int (iI y4)), some (.int (iI 0))]) (st' := [.ref 158]) rfl ?_
        refine wp_getf (v := .ref 165) rfl rfl (S.cell 158 (nc rfl)) (by decide) rfl ?_
        refine wp_g (n := 2) (pc' := 77) (L' := [some (.ref 158), some (.int (iI y1)), some (.int (iI y2)), some (.int (iI y3)), some (.int (iI y4)), some (.int (iI 0))]) (st' := [.int (iI y3), .int (iI 2), .ref 165]) rfl ?_
        refine wp_mul (a := 2) (b := y3) rfl ?_
        refine wp_g (n := 1) (pc' := 80) (L' := [some (.ref 158), some (.int (iI y1)), some (.int (iI y2)), some (.int (iI y3)), some (.int (iI y4)), some (.int (iI 0))]) (st' := [.int (iI y4), .int (iI (2 * y3)), .ref 165]) rfl ?_
        refine wp_add (a := (2 * y3)) (b := y4) rfl ?_
        refine wp_g (n := 1) (pc' := 83) (L' := [some (.ref 158), some (.int (iI y1)), some (.int (iI y2)), some (.int (iI y3)), some (.int (iI y4)), some (.int (iI 0))]) (st' := [.int (iI 0), .int (iI ((2 * y3) + y4)), .ref 165]) rfl ?_
        refine wp_g (n := 1) (pc' := 93) (L' := [some (.ref 158), some (.int (iI y1)), some (.int (iI y2)), some (.int (iI y3)), some (.int (iI y4)), some (.int (iI 0))]) (st' := [.int (iI ((2 * y3) + y4)), .ref 165]) rfl ?_
        refine wp_g (n := 1) (pc' := 94) (L' := [some (.ref 158), some (.int (iI y1)), some (.int (iI y2)), some (.int (iI y3)), some (.int (iI y4)), some (.int (iI 0))]) (st' := [.int (iI (-1)), .int (iI ((2 * y3) + y4)), .ref 165]) rfl ?_
        obtain ⟨p25, hW⟩ := hW
        refine wp_iasF (n := 32) (F := (m 165)) (y := (-1)) rfl (S.cell 165 (nc rfl)) p25.1 p25.2 (by decide) (fun H24 hl24 hz24 hf24 => ?_)
        have S : ST H24 (up m 165 (up (m 165) ((((2 * y3) + y4)).toNat) (-1))) γ t := S.setI 165 (nc rfl) hl24 hz24 hf24 (by decide) (by decide)
        refine wp_g (n := 1) (pc' := 97) (L' := [some (.ref 158), some (.int (iI y1)), some (.int (iI y2)), some (.int (iI y3)), some (.int (iI y4)), some (.int (iI 0))]) (st' := [.int (iI 0)]) rfl ?_
        refine wp_g (n := 1) (pc' := 131) (L' := [some (.ref 158), some (.int (iI y1)), some (.int (iI y2)), some (.int (iI y3)), some (.int (iI y4)), some (.int (iI 0))]) (st' := []) rfl ?_
        refine wp_iinc (L' := [some (.ref 158), some (.int (iI y1)), some (.int (iI y2)), some (.int (iI y3)), some (.int (iI (y4 + 1))), some (.int (iI 0))]) (a := y4) rfl rfl rfl ?_
        refine wp_g (n := 1) (pc' := 27) (L' := [some (.ref 158), some (.int (iI y1)), some (.int (iI y2)), some (.int (iI y3)), some (.int (iI (y4 + 1))), some (.int (iI 0))]) (st' := []) rfl ?_
        exact hW (some (.int (iI 0))) _ S
      · have dc23 := (Int.not_le.mp c23)
        have hW := hW.1 dc23
        refine wp_g (n := 4) (pc' := 72) (L' := [some (.ref 158), some (.int (iI y1)), some (.int (iI y2)), some (.int (iI y3)), some (.int (iI y4)), some (.int (iI 1))]) (st' := [.ref 158]) rfl ?_
        refine wp_getf (v := .ref 165) rfl rfl (S.cell 158 (nc rfl)) (by decide) rfl ?_
        refine wp_g (n := 2) (pc' := 77) (L' := [some (.ref 158), some (.int (iI y1)), some (.int (iI y2)), some (.int (iI y3)), some (.int (iI y4)), some (.int (iI 1))]) (st' := [.int (iI y3), .int (iI 2), .ref 165]) rfl ?_
        refine wp_mul (a := 2) (b := y3) rfl ?_
        refine wp_g (n := 1) (pc' := 80) (L' := [some (.ref 158), some (.int (iI y1)), some (.int (iI y2)), some (.int (iI y3)), some (.int (iI y4)), some (.int (iI 1))]) (st' := [.int (iI y4), .int (iI (2 * y3)), .ref 165]) rfl ?_
        refine wp_add (a := (2 * y3)) (b := y4) rfl ?_
        refine wp_g (n := 1) (pc' := 83) (L' := [some (.ref 158), some (.int (iI y1)), some (.int (iI y2)), some (.int (iI y3)), some (.int (iI y4)), some (.int (iI 1))]) (st' := [.int (iI 1), .int (iI ((2 * y3) + y4)), .ref 165]) rfl ?_
        refine wp_g (n := 1) (pc' := 86) (L' := [some (.ref 158), some (.int (iI y1)), some (.int (iI y2)), some (.int (iI y3)), some (.int (iI y4)), some (.int (iI 1))]) (st' := [.int (iI ((2 * y3) + y4)), .ref 165]) rfl ?_
        refine wp_g (n := 1) (pc' := 87) (L' := [some (.ref 158), some (.int (iI y1)), some (.int (iI y2)), some (.int (iI y3)), some (.int (iI y4)), some (.int (iI 1))]) (st' := [.ref 158, .int (iI ((2 * y3) + y4)), .ref 165]) rfl ?_
        refine wp_getf (v := .int (iI (m 158 6))) rfl rfl (S.cell 158 (nc rfl)) (by decide) rfl ?_
        have hr26 : rJ (m 158 6) := S.rg 158 6 (nl rfl)
        refine wp_g (n := 1) (pc' := 94) (L' := [some (.ref 158), some (.int (iI y1)), some (.int (iI y2)), some (.int (iI y3)), some (.int (iI y4)), some (.int (iI 1))]) (st' := [.int (iI (m 158 6)), .int (iI ((2 * y3) + y4)), .ref 165]) rfl ?_
        obtain ⟨p28, hW⟩ := hW
        refine wp_iasF (n := 32) (F := (m 165)) (y := (m 158 6)) rfl (S.cell 165 (nc rfl)) p28.1 p28.2 (by decide) (fun H27 hl27 hz27 hf27 => ?_)
        have S : ST H27 (up m 165 (up (m 165) ((((2 * y3) + y4)).toNat) (m 158 6))) γ t := S.setI 165 (nc rfl) hl27 hz27 hf27 hr26.1 hr26.2
        refine wp_g (n := 1) (pc' := 97) (L' := [some (.ref 158), some (.int (iI y1)), some (.int (iI y2)), some (.int (iI y3)), some (.int (iI y4)), some (.int (iI 1))]) (st' := [.int (iI 1)]) rfl ?_
        refine wp_g (n := 1) (pc' := 100) (L' := [some (.ref 158), some (.int (iI y1)), some (.int (iI y2)), some (.int (iI y3)), some (.int (iI y4)), some (.int (iI 1))]) (st' := []) rfl ?_
        refine wp_g (n := 1) (pc' := 101) (L' := [some (.ref 158), some (.int (iI y1)), some (.int (iI y2)), some (.int (iI y3)), some (.int (iI y4)), some (.int (iI 1))]) (st' := [.ref 158]) rfl ?_
        refine wp_getf (v := .ref 163) rfl rfl (S.cell 158 (nc rfl)) (by decide) rfl ?_
        refine wp_g (n := 1) (pc' := 105) (L' := [some (.ref 158), some (.int (iI y1)), some (.int (iI y2)), some (.int (iI y3)), some (.int (iI y4)), some (.int (iI 1))]) (st' := [.ref 158, .ref 163]) rfl ?_
        refine wp_getf (v := .int (iI (m 158 6))) rfl rfl (S.cell 158 (nc rfl)) (by decide) rfl ?_
        refine wp_g (n := 1) (pc' := 109) (L' := [some (.ref 158), some (.int (iI y1)), some (.int (iI y2)), some (.int (iI y3)), some (.int (iI y4)), some (.int (iI 1))]) (st' := [.int (iI y3), .int (iI (m 158 6)), .ref 163]) rfl ?_
        obtain ⟨p30, hW⟩ := hW
        refine wp_iasF (n := 24) (F := (m 163)) (y := y3) rfl (S.cell 163 (nc rfl)) p30.1 p30.2 (by decide) (fun H29 hl29 hz29 hf29 => ?_)
        have S : ST H29 (up (up m 165 (up (m 165) ((((2 * y3) + y4)).toNat) (m 158 6))) 163 (up (m 163) (((m 158 6)).toNat) y3)) γ t := S.setI 163 (nc rfl) hl29 hz29 hf29 hy3.1 hy3.2
        refine wp_g (n := 1) (pc' := 111) (L' := [some (.ref 158), some (.int (iI y1)), some (.int (iI y2)), some (.int (iI y3)), some (.int (iI y4)), some (.int (iI 1))]) (st' := [.ref 158]) rfl ?_
        refine wp_getf (v := .ref 164) rfl rfl (S.cell 158 (nc rfl)) (by decide) rfl ?_
        refine wp_g (n := 1) (pc' := 115) (L' := [some (.ref 158), some (.int (iI y1)), some (.int (iI y2)), some (.int (iI y3)), some (.int (iI y4)), some (.int (iI 1))]) (st' := [.ref 158, .ref 164]) rfl ?_
        refine wp_getf (v := .int (iI (m 158 6))) rfl rfl (S.cell 158 (nc rfl)) (by decide) rfl ?_
        refine wp_g (n := 1) (pc' := 120) (L' := [some (.ref 158), some (.int (iI y1)), some (.int (iI y2)), some (.int (iI y3)), some (.int (iI y4)), some (.int (iI 1))]) (st' := [.int (iI y4), .int (iI (m 158 6)), .ref 164]) rfl ?_
        obtain ⟨p32, hW⟩ := hW
        refine wp_iasF (n := 24) (F := (m 164)) (y := y4) rfl (S.cell 164 (nc rfl)) p32.1 p32.2 (by decide) (fun H31 hl31 hz31 hf31 => ?_)
        have S : ST H31 (up (up (up m 165 (up (m 165) ((((2 * y3) + y4)).toNat) (m 158 6))) 163 (up (m 163) (((m 158 6)).toNat) y3)) 164 (up (m 164) (((m 158 6)).toNat) y4)) γ t := S.setI 164 (nc rfl) hl31 hz31 hf31 hy4.1 hy4.2
        refine wp_g (n := 2) (pc' := 123) (L' := [some (.ref 158), some (.int (iI y1)), some (.int (iI y2)), some (.int (iI y3)), some (.int (iI y4)), some (.int (iI 1))]) (st' := [.ref 158, .ref 158]) rfl ?_
        refine wp_getf (v := .int (iI (m 158 6))) rfl rfl (S.cell 158 (nc rfl)) (by decide) rfl ?_
        refine wp_g (n := 1) (pc' := 127) (L' := [some (.ref 158), some (.int (iI y1)), some (.int (iI y2)), some (.int (iI y3)), some (.int (iI y4)), some (.int (iI 1))]) (st' := [.int (iI 1), .int (iI (m 158 6)), .ref 158]) rfl ?_
        refine wp_add (a := (m 158 6)) (b := 1) rfl ?_
        obtain ⟨p34, hW⟩ := hW
        refine wp_putI rfl rfl (S.cell 158 (nc rfl)) (Nat.le_of_ble_eq_true rfl) rfl (fun H33 hl33 hz33 hf33 => ?_)
        have S : ST H33 (up (up (up (up m 165 (up (m 165) ((((2 * y3) + y4)).toNat) (m 158 6))) 163 (up (m 163) (((m 158 6)).toNat) y3)) 164 (up (m 164) (((m 158 6)).toNat) y4)) 158 (up (m 158) 6 ((m 158 6) + 1))) γ t := S.setI 158 (nc rfl) hl33 hz33 hf33 p34.1 p34.2
        refine wp_iinc (L' := [some (.ref 158), some (.int (iI y1)), some (.int (iI y2)), some (.int (iI y3)), some (.int (iI (y4 + 1))), some (.int (iI 1))]) (a := y4) rfl rfl rfl ?_
        refine wp_g (n := 1) (pc' := 27) (L' := [some (.ref 158), some (.int (iI y1)), some (.int (iI y2)), some (.int (iI y3)), some (.int (iI (y4 + 1))), some (.int (iI 1))]) (st' := []) rfl ?_
        exact hW (some (.int (iI 1))) _ S
def hd_X9_lays_26 (E : am_E) (k : Nat) (x1 : Int) (y1 : Int) (y2 : Int) (m : MM) (γ : GM) (t : am_H) (Q : MM → GM → am_H → Prop) : Prop := TT (pV Q) E (k + 1) 201 26 [some (.ref 158), some (.int (iI y1)), some (.int (iI y2))] [] m γ t
abbrev W_X9_lays (E : am_E) (k : Nat) (x1 : Int) (m : MM) (γ : GM) (t : am_H) (Q : MM → GM → am_H → Prop) : Prop := ((0 ≤ (26 * x1) ∧ (26 * x1) < 78) ∧ ((0 ≤ ((26 * x1) + 1) ∧ ((26 * x1) + 1) < 78) ∧ (TV E k 200 [.ref 158, .int (iI (m 159 (((26 * x1)).toNat))), .int (iI (m 159 ((((26 * x1) + 1)).toNat)))] m γ t (fun m5 γ5 t5 => (hd_X9_lays_26 E k x1 x1 0 m5 γ5 t5 Q)))))
abbrev W_X9_lays_26 (E : am_E) (k : Nat) (x1 : Int) (y1 : Int) (y2 : Int) (m : MM) (γ : GM) (t : am_H) (Q : MM → GM → am_H → Prop) : Prop := (((y2 < (m 158 6)) → ((0 ≤ (((26 * y1) + 2) + y2) ∧ (((26 * y1) + 2) + y2) < 78) ∧ ((0 ≤ y2 ∧ y2 < 24) ∧ (hd_X9_lays_26 E k x1 y1 (y2 + 1) (up m 162 (up (m 162) ((y2).toNat) (m 159 (((((26 * y1) + 2) + y2)).toNat)))) γ t Q)))) ∧ (¬ (y2 < (m 158 6)) → (Q m γ t)))
theorem vc_X9_lays {E : am_E} {k : Nat} {x1 : Int} {m : MM} {γ : GM} {t : am_H} {Q : MM → GM → am_H → Prop} (hx1 : rJ x1) (hW : W_X9_lays E k x1 m γ t Q) : TV E (k + 1) 201 [.ref 158, .int (iI x1)] m γ t Q := by
  unfold W_X9_lays at hW
  intro h S
  refine wp_g (n := 2) (pc' := 2) (L' := [some (.ref 158), some (.int (iI x1)), none]) (st' := [.ref 158, .ref 158]) rfl ?_
  refine wp_getf (v := .ref 159) rfl rfl (S.cell 158 (nc rfl)) (by decide) rfl ?_
  refine wp_g (n := 2) (pc' := 8) (L' := [some (.ref 158), some (.int (iI x1)), none]) (st' := [.int (iI x1), .int (iI 26), .ref 159, .ref 158]) rfl ?_
  refine wp_mul (a := 26) (b := x1) rfl ?_
  obtain ⟨p1, hW⟩ := hW
  refine wp_iald (n := 78) (F := (m 159)) rfl (S.cell 159 (nc rfl)) (by decide) p1.1 p1.2 (by decide) ?_
  show wp _ _ _ _ _ [.int (iI (m 159 (((26 * x1)).toNat))), .ref 158] _ _
  have hr2 : rJ (m 159 (((26 * x1)).toNat)) := S.rg 159 (((26 * x1)).toNat) (nl rfl)
  refine wp_g (n := 1) (pc' := 11) (L' := [some (.ref 158), some (.int (iI x1)), none]) (st' := [.ref 158, .int (iI (m 159 (((26 * x1)).toNat))), .ref 158]) rfl ?_
  refine wp_getf (v := .ref 159) rfl rfl (S.cell 158 (nc rfl)) (by decide) rfl ?_
  refine wp_g (n := 2) (pc' := 17) (L' := [some (.ref 158), some (.int (iI x1)), none]) (st' := [.int (iI x1), .int (iI 26), .ref 159, .int (iI (m 159 (((26 * x1)).toNat))), .ref 158]) rfl ?_
  refine wp_mul (a := 26) (b := x1) rfl ?_
  refine wp_g (n := 1) (pc' := 19) (L' := [some (.ref 158), some (.int (iI x1)), none]) (st' := [.int (iI 1), .int (iI (26 * x1)), .ref 159, .int (iI (m 159 (((26 * x1)).toNat))), .ref 158]) rfl ?_
  refine wp_add (a := (26 * x1)) (b := 1) rfl ?_
  obtain ⟨p3, hW⟩ := hW
  refine wp_iald (n := 78) (F := (m 159)) rfl (S.cell 159 (nc rfl)) (by decide) p3.1 p3.2 (by decide) ?_
  show wp _ _ _ _ _ [.int (iI (m 159 ((((26 * x1) + 1)).toNat))), .int (iI (m 159 (((26 * x1)).toNat))), .ref 158] _ _
  have hr4 : rJ (m 159 ((((26 * x1) + 1)).toNat)) := S.rg 159 ((((26 * x1) + 1)).toNat) (nl rfl)
  refine wp_cv (As := [.int (iI (m 159 (((26 * x1)).toNat))), .int (iI (m 159 ((((26 * x1) + 1)).toNat)))]) (rest := []) rfl rfl (S.cell 158 (nc rfl)) (by decide) rfl rfl rfl (Nat.le_of_ble_eq_true rfl) (Nat.le_of_ble_eq_true rfl) (hW _ S) (fun r5 H5 q5 => ?_)
  obtain ⟨m5, γ5, t5, rfl, S, hW⟩ := q5
  show wp _ _ _ _ _ [] _ _
  refine wp_g (n := 2) (pc' := 26) (L' := [some (.ref 158), some (.int (iI x1)), some (.int (iI 0))]) (st' := []) rfl ?_
  exact hW _ S
theorem vc_X9_lays_26 {E : am_E} {k : Nat} {x1 : Int} {y1 : Int} {y2 : Int} {m : MM} {γ : GM} {t : am_H} {Q : MM → GM → am_H → Prop} (hx1 : rJ x1) (hy1 : rJ y1) (hy2 : rJ y2) (hW : W_X9_lays_26 E k x1 y1 y2 m γ t Q) : hd_X9_lays_26 E k x1 y1 y2 m γ t Q := by
  unfold W_X9_lays_26 at hW
  intro h S
  refine wp_g (n := 2) (pc' := 28) (L' := [some (.ref 158), some (.int (iI y1)), some (.int (iI y2))]) (st' := [.ref 158, .int (iI y2)]) rfl ?_
  refine wp_getf (v := .int (iI (m 158 6))) rfl rfl (S.cell 158 (nc rfl)) (by decide) rfl ?_
  have hr1 : rJ (m 158 6) := S.rg 158 6 (nl rfl)
  refine wp_icmpI (a := y2) (b := (m 158 6)) rfl rfl hy2.1 hy2.2 hr1.1 hr1.2 (fun c2 => ?_) (fun c2 => ?_)
  · have dc2 := (Int.not_lt.mpr c2)
    have hW := hW.2 dc2
    exact wp_vret rfl rfl ⟨_, _, _, rfl, S, hW⟩
  · have dc2 := (Int.not_le.mp c2)
    have hW := hW.1 dc2
    refine wp_g (n := 1) (pc' := 35) (L' := [some (.ref 158), some (.int (iI y1)), some (.int (iI y2))]) (st' := [.ref 158]) rfl ?_
    refine wp_getf (v := .ref 162) rfl rfl (S.cell 158 (nc rfl)) (by decide) rfl ?_
    refine wp_g (n := 2) (pc' := 40) (L' := [some (.ref 158), some (.int (iI y1)), some (.int (iI y2))]) (st' := [.ref 158, .int (iI y2), .ref 162]) rfl ?_
    refine wp_getf (v := .ref 159) rfl rfl (S.cell 158 (nc rfl)) (by decide) rfl ?_
    refine wp_g (n := 2) (pc' := 46) (L' := [some (.ref 158), some (.int (iI y1)), some (.int (iI y2))]) (st' := [.int (iI y1), .int (iI 26), .ref 159, .int (iI y2), .ref 162]) rfl ?_
    refine wp_mul (a := 26) (b := y1) rfl ?_
    refine wp_g (n := 1) (pc' := 48) (L' := [some (.ref 158), some (.int (iI y1)), some (.int (iI y2))]) (st' := [.int (iI 2), .int (iI (26 * y1)), .ref 159, .int (iI y2), .ref 162]) rfl ?_
    refine wp_add (a := (26 * y1)) (b := 2) rfl ?_
    refine wp_g (n := 1) (pc' := 50) (L' := [some (.ref 158), some (.int (iI y1)), some (.int (iI y2))]) (st' := [.int (iI y2), .int (iI ((26 * y1) + 2)), .ref 159, .int (iI y2), .ref 162]) rfl ?_
    refine wp_add (a := ((26 * y1) + 2)) (b := y2) rfl ?_
    obtain ⟨p3, hW⟩ := hW
    refine wp_iald (n := 78) (F := (m 159)) rfl (S.cell 159 (nc rfl)) (by decide) p3.1 p3.2 (by decide) ?_
    show wp _ _ _ _ _ [.int (iI (m 159 (((((26 * y1) + 2) + y2)).toNat))), .int (iI y2), .ref 162] _ _
    have hr4 : rJ (m 159 (((((26 * y1) + 2) + y2)).toNat)) := S.rg 159 (((((26 * y1) + 2) + y2)).toNat) (nl rfl)
    obtain ⟨p6, hW⟩ := hW
    refine wp_iasF (n := 24) (F := (m 162)) (y := (m 159 (((((26 * y1) + 2) + y2)).toNat))) rfl (S.cell 162 (nc rfl)) p6.1 p6.2 (by decide) (fun H5 hl5 hz5 hf5 => ?_)
    have S : ST H5 (up m 162 (up (m 162) ((y2).toNat) (m 159 (((((26 * y1) + 2) + y2)).toNat)))) γ t := S.setI 162 (nc rfl) hl5 hz5 hf5 hr4.1 hr4.2
    refine wp_iinc (L' := [some (.ref 158), some (.int (iI y1)), some (.int (iI (y2 + 1)))]) (a := y2) rfl rfl rfl ?_
    refine wp_g (n := 1) (pc' := 26) (L' := [some (.ref 158), some (.int (iI y1)), some (.int (iI (y2 + 1)))]) (st' := []) rfl ?_
    exact hW _ S
def hd_X9_puts_75 (E : am_E) (k : Nat) (x1 : Int) (x2 : Int) (y1 : Int) (y2 : Int) (y3 : Int) (y4 : Int) (m : MM) (γ : GM) (t : am_H) (Q : Int → MM → GM → am_H → Prop) : Prop := ∀ (z5 : Option Value), TT (pI Q) E (k + 1) 202 75 [some (.ref 158), some (.int (iI y1)), some (.int (iI y2)), some (.int (iI y3)), some (.int (iI y4)), z5] [] m γ t
abbrev W_X9_puts (E : am_E) (k : Nat) (x1 : Int) (x2 : Int) (m : MM) (γ : GM) (t : am_H) (Q : Int → MM → GM → am_H → Prop) : Prop := (TV E k 196 [.ref 158] m γ t (fun m1 γ1 t1 => ((0 ≤ (26 * x1) ∧ (26 * x1) < 78) ∧ ((((m1 159 (((26 * x1)).toNat)) = (m1 158 4)) → ((0 ≤ ((26 * x1) + 1) ∧ ((26 * x1) + 1) < 78) ∧ ((((m1 159 ((((26 * x1) + 1)).toNat)) = (m1 158 5)) → ((0 ≤ (26 * x1) ∧ (26 * x1) < 78) ∧ ((0 ≤ ((26 * x1) + 1) ∧ ((26 * x1) + 1) < 78) ∧ (hd_X9_puts_75 E k x1 x2 x1 x2 1 0 (up (up m1 159 (up (m1 159) (((26 * x1)).toNat) (m1 158 4))) 159 (up (up (m1 159) (((26 * x1)).toNat) (m1 158 4)) ((((26 * x1) + 1)).toNat) (m1 158 5))) γ1 t1 Q)))) ∧ (¬ ((m1 159 ((((26 * x1) + 1)).toNat)) = (m1 158 5)) → ((0 ≤ (26 * x1) ∧ (26 * x1) < 78) ∧ ((0 ≤ ((26 * x1) + 1) ∧ ((26 * x1) + 1) < 78) ∧ (hd_X9_puts_75 E k x1 x2 x1 x2 0 0 (up (up m1 159 (up (m1 159) (((26 * x1)).toNat) (m1 158 4))) 159 (up (up (m1 159) (((26 * x1)).toNat) (m1 158 4)) ((((26 * x1) + 1)).toNat) (m1 158 5))) γ1 t1 Q))))))) ∧ (¬ ((m1 159 (((26 * x1)).toNat)) = (m1 158 4)) → ((0 ≤ (26 * x1) ∧ (26 * x1) < 78) ∧ ((0 ≤ ((26 * x1) + 1) ∧ ((26 * x1) + 1) < 78) ∧ (hd_X9_puts_75 E k x1 x2 x1 x2 0 0 (up (up m1 159 (up (m1 159) (((26 * x1)).toNat) (m1 158 4))) 159 (up (up (m1 159) (((26 * x1)).toNat) (m1 158 4)) ((((26 * x1) + 1)).toNat) (m1 158 5))) γ1 t1 Q))))))))
abbrev W_X9_puts_75 (E : am_E) (k : Nat) (x1 : Int) (x2 : Int) (y1 : Int) (y2 : Int) (y3 : Int) (y4 : Int) (m : MM) (γ : GM) (t : am_H) (Q : Int → MM → GM → am_H → Prop) : Prop := (((y4 < 24) → (((y4 < (m 158 6)) → ((0 ≤ y4 ∧ y4 < 24) ∧ (((y3 = 0) → ((0 ≤ (((26 * y1) + 2) + y4) ∧ (((26 * y1) + 2) + y4) < 78) ∧ (hd_X9_puts_75 E k x1 x2 y1 y2 0 (y4 + 1) (up m 159 (up (m 159) (((((26 * y1) + 2) + y4)).toNat) (m 162 ((y4).toNat)))) γ t Q))) ∧ (¬ (y3 = 0) → ((0 ≤ (((26 * y1) + 2) + y4) ∧ (((26 * y1) + 2) + y4) < 78) ∧ ((((m 159 (((((26 * y1) + 2) + y4)).toNat)) = (m 162 ((y4).toNat))) → ((0 ≤ (((26 * y1) + 2) + y4) ∧ (((26 * y1) + 2) + y4) < 78) ∧ (hd_X9_puts_75 E k x1 x2 y1 y2 1 (y4 + 1) (up m 159 (up (m 159) (((((26 * y1) + 2) + y4)).toNat) (m 162 ((y4).toNat)))) γ t Q))) ∧ (¬ ((m 159 (((((26 * y1) + 2) + y4)).toNat)) = (m 162 ((y4).toNat))) → ((0 ≤ (((26 * y1) + 2) + y4) ∧ (((26 * y1) + 2) + y4) < 78) ∧ (hd_X9_puts_75 E k x1 x2 y1 y2 0 (y4 + 1) (up m 159 (up (m 159) (((((26 * y1) + 2) + y4)).toNat) (m 162 ((y4).toNat)))) γ t Q))))))))) ∧ (¬ (y4 < (m 158 6)) → (((y3 = 0) → ((0 ≤ (((26 * y1) + 2) + y4) ∧ (((26 * y1) + 2) + y4) < 78) ∧ (hd_X9_puts_75 E k x1 x2 y1 y2 0 (y4 + 1) (up m 159 (up (m 159) (((((26 * y1) + 2) + y4)).toNat) 0)) γ t Q))) ∧ (¬ (y3 = 0) → ((0 ≤ (((26 * y1) + 2) + y4) ∧ (((26 * y1) + 2) + y4) < 78) ∧ ((((m 159 (((((26 * y1) + 2) + y4)).toNat)) = 0) → ((0 ≤ (((26 * y1) + 2) + y4) ∧ (((26 * y1) + 2) + y4) < 78) ∧ (hd_X9_puts_75 E k x1 x2 y1 y2 1 (y4 + 1) (up m 159 (up (m 159) (((((26 * y1) + 2) + y4)).toNat) 0)) γ t Q))) ∧ (¬ ((m 159 (((((26 * y1) + 2) + y4)).toNat)) = 0) → ((0 ≤ (((26 * y1) + 2) + y4) ∧ (((26 * y1) + 2) + y4) < 78) ∧ (hd_X9_puts_75 E k x1 x2 y1 y2 0 (y4 + 1) (up m 159 (up (m 159) (((((26 * y1) + 2) + y4)).toNat) 0)) γ t Q)))))))))) ∧ (¬ (y4 < 24) → (((y3 = 0) → (TI E k 197 [.ref 158, .int (iI y2)] m γ t (fun v3 m3 γ3 t3 => (Q v3 m3 γ3 t3)))) ∧ (¬ (y3 = 0) → (Q y2 m γ t)))))
theorem vc_X9_puts {E : am_E} {k : Nat} {x1 : Int} {x2 : Int} {m : MM} {γ : GM} {t : am_H} {Q : Int → MM → GM → am_H → Prop} (hx1 : rJ x1) (hx2 : rJ x2) (hW : W_X9_puts E k x1 x2 m γ t Q) : TI E (k + 1) 202 [.ref 158, .int (iI x1), .int (iI x2)] m γ t Q := by
  unfold W_X9_puts at hW
  intro h S
  refine wp_g (n := 1) (pc' := 1) (L' := [some (.ref 158), some (.int (iI x1)), some (.int (iI x2)), none, none, none]) (st' := [.ref 158]) rfl ?_
  refine wp_cv (As := []) (rest := []) rfl rfl (S.cell 158 (nc rfl)) (by decide) rfl rfl rfl (Nat.le_of_ble_eq_true rfl) (Nat.le_of_ble_eq_true rfl) (hW _ S) (fun r1 H1 q1 => ?_)
  obtain ⟨m1, γ1, t1, rfl, S, hW⟩ := q1
  show wp _ _ _ _ _ [] _ _
  refine wp_g (n := 1) (pc' := 5) (L' := [some (.ref 158), some (.int (iI x1)), some (.int (iI x2)), none, none, none]) (st' := [.ref 158]) rfl ?_
  refine wp_getf (v := .ref 159) rfl rfl (S.cell 158 (nc rfl)) (by decide) rfl ?_
  refine wp_g (n := 2) (pc' := 11) (L' := [some (.ref 158), some (.int (iI x1)), some (.int (iI x2)), none, none, none]) (st' := [.int (iI x1), .int (iI 26), .ref 159]) rfl ?_
  refine wp_mul (a := 26) (b := x1) rfl ?_
  obtain ⟨p2, hW⟩ := hW
  refine wp_iald (n := 78) (F := (m1 159)) rfl (S.cell 159 (nc rfl)) (by decide) p2.1 p2.2 (by decide) ?_
  show wp _ _ _ _ _ [.int (iI (m1 159 (((26 * x1)).toNat)))] _ _
  have hr3 : rJ (m1 159 (((26 * x1)).toNat)) := S.rg 159 (((26 * x1)).toNat) (nl rfl)
  refine wp_g (n := 1) (pc' := 14) (L' := [some (.ref 158), some (.int (iI x1)), some (.int (iI x2)), none, none, none]) (st' := [.ref 158, .int (iI (m1 159 (((26 * x1)).toNat)))]) rfl ?_
  refine wp_getf (v := .int (iI (m1 158 4))) rfl rfl (S.cell 158 (nc rfl)) (by decide) rfl ?_
  have hr4 : rJ (m1 158 4) := S.rg 158 4 (nl rfl)
  refine wp_icmpI (a := (m1 159 (((26 * x1)).toNat))) (b := (m1 158 4)) rfl rfl hr3.1 hr3.2 hr4.1 hr4.2 (fun c5 => ?_) (fun c5 => ?_)
  · have dc5 := c5
    have hW := hW.2 dc5
    refine wp_g (n := 3) (pc' := 45) (L' := [some (.ref 158), some (.int (iI x1)), some (.int (iI x2)), some (.int (iI 0)), none, none]) (st' := [.ref 158]) rfl ?_
    refine wp_getf (v := .ref 159) rfl rfl (S.cell 158 (nc rfl)) (by decide) rfl ?_
    refine wp_g (n := 2) (pc' := 51) (L' := [some (.ref 158), some (.int (iI x1)), some (.int (iI x2)), some (.int (iI 0)), none, none]) (st' := [.int (iI x1), .int (iI 26), .ref 159]) rfl ?_
    refine wp_mul (a := 26) (b := x1) rfl ?_
    refine wp_g (n := 1) (pc' := 53) (L' := [some (.ref 158), some (.int (iI x1)), some (.int (iI x2)), some (.int (iI 0)), none, none]) (st' := [.ref 158, .int (iI (26 * x1)), .ref 159]) rfl ?_
    refine wp_getf (v := .int (iI (m1 158 4))) rfl rfl (S.cell 158 (nc rfl)) (by decide) rfl ?_
    obtain ⟨p7, hW⟩ := hW
    refine wp_iasF (n := 78) (F := (m1 159)) (y := (m1 158 4)) rfl (S.cell 159 (nc rfl)) p7.1 p7.2 (by decide) (fun H6 hl6 hz6 hf6 => ?_)
    have S : ST H6 (up m1 159 (up (m1 159) (((26 * x1)).toNat) (m1 158 4))) γ1 t1 := S.setI 159 (nc rfl) hl6 hz6 hf6 hr4.1 hr4.2
    refine wp_g (n := 1) (pc' := 58) (L' := [some (.ref 158), some (.int (iI x1)), some (.int (iI x2)), some (.int (iI 0)), none, none]) (st' := [.ref 158]) rfl ?_
    refine wp_getf (v := .ref 159) rfl rfl (S.cell 158 (nc rfl)) (by decide) rfl ?_
    refine wp_g (n := 2) (pc' := 64) (L' := [some (.ref 158), some (.int (iI x1)), some (.int (iI x2)), some (.int (iI 0)), none, none]) (st' := [.int (iI x1), .int (iI 26), .ref 159]) rfl ?_
    refine wp_mul (a := 26) (b := x1) rfl ?_
    refine wp_g (n := 1) (pc' := 66) (L' := [some (.ref 158), some (.int (iI x1)), some (.int (iI x2)), some (.int (iI 0)), none, none]) (st' := [.int (iI 1), .int (iI (26 * x1)), .ref 159]) rfl ?_
    refine wp_add (a := (26 * x1)) (b := 1) rfl ?_
    refine wp_g (n := 1) (pc' := 68) (L' := [some (.ref 158), some (.int (iI x1)), some (.int (iI x2)), some (.int (iI 0)), none, none]) (st' := [.ref 158, .int (iI ((26 * x1) + 1)), .ref 159]) rfl ?_
    refine wp_getf (v := .int (iI (m1 158 5))) rfl rfl (S.cell 158 (nc rfl)) (by decide) rfl ?_
    have hr8 : rJ (m1 158 5) := S.rg 158 5 (nl rfl)
    obtain ⟨p10, hW⟩ := hW
    refine wp_iasF (n := 78) (F := (up (m1 159) (((26 * x1)).toNat) (m1 158 4))) (y := (m1 158 5)) rfl (S.cell 159 (nc rfl)) p10.1 p10.2 (by decide) (fun H9 hl9 hz9 hf9 => ?_)
    have S : ST H9 (up (up m1 159 (up (m1 159) (((26 * x1)).toNat) (m1 158 4))) 159 (up (up (m1 159) (((26 * x1)).toNat) (m1 158 4)) ((((26 * x1) + 1)).toNat) (m1 158 5))) γ1 t1 := S.setI 159 (nc rfl) hl9 hz9 hf9 hr8.1 hr8.2
    refine wp_g (n := 2) (pc' := 75) (L' := [some (.ref 158), some (.int (iI x1)), some (.int (iI x2)), some (.int (iI 0)), some (.int (iI 0)), none]) (st' := []) rfl ?_
    exact hW none _ S
  · have dc5 := (Classical.not_not.mp c5)
    have hW := hW.1 dc5
    refine wp_g (n := 1) (pc' := 21) (L' := [some (.ref 158), some (.int (iI x1)), some (.int (iI x2)), none, none, none]) (st' := [.ref 158]) rfl ?_
    refine wp_getf (v := .ref 159) rfl rfl (S.cell 158 (nc rfl)) (by decide) rfl ?_
    refine wp_g (n := 2) (pc' := 27) (L' := [some (.ref 158), some (.int (iI x1)), some (.int (iI x2)), none, none, none]) (st' := [.int (iI x1), .int (iI 26), .ref 159]) rfl ?_
    refine wp_mul (a := 26) (b := x1) rfl ?_
    refine wp_g (n := 1) (pc' := 29) (L' := [some (.ref 158), some (.int (iI x1)), some (.int (iI x2)), none, none, none]) (st' := [.int (iI 1), .int (iI (26 * x1)), .ref 159]) rfl ?_
    refine wp_add (a := (26 * x1)) (b := 1) rfl ?_
    obtain ⟨p11, hW⟩ := hW
    refine wp_iald (n := 78) (F := (m1 159)) rfl (S.cell 159 (nc rfl)) (by decide) p11.1 p11.2 (by decide) ?_
    show wp _ _ _ _ _ [.int (iI (m1 159 ((((26 * x1) + 1)).toNat)))] _ _
    have hr12 : rJ (m1 159 ((((26 * x1) + 1)).toNat)) := S.rg 159 ((((26 * x1) + 1)).toNat) (nl rfl)
    refine wp_g (n := 1) (pc' := 32) (L' := [some (.ref 158), some (.int (iI x1)), some (.int (iI x2)), none, none, none]) (st' := [.ref 158, .int (iI (m1 159 ((((26 * x1) + 1)).toNat)))]) rfl ?_
    refine wp_getf (v := .int (iI (m1 158 5))) rfl rfl (S.cell 158 (nc rfl)) (by decide) rfl ?_
    have hr13 : rJ (m1 158 5) := S.rg 158 5 (nl rfl)
    refine wp_icmpI (a := (m1 159 ((((26 * x1) + 1)).toNat))) (b := (m1 158 5)) rfl rfl hr12.1 hr12.2 hr13.1 hr13.2 (fun c14 => ?_) (fun c14 => ?_)
    · have dc14 := c14
      have hW := hW.2 dc14
      refine wp_g (n := 3) (pc' := 45) (L' := [some (.ref 158), some (.int (iI x1)), some (.int (iI x2)), some (.int (iI 0)), none, none]) (st' := [.ref 158]) rfl ?_
      refine wp_getf (v := .ref 159) rfl rfl (S.cell 158 (nc rfl)) (by decide) rfl ?_
      refine wp_g (n := 2) (pc' := 51) (L' := [some (.ref 158), some (.int (iI x1)), some (.int (iI x2)), some (.int (iI 0)), none, none]) (st' := [.int (iI x1), .int (iI 26), .ref 159]) rfl ?_
      refine wp_mul (a := 26) (b := x1) rfl ?_
      refine wp_g (n := 1) (pc' := 53) (L' := [some (.ref 158), some (.int (iI x1)), some (.int (iI x2)), some (.int (iI 0)), none, none]) (st' := [.ref 158, .int (iI (26 * x1)), .ref 159]) rfl ?_
      refine wp_getf (v := .int (iI (m1 158 4))) rfl rfl (S.cell 158 (nc rfl)) (by decide) rfl ?_
      obtain ⟨p16, hW⟩ := hW
      refine wp_iasF (n := 78) (F := (m1 159)) (y := (m1 158 4)) rfl (S.cell 159 (nc rfl)) p16.1 p16.2 (by decide) (fun H15 hl15 hz15 hf15 => ?_)
      have S : ST H15 (up m1 159 (up (m1 159) (((26 * x1)).toNat) (m1 158 4))) γ1 t1 := S.setI 159 (nc rfl) hl15 hz15 hf15 hr4.1 hr4.2
      refine wp_g (n := 1) (pc' := 58) (L' := [some (.ref 158), some (.int (iI x1)), some (.int (iI x2)), some (.int (iI 0)), none, none]) (st' := [.ref 158]) rfl ?_
      refine wp_getf (v := .ref 159) rfl rfl (S.cell 158 (nc rfl)) (by decide) rfl ?_
      refine wp_g (n := 2) (pc' := 64) (L' := [some (.ref 158), some (.int (iI x1)), some (.int (iI x2)), some (.int (iI 0)), none, none]) (st' := [.int (iI x1), .int (iI 26), .ref 159]) rfl ?_
      refine wp_mul (a := 26) (b := x1) rfl ?_
      refine wp_g (n := 1) (pc' := 66) (L' := [some (.ref 158), some (.int (iI x1)), some (.int (iI x2)), some (.int (iI 0)), none, none]) (st' := [.int (iI 1), .int (iI (26 * x1)), .ref 159]) rfl ?_
      refine wp_add (a := (26 * x1)) (b := 1) rfl ?_
      refine wp_g (n := 1) (pc' := 68) (L' := [some (.ref 158), some (.int (iI x1)), some (.int (iI x2)), some (.int (iI 0)), none, none]) (st' := [.ref 158, .int (iI ((26 * x1) + 1)), .ref 159]) rfl ?_
      refine wp_getf (v := .int (iI (m1 158 5))) rfl rfl (S.cell 158 (nc rfl)) (by decide) rfl ?_
      obtain ⟨p18, hW⟩ := hW
      refine wp_iasF (n := 78) (F := (up (m1 159) (((26 * x1)).toNat) (m1 158 4))) (y := (m1 158 5)) rfl (S.cell 159 (nc rfl)) p18.1 p18.2 (by decide) (fun H17 hl17 hz17 hf17 => ?_)
      have S : ST H17 (up (up m1 159 (up (m1 159) (((26 * x1)).toNat) (m1 158 4))) 159 (up (up (m1 159) (((26 * x1)).toNat) (m1 158 4)) ((((26 * x1) + 1)).toNat) (m1 158 5))) γ1 t1 := S.setI 159 (nc rfl) hl17 hz17 hf17 hr13.1 hr13.2
      refine wp_g (n := 2) (pc' := 75) (L' := [some (.ref 158), some (.int (iI x1)), some (.int (iI x2)), some (.int (iI 0)), some (.int (iI 0)), none]) (st' := []) rfl ?_
      exact hW none _ S
    · have dc14 := (Classical.not_not.mp c14)
      have hW := hW.1 dc14
      refine wp_g (n := 4) (pc' := 45) (L' := [some (.ref 158), some (.int (iI x1)), some (.int (iI x2)), some (.int (iI 1)), none, none]) (st' := [.ref 158]) rfl ?_
      refine wp_getf (v := .ref 159) rfl rfl (S.cell 158 (nc rfl)) (by decide) rfl ?_
      refine wp_g (n := 2) (pc' := 51) (L' := [some (.ref 158), some (.int (iI x1)), some (.int (iI x2)), some (.int (iI 1)), none, none]) (st' := [.int (iI x1), .int (iI 26), .ref 159]) rfl ?_
      refine wp_mul (a := 26) (b := x1) rfl ?_
      refine wp_g (n := 1) (pc' := 53) (L' := [some (.ref 158), some (.int (iI x1)), some (.int (iI x2)), some (.int (iI 1)), none, none]) (st' := [.ref 158, .int (iI (26 * x1)), .ref 159]) rfl ?_
      refine wp_getf (v := .int (iI (m1 158 4))) rfl rfl (S.cell 158 (nc rfl)) (by decide) rfl ?_
      obtain ⟨p20, hW⟩ := hW
      refine wp_iasF (n := 78) (F := (m1 159)) (y := (m1 158 4)) rfl (S.cell 159 (nc rfl)) p20.1 p20.2 (by decide) (fun H19 hl19 hz19 hf19 => ?_)
      have S : ST H19 (up m1 159 (up (m1 159) (((26 * x1)).toNat) (m1 158 4))) γ1 t1 := S.setI 159 (nc rfl) hl19 hz19 hf19 hr4.1 hr4.2
      refine wp_g (n := 1) (pc' := 58) (L' := [some (.ref 158), some (.int (iI x1)), some (.int (iI x2)), some (.int (iI 1)), none, none]) (st' := [.ref 158]) rfl ?_
      refine wp_getf (v := .ref 159) rfl rfl (S.cell 158 (nc rfl)) (by decide) rfl ?_
      refine wp_g (n := 2) (pc' := 64) (L' := [some (.ref 158), some (.int (iI x1)), some (.int (iI x2)), some (.int (iI 1)), none, none]) (st' := [.int (iI x1), .int (iI 26), .ref 159]) rfl ?_
      refine wp_mul (a := 26) (b := x1) rfl ?_
      refine wp_g (n := 1) (pc' := 66) (L' := [some (.ref 158), some (.int (iI x1)), some (.int (iI x2)), some (.int (iI 1)), none, none]) (st' := [.int (iI 1), .int (iI (26 * x1)), .ref 159]) rfl ?_
      refine wp_add (a := (26 * x1)) (b := 1) rfl ?_
      refine wp_g (n := 1) (pc' := 68) (L' := [some (.ref 158), some (.int (iI x1)), some (.int (iI x2)), some (.int (iI 1)), none, none]) (st' := [.ref 158, .int (iI ((26 * x1) + 1)), .ref 159]) rfl ?_
      refine wp_getf (v := .int (iI (m1 158 5))) rfl rfl (S.cell 158 (nc rfl)) (by decide) rfl ?_
      obtain ⟨p22, hW⟩ := hW
      refine wp_iasF (n := 78) (F := (up (m1 159) (((26 * x1)).toNat) (m1 158 4))) (y := (m1 158 5)) rfl (S.cell 159 (nc rfl)) p22.1 p22.2 (by decide) (fun H21 hl21 hz21 hf21 => ?_)
      have S : ST H21 (up (up m1 159 (up (m1 159) (((26 * x1)).toNat) (m1 158 4))) 159 (up (up (m1 159) (((26 * x1)).toNat) (m1 158 4)) ((((26 * x1) + 1)).toNat) (m1 158 5))) γ1 t1 := S.setI 159 (nc rfl) hl21 hz21 hf21 hr13.1 hr13.2
      refine wp_g (n := 2) (pc' := 75) (L' := [some (.ref 158), some (.int (iI x1)), some (.int (iI x2)), some (.int (iI 1)), some (.int (iI 0)), none]) (st' := []) rfl ?_
      exact hW none _ S
theorem vc_X9_puts_75 {E : am_E} {k : Nat} {x1 : Int} {x2 : Int} {y1 : Int} {y2 : Int} {y3 : Int} {y4 : Int} {m : MM} {γ : GM} {t : am_H} {Q : Int → MM → GM → am_H → Prop} (hx1 : rJ x1) (hx2 : rJ x2) (hy1 : rJ y1) (hy2 : rJ y2) (hy3 : rJ y3) (hy4 : rJ y4) (hW : W_X9_puts_75 E k x1 x2 y1 y2 y3 y4 m γ t Q) : hd_X9_puts_75 E k x1 x2 y1 y2 y3 y4 m γ t Q := by
  unfold W_X9_puts_75 at hW
  intro z5 h S
  refine wp_g (n := 2) (pc' := 79) (L' := [some (.ref 158), some (.int (iI y1)), some (.int (iI y2)), some (.int (iI y3)), some (.int (iI y4)), z5]) (st' := [.int (iI 24), .int (iI y4)]) rfl ?_
  refine wp_icmpI (a := y4) (b := 24) rfl rfl hy4.1 hy4.2 (by decide) (by decide) (fun c1 => ?_) (fun c1 => ?_)
  · have dc1 := (Int.not_lt.mpr c1)
    have hW := hW.2 dc1
    refine wp_g (n := 1) (pc' := 156) (L' := [some (.ref 158), some (.int (iI y1)), some (.int (iI y2)), some (.int (iI y3)), some (.int (iI y4)), z5]) (st' := [.int (iI y3)]) rfl ?_
    refine wp_ifI (a := y3) rfl rfl hy3.1 hy3.2 (fun c2 => ?_) (fun c2 => ?_)
    · have dc2 := c2
      have hW := hW.1 dc2
      refine wp_g (n := 2) (pc' := 165) (L' := [some (.ref 158), some (.int (iI y1)), some (.int (iI y2)), some (.int (iI y3)), some (.int (iI y4)), z5]) (st' := [.int (iI y2), .ref 158]) rfl ?_
      refine wp_cv (As := [.int (iI y2)]) (rest := []) rfl rfl (S.cell 158 (nc rfl)) (by decide) rfl rfl rfl (Nat.le_of_ble_eq_true rfl) (Nat.le_of_ble_eq_true rfl) (hW _ S) (fun r3 H3 q3 => ?_)
      obtain ⟨v3, m3, γ3, t3, rfl, hv3, S, hW⟩ := q3
      show wp _ _ _ _ _ [.int (iI v3)] _ _
      exact wp_iret rfl rfl ⟨_, _, _, _, rfl, hv3, S, hW⟩
    · have dc2 := c2
      have hW := hW.2 dc2
      refine wp_g (n := 2) (pc' := 168) (L' := [some (.ref 158), some (.int (iI y1)), some (.int (iI y2)), some (.int (iI y3)), some (.int (iI y4)), z5]) (st' := [.int (iI y2)]) rfl ?_
      exact wp_iret rfl rfl ⟨_, _, _, _, rfl, hy2, S, hW⟩
  · have dc1 := (Int.not_le.mp c1)
    have hW := hW.1 dc1
    refine wp_g (n := 2) (pc' := 85) (L' := [some (.ref 158), some (.int (iI y1)), some (.int (iI y2)), some (.int (iI y3)), some (.int (iI y4)), z5]) (st' := [.ref 158, .int (iI y4)]) rfl ?_
    refine wp_getf (v := .int (iI (m 158 6))) rfl rfl (S.cell 158 (nc rfl)) (by decide) rfl ?_
    have hr4 : rJ (m 158 6) := S.rg 158 6 (nl rfl)
    refine wp_icmpI (a := y4) (b := (m 158 6)) rfl rfl hy4.1 hy4.2 hr4.1 hr4.2 (fun c5 => ?_) (fun c5 => ?_)
    · have dc5 := (Int.not_lt.mpr c5)
      have hW := hW.2 dc5
      refine wp_g (n := 3) (pc' := 105) (L' := [some (.ref 158), some (.int (iI y1)), some (.int (iI y2)), some (.int (iI y3)), some (.int (iI y4)), some (.int (iI 0))]) (st' := [.int (iI y3)]) rfl ?_
      refine wp_ifI (a := y3) rfl rfl hy3.1 hy3.2 (fun c6 => ?_) (fun c6 => ?_)
      · have dc6 := c6
        have hW := hW.1 dc6
        refine wp_g (n := 3) (pc' := 134) (L' := [some (.ref 158), some (.int (iI y1)), some (.int (iI y2)), some (.int (iI 0)), some (.int (iI y4)), some (.int (iI 0))]) (st' := [.ref 158]) rfl ?_
        refine wp_getf (v := .ref 159) rfl rfl (S.cell 158 (nc rfl)) (by decide) rfl ?_
        refine wp_g (n := 2) (pc' := 140) (L' := [some (.ref 158), some (.int (iI y1)), some (.int (iI y2)), some (.int (iI 0)), some (.int (iI y4)), some (.int (iI 0))]) (st' := [.int (iI y1), .int (iI 26), .ref 159]) rfl ?_
        refine wp_mul (a := 26) (b := y1) rfl ?_
        refine wp_g (n := 1) (pc' := 142) (L' := [some (.ref 158), some (.int (iI y1)), some (.int (iI y2)), some (.int (iI 0)), some (.int (iI y4)), some (.int (iI 0))]) (st' := [.int (iI 2), .int (iI (26 * y1)), .ref 159]) rfl ?_
        refine wp_add (a := (26 * y1)) (b := 2) rfl ?_
        refine wp_g (n := 1) (pc' := 145) (L' := [some (.ref 158), some (.int (iI y1)), some (.int (iI y2)), some (.int (iI 0)), some (.int (iI y4)), some (.int (iI 0))]) (st' := [.int (iI y4), .int (iI ((26 * y1) + 2)), .ref 159]) rfl ?_
        refine wp_add (a := ((26 * y1) + 2)) (b := y4) rfl ?_
        refine wp_g (n := 1) (pc' := 148) (L' := [some (.ref 158), some (.int (iI y1)), some (.int (iI y2)), some (.int (iI 0)), some (.int (iI y4)), some (.int (iI 0))]) (st' := [.int (iI 0), .int (iI (((26 * y1) + 2) + y4)), .ref 159]) rfl ?_
        obtain ⟨p8, hW⟩ := hW
        refine wp_iasF (n := 78) (F := (m 159)) (y := 0) rfl (S.cell 159 (nc rfl)) p8.1 p8.2 (by decide) (fun H7 hl7 hz7 hf7 => ?_)
        have S : ST H7 (up m 159 (up (m 159) (((((26 * y1) + 2) + y4)).toNat) 0)) γ t := S.setI 159 (nc rfl) hl7 hz7 hf7 (by decide) (by decide)
        refine wp_iinc (L' := [some (.ref 158), some (.int (iI y1)), some (.int (iI y2)), some (.int (iI 0)), some (.int (iI (y4 + 1))), some (.int (iI 0))]) (a := y4) rfl rfl rfl ?_
        refine wp_g (n := 1) (pc' := 75) (L' := [some (.ref 158), some (.int (iI y1)), some (.int (iI y2)), some (.int (iI 0)), some (.int (iI (y4 + 1))), some (.int (iI 0))]) (st' := []) rfl ?_
        exact hW (some (.int (iI 0))) _ S
      · have dc6 := c6
        have hW := hW.2 dc6
        refine wp_g (n := 1) (pc' := 109) (L' := [some (.ref 158), some (.int (iI y1)), some (.int (iI y2)), some (.int (iI y3)), some (.int (iI y4)), some (.int (iI 0))]) (st' := [.ref 158]) rfl ?_
        refine wp_getf (v := .ref 159) rfl rfl (S.cell 158 (nc rfl)) (by decide) rfl ?_
        refine wp_g (n := 2) (pc' := 115) (L' := [some (.ref 158), some (.int (iI y1)), some (.int (iI y2)), some (.int (iI y3)), some (.int (iI y4)), some (.int (iI 0))]) (st' := [.int (iI y1), .int (iI 26), .ref 159]) rfl ?_
        refine wp_mul (a := 26) (b := y1) rfl ?_
        refine wp_g (n := 1) (pc' := 117) (L' := [some (.ref 158), some (.int (iI y1)), some (.int (iI y2)), some (.int (iI y3)), some (.int (iI y4)), some (.int (iI 0))]) (st' := [.int (iI 2), .int (iI (26 * y1)), .ref 159]) rfl ?_
        refine wp_add (a := (26 * y1)) (b := 2) rfl ?_
        refine wp_g (n := 1) (pc' := 120) (L' := [some (.ref 158), some (.int (iI y1)), some (.int (iI y2)), some (.int (iI y3)), some (.int (iI y4)), some (.int (iI 0))]) (st' := [.int (iI y4), .int (iI ((26 * y1) + 2)), .ref 159]) rfl ?_
        refine wp_add (a := ((26 * y1) + 2)) (b := y4) rfl ?_
        obtain ⟨p9, hW⟩ := hW
        refine wp_iald (n := 78) (F := (m 159)) rfl (S.cell 159 (nc rfl)) (by decide) p9.1 p9.2 (by decide) ?_
        show wp _ _ _ _ _ [.int (iI (m 159 (((((26 * y1) + 2) + y4)).toNat)))] _ _
        have hr10 : rJ (m 159 (((((26 * y1) + 2) + y4)).toNat)) := S.rg 159 (((((26 * y1) + 2) + y4)).toNat) (nl rfl)
        refine wp_g (n := 1) (pc' := 124) (L' := [some (.ref 158), some (.int (iI y1)), some (.int (iI y2)), some (.int (iI y3)), some (.int (iI y4)), some (.int (iI 0))]) (st' := [.int (iI 0), .int (iI (m 159 (((((26 * y1) + 2) + y4)).toNat)))]) rfl ?_
        refine wp_icmpI (a := (m 159 (((((26 * y1) + 2) + y4)).toNat))) (b := 0) rfl rfl hr10.1 hr10.2 (by decide) (by decide) (fun c11 => ?_) (fun c11 => ?_)
        · have dc11 := c11
          have hW := hW.2 dc11
          refine wp_g (n := 3) (pc' := 134) (L' := [some (.ref 158), some (.int (iI y1)), some (.int (iI y2)), some (.int (iI 0)), some (.int (iI y4)), some (.int (iI 0))]) (st' := [.ref 158]) rfl ?_
          refine wp_getf (v := .ref 159) rfl rfl (S.cell 158 (nc rfl)) (by decide) rfl ?_
          refine wp_g (n := 2) (pc' := 140) (L' := [some (.ref 158), some (.int (iI y1)), some (.int (iI y2)), some (.int (iI 0)), some (.int (iI y4)), some (.int (iI 0))]) (st' := [.int (iI y1), .int (iI 26), .ref 159]) rfl ?_
          refine wp_mul (a := 26) (b := y1) rfl ?_
          refine wp_g (n := 1) (pc' := 142) (L' := [some (.ref 158), some (.int (iI y1)), some (.int (iI y2)), some (.int (iI 0)), some (.int (iI y4)), some (.int (iI 0))]) (st' := [.int (iI 2), .int (iI (26 * y1)), .ref 159]) rfl ?_
          refine wp_add (a := (26 * y1)) (b := 2) rfl ?_
          refine wp_g (n := 1) (pc' := 145) (L' := [some (.ref 158), some (.int (iI y1)), some (.int (iI y2)), some (.int (iI 0)), some (.int (iI y4)), some (.int (iI 0))]) (st' := [.int (iI y4), .int (iI ((26 * y1) + 2)), .ref 159]) rfl ?_
          refine wp_add (a := ((26 * y1) + 2)) (b := y4) rfl ?_
          refine wp_g (n := 1) (pc' := 148) (L' := [some (.ref 158), some (.int (iI y1)), some (.int (iI y2)), some (.int (iI 0)), some (.int (iI y4)), some (.int (iI 0))]) (st' := [.int (iI 0), .int (iI (((26 * y1) + 2) + y4)), .ref 159]) rfl ?_
          obtain ⟨p13, hW⟩ := hW
          refine wp_iasF (n := 78) (F := (m 159)) (y := 0) rfl (S.cell 159 (nc rfl)) p13.1 p13.2 (by decide) (fun H12 hl12 hz12 hf12 => ?_)
          have S : ST H12 (up m 159 (up (m 159) (((((26 * y1) + 2) + y4)).toNat) 0)) γ t := S.setI 159 (nc rfl) hl12 hz12 hf12 (by decide) (by decide)
          refine wp_iinc (L' := [some (.ref 158), some (.int (iI y1)), some (.int (iI y2)), some (.int (iI 0)), some (.int (iI (y4 + 1))), some (.int (iI 0))]) (a := y4) rfl rfl rfl ?_
          refine wp_g (n := 1) (pc' := 75) (L' := [some (.ref 158), some (.int (iI y1)), some (.int (iI y2)), some (.int (iI 0)), some (.int (iI (y4 + 1))), some (.int (iI 0))]) (st' := []) rfl ?_
          exact hW (some (.int (iI 0))) _ S
        · have dc11 := (Classical.not_not.mp c11)
          have hW := hW.1 dc11
          refine wp_g (n := 4) (pc' := 134) (L' := [some (.ref 158), some (.int (iI y1)), some (.int (iI y2)), some (.int (iI 1)), some (.int (iI y4)), some (.int (iI 0))]) (st' := [.ref 158]) rfl ?_
          refine wp_getf (v := .ref 159) rfl rfl (S.cell 158 (nc rfl)) (by decide) rfl ?_
          refine wp_g (n := 2) (pc' := 140) (L' := [some (.ref 158), some (.int (iI y1)), some (.int (iI y2)), some (.int (iI 1)), some (.int (iI y4)), some (.int (iI 0))]) (st' := [.int (iI y1), .int (iI 26), .ref 159]) rfl ?_
          refine wp_mul (a := 26) (b := y1) rfl ?_
          refine wp_g (n := 1) (pc' := 142) (L' := [some (.ref 158), some (.int (iI y1)), some (.int (iI y2)), some (.int (iI 1)), some (.int (iI y4)), some (.int (iI 0))]) (st' := [.int (iI 2), .int (iI (26 * y1)), .ref 159]) rfl ?_
          refine wp_add (a := (26 * y1)) (b := 2) rfl ?_
          refine wp_g (n := 1) (pc' := 145) (L' := [some (.ref 158), some (.int (iI y1)), some (.int (iI y2)), some (.int (iI 1)), some (.int (iI y4)), some (.int (iI 0))]) (st' := [.int (iI y4), .int (iI ((26 * y1) + 2)), .ref 159]) rfl ?_
          refine wp_add (a := ((26 * y1) + 2)) (b := y4) rfl ?_
          refine wp_g (n := 1) (pc' := 148) (L' := [some (.ref 158), some (.int (iI y1)), some (.int (iI y2)), some (.int (iI 1)), some (.int (iI y4)), some (.int (iI 0))]) (st' := [.int (iI 0), .int (iI (((26 * y1) + 2) + y4)), .ref 159]) rfl ?_
          obtain ⟨p15, hW⟩ := hW
          refine wp_iasF (n := 78) (F := (m 159)) (y := 0) rfl (S.cell 159 (nc rfl)) p15.1 p15.2 (by decide) (fun H14 hl14 hz14 hf14 => ?_)
          have S : ST H14 (up m 159 (up (m 159) (((((26 * y1) + 2) + y4)).toNat) 0)) γ t := S.setI 159 (nc rfl) hl14 hz14 hf14 (by decide) (by decide)
          refine wp_iinc (L' := [some (.ref 158), some (.int (iI y1)), some (.int (iI y2)), some (.int (iI 1)), some (.int (iI (y4 + 1))), some (.int (iI 0))]) (a := y4) rfl rfl rfl ?_
          refine wp_g (n := 1) (pc' := 75) (L' := [some (.ref 158), some (.int (iI y1)), some (.int (iI y2)), some (.int (iI 1)), some (.int (iI (y4 + 1))), some (.int (iI 0))]) (st' := []) rfl ?_
          exact hW (some (.int (iI 0))) _ S
    · have dc5 := (Int.not_le.mp c5)
      have hW := hW.1 dc5
      refine wp_g (n := 1) (pc' := 92) (L' := [some (.ref 158), some (.int (iI y1)), some (.int (iI y2)), some (.int (iI y3)), some (.int (iI y4)), z5]) (st' := [.ref 158]) rfl ?_
      refine wp_getf (v := .ref 162) rfl rfl (S.cell 158 (nc rfl)) (by decide) rfl ?_
      refine wp_g (n := 1) (pc' := 97) (L' := [some (.ref 158), some (.int (iI y1)), some (.int (iI y2)), some (.int (iI y3)), some (.int (iI y4)), z5]) (st' := [.int (iI y4), .ref 162]) rfl ?_
      obtain ⟨p16, hW⟩ := hW
      refine wp_iald (n := 24) (F := (m 162)) rfl (S.cell 162 (nc rfl)) (by decide) p16.1 p16.2 (by decide) ?_
      show wp _ _ _ _ _ [.int (iI (m 162 ((y4).toNat)))] _ _
      have hr17 : rJ (m 162 ((y4).toNat)) := S.rg 162 ((y4).toNat) (nl rfl)
      refine wp_g (n := 3) (pc' := 105) (L' := [some (.ref 158), some (.int (iI y1)), some (.int (iI y2)), some (.int (iI y3)), some (.int (iI y4)), some (.int (iI (m 162 ((y4).toNat))))]) (st' := [.int (iI y3)]) rfl ?_
      refine wp_ifI (a := y3) rfl rfl hy3.1 hy3.2 (fun c18 => ?_) (fun c18 => ?_)
      · have dc18 := c18
        have hW := hW.1 dc18
        refine wp_g (n := 3) (pc' := 134) (L' := [some (.ref 158), some (.int (iI y1)), some (.int (iI y2)), some (.int (iI 0)), some (.int (iI y4)), some (.int (iI (m 162 ((y4).toNat))))]) (st' := [.ref 158]) rfl ?_
        refine wp_getf (v := .ref 159) rfl rfl (S.cell 158 (nc rfl)) (by decide) rfl ?_
        refine wp_g (n := 2) (pc' := 140) (L' := [some (.ref 158), some (.int (iI y1)), some (.int (iI y2)), some (.int (iI 0)), some (.int (iI y4)), some (.int (iI (m 162 ((y4).toNat))))]) (st' := [.int (iI y1), .int (iI 26), .ref 159]) rfl ?_
        refine wp_mul (a := 26) (b := y1) rfl ?_
        refine wp_g (n := 1) (pc' := 142) (L' := [some (.ref 158), some (.int (iI y1)), some (.int (iI y2)), some (.int (iI 0)), some (.int (iI y4)), some (.int (iI (m 162 ((y4).toNat))))]) (st' := [.int (iI 2), .int (iI (26 * y1)), .ref 159]) rfl ?_
        refine wp_add (a := (26 * y1)) (b := 2) rfl ?_
        refine wp_g (n := 1) (pc' := 145) (L' := [some (.ref 158), some (.int (iI y1)), some (.int (iI y2)), some (.int (iI 0)), some (.int (iI y4)), some (.int (iI (m 162 ((y4).toNat))))]) (st' := [.int (iI y4), .int (iI ((26 * y1) + 2)), .ref 159]) rfl ?_
        refine wp_add (a := ((26 * y1) + 2)) (b := y4) rfl ?_
        refine wp_g (n := 1) (pc' := 148) (L' := [some (.ref 158), some (.int (iI y1)), some (.int (iI y2)), some (.int (iI 0)), some (.int (iI y4)), some (.int (iI (m 162 ((y4).toNat))))]) (st' := [.int (iI (m 162 ((y4).toNat))), .int (iI (((26 * y1) + 2) + y4)), .ref 159]) rfl ?_
        obtain ⟨p20, hW⟩ := hW
        refine wp_iasF (n := 78) (F := (m 159)) (y := (m 162 ((y4).toNat))) rfl (S.cell 159 (nc rfl)) p20.1 p20.2 (by decide) (fun H19 hl19 hz19 hf19 => ?_)
        have S : ST H19 (up m 159 (up (m 159) (((((26 * y1) + 2) + y4)).toNat) (m 162 ((y4).toNat)))) γ t := S.setI 159 (nc rfl) hl19 hz19 hf19 hr17.1 hr17.2
        refine wp_iinc (L' := [some (.ref 158), some (.int (iI y1)), some (.int (iI y2)), some (.int (iI 0)), some (.int (iI (y4 + 1))), some (.int (iI (m 162 ((y4).toNat))))]) (a := y4) rfl rfl rfl ?_
        refine wp_g (n := 1) (pc' := 75) (L' := [some (.ref 158), some (.int (iI y1)), some (.int (iI y2)), some (.int (iI 0)), some (.int (iI (y4 + 1))), some (.int (iI (m 162 ((y4).toNat))))]) (st' := []) rfl ?_
        exact hW (some (.int (iI (m 162 ((y4).toNat))))) _ S
      · have dc18 := c18
        have hW := hW.2 dc18
        refine wp_g (n := 1) (pc' := 109) (L' := [some (.ref 158), some (.int (iI y1)), some (.int (iI y2)), some (.int (iI y3)), some (.int (iI y4)), some (.int (iI (m 162 ((y4).toNat))))]) (st' := [.ref 158]) rfl ?_
        refine wp_getf (v := .ref 159) rfl rfl (S.cell 158 (nc rfl)) (by decide) rfl ?_
        refine wp_g (n := 2) (pc' := 115) (L' := [some (.ref 158), some (.int (iI y1)), some (.int (iI y2)), some (.int (iI y3)), some (.int (iI y4)), some (.int (iI (m 162 ((y4).toNat))))]) (st' := [.int (iI y1), .int (iI 26), .ref 159]) rfl ?_
        refine wp_mul (a := 26) (b := y1) rfl ?_
        refine wp_g (n := 1) (pc' := 117) (L' := [some (.ref 158), some (.int (iI y1)), some (.int (iI y2)), some (.int (iI y3)), some (.int (iI y4)), some (.int (iI (m 162 ((y4).toNat))))]) (st' := [.int (iI 2), .int (iI (26 * y1)), .ref 159]) rfl ?_
        refine wp_add (a := (26 * y1)) (b := 2) rfl ?_
        refine wp_g (n := 1) (pc' := 120) (L' := [some (.ref 158), some (.int (iI y1)), some (.int (iI y2)), some (.int (iI y3)), some (.int (iI y4)), some (.int (iI (m 162 ((y4).toNat))))]) (st' := [.int (iI y4), .int (iI ((26 * y1) + 2)), .ref 159]) rfl ?_
        refine wp_add (a := ((26 * y1) + 2)) (b := y4) rfl ?_
        obtain ⟨p21, hW⟩ := hW
        refine wp_iald (n := 78) (F := (m 159)) rfl (S.cell 159 (nc rfl)) (by decide) p21.1 p21.2 (by decide) ?_
        show wp _ _ _ _ _ [.int (iI (m 159 (((((26 * y1) + 2) + y4)).toNat)))] _ _
        have hr22 : rJ (m 159 (((((26 * y1) + 2) + y4)).toNat)) := S.rg 159 (((((26 * y1) + 2) + y4)).toNat) (nl rfl)
        refine wp_g (n := 1) (pc' := 124) (L' := [some (.ref 158), some (.int (iI y1)), some (.int (iI y2)), some (.int (iI y3)), some (.int (iI y4)), some (.int (iI (m 162 ((y4).toNat))))]) (st' := [.int (iI (m 162 ((y4).toNat))), .int (iI (m 159 (((((26 * y1) + 2) + y4)).toNat)))]) rfl ?_
        refine wp_icmpI (a := (m 159 (((((26 * y1) + 2) + y4)).toNat))) (b := (m 162 ((y4).toNat))) rfl rfl hr22.1 hr22.2 hr17.1 hr17.2 (fun c23 => ?_) (fun c23 => ?_)
        · have dc23 := c23
          have hW := hW.2 dc23
          refine wp_g (n := 3) (pc' := 134) (L' := [some (.ref 158), some (.int (iI y1)), some (.int (iI y2)), some (.int (iI 0)), some (.int (iI y4)), some (.int (iI (m 162 ((y4).toNat))))]) (st' := [.ref 158]) rfl ?_
          refine wp_getf (v := .ref 159) rfl rfl (S.cell 158 (nc rfl)) (by decide) rfl ?_
          refine wp_g (n := 2) (pc' := 140) (L' := [some (.ref 158), some (.int (iI y1)), some (.int (iI y2)), some (.int (iI 0)), some (.int (iI y4)), some (.int (iI (m 162 ((y4).toNat))))]) (st' := [.int (iI y1), .int (iI 26), .ref 159]) rfl ?_
          refine wp_mul (a := 26) (b := y1) rfl ?_
          refine wp_g (n := 1) (pc' := 142) (L' := [some (.ref 158), some (.int (iI y1)), some (.int (iI y2)), some (.int (iI 0)), some (.int (iI y4)), some (.int (iI (m 162 ((y4).toNat))))]) (st' := [.int (iI 2), .int (iI (26 * y1)), .ref 159]) rfl ?_
          refine wp_add (a := (26 * y1)) (b := 2) rfl ?_
          refine wp_g (n := 1) (pc' := 145) (L' := [some (.ref 158), some (.int (iI y1)), some (.int (iI y2)), some (.int (iI 0)), some (.int (iI y4)), some (.int (iI (m 162 ((y4).toNat))))]) (st' := [.int (iI y4), .int (iI ((26 * y1) + 2)), .ref 159]) rfl ?_
          refine wp_add (a := ((26 * y1) + 2)) (b := y4) rfl ?_
          refine wp_g (n := 1) (pc' := 148) (L' := [some (.ref 158), some (.int (iI y1)), some (.int (iI y2)), some (.int (iI 0)), some (.int (iI y4)), some (.int (iI (m 162 ((y4).toNat))))]) (st' := [.int (iI (m 162 ((y4).toNat))), .int (iI (((26 * y1) + 2) + y4)), .ref 159]) rfl ?_
          obtain ⟨p25, hW⟩ := hW
          refine wp_iasF (n := 78) (F := (m 159)) (y := (m 162 ((y4).toNat))) rfl (S.cell 159 (nc rfl)) p25.1 p25.2 (by decide) (fun H24 hl24 hz24 hf24 => ?_)
          have S : ST H24 (up m 159 (up (m 159) (((((26 * y1) + 2) + y4)).toNat) (m 162 ((y4).toNat)))) γ t := S.setI 159 (nc rfl) hl24 hz24 hf24 hr17.1 hr17.2
          refine wp_iinc (L' := [some (.ref 158), some (.int (iI y1)), some (.int (iI y2)), some (.int (iI 0)), some (.int (iI (y4 + 1))), some (.int (iI (m 162 ((y4).toNat))))]) (a := y4) rfl rfl rfl ?_
          refine wp_g (n := 1) (pc' := 75) (L' := [some (.ref 158), some (.int (iI y1)), some (.int (iI y2)), some (.int (iI 0)), some (.int (iI (y4 + 1))), some (.int (iI (m 162 ((y4).toNat))))]) (st' := []) rfl ?_
          exact hW (some (.int (iI (m 162 ((y4).toNat))))) _ S
        · have dc23 := (Classical.not_not.mp c23)
          have hW := hW.1 dc23
          refine wp_g (n := 4) (pc' := 134) (L' := [some (.ref 158), some (.int (iI y1)), some (.int (iI y2)), some (.int (iI 1)), some (.int (iI y4)), some (.int (iI (m 162 ((y4).toNat))))]) (st' := [.ref 158]) rfl ?_
          refine wp_getf (v := .ref 159) rfl rfl (S.cell 158 (nc rfl)) (by decide) rfl ?_
          refine wp_g (n := 2) (pc' := 140) (L' := [some (.ref 158), some (.int (iI y1)), some (.int (iI y2)), some (.int (iI 1)), some (.int (iI y4)), some (.int (iI (m 162 ((y4).toNat))))]) (st' := [.int (iI y1), .int (iI 26), .ref 159]) rfl ?_
          refine wp_mul (a := 26) (b := y1) rfl ?_
          refine wp_g (n := 1) (pc' := 142) (L' := [some (.ref 158), some (.int (iI y1)), some (.int (iI y2)), some (.int (iI 1)), some (.int (iI y4)), some (.int (iI (m 162 ((y4).toNat))))]) (st' := [.int (iI 2), .int (iI (26 * y1)), .ref 159]) rfl ?_
          refine wp_add (a := (26 * y1)) (b := 2) rfl ?_
          refine wp_g (n := 1) (pc' := 145) (L' := [some (.ref 158), some (.int (iI y1)), some (.int (iI y2)), some (.int (iI 1)), some (.int (iI y4)), some (.int (iI (m 162 ((y4).toNat))))]) (st' := [.int (iI y4), .int (iI ((26 * y1) + 2)), .ref 159]) rfl ?_
          refine wp_add (a := ((26 * y1) + 2)) (b := y4) rfl ?_
          refine wp_g (n := 1) (pc' := 148) (L' := [some (.ref 158), some (.int (iI y1)), some (.int (iI y2)), some (.int (iI 1)), some (.int (iI y4)), some (.int (iI (m 162 ((y4).toNat))))]) (st' := [.int (iI (m 162 ((y4).toNat))), .int (iI (((26 * y1) + 2) + y4)), .ref 159]) rfl ?_
          obtain ⟨p27, hW⟩ := hW
          refine wp_iasF (n := 78) (F := (m 159)) (y := (m 162 ((y4).toNat))) rfl (S.cell 159 (nc rfl)) p27.1 p27.2 (by decide) (fun H26 hl26 hz26 hf26 => ?_)
          have S : ST H26 (up m 159 (up (m 159) (((((26 * y1) + 2) + y4)).toNat) (m 162 ((y4).toNat)))) γ t := S.setI 159 (nc rfl) hl26 hz26 hf26 hr17.1 hr17.2
          refine wp_iinc (L' := [some (.ref 158), some (.int (iI y1)), some (.int (iI y2)), some (.int (iI 1)), some (.int (iI (y4 + 1))), some (.int (iI (m 162 ((y4).toNat))))]) (a := y4) rfl rfl rfl ?_
          refine wp_g (n := 1) (pc' := 75) (L' := [some (.ref 158), some (.int (iI y1)), some (.int (iI y2)), some (.int (iI 1)), some (.int (iI (y4 + 1))), some (.int (iI (m 162 ((y4).toNat))))]) (st' := []) rfl ?_
          exact hW (some (.int (iI (m 162 ((y4).toNat))))) _ S
abbrev W_X9_cells (E : am_E) (k : Nat) (m : MM) (γ : GM) (t : am_H) (Q : Int → MM → GM → am_H → Prop) : Prop := (rJ ((m 158 4) * (m 158 5)) ∧ (Q ((m 158 4) * (m 158 5)) m γ t))
theorem vc_X9_cells {E : am_E} {k : Nat} {m : MM} {γ : GM} {t : am_H} {Q : Int → MM → GM → am_H → Prop} (hW : W_X9_cells E k  m γ t Q) : TI E k 203 [.ref 158] m γ t Q := by
  unfold W_X9_cells at hW
  intro h S
  refine wp_g (n := 1) (pc' := 1) (L' := [some (.ref 158)]) (st' := [.ref 158]) rfl ?_
  refine wp_getf (v := .int (iI (m 158 4))) rfl rfl (S.cell 158 (nc rfl)) (by decide) rfl ?_
  have hr1 : rJ (m 158 4) := S.rg 158 4 (nl rfl)
  refine wp_g (n := 1) (pc' := 5) (L' := [some (.ref 158)]) (st' := [.ref 158, .int (iI (m 158 4))]) rfl ?_
  refine wp_getf (v := .int (iI (m 158 5))) rfl rfl (S.cell 158 (nc rfl)) (by decide) rfl ?_
  have hr2 : rJ (m 158 5) := S.rg 158 5 (nl rfl)
  refine wp_mul (a := (m 158 4)) (b := (m 158 5)) rfl ?_
  obtain ⟨p3, hW⟩ := hW
  exact wp_iret rfl rfl ⟨_, _, _, _, rfl, p3, S, hW⟩
abbrev W_X9_isCross (E : am_E) (k : Nat) (x1 : Int) (m : MM) (γ : GM) (t : am_H) (Q : Int → MM → GM → am_H → Prop) : Prop := (((x1 = 0) → (Q 1 m γ t)) ∧ (¬ (x1 = 0) → (((x1 = 1) → (Q 1 m γ t)) ∧ (¬ (x1 = 1) → (Q 0 m γ t)))))
theorem vc_X9_isCross {E : am_E} {k : Nat} {x1 : Int} {m : MM} {γ : GM} {t : am_H} {Q : Int → MM → GM → am_H → Prop} (hx1 : rJ x1) (hW : W_X9_isCross E k x1 m γ t Q) : TI E k 204 [.int (iI x1)] m γ t Q := by
  unfold W_X9_isCross at hW
  intro h S
  refine wp_g (n := 1) (pc' := 1) (L' := [some (.int (iI x1))]) (st' := [.int (iI x1)]) rfl ?_
  refine wp_ifI (a := x1) rfl rfl hx1.1 hx1.2 (fun c1 => ?_) (fun c1 => ?_)
  · have dc1 := c1
    have hW := hW.1 dc1
    refine wp_g (n := 2) (pc' := 14) (L' := [some (.int (iI x1))]) (st' := [.int (iI 1)]) rfl ?_
    exact wp_zret rfl rfl (by decide) ⟨_, _, _, _, rfl, (by decide), S, hW⟩
  · have dc1 := c1
    have hW := hW.2 dc1
    refine wp_g (n := 2) (pc' := 6) (L' := [some (.int (iI x1))]) (st' := [.int (iI 1), .int (iI x1)]) rfl ?_
    refine wp_icmpI (a := x1) (b := 1) rfl rfl hx1.1 hx1.2 (by decide) (by decide) (fun c2 => ?_) (fun c2 => ?_)
    · have dc2 := c2
      have hW := hW.2 dc2
      refine wp_g (n := 1) (pc' := 14) (L' := [some (.int (iI x1))]) (st' := [.int (iI 0)]) rfl ?_
      exact wp_zret rfl rfl (by decide) ⟨_, _, _, _, rfl, (by decide), S, hW⟩
    · have dc2 := (Classical.not_not.mp c2)
      have hW := hW.1 dc2
      refine wp_g (n := 2) (pc' := 14) (L' := [some (.int (iI x1))]) (st' := [.int (iI 1)]) rfl ?_
      exact wp_zret rfl rfl (by decide) ⟨_, _, _, _, rfl, (by decide), S, hW⟩
def hd_X9_many_4 (E : am_E) (k : Nat) (x1 : Int) (y1 : Int) (y2 : Int) (y3 : Int) (m : MM) (γ : GM) (t : am_H) (Q : Int → MM → GM → am_H → Prop) : Prop := TT (pI Q) E k 205 4 [some (.ref 158), some (.int (iI y1)), some (.int (iI y2)), some (.int (iI y3))] [] m γ t
abbrev W_X9_many (E : am_E) (k : Nat) (x1 : Int) (m : MM) (γ : GM) (t : am_H) (Q : Int → MM → GM → am_H → Prop) : Prop := (hd_X9_many_4 E k x1 x1 0 0 m γ t Q)
abbrev W_X9_many_4 (E : am_E) (k : Nat) (x1 : Int) (y1 : Int) (y2 : Int) (y3 : Int) (m : MM) (γ : GM) (t : am_H) (Q : Int → MM → GM → am_H → Prop) : Prop := (((y3 < (m 158 6)) → ((0 ≤ y3 ∧ y3 < 24) ∧ ((((m 162 ((y3).toNat)) = y1) → (hd_X9_many_4 E k x1 y1 (y2 + 1) (y3 + 1) m γ t Q)) ∧ (¬ ((m 162 ((y3).toNat)) = y1) → (hd_X9_many_4 E k x1 y1 (y2 + 0) (y3 + 1) m γ t Q))))) ∧ (¬ (y3 < (m 158 6)) → (Q y2 m γ t)))
theorem vc_X9_many {E : am_E} {k : Nat} {x1 : Int} {m : MM} {γ : GM} {t : am_H} {Q : Int → MM → GM → am_H → Prop} (hx1 : rJ x1) (hW : W_X9_many E k x1 m γ t Q) : TI E k 205 [.ref 158, .int (iI x1)] m γ t Q := by
  unfold W_X9_many at hW
  intro h S
  refine wp_g (n := 4) (pc' := 4) (L' := [some (.ref 158), some (.int (iI x1)), some (.int (iI 0)), some (.int (iI 0))]) (st' := []) rfl ?_
  exact hW _ S
theorem vc_X9_many_4 {E : am_E} {k : Nat} {x1 : Int} {y1 : Int} {y2 : Int} {y3 : Int} {m : MM} {γ : GM} {t : am_H} {Q : Int → MM → GM → am_H → Prop} (hx1 : rJ x1) (hy1 : rJ y1) (hy2 : rJ y2) (hy3 : rJ y3) (hW : W_X9_many_4 E k x1 y1 y2 y3 m γ t Q) : hd_X9_many_4 E k x1 y1 y2 y3 m γ t Q := by
  unfold W_X9_many_4 at hW
  intro h S
  refine wp_g (n := 2) (pc' := 6) (L' := [some (.ref 158), some (.int (iI y1)), some (.int (iI y2)), some (.int (iI y3))]) (st' := [.ref 158, .int (iI y3)]) rfl ?_
  refine wp_getf (v := .int (iI (m 158 6))) rfl rfl (S.cell 158 (nc rfl)) (by decide) rfl ?_
  have hr1 : rJ (m 158 6) := S.rg 158 6 (nl rfl)
  refine wp_icmpI (a := y3) (b := (m 158 6)) rfl rfl hy3.1 hy3.2 hr1.1 hr1.2 (fun c2 => ?_) (fun c2 => ?_)
  · have dc2 := (Int.not_lt.mpr c2)
    have hW := hW.2 dc2
    refine wp_g (n := 1) (pc' := 37) (L' := [some (.ref 158), some (.int (iI y1)), some (.int (iI y2)), some (.int (iI y3))]) (st' := [.int (iI y2)]) rfl ?_
    exact wp_iret rfl rfl ⟨_, _, _, _, rfl, hy2, S, hW⟩
  · have dc2 := (Int.not_le.mp c2)
    have hW := hW.1 dc2
    refine wp_g (n := 2) (pc' := 14) (L' := [some (.ref 158), some (.int (iI y1)), some (.int (iI y2)), some (.int (iI y3))]) (st' := [.ref 158, .int (iI y2)]) rfl ?_
    refine wp_getf (v := .ref 162) rfl rfl (S.cell 158 (nc rfl)) (by decide) rfl ?_
    refine wp_g (n := 1) (pc' := 18) (L' := [some (.ref 158), some (.int (iI y1)), some (.int (iI y2)), some (.int (iI y3))]) (st' := [.int (iI y3), .ref 162, .int (iI y2)]) rfl ?_
    obtain ⟨p3, hW⟩ := hW
    refine wp_iald (n := 24) (F := (m 162)) rfl (S.cell 162 (nc rfl)) (by decide) p3.1 p3.2 (by decide) ?_
    show wp _ _ _ _ _ [.int (iI (m 162 ((y3).toNat))), .int (iI y2)] _ _
    have hr4 : rJ (m 162 ((y3).toNat)) := S.rg 162 ((y3).toNat) (nl rfl)
    refine wp_g (n := 1) (pc' := 20) (L' := [some (.ref 158), some (.int (iI y1)), some (.int (iI y2)), some (.int (iI y3))]) (st' := [.int (iI y1), .int (iI (m 162 ((y3).toNat))), .int (iI y2)]) rfl ?_
    refine wp_icmpI (a := (m 162 ((y3).toNat))) (b := y1) rfl rfl hr4.1 hr4.2 hy1.1 hy1.2 (fun c5 => ?_) (fun c5 => ?_)
    · have dc5 := c5
      have hW := hW.2 dc5
      refine wp_g (n := 1) (pc' := 28) (L' := [some (.ref 158), some (.int (iI y1)), some (.int (iI y2)), some (.int (iI y3))]) (st' := [.int (iI 0), .int (iI y2)]) rfl ?_
      refine wp_add (a := y2) (b := 0) rfl ?_
      refine wp_g (n := 1) (pc' := 30) (L' := [some (.ref 158), some (.int (iI y1)), some (.int (iI (y2 + 0))), some (.int (iI y3))]) (st' := []) rfl ?_
      refine wp_iinc (L' := [some (.ref 158), some (.int (iI y1)), some (.int (iI (y2 + 0))), some (.int (iI (y3 + 1)))]) (a := y3) rfl rfl rfl ?_
      refine wp_g (n := 1) (pc' := 4) (L' := [some (.ref 158), some (.int (iI y1)), some (.int (iI (y2 + 0))), some (.int (iI (y3 + 1)))]) (st' := []) rfl ?_
      exact hW _ S
    · have dc5 := (Classical.not_not.mp c5)
      have hW := hW.1 dc5
      refine wp_g (n := 2) (pc' := 28) (L' := [some (.ref 158), some (.int (iI y1)), some (.int (iI y2)), some (.int (iI y3))]) (st' := [.int (iI 1), .int (iI y2)]) rfl ?_
      refine wp_add (a := y2) (b := 1) rfl ?_
      refine wp_g (n := 1) (pc' := 30) (L' := [some (.ref 158), some (.int (iI y1)), some (.int (iI (y2 + 1))), some (.int (iI y3))]) (st' := []) rfl ?_
      refine wp_iinc (L' := [some (.ref 158), some (.int (iI y1)), some (.int (iI (y2 + 1))), some (.int (iI (y3 + 1)))]) (a := y3) rfl rfl rfl ?_
      refine wp_g (n := 1) (pc' := 4) (L' := [some (.ref 158), some (.int (iI y1)), some (.int (iI (y2 + 1))), some (.int (iI (y3 + 1)))]) (st' := []) rfl ?_
      exact hW _ S
abbrev W_X9_crosses (E : am_E) (k : Nat) (m : MM) (γ : GM) (t : am_H) (Q : Int → MM → GM → am_H → Prop) : Prop := (TI E k 205 [.ref 158, .int (iI 0)] m γ t (fun v1 m1 γ1 t1 => (TI E k 205 [.ref 158, .int (iI 1)] m1 γ1 t1 (fun v2 m2 γ2 t2 => (rJ (v1 + v2) ∧ (Q (v1 + v2) m2 γ2 t2))))))
theorem vc_X9_crosses {E : am_E} {k : Nat} {m : MM} {γ : GM} {t : am_H} {Q : Int → MM → GM → am_H → Prop} (hW : W_X9_crosses E k  m γ t Q) : TI E (k + 1) 206 [.ref 158] m γ t Q := by
  unfold W_X9_crosses at hW
  intro h S
  refine wp_g (n := 2) (pc' := 2) (L' := [some (.ref 158)]) (st' := [.int (iI 0), .ref 158]) rfl ?_
  refine wp_cv (As := [.int (iI 0)]) (rest := []) rfl rfl (S.cell 158 (nc rfl)) (by decide) rfl rfl rfl (Nat.le_of_ble_eq_true rfl) (Nat.le_of_ble_eq_true rfl) (hW _ S) (fun r1 H1 q1 => ?_)
  obtain ⟨v1, m1, γ1, t1, rfl, hv1, S, hW⟩ := q1
  show wp _ _ _ _ _ [.int (iI v1)] _ _
  refine wp_g (n := 2) (pc' := 7) (L' := [some (.ref 158)]) (st' := [.int (iI 1), .ref 158, .int (iI v1)]) rfl ?_
  refine wp_cv (As := [.int (iI 1)]) (rest := [.int (iI v1)]) rfl rfl (S.cell 158 (nc rfl)) (by decide) rfl rfl rfl (Nat.le_of_ble_eq_true rfl) (Nat.le_of_ble_eq_true rfl) (hW _ S) (fun r2 H2 q2 => ?_)
  obtain ⟨v2, m2, γ2, t2, rfl, hv2, S, hW⟩ := q2
  show wp _ _ _ _ _ [.int (iI v2), .int (iI v1)] _ _
  refine wp_add (a := v1) (b := v2) rfl ?_
  obtain ⟨p3, hW⟩ := hW
  exact wp_iret rfl rfl ⟨_, _, _, _, rfl, p3, S, hW⟩
abbrev W_X9_behind (E : am_E) (k : Nat) (x1 : Int) (m : MM) (γ : GM) (t : am_H) (Q : Int → MM → GM → am_H → Prop) : Prop := ((0 ≤ x1 ∧ x1 < 24) ∧ ((0 ≤ x1 ∧ x1 < 24) ∧ ((((m 164 ((x1).toNat)) = 1) → (rJ ((m 163 ((x1).toNat)) + (m 158 5)) ∧ (Q ((m 163 ((x1).toNat)) + (m 158 5)) m γ t))) ∧ (¬ ((m 164 ((x1).toNat)) = 1) → (rJ ((m 163 ((x1).toNat)) + 1) ∧ (Q ((m 163 ((x1).toNat)) + 1) m γ t))))))
theorem vc_X9_behind {E : am_E} {k : Nat} {x1 : Int} {m : MM} {γ : GM} {t : am_H} {Q : Int → MM → GM → am_H → Prop} (hx1 : rJ x1) (hW : W_X9_behind E k x1 m γ t Q) : TI E k 207 [.ref 158, .int (iI x1)] m γ t Q := by
  unfold W_X9_behind at hW
  intro h S
  refine wp_g (n := 1) (pc' := 1) (L' := [some (.ref 158), some (.int (iI x1))]) (st' := [.ref 158]) rfl ?_
  refine wp_getf (v := .ref 163) rfl rfl (S.cell 158 (nc rfl)) (by decide) rfl ?_
  refine wp_g (n := 1) (pc' := 5) (L' := [some (.ref 158), some (.int (iI x1))]) (st' := [.int (iI x1), .ref 163]) rfl ?_
  obtain ⟨p1, hW⟩ := hW
  refine wp_iald (n := 24) (F := (m 163)) rfl (S.cell 163 (nc rfl)) (by decide) p1.1 p1.2 (by decide) ?_
  show wp _ _ _ _ _ [.int (iI (m 163 ((x1).toNat)))] _ _
  have hr2 : rJ (m 163 ((x1).toNat)) := S.rg 163 ((x1).toNat) (nl rfl)
  refine wp_g (n := 1) (pc' := 7) (L' := [some (.ref 158), some (.int (iI x1))]) (st' := [.ref 158, .int (iI (m 163 ((x1).toNat)))]) rfl ?_
  refine wp_getf (v := .ref 164) rfl rfl (S.cell 158 (nc rfl)) (by decide) rfl ?_
  refine wp_g (n := 1) (pc' := 11) (L' := [some (.ref 158), some (.int (iI x1))]) (st' := [.int (iI x1), .ref 164, .int (iI (m 163 ((x1).toNat)))]) rfl ?_
  obtain ⟨p3, hW⟩ := hW
  refine wp_iald (n := 24) (F := (m 164)) rfl (S.cell 164 (nc rfl)) (by decide) p3.1 p3.2 (by decide) ?_
  show wp _ _ _ _ _ [.int (iI (m 164 ((x1).toNat))), .int (iI (m 163 ((x1).toNat)))] _ _
  have hr4 : rJ (m 164 ((x1).toNat)) := S.rg 164 ((x1).toNat) (nl rfl)
  refine wp_g (n := 1) (pc' := 13) (L' := [some (.ref 158), some (.int (iI x1))]) (st' := [.int (iI 1), .int (iI (m 164 ((x1).toNat))), .int (iI (m 163 ((x1).toNat)))]) rfl ?_
  refine wp_icmpI (a := (m 164 ((x1).toNat))) (b := 1) rfl rfl hr4.1 hr4.2 (by decide) (by decide) (fun c5 => ?_) (fun c5 => ?_)
  · have dc5 := c5
    have hW := hW.2 dc5
    refine wp_g (n := 1) (pc' := 24) (L' := [some (.ref 158), some (.int (iI x1))]) (st' := [.int (iI 1), .int (iI (m 163 ((x1).toNat)))]) rfl ?_
    refine wp_add (a := (m 163 ((x1).toNat))) (b := 1) rfl ?_
    obtain ⟨p6, hW⟩ := hW
    exact wp_iret rfl rfl ⟨_, _, _, _, rfl, p6, S, hW⟩
  · have dc5 := (Classical.not_not.mp c5)
    have hW := hW.1 dc5
    refine wp_g (n := 1) (pc' := 17) (L' := [some (.ref 158), some (.int (iI x1))]) (st' := [.ref 158, .int (iI (m 163 ((x1).toNat)))]) rfl ?_
    refine wp_getf (v := .int (iI (m 158 5))) rfl rfl (S.cell 158 (nc rfl)) (by decide) rfl ?_
    have hr7 : rJ (m 158 5) := S.rg 158 5 (nl rfl)
    refine wp_g (n := 1) (pc' := 24) (L' := [some (.ref 158), some (.int (iI x1))]) (st' := [.int (iI (m 158 5)), .int (iI (m 163 ((x1).toNat)))]) rfl ?_
    refine wp_add (a := (m 163 ((x1).toNat))) (b := (m 158 5)) rfl ?_
    obtain ⟨p8, hW⟩ := hW
    exact wp_iret rfl rfl ⟨_, _, _, _, rfl, p8, S, hW⟩
abbrev W_X9_edgeOfSide (E : am_E) (k : Nat) (x1 : Int) (x2 : Int) (m : MM) (γ : GM) (t : am_H) (Q : Int → MM → GM → am_H → Prop) : Prop := (((x2 = 1) → ((0 ≤ (2 * x1) ∧ (2 * x1) < 32) ∧ (Q (m 165 (((2 * x1)).toNat)) m γ t))) ∧ (¬ (x2 = 1) → (((x2 = 2) → ((0 ≤ ((2 * x1) + 1) ∧ ((2 * x1) + 1) < 32) ∧ (Q (m 165 ((((2 * x1) + 1)).toNat)) m γ t))) ∧ (¬ (x2 = 2) → (((x2 = 3) → (0 ≤ x1 ∧ (0 < (m 158 5) ∧ (rJ (x1 % (m 158 5)) ∧ ((((x1 % (m 158 5)) ≤ 0) → (Q (-1) m γ t)) ∧ (¬ ((x1 % (m 158 5)) ≤ 0) → ((0 ≤ (2 * (x1 - 1)) ∧ (2 * (x1 - 1)) < 32) ∧ (Q (m 165 (((2 * (x1 - 1))).toNat)) m γ t)))))))) ∧ (¬ (x2 = 3) → (((x1 < (m 158 5)) → (Q (-1) m γ t)) ∧ (¬ (x1 < (m 158 5)) → ((0 ≤ ((2 * (x1 - (m 158 5))) + 1) ∧ ((2 * (x1 - (m 158 5))) + 1) < 32) ∧ (Q (m 165 ((((2 * (x1 - (m 158 5))) + 1)).toNat)) m γ t))))))))))
theorem vc_X9_edgeOfSide {E : am_E} {k : Nat} {x1 : Int} {x2 : Int} {m : MM} {γ : GM} {t : am_H} {Q : Int → MM → GM → am_H → Prop} (hx1 : rJ x1) (hx2 : rJ x2) (hW : W_X9_edgeOfSide E k x1 x2 m γ t Q) : TI E k 208 [.ref 158, .int (iI x1), .int (iI x2)] m γ t Q := by
  unfold W_X9_edgeOfSide at hW
  intro h S
  refine wp_g (n := 2) (pc' := 2) (L' := [some (.ref 158), some (.int (iI x1)), some (.int (iI x2))]) (st' := [.int (iI 1), .int (iI x2)]) rfl ?_
  refine wp_icmpI (a := x2) (b := 1) rfl rfl hx2.1 hx2.2 (by decide) (by decide) (fun c1 => ?_) (fun c1 => ?_)
  · have dc1 := c1
    have hW := hW.2 dc1
    refine wp_g (n := 2) (pc' := 16) (L' := [some (.ref 158), some (.int (iI x1)), some (.int (iI x2))]) (st' := [.int (iI 2), .int (iI x2)]) rfl ?_
    refine wp_icmpI (a := x2) (b := 2) rfl rfl hx2.1 hx2.2 (by decide) (by decide) (fun c2 => ?_) (fun c2 => ?_)
    · have dc2 := c2
      have hW := hW.2 dc2
      refine wp_g (n := 2) (pc' := 32) (L' := [some (.ref 158), some (.int (iI x1)), some (.int (iI x2))]) (st' := [.int (iI 3), .int (iI x2)]) rfl ?_
      refine wp_icmpI (a := x2) (b := 3) rfl rfl hx2.1 hx2.2 (by decide) (by decide) (fun c3 => ?_) (fun c3 => ?_)
      · have dc3 := c3
        have hW := hW.2 dc3
        refine wp_g (n := 2) (pc' := 61) (L' := [some (.ref 158), some (.int (iI x1)), some (.int (iI x2))]) (st' := [.ref 158, .int (iI x1)]) rfl ?_
        refine wp_getf (v := .int (iI (m 158 5))) rfl rfl (S.cell 158 (nc rfl)) (by decide) rfl ?_
        have hr4 : rJ (m 158 5) := S.rg 158 5 (nl rfl)
        refine wp_icmpI (a := x1) (b := (m 158 5)) rfl rfl hx1.1 hx1.2 hr4.1 hr4.2 (fun c5 => ?_) (fun c5 => ?_)
        · have dc5 := c5
          have hW := hW.1 dc5
          refine wp_g (n := 1) (pc' := 86) (L' := [some (.ref 158), some (.int (iI x1)), some (.int (iI x2))]) (st' := [.int (iI (-1))]) rfl ?_
          exact wp_iret rfl rfl ⟨_, _, _, _, rfl, (by decide), S, hW⟩
        · have dc5 := c5
          have hW := hW.2 dc5
          refine wp_g (n := 1) (pc' := 68) (L' := [some (.ref 158), some (.int (iI x1)), some (.int (iI x2))]) (st' := [.ref 158]) rfl ?_
          refine wp_getf (v := .ref 165) rfl rfl (S.cell 158 (nc rfl)) (by decide) rfl ?_
          refine wp_g (n := 3) (pc' := 74) (L' := [some (.ref 158), some (.int (iI x1)), some (.int (iI x2))]) (st' := [.ref 158, .int (iI x1), .int (iI 2), .ref 165]) rfl ?_
          refine wp_getf (v := .int (iI (m 158 5))) rfl rfl (S.cell 158 (nc rfl)) (by decide) rfl ?_
          refine wp_sub (a := x1) (b := (m 158 5)) rfl ?_
          refine wp_mul (a := 2) (b := (x1 - (m 158 5))) rfl ?_
          refine wp_g (n := 1) (pc' := 80) (L' := [some (.ref 158), some (.int (iI x1)), some (.int (iI x2))]) (st' := [.int (iI 1), .int (iI (2 * (x1 - (m 158 5)))), .ref 165]) rfl ?_
          refine wp_add (a := (2 * (x1 - (m 158 5)))) (b := 1) rfl ?_
          obtain ⟨p6, hW⟩ := hW
          refine wp_iald (n := 32) (F := (m 165)) rfl (S.cell 165 (nc rfl)) (by decide) p6.1 p6.2 (by decide) ?_
          show wp _ _ _ _ _ [.int (iI (m 165 ((((2 * (x1 - (m 158 5))) + 1)).toNat)))] _ _
          have hr7 : rJ (m 165 ((((2 * (x1 - (m 158 5))) + 1)).toNat)) := S.rg 165 ((((2 * (x1 - (m 158 5))) + 1)).toNat) (nl rfl)
          refine wp_g (n := 1) (pc' := 86) (L' := [some (.ref 158), some (.int (iI x1)), some (.int (iI x2))]) (st' := [.int (iI (m 165 ((((2 * (x1 - (m 158 5))) + 1)).toNat)))]) rfl ?_
          exact wp_iret rfl rfl ⟨_, _, _, _, rfl, hr7, S, hW⟩
      · have dc3 := (Classical.not_not.mp c3)
        have hW := hW.1 dc3
        refine wp_g (n := 2) (pc' := 37) (L' := [some (.ref 158), some (.int (iI x1)), some (.int (iI x2))]) (st' := [.ref 158, .int (iI x1)]) rfl ?_
        refine wp_getf (v := .int (iI (m 158 5))) rfl rfl (S.cell 158 (nc rfl)) (by decide) rfl ?_
        have hr8 : rJ (m 158 5) := S.rg 158 5 (nl rfl)
        obtain ⟨p9, hW⟩ := hW
        obtain ⟨p10, hW⟩ := hW
        refine wp_rem (a := x1) (b := (m 158 5)) rfl p9 hx1.2 p10 hr8.2 ?_
        obtain ⟨p11, hW⟩ := hW
        refine wp_ifI (a := (x1 % (m 158 5))) rfl rfl p11.1 p11.2 (fun c12 => ?_) (fun c12 => ?_)
        · have dc12 := c12
          have hW := hW.1 dc12
          refine wp_g (n := 1) (pc' := 58) (L' := [some (.ref 158), some (.int (iI x1)), some (.int (iI x2))]) (st' := [.int (iI (-1))]) rfl ?_
          exact wp_iret rfl rfl ⟨_, _, _, _, rfl, (by decide), S, hW⟩
        · have dc12 := c12
          have hW := hW.2 dc12
          refine wp_g (n := 1) (pc' := 45) (L' := [some (.ref 158), some (.int (iI x1)), some (.int (iI x2))]) (st' := [.ref 158]) rfl ?_
          refine wp_getf (v := .ref 165) rfl rfl (S.cell 158 (nc rfl)) (by decide) rfl ?_
          refine wp_g (n := 3) (pc' := 51) (L' := [some (.ref 158), some (.int (iI x1)), some (.int (iI x2))]) (st' := [.int (iI 1), .int (iI x1), .int (iI 2), .ref 165]) rfl ?_
          refine wp_sub (a := x1) (b := 1) rfl ?_
          refine wp_mul (a := 2) (b := (x1 - 1)) rfl ?_
          obtain ⟨p13, hW⟩ := hW
          refine wp_iald (n := 32) (F := (m 165)) rfl (S.cell 165 (nc rfl)) (by decide) p13.1 p13.2 (by decide) ?_
          show wp _ _ _ _ _ [.int (iI (m 165 (((2 * (x1 - 1))).toNat)))] _ _
          have hr14 : rJ (m 165 (((2 * (x1 - 1))).toNat)) := S.rg 165 (((2 * (x1 - 1))).toNat) (nl rfl)
          refine wp_g (n := 1) (pc' := 58) (L' := [some (.ref 158), some (.int (iI x1)), some (.int (iI x2))]) (st' := [.int (iI (m 165 (((2 * (x1 - 1))).toNat)))]) rfl ?_
          exact wp_iret rfl rfl ⟨_, _, _, _, rfl, hr14, S, hW⟩
    · have dc2 := (Classical.not_not.mp c2)
      have hW := hW.1 dc2
      refine wp_g (n := 1) (pc' := 20) (L' := [some (.ref 158), some (.int (iI x1)), some (.int (iI x2))]) (st' := [.ref 158]) rfl ?_
      refine wp_getf (v := .ref 165) rfl rfl (S.cell 158 (nc rfl)) (by decide) rfl ?_
      refine wp_g (n := 2) (pc' := 25) (L' := [some (.ref 158), some (.int (iI x1)), some (.int (iI x2))]) (st' := [.int (iI x1), .int (iI 2), .ref 165]) rfl ?_
      refine wp_mul (a := 2) (b := x1) rfl ?_
      refine wp_g (n := 1) (pc' := 27) (L' := [some (.ref 158), some (.int (iI x1)), some (.int (iI x2))]) (st' := [.int (iI 1), .int (iI (2 * x1)), .ref 165]) rfl ?_
      refine wp_add (a := (2 * x1)) (b := 1) rfl ?_
      obtain ⟨p15, hW⟩ := hW
      refine wp_iald (n := 32) (F := (m 165)) rfl (S.cell 165 (nc rfl)) (by decide) p15.1 p15.2 (by decide) ?_
      show wp _ _ _ _ _ [.int (iI (m 165 ((((2 * x1) + 1)).toNat)))] _ _
      have hr16 : rJ (m 165 ((((2 * x1) + 1)).toNat)) := S.rg 165 ((((2 * x1) + 1)).toNat) (nl rfl)
      exact wp_iret rfl rfl ⟨_, _, _, _, rfl, hr16, S, hW⟩
  · have dc1 := (Classical.not_not.mp c1)
    have hW := hW.1 dc1
    refine wp_g (n := 1) (pc' := 6) (L' := [some (.ref 158), some (.int (iI x1)), some (.int (iI x2))]) (st' := [.ref 158]) rfl ?_
    refine wp_getf (v := .ref 165) rfl rfl (S.cell 158 (nc rfl)) (by decide) rfl ?_
    refine wp_g (n := 2) (pc' := 11) (L' := [some (.ref 158), some (.int (iI x1)), some (.int (iI x2))]) (st' := [.int (iI x1), .int (iI 2), .ref 165]) rfl ?_
    refine wp_mul (a := 2) (b := x1) rfl ?_
    obtain ⟨p17, hW⟩ := hW
    refine wp_iald (n := 32) (F := (m 165)) rfl (S.cell 165 (nc rfl)) (by decide) p17.1 p17.2 (by decide) ?_
    show wp _ _ _ _ _ [.int (iI (m 165 (((2 * x1)).toNat)))] _ _
    have hr18 : rJ (m 165 (((2 * x1)).toNat)) := S.rg 165 (((2 * x1)).toNat) (nl rfl)
    exact wp_iret rfl rfl ⟨_, _, _, _, rfl, hr18, S, hW⟩
def hd_X9_goesOn_60 (E : am_E) (k : Nat) (x1 : Int) (x2 : Int) (y2 : Int) (y3 : Int) (y5 : Int) (y6 : Int) (m : MM) (γ : GM) (t : am_H) (Q : MM → GM → am_H → Prop) : Prop := ∀ (z1 z4 z7 z8 z9 : Option Value), TT (pV Q) E (k + 1) 209 60 [some (.ref 158), z1, some (.int (iI y2)), some (.int (iI y3)), z4, some (.int (iI y5)), some (.int (iI y6)), z7, z8, z9] [] m γ t
abbrev W_X9_goesOn (E : am_E) (k : Nat) (x1 : Int) (x2 : Int) (m : MM) (γ : GM) (t : am_H) (Q : MM → GM → am_H → Prop) : Prop := (0 ≤ x1 ∧ (0 ≤ x1 ∧ (((x2 = 0) → (TI E k 208 [.ref 158, .int (iI (x1 / 4)), .int (iI (x1 % 4))] m γ t (fun v6 m6 γ6 t6 => (((v6 = (-1)) → (hd_X9_goesOn_60 E k x1 x2 x2 (x1 / 4) (x1 % 4) 2 (up m6 158 (up (m6 158) 19 v6)) γ6 t6 Q)) ∧ (¬ (v6 = (-1)) → ((0 ≤ v6 ∧ v6 < 24) ∧ (hd_X9_goesOn_60 E k x1 x2 x2 (x1 / 4) (x1 % 4) (m6 162 ((v6).toNat)) (up m6 158 (up (m6 158) 19 v6)) γ6 t6 Q))))))) ∧ (¬ (x2 = 0) → (rJ ((x1 % 4) + 1) ∧ (0 ≤ ((x1 % 4) + 1) ∧ (TI E k 208 [.ref 158, .int (iI (x1 / 4)), .int (iI (((x1 % 4) + 1) % 4))] m γ t (fun v14 m14 γ14 t14 => (((v14 = (-1)) → (hd_X9_goesOn_60 E k x1 x2 x2 (x1 / 4) (((x1 % 4) + 1) % 4) 2 (up m14 158 (up (m14 158) 19 v14)) γ14 t14 Q)) ∧ (¬ (v14 = (-1)) → ((0 ≤ v14 ∧ v14 < 24) ∧ (hd_X9_goesOn_60 E k x1 x2 x2 (x1 / 4) (((x1 % 4) + 1) % 4) (m14 162 ((v14).toNat)) (up m14 158 (up (m14 158) 19 v14)) γ14 t14 Q))))))))))))
abbrev W_X9_goesOn_60 (E : am_E) (k : Nat) (x1 : Int) (x2 : Int) (y2 : Int) (y3 : Int) (y5 : Int) (y6 : Int) (m : MM) (γ : GM) (t : am_H) (Q : MM → GM → am_H → Prop) : Prop := (((y6 = 2) → (((y2 = 0) → (rJ (y5 + 3) ∧ (0 ≤ (y5 + 3) ∧ (rJ ((4 * y3) + ((y5 + 3) % 4)) ∧ ((y2 = 0 ∨ y2 = 1) ∧ (Q (up (up m 158 (up (m 158) 17 ((4 * y3) + ((y5 + 3) % 4)))) 158 (up (up (m 158) 17 ((4 * y3) + ((y5 + 3) % 4))) 18 y2)) γ t)))))) ∧ (¬ (y2 = 0) → (rJ ((4 * y3) + y5) ∧ ((y2 = 0 ∨ y2 = 1) ∧ (Q (up (up m 158 (up (m 158) 17 ((4 * y3) + y5))) 158 (up (up (m 158) 17 ((4 * y3) + y5)) 18 y2)) γ t)))))) ∧ (¬ (y6 = 2) → ((0 ≤ (m 158 19) ∧ (m 158 19) < 24) ∧ ((((m 163 (((m 158 19)).toNat)) = y3) → (TI E k 207 [.ref 158, .int (iI (m 158 19))] m γ t (fun v33 m33 γ33 t33 => (rJ (y5 + 2) ∧ (0 ≤ (y5 + 2) ∧ (((y6 = 3) → (((y2 = 0) → (rJ (((y5 + 2) % 4) + 3) ∧ (0 ≤ (((y5 + 2) % 4) + 3) ∧ (rJ ((4 * v33) + ((((y5 + 2) % 4) + 3) % 4)) ∧ ((y2 = 0 ∨ y2 = 1) ∧ (Q (up (up m33 158 (up (m33 158) 17 ((4 * v33) + ((((y5 + 2) % 4) + 3) % 4)))) 158 (up (up (m33 158) 17 ((4 * v33) + ((((y5 + 2) % 4) + 3) % 4))) 18 y2)) γ33 t33)))))) ∧ (¬ (y2 = 0) → (rJ ((4 * v33) + ((y5 + 2) % 4)) ∧ ((y2 = 0 ∨ y2 = 1) ∧ (Q (up (up m33 158 (up (m33 158) 17 ((4 * v33) + ((y5 + 2) % 4)))) 158 (up (up (m33 158) 17 ((4 * v33) + ((y5 + 2) % 4))) 18 y2)) γ33 t33)))))) ∧ (¬ (y6 = 3) → (((y2 = 0) → (rJ ((4 * v33) + ((y5 + 2) % 4)) ∧ (Q (up (up m33 158 (up (m33 158) 17 ((4 * v33) + ((y5 + 2) % 4)))) 158 (up (up (m33 158) 17 ((4 * v33) + ((y5 + 2) % 4))) 18 1)) γ33 t33))) ∧ (¬ (y2 = 0) → (rJ (((y5 + 2) % 4) + 3) ∧ (0 ≤ (((y5 + 2) % 4) + 3) ∧ (rJ ((4 * v33) + ((((y5 + 2) % 4) + 3) % 4)) ∧ (Q (up (up m33 158 (up (m33 158) 17 ((4 * v33) + ((((y5 + 2) % 4) + 3) % 4)))) 158 (up (up (m33 158) 17 ((4 * v33) + ((((y5 + 2) % 4) + 3) % 4))) 18 0)) γ33 t33))))))))))))) ∧ (¬ ((m 163 (((m 158 19)).toNat)) = y3) → ((0 ≤ (m 158 19) ∧ (m 158 19) < 24) ∧ (rJ (y5 + 2) ∧ (0 ≤ (y5 + 2) ∧ (((y6 = 3) → (((y2 = 0) → (rJ (((y5 + 2) % 4) + 3) ∧ (0 ≤ (((y5 + 2) % 4) + 3) ∧ (rJ ((4 * (m 163 (((m 158 19)).toNat))) + ((((y5 + 2) % 4) + 3) % 4)) ∧ ((y2 = 0 ∨ y2 = 1) ∧ (Q (up (up m 158 (up (m 158) 17 ((4 * (m 163 (((m 158 19)).toNat))) + ((((y5 + 2) % 4) + 3) % 4)))) 158 (up (up (m 158) 17 ((4 * (m 163 (((m 158 19)).toNat))) + ((((y5 + 2) % 4) + 3) % 4))) 18 y2)) γ t)))))) ∧ (¬ (y2 = 0) → (rJ ((4 * (m 163 (((m 158 19)).toNat))) + ((y5 + 2) % 4)) ∧ ((y2 = 0 ∨ y2 = 1) ∧ (Q (up (up m 158 (up (m 158) 17 ((4 * (m 163 (((m 158 19)).toNat))) + ((y5 + 2) % 4)))) 158 (up (up (m 158) 17 ((4 * (m 163 (((m 158 19)).toNat))) + ((y5 + 2) % 4))) 18 y2)) γ t)))))) ∧ (¬ (y6 = 3) → (((y2 = 0) → (rJ ((4 * (m 163 (((m 158 19)).toNat))) + ((y5 + 2) % 4)) ∧ (Q (up (up m 158 (up (m 158) 17 ((4 * (m 163 (((m 158 19)).toNat))) + ((y5 + 2) % 4)))) 158 (up (up (m 158) 17 ((4 * (m 163 (((m 158 19)).toNat))) + ((y5 + 2) % 4))) 18 1)) γ t))) ∧ (¬ (y2 = 0) → (rJ (((y5 + 2) % 4) + 3) ∧ (0 ≤ (((y5 + 2) % 4) + 3) ∧ (rJ ((4 * (m 163 (((m 158 19)).toNat))) + ((((y5 + 2) % 4) + 3) % 4)) ∧ (Q (up (up m 158 (up (m 158) 17 ((4 * (m 163 (((m 158 19)).toNat))) + ((((y5 + 2) % 4) + 3) % 4)))) 158 (up (up (m 158) 17 ((4 * (m 163 (((m 158 19)).toNat))) + ((((y5 + 2) % 4) + 3) % 4))) 18 0)) γ t))))))))))))))))
theorem vc_X9_goesOn {E : am_E} {k : Nat} {x1 : Int} {x2 : Int} {m : MM} {γ : GM} {t : am_H} {Q : MM → GM → am_H → Prop} (hx1 : rJ x1) (hx2 : rJ x2) (hW : W_X9_goesOn E k x1 x2 m γ t Q) : TV E (k + 1) 209 [.ref 158, .int (iI x1), .int (iI x2)] m γ t Q := by
  unfold W_X9_goesOn at hW
  intro h S
  refine wp_g (n := 2) (pc' := 2) (L' := [some (.ref 158), some (.int (iI x1)), some (.int (iI x2)), none, none, none, none, none, none, none]) (st' := [.int (iI 4), .int (iI x1)]) rfl ?_
  obtain ⟨p1, hW⟩ := hW
  refine wp_div (a := x1) (b := 4) rfl p1 hx1.2 (by decide) (by decide) ?_
  have hr2 : rJ (x1 / 4) := by have := hx1; omega
  refine wp_g (n := 3) (pc' := 6) (L' := [some (.ref 158), some (.int (iI x1)), some (.int (iI x2)), some (.int (iI (x1 / 4))), none, none, none, none, none, none]) (st' := [.int (iI 4), .int (iI x1)]) rfl ?_
  obtain ⟨p3, hW⟩ := hW
  refine wp_rem (a := x1) (b := 4) rfl p3 hx1.2 (by decide) (by decide) ?_
  have hr4 : rJ (x1 % 4) := by omega
  refine wp_g (n := 2) (pc' := 10) (L' := [some (.ref 158), some (.int (iI x1)), some (.int (iI x2)), some (.int (iI (x1 / 4))), some (.int (iI (x1 % 4))), none, none, none, none, none]) (st' := [.int (iI x2)]) rfl ?_
  refine wp_ifI (a := x2) rfl rfl hx2.1 hx2.2 (fun c5 => ?_) (fun c5 => ?_)
  · have dc5 := c5
    have hW := hW.1 dc5
    refine wp_g (n := 6) (pc' := 31) (L' := [some (.ref 158), some (.int (iI x1)), some (.int (iI x2)), some (.int (iI (x1 / 4))), some (.int (iI (x1 % 4))), some (.int (iI (x1 % 4))), none, none, none, none]) (st' := [.int (iI (x1 % 4)), .int (iI (x1 / 4)), .ref 158, .ref 158]) rfl ?_
    refine wp_cv (As := [.int (iI (x1 / 4)), .int (iI (x1 % 4))]) (rest := [.ref 158]) rfl rfl (S.cell 158 (nc rfl)) (by decide) rfl rfl rfl (Nat.le_of_ble_eq_true rfl) (Nat.le_of_ble_eq_true rfl) (hW _ S) (fun r6 H6 q6 => ?_)
    obtain ⟨v6, m6, γ6, t6, rfl, hv6, S, hW⟩ := q6
    show wp _ _ _ _ _ [.int (iI v6), .ref 158] _ _
    refine wp_putI rfl rfl (S.cell 158 (nc rfl)) (Nat.le_of_ble_eq_true rfl) rfl (fun H7 hl7 hz7 hf7 => ?_)
    have S : ST H7 (up m6 158 (up (m6 158) 19 v6)) γ6 t6 := S.setI 158 (nc rfl) hl7 hz7 hf7 hv6.1 hv6.2
    refine wp_g (n := 1) (pc' := 38) (L' := [some (.ref 158), some (.int (iI x1)), some (.int (iI x2)), some (.int (iI (x1 / 4))), some (.int (iI (x1 % 4))), some (.int (iI (x1 % 4))), none, none, none, none]) (st' := [.ref 158]) rfl ?_
    refine wp_getf (v := .int (iI v6)) rfl rfl (S.cell 158 (nc rfl)) (by decide) rfl ?_
    refine wp_g (n := 1) (pc' := 42) (L' := [some (.ref 158), some (.int (iI x1)), some (.int (iI x2)), some (.int (iI (x1 / 4))), some (.int (iI (x1 % 4))), some (.int (iI (x1 % 4))), none, none, none, none]) (st' := [.int (iI (-1)), .int (iI v6)]) rfl ?_
    refine wp_icmpI (a := v6) (b := (-1)) rfl rfl hv6.1 hv6.2 (by decide) (by decide) (fun c8 => ?_) (fun c8 => ?_)
    · have dc8 := c8
      have hW := hW.2 dc8
      refine wp_g (n := 1) (pc' := 50) (L' := [some (.ref 158), some (.int (iI x1)), some (.int (iI x2)), some (.int (iI (x1 / 4))), some (.int (iI (x1 % 4))), some (.int (iI (x1 % 4))), none, none, none, none]) (st' := [.ref 158]) rfl ?_
      refine wp_getf (v := .ref 162) rfl rfl (S.cell 158 (nc rfl)) (by decide) rfl ?_
      refine wp_g (n := 1) (pc' := 54) (L' := [some (.ref 158), some (.int (iI x1)), some (.int (iI x2)), some (.int (iI (x1 / 4))), some (.int (iI (x1 % 4))), some (.int (iI (x1 % 4))), none, none, none, none]) (st' := [.ref 158, .ref 162]) rfl ?_
      refine wp_getf (v := .int (iI v6)) rfl rfl (S.cell 158 (nc rfl)) (by decide) rfl ?_
      obtain ⟨p9, hW⟩ := hW
      refine wp_iald (n := 24) (F := (m6 162)) rfl (S.cell 162 (nc rfl)) (by decide) p9.1 p9.2 (by decide) ?_
      show wp _ _ _ _ _ [.int (iI (m6 162 ((v6).toNat)))] _ _
      have hr10 : rJ (m6 162 ((v6).toNat)) := S.rg 162 ((v6).toNat) (nl rfl)
      refine wp_g (n := 1) (pc' := 60) (L' := [some (.ref 158), some (.int (iI x1)), some (.int (iI x2)), some (.int (iI (x1 / 4))), some (.int (iI (x1 % 4))), some (.int (iI (x1 % 4))), some (.int (iI (m6 162 ((v6).toNat)))), none, none, none]) (st' := []) rfl ?_
      exact hW (some (.int (iI x1))) (some (.int (iI (x1 % 4)))) none none none _ S
    · have dc8 := (Classical.not_not.mp c8)
      have hW := hW.1 dc8
      refine wp_g (n := 3) (pc' := 60) (L' := [some (.ref 158), some (.int (iI x1)), some (.int (iI x2)), some (.int (iI (x1 / 4))), some (.int (iI (x1 % 4))), some (.int (iI (x1 % 4))), some (.int (iI 2)), none, none, none]) (st' := []) rfl ?_
      exact hW (some (.int (iI x1))) (some (.int (iI (x1 % 4)))) none none none _ S
  · have dc5 := c5
    have hW := hW.2 dc5
    refine wp_g (n := 2) (pc' := 16) (L' := [some (.ref 158), some (.int (iI x1)), some (.int (iI x2)), some (.int (iI (x1 / 4))), some (.int (iI (x1 % 4))), none, none, none, none, none]) (st' := [.int (iI 1), .int (iI (x1 % 4))]) rfl ?_
    refine wp_add (a := (x1 % 4)) (b := 1) rfl ?_
    refine wp_g (n := 1) (pc' := 18) (L' := [some (.ref 158), some (.int (iI x1)), some (.int (iI x2)), some (.int (iI (x1 / 4))), some (.int (iI (x1 % 4))), none, none, none, none, none]) (st' := [.int (iI 4), .int (iI ((x1 % 4) + 1))]) rfl ?_
    obtain ⟨p11, hW⟩ := hW
    obtain ⟨p12, hW⟩ := hW
    refine wp_rem (a := ((x1 % 4) + 1)) (b := 4) rfl p12 p11.2 (by decide) (by decide) ?_
    have hr13 : rJ (((x1 % 4) + 1) % 4) := by omega
    refine wp_g (n := 6) (pc' := 31) (L' := [some (.ref 158), some (.int (iI x1)), some (.int (iI x2)), some (.int (iI (x1 / 4))), some (.int (iI (x1 % 4))), some (.int (iI (((x1 % 4) + 1) % 4))), none, none, none, none]) (st' := [.int (iI (((x1 % 4) + 1) % 4)), .int (iI (x1 / 4)), .ref 158, .ref 158]) rfl ?_
    refine wp_cv (As := [.int (iI (x1 / 4)), .int (iI (((x1 % 4) + 1) % 4))]) (rest := [.ref 158]) rfl rfl (S.cell 158 (nc rfl)) (by decide) rfl rfl rfl (Nat.le_of_ble_eq_true rfl) (Nat.le_of_ble_eq_true rfl) (hW _ S) (fun r14 H14 q14 => ?_)
    obtain ⟨v14, m14, γ14, t14, rfl, hv14, S, hW⟩ := q14
    show wp _ _ _ _ _ [.int (iI v14), .ref 158] _ _
    refine wp_putI rfl rfl (S.cell 158 (nc rfl)) (Nat.le_of_ble_eq_true rfl) rfl (fun H15 hl15 hz15 hf15 => ?_)
    have S : ST H15 (up m14 158 (up (m14 158) 19 v14)) γ14 t14 := S.setI 158 (nc rfl) hl15 hz15 hf15 hv14.1 hv14.2
    refine wp_g (n := 1) (pc' := 38) (L' := [some (.ref 158), some (.int (iI x1)), some (.int (iI x2)), some (.int (iI (x1 / 4))), some (.int (iI (x1 % 4))), some (.int (iI (((x1 % 4) + 1) % 4))), none, none, none, none]) (st' := [.ref 158]) rfl ?_
    refine wp_getf (v := .int (iI v14)) rfl rfl (S.cell 158 (nc rfl)) (by decide) rfl ?_
    refine wp_g (n := 1) (pc' := 42) (L' := [some (.ref 158), some (.int (iI x1)), some (.int (iI x2)), some (.int (iI (x1 / 4))), some (.int (iI (x1 % 4))), some (.int (iI (((x1 % 4) + 1) % 4))), none, none, none, none]) (st' := [.int (iI (-1)), .int (iI v14)]) rfl ?_
    refine wp_icmpI (a := v14) (b := (-1)) rfl rfl hv14.1 hv14.2 (by decide) (by decide) (fun c16 => ?_) (fun c16 => ?_)
    · have dc16 := c16
      have hW := hW.2 dc16
      refine wp_g (n := 1) (pc' := 50) (L' := [some (.ref 158), some (.int (iI x1)), some (.int (iI x2)), some (.int (iI (x1 / 4))), some (.int (iI (x1 % 4))), some (.int (iI (((x1 % 4) + 1) % 4))), none, none, none, none]) (st' := [.ref 158]) rfl ?_
      refine wp_getf (v := .ref 162) rfl rfl (S.cell 158 (nc rfl)) (by decide) rfl ?_
      refine wp_g (n := 1) (pc' := 54) (L' := [some (.ref 158), some (.int (iI x1)), some (.int (iI x2)), some (.int (iI (x1 / 4))), some (.int (iI (x1 % 4))), some (.int (iI (((x1 % 4) + 1) % 4))), none, none, none, none]) (st' := [.ref 158, .ref 162]) rfl ?_
      refine wp_getf (v := .int (iI v14)) rfl rfl (S.cell 158 (nc rfl)) (by decide) rfl ?_
      obtain ⟨p17, hW⟩ := hW
      refine wp_iald (n := 24) (F := (m14 162)) rfl (S.cell 162 (nc rfl)) (by decide) p17.1 p17.2 (by decide) ?_
      show wp _ _ _ _ _ [.int (iI (m14 162 ((v14).toNat)))] _ _
      have hr18 : rJ (m14 162 ((v14).toNat)) := S.rg 162 ((v14).toNat) (nl rfl)
      refine wp_g (n := 1) (pc' := 60) (L' := [some (.ref 158), some (.int (iI x1)), some (.int (iI x2)), some (.int (iI (x1 / 4))), some (.int (iI (x1 % 4))), some (.int (iI (((x1 % 4) + 1) % 4))), some (.int (iI (m14 162 ((v14).toNat)))), none, none, none]) (st' := []) rfl ?_
      exact hW (some (.int (iI x1))) (some (.int (iI (x1 % 4)))) none none none _ S
    · have dc16 := (Classical.not_not.mp c16)
      have hW := hW.1 dc16
      refine wp_g (n := 3) (pc' := 60) (L' := [some (.ref 158), some (.int (iI x1)), some (.int (iI x2)), some (.int (iI (x1 / 4))), some (.int (iI (x1 % 4))), some (.int (iI (((x1 % 4) + 1) % 4))), some (.int (iI 2)), none, none, none]) (st' := []) rfl ?_
      exact hW (some (.int (iI x1))) (some (.int (iI (x1 % 4)))) none none none _ S
theorem vc_X9_goesOn_60 {E : am_E} {k : Nat} {x1 : Int} {x2 : Int} {y2 : Int} {y3 : Int} {y5 : Int} {y6 : Int} {m : MM} {γ : GM} {t : am_H} {Q : MM → GM → am_H → Prop} (hx1 : rJ x1) (hx2 : rJ x2) (hy2 : rJ y2) (hy3 : rJ y3) (hy5 : rJ y5) (hy6 : rJ y6) (hW : W_X9_goesOn_60 E k x1 x2 y2 y3 y5 y6 m γ t Q) : hd_X9_goesOn_60 E k x1 x2 y2 y3 y5 y6 m γ t Q := by
  unfold W_X9_goesOn_60 at hW
  intro z1 z4 z7 z8 z9 h S
  refine wp_g (n := 2) (pc' := 63) (L' := [some (.ref 158), z1, some (.int (iI y2)), some (.int (iI y3)), z4, some (.int (iI y5)), some (.int (iI y6)), z7, z8, z9]) (st' := [.int (iI 2), .int (iI y6)]) rfl ?_
  refine wp_icmpI (a := y6) (b := 2) rfl rfl hy6.1 hy6.2 (by decide) (by decide) (fun c1 => ?_) (fun c1 => ?_)
  · have dc1 := c1
    have hW := hW.2 dc1
    refine wp_g (n := 1) (pc' := 96) (L' := [some (.ref 158), z1, some (.int (iI y2)), some (.int (iI y3)), z4, some (.int (iI y5)), some (.int (iI y6)), z7, z8, z9]) (st' := [.ref 158]) rfl ?_
    refine wp_getf (v := .ref 163) rfl rfl (S.cell 158 (nc rfl)) (by decide) rfl ?_
    refine wp_g (n := 1) (pc' := 100) (L' := [some (.ref 158), z1, some (.int (iI y2)), some (.int (iI y3)), z4, some (.int (iI y5)), some (.int (iI y6)), z7, z8, z9]) (st' := [.ref 158, .ref 163]) rfl ?_
    refine wp_getf (v := .int (iI (m 158 19))) rfl rfl (S.cell 158 (nc rfl)) (by decide) rfl ?_
    have hr2 : rJ (m 158 19) := S.rg 158 19 (nl rfl)
    obtain ⟨p3, hW⟩ := hW
    refine wp_iald (n := 24) (F := (m 163)) rfl (S.cell 163 (nc rfl)) (by decide) p3.1 p3.2 (by decide) ?_
    show wp _ _ _ _ _ [.int (iI (m 163 (((m 158 19)).toNat)))] _ _
    have hr4 : rJ (m 163 (((m 158 19)).toNat)) := S.rg 163 (((m 158 19)).toNat) (nl rfl)
    refine wp_g (n := 1) (pc' := 105) (L' := [some (.ref 158), z1, some (.int (iI y2)), some (.int (iI y3)), z4, some (.int (iI y5)), some (.int (iI y6)), z7, z8, z9]) (st' := [.int (iI y3), .int (iI (m 163 (((m 158 19)).toNat)))]) rfl ?_
    refine wp_icmpI (a := (m 163 (((m 158 19)).toNat))) (b := y3) rfl rfl hr4.1 hr4.2 hy3.1 hy3.2 (fun c5 => ?_) (fun c5 => ?_)
    · have dc5 := c5
      have hW := hW.2 dc5
      refine wp_g (n := 1) (pc' := 120) (L' := [some (.ref 158), z1, some (.int (iI y2)), some (.int (iI y3)), z4, some (.int (iI y5)), some (.int (iI y6)), z7, z8, z9]) (st' := [.ref 158]) rfl ?_
      refine wp_getf (v := .ref 163) rfl rfl (S.cell 158 (nc rfl)) (by decide) rfl ?_
      refine wp_g (n := 1) (pc' := 124) (L' := [some (.ref 158), z1, some (.int (iI y2)), some (.int (iI y3)), z4, some (.int (iI y5)), some (.int (iI y6)), z7, z8, z9]) (st' := [.ref 158, .ref 163]) rfl ?_
      refine wp_getf (v := .int (iI (m 158 19))) rfl rfl (S.cell 158 (nc rfl)) (by decide) rfl ?_
      obtain ⟨p6, hW⟩ := hW
      refine wp_iald (n := 24) (F := (m 163)) rfl (S.cell 163 (nc rfl)) (by decide) p6.1 p6.2 (by decide) ?_
      show wp _ _ _ _ _ [.int (iI (m 163 (((m 158 19)).toNat)))] _ _
      refine wp_g (n := 3) (pc' := 133) (L' := [some (.ref 158), z1, some (.int (iI y2)), some (.int (iI y3)), z4, some (.int (iI y5)), some (.int (iI y6)), some (.int (iI (m 163 (((m 158 19)).toNat)))), z8, z9]) (st' := [.int (iI 2), .int (iI y5)]) rfl ?_
      refine wp_add (a := y5) (b := 2) rfl ?_
      refine wp_g (n := 1) (pc' := 135) (L' := [some (.ref 158), z1, some (.int (iI y2)), some (.int (iI y3)), z4, some (.int (iI y5)), some (.int (iI y6)), some (.int (iI (m 163 (((m 158 19)).toNat)))), z8, z9]) (st' := [.int (iI 4), .int (iI (y5 + 2))]) rfl ?_
      obtain ⟨p7, hW⟩ := hW
      obtain ⟨p8, hW⟩ := hW
      refine wp_rem (a := (y5 + 2)) (b := 4) rfl p8 p7.2 (by decide) (by decide) ?_
      have hr9 : rJ ((y5 + 2) % 4) := by omega
      refine wp_g (n := 3) (pc' := 141) (L' := [some (.ref 158), z1, some (.int (iI y2)), some (.int (iI y3)), z4, some (.int (iI y5)), some (.int (iI y6)), some (.int (iI (m 163 (((m 158 19)).toNat)))), some (.int (iI ((y5 + 2) % 4))), z9]) (st' := [.int (iI 3), .int (iI y6)]) rfl ?_
      refine wp_icmpI (a := y6) (b := 3) rfl rfl hy6.1 hy6.2 (by decide) (by decide) (fun c10 => ?_) (fun c10 => ?_)
      · have dc10 := c10
        have hW := hW.2 dc10
        refine wp_g (n := 1) (pc' := 149) (L' := [some (.ref 158), z1, some (.int (iI y2)), some (.int (iI y3)), z4, some (.int (iI y5)), some (.int (iI y6)), some (.int (iI (m 163 (((m 158 19)).toNat)))), some (.int (iI ((y5 + 2) % 4))), z9]) (st' := [.int (iI y2)]) rfl ?_
        refine wp_ifI (a := y2) rfl rfl hy2.1 hy2.2 (fun c11 => ?_) (fun c11 => ?_)
        · have dc11 := c11
          have hW := hW.2 dc11
          refine wp_g (n := 5) (pc' := 163) (L' := [some (.ref 158), z1, some (.int (iI y2)), some (.int (iI y3)), z4, some (.int (iI y5)), some (.int (iI y6)), some (.int (iI (m 163 (((m 158 19)).toNat)))), some (.int (iI ((y5 + 2) % 4))), some (.int (iI 0))]) (st' := [.int (iI (m 163 (((m 158 19)).toNat))), .int (iI 4), .ref 158]) rfl ?_
          refine wp_mul (a := 4) (b := (m 163 (((m 158 19)).toNat))) rfl ?_
          refine wp_g (n := 1) (pc' := 166) (L' := [some (.ref 158), z1, some (.int (iI y2)), some (.int (iI y3)), z4, some (.int (iI y5)), some (.int (iI y6)), some (.int (iI (m 163 (((m 158 19)).toNat)))), some (.int (iI ((y5 + 2) % 4))), some (.int (iI 0))]) (st' := [.int (iI 0), .int (iI (4 * (m 163 (((m 158 19)).toNat)))), .ref 158]) rfl ?_
          refine wp_g (n := 1) (pc' := 174) (L' := [some (.ref 158), z1, some (.int (iI y2)), some (.int (iI y3)), z4, some (.int (iI y5)), some (.int (iI y6)), some (.int (iI (m 163 (((m 158 19)).toNat)))), some (.int (iI ((y5 + 2) % 4))), some (.int (iI 0))]) (st' := [.int (iI (4 * (m 163 (((m 158 19)).toNat)))), .ref 158]) rfl ?_
          refine wp_g (n := 2) (pc' := 177) (L' := [some (.ref 158), z1, some (.int (iI y2)), some (.int (iI y3)), z4, some (.int (iI y5)), some (.int (iI y6)), some (.int (iI (m 163 (((m 158 19)).toNat)))), some (.int (iI ((y5 + 2) % 4))), some (.int (iI 0))]) (st' := [.int (iI 3), .int (iI ((y5 + 2) % 4)), .int (iI (4 * (m 163 (((m 158 19)).toNat)))), .ref 158]) rfl ?_
          refine wp_add (a := ((y5 + 2) % 4)) (b := 3) rfl ?_
          refine wp_g (n := 1) (pc' := 179) (L' := [some (.ref 158), z1, some (.int (iI y2)), some (.int (iI y3)), z4, some (.int (iI y5)), some (.int (iI y6)), some (.int (iI (m 163 (((m 158 19)).toNat)))), some (.int (iI ((y5 + 2) % 4))), some (.int (iI 0))]) (st' := [.int (iI 4), .int (iI (((y5 + 2) % 4) + 3)), .int (iI (4 * (m 163 (((m 158 19)).toNat)))), .ref 158]) rfl ?_
          obtain ⟨p12, hW⟩ := hW
          obtain ⟨p13, hW⟩ := hW
          refine wp_rem (a := (((y5 + 2) % 4) + 3)) (b := 4) rfl p13 p12.2 (by decide) (by decide) ?_
          have hr14 : rJ ((((y5 + 2) % 4) + 3) % 4) := by omega
          refine wp_add (a := (4 * (m 163 (((m 158 19)).toNat)))) (b := ((((y5 + 2) % 4) + 3) % 4)) rfl ?_
          obtain ⟨p16, hW⟩ := hW
          refine wp_putI rfl rfl (S.cell 158 (nc rfl)) (Nat.le_of_ble_eq_true rfl) rfl (fun H15 hl15 hz15 hf15 => ?_)
          have S : ST H15 (up m 158 (up (m 158) 17 ((4 * (m 163 (((m 158 19)).toNat))) + ((((y5 + 2) % 4) + 3) % 4)))) γ t := S.setI 158 (nc rfl) hl15 hz15 hf15 p16.1 p16.2
          refine wp_g (n := 2) (pc' := 187) (L' := [some (.ref 158), z1, some (.int (iI y2)), some (.int (iI y3)), z4, some (.int (iI y5)), some (.int (iI y6)), some (.int (iI (m 163 (((m 158 19)).toNat)))), some (.int (iI ((y5 + 2) % 4))), some (.int (iI 0))]) (st' := [.int (iI 0), .ref 158]) rfl ?_
          refine wp_putZ rfl rfl (S.cell 158 (nc rfl)) (Nat.le_of_ble_eq_true rfl) rfl (by decide) (fun H17 hl17 hz17 hf17 => ?_)
          have S : ST H17 (up (up m 158 (up (m 158) 17 ((4 * (m 163 (((m 158 19)).toNat))) + ((((y5 + 2) % 4) + 3) % 4)))) 158 (up (up (m 158) 17 ((4 * (m 163 (((m 158 19)).toNat))) + ((((y5 + 2) % 4) + 3) % 4))) 18 0)) γ t := S.setI 158 (nc rfl) hl17 hz17 hf17 (by decide) (by decide)
          exact wp_vret rfl rfl ⟨_, _, _, rfl, S, hW⟩
        · have dc11 := (Classical.not_not.mp c11)
          have hW := hW.1 dc11
          refine wp_g (n := 6) (pc' := 163) (L' := [some (.ref 158), z1, some (.int (iI y2)), some (.int (iI y3)), z4, some (.int (iI y5)), some (.int (iI y6)), some (.int (iI (m 163 (((m 158 19)).toNat)))), some (.int (iI ((y5 + 2) % 4))), some (.int (iI 1))]) (st' := [.int (iI (m 163 (((m 158 19)).toNat))), .int (iI 4), .ref 158]) rfl ?_
          refine wp_mul (a := 4) (b := (m 163 (((m 158 19)).toNat))) rfl ?_
          refine wp_g (n := 1) (pc' := 166) (L' := [some (.ref 158), z1, some (.int (iI y2)), some (.int (iI y3)), z4, some (.int (iI y5)), some (.int (iI y6)), some (.int (iI (m 163 (((m 158 19)).toNat)))), some (.int (iI ((y5 + 2) % 4))), some (.int (iI 1))]) (st' := [.int (iI 1), .int (iI (4 * (m 163 (((m 158 19)).toNat)))), .ref 158]) rfl ?_
          refine wp_g (n := 1) (pc' := 169) (L' := [some (.ref 158), z1, some (.int (iI y2)), some (.int (iI y3)), z4, some (.int (iI y5)), some (.int (iI y6)), some (.int (iI (m 163 (((m 158 19)).toNat)))), some (.int (iI ((y5 + 2) % 4))), some (.int (iI 1))]) (st' := [.int (iI (4 * (m 163 (((m 158 19)).toNat)))), .ref 158]) rfl ?_
          refine wp_g (n := 2) (pc' := 180) (L' := [some (.ref 158), z1, some (.int (iI y2)), some (.int (iI y3)), z4, some (.int (iI y5)), some (.int (iI y6)), some (.int (iI (m 163 (((m 158 19)).toNat)))), some (.int (iI ((y5 + 2) % 4))), some (.int (iI 1))]) (st' := [.int (iI ((y5 + 2) % 4)), .int (iI (4 * (m 163 (((m 158 19)).toNat)))), .ref 158]) rfl ?_
          refine wp_add (a := (4 * (m 163 (((m 158 19)).toNat)))) (b := ((y5 + 2) % 4)) rfl ?_
          obtain ⟨p19, hW⟩ := hW
          refine wp_putI rfl rfl (S.cell 158 (nc rfl)) (Nat.le_of_ble_eq_true rfl) rfl (fun H18 hl18 hz18 hf18 => ?_)
          have S : ST H18 (up m 158 (up (m 158) 17 ((4 * (m 163 (((m 158 19)).toNat))) + ((y5 + 2) % 4)))) γ t := S.setI 158 (nc rfl) hl18 hz18 hf18 p19.1 p19.2
          refine wp_g (n := 2) (pc' := 187) (L' := [some (.ref 158), z1, some (.int (iI y2)), some (.int (iI y3)), z4, some (.int (iI y5)), some (.int (iI y6)), some (.int (iI (m 163 (((m 158 19)).toNat)))), some (.int (iI ((y5 + 2) % 4))), some (.int (iI 1))]) (st' := [.int (iI 1), .ref 158]) rfl ?_
          refine wp_putZ rfl rfl (S.cell 158 (nc rfl)) (Nat.le_of_ble_eq_true rfl) rfl (by decide) (fun H20 hl20 hz20 hf20 => ?_)
          have S : ST H20 (up (up m 158 (up (m 158) 17 ((4 * (m 163 (((m 158 19)).toNat))) + ((y5 + 2) % 4)))) 158 (up (up (m 158) 17 ((4 * (m 163 (((m 158 19)).toNat))) + ((y5 + 2) % 4))) 18 1)) γ t := S.setI 158 (nc rfl) hl20 hz20 hf20 (by decide) (by decide)
          exact wp_vret rfl rfl ⟨_, _, _, rfl, S, hW⟩
      · have dc10 := (Classical.not_not.mp c10)
        have hW := hW.1 dc10
        refine wp_g (n := 6) (pc' := 163) (L' := [some (.ref 158), z1, some (.int (iI y2)), some (.int (iI y3)), z4, some (.int (iI y5)), some (.int (iI y6)), some (.int (iI (m 163 (((m 158 19)).toNat)))), some (.int (iI ((y5 + 2) % 4))), some (.int (iI y2))]) (st' := [.int (iI (m 163 (((m 158 19)).toNat))), .int (iI 4), .ref 158]) rfl ?_
        refine wp_mul (a := 4) (b := (m 163 (((m 158 19)).toNat))) rfl ?_
        refine wp_g (n := 1) (pc' := 166) (L' := [some (.ref 158), z1, some (.int (iI y2)), some (.int (iI y3)), z4, some (.int (iI y5)), some (.int (iI y6)), some (.int (iI (m 163 (((m 158 19)).toNat)))), some (.int (iI ((y5 + 2) % 4))), some (.int (iI y2))]) (st' := [.int (iI y2), .int (iI (4 * (m 163 (((m 158 19)).toNat)))), .ref 158]) rfl ?_
        refine wp_ifI (a := y2) rfl rfl hy2.1 hy2.2 (fun c21 => ?_) (fun c21 => ?_)
        · have dc21 := c21
          have hW := hW.1 dc21
          refine wp_g (n := 2) (pc' := 177) (L' := [some (.ref 158), z1, some (.int (iI y2)), some (.int (iI y3)), z4, some (.int (iI y5)), some (.int (iI y6)), some (.int (iI (m 163 (((m 158 19)).toNat)))), some (.int (iI ((y5 + 2) % 4))), some (.int (iI y2))]) (st' := [.int (iI 3), .int (iI ((y5 + 2) % 4)), .int (iI (4 * (m 163 (((m 158 19)).toNat)))), .ref 158]) rfl ?_
          refine wp_add (a := ((y5 + 2) % 4)) (b := 3) rfl ?_
          refine wp_g (n := 1) (pc' := 179) (L' := [some (.ref 158), z1, some (.int (iI y2)), some (.int (iI y3)), z4, some (.int (iI y5)), some (.int (iI y6)), some (.int (iI (m 163 (((m 158 19)).toNat)))), some (.int (iI ((y5 + 2) % 4))), some (.int (iI y2))]) (st' := [.int (iI 4), .int (iI (((y5 + 2) % 4) + 3)), .int (iI (4 * (m 163 (((m 158 19)).toNat)))), .ref 158]) rfl ?_
          obtain ⟨p22, hW⟩ := hW
          obtain ⟨p23, hW⟩ := hW
          refine wp_rem (a := (((y5 + 2) % 4) + 3)) (b := 4) rfl p23 p22.2 (by decide) (by decide) ?_
          have hr24 : rJ ((((y5 + 2) % 4) + 3) % 4) := by omega
          refine wp_add (a := (4 * (m 163 (((m 158 19)).toNat)))) (b := ((((y5 + 2) % 4) + 3) % 4)) rfl ?_
          obtain ⟨p26, hW⟩ := hW
          refine wp_putI rfl rfl (S.cell 158 (nc rfl)) (Nat.le_of_ble_eq_true rfl) rfl (fun H25 hl25 hz25 hf25 => ?_)
          have S : ST H25 (up m 158 (up (m 158) 17 ((4 * (m 163 (((m 158 19)).toNat))) + ((((y5 + 2) % 4) + 3) % 4)))) γ t := S.setI 158 (nc rfl) hl25 hz25 hf25 p26.1 p26.2
          refine wp_g (n := 2) (pc' := 187) (L' := [some (.ref 158), z1, some (.int (iI y2)), some (.int (iI y3)), z4, some (.int (iI y5)), some (.int (iI y6)), some (.int (iI (m 163 (((m 158 19)).toNat)))), some (.int (iI ((y5 + 2) % 4))), some (.int (iI y2))]) (st' := [.int (iI y2), .ref 158]) rfl ?_
          obtain ⟨p28, hW⟩ := hW
          refine wp_putZ rfl rfl (S.cell 158 (nc rfl)) (Nat.le_of_ble_eq_true rfl) rfl p28 (fun H27 hl27 hz27 hf27 => ?_)
          have S : ST H27 (up (up m 158 (up (m 158) 17 ((4 * (m 163 (((m 158 19)).toNat))) + ((((y5 + 2) % 4) + 3) % 4)))) 158 (up (up (m 158) 17 ((4 * (m 163 (((m 158 19)).toNat))) + ((((y5 + 2) % 4) + 3) % 4))) 18 y2)) γ t := S.setI 158 (nc rfl) hl27 hz27 hf27 hy2.1 hy2.2
          exact wp_vret rfl rfl ⟨_, _, _, rfl, S, hW⟩
        · have dc21 := c21
          have hW := hW.2 dc21
          refine wp_g (n := 2) (pc' := 180) (L' := [some (.ref 158), z1, some (.int (iI y2)), some (.int (iI y3)), z4, some (.int (iI y5)), some (.int (iI y6)), some (.int (iI (m 163 (((m 158 19)).toNat)))), some (.int (iI ((y5 + 2) % 4))), some (.int (iI y2))]) (st' := [.int (iI ((y5 + 2) % 4)), .int (iI (4 * (m 163 (((m 158 19)).toNat)))), .ref 158]) rfl ?_
          refine wp_add (a := (4 * (m 163 (((m 158 19)).toNat)))) (b := ((y5 + 2) % 4)) rfl ?_
          obtain ⟨p30, hW⟩ := hW
          refine wp_putI rfl rfl (S.cell 158 (nc rfl)) (Nat.le_of_ble_eq_true rfl) rfl (fun H29 hl29 hz29 hf29 => ?_)
          have S : ST H29 (up m 158 (up (m 158) 17 ((4 * (m 163 (((m 158 19)).toNat))) + ((y5 + 2) % 4)))) γ t := S.setI 158 (nc rfl) hl29 hz29 hf29 p30.1 p30.2
          refine wp_g (n := 2) (pc' := 187) (L' := [some (.ref 158), z1, some (.int (iI y2)), some (.int (iI y3)), z4, some (.int (iI y5)), some (.int (iI y6)), some (.int (iI (m 163 (((m 158 19)).toNat)))), some (.int (iI ((y5 + 2) % 4))), some (.int (iI y2))]) (st' := [.int (iI y2), .ref 158]) rfl ?_
          obtain ⟨p32, hW⟩ := hW
          refine wp_putZ rfl rfl (S.cell 158 (nc rfl)) (Nat.le_of_ble_eq_true rfl) rfl p32 (fun H31 hl31 hz31 hf31 => ?_)
          have S : ST H31 (up (up m 158 (up (m 158) 17 ((4 * (m 163 (((m 158 19)).toNat))) + ((y5 + 2) % 4)))) 158 (up (up (m 158) 17 ((4 * (m 163 (((m 158 19)).toNat))) + ((y5 + 2) % 4))) 18 y2)) γ t := S.setI 158 (nc rfl) hl31 hz31 hf31 hy2.1 hy2.2
          exact wp_vret rfl rfl ⟨_, _, _, rfl, S, hW⟩
    · have dc5 := (Classical.not_not.mp c5)
      have hW := hW.1 dc5
      refine wp_g (n := 2) (pc' := 110) (L' := [some (.ref 158), z1, some (.int (iI y2)), some (.int (iI y3)), z4, some (.int (iI y5)), some (.int (iI y6)), z7, z8, z9]) (st' := [.ref 158, .ref 158]) rfl ?_
      refine wp_getf (v := .int (iI (m 158 19))) rfl rfl (S.cell 158 (nc rfl)) (by decide) rfl ?_
      refine wp_cv (As := [.int (iI (m 158 19))]) (rest := []) rfl rfl (S.cell 158 (nc rfl)) (by decide) rfl rfl rfl (Nat.le_of_ble_eq_true rfl) (Nat.le_of_ble_eq_true rfl) (hW _ S) (fun r33 H33 q33 => ?_)
      obtain ⟨v33, m33, γ33, t33, rfl, hv33, S, hW⟩ := q33
      show wp _ _ _ _ _ [.int (iI v33)] _ _
      refine wp_g (n := 4) (pc' := 133) (L' := [some (.ref 158), z1, some (.int (iI y2)), some (.int (iI y3)), z4, some (.int (iI y5)), some (.int (iI y6)), some (.int (iI v33)), z8, z9]) (st' := [.int (iI 2), .int (iI y5)]) rfl ?_
      refine wp_add (a := y5) (b := 2) rfl ?_
      refine wp_g (n := 1) (pc' := 135) (L' := [some (.ref 158), z1, some (.int (iI y2)), some (.int (iI y3)), z4, some (.int (iI y5)), some (.int (iI y6)), some (.int (iI v33)), z8, z9]) (st' := [.int (iI 4), .int (iI (y5 + 2))]) rfl ?_
      obtain ⟨p34, hW⟩ := hW
      obtain ⟨p35, hW⟩ := hW
      refine wp_rem (a := (y5 + 2)) (b := 4) rfl p35 p34.2 (by decide) (by decide) ?_
      have hr36 : rJ ((y5 + 2) % 4) := by omega
      refine wp_g (n := 3) (pc' := 141) (L' := [some (.ref 158), z1, some (.int (iI y2)), some (.int (iI y3)), z4, some (.int (iI y5)), some (.int (iI y6)), some (.int (iI v33)), some (.int (iI ((y5 + 2) % 4))), z9]) (st' := [.int (iI 3), .int (iI y6)]) rfl ?_
      refine wp_icmpI (a := y6) (b := 3) rfl rfl hy6.1 hy6.2 (by decide) (by decide) (fun c37 => ?_) (fun c37 => ?_)
      · have dc37 := c37
        have hW := hW.2 dc37
        refine wp_g (n := 1) (pc' := 149) (L' := [some (.ref 158), z1, some (.int (iI y2)), some (.int (iI y3)), z4, some (.int (iI y5)), some (.int (iI y6)), some (.int (iI v33)), some (.int (iI ((y5 + 2) % 4))), z9]) (st' := [.int (iI y2)]) rfl ?_
        refine wp_ifI (a := y2) rfl rfl hy2.1 hy2.2 (fun c38 => ?_) (fun c38 => ?_)
        · have dc38 := c38
          have hW := hW.2 dc38
          refine wp_g (n := 5) (pc' := 163) (L' := [some (.ref 158), z1, some (.int (iI y2)), some (.int (iI y3)), z4, some (.int (iI y5)), some (.int (iI y6)), some (.int (iI v33)), some (.int (iI ((y5 + 2) % 4))), some (.int (iI 0))]) (st' := [.int (iI v33), .int (iI 4), .ref 158]) rfl ?_
          refine wp_mul (a := 4) (b := v33) rfl ?_
          refine wp_g (n := 1) (pc' := 166) (L' := [some (.ref 158), z1, some (.int (iI y2)), some (.int (iI y3)), z4, some (.int (iI y5)), some (.int (iI y6)), some (.int (iI v33)), some (.int (iI ((y5 + 2) % 4))), some (.int (iI 0))]) (st' := [.int (iI 0), .int (iI (4 * v33)), .ref 158]) rfl ?_
          refine wp_g (n := 1) (pc' := 174) (L' := [some (.ref 158), z1, some (.int (iI y2)), some (.int (iI y3)), z4, some (.int (iI y5)), some (.int (iI y6)), some (.int (iI v33)), some (.int (iI ((y5 + 2) % 4))), some (.int (iI 0))]) (st' := [.int (iI (4 * v33)), .ref 158]) rfl ?_
          refine wp_g (n := 2) (pc' := 177) (L' := [some (.ref 158), z1, some (.int (iI y2)), some (.int (iI y3)), z4, some (.int (iI y5)), some (.int (iI y6)), some (.int (iI v33)), some (.int (iI ((y5 + 2) % 4))), some (.int (iI 0))]) (st' := [.int (iI 3), .int (iI ((y5 + 2) % 4)), .int (iI (4 * v33)), .ref 158]) rfl ?_
          refine wp_add (a := ((y5 + 2) % 4)) (b := 3) rfl ?_
          refine wp_g (n := 1) (pc' := 179) (L' := [some (.ref 158), z1, some (.int (iI y2)), some (.int (iI y3)), z4, some (.int (iI y5)), some (.int (iI y6)), some (.int (iI v33)), some (.int (iI ((y5 + 2) % 4))), some (.int (iI 0))]) (st' := [.int (iI 4), .int (iI (((y5 + 2) % 4) + 3)), .int (iI (4 * v33)), .ref 158]) rfl ?_
          obtain ⟨p39, hW⟩ := hW
          obtain ⟨p40, hW⟩ := hW
          refine wp_rem (a := (((y5 + 2) % 4) + 3)) (b := 4) rfl p40 p39.2 (by decide) (by decide) ?_
          have hr41 : rJ ((((y5 + 2) % 4) + 3) % 4) := by omega
          refine wp_add (a := (4 * v33)) (b := ((((y5 + 2) % 4) + 3) % 4)) rfl ?_
          obtain ⟨p43, hW⟩ := hW
          refine wp_putI rfl rfl (S.cell 158 (nc rfl)) (Nat.le_of_ble_eq_true rfl) rfl (fun H42 hl42 hz42 hf42 => ?_)
          have S : ST H42 (up m33 158 (up (m33 158) 17 ((4 * v33) + ((((y5 + 2) % 4) + 3) % 4)))) γ33 t33 := S.setI 158 (nc rfl) hl42 hz42 hf42 p43.1 p43.2
          refine wp_g (n := 2) (pc' := 187) (L' := [some (.ref 158), z1, some (.int (iI y2)), some (.int (iI y3)), z4, some (.int (iI y5)), some (.int (iI y6)), some (.int (iI v33)), some (.int (iI ((y5 + 2) % 4))), some (.int (iI 0))]) (st' := [.int (iI 0), .ref 158]) rfl ?_
          refine wp_putZ rfl rfl (S.cell 158 (nc rfl)) (Nat.le_of_ble_eq_true rfl) rfl (by decide) (fun H44 hl44 hz44 hf44 => ?_)
          have S : ST H44 (up (up m33 158 (up (m33 158) 17 ((4 * v33) + ((((y5 + 2) % 4) + 3) % 4)))) 158 (up (up (m33 158) 17 ((4 * v33) + ((((y5 + 2) % 4) + 3) % 4))) 18 0)) γ33 t33 := S.setI 158 (nc rfl) hl44 hz44 hf44 (by decide) (by decide)
          exact wp_vret rfl rfl ⟨_, _, _, rfl, S, hW⟩
        · have dc38 := (Classical.not_not.mp c38)
          have hW := hW.1 dc38
          refine wp_g (n := 6) (pc' := 163) (L' := [some (.ref 158), z1, some (.int (iI y2)), some (.int (iI y3)), z4, some (.int (iI y5)), some (.int (iI y6)), some (.int (iI v33)), some (.int (iI ((y5 + 2) % 4))), some (.int (iI 1))]) (st' := [.int (iI v33), .int (iI 4), .ref 158]) rfl ?_
          refine wp_mul (a := 4) (b := v33) rfl ?_
          refine wp_g (n := 1) (pc' := 166) (L' := [some (.ref 158), z1, some (.int (iI y2)), some (.int (iI y3)), z4, some (.int (iI y5)), some (.int (iI y6)), some (.int (iI v33)), some (.int (iI ((y5 + 2) % 4))), some (.int (iI 1))]) (st' := [.int (iI 1), .int (iI (4 * v33)), .ref 158]) rfl ?_
          refine wp_g (n := 1) (pc' := 169) (L' := [some (.ref 158), z1, some (.int (iI y2)), some (.int (iI y3)), z4, some (.int (iI y5)), some (.int (iI y6)), some (.int (iI v33)), some (.int (iI ((y5 + 2) % 4))), some (.int (iI 1))]) (st' := [.int (iI (4 * v33)), .ref 158]) rfl ?_
          refine wp_g (n := 2) (pc' := 180) (L' := [some (.ref 158), z1, some (.int (iI y2)), some (.int (iI y3)), z4, some (.int (iI y5)), some (.int (iI y6)), some (.int (iI v33)), some (.int (iI ((y5 + 2) % 4))), some (.int (iI 1))]) (st' := [.int (iI ((y5 + 2) % 4)), .int (iI (4 * v33)), .ref 158]) rfl ?_
          refine wp_add (a := (4 * v33)) (b := ((y5 + 2) % 4)) rfl ?_
          obtain ⟨p46, hW⟩ := hW
          refine wp_putI rfl rfl (S.cell 158 (nc rfl)) (Nat.le_of_ble_eq_true rfl) rfl (fun H45 hl45 hz45 hf45 => ?_)
          have S : ST H45 (up m33 158 (up (m33 158) 17 ((4 * v33) + ((y5 + 2) % 4)))) γ33 t33 := S.setI 158 (nc rfl) hl45 hz45 hf45 p46.1 p46.2
          refine wp_g (n := 2) (pc' := 187) (L' := [some (.ref 158), z1, some (.int (iI y2)), some (.int (iI y3)), z4, some (.int (iI y5)), some (.int (iI y6)), some (.int (iI v33)), some (.int (iI ((y5 + 2) % 4))), some (.int (iI 1))]) (st' := [.int (iI 1), .ref 158]) rfl ?_
          refine wp_putZ rfl rfl (S.cell 158 (nc rfl)) (Nat.le_of_ble_eq_true rfl) rfl (by decide) (fun H47 hl47 hz47 hf47 => ?_)
          have S : ST H47 (up (up m33 158 (up (m33 158) 17 ((4 * v33) + ((y5 + 2) % 4)))) 158 (up (up (m33 158) 17 ((4 * v33) + ((y5 + 2) % 4))) 18 1)) γ33 t33 := S.setI 158 (nc rfl) hl47 hz47 hf47 (by decide) (by decide)
          exact wp_vret rfl rfl ⟨_, _, _, rfl, S, hW⟩
      · have dc37 := (Classical.not_not.mp c37)
        have hW := hW.1 dc37
        refine wp_g (n := 6) (pc' := 163) (L' := [some (.ref 158), z1, some (.int (iI y2)), some (.int (iI y3)), z4, some (.int (iI y5)), some (.int (iI y6)), some (.int (iI v33)), some (.int (iI ((y5 + 2) % 4))), some (.int (iI y2))]) (st' := [.int (iI v33), .int (iI 4), .ref 158]) rfl ?_
        refine wp_mul (a := 4) (b := v33) rfl ?_
        refine wp_g (n := 1) (pc' := 166) (L' := [some (.ref 158), z1, some (.int (iI y2)), some (.int (iI y3)), z4, some (.int (iI y5)), some (.int (iI y6)), some (.int (iI v33)), some (.int (iI ((y5 + 2) % 4))), some (.int (iI y2))]) (st' := [.int (iI y2), .int (iI (4 * v33)), .ref 158]) rfl ?_
        refine wp_ifI (a := y2) rfl rfl hy2.1 hy2.2 (fun c48 => ?_) (fun c48 => ?_)
        · have dc48 := c48
          have hW := hW.1 dc48
          refine wp_g (n := 2) (pc' := 177) (L' := [some (.ref 158), z1, some (.int (iI y2)), some (.int (iI y3)), z4, some (.int (iI y5)), some (.int (iI y6)), some (.int (iI v33)), some (.int (iI ((y5 + 2) % 4))), some (.int (iI y2))]) (st' := [.int (iI 3), .int (iI ((y5 + 2) % 4)), .int (iI (4 * v33)), .ref 158]) rfl ?_
          refine wp_add (a := ((y5 + 2) % 4)) (b := 3) rfl ?_
          refine wp_g (n := 1) (pc' := 179) (L' := [some (.ref 158), z1, some (.int (iI y2)), some (.int (iI y3)), z4, some (.int (iI y5)), some (.int (iI y6)), some (.int (iI v33)), some (.int (iI ((y5 + 2) % 4))), some (.int (iI y2))]) (st' := [.int (iI 4), .int (iI (((y5 + 2) % 4) + 3)), .int (iI (4 * v33)), .ref 158]) rfl ?_
          obtain ⟨p49, hW⟩ := hW
          obtain ⟨p50, hW⟩ := hW
          refine wp_rem (a := (((y5 + 2) % 4) + 3)) (b := 4) rfl p50 p49.2 (by decide) (by decide) ?_
          have hr51 : rJ ((((y5 + 2) % 4) + 3) % 4) := by omega
          refine wp_add (a := (4 * v33)) (b := ((((y5 + 2) % 4) + 3) % 4)) rfl ?_
          obtain ⟨p53, hW⟩ := hW
          refine wp_putI rfl rfl (S.cell 158 (nc rfl)) (Nat.le_of_ble_eq_true rfl) rfl (fun H52 hl52 hz52 hf52 => ?_)
          have S : ST H52 (up m33 158 (up (m33 158) 17 ((4 * v33) + ((((y5 + 2) % 4) + 3) % 4)))) γ33 t33 := S.setI 158 (nc rfl) hl52 hz52 hf52 p53.1 p53.2
          refine wp_g (n := 2) (pc' := 187) (L' := [some (.ref 158), z1, some (.int (iI y2)), some (.int (iI y3)), z4, some (.int (iI y5)), some (.int (iI y6)), some (.int (iI v33)), some (.int (iI ((y5 + 2) % 4))), some (.int (iI y2))]) (st' := [.int (iI y2), .ref 158]) rfl ?_
          obtain ⟨p55, hW⟩ := hW
          refine wp_putZ rfl rfl (S.cell 158 (nc rfl)) (Nat.le_of_ble_eq_true rfl) rfl p55 (fun H54 hl54 hz54 hf54 => ?_)
          have S : ST H54 (up (up m33 158 (up (m33 158) 17 ((4 * v33) + ((((y5 + 2) % 4) + 3) % 4)))) 158 (up (up (m33 158) 17 ((4 * v33) + ((((y5 + 2) % 4) + 3) % 4))) 18 y2)) γ33 t33 := S.setI 158 (nc rfl) hl54 hz54 hf54 hy2.1 hy2.2
          exact wp_vret rfl rfl ⟨_, _, _, rfl, S, hW⟩
        · have dc48 := c48
          have hW := hW.2 dc48
          refine wp_g (n := 2) (pc' := 180) (L' := [some (.ref 158), z1, some (.int (iI y2)), some (.int (iI y3)), z4, some (.int (iI y5)), some (.int (iI y6)), some (.int (iI v33)), some (.int (iI ((y5 + 2) % 4))), some (.int (iI y2))]) (st' := [.int (iI ((y5 + 2) % 4)), .int (iI (4 * v33)), .ref 158]) rfl ?_
          refine wp_add (a := (4 * v33)) (b := ((y5 + 2) % 4)) rfl ?_
          obtain ⟨p57, hW⟩ := hW
          refine wp_putI rfl rfl (S.cell 158 (nc rfl)) (Nat.le_of_ble_eq_true rfl) rfl (fun H56 hl56 hz56 hf56 => ?_)
          have S : ST H56 (up m33 158 (up (m33 158) 17 ((4 * v33) + ((y5 + 2) % 4)))) γ33 t33 := S.setI 158 (nc rfl) hl56 hz56 hf56 p57.1 p57.2
          refine wp_g (n := 2) (pc' := 187) (L' := [some (.ref 158), z1, some (.int (iI y2)), some (.int (iI y3)), z4, some (.int (iI y5)), some (.int (iI y6)), some (.int (iI v33)), some (.int (iI ((y5 + 2) % 4))), some (.int (iI y2))]) (st' := [.int (iI y2), .ref 158]) rfl ?_
          obtain ⟨p59, hW⟩ := hW
          refine wp_putZ rfl rfl (S.cell 158 (nc rfl)) (Nat.le_of_ble_eq_true rfl) rfl p59 (fun H58 hl58 hz58 hf58 => ?_)
          have S : ST H58 (up (up m33 158 (up (m33 158) 17 ((4 * v33) + ((y5 + 2) % 4)))) 158 (up (up (m33 158) 17 ((4 * v33) + ((y5 + 2) % 4))) 18 y2)) γ33 t33 := S.setI 158 (nc rfl) hl58 hz58 hf58 hy2.1 hy2.2
          exact wp_vret rfl rfl ⟨_, _, _, rfl, S, hW⟩
  · have dc1 := (Classical.not_not.mp c1)
    have hW := hW.1 dc1
    refine wp_g (n := 3) (pc' := 69) (L' := [some (.ref 158), z1, some (.int (iI y2)), some (.int (iI y3)), z4, some (.int (iI y5)), some (.int (iI y6)), z7, z8, z9]) (st' := [.int (iI y3), .int (iI 4), .ref 158]) rfl ?_
    refine wp_mul (a := 4) (b := y3) rfl ?_
    refine wp_g (n := 1) (pc' := 71) (L' := [some (.ref 158), z1, some (.int (iI y2)), some (.int (iI y3)), z4, some (.int (iI y5)), some (.int (iI y6)), z7, z8, z9]) (st' := [.int (iI y2), .int (iI (4 * y3)), .ref 158]) rfl ?_
    refine wp_ifI (a := y2) rfl rfl hy2.1 hy2.2 (fun c60 => ?_) (fun c60 => ?_)
    · have dc60 := c60
      have hW := hW.1 dc60
      refine wp_g (n := 2) (pc' := 82) (L' := [some (.ref 158), z1, some (.int (iI y2)), some (.int (iI y3)), z4, some (.int (iI y5)), some (.int (iI y6)), z7, z8, z9]) (st' := [.int (iI 3), .int (iI y5), .int (iI (4 * y3)), .ref 158]) rfl ?_
      refine wp_add (a := y5) (b := 3) rfl ?_
      refine wp_g (n := 1) (pc' := 84) (L' := [some (.ref 158), z1, some (.int (iI y2)), some (.int (iI y3)), z4, some (.int (iI y5)), some (.int (iI y6)), z7, z8, z9]) (st' := [.int (iI 4), .int (iI (y5 + 3)), .int (iI (4 * y3)), .ref 158]) rfl ?_
      obtain ⟨p61, hW⟩ := hW
      obtain ⟨p62, hW⟩ := hW
      refine wp_rem (a := (y5 + 3)) (b := 4) rfl p62 p61.2 (by decide) (by decide) ?_
      have hr63 : rJ ((y5 + 3) % 4) := by omega
      refine wp_add (a := (4 * y3)) (b := ((y5 + 3) % 4)) rfl ?_
      obtain ⟨p65, hW⟩ := hW
      refine wp_putI rfl rfl (S.cell 158 (nc rfl)) (Nat.le_of_ble_eq_true rfl) rfl (fun H64 hl64 hz64 hf64 => ?_)
      have S : ST H64 (up m 158 (up (m 158) 17 ((4 * y3) + ((y5 + 3) % 4)))) γ t := S.setI 158 (nc rfl) hl64 hz64 hf64 p65.1 p65.2
      refine wp_g (n := 2) (pc' := 91) (L' := [some (.ref 158), z1, some (.int (iI y2)), some (.int (iI y3)), z4, some (.int (iI y5)), some (.int (iI y6)), z7, z8, z9]) (st' := [.int (iI y2), .ref 158]) rfl ?_
      obtain ⟨p67, hW⟩ := hW
      refine wp_putZ rfl rfl (S.cell 158 (nc rfl)) (Nat.le_of_ble_eq_true rfl) rfl p67 (fun H66 hl66 hz66 hf66 => ?_)
      have S : ST H66 (up (up m 158 (up (m 158) 17 ((4 * y3) + ((y5 + 3) % 4)))) 158 (up (up (m 158) 17 ((4 * y3) + ((y5 + 3) % 4))) 18 y2)) γ t := S.setI 158 (nc rfl) hl66 hz66 hf66 hy2.1 hy2.2
      exact wp_vret rfl rfl ⟨_, _, _, rfl, S, hW⟩
    · have dc60 := c60
      have hW := hW.2 dc60
      refine wp_g (n := 2) (pc' := 85) (L' := [some (.ref 158), z1, some (.int (iI y2)), some (.int (iI y3)), z4, some (.int (iI y5)), some (.int (iI y6)), z7, z8, z9]) (st' := [.int (iI y5), .int (iI (4 * y3)), .ref 158]) rfl ?_
      refine wp_add (a := (4 * y3)) (b := y5) rfl ?_
      obtain ⟨p69, hW⟩ := hW
      refine wp_putI rfl rfl (S.cell 158 (nc rfl)) (Nat.le_of_ble_eq_true rfl) rfl (fun H68 hl68 hz68 hf68 => ?_)
      have S : ST H68 (up m 158 (up (m 158) 17 ((4 * y3) + y5))) γ t := S.setI 158 (nc rfl) hl68 hz68 hf68 p69.1 p69.2
      refine wp_g (n := 2) (pc' := 91) (L' := [some (.ref 158), z1, some (.int (iI y2)), some (.int (iI y3)), z4, some (.int (iI y5)), some (.int (iI y6)), z7, z8, z9]) (st' := [.int (iI y2), .ref 158]) rfl ?_
      obtain ⟨p71, hW⟩ := hW
      refine wp_putZ rfl rfl (S.cell 158 (nc rfl)) (Nat.le_of_ble_eq_true rfl) rfl p71 (fun H70 hl70 hz70 hf70 => ?_)
      have S : ST H70 (up (up m 158 (up (m 158) 17 ((4 * y3) + y5))) 158 (up (up (m 158) 17 ((4 * y3) + y5)) 18 y2)) γ t := S.setI 158 (nc rfl) hl70 hz70 hf70 hy2.1 hy2.2
      exact wp_vret rfl rfl ⟨_, _, _, rfl, S, hW⟩
