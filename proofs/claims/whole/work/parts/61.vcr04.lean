abbrev W_X9_paint (E : am_E) (k : Nat) (x1 : Int) (x2 : Int) (x3 : Int) (m : MM) (γ : GM) (t : am_H) (Q : Int → MM → GM → am_H → Prop) : Prop := (TI E k 218 [.ref 158, .int (iI x1), .int (iI x2), .int (iI x3)] m γ t (fun v1 m1 γ1 t1 => (((v1 = 0) → (Q (-2) m1 γ1 t1)) ∧ (¬ (v1 = 0) → ((0 ≤ ((4 * x2) + x3) ∧ ((4 * x2) + x3) < 64) ∧ (0 ≤ (m1 167 ((((4 * x2) + x3)).toNat)) ∧ (Q ((m1 167 ((((4 * x2) + x3)).toNat)) % 2) m1 γ1 t1)))))))
theorem vc_X9_paint {E : am_E} {k : Nat} {x1 : Int} {x2 : Int} {x3 : Int} {m : MM} {γ : GM} {t : am_H} {Q : Int → MM → GM → am_H → Prop} (hx1 : rJ x1) (hx2 : rJ x2) (hx3 : rJ x3) (hW : W_X9_paint E k x1 x2 x3 m γ t Q) : TI E (k + 1) 262 [.ref 158, .int (iI x1), .int (iI x2), .int (iI x3)] m γ t Q := by
  unfold W_X9_paint at hW
  intro h S
  refine wp_g (n := 4) (pc' := 4) (L' := [some (.ref 158), some (.int (iI x1)), some (.int (iI x2)), some (.int (iI x3))]) (st' := [.int (iI x3), .int (iI x2), .int (iI x1), .ref 158]) rfl ?_
  refine wp_cv (As := [.int (iI x1), .int (iI x2), .int (iI x3)]) (rest := []) rfl rfl (S.cell 158 (nc rfl)) (by decide) rfl rfl rfl (Nat.le_of_ble_eq_true rfl) (Nat.le_of_ble_eq_true rfl) (hW _ S) (fun r1 H1 q1 => ?_)
  obtain ⟨v1, m1, γ1, t1, rfl, hv1, S, hW⟩ := q1
  show wp _ _ _ _ _ [.int (iI v1)] _ _
  refine wp_ifI (a := v1) rfl rfl hv1.1 hv1.2 (fun c2 => ?_) (fun c2 => ?_)
  · have dc2 := c2
    have hW := hW.1 dc2
    refine wp_g (n := 1) (pc' := 27) (L' := [some (.ref 158), some (.int (iI x1)), some (.int (iI x2)), some (.int (iI x3))]) (st' := [.int (iI (-2))]) rfl ?_
    exact wp_iret rfl rfl ⟨_, _, _, _, rfl, (by decide), S, hW⟩
  · have dc2 := c2
    have hW := hW.2 dc2
    refine wp_g (n := 1) (pc' := 11) (L' := [some (.ref 158), some (.int (iI x1)), some (.int (iI x2)), some (.int (iI x3))]) (st' := [.ref 158]) rfl ?_
    refine wp_getf (v := .ref 167) rfl rfl (S.cell 158 (nc rfl)) (by decide) rfl ?_
    refine wp_g (n := 2) (pc' := 16) (L' := [some (.ref 158), some (.int (iI x1)), some (.int (iI x2)), some (.int (iI x3))]) (st' := [.int (iI x2), .int (iI 4), .ref 167]) rfl ?_
    refine wp_mul (a := 4) (b := x2) rfl ?_
    refine wp_g (n := 1) (pc' := 18) (L' := [some (.ref 158), some (.int (iI x1)), some (.int (iI x2)), some (.int (iI x3))]) (st' := [.int (iI x3), .int (iI (4 * x2)), .ref 167]) rfl ?_
    refine wp_add (a := (4 * x2)) (b := x3) rfl ?_
    obtain ⟨p3, hW⟩ := hW
    refine wp_iald (n := 64) (F := (m1 167)) rfl (S.cell 167 (nc rfl)) (by decide) p3.1 p3.2 (by decide) ?_
    show wp _ _ _ _ _ [.int (iI (m1 167 ((((4 * x2) + x3)).toNat)))] _ _
    have hr4 : rJ (m1 167 ((((4 * x2) + x3)).toNat)) := S.rg 167 ((((4 * x2) + x3)).toNat) (nl rfl)
    refine wp_g (n := 1) (pc' := 21) (L' := [some (.ref 158), some (.int (iI x1)), some (.int (iI x2)), some (.int (iI x3))]) (st' := [.int (iI 2), .int (iI (m1 167 ((((4 * x2) + x3)).toNat)))]) rfl ?_
    obtain ⟨p5, hW⟩ := hW
    refine wp_rem (a := (m1 167 ((((4 * x2) + x3)).toNat))) (b := 2) rfl p5 hr4.2 (by decide) (by decide) ?_
    have hr6 : rJ ((m1 167 ((((4 * x2) + x3)).toNat)) % 2) := by omega
    refine wp_g (n := 1) (pc' := 27) (L' := [some (.ref 158), some (.int (iI x1)), some (.int (iI x2)), some (.int (iI x3))]) (st' := [.int (iI ((m1 167 ((((4 * x2) + x3)).toNat)) % 2))]) rfl ?_
    exact wp_iret rfl rfl ⟨_, _, _, _, rfl, hr6, S, hW⟩
def hd_X9_painted_55 (E : am_E) (k : Nat) (x1 : Int) (x2 : Int) (x3 : Int) (y2 : Int) (y3 : Int) (y4 : Int) (y5 : Int) (m : MM) (γ : GM) (t : am_H) (Q : Int → MM → GM → am_H → Prop) : Prop := ∀ (z1 z6 : Option Value), TT (pI Q) E (k + 1) 263 55 [some (.ref 158), z1, some (.int (iI y2)), some (.int (iI y3)), some (.int (iI y4)), some (.int (iI y5)), z6] [] m γ t
abbrev W_X9_painted (E : am_E) (k : Nat) (x1 : Int) (x2 : Int) (x3 : Int) (m : MM) (γ : GM) (t : am_H) (Q : Int → MM → GM → am_H → Prop) : Prop := (TI E k 216 [.ref 158, .int (iI x1)] m γ t (fun v1 m1 γ1 t1 => (((v1 = 0) → (Q (-2) m1 γ1 t1)) ∧ (¬ (v1 = 0) → (TI E k 192 [.long (lI x2), .long (lI 0), .long (lI 1)] m1 γ1 t1 (fun v3 m3 γ3 t3 => (((v3 = 0) → (Q (-2) m3 γ3 t3)) ∧ (¬ (v3 = 0) → (((x2 = 1) → (rJ ((m3 158 5) - 1) ∧ (TI E k 192 [.long (lI x3), .long (lI 0), .long (lI ((m3 158 5) - 1))] m3 γ3 t3 (fun v12 m12 γ12 t12 => (((v12 = 0) → (Q (-2) m12 γ12 t12)) ∧ (¬ (v12 = 0) → (hd_X9_painted_55 E k x1 x2 x3 x2 x3 0 0 m12 γ12 t12 Q))))))) ∧ (¬ (x2 = 1) → (rJ ((m3 158 4) - 1) ∧ (TI E k 192 [.long (lI x3), .long (lI 0), .long (lI ((m3 158 4) - 1))] m3 γ3 t3 (fun v8 m8 γ8 t8 => (((v8 = 0) → (Q (-2) m8 γ8 t8)) ∧ (¬ (v8 = 0) → (hd_X9_painted_55 E k x1 x2 x3 x2 x3 0 0 m8 γ8 t8 Q))))))))))))))))
abbrev W_X9_painted_55 (E : am_E) (k : Nat) (x1 : Int) (x2 : Int) (x3 : Int) (y2 : Int) (y3 : Int) (y4 : Int) (y5 : Int) (m : MM) (γ : GM) (t : am_H) (Q : Int → MM → GM → am_H → Prop) : Prop := (TI E k 203 [.ref 158] m γ t (fun v1 m1 γ1 t1 => (rJ (4 * v1) ∧ (((y5 < (4 * v1)) → (((y2 = 1) → (0 ≤ y5 ∧ (0 ≤ (y5 / 4) ∧ (0 < (m1 158 5) ∧ (rJ ((y5 / 4) % (m1 158 5)) ∧ (((((y5 / 4) % (m1 158 5)) = y3) → ((0 ≤ y5 ∧ y5 < 64) ∧ (0 ≤ (m1 167 ((y5).toNat)) ∧ (hd_X9_painted_55 E k x1 x2 x3 y2 y3 (y4 + ((m1 167 ((y5).toNat)) % 2)) (y5 + 1) m1 γ1 t1 Q)))) ∧ (¬ (((y5 / 4) % (m1 158 5)) = y3) → (hd_X9_painted_55 E k x1 x2 x3 y2 y3 (y4 + 0) (y5 + 1) m1 γ1 t1 Q)))))))) ∧ (¬ (y2 = 1) → (0 ≤ y5 ∧ (0 ≤ (y5 / 4) ∧ (0 < (m1 158 5) ∧ (rJ ((y5 / 4) / (m1 158 5)) ∧ (((((y5 / 4) / (m1 158 5)) = y3) → ((0 ≤ y5 ∧ y5 < 64) ∧ (0 ≤ (m1 167 ((y5).toNat)) ∧ (hd_X9_painted_55 E k x1 x2 x3 y2 y3 (y4 + ((m1 167 ((y5).toNat)) % 2)) (y5 + 1) m1 γ1 t1 Q)))) ∧ (¬ (((y5 / 4) / (m1 158 5)) = y3) → (hd_X9_painted_55 E k x1 x2 x3 y2 y3 (y4 + 0) (y5 + 1) m1 γ1 t1 Q)))))))))) ∧ (¬ (y5 < (4 * v1)) → (Q y4 m1 γ1 t1))))))
theorem vc_X9_painted {E : am_E} {k : Nat} {x1 : Int} {x2 : Int} {x3 : Int} {m : MM} {γ : GM} {t : am_H} {Q : Int → MM → GM → am_H → Prop} (hx1 : rJ x1) (hx2 : rJ x2) (hx3 : rJ x3) (hW : W_X9_painted E k x1 x2 x3 m γ t Q) : TI E (k + 1) 263 [.ref 158, .int (iI x1), .int (iI x2), .int (iI x3)] m γ t Q := by
  unfold W_X9_painted at hW
  intro h S
  refine wp_g (n := 2) (pc' := 2) (L' := [some (.ref 158), some (.int (iI x1)), some (.int (iI x2)), some (.int (iI x3)), none, none, none]) (st' := [.int (iI x1), .ref 158]) rfl ?_
  refine wp_cv (As := [.int (iI x1)]) (rest := []) rfl rfl (S.cell 158 (nc rfl)) (by decide) rfl rfl rfl (Nat.le_of_ble_eq_true rfl) (Nat.le_of_ble_eq_true rfl) (hW _ S) (fun r1 H1 q1 => ?_)
  obtain ⟨v1, m1, γ1, t1, rfl, hv1, S, hW⟩ := q1
  show wp _ _ _ _ _ [.int (iI v1)] _ _
  refine wp_ifI (a := v1) rfl rfl hv1.1 hv1.2 (fun c2 => ?_) (fun c2 => ?_)
  · have dc2 := c2
    have hW := hW.1 dc2
    refine wp_g (n := 1) (pc' := 48) (L' := [some (.ref 158), some (.int (iI x1)), some (.int (iI x2)), some (.int (iI x3)), none, none, none]) (st' := [.int (iI (-2))]) rfl ?_
    exact wp_iret rfl rfl ⟨_, _, _, _, rfl, (by decide), S, hW⟩
  · have dc2 := c2
    have hW := hW.2 dc2
    refine wp_g (n := 1) (pc' := 9) (L' := [some (.ref 158), some (.int (iI x1)), some (.int (iI x2)), some (.int (iI x3)), none, none, none]) (st' := [.int (iI x2)]) rfl ?_
    refine wp_i2l (a := x2) rfl hx2 ?_
    refine wp_g (n := 2) (pc' := 12) (L' := [some (.ref 158), some (.int (iI x1)), some (.int (iI x2)), some (.int (iI x3)), none, none, none]) (st' := [.long (lI 1), .long (lI 0), .long (lI x2)]) rfl ?_
    refine wp_cs (As := [.long (lI x2), .long (lI 0), .long (lI 1)]) (rest := []) rfl rfl rfl rfl (Nat.le_of_ble_eq_true rfl) (Nat.le_of_ble_eq_true rfl) (hW _ S) (fun r3 H3 q3 => ?_)
    obtain ⟨v3, m3, γ3, t3, rfl, hv3, S, hW⟩ := q3
    show wp _ _ _ _ _ [.int (iI v3)] _ _
    refine wp_ifI (a := v3) rfl rfl hv3.1 hv3.2 (fun c4 => ?_) (fun c4 => ?_)
    · have dc4 := c4
      have hW := hW.1 dc4
      refine wp_g (n := 1) (pc' := 48) (L' := [some (.ref 158), some (.int (iI x1)), some (.int (iI x2)), some (.int (iI x3)), none, none, none]) (st' := [.int (iI (-2))]) rfl ?_
      exact wp_iret rfl rfl ⟨_, _, _, _, rfl, (by decide), S, hW⟩
    · have dc4 := c4
      have hW := hW.2 dc4
      refine wp_g (n := 1) (pc' := 19) (L' := [some (.ref 158), some (.int (iI x1)), some (.int (iI x2)), some (.int (iI x3)), none, none, none]) (st' := [.int (iI x3)]) rfl ?_
      refine wp_i2l (a := x3) rfl hx3 ?_
      refine wp_g (n := 3) (pc' := 23) (L' := [some (.ref 158), some (.int (iI x1)), some (.int (iI x2)), some (.int (iI x3)), none, none, none]) (st' := [.int (iI 1), .int (iI x2), .long (lI 0), .long (lI x3)]) rfl ?_
      refine wp_icmpI (a := x2) (b := 1) rfl rfl hx2.1 hx2.2 (by decide) (by decide) (fun c5 => ?_) (fun c5 => ?_)
      · have dc5 := c5
        have hW := hW.2 dc5
        refine wp_g (n := 1) (pc' := 34) (L' := [some (.ref 158), some (.int (iI x1)), some (.int (iI x2)), some (.int (iI x3)), none, none, none]) (st' := [.ref 158, .long (lI 0), .long (lI x3)]) rfl ?_
        refine wp_getf (v := .int (iI (m3 158 4))) rfl rfl (S.cell 158 (nc rfl)) (by decide) rfl ?_
        have hr6 : rJ (m3 158 4) := S.rg 158 4 (nl rfl)
        refine wp_g (n := 1) (pc' := 38) (L' := [some (.ref 158), some (.int (iI x1)), some (.int (iI x2)), some (.int (iI x3)), none, none, none]) (st' := [.int (iI 1), .int (iI (m3 158 4)), .long (lI 0), .long (lI x3)]) rfl ?_
        refine wp_sub (a := (m3 158 4)) (b := 1) rfl ?_
        obtain ⟨p7, hW⟩ := hW
        refine wp_i2l (a := ((m3 158 4) - 1)) rfl p7 ?_
        refine wp_cs (As := [.long (lI x3), .long (lI 0), .long (lI ((m3 158 4) - 1))]) (rest := []) rfl rfl rfl rfl (Nat.le_of_ble_eq_true rfl) (Nat.le_of_ble_eq_true rfl) (hW _ S) (fun r8 H8 q8 => ?_)
        obtain ⟨v8, m8, γ8, t8, rfl, hv8, S, hW⟩ := q8
        show wp _ _ _ _ _ [.int (iI v8)] _ _
        refine wp_ifI (a := v8) rfl rfl hv8.1 hv8.2 (fun c9 => ?_) (fun c9 => ?_)
        · have dc9 := c9
          have hW := hW.2 dc9
          refine wp_g (n := 4) (pc' := 55) (L' := [some (.ref 158), some (.int (iI x1)), some (.int (iI x2)), some (.int (iI x3)), some (.int (iI 0)), some (.int (iI 0)), none]) (st' := []) rfl ?_
          exact hW (some (.int (iI x1))) none _ S
        · have dc9 := (Classical.not_not.mp c9)
          have hW := hW.1 dc9
          refine wp_g (n := 1) (pc' := 48) (L' := [some (.ref 158), some (.int (iI x1)), some (.int (iI x2)), some (.int (iI x3)), none, none, none]) (st' := [.int (iI (-2))]) rfl ?_
          exact wp_iret rfl rfl ⟨_, _, _, _, rfl, (by decide), S, hW⟩
      · have dc5 := (Classical.not_not.mp c5)
        have hW := hW.1 dc5
        refine wp_g (n := 1) (pc' := 27) (L' := [some (.ref 158), some (.int (iI x1)), some (.int (iI x2)), some (.int (iI x3)), none, none, none]) (st' := [.ref 158, .long (lI 0), .long (lI x3)]) rfl ?_
        refine wp_getf (v := .int (iI (m3 158 5))) rfl rfl (S.cell 158 (nc rfl)) (by decide) rfl ?_
        have hr10 : rJ (m3 158 5) := S.rg 158 5 (nl rfl)
        refine wp_g (n := 2) (pc' := 38) (L' := [some (.ref 158), some (.int (iI x1)), some (.int (iI x2)), some (.int (iI x3)), none, none, none]) (st' := [.int (iI 1), .int (iI (m3 158 5)), .long (lI 0), .long (lI x3)]) rfl ?_
        refine wp_sub (a := (m3 158 5)) (b := 1) rfl ?_
        obtain ⟨p11, hW⟩ := hW
        refine wp_i2l (a := ((m3 158 5) - 1)) rfl p11 ?_
        refine wp_cs (As := [.long (lI x3), .long (lI 0), .long (lI ((m3 158 5) - 1))]) (rest := []) rfl rfl rfl rfl (Nat.le_of_ble_eq_true rfl) (Nat.le_of_ble_eq_true rfl) (hW _ S) (fun r12 H12 q12 => ?_)
        obtain ⟨v12, m12, γ12, t12, rfl, hv12, S, hW⟩ := q12
        show wp _ _ _ _ _ [.int (iI v12)] _ _
        refine wp_ifI (a := v12) rfl rfl hv12.1 hv12.2 (fun c13 => ?_) (fun c13 => ?_)
        · have dc13 := c13
          have hW := hW.2 dc13
          refine wp_g (n := 4) (pc' := 55) (L' := [some (.ref 158), some (.int (iI x1)), some (.int (iI x2)), some (.int (iI x3)), some (.int (iI 0)), some (.int (iI 0)), none]) (st' := []) rfl ?_
          exact hW (some (.int (iI x1))) none _ S
        · have dc13 := (Classical.not_not.mp c13)
          have hW := hW.1 dc13
          refine wp_g (n := 1) (pc' := 48) (L' := [some (.ref 158), some (.int (iI x1)), some (.int (iI x2)), some (.int (iI x3)), none, none, none]) (st' := [.int (iI (-2))]) rfl ?_
          exact wp_iret rfl rfl ⟨_, _, _, _, rfl, (by decide), S, hW⟩
theorem vc_X9_painted_55 {E : am_E} {k : Nat} {x1 : Int} {x2 : Int} {x3 : Int} {y2 : Int} {y3 : Int} {y4 : Int} {y5 : Int} {m : MM} {γ : GM} {t : am_H} {Q : Int → MM → GM → am_H → Prop} (hx1 : rJ x1) (hx2 : rJ x2) (hx3 : rJ x3) (hy2 : rJ y2) (hy3 : rJ y3) (hy4 : rJ y4) (hy5 : rJ y5) (hW : W_X9_painted_55 E k x1 x2 x3 y2 y3 y4 y5 m γ t Q) : hd_X9_painted_55 E k x1 x2 x3 y2 y3 y4 y5 m γ t Q := by
  unfold W_X9_painted_55 at hW
  intro z1 z6 h S
  refine wp_g (n := 3) (pc' := 59) (L' := [some (.ref 158), z1, some (.int (iI y2)), some (.int (iI y3)), some (.int (iI y4)), some (.int (iI y5)), z6]) (st' := [.ref 158, .int (iI 4), .int (iI y5)]) rfl ?_
  refine wp_cv (As := []) (rest := [.int (iI 4), .int (iI y5)]) rfl rfl (S.cell 158 (nc rfl)) (by decide) rfl rfl rfl (Nat.le_of_ble_eq_true rfl) (Nat.le_of_ble_eq_true rfl) (hW _ S) (fun r1 H1 q1 => ?_)
  obtain ⟨v1, m1, γ1, t1, rfl, hv1, S, hW⟩ := q1
  show wp _ _ _ _ _ [.int (iI v1), .int (iI 4), .int (iI y5)] _ _
  refine wp_mul (a := 4) (b := v1) rfl ?_
  obtain ⟨p2, hW⟩ := hW
  refine wp_icmpI (a := y5) (b := (4 * v1)) rfl rfl hy5.1 hy5.2 p2.1 p2.2 (fun c3 => ?_) (fun c3 => ?_)
  · have dc3 := (Int.not_lt.mpr c3)
    have hW := hW.2 dc3
    refine wp_g (n := 1) (pc' := 126) (L' := [some (.ref 158), z1, some (.int (iI y2)), some (.int (iI y3)), some (.int (iI y4)), some (.int (iI y5)), z6]) (st' := [.int (iI y4)]) rfl ?_
    exact wp_iret rfl rfl ⟨_, _, _, _, rfl, hy4, S, hW⟩
  · have dc3 := (Int.not_le.mp c3)
    have hW := hW.1 dc3
    refine wp_g (n := 2) (pc' := 68) (L' := [some (.ref 158), z1, some (.int (iI y2)), some (.int (iI y3)), some (.int (iI y4)), some (.int (iI y5)), z6]) (st' := [.int (iI 1), .int (iI y2)]) rfl ?_
    refine wp_icmpI (a := y2) (b := 1) rfl rfl hy2.1 hy2.2 (by decide) (by decide) (fun c4 => ?_) (fun c4 => ?_)
    · have dc4 := c4
      have hW := hW.2 dc4
      refine wp_g (n := 2) (pc' := 86) (L' := [some (.ref 158), z1, some (.int (iI y2)), some (.int (iI y3)), some (.int (iI y4)), some (.int (iI y5)), z6]) (st' := [.int (iI 4), .int (iI y5)]) rfl ?_
      obtain ⟨p5, hW⟩ := hW
      refine wp_div (a := y5) (b := 4) rfl p5 hy5.2 (by decide) (by decide) ?_
      have hr6 : rJ (y5 / 4) := by have := hy5; omega
      refine wp_g (n := 1) (pc' := 88) (L' := [some (.ref 158), z1, some (.int (iI y2)), some (.int (iI y3)), some (.int (iI y4)), some (.int (iI y5)), z6]) (st' := [.ref 158, .int (iI (y5 / 4))]) rfl ?_
      refine wp_getf (v := .int (iI (m1 158 5))) rfl rfl (S.cell 158 (nc rfl)) (by decide) rfl ?_
      have hr7 : rJ (m1 158 5) := S.rg 158 5 (nl rfl)
      obtain ⟨p8, hW⟩ := hW
      obtain ⟨p9, hW⟩ := hW
      refine wp_div (a := (y5 / 4)) (b := (m1 158 5)) rfl p8 hr6.2 p9 hr7.2 ?_
      refine wp_g (n := 4) (pc' := 99) (L' := [some (.ref 158), z1, some (.int (iI y2)), some (.int (iI y3)), some (.int (iI y4)), some (.int (iI y5)), some (.int (iI ((y5 / 4) / (m1 158 5))))]) (st' := [.int (iI y3), .int (iI ((y5 / 4) / (m1 158 5))), .int (iI y4)]) rfl ?_
      obtain ⟨p10, hW⟩ := hW
      refine wp_icmpI (a := ((y5 / 4) / (m1 158 5))) (b := y3) rfl rfl p10.1 p10.2 hy3.1 hy3.2 (fun c11 => ?_) (fun c11 => ?_)
      · have dc11 := c11
        have hW := hW.2 dc11
        refine wp_g (n := 1) (pc' := 115) (L' := [some (.ref 158), z1, some (.int (iI y2)), some (.int (iI y3)), some (.int (iI y4)), some (.int (iI y5)), some (.int (iI ((y5 / 4) / (m1 158 5))))]) (st' := [.int (iI 0), .int (iI y4)]) rfl ?_
        refine wp_add (a := y4) (b := 0) rfl ?_
        refine wp_g (n := 1) (pc' := 118) (L' := [some (.ref 158), z1, some (.int (iI y2)), some (.int (iI y3)), some (.int (iI (y4 + 0))), some (.int (iI y5)), some (.int (iI ((y5 / 4) / (m1 158 5))))]) (st' := []) rfl ?_
        refine wp_iinc (L' := [some (.ref 158), z1, some (.int (iI y2)), some (.int (iI y3)), some (.int (iI (y4 + 0))), some (.int (iI (y5 + 1))), some (.int (iI ((y5 / 4) / (m1 158 5))))]) (a := y5) rfl rfl rfl ?_
        refine wp_g (n := 1) (pc' := 55) (L' := [some (.ref 158), z1, some (.int (iI y2)), some (.int (iI y3)), some (.int (iI (y4 + 0))), some (.int (iI (y5 + 1))), some (.int (iI ((y5 / 4) / (m1 158 5))))]) (st' := []) rfl ?_
        exact hW z1 (some (.int (iI ((y5 / 4) / (m1 158 5))))) _ S
      · have dc11 := (Classical.not_not.mp c11)
        have hW := hW.1 dc11
        refine wp_g (n := 1) (pc' := 103) (L' := [some (.ref 158), z1, some (.int (iI y2)), some (.int (iI y3)), some (.int (iI y4)), some (.int (iI y5)), some (.int (iI ((y5 / 4) / (m1 158 5))))]) (st' := [.ref 158, .int (iI y4)]) rfl ?_
        refine wp_getf (v := .ref 167) rfl rfl (S.cell 158 (nc rfl)) (by decide) rfl ?_
        refine wp_g (n := 1) (pc' := 108) (L' := [some (.ref 158), z1, some (.int (iI y2)), some (.int (iI y3)), some (.int (iI y4)), some (.int (iI y5)), some (.int (iI ((y5 / 4) / (m1 158 5))))]) (st' := [.int (iI y5), .ref 167, .int (iI y4)]) rfl ?_
        obtain ⟨p12, hW⟩ := hW
        refine wp_iald (n := 64) (F := (m1 167)) rfl (S.cell 167 (nc rfl)) (by decide) p12.1 p12.2 (by decide) ?_
        show wp _ _ _ _ _ [.int (iI (m1 167 ((y5).toNat))), .int (iI y4)] _ _
        have hr13 : rJ (m1 167 ((y5).toNat)) := S.rg 167 ((y5).toNat) (nl rfl)
        refine wp_g (n := 1) (pc' := 110) (L' := [some (.ref 158), z1, some (.int (iI y2)), some (.int (iI y3)), some (.int (iI y4)), some (.int (iI y5)), some (.int (iI ((y5 / 4) / (m1 158 5))))]) (st' := [.int (iI 2), .int (iI (m1 167 ((y5).toNat))), .int (iI y4)]) rfl ?_
        obtain ⟨p14, hW⟩ := hW
        refine wp_rem (a := (m1 167 ((y5).toNat))) (b := 2) rfl p14 hr13.2 (by decide) (by decide) ?_
        have hr15 : rJ ((m1 167 ((y5).toNat)) % 2) := by omega
        refine wp_g (n := 1) (pc' := 115) (L' := [some (.ref 158), z1, some (.int (iI y2)), some (.int (iI y3)), some (.int (iI y4)), some (.int (iI y5)), some (.int (iI ((y5 / 4) / (m1 158 5))))]) (st' := [.int (iI ((m1 167 ((y5).toNat)) % 2)), .int (iI y4)]) rfl ?_
        refine wp_add (a := y4) (b := ((m1 167 ((y5).toNat)) % 2)) rfl ?_
        refine wp_g (n := 1) (pc' := 118) (L' := [some (.ref 158), z1, some (.int (iI y2)), some (.int (iI y3)), some (.int (iI (y4 + ((m1 167 ((y5).toNat)) % 2)))), some (.int (iI y5)), some (.int (iI ((y5 / 4) / (m1 158 5))))]) (st' := []) rfl ?_
        refine wp_iinc (L' := [some (.ref 158), z1, some (.int (iI y2)), some (.int (iI y3)), some (.int (iI (y4 + ((m1 167 ((y5).toNat)) % 2)))), some (.int (iI (y5 + 1))), some (.int (iI ((y5 / 4) / (m1 158 5))))]) (a := y5) rfl rfl rfl ?_
        refine wp_g (n := 1) (pc' := 55) (L' := [some (.ref 158), z1, some (.int (iI y2)), some (.int (iI y3)), some (.int (iI (y4 + ((m1 167 ((y5).toNat)) % 2)))), some (.int (iI (y5 + 1))), some (.int (iI ((y5 / 4) / (m1 158 5))))]) (st' := []) rfl ?_
        exact hW z1 (some (.int (iI ((y5 / 4) / (m1 158 5))))) _ S
    · have dc4 := (Classical.not_not.mp c4)
      have hW := hW.1 dc4
      refine wp_g (n := 2) (pc' := 74) (L' := [some (.ref 158), z1, some (.int (iI y2)), some (.int (iI y3)), some (.int (iI y4)), some (.int (iI y5)), z6]) (st' := [.int (iI 4), .int (iI y5)]) rfl ?_
      obtain ⟨p16, hW⟩ := hW
      refine wp_div (a := y5) (b := 4) rfl p16 hy5.2 (by decide) (by decide) ?_
      have hr17 : rJ (y5 / 4) := by have := hy5; omega
      refine wp_g (n := 1) (pc' := 76) (L' := [some (.ref 158), z1, some (.int (iI y2)), some (.int (iI y3)), some (.int (iI y4)), some (.int (iI y5)), z6]) (st' := [.ref 158, .int (iI (y5 / 4))]) rfl ?_
      refine wp_getf (v := .int (iI (m1 158 5))) rfl rfl (S.cell 158 (nc rfl)) (by decide) rfl ?_
      have hr18 : rJ (m1 158 5) := S.rg 158 5 (nl rfl)
      obtain ⟨p19, hW⟩ := hW
      obtain ⟨p20, hW⟩ := hW
      refine wp_rem (a := (y5 / 4)) (b := (m1 158 5)) rfl p19 hr17.2 p20 hr18.2 ?_
      refine wp_g (n := 5) (pc' := 99) (L' := [some (.ref 158), z1, some (.int (iI y2)), some (.int (iI y3)), some (.int (iI y4)), some (.int (iI y5)), some (.int (iI ((y5 / 4) % (m1 158 5))))]) (st' := [.int (iI y3), .int (iI ((y5 / 4) % (m1 158 5))), .int (iI y4)]) rfl ?_
      obtain ⟨p21, hW⟩ := hW
      refine wp_icmpI (a := ((y5 / 4) % (m1 158 5))) (b := y3) rfl rfl p21.1 p21.2 hy3.1 hy3.2 (fun c22 => ?_) (fun c22 => ?_)
      · have dc22 := c22
        have hW := hW.2 dc22
        refine wp_g (n := 1) (pc' := 115) (L' := [some (.ref 158), z1, some (.int (iI y2)), some (.int (iI y3)), some (.int (iI y4)), some (.int (iI y5)), some (.int (iI ((y5 / 4) % (m1 158 5))))]) (st' := [.int (iI 0), .int (iI y4)]) rfl ?_
        refine wp_add (a := y4) (b := 0) rfl ?_
        refine wp_g (n := 1) (pc' := 118) (L' := [some (.ref 158), z1, some (.int (iI y2)), some (.int (iI y3)), some (.int (iI (y4 + 0))), some (.int (iI y5)), some (.int (iI ((y5 / 4) % (m1 158 5))))]) (st' := []) rfl ?_
        refine wp_iinc (L' := [some (.ref 158), z1, some (.int (iI y2)), some (.int (iI y3)), some (.int (iI (y4 + 0))), some (.int (iI (y5 + 1))), some (.int (iI ((y5 / 4) % (m1 158 5))))]) (a := y5) rfl rfl rfl ?_
        refine wp_g (n := 1) (pc' := 55) (L' := [some (.ref 158), z1, some (.int (iI y2)), some (.int (iI y3)), some (.int (iI (y4 + 0))), some (.int (iI (y5 + 1))), some (.int (iI ((y5 / 4) % (m1 158 5))))]) (st' := []) rfl ?_
        exact hW z1 (some (.int (iI ((y5 / 4) % (m1 158 5))))) _ S
      · have dc22 := (Classical.not_not.mp c22)
        have hW := hW.1 dc22
        refine wp_g (n := 1) (pc' := 103) (L' := [some (.ref 158), z1, some (.int (iI y2)), some (.int (iI y3)), some (.int (iI y4)), some (.int (iI y5)), some (.int (iI ((y5 / 4) % (m1 158 5))))]) (st' := [.ref 158, .int (iI y4)]) rfl ?_
        refine wp_getf (v := .ref 167) rfl rfl (S.cell 158 (nc rfl)) (by decide) rfl ?_
        refine wp_g (n := 1) (pc' := 108) (L' := [some (.ref 158), z1, some (.int (iI y2)), some (.int (iI y3)), some (.int (iI y4)), some (.int (iI y5)), some (.int (iI ((y5 / 4) % (m1 158 5))))]) (st' := [.int (iI y5), .ref 167, .int (iI y4)]) rfl ?_
        obtain ⟨p23, hW⟩ := hW
        refine wp_iald (n := 64) (F := (m1 167)) rfl (S.cell 167 (nc rfl)) (by decide) p23.1 p23.2 (by decide) ?_
        show wp _ _ _ _ _ [.int (iI (m1 167 ((y5).toNat))), .int (iI y4)] _ _
        have hr24 : rJ (m1 167 ((y5).toNat)) := S.rg 167 ((y5).toNat) (nl rfl)
        refine wp_g (n := 1) (pc' := 110) (L' := [some (.ref 158), z1, some (.int (iI y2)), some (.int (iI y3)), some (.int (iI y4)), some (.int (iI y5)), some (.int (iI ((y5 / 4) % (m1 158 5))))]) (st' := [.int (iI 2), .int (iI (m1 167 ((y5).toNat))), .int (iI y4)]) rfl ?_
        obtain ⟨p25, hW⟩ := hW
        refine wp_rem (a := (m1 167 ((y5).toNat))) (b := 2) rfl p25 hr24.2 (by decide) (by decide) ?_
        have hr26 : rJ ((m1 167 ((y5).toNat)) % 2) := by omega
        refine wp_g (n := 1) (pc' := 115) (L' := [some (.ref 158), z1, some (.int (iI y2)), some (.int (iI y3)), some (.int (iI y4)), some (.int (iI y5)), some (.int (iI ((y5 / 4) % (m1 158 5))))]) (st' := [.int (iI ((m1 167 ((y5).toNat)) % 2)), .int (iI y4)]) rfl ?_
        refine wp_add (a := y4) (b := ((m1 167 ((y5).toNat)) % 2)) rfl ?_
        refine wp_g (n := 1) (pc' := 118) (L' := [some (.ref 158), z1, some (.int (iI y2)), some (.int (iI y3)), some (.int (iI (y4 + ((m1 167 ((y5).toNat)) % 2)))), some (.int (iI y5)), some (.int (iI ((y5 / 4) % (m1 158 5))))]) (st' := []) rfl ?_
        refine wp_iinc (L' := [some (.ref 158), z1, some (.int (iI y2)), some (.int (iI y3)), some (.int (iI (y4 + ((m1 167 ((y5).toNat)) % 2)))), some (.int (iI (y5 + 1))), some (.int (iI ((y5 / 4) % (m1 158 5))))]) (a := y5) rfl rfl rfl ?_
        refine wp_g (n := 1) (pc' := 55) (L' := [some (.ref 158), z1, some (.int (iI y2)), some (.int (iI y3)), some (.int (iI (y4 + ((m1 167 ((y5).toNat)) % 2)))), some (.int (iI (y5 + 1))), some (.int (iI ((y5 / 4) % (m1 158 5))))]) (st' := []) rfl ?_
        exact hW z1 (some (.int (iI ((y5 / 4) % (m1 158 5))))) _ S
def hd_X9_saves_2 (E : am_E) (k : Nat) (y1 : Int) (m : MM) (γ : GM) (t : am_H) (Q : MM → GM → am_H → Prop) : Prop := TT (pV Q) E k 264 2 [some (.ref 158), some (.int (iI y1))] [] m γ t
abbrev W_X9_saves (E : am_E) (k : Nat) (m : MM) (γ : GM) (t : am_H) (Q : MM → GM → am_H → Prop) : Prop := (hd_X9_saves_2 E k 0 m γ t Q)
abbrev W_X9_saves_2 (E : am_E) (k : Nat) (y1 : Int) (m : MM) (γ : GM) (t : am_H) (Q : MM → GM → am_H → Prop) : Prop := (((y1 < (m 158 6)) → ((0 ≤ y1 ∧ y1 < 24) ∧ ((0 ≤ y1 ∧ y1 < 24) ∧ (hd_X9_saves_2 E k (y1 + 1) (up m 183 (up (m 183) ((y1).toNat) (m 162 ((y1).toNat)))) γ t Q)))) ∧ (¬ (y1 < (m 158 6)) → (Q m γ t)))
theorem vc_X9_saves {E : am_E} {k : Nat} {m : MM} {γ : GM} {t : am_H} {Q : MM → GM → am_H → Prop} (hW : W_X9_saves E k  m γ t Q) : TV E k 264 [.ref 158] m γ t Q := by
  unfold W_X9_saves at hW
  intro h S
  refine wp_g (n := 2) (pc' := 2) (L' := [some (.ref 158), some (.int (iI 0))]) (st' := []) rfl ?_
  exact hW _ S
theorem vc_X9_saves_2 {E : am_E} {k : Nat} {y1 : Int} {m : MM} {γ : GM} {t : am_H} {Q : MM → GM → am_H → Prop} (hy1 : rJ y1) (hW : W_X9_saves_2 E k y1 m γ t Q) : hd_X9_saves_2 E k y1 m γ t Q := by
  unfold W_X9_saves_2 at hW
  intro h S
  refine wp_g (n := 2) (pc' := 4) (L' := [some (.ref 158), some (.int (iI y1))]) (st' := [.ref 158, .int (iI y1)]) rfl ?_
  refine wp_getf (v := .int (iI (m 158 6))) rfl rfl (S.cell 158 (nc rfl)) (by decide) rfl ?_
  have hr1 : rJ (m 158 6) := S.rg 158 6 (nl rfl)
  refine wp_icmpI (a := y1) (b := (m 158 6)) rfl rfl hy1.1 hy1.2 hr1.1 hr1.2 (fun c2 => ?_) (fun c2 => ?_)
  · have dc2 := (Int.not_lt.mpr c2)
    have hW := hW.2 dc2
    exact wp_vret rfl rfl ⟨_, _, _, rfl, S, hW⟩
  · have dc2 := (Int.not_le.mp c2)
    have hW := hW.1 dc2
    refine wp_g (n := 1) (pc' := 11) (L' := [some (.ref 158), some (.int (iI y1))]) (st' := [.ref 158]) rfl ?_
    refine wp_getf (v := .ref 183) rfl rfl (S.cell 158 (nc rfl)) (by decide) rfl ?_
    refine wp_g (n := 2) (pc' := 16) (L' := [some (.ref 158), some (.int (iI y1))]) (st' := [.ref 158, .int (iI y1), .ref 183]) rfl ?_
    refine wp_getf (v := .ref 162) rfl rfl (S.cell 158 (nc rfl)) (by decide) rfl ?_
    refine wp_g (n := 1) (pc' := 20) (L' := [some (.ref 158), some (.int (iI y1))]) (st' := [.int (iI y1), .ref 162, .int (iI y1), .ref 183]) rfl ?_
    obtain ⟨p3, hW⟩ := hW
    refine wp_iald (n := 24) (F := (m 162)) rfl (S.cell 162 (nc rfl)) (by decide) p3.1 p3.2 (by decide) ?_
    show wp _ _ _ _ _ [.int (iI (m 162 ((y1).toNat))), .int (iI y1), .ref 183] _ _
    have hr4 : rJ (m 162 ((y1).toNat)) := S.rg 162 ((y1).toNat) (nl rfl)
    obtain ⟨p6, hW⟩ := hW
    refine wp_iasF (n := 24) (F := (m 183)) (y := (m 162 ((y1).toNat))) rfl (S.cell 183 (nc rfl)) p6.1 p6.2 (by decide) (fun H5 hl5 hz5 hf5 => ?_)
    have S : ST H5 (up m 183 (up (m 183) ((y1).toNat) (m 162 ((y1).toNat)))) γ t := S.setI 183 (nc rfl) hl5 hz5 hf5 hr4.1 hr4.2
    refine wp_iinc (L' := [some (.ref 158), some (.int (iI (y1 + 1)))]) (a := y1) rfl rfl rfl ?_
    refine wp_g (n := 1) (pc' := 2) (L' := [some (.ref 158), some (.int (iI (y1 + 1)))]) (st' := []) rfl ?_
    exact hW _ S
def hd_X9_restores_2 (E : am_E) (k : Nat) (y1 : Int) (m : MM) (γ : GM) (t : am_H) (Q : MM → GM → am_H → Prop) : Prop := TT (pV Q) E k 265 2 [some (.ref 158), some (.int (iI y1))] [] m γ t
abbrev W_X9_restores (E : am_E) (k : Nat) (m : MM) (γ : GM) (t : am_H) (Q : MM → GM → am_H → Prop) : Prop := (hd_X9_restores_2 E k 0 m γ t Q)
abbrev W_X9_restores_2 (E : am_E) (k : Nat) (y1 : Int) (m : MM) (γ : GM) (t : am_H) (Q : MM → GM → am_H → Prop) : Prop := (((y1 < (m 158 6)) → ((0 ≤ y1 ∧ y1 < 24) ∧ ((0 ≤ y1 ∧ y1 < 24) ∧ (hd_X9_restores_2 E k (y1 + 1) (up m 162 (up (m 162) ((y1).toNat) (m 183 ((y1).toNat)))) γ t Q)))) ∧ (¬ (y1 < (m 158 6)) → (Q m γ t)))
theorem vc_X9_restores {E : am_E} {k : Nat} {m : MM} {γ : GM} {t : am_H} {Q : MM → GM → am_H → Prop} (hW : W_X9_restores E k  m γ t Q) : TV E k 265 [.ref 158] m γ t Q := by
  unfold W_X9_restores at hW
  intro h S
  refine wp_g (n := 2) (pc' := 2) (L' := [some (.ref 158), some (.int (iI 0))]) (st' := []) rfl ?_
  exact hW _ S
theorem vc_X9_restores_2 {E : am_E} {k : Nat} {y1 : Int} {m : MM} {γ : GM} {t : am_H} {Q : MM → GM → am_H → Prop} (hy1 : rJ y1) (hW : W_X9_restores_2 E k y1 m γ t Q) : hd_X9_restores_2 E k y1 m γ t Q := by
  unfold W_X9_restores_2 at hW
  intro h S
  refine wp_g (n := 2) (pc' := 4) (L' := [some (.ref 158), some (.int (iI y1))]) (st' := [.ref 158, .int (iI y1)]) rfl ?_
  refine wp_getf (v := .int (iI (m 158 6))) rfl rfl (S.cell 158 (nc rfl)) (by decide) rfl ?_
  have hr1 : rJ (m 158 6) := S.rg 158 6 (nl rfl)
  refine wp_icmpI (a := y1) (b := (m 158 6)) rfl rfl hy1.1 hy1.2 hr1.1 hr1.2 (fun c2 => ?_) (fun c2 => ?_)
  · have dc2 := (Int.not_lt.mpr c2)
    have hW := hW.2 dc2
    exact wp_vret rfl rfl ⟨_, _, _, rfl, S, hW⟩
  · have dc2 := (Int.not_le.mp c2)
    have hW := hW.1 dc2
    refine wp_g (n := 1) (pc' := 11) (L' := [some (.ref 158), some (.int (iI y1))]) (st' := [.ref 158]) rfl ?_
    refine wp_getf (v := .ref 162) rfl rfl (S.cell 158 (nc rfl)) (by decide) rfl ?_
    refine wp_g (n := 2) (pc' := 16) (L' := [some (.ref 158), some (.int (iI y1))]) (st' := [.ref 158, .int (iI y1), .ref 162]) rfl ?_
    refine wp_getf (v := .ref 183) rfl rfl (S.cell 158 (nc rfl)) (by decide) rfl ?_
    refine wp_g (n := 1) (pc' := 20) (L' := [some (.ref 158), some (.int (iI y1))]) (st' := [.int (iI y1), .ref 183, .int (iI y1), .ref 162]) rfl ?_
    obtain ⟨p3, hW⟩ := hW
    refine wp_iald (n := 24) (F := (m 183)) rfl (S.cell 183 (nc rfl)) (by decide) p3.1 p3.2 (by decide) ?_
    show wp _ _ _ _ _ [.int (iI (m 183 ((y1).toNat))), .int (iI y1), .ref 162] _ _
    have hr4 : rJ (m 183 ((y1).toNat)) := S.rg 183 ((y1).toNat) (nl rfl)
    obtain ⟨p6, hW⟩ := hW
    refine wp_iasF (n := 24) (F := (m 162)) (y := (m 183 ((y1).toNat))) rfl (S.cell 162 (nc rfl)) p6.1 p6.2 (by decide) (fun H5 hl5 hz5 hf5 => ?_)
    have S : ST H5 (up m 162 (up (m 162) ((y1).toNat) (m 183 ((y1).toNat)))) γ t := S.setI 162 (nc rfl) hl5 hz5 hf5 hr4.1 hr4.2
    refine wp_iinc (L' := [some (.ref 158), some (.int (iI (y1 + 1)))]) (a := y1) rfl rfl rfl ?_
    refine wp_g (n := 1) (pc' := 2) (L' := [some (.ref 158), some (.int (iI (y1 + 1)))]) (st' := []) rfl ?_
    exact hW _ S
def hd_X9_loopsBy_10 (E : am_E) (k : Nat) (x1 : Int) (y1 : Int) (y3 : Int) (y4 : Int) (m : MM) (γ : GM) (t : am_H) (Q : Int → MM → GM → am_H → Prop) : Prop := ∀ (z2 z5 : Option Value), TT (pI Q) E (k + 1) 266 10 [some (.ref 158), some (.long (lI y1)), z2, some (.int (iI y3)), some (.int (iI y4)), z5] [] m γ t
abbrev W_X9_loopsBy (E : am_E) (k : Nat) (x1 : Int) (m : MM) (γ : GM) (t : am_H) (Q : Int → MM → GM → am_H → Prop) : Prop := (hd_X9_loopsBy_10 E k x1 x1 0 0 (up m 158 (up (m 158) 41 0)) γ t Q)
abbrev W_X9_loopsBy_10 (E : am_E) (k : Nat) (x1 : Int) (y1 : Int) (y3 : Int) (y4 : Int) (m : MM) (γ : GM) (t : am_H) (Q : Int → MM → GM → am_H → Prop) : Prop := (((y4 < (m 158 6)) → ((0 ≤ y4 ∧ y4 < 24) ∧ (TI E k 204 [.int (iI (m 183 ((y4).toNat)))] m γ t (fun v7 m7 γ7 t7 => (((v7 = 0) → ((0 ≤ y4 ∧ y4 < 24) ∧ ((0 ≤ y4 ∧ y4 < 24) ∧ (hd_X9_loopsBy_10 E k x1 y1 y3 (y4 + 1) (up m7 162 (up (m7 162) ((y4).toNat) (m7 183 ((y4).toNat)))) γ7 t7 Q)))) ∧ (¬ (v7 = 0) → ((((lcI (lAnd (lShr y1 y3) 1) 1) = 0) → ((0 ≤ y4 ∧ y4 < 24) ∧ ((0 ≤ y4 ∧ y4 < 24) ∧ ((((m7 183 ((y4).toNat)) = 0) → (rJ ((m7 158 41) + 1) ∧ (hd_X9_loopsBy_10 E k x1 y1 (y3 + 1) (y4 + 1) (up (up m7 162 (up (m7 162) ((y4).toNat) 3)) 158 (up (m7 158) 41 ((m7 158 41) + 1))) γ7 t7 Q))) ∧ (¬ ((m7 183 ((y4).toNat)) = 0) → (rJ ((m7 158 41) + (-1)) ∧ (hd_X9_loopsBy_10 E k x1 y1 (y3 + 1) (y4 + 1) (up (up m7 162 (up (m7 162) ((y4).toNat) 3)) 158 (up (m7 158) 41 ((m7 158 41) + (-1)))) γ7 t7 Q))))))) ∧ (¬ ((lcI (lAnd (lShr y1 y3) 1) 1) = 0) → ((0 ≤ y4 ∧ y4 < 24) ∧ ((0 ≤ y4 ∧ y4 < 24) ∧ ((((m7 183 ((y4).toNat)) = 0) → (rJ ((m7 158 41) + (-1)) ∧ (hd_X9_loopsBy_10 E k x1 y1 (y3 + 1) (y4 + 1) (up (up m7 162 (up (m7 162) ((y4).toNat) 2)) 158 (up (m7 158) 41 ((m7 158 41) + (-1)))) γ7 t7 Q))) ∧ (¬ ((m7 183 ((y4).toNat)) = 0) → (rJ ((m7 158 41) + 1) ∧ (hd_X9_loopsBy_10 E k x1 y1 (y3 + 1) (y4 + 1) (up (up m7 162 (up (m7 162) ((y4).toNat) 2)) 158 (up (m7 158) 41 ((m7 158 41) + 1))) γ7 t7 Q)))))))))))))) ∧ (¬ (y4 < (m 158 6)) → (TV E k 210 [.ref 158] m γ t (fun m3 γ3 t3 => (Q (m3 158 16) m3 γ3 t3)))))
theorem vc_X9_loopsBy {E : am_E} {k : Nat} {x1 : Int} {m : MM} {γ : GM} {t : am_H} {Q : Int → MM → GM → am_H → Prop} (hx1 : rK x1) (hW : W_X9_loopsBy E k x1 m γ t Q) : TI E (k + 1) 266 [.ref 158, .long (lI x1)] m γ t Q := by
  unfold W_X9_loopsBy at hW
  intro h S
  refine wp_g (n := 4) (pc' := 4) (L' := [some (.ref 158), some (.long (lI x1)), none, some (.int (iI 0)), none, none]) (st' := [.int (iI 0), .ref 158]) rfl ?_
  refine wp_putI rfl rfl (S.cell 158 (nc rfl)) (Nat.le_of_ble_eq_true rfl) rfl (fun H1 hl1 hz1 hf1 => ?_)
  have S : ST H1 (up m 158 (up (m 158) 41 0)) γ t := S.setI 158 (nc rfl) hl1 hz1 hf1 (by decide) (by decide)
  refine wp_g (n := 2) (pc' := 10) (L' := [some (.ref 158), some (.long (lI x1)), none, some (.int (iI 0)), some (.int (iI 0)), none]) (st' := []) rfl ?_
  exact hW none none _ S
theorem vc_X9_loopsBy_10 {E : am_E} {k : Nat} {x1 : Int} {y1 : Int} {y3 : Int} {y4 : Int} {m : MM} {γ : GM} {t : am_H} {Q : Int → MM → GM → am_H → Prop} (hx1 : rK x1) (hy1 : rK y1) (hy3 : rJ y3) (hy4 : rJ y4) (hW : W_X9_loopsBy_10 E k x1 y1 y3 y4 m γ t Q) : hd_X9_loopsBy_10 E k x1 y1 y3 y4 m γ t Q := by
  unfold W_X9_loopsBy_10 at hW
  intro z2 z5 h S
  refine wp_g (n := 2) (pc' := 13) (L' := [some (.ref 158), some (.long (lI y1)), z2, some (.int (iI y3)), some (.int (iI y4)), z5]) (st' := [.ref 158, .int (iI y4)]) rfl ?_
  refine wp_getf (v := .int (iI (m 158 6))) rfl rfl (S.cell 158 (nc rfl)) (by decide) rfl ?_
  have hr1 : rJ (m 158 6) := S.rg 158 6 (nl rfl)
  refine wp_icmpI (a := y4) (b := (m 158 6)) rfl rfl hy4.1 hy4.2 hr1.1 hr1.2 (fun c2 => ?_) (fun c2 => ?_)
  · have dc2 := (Int.not_lt.mpr c2)
    have hW := hW.2 dc2
    refine wp_g (n := 1) (pc' := 127) (L' := [some (.ref 158), some (.long (lI y1)), z2, some (.int (iI y3)), some (.int (iI y4)), z5]) (st' := [.ref 158]) rfl ?_
    refine wp_cv (As := []) (rest := []) rfl rfl (S.cell 158 (nc rfl)) (by decide) rfl rfl rfl (Nat.le_of_ble_eq_true rfl) (Nat.le_of_ble_eq_true rfl) (hW _ S) (fun r3 H3 q3 => ?_)
    obtain ⟨m3, γ3, t3, rfl, S, hW⟩ := q3
    show wp _ _ _ _ _ [] _ _
    refine wp_g (n := 1) (pc' := 131) (L' := [some (.ref 158), some (.long (lI y1)), z2, some (.int (iI y3)), some (.int (iI y4)), z5]) (st' := [.ref 158]) rfl ?_
    refine wp_getf (v := .int (iI (m3 158 16))) rfl rfl (S.cell 158 (nc rfl)) (by decide) rfl ?_
    have hr4 : rJ (m3 158 16) := S.rg 158 16 (nl rfl)
    exact wp_iret rfl rfl ⟨_, _, _, _, rfl, hr4, S, hW⟩
  · have dc2 := (Int.not_le.mp c2)
    have hW := hW.1 dc2
    refine wp_g (n := 1) (pc' := 20) (L' := [some (.ref 158), some (.long (lI y1)), z2, some (.int (iI y3)), some (.int (iI y4)), z5]) (st' := [.ref 158]) rfl ?_
    refine wp_getf (v := .ref 183) rfl rfl (S.cell 158 (nc rfl)) (by decide) rfl ?_
    refine wp_g (n := 1) (pc' := 25) (L' := [some (.ref 158), some (.long (lI y1)), z2, some (.int (iI y3)), some (.int (iI y4)), z5]) (st' := [.int (iI y4), .ref 183]) rfl ?_
    obtain ⟨p5, hW⟩ := hW
    refine wp_iald (n := 24) (F := (m 183)) rfl (S.cell 183 (nc rfl)) (by decide) p5.1 p5.2 (by decide) ?_
    show wp _ _ _ _ _ [.int (iI (m 183 ((y4).toNat)))] _ _
    have hr6 : rJ (m 183 ((y4).toNat)) := S.rg 183 ((y4).toNat) (nl rfl)
    refine wp_cs (As := [.int (iI (m 183 ((y4).toNat)))]) (rest := []) rfl rfl rfl rfl (Nat.le_of_ble_eq_true rfl) (Nat.le_of_ble_eq_true rfl) (hW _ S) (fun r7 H7 q7 => ?_)
    obtain ⟨v7, m7, γ7, t7, rfl, hv7, S, hW⟩ := q7
    show wp _ _ _ _ _ [.int (iI v7)] _ _
    refine wp_ifI (a := v7) rfl rfl hv7.1 hv7.2 (fun c8 => ?_) (fun c8 => ?_)
    · have dc8 := c8
      have hW := hW.2 dc8
      refine wp_g (n := 2) (pc' := 51) (L' := [some (.ref 158), some (.long (lI y1)), z2, some (.int (iI y3)), some (.int (iI y4)), z5]) (st' := [.int (iI y3), .long (lI y1)]) rfl ?_
      refine wp_lShr (a := y1) (b := y3) rfl ?_
      have hr9 : rK (lShr y1 y3) := i64_rg _
      refine wp_g (n := 1) (pc' := 53) (L' := [some (.ref 158), some (.long (lI y1)), z2, some (.int (iI y3)), some (.int (iI y4)), z5]) (st' := [.long (lI 1), .long (lI (lShr y1 y3))]) rfl ?_
      refine wp_lAnd (a := (lShr y1 y3)) (b := 1) rfl ?_
      have hr10 : rK (lAnd (lShr y1 y3) 1) := i64_rg _
      refine wp_g (n := 1) (pc' := 55) (L' := [some (.ref 158), some (.long (lI y1)), z2, some (.int (iI y3)), some (.int (iI y4)), z5]) (st' := [.long (lI 1), .long (lI (lAnd (lShr y1 y3) 1))]) rfl ?_
      refine wp_lcmp (a := (lAnd (lShr y1 y3) 1)) (b := 1) rfl hr10 (by decide) ?_
      have hr11 : rJ (lcI (lAnd (lShr y1 y3) 1) 1) := lcI_rg _ _
      refine wp_ifI (a := (lcI (lAnd (lShr y1 y3) 1) 1)) rfl rfl hr11.1 hr11.2 (fun c12 => ?_) (fun c12 => ?_)
      · have dc12 := c12
        have hW := hW.2 dc12
        refine wp_g (n := 3) (pc' := 67) (L' := [some (.ref 158), some (.long (lI y1)), z2, some (.int (iI y3)), some (.int (iI y4)), some (.int (iI 0))]) (st' := [.ref 158]) rfl ?_
        refine wp_getf (v := .ref 162) rfl rfl (S.cell 158 (nc rfl)) (by decide) rfl ?_
        refine wp_g (n := 2) (pc' := 74) (L' := [some (.ref 158), some (.long (lI y1)), z2, some (.int (iI y3)), some (.int (iI y4)), some (.int (iI 0))]) (st' := [.int (iI 0), .int (iI y4), .ref 162]) rfl ?_
        refine wp_g (n := 1) (pc' := 81) (L' := [some (.ref 158), some (.long (lI y1)), z2, some (.int (iI y3)), some (.int (iI y4)), some (.int (iI 0))]) (st' := [.int (iI y4), .ref 162]) rfl ?_
        refine wp_g (n := 1) (pc' := 82) (L' := [some (.ref 158), some (.long (lI y1)), z2, some (.int (iI y3)), some (.int (iI y4)), some (.int (iI 0))]) (st' := [.int (iI 2), .int (iI y4), .ref 162]) rfl ?_
        obtain ⟨p14, hW⟩ := hW
        refine wp_iasF (n := 24) (F := (m7 162)) (y := 2) rfl (S.cell 162 (nc rfl)) p14.1 p14.2 (by decide) (fun H13 hl13 hz13 hf13 => ?_)
        have S : ST H13 (up m7 162 (up (m7 162) ((y4).toNat) 2)) γ7 t7 := S.setI 162 (nc rfl) hl13 hz13 hf13 (by decide) (by decide)
        refine wp_g (n := 2) (pc' := 85) (L' := [some (.ref 158), some (.long (lI y1)), z2, some (.int (iI y3)), some (.int (iI y4)), some (.int (iI 0))]) (st' := [.ref 158, .ref 158]) rfl ?_
        refine wp_getf (v := .int (iI (m7 158 41))) rfl rfl (S.cell 158 (nc rfl)) (by decide) rfl ?_
        have hr15 : rJ (m7 158 41) := S.rg 158 41 (nl rfl)
        refine wp_g (n := 2) (pc' := 91) (L' := [some (.ref 158), some (.long (lI y1)), z2, some (.int (iI y3)), some (.int (iI y4)), some (.int (iI 0))]) (st' := [.ref 158, .int (iI 0), .int (iI (m7 158 41)), .ref 158]) rfl ?_
        refine wp_getf (v := .ref 183) rfl rfl (S.cell 158 (nc rfl)) (by decide) rfl ?_
        refine wp_g (n := 1) (pc' := 96) (L' := [some (.ref 158), some (.long (lI y1)), z2, some (.int (iI y3)), some (.int (iI y4)), some (.int (iI 0))]) (st' := [.int (iI y4), .ref 183, .int (iI 0), .int (iI (m7 158 41)), .ref 158]) rfl ?_
        obtain ⟨p16, hW⟩ := hW
        refine wp_iald (n := 24) (F := (m7 183)) rfl (S.cell 183 (nc rfl)) (by decide) p16.1 p16.2 (by decide) ?_
        show wp _ _ _ _ _ [.int (iI (m7 183 ((y4).toNat))), .int (iI 0), .int (iI (m7 158 41)), .ref 158] _ _
        have hr17 : rJ (m7 183 ((y4).toNat)) := S.rg 183 ((y4).toNat) (nl rfl)
        refine wp_ifI (a := (m7 183 ((y4).toNat))) rfl rfl hr17.1 hr17.2 (fun c18 => ?_) (fun c18 => ?_)
        · have dc18 := c18
          have hW := hW.2 dc18
          refine wp_g (n := 1) (pc' := 105) (L' := [some (.ref 158), some (.long (lI y1)), z2, some (.int (iI y3)), some (.int (iI y4)), some (.int (iI 0))]) (st' := [.int (iI 0), .int (iI 0), .int (iI (m7 158 41)), .ref 158]) rfl ?_
          refine wp_g (n := 1) (pc' := 108) (L' := [some (.ref 158), some (.long (lI y1)), z2, some (.int (iI y3)), some (.int (iI y4)), some (.int (iI 0))]) (st' := [.int (iI (m7 158 41)), .ref 158]) rfl ?_
          refine wp_g (n := 2) (pc' := 113) (L' := [some (.ref 158), some (.long (lI y1)), z2, some (.int (iI y3)), some (.int (iI y4)), some (.int (iI 0))]) (st' := [.int (iI 1), .int (iI (m7 158 41)), .ref 158]) rfl ?_
          refine wp_add (a := (m7 158 41)) (b := 1) rfl ?_
          obtain ⟨p20, hW⟩ := hW
          refine wp_putI rfl rfl (S.cell 158 (nc rfl)) (Nat.le_of_ble_eq_true rfl) rfl (fun H19 hl19 hz19 hf19 => ?_)
          have S : ST H19 (up (up m7 162 (up (m7 162) ((y4).toNat) 2)) 158 (up (m7 158) 41 ((m7 158 41) + 1))) γ7 t7 := S.setI 158 (nc rfl) hl19 hz19 hf19 p20.1 p20.2
          refine wp_iinc (L' := [some (.ref 158), some (.long (lI y1)), (bif am_c2 z2 then none else z2), some (.int (iI (y3 + 1))), some (.int (iI y4)), some (.int (iI 0))]) (a := y3) rfl rfl rfl ?_
          refine wp_iinc (L' := [some (.ref 158), some (.long (lI y1)), (bif am_c2 z2 then none else z2), some (.int (iI (y3 + 1))), some (.int (iI (y4 + 1))), some (.int (iI 0))]) (a := y4) rfl rfl rfl ?_
          refine wp_g (n := 1) (pc' := 10) (L' := [some (.ref 158), some (.long (lI y1)), (bif am_c2 z2 then none else z2), some (.int (iI (y3 + 1))), some (.int (iI (y4 + 1))), some (.int (iI 0))]) (st' := []) rfl ?_
          exact hW (bif am_c2 z2 then none else z2) (some (.int (iI 0))) _ S
        · have dc18 := (Classical.not_not.mp c18)
          have hW := hW.1 dc18
          refine wp_g (n := 2) (pc' := 105) (L' := [some (.ref 158), some (.long (lI y1)), z2, some (.int (iI y3)), some (.int (iI y4)), some (.int (iI 0))]) (st' := [.int (iI 1), .int (iI 0), .int (iI (m7 158 41)), .ref 158]) rfl ?_
          refine wp_g (n := 1) (pc' := 112) (L' := [some (.ref 158), some (.long (lI y1)), z2, some (.int (iI y3)), some (.int (iI y4)), some (.int (iI 0))]) (st' := [.int (iI (m7 158 41)), .ref 158]) rfl ?_
          refine wp_g (n := 1) (pc' := 113) (L' := [some (.ref 158), some (.long (lI y1)), z2, some (.int (iI y3)), some (.int (iI y4)), some (.int (iI 0))]) (st' := [.int (iI (-1)), .int (iI (m7 158 41)), .ref 158]) rfl ?_
          refine wp_add (a := (m7 158 41)) (b := (-1)) rfl ?_
          obtain ⟨p22, hW⟩ := hW
          refine wp_putI rfl rfl (S.cell 158 (nc rfl)) (Nat.le_of_ble_eq_true rfl) rfl (fun H21 hl21 hz21 hf21 => ?_)
          have S : ST H21 (up (up m7 162 (up (m7 162) ((y4).toNat) 2)) 158 (up (m7 158) 41 ((m7 158 41) + (-1)))) γ7 t7 := S.setI 158 (nc rfl) hl21 hz21 hf21 p22.1 p22.2
          refine wp_iinc (L' := [some (.ref 158), some (.long (lI y1)), (bif am_c2 z2 then none else z2), some (.int (iI (y3 + 1))), some (.int (iI y4)), some (.int (iI 0))]) (a := y3) rfl rfl rfl ?_
          refine wp_iinc (L' := [some (.ref 158), some (.long (lI y1)), (bif am_c2 z2 then none else z2), some (.int (iI (y3 + 1))), some (.int (iI (y4 + 1))), some (.int (iI 0))]) (a := y4) rfl rfl rfl ?_
          refine wp_g (n := 1) (pc' := 10) (L' := [some (.ref 158), some (.long (lI y1)), (bif am_c2 z2 then none else z2), some (.int (iI (y3 + 1))), some (.int (iI (y4 + 1))), some (.int (iI 0))]) (st' := []) rfl ?_
          exact hW (bif am_c2 z2 then none else z2) (some (.int (iI 0))) _ S
      · have dc12 := (Classical.not_not.mp c12)
        have hW := hW.1 dc12
        refine wp_g (n := 4) (pc' := 67) (L' := [some (.ref 158), some (.long (lI y1)), z2, some (.int (iI y3)), some (.int (iI y4)), some (.int (iI 1))]) (st' := [.ref 158]) rfl ?_
        refine wp_getf (v := .ref 162) rfl rfl (S.cell 158 (nc rfl)) (by decide) rfl ?_
        refine wp_g (n := 2) (pc' := 74) (L' := [some (.ref 158), some (.long (lI y1)), z2, some (.int (iI y3)), some (.int (iI y4)), some (.int (iI 1))]) (st' := [.int (iI 1), .int (iI y4), .ref 162]) rfl ?_
        refine wp_g (n := 1) (pc' := 77) (L' := [some (.ref 158), some (.long (lI y1)), z2, some (.int (iI y3)), some (.int (iI y4)), some (.int (iI 1))]) (st' := [.int (iI y4), .ref 162]) rfl ?_
        refine wp_g (n := 2) (pc' := 82) (L' := [some (.ref 158), some (.long (lI y1)), z2, some (.int (iI y3)), some (.int (iI y4)), some (.int (iI 1))]) (st' := [.int (iI 3), .int (iI y4), .ref 162]) rfl ?_
        obtain ⟨p24, hW⟩ := hW
        refine wp_iasF (n := 24) (F := (m7 162)) (y := 3) rfl (S.cell 162 (nc rfl)) p24.1 p24.2 (by decide) (fun H23 hl23 hz23 hf23 => ?_)
        have S : ST H23 (up m7 162 (up (m7 162) ((y4).toNat) 3)) γ7 t7 := S.setI 162 (nc rfl) hl23 hz23 hf23 (by decide) (by decide)
        refine wp_g (n := 2) (pc' := 85) (L' := [some (.ref 158), some (.long (lI y1)), z2, some (.int (iI y3)), some (.int (iI y4)), some (.int (iI 1))]) (st' := [.ref 158, .ref 158]) rfl ?_
        refine wp_getf (v := .int (iI (m7 158 41))) rfl rfl (S.cell 158 (nc rfl)) (by decide) rfl ?_
        have hr25 : rJ (m7 158 41) := S.rg 158 41 (nl rfl)
        refine wp_g (n := 2) (pc' := 91) (L' := [some (.ref 158), some (.long (lI y1)), z2, some (.int (iI y3)), some (.int (iI y4)), some (.int (iI 1))]) (st' := [.ref 158, .int (iI 1), .int (iI (m7 158 41)), .ref 158]) rfl ?_
        refine wp_getf (v := .ref 183) rfl rfl (S.cell 158 (nc rfl)) (by decide) rfl ?_
        refine wp_g (n := 1) (pc' := 96) (L' := [some (.ref 158), some (.long (lI y1)), z2, some (.int (iI y3)), some (.int (iI y4)), some (.int (iI 1))]) (st' := [.int (iI y4), .ref 183, .int (iI 1), .int (iI (m7 158 41)), .ref 158]) rfl ?_
        obtain ⟨p26, hW⟩ := hW
        refine wp_iald (n := 24) (F := (m7 183)) rfl (S.cell 183 (nc rfl)) (by decide) p26.1 p26.2 (by decide) ?_
        show wp _ _ _ _ _ [.int (iI (m7 183 ((y4).toNat))), .int (iI 1), .int (iI (m7 158 41)), .ref 158] _ _
        have hr27 : rJ (m7 183 ((y4).toNat)) := S.rg 183 ((y4).toNat) (nl rfl)
        refine wp_ifI (a := (m7 183 ((y4).toNat))) rfl rfl hr27.1 hr27.2 (fun c28 => ?_) (fun c28 => ?_)
        · have dc28 := c28
          have hW := hW.2 dc28
          refine wp_g (n := 1) (pc' := 105) (L' := [some (.ref 158), some (.long (lI y1)), z2, some (.int (iI y3)), some (.int (iI y4)), some (.int (iI 1))]) (st' := [.int (iI 0), .int (iI 1), .int (iI (m7 158 41)), .ref 158]) rfl ?_
          refine wp_g (n := 1) (pc' := 112) (L' := [some (.ref 158), some (.long (lI y1)), z2, some (.int (iI y3)), some (.int (iI y4)), some (.int (iI 1))]) (st' := [.int (iI (m7 158 41)), .ref 158]) rfl ?_
          refine wp_g (n := 1) (pc' := 113) (L' := [some (.ref 158), some (.long (lI y1)), z2, some (.int (iI y3)), some (.int (iI y4)), some (.int (iI 1))]) (st' := [.int (iI (-1)), .int (iI (m7 158 41)), .ref 158]) rfl ?_
          refine wp_add (a := (m7 158 41)) (b := (-1)) rfl ?_
          obtain ⟨p30, hW⟩ := hW
          refine wp_putI rfl rfl (S.cell 158 (nc rfl)) (Nat.le_of_ble_eq_true rfl) rfl (fun H29 hl29 hz29 hf29 => ?_)
          have S : ST H29 (up (up m7 162 (up (m7 162) ((y4).toNat) 3)) 158 (up (m7 158) 41 ((m7 158 41) + (-1)))) γ7 t7 := S.setI 158 (nc rfl) hl29 hz29 hf29 p30.1 p30.2
          refine wp_iinc (L' := [some (.ref 158), some (.long (lI y1)), (bif am_c2 z2 then none else z2), some (.int (iI (y3 + 1))), some (.int (iI y4)), some (.int (iI 1))]) (a := y3) rfl rfl rfl ?_
          refine wp_iinc (L' := [some (.ref 158), some (.long (lI y1)), (bif am_c2 z2 then none else z2), some (.int (iI (y3 + 1))), some (.int (iI (y4 + 1))), some (.int (iI 1))]) (a := y4) rfl rfl rfl ?_
          refine wp_g (n := 1) (pc' := 10) (L' := [some (.ref 158), some (.long (lI y1)), (bif am_c2 z2 then none else z2), some (.int (iI (y3 + 1))), some (.int (iI (y4 + 1))), some (.int (iI 1))]) (st' := []) rfl ?_
          exact hW (bif am_c2 z2 then none else z2) (some (.int (iI 1))) _ S
        · have dc28 := (Classical.not_not.mp c28)
          have hW := hW.1 dc28
          refine wp_g (n := 2) (pc' := 105) (L' := [some (.ref 158), some (.long (lI y1)), z2, some (.int (iI y3)), some (.int (iI y4)), some (.int (iI 1))]) (st' := [.int (iI 1), .int (iI 1), .int (iI (m7 158 41)), .ref 158]) rfl ?_
          refine wp_g (n := 1) (pc' := 108) (L' := [some (.ref 158), some (.long (lI y1)), z2, some (.int (iI y3)), some (.int (iI y4)), some (.int (iI 1))]) (st' := [.int (iI (m7 158 41)), .ref 158]) rfl ?_
          refine wp_g (n := 2) (pc' := 113) (L' := [some (.ref 158), some (.long (lI y1)), z2, some (.int (iI y3)), some (.int (iI y4)), some (.int (iI 1))]) (st' := [.int (iI 1), .int (iI (m7 158 41)), .ref 158]) rfl ?_
          refine wp_add (a := (m7 158 41)) (b := 1) rfl ?_
          obtain ⟨p32, hW⟩ := hW
          refine wp_putI rfl rfl (S.cell 158 (nc rfl)) (Nat.le_of_ble_eq_true rfl) rfl (fun H31 hl31 hz31 hf31 => ?_)
          have S : ST H31 (up (up m7 162 (up (m7 162) ((y4).toNat) 3)) 158 (up (m7 158) 41 ((m7 158 41) + 1))) γ7 t7 := S.setI 158 (nc rfl) hl31 hz31 hf31 p32.1 p32.2
          refine wp_iinc (L' := [some (.ref 158), some (.long (lI y1)), (bif am_c2 z2 then none else z2), some (.int (iI (y3 + 1))), some (.int (iI y4)), some (.int (iI 1))]) (a := y3) rfl rfl rfl ?_
          refine wp_iinc (L' := [some (.ref 158), some (.long (lI y1)), (bif am_c2 z2 then none else z2), some (.int (iI (y3 + 1))), some (.int (iI (y4 + 1))), some (.int (iI 1))]) (a := y4) rfl rfl rfl ?_
          refine wp_g (n := 1) (pc' := 10) (L' := [some (.ref 158), some (.long (lI y1)), (bif am_c2 z2 then none else z2), some (.int (iI (y3 + 1))), some (.int (iI (y4 + 1))), some (.int (iI 1))]) (st' := []) rfl ?_
          exact hW (bif am_c2 z2 then none else z2) (some (.int (iI 1))) _ S
    · have dc8 := (Classical.not_not.mp c8)
      have hW := hW.1 dc8
      refine wp_g (n := 1) (pc' := 33) (L' := [some (.ref 158), some (.long (lI y1)), z2, some (.int (iI y3)), some (.int (iI y4)), z5]) (st' := [.ref 158]) rfl ?_
      refine wp_getf (v := .ref 162) rfl rfl (S.cell 158 (nc rfl)) (by decide) rfl ?_
      refine wp_g (n := 2) (pc' := 39) (L' := [some (.ref 158), some (.long (lI y1)), z2, some (.int (iI y3)), some (.int (iI y4)), z5]) (st' := [.ref 158, .int (iI y4), .ref 162]) rfl ?_
      refine wp_getf (v := .ref 183) rfl rfl (S.cell 158 (nc rfl)) (by decide) rfl ?_
      refine wp_g (n := 1) (pc' := 44) (L' := [some (.ref 158), some (.long (lI y1)), z2, some (.int (iI y3)), some (.int (iI y4)), z5]) (st' := [.int (iI y4), .ref 183, .int (iI y4), .ref 162]) rfl ?_
      obtain ⟨p33, hW⟩ := hW
      refine wp_iald (n := 24) (F := (m7 183)) rfl (S.cell 183 (nc rfl)) (by decide) p33.1 p33.2 (by decide) ?_
      show wp _ _ _ _ _ [.int (iI (m7 183 ((y4).toNat))), .int (iI y4), .ref 162] _ _
      have hr34 : rJ (m7 183 ((y4).toNat)) := S.rg 183 ((y4).toNat) (nl rfl)
      obtain ⟨p36, hW⟩ := hW
      refine wp_iasF (n := 24) (F := (m7 162)) (y := (m7 183 ((y4).toNat))) rfl (S.cell 162 (nc rfl)) p36.1 p36.2 (by decide) (fun H35 hl35 hz35 hf35 => ?_)
      have S : ST H35 (up m7 162 (up (m7 162) ((y4).toNat) (m7 183 ((y4).toNat)))) γ7 t7 := S.setI 162 (nc rfl) hl35 hz35 hf35 hr34.1 hr34.2
      refine wp_g (n := 1) (pc' := 120) (L' := [some (.ref 158), some (.long (lI y1)), z2, some (.int (iI y3)), some (.int (iI y4)), z5]) (st' := []) rfl ?_
      refine wp_iinc (L' := [some (.ref 158), some (.long (lI y1)), z2, some (.int (iI y3)), some (.int (iI (y4 + 1))), z5]) (a := y4) rfl rfl rfl ?_
      refine wp_g (n := 1) (pc' := 10) (L' := [some (.ref 158), some (.long (lI y1)), z2, some (.int (iI y3)), some (.int (iI (y4 + 1))), z5]) (st' := []) rfl ?_
      exact hW z2 z5 _ S
abbrev W_X9_loops (E : am_E) (k : Nat) (x1 : Int) (x2 : Int) (m : MM) (γ : GM) (t : am_H) (Q : Int → MM → GM → am_H → Prop) : Prop := (TI E k 216 [.ref 158, .int (iI x1)] m γ t (fun v1 m1 γ1 t1 => (((v1 = 0) → (Q (-2) m1 γ1 t1)) ∧ (¬ (v1 = 0) → (TI E k 206 [.ref 158] m1 γ1 t1 (fun v3 m3 γ3 t3 => (TI E k 192 [.long (lI x2), .long (lI 0), .long (lI ((lShl 1 v3) - 1))] m3 γ3 t3 (fun v5 m5 γ5 t5 => (((v5 = 0) → (Q (-2) m5 γ5 t5)) ∧ (¬ (v5 = 0) → (TV E k 264 [.ref 158] m5 γ5 t5 (fun m7 γ7 t7 => (TI E k 266 [.ref 158, .long (lI x2)] m7 γ7 t7 (fun v8 m8 γ8 t8 => (Q v8 m8 γ8 t8)))))))))))))))
theorem vc_X9_loops {E : am_E} {k : Nat} {x1 : Int} {x2 : Int} {m : MM} {γ : GM} {t : am_H} {Q : Int → MM → GM → am_H → Prop} (hx1 : rJ x1) (hx2 : rK x2) (hW : W_X9_loops E k x1 x2 m γ t Q) : TI E (k + 1) 267 [.ref 158, .int (iI x1), .long (lI x2)] m γ t Q := by
  unfold W_X9_loops at hW
  intro h S
  refine wp_g (n := 2) (pc' := 2) (L' := [some (.ref 158), some (.int (iI x1)), some (.long (lI x2)), none]) (st' := [.int (iI x1), .ref 158]) rfl ?_
  refine wp_cv (As := [.int (iI x1)]) (rest := []) rfl rfl (S.cell 158 (nc rfl)) (by decide) rfl rfl rfl (Nat.le_of_ble_eq_true rfl) (Nat.le_of_ble_eq_true rfl) (hW _ S) (fun r1 H1 q1 => ?_)
  obtain ⟨v1, m1, γ1, t1, rfl, hv1, S, hW⟩ := q1
  show wp _ _ _ _ _ [.int (iI v1)] _ _
  refine wp_ifI (a := v1) rfl rfl hv1.1 hv1.2 (fun c2 => ?_) (fun c2 => ?_)
  · have dc2 := c2
    have hW := hW.1 dc2
    refine wp_g (n := 1) (pc' := 26) (L' := [some (.ref 158), some (.int (iI x1)), some (.long (lI x2)), none]) (st' := [.int (iI (-2))]) rfl ?_
    exact wp_iret rfl rfl ⟨_, _, _, _, rfl, (by decide), S, hW⟩
  · have dc2 := c2
    have hW := hW.2 dc2
    refine wp_g (n := 4) (pc' := 12) (L' := [some (.ref 158), some (.int (iI x1)), some (.long (lI x2)), none]) (st' := [.ref 158, .long (lI 1), .long (lI 0), .long (lI x2)]) rfl ?_
    refine wp_cv (As := []) (rest := [.long (lI 1), .long (lI 0), .long (lI x2)]) rfl rfl (S.cell 158 (nc rfl)) (by decide) rfl rfl rfl (Nat.le_of_ble_eq_true rfl) (Nat.le_of_ble_eq_true rfl) (hW _ S) (fun r3 H3 q3 => ?_)
    obtain ⟨v3, m3, γ3, t3, rfl, hv3, S, hW⟩ := q3
    show wp _ _ _ _ _ [.int (iI v3), .long (lI 1), .long (lI 0), .long (lI x2)] _ _
    refine wp_lShl (a := 1) (b := v3) rfl ?_
    have hr4 : rK (lShl 1 v3) := i64_rg _
    refine wp_g (n := 1) (pc' := 17) (L' := [some (.ref 158), some (.int (iI x1)), some (.long (lI x2)), none]) (st' := [.long (lI 1), .long (lI (lShl 1 v3)), .long (lI 0), .long (lI x2)]) rfl ?_
    refine wp_lsub (a := (lShl 1 v3)) (b := 1) rfl ?_
    refine wp_cs (As := [.long (lI x2), .long (lI 0), .long (lI ((lShl 1 v3) - 1))]) (rest := []) rfl rfl rfl rfl (Nat.le_of_ble_eq_true rfl) (Nat.le_of_ble_eq_true rfl) (hW _ S) (fun r5 H5 q5 => ?_)
    obtain ⟨v5, m5, γ5, t5, rfl, hv5, S, hW⟩ := q5
    show wp _ _ _ _ _ [.int (iI v5)] _ _
    refine wp_ifI (a := v5) rfl rfl hv5.1 hv5.2 (fun c6 => ?_) (fun c6 => ?_)
    · have dc6 := c6
      have hW := hW.2 dc6
      refine wp_g (n := 1) (pc' := 28) (L' := [some (.ref 158), some (.int (iI x1)), some (.long (lI x2)), none]) (st' := [.ref 158]) rfl ?_
      refine wp_cv (As := []) (rest := []) rfl rfl (S.cell 158 (nc rfl)) (by decide) rfl rfl rfl (Nat.le_of_ble_eq_true rfl) (Nat.le_of_ble_eq_true rfl) (hW _ S) (fun r7 H7 q7 => ?_)
      obtain ⟨m7, γ7, t7, rfl, S, hW⟩ := q7
      show wp _ _ _ _ _ [] _ _
      refine wp_g (n := 2) (pc' := 33) (L' := [some (.ref 158), some (.int (iI x1)), some (.long (lI x2)), none]) (st' := [.long (lI x2), .ref 158]) rfl ?_
      refine wp_cv (As := [.long (lI x2)]) (rest := []) rfl rfl (S.cell 158 (nc rfl)) (by decide) rfl rfl rfl (Nat.le_of_ble_eq_true rfl) (Nat.le_of_ble_eq_true rfl) (hW _ S) (fun r8 H8 q8 => ?_)
      obtain ⟨v8, m8, γ8, t8, rfl, hv8, S, hW⟩ := q8
      show wp _ _ _ _ _ [.int (iI v8)] _ _
      exact wp_iret rfl rfl ⟨_, _, _, _, rfl, hv8, S, hW⟩
    · have dc6 := (Classical.not_not.mp c6)
      have hW := hW.1 dc6
      refine wp_g (n := 1) (pc' := 26) (L' := [some (.ref 158), some (.int (iI x1)), some (.long (lI x2)), none]) (st' := [.int (iI (-2))]) rfl ?_
      exact wp_iret rfl rfl ⟨_, _, _, _, rfl, (by decide), S, hW⟩
def hd_X9_settings_39 (E : am_E) (k : Nat) (x1 : Int) (x2 : Int) (y2 : Int) (y3 : Int) (y4 : Int) (y5 : Int) (m : MM) (γ : GM) (t : am_H) (Q : Int → MM → GM → am_H → Prop) : Prop := ∀ (z1 : Option Value), TT (pI Q) E (k + 1) 268 39 [some (.ref 158), z1, some (.int (iI y2)), some (.int (iI y3)), some (.int (iI y4)), some (.int (iI y5))] [] m γ t
abbrev W_X9_settings (E : am_E) (k : Nat) (x1 : Int) (x2 : Int) (m : MM) (γ : GM) (t : am_H) (Q : Int → MM → GM → am_H → Prop) : Prop := (TI E k 216 [.ref 158, .int (iI x1)] m γ t (fun v1 m1 γ1 t1 => (((v1 = 0) → (Q (-2) m1 γ1 t1)) ∧ (¬ (v1 = 0) → (((x2 < 0) → (Q (-2) m1 γ1 t1)) ∧ (¬ (x2 < 0) → (TI E k 206 [.ref 158] m1 γ1 t1 (fun v4 m4 γ4 t4 => (((v4 ≤ 12) → (TV E k 264 [.ref 158] m4 γ4 t4 (fun m6 γ6 t6 => (hd_X9_settings_39 E k x1 x2 x2 v4 0 0 m6 γ6 t6 Q)))) ∧ (¬ (v4 ≤ 12) → (Q (-5) m4 γ4 t4)))))))))))
abbrev W_X9_settings_39 (E : am_E) (k : Nat) (x1 : Int) (x2 : Int) (y2 : Int) (y3 : Int) (y4 : Int) (y5 : Int) (m : MM) (γ : GM) (t : am_H) (Q : Int → MM → GM → am_H → Prop) : Prop := (((y5 < (bShl 1 y3)) → (TI E k 266 [.ref 158, .long (lI y5)] m γ t (fun v3 m3 γ3 t3 => (((v3 = y2) → (hd_X9_settings_39 E k x1 x2 y2 y3 (y4 + 1) (y5 + 1) m3 γ3 t3 Q)) ∧ (¬ (v3 = y2) → (hd_X9_settings_39 E k x1 x2 y2 y3 (y4 + 0) (y5 + 1) m3 γ3 t3 Q)))))) ∧ (¬ (y5 < (bShl 1 y3)) → (Q y4 m γ t)))
theorem vc_X9_settings {E : am_E} {k : Nat} {x1 : Int} {x2 : Int} {m : MM} {γ : GM} {t : am_H} {Q : Int → MM → GM → am_H → Prop} (hx1 : rJ x1) (hx2 : rJ x2) (hW : W_X9_settings E k x1 x2 m γ t Q) : TI E (k + 1) 268 [.ref 158, .int (iI x1), .int (iI x2)] m γ t Q := by
  unfold W_X9_settings at hW
  intro h S
  refine wp_g (n := 2) (pc' := 2) (L' := [some (.ref 158), some (.int (iI x1)), some (.int (iI x2)), none, none, none]) (st' := [.int (iI x1), .ref 158]) rfl ?_
  refine wp_cv (As := [.int (iI x1)]) (rest := []) rfl rfl (S.cell 158 (nc rfl)) (by decide) rfl rfl rfl (Nat.le_of_ble_eq_true rfl) (Nat.le_of_ble_eq_true rfl) (hW _ S) (fun r1 H1 q1 => ?_)
  obtain ⟨v1, m1, γ1, t1, rfl, hv1, S, hW⟩ := q1
  show wp _ _ _ _ _ [.int (iI v1)] _ _
  refine wp_ifI (a := v1) rfl rfl hv1.1 hv1.2 (fun c2 => ?_) (fun c2 => ?_)
  · have dc2 := c2
    have hW := hW.1 dc2
    refine wp_g (n := 1) (pc' := 14) (L' := [some (.ref 158), some (.int (iI x1)), some (.int (iI x2)), none, none, none]) (st' := [.int (iI (-2))]) rfl ?_
    exact wp_iret rfl rfl ⟨_, _, _, _, rfl, (by decide), S, hW⟩
  · have dc2 := c2
    have hW := hW.2 dc2
    refine wp_g (n := 1) (pc' := 9) (L' := [some (.ref 158), some (.int (iI x1)), some (.int (iI x2)), none, none, none]) (st' := [.int (iI x2)]) rfl ?_
    refine wp_ifI (a := x2) rfl rfl hx2.1 hx2.2 (fun c3 => ?_) (fun c3 => ?_)
    · have dc3 := (Int.not_lt.mpr c3)
      have hW := hW.2 dc3
      refine wp_g (n := 1) (pc' := 16) (L' := [some (.ref 158), some (.int (iI x1)), some (.int (iI x2)), none, none, none]) (st' := [.ref 158]) rfl ?_
      refine wp_cv (As := []) (rest := []) rfl rfl (S.cell 158 (nc rfl)) (by decide) rfl rfl rfl (Nat.le_of_ble_eq_true rfl) (Nat.le_of_ble_eq_true rfl) (hW _ S) (fun r4 H4 q4 => ?_)
      obtain ⟨v4, m4, γ4, t4, rfl, hv4, S, hW⟩ := q4
      show wp _ _ _ _ _ [.int (iI v4)] _ _
      refine wp_g (n := 3) (pc' := 23) (L' := [some (.ref 158), some (.int (iI x1)), some (.int (iI x2)), some (.int (iI v4)), none, none]) (st' := [.int (iI 12), .int (iI v4)]) rfl ?_
      refine wp_icmpI (a := v4) (b := 12) rfl rfl hv4.1 hv4.2 (by decide) (by decide) (fun c5 => ?_) (fun c5 => ?_)
      · have dc5 := c5
        have hW := hW.1 dc5
        refine wp_g (n := 1) (pc' := 30) (L' := [some (.ref 158), some (.int (iI x1)), some (.int (iI x2)), some (.int (iI v4)), none, none]) (st' := [.ref 158]) rfl ?_
        refine wp_cv (As := []) (rest := []) rfl rfl (S.cell 158 (nc rfl)) (by decide) rfl rfl rfl (Nat.le_of_ble_eq_true rfl) (Nat.le_of_ble_eq_true rfl) (hW _ S) (fun r6 H6 q6 => ?_)
        obtain ⟨m6, γ6, t6, rfl, S, hW⟩ := q6
        show wp _ _ _ _ _ [] _ _
        refine wp_g (n := 4) (pc' := 39) (L' := [some (.ref 158), some (.int (iI x1)), some (.int (iI x2)), some (.int (iI v4)), some (.int (iI 0)), some (.int (iI 0))]) (st' := []) rfl ?_
        exact hW (some (.int (iI x1))) _ S
      · have dc5 := c5
        have hW := hW.2 dc5
        refine wp_g (n := 1) (pc' := 28) (L' := [some (.ref 158), some (.int (iI x1)), some (.int (iI x2)), some (.int (iI v4)), none, none]) (st' := [.int (iI (-5))]) rfl ?_
        exact wp_iret rfl rfl ⟨_, _, _, _, rfl, (by decide), S, hW⟩
    · have dc3 := (Int.not_le.mp c3)
      have hW := hW.1 dc3
      refine wp_g (n := 1) (pc' := 14) (L' := [some (.ref 158), some (.int (iI x1)), some (.int (iI x2)), none, none, none]) (st' := [.int (iI (-2))]) rfl ?_
      exact wp_iret rfl rfl ⟨_, _, _, _, rfl, (by decide), S, hW⟩
theorem vc_X9_settings_39 {E : am_E} {k : Nat} {x1 : Int} {x2 : Int} {y2 : Int} {y3 : Int} {y4 : Int} {y5 : Int} {m : MM} {γ : GM} {t : am_H} {Q : Int → MM → GM → am_H → Prop} (hx1 : rJ x1) (hx2 : rJ x2) (hy2 : rJ y2) (hy3 : rJ y3) (hy4 : rJ y4) (hy5 : rJ y5) (hW : W_X9_settings_39 E k x1 x2 y2 y3 y4 y5 m γ t Q) : hd_X9_settings_39 E k x1 x2 y2 y3 y4 y5 m γ t Q := by
  unfold W_X9_settings_39 at hW
  intro z1 h S
  refine wp_g (n := 3) (pc' := 43) (L' := [some (.ref 158), z1, some (.int (iI y2)), some (.int (iI y3)), some (.int (iI y4)), some (.int (iI y5))]) (st' := [.int (iI y3), .int (iI 1), .int (iI y5)]) rfl ?_
  refine wp_bShl (a := 1) (b := y3) rfl ?_
  have hr1 : rJ (bShl 1 y3) := i32_rg _
  refine wp_icmpI (a := y5) (b := (bShl 1 y3)) rfl rfl hy5.1 hy5.2 hr1.1 hr1.2 (fun c2 => ?_) (fun c2 => ?_)
  · have dc2 := (Int.not_lt.mpr c2)
    have hW := hW.2 dc2
    refine wp_g (n := 1) (pc' := 76) (L' := [some (.ref 158), z1, some (.int (iI y2)), some (.int (iI y3)), some (.int (iI y4)), some (.int (iI y5))]) (st' := [.int (iI y4)]) rfl ?_
    exact wp_iret rfl rfl ⟨_, _, _, _, rfl, hy4, S, hW⟩
  · have dc2 := (Int.not_le.mp c2)
    have hW := hW.1 dc2
    refine wp_g (n := 3) (pc' := 52) (L' := [some (.ref 158), z1, some (.int (iI y2)), some (.int (iI y3)), some (.int (iI y4)), some (.int (iI y5))]) (st' := [.int (iI y5), .ref 158, .int (iI y4)]) rfl ?_
    refine wp_i2l (a := y5) rfl hy5 ?_
    refine wp_cv (As := [.long (lI y5)]) (rest := [.int (iI y4)]) rfl rfl (S.cell 158 (nc rfl)) (by decide) rfl rfl rfl (Nat.le_of_ble_eq_true rfl) (Nat.le_of_ble_eq_true rfl) (hW _ S) (fun r3 H3 q3 => ?_)
    obtain ⟨v3, m3, γ3, t3, rfl, hv3, S, hW⟩ := q3
    show wp _ _ _ _ _ [.int (iI v3), .int (iI y4)] _ _
    refine wp_g (n := 1) (pc' := 57) (L' := [some (.ref 158), z1, some (.int (iI y2)), some (.int (iI y3)), some (.int (iI y4)), some (.int (iI y5))]) (st' := [.int (iI y2), .int (iI v3), .int (iI y4)]) rfl ?_
    refine wp_icmpI (a := v3) (b := y2) rfl rfl hv3.1 hv3.2 hy2.1 hy2.2 (fun c4 => ?_) (fun c4 => ?_)
    · have dc4 := c4
      have hW := hW.2 dc4
      refine wp_g (n := 1) (pc' := 65) (L' := [some (.ref 158), z1, some (.int (iI y2)), some (.int (iI y3)), some (.int (iI y4)), some (.int (iI y5))]) (st' := [.int (iI 0), .int (iI y4)]) rfl ?_
      refine wp_add (a := y4) (b := 0) rfl ?_
      refine wp_g (n := 1) (pc' := 68) (L' := [some (.ref 158), z1, some (.int (iI y2)), some (.int (iI y3)), some (.int (iI (y4 + 0))), some (.int (iI y5))]) (st' := []) rfl ?_
      refine wp_iinc (L' := [some (.ref 158), z1, some (.int (iI y2)), some (.int (iI y3)), some (.int (iI (y4 + 0))), some (.int (iI (y5 + 1)))]) (a := y5) rfl rfl rfl ?_
      refine wp_g (n := 1) (pc' := 39) (L' := [some (.ref 158), z1, some (.int (iI y2)), some (.int (iI y3)), some (.int (iI (y4 + 0))), some (.int (iI (y5 + 1)))]) (st' := []) rfl ?_
      exact hW z1 _ S
    · have dc4 := (Classical.not_not.mp c4)
      have hW := hW.1 dc4
      refine wp_g (n := 2) (pc' := 65) (L' := [some (.ref 158), z1, some (.int (iI y2)), some (.int (iI y3)), some (.int (iI y4)), some (.int (iI y5))]) (st' := [.int (iI 1), .int (iI y4)]) rfl ?_
      refine wp_add (a := y4) (b := 1) rfl ?_
      refine wp_g (n := 1) (pc' := 68) (L' := [some (.ref 158), z1, some (.int (iI y2)), some (.int (iI y3)), some (.int (iI (y4 + 1))), some (.int (iI y5))]) (st' := []) rfl ?_
      refine wp_iinc (L' := [some (.ref 158), z1, some (.int (iI y2)), some (.int (iI y3)), some (.int (iI (y4 + 1))), some (.int (iI (y5 + 1)))]) (a := y5) rfl rfl rfl ?_
      refine wp_g (n := 1) (pc' := 39) (L' := [some (.ref 158), z1, some (.int (iI y2)), some (.int (iI y3)), some (.int (iI (y4 + 1))), some (.int (iI (y5 + 1)))]) (st' := []) rfl ?_
      exact hW z1 _ S
def hd_X9_laysBracket_7 (E : am_E) (k : Nat) (y1 : Int) (y2 : Int) (m : MM) (γ : GM) (t : am_H) (Q : MM → GM → am_H → Prop) : Prop := ∀ (z3 : Option Value), TT (pV Q) E (k + 1) 269 7 [some (.ref 158), some (.int (iI y1)), some (.int (iI y2)), z3] [] m γ t
def hd_X9_laysBracket_33 (E : am_E) (k : Nat) (y1 : Int) (y2 : Int) (m : MM) (γ : GM) (t : am_H) (Q : MM → GM → am_H → Prop) : Prop := ∀ (z3 : Option Value), TT (pV Q) E (k + 1) 269 33 [some (.ref 158), some (.int (iI y1)), some (.int (iI y2)), z3] [] m γ t
def hd_X9_laysBracket_80 (E : am_E) (k : Nat) (y2 : Int) (m : MM) (γ : GM) (t : am_H) (Q : MM → GM → am_H → Prop) : Prop := ∀ (z1 z3 : Option Value), TT (pV Q) E (k + 1) 269 80 [some (.ref 158), z1, some (.int (iI y2)), z3] [] m γ t
def hd_X9_laysBracket_119 (E : am_E) (k : Nat) (y2 : Int) (m : MM) (γ : GM) (t : am_H) (Q : MM → GM → am_H → Prop) : Prop := ∀ (z1 z3 : Option Value), TT (pV Q) E (k + 1) 269 119 [some (.ref 158), z1, some (.int (iI y2)), z3] [] m γ t
abbrev W_X9_laysBracket (E : am_E) (k : Nat) (m : MM) (γ : GM) (t : am_H) (Q : MM → GM → am_H → Prop) : Prop := (TI E k 206 [.ref 158] m γ t (fun v1 m1 γ1 t1 => (hd_X9_laysBracket_7 E k v1 0 m1 γ1 t1 Q)))
abbrev W_X9_laysBracket_7 (E : am_E) (k : Nat) (y1 : Int) (y2 : Int) (m : MM) (γ : GM) (t : am_H) (Q : MM → GM → am_H → Prop) : Prop := (((y2 < 1625) → ((0 ≤ y2 ∧ y2 < 1625) ∧ (hd_X9_laysBracket_7 E k y1 (y2 + 1) (up m 184 (up (m 184) ((y2).toNat) 0)) γ t Q))) ∧ (¬ (y2 < 1625) → (TV E k 264 [.ref 158] m γ t (fun m2 γ2 t2 => (hd_X9_laysBracket_33 E k y1 0 m2 γ2 t2 Q)))))
abbrev W_X9_laysBracket_33 (E : am_E) (k : Nat) (y1 : Int) (y2 : Int) (m : MM) (γ : GM) (t : am_H) (Q : MM → GM → am_H → Prop) : Prop := (((y2 < (bShl 1 y1)) → (TI E k 266 [.ref 158, .long (lI y2)] m γ t (fun v4 m4 γ4 t4 => ((0 ≤ (((25 * v4) + 12) + (m4 158 41)) ∧ (((25 * v4) + 12) + (m4 158 41)) < 1625) ∧ ((0 ≤ (((25 * v4) + 12) + (m4 158 41)) ∧ (((25 * v4) + 12) + (m4 158 41)) < 1625) ∧ (rJ ((m4 184 (((((25 * v4) + 12) + (m4 158 41))).toNat)) + 1) ∧ (hd_X9_laysBracket_33 E k y1 (y2 + 1) (up m4 184 (up (m4 184) (((((25 * v4) + 12) + (m4 158 41))).toNat) ((m4 184 (((((25 * v4) + 12) + (m4 158 41))).toNat)) + 1))) γ4 t4 Q))))))) ∧ (¬ (y2 < (bShl 1 y1)) → (TV E k 265 [.ref 158] m γ t (fun m3 γ3 t3 => (hd_X9_laysBracket_80 E k 0 m3 γ3 t3 Q)))))
abbrev W_X9_laysBracket_80 (E : am_E) (k : Nat) (y2 : Int) (m : MM) (γ : GM) (t : am_H) (Q : MM → GM → am_H → Prop) : Prop := (((y2 < 241) → ((0 ≤ y2 ∧ y2 < 241) ∧ (((y2 = 120) → ((0 ≤ y2 ∧ y2 < 241) ∧ (hd_X9_laysBracket_80 E k (y2 + 1) (up (up m 187 (up (m 187) ((y2).toNat) 0)) 185 (up (m 185) ((y2).toNat) 1)) γ t Q))) ∧ (¬ (y2 = 120) → ((0 ≤ y2 ∧ y2 < 241) ∧ (hd_X9_laysBracket_80 E k (y2 + 1) (up (up m 187 (up (m 187) ((y2).toNat) 0)) 185 (up (m 185) ((y2).toNat) 0)) γ t Q)))))) ∧ (¬ (y2 < 241) → (hd_X9_laysBracket_119 E k 1 m γ t Q)))
abbrev W_X9_laysBracket_119 (E : am_E) (k : Nat) (y2 : Int) (m : MM) (γ : GM) (t : am_H) (Q : MM → GM → am_H → Prop) : Prop := (((y2 < 65) → (TV E k 270 [.ref 158, .int (iI y2)] m γ t (fun m2 γ2 t2 => (TV E k 271 [.ref 158] m2 γ2 t2 (fun m3 γ3 t3 => (hd_X9_laysBracket_119 E k (y2 + 1) m3 γ3 t3 Q)))))) ∧ (¬ (y2 < 65) → (Q m γ t)))
theorem vc_X9_laysBracket {E : am_E} {k : Nat} {m : MM} {γ : GM} {t : am_H} {Q : MM → GM → am_H → Prop} (hW : W_X9_laysBracket E k  m γ t Q) : TV E (k + 1) 269 [.ref 158] m γ t Q := by
  unfold W_X9_laysBracket at hW
  intro h S
  refine wp_g (n := 1) (pc' := 1) (L' := [some (.ref 158), none, none, none]) (st' := [.ref 158]) rfl ?_
  refine wp_cv (As := []) (rest := []) rfl rfl (S.cell 158 (nc rfl)) (by decide) rfl rfl rfl (Nat.le_of_ble_eq_true rfl) (Nat.le_of_ble_eq_true rfl) (hW _ S) (fun r1 H1 q1 => ?_)
  obtain ⟨v1, m1, γ1, t1, rfl, hv1, S, hW⟩ := q1
  show wp _ _ _ _ _ [.int (iI v1)] _ _
  refine wp_g (n := 3) (pc' := 7) (L' := [some (.ref 158), some (.int (iI v1)), some (.int (iI 0)), none]) (st' := []) rfl ?_
  exact hW none _ S
theorem vc_X9_laysBracket_7 {E : am_E} {k : Nat} {y1 : Int} {y2 : Int} {m : MM} {γ : GM} {t : am_H} {Q : MM → GM → am_H → Prop} (hy1 : rJ y1) (hy2 : rJ y2) (hW : W_X9_laysBracket_7 E k y1 y2 m γ t Q) : hd_X9_laysBracket_7 E k y1 y2 m γ t Q := by
  unfold W_X9_laysBracket_7 at hW
  intro z3 h S
  refine wp_g (n := 2) (pc' := 11) (L' := [some (.ref 158), some (.int (iI y1)), some (.int (iI y2)), z3]) (st' := [.int (iI 1625), .int (iI y2)]) rfl ?_
  refine wp_icmpI (a := y2) (b := 1625) rfl rfl hy2.1 hy2.2 (by decide) (by decide) (fun c1 => ?_) (fun c1 => ?_)
  · have dc1 := (Int.not_lt.mpr c1)
    have hW := hW.2 dc1
    refine wp_g (n := 1) (pc' := 28) (L' := [some (.ref 158), some (.int (iI y1)), some (.int (iI y2)), z3]) (st' := [.ref 158]) rfl ?_
    refine wp_cv (As := []) (rest := []) rfl rfl (S.cell 158 (nc rfl)) (by decide) rfl rfl rfl (Nat.le_of_ble_eq_true rfl) (Nat.le_of_ble_eq_true rfl) (hW _ S) (fun r2 H2 q2 => ?_)
    obtain ⟨m2, γ2, t2, rfl, S, hW⟩ := q2
    show wp _ _ _ _ _ [] _ _
    refine wp_g (n := 2) (pc' := 33) (L' := [some (.ref 158), some (.int (iI y1)), some (.int (iI 0)), z3]) (st' := []) rfl ?_
    exact hW z3 _ S
  · have dc1 := (Int.not_le.mp c1)
    have hW := hW.1 dc1
    refine wp_g (n := 1) (pc' := 15) (L' := [some (.ref 158), some (.int (iI y1)), some (.int (iI y2)), z3]) (st' := [.ref 158]) rfl ?_
    refine wp_getf (v := .ref 184) rfl rfl (S.cell 158 (nc rfl)) (by decide) rfl ?_
    refine wp_g (n := 2) (pc' := 20) (L' := [some (.ref 158), some (.int (iI y1)), some (.int (iI y2)), z3]) (st' := [.int (iI 0), .int (iI y2), .ref 184]) rfl ?_
    obtain ⟨p4, hW⟩ := hW
    refine wp_iasF (n := 1625) (F := (m 184)) (y := 0) rfl (S.cell 184 (nc rfl)) p4.1 p4.2 (by decide) (fun H3 hl3 hz3 hf3 => ?_)
    have S : ST H3 (up m 184 (up (m 184) ((y2).toNat) 0)) γ t := S.setI 184 (nc rfl) hl3 hz3 hf3 (by decide) (by decide)
    refine wp_iinc (L' := [some (.ref 158), some (.int (iI y1)), some (.int (iI (y2 + 1))), z3]) (a := y2) rfl rfl rfl ?_
    refine wp_g (n := 1) (pc' := 7) (L' := [some (.ref 158), some (.int (iI y1)), some (.int (iI (y2 + 1))), z3]) (st' := []) rfl ?_
    exact hW z3 _ S
theorem vc_X9_laysBracket_33 {E : am_E} {k : Nat} {y1 : Int} {y2 : Int} {m : MM} {γ : GM} {t : am_H} {Q : MM → GM → am_H → Prop} (hy1 : rJ y1) (hy2 : rJ y2) (hW : W_X9_laysBracket_33 E k y1 y2 m γ t Q) : hd_X9_laysBracket_33 E k y1 y2 m γ t Q := by
  unfold W_X9_laysBracket_33 at hW
  intro z3 h S
  refine wp_g (n := 3) (pc' := 36) (L' := [some (.ref 158), some (.int (iI y1)), some (.int (iI y2)), z3]) (st' := [.int (iI y1), .int (iI 1), .int (iI y2)]) rfl ?_
  refine wp_bShl (a := 1) (b := y1) rfl ?_
  have hr1 : rJ (bShl 1 y1) := i32_rg _
  refine wp_icmpI (a := y2) (b := (bShl 1 y1)) rfl rfl hy2.1 hy2.2 hr1.1 hr1.2 (fun c2 => ?_) (fun c2 => ?_)
  · have dc2 := (Int.not_lt.mpr c2)
    have hW := hW.2 dc2
    refine wp_g (n := 1) (pc' := 75) (L' := [some (.ref 158), some (.int (iI y1)), some (.int (iI y2)), z3]) (st' := [.ref 158]) rfl ?_
    refine wp_cv (As := []) (rest := []) rfl rfl (S.cell 158 (nc rfl)) (by decide) rfl rfl rfl (Nat.le_of_ble_eq_true rfl) (Nat.le_of_ble_eq_true rfl) (hW _ S) (fun r3 H3 q3 => ?_)
    obtain ⟨m3, γ3, t3, rfl, S, hW⟩ := q3
    show wp _ _ _ _ _ [] _ _
    refine wp_g (n := 2) (pc' := 80) (L' := [some (.ref 158), some (.int (iI y1)), some (.int (iI 0)), z3]) (st' := []) rfl ?_
    exact hW (some (.int (iI y1))) z3 _ S
  · have dc2 := (Int.not_le.mp c2)
    have hW := hW.1 dc2
    refine wp_g (n := 2) (pc' := 42) (L' := [some (.ref 158), some (.int (iI y1)), some (.int (iI y2)), z3]) (st' := [.int (iI y2), .ref 158]) rfl ?_
    refine wp_i2l (a := y2) rfl hy2 ?_
    refine wp_cv (As := [.long (lI y2)]) (rest := []) rfl rfl (S.cell 158 (nc rfl)) (by decide) rfl rfl rfl (Nat.le_of_ble_eq_true rfl) (Nat.le_of_ble_eq_true rfl) (hW _ S) (fun r4 H4 q4 => ?_)
    obtain ⟨v4, m4, γ4, t4, rfl, hv4, S, hW⟩ := q4
    show wp _ _ _ _ _ [.int (iI v4)] _ _
    refine wp_g (n := 2) (pc' := 48) (L' := [some (.ref 158), some (.int (iI y1)), some (.int (iI y2)), some (.int (iI v4))]) (st' := [.ref 158]) rfl ?_
    refine wp_getf (v := .ref 184) rfl rfl (S.cell 158 (nc rfl)) (by decide) rfl ?_
    refine wp_g (n := 2) (pc' := 54) (L' := [some (.ref 158), some (.int (iI y1)), some (.int (iI y2)), some (.int (iI v4))]) (st' := [.int (iI v4), .int (iI 25), .ref 184]) rfl ?_
    refine wp_mul (a := 25) (b := v4) rfl ?_
    refine wp_g (n := 1) (pc' := 57) (L' := [some (.ref 158), some (.int (iI y1)), some (.int (iI y2)), some (.int (iI v4))]) (st' := [.int (iI 12), .int (iI (25 * v4)), .ref 184]) rfl ?_
    refine wp_add (a := (25 * v4)) (b := 12) rfl ?_
    refine wp_g (n := 1) (pc' := 59) (L' := [some (.ref 158), some (.int (iI y1)), some (.int (iI y2)), some (.int (iI v4))]) (st' := [.ref 158, .int (iI ((25 * v4) + 12)), .ref 184]) rfl ?_
    refine wp_getf (v := .int (iI (m4 158 41))) rfl rfl (S.cell 158 (nc rfl)) (by decide) rfl ?_
    have hr5 : rJ (m4 158 41) := S.rg 158 41 (nl rfl)
    refine wp_add (a := ((25 * v4) + 12)) (b := (m4 158 41)) rfl ?_
    refine wp_g (n := 1) (pc' := 64) (L' := [some (.ref 158), some (.int (iI y1)), some (.int (iI y2)), some (.int (iI v4))]) (st' := [.int (iI (((25 * v4) + 12) + (m4 158 41))), .ref 184, .int (iI (((25 * v4) + 12) + (m4 158 41))), .ref 184]) rfl ?_
    obtain ⟨p6, hW⟩ := hW
    refine wp_iald (n := 1625) (F := (m4 184)) rfl (S.cell 184 (nc rfl)) (by decide) p6.1 p6.2 (by decide) ?_
    show wp _ _ _ _ _ [.int (iI (m4 184 (((((25 * v4) + 12) + (m4 158 41))).toNat))), .int (iI (((25 * v4) + 12) + (m4 158 41))), .ref 184] _ _
    have hr7 : rJ (m4 184 (((((25 * v4) + 12) + (m4 158 41))).toNat)) := S.rg 184 (((((25 * v4) + 12) + (m4 158 41))).toNat) (nl rfl)
    refine wp_g (n := 1) (pc' := 66) (L' := [some (.ref 158), some (.int (iI y1)), some (.int (iI y2)), some (.int (iI v4))]) (st' := [.int (iI 1), .int (iI (m4 184 (((((25 * v4) + 12) + (m4 158 41))).toNat))), .int (iI (((25 * v4) + 12) + (m4 158 41))), .ref 184]) rfl ?_
    refine wp_add (a := (m4 184 (((((25 * v4) + 12) + (m4 158 41))).toNat))) (b := 1) rfl ?_
    obtain ⟨p9, hW⟩ := hW
    obtain ⟨p10, hW⟩ := hW
    refine wp_iasF (n := 1625) (F := (m4 184)) (y := ((m4 184 (((((25 * v4) + 12) + (m4 158 41))).toNat)) + 1)) rfl (S.cell 184 (nc rfl)) p9.1 p9.2 (by decide) (fun H8 hl8 hz8 hf8 => ?_)
    have S : ST H8 (up m4 184 (up (m4 184) (((((25 * v4) + 12) + (m4 158 41))).toNat) ((m4 184 (((((25 * v4) + 12) + (m4 158 41))).toNat)) + 1))) γ4 t4 := S.setI 184 (nc rfl) hl8 hz8 hf8 p10.1 p10.2
    refine wp_iinc (L' := [some (.ref 158), some (.int (iI y1)), some (.int (iI (y2 + 1))), some (.int (iI v4))]) (a := y2) rfl rfl rfl ?_
    refine wp_g (n := 1) (pc' := 33) (L' := [some (.ref 158), some (.int (iI y1)), some (.int (iI (y2 + 1))), some (.int (iI v4))]) (st' := []) rfl ?_
    exact hW (some (.int (iI v4))) _ S
theorem vc_X9_laysBracket_80 {E : am_E} {k : Nat} {y2 : Int} {m : MM} {γ : GM} {t : am_H} {Q : MM → GM → am_H → Prop} (hy2 : rJ y2) (hW : W_X9_laysBracket_80 E k y2 m γ t Q) : hd_X9_laysBracket_80 E k y2 m γ t Q := by
  unfold W_X9_laysBracket_80 at hW
  intro z1 z3 h S
  refine wp_g (n := 2) (pc' := 84) (L' := [some (.ref 158), z1, some (.int (iI y2)), z3]) (st' := [.int (iI 241), .int (iI y2)]) rfl ?_
  refine wp_icmpI (a := y2) (b := 241) rfl rfl hy2.1 hy2.2 (by decide) (by decide) (fun c1 => ?_) (fun c1 => ?_)
  · have dc1 := (Int.not_lt.mpr c1)
    have hW := hW.2 dc1
    refine wp_g (n := 2) (pc' := 119) (L' := [some (.ref 158), (bif am_c2 z1 then none else z1), some (.int (iI 1)), z3]) (st' := []) rfl ?_
    exact hW (bif am_c2 z1 then none else z1) z3 _ S
  · have dc1 := (Int.not_le.mp c1)
    have hW := hW.1 dc1
    refine wp_g (n := 1) (pc' := 88) (L' := [some (.ref 158), z1, some (.int (iI y2)), z3]) (st' := [.ref 158]) rfl ?_
    refine wp_getf (v := .ref 187) rfl rfl (S.cell 158 (nc rfl)) (by decide) rfl ?_
    refine wp_g (n := 2) (pc' := 93) (L' := [some (.ref 158), z1, some (.int (iI y2)), z3]) (st' := [.long (lI 0), .int (iI y2), .ref 187]) rfl ?_
    obtain ⟨p3, hW⟩ := hW
    refine wp_lasF (n := 241) (F := (m 187)) (y := 0) rfl (S.cell 187 (nc rfl)) p3.1 p3.2 (by decide) (fun H2 hl2 hz2 hf2 => ?_)
    have S : ST H2 (up m 187 (up (m 187) ((y2).toNat) 0)) γ t := S.setL 187 (nc rfl) (lc rfl) hl2 hz2 hf2 (by decide) (by decide)
    refine wp_g (n := 1) (pc' := 95) (L' := [some (.ref 158), z1, some (.int (iI y2)), z3]) (st' := [.ref 158]) rfl ?_
    refine wp_getf (v := .ref 185) rfl rfl (S.cell 158 (nc rfl)) (by decide) rfl ?_
    refine wp_g (n := 3) (pc' := 102) (L' := [some (.ref 158), z1, some (.int (iI y2)), z3]) (st' := [.int (iI 120), .int (iI y2), .int (iI y2), .ref 185]) rfl ?_
    refine wp_icmpI (a := y2) (b := 120) rfl rfl hy2.1 hy2.2 (by decide) (by decide) (fun c4 => ?_) (fun c4 => ?_)
    · have dc4 := c4
      have hW := hW.2 dc4
      refine wp_g (n := 1) (pc' := 110) (L' := [some (.ref 158), z1, some (.int (iI y2)), z3]) (st' := [.long (lI 0), .int (iI y2), .ref 185]) rfl ?_
      obtain ⟨p6, hW⟩ := hW
      refine wp_lasF (n := 241) (F := (m 185)) (y := 0) rfl (S.cell 185 (nc rfl)) p6.1 p6.2 (by decide) (fun H5 hl5 hz5 hf5 => ?_)
      have S : ST H5 (up (up m 187 (up (m 187) ((y2).toNat) 0)) 185 (up (m 185) ((y2).toNat) 0)) γ t := S.setL 185 (nc rfl) (lc rfl) hl5 hz5 hf5 (by decide) (by decide)
      refine wp_iinc (L' := [some (.ref 158), (bif am_c2 z1 then none else z1), some (.int (iI (y2 + 1))), z3]) (a := y2) rfl rfl rfl ?_
      refine wp_g (n := 1) (pc' := 80) (L' := [some (.ref 158), (bif am_c2 z1 then none else z1), some (.int (iI (y2 + 1))), z3]) (st' := []) rfl ?_
      exact hW (bif am_c2 z1 then none else z1) z3 _ S
    · have dc4 := (Classical.not_not.mp c4)
      have hW := hW.1 dc4
      refine wp_g (n := 2) (pc' := 110) (L' := [some (.ref 158), z1, some (.int (iI y2)), z3]) (st' := [.long (lI 1), .int (iI y2), .ref 185]) rfl ?_
      obtain ⟨p8, hW⟩ := hW
      refine wp_lasF (n := 241) (F := (m 185)) (y := 1) rfl (S.cell 185 (nc rfl)) p8.1 p8.2 (by decide) (fun H7 hl7 hz7 hf7 => ?_)
      have S : ST H7 (up (up m 187 (up (m 187) ((y2).toNat) 0)) 185 (up (m 185) ((y2).toNat) 1)) γ t := S.setL 185 (nc rfl) (lc rfl) hl7 hz7 hf7 (by decide) (by decide)
      refine wp_iinc (L' := [some (.ref 158), (bif am_c2 z1 then none else z1), some (.int (iI (y2 + 1))), z3]) (a := y2) rfl rfl rfl ?_
      refine wp_g (n := 1) (pc' := 80) (L' := [some (.ref 158), (bif am_c2 z1 then none else z1), some (.int (iI (y2 + 1))), z3]) (st' := []) rfl ?_
      exact hW (bif am_c2 z1 then none else z1) z3 _ S
theorem vc_X9_laysBracket_119 {E : am_E} {k : Nat} {y2 : Int} {m : MM} {γ : GM} {t : am_H} {Q : MM → GM → am_H → Prop} (hy2 : rJ y2) (hW : W_X9_laysBracket_119 E k y2 m γ t Q) : hd_X9_laysBracket_119 E k y2 m γ t Q := by
  unfold W_X9_laysBracket_119 at hW
  intro z1 z3 h S
  refine wp_g (n := 2) (pc' := 122) (L' := [some (.ref 158), z1, some (.int (iI y2)), z3]) (st' := [.int (iI 65), .int (iI y2)]) rfl ?_
  refine wp_icmpI (a := y2) (b := 65) rfl rfl hy2.1 hy2.2 (by decide) (by decide) (fun c1 => ?_) (fun c1 => ?_)
  · have dc1 := (Int.not_lt.mpr c1)
    have hW := hW.2 dc1
    exact wp_vret rfl rfl ⟨_, _, _, rfl, S, hW⟩
  · have dc1 := (Int.not_le.mp c1)
    have hW := hW.1 dc1
    refine wp_g (n := 2) (pc' := 127) (L' := [some (.ref 158), z1, some (.int (iI y2)), z3]) (st' := [.int (iI y2), .ref 158]) rfl ?_
    refine wp_cv (As := [.int (iI y2)]) (rest := []) rfl rfl (S.cell 158 (nc rfl)) (by decide) rfl rfl rfl (Nat.le_of_ble_eq_true rfl) (Nat.le_of_ble_eq_true rfl) (hW _ S) (fun r2 H2 q2 => ?_)
    obtain ⟨m2, γ2, t2, rfl, S, hW⟩ := q2
    show wp _ _ _ _ _ [] _ _
    refine wp_g (n := 1) (pc' := 131) (L' := [some (.ref 158), z1, some (.int (iI y2)), z3]) (st' := [.ref 158]) rfl ?_
    refine wp_cv (As := []) (rest := []) rfl rfl (S.cell 158 (nc rfl)) (by decide) rfl rfl rfl (Nat.le_of_ble_eq_true rfl) (Nat.le_of_ble_eq_true rfl) (hW _ S) (fun r3 H3 q3 => ?_)
    obtain ⟨m3, γ3, t3, rfl, S, hW⟩ := q3
    show wp _ _ _ _ _ [] _ _
    refine wp_iinc (L' := [some (.ref 158), (bif am_c2 z1 then none else z1), some (.int (iI (y2 + 1))), z3]) (a := y2) rfl rfl rfl ?_
    refine wp_g (n := 1) (pc' := 119) (L' := [some (.ref 158), (bif am_c2 z1 then none else z1), some (.int (iI (y2 + 1))), z3]) (st' := []) rfl ?_
    exact hW (bif am_c2 z1 then none else z1) z3 _ S
def hd_X9_adds_3 (E : am_E) (k : Nat) (x1 : Int) (y1 : Int) (y2 : Int) (m : MM) (γ : GM) (t : am_H) (Q : MM → GM → am_H → Prop) : Prop := ∀ (z3 z4 : Option Value), TT (pV Q) E (k + 1) 270 3 [some (.ref 158), some (.int (iI y1)), some (.int (iI y2)), z3, z4] [] m γ t
def hd_X9_adds_27 (E : am_E) (k : Nat) (x1 : Int) (y1 : Int) (y2 : Int) (y3 : Int) (y4 : Int) (m : MM) (γ : GM) (t : am_H) (Q : MM → GM → am_H → Prop) : Prop := TT (pV Q) E (k + 1) 270 27 [some (.ref 158), some (.int (iI y1)), some (.int (iI y2)), some (.int (iI y3)), some (.int (iI y4))] [] m γ t
abbrev W_X9_adds (E : am_E) (k : Nat) (x1 : Int) (m : MM) (γ : GM) (t : am_H) (Q : MM → GM → am_H → Prop) : Prop := (hd_X9_adds_3 E k x1 x1 (-12) m γ t Q)
abbrev W_X9_adds_3 (E : am_E) (k : Nat) (x1 : Int) (y1 : Int) (y2 : Int) (m : MM) (γ : GM) (t : am_H) (Q : MM → GM → am_H → Prop) : Prop := (((y2 ≤ 12) → ((0 ≤ (((25 * y1) + 12) + y2) ∧ (((25 * y1) + 12) + y2) < 1625) ∧ (hd_X9_adds_27 E k x1 y1 y2 (m 184 (((((25 * y1) + 12) + y2)).toNat)) 0 m γ t Q))) ∧ (¬ (y2 ≤ 12) → (Q m γ t)))
abbrev W_X9_adds_27 (E : am_E) (k : Nat) (x1 : Int) (y1 : Int) (y2 : Int) (y3 : Int) (y4 : Int) (m : MM) (γ : GM) (t : am_H) (Q : MM → GM → am_H → Prop) : Prop := (((y4 < 241) → (((y3 ≤ 0) → (hd_X9_adds_3 E k x1 y1 (y2 + 1) m γ t Q)) ∧ (¬ (y3 ≤ 0) → ((0 ≤ y4 ∧ y4 < 241) ∧ (rJ (y4 - y2) ∧ (TI E k 192 [.long (lI (y4 - y2)), .long (lI 0), .long (lI 240)] m γ t (fun v6 m6 γ6 t6 => (((v6 = 0) → ((0 ≤ y4 ∧ y4 < 241) ∧ (rK ((m 187 ((y4).toNat)) + 0) ∧ (hd_X9_adds_27 E k x1 y1 y2 y3 (y4 + 1) (up m6 187 (up (m6 187) ((y4).toNat) ((m 187 ((y4).toNat)) + 0))) γ6 t6 Q)))) ∧ (¬ (v6 = 0) → ((0 ≤ (y4 - y2) ∧ (y4 - y2) < 241) ∧ ((0 ≤ y4 ∧ y4 < 241) ∧ (rK ((m 187 ((y4).toNat)) + (y3 * (m6 185 (((y4 - y2)).toNat)))) ∧ (hd_X9_adds_27 E k x1 y1 y2 y3 (y4 + 1) (up m6 187 (up (m6 187) ((y4).toNat) ((m 187 ((y4).toNat)) + (y3 * (m6 185 (((y4 - y2)).toNat)))))) γ6 t6 Q))))))))))))) ∧ (¬ (y4 < 241) → (hd_X9_adds_3 E k x1 y1 (y2 + 1) m γ t Q)))
theorem vc_X9_adds {E : am_E} {k : Nat} {x1 : Int} {m : MM} {γ : GM} {t : am_H} {Q : MM → GM → am_H → Prop} (hx1 : rJ x1) (hW : W_X9_adds E k x1 m γ t Q) : TV E (k + 1) 270 [.ref 158, .int (iI x1)] m γ t Q := by
  unfold W_X9_adds at hW
  intro h S
  refine wp_g (n := 2) (pc' := 3) (L' := [some (.ref 158), some (.int (iI x1)), some (.int (iI (-12))), none, none]) (st' := []) rfl ?_
  exact hW none none _ S
theorem vc_X9_adds_3 {E : am_E} {k : Nat} {x1 : Int} {y1 : Int} {y2 : Int} {m : MM} {γ : GM} {t : am_H} {Q : MM → GM → am_H → Prop} (hx1 : rJ x1) (hy1 : rJ y1) (hy2 : rJ y2) (hW : W_X9_adds_3 E k x1 y1 y2 m γ t Q) : hd_X9_adds_3 E k x1 y1 y2 m γ t Q := by
  unfold W_X9_adds_3 at hW
  intro z3 z4 h S
  refine wp_g (n := 2) (pc' := 6) (L' := [some (.ref 158), some (.int (iI y1)), some (.int (iI y2)), z3, z4]) (st' := [.int (iI 12), .int (iI y2)]) rfl ?_
  refine wp_icmpI (a := y2) (b := 12) rfl rfl hy2.1 hy2.2 (by decide) (by decide) (fun c1 => ?_) (fun c1 => ?_)
  · have dc1 := (Int.not_le.mpr c1)
    have hW := hW.2 dc1
    exact wp_vret rfl rfl ⟨_, _, _, rfl, S, hW⟩
  · have dc1 := (Int.not_lt.mp c1)
    have hW := hW.1 dc1
    refine wp_g (n := 1) (pc' := 10) (L' := [some (.ref 158), some (.int (iI y1)), some (.int (iI y2)), z3, z4]) (st' := [.ref 158]) rfl ?_
    refine wp_getf (v := .ref 184) rfl rfl (S.cell 158 (nc rfl)) (by decide) rfl ?_
    refine wp_g (n := 2) (pc' := 16) (L' := [some (.ref 158), some (.int (iI y1)), some (.int (iI y2)), z3, z4]) (st' := [.int (iI y1), .int (iI 25), .ref 184]) rfl ?_
    refine wp_mul (a := 25) (b := y1) rfl ?_
    refine wp_g (n := 1) (pc' := 19) (L' := [some (.ref 158), some (.int (iI y1)), some (.int (iI y2)), z3, z4]) (st' := [.int (iI 12), .int (iI (25 * y1)), .ref 184]) rfl ?_
    refine wp_add (a := (25 * y1)) (b := 12) rfl ?_
    refine wp_g (n := 1) (pc' := 21) (L' := [some (.ref 158), some (.int (iI y1)), some (.int (iI y2)), z3, z4]) (st' := [.int (iI y2), .int (iI ((25 * y1) + 12)), .ref 184]) rfl ?_
    refine wp_add (a := ((25 * y1) + 12)) (b := y2) rfl ?_
    obtain ⟨p2, hW⟩ := hW
    refine wp_iald (n := 1625) (F := (m 184)) rfl (S.cell 184 (nc rfl)) (by decide) p2.1 p2.2 (by decide) ?_
    show wp _ _ _ _ _ [.int (iI (m 184 (((((25 * y1) + 12) + y2)).toNat)))] _ _
    have hr3 : rJ (m 184 (((((25 * y1) + 12) + y2)).toNat)) := S.rg 184 (((((25 * y1) + 12) + y2)).toNat) (nl rfl)
    refine wp_g (n := 3) (pc' := 27) (L' := [some (.ref 158), some (.int (iI y1)), some (.int (iI y2)), some (.int (iI (m 184 (((((25 * y1) + 12) + y2)).toNat)))), some (.int (iI 0))]) (st' := []) rfl ?_
    exact hW _ S
theorem vc_X9_adds_27 {E : am_E} {k : Nat} {x1 : Int} {y1 : Int} {y2 : Int} {y3 : Int} {y4 : Int} {m : MM} {γ : GM} {t : am_H} {Q : MM → GM → am_H → Prop} (hx1 : rJ x1) (hy1 : rJ y1) (hy2 : rJ y2) (hy3 : rJ y3) (hy4 : rJ y4) (hW : W_X9_adds_27 E k x1 y1 y2 y3 y4 m γ t Q) : hd_X9_adds_27 E k x1 y1 y2 y3 y4 m γ t Q := by
  unfold W_X9_adds_27 at hW
  intro h S
  refine wp_g (n := 2) (pc' := 32) (L' := [some (.ref 158), some (.int (iI y1)), some (.int (iI y2)), some (.int (iI y3)), some (.int (iI y4))]) (st' := [.int (iI 241), .int (iI y4)]) rfl ?_
  refine wp_icmpI (a := y4) (b := 241) rfl rfl hy4.1 hy4.2 (by decide) (by decide) (fun c1 => ?_) (fun c1 => ?_)
  · have dc1 := (Int.not_lt.mpr c1)
    have hW := hW.2 dc1
    refine wp_iinc (L' := [some (.ref 158), some (.int (iI y1)), some (.int (iI (y2 + 1))), some (.int (iI y3)), some (.int (iI y4))]) (a := y2) rfl rfl rfl ?_
    refine wp_g (n := 1) (pc' := 3) (L' := [some (.ref 158), some (.int (iI y1)), some (.int (iI (y2 + 1))), some (.int (iI y3)), some (.int (iI y4))]) (st' := []) rfl ?_
    exact hW (some (.int (iI y3))) (some (.int (iI y4))) _ S
  · have dc1 := (Int.not_le.mp c1)
    have hW := hW.1 dc1
    refine wp_g (n := 1) (pc' := 36) (L' := [some (.ref 158), some (.int (iI y1)), some (.int (iI y2)), some (.int (iI y3)), some (.int (iI y4))]) (st' := [.int (iI y3)]) rfl ?_
    refine wp_ifI (a := y3) rfl rfl hy3.1 hy3.2 (fun c2 => ?_) (fun c2 => ?_)
    · have dc2 := c2
      have hW := hW.1 dc2
      refine wp_iinc (L' := [some (.ref 158), some (.int (iI y1)), some (.int (iI (y2 + 1))), some (.int (iI y3)), some (.int (iI y4))]) (a := y2) rfl rfl rfl ?_
      refine wp_g (n := 1) (pc' := 3) (L' := [some (.ref 158), some (.int (iI y1)), some (.int (iI (y2 + 1))), some (.int (iI y3)), some (.int (iI y4))]) (st' := []) rfl ?_
      exact hW (some (.int (iI y3))) (some (.int (iI y4))) _ S
    · have dc2 := c2
      have hW := hW.2 dc2
      refine wp_g (n := 1) (pc' := 40) (L' := [some (.ref 158), some (.int (iI y1)), some (.int (iI y2)), some (.int (iI y3)), some (.int (iI y4))]) (st' := [.ref 158]) rfl ?_
      refine wp_getf (v := .ref 187) rfl rfl (S.cell 158 (nc rfl)) (by decide) rfl ?_
      refine wp_g (n := 2) (pc' := 46) (L' := [some (.ref 158), some (.int (iI y1)), some (.int (iI y2)), some (.int (iI y3)), some (.int (iI y4))]) (st' := [.int (iI y4), .ref 187, .int (iI y4), .ref 187]) rfl ?_
      obtain ⟨p3, hW⟩ := hW
      refine wp_lald (n := 241) (F := (m 187)) rfl (S.cell 187 (nc rfl)) (by decide) p3.1 p3.2 (by decide) ?_
      show wp _ _ _ _ _ [.long (lI (m 187 ((y4).toNat))), .int (iI y4), .ref 187] _ _
      have hr4 : rK (m 187 ((y4).toNat)) := S.rl 187 ((y4).toNat)
      refine wp_g (n := 2) (pc' := 50) (L' := [some (.ref 158), some (.int (iI y1)), some (.int (iI y2)), some (.int (iI y3)), some (.int (iI y4))]) (st' := [.int (iI y2), .int (iI y4), .long (lI (m 187 ((y4).toNat))), .int (iI y4), .ref 187]) rfl ?_
      refine wp_sub (a := y4) (b := y2) rfl ?_
      obtain ⟨p5, hW⟩ := hW
      refine wp_i2l (a := (y4 - y2)) rfl p5 ?_
      refine wp_g (n := 2) (pc' := 56) (L' := [some (.ref 158), some (.int (iI y1)), some (.int (iI y2)), some (.int (iI y3)), some (.int (iI y4))]) (st' := [.long (lI 240), .long (lI 0), .long (lI (y4 - y2)), .long (lI (m 187 ((y4).toNat))), .int (iI y4), .ref 187]) rfl ?_
      refine wp_cs (As := [.long (lI (y4 - y2)), .long (lI 0), .long (lI 240)]) (rest := [.long (lI (m 187 ((y4).toNat))), .int (iI y4), .ref 187]) rfl rfl rfl rfl (Nat.le_of_ble_eq_true rfl) (Nat.le_of_ble_eq_true rfl) (hW _ S) (fun r6 H6 q6 => ?_)
      obtain ⟨v6, m6, γ6, t6, rfl, hv6, S, hW⟩ := q6
      show wp _ _ _ _ _ [.int (iI v6), .long (lI (m 187 ((y4).toNat))), .int (iI y4), .ref 187] _ _
      refine wp_ifI (a := v6) rfl rfl hv6.1 hv6.2 (fun c7 => ?_) (fun c7 => ?_)
      · have dc7 := c7
        have hW := hW.1 dc7
        refine wp_g (n := 1) (pc' := 78) (L' := [some (.ref 158), some (.int (iI y1)), some (.int (iI y2)), some (.int (iI y3)), some (.int (iI y4))]) (st' := [.long (lI 0), .long (lI (m 187 ((y4).toNat))), .int (iI y4), .ref 187]) rfl ?_
        refine wp_ladd (a := (m 187 ((y4).toNat))) (b := 0) rfl ?_
        obtain ⟨p9, hW⟩ := hW
        obtain ⟨p10, hW⟩ := hW
        refine wp_lasF (n := 241) (F := (m6 187)) (y := ((m 187 ((y4).toNat)) + 0)) rfl (S.cell 187 (nc rfl)) p9.1 p9.2 (by decide) (fun H8 hl8 hz8 hf8 => ?_)
        have S : ST H8 (up m6 187 (up (m6 187) ((y4).toNat) ((m 187 ((y4).toNat)) + 0))) γ6 t6 := S.setL 187 (nc rfl) (lc rfl) hl8 hz8 hf8 p10.1 p10.2
        refine wp_iinc (L' := [some (.ref 158), some (.int (iI y1)), some (.int (iI y2)), some (.int (iI y3)), some (.int (iI (y4 + 1)))]) (a := y4) rfl rfl rfl ?_
        refine wp_g (n := 1) (pc' := 27) (L' := [some (.ref 158), some (.int (iI y1)), some (.int (iI y2)), some (.int (iI y3)), some (.int (iI (y4 + 1)))]) (st' := []) rfl ?_
        exact hW _ S
      · have dc7 := c7
        have hW := hW.2 dc7
        refine wp_g (n := 1) (pc' := 63) (L' := [some (.ref 158), some (.int (iI y1)), some (.int (iI y2)), some (.int (iI y3)), some (.int (iI y4))]) (st' := [.int (iI y3), .long (lI (m 187 ((y4).toNat))), .int (iI y4), .ref 187]) rfl ?_
        refine wp_i2l (a := y3) rfl hy3 ?_
        refine wp_g (n := 1) (pc' := 65) (L' := [some (.ref 158), some (.int (iI y1)), some (.int (iI y2)), some (.int (iI y3)), some (.int (iI y4))]) (st' := [.ref 158, .long (lI y3), .long (lI (m 187 ((y4).toNat))), .int (iI y4), .ref 187]) rfl ?_
        refine wp_getf (v := .ref 185) rfl rfl (S.cell 158 (nc rfl)) (by decide) rfl ?_
        refine wp_g (n := 2) (pc' := 71) (L' := [some (.ref 158), some (.int (iI y1)), some (.int (iI y2)), some (.int (iI y3)), some (.int (iI y4))]) (st' := [.int (iI y2), .int (iI y4), .ref 185, .long (lI y3), .long (lI (m 187 ((y4).toNat))), .int (iI y4), .ref 187]) rfl ?_
        refine wp_sub (a := y4) (b := y2) rfl ?_
        obtain ⟨p11, hW⟩ := hW
        refine wp_lald (n := 241) (F := (m6 185)) rfl (S.cell 185 (nc rfl)) (by decide) p11.1 p11.2 (by decide) ?_
        show wp _ _ _ _ _ [.long (lI (m6 185 (((y4 - y2)).toNat))), .long (lI y3), .long (lI (m 187 ((y4).toNat))), .int (iI y4), .ref 187] _ _
        have hr12 : rK (m6 185 (((y4 - y2)).toNat)) := S.rl 185 (((y4 - y2)).toNat)
        refine wp_lmul (a := y3) (b := (m6 185 (((y4 - y2)).toNat))) rfl ?_
        refine wp_g (n := 1) (pc' := 78) (L' := [some (.ref 158), some (.int (iI y1)), some (.int (iI y2)), some (.int (iI y3)), some (.int (iI y4))]) (st' := [.long (lI (y3 * (m6 185 (((y4 - y2)).toNat)))), .long (lI (m 187 ((y4).toNat))), .int (iI y4), .ref 187]) rfl ?_
        refine wp_ladd (a := (m 187 ((y4).toNat))) (b := (y3 * (m6 185 (((y4 - y2)).toNat)))) rfl ?_
        obtain ⟨p14, hW⟩ := hW
        obtain ⟨p15, hW⟩ := hW
        refine wp_lasF (n := 241) (F := (m6 187)) (y := ((m 187 ((y4).toNat)) + (y3 * (m6 185 (((y4 - y2)).toNat))))) rfl (S.cell 187 (nc rfl)) p14.1 p14.2 (by decide) (fun H13 hl13 hz13 hf13 => ?_)
        have S : ST H13 (up m6 187 (up (m6 187) ((y4).toNat) ((m 187 ((y4).toNat)) + (y3 * (m6 185 (((y4 - y2)).toNat)))))) γ6 t6 := S.setL 187 (nc rfl) (lc rfl) hl13 hz13 hf13 p15.1 p15.2
        refine wp_iinc (L' := [some (.ref 158), some (.int (iI y1)), some (.int (iI y2)), some (.int (iI y3)), some (.int (iI (y4 + 1)))]) (a := y4) rfl rfl rfl ?_
        refine wp_g (n := 1) (pc' := 27) (L' := [some (.ref 158), some (.int (iI y1)), some (.int (iI y2)), some (.int (iI y3)), some (.int (iI (y4 + 1)))]) (st' := []) rfl ?_
        exact hW _ S
def hd_X9_multiplies_2 (E : am_E) (k : Nat) (y1 : Int) (m : MM) (γ : GM) (t : am_H) (Q : MM → GM → am_H → Prop) : Prop := TT (pV Q) E k 271 2 [some (.ref 158), some (.int (iI y1))] [] m γ t
def hd_X9_multiplies_61 (E : am_E) (k : Nat) (y1 : Int) (m : MM) (γ : GM) (t : am_H) (Q : MM → GM → am_H → Prop) : Prop := TT (pV Q) E k 271 61 [some (.ref 158), some (.int (iI y1))] [] m γ t
abbrev W_X9_multiplies (E : am_E) (k : Nat) (m : MM) (γ : GM) (t : am_H) (Q : MM → GM → am_H → Prop) : Prop := (hd_X9_multiplies_2 E k 0 m γ t Q)
abbrev W_X9_multiplies_2 (E : am_E) (k : Nat) (y1 : Int) (m : MM) (γ : GM) (t : am_H) (Q : MM → GM → am_H → Prop) : Prop := (((y1 < 241) → (((y1 ≤ 1) → (((y1 < 239) → ((0 ≤ (y1 + 2) ∧ (y1 + 2) < 241) ∧ ((0 ≤ y1 ∧ y1 < 241) ∧ (rK ((-0) - (m 185 (((y1 + 2)).toNat))) ∧ (hd_X9_multiplies_2 E k (y1 + 1) (up m 186 (up (m 186) ((y1).toNat) ((-0) - (m 185 (((y1 + 2)).toNat))))) γ t Q))))) ∧ (¬ (y1 < 239) → ((0 ≤ y1 ∧ y1 < 241) ∧ (hd_X9_multiplies_2 E k (y1 + 1) (up m 186 (up (m 186) ((y1).toNat) 0)) γ t Q))))) ∧ (¬ (y1 ≤ 1) → ((0 ≤ (y1 - 2) ∧ (y1 - 2) < 241) ∧ (((y1 < 239) → ((0 ≤ (y1 + 2) ∧ (y1 + 2) < 241) ∧ ((0 ≤ y1 ∧ y1 < 241) ∧ (rK ((-(m 185 (((y1 - 2)).toNat))) - (m 185 (((y1 + 2)).toNat))) ∧ (hd_X9_multiplies_2 E k (y1 + 1) (up m 186 (up (m 186) ((y1).toNat) ((-(m 185 (((y1 - 2)).toNat))) - (m 185 (((y1 + 2)).toNat))))) γ t Q))))) ∧ (¬ (y1 < 239) → ((0 ≤ y1 ∧ y1 < 241) ∧ (rK ((-(m 185 (((y1 - 2)).toNat))) - 0) ∧ (hd_X9_multiplies_2 E k (y1 + 1) (up m 186 (up (m 186) ((y1).toNat) ((-(m 185 (((y1 - 2)).toNat))) - 0))) γ t Q))))))))) ∧ (¬ (y1 < 241) → (hd_X9_multiplies_61 E k 0 m γ t Q)))
abbrev W_X9_multiplies_61 (E : am_E) (k : Nat) (y1 : Int) (m : MM) (γ : GM) (t : am_H) (Q : MM → GM → am_H → Prop) : Prop := (((y1 < 241) → ((0 ≤ y1 ∧ y1 < 241) ∧ ((0 ≤ y1 ∧ y1 < 241) ∧ (hd_X9_multiplies_61 E k (y1 + 1) (up m 185 (up (m 185) ((y1).toNat) (m 186 ((y1).toNat)))) γ t Q)))) ∧ (¬ (y1 < 241) → (Q m γ t)))
theorem vc_X9_multiplies {E : am_E} {k : Nat} {m : MM} {γ : GM} {t : am_H} {Q : MM → GM → am_H → Prop} (hW : W_X9_multiplies E k  m γ t Q) : TV E k 271 [.ref 158] m γ t Q := by
  unfold W_X9_multiplies at hW
  intro h S
  refine wp_g (n := 2) (pc' := 2) (L' := [some (.ref 158), some (.int (iI 0))]) (st' := []) rfl ?_
  exact hW _ S
theorem vc_X9_multiplies_2 {E : am_E} {k : Nat} {y1 : Int} {m : MM} {γ : GM} {t : am_H} {Q : MM → GM → am_H → Prop} (hy1 : rJ y1) (hW : W_X9_multiplies_2 E k y1 m γ t Q) : hd_X9_multiplies_2 E k y1 m γ t Q := by
  unfold W_X9_multiplies_2 at hW
  intro h S
  refine wp_g (n := 2) (pc' := 6) (L' := [some (.ref 158), some (.int (iI y1))]) (st' := [.int (iI 241), .int (iI y1)]) rfl ?_
  refine wp_icmpI (a := y1) (b := 241) rfl rfl hy1.1 hy1.2 (by decide) (by decide) (fun c1 => ?_) (fun c1 => ?_)
  · have dc1 := (Int.not_lt.mpr c1)
    have hW := hW.2 dc1
    refine wp_g (n := 2) (pc' := 61) (L' := [some (.ref 158), some (.int (iI 0))]) (st' := []) rfl ?_
    exact hW _ S
  · have dc1 := (Int.not_le.mp c1)
    have hW := hW.1 dc1
    refine wp_g (n := 1) (pc' := 10) (L' := [some (.ref 158), some (.int (iI y1))]) (st' := [.ref 158]) rfl ?_
    refine wp_getf (v := .ref 186) rfl rfl (S.cell 158 (nc rfl)) (by decide) rfl ?_
    refine wp_g (n := 3) (pc' := 16) (L' := [some (.ref 158), some (.int (iI y1))]) (st' := [.int (iI 1), .int (iI y1), .int (iI y1), .ref 186]) rfl ?_
    refine wp_icmpI (a := y1) (b := 1) rfl rfl hy1.1 hy1.2 (by decide) (by decide) (fun c2 => ?_) (fun c2 => ?_)
    · have dc2 := c2
      have hW := hW.1 dc2
      refine wp_g (n := 1) (pc' := 31) (L' := [some (.ref 158), some (.int (iI y1))]) (st' := [.long (lI 0), .int (iI y1), .ref 186]) rfl ?_
      refine wp_lneg (a := 0) rfl ?_
      refine wp_g (n := 2) (pc' := 36) (L' := [some (.ref 158), some (.int (iI y1))]) (st' := [.int (iI 239), .int (iI y1), .long (lI (-0)), .int (iI y1), .ref 186]) rfl ?_
      refine wp_icmpI (a := y1) (b := 239) rfl rfl hy1.1 hy1.2 (by decide) (by decide) (fun c3 => ?_) (fun c3 => ?_)
      · have dc3 := (Int.not_lt.mpr c3)
        have hW := hW.2 dc3
        refine wp_g (n := 1) (pc' := 51) (L' := [some (.ref 158), some (.int (iI y1))]) (st' := [.long (lI 0), .long (lI (-0)), .int (iI y1), .ref 186]) rfl ?_
        refine wp_lsub (a := (-0)) (b := 0) rfl ?_
        show wp _ _ _ _ _ [.long (lI 0), .int (iI y1), .ref 186] _ _
        obtain ⟨p5, hW⟩ := hW
        refine wp_lasF (n := 241) (F := (m 186)) (y := 0) rfl (S.cell 186 (nc rfl)) p5.1 p5.2 (by decide) (fun H4 hl4 hz4 hf4 => ?_)
        have S : ST H4 (up m 186 (up (m 186) ((y1).toNat) 0)) γ t := S.setL 186 (nc rfl) (lc rfl) hl4 hz4 hf4 (by decide) (by decide)
        refine wp_iinc (L' := [some (.ref 158), some (.int (iI (y1 + 1)))]) (a := y1) rfl rfl rfl ?_
        refine wp_g (n := 1) (pc' := 2) (L' := [some (.ref 158), some (.int (iI (y1 + 1)))]) (st' := []) rfl ?_
        exact hW _ S
      · have dc3 := (Int.not_le.mp c3)
        have hW := hW.1 dc3
        refine wp_g (n := 1) (pc' := 40) (L' := [some (.ref 158), some (.int (iI y1))]) (st' := [.ref 158, .long (lI (-0)), .int (iI y1), .ref 186]) rfl ?_
        refine wp_getf (v := .ref 185) rfl rfl (S.cell 158 (nc rfl)) (by decide) rfl ?_
        refine wp_g (n := 2) (pc' := 45) (L' := [some (.ref 158), some (.int (iI y1))]) (st' := [.int (iI 2), .int (iI y1), .ref 185, .long (lI (-0)), .int (iI y1), .ref 186]) rfl ?_
        refine wp_add (a := y1) (b := 2) rfl ?_
        obtain ⟨p6, hW⟩ := hW
        refine wp_lald (n := 241) (F := (m 185)) rfl (S.cell 185 (nc rfl)) (by decide) p6.1 p6.2 (by decide) ?_
        show wp _ _ _ _ _ [.long (lI (m 185 (((y1 + 2)).toNat))), .long (lI (-0)), .int (iI y1), .ref 186] _ _
        have hr7 : rK (m 185 (((y1 + 2)).toNat)) := S.rl 185 (((y1 + 2)).toNat)
        refine wp_g (n := 1) (pc' := 51) (L' := [some (.ref 158), some (.int (iI y1))]) (st' := [.long (lI (m 185 (((y1 + 2)).toNat))), .long (lI (-0)), .int (iI y1), .ref 186]) rfl ?_
        refine wp_lsub (a := (-0)) (b := (m 185 (((y1 + 2)).toNat))) rfl ?_
        obtain ⟨p9, hW⟩ := hW
        obtain ⟨p10, hW⟩ := hW
        refine wp_lasF (n := 241) (F := (m 186)) (y := ((-0) - (m 185 (((y1 + 2)).toNat)))) rfl (S.cell 186 (nc rfl)) p9.1 p9.2 (by decide) (fun H8 hl8 hz8 hf8 => ?_)
        have S : ST H8 (up m 186 (up (m 186) ((y1).toNat) ((-0) - (m 185 (((y1 + 2)).toNat))))) γ t := S.setL 186 (nc rfl) (lc rfl) hl8 hz8 hf8 p10.1 p10.2
        refine wp_iinc (L' := [some (.ref 158), some (.int (iI (y1 + 1)))]) (a := y1) rfl rfl rfl ?_
        refine wp_g (n := 1) (pc' := 2) (L' := [some (.ref 158), some (.int (iI (y1 + 1)))]) (st' := []) rfl ?_
        exact hW _ S
    · have dc2 := c2
      have hW := hW.2 dc2
      refine wp_g (n := 1) (pc' := 20) (L' := [some (.ref 158), some (.int (iI y1))]) (st' := [.ref 158, .int (iI y1), .ref 186]) rfl ?_
      refine wp_getf (v := .ref 185) rfl rfl (S.cell 158 (nc rfl)) (by decide) rfl ?_
      refine wp_g (n := 2) (pc' := 25) (L' := [some (.ref 158), some (.int (iI y1))]) (st' := [.int (iI 2), .int (iI y1), .ref 185, .int (iI y1), .ref 186]) rfl ?_
      refine wp_sub (a := y1) (b := 2) rfl ?_
      obtain ⟨p11, hW⟩ := hW
      refine wp_lald (n := 241) (F := (m 185)) rfl (S.cell 185 (nc rfl)) (by decide) p11.1 p11.2 (by decide) ?_
      show wp _ _ _ _ _ [.long (lI (m 185 (((y1 - 2)).toNat))), .int (iI y1), .ref 186] _ _
      have hr12 : rK (m 185 (((y1 - 2)).toNat)) := S.rl 185 (((y1 - 2)).toNat)
      refine wp_g (n := 1) (pc' := 31) (L' := [some (.ref 158), some (.int (iI y1))]) (st' := [.long (lI (m 185 (((y1 - 2)).toNat))), .int (iI y1), .ref 186]) rfl ?_
      refine wp_lneg (a := (m 185 (((y1 - 2)).toNat))) rfl ?_
      refine wp_g (n := 2) (pc' := 36) (L' := [some (.ref 158), some (.int (iI y1))]) (st' := [.int (iI 239), .int (iI y1), .long (lI (-(m 185 (((y1 - 2)).toNat)))), .int (iI y1), .ref 186]) rfl ?_
      refine wp_icmpI (a := y1) (b := 239) rfl rfl hy1.1 hy1.2 (by decide) (by decide) (fun c13 => ?_) (fun c13 => ?_)
      · have dc13 := (Int.not_lt.mpr c13)
        have hW := hW.2 dc13
        refine wp_g (n := 1) (pc' := 51) (L' := [some (.ref 158), some (.int (iI y1))]) (st' := [.long (lI 0), .long (lI (-(m 185 (((y1 - 2)).toNat)))), .int (iI y1), .ref 186]) rfl ?_
        refine wp_lsub (a := (-(m 185 (((y1 - 2)).toNat)))) (b := 0) rfl ?_
        obtain ⟨p15, hW⟩ := hW
        obtain ⟨p16, hW⟩ := hW
        refine wp_lasF (n := 241) (F := (m 186)) (y := ((-(m 185 (((y1 - 2)).toNat))) - 0)) rfl (S.cell 186 (nc rfl)) p15.1 p15.2 (by decide) (fun H14 hl14 hz14 hf14 => ?_)
        have S : ST H14 (up m 186 (up (m 186) ((y1).toNat) ((-(m 185 (((y1 - 2)).toNat))) - 0))) γ t := S.setL 186 (nc rfl) (lc rfl) hl14 hz14 hf14 p16.1 p16.2
        refine wp_iinc (L' := [some (.ref 158), some (.int (iI (y1 + 1)))]) (a := y1) rfl rfl rfl ?_
        refine wp_g (n := 1) (pc' := 2) (L' := [some (.ref 158), some (.int (iI (y1 + 1)))]) (st' := []) rfl ?_
        exact hW _ S
      · have dc13 := (Int.not_le.mp c13)
        have hW := hW.1 dc13
        refine wp_g (n := 1) (pc' := 40) (L' := [some (.ref 158), some (.int (iI y1))]) (st' := [.ref 158, .long (lI (-(m 185 (((y1 - 2)).toNat)))), .int (iI y1), .ref 186]) rfl ?_
        refine wp_getf (v := .ref 185) rfl rfl (S.cell 158 (nc rfl)) (by decide) rfl ?_
        refine wp_g (n := 2) (pc' := 45) (L' := [some (.ref 158), some (.int (iI y1))]) (st' := [.int (iI 2), .int (iI y1), .ref 185, .long (lI (-(m 185 (((y1 - 2)).toNat)))), .int (iI y1), .ref 186]) rfl ?_
        refine wp_add (a := y1) (b := 2) rfl ?_
        obtain ⟨p17, hW⟩ := hW
        refine wp_lald (n := 241) (F := (m 185)) rfl (S.cell 185 (nc rfl)) (by decide) p17.1 p17.2 (by decide) ?_
        show wp _ _ _ _ _ [.long (lI (m 185 (((y1 + 2)).toNat))), .long (lI (-(m 185 (((y1 - 2)).toNat)))), .int (iI y1), .ref 186] _ _
        have hr18 : rK (m 185 (((y1 + 2)).toNat)) := S.rl 185 (((y1 + 2)).toNat)
        refine wp_g (n := 1) (pc' := 51) (L' := [some (.ref 158), some (.int (iI y1))]) (st' := [.long (lI (m 185 (((y1 + 2)).toNat))), .long (lI (-(m 185 (((y1 - 2)).toNat)))), .int (iI y1), .ref 186]) rfl ?_
        refine wp_lsub (a := (-(m 185 (((y1 - 2)).toNat)))) (b := (m 185 (((y1 + 2)).toNat))) rfl ?_
        obtain ⟨p20, hW⟩ := hW
        obtain ⟨p21, hW⟩ := hW
        refine wp_lasF (n := 241) (F := (m 186)) (y := ((-(m 185 (((y1 - 2)).toNat))) - (m 185 (((y1 + 2)).toNat)))) rfl (S.cell 186 (nc rfl)) p20.1 p20.2 (by decide) (fun H19 hl19 hz19 hf19 => ?_)
        have S : ST H19 (up m 186 (up (m 186) ((y1).toNat) ((-(m 185 (((y1 - 2)).toNat))) - (m 185 (((y1 + 2)).toNat))))) γ t := S.setL 186 (nc rfl) (lc rfl) hl19 hz19 hf19 p21.1 p21.2
        refine wp_iinc (L' := [some (.ref 158), some (.int (iI (y1 + 1)))]) (a := y1) rfl rfl rfl ?_
        refine wp_g (n := 1) (pc' := 2) (L' := [some (.ref 158), some (.int (iI (y1 + 1)))]) (st' := []) rfl ?_
        exact hW _ S
theorem vc_X9_multiplies_61 {E : am_E} {k : Nat} {y1 : Int} {m : MM} {γ : GM} {t : am_H} {Q : MM → GM → am_H → Prop} (hy1 : rJ y1) (hW : W_X9_multiplies_61 E k y1 m γ t Q) : hd_X9_multiplies_61 E k y1 m γ t Q := by
  unfold W_X9_multiplies_61 at hW
  intro h S
  refine wp_g (n := 2) (pc' := 65) (L' := [some (.ref 158), some (.int (iI y1))]) (st' := [.int (iI 241), .int (iI y1)]) rfl ?_
  refine wp_icmpI (a := y1) (b := 241) rfl rfl hy1.1 hy1.2 (by decide) (by decide) (fun c1 => ?_) (fun c1 => ?_)
  · have dc1 := (Int.not_lt.mpr c1)
    have hW := hW.2 dc1
    exact wp_vret rfl rfl ⟨_, _, _, rfl, S, hW⟩
  · have dc1 := (Int.not_le.mp c1)
    have hW := hW.1 dc1
    refine wp_g (n := 1) (pc' := 69) (L' := [some (.ref 158), some (.int (iI y1))]) (st' := [.ref 158]) rfl ?_
    refine wp_getf (v := .ref 185) rfl rfl (S.cell 158 (nc rfl)) (by decide) rfl ?_
    refine wp_g (n := 2) (pc' := 74) (L' := [some (.ref 158), some (.int (iI y1))]) (st' := [.ref 158, .int (iI y1), .ref 185]) rfl ?_
    refine wp_getf (v := .ref 186) rfl rfl (S.cell 158 (nc rfl)) (by decide) rfl ?_
    refine wp_g (n := 1) (pc' := 78) (L' := [some (.ref 158), some (.int (iI y1))]) (st' := [.int (iI y1), .ref 186, .int (iI y1), .ref 185]) rfl ?_
    obtain ⟨p2, hW⟩ := hW
    refine wp_lald (n := 241) (F := (m 186)) rfl (S.cell 186 (nc rfl)) (by decide) p2.1 p2.2 (by decide) ?_
    show wp _ _ _ _ _ [.long (lI (m 186 ((y1).toNat))), .int (iI y1), .ref 185] _ _
    have hr3 : rK (m 186 ((y1).toNat)) := S.rl 186 ((y1).toNat)
    obtain ⟨p5, hW⟩ := hW
    refine wp_lasF (n := 241) (F := (m 185)) (y := (m 186 ((y1).toNat))) rfl (S.cell 185 (nc rfl)) p5.1 p5.2 (by decide) (fun H4 hl4 hz4 hf4 => ?_)
    have S : ST H4 (up m 185 (up (m 185) ((y1).toNat) (m 186 ((y1).toNat)))) γ t := S.setL 185 (nc rfl) (lc rfl) hl4 hz4 hf4 hr3.1 hr3.2
    refine wp_iinc (L' := [some (.ref 158), some (.int (iI (y1 + 1)))]) (a := y1) rfl rfl rfl ?_
    refine wp_g (n := 1) (pc' := 61) (L' := [some (.ref 158), some (.int (iI (y1 + 1)))]) (st' := []) rfl ?_
    exact hW _ S
abbrev W_X9_isBracket (E : am_E) (k : Nat) (x1 : Int) (x2 : Int) (m : MM) (γ : GM) (t : am_H) (Q : Int → MM → GM → am_H → Prop) : Prop := (TI E k 216 [.ref 158, .int (iI x1)] m γ t (fun v1 m1 γ1 t1 => (((v1 = 0) → (Q 0 m1 γ1 t1)) ∧ (¬ (v1 = 0) → (TI E k 192 [.long (lI x2), .long (lI (-100)), .long (lI 100)] m1 γ1 t1 (fun v3 m3 γ3 t3 => (((v3 = 0) → (Q 0 m3 γ3 t3)) ∧ (¬ (v3 = 0) → (TI E k 206 [.ref 158] m3 γ3 t3 (fun v5 m5 γ5 t5 => (((v5 ≤ 12) → (Q 1 m5 γ5 t5)) ∧ (¬ (v5 ≤ 12) → (Q 0 m5 γ5 t5)))))))))))))
theorem vc_X9_isBracket {E : am_E} {k : Nat} {x1 : Int} {x2 : Int} {m : MM} {γ : GM} {t : am_H} {Q : Int → MM → GM → am_H → Prop} (hx1 : rJ x1) (hx2 : rJ x2) (hW : W_X9_isBracket E k x1 x2 m γ t Q) : TI E (k + 1) 272 [.ref 158, .int (iI x1), .int (iI x2)] m γ t Q := by
  unfold W_X9_isBracket at hW
  intro h S
  refine wp_g (n := 2) (pc' := 2) (L' := [some (.ref 158), some (.int (iI x1)), some (.int (iI x2))]) (st' := [.int (iI x1), .ref 158]) rfl ?_
  refine wp_cv (As := [.int (iI x1)]) (rest := []) rfl rfl (S.cell 158 (nc rfl)) (by decide) rfl rfl rfl (Nat.le_of_ble_eq_true rfl) (Nat.le_of_ble_eq_true rfl) (hW _ S) (fun r1 H1 q1 => ?_)
  obtain ⟨v1, m1, γ1, t1, rfl, hv1, S, hW⟩ := q1
  show wp _ _ _ _ _ [.int (iI v1)] _ _
  refine wp_ifI (a := v1) rfl rfl hv1.1 hv1.2 (fun c2 => ?_) (fun c2 => ?_)
  · have dc2 := c2
    have hW := hW.1 dc2
    refine wp_g (n := 1) (pc' := 36) (L' := [some (.ref 158), some (.int (iI x1)), some (.int (iI x2))]) (st' := [.int (iI 0)]) rfl ?_
    exact wp_zret rfl rfl (by decide) ⟨_, _, _, _, rfl, (by decide), S, hW⟩
  · have dc2 := c2
    have hW := hW.2 dc2
    refine wp_g (n := 1) (pc' := 9) (L' := [some (.ref 158), some (.int (iI x1)), some (.int (iI x2))]) (st' := [.int (iI x2)]) rfl ?_
    refine wp_i2l (a := x2) rfl hx2 ?_
    refine wp_g (n := 2) (pc' := 16) (L' := [some (.ref 158), some (.int (iI x1)), some (.int (iI x2))]) (st' := [.long (lI 100), .long (lI (-100)), .long (lI x2)]) rfl ?_
    refine wp_cs (As := [.long (lI x2), .long (lI (-100)), .long (lI 100)]) (rest := []) rfl rfl rfl rfl (Nat.le_of_ble_eq_true rfl) (Nat.le_of_ble_eq_true rfl) (hW _ S) (fun r3 H3 q3 => ?_)
    obtain ⟨v3, m3, γ3, t3, rfl, hv3, S, hW⟩ := q3
    show wp _ _ _ _ _ [.int (iI v3)] _ _
    refine wp_ifI (a := v3) rfl rfl hv3.1 hv3.2 (fun c4 => ?_) (fun c4 => ?_)
    · have dc4 := c4
      have hW := hW.1 dc4
      refine wp_g (n := 1) (pc' := 36) (L' := [some (.ref 158), some (.int (iI x1)), some (.int (iI x2))]) (st' := [.int (iI 0)]) rfl ?_
      exact wp_zret rfl rfl (by decide) ⟨_, _, _, _, rfl, (by decide), S, hW⟩
    · have dc4 := c4
      have hW := hW.2 dc4
      refine wp_g (n := 1) (pc' := 23) (L' := [some (.ref 158), some (.int (iI x1)), some (.int (iI x2))]) (st' := [.ref 158]) rfl ?_
      refine wp_cv (As := []) (rest := []) rfl rfl (S.cell 158 (nc rfl)) (by decide) rfl rfl rfl (Nat.le_of_ble_eq_true rfl) (Nat.le_of_ble_eq_true rfl) (hW _ S) (fun r5 H5 q5 => ?_)
      obtain ⟨v5, m5, γ5, t5, rfl, hv5, S, hW⟩ := q5
      show wp _ _ _ _ _ [.int (iI v5)] _ _
      refine wp_g (n := 1) (pc' := 28) (L' := [some (.ref 158), some (.int (iI x1)), some (.int (iI x2))]) (st' := [.int (iI 12), .int (iI v5)]) rfl ?_
      refine wp_icmpI (a := v5) (b := 12) rfl rfl hv5.1 hv5.2 (by decide) (by decide) (fun c6 => ?_) (fun c6 => ?_)
      · have dc6 := (Int.not_le.mpr c6)
        have hW := hW.2 dc6
        refine wp_g (n := 1) (pc' := 36) (L' := [some (.ref 158), some (.int (iI x1)), some (.int (iI x2))]) (st' := [.int (iI 0)]) rfl ?_
        exact wp_zret rfl rfl (by decide) ⟨_, _, _, _, rfl, (by decide), S, hW⟩
      · have dc6 := (Int.not_lt.mp c6)
        have hW := hW.1 dc6
        refine wp_g (n := 2) (pc' := 36) (L' := [some (.ref 158), some (.int (iI x1)), some (.int (iI x2))]) (st' := [.int (iI 1)]) rfl ?_
        exact wp_zret rfl rfl (by decide) ⟨_, _, _, _, rfl, (by decide), S, hW⟩
abbrev W_X9_bracket (E : am_E) (k : Nat) (x1 : Int) (x2 : Int) (m : MM) (γ : GM) (t : am_H) (Q : Int → MM → GM → am_H → Prop) : Prop := (TI E k 272 [.ref 158, .int (iI x1), .int (iI x2)] m γ t (fun v1 m1 γ1 t1 => (((v1 = 0) → (Q (-1000000000) m1 γ1 t1)) ∧ (¬ (v1 = 0) → (TV E k 269 [.ref 158] m1 γ1 t1 (fun m3 γ3 t3 => ((0 ≤ (120 + x2) ∧ (120 + x2) < 241) ∧ (Q (m3 187 (((120 + x2)).toNat)) m3 γ3 t3))))))))
theorem vc_X9_bracket {E : am_E} {k : Nat} {x1 : Int} {x2 : Int} {m : MM} {γ : GM} {t : am_H} {Q : Int → MM → GM → am_H → Prop} (hx1 : rJ x1) (hx2 : rJ x2) (hW : W_X9_bracket E k x1 x2 m γ t Q) : TL E (k + 1) 273 [.ref 158, .int (iI x1), .int (iI x2)] m γ t Q := by
  unfold W_X9_bracket at hW
  intro h S
  refine wp_g (n := 3) (pc' := 3) (L' := [some (.ref 158), some (.int (iI x1)), some (.int (iI x2))]) (st' := [.int (iI x2), .int (iI x1), .ref 158]) rfl ?_
  refine wp_cv (As := [.int (iI x1), .int (iI x2)]) (rest := []) rfl rfl (S.cell 158 (nc rfl)) (by decide) rfl rfl rfl (Nat.le_of_ble_eq_true rfl) (Nat.le_of_ble_eq_true rfl) (hW _ S) (fun r1 H1 q1 => ?_)
  obtain ⟨v1, m1, γ1, t1, rfl, hv1, S, hW⟩ := q1
  show wp _ _ _ _ _ [.int (iI v1)] _ _
  refine wp_ifI (a := v1) rfl rfl hv1.1 hv1.2 (fun c2 => ?_) (fun c2 => ?_)
  · have dc2 := c2
    have hW := hW.2 dc2
    refine wp_g (n := 1) (pc' := 14) (L' := [some (.ref 158), some (.int (iI x1)), some (.int (iI x2))]) (st' := [.ref 158]) rfl ?_
    refine wp_cv (As := []) (rest := []) rfl rfl (S.cell 158 (nc rfl)) (by decide) rfl rfl rfl (Nat.le_of_ble_eq_true rfl) (Nat.le_of_ble_eq_true rfl) (hW _ S) (fun r3 H3 q3 => ?_)
    obtain ⟨m3, γ3, t3, rfl, S, hW⟩ := q3
    show wp _ _ _ _ _ [] _ _
    refine wp_g (n := 1) (pc' := 18) (L' := [some (.ref 158), some (.int (iI x1)), some (.int (iI x2))]) (st' := [.ref 158]) rfl ?_
    refine wp_getf (v := .ref 187) rfl rfl (S.cell 158 (nc rfl)) (by decide) rfl ?_
    refine wp_g (n := 2) (pc' := 24) (L' := [some (.ref 158), some (.int (iI x1)), some (.int (iI x2))]) (st' := [.int (iI x2), .int (iI 120), .ref 187]) rfl ?_
    refine wp_add (a := 120) (b := x2) rfl ?_
    obtain ⟨p4, hW⟩ := hW
    refine wp_lald (n := 241) (F := (m3 187)) rfl (S.cell 187 (nc rfl)) (by decide) p4.1 p4.2 (by decide) ?_
    show wp _ _ _ _ _ [.long (lI (m3 187 (((120 + x2)).toNat)))] _ _
    have hr5 : rK (m3 187 (((120 + x2)).toNat)) := S.rl 187 (((120 + x2)).toNat)
    exact wp_lret rfl rfl ⟨_, _, _, _, rfl, hr5, S, hW⟩
  · have dc2 := (Classical.not_not.mp c2)
    have hW := hW.1 dc2
    refine wp_g (n := 1) (pc' := 12) (L' := [some (.ref 158), some (.int (iI x1)), some (.int (iI x2))]) (st' := [.long (lI (-1000000000))]) rfl ?_
    exact wp_lret rfl rfl ⟨_, _, _, _, rfl, (by decide), S, hW⟩
def hd_X9_smooth_18 (E : am_E) (k : Nat) (x1 : Int) (x2 : Int) (y2 : Int) (y3 : Int) (y4 : Int) (m : MM) (γ : GM) (t : am_H) (Q : Int → MM → GM → am_H → Prop) : Prop := ∀ (z1 z5 z6 : Option Value), TT (pL Q) E (k + 1) 274 18 [some (.ref 158), z1, some (.int (iI y2)), some (.int (iI y3)), some (.int (iI y4)), z5, z6] [] m γ t
abbrev W_X9_smooth (E : am_E) (k : Nat) (x1 : Int) (x2 : Int) (m : MM) (γ : GM) (t : am_H) (Q : Int → MM → GM → am_H → Prop) : Prop := (TI E k 272 [.ref 158, .int (iI x1), .int (iI x2)] m γ t (fun v1 m1 γ1 t1 => (((v1 = 0) → (Q (-1000000000) m1 γ1 t1)) ∧ (¬ (v1 = 0) → (hd_X9_smooth_18 E k x1 x2 x2 0 0 m1 γ1 t1 Q)))))
abbrev W_X9_smooth_18 (E : am_E) (k : Nat) (x1 : Int) (x2 : Int) (y2 : Int) (y3 : Int) (y4 : Int) (m : MM) (γ : GM) (t : am_H) (Q : Int → MM → GM → am_H → Prop) : Prop := (((y4 < (m 158 6)) → ((0 ≤ y4 ∧ y4 < 24) ∧ (TI E k 204 [.int (iI (m 162 ((y4).toNat)))] m γ t (fun v16 m16 γ16 t16 => (((v16 = 0) → (hd_X9_smooth_18 E k x1 x2 y2 (y3 + 0) (y4 + 1) m16 γ16 t16 Q)) ∧ (¬ (v16 = 0) → (TI E k 214 [.ref 158, .int (iI y4)] m16 γ16 t16 (fun v18 m18 γ18 t18 => (hd_X9_smooth_18 E k x1 x2 y2 (y3 + v18) (y4 + 1) m18 γ18 t18 Q))))))))) ∧ (¬ (y4 < (m 158 6)) → (TV E k 269 [.ref 158] m γ t (fun m3 γ3 t3 => (rJ ((120 + y2) + (3 * y3)) ∧ (TI E k 192 [.long (lI ((120 + y2) + (3 * y3))), .long (lI 0), .long (lI 240)] m3 γ3 t3 (fun v5 m5 γ5 t5 => (((v5 = 0) → (rJ (Int.tmod y3 2) ∧ ((((Int.tmod y3 2) = 0) → (Q 0 m5 γ5 t5)) ∧ (¬ ((Int.tmod y3 2) = 0) → (Q (-0) m5 γ5 t5))))) ∧ (¬ (v5 = 0) → ((0 ≤ ((120 + y2) + (3 * y3)) ∧ ((120 + y2) + (3 * y3)) < 241) ∧ (rJ (Int.tmod y3 2) ∧ ((((Int.tmod y3 2) = 0) → (Q (m5 187 ((((120 + y2) + (3 * y3))).toNat)) m5 γ5 t5)) ∧ (¬ ((Int.tmod y3 2) = 0) → (rK (-(m5 187 ((((120 + y2) + (3 * y3))).toNat))) ∧ (Q (-(m5 187 ((((120 + y2) + (3 * y3))).toNat))) m5 γ5 t5)))))))))))))))
theorem vc_X9_smooth {E : am_E} {k : Nat} {x1 : Int} {x2 : Int} {m : MM} {γ : GM} {t : am_H} {Q : Int → MM → GM → am_H → Prop} (hx1 : rJ x1) (hx2 : rJ x2) (hW : W_X9_smooth E k x1 x2 m γ t Q) : TL E (k + 1) 274 [.ref 158, .int (iI x1), .int (iI x2)] m γ t Q := by
  unfold W_X9_smooth at hW
  intro h S
  refine wp_g (n := 3) (pc' := 3) (L' := [some (.ref 158), some (.int (iI x1)), some (.int (iI x2)), none, none, none, none]) (st' := [.int (iI x2), .int (iI x1), .ref 158]) rfl ?_
  refine wp_cv (As := [.int (iI x1), .int (iI x2)]) (rest := []) rfl rfl (S.cell 158 (nc rfl)) (by decide) rfl rfl rfl (Nat.le_of_ble_eq_true rfl) (Nat.le_of_ble_eq_true rfl) (hW _ S) (fun r1 H1 q1 => ?_)
  obtain ⟨v1, m1, γ1, t1, rfl, hv1, S, hW⟩ := q1
  show wp _ _ _ _ _ [.int (iI v1)] _ _
  refine wp_ifI (a := v1) rfl rfl hv1.1 hv1.2 (fun c2 => ?_) (fun c2 => ?_)
  · have dc2 := c2
    have hW := hW.2 dc2
    refine wp_g (n := 4) (pc' := 18) (L' := [some (.ref 158), some (.int (iI x1)), some (.int (iI x2)), some (.int (iI 0)), some (.int (iI 0)), none, none]) (st' := []) rfl ?_
    exact hW (some (.int (iI x1))) none none _ S
  · have dc2 := (Classical.not_not.mp c2)
    have hW := hW.1 dc2
    refine wp_g (n := 1) (pc' := 12) (L' := [some (.ref 158), some (.int (iI x1)), some (.int (iI x2)), none, none, none, none]) (st' := [.long (lI (-1000000000))]) rfl ?_
    exact wp_lret rfl rfl ⟨_, _, _, _, rfl, (by decide), S, hW⟩
theorem vc_X9_smooth_18 {E : am_E} {k : Nat} {x1 : Int} {x2 : Int} {y2 : Int} {y3 : Int} {y4 : Int} {m : MM} {γ : GM} {t : am_H} {Q : Int → MM → GM → am_H → Prop} (hx1 : rJ x1) (hx2 : rJ x2) (hy2 : rJ y2) (hy3 : rJ y3) (hy4 : rJ y4) (hW : W_X9_smooth_18 E k x1 x2 y2 y3 y4 m γ t Q) : hd_X9_smooth_18 E k x1 x2 y2 y3 y4 m γ t Q := by
  unfold W_X9_smooth_18 at hW
  intro z1 z5 z6 h S
  refine wp_g (n := 2) (pc' := 21) (L' := [some (.ref 158), z1, some (.int (iI y2)), some (.int (iI y3)), some (.int (iI y4)), z5, z6]) (st' := [.ref 158, .int (iI y4)]) rfl ?_
  refine wp_getf (v := .int (iI (m 158 6))) rfl rfl (S.cell 158 (nc rfl)) (by decide) rfl ?_
  have hr1 : rJ (m 158 6) := S.rg 158 6 (nl rfl)
  refine wp_icmpI (a := y4) (b := (m 158 6)) rfl rfl hy4.1 hy4.2 hr1.1 hr1.2 (fun c2 => ?_) (fun c2 => ?_)
  · have dc2 := (Int.not_lt.mpr c2)
    have hW := hW.2 dc2
    refine wp_g (n := 1) (pc' := 60) (L' := [some (.ref 158), z1, some (.int (iI y2)), some (.int (iI y3)), some (.int (iI y4)), z5, z6]) (st' := [.ref 158]) rfl ?_
    refine wp_cv (As := []) (rest := []) rfl rfl (S.cell 158 (nc rfl)) (by decide) rfl rfl rfl (Nat.le_of_ble_eq_true rfl) (Nat.le_of_ble_eq_true rfl) (hW _ S) (fun r3 H3 q3 => ?_)
    obtain ⟨m3, γ3, t3, rfl, S, hW⟩ := q3
    show wp _ _ _ _ _ [] _ _
    refine wp_g (n := 2) (pc' := 66) (L' := [some (.ref 158), z1, some (.int (iI y2)), some (.int (iI y3)), some (.int (iI y4)), z5, z6]) (st' := [.int (iI y2), .int (iI 120)]) rfl ?_
    refine wp_add (a := 120) (b := y2) rfl ?_
    refine wp_g (n := 2) (pc' := 69) (L' := [some (.ref 158), z1, some (.int (iI y2)), some (.int (iI y3)), some (.int (iI y4)), z5, z6]) (st' := [.int (iI y3), .int (iI 3), .int (iI (120 + y2))]) rfl ?_
    refine wp_mul (a := 3) (b := y3) rfl ?_
    refine wp_add (a := (120 + y2)) (b := (3 * y3)) rfl ?_
    refine wp_g (n := 2) (pc' := 75) (L' := [some (.ref 158), z1, some (.int (iI y2)), some (.int (iI y3)), some (.int (iI ((120 + y2) + (3 * y3)))), z5, z6]) (st' := [.int (iI ((120 + y2) + (3 * y3)))]) rfl ?_
    obtain ⟨p4, hW⟩ := hW
    refine wp_i2l (a := ((120 + y2) + (3 * y3))) rfl p4 ?_
    refine wp_g (n := 2) (pc' := 80) (L' := [some (.ref 158), z1, some (.int (iI y2)), some (.int (iI y3)), some (.int (iI ((120 + y2) + (3 * y3)))), z5, z6]) (st' := [.long (lI 240), .long (lI 0), .long (lI ((120 + y2) + (3 * y3)))]) rfl ?_
    refine wp_cs (As := [.long (lI ((120 + y2) + (3 * y3))), .long (lI 0), .long (lI 240)]) (rest := []) rfl rfl rfl rfl (Nat.le_of_ble_eq_true rfl) (Nat.le_of_ble_eq_true rfl) (hW _ S) (fun r5 H5 q5 => ?_)
    obtain ⟨v5, m5, γ5, t5, rfl, hv5, S, hW⟩ := q5
    show wp _ _ _ _ _ [.int (iI v5)] _ _
    refine wp_ifI (a := v5) rfl rfl hv5.1 hv5.2 (fun c6 => ?_) (fun c6 => ?_)
    · have dc6 := c6
      have hW := hW.1 dc6
      refine wp_g (n := 4) (pc' := 101) (L' := [some (.ref 158), z1, some (.int (iI y2)), some (.int (iI y3)), some (.int (iI ((120 + y2) + (3 * y3)))), some (.long (lI 0)), none]) (st' := [.int (iI 2), .int (iI y3)]) rfl ?_
      refine wp_remt (a := y3) (b := 2) rfl hy3 (by decide) (by decide) ?_
      obtain ⟨p7, hW⟩ := hW
      refine wp_ifI (a := (Int.tmod y3 2)) rfl rfl p7.1 p7.2 (fun c8 => ?_) (fun c8 => ?_)
      · have dc8 := c8
        have hW := hW.2 dc8
        refine wp_g (n := 1) (pc' := 112) (L' := [some (.ref 158), z1, some (.int (iI y2)), some (.int (iI y3)), some (.int (iI ((120 + y2) + (3 * y3)))), some (.long (lI 0)), none]) (st' := [.long (lI 0)]) rfl ?_
        refine wp_lneg (a := 0) rfl ?_
        exact wp_lret rfl rfl ⟨_, _, _, _, rfl, (by decide), S, hW⟩
      · have dc8 := (Classical.not_not.mp c8)
        have hW := hW.1 dc8
        refine wp_g (n := 2) (pc' := 113) (L' := [some (.ref 158), z1, some (.int (iI y2)), some (.int (iI y3)), some (.int (iI ((120 + y2) + (3 * y3)))), some (.long (lI 0)), none]) (st' := [.long (lI 0)]) rfl ?_
        exact wp_lret rfl rfl ⟨_, _, _, _, rfl, (by decide), S, hW⟩
    · have dc6 := c6
      have hW := hW.2 dc6
      refine wp_g (n := 1) (pc' := 87) (L' := [some (.ref 158), z1, some (.int (iI y2)), some (.int (iI y3)), some (.int (iI ((120 + y2) + (3 * y3)))), z5, z6]) (st' := [.ref 158]) rfl ?_
      refine wp_getf (v := .ref 187) rfl rfl (S.cell 158 (nc rfl)) (by decide) rfl ?_
      refine wp_g (n := 1) (pc' := 92) (L' := [some (.ref 158), z1, some (.int (iI y2)), some (.int (iI y3)), some (.int (iI ((120 + y2) + (3 * y3)))), z5, z6]) (st' := [.int (iI ((120 + y2) + (3 * y3))), .ref 187]) rfl ?_
      obtain ⟨p9, hW⟩ := hW
      refine wp_lald (n := 241) (F := (m5 187)) rfl (S.cell 187 (nc rfl)) (by decide) p9.1 p9.2 (by decide) ?_
      show wp _ _ _ _ _ [.long (lI (m5 187 ((((120 + y2) + (3 * y3))).toNat)))] _ _
      have hr10 : rK (m5 187 ((((120 + y2) + (3 * y3))).toNat)) := S.rl 187 ((((120 + y2) + (3 * y3))).toNat)
      refine wp_g (n := 4) (pc' := 101) (L' := [some (.ref 158), z1, some (.int (iI y2)), some (.int (iI y3)), some (.int (iI ((120 + y2) + (3 * y3)))), some (.long (lI (m5 187 ((((120 + y2) + (3 * y3))).toNat)))), none]) (st' := [.int (iI 2), .int (iI y3)]) rfl ?_
      refine wp_remt (a := y3) (b := 2) rfl hy3 (by decide) (by decide) ?_
      obtain ⟨p11, hW⟩ := hW
      refine wp_ifI (a := (Int.tmod y3 2)) rfl rfl p11.1 p11.2 (fun c12 => ?_) (fun c12 => ?_)
      · have dc12 := c12
        have hW := hW.2 dc12
        refine wp_g (n := 1) (pc' := 112) (L' := [some (.ref 158), z1, some (.int (iI y2)), some (.int (iI y3)), some (.int (iI ((120 + y2) + (3 * y3)))), some (.long (lI (m5 187 ((((120 + y2) + (3 * y3))).toNat)))), none]) (st' := [.long (lI (m5 187 ((((120 + y2) + (3 * y3))).toNat)))]) rfl ?_
        refine wp_lneg (a := (m5 187 ((((120 + y2) + (3 * y3))).toNat))) rfl ?_
        obtain ⟨p13, hW⟩ := hW
        exact wp_lret rfl rfl ⟨_, _, _, _, rfl, p13, S, hW⟩
      · have dc12 := (Classical.not_not.mp c12)
        have hW := hW.1 dc12
        refine wp_g (n := 2) (pc' := 113) (L' := [some (.ref 158), z1, some (.int (iI y2)), some (.int (iI y3)), some (.int (iI ((120 + y2) + (3 * y3)))), some (.long (lI (m5 187 ((((120 + y2) + (3 * y3))).toNat)))), none]) (st' := [.long (lI (m5 187 ((((120 + y2) + (3 * y3))).toNat)))]) rfl ?_
        exact wp_lret rfl rfl ⟨_, _, _, _, rfl, hr10, S, hW⟩
  · have dc2 := (Int.not_le.mp c2)
    have hW := hW.1 dc2
    refine wp_g (n := 2) (pc' := 29) (L' := [some (.ref 158), z1, some (.int (iI y2)), some (.int (iI y3)), some (.int (iI y4)), z5, z6]) (st' := [.ref 158, .int (iI y3)]) rfl ?_
    refine wp_getf (v := .ref 162) rfl rfl (S.cell 158 (nc rfl)) (by decide) rfl ?_
    refine wp_g (n := 1) (pc' := 34) (L' := [some (.ref 158), z1, some (.int (iI y2)), some (.int (iI y3)), some (.int (iI y4)), z5, z6]) (st' := [.int (iI y4), .ref 162, .int (iI y3)]) rfl ?_
    obtain ⟨p14, hW⟩ := hW
    refine wp_iald (n := 24) (F := (m 162)) rfl (S.cell 162 (nc rfl)) (by decide) p14.1 p14.2 (by decide) ?_
    show wp _ _ _ _ _ [.int (iI (m 162 ((y4).toNat))), .int (iI y3)] _ _
    have hr15 : rJ (m 162 ((y4).toNat)) := S.rg 162 ((y4).toNat) (nl rfl)
    refine wp_cs (As := [.int (iI (m 162 ((y4).toNat)))]) (rest := [.int (iI y3)]) rfl rfl rfl rfl (Nat.le_of_ble_eq_true rfl) (Nat.le_of_ble_eq_true rfl) (hW _ S) (fun r16 H16 q16 => ?_)
    obtain ⟨v16, m16, γ16, t16, rfl, hv16, S, hW⟩ := q16
    show wp _ _ _ _ _ [.int (iI v16), .int (iI y3)] _ _
    refine wp_ifI (a := v16) rfl rfl hv16.1 hv16.2 (fun c17 => ?_) (fun c17 => ?_)
    · have dc17 := c17
      have hW := hW.1 dc17
      refine wp_g (n := 1) (pc' := 51) (L' := [some (.ref 158), z1, some (.int (iI y2)), some (.int (iI y3)), some (.int (iI y4)), z5, z6]) (st' := [.int (iI 0), .int (iI y3)]) rfl ?_
      refine wp_add (a := y3) (b := 0) rfl ?_
      refine wp_g (n := 1) (pc' := 53) (L' := [some (.ref 158), z1, some (.int (iI y2)), some (.int (iI (y3 + 0))), some (.int (iI y4)), z5, z6]) (st' := []) rfl ?_
      refine wp_iinc (L' := [some (.ref 158), z1, some (.int (iI y2)), some (.int (iI (y3 + 0))), some (.int (iI (y4 + 1))), z5, z6]) (a := y4) rfl rfl rfl ?_
      refine wp_g (n := 1) (pc' := 18) (L' := [some (.ref 158), z1, some (.int (iI y2)), some (.int (iI (y3 + 0))), some (.int (iI (y4 + 1))), z5, z6]) (st' := []) rfl ?_
      exact hW z1 z5 z6 _ S
    · have dc17 := c17
      have hW := hW.2 dc17
      refine wp_g (n := 2) (pc' := 44) (L' := [some (.ref 158), z1, some (.int (iI y2)), some (.int (iI y3)), some (.int (iI y4)), z5, z6]) (st' := [.int (iI y4), .ref 158, .int (iI y3)]) rfl ?_
      refine wp_cv (As := [.int (iI y4)]) (rest := [.int (iI y3)]) rfl rfl (S.cell 158 (nc rfl)) (by decide) rfl rfl rfl (Nat.le_of_ble_eq_true rfl) (Nat.le_of_ble_eq_true rfl) (hW _ S) (fun r18 H18 q18 => ?_)
      obtain ⟨v18, m18, γ18, t18, rfl, hv18, S, hW⟩ := q18
      show wp _ _ _ _ _ [.int (iI v18), .int (iI y3)] _ _
      refine wp_g (n := 1) (pc' := 51) (L' := [some (.ref 158), z1, some (.int (iI y2)), some (.int (iI y3)), some (.int (iI y4)), z5, z6]) (st' := [.int (iI v18), .int (iI y3)]) rfl ?_
      refine wp_add (a := y3) (b := v18) rfl ?_
      refine wp_g (n := 1) (pc' := 53) (L' := [some (.ref 158), z1, some (.int (iI y2)), some (.int (iI (y3 + v18))), some (.int (iI y4)), z5, z6]) (st' := []) rfl ?_
      refine wp_iinc (L' := [some (.ref 158), z1, some (.int (iI y2)), some (.int (iI (y3 + v18))), some (.int (iI (y4 + 1))), z5, z6]) (a := y4) rfl rfl rfl ?_
      refine wp_g (n := 1) (pc' := 18) (L' := [some (.ref 158), z1, some (.int (iI y2)), some (.int (iI (y3 + v18))), some (.int (iI (y4 + 1))), z5, z6]) (st' := []) rfl ?_
      exact hW z1 z5 z6 _ S
def hd_X9_laysBlocks_2 (E : am_E) (k : Nat) (y1 : Int) (m : MM) (γ : GM) (t : am_H) (Q : Int → MM → GM → am_H → Prop) : Prop := ∀ (z2 z3 z4 : Option Value), TT (pI Q) E (k + 1) 275 2 [some (.ref 158), some (.int (iI y1)), z2, z3, z4] [] m γ t
def hd_X9_laysBlocks_25 (E : am_E) (k : Nat) (y1 : Int) (m : MM) (γ : GM) (t : am_H) (Q : Int → MM → GM → am_H → Prop) : Prop := ∀ (z2 z3 z4 : Option Value), TT (pI Q) E (k + 1) 275 25 [some (.ref 158), some (.int (iI y1)), z2, z3, z4] [] m γ t
def hd_X9_laysBlocks_123 (E : am_E) (k : Nat) (y1 : Int) (y2 : Int) (m : MM) (γ : GM) (t : am_H) (Q : Int → MM → GM → am_H → Prop) : Prop := ∀ (z3 z4 : Option Value), TT (pI Q) E (k + 1) 275 123 [some (.ref 158), some (.int (iI y1)), some (.int (iI y2)), z3, z4] [] m γ t
def hd_X9_laysBlocks_59 (E : am_E) (k : Nat) (y1 : Int) (y2 : Int) (y3 : Int) (y4 : Int) (m : MM) (γ : GM) (t : am_H) (Q : Int → MM → GM → am_H → Prop) : Prop := TT (pI Q) E (k + 1) 275 59 [some (.ref 158), some (.int (iI y1)), some (.int (iI y2)), some (.int (iI y3)), some (.int (iI y4))] [] m γ t
def hd_X9_laysBlocks_195 (E : am_E) (k : Nat) (y1 : Int) (y2 : Int) (m : MM) (γ : GM) (t : am_H) (Q : Int → MM → GM → am_H → Prop) : Prop := ∀ (z3 z4 : Option Value), TT (pI Q) E (k + 1) 275 195 [some (.ref 158), some (.int (iI y1)), some (.int (iI y2)), z3, z4] [] m γ t
def hd_X9_laysBlocks_136 (E : am_E) (k : Nat) (y1 : Int) (y2 : Int) (y3 : Int) (y4 : Int) (m : MM) (γ : GM) (t : am_H) (Q : Int → MM → GM → am_H → Prop) : Prop := TT (pI Q) E (k + 1) 275 136 [some (.ref 158), some (.int (iI y1)), some (.int (iI y2)), some (.int (iI y3)), some (.int (iI y4))] [] m γ t
abbrev W_X9_laysBlocks (E : am_E) (k : Nat) (m : MM) (γ : GM) (t : am_H) (Q : Int → MM → GM → am_H → Prop) : Prop := (hd_X9_laysBlocks_2 E k 0 m γ t Q)
abbrev W_X9_laysBlocks_2 (E : am_E) (k : Nat) (y1 : Int) (m : MM) (γ : GM) (t : am_H) (Q : Int → MM → GM → am_H → Prop) : Prop := (TI E k 203 [.ref 158] m γ t (fun v1 m1 γ1 t1 => (((y1 < v1) → ((0 ≤ y1 ∧ y1 < 16) ∧ (hd_X9_laysBlocks_2 E k (y1 + 1) (up m1 188 (up (m1 188) ((y1).toNat) y1)) γ1 t1 Q))) ∧ (¬ (y1 < v1) → (hd_X9_laysBlocks_25 E k 0 m1 γ1 t1 Q)))))
abbrev W_X9_laysBlocks_25 (E : am_E) (k : Nat) (y1 : Int) (m : MM) (γ : GM) (t : am_H) (Q : Int → MM → GM → am_H → Prop) : Prop := (((y1 < (m 158 6)) → (TI E k 207 [.ref 158, .int (iI y1)] m γ t (fun v3 m3 γ3 t3 => ((0 ≤ v3 ∧ v3 < 16) ∧ ((0 ≤ y1 ∧ y1 < 24) ∧ ((0 ≤ (m3 163 ((y1).toNat)) ∧ (m3 163 ((y1).toNat)) < 16) ∧ (hd_X9_laysBlocks_59 E k y1 (m3 188 ((v3).toNat)) (m3 188 (((m3 163 ((y1).toNat))).toNat)) 0 m3 γ3 t3 Q))))))) ∧ (¬ (y1 < (m 158 6)) → (hd_X9_laysBlocks_123 E k 0 0 m γ t Q)))
abbrev W_X9_laysBlocks_123 (E : am_E) (k : Nat) (y1 : Int) (y2 : Int) (m : MM) (γ : GM) (t : am_H) (Q : Int → MM → GM → am_H → Prop) : Prop := (TI E k 203 [.ref 158] m γ t (fun v1 m1 γ1 t1 => (((y2 < v1) → (hd_X9_laysBlocks_136 E k y1 y2 0 0 m1 γ1 t1 Q)) ∧ (¬ (y2 < v1) → (hd_X9_laysBlocks_195 E k y1 0 m1 γ1 t1 Q)))))
abbrev W_X9_laysBlocks_59 (E : am_E) (k : Nat) (y1 : Int) (y2 : Int) (y3 : Int) (y4 : Int) (m : MM) (γ : GM) (t : am_H) (Q : Int → MM → GM → am_H → Prop) : Prop := (TI E k 203 [.ref 158] m γ t (fun v1 m1 γ1 t1 => (((y4 < v1) → ((0 ≤ y1 ∧ y1 < 24) ∧ ((((m1 162 ((y1).toNat)) = 3) → ((0 ≤ y4 ∧ y4 < 16) ∧ ((((m1 188 ((y4).toNat)) = y2) → ((0 ≤ y4 ∧ y4 < 16) ∧ (hd_X9_laysBlocks_59 E k y1 y2 y3 (y4 + 1) (up m1 188 (up (m1 188) ((y4).toNat) y3)) γ1 t1 Q))) ∧ (¬ ((m1 188 ((y4).toNat)) = y2) → ((0 ≤ y4 ∧ y4 < 16) ∧ ((0 ≤ y4 ∧ y4 < 16) ∧ (hd_X9_laysBlocks_59 E k y1 y2 y3 (y4 + 1) (up m1 188 (up (m1 188) ((y4).toNat) (m1 188 ((y4).toNat)))) γ1 t1 Q))))))) ∧ (¬ ((m1 162 ((y1).toNat)) = 3) → (hd_X9_laysBlocks_25 E k (y1 + 1) m1 γ1 t1 Q))))) ∧ (¬ (y4 < v1) → (hd_X9_laysBlocks_25 E k (y1 + 1) m1 γ1 t1 Q)))))
abbrev W_X9_laysBlocks_195 (E : am_E) (k : Nat) (y1 : Int) (y2 : Int) (m : MM) (γ : GM) (t : am_H) (Q : Int → MM → GM → am_H → Prop) : Prop := (TI E k 203 [.ref 158] m γ t (fun v1 m1 γ1 t1 => (((y2 < v1) → ((0 ≤ y2 ∧ y2 < 16) ∧ ((0 ≤ y2 ∧ y2 < 16) ∧ (rJ ((m1 188 ((y2).toNat)) - 100) ∧ (hd_X9_laysBlocks_195 E k y1 (y2 + 1) (up m1 188 (up (m1 188) ((y2).toNat) ((m1 188 ((y2).toNat)) - 100))) γ1 t1 Q))))) ∧ (¬ (y2 < v1) → (Q y1 m1 γ1 t1)))))
abbrev W_X9_laysBlocks_136 (E : am_E) (k : Nat) (y1 : Int) (y2 : Int) (y3 : Int) (y4 : Int) (m : MM) (γ : GM) (t : am_H) (Q : Int → MM → GM → am_H → Prop) : Prop := (TI E k 203 [.ref 158] m γ t (fun v1 m1 γ1 t1 => (((y4 < v1) → ((0 ≤ y4 ∧ y4 < 16) ∧ ((((m1 188 ((y4).toNat)) = y2) → ((0 ≤ y4 ∧ y4 < 16) ∧ (rJ (y1 + 100) ∧ (hd_X9_laysBlocks_136 E k y1 y2 1 (y4 + 1) (up m1 188 (up (m1 188) ((y4).toNat) (y1 + 100))) γ1 t1 Q)))) ∧ (¬ ((m1 188 ((y4).toNat)) = y2) → (hd_X9_laysBlocks_136 E k y1 y2 y3 (y4 + 1) m1 γ1 t1 Q))))) ∧ (¬ (y4 < v1) → (((y3 = 0) → (hd_X9_laysBlocks_123 E k (y1 + 0) (y2 + 1) m1 γ1 t1 Q)) ∧ (¬ (y3 = 0) → (hd_X9_laysBlocks_123 E k (y1 + 1) (y2 + 1) m1 γ1 t1 Q)))))))
theorem vc_X9_laysBlocks {E : am_E} {k : Nat} {m : MM} {γ : GM} {t : am_H} {Q : Int → MM → GM → am_H → Prop} (hW : W_X9_laysBlocks E k  m γ t Q) : TI E (k + 1) 275 [.ref 158] m γ t Q := by
  unfold W_X9_laysBlocks at hW
  intro h S
  refine wp_g (n := 2) (pc' := 2) (L' := [some (.ref 158), some (.int (iI 0)), none, none, none]) (st' := []) rfl ?_
  exact hW none none none _ S
theorem vc_X9_laysBlocks_2 {E : am_E} {k : Nat} {y1 : Int} {m : MM} {γ : GM} {t : am_H} {Q : Int → MM → GM → am_H → Prop} (hy1 : rJ y1) (hW : W_X9_laysBlocks_2 E k y1 m γ t Q) : hd_X9_laysBlocks_2 E k y1 m γ t Q := by
  unfold W_X9_laysBlocks_2 at hW
  intro z2 z3 z4 h S
  refine wp_g (n := 2) (pc' := 4) (L' := [some (.ref 158), some (.int (iI y1)), z2, z3, z4]) (st' := [.ref 158, .int (iI y1)]) rfl ?_
  refine wp_cv (As := []) (rest := [.int (iI y1)]) rfl rfl (S.cell 158 (nc rfl)) (by decide) rfl rfl rfl (Nat.le_of_ble_eq_true rfl) (Nat.le_of_ble_eq_true rfl) (hW _ S) (fun r1 H1 q1 => ?_)
  obtain ⟨v1, m1, γ1, t1, rfl, hv1, S, hW⟩ := q1
  show wp _ _ _ _ _ [.int (iI v1), .int (iI y1)] _ _
  refine wp_icmpI (a := y1) (b := v1) rfl rfl hy1.1 hy1.2 hv1.1 hv1.2 (fun c2 => ?_) (fun c2 => ?_)
  · have dc2 := (Int.not_lt.mpr c2)
    have hW := hW.2 dc2
    refine wp_g (n := 2) (pc' := 25) (L' := [some (.ref 158), some (.int (iI 0)), z2, z3, z4]) (st' := []) rfl ?_
    exact hW z2 z3 z4 _ S
  · have dc2 := (Int.not_le.mp c2)
    have hW := hW.1 dc2
    refine wp_g (n := 1) (pc' := 11) (L' := [some (.ref 158), some (.int (iI y1)), z2, z3, z4]) (st' := [.ref 158]) rfl ?_
    refine wp_getf (v := .ref 188) rfl rfl (S.cell 158 (nc rfl)) (by decide) rfl ?_
    refine wp_g (n := 2) (pc' := 16) (L' := [some (.ref 158), some (.int (iI y1)), z2, z3, z4]) (st' := [.int (iI y1), .int (iI y1), .ref 188]) rfl ?_
    obtain ⟨p4, hW⟩ := hW
    refine wp_iasF (n := 16) (F := (m1 188)) (y := y1) rfl (S.cell 188 (nc rfl)) p4.1 p4.2 (by decide) (fun H3 hl3 hz3 hf3 => ?_)
    have S : ST H3 (up m1 188 (up (m1 188) ((y1).toNat) y1)) γ1 t1 := S.setI 188 (nc rfl) hl3 hz3 hf3 hy1.1 hy1.2
    refine wp_iinc (L' := [some (.ref 158), some (.int (iI (y1 + 1))), z2, z3, z4]) (a := y1) rfl rfl rfl ?_
    refine wp_g (n := 1) (pc' := 2) (L' := [some (.ref 158), some (.int (iI (y1 + 1))), z2, z3, z4]) (st' := []) rfl ?_
    exact hW z2 z3 z4 _ S
theorem vc_X9_laysBlocks_25 {E : am_E} {k : Nat} {y1 : Int} {m : MM} {γ : GM} {t : am_H} {Q : Int → MM → GM → am_H → Prop} (hy1 : rJ y1) (hW : W_X9_laysBlocks_25 E k y1 m γ t Q) : hd_X9_laysBlocks_25 E k y1 m γ t Q := by
  unfold W_X9_laysBlocks_25 at hW
  intro z2 z3 z4 h S
  refine wp_g (n := 2) (pc' := 27) (L' := [some (.ref 158), some (.int (iI y1)), z2, z3, z4]) (st' := [.ref 158, .int (iI y1)]) rfl ?_
  refine wp_getf (v := .int (iI (m 158 6))) rfl rfl (S.cell 158 (nc rfl)) (by decide) rfl ?_
  have hr1 : rJ (m 158 6) := S.rg 158 6 (nl rfl)
  refine wp_icmpI (a := y1) (b := (m 158 6)) rfl rfl hy1.1 hy1.2 hr1.1 hr1.2 (fun c2 => ?_) (fun c2 => ?_)
  · have dc2 := (Int.not_lt.mpr c2)
    have hW := hW.2 dc2
    refine wp_g (n := 4) (pc' := 123) (L' := [some (.ref 158), some (.int (iI 0)), some (.int (iI 0)), z3, z4]) (st' := []) rfl ?_
    exact hW z3 z4 _ S
  · have dc2 := (Int.not_le.mp c2)
    have hW := hW.1 dc2
    refine wp_g (n := 1) (pc' := 34) (L' := [some (.ref 158), some (.int (iI y1)), z2, z3, z4]) (st' := [.ref 158]) rfl ?_
    refine wp_getf (v := .ref 188) rfl rfl (S.cell 158 (nc rfl)) (by decide) rfl ?_
    refine wp_g (n := 2) (pc' := 39) (L' := [some (.ref 158), some (.int (iI y1)), z2, z3, z4]) (st' := [.int (iI y1), .ref 158, .ref 188]) rfl ?_
    refine wp_cv (As := [.int (iI y1)]) (rest := [.ref 188]) rfl rfl (S.cell 158 (nc rfl)) (by decide) rfl rfl rfl (Nat.le_of_ble_eq_true rfl) (Nat.le_of_ble_eq_true rfl) (hW _ S) (fun r3 H3 q3 => ?_)
    obtain ⟨v3, m3, γ3, t3, rfl, hv3, S, hW⟩ := q3
    show wp _ _ _ _ _ [.int (iI v3), .ref 188] _ _
    obtain ⟨p4, hW⟩ := hW
    refine wp_iald (n := 16) (F := (m3 188)) rfl (S.cell 188 (nc rfl)) (by decide) p4.1 p4.2 (by decide) ?_
    show wp _ _ _ _ _ [.int (iI (m3 188 ((v3).toNat)))] _ _
    have hr5 : rJ (m3 188 ((v3).toNat)) := S.rg 188 ((v3).toNat) (nl rfl)
    refine wp_g (n := 2) (pc' := 45) (L' := [some (.ref 158), some (.int (iI y1)), some (.int (iI (m3 188 ((v3).toNat)))), z3, z4]) (st' := [.ref 158]) rfl ?_
    refine wp_getf (v := .ref 188) rfl rfl (S.cell 158 (nc rfl)) (by decide) rfl ?_
    refine wp_g (n := 1) (pc' := 49) (L' := [some (.ref 158), some (.int (iI y1)), some (.int (iI (m3 188 ((v3).toNat)))), z3, z4]) (st' := [.ref 158, .ref 188]) rfl ?_
    refine wp_getf (v := .ref 163) rfl rfl (S.cell 158 (nc rfl)) (by decide) rfl ?_
    refine wp_g (n := 1) (pc' := 53) (L' := [some (.ref 158), some (.int (iI y1)), some (.int (iI (m3 188 ((v3).toNat)))), z3, z4]) (st' := [.int (iI y1), .ref 163, .ref 188]) rfl ?_
    obtain ⟨p6, hW⟩ := hW
    refine wp_iald (n := 24) (F := (m3 163)) rfl (S.cell 163 (nc rfl)) (by decide) p6.1 p6.2 (by decide) ?_
    show wp _ _ _ _ _ [.int (iI (m3 163 ((y1).toNat))), .ref 188] _ _
    have hr7 : rJ (m3 163 ((y1).toNat)) := S.rg 163 ((y1).toNat) (nl rfl)
    obtain ⟨p8, hW⟩ := hW
    refine wp_iald (n := 16) (F := (m3 188)) rfl (S.cell 188 (nc rfl)) (by decide) p8.1 p8.2 (by decide) ?_
    show wp _ _ _ _ _ [.int (iI (m3 188 (((m3 163 ((y1).toNat))).toNat)))] _ _
    have hr9 : rJ (m3 188 (((m3 163 ((y1).toNat))).toNat)) := S.rg 188 (((m3 163 ((y1).toNat))).toNat) (nl rfl)
    refine wp_g (n := 3) (pc' := 59) (L' := [some (.ref 158), some (.int (iI y1)), some (.int (iI (m3 188 ((v3).toNat)))), some (.int (iI (m3 188 (((m3 163 ((y1).toNat))).toNat)))), some (.int (iI 0))]) (st' := []) rfl ?_
    exact hW _ S
theorem vc_X9_laysBlocks_123 {E : am_E} {k : Nat} {y1 : Int} {y2 : Int} {m : MM} {γ : GM} {t : am_H} {Q : Int → MM → GM → am_H → Prop} (hy1 : rJ y1) (hy2 : rJ y2) (hW : W_X9_laysBlocks_123 E k y1 y2 m γ t Q) : hd_X9_laysBlocks_123 E k y1 y2 m γ t Q := by
  unfold W_X9_laysBlocks_123 at hW
  intro z3 z4 h S
  refine wp_g (n := 2) (pc' := 125) (L' := [some (.ref 158), some (.int (iI y1)), some (.int (iI y2)), z3, z4]) (st' := [.ref 158, .int (iI y2)]) rfl ?_
  refine wp_cv (As := []) (rest := [.int (iI y2)]) rfl rfl (S.cell 158 (nc rfl)) (by decide) rfl rfl rfl (Nat.le_of_ble_eq_true rfl) (Nat.le_of_ble_eq_true rfl) (hW _ S) (fun r1 H1 q1 => ?_)
  obtain ⟨v1, m1, γ1, t1, rfl, hv1, S, hW⟩ := q1
  show wp _ _ _ _ _ [.int (iI v1), .int (iI y2)] _ _
  refine wp_icmpI (a := y2) (b := v1) rfl rfl hy2.1 hy2.2 hv1.1 hv1.2 (fun c2 => ?_) (fun c2 => ?_)
  · have dc2 := (Int.not_lt.mpr c2)
    have hW := hW.2 dc2
    refine wp_g (n := 2) (pc' := 195) (L' := [some (.ref 158), some (.int (iI y1)), some (.int (iI 0)), z3, z4]) (st' := []) rfl ?_
    exact hW z3 z4 _ S
  · have dc2 := (Int.not_le.mp c2)
    have hW := hW.1 dc2
    refine wp_g (n := 4) (pc' := 136) (L' := [some (.ref 158), some (.int (iI y1)), some (.int (iI y2)), some (.int (iI 0)), some (.int (iI 0))]) (st' := []) rfl ?_
    exact hW _ S
theorem vc_X9_laysBlocks_59 {E : am_E} {k : Nat} {y1 : Int} {y2 : Int} {y3 : Int} {y4 : Int} {m : MM} {γ : GM} {t : am_H} {Q : Int → MM → GM → am_H → Prop} (hy1 : rJ y1) (hy2 : rJ y2) (hy3 : rJ y3) (hy4 : rJ y4) (hW : W_X9_laysBlocks_59 E k y1 y2 y3 y4 m γ t Q) : hd_X9_laysBlocks_59 E k y1 y2 y3 y4 m γ t Q := by
  unfold W_X9_laysBlocks_59 at hW
  intro h S
  refine wp_g (n := 2) (pc' := 62) (L' := [some (.ref 158), some (.int (iI y1)), some (.int (iI y2)), some (.int (iI y3)), some (.int (iI y4))]) (st' := [.ref 158, .int (iI y4)]) rfl ?_
  refine wp_cv (As := []) (rest := [.int (iI y4)]) rfl rfl (S.cell 158 (nc rfl)) (by decide) rfl rfl rfl (Nat.le_of_ble_eq_true rfl) (Nat.le_of_ble_eq_true rfl) (hW _ S) (fun r1 H1 q1 => ?_)
  obtain ⟨v1, m1, γ1, t1, rfl, hv1, S, hW⟩ := q1
  show wp _ _ _ _ _ [.int (iI v1), .int (iI y4)] _ _
  refine wp_icmpI (a := y4) (b := v1) rfl rfl hy4.1 hy4.2 hv1.1 hv1.2 (fun c2 => ?_) (fun c2 => ?_)
  · have dc2 := (Int.not_lt.mpr c2)
    have hW := hW.2 dc2
    refine wp_iinc (L' := [some (.ref 158), some (.int (iI (y1 + 1))), some (.int (iI y2)), some (.int (iI y3)), some (.int (iI y4))]) (a := y1) rfl rfl rfl ?_
    refine wp_g (n := 1) (pc' := 25) (L' := [some (.ref 158), some (.int (iI (y1 + 1))), some (.int (iI y2)), some (.int (iI y3)), some (.int (iI y4))]) (st' := []) rfl ?_
    exact hW (some (.int (iI y2))) (some (.int (iI y3))) (some (.int (iI y4))) _ S
  · have dc2 := (Int.not_le.mp c2)
    have hW := hW.1 dc2
    refine wp_g (n := 1) (pc' := 69) (L' := [some (.ref 158), some (.int (iI y1)), some (.int (iI y2)), some (.int (iI y3)), some (.int (iI y4))]) (st' := [.ref 158]) rfl ?_
    refine wp_getf (v := .ref 162) rfl rfl (S.cell 158 (nc rfl)) (by decide) rfl ?_
    refine wp_g (n := 1) (pc' := 73) (L' := [some (.ref 158), some (.int (iI y1)), some (.int (iI y2)), some (.int (iI y3)), some (.int (iI y4))]) (st' := [.int (iI y1), .ref 162]) rfl ?_
    obtain ⟨p3, hW⟩ := hW
    refine wp_iald (n := 24) (F := (m1 162)) rfl (S.cell 162 (nc rfl)) (by decide) p3.1 p3.2 (by decide) ?_
    show wp _ _ _ _ _ [.int (iI (m1 162 ((y1).toNat)))] _ _
    have hr4 : rJ (m1 162 ((y1).toNat)) := S.rg 162 ((y1).toNat) (nl rfl)
    refine wp_g (n := 1) (pc' := 75) (L' := [some (.ref 158), some (.int (iI y1)), some (.int (iI y2)), some (.int (iI y3)), some (.int (iI y4))]) (st' := [.int (iI 3), .int (iI (m1 162 ((y1).toNat)))]) rfl ?_
    refine wp_icmpI (a := (m1 162 ((y1).toNat))) (b := 3) rfl rfl hr4.1 hr4.2 (by decide) (by decide) (fun c5 => ?_) (fun c5 => ?_)
    · have dc5 := c5
      have hW := hW.2 dc5
      refine wp_iinc (L' := [some (.ref 158), some (.int (iI (y1 + 1))), some (.int (iI y2)), some (.int (iI y3)), some (.int (iI y4))]) (a := y1) rfl rfl rfl ?_
      refine wp_g (n := 1) (pc' := 25) (L' := [some (.ref 158), some (.int (iI (y1 + 1))), some (.int (iI y2)), some (.int (iI y3)), some (.int (iI y4))]) (st' := []) rfl ?_
      exact hW (some (.int (iI y2))) (some (.int (iI y3))) (some (.int (iI y4))) _ S
    · have dc5 := (Classical.not_not.mp c5)
      have hW := hW.1 dc5
      refine wp_g (n := 1) (pc' := 79) (L' := [some (.ref 158), some (.int (iI y1)), some (.int (iI y2)), some (.int (iI y3)), some (.int (iI y4))]) (st' := [.ref 158]) rfl ?_
      refine wp_getf (v := .ref 188) rfl rfl (S.cell 158 (nc rfl)) (by decide) rfl ?_
      refine wp_g (n := 2) (pc' := 85) (L' := [some (.ref 158), some (.int (iI y1)), some (.int (iI y2)), some (.int (iI y3)), some (.int (iI y4))]) (st' := [.ref 158, .int (iI y4), .ref 188]) rfl ?_
      refine wp_getf (v := .ref 188) rfl rfl (S.cell 158 (nc rfl)) (by decide) rfl ?_
      refine wp_g (n := 1) (pc' := 90) (L' := [some (.ref 158), some (.int (iI y1)), some (.int (iI y2)), some (.int (iI y3)), some (.int (iI y4))]) (st' := [.int (iI y4), .ref 188, .int (iI y4), .ref 188]) rfl ?_
      obtain ⟨p6, hW⟩ := hW
      refine wp_iald (n := 16) (F := (m1 188)) rfl (S.cell 188 (nc rfl)) (by decide) p6.1 p6.2 (by decide) ?_
      show wp _ _ _ _ _ [.int (iI (m1 188 ((y4).toNat))), .int (iI y4), .ref 188] _ _
      have hr7 : rJ (m1 188 ((y4).toNat)) := S.rg 188 ((y4).toNat) (nl rfl)
      refine wp_g (n := 1) (pc' := 92) (L' := [some (.ref 158), some (.int (iI y1)), some (.int (iI y2)), some (.int (iI y3)), some (.int (iI y4))]) (st' := [.int (iI y2), .int (iI (m1 188 ((y4).toNat))), .int (iI y4), .ref 188]) rfl ?_
      refine wp_icmpI (a := (m1 188 ((y4).toNat))) (b := y2) rfl rfl hr7.1 hr7.2 hy2.1 hy2.2 (fun c8 => ?_) (fun c8 => ?_)
      · have dc8 := c8
        have hW := hW.2 dc8
        refine wp_g (n := 1) (pc' := 100) (L' := [some (.ref 158), some (.int (iI y1)), some (.int (iI y2)), some (.int (iI y3)), some (.int (iI y4))]) (st' := [.ref 158, .int (iI y4), .ref 188]) rfl ?_
        refine wp_getf (v := .ref 188) rfl rfl (S.cell 158 (nc rfl)) (by decide) rfl ?_
        refine wp_g (n := 1) (pc' := 105) (L' := [some (.ref 158), some (.int (iI y1)), some (.int (iI y2)), some (.int (iI y3)), some (.int (iI y4))]) (st' := [.int (iI y4), .ref 188, .int (iI y4), .ref 188]) rfl ?_
        obtain ⟨p9, hW⟩ := hW
        refine wp_iald (n := 16) (F := (m1 188)) rfl (S.cell 188 (nc rfl)) (by decide) p9.1 p9.2 (by decide) ?_
        show wp _ _ _ _ _ [.int (iI (m1 188 ((y4).toNat))), .int (iI y4), .ref 188] _ _
        obtain ⟨p11, hW⟩ := hW
        refine wp_iasF (n := 16) (F := (m1 188)) (y := (m1 188 ((y4).toNat))) rfl (S.cell 188 (nc rfl)) p11.1 p11.2 (by decide) (fun H10 hl10 hz10 hf10 => ?_)
        have S : ST H10 (up m1 188 (up (m1 188) ((y4).toNat) (m1 188 ((y4).toNat)))) γ1 t1 := S.setI 188 (nc rfl) hl10 hz10 hf10 hr7.1 hr7.2
        refine wp_iinc (L' := [some (.ref 158), some (.int (iI y1)), some (.int (iI y2)), some (.int (iI y3)), some (.int (iI (y4 + 1)))]) (a := y4) rfl rfl rfl ?_
        refine wp_g (n := 1) (pc' := 59) (L' := [some (.ref 158), some (.int (iI y1)), some (.int (iI y2)), some (.int (iI y3)), some (.int (iI (y4 + 1)))]) (st' := []) rfl ?_
        exact hW _ S
      · have dc8 := (Classical.not_not.mp c8)
        have hW := hW.1 dc8
        refine wp_g (n := 2) (pc' := 106) (L' := [some (.ref 158), some (.int (iI y1)), some (.int (iI y2)), some (.int (iI y3)), some (.int (iI y4))]) (st' := [.int (iI y3), .int (iI y4), .ref 188]) rfl ?_
        obtain ⟨p13, hW⟩ := hW
        refine wp_iasF (n := 16) (F := (m1 188)) (y := y3) rfl (S.cell 188 (nc rfl)) p13.1 p13.2 (by decide) (fun H12 hl12 hz12 hf12 => ?_)
        have S : ST H12 (up m1 188 (up (m1 188) ((y4).toNat) y3)) γ1 t1 := S.setI 188 (nc rfl) hl12 hz12 hf12 hy3.1 hy3.2
        refine wp_iinc (L' := [some (.ref 158), some (.int (iI y1)), some (.int (iI y2)), some (.int (iI y3)), some (.int (iI (y4 + 1)))]) (a := y4) rfl rfl rfl ?_
        refine wp_g (n := 1) (pc' := 59) (L' := [some (.ref 158), some (.int (iI y1)), some (.int (iI y2)), some (.int (iI y3)), some (.int (iI (y4 + 1)))]) (st' := []) rfl ?_
        exact hW _ S
theorem vc_X9_laysBlocks_195 {E : am_E} {k : Nat} {y1 : Int} {y2 : Int} {m : MM} {γ : GM} {t : am_H} {Q : Int → MM → GM → am_H → Prop} (hy1 : rJ y1) (hy2 : rJ y2) (hW : W_X9_laysBlocks_195 E k y1 y2 m γ t Q) : hd_X9_laysBlocks_195 E k y1 y2 m γ t Q := by
  unfold W_X9_laysBlocks_195 at hW
  intro z3 z4 h S
  refine wp_g (n := 2) (pc' := 197) (L' := [some (.ref 158), some (.int (iI y1)), some (.int (iI y2)), z3, z4]) (st' := [.ref 158, .int (iI y2)]) rfl ?_
  refine wp_cv (As := []) (rest := [.int (iI y2)]) rfl rfl (S.cell 158 (nc rfl)) (by decide) rfl rfl rfl (Nat.le_of_ble_eq_true rfl) (Nat.le_of_ble_eq_true rfl) (hW _ S) (fun r1 H1 q1 => ?_)
  obtain ⟨v1, m1, γ1, t1, rfl, hv1, S, hW⟩ := q1
  show wp _ _ _ _ _ [.int (iI v1), .int (iI y2)] _ _
  refine wp_icmpI (a := y2) (b := v1) rfl rfl hy2.1 hy2.2 hv1.1 hv1.2 (fun c2 => ?_) (fun c2 => ?_)
  · have dc2 := (Int.not_lt.mpr c2)
    have hW := hW.2 dc2
    refine wp_g (n := 1) (pc' := 221) (L' := [some (.ref 158), some (.int (iI y1)), some (.int (iI y2)), z3, z4]) (st' := [.int (iI y1)]) rfl ?_
    exact wp_iret rfl rfl ⟨_, _, _, _, rfl, hy1, S, hW⟩
  · have dc2 := (Int.not_le.mp c2)
    have hW := hW.1 dc2
    refine wp_g (n := 1) (pc' := 204) (L' := [some (.ref 158), some (.int (iI y1)), some (.int (iI y2)), z3, z4]) (st' := [.ref 158]) rfl ?_
    refine wp_getf (v := .ref 188) rfl rfl (S.cell 158 (nc rfl)) (by decide) rfl ?_
    refine wp_g (n := 2) (pc' := 209) (L' := [some (.ref 158), some (.int (iI y1)), some (.int (iI y2)), z3, z4]) (st' := [.int (iI y2), .ref 188, .int (iI y2), .ref 188]) rfl ?_
    obtain ⟨p3, hW⟩ := hW
    refine wp_iald (n := 16) (F := (m1 188)) rfl (S.cell 188 (nc rfl)) (by decide) p3.1 p3.2 (by decide) ?_
    show wp _ _ _ _ _ [.int (iI (m1 188 ((y2).toNat))), .int (iI y2), .ref 188] _ _
    have hr4 : rJ (m1 188 ((y2).toNat)) := S.rg 188 ((y2).toNat) (nl rfl)
    refine wp_g (n := 1) (pc' := 212) (L' := [some (.ref 158), some (.int (iI y1)), some (.int (iI y2)), z3, z4]) (st' := [.int (iI 100), .int (iI (m1 188 ((y2).toNat))), .int (iI y2), .ref 188]) rfl ?_
    refine wp_sub (a := (m1 188 ((y2).toNat))) (b := 100) rfl ?_
    obtain ⟨p6, hW⟩ := hW
    obtain ⟨p7, hW⟩ := hW
    refine wp_iasF (n := 16) (F := (m1 188)) (y := ((m1 188 ((y2).toNat)) - 100)) rfl (S.cell 188 (nc rfl)) p6.1 p6.2 (by decide) (fun H5 hl5 hz5 hf5 => ?_)
    have S : ST H5 (up m1 188 (up (m1 188) ((y2).toNat) ((m1 188 ((y2).toNat)) - 100))) γ1 t1 := S.setI 188 (nc rfl) hl5 hz5 hf5 p7.1 p7.2
    refine wp_iinc (L' := [some (.ref 158), some (.int (iI y1)), some (.int (iI (y2 + 1))), z3, z4]) (a := y2) rfl rfl rfl ?_
    refine wp_g (n := 1) (pc' := 195) (L' := [some (.ref 158), some (.int (iI y1)), some (.int (iI (y2 + 1))), z3, z4]) (st' := []) rfl ?_
    exact hW z3 z4 _ S
theorem vc_X9_laysBlocks_136 {E : am_E} {k : Nat} {y1 : Int} {y2 : Int} {y3 : Int} {y4 : Int} {m : MM} {γ : GM} {t : am_H} {Q : Int → MM → GM → am_H → Prop} (hy1 : rJ y1) (hy2 : rJ y2) (hy3 : rJ y3) (hy4 : rJ y4) (hW : W_X9_laysBlocks_136 E k y1 y2 y3 y4 m γ t Q) : hd_X9_laysBlocks_136 E k y1 y2 y3 y4 m γ t Q := by
  unfold W_X9_laysBlocks_136 at hW
  intro h S
  refine wp_g (n := 2) (pc' := 139) (L' := [some (.ref 158), some (.int (iI y1)), some (.int (iI y2)), some (.int (iI y3)), some (.int (iI y4))]) (st' := [.ref 158, .int (iI y4)]) rfl ?_
  refine wp_cv (As := []) (rest := [.int (iI y4)]) rfl rfl (S.cell 158 (nc rfl)) (by decide) rfl rfl rfl (Nat.le_of_ble_eq_true rfl) (Nat.le_of_ble_eq_true rfl) (hW _ S) (fun r1 H1 q1 => ?_)
  obtain ⟨v1, m1, γ1, t1, rfl, hv1, S, hW⟩ := q1
  show wp _ _ _ _ _ [.int (iI v1), .int (iI y4)] _ _
  refine wp_icmpI (a := y4) (b := v1) rfl rfl hy4.1 hy4.2 hv1.1 hv1.2 (fun c2 => ?_) (fun c2 => ?_)
  · have dc2 := (Int.not_lt.mpr c2)
    have hW := hW.2 dc2
    refine wp_g (n := 2) (pc' := 177) (L' := [some (.ref 158), some (.int (iI y1)), some (.int (iI y2)), some (.int (iI y3)), some (.int (iI y4))]) (st' := [.int (iI y3), .int (iI y1)]) rfl ?_
    refine wp_ifI (a := y3) rfl rfl hy3.1 hy3.2 (fun c3 => ?_) (fun c3 => ?_)
    · have dc3 := c3
      have hW := hW.1 dc3
      refine wp_g (n := 1) (pc' := 185) (L' := [some (.ref 158), some (.int (iI y1)), some (.int (iI y2)), some (.int (iI y3)), some (.int (iI y4))]) (st' := [.int (iI 0), .int (iI y1)]) rfl ?_
      refine wp_add (a := y1) (b := 0) rfl ?_
      refine wp_g (n := 1) (pc' := 187) (L' := [some (.ref 158), some (.int (iI (y1 + 0))), some (.int (iI y2)), some (.int (iI y3)), some (.int (iI y4))]) (st' := []) rfl ?_
      refine wp_iinc (L' := [some (.ref 158), some (.int (iI (y1 + 0))), some (.int (iI (y2 + 1))), some (.int (iI y3)), some (.int (iI y4))]) (a := y2) rfl rfl rfl ?_
      refine wp_g (n := 1) (pc' := 123) (L' := [some (.ref 158), some (.int (iI (y1 + 0))), some (.int (iI (y2 + 1))), some (.int (iI y3)), some (.int (iI y4))]) (st' := []) rfl ?_
      exact hW (some (.int (iI y3))) (some (.int (iI y4))) _ S
    · have dc3 := c3
      have hW := hW.2 dc3
      refine wp_g (n := 2) (pc' := 185) (L' := [some (.ref 158), some (.int (iI y1)), some (.int (iI y2)), some (.int (iI y3)), some (.int (iI y4))]) (st' := [.int (iI 1), .int (iI y1)]) rfl ?_
      refine wp_add (a := y1) (b := 1) rfl ?_
      refine wp_g (n := 1) (pc' := 187) (L' := [some (.ref 158), some (.int (iI (y1 + 1))), some (.int (iI y2)), some (.int (iI y3)), some (.int (iI y4))]) (st' := []) rfl ?_
      refine wp_iinc (L' := [some (.ref 158), some (.int (iI (y1 + 1))), some (.int (iI (y2 + 1))), some (.int (iI y3)), some (.int (iI y4))]) (a := y2) rfl rfl rfl ?_
      refine wp_g (n := 1) (pc' := 123) (L' := [some (.ref 158), some (.int (iI (y1 + 1))), some (.int (iI (y2 + 1))), some (.int (iI y3)), some (.int (iI y4))]) (st' := []) rfl ?_
      exact hW (some (.int (iI y3))) (some (.int (iI y4))) _ S
  · have dc2 := (Int.not_le.mp c2)
    have hW := hW.1 dc2
    refine wp_g (n := 1) (pc' := 146) (L' := [some (.ref 158), some (.int (iI y1)), some (.int (iI y2)), some (.int (iI y3)), some (.int (iI y4))]) (st' := [.ref 158]) rfl ?_
    refine wp_getf (v := .ref 188) rfl rfl (S.cell 158 (nc rfl)) (by decide) rfl ?_
    refine wp_g (n := 1) (pc' := 151) (L' := [some (.ref 158), some (.int (iI y1)), some (.int (iI y2)), some (.int (iI y3)), some (.int (iI y4))]) (st' := [.int (iI y4), .ref 188]) rfl ?_
    obtain ⟨p4, hW⟩ := hW
    refine wp_iald (n := 16) (F := (m1 188)) rfl (S.cell 188 (nc rfl)) (by decide) p4.1 p4.2 (by decide) ?_
    show wp _ _ _ _ _ [.int (iI (m1 188 ((y4).toNat)))] _ _
    have hr5 : rJ (m1 188 ((y4).toNat)) := S.rg 188 ((y4).toNat) (nl rfl)
    refine wp_g (n := 1) (pc' := 153) (L' := [some (.ref 158), some (.int (iI y1)), some (.int (iI y2)), some (.int (iI y3)), some (.int (iI y4))]) (st' := [.int (iI y2), .int (iI (m1 188 ((y4).toNat)))]) rfl ?_
    refine wp_icmpI (a := (m1 188 ((y4).toNat))) (b := y2) rfl rfl hr5.1 hr5.2 hy2.1 hy2.2 (fun c6 => ?_) (fun c6 => ?_)
    · have dc6 := c6
      have hW := hW.2 dc6
      refine wp_iinc (L' := [some (.ref 158), some (.int (iI y1)), some (.int (iI y2)), some (.int (iI y3)), some (.int (iI (y4 + 1)))]) (a := y4) rfl rfl rfl ?_
      refine wp_g (n := 1) (pc' := 136) (L' := [some (.ref 158), some (.int (iI y1)), some (.int (iI y2)), some (.int (iI y3)), some (.int (iI (y4 + 1)))]) (st' := []) rfl ?_
      exact hW _ S
    · have dc6 := (Classical.not_not.mp c6)
      have hW := hW.1 dc6
      refine wp_g (n := 3) (pc' := 159) (L' := [some (.ref 158), some (.int (iI y1)), some (.int (iI y2)), some (.int (iI 1)), some (.int (iI y4))]) (st' := [.ref 158]) rfl ?_
      refine wp_getf (v := .ref 188) rfl rfl (S.cell 158 (nc rfl)) (by decide) rfl ?_
      refine wp_g (n := 3) (pc' := 167) (L' := [some (.ref 158), some (.int (iI y1)), some (.int (iI y2)), some (.int (iI 1)), some (.int (iI y4))]) (st' := [.int (iI 100), .int (iI y1), .int (iI y4), .ref 188]) rfl ?_
      refine wp_add (a := y1) (b := 100) rfl ?_
      obtain ⟨p8, hW⟩ := hW
      obtain ⟨p9, hW⟩ := hW
      refine wp_iasF (n := 16) (F := (m1 188)) (y := (y1 + 100)) rfl (S.cell 188 (nc rfl)) p8.1 p8.2 (by decide) (fun H7 hl7 hz7 hf7 => ?_)
      have S : ST H7 (up m1 188 (up (m1 188) ((y4).toNat) (y1 + 100))) γ1 t1 := S.setI 188 (nc rfl) hl7 hz7 hf7 p9.1 p9.2
      refine wp_iinc (L' := [some (.ref 158), some (.int (iI y1)), some (.int (iI y2)), some (.int (iI 1)), some (.int (iI (y4 + 1)))]) (a := y4) rfl rfl rfl ?_
      refine wp_g (n := 1) (pc' := 136) (L' := [some (.ref 158), some (.int (iI y1)), some (.int (iI y2)), some (.int (iI 1)), some (.int (iI (y4 + 1)))]) (st' := []) rfl ?_
      exact hW _ S
