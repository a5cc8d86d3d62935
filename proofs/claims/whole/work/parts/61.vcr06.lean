abbrev W_X9_isPrime (E : am_E) (k : Nat) (x1 : Int) (m : MM) (γ : GM) (t : am_H) (Q : Int → MM → GM → am_H → Prop) : Prop := (((x1 = 2) → (Q 1 m γ t)) ∧ (¬ (x1 = 2) → (((x1 = 3) → (Q 1 m γ t)) ∧ (¬ (x1 = 3) → (((x1 = 5) → (Q 1 m γ t)) ∧ (¬ (x1 = 5) → (((x1 = 7) → (Q 1 m γ t)) ∧ (¬ (x1 = 7) → (((x1 = 11) → (Q 1 m γ t)) ∧ (¬ (x1 = 11) → (((x1 = 13) → (Q 1 m γ t)) ∧ (¬ (x1 = 13) → (Q 0 m γ t)))))))))))))
theorem vc_X9_isPrime {E : am_E} {k : Nat} {x1 : Int} {m : MM} {γ : GM} {t : am_H} {Q : Int → MM → GM → am_H → Prop} (hx1 : rJ x1) (hW : W_X9_isPrime E k x1 m γ t Q) : TI E k 282 [.int (iI x1)] m γ t Q := by
  unfold W_X9_isPrime at hW
  intro h S
  refine wp_g (n := 2) (pc' := 2) (L' := [some (.int (iI x1))]) (st' := [.int (iI 2), .int (iI x1)]) rfl ?_
  refine wp_icmpI (a := x1) (b := 2) rfl rfl hx1.1 hx1.2 (by decide) (by decide) (fun c1 => ?_) (fun c1 => ?_)
  · have dc1 := c1
    have hW := hW.1 dc1
    refine wp_g (n := 2) (pc' := 38) (L' := [some (.int (iI x1))]) (st' := [.int (iI 1)]) rfl ?_
    exact wp_zret rfl rfl (by decide) ⟨_, _, _, _, rfl, (by decide), S, hW⟩
  · have dc1 := c1
    have hW := hW.2 dc1
    refine wp_g (n := 2) (pc' := 7) (L' := [some (.int (iI x1))]) (st' := [.int (iI 3), .int (iI x1)]) rfl ?_
    refine wp_icmpI (a := x1) (b := 3) rfl rfl hx1.1 hx1.2 (by decide) (by decide) (fun c2 => ?_) (fun c2 => ?_)
    · have dc2 := c2
      have hW := hW.1 dc2
      refine wp_g (n := 2) (pc' := 38) (L' := [some (.int (iI x1))]) (st' := [.int (iI 1)]) rfl ?_
      exact wp_zret rfl rfl (by decide) ⟨_, _, _, _, rfl, (by decide), S, hW⟩
    · have dc2 := c2
      have hW := hW.2 dc2
      refine wp_g (n := 2) (pc' := 12) (L' := [some (.int (iI x1))]) (st' := [.int (iI 5), .int (iI x1)]) rfl ?_
      refine wp_icmpI (a := x1) (b := 5) rfl rfl hx1.1 hx1.2 (by decide) (by decide) (fun c3 => ?_) (fun c3 => ?_)
      · have dc3 := c3
        have hW := hW.1 dc3
        refine wp_g (n := 2) (pc' := 38) (L' := [some (.int (iI x1))]) (st' := [.int (iI 1)]) rfl ?_
        exact wp_zret rfl rfl (by decide) ⟨_, _, _, _, rfl, (by decide), S, hW⟩
      · have dc3 := c3
        have hW := hW.2 dc3
        refine wp_g (n := 2) (pc' := 18) (L' := [some (.int (iI x1))]) (st' := [.int (iI 7), .int (iI x1)]) rfl ?_
        refine wp_icmpI (a := x1) (b := 7) rfl rfl hx1.1 hx1.2 (by decide) (by decide) (fun c4 => ?_) (fun c4 => ?_)
        · have dc4 := c4
          have hW := hW.1 dc4
          refine wp_g (n := 2) (pc' := 38) (L' := [some (.int (iI x1))]) (st' := [.int (iI 1)]) rfl ?_
          exact wp_zret rfl rfl (by decide) ⟨_, _, _, _, rfl, (by decide), S, hW⟩
        · have dc4 := c4
          have hW := hW.2 dc4
          refine wp_g (n := 2) (pc' := 24) (L' := [some (.int (iI x1))]) (st' := [.int (iI 11), .int (iI x1)]) rfl ?_
          refine wp_icmpI (a := x1) (b := 11) rfl rfl hx1.1 hx1.2 (by decide) (by decide) (fun c5 => ?_) (fun c5 => ?_)
          · have dc5 := c5
            have hW := hW.1 dc5
            refine wp_g (n := 2) (pc' := 38) (L' := [some (.int (iI x1))]) (st' := [.int (iI 1)]) rfl ?_
            exact wp_zret rfl rfl (by decide) ⟨_, _, _, _, rfl, (by decide), S, hW⟩
          · have dc5 := c5
            have hW := hW.2 dc5
            refine wp_g (n := 2) (pc' := 30) (L' := [some (.int (iI x1))]) (st' := [.int (iI 13), .int (iI x1)]) rfl ?_
            refine wp_icmpI (a := x1) (b := 13) rfl rfl hx1.1 hx1.2 (by decide) (by decide) (fun c6 => ?_) (fun c6 => ?_)
            · have dc6 := c6
              have hW := hW.2 dc6
              refine wp_g (n := 1) (pc' := 38) (L' := [some (.int (iI x1))]) (st' := [.int (iI 0)]) rfl ?_
              exact wp_zret rfl rfl (by decide) ⟨_, _, _, _, rfl, (by decide), S, hW⟩
            · have dc6 := (Classical.not_not.mp c6)
              have hW := hW.1 dc6
              refine wp_g (n := 2) (pc' := 38) (L' := [some (.int (iI x1))]) (st' := [.int (iI 1)]) rfl ?_
              exact wp_zret rfl rfl (by decide) ⟨_, _, _, _, rfl, (by decide), S, hW⟩
def hd_X9_colours_29 (E : am_E) (k : Nat) (x1 : Int) (x2 : Int) (y2 : Int) (y3 : Int) (y4 : Int) (y5 : Int) (m : MM) (γ : GM) (t : am_H) (Q : Int → MM → GM → am_H → Prop) : Prop := ∀ (z1 z6 : Option Value), TT (pI Q) E (k + 1) 283 29 [some (.ref 158), z1, some (.int (iI y2)), some (.int (iI y3)), some (.int (iI y4)), some (.int (iI y5)), z6] [] m γ t
def hd_X9_colours_57 (E : am_E) (k : Nat) (x1 : Int) (x2 : Int) (y2 : Int) (y3 : Int) (y4 : Int) (y5 : Int) (y6 : Int) (m : MM) (γ : GM) (t : am_H) (Q : Int → MM → GM → am_H → Prop) : Prop := ∀ (z1 : Option Value), TT (pI Q) E (k + 1) 283 57 [some (.ref 158), z1, some (.int (iI y2)), some (.int (iI y3)), some (.int (iI y4)), some (.int (iI y5)), some (.int (iI y6))] [] m γ t
def hd_X9_colours_174 (E : am_E) (k : Nat) (x1 : Int) (x2 : Int) (y2 : Int) (y3 : Int) (y4 : Int) (y5 : Int) (y6 : Int) (m : MM) (γ : GM) (t : am_H) (Q : Int → MM → GM → am_H → Prop) : Prop := ∀ (z1 : Option Value), TT (pI Q) E (k + 1) 283 174 [some (.ref 158), z1, some (.int (iI y2)), some (.int (iI y3)), some (.int (iI y4)), some (.int (iI y5)), some (.int (iI y6))] [] m γ t
abbrev W_X9_colours (E : am_E) (k : Nat) (x1 : Int) (x2 : Int) (m : MM) (γ : GM) (t : am_H) (Q : Int → MM → GM → am_H → Prop) : Prop := (TI E k 282 [.int (iI x2)] m γ t (fun v1 m1 γ1 t1 => (((v1 = 0) → (Q (-2) m1 γ1 t1)) ∧ (¬ (v1 = 0) → (TI E k 216 [.ref 158, .int (iI x1)] m1 γ1 t1 (fun v3 m3 γ3 t3 => (((v3 = 0) → (Q (-2) m3 γ3 t3)) ∧ (¬ (v3 = 0) → (TI E k 278 [.ref 158] m3 γ3 t3 (fun v5 m5 γ5 t5 => (hd_X9_colours_29 E k x1 x2 x2 v5 0 0 m5 γ5 t5 Q)))))))))))
abbrev W_X9_colours_29 (E : am_E) (k : Nat) (x1 : Int) (x2 : Int) (y2 : Int) (y3 : Int) (y4 : Int) (y5 : Int) (m : MM) (γ : GM) (t : am_H) (Q : Int → MM → GM → am_H → Prop) : Prop := (((y5 < (m 158 6)) → ((0 ≤ y5 ∧ y5 < 24) ∧ (TI E k 204 [.int (iI (m 162 ((y5).toNat)))] m γ t (fun v7 m7 γ7 t7 => (((v7 = 0) → (hd_X9_colours_29 E k x1 x2 y2 y3 y4 (y5 + 1) m7 γ7 t7 Q)) ∧ (¬ (v7 = 0) → (hd_X9_colours_57 E k x1 x2 y2 y3 y4 y5 0 m7 γ7 t7 Q))))))) ∧ (¬ (y5 < (m 158 6)) → (TI E k 281 [.ref 158, .int (iI y4), .int (iI 48), .int (iI y2)] m γ t (fun v3 m3 γ3 t3 => (rJ (y3 - v3) ∧ (Q (y3 - v3) m3 γ3 t3))))))
abbrev W_X9_colours_57 (E : am_E) (k : Nat) (x1 : Int) (x2 : Int) (y2 : Int) (y3 : Int) (y4 : Int) (y5 : Int) (y6 : Int) (m : MM) (γ : GM) (t : am_H) (Q : Int → MM → GM → am_H → Prop) : Prop := (((y6 < 48) → ((0 ≤ ((48 * y4) + y6) ∧ ((48 * y4) + y6) < 1152) ∧ (hd_X9_colours_57 E k x1 x2 y2 y3 y4 y5 (y6 + 1) (up m 191 (up (m 191) ((((48 * y4) + y6)).toNat) 0)) γ t Q))) ∧ (¬ (y6 < 48) → ((0 ≤ y5 ∧ y5 < 24) ∧ ((0 ≤ (m 173 ((y5).toNat)) ∧ (m 173 ((y5).toNat)) < 48) ∧ ((0 ≤ ((48 * y4) + (m 190 (((m 173 ((y5).toNat))).toNat))) ∧ ((48 * y4) + (m 190 (((m 173 ((y5).toNat))).toNat))) < 1152) ∧ ((0 ≤ ((48 * y4) + (m 190 (((m 173 ((y5).toNat))).toNat))) ∧ ((48 * y4) + (m 190 (((m 173 ((y5).toNat))).toNat))) < 1152) ∧ (rJ ((m 191 ((((48 * y4) + (m 190 (((m 173 ((y5).toNat))).toNat)))).toNat)) + 2) ∧ ((0 ≤ y5 ∧ y5 < 24) ∧ ((0 ≤ (m 174 ((y5).toNat)) ∧ (m 174 ((y5).toNat)) < 48) ∧ ((0 ≤ ((48 * y4) + (m 190 (((m 174 ((y5).toNat))).toNat))) ∧ ((48 * y4) + (m 190 (((m 174 ((y5).toNat))).toNat))) < 1152) ∧ ((0 ≤ ((48 * y4) + (m 190 (((m 174 ((y5).toNat))).toNat))) ∧ ((48 * y4) + (m 190 (((m 174 ((y5).toNat))).toNat))) < 1152) ∧ (rJ (((up (m 191) ((((48 * y4) + (m 190 (((m 173 ((y5).toNat))).toNat)))).toNat) ((m 191 ((((48 * y4) + (m 190 (((m 173 ((y5).toNat))).toNat)))).toNat)) + 2)) ((((48 * y4) + (m 190 (((m 174 ((y5).toNat))).toNat)))).toNat)) - 1) ∧ ((0 ≤ y5 ∧ y5 < 24) ∧ ((0 ≤ y5 ∧ y5 < 24) ∧ (TI E k 279 [.ref 158, .int (iI (m 172 ((y5).toNat))), .int (iI (m 174 ((y5).toNat)))] (up (up m 191 (up (m 191) ((((48 * y4) + (m 190 (((m 173 ((y5).toNat))).toNat)))).toNat) ((m 191 ((((48 * y4) + (m 190 (((m 173 ((y5).toNat))).toNat)))).toNat)) + 2))) 191 (up (up (m 191) ((((48 * y4) + (m 190 (((m 173 ((y5).toNat))).toNat)))).toNat) ((m 191 ((((48 * y4) + (m 190 (((m 173 ((y5).toNat))).toNat)))).toNat)) + 2)) ((((48 * y4) + (m 190 (((m 174 ((y5).toNat))).toNat)))).toNat) (((up (m 191) ((((48 * y4) + (m 190 (((m 173 ((y5).toNat))).toNat)))).toNat) ((m 191 ((((48 * y4) + (m 190 (((m 173 ((y5).toNat))).toNat)))).toNat)) + 2)) ((((48 * y4) + (m 190 (((m 174 ((y5).toNat))).toNat)))).toNat)) - 1))) γ t (fun v23 m23 γ23 t23 => ((0 ≤ ((48 * y4) + v23) ∧ ((48 * y4) + v23) < 1152) ∧ ((0 ≤ ((48 * y4) + v23) ∧ ((48 * y4) + v23) < 1152) ∧ (rJ ((m23 191 ((((48 * y4) + v23)).toNat)) - 1) ∧ (hd_X9_colours_174 E k x1 x2 y2 y3 y4 y5 0 (up m23 191 (up (m23 191) ((((48 * y4) + v23)).toNat) ((m23 191 ((((48 * y4) + v23)).toNat)) - 1))) γ23 t23 Q))))))))))))))))))))
abbrev W_X9_colours_174 (E : am_E) (k : Nat) (x1 : Int) (x2 : Int) (y2 : Int) (y3 : Int) (y4 : Int) (y5 : Int) (y6 : Int) (m : MM) (γ : GM) (t : am_H) (Q : Int → MM → GM → am_H → Prop) : Prop := (((y6 < 48) → ((0 ≤ ((48 * y4) + y6) ∧ ((48 * y4) + y6) < 1152) ∧ (TI E k 280 [.int (iI (m 191 ((((48 * y4) + y6)).toNat))), .int (iI y2)] m γ t (fun v4 m4 γ4 t4 => ((0 ≤ ((48 * y4) + y6) ∧ ((48 * y4) + y6) < 1152) ∧ (hd_X9_colours_174 E k x1 x2 y2 y3 y4 y5 (y6 + 1) (up m4 191 (up (m4 191) ((((48 * y4) + y6)).toNat) v4)) γ4 t4 Q)))))) ∧ (¬ (y6 < 48) → (hd_X9_colours_29 E k x1 x2 y2 y3 (y4 + 1) (y5 + 1) m γ t Q)))
theorem vc_X9_colours {E : am_E} {k : Nat} {x1 : Int} {x2 : Int} {m : MM} {γ : GM} {t : am_H} {Q : Int → MM → GM → am_H → Prop} (hx1 : rJ x1) (hx2 : rJ x2) (hW : W_X9_colours E k x1 x2 m γ t Q) : TI E (k + 1) 283 [.ref 158, .int (iI x1), .int (iI x2)] m γ t Q := by
  unfold W_X9_colours at hW
  intro h S
  refine wp_g (n := 1) (pc' := 1) (L' := [some (.ref 158), some (.int (iI x1)), some (.int (iI x2)), none, none, none, none]) (st' := [.int (iI x2)]) rfl ?_
  refine wp_cs (As := [.int (iI x2)]) (rest := []) rfl rfl rfl rfl (Nat.le_of_ble_eq_true rfl) (Nat.le_of_ble_eq_true rfl) (hW _ S) (fun r1 H1 q1 => ?_)
  obtain ⟨v1, m1, γ1, t1, rfl, hv1, S, hW⟩ := q1
  show wp _ _ _ _ _ [.int (iI v1)] _ _
  refine wp_ifI (a := v1) rfl rfl hv1.1 hv1.2 (fun c2 => ?_) (fun c2 => ?_)
  · have dc2 := c2
    have hW := hW.1 dc2
    refine wp_g (n := 1) (pc' := 17) (L' := [some (.ref 158), some (.int (iI x1)), some (.int (iI x2)), none, none, none, none]) (st' := [.int (iI (-2))]) rfl ?_
    exact wp_iret rfl rfl ⟨_, _, _, _, rfl, (by decide), S, hW⟩
  · have dc2 := c2
    have hW := hW.2 dc2
    refine wp_g (n := 2) (pc' := 9) (L' := [some (.ref 158), some (.int (iI x1)), some (.int (iI x2)), none, none, none, none]) (st' := [.int (iI x1), .ref 158]) rfl ?_
    refine wp_cv (As := [.int (iI x1)]) (rest := []) rfl rfl (S.cell 158 (nc rfl)) (by decide) rfl rfl rfl (Nat.le_of_ble_eq_true rfl) (Nat.le_of_ble_eq_true rfl) (hW _ S) (fun r3 H3 q3 => ?_)
    obtain ⟨v3, m3, γ3, t3, rfl, hv3, S, hW⟩ := q3
    show wp _ _ _ _ _ [.int (iI v3)] _ _
    refine wp_ifI (a := v3) rfl rfl hv3.1 hv3.2 (fun c4 => ?_) (fun c4 => ?_)
    · have dc4 := c4
      have hW := hW.2 dc4
      refine wp_g (n := 1) (pc' := 19) (L' := [some (.ref 158), some (.int (iI x1)), some (.int (iI x2)), none, none, none, none]) (st' := [.ref 158]) rfl ?_
      refine wp_cv (As := []) (rest := []) rfl rfl (S.cell 158 (nc rfl)) (by decide) rfl rfl rfl (Nat.le_of_ble_eq_true rfl) (Nat.le_of_ble_eq_true rfl) (hW _ S) (fun r5 H5 q5 => ?_)
      obtain ⟨v5, m5, γ5, t5, rfl, hv5, S, hW⟩ := q5
      show wp _ _ _ _ _ [.int (iI v5)] _ _
      refine wp_g (n := 5) (pc' := 29) (L' := [some (.ref 158), some (.int (iI x1)), some (.int (iI x2)), some (.int (iI v5)), some (.int (iI 0)), some (.int (iI 0)), none]) (st' := []) rfl ?_
      exact hW (some (.int (iI x1))) none _ S
    · have dc4 := (Classical.not_not.mp c4)
      have hW := hW.1 dc4
      refine wp_g (n := 1) (pc' := 17) (L' := [some (.ref 158), some (.int (iI x1)), some (.int (iI x2)), none, none, none, none]) (st' := [.int (iI (-2))]) rfl ?_
      exact wp_iret rfl rfl ⟨_, _, _, _, rfl, (by decide), S, hW⟩
theorem vc_X9_colours_29 {E : am_E} {k : Nat} {x1 : Int} {x2 : Int} {y2 : Int} {y3 : Int} {y4 : Int} {y5 : Int} {m : MM} {γ : GM} {t : am_H} {Q : Int → MM → GM → am_H → Prop} (hx1 : rJ x1) (hx2 : rJ x2) (hy2 : rJ y2) (hy3 : rJ y3) (hy4 : rJ y4) (hy5 : rJ y5) (hW : W_X9_colours_29 E k x1 x2 y2 y3 y4 y5 m γ t Q) : hd_X9_colours_29 E k x1 x2 y2 y3 y4 y5 m γ t Q := by
  unfold W_X9_colours_29 at hW
  intro z1 z6 h S
  refine wp_g (n := 2) (pc' := 32) (L' := [some (.ref 158), z1, some (.int (iI y2)), some (.int (iI y3)), some (.int (iI y4)), some (.int (iI y5)), z6]) (st' := [.ref 158, .int (iI y5)]) rfl ?_
  refine wp_getf (v := .int (iI (m 158 6))) rfl rfl (S.cell 158 (nc rfl)) (by decide) rfl ?_
  have hr1 : rJ (m 158 6) := S.rg 158 6 (nl rfl)
  refine wp_icmpI (a := y5) (b := (m 158 6)) rfl rfl hy5.1 hy5.2 hr1.1 hr1.2 (fun c2 => ?_) (fun c2 => ?_)
  · have dc2 := (Int.not_lt.mpr c2)
    have hW := hW.2 dc2
    refine wp_g (n := 5) (pc' := 233) (L' := [some (.ref 158), z1, some (.int (iI y2)), some (.int (iI y3)), some (.int (iI y4)), some (.int (iI y5)), z6]) (st' := [.int (iI y2), .int (iI 48), .int (iI y4), .ref 158, .int (iI y3)]) rfl ?_
    refine wp_cv (As := [.int (iI y4), .int (iI 48), .int (iI y2)]) (rest := [.int (iI y3)]) rfl rfl (S.cell 158 (nc rfl)) (by decide) rfl rfl rfl (Nat.le_of_ble_eq_true rfl) (Nat.le_of_ble_eq_true rfl) (hW _ S) (fun r3 H3 q3 => ?_)
    obtain ⟨v3, m3, γ3, t3, rfl, hv3, S, hW⟩ := q3
    show wp _ _ _ _ _ [.int (iI v3), .int (iI y3)] _ _
    refine wp_sub (a := y3) (b := v3) rfl ?_
    obtain ⟨p4, hW⟩ := hW
    exact wp_iret rfl rfl ⟨_, _, _, _, rfl, p4, S, hW⟩
  · have dc2 := (Int.not_le.mp c2)
    have hW := hW.1 dc2
    refine wp_g (n := 1) (pc' := 39) (L' := [some (.ref 158), z1, some (.int (iI y2)), some (.int (iI y3)), some (.int (iI y4)), some (.int (iI y5)), z6]) (st' := [.ref 158]) rfl ?_
    refine wp_getf (v := .ref 162) rfl rfl (S.cell 158 (nc rfl)) (by decide) rfl ?_
    refine wp_g (n := 1) (pc' := 44) (L' := [some (.ref 158), z1, some (.int (iI y2)), some (.int (iI y3)), some (.int (iI y4)), some (.int (iI y5)), z6]) (st' := [.int (iI y5), .ref 162]) rfl ?_
    obtain ⟨p5, hW⟩ := hW
    refine wp_iald (n := 24) (F := (m 162)) rfl (S.cell 162 (nc rfl)) (by decide) p5.1 p5.2 (by decide) ?_
    show wp _ _ _ _ _ [.int (iI (m 162 ((y5).toNat)))] _ _
    have hr6 : rJ (m 162 ((y5).toNat)) := S.rg 162 ((y5).toNat) (nl rfl)
    refine wp_cs (As := [.int (iI (m 162 ((y5).toNat)))]) (rest := []) rfl rfl rfl rfl (Nat.le_of_ble_eq_true rfl) (Nat.le_of_ble_eq_true rfl) (hW _ S) (fun r7 H7 q7 => ?_)
    obtain ⟨v7, m7, γ7, t7, rfl, hv7, S, hW⟩ := q7
    show wp _ _ _ _ _ [.int (iI v7)] _ _
    refine wp_ifI (a := v7) rfl rfl hv7.1 hv7.2 (fun c8 => ?_) (fun c8 => ?_)
    · have dc8 := c8
      have hW := hW.2 dc8
      refine wp_g (n := 2) (pc' := 57) (L' := [some (.ref 158), z1, some (.int (iI y2)), some (.int (iI y3)), some (.int (iI y4)), some (.int (iI y5)), some (.int (iI 0))]) (st' := []) rfl ?_
      exact hW z1 _ S
    · have dc8 := (Classical.not_not.mp c8)
      have hW := hW.1 dc8
      refine wp_g (n := 1) (pc' := 220) (L' := [some (.ref 158), z1, some (.int (iI y2)), some (.int (iI y3)), some (.int (iI y4)), some (.int (iI y5)), z6]) (st' := []) rfl ?_
      refine wp_iinc (L' := [some (.ref 158), z1, some (.int (iI y2)), some (.int (iI y3)), some (.int (iI y4)), some (.int (iI (y5 + 1))), z6]) (a := y5) rfl rfl rfl ?_
      refine wp_g (n := 1) (pc' := 29) (L' := [some (.ref 158), z1, some (.int (iI y2)), some (.int (iI y3)), some (.int (iI y4)), some (.int (iI (y5 + 1))), z6]) (st' := []) rfl ?_
      exact hW z1 z6 _ S
theorem vc_X9_colours_57 {E : am_E} {k : Nat} {x1 : Int} {x2 : Int} {y2 : Int} {y3 : Int} {y4 : Int} {y5 : Int} {y6 : Int} {m : MM} {γ : GM} {t : am_H} {Q : Int → MM → GM → am_H → Prop} (hx1 : rJ x1) (hx2 : rJ x2) (hy2 : rJ y2) (hy3 : rJ y3) (hy4 : rJ y4) (hy5 : rJ y5) (hy6 : rJ y6) (hW : W_X9_colours_57 E k x1 x2 y2 y3 y4 y5 y6 m γ t Q) : hd_X9_colours_57 E k x1 x2 y2 y3 y4 y5 y6 m γ t Q := by
  unfold W_X9_colours_57 at hW
  intro z1 h S
  refine wp_g (n := 2) (pc' := 61) (L' := [some (.ref 158), z1, some (.int (iI y2)), some (.int (iI y3)), some (.int (iI y4)), some (.int (iI y5)), some (.int (iI y6))]) (st' := [.int (iI 48), .int (iI y6)]) rfl ?_
  refine wp_icmpI (a := y6) (b := 48) rfl rfl hy6.1 hy6.2 (by decide) (by decide) (fun c1 => ?_) (fun c1 => ?_)
  · have dc1 := (Int.not_lt.mpr c1)
    have hW := hW.2 dc1
    refine wp_g (n := 1) (pc' := 85) (L' := [some (.ref 158), z1, some (.int (iI y2)), some (.int (iI y3)), some (.int (iI y4)), some (.int (iI y5)), some (.int (iI y6))]) (st' := [.ref 158]) rfl ?_
    refine wp_getf (v := .ref 191) rfl rfl (S.cell 158 (nc rfl)) (by decide) rfl ?_
    refine wp_g (n := 2) (pc' := 92) (L' := [some (.ref 158), z1, some (.int (iI y2)), some (.int (iI y3)), some (.int (iI y4)), some (.int (iI y5)), some (.int (iI y6))]) (st' := [.int (iI y4), .int (iI 48), .ref 191]) rfl ?_
    refine wp_mul (a := 48) (b := y4) rfl ?_
    refine wp_g (n := 1) (pc' := 94) (L' := [some (.ref 158), z1, some (.int (iI y2)), some (.int (iI y3)), some (.int (iI y4)), some (.int (iI y5)), some (.int (iI y6))]) (st' := [.ref 158, .int (iI (48 * y4)), .ref 191]) rfl ?_
    refine wp_getf (v := .ref 190) rfl rfl (S.cell 158 (nc rfl)) (by decide) rfl ?_
    refine wp_g (n := 1) (pc' := 98) (L' := [some (.ref 158), z1, some (.int (iI y2)), some (.int (iI y3)), some (.int (iI y4)), some (.int (iI y5)), some (.int (iI y6))]) (st' := [.ref 158, .ref 190, .int (iI (48 * y4)), .ref 191]) rfl ?_
    refine wp_getf (v := .ref 173) rfl rfl (S.cell 158 (nc rfl)) (by decide) rfl ?_
    refine wp_g (n := 1) (pc' := 103) (L' := [some (.ref 158), z1, some (.int (iI y2)), some (.int (iI y3)), some (.int (iI y4)), some (.int (iI y5)), some (.int (iI y6))]) (st' := [.int (iI y5), .ref 173, .ref 190, .int (iI (48 * y4)), .ref 191]) rfl ?_
    obtain ⟨p2, hW⟩ := hW
    refine wp_iald (n := 24) (F := (m 173)) rfl (S.cell 173 (nc rfl)) (by decide) p2.1 p2.2 (by decide) ?_
    show wp _ _ _ _ _ [.int (iI (m 173 ((y5).toNat))), .ref 190, .int (iI (48 * y4)), .ref 191] _ _
    have hr3 : rJ (m 173 ((y5).toNat)) := S.rg 173 ((y5).toNat) (nl rfl)
    obtain ⟨p4, hW⟩ := hW
    refine wp_iald (n := 48) (F := (m 190)) rfl (S.cell 190 (nc rfl)) (by decide) p4.1 p4.2 (by decide) ?_
    show wp _ _ _ _ _ [.int (iI (m 190 (((m 173 ((y5).toNat))).toNat))), .int (iI (48 * y4)), .ref 191] _ _
    have hr5 : rJ (m 190 (((m 173 ((y5).toNat))).toNat)) := S.rg 190 (((m 173 ((y5).toNat))).toNat) (nl rfl)
    refine wp_add (a := (48 * y4)) (b := (m 190 (((m 173 ((y5).toNat))).toNat))) rfl ?_
    refine wp_g (n := 1) (pc' := 107) (L' := [some (.ref 158), z1, some (.int (iI y2)), some (.int (iI y3)), some (.int (iI y4)), some (.int (iI y5)), some (.int (iI y6))]) (st' := [.int (iI ((48 * y4) + (m 190 (((m 173 ((y5).toNat))).toNat)))), .ref 191, .int (iI ((48 * y4) + (m 190 (((m 173 ((y5).toNat))).toNat)))), .ref 191]) rfl ?_
    obtain ⟨p6, hW⟩ := hW
    refine wp_iald (n := 1152) (F := (m 191)) rfl (S.cell 191 (nc rfl)) (by decide) p6.1 p6.2 (by decide) ?_
    show wp _ _ _ _ _ [.int (iI (m 191 ((((48 * y4) + (m 190 (((m 173 ((y5).toNat))).toNat)))).toNat))), .int (iI ((48 * y4) + (m 190 (((m 173 ((y5).toNat))).toNat)))), .ref 191] _ _
    have hr7 : rJ (m 191 ((((48 * y4) + (m 190 (((m 173 ((y5).toNat))).toNat)))).toNat)) := S.rg 191 ((((48 * y4) + (m 190 (((m 173 ((y5).toNat))).toNat)))).toNat) (nl rfl)
    refine wp_g (n := 1) (pc' := 109) (L' := [some (.ref 158), z1, some (.int (iI y2)), some (.int (iI y3)), some (.int (iI y4)), some (.int (iI y5)), some (.int (iI y6))]) (st' := [.int (iI 2), .int (iI (m 191 ((((48 * y4) + (m 190 (((m 173 ((y5).toNat))).toNat)))).toNat))), .int (iI ((48 * y4) + (m 190 (((m 173 ((y5).toNat))).toNat)))), .ref 191]) rfl ?_
    refine wp_add (a := (m 191 ((((48 * y4) + (m 190 (((m 173 ((y5).toNat))).toNat)))).toNat))) (b := 2) rfl ?_
    obtain ⟨p9, hW⟩ := hW
    obtain ⟨p10, hW⟩ := hW
    refine wp_iasF (n := 1152) (F := (m 191)) (y := ((m 191 ((((48 * y4) + (m 190 (((m 173 ((y5).toNat))).toNat)))).toNat)) + 2)) rfl (S.cell 191 (nc rfl)) p9.1 p9.2 (by decide) (fun H8 hl8 hz8 hf8 => ?_)
    have S : ST H8 (up m 191 (up (m 191) ((((48 * y4) + (m 190 (((m 173 ((y5).toNat))).toNat)))).toNat) ((m 191 ((((48 * y4) + (m 190 (((m 173 ((y5).toNat))).toNat)))).toNat)) + 2))) γ t := S.setI 191 (nc rfl) hl8 hz8 hf8 p10.1 p10.2
    refine wp_g (n := 1) (pc' := 112) (L' := [some (.ref 158), z1, some (.int (iI y2)), some (.int (iI y3)), some (.int (iI y4)), some (.int (iI y5)), some (.int (iI y6))]) (st' := [.ref 158]) rfl ?_
    refine wp_getf (v := .ref 191) rfl rfl (S.cell 158 (nc rfl)) (by decide) rfl ?_
    refine wp_g (n := 2) (pc' := 119) (L' := [some (.ref 158), z1, some (.int (iI y2)), some (.int (iI y3)), some (.int (iI y4)), some (.int (iI y5)), some (.int (iI y6))]) (st' := [.int (iI y4), .int (iI 48), .ref 191]) rfl ?_
    refine wp_mul (a := 48) (b := y4) rfl ?_
    refine wp_g (n := 1) (pc' := 121) (L' := [some (.ref 158), z1, some (.int (iI y2)), some (.int (iI y3)), some (.int (iI y4)), some (.int (iI y5)), some (.int (iI y6))]) (st' := [.ref 158, .int (iI (48 * y4)), .ref 191]) rfl ?_
    refine wp_getf (v := .ref 190) rfl rfl (S.cell 158 (nc rfl)) (by decide) rfl ?_
    refine wp_g (n := 1) (pc' := 125) (L' := [some (.ref 158), z1, some (.int (iI y2)), some (.int (iI y3)), some (.int (iI y4)), some (.int (iI y5)), some (.int (iI y6))]) (st' := [.ref 158, .ref 190, .int (iI (48 * y4)), .ref 191]) rfl ?_
    refine wp_getf (v := .ref 174) rfl rfl (S.cell 158 (nc rfl)) (by decide) rfl ?_
    refine wp_g (n := 1) (pc' := 130) (L' := [some (.ref 158), z1, some (.int (iI y2)), some (.int (iI y3)), some (.int (iI y4)), some (.int (iI y5)), some (.int (iI y6))]) (st' := [.int (iI y5), .ref 174, .ref 190, .int (iI (48 * y4)), .ref 191]) rfl ?_
    obtain ⟨p11, hW⟩ := hW
    refine wp_iald (n := 24) (F := (m 174)) rfl (S.cell 174 (nc rfl)) (by decide) p11.1 p11.2 (by decide) ?_
    show wp _ _ _ _ _ [.int (iI (m 174 ((y5).toNat))), .ref 190, .int (iI (48 * y4)), .ref 191] _ _
    have hr12 : rJ (m 174 ((y5).toNat)) := S.rg 174 ((y5).toNat) (nl rfl)
    obtain ⟨p13, hW⟩ := hW
    refine wp_iald (n := 48) (F := (m 190)) rfl (S.cell 190 (nc rfl)) (by decide) p13.1 p13.2 (by decide) ?_
    show wp _ _ _ _ _ [.int (iI (m 190 (((m 174 ((y5).toNat))).toNat))), .int (iI (48 * y4)), .ref 191] _ _
    have hr14 : rJ (m 190 (((m 174 ((y5).toNat))).toNat)) := S.rg 190 (((m 174 ((y5).toNat))).toNat) (nl rfl)
    refine wp_add (a := (48 * y4)) (b := (m 190 (((m 174 ((y5).toNat))).toNat))) rfl ?_
    refine wp_g (n := 1) (pc' := 134) (L' := [some (.ref 158), z1, some (.int (iI y2)), some (.int (iI y3)), some (.int (iI y4)), some (.int (iI y5)), some (.int (iI y6))]) (st' := [.int (iI ((48 * y4) + (m 190 (((m 174 ((y5).toNat))).toNat)))), .ref 191, .int (iI ((48 * y4) + (m 190 (((m 174 ((y5).toNat))).toNat)))), .ref 191]) rfl ?_
    obtain ⟨p15, hW⟩ := hW
    refine wp_iald (n := 1152) (F := (up (m 191) ((((48 * y4) + (m 190 (((m 173 ((y5).toNat))).toNat)))).toNat) ((m 191 ((((48 * y4) + (m 190 (((m 173 ((y5).toNat))).toNat)))).toNat)) + 2))) rfl (S.cell 191 (nc rfl)) (by decide) p15.1 p15.2 (by decide) ?_
    show wp _ _ _ _ _ [.int (iI ((up (m 191) ((((48 * y4) + (m 190 (((m 173 ((y5).toNat))).toNat)))).toNat) ((m 191 ((((48 * y4) + (m 190 (((m 173 ((y5).toNat))).toNat)))).toNat)) + 2)) ((((48 * y4) + (m 190 (((m 174 ((y5).toNat))).toNat)))).toNat))), .int (iI ((48 * y4) + (m 190 (((m 174 ((y5).toNat))).toNat)))), .ref 191] _ _
    have hr16 : rJ ((up (m 191) ((((48 * y4) + (m 190 (((m 173 ((y5).toNat))).toNat)))).toNat) ((m 191 ((((48 * y4) + (m 190 (((m 173 ((y5).toNat))).toNat)))).toNat)) + 2)) ((((48 * y4) + (m 190 (((m 174 ((y5).toNat))).toNat)))).toNat)) := S.rg 191 ((((48 * y4) + (m 190 (((m 174 ((y5).toNat))).toNat)))).toNat) (nl rfl)
    refine wp_g (n := 1) (pc' := 136) (L' := [some (.ref 158), z1, some (.int (iI y2)), some (.int (iI y3)), some (.int (iI y4)), some (.int (iI y5)), some (.int (iI y6))]) (st' := [.int (iI 1), .int (iI ((up (m 191) ((((48 * y4) + (m 190 (((m 173 ((y5).toNat))).toNat)))).toNat) ((m 191 ((((48 * y4) + (m 190 (((m 173 ((y5).toNat))).toNat)))).toNat)) + 2)) ((((48 * y4) + (m 190 (((m 174 ((y5).toNat))).toNat)))).toNat))), .int (iI ((48 * y4) + (m 190 (((m 174 ((y5).toNat))).toNat)))), .ref 191]) rfl ?_
    refine wp_sub (a := ((up (m 191) ((((48 * y4) + (m 190 (((m 173 ((y5).toNat))).toNat)))).toNat) ((m 191 ((((48 * y4) + (m 190 (((m 173 ((y5).toNat))).toNat)))).toNat)) + 2)) ((((48 * y4) + (m 190 (((m 174 ((y5).toNat))).toNat)))).toNat))) (b := 1) rfl ?_
    obtain ⟨p18, hW⟩ := hW
    obtain ⟨p19, hW⟩ := hW
    refine wp_iasF (n := 1152) (F := (up (m 191) ((((48 * y4) + (m 190 (((m 173 ((y5).toNat))).toNat)))).toNat) ((m 191 ((((48 * y4) + (m 190 (((m 173 ((y5).toNat))).toNat)))).toNat)) + 2))) (y := (((up (m 191) ((((48 * y4) + (m 190 (((m 173 ((y5).toNat))).toNat)))).toNat) ((m 191 ((((48 * y4) + (m 190 (((m 173 ((y5).toNat))).toNat)))).toNat)) + 2)) ((((48 * y4) + (m 190 (((m 174 ((y5).toNat))).toNat)))).toNat)) - 1)) rfl (S.cell 191 (nc rfl)) p18.1 p18.2 (by decide) (fun H17 hl17 hz17 hf17 => ?_)
    have S : ST H17 (up (up m 191 (up (m 191) ((((48 * y4) + (m 190 (((m 173 ((y5).toNat))).toNat)))).toNat) ((m 191 ((((48 * y4) + (m 190 (((m 173 ((y5).toNat))).toNat)))).toNat)) + 2))) 191 (up (up (m 191) ((((48 * y4) + (m 190 (((m 173 ((y5).toNat))).toNat)))).toNat) ((m 191 ((((48 * y4) + (m 190 (((m 173 ((y5).toNat))).toNat)))).toNat)) + 2)) ((((48 * y4) + (m 190 (((m 174 ((y5).toNat))).toNat)))).toNat) (((up (m 191) ((((48 * y4) + (m 190 (((m 173 ((y5).toNat))).toNat)))).toNat) ((m 191 ((((48 * y4) + (m 190 (((m 173 ((y5).toNat))).toNat)))).toNat)) + 2)) ((((48 * y4) + (m 190 (((m 174 ((y5).toNat))).toNat)))).toNat)) - 1))) γ t := S.setI 191 (nc rfl) hl17 hz17 hf17 p19.1 p19.2
    refine wp_g (n := 1) (pc' := 139) (L' := [some (.ref 158), z1, some (.int (iI y2)), some (.int (iI y3)), some (.int (iI y4)), some (.int (iI y5)), some (.int (iI y6))]) (st' := [.ref 158]) rfl ?_
    refine wp_getf (v := .ref 191) rfl rfl (S.cell 158 (nc rfl)) (by decide) rfl ?_
    refine wp_g (n := 2) (pc' := 146) (L' := [some (.ref 158), z1, some (.int (iI y2)), some (.int (iI y3)), some (.int (iI y4)), some (.int (iI y5)), some (.int (iI y6))]) (st' := [.int (iI y4), .int (iI 48), .ref 191]) rfl ?_
    refine wp_mul (a := 48) (b := y4) rfl ?_
    refine wp_g (n := 2) (pc' := 149) (L' := [some (.ref 158), z1, some (.int (iI y2)), some (.int (iI y3)), some (.int (iI y4)), some (.int (iI y5)), some (.int (iI y6))]) (st' := [.ref 158, .ref 158, .int (iI (48 * y4)), .ref 191]) rfl ?_
    refine wp_getf (v := .ref 172) rfl rfl (S.cell 158 (nc rfl)) (by decide) rfl ?_
    refine wp_g (n := 1) (pc' := 154) (L' := [some (.ref 158), z1, some (.int (iI y2)), some (.int (iI y3)), some (.int (iI y4)), some (.int (iI y5)), some (.int (iI y6))]) (st' := [.int (iI y5), .ref 172, .ref 158, .int (iI (48 * y4)), .ref 191]) rfl ?_
    obtain ⟨p20, hW⟩ := hW
    refine wp_iald (n := 24) (F := (m 172)) rfl (S.cell 172 (nc rfl)) (by decide) p20.1 p20.2 (by decide) ?_
    show wp _ _ _ _ _ [.int (iI (m 172 ((y5).toNat))), .ref 158, .int (iI (48 * y4)), .ref 191] _ _
    have hr21 : rJ (m 172 ((y5).toNat)) := S.rg 172 ((y5).toNat) (nl rfl)
    refine wp_g (n := 1) (pc' := 156) (L' := [some (.ref 158), z1, some (.int (iI y2)), some (.int (iI y3)), some (.int (iI y4)), some (.int (iI y5)), some (.int (iI y6))]) (st' := [.ref 158, .int (iI (m 172 ((y5).toNat))), .ref 158, .int (iI (48 * y4)), .ref 191]) rfl ?_
    refine wp_getf (v := .ref 174) rfl rfl (S.cell 158 (nc rfl)) (by decide) rfl ?_
    refine wp_g (n := 1) (pc' := 161) (L' := [some (.ref 158), z1, some (.int (iI y2)), some (.int (iI y3)), some (.int (iI y4)), some (.int (iI y5)), some (.int (iI y6))]) (st' := [.int (iI y5), .ref 174, .int (iI (m 172 ((y5).toNat))), .ref 158, .int (iI (48 * y4)), .ref 191]) rfl ?_
    obtain ⟨p22, hW⟩ := hW
    refine wp_iald (n := 24) (F := (m 174)) rfl (S.cell 174 (nc rfl)) (by decide) p22.1 p22.2 (by decide) ?_
    show wp _ _ _ _ _ [.int (iI (m 174 ((y5).toNat))), .int (iI (m 172 ((y5).toNat))), .ref 158, .int (iI (48 * y4)), .ref 191] _ _
    refine wp_cv (As := [.int (iI (m 172 ((y5).toNat))), .int (iI (m 174 ((y5).toNat)))]) (rest := [.int (iI (48 * y4)), .ref 191]) rfl rfl (S.cell 158 (nc rfl)) (by decide) rfl rfl rfl (Nat.le_of_ble_eq_true rfl) (Nat.le_of_ble_eq_true rfl) (hW _ S) (fun r23 H23 q23 => ?_)
    obtain ⟨v23, m23, γ23, t23, rfl, hv23, S, hW⟩ := q23
    show wp _ _ _ _ _ [.int (iI v23), .int (iI (48 * y4)), .ref 191] _ _
    refine wp_add (a := (48 * y4)) (b := v23) rfl ?_
    refine wp_g (n := 1) (pc' := 167) (L' := [some (.ref 158), z1, some (.int (iI y2)), some (.int (iI y3)), some (.int (iI y4)), some (.int (iI y5)), some (.int (iI y6))]) (st' := [.int (iI ((48 * y4) + v23)), .ref 191, .int (iI ((48 * y4) + v23)), .ref 191]) rfl ?_
    obtain ⟨p24, hW⟩ := hW
    refine wp_iald (n := 1152) (F := (m23 191)) rfl (S.cell 191 (nc rfl)) (by decide) p24.1 p24.2 (by decide) ?_
    show wp _ _ _ _ _ [.int (iI (m23 191 ((((48 * y4) + v23)).toNat))), .int (iI ((48 * y4) + v23)), .ref 191] _ _
    have hr25 : rJ (m23 191 ((((48 * y4) + v23)).toNat)) := S.rg 191 ((((48 * y4) + v23)).toNat) (nl rfl)
    refine wp_g (n := 1) (pc' := 169) (L' := [some (.ref 158), z1, some (.int (iI y2)), some (.int (iI y3)), some (.int (iI y4)), some (.int (iI y5)), some (.int (iI y6))]) (st' := [.int (iI 1), .int (iI (m23 191 ((((48 * y4) + v23)).toNat))), .int (iI ((48 * y4) + v23)), .ref 191]) rfl ?_
    refine wp_sub (a := (m23 191 ((((48 * y4) + v23)).toNat))) (b := 1) rfl ?_
    obtain ⟨p27, hW⟩ := hW
    obtain ⟨p28, hW⟩ := hW
    refine wp_iasF (n := 1152) (F := (m23 191)) (y := ((m23 191 ((((48 * y4) + v23)).toNat)) - 1)) rfl (S.cell 191 (nc rfl)) p27.1 p27.2 (by decide) (fun H26 hl26 hz26 hf26 => ?_)
    have S : ST H26 (up m23 191 (up (m23 191) ((((48 * y4) + v23)).toNat) ((m23 191 ((((48 * y4) + v23)).toNat)) - 1))) γ23 t23 := S.setI 191 (nc rfl) hl26 hz26 hf26 p28.1 p28.2
    refine wp_g (n := 2) (pc' := 174) (L' := [some (.ref 158), z1, some (.int (iI y2)), some (.int (iI y3)), some (.int (iI y4)), some (.int (iI y5)), some (.int (iI 0))]) (st' := []) rfl ?_
    exact hW z1 _ S
  · have dc1 := (Int.not_le.mp c1)
    have hW := hW.1 dc1
    refine wp_g (n := 1) (pc' := 65) (L' := [some (.ref 158), z1, some (.int (iI y2)), some (.int (iI y3)), some (.int (iI y4)), some (.int (iI y5)), some (.int (iI y6))]) (st' := [.ref 158]) rfl ?_
    refine wp_getf (v := .ref 191) rfl rfl (S.cell 158 (nc rfl)) (by decide) rfl ?_
    refine wp_g (n := 2) (pc' := 72) (L' := [some (.ref 158), z1, some (.int (iI y2)), some (.int (iI y3)), some (.int (iI y4)), some (.int (iI y5)), some (.int (iI y6))]) (st' := [.int (iI y4), .int (iI 48), .ref 191]) rfl ?_
    refine wp_mul (a := 48) (b := y4) rfl ?_
    refine wp_g (n := 1) (pc' := 75) (L' := [some (.ref 158), z1, some (.int (iI y2)), some (.int (iI y3)), some (.int (iI y4)), some (.int (iI y5)), some (.int (iI y6))]) (st' := [.int (iI y6), .int (iI (48 * y4)), .ref 191]) rfl ?_
    refine wp_add (a := (48 * y4)) (b := y6) rfl ?_
    refine wp_g (n := 1) (pc' := 77) (L' := [some (.ref 158), z1, some (.int (iI y2)), some (.int (iI y3)), some (.int (iI y4)), some (.int (iI y5)), some (.int (iI y6))]) (st' := [.int (iI 0), .int (iI ((48 * y4) + y6)), .ref 191]) rfl ?_
    obtain ⟨p30, hW⟩ := hW
    refine wp_iasF (n := 1152) (F := (m 191)) (y := 0) rfl (S.cell 191 (nc rfl)) p30.1 p30.2 (by decide) (fun H29 hl29 hz29 hf29 => ?_)
    have S : ST H29 (up m 191 (up (m 191) ((((48 * y4) + y6)).toNat) 0)) γ t := S.setI 191 (nc rfl) hl29 hz29 hf29 (by decide) (by decide)
    refine wp_iinc (L' := [some (.ref 158), z1, some (.int (iI y2)), some (.int (iI y3)), some (.int (iI y4)), some (.int (iI y5)), some (.int (iI (y6 + 1)))]) (a := y6) rfl rfl rfl ?_
    refine wp_g (n := 1) (pc' := 57) (L' := [some (.ref 158), z1, some (.int (iI y2)), some (.int (iI y3)), some (.int (iI y4)), some (.int (iI y5)), some (.int (iI (y6 + 1)))]) (st' := []) rfl ?_
    exact hW z1 _ S
theorem vc_X9_colours_174 {E : am_E} {k : Nat} {x1 : Int} {x2 : Int} {y2 : Int} {y3 : Int} {y4 : Int} {y5 : Int} {y6 : Int} {m : MM} {γ : GM} {t : am_H} {Q : Int → MM → GM → am_H → Prop} (hx1 : rJ x1) (hx2 : rJ x2) (hy2 : rJ y2) (hy3 : rJ y3) (hy4 : rJ y4) (hy5 : rJ y5) (hy6 : rJ y6) (hW : W_X9_colours_174 E k x1 x2 y2 y3 y4 y5 y6 m γ t Q) : hd_X9_colours_174 E k x1 x2 y2 y3 y4 y5 y6 m γ t Q := by
  unfold W_X9_colours_174 at hW
  intro z1 h S
  refine wp_g (n := 2) (pc' := 178) (L' := [some (.ref 158), z1, some (.int (iI y2)), some (.int (iI y3)), some (.int (iI y4)), some (.int (iI y5)), some (.int (iI y6))]) (st' := [.int (iI 48), .int (iI y6)]) rfl ?_
  refine wp_icmpI (a := y6) (b := 48) rfl rfl hy6.1 hy6.2 (by decide) (by decide) (fun c1 => ?_) (fun c1 => ?_)
  · have dc1 := (Int.not_lt.mpr c1)
    have hW := hW.2 dc1
    refine wp_iinc (L' := [some (.ref 158), z1, some (.int (iI y2)), some (.int (iI y3)), some (.int (iI (y4 + 1))), some (.int (iI y5)), some (.int (iI y6))]) (a := y4) rfl rfl rfl ?_
    refine wp_iinc (L' := [some (.ref 158), z1, some (.int (iI y2)), some (.int (iI y3)), some (.int (iI (y4 + 1))), some (.int (iI (y5 + 1))), some (.int (iI y6))]) (a := y5) rfl rfl rfl ?_
    refine wp_g (n := 1) (pc' := 29) (L' := [some (.ref 158), z1, some (.int (iI y2)), some (.int (iI y3)), some (.int (iI (y4 + 1))), some (.int (iI (y5 + 1))), some (.int (iI y6))]) (st' := []) rfl ?_
    exact hW z1 (some (.int (iI y6))) _ S
  · have dc1 := (Int.not_le.mp c1)
    have hW := hW.1 dc1
    refine wp_g (n := 1) (pc' := 182) (L' := [some (.ref 158), z1, some (.int (iI y2)), some (.int (iI y3)), some (.int (iI y4)), some (.int (iI y5)), some (.int (iI y6))]) (st' := [.ref 158]) rfl ?_
    refine wp_getf (v := .ref 191) rfl rfl (S.cell 158 (nc rfl)) (by decide) rfl ?_
    refine wp_g (n := 2) (pc' := 189) (L' := [some (.ref 158), z1, some (.int (iI y2)), some (.int (iI y3)), some (.int (iI y4)), some (.int (iI y5)), some (.int (iI y6))]) (st' := [.int (iI y4), .int (iI 48), .ref 191]) rfl ?_
    refine wp_mul (a := 48) (b := y4) rfl ?_
    refine wp_g (n := 1) (pc' := 192) (L' := [some (.ref 158), z1, some (.int (iI y2)), some (.int (iI y3)), some (.int (iI y4)), some (.int (iI y5)), some (.int (iI y6))]) (st' := [.int (iI y6), .int (iI (48 * y4)), .ref 191]) rfl ?_
    refine wp_add (a := (48 * y4)) (b := y6) rfl ?_
    refine wp_g (n := 1) (pc' := 194) (L' := [some (.ref 158), z1, some (.int (iI y2)), some (.int (iI y3)), some (.int (iI y4)), some (.int (iI y5)), some (.int (iI y6))]) (st' := [.ref 158, .int (iI ((48 * y4) + y6)), .ref 191]) rfl ?_
    refine wp_getf (v := .ref 191) rfl rfl (S.cell 158 (nc rfl)) (by decide) rfl ?_
    refine wp_g (n := 2) (pc' := 201) (L' := [some (.ref 158), z1, some (.int (iI y2)), some (.int (iI y3)), some (.int (iI y4)), some (.int (iI y5)), some (.int (iI y6))]) (st' := [.int (iI y4), .int (iI 48), .ref 191, .int (iI ((48 * y4) + y6)), .ref 191]) rfl ?_
    refine wp_mul (a := 48) (b := y4) rfl ?_
    refine wp_g (n := 1) (pc' := 204) (L' := [some (.ref 158), z1, some (.int (iI y2)), some (.int (iI y3)), some (.int (iI y4)), some (.int (iI y5)), some (.int (iI y6))]) (st' := [.int (iI y6), .int (iI (48 * y4)), .ref 191, .int (iI ((48 * y4) + y6)), .ref 191]) rfl ?_
    refine wp_add (a := (48 * y4)) (b := y6) rfl ?_
    obtain ⟨p2, hW⟩ := hW
    refine wp_iald (n := 1152) (F := (m 191)) rfl (S.cell 191 (nc rfl)) (by decide) p2.1 p2.2 (by decide) ?_
    show wp _ _ _ _ _ [.int (iI (m 191 ((((48 * y4) + y6)).toNat))), .int (iI ((48 * y4) + y6)), .ref 191] _ _
    have hr3 : rJ (m 191 ((((48 * y4) + y6)).toNat)) := S.rg 191 ((((48 * y4) + y6)).toNat) (nl rfl)
    refine wp_g (n := 1) (pc' := 207) (L' := [some (.ref 158), z1, some (.int (iI y2)), some (.int (iI y3)), some (.int (iI y4)), some (.int (iI y5)), some (.int (iI y6))]) (st' := [.int (iI y2), .int (iI (m 191 ((((48 * y4) + y6)).toNat))), .int (iI ((48 * y4) + y6)), .ref 191]) rfl ?_
    refine wp_cs (As := [.int (iI (m 191 ((((48 * y4) + y6)).toNat))), .int (iI y2)]) (rest := [.int (iI ((48 * y4) + y6)), .ref 191]) rfl rfl rfl rfl (Nat.le_of_ble_eq_true rfl) (Nat.le_of_ble_eq_true rfl) (hW _ S) (fun r4 H4 q4 => ?_)
    obtain ⟨v4, m4, γ4, t4, rfl, hv4, S, hW⟩ := q4
    show wp _ _ _ _ _ [.int (iI v4), .int (iI ((48 * y4) + y6)), .ref 191] _ _
    obtain ⟨p6, hW⟩ := hW
    refine wp_iasF (n := 1152) (F := (m4 191)) (y := v4) rfl (S.cell 191 (nc rfl)) p6.1 p6.2 (by decide) (fun H5 hl5 hz5 hf5 => ?_)
    have S : ST H5 (up m4 191 (up (m4 191) ((((48 * y4) + y6)).toNat) v4)) γ4 t4 := S.setI 191 (nc rfl) hl5 hz5 hf5 hv4.1 hv4.2
    refine wp_iinc (L' := [some (.ref 158), z1, some (.int (iI y2)), some (.int (iI y3)), some (.int (iI y4)), some (.int (iI y5)), some (.int (iI (y6 + 1)))]) (a := y6) rfl rfl rfl ?_
    refine wp_g (n := 1) (pc' := 174) (L' := [some (.ref 158), z1, some (.int (iI y2)), some (.int (iI y3)), some (.int (iI y4)), some (.int (iI y5)), some (.int (iI (y6 + 1)))]) (st' := []) rfl ?_
    exact hW z1 _ S
abbrev W_X9_needs (E : am_E) (k : Nat) (x1 : Int) (m : MM) (γ : GM) (t : am_H) (Q : Int → MM → GM → am_H → Prop) : Prop := (TI E k 216 [.ref 158, .int (iI x1)] m γ t (fun v1 m1 γ1 t1 => (((v1 = 0) → (Q (-2) m1 γ1 t1)) ∧ (¬ (v1 = 0) → (TI E k 215 [.ref 158] m1 γ1 t1 (fun v3 m3 γ3 t3 => (((v3 = 1) → (rJ ((m3 158 16) - 1) ∧ (Q ((m3 158 16) - 1) m3 γ3 t3))) ∧ (¬ (v3 = 1) → (Q (-1) m3 γ3 t3)))))))))
theorem vc_X9_needs {E : am_E} {k : Nat} {x1 : Int} {m : MM} {γ : GM} {t : am_H} {Q : Int → MM → GM → am_H → Prop} (hx1 : rJ x1) (hW : W_X9_needs E k x1 m γ t Q) : TI E (k + 1) 284 [.ref 158, .int (iI x1)] m γ t Q := by
  unfold W_X9_needs at hW
  intro h S
  refine wp_g (n := 2) (pc' := 2) (L' := [some (.ref 158), some (.int (iI x1))]) (st' := [.int (iI x1), .ref 158]) rfl ?_
  refine wp_cv (As := [.int (iI x1)]) (rest := []) rfl rfl (S.cell 158 (nc rfl)) (by decide) rfl rfl rfl (Nat.le_of_ble_eq_true rfl) (Nat.le_of_ble_eq_true rfl) (hW _ S) (fun r1 H1 q1 => ?_)
  obtain ⟨v1, m1, γ1, t1, rfl, hv1, S, hW⟩ := q1
  show wp _ _ _ _ _ [.int (iI v1)] _ _
  refine wp_ifI (a := v1) rfl rfl hv1.1 hv1.2 (fun c2 => ?_) (fun c2 => ?_)
  · have dc2 := c2
    have hW := hW.2 dc2
    refine wp_g (n := 1) (pc' := 12) (L' := [some (.ref 158), some (.int (iI x1))]) (st' := [.ref 158]) rfl ?_
    refine wp_cv (As := []) (rest := []) rfl rfl (S.cell 158 (nc rfl)) (by decide) rfl rfl rfl (Nat.le_of_ble_eq_true rfl) (Nat.le_of_ble_eq_true rfl) (hW _ S) (fun r3 H3 q3 => ?_)
    obtain ⟨v3, m3, γ3, t3, rfl, hv3, S, hW⟩ := q3
    show wp _ _ _ _ _ [.int (iI v3)] _ _
    refine wp_g (n := 1) (pc' := 16) (L' := [some (.ref 158), some (.int (iI x1))]) (st' := [.int (iI 1), .int (iI v3)]) rfl ?_
    refine wp_icmpI (a := v3) (b := 1) rfl rfl hv3.1 hv3.2 (by decide) (by decide) (fun c4 => ?_) (fun c4 => ?_)
    · have dc4 := c4
      have hW := hW.2 dc4
      refine wp_g (n := 1) (pc' := 29) (L' := [some (.ref 158), some (.int (iI x1))]) (st' := [.int (iI (-1))]) rfl ?_
      exact wp_iret rfl rfl ⟨_, _, _, _, rfl, (by decide), S, hW⟩
    · have dc4 := (Classical.not_not.mp c4)
      have hW := hW.1 dc4
      refine wp_g (n := 1) (pc' := 20) (L' := [some (.ref 158), some (.int (iI x1))]) (st' := [.ref 158]) rfl ?_
      refine wp_getf (v := .int (iI (m3 158 16))) rfl rfl (S.cell 158 (nc rfl)) (by decide) rfl ?_
      have hr5 : rJ (m3 158 16) := S.rg 158 16 (nl rfl)
      refine wp_g (n := 1) (pc' := 24) (L' := [some (.ref 158), some (.int (iI x1))]) (st' := [.int (iI 1), .int (iI (m3 158 16))]) rfl ?_
      refine wp_sub (a := (m3 158 16)) (b := 1) rfl ?_
      refine wp_g (n := 1) (pc' := 29) (L' := [some (.ref 158), some (.int (iI x1))]) (st' := [.int (iI ((m3 158 16) - 1))]) rfl ?_
      obtain ⟨p6, hW⟩ := hW
      exact wp_iret rfl rfl ⟨_, _, _, _, rfl, p6, S, hW⟩
  · have dc2 := (Classical.not_not.mp c2)
    have hW := hW.1 dc2
    refine wp_g (n := 1) (pc' := 10) (L' := [some (.ref 158), some (.int (iI x1))]) (st' := [.int (iI (-2))]) rfl ?_
    exact wp_iret rfl rfl ⟨_, _, _, _, rfl, (by decide), S, hW⟩
def hd_X9_oneLine_24 (E : am_E) (k : Nat) (x1 : Int) (y1 : Int) (y2 : Int) (m : MM) (γ : GM) (t : am_H) (Q : Int → MM → GM → am_H → Prop) : Prop := ∀ (z3 : Option Value), TT (pI Q) E (k + 1) 285 24 [some (.ref 158), some (.int (iI y1)), some (.int (iI y2)), z3] [] m γ t
def hd_X9_oneLine_34 (E : am_E) (k : Nat) (x1 : Int) (y1 : Int) (y2 : Int) (y3 : Int) (m : MM) (γ : GM) (t : am_H) (Q : Int → MM → GM → am_H → Prop) : Prop := TT (pI Q) E (k + 1) 285 34 [some (.ref 158), some (.int (iI y1)), some (.int (iI y2)), some (.int (iI y3))] [] m γ t
abbrev W_X9_oneLine (E : am_E) (k : Nat) (x1 : Int) (m : MM) (γ : GM) (t : am_H) (Q : Int → MM → GM → am_H → Prop) : Prop := (TI E k 216 [.ref 158, .int (iI x1)] m γ t (fun v1 m1 γ1 t1 => (((v1 = 0) → (Q (-2) m1 γ1 t1)) ∧ (¬ (v1 = 0) → (TI E k 215 [.ref 158] m1 γ1 t1 (fun v3 m3 γ3 t3 => (((v3 ≤ 1) → (hd_X9_oneLine_24 E k x1 x1 0 m3 γ3 t3 Q)) ∧ (¬ (v3 ≤ 1) → (Q (-6) m3 γ3 t3)))))))))
abbrev W_X9_oneLine_24 (E : am_E) (k : Nat) (x1 : Int) (y1 : Int) (y2 : Int) (m : MM) (γ : GM) (t : am_H) (Q : Int → MM → GM → am_H → Prop) : Prop := ((((m 158 16) ≤ 1) → (TI E k 202 [.ref 158, .int (iI y1), .int (iI y2)] m γ t (fun v3 m3 γ3 t3 => (Q v3 m3 γ3 t3)))) ∧ (¬ ((m 158 16) ≤ 1) → (hd_X9_oneLine_34 E k x1 y1 y2 0 m γ t Q)))
abbrev W_X9_oneLine_34 (E : am_E) (k : Nat) (x1 : Int) (y1 : Int) (y2 : Int) (y3 : Int) (m : MM) (γ : GM) (t : am_H) (Q : Int → MM → GM → am_H → Prop) : Prop := ((0 ≤ y3 ∧ y3 < 24) ∧ (TI E k 204 [.int (iI (m 162 ((y3).toNat)))] m γ t (fun v3 m3 γ3 t3 => (((v3 = 0) → (hd_X9_oneLine_34 E k x1 y1 y2 (y3 + 1) m3 γ3 t3 Q)) ∧ (¬ (v3 = 0) → ((0 ≤ y3 ∧ y3 < 24) ∧ ((0 ≤ y3 ∧ y3 < 24) ∧ ((((m3 171 ((y3).toNat)) = (m3 172 ((y3).toNat))) → (hd_X9_oneLine_34 E k x1 y1 y2 (y3 + 1) m3 γ3 t3 Q)) ∧ (¬ ((m3 171 ((y3).toNat)) = (m3 172 ((y3).toNat))) → ((0 ≤ y3 ∧ y3 < 24) ∧ (TV E k 212 [.ref 158] (up m3 162 (up (m3 162) ((y3).toNat) 2)) γ3 t3 (fun m12 γ12 t12 => (hd_X9_oneLine_24 E k x1 y1 (y2 + 1) m12 γ12 t12 Q)))))))))))))
theorem vc_X9_oneLine {E : am_E} {k : Nat} {x1 : Int} {m : MM} {γ : GM} {t : am_H} {Q : Int → MM → GM → am_H → Prop} (hx1 : rJ x1) (hW : W_X9_oneLine E k x1 m γ t Q) : TI E (k + 1) 285 [.ref 158, .int (iI x1)] m γ t Q := by
  unfold W_X9_oneLine at hW
  intro h S
  refine wp_g (n := 2) (pc' := 2) (L' := [some (.ref 158), some (.int (iI x1)), none, none]) (st' := [.int (iI x1), .ref 158]) rfl ?_
  refine wp_cv (As := [.int (iI x1)]) (rest := []) rfl rfl (S.cell 158 (nc rfl)) (by decide) rfl rfl rfl (Nat.le_of_ble_eq_true rfl) (Nat.le_of_ble_eq_true rfl) (hW _ S) (fun r1 H1 q1 => ?_)
  obtain ⟨v1, m1, γ1, t1, rfl, hv1, S, hW⟩ := q1
  show wp _ _ _ _ _ [.int (iI v1)] _ _
  refine wp_ifI (a := v1) rfl rfl hv1.1 hv1.2 (fun c2 => ?_) (fun c2 => ?_)
  · have dc2 := c2
    have hW := hW.2 dc2
    refine wp_g (n := 1) (pc' := 12) (L' := [some (.ref 158), some (.int (iI x1)), none, none]) (st' := [.ref 158]) rfl ?_
    refine wp_cv (As := []) (rest := []) rfl rfl (S.cell 158 (nc rfl)) (by decide) rfl rfl rfl (Nat.le_of_ble_eq_true rfl) (Nat.le_of_ble_eq_true rfl) (hW _ S) (fun r3 H3 q3 => ?_)
    obtain ⟨v3, m3, γ3, t3, rfl, hv3, S, hW⟩ := q3
    show wp _ _ _ _ _ [.int (iI v3)] _ _
    refine wp_g (n := 1) (pc' := 16) (L' := [some (.ref 158), some (.int (iI x1)), none, none]) (st' := [.int (iI 1), .int (iI v3)]) rfl ?_
    refine wp_icmpI (a := v3) (b := 1) rfl rfl hv3.1 hv3.2 (by decide) (by decide) (fun c4 => ?_) (fun c4 => ?_)
    · have dc4 := c4
      have hW := hW.1 dc4
      refine wp_g (n := 2) (pc' := 24) (L' := [some (.ref 158), some (.int (iI x1)), some (.int (iI 0)), none]) (st' := []) rfl ?_
      exact hW none _ S
    · have dc4 := c4
      have hW := hW.2 dc4
      refine wp_g (n := 1) (pc' := 21) (L' := [some (.ref 158), some (.int (iI x1)), none, none]) (st' := [.int (iI (-6))]) rfl ?_
      exact wp_iret rfl rfl ⟨_, _, _, _, rfl, (by decide), S, hW⟩
  · have dc2 := (Classical.not_not.mp c2)
    have hW := hW.1 dc2
    refine wp_g (n := 1) (pc' := 10) (L' := [some (.ref 158), some (.int (iI x1)), none, none]) (st' := [.int (iI (-2))]) rfl ?_
    exact wp_iret rfl rfl ⟨_, _, _, _, rfl, (by decide), S, hW⟩
theorem vc_X9_oneLine_24 {E : am_E} {k : Nat} {x1 : Int} {y1 : Int} {y2 : Int} {m : MM} {γ : GM} {t : am_H} {Q : Int → MM → GM → am_H → Prop} (hx1 : rJ x1) (hy1 : rJ y1) (hy2 : rJ y2) (hW : W_X9_oneLine_24 E k x1 y1 y2 m γ t Q) : hd_X9_oneLine_24 E k x1 y1 y2 m γ t Q := by
  unfold W_X9_oneLine_24 at hW
  intro z3 h S
  refine wp_g (n := 1) (pc' := 25) (L' := [some (.ref 158), some (.int (iI y1)), some (.int (iI y2)), z3]) (st' := [.ref 158]) rfl ?_
  refine wp_getf (v := .int (iI (m 158 16))) rfl rfl (S.cell 158 (nc rfl)) (by decide) rfl ?_
  have hr1 : rJ (m 158 16) := S.rg 158 16 (nl rfl)
  refine wp_g (n := 1) (pc' := 29) (L' := [some (.ref 158), some (.int (iI y1)), some (.int (iI y2)), z3]) (st' := [.int (iI 1), .int (iI (m 158 16))]) rfl ?_
  refine wp_icmpI (a := (m 158 16)) (b := 1) rfl rfl hr1.1 hr1.2 (by decide) (by decide) (fun c2 => ?_) (fun c2 => ?_)
  · have dc2 := c2
    have hW := hW.1 dc2
    refine wp_g (n := 3) (pc' := 87) (L' := [some (.ref 158), some (.int (iI y1)), some (.int (iI y2)), z3]) (st' := [.int (iI y2), .int (iI y1), .ref 158]) rfl ?_
    refine wp_cv (As := [.int (iI y1), .int (iI y2)]) (rest := []) rfl rfl (S.cell 158 (nc rfl)) (by decide) rfl rfl rfl (Nat.le_of_ble_eq_true rfl) (Nat.le_of_ble_eq_true rfl) (hW _ S) (fun r3 H3 q3 => ?_)
    obtain ⟨v3, m3, γ3, t3, rfl, hv3, S, hW⟩ := q3
    show wp _ _ _ _ _ [.int (iI v3)] _ _
    exact wp_iret rfl rfl ⟨_, _, _, _, rfl, hv3, S, hW⟩
  · have dc2 := c2
    have hW := hW.2 dc2
    refine wp_g (n := 2) (pc' := 34) (L' := [some (.ref 158), some (.int (iI y1)), some (.int (iI y2)), some (.int (iI 0))]) (st' := []) rfl ?_
    exact hW _ S
theorem vc_X9_oneLine_34 {E : am_E} {k : Nat} {x1 : Int} {y1 : Int} {y2 : Int} {y3 : Int} {m : MM} {γ : GM} {t : am_H} {Q : Int → MM → GM → am_H → Prop} (hx1 : rJ x1) (hy1 : rJ y1) (hy2 : rJ y2) (hy3 : rJ y3) (hW : W_X9_oneLine_34 E k x1 y1 y2 y3 m γ t Q) : hd_X9_oneLine_34 E k x1 y1 y2 y3 m γ t Q := by
  unfold W_X9_oneLine_34 at hW
  intro h S
  refine wp_g (n := 1) (pc' := 35) (L' := [some (.ref 158), some (.int (iI y1)), some (.int (iI y2)), some (.int (iI y3))]) (st' := [.ref 158]) rfl ?_
  refine wp_getf (v := .ref 162) rfl rfl (S.cell 158 (nc rfl)) (by decide) rfl ?_
  refine wp_g (n := 1) (pc' := 39) (L' := [some (.ref 158), some (.int (iI y1)), some (.int (iI y2)), some (.int (iI y3))]) (st' := [.int (iI y3), .ref 162]) rfl ?_
  obtain ⟨p1, hW⟩ := hW
  refine wp_iald (n := 24) (F := (m 162)) rfl (S.cell 162 (nc rfl)) (by decide) p1.1 p1.2 (by decide) ?_
  show wp _ _ _ _ _ [.int (iI (m 162 ((y3).toNat)))] _ _
  have hr2 : rJ (m 162 ((y3).toNat)) := S.rg 162 ((y3).toNat) (nl rfl)
  refine wp_cs (As := [.int (iI (m 162 ((y3).toNat)))]) (rest := []) rfl rfl rfl rfl (Nat.le_of_ble_eq_true rfl) (Nat.le_of_ble_eq_true rfl) (hW _ S) (fun r3 H3 q3 => ?_)
  obtain ⟨v3, m3, γ3, t3, rfl, hv3, S, hW⟩ := q3
  show wp _ _ _ _ _ [.int (iI v3)] _ _
  refine wp_ifI (a := v3) rfl rfl hv3.1 hv3.2 (fun c4 => ?_) (fun c4 => ?_)
  · have dc4 := c4
    have hW := hW.1 dc4
    refine wp_iinc (L' := [some (.ref 158), some (.int (iI y1)), some (.int (iI y2)), some (.int (iI (y3 + 1)))]) (a := y3) rfl rfl rfl ?_
    refine wp_g (n := 1) (pc' := 34) (L' := [some (.ref 158), some (.int (iI y1)), some (.int (iI y2)), some (.int (iI (y3 + 1)))]) (st' := []) rfl ?_
    exact hW _ S
  · have dc4 := c4
    have hW := hW.2 dc4
    refine wp_g (n := 1) (pc' := 47) (L' := [some (.ref 158), some (.int (iI y1)), some (.int (iI y2)), some (.int (iI y3))]) (st' := [.ref 158]) rfl ?_
    refine wp_getf (v := .ref 171) rfl rfl (S.cell 158 (nc rfl)) (by decide) rfl ?_
    refine wp_g (n := 1) (pc' := 51) (L' := [some (.ref 158), some (.int (iI y1)), some (.int (iI y2)), some (.int (iI y3))]) (st' := [.int (iI y3), .ref 171]) rfl ?_
    obtain ⟨p5, hW⟩ := hW
    refine wp_iald (n := 24) (F := (m3 171)) rfl (S.cell 171 (nc rfl)) (by decide) p5.1 p5.2 (by decide) ?_
    show wp _ _ _ _ _ [.int (iI (m3 171 ((y3).toNat)))] _ _
    have hr6 : rJ (m3 171 ((y3).toNat)) := S.rg 171 ((y3).toNat) (nl rfl)
    refine wp_g (n := 1) (pc' := 53) (L' := [some (.ref 158), some (.int (iI y1)), some (.int (iI y2)), some (.int (iI y3))]) (st' := [.ref 158, .int (iI (m3 171 ((y3).toNat)))]) rfl ?_
    refine wp_getf (v := .ref 172) rfl rfl (S.cell 158 (nc rfl)) (by decide) rfl ?_
    refine wp_g (n := 1) (pc' := 57) (L' := [some (.ref 158), some (.int (iI y1)), some (.int (iI y2)), some (.int (iI y3))]) (st' := [.int (iI y3), .ref 172, .int (iI (m3 171 ((y3).toNat)))]) rfl ?_
    obtain ⟨p7, hW⟩ := hW
    refine wp_iald (n := 24) (F := (m3 172)) rfl (S.cell 172 (nc rfl)) (by decide) p7.1 p7.2 (by decide) ?_
    show wp _ _ _ _ _ [.int (iI (m3 172 ((y3).toNat))), .int (iI (m3 171 ((y3).toNat)))] _ _
    have hr8 : rJ (m3 172 ((y3).toNat)) := S.rg 172 ((y3).toNat) (nl rfl)
    refine wp_icmpI (a := (m3 171 ((y3).toNat))) (b := (m3 172 ((y3).toNat))) rfl rfl hr6.1 hr6.2 hr8.1 hr8.2 (fun c9 => ?_) (fun c9 => ?_)
    · have dc9 := c9
      have hW := hW.2 dc9
      refine wp_g (n := 1) (pc' := 68) (L' := [some (.ref 158), some (.int (iI y1)), some (.int (iI y2)), some (.int (iI y3))]) (st' := [.ref 158]) rfl ?_
      refine wp_getf (v := .ref 162) rfl rfl (S.cell 158 (nc rfl)) (by decide) rfl ?_
      refine wp_g (n := 2) (pc' := 73) (L' := [some (.ref 158), some (.int (iI y1)), some (.int (iI y2)), some (.int (iI y3))]) (st' := [.int (iI 2), .int (iI y3), .ref 162]) rfl ?_
      obtain ⟨p11, hW⟩ := hW
      refine wp_iasF (n := 24) (F := (m3 162)) (y := 2) rfl (S.cell 162 (nc rfl)) p11.1 p11.2 (by decide) (fun H10 hl10 hz10 hf10 => ?_)
      have S : ST H10 (up m3 162 (up (m3 162) ((y3).toNat) 2)) γ3 t3 := S.setI 162 (nc rfl) hl10 hz10 hf10 (by decide) (by decide)
      refine wp_iinc (L' := [some (.ref 158), some (.int (iI y1)), some (.int (iI (y2 + 1))), some (.int (iI y3))]) (a := y2) rfl rfl rfl ?_
      refine wp_g (n := 1) (pc' := 78) (L' := [some (.ref 158), some (.int (iI y1)), some (.int (iI (y2 + 1))), some (.int (iI y3))]) (st' := [.ref 158]) rfl ?_
      refine wp_cv (As := []) (rest := []) rfl rfl (S.cell 158 (nc rfl)) (by decide) rfl rfl rfl (Nat.le_of_ble_eq_true rfl) (Nat.le_of_ble_eq_true rfl) (hW _ S) (fun r12 H12 q12 => ?_)
      obtain ⟨m12, γ12, t12, rfl, S, hW⟩ := q12
      show wp _ _ _ _ _ [] _ _
      refine wp_g (n := 1) (pc' := 24) (L' := [some (.ref 158), some (.int (iI y1)), some (.int (iI (y2 + 1))), some (.int (iI y3))]) (st' := []) rfl ?_
      exact hW (some (.int (iI y3))) _ S
    · have dc9 := (Classical.not_not.mp c9)
      have hW := hW.1 dc9
      refine wp_iinc (L' := [some (.ref 158), some (.int (iI y1)), some (.int (iI y2)), some (.int (iI (y3 + 1)))]) (a := y3) rfl rfl rfl ?_
      refine wp_g (n := 1) (pc' := 34) (L' := [some (.ref 158), some (.int (iI y1)), some (.int (iI y2)), some (.int (iI (y3 + 1)))]) (st' := []) rfl ?_
      exact hW _ S
abbrev W_X9_isKink (E : am_E) (k : Nat) (x1 : Int) (m : MM) (γ : GM) (t : am_H) (Q : Int → MM → GM → am_H → Prop) : Prop := (TI E k 254 [.ref 158, .int (iI x1)] m γ t (fun v1 m1 γ1 t1 => (((v1 = 0) → (Q 0 m1 γ1 t1)) ∧ (¬ (v1 = 0) → (TI E k 256 [.ref 158, .int (iI x1)] m1 γ1 t1 (fun v3 m3 γ3 t3 => (TI E k 255 [.ref 158, .int (iI x1)] m3 γ3 t3 (fun v4 m4 γ4 t4 => (rJ (v3 - v4) ∧ ((((v3 - v4) = 1) → (Q 1 m4 γ4 t4)) ∧ (¬ ((v3 - v4) = 1) → ((0 ≤ x1 ∧ x1 < 24) ∧ (TI E k 251 [.ref 158, .int (iI (m4 171 ((x1).toNat)))] m4 γ4 t4 (fun v9 m9 γ9 t9 => (rJ (v9 - 1) ∧ ((((v3 - v4) = (v9 - 1)) → (Q 1 m9 γ9 t9)) ∧ (¬ ((v3 - v4) = (v9 - 1)) → (Q 0 m9 γ9 t9))))))))))))))))))
theorem vc_X9_isKink {E : am_E} {k : Nat} {x1 : Int} {m : MM} {γ : GM} {t : am_H} {Q : Int → MM → GM → am_H → Prop} (hx1 : rJ x1) (hW : W_X9_isKink E k x1 m γ t Q) : TI E (k + 1) 286 [.ref 158, .int (iI x1)] m γ t Q := by
  unfold W_X9_isKink at hW
  intro h S
  refine wp_g (n := 2) (pc' := 2) (L' := [some (.ref 158), some (.int (iI x1)), none]) (st' := [.int (iI x1), .ref 158]) rfl ?_
  refine wp_cv (As := [.int (iI x1)]) (rest := []) rfl rfl (S.cell 158 (nc rfl)) (by decide) rfl rfl rfl (Nat.le_of_ble_eq_true rfl) (Nat.le_of_ble_eq_true rfl) (hW _ S) (fun r1 H1 q1 => ?_)
  obtain ⟨v1, m1, γ1, t1, rfl, hv1, S, hW⟩ := q1
  show wp _ _ _ _ _ [.int (iI v1)] _ _
  refine wp_ifI (a := v1) rfl rfl hv1.1 hv1.2 (fun c2 => ?_) (fun c2 => ?_)
  · have dc2 := c2
    have hW := hW.2 dc2
    refine wp_g (n := 2) (pc' := 12) (L' := [some (.ref 158), some (.int (iI x1)), none]) (st' := [.int (iI x1), .ref 158]) rfl ?_
    refine wp_cv (As := [.int (iI x1)]) (rest := []) rfl rfl (S.cell 158 (nc rfl)) (by decide) rfl rfl rfl (Nat.le_of_ble_eq_true rfl) (Nat.le_of_ble_eq_true rfl) (hW _ S) (fun r3 H3 q3 => ?_)
    obtain ⟨v3, m3, γ3, t3, rfl, hv3, S, hW⟩ := q3
    show wp _ _ _ _ _ [.int (iI v3)] _ _
    refine wp_g (n := 2) (pc' := 17) (L' := [some (.ref 158), some (.int (iI x1)), none]) (st' := [.int (iI x1), .ref 158, .int (iI v3)]) rfl ?_
    refine wp_cv (As := [.int (iI x1)]) (rest := [.int (iI v3)]) rfl rfl (S.cell 158 (nc rfl)) (by decide) rfl rfl rfl (Nat.le_of_ble_eq_true rfl) (Nat.le_of_ble_eq_true rfl) (hW _ S) (fun r4 H4 q4 => ?_)
    obtain ⟨v4, m4, γ4, t4, rfl, hv4, S, hW⟩ := q4
    show wp _ _ _ _ _ [.int (iI v4), .int (iI v3)] _ _
    refine wp_sub (a := v3) (b := v4) rfl ?_
    refine wp_g (n := 3) (pc' := 24) (L' := [some (.ref 158), some (.int (iI x1)), some (.int (iI (v3 - v4)))]) (st' := [.int (iI 1), .int (iI (v3 - v4))]) rfl ?_
    obtain ⟨p5, hW⟩ := hW
    refine wp_icmpI (a := (v3 - v4)) (b := 1) rfl rfl p5.1 p5.2 (by decide) (by decide) (fun c6 => ?_) (fun c6 => ?_)
    · have dc6 := c6
      have hW := hW.1 dc6
      refine wp_g (n := 2) (pc' := 48) (L' := [some (.ref 158), some (.int (iI x1)), some (.int (iI (v3 - v4)))]) (st' := [.int (iI 1)]) rfl ?_
      exact wp_zret rfl rfl (by decide) ⟨_, _, _, _, rfl, (by decide), S, hW⟩
    · have dc6 := c6
      have hW := hW.2 dc6
      refine wp_g (n := 3) (pc' := 30) (L' := [some (.ref 158), some (.int (iI x1)), some (.int (iI (v3 - v4)))]) (st' := [.ref 158, .ref 158, .int (iI (v3 - v4))]) rfl ?_
      refine wp_getf (v := .ref 171) rfl rfl (S.cell 158 (nc rfl)) (by decide) rfl ?_
      refine wp_g (n := 1) (pc' := 34) (L' := [some (.ref 158), some (.int (iI x1)), some (.int (iI (v3 - v4)))]) (st' := [.int (iI x1), .ref 171, .ref 158, .int (iI (v3 - v4))]) rfl ?_
      obtain ⟨p7, hW⟩ := hW
      refine wp_iald (n := 24) (F := (m4 171)) rfl (S.cell 171 (nc rfl)) (by decide) p7.1 p7.2 (by decide) ?_
      show wp _ _ _ _ _ [.int (iI (m4 171 ((x1).toNat))), .ref 158, .int (iI (v3 - v4))] _ _
      have hr8 : rJ (m4 171 ((x1).toNat)) := S.rg 171 ((x1).toNat) (nl rfl)
      refine wp_cv (As := [.int (iI (m4 171 ((x1).toNat)))]) (rest := [.int (iI (v3 - v4))]) rfl rfl (S.cell 158 (nc rfl)) (by decide) rfl rfl rfl (Nat.le_of_ble_eq_true rfl) (Nat.le_of_ble_eq_true rfl) (hW _ S) (fun r9 H9 q9 => ?_)
      obtain ⟨v9, m9, γ9, t9, rfl, hv9, S, hW⟩ := q9
      show wp _ _ _ _ _ [.int (iI v9), .int (iI (v3 - v4))] _ _
      refine wp_g (n := 1) (pc' := 39) (L' := [some (.ref 158), some (.int (iI x1)), some (.int (iI (v3 - v4)))]) (st' := [.int (iI 1), .int (iI v9), .int (iI (v3 - v4))]) rfl ?_
      refine wp_sub (a := v9) (b := 1) rfl ?_
      obtain ⟨p10, hW⟩ := hW
      refine wp_icmpI (a := (v3 - v4)) (b := (v9 - 1)) rfl rfl p5.1 p5.2 p10.1 p10.2 (fun c11 => ?_) (fun c11 => ?_)
      · have dc11 := c11
        have hW := hW.2 dc11
        refine wp_g (n := 1) (pc' := 48) (L' := [some (.ref 158), some (.int (iI x1)), some (.int (iI (v3 - v4)))]) (st' := [.int (iI 0)]) rfl ?_
        exact wp_zret rfl rfl (by decide) ⟨_, _, _, _, rfl, (by decide), S, hW⟩
      · have dc11 := (Classical.not_not.mp c11)
        have hW := hW.1 dc11
        refine wp_g (n := 2) (pc' := 48) (L' := [some (.ref 158), some (.int (iI x1)), some (.int (iI (v3 - v4)))]) (st' := [.int (iI 1)]) rfl ?_
        exact wp_zret rfl rfl (by decide) ⟨_, _, _, _, rfl, (by decide), S, hW⟩
  · have dc2 := (Classical.not_not.mp c2)
    have hW := hW.1 dc2
    refine wp_g (n := 1) (pc' := 9) (L' := [some (.ref 158), some (.int (iI x1)), none]) (st' := [.int (iI 0)]) rfl ?_
    exact wp_zret rfl rfl (by decide) ⟨_, _, _, _, rfl, (by decide), S, hW⟩
def hd_X9_firstKink_2 (E : am_E) (k : Nat) (y1 : Int) (m : MM) (γ : GM) (t : am_H) (Q : Int → MM → GM → am_H → Prop) : Prop := TT (pI Q) E (k + 1) 287 2 [some (.ref 158), some (.int (iI y1))] [] m γ t
abbrev W_X9_firstKink (E : am_E) (k : Nat) (m : MM) (γ : GM) (t : am_H) (Q : Int → MM → GM → am_H → Prop) : Prop := (hd_X9_firstKink_2 E k 0 m γ t Q)
abbrev W_X9_firstKink_2 (E : am_E) (k : Nat) (y1 : Int) (m : MM) (γ : GM) (t : am_H) (Q : Int → MM → GM → am_H → Prop) : Prop := (((y1 < (m 158 6)) → (TI E k 286 [.ref 158, .int (iI y1)] m γ t (fun v3 m3 γ3 t3 => (((v3 = 0) → (hd_X9_firstKink_2 E k (y1 + 1) m3 γ3 t3 Q)) ∧ (¬ (v3 = 0) → (Q y1 m3 γ3 t3)))))) ∧ (¬ (y1 < (m 158 6)) → (Q (-1) m γ t)))
theorem vc_X9_firstKink {E : am_E} {k : Nat} {m : MM} {γ : GM} {t : am_H} {Q : Int → MM → GM → am_H → Prop} (hW : W_X9_firstKink E k  m γ t Q) : TI E (k + 1) 287 [.ref 158] m γ t Q := by
  unfold W_X9_firstKink at hW
  intro h S
  refine wp_g (n := 2) (pc' := 2) (L' := [some (.ref 158), some (.int (iI 0))]) (st' := []) rfl ?_
  exact hW _ S
theorem vc_X9_firstKink_2 {E : am_E} {k : Nat} {y1 : Int} {m : MM} {γ : GM} {t : am_H} {Q : Int → MM → GM → am_H → Prop} (hy1 : rJ y1) (hW : W_X9_firstKink_2 E k y1 m γ t Q) : hd_X9_firstKink_2 E k y1 m γ t Q := by
  unfold W_X9_firstKink_2 at hW
  intro h S
  refine wp_g (n := 2) (pc' := 4) (L' := [some (.ref 158), some (.int (iI y1))]) (st' := [.ref 158, .int (iI y1)]) rfl ?_
  refine wp_getf (v := .int (iI (m 158 6))) rfl rfl (S.cell 158 (nc rfl)) (by decide) rfl ?_
  have hr1 : rJ (m 158 6) := S.rg 158 6 (nl rfl)
  refine wp_icmpI (a := y1) (b := (m 158 6)) rfl rfl hy1.1 hy1.2 hr1.1 hr1.2 (fun c2 => ?_) (fun c2 => ?_)
  · have dc2 := (Int.not_lt.mpr c2)
    have hW := hW.2 dc2
    refine wp_g (n := 1) (pc' := 27) (L' := [some (.ref 158), some (.int (iI y1))]) (st' := [.int (iI (-1))]) rfl ?_
    exact wp_iret rfl rfl ⟨_, _, _, _, rfl, (by decide), S, hW⟩
  · have dc2 := (Int.not_le.mp c2)
    have hW := hW.1 dc2
    refine wp_g (n := 2) (pc' := 12) (L' := [some (.ref 158), some (.int (iI y1))]) (st' := [.int (iI y1), .ref 158]) rfl ?_
    refine wp_cv (As := [.int (iI y1)]) (rest := []) rfl rfl (S.cell 158 (nc rfl)) (by decide) rfl rfl rfl (Nat.le_of_ble_eq_true rfl) (Nat.le_of_ble_eq_true rfl) (hW _ S) (fun r3 H3 q3 => ?_)
    obtain ⟨v3, m3, γ3, t3, rfl, hv3, S, hW⟩ := q3
    show wp _ _ _ _ _ [.int (iI v3)] _ _
    refine wp_ifI (a := v3) rfl rfl hv3.1 hv3.2 (fun c4 => ?_) (fun c4 => ?_)
    · have dc4 := c4
      have hW := hW.1 dc4
      refine wp_iinc (L' := [some (.ref 158), some (.int (iI (y1 + 1)))]) (a := y1) rfl rfl rfl ?_
      refine wp_g (n := 1) (pc' := 2) (L' := [some (.ref 158), some (.int (iI (y1 + 1)))]) (st' := []) rfl ?_
      exact hW _ S
    · have dc4 := c4
      have hW := hW.2 dc4
      refine wp_g (n := 1) (pc' := 19) (L' := [some (.ref 158), some (.int (iI y1))]) (st' := [.int (iI y1)]) rfl ?_
      exact wp_iret rfl rfl ⟨_, _, _, _, rfl, hy1, S, hW⟩
def hd_X9_eases_18 (E : am_E) (k : Nat) (x1 : Int) (y1 : Int) (y2 : Int) (y3 : Int) (m : MM) (γ : GM) (t : am_H) (Q : Int → MM → GM → am_H → Prop) : Prop := ∀ (z4 : Option Value), TT (pI Q) E (k + 1) 288 18 [some (.ref 158), some (.int (iI y1)), some (.int (iI y2)), some (.int (iI y3)), z4] [] m γ t
abbrev W_X9_eases (E : am_E) (k : Nat) (x1 : Int) (m : MM) (γ : GM) (t : am_H) (Q : Int → MM → GM → am_H → Prop) : Prop := (TI E k 216 [.ref 158, .int (iI x1)] m γ t (fun v1 m1 γ1 t1 => (((v1 = 0) → (Q (-2) m1 γ1 t1)) ∧ (¬ (v1 = 0) → (TI E k 287 [.ref 158] m1 γ1 t1 (fun v3 m3 γ3 t3 => (hd_X9_eases_18 E k x1 x1 0 v3 m3 γ3 t3 Q)))))))
abbrev W_X9_eases_18 (E : am_E) (k : Nat) (x1 : Int) (y1 : Int) (y2 : Int) (y3 : Int) (m : MM) (γ : GM) (t : am_H) (Q : Int → MM → GM → am_H → Prop) : Prop := (((y3 = (-1)) → (TI E k 202 [.ref 158, .int (iI y1), .int (iI y2)] m γ t (fun v2 m2 γ2 t2 => (Q v2 m2 γ2 t2)))) ∧ (¬ (y3 = (-1)) → ((0 ≤ y3 ∧ y3 < 24) ∧ (TV E k 210 [.ref 158] (up m 162 (up (m 162) ((y3).toNat) 2)) γ t (fun m6 γ6 t6 => ((((m6 158 16) = (m 158 16)) → ((0 ≤ y3 ∧ y3 < 24) ∧ (TV E k 212 [.ref 158] (up m6 162 (up (m6 162) ((y3).toNat) 2)) γ6 t6 (fun m15 γ15 t15 => (TI E k 287 [.ref 158] m15 γ15 t15 (fun v16 m16 γ16 t16 => (hd_X9_eases_18 E k x1 y1 (y2 + 1) v16 m16 γ16 t16 Q))))))) ∧ (¬ ((m6 158 16) = (m 158 16)) → ((0 ≤ y3 ∧ y3 < 24) ∧ (TV E k 212 [.ref 158] (up m6 162 (up (m6 162) ((y3).toNat) 3)) γ6 t6 (fun m11 γ11 t11 => (TI E k 287 [.ref 158] m11 γ11 t11 (fun v12 m12 γ12 t12 => (hd_X9_eases_18 E k x1 y1 (y2 + 1) v12 m12 γ12 t12 Q)))))))))))))
theorem vc_X9_eases {E : am_E} {k : Nat} {x1 : Int} {m : MM} {γ : GM} {t : am_H} {Q : Int → MM → GM → am_H → Prop} (hx1 : rJ x1) (hW : W_X9_eases E k x1 m γ t Q) : TI E (k + 1) 288 [.ref 158, .int (iI x1)] m γ t Q := by
  unfold W_X9_eases at hW
  intro h S
  refine wp_g (n := 2) (pc' := 2) (L' := [some (.ref 158), some (.int (iI x1)), none, none, none]) (st' := [.int (iI x1), .ref 158]) rfl ?_
  refine wp_cv (As := [.int (iI x1)]) (rest := []) rfl rfl (S.cell 158 (nc rfl)) (by decide) rfl rfl rfl (Nat.le_of_ble_eq_true rfl) (Nat.le_of_ble_eq_true rfl) (hW _ S) (fun r1 H1 q1 => ?_)
  obtain ⟨v1, m1, γ1, t1, rfl, hv1, S, hW⟩ := q1
  show wp _ _ _ _ _ [.int (iI v1)] _ _
  refine wp_ifI (a := v1) rfl rfl hv1.1 hv1.2 (fun c2 => ?_) (fun c2 => ?_)
  · have dc2 := c2
    have hW := hW.2 dc2
    refine wp_g (n := 3) (pc' := 14) (L' := [some (.ref 158), some (.int (iI x1)), some (.int (iI 0)), none, none]) (st' := [.ref 158]) rfl ?_
    refine wp_cv (As := []) (rest := []) rfl rfl (S.cell 158 (nc rfl)) (by decide) rfl rfl rfl (Nat.le_of_ble_eq_true rfl) (Nat.le_of_ble_eq_true rfl) (hW _ S) (fun r3 H3 q3 => ?_)
    obtain ⟨v3, m3, γ3, t3, rfl, hv3, S, hW⟩ := q3
    show wp _ _ _ _ _ [.int (iI v3)] _ _
    refine wp_g (n := 1) (pc' := 18) (L' := [some (.ref 158), some (.int (iI x1)), some (.int (iI 0)), some (.int (iI v3)), none]) (st' := []) rfl ?_
    exact hW none _ S
  · have dc2 := (Classical.not_not.mp c2)
    have hW := hW.1 dc2
    refine wp_g (n := 1) (pc' := 10) (L' := [some (.ref 158), some (.int (iI x1)), none, none, none]) (st' := [.int (iI (-2))]) rfl ?_
    exact wp_iret rfl rfl ⟨_, _, _, _, rfl, (by decide), S, hW⟩
theorem vc_X9_eases_18 {E : am_E} {k : Nat} {x1 : Int} {y1 : Int} {y2 : Int} {y3 : Int} {m : MM} {γ : GM} {t : am_H} {Q : Int → MM → GM → am_H → Prop} (hx1 : rJ x1) (hy1 : rJ y1) (hy2 : rJ y2) (hy3 : rJ y3) (hW : W_X9_eases_18 E k x1 y1 y2 y3 m γ t Q) : hd_X9_eases_18 E k x1 y1 y2 y3 m γ t Q := by
  unfold W_X9_eases_18 at hW
  intro z4 h S
  refine wp_g (n := 2) (pc' := 20) (L' := [some (.ref 158), some (.int (iI y1)), some (.int (iI y2)), some (.int (iI y3)), z4]) (st' := [.int (iI (-1)), .int (iI y3)]) rfl ?_
  refine wp_icmpI (a := y3) (b := (-1)) rfl rfl hy3.1 hy3.2 (by decide) (by decide) (fun c1 => ?_) (fun c1 => ?_)
  · have dc1 := c1
    have hW := hW.1 dc1
    refine wp_g (n := 3) (pc' := 78) (L' := [some (.ref 158), some (.int (iI y1)), some (.int (iI y2)), some (.int (iI y3)), z4]) (st' := [.int (iI y2), .int (iI y1), .ref 158]) rfl ?_
    refine wp_cv (As := [.int (iI y1), .int (iI y2)]) (rest := []) rfl rfl (S.cell 158 (nc rfl)) (by decide) rfl rfl rfl (Nat.le_of_ble_eq_true rfl) (Nat.le_of_ble_eq_true rfl) (hW _ S) (fun r2 H2 q2 => ?_)
    obtain ⟨v2, m2, γ2, t2, rfl, hv2, S, hW⟩ := q2
    show wp _ _ _ _ _ [.int (iI v2)] _ _
    exact wp_iret rfl rfl ⟨_, _, _, _, rfl, hv2, S, hW⟩
  · have dc1 := c1
    have hW := hW.2 dc1
    refine wp_g (n := 1) (pc' := 24) (L' := [some (.ref 158), some (.int (iI y1)), some (.int (iI y2)), some (.int (iI y3)), z4]) (st' := [.ref 158]) rfl ?_
    refine wp_getf (v := .int (iI (m 158 16))) rfl rfl (S.cell 158 (nc rfl)) (by decide) rfl ?_
    have hr3 : rJ (m 158 16) := S.rg 158 16 (nl rfl)
    refine wp_g (n := 2) (pc' := 30) (L' := [some (.ref 158), some (.int (iI y1)), some (.int (iI y2)), some (.int (iI y3)), some (.int (iI (m 158 16)))]) (st' := [.ref 158]) rfl ?_
    refine wp_getf (v := .ref 162) rfl rfl (S.cell 158 (nc rfl)) (by decide) rfl ?_
    refine wp_g (n := 2) (pc' := 35) (L' := [some (.ref 158), some (.int (iI y1)), some (.int (iI y2)), some (.int (iI y3)), some (.int (iI (m 158 16)))]) (st' := [.int (iI 2), .int (iI y3), .ref 162]) rfl ?_
    obtain ⟨p5, hW⟩ := hW
    refine wp_iasF (n := 24) (F := (m 162)) (y := 2) rfl (S.cell 162 (nc rfl)) p5.1 p5.2 (by decide) (fun H4 hl4 hz4 hf4 => ?_)
    have S : ST H4 (up m 162 (up (m 162) ((y3).toNat) 2)) γ t := S.setI 162 (nc rfl) hl4 hz4 hf4 (by decide) (by decide)
    refine wp_g (n := 1) (pc' := 37) (L' := [some (.ref 158), some (.int (iI y1)), some (.int (iI y2)), some (.int (iI y3)), some (.int (iI (m 158 16)))]) (st' := [.ref 158]) rfl ?_
    refine wp_cv (As := []) (rest := []) rfl rfl (S.cell 158 (nc rfl)) (by decide) rfl rfl rfl (Nat.le_of_ble_eq_true rfl) (Nat.le_of_ble_eq_true rfl) (hW _ S) (fun r6 H6 q6 => ?_)
    obtain ⟨m6, γ6, t6, rfl, S, hW⟩ := q6
    show wp _ _ _ _ _ [] _ _
    refine wp_g (n := 1) (pc' := 41) (L' := [some (.ref 158), some (.int (iI y1)), some (.int (iI y2)), some (.int (iI y3)), some (.int (iI (m 158 16)))]) (st' := [.ref 158]) rfl ?_
    refine wp_getf (v := .ref 162) rfl rfl (S.cell 158 (nc rfl)) (by decide) rfl ?_
    refine wp_g (n := 2) (pc' := 46) (L' := [some (.ref 158), some (.int (iI y1)), some (.int (iI y2)), some (.int (iI y3)), some (.int (iI (m 158 16)))]) (st' := [.ref 158, .int (iI y3), .ref 162]) rfl ?_
    refine wp_getf (v := .int (iI (m6 158 16))) rfl rfl (S.cell 158 (nc rfl)) (by decide) rfl ?_
    have hr7 : rJ (m6 158 16) := S.rg 158 16 (nl rfl)
    refine wp_g (n := 1) (pc' := 51) (L' := [some (.ref 158), some (.int (iI y1)), some (.int (iI y2)), some (.int (iI y3)), some (.int (iI (m 158 16)))]) (st' := [.int (iI (m 158 16)), .int (iI (m6 158 16)), .int (iI y3), .ref 162]) rfl ?_
    refine wp_icmpI (a := (m6 158 16)) (b := (m 158 16)) rfl rfl hr7.1 hr7.2 hr3.1 hr3.2 (fun c8 => ?_) (fun c8 => ?_)
    · have dc8 := c8
      have hW := hW.2 dc8
      refine wp_g (n := 1) (pc' := 59) (L' := [some (.ref 158), some (.int (iI y1)), some (.int (iI y2)), some (.int (iI y3)), some (.int (iI (m 158 16)))]) (st' := [.int (iI 3), .int (iI y3), .ref 162]) rfl ?_
      obtain ⟨p10, hW⟩ := hW
      refine wp_iasF (n := 24) (F := (m6 162)) (y := 3) rfl (S.cell 162 (nc rfl)) p10.1 p10.2 (by decide) (fun H9 hl9 hz9 hf9 => ?_)
      have S : ST H9 (up m6 162 (up (m6 162) ((y3).toNat) 3)) γ6 t6 := S.setI 162 (nc rfl) hl9 hz9 hf9 (by decide) (by decide)
      refine wp_g (n := 1) (pc' := 61) (L' := [some (.ref 158), some (.int (iI y1)), some (.int (iI y2)), some (.int (iI y3)), some (.int (iI (m 158 16)))]) (st' := [.ref 158]) rfl ?_
      refine wp_cv (As := []) (rest := []) rfl rfl (S.cell 158 (nc rfl)) (by decide) rfl rfl rfl (Nat.le_of_ble_eq_true rfl) (Nat.le_of_ble_eq_true rfl) (hW _ S) (fun r11 H11 q11 => ?_)
      obtain ⟨m11, γ11, t11, rfl, S, hW⟩ := q11
      show wp _ _ _ _ _ [] _ _
      refine wp_iinc (L' := [some (.ref 158), some (.int (iI y1)), some (.int (iI (y2 + 1))), some (.int (iI y3)), some (.int (iI (m 158 16)))]) (a := y2) rfl rfl rfl ?_
      refine wp_g (n := 1) (pc' := 68) (L' := [some (.ref 158), some (.int (iI y1)), some (.int (iI (y2 + 1))), some (.int (iI y3)), some (.int (iI (m 158 16)))]) (st' := [.ref 158]) rfl ?_
      refine wp_cv (As := []) (rest := []) rfl rfl (S.cell 158 (nc rfl)) (by decide) rfl rfl rfl (Nat.le_of_ble_eq_true rfl) (Nat.le_of_ble_eq_true rfl) (hW _ S) (fun r12 H12 q12 => ?_)
      obtain ⟨v12, m12, γ12, t12, rfl, hv12, S, hW⟩ := q12
      show wp _ _ _ _ _ [.int (iI v12)] _ _
      refine wp_g (n := 2) (pc' := 18) (L' := [some (.ref 158), some (.int (iI y1)), some (.int (iI (y2 + 1))), some (.int (iI v12)), some (.int (iI (m 158 16)))]) (st' := []) rfl ?_
      exact hW (some (.int (iI (m 158 16)))) _ S
    · have dc8 := (Classical.not_not.mp c8)
      have hW := hW.1 dc8
      refine wp_g (n := 2) (pc' := 59) (L' := [some (.ref 158), some (.int (iI y1)), some (.int (iI y2)), some (.int (iI y3)), some (.int (iI (m 158 16)))]) (st' := [.int (iI 2), .int (iI y3), .ref 162]) rfl ?_
      obtain ⟨p14, hW⟩ := hW
      refine wp_iasF (n := 24) (F := (m6 162)) (y := 2) rfl (S.cell 162 (nc rfl)) p14.1 p14.2 (by decide) (fun H13 hl13 hz13 hf13 => ?_)
      have S : ST H13 (up m6 162 (up (m6 162) ((y3).toNat) 2)) γ6 t6 := S.setI 162 (nc rfl) hl13 hz13 hf13 (by decide) (by decide)
      refine wp_g (n := 1) (pc' := 61) (L' := [some (.ref 158), some (.int (iI y1)), some (.int (iI y2)), some (.int (iI y3)), some (.int (iI (m 158 16)))]) (st' := [.ref 158]) rfl ?_
      refine wp_cv (As := []) (rest := []) rfl rfl (S.cell 158 (nc rfl)) (by decide) rfl rfl rfl (Nat.le_of_ble_eq_true rfl) (Nat.le_of_ble_eq_true rfl) (hW _ S) (fun r15 H15 q15 => ?_)
      obtain ⟨m15, γ15, t15, rfl, S, hW⟩ := q15
      show wp _ _ _ _ _ [] _ _
      refine wp_iinc (L' := [some (.ref 158), some (.int (iI y1)), some (.int (iI (y2 + 1))), some (.int (iI y3)), some (.int (iI (m 158 16)))]) (a := y2) rfl rfl rfl ?_
      refine wp_g (n := 1) (pc' := 68) (L' := [some (.ref 158), some (.int (iI y1)), some (.int (iI (y2 + 1))), some (.int (iI y3)), some (.int (iI (m 158 16)))]) (st' := [.ref 158]) rfl ?_
      refine wp_cv (As := []) (rest := []) rfl rfl (S.cell 158 (nc rfl)) (by decide) rfl rfl rfl (Nat.le_of_ble_eq_true rfl) (Nat.le_of_ble_eq_true rfl) (hW _ S) (fun r16 H16 q16 => ?_)
      obtain ⟨v16, m16, γ16, t16, rfl, hv16, S, hW⟩ := q16
      show wp _ _ _ _ _ [.int (iI v16)] _ _
      refine wp_g (n := 2) (pc' := 18) (L' := [some (.ref 158), some (.int (iI y1)), some (.int (iI (y2 + 1))), some (.int (iI v16)), some (.int (iI (m 158 16)))]) (st' := []) rfl ?_
      exact hW (some (.int (iI (m 158 16)))) _ S
abbrev W_X9_sets (E : am_E) (k : Nat) (x1 : Int) (x2 : Int) (x3 : Int) (m : MM) (γ : GM) (t : am_H) (Q : Int → MM → GM → am_H → Prop) : Prop := (TI E k 219 [.ref 158, .int (iI x1), .int (iI x2)] m γ t (fun v1 m1 γ1 t1 => (((v1 = 0) → (Q (-2) m1 γ1 t1)) ∧ (¬ (v1 = 0) → (TI E k 192 [.long (lI x3), .long (lI 0), .long (lI 3)] m1 γ1 t1 (fun v3 m3 γ3 t3 => (((v3 = 0) → (Q (-2) m3 γ3 t3)) ∧ (¬ (v3 = 0) → ((0 ≤ x2 ∧ x2 < 24) ∧ ((0 ≤ x2 ∧ x2 < 24) ∧ (TI E k 202 [.ref 158, .int (iI x1), .int (iI (m3 162 ((x2).toNat)))] (up m3 162 (up (m3 162) ((x2).toNat) x3)) γ3 t3 (fun v9 m9 γ9 t9 => (Q v9 m9 γ9 t9)))))))))))))
theorem vc_X9_sets {E : am_E} {k : Nat} {x1 : Int} {x2 : Int} {x3 : Int} {m : MM} {γ : GM} {t : am_H} {Q : Int → MM → GM → am_H → Prop} (hx1 : rJ x1) (hx2 : rJ x2) (hx3 : rJ x3) (hW : W_X9_sets E k x1 x2 x3 m γ t Q) : TI E (k + 1) 289 [.ref 158, .int (iI x1), .int (iI x2), .int (iI x3)] m γ t Q := by
  unfold W_X9_sets at hW
  intro h S
  refine wp_g (n := 3) (pc' := 3) (L' := [some (.ref 158), some (.int (iI x1)), some (.int (iI x2)), some (.int (iI x3)), none]) (st' := [.int (iI x2), .int (iI x1), .ref 158]) rfl ?_
  refine wp_cv (As := [.int (iI x1), .int (iI x2)]) (rest := []) rfl rfl (S.cell 158 (nc rfl)) (by decide) rfl rfl rfl (Nat.le_of_ble_eq_true rfl) (Nat.le_of_ble_eq_true rfl) (hW _ S) (fun r1 H1 q1 => ?_)
  obtain ⟨v1, m1, γ1, t1, rfl, hv1, S, hW⟩ := q1
  show wp _ _ _ _ _ [.int (iI v1)] _ _
  refine wp_ifI (a := v1) rfl rfl hv1.1 hv1.2 (fun c2 => ?_) (fun c2 => ?_)
  · have dc2 := c2
    have hW := hW.1 dc2
    refine wp_g (n := 1) (pc' := 23) (L' := [some (.ref 158), some (.int (iI x1)), some (.int (iI x2)), some (.int (iI x3)), none]) (st' := [.int (iI (-2))]) rfl ?_
    exact wp_iret rfl rfl ⟨_, _, _, _, rfl, (by decide), S, hW⟩
  · have dc2 := c2
    have hW := hW.2 dc2
    refine wp_g (n := 1) (pc' := 10) (L' := [some (.ref 158), some (.int (iI x1)), some (.int (iI x2)), some (.int (iI x3)), none]) (st' := [.int (iI x3)]) rfl ?_
    refine wp_i2l (a := x3) rfl hx3 ?_
    refine wp_g (n := 2) (pc' := 15) (L' := [some (.ref 158), some (.int (iI x1)), some (.int (iI x2)), some (.int (iI x3)), none]) (st' := [.long (lI 3), .long (lI 0), .long (lI x3)]) rfl ?_
    refine wp_cs (As := [.long (lI x3), .long (lI 0), .long (lI 3)]) (rest := []) rfl rfl rfl rfl (Nat.le_of_ble_eq_true rfl) (Nat.le_of_ble_eq_true rfl) (hW _ S) (fun r3 H3 q3 => ?_)
    obtain ⟨v3, m3, γ3, t3, rfl, hv3, S, hW⟩ := q3
    show wp _ _ _ _ _ [.int (iI v3)] _ _
    refine wp_ifI (a := v3) rfl rfl hv3.1 hv3.2 (fun c4 => ?_) (fun c4 => ?_)
    · have dc4 := c4
      have hW := hW.2 dc4
      refine wp_g (n := 1) (pc' := 25) (L' := [some (.ref 158), some (.int (iI x1)), some (.int (iI x2)), some (.int (iI x3)), none]) (st' := [.ref 158]) rfl ?_
      refine wp_getf (v := .ref 162) rfl rfl (S.cell 158 (nc rfl)) (by decide) rfl ?_
      refine wp_g (n := 1) (pc' := 29) (L' := [some (.ref 158), some (.int (iI x1)), some (.int (iI x2)), some (.int (iI x3)), none]) (st' := [.int (iI x2), .ref 162]) rfl ?_
      obtain ⟨p5, hW⟩ := hW
      refine wp_iald (n := 24) (F := (m3 162)) rfl (S.cell 162 (nc rfl)) (by decide) p5.1 p5.2 (by decide) ?_
      show wp _ _ _ _ _ [.int (iI (m3 162 ((x2).toNat)))] _ _
      have hr6 : rJ (m3 162 ((x2).toNat)) := S.rg 162 ((x2).toNat) (nl rfl)
      refine wp_g (n := 2) (pc' := 33) (L' := [some (.ref 158), some (.int (iI x1)), some (.int (iI x2)), some (.int (iI x3)), some (.int (iI (m3 162 ((x2).toNat))))]) (st' := [.ref 158]) rfl ?_
      refine wp_getf (v := .ref 162) rfl rfl (S.cell 158 (nc rfl)) (by decide) rfl ?_
      refine wp_g (n := 2) (pc' := 38) (L' := [some (.ref 158), some (.int (iI x1)), some (.int (iI x2)), some (.int (iI x3)), some (.int (iI (m3 162 ((x2).toNat))))]) (st' := [.int (iI x3), .int (iI x2), .ref 162]) rfl ?_
      obtain ⟨p8, hW⟩ := hW
      refine wp_iasF (n := 24) (F := (m3 162)) (y := x3) rfl (S.cell 162 (nc rfl)) p8.1 p8.2 (by decide) (fun H7 hl7 hz7 hf7 => ?_)
      have S : ST H7 (up m3 162 (up (m3 162) ((x2).toNat) x3)) γ3 t3 := S.setI 162 (nc rfl) hl7 hz7 hf7 hx3.1 hx3.2
      refine wp_g (n := 3) (pc' := 43) (L' := [some (.ref 158), some (.int (iI x1)), some (.int (iI x2)), some (.int (iI x3)), some (.int (iI (m3 162 ((x2).toNat))))]) (st' := [.int (iI (m3 162 ((x2).toNat))), .int (iI x1), .ref 158]) rfl ?_
      refine wp_cv (As := [.int (iI x1), .int (iI (m3 162 ((x2).toNat)))]) (rest := []) rfl rfl (S.cell 158 (nc rfl)) (by decide) rfl rfl rfl (Nat.le_of_ble_eq_true rfl) (Nat.le_of_ble_eq_true rfl) (hW _ S) (fun r9 H9 q9 => ?_)
      obtain ⟨v9, m9, γ9, t9, rfl, hv9, S, hW⟩ := q9
      show wp _ _ _ _ _ [.int (iI v9)] _ _
      exact wp_iret rfl rfl ⟨_, _, _, _, rfl, hv9, S, hW⟩
    · have dc4 := (Classical.not_not.mp c4)
      have hW := hW.1 dc4
      refine wp_g (n := 1) (pc' := 23) (L' := [some (.ref 158), some (.int (iI x1)), some (.int (iI x2)), some (.int (iI x3)), none]) (st' := [.int (iI (-2))]) rfl ?_
      exact wp_iret rfl rfl ⟨_, _, _, _, rfl, (by decide), S, hW⟩
def hd_X9_all_54 (E : am_E) (k : Nat) (x1 : Int) (x2 : Int) (x3 : Int) (y1 : Int) (y2 : Int) (y3 : Int) (y4 : Int) (y5 : Int) (m : MM) (γ : GM) (t : am_H) (Q : Int → MM → GM → am_H → Prop) : Prop := TT (pI Q) E (k + 1) 290 54 [some (.ref 158), some (.int (iI y1)), some (.int (iI y2)), some (.int (iI y3)), some (.int (iI y4)), some (.int (iI y5))] [] m γ t
abbrev W_X9_all (E : am_E) (k : Nat) (x1 : Int) (x2 : Int) (x3 : Int) (m : MM) (γ : GM) (t : am_H) (Q : Int → MM → GM → am_H → Prop) : Prop := (TI E k 216 [.ref 158, .int (iI x1)] m γ t (fun v1 m1 γ1 t1 => (((v1 = 0) → (Q (-2) m1 γ1 t1)) ∧ (¬ (v1 = 0) → (TI E k 192 [.long (lI x2), .long (lI 0), .long (lI 3)] m1 γ1 t1 (fun v3 m3 γ3 t3 => (((v3 = 0) → (Q (-2) m3 γ3 t3)) ∧ (¬ (v3 = 0) → (TI E k 192 [.long (lI x3), .long (lI 0), .long (lI 3)] m3 γ3 t3 (fun v5 m5 γ5 t5 => (((v5 = 0) → (Q (-2) m5 γ5 t5)) ∧ (¬ (v5 = 0) → (((x2 = x3) → (hd_X9_all_54 E k x1 x2 x3 x1 x2 x3 0 0 m5 γ5 t5 Q)) ∧ (¬ (x2 = x3) → (TI E k 205 [.ref 158, .int (iI x2)] m5 γ5 t5 (fun v8 m8 γ8 t8 => (hd_X9_all_54 E k x1 x2 x3 x1 x2 x3 v8 0 m8 γ8 t8 Q)))))))))))))))))
abbrev W_X9_all_54 (E : am_E) (k : Nat) (x1 : Int) (x2 : Int) (x3 : Int) (y1 : Int) (y2 : Int) (y3 : Int) (y4 : Int) (y5 : Int) (m : MM) (γ : GM) (t : am_H) (Q : Int → MM → GM → am_H → Prop) : Prop := (((y5 < (m 158 6)) → ((0 ≤ y5 ∧ y5 < 24) ∧ ((((m 162 ((y5).toNat)) = y2) → ((0 ≤ y5 ∧ y5 < 24) ∧ (hd_X9_all_54 E k x1 x2 x3 y1 y2 y3 y4 (y5 + 1) (up m 162 (up (m 162) ((y5).toNat) y3)) γ t Q))) ∧ (¬ ((m 162 ((y5).toNat)) = y2) → ((0 ≤ y5 ∧ y5 < 24) ∧ ((0 ≤ y5 ∧ y5 < 24) ∧ (hd_X9_all_54 E k x1 x2 x3 y1 y2 y3 y4 (y5 + 1) (up m 162 (up (m 162) ((y5).toNat) (m 162 ((y5).toNat)))) γ t Q))))))) ∧ (¬ (y5 < (m 158 6)) → (TI E k 202 [.ref 158, .int (iI y1), .int (iI y4)] m γ t (fun v3 m3 γ3 t3 => (Q v3 m3 γ3 t3)))))
theorem vc_X9_all {E : am_E} {k : Nat} {x1 : Int} {x2 : Int} {x3 : Int} {m : MM} {γ : GM} {t : am_H} {Q : Int → MM → GM → am_H → Prop} (hx1 : rJ x1) (hx2 : rJ x2) (hx3 : rJ x3) (hW : W_X9_all E k x1 x2 x3 m γ t Q) : TI E (k + 1) 290 [.ref 158, .int (iI x1), .int (iI x2), .int (iI x3)] m γ t Q := by
  unfold W_X9_all at hW
  intro h S
  refine wp_g (n := 2) (pc' := 2) (L' := [some (.ref 158), some (.int (iI x1)), some (.int (iI x2)), some (.int (iI x3)), none, none]) (st' := [.int (iI x1), .ref 158]) rfl ?_
  refine wp_cv (As := [.int (iI x1)]) (rest := []) rfl rfl (S.cell 158 (nc rfl)) (by decide) rfl rfl rfl (Nat.le_of_ble_eq_true rfl) (Nat.le_of_ble_eq_true rfl) (hW _ S) (fun r1 H1 q1 => ?_)
  obtain ⟨v1, m1, γ1, t1, rfl, hv1, S, hW⟩ := q1
  show wp _ _ _ _ _ [.int (iI v1)] _ _
  refine wp_ifI (a := v1) rfl rfl hv1.1 hv1.2 (fun c2 => ?_) (fun c2 => ?_)
  · have dc2 := c2
    have hW := hW.1 dc2
    refine wp_g (n := 1) (pc' := 34) (L' := [some (.ref 158), some (.int (iI x1)), some (.int (iI x2)), some (.int (iI x3)), none, none]) (st' := [.int (iI (-2))]) rfl ?_
    exact wp_iret rfl rfl ⟨_, _, _, _, rfl, (by decide), S, hW⟩
  · have dc2 := c2
    have hW := hW.2 dc2
    refine wp_g (n := 1) (pc' := 9) (L' := [some (.ref 158), some (.int (iI x1)), some (.int (iI x2)), some (.int (iI x3)), none, none]) (st' := [.int (iI x2)]) rfl ?_
    refine wp_i2l (a := x2) rfl hx2 ?_
    refine wp_g (n := 2) (pc' := 14) (L' := [some (.ref 158), some (.int (iI x1)), some (.int (iI x2)), some (.int (iI x3)), none, none]) (st' := [.long (lI 3), .long (lI 0), .long (lI x2)]) rfl ?_
    refine wp_cs (As := [.long (lI x2), .long (lI 0), .long (lI 3)]) (rest := []) rfl rfl rfl rfl (Nat.le_of_ble_eq_true rfl) (Nat.le_of_ble_eq_true rfl) (hW _ S) (fun r3 H3 q3 => ?_)
    obtain ⟨v3, m3, γ3, t3, rfl, hv3, S, hW⟩ := q3
    show wp _ _ _ _ _ [.int (iI v3)] _ _
    refine wp_ifI (a := v3) rfl rfl hv3.1 hv3.2 (fun c4 => ?_) (fun c4 => ?_)
    · have dc4 := c4
      have hW := hW.1 dc4
      refine wp_g (n := 1) (pc' := 34) (L' := [some (.ref 158), some (.int (iI x1)), some (.int (iI x2)), some (.int (iI x3)), none, none]) (st' := [.int (iI (-2))]) rfl ?_
      exact wp_iret rfl rfl ⟨_, _, _, _, rfl, (by decide), S, hW⟩
    · have dc4 := c4
      have hW := hW.2 dc4
      refine wp_g (n := 1) (pc' := 21) (L' := [some (.ref 158), some (.int (iI x1)), some (.int (iI x2)), some (.int (iI x3)), none, none]) (st' := [.int (iI x3)]) rfl ?_
      refine wp_i2l (a := x3) rfl hx3 ?_
      refine wp_g (n := 2) (pc' := 26) (L' := [some (.ref 158), some (.int (iI x1)), some (.int (iI x2)), some (.int (iI x3)), none, none]) (st' := [.long (lI 3), .long (lI 0), .long (lI x3)]) rfl ?_
      refine wp_cs (As := [.long (lI x3), .long (lI 0), .long (lI 3)]) (rest := []) rfl rfl rfl rfl (Nat.le_of_ble_eq_true rfl) (Nat.le_of_ble_eq_true rfl) (hW _ S) (fun r5 H5 q5 => ?_)
      obtain ⟨v5, m5, γ5, t5, rfl, hv5, S, hW⟩ := q5
      show wp _ _ _ _ _ [.int (iI v5)] _ _
      refine wp_ifI (a := v5) rfl rfl hv5.1 hv5.2 (fun c6 => ?_) (fun c6 => ?_)
      · have dc6 := c6
        have hW := hW.2 dc6
        refine wp_g (n := 2) (pc' := 37) (L' := [some (.ref 158), some (.int (iI x1)), some (.int (iI x2)), some (.int (iI x3)), none, none]) (st' := [.int (iI x3), .int (iI x2)]) rfl ?_
        refine wp_icmpI (a := x2) (b := x3) rfl rfl hx2.1 hx2.2 hx3.1 hx3.2 (fun c7 => ?_) (fun c7 => ?_)
        · have dc7 := c7
          have hW := hW.2 dc7
          refine wp_g (n := 2) (pc' := 46) (L' := [some (.ref 158), some (.int (iI x1)), some (.int (iI x2)), some (.int (iI x3)), none, none]) (st' := [.int (iI x2), .ref 158]) rfl ?_
          refine wp_cv (As := [.int (iI x2)]) (rest := []) rfl rfl (S.cell 158 (nc rfl)) (by decide) rfl rfl rfl (Nat.le_of_ble_eq_true rfl) (Nat.le_of_ble_eq_true rfl) (hW _ S) (fun r8 H8 q8 => ?_)
          obtain ⟨v8, m8, γ8, t8, rfl, hv8, S, hW⟩ := q8
          show wp _ _ _ _ _ [.int (iI v8)] _ _
          refine wp_g (n := 3) (pc' := 54) (L' := [some (.ref 158), some (.int (iI x1)), some (.int (iI x2)), some (.int (iI x3)), some (.int (iI v8)), some (.int (iI 0))]) (st' := []) rfl ?_
          exact hW _ S
        · have dc7 := (Classical.not_not.mp c7)
          have hW := hW.1 dc7
          refine wp_g (n := 5) (pc' := 54) (L' := [some (.ref 158), some (.int (iI x1)), some (.int (iI x2)), some (.int (iI x3)), some (.int (iI 0)), some (.int (iI 0))]) (st' := []) rfl ?_
          exact hW _ S
      · have dc6 := (Classical.not_not.mp c6)
        have hW := hW.1 dc6
        refine wp_g (n := 1) (pc' := 34) (L' := [some (.ref 158), some (.int (iI x1)), some (.int (iI x2)), some (.int (iI x3)), none, none]) (st' := [.int (iI (-2))]) rfl ?_
        exact wp_iret rfl rfl ⟨_, _, _, _, rfl, (by decide), S, hW⟩
theorem vc_X9_all_54 {E : am_E} {k : Nat} {x1 : Int} {x2 : Int} {x3 : Int} {y1 : Int} {y2 : Int} {y3 : Int} {y4 : Int} {y5 : Int} {m : MM} {γ : GM} {t : am_H} {Q : Int → MM → GM → am_H → Prop} (hx1 : rJ x1) (hx2 : rJ x2) (hx3 : rJ x3) (hy1 : rJ y1) (hy2 : rJ y2) (hy3 : rJ y3) (hy4 : rJ y4) (hy5 : rJ y5) (hW : W_X9_all_54 E k x1 x2 x3 y1 y2 y3 y4 y5 m γ t Q) : hd_X9_all_54 E k x1 x2 x3 y1 y2 y3 y4 y5 m γ t Q := by
  unfold W_X9_all_54 at hW
  intro h S
  refine wp_g (n := 2) (pc' := 57) (L' := [some (.ref 158), some (.int (iI y1)), some (.int (iI y2)), some (.int (iI y3)), some (.int (iI y4)), some (.int (iI y5))]) (st' := [.ref 158, .int (iI y5)]) rfl ?_
  refine wp_getf (v := .int (iI (m 158 6))) rfl rfl (S.cell 158 (nc rfl)) (by decide) rfl ?_
  have hr1 : rJ (m 158 6) := S.rg 158 6 (nl rfl)
  refine wp_icmpI (a := y5) (b := (m 158 6)) rfl rfl hy5.1 hy5.2 hr1.1 hr1.2 (fun c2 => ?_) (fun c2 => ?_)
  · have dc2 := (Int.not_lt.mpr c2)
    have hW := hW.2 dc2
    refine wp_g (n := 3) (pc' := 102) (L' := [some (.ref 158), some (.int (iI y1)), some (.int (iI y2)), some (.int (iI y3)), some (.int (iI y4)), some (.int (iI y5))]) (st' := [.int (iI y4), .int (iI y1), .ref 158]) rfl ?_
    refine wp_cv (As := [.int (iI y1), .int (iI y4)]) (rest := []) rfl rfl (S.cell 158 (nc rfl)) (by decide) rfl rfl rfl (Nat.le_of_ble_eq_true rfl) (Nat.le_of_ble_eq_true rfl) (hW _ S) (fun r3 H3 q3 => ?_)
    obtain ⟨v3, m3, γ3, t3, rfl, hv3, S, hW⟩ := q3
    show wp _ _ _ _ _ [.int (iI v3)] _ _
    exact wp_iret rfl rfl ⟨_, _, _, _, rfl, hv3, S, hW⟩
  · have dc2 := (Int.not_le.mp c2)
    have hW := hW.1 dc2
    refine wp_g (n := 1) (pc' := 64) (L' := [some (.ref 158), some (.int (iI y1)), some (.int (iI y2)), some (.int (iI y3)), some (.int (iI y4)), some (.int (iI y5))]) (st' := [.ref 158]) rfl ?_
    refine wp_getf (v := .ref 162) rfl rfl (S.cell 158 (nc rfl)) (by decide) rfl ?_
    refine wp_g (n := 2) (pc' := 70) (L' := [some (.ref 158), some (.int (iI y1)), some (.int (iI y2)), some (.int (iI y3)), some (.int (iI y4)), some (.int (iI y5))]) (st' := [.ref 158, .int (iI y5), .ref 162]) rfl ?_
    refine wp_getf (v := .ref 162) rfl rfl (S.cell 158 (nc rfl)) (by decide) rfl ?_
    refine wp_g (n := 1) (pc' := 75) (L' := [some (.ref 158), some (.int (iI y1)), some (.int (iI y2)), some (.int (iI y3)), some (.int (iI y4)), some (.int (iI y5))]) (st' := [.int (iI y5), .ref 162, .int (iI y5), .ref 162]) rfl ?_
    obtain ⟨p4, hW⟩ := hW
    refine wp_iald (n := 24) (F := (m 162)) rfl (S.cell 162 (nc rfl)) (by decide) p4.1 p4.2 (by decide) ?_
    show wp _ _ _ _ _ [.int (iI (m 162 ((y5).toNat))), .int (iI y5), .ref 162] _ _
    have hr5 : rJ (m 162 ((y5).toNat)) := S.rg 162 ((y5).toNat) (nl rfl)
    refine wp_g (n := 1) (pc' := 77) (L' := [some (.ref 158), some (.int (iI y1)), some (.int (iI y2)), some (.int (iI y3)), some (.int (iI y4)), some (.int (iI y5))]) (st' := [.int (iI y2), .int (iI (m 162 ((y5).toNat))), .int (iI y5), .ref 162]) rfl ?_
    refine wp_icmpI (a := (m 162 ((y5).toNat))) (b := y2) rfl rfl hr5.1 hr5.2 hy2.1 hy2.2 (fun c6 => ?_) (fun c6 => ?_)
    · have dc6 := c6
      have hW := hW.2 dc6
      refine wp_g (n := 1) (pc' := 85) (L' := [some (.ref 158), some (.int (iI y1)), some (.int (iI y2)), some (.int (iI y3)), some (.int (iI y4)), some (.int (iI y5))]) (st' := [.ref 158, .int (iI y5), .ref 162]) rfl ?_
      refine wp_getf (v := .ref 162) rfl rfl (S.cell 158 (nc rfl)) (by decide) rfl ?_
      refine wp_g (n := 1) (pc' := 90) (L' := [some (.ref 158), some (.int (iI y1)), some (.int (iI y2)), some (.int (iI y3)), some (.int (iI y4)), some (.int (iI y5))]) (st' := [.int (iI y5), .ref 162, .int (iI y5), .ref 162]) rfl ?_
      obtain ⟨p7, hW⟩ := hW
      refine wp_iald (n := 24) (F := (m 162)) rfl (S.cell 162 (nc rfl)) (by decide) p7.1 p7.2 (by decide) ?_
      show wp _ _ _ _ _ [.int (iI (m 162 ((y5).toNat))), .int (iI y5), .ref 162] _ _
      obtain ⟨p9, hW⟩ := hW
      refine wp_iasF (n := 24) (F := (m 162)) (y := (m 162 ((y5).toNat))) rfl (S.cell 162 (nc rfl)) p9.1 p9.2 (by decide) (fun H8 hl8 hz8 hf8 => ?_)
      have S : ST H8 (up m 162 (up (m 162) ((y5).toNat) (m 162 ((y5).toNat)))) γ t := S.setI 162 (nc rfl) hl8 hz8 hf8 hr5.1 hr5.2
      refine wp_iinc (L' := [some (.ref 158), some (.int (iI y1)), some (.int (iI y2)), some (.int (iI y3)), some (.int (iI y4)), some (.int (iI (y5 + 1)))]) (a := y5) rfl rfl rfl ?_
      refine wp_g (n := 1) (pc' := 54) (L' := [some (.ref 158), some (.int (iI y1)), some (.int (iI y2)), some (.int (iI y3)), some (.int (iI y4)), some (.int (iI (y5 + 1)))]) (st' := []) rfl ?_
      exact hW _ S
    · have dc6 := (Classical.not_not.mp c6)
      have hW := hW.1 dc6
      refine wp_g (n := 2) (pc' := 91) (L' := [some (.ref 158), some (.int (iI y1)), some (.int (iI y2)), some (.int (iI y3)), some (.int (iI y4)), some (.int (iI y5))]) (st' := [.int (iI y3), .int (iI y5), .ref 162]) rfl ?_
      obtain ⟨p11, hW⟩ := hW
      refine wp_iasF (n := 24) (F := (m 162)) (y := y3) rfl (S.cell 162 (nc rfl)) p11.1 p11.2 (by decide) (fun H10 hl10 hz10 hf10 => ?_)
      have S : ST H10 (up m 162 (up (m 162) ((y5).toNat) y3)) γ t := S.setI 162 (nc rfl) hl10 hz10 hf10 hy3.1 hy3.2
      refine wp_iinc (L' := [some (.ref 158), some (.int (iI y1)), some (.int (iI y2)), some (.int (iI y3)), some (.int (iI y4)), some (.int (iI (y5 + 1)))]) (a := y5) rfl rfl rfl ?_
      refine wp_g (n := 1) (pc' := 54) (L' := [some (.ref 158), some (.int (iI y1)), some (.int (iI y2)), some (.int (iI y3)), some (.int (iI y4)), some (.int (iI (y5 + 1)))]) (st' := []) rfl ?_
      exact hW _ S
def hd_X9_turnsCrosses_2 (E : am_E) (k : Nat) (y1 : Int) (m : MM) (γ : GM) (t : am_H) (Q : MM → GM → am_H → Prop) : Prop := TT (pV Q) E (k + 1) 291 2 [some (.ref 158), some (.int (iI y1))] [] m γ t
abbrev W_X9_turnsCrosses (E : am_E) (k : Nat) (m : MM) (γ : GM) (t : am_H) (Q : MM → GM → am_H → Prop) : Prop := (hd_X9_turnsCrosses_2 E k 0 m γ t Q)
abbrev W_X9_turnsCrosses_2 (E : am_E) (k : Nat) (y1 : Int) (m : MM) (γ : GM) (t : am_H) (Q : MM → GM → am_H → Prop) : Prop := (((y1 < (m 158 6)) → ((0 ≤ y1 ∧ y1 < 24) ∧ (TI E k 204 [.int (iI (m 162 ((y1).toNat)))] m γ t (fun v5 m5 γ5 t5 => (((v5 = 0) → ((0 ≤ y1 ∧ y1 < 24) ∧ ((0 ≤ y1 ∧ y1 < 24) ∧ (hd_X9_turnsCrosses_2 E k (y1 + 1) (up m5 162 (up (m5 162) ((y1).toNat) (m5 162 ((y1).toNat)))) γ5 t5 Q)))) ∧ (¬ (v5 = 0) → ((0 ≤ y1 ∧ y1 < 24) ∧ ((0 ≤ y1 ∧ y1 < 24) ∧ (rJ (1 - (m5 162 ((y1).toNat))) ∧ (hd_X9_turnsCrosses_2 E k (y1 + 1) (up m5 162 (up (m5 162) ((y1).toNat) (1 - (m5 162 ((y1).toNat))))) γ5 t5 Q)))))))))) ∧ (¬ (y1 < (m 158 6)) → (Q m γ t)))
theorem vc_X9_turnsCrosses {E : am_E} {k : Nat} {m : MM} {γ : GM} {t : am_H} {Q : MM → GM → am_H → Prop} (hW : W_X9_turnsCrosses E k  m γ t Q) : TV E (k + 1) 291 [.ref 158] m γ t Q := by
  unfold W_X9_turnsCrosses at hW
  intro h S
  refine wp_g (n := 2) (pc' := 2) (L' := [some (.ref 158), some (.int (iI 0))]) (st' := []) rfl ?_
  exact hW _ S
theorem vc_X9_turnsCrosses_2 {E : am_E} {k : Nat} {y1 : Int} {m : MM} {γ : GM} {t : am_H} {Q : MM → GM → am_H → Prop} (hy1 : rJ y1) (hW : W_X9_turnsCrosses_2 E k y1 m γ t Q) : hd_X9_turnsCrosses_2 E k y1 m γ t Q := by
  unfold W_X9_turnsCrosses_2 at hW
  intro h S
  refine wp_g (n := 2) (pc' := 4) (L' := [some (.ref 158), some (.int (iI y1))]) (st' := [.ref 158, .int (iI y1)]) rfl ?_
  refine wp_getf (v := .int (iI (m 158 6))) rfl rfl (S.cell 158 (nc rfl)) (by decide) rfl ?_
  have hr1 : rJ (m 158 6) := S.rg 158 6 (nl rfl)
  refine wp_icmpI (a := y1) (b := (m 158 6)) rfl rfl hy1.1 hy1.2 hr1.1 hr1.2 (fun c2 => ?_) (fun c2 => ?_)
  · have dc2 := (Int.not_lt.mpr c2)
    have hW := hW.2 dc2
    exact wp_vret rfl rfl ⟨_, _, _, rfl, S, hW⟩
  · have dc2 := (Int.not_le.mp c2)
    have hW := hW.1 dc2
    refine wp_g (n := 1) (pc' := 11) (L' := [some (.ref 158), some (.int (iI y1))]) (st' := [.ref 158]) rfl ?_
    refine wp_getf (v := .ref 162) rfl rfl (S.cell 158 (nc rfl)) (by decide) rfl ?_
    refine wp_g (n := 2) (pc' := 16) (L' := [some (.ref 158), some (.int (iI y1))]) (st' := [.ref 158, .int (iI y1), .ref 162]) rfl ?_
    refine wp_getf (v := .ref 162) rfl rfl (S.cell 158 (nc rfl)) (by decide) rfl ?_
    refine wp_g (n := 1) (pc' := 20) (L' := [some (.ref 158), some (.int (iI y1))]) (st' := [.int (iI y1), .ref 162, .int (iI y1), .ref 162]) rfl ?_
    obtain ⟨p3, hW⟩ := hW
    refine wp_iald (n := 24) (F := (m 162)) rfl (S.cell 162 (nc rfl)) (by decide) p3.1 p3.2 (by decide) ?_
    show wp _ _ _ _ _ [.int (iI (m 162 ((y1).toNat))), .int (iI y1), .ref 162] _ _
    have hr4 : rJ (m 162 ((y1).toNat)) := S.rg 162 ((y1).toNat) (nl rfl)
    refine wp_cs (As := [.int (iI (m 162 ((y1).toNat)))]) (rest := [.int (iI y1), .ref 162]) rfl rfl rfl rfl (Nat.le_of_ble_eq_true rfl) (Nat.le_of_ble_eq_true rfl) (hW _ S) (fun r5 H5 q5 => ?_)
    obtain ⟨v5, m5, γ5, t5, rfl, hv5, S, hW⟩ := q5
    show wp _ _ _ _ _ [.int (iI v5), .int (iI y1), .ref 162] _ _
    refine wp_ifI (a := v5) rfl rfl hv5.1 hv5.2 (fun c6 => ?_) (fun c6 => ?_)
    · have dc6 := c6
      have hW := hW.1 dc6
      refine wp_g (n := 1) (pc' := 39) (L' := [some (.ref 158), some (.int (iI y1))]) (st' := [.ref 158, .int (iI y1), .ref 162]) rfl ?_
      refine wp_getf (v := .ref 162) rfl rfl (S.cell 158 (nc rfl)) (by decide) rfl ?_
      refine wp_g (n := 1) (pc' := 43) (L' := [some (.ref 158), some (.int (iI y1))]) (st' := [.int (iI y1), .ref 162, .int (iI y1), .ref 162]) rfl ?_
      obtain ⟨p7, hW⟩ := hW
      refine wp_iald (n := 24) (F := (m5 162)) rfl (S.cell 162 (nc rfl)) (by decide) p7.1 p7.2 (by decide) ?_
      show wp _ _ _ _ _ [.int (iI (m5 162 ((y1).toNat))), .int (iI y1), .ref 162] _ _
      have hr8 : rJ (m5 162 ((y1).toNat)) := S.rg 162 ((y1).toNat) (nl rfl)
      obtain ⟨p10, hW⟩ := hW
      refine wp_iasF (n := 24) (F := (m5 162)) (y := (m5 162 ((y1).toNat))) rfl (S.cell 162 (nc rfl)) p10.1 p10.2 (by decide) (fun H9 hl9 hz9 hf9 => ?_)
      have S : ST H9 (up m5 162 (up (m5 162) ((y1).toNat) (m5 162 ((y1).toNat)))) γ5 t5 := S.setI 162 (nc rfl) hl9 hz9 hf9 hr8.1 hr8.2
      refine wp_iinc (L' := [some (.ref 158), some (.int (iI (y1 + 1)))]) (a := y1) rfl rfl rfl ?_
      refine wp_g (n := 1) (pc' := 2) (L' := [some (.ref 158), some (.int (iI (y1 + 1)))]) (st' := []) rfl ?_
      exact hW _ S
    · have dc6 := c6
      have hW := hW.2 dc6
      refine wp_g (n := 2) (pc' := 29) (L' := [some (.ref 158), some (.int (iI y1))]) (st' := [.ref 158, .int (iI 1), .int (iI y1), .ref 162]) rfl ?_
      refine wp_getf (v := .ref 162) rfl rfl (S.cell 158 (nc rfl)) (by decide) rfl ?_
      refine wp_g (n := 1) (pc' := 33) (L' := [some (.ref 158), some (.int (iI y1))]) (st' := [.int (iI y1), .ref 162, .int (iI 1), .int (iI y1), .ref 162]) rfl ?_
      obtain ⟨p11, hW⟩ := hW
      refine wp_iald (n := 24) (F := (m5 162)) rfl (S.cell 162 (nc rfl)) (by decide) p11.1 p11.2 (by decide) ?_
      show wp _ _ _ _ _ [.int (iI (m5 162 ((y1).toNat))), .int (iI 1), .int (iI y1), .ref 162] _ _
      have hr12 : rJ (m5 162 ((y1).toNat)) := S.rg 162 ((y1).toNat) (nl rfl)
      refine wp_sub (a := 1) (b := (m5 162 ((y1).toNat))) rfl ?_
      refine wp_g (n := 1) (pc' := 44) (L' := [some (.ref 158), some (.int (iI y1))]) (st' := [.int (iI (1 - (m5 162 ((y1).toNat)))), .int (iI y1), .ref 162]) rfl ?_
      obtain ⟨p14, hW⟩ := hW
      obtain ⟨p15, hW⟩ := hW
      refine wp_iasF (n := 24) (F := (m5 162)) (y := (1 - (m5 162 ((y1).toNat)))) rfl (S.cell 162 (nc rfl)) p14.1 p14.2 (by decide) (fun H13 hl13 hz13 hf13 => ?_)
      have S : ST H13 (up m5 162 (up (m5 162) ((y1).toNat) (1 - (m5 162 ((y1).toNat))))) γ5 t5 := S.setI 162 (nc rfl) hl13 hz13 hf13 p15.1 p15.2
      refine wp_iinc (L' := [some (.ref 158), some (.int (iI (y1 + 1)))]) (a := y1) rfl rfl rfl ?_
      refine wp_g (n := 1) (pc' := 2) (L' := [some (.ref 158), some (.int (iI (y1 + 1)))]) (st' := []) rfl ?_
      exact hW _ S
abbrev W_X9_under (E : am_E) (k : Nat) (x1 : Int) (m : MM) (γ : GM) (t : am_H) (Q : Int → MM → GM → am_H → Prop) : Prop := (TI E k 216 [.ref 158, .int (iI x1)] m γ t (fun v1 m1 γ1 t1 => (((v1 = 0) → (Q (-2) m1 γ1 t1)) ∧ (¬ (v1 = 0) → (TV E k 291 [.ref 158] m1 γ1 t1 (fun m3 γ3 t3 => (TI E k 206 [.ref 158] m3 γ3 t3 (fun v4 m4 γ4 t4 => (TI E k 202 [.ref 158, .int (iI x1), .int (iI v4)] m4 γ4 t4 (fun v5 m5 γ5 t5 => (Q v5 m5 γ5 t5)))))))))))
theorem vc_X9_under {E : am_E} {k : Nat} {x1 : Int} {m : MM} {γ : GM} {t : am_H} {Q : Int → MM → GM → am_H → Prop} (hx1 : rJ x1) (hW : W_X9_under E k x1 m γ t Q) : TI E (k + 1) 292 [.ref 158, .int (iI x1)] m γ t Q := by
  unfold W_X9_under at hW
  intro h S
  refine wp_g (n := 2) (pc' := 2) (L' := [some (.ref 158), some (.int (iI x1))]) (st' := [.int (iI x1), .ref 158]) rfl ?_
  refine wp_cv (As := [.int (iI x1)]) (rest := []) rfl rfl (S.cell 158 (nc rfl)) (by decide) rfl rfl rfl (Nat.le_of_ble_eq_true rfl) (Nat.le_of_ble_eq_true rfl) (hW _ S) (fun r1 H1 q1 => ?_)
  obtain ⟨v1, m1, γ1, t1, rfl, hv1, S, hW⟩ := q1
  show wp _ _ _ _ _ [.int (iI v1)] _ _
  refine wp_ifI (a := v1) rfl rfl hv1.1 hv1.2 (fun c2 => ?_) (fun c2 => ?_)
  · have dc2 := c2
    have hW := hW.2 dc2
    refine wp_g (n := 1) (pc' := 12) (L' := [some (.ref 158), some (.int (iI x1))]) (st' := [.ref 158]) rfl ?_
    refine wp_cv (As := []) (rest := []) rfl rfl (S.cell 158 (nc rfl)) (by decide) rfl rfl rfl (Nat.le_of_ble_eq_true rfl) (Nat.le_of_ble_eq_true rfl) (hW _ S) (fun r3 H3 q3 => ?_)
    obtain ⟨m3, γ3, t3, rfl, S, hW⟩ := q3
    show wp _ _ _ _ _ [] _ _
    refine wp_g (n := 3) (pc' := 18) (L' := [some (.ref 158), some (.int (iI x1))]) (st' := [.ref 158, .int (iI x1), .ref 158]) rfl ?_
    refine wp_cv (As := []) (rest := [.int (iI x1), .ref 158]) rfl rfl (S.cell 158 (nc rfl)) (by decide) rfl rfl rfl (Nat.le_of_ble_eq_true rfl) (Nat.le_of_ble_eq_true rfl) (hW _ S) (fun r4 H4 q4 => ?_)
    obtain ⟨v4, m4, γ4, t4, rfl, hv4, S, hW⟩ := q4
    show wp _ _ _ _ _ [.int (iI v4), .int (iI x1), .ref 158] _ _
    refine wp_cv (As := [.int (iI x1), .int (iI v4)]) (rest := []) rfl rfl (S.cell 158 (nc rfl)) (by decide) rfl rfl rfl (Nat.le_of_ble_eq_true rfl) (Nat.le_of_ble_eq_true rfl) (hW _ S) (fun r5 H5 q5 => ?_)
    obtain ⟨v5, m5, γ5, t5, rfl, hv5, S, hW⟩ := q5
    show wp _ _ _ _ _ [.int (iI v5)] _ _
    exact wp_iret rfl rfl ⟨_, _, _, _, rfl, hv5, S, hW⟩
  · have dc2 := (Classical.not_not.mp c2)
    have hW := hW.1 dc2
    refine wp_g (n := 1) (pc' := 10) (L' := [some (.ref 158), some (.int (iI x1))]) (st' := [.int (iI (-2))]) rfl ?_
    exact wp_iret rfl rfl ⟨_, _, _, _, rfl, (by decide), S, hW⟩
def hd_X9_olds_2 (E : am_E) (k : Nat) (y1 : Int) (m : MM) (γ : GM) (t : am_H) (Q : MM → GM → am_H → Prop) : Prop := TT (pV Q) E (k + 1) 293 2 [some (.ref 158), some (.int (iI y1))] [] m γ t
abbrev W_X9_olds (E : am_E) (k : Nat) (m : MM) (γ : GM) (t : am_H) (Q : MM → GM → am_H → Prop) : Prop := (hd_X9_olds_2 E k 0 m γ t Q)
abbrev W_X9_olds_2 (E : am_E) (k : Nat) (y1 : Int) (m : MM) (γ : GM) (t : am_H) (Q : MM → GM → am_H → Prop) : Prop := (TI E k 203 [.ref 158] m γ t (fun v1 m1 γ1 t1 => (rJ (2 * v1) ∧ (((y1 < (2 * v1)) → ((0 ≤ y1 ∧ y1 < 32) ∧ ((((m1 165 ((y1).toNat)) = (-1)) → ((0 ≤ y1 ∧ y1 < 32) ∧ (hd_X9_olds_2 E k (y1 + 1) (up m1 192 (up (m1 192) ((y1).toNat) (-1))) γ1 t1 Q))) ∧ (¬ ((m1 165 ((y1).toNat)) = (-1)) → ((0 ≤ y1 ∧ y1 < 32) ∧ ((0 ≤ (m1 165 ((y1).toNat)) ∧ (m1 165 ((y1).toNat)) < 24) ∧ ((0 ≤ y1 ∧ y1 < 32) ∧ (hd_X9_olds_2 E k (y1 + 1) (up m1 192 (up (m1 192) ((y1).toNat) (m1 162 (((m1 165 ((y1).toNat))).toNat)))) γ1 t1 Q)))))))) ∧ (¬ (y1 < (2 * v1)) → (Q m1 γ1 t1))))))
theorem vc_X9_olds {E : am_E} {k : Nat} {m : MM} {γ : GM} {t : am_H} {Q : MM → GM → am_H → Prop} (hW : W_X9_olds E k  m γ t Q) : TV E (k + 1) 293 [.ref 158] m γ t Q := by
  unfold W_X9_olds at hW
  intro h S
  refine wp_g (n := 2) (pc' := 2) (L' := [some (.ref 158), some (.int (iI 0))]) (st' := []) rfl ?_
  exact hW _ S
theorem vc_X9_olds_2 {E : am_E} {k : Nat} {y1 : Int} {m : MM} {γ : GM} {t : am_H} {Q : MM → GM → am_H → Prop} (hy1 : rJ y1) (hW : W_X9_olds_2 E k y1 m γ t Q) : hd_X9_olds_2 E k y1 m γ t Q := by
  unfold W_X9_olds_2 at hW
  intro h S
  refine wp_g (n := 3) (pc' := 5) (L' := [some (.ref 158), some (.int (iI y1))]) (st' := [.ref 158, .int (iI 2), .int (iI y1)]) rfl ?_
  refine wp_cv (As := []) (rest := [.int (iI 2), .int (iI y1)]) rfl rfl (S.cell 158 (nc rfl)) (by decide) rfl rfl rfl (Nat.le_of_ble_eq_true rfl) (Nat.le_of_ble_eq_true rfl) (hW _ S) (fun r1 H1 q1 => ?_)
  obtain ⟨v1, m1, γ1, t1, rfl, hv1, S, hW⟩ := q1
  show wp _ _ _ _ _ [.int (iI v1), .int (iI 2), .int (iI y1)] _ _
  refine wp_mul (a := 2) (b := v1) rfl ?_
  obtain ⟨p2, hW⟩ := hW
  refine wp_icmpI (a := y1) (b := (2 * v1)) rfl rfl hy1.1 hy1.2 p2.1 p2.2 (fun c3 => ?_) (fun c3 => ?_)
  · have dc3 := (Int.not_lt.mpr c3)
    have hW := hW.2 dc3
    exact wp_vret rfl rfl ⟨_, _, _, rfl, S, hW⟩
  · have dc3 := (Int.not_le.mp c3)
    have hW := hW.1 dc3
    refine wp_g (n := 1) (pc' := 13) (L' := [some (.ref 158), some (.int (iI y1))]) (st' := [.ref 158]) rfl ?_
    refine wp_getf (v := .ref 192) rfl rfl (S.cell 158 (nc rfl)) (by decide) rfl ?_
    refine wp_g (n := 2) (pc' := 18) (L' := [some (.ref 158), some (.int (iI y1))]) (st' := [.ref 158, .int (iI y1), .ref 192]) rfl ?_
    refine wp_getf (v := .ref 165) rfl rfl (S.cell 158 (nc rfl)) (by decide) rfl ?_
    refine wp_g (n := 1) (pc' := 22) (L' := [some (.ref 158), some (.int (iI y1))]) (st' := [.int (iI y1), .ref 165, .int (iI y1), .ref 192]) rfl ?_
    obtain ⟨p4, hW⟩ := hW
    refine wp_iald (n := 32) (F := (m1 165)) rfl (S.cell 165 (nc rfl)) (by decide) p4.1 p4.2 (by decide) ?_
    show wp _ _ _ _ _ [.int (iI (m1 165 ((y1).toNat))), .int (iI y1), .ref 192] _ _
    have hr5 : rJ (m1 165 ((y1).toNat)) := S.rg 165 ((y1).toNat) (nl rfl)
    refine wp_g (n := 1) (pc' := 24) (L' := [some (.ref 158), some (.int (iI y1))]) (st' := [.int (iI (-1)), .int (iI (m1 165 ((y1).toNat))), .int (iI y1), .ref 192]) rfl ?_
    refine wp_icmpI (a := (m1 165 ((y1).toNat))) (b := (-1)) rfl rfl hr5.1 hr5.2 (by decide) (by decide) (fun c6 => ?_) (fun c6 => ?_)
    · have dc6 := c6
      have hW := hW.2 dc6
      refine wp_g (n := 1) (pc' := 32) (L' := [some (.ref 158), some (.int (iI y1))]) (st' := [.ref 158, .int (iI y1), .ref 192]) rfl ?_
      refine wp_getf (v := .ref 162) rfl rfl (S.cell 158 (nc rfl)) (by decide) rfl ?_
      refine wp_g (n := 1) (pc' := 36) (L' := [some (.ref 158), some (.int (iI y1))]) (st' := [.ref 158, .ref 162, .int (iI y1), .ref 192]) rfl ?_
      refine wp_getf (v := .ref 165) rfl rfl (S.cell 158 (nc rfl)) (by decide) rfl ?_
      refine wp_g (n := 1) (pc' := 40) (L' := [some (.ref 158), some (.int (iI y1))]) (st' := [.int (iI y1), .ref 165, .ref 162, .int (iI y1), .ref 192]) rfl ?_
      obtain ⟨p7, hW⟩ := hW
      refine wp_iald (n := 32) (F := (m1 165)) rfl (S.cell 165 (nc rfl)) (by decide) p7.1 p7.2 (by decide) ?_
      show wp _ _ _ _ _ [.int (iI (m1 165 ((y1).toNat))), .ref 162, .int (iI y1), .ref 192] _ _
      obtain ⟨p8, hW⟩ := hW
      refine wp_iald (n := 24) (F := (m1 162)) rfl (S.cell 162 (nc rfl)) (by decide) p8.1 p8.2 (by decide) ?_
      show wp _ _ _ _ _ [.int (iI (m1 162 (((m1 165 ((y1).toNat))).toNat))), .int (iI y1), .ref 192] _ _
      have hr9 : rJ (m1 162 (((m1 165 ((y1).toNat))).toNat)) := S.rg 162 (((m1 165 ((y1).toNat))).toNat) (nl rfl)
      obtain ⟨p11, hW⟩ := hW
      refine wp_iasF (n := 32) (F := (m1 192)) (y := (m1 162 (((m1 165 ((y1).toNat))).toNat))) rfl (S.cell 192 (nc rfl)) p11.1 p11.2 (by decide) (fun H10 hl10 hz10 hf10 => ?_)
      have S : ST H10 (up m1 192 (up (m1 192) ((y1).toNat) (m1 162 (((m1 165 ((y1).toNat))).toNat)))) γ1 t1 := S.setI 192 (nc rfl) hl10 hz10 hf10 hr9.1 hr9.2
      refine wp_iinc (L' := [some (.ref 158), some (.int (iI (y1 + 1)))]) (a := y1) rfl rfl rfl ?_
      refine wp_g (n := 1) (pc' := 2) (L' := [some (.ref 158), some (.int (iI (y1 + 1)))]) (st' := []) rfl ?_
      exact hW _ S
    · have dc6 := (Classical.not_not.mp c6)
      have hW := hW.1 dc6
      refine wp_g (n := 2) (pc' := 42) (L' := [some (.ref 158), some (.int (iI y1))]) (st' := [.int (iI (-1)), .int (iI y1), .ref 192]) rfl ?_
      obtain ⟨p13, hW⟩ := hW
      refine wp_iasF (n := 32) (F := (m1 192)) (y := (-1)) rfl (S.cell 192 (nc rfl)) p13.1 p13.2 (by decide) (fun H12 hl12 hz12 hf12 => ?_)
      have S : ST H12 (up m1 192 (up (m1 192) ((y1).toNat) (-1))) γ1 t1 := S.setI 192 (nc rfl) hl12 hz12 hf12 (by decide) (by decide)
      refine wp_iinc (L' := [some (.ref 158), some (.int (iI (y1 + 1)))]) (a := y1) rfl rfl rfl ?_
      refine wp_g (n := 1) (pc' := 2) (L' := [some (.ref 158), some (.int (iI (y1 + 1)))]) (st' := []) rfl ?_
      exact hW _ S
def hd_X9_turns_22 (E : am_E) (k : Nat) (y1 : Int) (y2 : Int) (y3 : Int) (m : MM) (γ : GM) (t : am_H) (Q : MM → GM → am_H → Prop) : Prop := ∀ (z4 z5 : Option Value), TT (pV Q) E (k + 1) 294 22 [some (.ref 158), some (.int (iI y1)), some (.int (iI y2)), some (.int (iI y3)), z4, z5] [] m γ t
abbrev W_X9_turns (E : am_E) (k : Nat) (m : MM) (γ : GM) (t : am_H) (Q : MM → GM → am_H → Prop) : Prop := (TV E k 293 [.ref 158] m γ t (fun m1 γ1 t1 => (TV E k 200 [.ref 158, .int (iI (m1 158 5)), .int (iI (m1 158 4))] m1 γ1 t1 (fun m4 γ4 t4 => (hd_X9_turns_22 E k (m1 158 4) (m1 158 5) 0 m4 γ4 t4 Q)))))
abbrev W_X9_turns_22 (E : am_E) (k : Nat) (y1 : Int) (y2 : Int) (y3 : Int) (m : MM) (γ : GM) (t : am_H) (Q : MM → GM → am_H → Prop) : Prop := (((y3 < (m 158 6)) → ((0 ≤ y3 ∧ y3 < 24) ∧ (0 ≤ (m 163 ((y3).toNat)) ∧ (0 < (m 158 5) ∧ ((0 ≤ y3 ∧ y3 < 24) ∧ (0 ≤ (m 163 ((y3).toNat)) ∧ (0 < (m 158 5) ∧ ((0 ≤ y3 ∧ y3 < 24) ∧ ((((m 164 ((y3).toNat)) = 1) → ((0 ≤ (2 * ((((y1 - 1) - ((m 163 ((y3).toNat)) % (m 158 5))) * y2) + ((m 163 ((y3).toNat)) / (m 158 5)))) ∧ (2 * ((((y1 - 1) - ((m 163 ((y3).toNat)) % (m 158 5))) * y2) + ((m 163 ((y3).toNat)) / (m 158 5)))) < 32) ∧ ((0 ≤ y3 ∧ y3 < 24) ∧ (hd_X9_turns_22 E k y1 y2 (y3 + 1) (up m 162 (up (m 162) ((y3).toNat) (m 192 (((2 * ((((y1 - 1) - ((m 163 ((y3).toNat)) % (m 158 5))) * y2) + ((m 163 ((y3).toNat)) / (m 158 5))))).toNat)))) γ t Q)))) ∧ (¬ ((m 164 ((y3).toNat)) = 1) → ((0 ≤ ((2 * (((((y1 - 1) - ((m 163 ((y3).toNat)) % (m 158 5))) - 1) * y2) + ((m 163 ((y3).toNat)) / (m 158 5)))) + 1) ∧ ((2 * (((((y1 - 1) - ((m 163 ((y3).toNat)) % (m 158 5))) - 1) * y2) + ((m 163 ((y3).toNat)) / (m 158 5)))) + 1) < 32) ∧ ((0 ≤ y3 ∧ y3 < 24) ∧ (hd_X9_turns_22 E k y1 y2 (y3 + 1) (up m 162 (up (m 162) ((y3).toNat) (m 192 ((((2 * (((((y1 - 1) - ((m 163 ((y3).toNat)) % (m 158 5))) - 1) * y2) + ((m 163 ((y3).toNat)) / (m 158 5)))) + 1)).toNat)))) γ t Q))))))))))))) ∧ (¬ (y3 < (m 158 6)) → (Q m γ t)))
theorem vc_X9_turns {E : am_E} {k : Nat} {m : MM} {γ : GM} {t : am_H} {Q : MM → GM → am_H → Prop} (hW : W_X9_turns E k  m γ t Q) : TV E (k + 1) 294 [.ref 158] m γ t Q := by
  unfold W_X9_turns at hW
  intro h S
  refine wp_g (n := 1) (pc' := 1) (L' := [some (.ref 158), none, none, none, none, none]) (st' := [.ref 158]) rfl ?_
  refine wp_cv (As := []) (rest := []) rfl rfl (S.cell 158 (nc rfl)) (by decide) rfl rfl rfl (Nat.le_of_ble_eq_true rfl) (Nat.le_of_ble_eq_true rfl) (hW _ S) (fun r1 H1 q1 => ?_)
  obtain ⟨m1, γ1, t1, rfl, S, hW⟩ := q1
  show wp _ _ _ _ _ [] _ _
  refine wp_g (n := 1) (pc' := 5) (L' := [some (.ref 158), none, none, none, none, none]) (st' := [.ref 158]) rfl ?_
  refine wp_getf (v := .int (iI (m1 158 4))) rfl rfl (S.cell 158 (nc rfl)) (by decide) rfl ?_
  have hr2 : rJ (m1 158 4) := S.rg 158 4 (nl rfl)
  refine wp_g (n := 2) (pc' := 10) (L' := [some (.ref 158), some (.int (iI (m1 158 4))), none, none, none, none]) (st' := [.ref 158]) rfl ?_
  refine wp_getf (v := .int (iI (m1 158 5))) rfl rfl (S.cell 158 (nc rfl)) (by decide) rfl ?_
  have hr3 : rJ (m1 158 5) := S.rg 158 5 (nl rfl)
  refine wp_g (n := 4) (pc' := 17) (L' := [some (.ref 158), some (.int (iI (m1 158 4))), some (.int (iI (m1 158 5))), none, none, none]) (st' := [.int (iI (m1 158 4)), .int (iI (m1 158 5)), .ref 158]) rfl ?_
  refine wp_cv (As := [.int (iI (m1 158 5)), .int (iI (m1 158 4))]) (rest := []) rfl rfl (S.cell 158 (nc rfl)) (by decide) rfl rfl rfl (Nat.le_of_ble_eq_true rfl) (Nat.le_of_ble_eq_true rfl) (hW _ S) (fun r4 H4 q4 => ?_)
  obtain ⟨m4, γ4, t4, rfl, S, hW⟩ := q4
  show wp _ _ _ _ _ [] _ _
  refine wp_g (n := 2) (pc' := 22) (L' := [some (.ref 158), some (.int (iI (m1 158 4))), some (.int (iI (m1 158 5))), some (.int (iI 0)), none, none]) (st' := []) rfl ?_
  exact hW none none _ S
theorem vc_X9_turns_22 {E : am_E} {k : Nat} {y1 : Int} {y2 : Int} {y3 : Int} {m : MM} {γ : GM} {t : am_H} {Q : MM → GM → am_H → Prop} (hy1 : rJ y1) (hy2 : rJ y2) (hy3 : rJ y3) (hW : W_X9_turns_22 E k y1 y2 y3 m γ t Q) : hd_X9_turns_22 E k y1 y2 y3 m γ t Q := by
  unfold W_X9_turns_22 at hW
  intro z4 z5 h S
  refine wp_g (n := 2) (pc' := 24) (L' := [some (.ref 158), some (.int (iI y1)), some (.int (iI y2)), some (.int (iI y3)), z4, z5]) (st' := [.ref 158, .int (iI y3)]) rfl ?_
  refine wp_getf (v := .int (iI (m 158 6))) rfl rfl (S.cell 158 (nc rfl)) (by decide) rfl ?_
  have hr1 : rJ (m 158 6) := S.rg 158 6 (nl rfl)
  refine wp_icmpI (a := y3) (b := (m 158 6)) rfl rfl hy3.1 hy3.2 hr1.1 hr1.2 (fun c2 => ?_) (fun c2 => ?_)
  · have dc2 := (Int.not_lt.mpr c2)
    have hW := hW.2 dc2
    exact wp_vret rfl rfl ⟨_, _, _, rfl, S, hW⟩
  · have dc2 := (Int.not_le.mp c2)
    have hW := hW.1 dc2
    refine wp_g (n := 1) (pc' := 31) (L' := [some (.ref 158), some (.int (iI y1)), some (.int (iI y2)), some (.int (iI y3)), z4, z5]) (st' := [.ref 158]) rfl ?_
    refine wp_getf (v := .ref 163) rfl rfl (S.cell 158 (nc rfl)) (by decide) rfl ?_
    refine wp_g (n := 1) (pc' := 35) (L' := [some (.ref 158), some (.int (iI y1)), some (.int (iI y2)), some (.int (iI y3)), z4, z5]) (st' := [.int (iI y3), .ref 163]) rfl ?_
    obtain ⟨p3, hW⟩ := hW
    refine wp_iald (n := 24) (F := (m 163)) rfl (S.cell 163 (nc rfl)) (by decide) p3.1 p3.2 (by decide) ?_
    show wp _ _ _ _ _ [.int (iI (m 163 ((y3).toNat)))] _ _
    have hr4 : rJ (m 163 ((y3).toNat)) := S.rg 163 ((y3).toNat) (nl rfl)
    refine wp_g (n := 1) (pc' := 37) (L' := [some (.ref 158), some (.int (iI y1)), some (.int (iI y2)), some (.int (iI y3)), z4, z5]) (st' := [.ref 158, .int (iI (m 163 ((y3).toNat)))]) rfl ?_
    refine wp_getf (v := .int (iI (m 158 5))) rfl rfl (S.cell 158 (nc rfl)) (by decide) rfl ?_
    have hr5 : rJ (m 158 5) := S.rg 158 5 (nl rfl)
    obtain ⟨p6, hW⟩ := hW
    obtain ⟨p7, hW⟩ := hW
    refine wp_div (a := (m 163 ((y3).toNat))) (b := (m 158 5)) rfl p6 hr4.2 p7 hr5.2 ?_
    refine wp_g (n := 3) (pc' := 45) (L' := [some (.ref 158), some (.int (iI y1)), some (.int (iI y2)), some (.int (iI y3)), some (.int (iI ((m 163 ((y3).toNat)) / (m 158 5)))), z5]) (st' := [.int (iI 1), .int (iI y1)]) rfl ?_
    refine wp_sub (a := y1) (b := 1) rfl ?_
    refine wp_g (n := 1) (pc' := 47) (L' := [some (.ref 158), some (.int (iI y1)), some (.int (iI y2)), some (.int (iI y3)), some (.int (iI ((m 163 ((y3).toNat)) / (m 158 5)))), z5]) (st' := [.ref 158, .int (iI (y1 - 1))]) rfl ?_
    refine wp_getf (v := .ref 163) rfl rfl (S.cell 158 (nc rfl)) (by decide) rfl ?_
    refine wp_g (n := 1) (pc' := 51) (L' := [some (.ref 158), some (.int (iI y1)), some (.int (iI y2)), some (.int (iI y3)), some (.int (iI ((m 163 ((y3).toNat)) / (m 158 5)))), z5]) (st' := [.int (iI y3), .ref 163, .int (iI (y1 - 1))]) rfl ?_
    obtain ⟨p8, hW⟩ := hW
    refine wp_iald (n := 24) (F := (m 163)) rfl (S.cell 163 (nc rfl)) (by decide) p8.1 p8.2 (by decide) ?_
    show wp _ _ _ _ _ [.int (iI (m 163 ((y3).toNat))), .int (iI (y1 - 1))] _ _
    refine wp_g (n := 1) (pc' := 53) (L' := [some (.ref 158), some (.int (iI y1)), some (.int (iI y2)), some (.int (iI y3)), some (.int (iI ((m 163 ((y3).toNat)) / (m 158 5)))), z5]) (st' := [.ref 158, .int (iI (m 163 ((y3).toNat))), .int (iI (y1 - 1))]) rfl ?_
    refine wp_getf (v := .int (iI (m 158 5))) rfl rfl (S.cell 158 (nc rfl)) (by decide) rfl ?_
    obtain ⟨p9, hW⟩ := hW
    obtain ⟨p10, hW⟩ := hW
    refine wp_rem (a := (m 163 ((y3).toNat))) (b := (m 158 5)) rfl p9 hr4.2 p10 hr5.2 ?_
    refine wp_sub (a := (y1 - 1)) (b := ((m 163 ((y3).toNat)) % (m 158 5))) rfl ?_
    refine wp_g (n := 2) (pc' := 61) (L' := [some (.ref 158), some (.int (iI y1)), some (.int (iI y2)), some (.int (iI y3)), some (.int (iI ((m 163 ((y3).toNat)) / (m 158 5)))), some (.int (iI ((y1 - 1) - ((m 163 ((y3).toNat)) % (m 158 5)))))]) (st' := [.ref 158]) rfl ?_
    refine wp_getf (v := .ref 162) rfl rfl (S.cell 158 (nc rfl)) (by decide) rfl ?_
    refine wp_g (n := 2) (pc' := 66) (L' := [some (.ref 158), some (.int (iI y1)), some (.int (iI y2)), some (.int (iI y3)), some (.int (iI ((m 163 ((y3).toNat)) / (m 158 5)))), some (.int (iI ((y1 - 1) - ((m 163 ((y3).toNat)) % (m 158 5)))))]) (st' := [.ref 158, .int (iI y3), .ref 162]) rfl ?_
    refine wp_getf (v := .ref 164) rfl rfl (S.cell 158 (nc rfl)) (by decide) rfl ?_
    refine wp_g (n := 1) (pc' := 70) (L' := [some (.ref 158), some (.int (iI y1)), some (.int (iI y2)), some (.int (iI y3)), some (.int (iI ((m 163 ((y3).toNat)) / (m 158 5)))), some (.int (iI ((y1 - 1) - ((m 163 ((y3).toNat)) % (m 158 5)))))]) (st' := [.int (iI y3), .ref 164, .int (iI y3), .ref 162]) rfl ?_
    obtain ⟨p11, hW⟩ := hW
    refine wp_iald (n := 24) (F := (m 164)) rfl (S.cell 164 (nc rfl)) (by decide) p11.1 p11.2 (by decide) ?_
    show wp _ _ _ _ _ [.int (iI (m 164 ((y3).toNat))), .int (iI y3), .ref 162] _ _
    have hr12 : rJ (m 164 ((y3).toNat)) := S.rg 164 ((y3).toNat) (nl rfl)
    refine wp_g (n := 1) (pc' := 72) (L' := [some (.ref 158), some (.int (iI y1)), some (.int (iI y2)), some (.int (iI y3)), some (.int (iI ((m 163 ((y3).toNat)) / (m 158 5)))), some (.int (iI ((y1 - 1) - ((m 163 ((y3).toNat)) % (m 158 5)))))]) (st' := [.int (iI 1), .int (iI (m 164 ((y3).toNat))), .int (iI y3), .ref 162]) rfl ?_
    refine wp_icmpI (a := (m 164 ((y3).toNat))) (b := 1) rfl rfl hr12.1 hr12.2 (by decide) (by decide) (fun c13 => ?_) (fun c13 => ?_)
    · have dc13 := c13
      have hW := hW.2 dc13
      refine wp_g (n := 1) (pc' := 93) (L' := [some (.ref 158), some (.int (iI y1)), some (.int (iI y2)), some (.int (iI y3)), some (.int (iI ((m 163 ((y3).toNat)) / (m 158 5)))), some (.int (iI ((y1 - 1) - ((m 163 ((y3).toNat)) % (m 158 5)))))]) (st' := [.ref 158, .int (iI y3), .ref 162]) rfl ?_
      refine wp_getf (v := .ref 192) rfl rfl (S.cell 158 (nc rfl)) (by decide) rfl ?_
      refine wp_g (n := 3) (pc' := 100) (L' := [some (.ref 158), some (.int (iI y1)), some (.int (iI y2)), some (.int (iI y3)), some (.int (iI ((m 163 ((y3).toNat)) / (m 158 5)))), some (.int (iI ((y1 - 1) - ((m 163 ((y3).toNat)) % (m 158 5)))))]) (st' := [.int (iI 1), .int (iI ((y1 - 1) - ((m 163 ((y3).toNat)) % (m 158 5)))), .int (iI 2), .ref 192, .int (iI y3), .ref 162]) rfl ?_
      refine wp_sub (a := ((y1 - 1) - ((m 163 ((y3).toNat)) % (m 158 5)))) (b := 1) rfl ?_
      refine wp_g (n := 1) (pc' := 102) (L' := [some (.ref 158), some (.int (iI y1)), some (.int (iI y2)), some (.int (iI y3)), some (.int (iI ((m 163 ((y3).toNat)) / (m 158 5)))), some (.int (iI ((y1 - 1) - ((m 163 ((y3).toNat)) % (m 158 5)))))]) (st' := [.int (iI y2), .int (iI (((y1 - 1) - ((m 163 ((y3).toNat)) % (m 158 5))) - 1)), .int (iI 2), .ref 192, .int (iI y3), .ref 162]) rfl ?_
      refine wp_mul (a := (((y1 - 1) - ((m 163 ((y3).toNat)) % (m 158 5))) - 1)) (b := y2) rfl ?_
      refine wp_g (n := 1) (pc' := 105) (L' := [some (.ref 158), some (.int (iI y1)), some (.int (iI y2)), some (.int (iI y3)), some (.int (iI ((m 163 ((y3).toNat)) / (m 158 5)))), some (.int (iI ((y1 - 1) - ((m 163 ((y3).toNat)) % (m 158 5)))))]) (st' := [.int (iI ((m 163 ((y3).toNat)) / (m 158 5))), .int (iI ((((y1 - 1) - ((m 163 ((y3).toNat)) % (m 158 5))) - 1) * y2)), .int (iI 2), .ref 192, .int (iI y3), .ref 162]) rfl ?_
      refine wp_add (a := ((((y1 - 1) - ((m 163 ((y3).toNat)) % (m 158 5))) - 1) * y2)) (b := ((m 163 ((y3).toNat)) / (m 158 5))) rfl ?_
      refine wp_mul (a := 2) (b := (((((y1 - 1) - ((m 163 ((y3).toNat)) % (m 158 5))) - 1) * y2) + ((m 163 ((y3).toNat)) / (m 158 5)))) rfl ?_
      refine wp_g (n := 1) (pc' := 108) (L' := [some (.ref 158), some (.int (iI y1)), some (.int (iI y2)), some (.int (iI y3)), some (.int (iI ((m 163 ((y3).toNat)) / (m 158 5)))), some (.int (iI ((y1 - 1) - ((m 163 ((y3).toNat)) % (m 158 5)))))]) (st' := [.int (iI 1), .int (iI (2 * (((((y1 - 1) - ((m 163 ((y3).toNat)) % (m 158 5))) - 1) * y2) + ((m 163 ((y3).toNat)) / (m 158 5))))), .ref 192, .int (iI y3), .ref 162]) rfl ?_
      refine wp_add (a := (2 * (((((y1 - 1) - ((m 163 ((y3).toNat)) % (m 158 5))) - 1) * y2) + ((m 163 ((y3).toNat)) / (m 158 5))))) (b := 1) rfl ?_
      obtain ⟨p14, hW⟩ := hW
      refine wp_iald (n := 32) (F := (m 192)) rfl (S.cell 192 (nc rfl)) (by decide) p14.1 p14.2 (by decide) ?_
      show wp _ _ _ _ _ [.int (iI (m 192 ((((2 * (((((y1 - 1) - ((m 163 ((y3).toNat)) % (m 158 5))) - 1) * y2) + ((m 163 ((y3).toNat)) / (m 158 5)))) + 1)).toNat))), .int (iI y3), .ref 162] _ _
      have hr15 : rJ (m 192 ((((2 * (((((y1 - 1) - ((m 163 ((y3).toNat)) % (m 158 5))) - 1) * y2) + ((m 163 ((y3).toNat)) / (m 158 5)))) + 1)).toNat)) := S.rg 192 ((((2 * (((((y1 - 1) - ((m 163 ((y3).toNat)) % (m 158 5))) - 1) * y2) + ((m 163 ((y3).toNat)) / (m 158 5)))) + 1)).toNat) (nl rfl)
      obtain ⟨p17, hW⟩ := hW
      refine wp_iasF (n := 24) (F := (m 162)) (y := (m 192 ((((2 * (((((y1 - 1) - ((m 163 ((y3).toNat)) % (m 158 5))) - 1) * y2) + ((m 163 ((y3).toNat)) / (m 158 5)))) + 1)).toNat))) rfl (S.cell 162 (nc rfl)) p17.1 p17.2 (by decide) (fun H16 hl16 hz16 hf16 => ?_)
      have S : ST H16 (up m 162 (up (m 162) ((y3).toNat) (m 192 ((((2 * (((((y1 - 1) - ((m 163 ((y3).toNat)) % (m 158 5))) - 1) * y2) + ((m 163 ((y3).toNat)) / (m 158 5)))) + 1)).toNat)))) γ t := S.setI 162 (nc rfl) hl16 hz16 hf16 hr15.1 hr15.2
      refine wp_iinc (L' := [some (.ref 158), some (.int (iI y1)), some (.int (iI y2)), some (.int (iI (y3 + 1))), some (.int (iI ((m 163 ((y3).toNat)) / (m 158 5)))), some (.int (iI ((y1 - 1) - ((m 163 ((y3).toNat)) % (m 158 5)))))]) (a := y3) rfl rfl rfl ?_
      refine wp_g (n := 1) (pc' := 22) (L' := [some (.ref 158), some (.int (iI y1)), some (.int (iI y2)), some (.int (iI (y3 + 1))), some (.int (iI ((m 163 ((y3).toNat)) / (m 158 5)))), some (.int (iI ((y1 - 1) - ((m 163 ((y3).toNat)) % (m 158 5)))))]) (st' := []) rfl ?_
      exact hW (some (.int (iI ((m 163 ((y3).toNat)) / (m 158 5))))) (some (.int (iI ((y1 - 1) - ((m 163 ((y3).toNat)) % (m 158 5)))))) _ S
    · have dc13 := (Classical.not_not.mp c13)
      have hW := hW.1 dc13
      refine wp_g (n := 1) (pc' := 76) (L' := [some (.ref 158), some (.int (iI y1)), some (.int (iI y2)), some (.int (iI y3)), some (.int (iI ((m 163 ((y3).toNat)) / (m 158 5)))), some (.int (iI ((y1 - 1) - ((m 163 ((y3).toNat)) % (m 158 5)))))]) (st' := [.ref 158, .int (iI y3), .ref 162]) rfl ?_
      refine wp_getf (v := .ref 192) rfl rfl (S.cell 158 (nc rfl)) (by decide) rfl ?_
      refine wp_g (n := 3) (pc' := 83) (L' := [some (.ref 158), some (.int (iI y1)), some (.int (iI y2)), some (.int (iI y3)), some (.int (iI ((m 163 ((y3).toNat)) / (m 158 5)))), some (.int (iI ((y1 - 1) - ((m 163 ((y3).toNat)) % (m 158 5)))))]) (st' := [.int (iI y2), .int (iI ((y1 - 1) - ((m 163 ((y3).toNat)) % (m 158 5)))), .int (iI 2), .ref 192, .int (iI y3), .ref 162]) rfl ?_
      refine wp_mul (a := ((y1 - 1) - ((m 163 ((y3).toNat)) % (m 158 5)))) (b := y2) rfl ?_
      refine wp_g (n := 1) (pc' := 86) (L' := [some (.ref 158), some (.int (iI y1)), some (.int (iI y2)), some (.int (iI y3)), some (.int (iI ((m 163 ((y3).toNat)) / (m 158 5)))), some (.int (iI ((y1 - 1) - ((m 163 ((y3).toNat)) % (m 158 5)))))]) (st' := [.int (iI ((m 163 ((y3).toNat)) / (m 158 5))), .int (iI (((y1 - 1) - ((m 163 ((y3).toNat)) % (m 158 5))) * y2)), .int (iI 2), .ref 192, .int (iI y3), .ref 162]) rfl ?_
      refine wp_add (a := (((y1 - 1) - ((m 163 ((y3).toNat)) % (m 158 5))) * y2)) (b := ((m 163 ((y3).toNat)) / (m 158 5))) rfl ?_
      refine wp_mul (a := 2) (b := ((((y1 - 1) - ((m 163 ((y3).toNat)) % (m 158 5))) * y2) + ((m 163 ((y3).toNat)) / (m 158 5)))) rfl ?_
      obtain ⟨p18, hW⟩ := hW
      refine wp_iald (n := 32) (F := (m 192)) rfl (S.cell 192 (nc rfl)) (by decide) p18.1 p18.2 (by decide) ?_
      show wp _ _ _ _ _ [.int (iI (m 192 (((2 * ((((y1 - 1) - ((m 163 ((y3).toNat)) % (m 158 5))) * y2) + ((m 163 ((y3).toNat)) / (m 158 5))))).toNat))), .int (iI y3), .ref 162] _ _
      have hr19 : rJ (m 192 (((2 * ((((y1 - 1) - ((m 163 ((y3).toNat)) % (m 158 5))) * y2) + ((m 163 ((y3).toNat)) / (m 158 5))))).toNat)) := S.rg 192 (((2 * ((((y1 - 1) - ((m 163 ((y3).toNat)) % (m 158 5))) * y2) + ((m 163 ((y3).toNat)) / (m 158 5))))).toNat) (nl rfl)
      refine wp_g (n := 1) (pc' := 110) (L' := [some (.ref 158), some (.int (iI y1)), some (.int (iI y2)), some (.int (iI y3)), some (.int (iI ((m 163 ((y3).toNat)) / (m 158 5)))), some (.int (iI ((y1 - 1) - ((m 163 ((y3).toNat)) % (m 158 5)))))]) (st' := [.int (iI (m 192 (((2 * ((((y1 - 1) - ((m 163 ((y3).toNat)) % (m 158 5))) * y2) + ((m 163 ((y3).toNat)) / (m 158 5))))).toNat))), .int (iI y3), .ref 162]) rfl ?_
      obtain ⟨p21, hW⟩ := hW
      refine wp_iasF (n := 24) (F := (m 162)) (y := (m 192 (((2 * ((((y1 - 1) - ((m 163 ((y3).toNat)) % (m 158 5))) * y2) + ((m 163 ((y3).toNat)) / (m 158 5))))).toNat))) rfl (S.cell 162 (nc rfl)) p21.1 p21.2 (by decide) (fun H20 hl20 hz20 hf20 => ?_)
      have S : ST H20 (up m 162 (up (m 162) ((y3).toNat) (m 192 (((2 * ((((y1 - 1) - ((m 163 ((y3).toNat)) % (m 158 5))) * y2) + ((m 163 ((y3).toNat)) / (m 158 5))))).toNat)))) γ t := S.setI 162 (nc rfl) hl20 hz20 hf20 hr19.1 hr19.2
      refine wp_iinc (L' := [some (.ref 158), some (.int (iI y1)), some (.int (iI y2)), some (.int (iI (y3 + 1))), some (.int (iI ((m 163 ((y3).toNat)) / (m 158 5)))), some (.int (iI ((y1 - 1) - ((m 163 ((y3).toNat)) % (m 158 5)))))]) (a := y3) rfl rfl rfl ?_
      refine wp_g (n := 1) (pc' := 22) (L' := [some (.ref 158), some (.int (iI y1)), some (.int (iI y2)), some (.int (iI (y3 + 1))), some (.int (iI ((m 163 ((y3).toNat)) / (m 158 5)))), some (.int (iI ((y1 - 1) - ((m 163 ((y3).toNat)) % (m 158 5)))))]) (st' := []) rfl ?_
      exact hW (some (.int (iI ((m 163 ((y3).toNat)) / (m 158 5))))) (some (.int (iI ((y1 - 1) - ((m 163 ((y3).toNat)) % (m 158 5)))))) _ S
def hd_X9_mirrors_6 (E : am_E) (k : Nat) (y1 : Int) (m : MM) (γ : GM) (t : am_H) (Q : MM → GM → am_H → Prop) : Prop := ∀ (z2 z3 : Option Value), TT (pV Q) E (k + 1) 295 6 [some (.ref 158), some (.int (iI y1)), z2, z3] [] m γ t
abbrev W_X9_mirrors (E : am_E) (k : Nat) (m : MM) (γ : GM) (t : am_H) (Q : MM → GM → am_H → Prop) : Prop := (TV E k 293 [.ref 158] m γ t (fun m1 γ1 t1 => (hd_X9_mirrors_6 E k 0 m1 γ1 t1 Q)))
abbrev W_X9_mirrors_6 (E : am_E) (k : Nat) (y1 : Int) (m : MM) (γ : GM) (t : am_H) (Q : MM → GM → am_H → Prop) : Prop := (((y1 < (m 158 6)) → ((0 ≤ y1 ∧ y1 < 24) ∧ (0 ≤ (m 163 ((y1).toNat)) ∧ (0 < (m 158 5) ∧ ((0 ≤ y1 ∧ y1 < 24) ∧ (0 ≤ (m 163 ((y1).toNat)) ∧ (0 < (m 158 5) ∧ ((0 ≤ y1 ∧ y1 < 24) ∧ ((((m 164 ((y1).toNat)) = 1) → ((0 ≤ ((2 * ((((m 163 ((y1).toNat)) / (m 158 5)) * (m 158 5)) + (((m 158 5) - 1) - ((m 163 ((y1).toNat)) % (m 158 5))))) + 1) ∧ ((2 * ((((m 163 ((y1).toNat)) / (m 158 5)) * (m 158 5)) + (((m 158 5) - 1) - ((m 163 ((y1).toNat)) % (m 158 5))))) + 1) < 32) ∧ ((0 ≤ y1 ∧ y1 < 24) ∧ (hd_X9_mirrors_6 E k (y1 + 1) (up m 162 (up (m 162) ((y1).toNat) (m 192 ((((2 * ((((m 163 ((y1).toNat)) / (m 158 5)) * (m 158 5)) + (((m 158 5) - 1) - ((m 163 ((y1).toNat)) % (m 158 5))))) + 1)).toNat)))) γ t Q)))) ∧ (¬ ((m 164 ((y1).toNat)) = 1) → ((0 ≤ (2 * (((((m 163 ((y1).toNat)) / (m 158 5)) * (m 158 5)) + (((m 158 5) - 1) - ((m 163 ((y1).toNat)) % (m 158 5)))) - 1)) ∧ (2 * (((((m 163 ((y1).toNat)) / (m 158 5)) * (m 158 5)) + (((m 158 5) - 1) - ((m 163 ((y1).toNat)) % (m 158 5)))) - 1)) < 32) ∧ ((0 ≤ y1 ∧ y1 < 24) ∧ (hd_X9_mirrors_6 E k (y1 + 1) (up m 162 (up (m 162) ((y1).toNat) (m 192 (((2 * (((((m 163 ((y1).toNat)) / (m 158 5)) * (m 158 5)) + (((m 158 5) - 1) - ((m 163 ((y1).toNat)) % (m 158 5)))) - 1))).toNat)))) γ t Q))))))))))))) ∧ (¬ (y1 < (m 158 6)) → (TV E k 291 [.ref 158] m γ t (fun m3 γ3 t3 => (Q m3 γ3 t3)))))
theorem vc_X9_mirrors {E : am_E} {k : Nat} {m : MM} {γ : GM} {t : am_H} {Q : MM → GM → am_H → Prop} (hW : W_X9_mirrors E k  m γ t Q) : TV E (k + 1) 295 [.ref 158] m γ t Q := by
  unfold W_X9_mirrors at hW
  intro h S
  refine wp_g (n := 1) (pc' := 1) (L' := [some (.ref 158), none, none, none]) (st' := [.ref 158]) rfl ?_
  refine wp_cv (As := []) (rest := []) rfl rfl (S.cell 158 (nc rfl)) (by decide) rfl rfl rfl (Nat.le_of_ble_eq_true rfl) (Nat.le_of_ble_eq_true rfl) (hW _ S) (fun r1 H1 q1 => ?_)
  obtain ⟨m1, γ1, t1, rfl, S, hW⟩ := q1
  show wp _ _ _ _ _ [] _ _
  refine wp_g (n := 2) (pc' := 6) (L' := [some (.ref 158), some (.int (iI 0)), none, none]) (st' := []) rfl ?_
  exact hW none none _ S
theorem vc_X9_mirrors_6 {E : am_E} {k : Nat} {y1 : Int} {m : MM} {γ : GM} {t : am_H} {Q : MM → GM → am_H → Prop} (hy1 : rJ y1) (hW : W_X9_mirrors_6 E k y1 m γ t Q) : hd_X9_mirrors_6 E k y1 m γ t Q := by
  unfold W_X9_mirrors_6 at hW
  intro z2 z3 h S
  refine wp_g (n := 2) (pc' := 8) (L' := [some (.ref 158), some (.int (iI y1)), z2, z3]) (st' := [.ref 158, .int (iI y1)]) rfl ?_
  refine wp_getf (v := .int (iI (m 158 6))) rfl rfl (S.cell 158 (nc rfl)) (by decide) rfl ?_
  have hr1 : rJ (m 158 6) := S.rg 158 6 (nl rfl)
  refine wp_icmpI (a := y1) (b := (m 158 6)) rfl rfl hy1.1 hy1.2 hr1.1 hr1.2 (fun c2 => ?_) (fun c2 => ?_)
  · have dc2 := (Int.not_lt.mpr c2)
    have hW := hW.2 dc2
    refine wp_g (n := 1) (pc' := 105) (L' := [some (.ref 158), some (.int (iI y1)), z2, z3]) (st' := [.ref 158]) rfl ?_
    refine wp_cv (As := []) (rest := []) rfl rfl (S.cell 158 (nc rfl)) (by decide) rfl rfl rfl (Nat.le_of_ble_eq_true rfl) (Nat.le_of_ble_eq_true rfl) (hW _ S) (fun r3 H3 q3 => ?_)
    obtain ⟨m3, γ3, t3, rfl, S, hW⟩ := q3
    show wp _ _ _ _ _ [] _ _
    exact wp_vret rfl rfl ⟨_, _, _, rfl, S, hW⟩
  · have dc2 := (Int.not_le.mp c2)
    have hW := hW.1 dc2
    refine wp_g (n := 1) (pc' := 15) (L' := [some (.ref 158), some (.int (iI y1)), z2, z3]) (st' := [.ref 158]) rfl ?_
    refine wp_getf (v := .ref 163) rfl rfl (S.cell 158 (nc rfl)) (by decide) rfl ?_
    refine wp_g (n := 1) (pc' := 19) (L' := [some (.ref 158), some (.int (iI y1)), z2, z3]) (st' := [.int (iI y1), .ref 163]) rfl ?_
    obtain ⟨p4, hW⟩ := hW
    refine wp_iald (n := 24) (F := (m 163)) rfl (S.cell 163 (nc rfl)) (by decide) p4.1 p4.2 (by decide) ?_
    show wp _ _ _ _ _ [.int (iI (m 163 ((y1).toNat)))] _ _
    have hr5 : rJ (m 163 ((y1).toNat)) := S.rg 163 ((y1).toNat) (nl rfl)
    refine wp_g (n := 1) (pc' := 21) (L' := [some (.ref 158), some (.int (iI y1)), z2, z3]) (st' := [.ref 158, .int (iI (m 163 ((y1).toNat)))]) rfl ?_
    refine wp_getf (v := .int (iI (m 158 5))) rfl rfl (S.cell 158 (nc rfl)) (by decide) rfl ?_
    have hr6 : rJ (m 158 5) := S.rg 158 5 (nl rfl)
    obtain ⟨p7, hW⟩ := hW
    obtain ⟨p8, hW⟩ := hW
    refine wp_div (a := (m 163 ((y1).toNat))) (b := (m 158 5)) rfl p7 hr5.2 p8 hr6.2 ?_
    refine wp_g (n := 2) (pc' := 27) (L' := [some (.ref 158), some (.int (iI y1)), some (.int (iI ((m 163 ((y1).toNat)) / (m 158 5)))), z3]) (st' := [.ref 158]) rfl ?_
    refine wp_getf (v := .int (iI (m 158 5))) rfl rfl (S.cell 158 (nc rfl)) (by decide) rfl ?_
    refine wp_g (n := 1) (pc' := 31) (L' := [some (.ref 158), some (.int (iI y1)), some (.int (iI ((m 163 ((y1).toNat)) / (m 158 5)))), z3]) (st' := [.int (iI 1), .int (iI (m 158 5))]) rfl ?_
    refine wp_sub (a := (m 158 5)) (b := 1) rfl ?_
    refine wp_g (n := 1) (pc' := 33) (L' := [some (.ref 158), some (.int (iI y1)), some (.int (iI ((m 163 ((y1).toNat)) / (m 158 5)))), z3]) (st' := [.ref 158, .int (iI ((m 158 5) - 1))]) rfl ?_
    refine wp_getf (v := .ref 163) rfl rfl (S.cell 158 (nc rfl)) (by decide) rfl ?_
    refine wp_g (n := 1) (pc' := 37) (L' := [some (.ref 158), some (.int (iI y1)), some (.int (iI ((m 163 ((y1).toNat)) / (m 158 5)))), z3]) (st' := [.int (iI y1), .ref 163, .int (iI ((m 158 5) - 1))]) rfl ?_
    obtain ⟨p9, hW⟩ := hW
    refine wp_iald (n := 24) (F := (m 163)) rfl (S.cell 163 (nc rfl)) (by decide) p9.1 p9.2 (by decide) ?_
    show wp _ _ _ _ _ [.int (iI (m 163 ((y1).toNat))), .int (iI ((m 158 5) - 1))] _ _
    refine wp_g (n := 1) (pc' := 39) (L' := [some (.ref 158), some (.int (iI y1)), some (.int (iI ((m 163 ((y1).toNat)) / (m 158 5)))), z3]) (st' := [.ref 158, .int (iI (m 163 ((y1).toNat))), .int (iI ((m 158 5) - 1))]) rfl ?_
    refine wp_getf (v := .int (iI (m 158 5))) rfl rfl (S.cell 158 (nc rfl)) (by decide) rfl ?_
    obtain ⟨p10, hW⟩ := hW
    obtain ⟨p11, hW⟩ := hW
    refine wp_rem (a := (m 163 ((y1).toNat))) (b := (m 158 5)) rfl p10 hr5.2 p11 hr6.2 ?_
    refine wp_sub (a := ((m 158 5) - 1)) (b := ((m 163 ((y1).toNat)) % (m 158 5))) rfl ?_
    refine wp_g (n := 2) (pc' := 46) (L' := [some (.ref 158), some (.int (iI y1)), some (.int (iI ((m 163 ((y1).toNat)) / (m 158 5)))), some (.int (iI (((m 158 5) - 1) - ((m 163 ((y1).toNat)) % (m 158 5)))))]) (st' := [.ref 158]) rfl ?_
    refine wp_getf (v := .ref 162) rfl rfl (S.cell 158 (nc rfl)) (by decide) rfl ?_
    refine wp_g (n := 2) (pc' := 51) (L' := [some (.ref 158), some (.int (iI y1)), some (.int (iI ((m 163 ((y1).toNat)) / (m 158 5)))), some (.int (iI (((m 158 5) - 1) - ((m 163 ((y1).toNat)) % (m 158 5)))))]) (st' := [.ref 158, .int (iI y1), .ref 162]) rfl ?_
    refine wp_getf (v := .ref 164) rfl rfl (S.cell 158 (nc rfl)) (by decide) rfl ?_
    refine wp_g (n := 1) (pc' := 55) (L' := [some (.ref 158), some (.int (iI y1)), some (.int (iI ((m 163 ((y1).toNat)) / (m 158 5)))), some (.int (iI (((m 158 5) - 1) - ((m 163 ((y1).toNat)) % (m 158 5)))))]) (st' := [.int (iI y1), .ref 164, .int (iI y1), .ref 162]) rfl ?_
    obtain ⟨p12, hW⟩ := hW
    refine wp_iald (n := 24) (F := (m 164)) rfl (S.cell 164 (nc rfl)) (by decide) p12.1 p12.2 (by decide) ?_
    show wp _ _ _ _ _ [.int (iI (m 164 ((y1).toNat))), .int (iI y1), .ref 162] _ _
    have hr13 : rJ (m 164 ((y1).toNat)) := S.rg 164 ((y1).toNat) (nl rfl)
    refine wp_g (n := 1) (pc' := 57) (L' := [some (.ref 158), some (.int (iI y1)), some (.int (iI ((m 163 ((y1).toNat)) / (m 158 5)))), some (.int (iI (((m 158 5) - 1) - ((m 163 ((y1).toNat)) % (m 158 5)))))]) (st' := [.int (iI 1), .int (iI (m 164 ((y1).toNat))), .int (iI y1), .ref 162]) rfl ?_
    refine wp_icmpI (a := (m 164 ((y1).toNat))) (b := 1) rfl rfl hr13.1 hr13.2 (by decide) (by decide) (fun c14 => ?_) (fun c14 => ?_)
    · have dc14 := c14
      have hW := hW.2 dc14
      refine wp_g (n := 1) (pc' := 81) (L' := [some (.ref 158), some (.int (iI y1)), some (.int (iI ((m 163 ((y1).toNat)) / (m 158 5)))), some (.int (iI (((m 158 5) - 1) - ((m 163 ((y1).toNat)) % (m 158 5)))))]) (st' := [.ref 158, .int (iI y1), .ref 162]) rfl ?_
      refine wp_getf (v := .ref 192) rfl rfl (S.cell 158 (nc rfl)) (by decide) rfl ?_
      refine wp_g (n := 3) (pc' := 87) (L' := [some (.ref 158), some (.int (iI y1)), some (.int (iI ((m 163 ((y1).toNat)) / (m 158 5)))), some (.int (iI (((m 158 5) - 1) - ((m 163 ((y1).toNat)) % (m 158 5)))))]) (st' := [.ref 158, .int (iI ((m 163 ((y1).toNat)) / (m 158 5))), .int (iI 2), .ref 192, .int (iI y1), .ref 162]) rfl ?_
      refine wp_getf (v := .int (iI (m 158 5))) rfl rfl (S.cell 158 (nc rfl)) (by decide) rfl ?_
      refine wp_mul (a := ((m 163 ((y1).toNat)) / (m 158 5))) (b := (m 158 5)) rfl ?_
      refine wp_g (n := 1) (pc' := 92) (L' := [some (.ref 158), some (.int (iI y1)), some (.int (iI ((m 163 ((y1).toNat)) / (m 158 5)))), some (.int (iI (((m 158 5) - 1) - ((m 163 ((y1).toNat)) % (m 158 5)))))]) (st' := [.int (iI (((m 158 5) - 1) - ((m 163 ((y1).toNat)) % (m 158 5)))), .int (iI (((m 163 ((y1).toNat)) / (m 158 5)) * (m 158 5))), .int (iI 2), .ref 192, .int (iI y1), .ref 162]) rfl ?_
      refine wp_add (a := (((m 163 ((y1).toNat)) / (m 158 5)) * (m 158 5))) (b := (((m 158 5) - 1) - ((m 163 ((y1).toNat)) % (m 158 5)))) rfl ?_
      refine wp_g (n := 1) (pc' := 94) (L' := [some (.ref 158), some (.int (iI y1)), some (.int (iI ((m 163 ((y1).toNat)) / (m 158 5)))), some (.int (iI (((m 158 5) - 1) - ((m 163 ((y1).toNat)) % (m 158 5)))))]) (st' := [.int (iI 1), .int (iI ((((m 163 ((y1).toNat)) / (m 158 5)) * (m 158 5)) + (((m 158 5) - 1) - ((m 163 ((y1).toNat)) % (m 158 5))))), .int (iI 2), .ref 192, .int (iI y1), .ref 162]) rfl ?_
      refine wp_sub (a := ((((m 163 ((y1).toNat)) / (m 158 5)) * (m 158 5)) + (((m 158 5) - 1) - ((m 163 ((y1).toNat)) % (m 158 5))))) (b := 1) rfl ?_
      refine wp_mul (a := 2) (b := (((((m 163 ((y1).toNat)) / (m 158 5)) * (m 158 5)) + (((m 158 5) - 1) - ((m 163 ((y1).toNat)) % (m 158 5)))) - 1)) rfl ?_
      obtain ⟨p15, hW⟩ := hW
      refine wp_iald (n := 32) (F := (m 192)) rfl (S.cell 192 (nc rfl)) (by decide) p15.1 p15.2 (by decide) ?_
      show wp _ _ _ _ _ [.int (iI (m 192 (((2 * (((((m 163 ((y1).toNat)) / (m 158 5)) * (m 158 5)) + (((m 158 5) - 1) - ((m 163 ((y1).toNat)) % (m 158 5)))) - 1))).toNat))), .int (iI y1), .ref 162] _ _
      have hr16 : rJ (m 192 (((2 * (((((m 163 ((y1).toNat)) / (m 158 5)) * (m 158 5)) + (((m 158 5) - 1) - ((m 163 ((y1).toNat)) % (m 158 5)))) - 1))).toNat)) := S.rg 192 (((2 * (((((m 163 ((y1).toNat)) / (m 158 5)) * (m 158 5)) + (((m 158 5) - 1) - ((m 163 ((y1).toNat)) % (m 158 5)))) - 1))).toNat) (nl rfl)
      obtain ⟨p18, hW⟩ := hW
      refine wp_iasF (n := 24) (F := (m 162)) (y := (m 192 (((2 * (((((m 163 ((y1).toNat)) / (m 158 5)) * (m 158 5)) + (((m 158 5) - 1) - ((m 163 ((y1).toNat)) % (m 158 5)))) - 1))).toNat))) rfl (S.cell 162 (nc rfl)) p18.1 p18.2 (by decide) (fun H17 hl17 hz17 hf17 => ?_)
      have S : ST H17 (up m 162 (up (m 162) ((y1).toNat) (m 192 (((2 * (((((m 163 ((y1).toNat)) / (m 158 5)) * (m 158 5)) + (((m 158 5) - 1) - ((m 163 ((y1).toNat)) % (m 158 5)))) - 1))).toNat)))) γ t := S.setI 162 (nc rfl) hl17 hz17 hf17 hr16.1 hr16.2
      refine wp_iinc (L' := [some (.ref 158), some (.int (iI (y1 + 1))), some (.int (iI ((m 163 ((y1).toNat)) / (m 158 5)))), some (.int (iI (((m 158 5) - 1) - ((m 163 ((y1).toNat)) % (m 158 5)))))]) (a := y1) rfl rfl rfl ?_
      refine wp_g (n := 1) (pc' := 6) (L' := [some (.ref 158), some (.int (iI (y1 + 1))), some (.int (iI ((m 163 ((y1).toNat)) / (m 158 5)))), some (.int (iI (((m 158 5) - 1) - ((m 163 ((y1).toNat)) % (m 158 5)))))]) (st' := []) rfl ?_
      exact hW (some (.int (iI ((m 163 ((y1).toNat)) / (m 158 5))))) (some (.int (iI (((m 158 5) - 1) - ((m 163 ((y1).toNat)) % (m 158 5)))))) _ S
    · have dc14 := (Classical.not_not.mp c14)
      have hW := hW.1 dc14
      refine wp_g (n := 1) (pc' := 61) (L' := [some (.ref 158), some (.int (iI y1)), some (.int (iI ((m 163 ((y1).toNat)) / (m 158 5)))), some (.int (iI (((m 158 5) - 1) - ((m 163 ((y1).toNat)) % (m 158 5)))))]) (st' := [.ref 158, .int (iI y1), .ref 162]) rfl ?_
      refine wp_getf (v := .ref 192) rfl rfl (S.cell 158 (nc rfl)) (by decide) rfl ?_
      refine wp_g (n := 3) (pc' := 67) (L' := [some (.ref 158), some (.int (iI y1)), some (.int (iI ((m 163 ((y1).toNat)) / (m 158 5)))), some (.int (iI (((m 158 5) - 1) - ((m 163 ((y1).toNat)) % (m 158 5)))))]) (st' := [.ref 158, .int (iI ((m 163 ((y1).toNat)) / (m 158 5))), .int (iI 2), .ref 192, .int (iI y1), .ref 162]) rfl ?_
      refine wp_getf (v := .int (iI (m 158 5))) rfl rfl (S.cell 158 (nc rfl)) (by decide) rfl ?_
      refine wp_mul (a := ((m 163 ((y1).toNat)) / (m 158 5))) (b := (m 158 5)) rfl ?_
      refine wp_g (n := 1) (pc' := 72) (L' := [some (.ref 158), some (.int (iI y1)), some (.int (iI ((m 163 ((y1).toNat)) / (m 158 5)))), some (.int (iI (((m 158 5) - 1) - ((m 163 ((y1).toNat)) % (m 158 5)))))]) (st' := [.int (iI (((m 158 5) - 1) - ((m 163 ((y1).toNat)) % (m 158 5)))), .int (iI (((m 163 ((y1).toNat)) / (m 158 5)) * (m 158 5))), .int (iI 2), .ref 192, .int (iI y1), .ref 162]) rfl ?_
      refine wp_add (a := (((m 163 ((y1).toNat)) / (m 158 5)) * (m 158 5))) (b := (((m 158 5) - 1) - ((m 163 ((y1).toNat)) % (m 158 5)))) rfl ?_
      refine wp_mul (a := 2) (b := ((((m 163 ((y1).toNat)) / (m 158 5)) * (m 158 5)) + (((m 158 5) - 1) - ((m 163 ((y1).toNat)) % (m 158 5))))) rfl ?_
      refine wp_g (n := 1) (pc' := 75) (L' := [some (.ref 158), some (.int (iI y1)), some (.int (iI ((m 163 ((y1).toNat)) / (m 158 5)))), some (.int (iI (((m 158 5) - 1) - ((m 163 ((y1).toNat)) % (m 158 5)))))]) (st' := [.int (iI 1), .int (iI (2 * ((((m 163 ((y1).toNat)) / (m 158 5)) * (m 158 5)) + (((m 158 5) - 1) - ((m 163 ((y1).toNat)) % (m 158 5)))))), .ref 192, .int (iI y1), .ref 162]) rfl ?_
      refine wp_add (a := (2 * ((((m 163 ((y1).toNat)) / (m 158 5)) * (m 158 5)) + (((m 158 5) - 1) - ((m 163 ((y1).toNat)) % (m 158 5)))))) (b := 1) rfl ?_
      obtain ⟨p19, hW⟩ := hW
      refine wp_iald (n := 32) (F := (m 192)) rfl (S.cell 192 (nc rfl)) (by decide) p19.1 p19.2 (by decide) ?_
      show wp _ _ _ _ _ [.int (iI (m 192 ((((2 * ((((m 163 ((y1).toNat)) / (m 158 5)) * (m 158 5)) + (((m 158 5) - 1) - ((m 163 ((y1).toNat)) % (m 158 5))))) + 1)).toNat))), .int (iI y1), .ref 162] _ _
      have hr20 : rJ (m 192 ((((2 * ((((m 163 ((y1).toNat)) / (m 158 5)) * (m 158 5)) + (((m 158 5) - 1) - ((m 163 ((y1).toNat)) % (m 158 5))))) + 1)).toNat)) := S.rg 192 ((((2 * ((((m 163 ((y1).toNat)) / (m 158 5)) * (m 158 5)) + (((m 158 5) - 1) - ((m 163 ((y1).toNat)) % (m 158 5))))) + 1)).toNat) (nl rfl)
      refine wp_g (n := 1) (pc' := 97) (L' := [some (.ref 158), some (.int (iI y1)), some (.int (iI ((m 163 ((y1).toNat)) / (m 158 5)))), some (.int (iI (((m 158 5) - 1) - ((m 163 ((y1).toNat)) % (m 158 5)))))]) (st' := [.int (iI (m 192 ((((2 * ((((m 163 ((y1).toNat)) / (m 158 5)) * (m 158 5)) + (((m 158 5) - 1) - ((m 163 ((y1).toNat)) % (m 158 5))))) + 1)).toNat))), .int (iI y1), .ref 162]) rfl ?_
      obtain ⟨p22, hW⟩ := hW
      refine wp_iasF (n := 24) (F := (m 162)) (y := (m 192 ((((2 * ((((m 163 ((y1).toNat)) / (m 158 5)) * (m 158 5)) + (((m 158 5) - 1) - ((m 163 ((y1).toNat)) % (m 158 5))))) + 1)).toNat))) rfl (S.cell 162 (nc rfl)) p22.1 p22.2 (by decide) (fun H21 hl21 hz21 hf21 => ?_)
      have S : ST H21 (up m 162 (up (m 162) ((y1).toNat) (m 192 ((((2 * ((((m 163 ((y1).toNat)) / (m 158 5)) * (m 158 5)) + (((m 158 5) - 1) - ((m 163 ((y1).toNat)) % (m 158 5))))) + 1)).toNat)))) γ t := S.setI 162 (nc rfl) hl21 hz21 hf21 hr20.1 hr20.2
      refine wp_iinc (L' := [some (.ref 158), some (.int (iI (y1 + 1))), some (.int (iI ((m 163 ((y1).toNat)) / (m 158 5)))), some (.int (iI (((m 158 5) - 1) - ((m 163 ((y1).toNat)) % (m 158 5)))))]) (a := y1) rfl rfl rfl ?_
      refine wp_g (n := 1) (pc' := 6) (L' := [some (.ref 158), some (.int (iI (y1 + 1))), some (.int (iI ((m 163 ((y1).toNat)) / (m 158 5)))), some (.int (iI (((m 158 5) - 1) - ((m 163 ((y1).toNat)) % (m 158 5)))))]) (st' := []) rfl ?_
      exact hW (some (.int (iI ((m 163 ((y1).toNat)) / (m 158 5))))) (some (.int (iI (((m 158 5) - 1) - ((m 163 ((y1).toNat)) % (m 158 5)))))) _ S
abbrev W_X9_quarter (E : am_E) (k : Nat) (x1 : Int) (m : MM) (γ : GM) (t : am_H) (Q : Int → MM → GM → am_H → Prop) : Prop := (TI E k 216 [.ref 158, .int (iI x1)] m γ t (fun v1 m1 γ1 t1 => (((v1 = 0) → (Q (-2) m1 γ1 t1)) ∧ (¬ (v1 = 0) → (TV E k 294 [.ref 158] m1 γ1 t1 (fun m3 γ3 t3 => (TI E k 202 [.ref 158, .int (iI x1), .int (iI (m3 158 4))] m3 γ3 t3 (fun v5 m5 γ5 t5 => (Q v5 m5 γ5 t5)))))))))
theorem vc_X9_quarter {E : am_E} {k : Nat} {x1 : Int} {m : MM} {γ : GM} {t : am_H} {Q : Int → MM → GM → am_H → Prop} (hx1 : rJ x1) (hW : W_X9_quarter E k x1 m γ t Q) : TI E (k + 1) 296 [.ref 158, .int (iI x1)] m γ t Q := by
  unfold W_X9_quarter at hW
  intro h S
  refine wp_g (n := 2) (pc' := 2) (L' := [some (.ref 158), some (.int (iI x1))]) (st' := [.int (iI x1), .ref 158]) rfl ?_
  refine wp_cv (As := [.int (iI x1)]) (rest := []) rfl rfl (S.cell 158 (nc rfl)) (by decide) rfl rfl rfl (Nat.le_of_ble_eq_true rfl) (Nat.le_of_ble_eq_true rfl) (hW _ S) (fun r1 H1 q1 => ?_)
  obtain ⟨v1, m1, γ1, t1, rfl, hv1, S, hW⟩ := q1
  show wp _ _ _ _ _ [.int (iI v1)] _ _
  refine wp_ifI (a := v1) rfl rfl hv1.1 hv1.2 (fun c2 => ?_) (fun c2 => ?_)
  · have dc2 := c2
    have hW := hW.2 dc2
    refine wp_g (n := 1) (pc' := 12) (L' := [some (.ref 158), some (.int (iI x1))]) (st' := [.ref 158]) rfl ?_
    refine wp_cv (As := []) (rest := []) rfl rfl (S.cell 158 (nc rfl)) (by decide) rfl rfl rfl (Nat.le_of_ble_eq_true rfl) (Nat.le_of_ble_eq_true rfl) (hW _ S) (fun r3 H3 q3 => ?_)
    obtain ⟨m3, γ3, t3, rfl, S, hW⟩ := q3
    show wp _ _ _ _ _ [] _ _
    refine wp_g (n := 3) (pc' := 18) (L' := [some (.ref 158), some (.int (iI x1))]) (st' := [.ref 158, .int (iI x1), .ref 158]) rfl ?_
    refine wp_getf (v := .int (iI (m3 158 4))) rfl rfl (S.cell 158 (nc rfl)) (by decide) rfl ?_
    have hr4 : rJ (m3 158 4) := S.rg 158 4 (nl rfl)
    refine wp_cv (As := [.int (iI x1), .int (iI (m3 158 4))]) (rest := []) rfl rfl (S.cell 158 (nc rfl)) (by decide) rfl rfl rfl (Nat.le_of_ble_eq_true rfl) (Nat.le_of_ble_eq_true rfl) (hW _ S) (fun r5 H5 q5 => ?_)
    obtain ⟨v5, m5, γ5, t5, rfl, hv5, S, hW⟩ := q5
    show wp _ _ _ _ _ [.int (iI v5)] _ _
    exact wp_iret rfl rfl ⟨_, _, _, _, rfl, hv5, S, hW⟩
  · have dc2 := (Classical.not_not.mp c2)
    have hW := hW.1 dc2
    refine wp_g (n := 1) (pc' := 10) (L' := [some (.ref 158), some (.int (iI x1))]) (st' := [.int (iI (-2))]) rfl ?_
    exact wp_iret rfl rfl ⟨_, _, _, _, rfl, (by decide), S, hW⟩
abbrev W_X9_mirror (E : am_E) (k : Nat) (x1 : Int) (m : MM) (γ : GM) (t : am_H) (Q : Int → MM → GM → am_H → Prop) : Prop := (TI E k 216 [.ref 158, .int (iI x1)] m γ t (fun v1 m1 γ1 t1 => (((v1 = 0) → (Q (-2) m1 γ1 t1)) ∧ (¬ (v1 = 0) → (TV E k 295 [.ref 158] m1 γ1 t1 (fun m3 γ3 t3 => (TV E k 210 [.ref 158] m3 γ3 t3 (fun m4 γ4 t4 => (TI E k 202 [.ref 158, .int (iI x1), .int (iI (m4 158 16))] m4 γ4 t4 (fun v6 m6 γ6 t6 => (Q v6 m6 γ6 t6)))))))))))
theorem vc_X9_mirror {E : am_E} {k : Nat} {x1 : Int} {m : MM} {γ : GM} {t : am_H} {Q : Int → MM → GM → am_H → Prop} (hx1 : rJ x1) (hW : W_X9_mirror E k x1 m γ t Q) : TI E (k + 1) 297 [.ref 158, .int (iI x1)] m γ t Q := by
  unfold W_X9_mirror at hW
  intro h S
  refine wp_g (n := 2) (pc' := 2) (L' := [some (.ref 158), some (.int (iI x1))]) (st' := [.int (iI x1), .ref 158]) rfl ?_
  refine wp_cv (As := [.int (iI x1)]) (rest := []) rfl rfl (S.cell 158 (nc rfl)) (by decide) rfl rfl rfl (Nat.le_of_ble_eq_true rfl) (Nat.le_of_ble_eq_true rfl) (hW _ S) (fun r1 H1 q1 => ?_)
  obtain ⟨v1, m1, γ1, t1, rfl, hv1, S, hW⟩ := q1
  show wp _ _ _ _ _ [.int (iI v1)] _ _
  refine wp_ifI (a := v1) rfl rfl hv1.1 hv1.2 (fun c2 => ?_) (fun c2 => ?_)
  · have dc2 := c2
    have hW := hW.2 dc2
    refine wp_g (n := 1) (pc' := 12) (L' := [some (.ref 158), some (.int (iI x1))]) (st' := [.ref 158]) rfl ?_
    refine wp_cv (As := []) (rest := []) rfl rfl (S.cell 158 (nc rfl)) (by decide) rfl rfl rfl (Nat.le_of_ble_eq_true rfl) (Nat.le_of_ble_eq_true rfl) (hW _ S) (fun r3 H3 q3 => ?_)
    obtain ⟨m3, γ3, t3, rfl, S, hW⟩ := q3
    show wp _ _ _ _ _ [] _ _
    refine wp_g (n := 1) (pc' := 16) (L' := [some (.ref 158), some (.int (iI x1))]) (st' := [.ref 158]) rfl ?_
    refine wp_cv (As := []) (rest := []) rfl rfl (S.cell 158 (nc rfl)) (by decide) rfl rfl rfl (Nat.le_of_ble_eq_true rfl) (Nat.le_of_ble_eq_true rfl) (hW _ S) (fun r4 H4 q4 => ?_)
    obtain ⟨m4, γ4, t4, rfl, S, hW⟩ := q4
    show wp _ _ _ _ _ [] _ _
    refine wp_g (n := 3) (pc' := 22) (L' := [some (.ref 158), some (.int (iI x1))]) (st' := [.ref 158, .int (iI x1), .ref 158]) rfl ?_
    refine wp_getf (v := .int (iI (m4 158 16))) rfl rfl (S.cell 158 (nc rfl)) (by decide) rfl ?_
    have hr5 : rJ (m4 158 16) := S.rg 158 16 (nl rfl)
    refine wp_cv (As := [.int (iI x1), .int (iI (m4 158 16))]) (rest := []) rfl rfl (S.cell 158 (nc rfl)) (by decide) rfl rfl rfl (Nat.le_of_ble_eq_true rfl) (Nat.le_of_ble_eq_true rfl) (hW _ S) (fun r6 H6 q6 => ?_)
    obtain ⟨v6, m6, γ6, t6, rfl, hv6, S, hW⟩ := q6
    show wp _ _ _ _ _ [.int (iI v6)] _ _
    exact wp_iret rfl rfl ⟨_, _, _, _, rfl, hv6, S, hW⟩
  · have dc2 := (Classical.not_not.mp c2)
    have hW := hW.1 dc2
    refine wp_g (n := 1) (pc' := 10) (L' := [some (.ref 158), some (.int (iI x1))]) (st' := [.int (iI (-2))]) rfl ?_
    exact wp_iret rfl rfl ⟨_, _, _, _, rfl, (by decide), S, hW⟩
def hd_X9_beside_113 (E : am_E) (k : Nat) (x1 : Int) (x2 : Int) (x3 : Int) (x4 : Int) (y1 : Int) (y3 : Int) (y4 : Int) (y5 : Int) (y6 : Int) (y7 : Int) (m : MM) (γ : GM) (t : am_H) (Q : Int → MM → GM → am_H → Prop) : Prop := ∀ (z2 z8 z9 z10 z11 : Option Value), TT (pI Q) E (k + 1) 298 113 [some (.ref 158), some (.int (iI y1)), z2, some (.int (iI y3)), some (.int (iI y4)), some (.int (iI y5)), some (.int (iI y6)), some (.int (iI y7)), z8, z9, z10, z11] [] m γ t
def hd_X9_beside_171 (E : am_E) (k : Nat) (x1 : Int) (x2 : Int) (x3 : Int) (x4 : Int) (y3 : Int) (y4 : Int) (y5 : Int) (y6 : Int) (y7 : Int) (m : MM) (γ : GM) (t : am_H) (Q : Int → MM → GM → am_H → Prop) : Prop := ∀ (z1 z2 z8 z9 z10 z11 : Option Value), TT (pI Q) E (k + 1) 298 171 [some (.ref 158), z1, z2, some (.int (iI y3)), some (.int (iI y4)), some (.int (iI y5)), some (.int (iI y6)), some (.int (iI y7)), z8, z9, z10, z11] [] m γ t
abbrev W_X9_beside (E : am_E) (k : Nat) (x1 : Int) (x2 : Int) (x3 : Int) (x4 : Int) (m : MM) (γ : GM) (t : am_H) (Q : Int → MM → GM → am_H → Prop) : Prop := (TI E k 195 [.ref 158, .int (iI x1)] m γ t (fun v1 m1 γ1 t1 => (((v1 = 0) → (Q (-2) m1 γ1 t1)) ∧ (¬ (v1 = 0) → (TI E k 195 [.ref 158, .int (iI x2)] m1 γ1 t1 (fun v3 m3 γ3 t3 => (((v3 = 0) → (Q (-2) m3 γ3 t3)) ∧ (¬ (v3 = 0) → (TI E k 192 [.long (lI x3), .long (lI 0), .long (lI 3)] m3 γ3 t3 (fun v5 m5 γ5 t5 => (((v5 = 0) → (Q (-2) m5 γ5 t5)) ∧ (¬ (v5 = 0) → (TI E k 194 [.int (iI x4)] m5 γ5 t5 (fun v7 m7 γ7 t7 => (((v7 = 0) → (Q (-2) m7 γ7 t7)) ∧ (¬ (v7 = 0) → ((0 ≤ ((26 * x1) + 1) ∧ ((26 * x1) + 1) < 78) ∧ ((0 ≤ ((26 * x2) + 1) ∧ ((26 * x2) + 1) < 78) ∧ (rJ ((m7 159 ((((26 * x1) + 1)).toNat)) + (m7 159 ((((26 * x2) + 1)).toNat))) ∧ (((((m7 159 ((((26 * x1) + 1)).toNat)) + (m7 159 ((((26 * x2) + 1)).toNat))) ≤ 4) → ((0 ≤ (26 * x1) ∧ (26 * x1) < 78) ∧ ((0 ≤ (26 * x2) ∧ (26 * x2) < 78) ∧ ((((m7 159 (((26 * x1)).toNat)) = (m7 159 (((26 * x2)).toNat))) → (TV E k 201 [.ref 158, .int (iI x2)] m7 γ7 t7 (fun m20 γ20 t20 => (TV E k 293 [.ref 158] m20 γ20 t20 (fun m21 γ21 t21 => (hd_X9_beside_113 E k x1 x2 x3 x4 x1 x3 x4 (m7 159 ((((26 * x1) + 1)).toNat)) ((m7 159 ((((26 * x1) + 1)).toNat)) + (m7 159 ((((26 * x2) + 1)).toNat))) 0 m21 γ21 t21 Q)))))) ∧ (¬ ((m7 159 (((26 * x1)).toNat)) = (m7 159 (((26 * x2)).toNat))) → (Q (-6) m7 γ7 t7)))))) ∧ (¬ (((m7 159 ((((26 * x1) + 1)).toNat)) + (m7 159 ((((26 * x2) + 1)).toNat))) ≤ 4) → (Q (-5) m7 γ7 t7))))))))))))))))))))))
abbrev W_X9_beside_113 (E : am_E) (k : Nat) (x1 : Int) (x2 : Int) (x3 : Int) (x4 : Int) (y1 : Int) (y3 : Int) (y4 : Int) (y5 : Int) (y6 : Int) (y7 : Int) (m : MM) (γ : GM) (t : am_H) (Q : Int → MM → GM → am_H → Prop) : Prop := (TI E k 203 [.ref 158] m γ t (fun v1 m1 γ1 t1 => (rJ (2 * v1) ∧ (((y7 < (2 * v1)) → ((0 ≤ y7 ∧ y7 < 32) ∧ ((0 ≤ y7 ∧ y7 < 32) ∧ (hd_X9_beside_113 E k x1 x2 x3 x4 y1 y3 y4 y5 y6 (y7 + 1) (up m1 193 (up (m1 193) ((y7).toNat) (m1 192 ((y7).toNat)))) γ1 t1 Q)))) ∧ (¬ (y7 < (2 * v1)) → (TV E k 201 [.ref 158, .int (iI y1)] m1 γ1 t1 (fun m4 γ4 t4 => (TV E k 293 [.ref 158] m4 γ4 t4 (fun m5 γ5 t5 => ((0 ≤ (26 * y1) ∧ (26 * y1) < 78) ∧ (TV E k 200 [.ref 158, .int (iI (m5 159 (((26 * y1)).toNat))), .int (iI y6)] m5 γ5 t5 (fun m8 γ8 t8 => (hd_X9_beside_171 E k x1 x2 x3 x4 y3 y4 y5 y6 0 m8 γ8 t8 Q)))))))))))))
abbrev W_X9_beside_171 (E : am_E) (k : Nat) (x1 : Int) (x2 : Int) (x3 : Int) (x4 : Int) (y3 : Int) (y4 : Int) (y5 : Int) (y6 : Int) (y7 : Int) (m : MM) (γ : GM) (t : am_H) (Q : Int → MM → GM → am_H → Prop) : Prop := (((y7 < (m 158 6)) → ((0 ≤ y7 ∧ y7 < 24) ∧ (0 ≤ (m 163 ((y7).toNat)) ∧ (0 < (m 158 5) ∧ ((0 ≤ y7 ∧ y7 < 24) ∧ (0 ≤ (m 163 ((y7).toNat)) ∧ (0 < (m 158 5) ∧ (rJ ((m 163 ((y7).toNat)) % (m 158 5)) ∧ (((((m 163 ((y7).toNat)) % (m 158 5)) < y5) → ((0 ≤ y7 ∧ y7 < 24) ∧ ((0 ≤ ((2 * ((((m 163 ((y7).toNat)) / (m 158 5)) * y5) + ((m 163 ((y7).toNat)) % (m 158 5)))) + (m 164 ((y7).toNat))) ∧ ((2 * ((((m 163 ((y7).toNat)) / (m 158 5)) * y5) + ((m 163 ((y7).toNat)) % (m 158 5)))) + (m 164 ((y7).toNat))) < 32) ∧ ((0 ≤ y7 ∧ y7 < 24) ∧ ((((m 164 ((y7).toNat)) = 0) → (rJ (y5 - 1) ∧ (((((m 163 ((y7).toNat)) % (m 158 5)) = (y5 - 1)) → ((0 ≤ y7 ∧ y7 < 24) ∧ (hd_X9_beside_171 E k x1 x2 x3 x4 y3 y4 y5 y6 (y7 + 1) (up m 162 (up (m 162) ((y7).toNat) y3)) γ t Q))) ∧ (¬ (((m 163 ((y7).toNat)) % (m 158 5)) = (y5 - 1)) → ((0 ≤ y7 ∧ y7 < 24) ∧ (hd_X9_beside_171 E k x1 x2 x3 x4 y3 y4 y5 y6 (y7 + 1) (up m 162 (up (m 162) ((y7).toNat) (m 192 ((((2 * ((((m 163 ((y7).toNat)) / (m 158 5)) * y5) + ((m 163 ((y7).toNat)) % (m 158 5)))) + (m 164 ((y7).toNat)))).toNat)))) γ t Q)))))) ∧ (¬ ((m 164 ((y7).toNat)) = 0) → ((0 ≤ y7 ∧ y7 < 24) ∧ (hd_X9_beside_171 E k x1 x2 x3 x4 y3 y4 y5 y6 (y7 + 1) (up m 162 (up (m 162) ((y7).toNat) (m 192 ((((2 * ((((m 163 ((y7).toNat)) / (m 158 5)) * y5) + ((m 163 ((y7).toNat)) % (m 158 5)))) + (m 164 ((y7).toNat)))).toNat)))) γ t Q)))))))) ∧ (¬ (((m 163 ((y7).toNat)) % (m 158 5)) < y5) → ((0 ≤ y7 ∧ y7 < 24) ∧ ((0 ≤ ((2 * (((((m 163 ((y7).toNat)) / (m 158 5)) * (y6 - y5)) + ((m 163 ((y7).toNat)) % (m 158 5))) - y5)) + (m 164 ((y7).toNat))) ∧ ((2 * (((((m 163 ((y7).toNat)) / (m 158 5)) * (y6 - y5)) + ((m 163 ((y7).toNat)) % (m 158 5))) - y5)) + (m 164 ((y7).toNat))) < 32) ∧ ((0 ≤ y7 ∧ y7 < 24) ∧ ((((m 164 ((y7).toNat)) = 0) → (rJ (y5 - 1) ∧ (((((m 163 ((y7).toNat)) % (m 158 5)) = (y5 - 1)) → ((0 ≤ y7 ∧ y7 < 24) ∧ (hd_X9_beside_171 E k x1 x2 x3 x4 y3 y4 y5 y6 (y7 + 1) (up m 162 (up (m 162) ((y7).toNat) y3)) γ t Q))) ∧ (¬ (((m 163 ((y7).toNat)) % (m 158 5)) = (y5 - 1)) → ((0 ≤ y7 ∧ y7 < 24) ∧ (hd_X9_beside_171 E k x1 x2 x3 x4 y3 y4 y5 y6 (y7 + 1) (up m 162 (up (m 162) ((y7).toNat) (m 193 ((((2 * (((((m 163 ((y7).toNat)) / (m 158 5)) * (y6 - y5)) + ((m 163 ((y7).toNat)) % (m 158 5))) - y5)) + (m 164 ((y7).toNat)))).toNat)))) γ t Q)))))) ∧ (¬ ((m 164 ((y7).toNat)) = 0) → ((0 ≤ y7 ∧ y7 < 24) ∧ (hd_X9_beside_171 E k x1 x2 x3 x4 y3 y4 y5 y6 (y7 + 1) (up m 162 (up (m 162) ((y7).toNat) (m 193 ((((2 * (((((m 163 ((y7).toNat)) / (m 158 5)) * (y6 - y5)) + ((m 163 ((y7).toNat)) % (m 158 5))) - y5)) + (m 164 ((y7).toNat)))).toNat)))) γ t Q))))))))))))))))) ∧ (¬ (y7 < (m 158 6)) → (TI E k 202 [.ref 158, .int (iI y4), .int (iI y6)] m γ t (fun v3 m3 γ3 t3 => (Q v3 m3 γ3 t3)))))
theorem vc_X9_beside {E : am_E} {k : Nat} {x1 : Int} {x2 : Int} {x3 : Int} {x4 : Int} {m : MM} {γ : GM} {t : am_H} {Q : Int → MM → GM → am_H → Prop} (hx1 : rJ x1) (hx2 : rJ x2) (hx3 : rJ x3) (hx4 : rJ x4) (hW : W_X9_beside E k x1 x2 x3 x4 m γ t Q) : TI E (k + 1) 298 [.ref 158, .int (iI x1), .int (iI x2), .int (iI x3), .int (iI x4)] m γ t Q := by
  unfold W_X9_beside at hW
  intro h S
  refine wp_g (n := 2) (pc' := 2) (L' := [some (.ref 158), some (.int (iI x1)), some (.int (iI x2)), some (.int (iI x3)), some (.int (iI x4)), none, none, none, none, none, none, none]) (st' := [.int (iI x1), .ref 158]) rfl ?_
  refine wp_cv (As := [.int (iI x1)]) (rest := []) rfl rfl (S.cell 158 (nc rfl)) (by decide) rfl rfl rfl (Nat.le_of_ble_eq_true rfl) (Nat.le_of_ble_eq_true rfl) (hW _ S) (fun r1 H1 q1 => ?_)
  obtain ⟨v1, m1, γ1, t1, rfl, hv1, S, hW⟩ := q1
  show wp _ _ _ _ _ [.int (iI v1)] _ _
  refine wp_ifI (a := v1) rfl rfl hv1.1 hv1.2 (fun c2 => ?_) (fun c2 => ?_)
  · have dc2 := c2
    have hW := hW.1 dc2
    refine wp_g (n := 1) (pc' := 38) (L' := [some (.ref 158), some (.int (iI x1)), some (.int (iI x2)), some (.int (iI x3)), some (.int (iI x4)), none, none, none, none, none, none, none]) (st' := [.int (iI (-2))]) rfl ?_
    exact wp_iret rfl rfl ⟨_, _, _, _, rfl, (by decide), S, hW⟩
  · have dc2 := c2
    have hW := hW.2 dc2
    refine wp_g (n := 2) (pc' := 10) (L' := [some (.ref 158), some (.int (iI x1)), some (.int (iI x2)), some (.int (iI x3)), some (.int (iI x4)), none, none, none, none, none, none, none]) (st' := [.int (iI x2), .ref 158]) rfl ?_
    refine wp_cv (As := [.int (iI x2)]) (rest := []) rfl rfl (S.cell 158 (nc rfl)) (by decide) rfl rfl rfl (Nat.le_of_ble_eq_true rfl) (Nat.le_of_ble_eq_true rfl) (hW _ S) (fun r3 H3 q3 => ?_)
    obtain ⟨v3, m3, γ3, t3, rfl, hv3, S, hW⟩ := q3
    show wp _ _ _ _ _ [.int (iI v3)] _ _
    refine wp_ifI (a := v3) rfl rfl hv3.1 hv3.2 (fun c4 => ?_) (fun c4 => ?_)
    · have dc4 := c4
      have hW := hW.1 dc4
      refine wp_g (n := 1) (pc' := 38) (L' := [some (.ref 158), some (.int (iI x1)), some (.int (iI x2)), some (.int (iI x3)), some (.int (iI x4)), none, none, none, none, none, none, none]) (st' := [.int (iI (-2))]) rfl ?_
      exact wp_iret rfl rfl ⟨_, _, _, _, rfl, (by decide), S, hW⟩
    · have dc4 := c4
      have hW := hW.2 dc4
      refine wp_g (n := 1) (pc' := 17) (L' := [some (.ref 158), some (.int (iI x1)), some (.int (iI x2)), some (.int (iI x3)), some (.int (iI x4)), none, none, none, none, none, none, none]) (st' := [.int (iI x3)]) rfl ?_
      refine wp_i2l (a := x3) rfl hx3 ?_
      refine wp_g (n := 2) (pc' := 22) (L' := [some (.ref 158), some (.int (iI x1)), some (.int (iI x2)), some (.int (iI x3)), some (.int (iI x4)), none, none, none, none, none, none, none]) (st' := [.long (lI 3), .long (lI 0), .long (lI x3)]) rfl ?_
      refine wp_cs (As := [.long (lI x3), .long (lI 0), .long (lI 3)]) (rest := []) rfl rfl rfl rfl (Nat.le_of_ble_eq_true rfl) (Nat.le_of_ble_eq_true rfl) (hW _ S) (fun r5 H5 q5 => ?_)
      obtain ⟨v5, m5, γ5, t5, rfl, hv5, S, hW⟩ := q5
      show wp _ _ _ _ _ [.int (iI v5)] _ _
      refine wp_ifI (a := v5) rfl rfl hv5.1 hv5.2 (fun c6 => ?_) (fun c6 => ?_)
      · have dc6 := c6
        have hW := hW.1 dc6
        refine wp_g (n := 1) (pc' := 38) (L' := [some (.ref 158), some (.int (iI x1)), some (.int (iI x2)), some (.int (iI x3)), some (.int (iI x4)), none, none, none, none, none, none, none]) (st' := [.int (iI (-2))]) rfl ?_
        exact wp_iret rfl rfl ⟨_, _, _, _, rfl, (by decide), S, hW⟩
      · have dc6 := c6
        have hW := hW.2 dc6
        refine wp_g (n := 1) (pc' := 30) (L' := [some (.ref 158), some (.int (iI x1)), some (.int (iI x2)), some (.int (iI x3)), some (.int (iI x4)), none, none, none, none, none, none, none]) (st' := [.int (iI x4)]) rfl ?_
        refine wp_cs (As := [.int (iI x4)]) (rest := []) rfl rfl rfl rfl (Nat.le_of_ble_eq_true rfl) (Nat.le_of_ble_eq_true rfl) (hW _ S) (fun r7 H7 q7 => ?_)
        obtain ⟨v7, m7, γ7, t7, rfl, hv7, S, hW⟩ := q7
        show wp _ _ _ _ _ [.int (iI v7)] _ _
        refine wp_ifI (a := v7) rfl rfl hv7.1 hv7.2 (fun c8 => ?_) (fun c8 => ?_)
        · have dc8 := c8
          have hW := hW.2 dc8
          refine wp_g (n := 1) (pc' := 40) (L' := [some (.ref 158), some (.int (iI x1)), some (.int (iI x2)), some (.int (iI x3)), some (.int (iI x4)), none, none, none, none, none, none, none]) (st' := [.ref 158]) rfl ?_
          refine wp_getf (v := .ref 159) rfl rfl (S.cell 158 (nc rfl)) (by decide) rfl ?_
          refine wp_g (n := 2) (pc' := 46) (L' := [some (.ref 158), some (.int (iI x1)), some (.int (iI x2)), some (.int (iI x3)), some (.int (iI x4)), none, none, none, none, none, none, none]) (st' := [.int (iI x1), .int (iI 26), .ref 159]) rfl ?_
          refine wp_mul (a := 26) (b := x1) rfl ?_
          refine wp_g (n := 1) (pc' := 48) (L' := [some (.ref 158), some (.int (iI x1)), some (.int (iI x2)), some (.int (iI x3)), some (.int (iI x4)), none, none, none, none, none, none, none]) (st' := [.int (iI 1), .int (iI (26 * x1)), .ref 159]) rfl ?_
          refine wp_add (a := (26 * x1)) (b := 1) rfl ?_
          obtain ⟨p9, hW⟩ := hW
          refine wp_iald (n := 78) (F := (m7 159)) rfl (S.cell 159 (nc rfl)) (by decide) p9.1 p9.2 (by decide) ?_
          show wp _ _ _ _ _ [.int (iI (m7 159 ((((26 * x1) + 1)).toNat)))] _ _
          have hr10 : rJ (m7 159 ((((26 * x1) + 1)).toNat)) := S.rg 159 ((((26 * x1) + 1)).toNat) (nl rfl)
          refine wp_g (n := 3) (pc' := 55) (L' := [some (.ref 158), some (.int (iI x1)), some (.int (iI x2)), some (.int (iI x3)), some (.int (iI x4)), some (.int (iI (m7 159 ((((26 * x1) + 1)).toNat)))), none, none, none, none, none, none]) (st' := [.ref 158, .int (iI (m7 159 ((((26 * x1) + 1)).toNat)))]) rfl ?_
          refine wp_getf (v := .ref 159) rfl rfl (S.cell 158 (nc rfl)) (by decide) rfl ?_
          refine wp_g (n := 2) (pc' := 61) (L' := [some (.ref 158), some (.int (iI x1)), some (.int (iI x2)), some (.int (iI x3)), some (.int (iI x4)), some (.int (iI (m7 159 ((((26 * x1) + 1)).toNat)))), none, none, none, none, none, none]) (st' := [.int (iI x2), .int (iI 26), .ref 159, .int (iI (m7 159 ((((26 * x1) + 1)).toNat)))]) rfl ?_
          refine wp_mul (a := 26) (b := x2) rfl ?_
          refine wp_g (n := 1) (pc' := 63) (L' := [some (.ref 158), some (.int (iI x1)), some (.int (iI x2)), some (.int (iI x3)), some (.int (iI x4)), some (.int (iI (m7 159 ((((26 * x1) + 1)).toNat)))), none, none, none, none, none, none]) (st' := [.int (iI 1), .int (iI (26 * x2)), .ref 159, .int (iI (m7 159 ((((26 * x1) + 1)).toNat)))]) rfl ?_
          refine wp_add (a := (26 * x2)) (b := 1) rfl ?_
          obtain ⟨p11, hW⟩ := hW
          refine wp_iald (n := 78) (F := (m7 159)) rfl (S.cell 159 (nc rfl)) (by decide) p11.1 p11.2 (by decide) ?_
          show wp _ _ _ _ _ [.int (iI (m7 159 ((((26 * x2) + 1)).toNat))), .int (iI (m7 159 ((((26 * x1) + 1)).toNat)))] _ _
          have hr12 : rJ (m7 159 ((((26 * x2) + 1)).toNat)) := S.rg 159 ((((26 * x2) + 1)).toNat) (nl rfl)
          refine wp_add (a := (m7 159 ((((26 * x1) + 1)).toNat))) (b := (m7 159 ((((26 * x2) + 1)).toNat))) rfl ?_
          refine wp_g (n := 3) (pc' := 71) (L' := [some (.ref 158), some (.int (iI x1)), some (.int (iI x2)), some (.int (iI x3)), some (.int (iI x4)), some (.int (iI (m7 159 ((((26 * x1) + 1)).toNat)))), some (.int (iI ((m7 159 ((((26 * x1) + 1)).toNat)) + (m7 159 ((((26 * x2) + 1)).toNat))))), none, none, none, none, none]) (st' := [.int (iI 4), .int (iI ((m7 159 ((((26 * x1) + 1)).toNat)) + (m7 159 ((((26 * x2) + 1)).toNat))))]) rfl ?_
          obtain ⟨p13, hW⟩ := hW
          refine wp_icmpI (a := ((m7 159 ((((26 * x1) + 1)).toNat)) + (m7 159 ((((26 * x2) + 1)).toNat)))) (b := 4) rfl rfl p13.1 p13.2 (by decide) (by decide) (fun c14 => ?_) (fun c14 => ?_)
          · have dc14 := c14
            have hW := hW.1 dc14
            refine wp_g (n := 1) (pc' := 78) (L' := [some (.ref 158), some (.int (iI x1)), some (.int (iI x2)), some (.int (iI x3)), some (.int (iI x4)), some (.int (iI (m7 159 ((((26 * x1) + 1)).toNat)))), some (.int (iI ((m7 159 ((((26 * x1) + 1)).toNat)) + (m7 159 ((((26 * x2) + 1)).toNat))))), none, none, none, none, none]) (st' := [.ref 158]) rfl ?_
            refine wp_getf (v := .ref 159) rfl rfl (S.cell 158 (nc rfl)) (by decide) rfl ?_
            refine wp_g (n := 2) (pc' := 84) (L' := [some (.ref 158), some (.int (iI x1)), some (.int (iI x2)), some (.int (iI x3)), some (.int (iI x4)), some (.int (iI (m7 159 ((((26 * x1) + 1)).toNat)))), some (.int (iI ((m7 159 ((((26 * x1) + 1)).toNat)) + (m7 159 ((((26 * x2) + 1)).toNat))))), none, none, none, none, none]) (st' := [.int (iI x1), .int (iI 26), .ref 159]) rfl ?_
            refine wp_mul (a := 26) (b := x1) rfl ?_
            obtain ⟨p15, hW⟩ := hW
            refine wp_iald (n := 78) (F := (m7 159)) rfl (S.cell 159 (nc rfl)) (by decide) p15.1 p15.2 (by decide) ?_
            show wp _ _ _ _ _ [.int (iI (m7 159 (((26 * x1)).toNat)))] _ _
            have hr16 : rJ (m7 159 (((26 * x1)).toNat)) := S.rg 159 (((26 * x1)).toNat) (nl rfl)
            refine wp_g (n := 1) (pc' := 87) (L' := [some (.ref 158), some (.int (iI x1)), some (.int (iI x2)), some (.int (iI x3)), some (.int (iI x4)), some (.int (iI (m7 159 ((((26 * x1) + 1)).toNat)))), some (.int (iI ((m7 159 ((((26 * x1) + 1)).toNat)) + (m7 159 ((((26 * x2) + 1)).toNat))))), none, none, none, none, none]) (st' := [.ref 158, .int (iI (m7 159 (((26 * x1)).toNat)))]) rfl ?_
            refine wp_getf (v := .ref 159) rfl rfl (S.cell 158 (nc rfl)) (by decide) rfl ?_
            refine wp_g (n := 2) (pc' := 93) (L' := [some (.ref 158), some (.int (iI x1)), some (.int (iI x2)), some (.int (iI x3)), some (.int (iI x4)), some (.int (iI (m7 159 ((((26 * x1) + 1)).toNat)))), some (.int (iI ((m7 159 ((((26 * x1) + 1)).toNat)) + (m7 159 ((((26 * x2) + 1)).toNat))))), none, none, none, none, none]) (st' := [.int (iI x2), .int (iI 26), .ref 159, .int (iI (m7 159 (((26 * x1)).toNat)))]) rfl ?_
            refine wp_mul (a := 26) (b := x2) rfl ?_
            obtain ⟨p17, hW⟩ := hW
            refine wp_iald (n := 78) (F := (m7 159)) rfl (S.cell 159 (nc rfl)) (by decide) p17.1 p17.2 (by decide) ?_
            show wp _ _ _ _ _ [.int (iI (m7 159 (((26 * x2)).toNat))), .int (iI (m7 159 (((26 * x1)).toNat)))] _ _
            have hr18 : rJ (m7 159 (((26 * x2)).toNat)) := S.rg 159 (((26 * x2)).toNat) (nl rfl)
            refine wp_icmpI (a := (m7 159 (((26 * x1)).toNat))) (b := (m7 159 (((26 * x2)).toNat))) rfl rfl hr16.1 hr16.2 hr18.1 hr18.2 (fun c19 => ?_) (fun c19 => ?_)
            · have dc19 := c19
              have hW := hW.1 dc19
              refine wp_g (n := 2) (pc' := 103) (L' := [some (.ref 158), some (.int (iI x1)), some (.int (iI x2)), some (.int (iI x3)), some (.int (iI x4)), some (.int (iI (m7 159 ((((26 * x1) + 1)).toNat)))), some (.int (iI ((m7 159 ((((26 * x1) + 1)).toNat)) + (m7 159 ((((26 * x2) + 1)).toNat))))), none, none, none, none, none]) (st' := [.int (iI x2), .ref 158]) rfl ?_
              refine wp_cv (As := [.int (iI x2)]) (rest := []) rfl rfl (S.cell 158 (nc rfl)) (by decide) rfl rfl rfl (Nat.le_of_ble_eq_true rfl) (Nat.le_of_ble_eq_true rfl) (hW _ S) (fun r20 H20 q20 => ?_)
              obtain ⟨m20, γ20, t20, rfl, S, hW⟩ := q20
              show wp _ _ _ _ _ [] _ _
              refine wp_g (n := 1) (pc' := 107) (L' := [some (.ref 158), some (.int (iI x1)), some (.int (iI x2)), some (.int (iI x3)), some (.int (iI x4)), some (.int (iI (m7 159 ((((26 * x1) + 1)).toNat)))), some (.int (iI ((m7 159 ((((26 * x1) + 1)).toNat)) + (m7 159 ((((26 * x2) + 1)).toNat))))), none, none, none, none, none]) (st' := [.ref 158]) rfl ?_
              refine wp_cv (As := []) (rest := []) rfl rfl (S.cell 158 (nc rfl)) (by decide) rfl rfl rfl (Nat.le_of_ble_eq_true rfl) (Nat.le_of_ble_eq_true rfl) (hW _ S) (fun r21 H21 q21 => ?_)
              obtain ⟨m21, γ21, t21, rfl, S, hW⟩ := q21
              show wp _ _ _ _ _ [] _ _
              refine wp_g (n := 2) (pc' := 113) (L' := [some (.ref 158), some (.int (iI x1)), some (.int (iI x2)), some (.int (iI x3)), some (.int (iI x4)), some (.int (iI (m7 159 ((((26 * x1) + 1)).toNat)))), some (.int (iI ((m7 159 ((((26 * x1) + 1)).toNat)) + (m7 159 ((((26 * x2) + 1)).toNat))))), some (.int (iI 0)), none, none, none, none]) (st' := []) rfl ?_
              exact hW (some (.int (iI x2))) none none none none _ S
            · have dc19 := c19
              have hW := hW.2 dc19
              refine wp_g (n := 1) (pc' := 100) (L' := [some (.ref 158), some (.int (iI x1)), some (.int (iI x2)), some (.int (iI x3)), some (.int (iI x4)), some (.int (iI (m7 159 ((((26 * x1) + 1)).toNat)))), some (.int (iI ((m7 159 ((((26 * x1) + 1)).toNat)) + (m7 159 ((((26 * x2) + 1)).toNat))))), none, none, none, none, none]) (st' := [.int (iI (-6))]) rfl ?_
              exact wp_iret rfl rfl ⟨_, _, _, _, rfl, (by decide), S, hW⟩
          · have dc14 := c14
            have hW := hW.2 dc14
            refine wp_g (n := 1) (pc' := 76) (L' := [some (.ref 158), some (.int (iI x1)), some (.int (iI x2)), some (.int (iI x3)), some (.int (iI x4)), some (.int (iI (m7 159 ((((26 * x1) + 1)).toNat)))), some (.int (iI ((m7 159 ((((26 * x1) + 1)).toNat)) + (m7 159 ((((26 * x2) + 1)).toNat))))), none, none, none, none, none]) (st' := [.int (iI (-5))]) rfl ?_
            exact wp_iret rfl rfl ⟨_, _, _, _, rfl, (by decide), S, hW⟩
        · have dc8 := (Classical.not_not.mp c8)
          have hW := hW.1 dc8
          refine wp_g (n := 1) (pc' := 38) (L' := [some (.ref 158), some (.int (iI x1)), some (.int (iI x2)), some (.int (iI x3)), some (.int (iI x4)), none, none, none, none, none, none, none]) (st' := [.int (iI (-2))]) rfl ?_
          exact wp_iret rfl rfl ⟨_, _, _, _, rfl, (by decide), S, hW⟩
theorem vc_X9_beside_113 {E : am_E} {k : Nat} {x1 : Int} {x2 : Int} {x3 : Int} {x4 : Int} {y1 : Int} {y3 : Int} {y4 : Int} {y5 : Int} {y6 : Int} {y7 : Int} {m : MM} {γ : GM} {t : am_H} {Q : Int → MM → GM → am_H → Prop} (hx1 : rJ x1) (hx2 : rJ x2) (hx3 : rJ x3) (hx4 : rJ x4) (hy1 : rJ y1) (hy3 : rJ y3) (hy4 : rJ y4) (hy5 : rJ y5) (hy6 : rJ y6) (hy7 : rJ y7) (hW : W_X9_beside_113 E k x1 x2 x3 x4 y1 y3 y4 y5 y6 y7 m γ t Q) : hd_X9_beside_113 E k x1 x2 x3 x4 y1 y3 y4 y5 y6 y7 m γ t Q := by
  unfold W_X9_beside_113 at hW
  intro z2 z8 z9 z10 z11 h S
  refine wp_g (n := 3) (pc' := 117) (L' := [some (.ref 158), some (.int (iI y1)), z2, some (.int (iI y3)), some (.int (iI y4)), some (.int (iI y5)), some (.int (iI y6)), some (.int (iI y7)), z8, z9, z10, z11]) (st' := [.ref 158, .int (iI 2), .int (iI y7)]) rfl ?_
  refine wp_cv (As := []) (rest := [.int (iI 2), .int (iI y7)]) rfl rfl (S.cell 158 (nc rfl)) (by decide) rfl rfl rfl (Nat.le_of_ble_eq_true rfl) (Nat.le_of_ble_eq_true rfl) (hW _ S) (fun r1 H1 q1 => ?_)
  obtain ⟨v1, m1, γ1, t1, rfl, hv1, S, hW⟩ := q1
  show wp _ _ _ _ _ [.int (iI v1), .int (iI 2), .int (iI y7)] _ _
  refine wp_mul (a := 2) (b := v1) rfl ?_
  obtain ⟨p2, hW⟩ := hW
  refine wp_icmpI (a := y7) (b := (2 * v1)) rfl rfl hy7.1 hy7.2 p2.1 p2.2 (fun c3 => ?_) (fun c3 => ?_)
  · have dc3 := (Int.not_lt.mpr c3)
    have hW := hW.2 dc3
    refine wp_g (n := 2) (pc' := 146) (L' := [some (.ref 158), some (.int (iI y1)), z2, some (.int (iI y3)), some (.int (iI y4)), some (.int (iI y5)), some (.int (iI y6)), some (.int (iI y7)), z8, z9, z10, z11]) (st' := [.int (iI y1), .ref 158]) rfl ?_
    refine wp_cv (As := [.int (iI y1)]) (rest := []) rfl rfl (S.cell 158 (nc rfl)) (by decide) rfl rfl rfl (Nat.le_of_ble_eq_true rfl) (Nat.le_of_ble_eq_true rfl) (hW _ S) (fun r4 H4 q4 => ?_)
    obtain ⟨m4, γ4, t4, rfl, S, hW⟩ := q4
    show wp _ _ _ _ _ [] _ _
    refine wp_g (n := 1) (pc' := 150) (L' := [some (.ref 158), some (.int (iI y1)), z2, some (.int (iI y3)), some (.int (iI y4)), some (.int (iI y5)), some (.int (iI y6)), some (.int (iI y7)), z8, z9, z10, z11]) (st' := [.ref 158]) rfl ?_
    refine wp_cv (As := []) (rest := []) rfl rfl (S.cell 158 (nc rfl)) (by decide) rfl rfl rfl (Nat.le_of_ble_eq_true rfl) (Nat.le_of_ble_eq_true rfl) (hW _ S) (fun r5 H5 q5 => ?_)
    obtain ⟨m5, γ5, t5, rfl, S, hW⟩ := q5
    show wp _ _ _ _ _ [] _ _
    refine wp_g (n := 2) (pc' := 155) (L' := [some (.ref 158), some (.int (iI y1)), z2, some (.int (iI y3)), some (.int (iI y4)), some (.int (iI y5)), some (.int (iI y6)), some (.int (iI y7)), z8, z9, z10, z11]) (st' := [.ref 158, .ref 158]) rfl ?_
    refine wp_getf (v := .ref 159) rfl rfl (S.cell 158 (nc rfl)) (by decide) rfl ?_
    refine wp_g (n := 2) (pc' := 161) (L' := [some (.ref 158), some (.int (iI y1)), z2, some (.int (iI y3)), some (.int (iI y4)), some (.int (iI y5)), some (.int (iI y6)), some (.int (iI y7)), z8, z9, z10, z11]) (st' := [.int (iI y1), .int (iI 26), .ref 159, .ref 158]) rfl ?_
    refine wp_mul (a := 26) (b := y1) rfl ?_
    obtain ⟨p6, hW⟩ := hW
    refine wp_iald (n := 78) (F := (m5 159)) rfl (S.cell 159 (nc rfl)) (by decide) p6.1 p6.2 (by decide) ?_
    show wp _ _ _ _ _ [.int (iI (m5 159 (((26 * y1)).toNat))), .ref 158] _ _
    have hr7 : rJ (m5 159 (((26 * y1)).toNat)) := S.rg 159 (((26 * y1)).toNat) (nl rfl)
    refine wp_g (n := 1) (pc' := 165) (L' := [some (.ref 158), some (.int (iI y1)), z2, some (.int (iI y3)), some (.int (iI y4)), some (.int (iI y5)), some (.int (iI y6)), some (.int (iI y7)), z8, z9, z10, z11]) (st' := [.int (iI y6), .int (iI (m5 159 (((26 * y1)).toNat))), .ref 158]) rfl ?_
    refine wp_cv (As := [.int (iI (m5 159 (((26 * y1)).toNat))), .int (iI y6)]) (rest := []) rfl rfl (S.cell 158 (nc rfl)) (by decide) rfl rfl rfl (Nat.le_of_ble_eq_true rfl) (Nat.le_of_ble_eq_true rfl) (hW _ S) (fun r8 H8 q8 => ?_)
    obtain ⟨m8, γ8, t8, rfl, S, hW⟩ := q8
    show wp _ _ _ _ _ [] _ _
    refine wp_g (n := 2) (pc' := 171) (L' := [some (.ref 158), some (.int (iI y1)), z2, some (.int (iI y3)), some (.int (iI y4)), some (.int (iI y5)), some (.int (iI y6)), some (.int (iI 0)), z8, z9, z10, z11]) (st' := []) rfl ?_
    exact hW (some (.int (iI y1))) z2 z8 z9 z10 z11 _ S
  · have dc3 := (Int.not_le.mp c3)
    have hW := hW.1 dc3
    refine wp_g (n := 1) (pc' := 125) (L' := [some (.ref 158), some (.int (iI y1)), z2, some (.int (iI y3)), some (.int (iI y4)), some (.int (iI y5)), some (.int (iI y6)), some (.int (iI y7)), z8, z9, z10, z11]) (st' := [.ref 158]) rfl ?_
    refine wp_getf (v := .ref 193) rfl rfl (S.cell 158 (nc rfl)) (by decide) rfl ?_
    refine wp_g (n := 2) (pc' := 131) (L' := [some (.ref 158), some (.int (iI y1)), z2, some (.int (iI y3)), some (.int (iI y4)), some (.int (iI y5)), some (.int (iI y6)), some (.int (iI y7)), z8, z9, z10, z11]) (st' := [.ref 158, .int (iI y7), .ref 193]) rfl ?_
    refine wp_getf (v := .ref 192) rfl rfl (S.cell 158 (nc rfl)) (by decide) rfl ?_
    refine wp_g (n := 1) (pc' := 136) (L' := [some (.ref 158), some (.int (iI y1)), z2, some (.int (iI y3)), some (.int (iI y4)), some (.int (iI y5)), some (.int (iI y6)), some (.int (iI y7)), z8, z9, z10, z11]) (st' := [.int (iI y7), .ref 192, .int (iI y7), .ref 193]) rfl ?_
    obtain ⟨p9, hW⟩ := hW
    refine wp_iald (n := 32) (F := (m1 192)) rfl (S.cell 192 (nc rfl)) (by decide) p9.1 p9.2 (by decide) ?_
    show wp _ _ _ _ _ [.int (iI (m1 192 ((y7).toNat))), .int (iI y7), .ref 193] _ _
    have hr10 : rJ (m1 192 ((y7).toNat)) := S.rg 192 ((y7).toNat) (nl rfl)
    obtain ⟨p12, hW⟩ := hW
    refine wp_iasF (n := 32) (F := (m1 193)) (y := (m1 192 ((y7).toNat))) rfl (S.cell 193 (nc rfl)) p12.1 p12.2 (by decide) (fun H11 hl11 hz11 hf11 => ?_)
    have S : ST H11 (up m1 193 (up (m1 193) ((y7).toNat) (m1 192 ((y7).toNat)))) γ1 t1 := S.setI 193 (nc rfl) hl11 hz11 hf11 hr10.1 hr10.2
    refine wp_iinc (L' := [some (.ref 158), some (.int (iI y1)), z2, some (.int (iI y3)), some (.int (iI y4)), some (.int (iI y5)), some (.int (iI y6)), some (.int (iI (y7 + 1))), z8, z9, z10, z11]) (a := y7) rfl rfl rfl ?_
    refine wp_g (n := 1) (pc' := 113) (L' := [some (.ref 158), some (.int (iI y1)), z2, some (.int (iI y3)), some (.int (iI y4)), some (.int (iI y5)), some (.int (iI y6)), some (.int (iI (y7 + 1))), z8, z9, z10, z11]) (st' := []) rfl ?_
    exact hW z2 z8 z9 z10 z11 _ S
theorem vc_X9_beside_171 {E : am_E} {k : Nat} {x1 : Int} {x2 : Int} {x3 : Int} {x4 : Int} {y3 : Int} {y4 : Int} {y5 : Int} {y6 : Int} {y7 : Int} {m : MM} {γ : GM} {t : am_H} {Q : Int → MM → GM → am_H → Prop} (hx1 : rJ x1) (hx2 : rJ x2) (hx3 : rJ x3) (hx4 : rJ x4) (hy3 : rJ y3) (hy4 : rJ y4) (hy5 : rJ y5) (hy6 : rJ y6) (hy7 : rJ y7) (hW : W_X9_beside_171 E k x1 x2 x3 x4 y3 y4 y5 y6 y7 m γ t Q) : hd_X9_beside_171 E k x1 x2 x3 x4 y3 y4 y5 y6 y7 m γ t Q := by
  unfold W_X9_beside_171 at hW
  intro z1 z2 z8 z9 z10 z11 h S
  refine wp_g (n := 2) (pc' := 174) (L' := [some (.ref 158), z1, z2, some (.int (iI y3)), some (.int (iI y4)), some (.int (iI y5)), some (.int (iI y6)), some (.int (iI y7)), z8, z9, z10, z11]) (st' := [.ref 158, .int (iI y7)]) rfl ?_
  refine wp_getf (v := .int (iI (m 158 6))) rfl rfl (S.cell 158 (nc rfl)) (by decide) rfl ?_
  have hr1 : rJ (m 158 6) := S.rg 158 6 (nl rfl)
  refine wp_icmpI (a := y7) (b := (m 158 6)) rfl rfl hy7.1 hy7.2 hr1.1 hr1.2 (fun c2 => ?_) (fun c2 => ?_)
  · have dc2 := (Int.not_lt.mpr c2)
    have hW := hW.2 dc2
    refine wp_g (n := 3) (pc' := 327) (L' := [some (.ref 158), z1, z2, some (.int (iI y3)), some (.int (iI y4)), some (.int (iI y5)), some (.int (iI y6)), some (.int (iI y7)), z8, z9, z10, z11]) (st' := [.int (iI y6), .int (iI y4), .ref 158]) rfl ?_
    refine wp_cv (As := [.int (iI y4), .int (iI y6)]) (rest := []) rfl rfl (S.cell 158 (nc rfl)) (by decide) rfl rfl rfl (Nat.le_of_ble_eq_true rfl) (Nat.le_of_ble_eq_true rfl) (hW _ S) (fun r3 H3 q3 => ?_)
    obtain ⟨v3, m3, γ3, t3, rfl, hv3, S, hW⟩ := q3
    show wp _ _ _ _ _ [.int (iI v3)] _ _
    exact wp_iret rfl rfl ⟨_, _, _, _, rfl, hv3, S, hW⟩
  · have dc2 := (Int.not_le.mp c2)
    have hW := hW.1 dc2
    refine wp_g (n := 1) (pc' := 181) (L' := [some (.ref 158), z1, z2, some (.int (iI y3)), some (.int (iI y4)), some (.int (iI y5)), some (.int (iI y6)), some (.int (iI y7)), z8, z9, z10, z11]) (st' := [.ref 158]) rfl ?_
    refine wp_getf (v := .ref 163) rfl rfl (S.cell 158 (nc rfl)) (by decide) rfl ?_
    refine wp_g (n := 1) (pc' := 186) (L' := [some (.ref 158), z1, z2, some (.int (iI y3)), some (.int (iI y4)), some (.int (iI y5)), some (.int (iI y6)), some (.int (iI y7)), z8, z9, z10, z11]) (st' := [.int (iI y7), .ref 163]) rfl ?_
    obtain ⟨p4, hW⟩ := hW
    refine wp_iald (n := 24) (F := (m 163)) rfl (S.cell 163 (nc rfl)) (by decide) p4.1 p4.2 (by decide) ?_
    show wp _ _ _ _ _ [.int (iI (m 163 ((y7).toNat)))] _ _
    have hr5 : rJ (m 163 ((y7).toNat)) := S.rg 163 ((y7).toNat) (nl rfl)
    refine wp_g (n := 1) (pc' := 188) (L' := [some (.ref 158), z1, z2, some (.int (iI y3)), some (.int (iI y4)), some (.int (iI y5)), some (.int (iI y6)), some (.int (iI y7)), z8, z9, z10, z11]) (st' := [.ref 158, .int (iI (m 163 ((y7).toNat)))]) rfl ?_
    refine wp_getf (v := .int (iI (m 158 5))) rfl rfl (S.cell 158 (nc rfl)) (by decide) rfl ?_
    have hr6 : rJ (m 158 5) := S.rg 158 5 (nl rfl)
    obtain ⟨p7, hW⟩ := hW
    obtain ⟨p8, hW⟩ := hW
    refine wp_div (a := (m 163 ((y7).toNat))) (b := (m 158 5)) rfl p7 hr5.2 p8 hr6.2 ?_
    refine wp_g (n := 2) (pc' := 195) (L' := [some (.ref 158), z1, z2, some (.int (iI y3)), some (.int (iI y4)), some (.int (iI y5)), some (.int (iI y6)), some (.int (iI y7)), some (.int (iI ((m 163 ((y7).toNat)) / (m 158 5)))), z9, z10, z11]) (st' := [.ref 158]) rfl ?_
    refine wp_getf (v := .ref 163) rfl rfl (S.cell 158 (nc rfl)) (by decide) rfl ?_
    refine wp_g (n := 1) (pc' := 200) (L' := [some (.ref 158), z1, z2, some (.int (iI y3)), some (.int (iI y4)), some (.int (iI y5)), some (.int (iI y6)), some (.int (iI y7)), some (.int (iI ((m 163 ((y7).toNat)) / (m 158 5)))), z9, z10, z11]) (st' := [.int (iI y7), .ref 163]) rfl ?_
    obtain ⟨p9, hW⟩ := hW
    refine wp_iald (n := 24) (F := (m 163)) rfl (S.cell 163 (nc rfl)) (by decide) p9.1 p9.2 (by decide) ?_
    show wp _ _ _ _ _ [.int (iI (m 163 ((y7).toNat)))] _ _
    refine wp_g (n := 1) (pc' := 202) (L' := [some (.ref 158), z1, z2, some (.int (iI y3)), some (.int (iI y4)), some (.int (iI y5)), some (.int (iI y6)), some (.int (iI y7)), some (.int (iI ((m 163 ((y7).toNat)) / (m 158 5)))), z9, z10, z11]) (st' := [.ref 158, .int (iI (m 163 ((y7).toNat)))]) rfl ?_
    refine wp_getf (v := .int (iI (m 158 5))) rfl rfl (S.cell 158 (nc rfl)) (by decide) rfl ?_
    obtain ⟨p10, hW⟩ := hW
    obtain ⟨p11, hW⟩ := hW
    refine wp_rem (a := (m 163 ((y7).toNat))) (b := (m 158 5)) rfl p10 hr5.2 p11 hr6.2 ?_
    refine wp_g (n := 3) (pc' := 212) (L' := [some (.ref 158), z1, z2, some (.int (iI y3)), some (.int (iI y4)), some (.int (iI y5)), some (.int (iI y6)), some (.int (iI y7)), some (.int (iI ((m 163 ((y7).toNat)) / (m 158 5)))), some (.int (iI ((m 163 ((y7).toNat)) % (m 158 5)))), z10, z11]) (st' := [.int (iI y5), .int (iI ((m 163 ((y7).toNat)) % (m 158 5)))]) rfl ?_
    obtain ⟨p12, hW⟩ := hW
    refine wp_icmpI (a := ((m 163 ((y7).toNat)) % (m 158 5))) (b := y5) rfl rfl p12.1 p12.2 hy5.1 hy5.2 (fun c13 => ?_) (fun c13 => ?_)
    · have dc13 := (Int.not_lt.mpr c13)
      have hW := hW.2 dc13
      refine wp_g (n := 3) (pc' := 224) (L' := [some (.ref 158), z1, z2, some (.int (iI y3)), some (.int (iI y4)), some (.int (iI y5)), some (.int (iI y6)), some (.int (iI y7)), some (.int (iI ((m 163 ((y7).toNat)) / (m 158 5)))), some (.int (iI ((m 163 ((y7).toNat)) % (m 158 5)))), some (.int (iI 0)), z11]) (st' := [.int (iI 0)]) rfl ?_
      refine wp_g (n := 1) (pc' := 253) (L' := [some (.ref 158), z1, z2, some (.int (iI y3)), some (.int (iI y4)), some (.int (iI y5)), some (.int (iI y6)), some (.int (iI y7)), some (.int (iI ((m 163 ((y7).toNat)) / (m 158 5)))), some (.int (iI ((m 163 ((y7).toNat)) % (m 158 5)))), some (.int (iI 0)), z11]) (st' := []) rfl ?_
      refine wp_g (n := 1) (pc' := 254) (L' := [some (.ref 158), z1, z2, some (.int (iI y3)), some (.int (iI y4)), some (.int (iI y5)), some (.int (iI y6)), some (.int (iI y7)), some (.int (iI ((m 163 ((y7).toNat)) / (m 158 5)))), some (.int (iI ((m 163 ((y7).toNat)) % (m 158 5)))), some (.int (iI 0)), z11]) (st' := [.ref 158]) rfl ?_
      refine wp_getf (v := .ref 193) rfl rfl (S.cell 158 (nc rfl)) (by decide) rfl ?_
      refine wp_g (n := 4) (pc' := 264) (L' := [some (.ref 158), z1, z2, some (.int (iI y3)), some (.int (iI y4)), some (.int (iI y5)), some (.int (iI y6)), some (.int (iI y7)), some (.int (iI ((m 163 ((y7).toNat)) / (m 158 5)))), some (.int (iI ((m 163 ((y7).toNat)) % (m 158 5)))), some (.int (iI 0)), z11]) (st' := [.int (iI y5), .int (iI y6), .int (iI ((m 163 ((y7).toNat)) / (m 158 5))), .int (iI 2), .ref 193]) rfl ?_
      refine wp_sub (a := y6) (b := y5) rfl ?_
      refine wp_mul (a := ((m 163 ((y7).toNat)) / (m 158 5))) (b := (y6 - y5)) rfl ?_
      refine wp_g (n := 1) (pc' := 268) (L' := [some (.ref 158), z1, z2, some (.int (iI y3)), some (.int (iI y4)), some (.int (iI y5)), some (.int (iI y6)), some (.int (iI y7)), some (.int (iI ((m 163 ((y7).toNat)) / (m 158 5)))), some (.int (iI ((m 163 ((y7).toNat)) % (m 158 5)))), some (.int (iI 0)), z11]) (st' := [.int (iI ((m 163 ((y7).toNat)) % (m 158 5))), .int (iI (((m 163 ((y7).toNat)) / (m 158 5)) * (y6 - y5))), .int (iI 2), .ref 193]) rfl ?_
      refine wp_add (a := (((m 163 ((y7).toNat)) / (m 158 5)) * (y6 - y5))) (b := ((m 163 ((y7).toNat)) % (m 158 5))) rfl ?_
      refine wp_g (n := 1) (pc' := 271) (L' := [some (.ref 158), z1, z2, some (.int (iI y3)), some (.int (iI y4)), some (.int (iI y5)), some (.int (iI y6)), some (.int (iI y7)), some (.int (iI ((m 163 ((y7).toNat)) / (m 158 5)))), some (.int (iI ((m 163 ((y7).toNat)) % (m 158 5)))), some (.int (iI 0)), z11]) (st' := [.int (iI y5), .int (iI ((((m 163 ((y7).toNat)) / (m 158 5)) * (y6 - y5)) + ((m 163 ((y7).toNat)) % (m 158 5)))), .int (iI 2), .ref 193]) rfl ?_
      refine wp_sub (a := ((((m 163 ((y7).toNat)) / (m 158 5)) * (y6 - y5)) + ((m 163 ((y7).toNat)) % (m 158 5)))) (b := y5) rfl ?_
      refine wp_mul (a := 2) (b := (((((m 163 ((y7).toNat)) / (m 158 5)) * (y6 - y5)) + ((m 163 ((y7).toNat)) % (m 158 5))) - y5)) rfl ?_
      refine wp_g (n := 1) (pc' := 274) (L' := [some (.ref 158), z1, z2, some (.int (iI y3)), some (.int (iI y4)), some (.int (iI y5)), some (.int (iI y6)), some (.int (iI y7)), some (.int (iI ((m 163 ((y7).toNat)) / (m 158 5)))), some (.int (iI ((m 163 ((y7).toNat)) % (m 158 5)))), some (.int (iI 0)), z11]) (st' := [.ref 158, .int (iI (2 * (((((m 163 ((y7).toNat)) / (m 158 5)) * (y6 - y5)) + ((m 163 ((y7).toNat)) % (m 158 5))) - y5))), .ref 193]) rfl ?_
      refine wp_getf (v := .ref 164) rfl rfl (S.cell 158 (nc rfl)) (by decide) rfl ?_
      refine wp_g (n := 1) (pc' := 279) (L' := [some (.ref 158), z1, z2, some (.int (iI y3)), some (.int (iI y4)), some (.int (iI y5)), some (.int (iI y6)), some (.int (iI y7)), some (.int (iI ((m 163 ((y7).toNat)) / (m 158 5)))), some (.int (iI ((m 163 ((y7).toNat)) % (m 158 5)))), some (.int (iI 0)), z11]) (st' := [.int (iI y7), .ref 164, .int (iI (2 * (((((m 163 ((y7).toNat)) / (m 158 5)) * (y6 - y5)) + ((m 163 ((y7).toNat)) % (m 158 5))) - y5))), .ref 193]) rfl ?_
      obtain ⟨p14, hW⟩ := hW
      refine wp_iald (n := 24) (F := (m 164)) rfl (S.cell 164 (nc rfl)) (by decide) p14.1 p14.2 (by decide) ?_
      show wp _ _ _ _ _ [.int (iI (m 164 ((y7).toNat))), .int (iI (2 * (((((m 163 ((y7).toNat)) / (m 158 5)) * (y6 - y5)) + ((m 163 ((y7).toNat)) % (m 158 5))) - y5))), .ref 193] _ _
      have hr15 : rJ (m 164 ((y7).toNat)) := S.rg 164 ((y7).toNat) (nl rfl)
      refine wp_add (a := (2 * (((((m 163 ((y7).toNat)) / (m 158 5)) * (y6 - y5)) + ((m 163 ((y7).toNat)) % (m 158 5))) - y5))) (b := (m 164 ((y7).toNat))) rfl ?_
      obtain ⟨p16, hW⟩ := hW
      refine wp_iald (n := 32) (F := (m 193)) rfl (S.cell 193 (nc rfl)) (by decide) p16.1 p16.2 (by decide) ?_
      show wp _ _ _ _ _ [.int (iI (m 193 ((((2 * (((((m 163 ((y7).toNat)) / (m 158 5)) * (y6 - y5)) + ((m 163 ((y7).toNat)) % (m 158 5))) - y5)) + (m 164 ((y7).toNat)))).toNat)))] _ _
      have hr17 : rJ (m 193 ((((2 * (((((m 163 ((y7).toNat)) / (m 158 5)) * (y6 - y5)) + ((m 163 ((y7).toNat)) % (m 158 5))) - y5)) + (m 164 ((y7).toNat)))).toNat)) := S.rg 193 ((((2 * (((((m 163 ((y7).toNat)) / (m 158 5)) * (y6 - y5)) + ((m 163 ((y7).toNat)) % (m 158 5))) - y5)) + (m 164 ((y7).toNat)))).toNat) (nl rfl)
      refine wp_g (n := 2) (pc' := 285) (L' := [some (.ref 158), z1, z2, some (.int (iI y3)), some (.int (iI y4)), some (.int (iI y5)), some (.int (iI y6)), some (.int (iI y7)), some (.int (iI ((m 163 ((y7).toNat)) / (m 158 5)))), some (.int (iI ((m 163 ((y7).toNat)) % (m 158 5)))), some (.int (iI 0)), some (.int (iI (m 193 ((((2 * (((((m 163 ((y7).toNat)) / (m 158 5)) * (y6 - y5)) + ((m 163 ((y7).toNat)) % (m 158 5))) - y5)) + (m 164 ((y7).toNat)))).toNat))))]) (st' := [.ref 158]) rfl ?_
      refine wp_getf (v := .ref 162) rfl rfl (S.cell 158 (nc rfl)) (by decide) rfl ?_
      refine wp_g (n := 2) (pc' := 291) (L' := [some (.ref 158), z1, z2, some (.int (iI y3)), some (.int (iI y4)), some (.int (iI y5)), some (.int (iI y6)), some (.int (iI y7)), some (.int (iI ((m 163 ((y7).toNat)) / (m 158 5)))), some (.int (iI ((m 163 ((y7).toNat)) % (m 158 5)))), some (.int (iI 0)), some (.int (iI (m 193 ((((2 * (((((m 163 ((y7).toNat)) / (m 158 5)) * (y6 - y5)) + ((m 163 ((y7).toNat)) % (m 158 5))) - y5)) + (m 164 ((y7).toNat)))).toNat))))]) (st' := [.ref 158, .int (iI y7), .ref 162]) rfl ?_
      refine wp_getf (v := .ref 164) rfl rfl (S.cell 158 (nc rfl)) (by decide) rfl ?_
      refine wp_g (n := 1) (pc' := 296) (L' := [some (.ref 158), z1, z2, some (.int (iI y3)), some (.int (iI y4)), some (.int (iI y5)), some (.int (iI y6)), some (.int (iI y7)), some (.int (iI ((m 163 ((y7).toNat)) / (m 158 5)))), some (.int (iI ((m 163 ((y7).toNat)) % (m 158 5)))), some (.int (iI 0)), some (.int (iI (m 193 ((((2 * (((((m 163 ((y7).toNat)) / (m 158 5)) * (y6 - y5)) + ((m 163 ((y7).toNat)) % (m 158 5))) - y5)) + (m 164 ((y7).toNat)))).toNat))))]) (st' := [.int (iI y7), .ref 164, .int (iI y7), .ref 162]) rfl ?_
      obtain ⟨p18, hW⟩ := hW
      refine wp_iald (n := 24) (F := (m 164)) rfl (S.cell 164 (nc rfl)) (by decide) p18.1 p18.2 (by decide) ?_
      show wp _ _ _ _ _ [.int (iI (m 164 ((y7).toNat))), .int (iI y7), .ref 162] _ _
      refine wp_ifI (a := (m 164 ((y7).toNat))) rfl rfl hr15.1 hr15.2 (fun c19 => ?_) (fun c19 => ?_)
      · have dc19 := c19
        have hW := hW.2 dc19
        refine wp_g (n := 1) (pc' := 315) (L' := [some (.ref 158), z1, z2, some (.int (iI y3)), some (.int (iI y4)), some (.int (iI y5)), some (.int (iI y6)), some (.int (iI y7)), some (.int (iI ((m 163 ((y7).toNat)) / (m 158 5)))), some (.int (iI ((m 163 ((y7).toNat)) % (m 158 5)))), some (.int (iI 0)), some (.int (iI (m 193 ((((2 * (((((m 163 ((y7).toNat)) / (m 158 5)) * (y6 - y5)) + ((m 163 ((y7).toNat)) % (m 158 5))) - y5)) + (m 164 ((y7).toNat)))).toNat))))]) (st' := [.int (iI (m 193 ((((2 * (((((m 163 ((y7).toNat)) / (m 158 5)) * (y6 - y5)) + ((m 163 ((y7).toNat)) % (m 158 5))) - y5)) + (m 164 ((y7).toNat)))).toNat))), .int (iI y7), .ref 162]) rfl ?_
        obtain ⟨p21, hW⟩ := hW
        refine wp_iasF (n := 24) (F := (m 162)) (y := (m 193 ((((2 * (((((m 163 ((y7).toNat)) / (m 158 5)) * (y6 - y5)) + ((m 163 ((y7).toNat)) % (m 158 5))) - y5)) + (m 164 ((y7).toNat)))).toNat))) rfl (S.cell 162 (nc rfl)) p21.1 p21.2 (by decide) (fun H20 hl20 hz20 hf20 => ?_)
        have S : ST H20 (up m 162 (up (m 162) ((y7).toNat) (m 193 ((((2 * (((((m 163 ((y7).toNat)) / (m 158 5)) * (y6 - y5)) + ((m 163 ((y7).toNat)) % (m 158 5))) - y5)) + (m 164 ((y7).toNat)))).toNat)))) γ t := S.setI 162 (nc rfl) hl20 hz20 hf20 hr17.1 hr17.2
        refine wp_iinc (L' := [some (.ref 158), z1, z2, some (.int (iI y3)), some (.int (iI y4)), some (.int (iI y5)), some (.int (iI y6)), some (.int (iI (y7 + 1))), some (.int (iI ((m 163 ((y7).toNat)) / (m 158 5)))), some (.int (iI ((m 163 ((y7).toNat)) % (m 158 5)))), some (.int (iI 0)), some (.int (iI (m 193 ((((2 * (((((m 163 ((y7).toNat)) / (m 158 5)) * (y6 - y5)) + ((m 163 ((y7).toNat)) % (m 158 5))) - y5)) + (m 164 ((y7).toNat)))).toNat))))]) (a := y7) rfl rfl rfl ?_
        refine wp_g (n := 1) (pc' := 171) (L' := [some (.ref 158), z1, z2, some (.int (iI y3)), some (.int (iI y4)), some (.int (iI y5)), some (.int (iI y6)), some (.int (iI (y7 + 1))), some (.int (iI ((m 163 ((y7).toNat)) / (m 158 5)))), some (.int (iI ((m 163 ((y7).toNat)) % (m 158 5)))), some (.int (iI 0)), some (.int (iI (m 193 ((((2 * (((((m 163 ((y7).toNat)) / (m 158 5)) * (y6 - y5)) + ((m 163 ((y7).toNat)) % (m 158 5))) - y5)) + (m 164 ((y7).toNat)))).toNat))))]) (st' := []) rfl ?_
        exact hW z1 z2 (some (.int (iI ((m 163 ((y7).toNat)) / (m 158 5))))) (some (.int (iI ((m 163 ((y7).toNat)) % (m 158 5))))) (some (.int (iI 0))) (some (.int (iI (m 193 ((((2 * (((((m 163 ((y7).toNat)) / (m 158 5)) * (y6 - y5)) + ((m 163 ((y7).toNat)) % (m 158 5))) - y5)) + (m 164 ((y7).toNat)))).toNat))))) _ S
      · have dc19 := (Classical.not_not.mp c19)
        have hW := hW.1 dc19
        refine wp_g (n := 3) (pc' := 305) (L' := [some (.ref 158), z1, z2, some (.int (iI y3)), some (.int (iI y4)), some (.int (iI y5)), some (.int (iI y6)), some (.int (iI y7)), some (.int (iI ((m 163 ((y7).toNat)) / (m 158 5)))), some (.int (iI ((m 163 ((y7).toNat)) % (m 158 5)))), some (.int (iI 0)), some (.int (iI (m 193 ((((2 * (((((m 163 ((y7).toNat)) / (m 158 5)) * (y6 - y5)) + ((m 163 ((y7).toNat)) % (m 158 5))) - y5)) + (m 164 ((y7).toNat)))).toNat))))]) (st' := [.int (iI 1), .int (iI y5), .int (iI ((m 163 ((y7).toNat)) % (m 158 5))), .int (iI y7), .ref 162]) rfl ?_
        refine wp_sub (a := y5) (b := 1) rfl ?_
        obtain ⟨p22, hW⟩ := hW
        refine wp_icmpI (a := ((m 163 ((y7).toNat)) % (m 158 5))) (b := (y5 - 1)) rfl rfl p12.1 p12.2 p22.1 p22.2 (fun c23 => ?_) (fun c23 => ?_)
        · have dc23 := c23
          have hW := hW.2 dc23
          refine wp_g (n := 1) (pc' := 315) (L' := [some (.ref 158), z1, z2, some (.int (iI y3)), some (.int (iI y4)), some (.int (iI y5)), some (.int (iI y6)), some (.int (iI y7)), some (.int (iI ((m 163 ((y7).toNat)) / (m 158 5)))), some (.int (iI ((m 163 ((y7).toNat)) % (m 158 5)))), some (.int (iI 0)), some (.int (iI (m 193 ((((2 * (((((m 163 ((y7).toNat)) / (m 158 5)) * (y6 - y5)) + ((m 163 ((y7).toNat)) % (m 158 5))) - y5)) + (m 164 ((y7).toNat)))).toNat))))]) (st' := [.int (iI (m 193 ((((2 * (((((m 163 ((y7).toNat)) / (m 158 5)) * (y6 - y5)) + ((m 163 ((y7).toNat)) % (m 158 5))) - y5)) + (m 164 ((y7).toNat)))).toNat))), .int (iI y7), .ref 162]) rfl ?_
          obtain ⟨p25, hW⟩ := hW
          refine wp_iasF (n := 24) (F := (m 162)) (y := (m 193 ((((2 * (((((m 163 ((y7).toNat)) / (m 158 5)) * (y6 - y5)) + ((m 163 ((y7).toNat)) % (m 158 5))) - y5)) + (m 164 ((y7).toNat)))).toNat))) rfl (S.cell 162 (nc rfl)) p25.1 p25.2 (by decide) (fun H24 hl24 hz24 hf24 => ?_)
          have S : ST H24 (up m 162 (up (m 162) ((y7).toNat) (m 193 ((((2 * (((((m 163 ((y7).toNat)) / (m 158 5)) * (y6 - y5)) + ((m 163 ((y7).toNat)) % (m 158 5))) - y5)) + (m 164 ((y7).toNat)))).toNat)))) γ t := S.setI 162 (nc rfl) hl24 hz24 hf24 hr17.1 hr17.2
          refine wp_iinc (L' := [some (.ref 158), z1, z2, some (.int (iI y3)), some (.int (iI y4)), some (.int (iI y5)), some (.int (iI y6)), some (.int (iI (y7 + 1))), some (.int (iI ((m 163 ((y7).toNat)) / (m 158 5)))), some (.int (iI ((m 163 ((y7).toNat)) % (m 158 5)))), some (.int (iI 0)), some (.int (iI (m 193 ((((2 * (((((m 163 ((y7).toNat)) / (m 158 5)) * (y6 - y5)) + ((m 163 ((y7).toNat)) % (m 158 5))) - y5)) + (m 164 ((y7).toNat)))).toNat))))]) (a := y7) rfl rfl rfl ?_
          refine wp_g (n := 1) (pc' := 171) (L' := [some (.ref 158), z1, z2, some (.int (iI y3)), some (.int (iI y4)), some (.int (iI y5)), some (.int (iI y6)), some (.int (iI (y7 + 1))), some (.int (iI ((m 163 ((y7).toNat)) / (m 158 5)))), some (.int (iI ((m 163 ((y7).toNat)) % (m 158 5)))), some (.int (iI 0)), some (.int (iI (m 193 ((((2 * (((((m 163 ((y7).toNat)) / (m 158 5)) * (y6 - y5)) + ((m 163 ((y7).toNat)) % (m 158 5))) - y5)) + (m 164 ((y7).toNat)))).toNat))))]) (st' := []) rfl ?_
          exact hW z1 z2 (some (.int (iI ((m 163 ((y7).toNat)) / (m 158 5))))) (some (.int (iI ((m 163 ((y7).toNat)) % (m 158 5))))) (some (.int (iI 0))) (some (.int (iI (m 193 ((((2 * (((((m 163 ((y7).toNat)) / (m 158 5)) * (y6 - y5)) + ((m 163 ((y7).toNat)) % (m 158 5))) - y5)) + (m 164 ((y7).toNat)))).toNat))))) _ S
        · have dc23 := (Classical.not_not.mp c23)
          have hW := hW.1 dc23
          refine wp_g (n := 2) (pc' := 315) (L' := [some (.ref 158), z1, z2, some (.int (iI y3)), some (.int (iI y4)), some (.int (iI y5)), some (.int (iI y6)), some (.int (iI y7)), some (.int (iI ((m 163 ((y7).toNat)) / (m 158 5)))), some (.int (iI ((m 163 ((y7).toNat)) % (m 158 5)))), some (.int (iI 0)), some (.int (iI (m 193 ((((2 * (((((m 163 ((y7).toNat)) / (m 158 5)) * (y6 - y5)) + ((m 163 ((y7).toNat)) % (m 158 5))) - y5)) + (m 164 ((y7).toNat)))).toNat))))]) (st' := [.int (iI y3), .int (iI y7), .ref 162]) rfl ?_
          obtain ⟨p27, hW⟩ := hW
          refine wp_iasF (n := 24) (F := (m 162)) (y := y3) rfl (S.cell 162 (nc rfl)) p27.1 p27.2 (by decide) (fun H26 hl26 hz26 hf26 => ?_)
          have S : ST H26 (up m 162 (up (m 162) ((y7).toNat) y3)) γ t := S.setI 162 (nc rfl) hl26 hz26 hf26 hy3.1 hy3.2
          refine wp_iinc (L' := [some (.ref 158), z1, z2, some (.int (iI y3)), some (.int (iI y4)), some (.int (iI y5)), some (.int (iI y6)), some (.int (iI (y7 + 1))), some (.int (iI ((m 163 ((y7).toNat)) / (m 158 5)))), some (.int (iI ((m 163 ((y7).toNat)) % (m 158 5)))), some (.int (iI 0)), some (.int (iI (m 193 ((((2 * (((((m 163 ((y7).toNat)) / (m 158 5)) * (y6 - y5)) + ((m 163 ((y7).toNat)) % (m 158 5))) - y5)) + (m 164 ((y7).toNat)))).toNat))))]) (a := y7) rfl rfl rfl ?_
          refine wp_g (n := 1) (pc' := 171) (L' := [some (.ref 158), z1, z2, some (.int (iI y3)), some (.int (iI y4)), some (.int (iI y5)), some (.int (iI y6)), some (.int (iI (y7 + 1))), some (.int (iI ((m 163 ((y7).toNat)) / (m 158 5)))), some (.int (iI ((m 163 ((y7).toNat)) % (m 158 5)))), some (.int (iI 0)), some (.int (iI (m 193 ((((2 * (((((m 163 ((y7).toNat)) / (m 158 5)) * (y6 - y5)) + ((m 163 ((y7).toNat)) % (m 158 5))) - y5)) + (m 164 ((y7).toNat)))).toNat))))]) (st' := []) rfl ?_
          exact hW z1 z2 (some (.int (iI ((m 163 ((y7).toNat)) / (m 158 5))))) (some (.int (iI ((m 163 ((y7).toNat)) % (m 158 5))))) (some (.int (iI 0))) (some (.int (iI (m 193 ((((2 * (((((m 163 ((y7).toNat)) / (m 158 5)) * (y6 - y5)) + ((m 163 ((y7).toNat)) % (m 158 5))) - y5)) + (m 164 ((y7).toNat)))).toNat))))) _ S
    · have dc13 := (Int.not_le.mp c13)
      have hW := hW.1 dc13
      refine wp_g (n := 4) (pc' := 224) (L' := [some (.ref 158), z1, z2, some (.int (iI y3)), some (.int (iI y4)), some (.int (iI y5)), some (.int (iI y6)), some (.int (iI y7)), some (.int (iI ((m 163 ((y7).toNat)) / (m 158 5)))), some (.int (iI ((m 163 ((y7).toNat)) % (m 158 5)))), some (.int (iI 1)), z11]) (st' := [.int (iI 1)]) rfl ?_
      refine wp_g (n := 1) (pc' := 227) (L' := [some (.ref 158), z1, z2, some (.int (iI y3)), some (.int (iI y4)), some (.int (iI y5)), some (.int (iI y6)), some (.int (iI y7)), some (.int (iI ((m 163 ((y7).toNat)) / (m 158 5)))), some (.int (iI ((m 163 ((y7).toNat)) % (m 158 5)))), some (.int (iI 1)), z11]) (st' := []) rfl ?_
      refine wp_g (n := 1) (pc' := 228) (L' := [some (.ref 158), z1, z2, some (.int (iI y3)), some (.int (iI y4)), some (.int (iI y5)), some (.int (iI y6)), some (.int (iI y7)), some (.int (iI ((m 163 ((y7).toNat)) / (m 158 5)))), some (.int (iI ((m 163 ((y7).toNat)) % (m 158 5)))), some (.int (iI 1)), z11]) (st' := [.ref 158]) rfl ?_
      refine wp_getf (v := .ref 192) rfl rfl (S.cell 158 (nc rfl)) (by decide) rfl ?_
      refine wp_g (n := 3) (pc' := 236) (L' := [some (.ref 158), z1, z2, some (.int (iI y3)), some (.int (iI y4)), some (.int (iI y5)), some (.int (iI y6)), some (.int (iI y7)), some (.int (iI ((m 163 ((y7).toNat)) / (m 158 5)))), some (.int (iI ((m 163 ((y7).toNat)) % (m 158 5)))), some (.int (iI 1)), z11]) (st' := [.int (iI y5), .int (iI ((m 163 ((y7).toNat)) / (m 158 5))), .int (iI 2), .ref 192]) rfl ?_
      refine wp_mul (a := ((m 163 ((y7).toNat)) / (m 158 5))) (b := y5) rfl ?_
      refine wp_g (n := 1) (pc' := 239) (L' := [some (.ref 158), z1, z2, some (.int (iI y3)), some (.int (iI y4)), some (.int (iI y5)), some (.int (iI y6)), some (.int (iI y7)), some (.int (iI ((m 163 ((y7).toNat)) / (m 158 5)))), some (.int (iI ((m 163 ((y7).toNat)) % (m 158 5)))), some (.int (iI 1)), z11]) (st' := [.int (iI ((m 163 ((y7).toNat)) % (m 158 5))), .int (iI (((m 163 ((y7).toNat)) / (m 158 5)) * y5)), .int (iI 2), .ref 192]) rfl ?_
      refine wp_add (a := (((m 163 ((y7).toNat)) / (m 158 5)) * y5)) (b := ((m 163 ((y7).toNat)) % (m 158 5))) rfl ?_
      refine wp_mul (a := 2) (b := ((((m 163 ((y7).toNat)) / (m 158 5)) * y5) + ((m 163 ((y7).toNat)) % (m 158 5)))) rfl ?_
      refine wp_g (n := 1) (pc' := 242) (L' := [some (.ref 158), z1, z2, some (.int (iI y3)), some (.int (iI y4)), some (.int (iI y5)), some (.int (iI y6)), some (.int (iI y7)), some (.int (iI ((m 163 ((y7).toNat)) / (m 158 5)))), some (.int (iI ((m 163 ((y7).toNat)) % (m 158 5)))), some (.int (iI 1)), z11]) (st' := [.ref 158, .int (iI (2 * ((((m 163 ((y7).toNat)) / (m 158 5)) * y5) + ((m 163 ((y7).toNat)) % (m 158 5))))), .ref 192]) rfl ?_
      refine wp_getf (v := .ref 164) rfl rfl (S.cell 158 (nc rfl)) (by decide) rfl ?_
      refine wp_g (n := 1) (pc' := 247) (L' := [some (.ref 158), z1, z2, some (.int (iI y3)), some (.int (iI y4)), some (.int (iI y5)), some (.int (iI y6)), some (.int (iI y7)), some (.int (iI ((m 163 ((y7).toNat)) / (m 158 5)))), some (.int (iI ((m 163 ((y7).toNat)) % (m 158 5)))), some (.int (iI 1)), z11]) (st' := [.int (iI y7), .ref 164, .int (iI (2 * ((((m 163 ((y7).toNat)) / (m 158 5)) * y5) + ((m 163 ((y7).toNat)) % (m 158 5))))), .ref 192]) rfl ?_
      obtain ⟨p28, hW⟩ := hW
      refine wp_iald (n := 24) (F := (m 164)) rfl (S.cell 164 (nc rfl)) (by decide) p28.1 p28.2 (by decide) ?_
      show wp _ _ _ _ _ [.int (iI (m 164 ((y7).toNat))), .int (iI (2 * ((((m 163 ((y7).toNat)) / (m 158 5)) * y5) + ((m 163 ((y7).toNat)) % (m 158 5))))), .ref 192] _ _
      have hr29 : rJ (m 164 ((y7).toNat)) := S.rg 164 ((y7).toNat) (nl rfl)
      refine wp_add (a := (2 * ((((m 163 ((y7).toNat)) / (m 158 5)) * y5) + ((m 163 ((y7).toNat)) % (m 158 5))))) (b := (m 164 ((y7).toNat))) rfl ?_
      obtain ⟨p30, hW⟩ := hW
      refine wp_iald (n := 32) (F := (m 192)) rfl (S.cell 192 (nc rfl)) (by decide) p30.1 p30.2 (by decide) ?_
      show wp _ _ _ _ _ [.int (iI (m 192 ((((2 * ((((m 163 ((y7).toNat)) / (m 158 5)) * y5) + ((m 163 ((y7).toNat)) % (m 158 5)))) + (m 164 ((y7).toNat)))).toNat)))] _ _
      have hr31 : rJ (m 192 ((((2 * ((((m 163 ((y7).toNat)) / (m 158 5)) * y5) + ((m 163 ((y7).toNat)) % (m 158 5)))) + (m 164 ((y7).toNat)))).toNat)) := S.rg 192 ((((2 * ((((m 163 ((y7).toNat)) / (m 158 5)) * y5) + ((m 163 ((y7).toNat)) % (m 158 5)))) + (m 164 ((y7).toNat)))).toNat) (nl rfl)
      refine wp_g (n := 3) (pc' := 285) (L' := [some (.ref 158), z1, z2, some (.int (iI y3)), some (.int (iI y4)), some (.int (iI y5)), some (.int (iI y6)), some (.int (iI y7)), some (.int (iI ((m 163 ((y7).toNat)) / (m 158 5)))), some (.int (iI ((m 163 ((y7).toNat)) % (m 158 5)))), some (.int (iI 1)), some (.int (iI (m 192 ((((2 * ((((m 163 ((y7).toNat)) / (m 158 5)) * y5) + ((m 163 ((y7).toNat)) % (m 158 5)))) + (m 164 ((y7).toNat)))).toNat))))]) (st' := [.ref 158]) rfl ?_
      refine wp_getf (v := .ref 162) rfl rfl (S.cell 158 (nc rfl)) (by decide) rfl ?_
      refine wp_g (n := 2) (pc' := 291) (L' := [some (.ref 158), z1, z2, some (.int (iI y3)), some (.int (iI y4)), some (.int (iI y5)), some (.int (iI y6)), some (.int (iI y7)), some (.int (iI ((m 163 ((y7).toNat)) / (m 158 5)))), some (.int (iI ((m 163 ((y7).toNat)) % (m 158 5)))), some (.int (iI 1)), some (.int (iI (m 192 ((((2 * ((((m 163 ((y7).toNat)) / (m 158 5)) * y5) + ((m 163 ((y7).toNat)) % (m 158 5)))) + (m 164 ((y7).toNat)))).toNat))))]) (st' := [.ref 158, .int (iI y7), .ref 162]) rfl ?_
      refine wp_getf (v := .ref 164) rfl rfl (S.cell 158 (nc rfl)) (by decide) rfl ?_
      refine wp_g (n := 1) (pc' := 296) (L' := [some (.ref 158), z1, z2, some (.int (iI y3)), some (.int (iI y4)), some (.int (iI y5)), some (.int (iI y6)), some (.int (iI y7)), some (.int (iI ((m 163 ((y7).toNat)) / (m 158 5)))), some (.int (iI ((m 163 ((y7).toNat)) % (m 158 5)))), some (.int (iI 1)), some (.int (iI (m 192 ((((2 * ((((m 163 ((y7).toNat)) / (m 158 5)) * y5) + ((m 163 ((y7).toNat)) % (m 158 5)))) + (m 164 ((y7).toNat)))).toNat))))]) (st' := [.int (iI y7), .ref 164, .int (iI y7), .ref 162]) rfl ?_
      obtain ⟨p32, hW⟩ := hW
      refine wp_iald (n := 24) (F := (m 164)) rfl (S.cell 164 (nc rfl)) (by decide) p32.1 p32.2 (by decide) ?_
      show wp _ _ _ _ _ [.int (iI (m 164 ((y7).toNat))), .int (iI y7), .ref 162] _ _
      refine wp_ifI (a := (m 164 ((y7).toNat))) rfl rfl hr29.1 hr29.2 (fun c33 => ?_) (fun c33 => ?_)
      · have dc33 := c33
        have hW := hW.2 dc33
        refine wp_g (n := 1) (pc' := 315) (L' := [some (.ref 158), z1, z2, some (.int (iI y3)), some (.int (iI y4)), some (.int (iI y5)), some (.int (iI y6)), some (.int (iI y7)), some (.int (iI ((m 163 ((y7).toNat)) / (m 158 5)))), some (.int (iI ((m 163 ((y7).toNat)) % (m 158 5)))), some (.int (iI 1)), some (.int (iI (m 192 ((((2 * ((((m 163 ((y7).toNat)) / (m 158 5)) * y5) + ((m 163 ((y7).toNat)) % (m 158 5)))) + (m 164 ((y7).toNat)))).toNat))))]) (st' := [.int (iI (m 192 ((((2 * ((((m 163 ((y7).toNat)) / (m 158 5)) * y5) + ((m 163 ((y7).toNat)) % (m 158 5)))) + (m 164 ((y7).toNat)))).toNat))), .int (iI y7), .ref 162]) rfl ?_
        obtain ⟨p35, hW⟩ := hW
        refine wp_iasF (n := 24) (F := (m 162)) (y := (m 192 ((((2 * ((((m 163 ((y7).toNat)) / (m 158 5)) * y5) + ((m 163 ((y7).toNat)) % (m 158 5)))) + (m 164 ((y7).toNat)))).toNat))) rfl (S.cell 162 (nc rfl)) p35.1 p35.2 (by decide) (fun H34 hl34 hz34 hf34 => ?_)
        have S : ST H34 (up m 162 (up (m 162) ((y7).toNat) (m 192 ((((2 * ((((m 163 ((y7).toNat)) / (m 158 5)) * y5) + ((m 163 ((y7).toNat)) % (m 158 5)))) + (m 164 ((y7).toNat)))).toNat)))) γ t := S.setI 162 (nc rfl) hl34 hz34 hf34 hr31.1 hr31.2
        refine wp_iinc (L' := [some (.ref 158), z1, z2, some (.int (iI y3)), some (.int (iI y4)), some (.int (iI y5)), some (.int (iI y6)), some (.int (iI (y7 + 1))), some (.int (iI ((m 163 ((y7).toNat)) / (m 158 5)))), some (.int (iI ((m 163 ((y7).toNat)) % (m 158 5)))), some (.int (iI 1)), some (.int (iI (m 192 ((((2 * ((((m 163 ((y7).toNat)) / (m 158 5)) * y5) + ((m 163 ((y7).toNat)) % (m 158 5)))) + (m 164 ((y7).toNat)))).toNat))))]) (a := y7) rfl rfl rfl ?_
        refine wp_g (n := 1) (pc' := 171) (L' := [some (.ref 158), z1, z2, some (.int (iI y3)), some (.int (iI y4)), some (.int (iI y5)), some (.int (iI y6)), some (.int (iI (y7 + 1))), some (.int (iI ((m 163 ((y7).toNat)) / (m 158 5)))), some (.int (iI ((m 163 ((y7).toNat)) % (m 158 5)))), some (.int (iI 1)), some (.int (iI (m 192 ((((2 * ((((m 163 ((y7).toNat)) / (m 158 5)) * y5) + ((m 163 ((y7).toNat)) % (m 158 5)))) + (m 164 ((y7).toNat)))).toNat))))]) (st' := []) rfl ?_
        exact hW z1 z2 (some (.int (iI ((m 163 ((y7).toNat)) / (m 158 5))))) (some (.int (iI ((m 163 ((y7).toNat)) % (m 158 5))))) (some (.int (iI 1))) (some (.int (iI (m 192 ((((2 * ((((m 163 ((y7).toNat)) / (m 158 5)) * y5) + ((m 163 ((y7).toNat)) % (m 158 5)))) + (m 164 ((y7).toNat)))).toNat))))) _ S
      · have dc33 := (Classical.not_not.mp c33)
        have hW := hW.1 dc33
        refine wp_g (n := 3) (pc' := 305) (L' := [some (.ref 158), z1, z2, some (.int (iI y3)), some (.int (iI y4)), some (.int (iI y5)), some (.int (iI y6)), some (.int (iI y7)), some (.int (iI ((m 163 ((y7).toNat)) / (m 158 5)))), some (.int (iI ((m 163 ((y7).toNat)) % (m 158 5)))), some (.int (iI 1)), some (.int (iI (m 192 ((((2 * ((((m 163 ((y7).toNat)) / (m 158 5)) * y5) + ((m 163 ((y7).toNat)) % (m 158 5)))) + (m 164 ((y7).toNat)))).toNat))))]) (st' := [.int (iI 1), .int (iI y5), .int (iI ((m 163 ((y7).toNat)) % (m 158 5))), .int (iI y7), .ref 162]) rfl ?_
        refine wp_sub (a := y5) (b := 1) rfl ?_
        obtain ⟨p36, hW⟩ := hW
        refine wp_icmpI (a := ((m 163 ((y7).toNat)) % (m 158 5))) (b := (y5 - 1)) rfl rfl p12.1 p12.2 p36.1 p36.2 (fun c37 => ?_) (fun c37 => ?_)
        · have dc37 := c37
          have hW := hW.2 dc37
          refine wp_g (n := 1) (pc' := 315) (L' := [some (.ref 158), z1, z2, some (.int (iI y3)), some (.int (iI y4)), some (.int (iI y5)), some (.int (iI y6)), some (.int (iI y7)), some (.int (iI ((m 163 ((y7).toNat)) / (m 158 5)))), some (.int (iI ((m 163 ((y7).toNat)) % (m 158 5)))), some (.int (iI 1)), some (.int (iI (m 192 ((((2 * ((((m 163 ((y7).toNat)) / (m 158 5)) * y5) + ((m 163 ((y7).toNat)) % (m 158 5)))) + (m 164 ((y7).toNat)))).toNat))))]) (st' := [.int (iI (m 192 ((((2 * ((((m 163 ((y7).toNat)) / (m 158 5)) * y5) + ((m 163 ((y7).toNat)) % (m 158 5)))) + (m 164 ((y7).toNat)))).toNat))), .int (iI y7), .ref 162]) rfl ?_
          obtain ⟨p39, hW⟩ := hW
          refine wp_iasF (n := 24) (F := (m 162)) (y := (m 192 ((((2 * ((((m 163 ((y7).toNat)) / (m 158 5)) * y5) + ((m 163 ((y7).toNat)) % (m 158 5)))) + (m 164 ((y7).toNat)))).toNat))) rfl (S.cell 162 (nc rfl)) p39.1 p39.2 (by decide) (fun H38 hl38 hz38 hf38 => ?_)
          have S : ST H38 (up m 162 (up (m 162) ((y7).toNat) (m 192 ((((2 * ((((m 163 ((y7).toNat)) / (m 158 5)) * y5) + ((m 163 ((y7).toNat)) % (m 158 5)))) + (m 164 ((y7).toNat)))).toNat)))) γ t := S.setI 162 (nc rfl) hl38 hz38 hf38 hr31.1 hr31.2
          refine wp_iinc (L' := [some (.ref 158), z1, z2, some (.int (iI y3)), some (.int (iI y4)), some (.int (iI y5)), some (.int (iI y6)), some (.int (iI (y7 + 1))), some (.int (iI ((m 163 ((y7).toNat)) / (m 158 5)))), some (.int (iI ((m 163 ((y7).toNat)) % (m 158 5)))), some (.int (iI 1)), some (.int (iI (m 192 ((((2 * ((((m 163 ((y7).toNat)) / (m 158 5)) * y5) + ((m 163 ((y7).toNat)) % (m 158 5)))) + (m 164 ((y7).toNat)))).toNat))))]) (a := y7) rfl rfl rfl ?_
          refine wp_g (n := 1) (pc' := 171) (L' := [some (.ref 158), z1, z2, some (.int (iI y3)), some (.int (iI y4)), some (.int (iI y5)), some (.int (iI y6)), some (.int (iI (y7 + 1))), some (.int (iI ((m 163 ((y7).toNat)) / (m 158 5)))), some (.int (iI ((m 163 ((y7).toNat)) % (m 158 5)))), some (.int (iI 1)), some (.int (iI (m 192 ((((2 * ((((m 163 ((y7).toNat)) / (m 158 5)) * y5) + ((m 163 ((y7).toNat)) % (m 158 5)))) + (m 164 ((y7).toNat)))).toNat))))]) (st' := []) rfl ?_
          exact hW z1 z2 (some (.int (iI ((m 163 ((y7).toNat)) / (m 158 5))))) (some (.int (iI ((m 163 ((y7).toNat)) % (m 158 5))))) (some (.int (iI 1))) (some (.int (iI (m 192 ((((2 * ((((m 163 ((y7).toNat)) / (m 158 5)) * y5) + ((m 163 ((y7).toNat)) % (m 158 5)))) + (m 164 ((y7).toNat)))).toNat))))) _ S
        · have dc37 := (Classical.not_not.mp c37)
          have hW := hW.1 dc37
          refine wp_g (n := 2) (pc' := 315) (L' := [some (.ref 158), z1, z2, some (.int (iI y3)), some (.int (iI y4)), some (.int (iI y5)), some (.int (iI y6)), some (.int (iI y7)), some (.int (iI ((m 163 ((y7).toNat)) / (m 158 5)))), some (.int (iI ((m 163 ((y7).toNat)) % (m 158 5)))), some (.int (iI 1)), some (.int (iI (m 192 ((((2 * ((((m 163 ((y7).toNat)) / (m 158 5)) * y5) + ((m 163 ((y7).toNat)) % (m 158 5)))) + (m 164 ((y7).toNat)))).toNat))))]) (st' := [.int (iI y3), .int (iI y7), .ref 162]) rfl ?_
          obtain ⟨p41, hW⟩ := hW
          refine wp_iasF (n := 24) (F := (m 162)) (y := y3) rfl (S.cell 162 (nc rfl)) p41.1 p41.2 (by decide) (fun H40 hl40 hz40 hf40 => ?_)
          have S : ST H40 (up m 162 (up (m 162) ((y7).toNat) y3)) γ t := S.setI 162 (nc rfl) hl40 hz40 hf40 hy3.1 hy3.2
          refine wp_iinc (L' := [some (.ref 158), z1, z2, some (.int (iI y3)), some (.int (iI y4)), some (.int (iI y5)), some (.int (iI y6)), some (.int (iI (y7 + 1))), some (.int (iI ((m 163 ((y7).toNat)) / (m 158 5)))), some (.int (iI ((m 163 ((y7).toNat)) % (m 158 5)))), some (.int (iI 1)), some (.int (iI (m 192 ((((2 * ((((m 163 ((y7).toNat)) / (m 158 5)) * y5) + ((m 163 ((y7).toNat)) % (m 158 5)))) + (m 164 ((y7).toNat)))).toNat))))]) (a := y7) rfl rfl rfl ?_
          refine wp_g (n := 1) (pc' := 171) (L' := [some (.ref 158), z1, z2, some (.int (iI y3)), some (.int (iI y4)), some (.int (iI y5)), some (.int (iI y6)), some (.int (iI (y7 + 1))), some (.int (iI ((m 163 ((y7).toNat)) / (m 158 5)))), some (.int (iI ((m 163 ((y7).toNat)) % (m 158 5)))), some (.int (iI 1)), some (.int (iI (m 192 ((((2 * ((((m 163 ((y7).toNat)) / (m 158 5)) * y5) + ((m 163 ((y7).toNat)) % (m 158 5)))) + (m 164 ((y7).toNat)))).toNat))))]) (st' := []) rfl ?_
          exact hW z1 z2 (some (.int (iI ((m 163 ((y7).toNat)) / (m 158 5))))) (some (.int (iI ((m 163 ((y7).toNat)) % (m 158 5))))) (some (.int (iI 1))) (some (.int (iI (m 192 ((((2 * ((((m 163 ((y7).toNat)) / (m 158 5)) * y5) + ((m 163 ((y7).toNat)) % (m 158 5)))) + (m 164 ((y7).toNat)))).toNat))))) _ S
