abbrev W_X8_isSlot (E : am_E) (k : Nat) (x1 : Int) (m : MM) (γ : GM) (t : am_H) (Q : Int → MM → GM → am_H → Prop) : Prop := (((x1 < 0) → (Q 0 m γ t)) ∧ (¬ (x1 < 0) → (((x1 < 3) → (Q 1 m γ t)) ∧ (¬ (x1 < 3) → (Q 0 m γ t)))))
theorem vc_X8_isSlot {E : am_E} {k : Nat} {x1 : Int} {m : MM} {γ : GM} {t : am_H} {Q : Int → MM → GM → am_H → Prop} (hx1 : rJ x1) (hW : W_X8_isSlot E k x1 m γ t Q) : TI E k 176 [.int (iI x1)] m γ t Q := by
  unfold W_X8_isSlot at hW
  intro h S
  refine wp_g (n := 1) (pc' := 1) (L' := [some (.int (iI x1))]) (st' := [.int (iI x1)]) rfl ?_
  refine wp_ifI (a := x1) rfl rfl hx1.1 hx1.2 (fun c1 => ?_) (fun c1 => ?_)
  · have dc1 := c1
    have hW := hW.1 dc1
    refine wp_g (n := 1) (pc' := 14) (L' := [some (.int (iI x1))]) (st' := [.int (iI 0)]) rfl ?_
    exact wp_zret rfl rfl (by decide) ⟨_, _, _, _, rfl, (by decide), S, hW⟩
  · have dc1 := c1
    have hW := hW.2 dc1
    refine wp_g (n := 2) (pc' := 6) (L' := [some (.int (iI x1))]) (st' := [.int (iI 3), .int (iI x1)]) rfl ?_
    refine wp_icmpI (a := x1) (b := 3) rfl rfl hx1.1 hx1.2 (by decide) (by decide) (fun c2 => ?_) (fun c2 => ?_)
    · have dc2 := (Int.not_lt.mpr c2)
      have hW := hW.2 dc2
      refine wp_g (n := 1) (pc' := 14) (L' := [some (.int (iI x1))]) (st' := [.int (iI 0)]) rfl ?_
      exact wp_zret rfl rfl (by decide) ⟨_, _, _, _, rfl, (by decide), S, hW⟩
    · have dc2 := (Int.not_le.mp c2)
      have hW := hW.1 dc2
      refine wp_g (n := 2) (pc' := 14) (L' := [some (.int (iI x1))]) (st' := [.int (iI 1)]) rfl ?_
      exact wp_zret rfl rfl (by decide) ⟨_, _, _, _, rfl, (by decide), S, hW⟩
abbrev W_X8_isBit (E : am_E) (k : Nat) (x1 : Int) (m : MM) (γ : GM) (t : am_H) (Q : Int → MM → GM → am_H → Prop) : Prop := (((x1 = 0) → (Q 1 m γ t)) ∧ (¬ (x1 = 0) → (((x1 = 1) → (Q 1 m γ t)) ∧ (¬ (x1 = 1) → (Q 0 m γ t)))))
theorem vc_X8_isBit {E : am_E} {k : Nat} {x1 : Int} {m : MM} {γ : GM} {t : am_H} {Q : Int → MM → GM → am_H → Prop} (hx1 : rJ x1) (hW : W_X8_isBit E k x1 m γ t Q) : TI E k 177 [.int (iI x1)] m γ t Q := by
  unfold W_X8_isBit at hW
  intro h S
  refine wp_g (n := 1) (pc' := 1) (L' := [some (.int (iI x1))]) (st' := [.int (iI x1)]) rfl ?_
  refine wp_ifI (a := x1) rfl rfl hx1.1 hx1.2 (fun c1 => ?_) (fun c1 => ?_)
  · have dc1 := c1
    have hW := hW.1 dc1
    refine wp_g (n := 2) (pc' := 14) (L' := [some (.int (iI x1))]) (st' := [.int (iI 1)]) rfl ?_
    exact wp_zret rfl rfl (by decide) ⟨_, _, _, _, rfl, (by decide), S, hW⟩
  · have dc1 := c1
    have hW := hW.2 dc1
    refine wp_g (n := 2) (pc' := 6) (L' := [some (.int (iI x1))]) (st' := [.int (iI 1), .int (iI x1)]) rfl ?_
    refine wp_icmpI (a := x1) (b := 1) rfl rfl hx1.1 hx1.2 (by decide) (by decide) (fun c2 => ?_) (fun c2 => ?_)
    · have dc2 := c2
      have hW := hW.2 dc2
      refine wp_g (n := 1) (pc' := 14) (L' := [some (.int (iI x1))]) (st' := [.int (iI 0)]) rfl ?_
      exact wp_zret rfl rfl (by decide) ⟨_, _, _, _, rfl, (by decide), S, hW⟩
    · have dc2 := (Classical.not_not.mp c2)
      have hW := hW.1 dc2
      refine wp_g (n := 2) (pc' := 14) (L' := [some (.int (iI x1))]) (st' := [.int (iI 1)]) rfl ?_
      exact wp_zret rfl rfl (by decide) ⟨_, _, _, _, rfl, (by decide), S, hW⟩
abbrev W_X8_isKind (E : am_E) (k : Nat) (x1 : Int) (m : MM) (γ : GM) (t : am_H) (Q : Int → MM → GM → am_H → Prop) : Prop := (((x1 < 0) → (Q 0 m γ t)) ∧ (¬ (x1 < 0) → (((x1 ≤ 3) → (Q 1 m γ t)) ∧ (¬ (x1 ≤ 3) → (Q 0 m γ t)))))
theorem vc_X8_isKind {E : am_E} {k : Nat} {x1 : Int} {m : MM} {γ : GM} {t : am_H} {Q : Int → MM → GM → am_H → Prop} (hx1 : rJ x1) (hW : W_X8_isKind E k x1 m γ t Q) : TI E k 178 [.int (iI x1)] m γ t Q := by
  unfold W_X8_isKind at hW
  intro h S
  refine wp_g (n := 1) (pc' := 1) (L' := [some (.int (iI x1))]) (st' := [.int (iI x1)]) rfl ?_
  refine wp_ifI (a := x1) rfl rfl hx1.1 hx1.2 (fun c1 => ?_) (fun c1 => ?_)
  · have dc1 := c1
    have hW := hW.1 dc1
    refine wp_g (n := 1) (pc' := 14) (L' := [some (.int (iI x1))]) (st' := [.int (iI 0)]) rfl ?_
    exact wp_zret rfl rfl (by decide) ⟨_, _, _, _, rfl, (by decide), S, hW⟩
  · have dc1 := c1
    have hW := hW.2 dc1
    refine wp_g (n := 2) (pc' := 6) (L' := [some (.int (iI x1))]) (st' := [.int (iI 3), .int (iI x1)]) rfl ?_
    refine wp_icmpI (a := x1) (b := 3) rfl rfl hx1.1 hx1.2 (by decide) (by decide) (fun c2 => ?_) (fun c2 => ?_)
    · have dc2 := (Int.not_le.mpr c2)
      have hW := hW.2 dc2
      refine wp_g (n := 1) (pc' := 14) (L' := [some (.int (iI x1))]) (st' := [.int (iI 0)]) rfl ?_
      exact wp_zret rfl rfl (by decide) ⟨_, _, _, _, rfl, (by decide), S, hW⟩
    · have dc2 := (Int.not_lt.mp c2)
      have hW := hW.1 dc2
      refine wp_g (n := 2) (pc' := 14) (L' := [some (.int (iI x1))]) (st' := [.int (iI 1)]) rfl ?_
      exact wp_zret rfl rfl (by decide) ⟨_, _, _, _, rfl, (by decide), S, hW⟩
abbrev W_X8_isSmallPrime (E : am_E) (k : Nat) (x1 : Int) (m : MM) (γ : GM) (t : am_H) (Q : Int → MM → GM → am_H → Prop) : Prop := (((x1 = 2) → (Q 1 m γ t)) ∧ (¬ (x1 = 2) → (((x1 = 3) → (Q 1 m γ t)) ∧ (¬ (x1 = 3) → (((x1 = 5) → (Q 1 m γ t)) ∧ (¬ (x1 = 5) → (((x1 = 7) → (Q 1 m γ t)) ∧ (¬ (x1 = 7) → (((x1 = 11) → (Q 1 m γ t)) ∧ (¬ (x1 = 11) → (((x1 = 13) → (Q 1 m γ t)) ∧ (¬ (x1 = 13) → (Q 0 m γ t)))))))))))))
theorem vc_X8_isSmallPrime {E : am_E} {k : Nat} {x1 : Int} {m : MM} {γ : GM} {t : am_H} {Q : Int → MM → GM → am_H → Prop} (hx1 : rJ x1) (hW : W_X8_isSmallPrime E k x1 m γ t Q) : TI E k 179 [.int (iI x1)] m γ t Q := by
  unfold W_X8_isSmallPrime at hW
  intro h S
  refine wp_g (n := 2) (pc' := 2) (L' := [some (.int (iI x1))]) (st' := [.int (iI 2), .int (iI x1)]) rfl ?_
  refine wp_icmpI (a := x1) (b := 2) rfl rfl hx1.1 hx1.2 (by decide) (by decide) (fun c1 => ?_) (fun c1 => ?_)
  · have dc1 := c1
    have hW := hW.1 dc1
    refine wp_g (n := 2) (pc' := 38) (L' := [some (.int (iI x1))]) (st' := [.int (iI 1)]) rfl ?_
    exact wp_zret rfl rfl (by decide) ⟨_, _, _, _, rfl, (by decide), S, hW⟩
  · have dc1 := c1
    have hW := hW.2 dc1
    refine wp_g (n := 2) (pc' := 7) (L' := [some (.int (iI x1))]) (st' := [.int (iI 3), .int (iI x1)]) rfl ?_
    refine wp_icmpI (a := x1) (b := 3) rfl rfl hx1.1 hx1.2 (by decide) (by decide) (fun c2 => ?_) (fun c2 => ?_)
    · have dc2 := c2
      have hW := hW.1 dc2
      refine wp_g (n := 2) (pc' := 38) (L' := [some (.int (iI x1))]) (st' := [.int (iI 1)]) rfl ?_
      exact wp_zret rfl rfl (by decide) ⟨_, _, _, _, rfl, (by decide), S, hW⟩
    · have dc2 := c2
      have hW := hW.2 dc2
      refine wp_g (n := 2) (pc' := 12) (L' := [some (.int (iI x1))]) (st' := [.int (iI 5), .int (iI x1)]) rfl ?_
      refine wp_icmpI (a := x1) (b := 5) rfl rfl hx1.1 hx1.2 (by decide) (by decide) (fun c3 => ?_) (fun c3 => ?_)
      · have dc3 := c3
        have hW := hW.1 dc3
        refine wp_g (n := 2) (pc' := 38) (L' := [some (.int (iI x1))]) (st' := [.int (iI 1)]) rfl ?_
        exact wp_zret rfl rfl (by decide) ⟨_, _, _, _, rfl, (by decide), S, hW⟩
      · have dc3 := c3
        have hW := hW.2 dc3
        refine wp_g (n := 2) (pc' := 18) (L' := [some (.int (iI x1))]) (st' := [.int (iI 7), .int (iI x1)]) rfl ?_
        refine wp_icmpI (a := x1) (b := 7) rfl rfl hx1.1 hx1.2 (by decide) (by decide) (fun c4 => ?_) (fun c4 => ?_)
        · have dc4 := c4
          have hW := hW.1 dc4
          refine wp_g (n := 2) (pc' := 38) (L' := [some (.int (iI x1))]) (st' := [.int (iI 1)]) rfl ?_
          exact wp_zret rfl rfl (by decide) ⟨_, _, _, _, rfl, (by decide), S, hW⟩
        · have dc4 := c4
          have hW := hW.2 dc4
          refine wp_g (n := 2) (pc' := 24) (L' := [some (.int (iI x1))]) (st' := [.int (iI 11), .int (iI x1)]) rfl ?_
          refine wp_icmpI (a := x1) (b := 11) rfl rfl hx1.1 hx1.2 (by decide) (by decide) (fun c5 => ?_) (fun c5 => ?_)
          · have dc5 := c5
            have hW := hW.1 dc5
            refine wp_g (n := 2) (pc' := 38) (L' := [some (.int (iI x1))]) (st' := [.int (iI 1)]) rfl ?_
            exact wp_zret rfl rfl (by decide) ⟨_, _, _, _, rfl, (by decide), S, hW⟩
          · have dc5 := c5
            have hW := hW.2 dc5
            refine wp_g (n := 2) (pc' := 30) (L' := [some (.int (iI x1))]) (st' := [.int (iI 13), .int (iI x1)]) rfl ?_
            refine wp_icmpI (a := x1) (b := 13) rfl rfl hx1.1 hx1.2 (by decide) (by decide) (fun c6 => ?_) (fun c6 => ?_)
            · have dc6 := c6
              have hW := hW.2 dc6
              refine wp_g (n := 1) (pc' := 38) (L' := [some (.int (iI x1))]) (st' := [.int (iI 0)]) rfl ?_
              exact wp_zret rfl rfl (by decide) ⟨_, _, _, _, rfl, (by decide), S, hW⟩
            · have dc6 := (Classical.not_not.mp c6)
              have hW := hW.1 dc6
              refine wp_g (n := 2) (pc' := 38) (L' := [some (.int (iI x1))]) (st' := [.int (iI 1)]) rfl ?_
              exact wp_zret rfl rfl (by decide) ⟨_, _, _, _, rfl, (by decide), S, hW⟩
abbrev W_X8_hasTerm (E : am_E) (k : Nat) (g1 : Nat) (x2 : Int) (m : MM) (γ : GM) (t : am_H) (Q : Int → MM → GM → am_H → Prop) : Prop := (((x2 < (-100)) → (Q 0 m γ t)) ∧ (¬ (x2 < (-100)) → (((x2 ≤ 100) → (TI E k 41 [.ref g1] m γ t (fun v3 m3 γ3 t3 => (((v3 ≤ 12) → (Q 1 m3 γ3 t3)) ∧ (¬ (v3 ≤ 12) → (Q 0 m3 γ3 t3)))))) ∧ (¬ (x2 ≤ 100) → (Q 0 m γ t)))))
theorem vc_X8_hasTerm {E : am_E} {k : Nat} {g1 : Nat} {x2 : Int} {m : MM} {γ : GM} {t : am_H} {Q : Int → MM → GM → am_H → Prop} (hg1 : isg g1) (hx2 : rJ x2) (hW : W_X8_hasTerm E k g1 x2 m γ t Q) : TI E (k + 1) 180 [.ref g1, .int (iI x2)] m γ t Q := by
  unfold W_X8_hasTerm at hW
  intro h S
  refine wp_g (n := 2) (pc' := 3) (L' := [some (.ref g1), some (.int (iI x2))]) (st' := [.int (iI (-100)), .int (iI x2)]) rfl ?_
  refine wp_icmpI (a := x2) (b := (-100)) rfl rfl hx2.1 hx2.2 (by decide) (by decide) (fun c1 => ?_) (fun c1 => ?_)
  · have dc1 := c1
    have hW := hW.1 dc1
    refine wp_g (n := 1) (pc' := 26) (L' := [some (.ref g1), some (.int (iI x2))]) (st' := [.int (iI 0)]) rfl ?_
    exact wp_zret rfl rfl (by decide) ⟨_, _, _, _, rfl, (by decide), S, hW⟩
  · have dc1 := c1
    have hW := hW.2 dc1
    refine wp_g (n := 2) (pc' := 9) (L' := [some (.ref g1), some (.int (iI x2))]) (st' := [.int (iI 100), .int (iI x2)]) rfl ?_
    refine wp_icmpI (a := x2) (b := 100) rfl rfl hx2.1 hx2.2 (by decide) (by decide) (fun c2 => ?_) (fun c2 => ?_)
    · have dc2 := (Int.not_le.mpr c2)
      have hW := hW.2 dc2
      refine wp_g (n := 1) (pc' := 26) (L' := [some (.ref g1), some (.int (iI x2))]) (st' := [.int (iI 0)]) rfl ?_
      exact wp_zret rfl rfl (by decide) ⟨_, _, _, _, rfl, (by decide), S, hW⟩
    · have dc2 := (Int.not_lt.mp c2)
      have hW := hW.1 dc2
      refine wp_g (n := 1) (pc' := 13) (L' := [some (.ref g1), some (.int (iI x2))]) (st' := [.ref g1]) rfl ?_
      refine wp_cv (As := []) (rest := []) rfl rfl (S.gg g1 hg1).obj (isg_lt hg1) rfl rfl rfl (Nat.le_of_ble_eq_true rfl) (Nat.le_of_ble_eq_true rfl) (hW _ S) (fun r3 H3 q3 => ?_)
      obtain ⟨v3, m3, γ3, t3, rfl, hv3, S, hW⟩ := q3
      show wp _ _ _ _ _ [.int (iI v3)] _ _
      refine wp_g (n := 1) (pc' := 18) (L' := [some (.ref g1), some (.int (iI x2))]) (st' := [.int (iI 12), .int (iI v3)]) rfl ?_
      refine wp_icmpI (a := v3) (b := 12) rfl rfl hv3.1 hv3.2 (by decide) (by decide) (fun c4 => ?_) (fun c4 => ?_)
      · have dc4 := (Int.not_le.mpr c4)
        have hW := hW.2 dc4
        refine wp_g (n := 1) (pc' := 26) (L' := [some (.ref g1), some (.int (iI x2))]) (st' := [.int (iI 0)]) rfl ?_
        exact wp_zret rfl rfl (by decide) ⟨_, _, _, _, rfl, (by decide), S, hW⟩
      · have dc4 := (Int.not_lt.mp c4)
        have hW := hW.1 dc4
        refine wp_g (n := 2) (pc' := 26) (L' := [some (.ref g1), some (.int (iI x2))]) (st' := [.int (iI 1)]) rfl ?_
        exact wp_zret rfl rfl (by decide) ⟨_, _, _, _, rfl, (by decide), S, hW⟩
abbrev W_X8_turnedOver (E : am_E) (k : Nat) (x1 : Int) (m : MM) (γ : GM) (t : am_H) (Q : Int → MM → GM → am_H → Prop) : Prop := (((x1 = 0) → (Q 1 m γ t)) ∧ (¬ (x1 = 0) → (((x1 = 1) → (Q 0 m γ t)) ∧ (¬ (x1 = 1) → (Q x1 m γ t)))))
theorem vc_X8_turnedOver {E : am_E} {k : Nat} {x1 : Int} {m : MM} {γ : GM} {t : am_H} {Q : Int → MM → GM → am_H → Prop} (hx1 : rJ x1) (hW : W_X8_turnedOver E k x1 m γ t Q) : TI E k 181 [.int (iI x1)] m γ t Q := by
  unfold W_X8_turnedOver at hW
  intro h S
  refine wp_g (n := 1) (pc' := 1) (L' := [some (.int (iI x1))]) (st' := [.int (iI x1)]) rfl ?_
  refine wp_ifI (a := x1) rfl rfl hx1.1 hx1.2 (fun c1 => ?_) (fun c1 => ?_)
  · have dc1 := c1
    have hW := hW.2 dc1
    refine wp_g (n := 2) (pc' := 8) (L' := [some (.int (iI x1))]) (st' := [.int (iI 1), .int (iI x1)]) rfl ?_
    refine wp_icmpI (a := x1) (b := 1) rfl rfl hx1.1 hx1.2 (by decide) (by decide) (fun c2 => ?_) (fun c2 => ?_)
    · have dc2 := c2
      have hW := hW.2 dc2
      refine wp_g (n := 1) (pc' := 16) (L' := [some (.int (iI x1))]) (st' := [.int (iI x1)]) rfl ?_
      exact wp_iret rfl rfl ⟨_, _, _, _, rfl, hx1, S, hW⟩
    · have dc2 := (Classical.not_not.mp c2)
      have hW := hW.1 dc2
      refine wp_g (n := 2) (pc' := 16) (L' := [some (.int (iI x1))]) (st' := [.int (iI 0)]) rfl ?_
      exact wp_iret rfl rfl ⟨_, _, _, _, rfl, (by decide), S, hW⟩
  · have dc1 := (Classical.not_not.mp c1)
    have hW := hW.1 dc1
    refine wp_g (n := 1) (pc' := 5) (L' := [some (.int (iI x1))]) (st' := [.int (iI 1)]) rfl ?_
    exact wp_iret rfl rfl ⟨_, _, _, _, rfl, (by decide), S, hW⟩
abbrev W_X8_gridIn (E : am_E) (k : Nat) (x1 : Int) (m : MM) (γ : GM) (t : am_H) (Q : Option Nat → MM → GM → am_H → Prop) : Prop := (TI E k 176 [.int (iI x1)] m γ t (fun v1 m1 γ1 t1 => (((v1 = 0) → (Q none m1 γ1 t1)) ∧ (¬ (v1 = 0) → ((0 ≤ x1 ∧ x1 < 3) ∧ (TI E k 25 [.ref (146 + 4 * (x1).toNat)] m1 γ1 t1 (fun v5 m5 γ5 t5 => (((v5 = 0) → (Q none m5 γ5 t5)) ∧ (¬ (v5 = 0) → ((0 ≤ x1 ∧ x1 < 3) ∧ (Q (some (146 + 4 * (x1).toNat)) m5 γ5 t5)))))))))))
theorem vc_X8_gridIn {E : am_E} {k : Nat} {x1 : Int} {m : MM} {γ : GM} {t : am_H} {Q : Option Nat → MM → GM → am_H → Prop} (hx1 : rJ x1) (hW : W_X8_gridIn E k x1 m γ t Q) : TA E (k + 1) 184 [.ref 0, .int (iI x1)] m γ t Q := by
  unfold W_X8_gridIn at hW
  intro h S
  refine wp_g (n := 1) (pc' := 1) (L' := [some (.ref 0), some (.int (iI x1))]) (st' := [.int (iI x1)]) rfl ?_
  refine wp_cs (As := [.int (iI x1)]) (rest := []) rfl rfl rfl rfl (Nat.le_of_ble_eq_true rfl) (Nat.le_of_ble_eq_true rfl) (hW _ S) (fun r1 H1 q1 => ?_)
  obtain ⟨v1, m1, γ1, t1, rfl, hv1, S, hW⟩ := q1
  show wp _ _ _ _ _ [.int (iI v1)] _ _
  refine wp_ifI (a := v1) rfl rfl hv1.1 hv1.2 (fun c2 => ?_) (fun c2 => ?_)
  · have dc2 := c2
    have hW := hW.1 dc2
    refine wp_g (n := 1) (pc' := 20) (L' := [some (.ref 0), some (.int (iI x1))]) (st' := [.null]) rfl ?_
    exact wp_nret rfl rfl ⟨none, _, _, _, rfl, S, hW⟩
  · have dc2 := c2
    have hW := hW.2 dc2
    refine wp_g (n := 1) (pc' := 8) (L' := [some (.ref 0), some (.int (iI x1))]) (st' := [.ref 0]) rfl ?_
    refine wp_getf (v := .ref 1) rfl rfl (S.cell 0 (nc rfl)) (by decide) rfl ?_
    refine wp_g (n := 1) (pc' := 12) (L' := [some (.ref 0), some (.int (iI x1))]) (st' := [.int (iI x1), .ref 1]) rfl ?_
    obtain ⟨p3, hW⟩ := hW
    have hn4 : (x1).toNat < 3 := by omega
    refine wp_aald (n := 3) (b := (146 + 4 * (x1).toNat)) rfl (S.cell 1 (nc rfl)) p3.1 p3.2 (by decide) (if_pos hn4) ?_
    refine wp_cv (As := []) (rest := []) rfl rfl (S.gg (146 + 4 * (x1).toNat) (isg_146 hn4)).obj (isg_lt (isg_146 hn4)) rfl rfl rfl (Nat.le_of_ble_eq_true rfl) (Nat.le_of_ble_eq_true rfl) (hW _ S) (fun r5 H5 q5 => ?_)
    obtain ⟨v5, m5, γ5, t5, rfl, hv5, S, hW⟩ := q5
    show wp _ _ _ _ _ [.int (iI v5)] _ _
    refine wp_ifI (a := v5) rfl rfl hv5.1 hv5.2 (fun c6 => ?_) (fun c6 => ?_)
    · have dc6 := c6
      have hW := hW.2 dc6
      refine wp_g (n := 1) (pc' := 22) (L' := [some (.ref 0), some (.int (iI x1))]) (st' := [.ref 0]) rfl ?_
      refine wp_getf (v := .ref 1) rfl rfl (S.cell 0 (nc rfl)) (by decide) rfl ?_
      refine wp_g (n := 1) (pc' := 26) (L' := [some (.ref 0), some (.int (iI x1))]) (st' := [.int (iI x1), .ref 1]) rfl ?_
      obtain ⟨p7, hW⟩ := hW
      have hn8 : (x1).toNat < 3 := by omega
      refine wp_aald (n := 3) (b := (146 + 4 * (x1).toNat)) rfl (S.cell 1 (nc rfl)) p7.1 p7.2 (by decide) (if_pos hn8) ?_
      exact wp_aret rfl rfl ⟨some (146 + 4 * (x1).toNat), _, _, _, rfl, S, hW⟩
    · have dc6 := (Classical.not_not.mp c6)
      have hW := hW.1 dc6
      refine wp_g (n := 1) (pc' := 20) (L' := [some (.ref 0), some (.int (iI x1))]) (st' := [.null]) rfl ?_
      exact wp_nret rfl rfl ⟨none, _, _, _, rfl, S, hW⟩
abbrev W_X8_hasCell (E : am_E) (k : Nat) (x1 : Int) (x2 : Int) (m : MM) (γ : GM) (t : am_H) (Q : Int → MM → GM → am_H → Prop) : Prop := (TA E k 184 [.ref 0, .int (iI x1)] m γ t (fun o1 m1 γ1 t1 => ((o1 = none → (Q 0 m1 γ1 t1)) ∧ (∀ a1, o1 = some a1 → (isg a1 ∧ (TI E k 30 [.ref a1, .int (iI x2)] m1 γ1 t1 (fun v2 m2 γ2 t2 => (((v2 = 0) → (Q 0 m2 γ2 t2)) ∧ (¬ (v2 = 0) → (Q 1 m2 γ2 t2))))))))))
theorem vc_X8_hasCell {E : am_E} {k : Nat} {x1 : Int} {x2 : Int} {m : MM} {γ : GM} {t : am_H} {Q : Int → MM → GM → am_H → Prop} (hx1 : rJ x1) (hx2 : rJ x2) (hW : W_X8_hasCell E k x1 x2 m γ t Q) : TI E (k + 1) 185 [.ref 0, .int (iI x1), .int (iI x2)] m γ t Q := by
  unfold W_X8_hasCell at hW
  intro h S
  refine wp_g (n := 2) (pc' := 2) (L' := [some (.ref 0), some (.int (iI x1)), some (.int (iI x2)), none]) (st' := [.int (iI x1), .ref 0]) rfl ?_
  refine wp_cv (As := [.int (iI x1)]) (rest := []) rfl rfl (S.cell 0 (nc rfl)) (by decide) rfl rfl rfl (Nat.le_of_ble_eq_true rfl) (Nat.le_of_ble_eq_true rfl) (hW _ S) (fun r1 H1 q1 => ?_)
  obtain ⟨o1, m1, γ1, t1, rfl, S, hW⟩ := q1
  cases o1 with
  | none =>
    have hW := hW.1 rfl
    show wp _ _ _ _ _ [.null] _ _
    refine wp_g (n := 2) (pc' := 7) (L' := [some (.ref 0), some (.int (iI x1)), some (.int (iI x2)), some (.null)]) (st' := [.null]) rfl ?_
    refine wp_g (n := 1) (pc' := 22) (L' := [some (.ref 0), some (.int (iI x1)), some (.int (iI x2)), some (.null)]) (st' := []) rfl ?_
    refine wp_g (n := 1) (pc' := 23) (L' := [some (.ref 0), some (.int (iI x1)), some (.int (iI x2)), some (.null)]) (st' := [.int (iI 0)]) rfl ?_
    exact wp_zret rfl rfl (by decide) ⟨_, _, _, _, rfl, (by decide), S, hW⟩
  | some a1 =>
    obtain ⟨hg1, hW⟩ := hW.2 _ rfl
    show wp _ _ _ _ _ [.ref a1] _ _
    refine wp_g (n := 2) (pc' := 7) (L' := [some (.ref 0), some (.int (iI x1)), some (.int (iI x2)), some (.ref a1)]) (st' := [.ref a1]) rfl ?_
    refine wp_g (n := 1) (pc' := 10) (L' := [some (.ref 0), some (.int (iI x1)), some (.int (iI x2)), some (.ref a1)]) (st' := []) rfl ?_
    refine wp_g (n := 2) (pc' := 12) (L' := [some (.ref 0), some (.int (iI x1)), some (.int (iI x2)), some (.ref a1)]) (st' := [.int (iI x2), .ref a1]) rfl ?_
    refine wp_cv (As := [.int (iI x2)]) (rest := []) rfl rfl (S.gg a1 hg1).obj (isg_lt hg1) rfl rfl rfl (Nat.le_of_ble_eq_true rfl) (Nat.le_of_ble_eq_true rfl) (hW _ S) (fun r2 H2 q2 => ?_)
    obtain ⟨v2, m2, γ2, t2, rfl, hv2, S, hW⟩ := q2
    show wp _ _ _ _ _ [.int (iI v2)] _ _
    refine wp_ifI (a := v2) rfl rfl hv2.1 hv2.2 (fun c3 => ?_) (fun c3 => ?_)
    · have dc3 := c3
      have hW := hW.1 dc3
      refine wp_g (n := 1) (pc' := 23) (L' := [some (.ref 0), some (.int (iI x1)), some (.int (iI x2)), some (.ref a1)]) (st' := [.int (iI 0)]) rfl ?_
      exact wp_zret rfl rfl (by decide) ⟨_, _, _, _, rfl, (by decide), S, hW⟩
    · have dc3 := c3
      have hW := hW.2 dc3
      refine wp_g (n := 2) (pc' := 23) (L' := [some (.ref 0), some (.int (iI x1)), some (.int (iI x2)), some (.ref a1)]) (st' := [.int (iI 1)]) rfl ?_
      exact wp_zret rfl rfl (by decide) ⟨_, _, _, _, rfl, (by decide), S, hW⟩
abbrev W_X8_traceOf (E : am_E) (k : Nat) (g1 : Nat) (m : MM) (γ : GM) (t : am_H) (Q : Option Nat → MM → GM → am_H → Prop) : Prop := (TV E k 95 [.ref 10, .ref g1] m γ t (fun m1 γ1 t1 => (Q (some 10) m1 γ1 t1)))
theorem vc_X8_traceOf {E : am_E} {k : Nat} {g1 : Nat} {m : MM} {γ : GM} {t : am_H} {Q : Option Nat → MM → GM → am_H → Prop} (hg1 : isg g1) (hW : W_X8_traceOf E k g1 m γ t Q) : TA E (k + 1) 186 [.ref 0, .ref g1] m γ t Q := by
  unfold W_X8_traceOf at hW
  intro h S
  refine wp_g (n := 1) (pc' := 1) (L' := [some (.ref 0), some (.ref g1)]) (st' := [.ref 0]) rfl ?_
  refine wp_getf (v := .ref 10) rfl rfl (S.cell 0 (nc rfl)) (by decide) rfl ?_
  refine wp_g (n := 1) (pc' := 5) (L' := [some (.ref 0), some (.ref g1)]) (st' := [.ref g1, .ref 10]) rfl ?_
  refine wp_cv (As := [.ref g1]) (rest := []) rfl rfl (S.cell 10 (nc rfl)) (by decide) rfl rfl rfl (Nat.le_of_ble_eq_true rfl) (Nat.le_of_ble_eq_true rfl) (hW _ S) (fun r1 H1 q1 => ?_)
  obtain ⟨m1, γ1, t1, rfl, S, hW⟩ := q1
  show wp _ _ _ _ _ [] _ _
  refine wp_g (n := 1) (pc' := 9) (L' := [some (.ref 0), some (.ref g1)]) (st' := [.ref 0]) rfl ?_
  refine wp_getf (v := .ref 10) rfl rfl (S.cell 0 (nc rfl)) (by decide) rfl ?_
  exact wp_aret rfl rfl ⟨some 10, _, _, _, rfl, S, hW⟩
abbrev W_X8_traceOfCorner (E : am_E) (k : Nat) (x1 : Int) (x2 : Int) (x3 : Int) (m : MM) (γ : GM) (t : am_H) (Q : Option Nat → MM → GM → am_H → Prop) : Prop := (TI E k 185 [.ref 0, .int (iI x1), .int (iI x2)] m γ t (fun v1 m1 γ1 t1 => (((v1 = 0) → (Q none m1 γ1 t1)) ∧ (¬ (v1 = 0) → (((x3 < 0) → (Q none m1 γ1 t1)) ∧ (¬ (x3 < 0) → (((x3 ≤ 3) → ((0 ≤ x1 ∧ x1 < 3) ∧ (TV E k 95 [.ref 10, .ref (146 + 4 * (x1).toNat)] m1 γ1 t1 (fun m7 γ7 t7 => (Q (some 10) m7 γ7 t7))))) ∧ (¬ (x3 ≤ 3) → (Q none m1 γ1 t1)))))))))
theorem vc_X8_traceOfCorner {E : am_E} {k : Nat} {x1 : Int} {x2 : Int} {x3 : Int} {m : MM} {γ : GM} {t : am_H} {Q : Option Nat → MM → GM → am_H → Prop} (hx1 : rJ x1) (hx2 : rJ x2) (hx3 : rJ x3) (hW : W_X8_traceOfCorner E k x1 x2 x3 m γ t Q) : TA E (k + 1) 187 [.ref 0, .int (iI x1), .int (iI x2), .int (iI x3)] m γ t Q := by
  unfold W_X8_traceOfCorner at hW
  intro h S
  refine wp_g (n := 3) (pc' := 3) (L' := [some (.ref 0), some (.int (iI x1)), some (.int (iI x2)), some (.int (iI x3))]) (st' := [.int (iI x2), .int (iI x1), .ref 0]) rfl ?_
  refine wp_cv (As := [.int (iI x1), .int (iI x2)]) (rest := []) rfl rfl (S.cell 0 (nc rfl)) (by decide) rfl rfl rfl (Nat.le_of_ble_eq_true rfl) (Nat.le_of_ble_eq_true rfl) (hW _ S) (fun r1 H1 q1 => ?_)
  obtain ⟨v1, m1, γ1, t1, rfl, hv1, S, hW⟩ := q1
  show wp _ _ _ _ _ [.int (iI v1)] _ _
  refine wp_ifI (a := v1) rfl rfl hv1.1 hv1.2 (fun c2 => ?_) (fun c2 => ?_)
  · have dc2 := c2
    have hW := hW.1 dc2
    refine wp_g (n := 1) (pc' := 19) (L' := [some (.ref 0), some (.int (iI x1)), some (.int (iI x2)), some (.int (iI x3))]) (st' := [.null]) rfl ?_
    exact wp_nret rfl rfl ⟨none, _, _, _, rfl, S, hW⟩
  · have dc2 := c2
    have hW := hW.2 dc2
    refine wp_g (n := 1) (pc' := 10) (L' := [some (.ref 0), some (.int (iI x1)), some (.int (iI x2)), some (.int (iI x3))]) (st' := [.int (iI x3)]) rfl ?_
    refine wp_ifI (a := x3) rfl rfl hx3.1 hx3.2 (fun c3 => ?_) (fun c3 => ?_)
    · have dc3 := c3
      have hW := hW.1 dc3
      refine wp_g (n := 1) (pc' := 19) (L' := [some (.ref 0), some (.int (iI x1)), some (.int (iI x2)), some (.int (iI x3))]) (st' := [.null]) rfl ?_
      exact wp_nret rfl rfl ⟨none, _, _, _, rfl, S, hW⟩
    · have dc3 := c3
      have hW := hW.2 dc3
      refine wp_g (n := 2) (pc' := 15) (L' := [some (.ref 0), some (.int (iI x1)), some (.int (iI x2)), some (.int (iI x3))]) (st' := [.int (iI 3), .int (iI x3)]) rfl ?_
      refine wp_icmpI (a := x3) (b := 3) rfl rfl hx3.1 hx3.2 (by decide) (by decide) (fun c4 => ?_) (fun c4 => ?_)
      · have dc4 := c4
        have hW := hW.1 dc4
        refine wp_g (n := 1) (pc' := 21) (L' := [some (.ref 0), some (.int (iI x1)), some (.int (iI x2)), some (.int (iI x3))]) (st' := [.ref 0]) rfl ?_
        refine wp_getf (v := .ref 10) rfl rfl (S.cell 0 (nc rfl)) (by decide) rfl ?_
        refine wp_g (n := 1) (pc' := 25) (L' := [some (.ref 0), some (.int (iI x1)), some (.int (iI x2)), some (.int (iI x3))]) (st' := [.ref 0, .ref 10]) rfl ?_
        refine wp_getf (v := .ref 1) rfl rfl (S.cell 0 (nc rfl)) (by decide) rfl ?_
        refine wp_g (n := 1) (pc' := 29) (L' := [some (.ref 0), some (.int (iI x1)), some (.int (iI x2)), some (.int (iI x3))]) (st' := [.int (iI x1), .ref 1, .ref 10]) rfl ?_
        obtain ⟨p5, hW⟩ := hW
        have hn6 : (x1).toNat < 3 := by omega
        refine wp_aald (n := 3) (b := (146 + 4 * (x1).toNat)) rfl (S.cell 1 (nc rfl)) p5.1 p5.2 (by decide) (if_pos hn6) ?_
        refine wp_cv (As := [.ref (146 + 4 * (x1).toNat)]) (rest := []) rfl rfl (S.cell 10 (nc rfl)) (by decide) rfl rfl rfl (Nat.le_of_ble_eq_true rfl) (Nat.le_of_ble_eq_true rfl) (hW _ S) (fun r7 H7 q7 => ?_)
        obtain ⟨m7, γ7, t7, rfl, S, hW⟩ := q7
        show wp _ _ _ _ _ [] _ _
        refine wp_g (n := 1) (pc' := 34) (L' := [some (.ref 0), some (.int (iI x1)), some (.int (iI x2)), some (.int (iI x3))]) (st' := [.ref 0]) rfl ?_
        refine wp_getf (v := .ref 10) rfl rfl (S.cell 0 (nc rfl)) (by decide) rfl ?_
        exact wp_aret rfl rfl ⟨some 10, _, _, _, rfl, S, hW⟩
      · have dc4 := c4
        have hW := hW.2 dc4
        refine wp_g (n := 1) (pc' := 19) (L' := [some (.ref 0), some (.int (iI x1)), some (.int (iI x2)), some (.int (iI x3))]) (st' := [.null]) rfl ?_
        exact wp_nret rfl rfl ⟨none, _, _, _, rfl, S, hW⟩
abbrev W_X8_traceOfStrand (E : am_E) (k : Nat) (x1 : Int) (x2 : Int) (m : MM) (γ : GM) (t : am_H) (Q : Option Nat → MM → GM → am_H → Prop) : Prop := (TA E k 184 [.ref 0, .int (iI x1)] m γ t (fun o1 m1 γ1 t1 => ((o1 = none → (Q none m1 γ1 t1)) ∧ (∀ a1, o1 = some a1 → (isg a1 ∧ (TV E k 95 [.ref 10, .ref a1] m1 γ1 t1 (fun m2 γ2 t2 => (TI E k 100 [.ref 10, .int (iI x2)] m2 γ2 t2 (fun v3 m3 γ3 t3 => (((v3 = 0) → (Q none m3 γ3 t3)) ∧ (¬ (v3 = 0) → (Q (some 10) m3 γ3 t3))))))))))))
theorem vc_X8_traceOfStrand {E : am_E} {k : Nat} {x1 : Int} {x2 : Int} {m : MM} {γ : GM} {t : am_H} {Q : Option Nat → MM → GM → am_H → Prop} (hx1 : rJ x1) (hx2 : rJ x2) (hW : W_X8_traceOfStrand E k x1 x2 m γ t Q) : TA E (k + 1) 188 [.ref 0, .int (iI x1), .int (iI x2)] m γ t Q := by
  unfold W_X8_traceOfStrand at hW
  intro h S
  refine wp_g (n := 2) (pc' := 2) (L' := [some (.ref 0), some (.int (iI x1)), some (.int (iI x2)), none]) (st' := [.int (iI x1), .ref 0]) rfl ?_
  refine wp_cv (As := [.int (iI x1)]) (rest := []) rfl rfl (S.cell 0 (nc rfl)) (by decide) rfl rfl rfl (Nat.le_of_ble_eq_true rfl) (Nat.le_of_ble_eq_true rfl) (hW _ S) (fun r1 H1 q1 => ?_)
  obtain ⟨o1, m1, γ1, t1, rfl, S, hW⟩ := q1
  cases o1 with
  | none =>
    have hW := hW.1 rfl
    show wp _ _ _ _ _ [.null] _ _
    refine wp_g (n := 2) (pc' := 7) (L' := [some (.ref 0), some (.int (iI x1)), some (.int (iI x2)), some (.null)]) (st' := [.null]) rfl ?_
    refine wp_g (n := 1) (pc' := 10) (L' := [some (.ref 0), some (.int (iI x1)), some (.int (iI x2)), some (.null)]) (st' := []) rfl ?_
    refine wp_g (n := 1) (pc' := 11) (L' := [some (.ref 0), some (.int (iI x1)), some (.int (iI x2)), some (.null)]) (st' := [.null]) rfl ?_
    exact wp_nret rfl rfl ⟨none, _, _, _, rfl, S, hW⟩
  | some a1 =>
    obtain ⟨hg1, hW⟩ := hW.2 _ rfl
    show wp _ _ _ _ _ [.ref a1] _ _
    refine wp_g (n := 2) (pc' := 7) (L' := [some (.ref 0), some (.int (iI x1)), some (.int (iI x2)), some (.ref a1)]) (st' := [.ref a1]) rfl ?_
    refine wp_g (n := 1) (pc' := 12) (L' := [some (.ref 0), some (.int (iI x1)), some (.int (iI x2)), some (.ref a1)]) (st' := []) rfl ?_
    refine wp_g (n := 1) (pc' := 13) (L' := [some (.ref 0), some (.int (iI x1)), some (.int (iI x2)), some (.ref a1)]) (st' := [.ref 0]) rfl ?_
    refine wp_getf (v := .ref 10) rfl rfl (S.cell 0 (nc rfl)) (by decide) rfl ?_
    refine wp_g (n := 1) (pc' := 17) (L' := [some (.ref 0), some (.int (iI x1)), some (.int (iI x2)), some (.ref a1)]) (st' := [.ref a1, .ref 10]) rfl ?_
    refine wp_cv (As := [.ref a1]) (rest := []) rfl rfl (S.cell 10 (nc rfl)) (by decide) rfl rfl rfl (Nat.le_of_ble_eq_true rfl) (Nat.le_of_ble_eq_true rfl) (hW _ S) (fun r2 H2 q2 => ?_)
    obtain ⟨m2, γ2, t2, rfl, S, hW⟩ := q2
    show wp _ _ _ _ _ [] _ _
    refine wp_g (n := 1) (pc' := 21) (L' := [some (.ref 0), some (.int (iI x1)), some (.int (iI x2)), some (.ref a1)]) (st' := [.ref 0]) rfl ?_
    refine wp_getf (v := .ref 10) rfl rfl (S.cell 0 (nc rfl)) (by decide) rfl ?_
    refine wp_g (n := 1) (pc' := 25) (L' := [some (.ref 0), some (.int (iI x1)), some (.int (iI x2)), some (.ref a1)]) (st' := [.int (iI x2), .ref 10]) rfl ?_
    refine wp_cv (As := [.int (iI x2)]) (rest := []) rfl rfl (S.cell 10 (nc rfl)) (by decide) rfl rfl rfl (Nat.le_of_ble_eq_true rfl) (Nat.le_of_ble_eq_true rfl) (hW _ S) (fun r3 H3 q3 => ?_)
    obtain ⟨v3, m3, γ3, t3, rfl, hv3, S, hW⟩ := q3
    show wp _ _ _ _ _ [.int (iI v3)] _ _
    refine wp_ifI (a := v3) rfl rfl hv3.1 hv3.2 (fun c4 => ?_) (fun c4 => ?_)
    · have dc4 := c4
      have hW := hW.1 dc4
      refine wp_g (n := 1) (pc' := 39) (L' := [some (.ref 0), some (.int (iI x1)), some (.int (iI x2)), some (.ref a1)]) (st' := [.null]) rfl ?_
      exact wp_nret rfl rfl ⟨none, _, _, _, rfl, S, hW⟩
    · have dc4 := c4
      have hW := hW.2 dc4
      refine wp_g (n := 1) (pc' := 32) (L' := [some (.ref 0), some (.int (iI x1)), some (.int (iI x2)), some (.ref a1)]) (st' := [.ref 0]) rfl ?_
      refine wp_getf (v := .ref 10) rfl rfl (S.cell 0 (nc rfl)) (by decide) rfl ?_
      refine wp_g (n := 1) (pc' := 39) (L' := [some (.ref 0), some (.int (iI x1)), some (.int (iI x2)), some (.ref a1)]) (st' := [.ref 10]) rfl ?_
      exact wp_aret rfl rfl ⟨some 10, _, _, _, rfl, S, hW⟩
abbrev W_X8_strandsOf (E : am_E) (k : Nat) (x1 : Int) (m : MM) (γ : GM) (t : am_H) (Q : Int → MM → GM → am_H → Prop) : Prop := (TA E k 184 [.ref 0, .int (iI x1)] m γ t (fun o1 m1 γ1 t1 => ((o1 = none → (Q 0 m1 γ1 t1)) ∧ (∀ a1, o1 = some a1 → (isg a1 ∧ (TV E k 95 [.ref 10, .ref a1] m1 γ1 t1 (fun m2 γ2 t2 => (TI E k 99 [.ref 10] m2 γ2 t2 (fun v3 m3 γ3 t3 => (Q v3 m3 γ3 t3))))))))))
theorem vc_X8_strandsOf {E : am_E} {k : Nat} {x1 : Int} {m : MM} {γ : GM} {t : am_H} {Q : Int → MM → GM → am_H → Prop} (hx1 : rJ x1) (hW : W_X8_strandsOf E k x1 m γ t Q) : TI E (k + 1) 189 [.ref 0, .int (iI x1)] m γ t Q := by
  unfold W_X8_strandsOf at hW
  intro h S
  refine wp_g (n := 2) (pc' := 2) (L' := [some (.ref 0), some (.int (iI x1)), none]) (st' := [.int (iI x1), .ref 0]) rfl ?_
  refine wp_cv (As := [.int (iI x1)]) (rest := []) rfl rfl (S.cell 0 (nc rfl)) (by decide) rfl rfl rfl (Nat.le_of_ble_eq_true rfl) (Nat.le_of_ble_eq_true rfl) (hW _ S) (fun r1 H1 q1 => ?_)
  obtain ⟨o1, m1, γ1, t1, rfl, S, hW⟩ := q1
  cases o1 with
  | none =>
    have hW := hW.1 rfl
    show wp _ _ _ _ _ [.null] _ _
    refine wp_g (n := 2) (pc' := 7) (L' := [some (.ref 0), some (.int (iI x1)), some (.null)]) (st' := [.null]) rfl ?_
    refine wp_g (n := 1) (pc' := 10) (L' := [some (.ref 0), some (.int (iI x1)), some (.null)]) (st' := []) rfl ?_
    refine wp_g (n := 1) (pc' := 11) (L' := [some (.ref 0), some (.int (iI x1)), some (.null)]) (st' := [.int (iI 0)]) rfl ?_
    exact wp_iret rfl rfl ⟨_, _, _, _, rfl, (by decide), S, hW⟩
  | some a1 =>
    obtain ⟨hg1, hW⟩ := hW.2 _ rfl
    show wp _ _ _ _ _ [.ref a1] _ _
    refine wp_g (n := 2) (pc' := 7) (L' := [some (.ref 0), some (.int (iI x1)), some (.ref a1)]) (st' := [.ref a1]) rfl ?_
    refine wp_g (n := 1) (pc' := 12) (L' := [some (.ref 0), some (.int (iI x1)), some (.ref a1)]) (st' := []) rfl ?_
    refine wp_g (n := 1) (pc' := 13) (L' := [some (.ref 0), some (.int (iI x1)), some (.ref a1)]) (st' := [.ref 0]) rfl ?_
    refine wp_getf (v := .ref 10) rfl rfl (S.cell 0 (nc rfl)) (by decide) rfl ?_
    refine wp_g (n := 1) (pc' := 17) (L' := [some (.ref 0), some (.int (iI x1)), some (.ref a1)]) (st' := [.ref a1, .ref 10]) rfl ?_
    refine wp_cv (As := [.ref a1]) (rest := []) rfl rfl (S.cell 10 (nc rfl)) (by decide) rfl rfl rfl (Nat.le_of_ble_eq_true rfl) (Nat.le_of_ble_eq_true rfl) (hW _ S) (fun r2 H2 q2 => ?_)
    obtain ⟨m2, γ2, t2, rfl, S, hW⟩ := q2
    show wp _ _ _ _ _ [] _ _
    refine wp_g (n := 1) (pc' := 21) (L' := [some (.ref 0), some (.int (iI x1)), some (.ref a1)]) (st' := [.ref 0]) rfl ?_
    refine wp_getf (v := .ref 10) rfl rfl (S.cell 0 (nc rfl)) (by decide) rfl ?_
    refine wp_cv (As := []) (rest := []) rfl rfl (S.cell 10 (nc rfl)) (by decide) rfl rfl rfl (Nat.le_of_ble_eq_true rfl) (Nat.le_of_ble_eq_true rfl) (hW _ S) (fun r3 H3 q3 => ?_)
    obtain ⟨v3, m3, γ3, t3, rfl, hv3, S, hW⟩ := q3
    show wp _ _ _ _ _ [.int (iI v3)] _ _
    exact wp_iret rfl rfl ⟨_, _, _, _, rfl, hv3, S, hW⟩
def hd_X8_slotsInUse_4 (E : am_E) (k : Nat) (y1 : Int) (y2 : Int) (m : MM) (γ : GM) (t : am_H) (Q : Int → MM → GM → am_H → Prop) : Prop := TT (pI Q) E (k + 1) 190 4 [some (.ref 0), some (.int (iI y1)), some (.int (iI y2))] [] m γ t
abbrev W_X8_slotsInUse (E : am_E) (k : Nat) (m : MM) (γ : GM) (t : am_H) (Q : Int → MM → GM → am_H → Prop) : Prop := (hd_X8_slotsInUse_4 E k 0 0 m γ t Q)
abbrev W_X8_slotsInUse_4 (E : am_E) (k : Nat) (y1 : Int) (y2 : Int) (m : MM) (γ : GM) (t : am_H) (Q : Int → MM → GM → am_H → Prop) : Prop := (((y2 < 3) → (TA E k 184 [.ref 0, .int (iI y2)] m γ t (fun o2 m2 γ2 t2 => ((o2 = none → (hd_X8_slotsInUse_4 E k y1 (y2 + 1) m2 γ2 t2 Q)) ∧ (∀ a2, o2 = some a2 → (isg a2 ∧ (hd_X8_slotsInUse_4 E k (bOr y1 (bShl 1 y2)) (y2 + 1) m2 γ2 t2 Q))))))) ∧ (¬ (y2 < 3) → (Q y1 m γ t)))
theorem vc_X8_slotsInUse {E : am_E} {k : Nat} {m : MM} {γ : GM} {t : am_H} {Q : Int → MM → GM → am_H → Prop} (hW : W_X8_slotsInUse E k  m γ t Q) : TI E (k + 1) 190 [.ref 0] m γ t Q := by
  unfold W_X8_slotsInUse at hW
  intro h S
  refine wp_g (n := 4) (pc' := 4) (L' := [some (.ref 0), some (.int (iI 0)), some (.int (iI 0))]) (st' := []) rfl ?_
  exact hW _ S
theorem vc_X8_slotsInUse_4 {E : am_E} {k : Nat} {y1 : Int} {y2 : Int} {m : MM} {γ : GM} {t : am_H} {Q : Int → MM → GM → am_H → Prop} (hy1 : rJ y1) (hy2 : rJ y2) (hW : W_X8_slotsInUse_4 E k y1 y2 m γ t Q) : hd_X8_slotsInUse_4 E k y1 y2 m γ t Q := by
  unfold W_X8_slotsInUse_4 at hW
  intro h S
  refine wp_g (n := 2) (pc' := 6) (L' := [some (.ref 0), some (.int (iI y1)), some (.int (iI y2))]) (st' := [.int (iI 3), .int (iI y2)]) rfl ?_
  refine wp_icmpI (a := y2) (b := 3) rfl rfl hy2.1 hy2.2 (by decide) (by decide) (fun c1 => ?_) (fun c1 => ?_)
  · have dc1 := (Int.not_lt.mpr c1)
    have hW := hW.2 dc1
    refine wp_g (n := 1) (pc' := 30) (L' := [some (.ref 0), some (.int (iI y1)), some (.int (iI y2))]) (st' := [.int (iI y1)]) rfl ?_
    exact wp_iret rfl rfl ⟨_, _, _, _, rfl, hy1, S, hW⟩
  · have dc1 := (Int.not_le.mp c1)
    have hW := hW.1 dc1
    refine wp_g (n := 2) (pc' := 11) (L' := [some (.ref 0), some (.int (iI y1)), some (.int (iI y2))]) (st' := [.int (iI y2), .ref 0]) rfl ?_
    refine wp_cv (As := [.int (iI y2)]) (rest := []) rfl rfl (S.cell 0 (nc rfl)) (by decide) rfl rfl rfl (Nat.le_of_ble_eq_true rfl) (Nat.le_of_ble_eq_true rfl) (hW _ S) (fun r2 H2 q2 => ?_)
    obtain ⟨o2, m2, γ2, t2, rfl, S, hW⟩ := q2
    cases o2 with
    | none =>
      have hW := hW.1 rfl
      show wp _ _ _ _ _ [.null] _ _
      refine wp_g (n := 1) (pc' := 23) (L' := [some (.ref 0), some (.int (iI y1)), some (.int (iI y2))]) (st' := []) rfl ?_
      refine wp_iinc (L' := [some (.ref 0), some (.int (iI y1)), some (.int (iI (y2 + 1)))]) (a := y2) rfl rfl rfl ?_
      refine wp_g (n := 1) (pc' := 4) (L' := [some (.ref 0), some (.int (iI y1)), some (.int (iI (y2 + 1)))]) (st' := []) rfl ?_
      exact hW _ S
    | some a2 =>
      obtain ⟨hg2, hW⟩ := hW.2 _ rfl
      show wp _ _ _ _ _ [.ref a2] _ _
      refine wp_g (n := 1) (pc' := 17) (L' := [some (.ref 0), some (.int (iI y1)), some (.int (iI y2))]) (st' := []) rfl ?_
      refine wp_g (n := 3) (pc' := 20) (L' := [some (.ref 0), some (.int (iI y1)), some (.int (iI y2))]) (st' := [.int (iI y2), .int (iI 1), .int (iI y1)]) rfl ?_
      refine wp_bShl (a := 1) (b := y2) rfl ?_
      have hr3 : rJ (bShl 1 y2) := i32_rg _
      refine wp_bOr (a := y1) (b := (bShl 1 y2)) rfl ?_
      have hr4 : rJ (bOr y1 (bShl 1 y2)) := i32_rg _
      refine wp_g (n := 1) (pc' := 23) (L' := [some (.ref 0), some (.int (iI (bOr y1 (bShl 1 y2)))), some (.int (iI y2))]) (st' := []) rfl ?_
      refine wp_iinc (L' := [some (.ref 0), some (.int (iI (bOr y1 (bShl 1 y2)))), some (.int (iI (y2 + 1)))]) (a := y2) rfl rfl rfl ?_
      refine wp_g (n := 1) (pc' := 4) (L' := [some (.ref 0), some (.int (iI (bOr y1 (bShl 1 y2)))), some (.int (iI (y2 + 1)))]) (st' := []) rfl ?_
      exact hW _ S
abbrev W_X8_become (E : am_E) (k : Nat) (x1 : Int) (m : MM) (γ : GM) (t : am_H) (Q : MM → GM → am_H → Prop) : Prop := (TI E k 176 [.int (iI x1)] m γ t (fun v1 m1 γ1 t1 => (((v1 = 0) → (Q m1 γ1 t1)) ∧ (¬ (v1 = 0) → ((0 ≤ x1 ∧ x1 < 3) ∧ (TI E k 43 [.ref (146 + 4 * (x1).toNat), .ref 2] m1 γ1 t1 (fun v5 m5 γ5 t5 => (((v5 = 0) → ((0 ≤ x1 ∧ x1 < 3) ∧ (TV E k 2 [.ref 103, .int (iI x1), .ref (146 + 4 * (x1).toNat)] m5 γ5 t5 (fun m9 γ9 t9 => ((0 ≤ x1 ∧ x1 < 3) ∧ (TV E k 44 [.ref (146 + 4 * (x1).toNat), .ref 2] m9 γ9 t9 (fun m12 γ12 t12 => (Q m12 γ12 t12)))))))) ∧ (¬ (v5 = 0) → (Q m5 γ5 t5))))))))))
theorem vc_X8_become {E : am_E} {k : Nat} {x1 : Int} {m : MM} {γ : GM} {t : am_H} {Q : MM → GM → am_H → Prop} (hx1 : rJ x1) (hW : W_X8_become E k x1 m γ t Q) : TV E (k + 1) 191 [.ref 0, .int (iI x1)] m γ t Q := by
  unfold W_X8_become at hW
  intro h S
  refine wp_g (n := 1) (pc' := 1) (L' := [some (.ref 0), some (.int (iI x1))]) (st' := [.int (iI x1)]) rfl ?_
  refine wp_cs (As := [.int (iI x1)]) (rest := []) rfl rfl rfl rfl (Nat.le_of_ble_eq_true rfl) (Nat.le_of_ble_eq_true rfl) (hW _ S) (fun r1 H1 q1 => ?_)
  obtain ⟨v1, m1, γ1, t1, rfl, hv1, S, hW⟩ := q1
  show wp _ _ _ _ _ [.int (iI v1)] _ _
  refine wp_ifI (a := v1) rfl rfl hv1.1 hv1.2 (fun c2 => ?_) (fun c2 => ?_)
  · have dc2 := c2
    have hW := hW.1 dc2
    exact wp_vret rfl rfl ⟨_, _, _, rfl, S, hW⟩
  · have dc2 := c2
    have hW := hW.2 dc2
    refine wp_g (n := 1) (pc' := 8) (L' := [some (.ref 0), some (.int (iI x1))]) (st' := [.ref 0]) rfl ?_
    refine wp_getf (v := .ref 1) rfl rfl (S.cell 0 (nc rfl)) (by decide) rfl ?_
    refine wp_g (n := 1) (pc' := 12) (L' := [some (.ref 0), some (.int (iI x1))]) (st' := [.int (iI x1), .ref 1]) rfl ?_
    obtain ⟨p3, hW⟩ := hW
    have hn4 : (x1).toNat < 3 := by omega
    refine wp_aald (n := 3) (b := (146 + 4 * (x1).toNat)) rfl (S.cell 1 (nc rfl)) p3.1 p3.2 (by decide) (if_pos hn4) ?_
    refine wp_g (n := 1) (pc' := 14) (L' := [some (.ref 0), some (.int (iI x1))]) (st' := [.ref 0, .ref (146 + 4 * (x1).toNat)]) rfl ?_
    refine wp_getf (v := .ref 2) rfl rfl (S.cell 0 (nc rfl)) (by decide) rfl ?_
    refine wp_cv (As := [.ref 2]) (rest := []) rfl rfl (S.gg (146 + 4 * (x1).toNat) (isg_146 hn4)).obj (isg_lt (isg_146 hn4)) rfl rfl rfl (Nat.le_of_ble_eq_true rfl) (Nat.le_of_ble_eq_true rfl) (hW _ S) (fun r5 H5 q5 => ?_)
    obtain ⟨v5, m5, γ5, t5, rfl, hv5, S, hW⟩ := q5
    show wp _ _ _ _ _ [.int (iI v5)] _ _
    refine wp_ifI (a := v5) rfl rfl hv5.1 hv5.2 (fun c6 => ?_) (fun c6 => ?_)
    · have dc6 := c6
      have hW := hW.1 dc6
      refine wp_g (n := 1) (pc' := 25) (L' := [some (.ref 0), some (.int (iI x1))]) (st' := [.ref 0]) rfl ?_
      refine wp_getf (v := .ref 103) rfl rfl (S.cell 0 (nc rfl)) (by decide) rfl ?_
      refine wp_g (n := 2) (pc' := 30) (L' := [some (.ref 0), some (.int (iI x1))]) (st' := [.ref 0, .int (iI x1), .ref 103]) rfl ?_
      refine wp_getf (v := .ref 1) rfl rfl (S.cell 0 (nc rfl)) (by decide) rfl ?_
      refine wp_g (n := 1) (pc' := 34) (L' := [some (.ref 0), some (.int (iI x1))]) (st' := [.int (iI x1), .ref 1, .int (iI x1), .ref 103]) rfl ?_
      obtain ⟨p7, hW⟩ := hW
      have hn8 : (x1).toNat < 3 := by omega
      refine wp_aald (n := 3) (b := (146 + 4 * (x1).toNat)) rfl (S.cell 1 (nc rfl)) p7.1 p7.2 (by decide) (if_pos hn8) ?_
      refine wp_cv (As := [.int (iI x1), .ref (146 + 4 * (x1).toNat)]) (rest := []) rfl rfl (S.cell 103 (nc rfl)) (by decide) rfl rfl rfl (Nat.le_of_ble_eq_true rfl) (Nat.le_of_ble_eq_true rfl) (hW _ S) (fun r9 H9 q9 => ?_)
      obtain ⟨m9, γ9, t9, rfl, S, hW⟩ := q9
      show wp _ _ _ _ _ [] _ _
      refine wp_g (n := 1) (pc' := 39) (L' := [some (.ref 0), some (.int (iI x1))]) (st' := [.ref 0]) rfl ?_
      refine wp_getf (v := .ref 1) rfl rfl (S.cell 0 (nc rfl)) (by decide) rfl ?_
      refine wp_g (n := 1) (pc' := 43) (L' := [some (.ref 0), some (.int (iI x1))]) (st' := [.int (iI x1), .ref 1]) rfl ?_
      obtain ⟨p10, hW⟩ := hW
      have hn11 : (x1).toNat < 3 := by omega
      refine wp_aald (n := 3) (b := (146 + 4 * (x1).toNat)) rfl (S.cell 1 (nc rfl)) p10.1 p10.2 (by decide) (if_pos hn11) ?_
      refine wp_g (n := 1) (pc' := 45) (L' := [some (.ref 0), some (.int (iI x1))]) (st' := [.ref 0, .ref (146 + 4 * (x1).toNat)]) rfl ?_
      refine wp_getf (v := .ref 2) rfl rfl (S.cell 0 (nc rfl)) (by decide) rfl ?_
      refine wp_cv (As := [.ref 2]) (rest := []) rfl rfl (S.gg (146 + 4 * (x1).toNat) (isg_146 hn11)).obj (isg_lt (isg_146 hn11)) rfl rfl rfl (Nat.le_of_ble_eq_true rfl) (Nat.le_of_ble_eq_true rfl) (hW _ S) (fun r12 H12 q12 => ?_)
      obtain ⟨m12, γ12, t12, rfl, S, hW⟩ := q12
      show wp _ _ _ _ _ [] _ _
      exact wp_vret rfl rfl ⟨_, _, _, rfl, S, hW⟩
    · have dc6 := c6
      have hW := hW.2 dc6
      exact wp_vret rfl rfl ⟨_, _, _, rfl, S, hW⟩
abbrev W_J9_floorMod_7cf53 (E : am_E) (k : Nat) (x1 : Int) (x2 : Int) (m : MM) (γ : GM) (t : am_H) (Q : Int → MM → GM → am_H → Prop) : Prop := (x2 ≠ 0 ∧ ((((bXor x1 x2) < 0) → (rJ (Int.tmod x1 x2) ∧ ((((Int.tmod x1 x2) = 0) → (Q (Int.tmod x1 x2) m γ t)) ∧ (¬ ((Int.tmod x1 x2) = 0) → (rJ ((Int.tmod x1 x2) + x2) ∧ (Q ((Int.tmod x1 x2) + x2) m γ t)))))) ∧ (¬ ((bXor x1 x2) < 0) → (rJ (Int.tmod x1 x2) ∧ (Q (Int.tmod x1 x2) m γ t)))))
theorem vc_J9_floorMod_7cf53 {E : am_E} {k : Nat} {x1 : Int} {x2 : Int} {m : MM} {γ : GM} {t : am_H} {Q : Int → MM → GM → am_H → Prop} (hx1 : rJ x1) (hx2 : rJ x2) (hW : W_J9_floorMod_7cf53 E k x1 x2 m γ t Q) : TI E k 309 [.int (iI x1), .int (iI x2)] m γ t Q := by
  unfold W_J9_floorMod_7cf53 at hW
  intro h S
  refine wp_g (n := 2) (pc' := 2) (L' := [some (.int (iI x1)), some (.int (iI x2)), none]) (st' := [.int (iI x2), .int (iI x1)]) rfl ?_
  obtain ⟨p1, hW⟩ := hW
  refine wp_remt (a := x1) (b := x2) rfl hx1 hx2 p1 ?_
  refine wp_g (n := 3) (pc' := 6) (L' := [some (.int (iI x1)), some (.int (iI x2)), some (.int (iI (Int.tmod x1 x2)))]) (st' := [.int (iI x2), .int (iI x1)]) rfl ?_
  refine wp_bXor (a := x1) (b := x2) rfl ?_
  have hr2 : rJ (bXor x1 x2) := i32_rg _
  refine wp_ifI (a := (bXor x1 x2)) rfl rfl hr2.1 hr2.2 (fun c3 => ?_) (fun c3 => ?_)
  · have dc3 := (Int.not_lt.mpr c3)
    have hW := hW.2 dc3
    refine wp_g (n := 1) (pc' := 19) (L' := [some (.int (iI x1)), some (.int (iI x2)), some (.int (iI (Int.tmod x1 x2)))]) (st' := [.int (iI (Int.tmod x1 x2))]) rfl ?_
    obtain ⟨p4, hW⟩ := hW
    exact wp_iret rfl rfl ⟨_, _, _, _, rfl, p4, S, hW⟩
  · have dc3 := (Int.not_le.mp c3)
    have hW := hW.1 dc3
    refine wp_g (n := 1) (pc' := 11) (L' := [some (.int (iI x1)), some (.int (iI x2)), some (.int (iI (Int.tmod x1 x2)))]) (st' := [.int (iI (Int.tmod x1 x2))]) rfl ?_
    obtain ⟨p5, hW⟩ := hW
    refine wp_ifI (a := (Int.tmod x1 x2)) rfl rfl p5.1 p5.2 (fun c6 => ?_) (fun c6 => ?_)
    · have dc6 := c6
      have hW := hW.1 dc6
      refine wp_g (n := 1) (pc' := 19) (L' := [some (.int (iI x1)), some (.int (iI x2)), some (.int (iI (Int.tmod x1 x2)))]) (st' := [.int (iI (Int.tmod x1 x2))]) rfl ?_
      exact wp_iret rfl rfl ⟨_, _, _, _, rfl, p5, S, hW⟩
    · have dc6 := c6
      have hW := hW.2 dc6
      refine wp_g (n := 2) (pc' := 16) (L' := [some (.int (iI x1)), some (.int (iI x2)), some (.int (iI (Int.tmod x1 x2)))]) (st' := [.int (iI x2), .int (iI (Int.tmod x1 x2))]) rfl ?_
      refine wp_add (a := (Int.tmod x1 x2)) (b := x2) rfl ?_
      obtain ⟨p7, hW⟩ := hW
      exact wp_iret rfl rfl ⟨_, _, _, _, rfl, p7, S, hW⟩
abbrev W_J9_abs_0f7a4 (E : am_E) (k : Nat) (x1 : Int) (m : MM) (γ : GM) (t : am_H) (Q : Int → MM → GM → am_H → Prop) : Prop := (((x1 < 0) → (rJ (-x1) ∧ (Q (-x1) m γ t))) ∧ (¬ (x1 < 0) → (Q x1 m γ t)))
theorem vc_J9_abs_0f7a4 {E : am_E} {k : Nat} {x1 : Int} {m : MM} {γ : GM} {t : am_H} {Q : Int → MM → GM → am_H → Prop} (hx1 : rJ x1) (hW : W_J9_abs_0f7a4 E k x1 m γ t Q) : TI E k 310 [.int (iI x1)] m γ t Q := by
  unfold W_J9_abs_0f7a4 at hW
  intro h S
  refine wp_g (n := 1) (pc' := 1) (L' := [some (.int (iI x1))]) (st' := [.int (iI x1)]) rfl ?_
  refine wp_ifI (a := x1) rfl rfl hx1.1 hx1.2 (fun c1 => ?_) (fun c1 => ?_)
  · have dc1 := (Int.not_lt.mpr c1)
    have hW := hW.2 dc1
    refine wp_g (n := 1) (pc' := 10) (L' := [some (.int (iI x1))]) (st' := [.int (iI x1)]) rfl ?_
    exact wp_iret rfl rfl ⟨_, _, _, _, rfl, hx1, S, hW⟩
  · have dc1 := (Int.not_le.mp c1)
    have hW := hW.1 dc1
    refine wp_g (n := 1) (pc' := 5) (L' := [some (.int (iI x1))]) (st' := [.int (iI x1)]) rfl ?_
    refine wp_neg (a := x1) rfl ?_
    refine wp_g (n := 1) (pc' := 10) (L' := [some (.int (iI x1))]) (st' := [.int (iI (-x1))]) rfl ?_
    obtain ⟨p2, hW⟩ := hW
    exact wp_iret rfl rfl ⟨_, _, _, _, rfl, p2, S, hW⟩
abbrev W_J9_max_7cf53 (E : am_E) (k : Nat) (x1 : Int) (x2 : Int) (m : MM) (γ : GM) (t : am_H) (Q : Int → MM → GM → am_H → Prop) : Prop := (((x1 < x2) → (Q x2 m γ t)) ∧ (¬ (x1 < x2) → (Q x1 m γ t)))
theorem vc_J9_max_7cf53 {E : am_E} {k : Nat} {x1 : Int} {x2 : Int} {m : MM} {γ : GM} {t : am_H} {Q : Int → MM → GM → am_H → Prop} (hx1 : rJ x1) (hx2 : rJ x2) (hW : W_J9_max_7cf53 E k x1 x2 m γ t Q) : TI E k 311 [.int (iI x1), .int (iI x2)] m γ t Q := by
  unfold W_J9_max_7cf53 at hW
  intro h S
  refine wp_g (n := 2) (pc' := 2) (L' := [some (.int (iI x1)), some (.int (iI x2))]) (st' := [.int (iI x2), .int (iI x1)]) rfl ?_
  refine wp_icmpI (a := x1) (b := x2) rfl rfl hx1.1 hx1.2 hx2.1 hx2.2 (fun c1 => ?_) (fun c1 => ?_)
  · have dc1 := c1
    have hW := hW.1 dc1
    refine wp_g (n := 1) (pc' := 10) (L' := [some (.int (iI x1)), some (.int (iI x2))]) (st' := [.int (iI x2)]) rfl ?_
    exact wp_iret rfl rfl ⟨_, _, _, _, rfl, hx2, S, hW⟩
  · have dc1 := c1
    have hW := hW.2 dc1
    refine wp_g (n := 2) (pc' := 10) (L' := [some (.int (iI x1)), some (.int (iI x2))]) (st' := [.int (iI x1)]) rfl ?_
    exact wp_iret rfl rfl ⟨_, _, _, _, rfl, hx1, S, hW⟩
abbrev W_J9_min_7cf53 (E : am_E) (k : Nat) (x1 : Int) (x2 : Int) (m : MM) (γ : GM) (t : am_H) (Q : Int → MM → GM → am_H → Prop) : Prop := (((x1 ≤ x2) → (Q x1 m γ t)) ∧ (¬ (x1 ≤ x2) → (Q x2 m γ t)))
theorem vc_J9_min_7cf53 {E : am_E} {k : Nat} {x1 : Int} {x2 : Int} {m : MM} {γ : GM} {t : am_H} {Q : Int → MM → GM → am_H → Prop} (hx1 : rJ x1) (hx2 : rJ x2) (hW : W_J9_min_7cf53 E k x1 x2 m γ t Q) : TI E k 312 [.int (iI x1), .int (iI x2)] m γ t Q := by
  unfold W_J9_min_7cf53 at hW
  intro h S
  refine wp_g (n := 2) (pc' := 2) (L' := [some (.int (iI x1)), some (.int (iI x2))]) (st' := [.int (iI x2), .int (iI x1)]) rfl ?_
  refine wp_icmpI (a := x1) (b := x2) rfl rfl hx1.1 hx1.2 hx2.1 hx2.2 (fun c1 => ?_) (fun c1 => ?_)
  · have dc1 := (Int.not_le.mpr c1)
    have hW := hW.2 dc1
    refine wp_g (n := 1) (pc' := 10) (L' := [some (.int (iI x1)), some (.int (iI x2))]) (st' := [.int (iI x2)]) rfl ?_
    exact wp_iret rfl rfl ⟨_, _, _, _, rfl, hx2, S, hW⟩
  · have dc1 := (Int.not_lt.mp c1)
    have hW := hW.1 dc1
    refine wp_g (n := 2) (pc' := 10) (L' := [some (.int (iI x1)), some (.int (iI x2))]) (st' := [.int (iI x1)]) rfl ?_
    exact wp_iret rfl rfl ⟨_, _, _, _, rfl, hx1, S, hW⟩
