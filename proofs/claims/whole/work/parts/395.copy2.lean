section CPT
variable {E : am_E} {k : Nat} {h : am_H} {g R C : Nat} {kd : Nat → Int}
theorem gcell_in : ∀ R, R ≤ 4 → ∀ C, C ≤ 4 → ∀ e, e < gn R C → gcell R C e / C + gbel R C e < R ∧ gcell R C e % C + (1 - gbel R C e) < C ∧ gcell R C e < 16 := by decide
theorem scat_perm {n n2 : Nat} {d s : Nat → Int} {τ : Nat → Nat} (h1 : ∀ j, j < n2 → 0 ≤ d j ∧ d j < n ∧ τ (d j).toNat = j) (K : Nat → Int) : ∀ m, m ≤ n2 → ∀ e, e < n → scat n d s m K e = if τ e < m ∧ d (τ e) = e then s (τ e) else K e
  | 0, _, e, he => by simp [scat]
  | m + 1, hm, e, he => by
    obtain ⟨q1, q2, q3⟩ := h1 m (by omega)
    have ih := scat_perm (s := s) h1 K m (by omega) e he
    rw [scat, if_pos ⟨q1, q2⟩, up]
    split
    · next h2 =>
      rw [h2, q3, if_pos ⟨by omega, by omega⟩]
    · next h2 =>
      rw [ih]
      by_cases h3 : τ e < m ∧ d (τ e) = e
      · rw [if_pos h3, if_pos ⟨by omega, h3.2⟩]
      · rw [if_neg h3, if_neg (fun h4 => ?_)]
        by_cases h5 : τ e = m
        · rw [h5] at h4
          omega
        · exact h3 ⟨by omega, h4.2⟩
theorem layR_ok {R C : Nat} (h : gok R C) : layR R C = R ∧ layC R C = C ∧ layR C R = C ∧ layC C R = R := by
  unfold gok at h
  unfold layR layC
  rcases h with ⟨rfl, rfl⟩ | h
  · simp
  · rw [if_pos (by omega), if_pos (by omega), if_pos (by omega), if_pos (by omega)]
    omega
/-- the edge of a grid that comes to lie at e when the grid goes round by a quarter -/
def trE (R C e : Nat) : Nat := (if gbel C R e = 1 then geb R C (2 * ((R - 1 - gcell C R e % R) * C + gcell C R e / R)) else geb R C (2 * ((R - 1 - gcell C R e % R - 1) * C + gcell C R e / R) + 1)).toNat
def miE (R C e : Nat) : Nat := (if gbel R C e = 1 then geb R C (2 * ((gcell R C e / C) * C + (C - 1 - gcell R C e % C)) + 1) else geb R C (2 * ((gcell R C e / C) * C + (C - 1 - gcell R C e % C) - 1))).toNat
def trD (R C j : Nat) : Int := geb C R (2 * ((gcell R C j % C) * R + (R - 1 - gcell R C j / C - gbel R C j)) + (1 - gbel R C j))
def miD (R C j : Nat) : Int := geb R C (2 * ((gcell R C j / C) * C + (C - 1 - gcell R C j % C - (1 - gbel R C j))) + gbel R C j)
theorem trE_ok : ∀ R, R ≤ 4 → ∀ C, C ≤ 4 → (∀ j, j < gn R C → 0 ≤ trD R C j ∧ trD R C j < gn C R ∧ trE R C (trD R C j).toNat = j) ∧ ∀ e, e < gn C R → trE R C e < gn R C ∧ trD R C (trE R C e) = e := by decide +kernel
theorem miE_ok : ∀ R, R ≤ 4 → ∀ C, C ≤ 4 → (∀ j, j < gn R C → 0 ≤ miD R C j ∧ miD R C j < gn R C ∧ miE R C (miD R C j).toNat = j) ∧ ∀ e, e < gn R C → miE R C e < gn R C ∧ miD R C (miE R C e) = e := by decide +kernel
theorem paE_ok : ∀ R, R ≤ 4 → ∀ C, C ≤ 4 → ∀ j, j < gn R C → geb R C (2 * ((gcell R C j / C) * C + gcell R C j % C + 0) + gbel R C j) = j := by decide +kernel
/-- Grid.copyTurned, its loop -/
theorem G_turn_l {g2 R2 C2 : Nat} {kd2 : Nat → Int} {h0 : am_H} (hRR : R = C2) (hCC : C = R2) (ha : g + 3 < g2 ∨ g2 + 3 < g) (hgl : g + 3 < 1000000) (hgl2 : g2 + 3 < 1000000) (hokR : gok R C) : ∀ (m j : Nat) (h : am_H) (x3 x4 x5 : Option Value), gn R2 C2 - j = m → j ≤ gn R2 C2 → GG h g R C (scat (gn R C) (fun j => geb R C (2 * ((gcell R2 C2 j % C2) * C + (R2 - 1 - gcell R2 C2 j / C2 - gbel R2 C2 j)) + (1 - gbel R2 C2 j))) (fun j => kd2 j) j kd) → GG h g2 R2 C2 kd2 → FG h0 h g → wp E (k + 2) 46 14 [some (.ref g), some (.ref g2), some (.int (iI (j : Int))), x3, x4, x5] [] h (fun q h1 => q = none ∧ FG h0 h1 g ∧ GG h1 g R C (scat (gn R C) (fun j => geb R C (2 * ((gcell R2 C2 j % C2) * C + (R2 - 1 - gcell R2 C2 j / C2 - gbel R2 C2 j)) + (1 - gbel R2 C2 j))) (fun j => kd2 j) (gn R2 C2) kd) ∧ GG h1 g2 R2 C2 kd2)
  | m, j, h, x3, x4, x5, hm, hj, G, G2, hFF => by
    have ih : ∀ (j' : Nat) (h' : am_H) (x3' x4' x5' : Option Value), gn R2 C2 - j' < m → j' ≤ gn R2 C2 → GG h' g R C (scat (gn R C) (fun j => geb R C (2 * ((gcell R2 C2 j % C2) * C + (R2 - 1 - gcell R2 C2 j / C2 - gbel R2 C2 j)) + (1 - gbel R2 C2 j))) (fun j => kd2 j) j' kd) → GG h' g2 R2 C2 kd2 → FG h0 h' g → wp E (k + 2) 46 14 [some (.ref g), some (.ref g2), some (.int (iI (j' : Int))), x3', x4', x5'] [] h' (fun q h1 => q = none ∧ FG h0 h1 g ∧ GG h1 g R C (scat (gn R C) (fun j => geb R C (2 * ((gcell R2 C2 j % C2) * C + (R2 - 1 - gcell R2 C2 j / C2 - gbel R2 C2 j)) + (1 - gbel R2 C2 j))) (fun j => kd2 j) (gn R2 C2) kd) ∧ GG h1 g2 R2 C2 kd2) := fun j' h' x3' x4' x5' q1 q2 q3 q4 q5 => G_turn_l hRR hCC ha hgl hgl2 hokR (gn R2 C2 - j') j' h' x3' x4' x5' rfl q2 q3 q4 q5
    have hg := G.obj
    have hg2 := G2.obj
    have hnn := gn_le R2 G2.1.le.1 C2 G2.1.le.2
    have hnn1 := gn_le R hokR.le.1 C hokR.le.2
    have hRC : R * C ≤ 16 := Nat.mul_le_mul hokR.le.1 hokR.le.2
    have hRC2 : R2 * C2 ≤ 16 := Nat.mul_le_mul G2.1.le.1 G2.1.le.2
    refine wp_g (n := 2) (pc' := 16) (L' := [some (.ref g), some (.ref g2), some (.int (iI (j : Int))), x3, x4, x5]) (st' := [.ref g2, .int (iI (j : Int))]) rfl ?_
    refine wp_getf rfl rfl hg2 (by omega) rfl ?_
    refine wp_icmpI rfl rfl (by omega) (by omega) (by omega) (by omega) (fun c1 => ?_) (fun c1 => ?_)
    · have c1 : (((gn R2 C2 : Int) : Int) ≤ ((j : Int) : Int)) := c1
      refine wp_vret rfl rfl ?_
      have hjn : j = gn R2 C2 := by omega
      subst hjn
      exact ⟨rfl, hFF, G, G2⟩
    · have c1 : (¬ ((gn R2 C2 : Int) : Int) ≤ ((j : Int) : Int)) := c1
      obtain ⟨hq1, hq2, hC21, hq3, hq4, hq5, hq6⟩ := gcell_lt G2.1 (show j < gn R2 C2 by omega)
      have hkj := G2.2.1 j (by omega)
      have hci := gcell_in R2 G2.1.le.1 C2 G2.1.le.2 j (by omega)
      have hz0 := Int.natCast_nonneg (gcell R2 C2 j / C2)
      have hz1 := Int.natCast_nonneg (gcell R2 C2 j % C2)
      have hin : ((gcell R2 C2 j % C2) * C + (R2 - 1 - gcell R2 C2 j / C2 - gbel R2 C2 j)) < R * C := by
        have h1 : (gcell R2 C2 j % C2 + 1) * C ≤ R * C := Nat.mul_le_mul_right C (by omega)
        rw [Nat.succ_mul] at h1
        omega
      have hcast : (((gcell R2 C2 j % C2 : Nat) : Int) * (C : Int)) = (((gcell R2 C2 j % C2) * C : Nat) : Int) := by simp
      have hgb := geb_rng R hokR.le.1 C hokR.le.2 (2 * ((gcell R2 C2 j % C2) * C + (R2 - 1 - gcell R2 C2 j / C2 - gbel R2 C2 j)) + (1 - gbel R2 C2 j)) (by omega)
      refine wp_g (n := 2) (pc' := 24) (L' := [some (.ref g), some (.ref g2), some (.int (iI (j : Int))), x3, x4, x5]) (st' := [.int (iI (j : Int)), .ref g2]) rfl ?_
      refine wp_cv (As := [.int (iI (j : Int))]) (rest := []) rfl rfl hg2 (by omega) rfl rfl rfl (Nat.le_of_ble_eq_true rfl) (Nat.le_of_ble_eq_true rfl) (G_cellOf G2 j (by omega)) (fun r1 h1 q1 => ?_)
      obtain ⟨rfl, e1⟩ := q1
      rw [e1]
      show wp _ _ _ _ _ [.int (iI (gcell R2 C2 j : Int))] _ _
      refine wp_g (n := 3) (pc' := 30) (L' := [some (.ref g), some (.ref g2), some (.int (iI (j : Int))), some (.int (iI (gcell R2 C2 j : Int))), x4, x5]) (st' := [.int (iI (j : Int)), .ref g2]) rfl ?_
      refine wp_cv (As := [.int (iI (j : Int))]) (rest := []) rfl rfl hg2 (by omega) rfl rfl rfl (Nat.le_of_ble_eq_true rfl) (Nat.le_of_ble_eq_true rfl) (G_belowOf G2 j (by omega)) (fun r2 h2 q2 => ?_)
      obtain ⟨rfl, e2⟩ := q2
      rw [e2]
      show wp _ _ _ _ _ [.int (iI (gbel R2 C2 j : Int))] _ _
      refine wp_g (n := 2) (pc' := 36) (L' := [some (.ref g), some (.ref g2), some (.int (iI (j : Int))), some (.int (iI (gcell R2 C2 j : Int))), some (.int (iI (gbel R2 C2 j : Int))), x5]) (st' := [.ref g2]) rfl ?_
      refine wp_getf rfl rfl hg2 (by omega) rfl ?_
      refine wp_g (n := 1) (pc' := 40) (L' := [some (.ref g), some (.ref g2), some (.int (iI (j : Int))), some (.int (iI (gcell R2 C2 j : Int))), some (.int (iI (gbel R2 C2 j : Int))), x5]) (st' := [.int (iI 1), .int (iI (R2 : Int))]) rfl ?_
      refine wp_sub rfl ?_
      refine wp_g (n := 2) (pc' := 43) (L' := [some (.ref g), some (.ref g2), some (.int (iI (j : Int))), some (.int (iI (gcell R2 C2 j : Int))), some (.int (iI (gbel R2 C2 j : Int))), x5]) (st' := [.int (iI (gcell R2 C2 j : Int)), .ref g2, .int (iI ((R2 : Int) - 1))]) rfl ?_
      refine wp_cv (As := [.int (iI (gcell R2 C2 j : Int))]) (rest := [.int (iI ((R2 : Int) - 1))]) rfl rfl hg2 (by omega) rfl rfl rfl (Nat.le_of_ble_eq_true rfl) (Nat.le_of_ble_eq_true rfl) (G_rowOf G2 hC21 (gcell R2 C2 j) (by omega)) (fun r3 h3 q3 => ?_)
      obtain ⟨rfl, e3⟩ := q3
      rw [e3]
      show wp _ _ _ _ _ [.int (iI ((gcell R2 C2 j / C2 : Nat) : Int)), .int (iI ((R2 : Int) - 1))] _ _
      refine wp_sub rfl ?_
      refine wp_g (n := 1) (pc' := 49) (L' := [some (.ref g), some (.ref g2), some (.int (iI (j : Int))), some (.int (iI (gcell R2 C2 j : Int))), some (.int (iI (gbel R2 C2 j : Int))), x5]) (st' := [.int (iI (gbel R2 C2 j : Int)), .int (iI (((R2 : Int) - 1) - ((gcell R2 C2 j / C2 : Nat) : Int)))]) rfl ?_
      refine wp_sub rfl ?_
      refine wp_g (n := 5) (pc' := 56) (L' := [some (.ref g), some (.ref g2), some (.int (iI (j : Int))), some (.int (iI (gcell R2 C2 j : Int))), some (.int (iI (gbel R2 C2 j : Int))), some (.int (iI ((((R2 : Int) - 1) - ((gcell R2 C2 j / C2 : Nat) : Int)) - (gbel R2 C2 j : Int))))]) (st' := [.int (iI (gcell R2 C2 j : Int)), .ref g2, .ref g, .ref g]) rfl ?_
      refine wp_cv (As := [.int (iI (gcell R2 C2 j : Int))]) (rest := [.ref g, .ref g]) rfl rfl hg2 (by omega) rfl rfl rfl (Nat.le_of_ble_eq_true rfl) (Nat.le_of_ble_eq_true rfl) (G_columnOf G2 hC21 (gcell R2 C2 j) (by omega)) (fun r4 h4 q4 => ?_)
      obtain ⟨rfl, e4⟩ := q4
      rw [e4]
      show wp _ _ _ _ _ [.int (iI ((gcell R2 C2 j % C2 : Nat) : Int)), .ref g, .ref g] _ _
      refine wp_g (n := 1) (pc' := 60) (L' := [some (.ref g), some (.ref g2), some (.int (iI (j : Int))), some (.int (iI (gcell R2 C2 j : Int))), some (.int (iI (gbel R2 C2 j : Int))), some (.int (iI ((((R2 : Int) - 1) - ((gcell R2 C2 j / C2 : Nat) : Int)) - (gbel R2 C2 j : Int))))]) (st' := [.ref g, .int (iI ((gcell R2 C2 j % C2 : Nat) : Int)), .ref g, .ref g]) rfl ?_
      refine wp_getf rfl rfl hg (by omega) rfl ?_
      refine wp_mul rfl ?_
      refine wp_g (n := 1) (pc' := 66) (L' := [some (.ref g), some (.ref g2), some (.int (iI (j : Int))), some (.int (iI (gcell R2 C2 j : Int))), some (.int (iI (gbel R2 C2 j : Int))), some (.int (iI ((((R2 : Int) - 1) - ((gcell R2 C2 j / C2 : Nat) : Int)) - (gbel R2 C2 j : Int))))]) (st' := [.int (iI ((((R2 : Int) - 1) - ((gcell R2 C2 j / C2 : Nat) : Int)) - (gbel R2 C2 j : Int))), .int (iI (((gcell R2 C2 j % C2 : Nat) : Int) * (C : Int))), .ref g, .ref g]) rfl ?_
      refine wp_add rfl ?_
      refine wp_g (n := 2) (pc' := 70) (L' := [some (.ref g), some (.ref g2), some (.int (iI (j : Int))), some (.int (iI (gcell R2 C2 j : Int))), some (.int (iI (gbel R2 C2 j : Int))), some (.int (iI ((((R2 : Int) - 1) - ((gcell R2 C2 j / C2 : Nat) : Int)) - (gbel R2 C2 j : Int))))]) (st' := [.int (iI (gbel R2 C2 j : Int)), .int (iI 1), .int (iI ((((gcell R2 C2 j % C2 : Nat) : Int) * (C : Int)) + ((((R2 : Int) - 1) - ((gcell R2 C2 j / C2 : Nat) : Int)) - (gbel R2 C2 j : Int)))), .ref g, .ref g]) rfl ?_
      refine wp_sub rfl ?_
      refine wp_cv (As := [.int (iI ((((gcell R2 C2 j % C2 : Nat) : Int) * (C : Int)) + ((((R2 : Int) - 1) - ((gcell R2 C2 j / C2 : Nat) : Int)) - (gbel R2 C2 j : Int)))), .int (iI (1 - (gbel R2 C2 j : Int)))]) (rest := [.ref g]) rfl rfl hg (by omega) rfl rfl rfl (Nat.le_of_ble_eq_true rfl) (Nat.le_of_ble_eq_true rfl) (G_edgeAtI G ((((gcell R2 C2 j % C2 : Nat) : Int) * (C : Int)) + ((((R2 : Int) - 1) - ((gcell R2 C2 j / C2 : Nat) : Int)) - (gbel R2 C2 j : Int))) ((gcell R2 C2 j % C2) * C + (R2 - 1 - gcell R2 C2 j / C2 - gbel R2 C2 j)) (1 - (gbel R2 C2 j : Int)) (1 - gbel R2 C2 j) (by omega) (by omega) (by omega) (by omega)) (fun r5 h5 q5 => ?_)
      obtain ⟨rfl, e5⟩ := q5
      rw [e5]
      show wp _ _ _ _ _ [.int (iI (geb R C (2 * ((gcell R2 C2 j % C2) * C + (R2 - 1 - gcell R2 C2 j / C2 - gbel R2 C2 j)) + (1 - gbel R2 C2 j)))), .ref g] _ _
      refine wp_g (n := 2) (pc' := 76) (L' := [some (.ref g), some (.ref g2), some (.int (iI (j : Int))), some (.int (iI (gcell R2 C2 j : Int))), some (.int (iI (gbel R2 C2 j : Int))), some (.int (iI ((((R2 : Int) - 1) - ((gcell R2 C2 j / C2 : Nat) : Int)) - (gbel R2 C2 j : Int))))]) (st' := [.int (iI (j : Int)), .ref g2, .int (iI (geb R C (2 * ((gcell R2 C2 j % C2) * C + (R2 - 1 - gcell R2 C2 j / C2 - gbel R2 C2 j)) + (1 - gbel R2 C2 j)))), .ref g]) rfl ?_
      refine wp_cv (As := [.int (iI (j : Int))]) (rest := [.int (iI (geb R C (2 * ((gcell R2 C2 j % C2) * C + (R2 - 1 - gcell R2 C2 j / C2 - gbel R2 C2 j)) + (1 - gbel R2 C2 j)))), .ref g]) rfl rfl hg2 (by omega) rfl rfl rfl (Nat.le_of_ble_eq_true rfl) (Nat.le_of_ble_eq_true rfl) (G_kindOf G2 j (by omega)) (fun r6 h6 q6 => ?_)
      obtain ⟨rfl, e6⟩ := q6
      rw [e6]
      show wp _ _ _ _ _ [.int (iI (kd2 j)), .int (iI (geb R C (2 * ((gcell R2 C2 j % C2) * C + (R2 - 1 - gcell R2 C2 j / C2 - gbel R2 C2 j)) + (1 - gbel R2 C2 j)))), .ref g] _ _
      refine wp_cv (As := [.int (iI (geb R C (2 * ((gcell R2 C2 j % C2) * C + (R2 - 1 - gcell R2 C2 j / C2 - gbel R2 C2 j)) + (1 - gbel R2 C2 j)))), .int (iI (kd2 j))]) (rest := []) rfl rfl hg (by omega) rfl rfl rfl (Nat.le_of_ble_eq_true rfl) (Nat.le_of_ble_eq_true rfl) (G_change G (geb R C (2 * ((gcell R2 C2 j % C2) * C + (R2 - 1 - gcell R2 C2 j / C2 - gbel R2 C2 j)) + (1 - gbel R2 C2 j))) (kd2 j) (by omega) (by omega) (by omega) (by omega)) (fun r7 h7 q7 => ?_)
      obtain ⟨rfl, hF7, G⟩ := q7
      have G2 := G2.moved hF7 (by omega)
      have hFF := hFF.tr hF7
      have hg := G.obj
      have hg2 := G2.obj
      show wp _ _ _ _ _ [] _ _
      refine wp_iinc (L' := [some (.ref g), some (.ref g2), some (.int (iI ((j : Int) + 1))), some (.int (iI (gcell R2 C2 j : Int))), some (.int (iI (gbel R2 C2 j : Int))), some (.int (iI ((((R2 : Int) - 1) - ((gcell R2 C2 j / C2 : Nat) : Int)) - (gbel R2 C2 j : Int))))]) rfl rfl rfl ?_
      refine wp_g (n := 1) (pc' := 14) (L' := [some (.ref g), some (.ref g2), some (.int (iI ((j : Int) + 1))), some (.int (iI (gcell R2 C2 j : Int))), some (.int (iI (gbel R2 C2 j : Int))), some (.int (iI ((((R2 : Int) - 1) - ((gcell R2 C2 j / C2 : Nat) : Int)) - (gbel R2 C2 j : Int))))]) (st' := []) rfl ?_
      refine wp_L (ih (j + 1) _ (some (.int (iI (gcell R2 C2 j : Int)))) (some (.int (iI (gbel R2 C2 j : Int)))) (some (.int (iI ((((R2 : Int) - 1) - ((gcell R2 C2 j / C2 : Nat) : Int)) - (gbel R2 C2 j : Int))))) (by omega) (by omega) ?_ G2 hFF) (by rw [Int.natCast_add]; rfl)
      rw [scat]
      exact G
  termination_by m => m
/-- Grid.copyMirrored, its loop -/
theorem G_mirr_l {g2 R2 C2 : Nat} {kd2 : Nat → Int} {h0 : am_H} (hRR : R = R2) (hCC : C = C2) (ha : g + 3 < g2 ∨ g2 + 3 < g) (hgl : g + 3 < 1000000) (hgl2 : g2 + 3 < 1000000) (hokR : gok R C) : ∀ (m j : Nat) (h : am_H) (x3 x4 x5 : Option Value), gn R2 C2 - j = m → j ≤ gn R2 C2 → GG h g R C (scat (gn R C) (fun j => geb R C (2 * ((gcell R2 C2 j / C2) * C + (C2 - 1 - gcell R2 C2 j % C2 - (1 - gbel R2 C2 j))) + gbel R2 C2 j)) (fun j => tov (kd2 j)) j kd) → GG h g2 R2 C2 kd2 → FG h0 h g → wp E (k + 2) 47 14 [some (.ref g), some (.ref g2), some (.int (iI (j : Int))), x3, x4, x5] [] h (fun q h1 => q = none ∧ FG h0 h1 g ∧ GG h1 g R C (scat (gn R C) (fun j => geb R C (2 * ((gcell R2 C2 j / C2) * C + (C2 - 1 - gcell R2 C2 j % C2 - (1 - gbel R2 C2 j))) + gbel R2 C2 j)) (fun j => tov (kd2 j)) (gn R2 C2) kd) ∧ GG h1 g2 R2 C2 kd2)
  | m, j, h, x3, x4, x5, hm, hj, G, G2, hFF => by
    have ih : ∀ (j' : Nat) (h' : am_H) (x3' x4' x5' : Option Value), gn R2 C2 - j' < m → j' ≤ gn R2 C2 → GG h' g R C (scat (gn R C) (fun j => geb R C (2 * ((gcell R2 C2 j / C2) * C + (C2 - 1 - gcell R2 C2 j % C2 - (1 - gbel R2 C2 j))) + gbel R2 C2 j)) (fun j => tov (kd2 j)) j' kd) → GG h' g2 R2 C2 kd2 → FG h0 h' g → wp E (k + 2) 47 14 [some (.ref g), some (.ref g2), some (.int (iI (j' : Int))), x3', x4', x5'] [] h' (fun q h1 => q = none ∧ FG h0 h1 g ∧ GG h1 g R C (scat (gn R C) (fun j => geb R C (2 * ((gcell R2 C2 j / C2) * C + (C2 - 1 - gcell R2 C2 j % C2 - (1 - gbel R2 C2 j))) + gbel R2 C2 j)) (fun j => tov (kd2 j)) (gn R2 C2) kd) ∧ GG h1 g2 R2 C2 kd2) := fun j' h' x3' x4' x5' q1 q2 q3 q4 q5 => G_mirr_l hRR hCC ha hgl hgl2 hokR (gn R2 C2 - j') j' h' x3' x4' x5' rfl q2 q3 q4 q5
    have hg := G.obj
    have hg2 := G2.obj
    have hnn := gn_le R2 G2.1.le.1 C2 G2.1.le.2
    have hnn1 := gn_le R hokR.le.1 C hokR.le.2
    have hRC : R * C ≤ 16 := Nat.mul_le_mul hokR.le.1 hokR.le.2
    have hRC2 : R2 * C2 ≤ 16 := Nat.mul_le_mul G2.1.le.1 G2.1.le.2
    refine wp_g (n := 2) (pc' := 16) (L' := [some (.ref g), some (.ref g2), some (.int (iI (j : Int))), x3, x4, x5]) (st' := [.ref g2, .int (iI (j : Int))]) rfl ?_
    refine wp_getf rfl rfl hg2 (by omega) rfl ?_
    refine wp_icmpI rfl rfl (by omega) (by omega) (by omega) (by omega) (fun c1 => ?_) (fun c1 => ?_)
    · have c1 : (((gn R2 C2 : Int) : Int) ≤ ((j : Int) : Int)) := c1
      refine wp_vret rfl rfl ?_
      have hjn : j = gn R2 C2 := by omega
      subst hjn
      exact ⟨rfl, hFF, G, G2⟩
    · have c1 : (¬ ((gn R2 C2 : Int) : Int) ≤ ((j : Int) : Int)) := c1
      obtain ⟨hq1, hq2, hC21, hq3, hq4, hq5, hq6⟩ := gcell_lt G2.1 (show j < gn R2 C2 by omega)
      have hkj := G2.2.1 j (by omega)
      have hci := gcell_in R2 G2.1.le.1 C2 G2.1.le.2 j (by omega)
      have hz0 := Int.natCast_nonneg (gcell R2 C2 j / C2)
      have hz1 := Int.natCast_nonneg (gcell R2 C2 j % C2)
      have htv := tov_rng hkj.1 hkj.2
      have hin : ((gcell R2 C2 j / C2) * C + (C2 - 1 - gcell R2 C2 j % C2 - (1 - gbel R2 C2 j))) < R * C := by
        have h1 : (gcell R2 C2 j / C2 + 1) * C ≤ R * C := Nat.mul_le_mul_right C (by omega)
        rw [Nat.succ_mul] at h1
        omega
      have hcast : (((gcell R2 C2 j / C2 : Nat) : Int) * (C : Int)) = (((gcell R2 C2 j / C2) * C : Nat) : Int) := by simp
      have hgb := geb_rng R hokR.le.1 C hokR.le.2 (2 * ((gcell R2 C2 j / C2) * C + (C2 - 1 - gcell R2 C2 j % C2 - (1 - gbel R2 C2 j))) + gbel R2 C2 j) (by omega)
      refine wp_g (n := 2) (pc' := 24) (L' := [some (.ref g), some (.ref g2), some (.int (iI (j : Int))), x3, x4, x5]) (st' := [.int (iI (j : Int)), .ref g2]) rfl ?_
      refine wp_cv (As := [.int (iI (j : Int))]) (rest := []) rfl rfl hg2 (by omega) rfl rfl rfl (Nat.le_of_ble_eq_true rfl) (Nat.le_of_ble_eq_true rfl) (G_cellOf G2 j (by omega)) (fun r1 h1 q1 => ?_)
      obtain ⟨rfl, e1⟩ := q1
      rw [e1]
      show wp _ _ _ _ _ [.int (iI (gcell R2 C2 j : Int))] _ _
      refine wp_g (n := 3) (pc' := 30) (L' := [some (.ref g), some (.ref g2), some (.int (iI (j : Int))), some (.int (iI (gcell R2 C2 j : Int))), x4, x5]) (st' := [.int (iI (j : Int)), .ref g2]) rfl ?_
      refine wp_cv (As := [.int (iI (j : Int))]) (rest := []) rfl rfl hg2 (by omega) rfl rfl rfl (Nat.le_of_ble_eq_true rfl) (Nat.le_of_ble_eq_true rfl) (G_belowOf G2 j (by omega)) (fun r2 h2 q2 => ?_)
      obtain ⟨rfl, e2⟩ := q2
      rw [e2]
      show wp _ _ _ _ _ [.int (iI (gbel R2 C2 j : Int))] _ _
      refine wp_g (n := 2) (pc' := 36) (L' := [some (.ref g), some (.ref g2), some (.int (iI (j : Int))), some (.int (iI (gcell R2 C2 j : Int))), some (.int (iI (gbel R2 C2 j : Int))), x5]) (st' := [.ref g]) rfl ?_
      refine wp_getf rfl rfl hg (by omega) rfl ?_
      refine wp_g (n := 1) (pc' := 40) (L' := [some (.ref g), some (.ref g2), some (.int (iI (j : Int))), some (.int (iI (gcell R2 C2 j : Int))), some (.int (iI (gbel R2 C2 j : Int))), x5]) (st' := [.int (iI 1), .int (iI (C : Int))]) rfl ?_
      refine wp_sub rfl ?_
      refine wp_g (n := 2) (pc' := 43) (L' := [some (.ref g), some (.ref g2), some (.int (iI (j : Int))), some (.int (iI (gcell R2 C2 j : Int))), some (.int (iI (gbel R2 C2 j : Int))), x5]) (st' := [.int (iI (gcell R2 C2 j : Int)), .ref g2, .int (iI ((C : Int) - 1))]) rfl ?_
      refine wp_cv (As := [.int (iI (gcell R2 C2 j : Int))]) (rest := [.int (iI ((C : Int) - 1))]) rfl rfl hg2 (by omega) rfl rfl rfl (Nat.le_of_ble_eq_true rfl) (Nat.le_of_ble_eq_true rfl) (G_columnOf G2 hC21 (gcell R2 C2 j) (by omega)) (fun r3 h3 q3 => ?_)
      obtain ⟨rfl, e3⟩ := q3
      rw [e3]
      show wp _ _ _ _ _ [.int (iI ((gcell R2 C2 j % C2 : Nat) : Int)), .int (iI ((C : Int) - 1))] _ _
      refine wp_sub rfl ?_
      refine wp_g (n := 2) (pc' := 50) (L' := [some (.ref g), some (.ref g2), some (.int (iI (j : Int))), some (.int (iI (gcell R2 C2 j : Int))), some (.int (iI (gbel R2 C2 j : Int))), x5]) (st' := [.int (iI (gbel R2 C2 j : Int)), .int (iI 1), .int (iI (((C : Int) - 1) - ((gcell R2 C2 j % C2 : Nat) : Int)))]) rfl ?_
      refine wp_sub rfl ?_
      refine wp_sub rfl ?_
      refine wp_g (n := 5) (pc' := 58) (L' := [some (.ref g), some (.ref g2), some (.int (iI (j : Int))), some (.int (iI (gcell R2 C2 j : Int))), some (.int (iI (gbel R2 C2 j : Int))), some (.int (iI ((((C : Int) - 1) - ((gcell R2 C2 j % C2 : Nat) : Int)) - (1 - (gbel R2 C2 j : Int)))))]) (st' := [.int (iI (gcell R2 C2 j : Int)), .ref g2, .ref g, .ref g]) rfl ?_
      refine wp_cv (As := [.int (iI (gcell R2 C2 j : Int))]) (rest := [.ref g, .ref g]) rfl rfl hg2 (by omega) rfl rfl rfl (Nat.le_of_ble_eq_true rfl) (Nat.le_of_ble_eq_true rfl) (G_rowOf G2 hC21 (gcell R2 C2 j) (by omega)) (fun r4 h4 q4 => ?_)
      obtain ⟨rfl, e4⟩ := q4
      rw [e4]
      show wp _ _ _ _ _ [.int (iI ((gcell R2 C2 j / C2 : Nat) : Int)), .ref g, .ref g] _ _
      refine wp_g (n := 1) (pc' := 62) (L' := [some (.ref g), some (.ref g2), some (.int (iI (j : Int))), some (.int (iI (gcell R2 C2 j : Int))), some (.int (iI (gbel R2 C2 j : Int))), some (.int (iI ((((C : Int) - 1) - ((gcell R2 C2 j % C2 : Nat) : Int)) - (1 - (gbel R2 C2 j : Int)))))]) (st' := [.ref g, .int (iI ((gcell R2 C2 j / C2 : Nat) : Int)), .ref g, .ref g]) rfl ?_
      refine wp_getf rfl rfl hg (by omega) rfl ?_
      refine wp_mul rfl ?_
      refine wp_g (n := 1) (pc' := 68) (L' := [some (.ref g), some (.ref g2), some (.int (iI (j : Int))), some (.int (iI (gcell R2 C2 j : Int))), some (.int (iI (gbel R2 C2 j : Int))), some (.int (iI ((((C : Int) - 1) - ((gcell R2 C2 j % C2 : Nat) : Int)) - (1 - (gbel R2 C2 j : Int)))))]) (st' := [.int (iI ((((C : Int) - 1) - ((gcell R2 C2 j % C2 : Nat) : Int)) - (1 - (gbel R2 C2 j : Int)))), .int (iI (((gcell R2 C2 j / C2 : Nat) : Int) * (C : Int))), .ref g, .ref g]) rfl ?_
      refine wp_add rfl ?_
      refine wp_g (n := 1) (pc' := 71) (L' := [some (.ref g), some (.ref g2), some (.int (iI (j : Int))), some (.int (iI (gcell R2 C2 j : Int))), some (.int (iI (gbel R2 C2 j : Int))), some (.int (iI ((((C : Int) - 1) - ((gcell R2 C2 j % C2 : Nat) : Int)) - (1 - (gbel R2 C2 j : Int)))))]) (st' := [.int (iI (gbel R2 C2 j : Int)), .int (iI ((((gcell R2 C2 j / C2 : Nat) : Int) * (C : Int)) + ((((C : Int) - 1) - ((gcell R2 C2 j % C2 : Nat) : Int)) - (1 - (gbel R2 C2 j : Int))))), .ref g, .ref g]) rfl ?_
      refine wp_cv (As := [.int (iI ((((gcell R2 C2 j / C2 : Nat) : Int) * (C : Int)) + ((((C : Int) - 1) - ((gcell R2 C2 j % C2 : Nat) : Int)) - (1 - (gbel R2 C2 j : Int))))), .int (iI (gbel R2 C2 j : Int))]) (rest := [.ref g]) rfl rfl hg (by omega) rfl rfl rfl (Nat.le_of_ble_eq_true rfl) (Nat.le_of_ble_eq_true rfl) (G_edgeAtI G ((((gcell R2 C2 j / C2 : Nat) : Int) * (C : Int)) + ((((C : Int) - 1) - ((gcell R2 C2 j % C2 : Nat) : Int)) - (1 - (gbel R2 C2 j : Int)))) ((gcell R2 C2 j / C2) * C + (C2 - 1 - gcell R2 C2 j % C2 - (1 - gbel R2 C2 j))) (gbel R2 C2 j : Int) (gbel R2 C2 j) (by omega) (by omega) (by omega) (by omega)) (fun r5 h5 q5 => ?_)
      obtain ⟨rfl, e5⟩ := q5
      rw [e5]
      show wp _ _ _ _ _ [.int (iI (geb R C (2 * ((gcell R2 C2 j / C2) * C + (C2 - 1 - gcell R2 C2 j % C2 - (1 - gbel R2 C2 j))) + (gbel R2 C2 j)))), .ref g] _ _
      refine wp_g (n := 2) (pc' := 76) (L' := [some (.ref g), some (.ref g2), some (.int (iI (j : Int))), some (.int (iI (gcell R2 C2 j : Int))), some (.int (iI (gbel R2 C2 j : Int))), some (.int (iI ((((C : Int) - 1) - ((gcell R2 C2 j % C2 : Nat) : Int)) - (1 - (gbel R2 C2 j : Int)))))]) (st' := [.int (iI (j : Int)), .ref g2, .int (iI (geb R C (2 * ((gcell R2 C2 j / C2) * C + (C2 - 1 - gcell R2 C2 j % C2 - (1 - gbel R2 C2 j))) + (gbel R2 C2 j)))), .ref g]) rfl ?_
      refine wp_cv (As := [.int (iI (j : Int))]) (rest := [.int (iI (geb R C (2 * ((gcell R2 C2 j / C2) * C + (C2 - 1 - gcell R2 C2 j % C2 - (1 - gbel R2 C2 j))) + (gbel R2 C2 j)))), .ref g]) rfl rfl hg2 (by omega) rfl rfl rfl (Nat.le_of_ble_eq_true rfl) (Nat.le_of_ble_eq_true rfl) (G_kindOf G2 j (by omega)) (fun r6 h6 q6 => ?_)
      obtain ⟨rfl, e6⟩ := q6
      rw [e6]
      show wp _ _ _ _ _ [.int (iI (kd2 j)), .int (iI (geb R C (2 * ((gcell R2 C2 j / C2) * C + (C2 - 1 - gcell R2 C2 j % C2 - (1 - gbel R2 C2 j))) + (gbel R2 C2 j)))), .ref g] _ _
      refine wp_cs (As := [.int (iI (kd2 j))]) (rest := [.int (iI (geb R C (2 * ((gcell R2 C2 j / C2) * C + (C2 - 1 - gcell R2 C2 j % C2 - (1 - gbel R2 C2 j))) + (gbel R2 C2 j)))), .ref g]) rfl rfl rfl rfl (Nat.le_of_ble_eq_true rfl) (Nat.le_of_ble_eq_true rfl) (m_turnedOver (kd2 j) (by omega) (by omega)) (fun r7 h7 q7 => ?_)
      obtain ⟨rfl, e7⟩ := q7
      rw [e7]
      show wp _ _ _ _ _ [.int (iI (tov (kd2 j))), .int (iI (geb R C (2 * ((gcell R2 C2 j / C2) * C + (C2 - 1 - gcell R2 C2 j % C2 - (1 - gbel R2 C2 j))) + (gbel R2 C2 j)))), .ref g] _ _
      refine wp_cv (As := [.int (iI (geb R C (2 * ((gcell R2 C2 j / C2) * C + (C2 - 1 - gcell R2 C2 j % C2 - (1 - gbel R2 C2 j))) + (gbel R2 C2 j)))), .int (iI (tov (kd2 j)))]) (rest := []) rfl rfl hg (by omega) rfl rfl rfl (Nat.le_of_ble_eq_true rfl) (Nat.le_of_ble_eq_true rfl) (G_change G (geb R C (2 * ((gcell R2 C2 j / C2) * C + (C2 - 1 - gcell R2 C2 j % C2 - (1 - gbel R2 C2 j))) + (gbel R2 C2 j))) (tov (kd2 j)) (by omega) (by omega) (by omega) (by omega)) (fun r8 h8 q8 => ?_)
      obtain ⟨rfl, hF8, G⟩ := q8
      have G2 := G2.moved hF8 (by omega)
      have hFF := hFF.tr hF8
      have hg := G.obj
      have hg2 := G2.obj
      show wp _ _ _ _ _ [] _ _
      refine wp_iinc (L' := [some (.ref g), some (.ref g2), some (.int (iI ((j : Int) + 1))), some (.int (iI (gcell R2 C2 j : Int))), some (.int (iI (gbel R2 C2 j : Int))), some (.int (iI ((((C : Int) - 1) - ((gcell R2 C2 j % C2 : Nat) : Int)) - (1 - (gbel R2 C2 j : Int)))))]) rfl rfl rfl ?_
      refine wp_g (n := 1) (pc' := 14) (L' := [some (.ref g), some (.ref g2), some (.int (iI ((j : Int) + 1))), some (.int (iI (gcell R2 C2 j : Int))), some (.int (iI (gbel R2 C2 j : Int))), some (.int (iI ((((C : Int) - 1) - ((gcell R2 C2 j % C2 : Nat) : Int)) - (1 - (gbel R2 C2 j : Int)))))]) (st' := []) rfl ?_
      refine wp_L (ih (j + 1) _ (some (.int (iI (gcell R2 C2 j : Int)))) (some (.int (iI (gbel R2 C2 j : Int)))) (some (.int (iI ((((C : Int) - 1) - ((gcell R2 C2 j % C2 : Nat) : Int)) - (1 - (gbel R2 C2 j : Int)))))) (by omega) (by omega) ?_ G2 hFF) (by rw [Int.natCast_add]; rfl)
      rw [scat]
      exact G
  termination_by m => m
/-- Grid.clear -/
theorem G_clear (G : GG h g R C kd) : wp E (k + 3) 22 0 (am_entry [.ref g] 1) [] h (fun q h1 => q = none ∧ FG h h1 g ∧ GG h1 g 0 0 (fun _ => 0)) := by
  obtain ⟨K0, S0, B0, G0, -⟩ := id G.2.2
  have hg := G.obj
  have hgl := G.lt
  have hok0 : gok 0 0 := Or.inl ⟨rfl, rfl⟩
  refine wp_g (n := 3) (pc' := 3) (L' := [some (.ref g)]) (st' := [.int (iI 0), .int (iI 0), .ref g]) rfl ?_
  refine wp_cv (As := [.int (iI 0), .int (iI 0)]) (rest := []) rfl rfl hg (by omega) rfl rfl rfl (Nat.le_of_ble_eq_true rfl) (Nat.le_of_ble_eq_true rfl) (G_lay G0 0 0 (by omega) (by omega) (by omega) (by omega)) (fun r1 h1 q1 => ?_)
  obtain ⟨rfl, hF1, G⟩ := q1
  have G : GG _ g 0 0 (fun _ => 0) := G
  have hg := G.obj
  show wp _ _ _ _ _ [] _ _
  refine wp_vret rfl rfl ?_
  exact ⟨rfl, hF1, G⟩
/-- Grid.copy -/
theorem G_copy {g2 R2 C2 : Nat} {kd2 : Nat → Int} (G : GG h g R C kd) (G2 : GG h g2 R2 C2 kd2) (ha : g + 3 < g2 ∨ g2 + 3 < g) : wp E (k + 3) 44 0 (am_entry [.ref g, .ref g2] 2) [] h (fun q h1 => q = none ∧ FG h h1 g ∧ GG h1 g R2 C2 kd2 ∧ GG h1 g2 R2 C2 kd2) := by
  obtain ⟨K0, S0, B0, G0, -⟩ := id G.2.2
  have hg := G.obj
  have hgl := G.lt
  have hg2 := G2.obj
  have hgl2 := G2.lt
  have hle2 := G2.1.le
  refine wp_g (n := 2) (pc' := 2) (L' := [some (.ref g), some (.ref g2)]) (st' := [.ref g2, .ref g]) rfl ?_
  refine wp_getf rfl rfl hg2 (by omega) rfl ?_
  refine wp_g (n := 1) (pc' := 6) (L' := [some (.ref g), some (.ref g2)]) (st' := [.ref g2, .int (iI (R2 : Int)), .ref g]) rfl ?_
  refine wp_getf rfl rfl hg2 (by omega) rfl ?_
  refine wp_cv (As := [.int (iI (R2 : Int)), .int (iI (C2 : Int))]) (rest := []) rfl rfl hg (by omega) rfl rfl rfl (Nat.le_of_ble_eq_true rfl) (Nat.le_of_ble_eq_true rfl) (G_lay G0 (R2 : Int) (C2 : Int) (by omega) (by omega) (by omega) (by omega)) (fun r1 h1 q1 => ?_)
  obtain ⟨rfl, hF1, G⟩ := q1
  obtain ⟨y1, y2, y3, y4⟩ := layR_ok G2.1
  rw [y1, y2] at G
  have G2 := G2.moved hF1 (by omega)
  have hg2 := G2.obj
  have hg := G.obj
  show wp _ _ _ _ _ [] _ _
  refine wp_g (n := 3) (pc' := 15) (L' := [some (.ref g), some (.ref g2)]) (st' := [.int (iI 0), .ref g2, .ref g]) rfl ?_
  refine wp_cv (As := [.ref g2, .int (iI 0)]) (rest := []) rfl rfl hg (by omega) rfl rfl rfl (Nat.le_of_ble_eq_true rfl) (Nat.le_of_ble_eq_true rfl) (G_paste (cl := 0) G G2 (by omega) (by omega) ha) (fun r2 h2 q2 => ?_)
  obtain ⟨rfl, hF2, G, G2⟩ := q2
  show wp _ _ _ _ _ [] _ _
  refine wp_vret rfl rfl ?_
  refine ⟨rfl, hF1.tr hF2, G.congr (fun e he => ?_), G2⟩
  have hp := paE_ok R2 hle2.1 C2 hle2.2
  have hq := scat_perm (n := gn R2 C2) (n2 := gn R2 C2) (d := fun j => geb R2 C2 (2 * ((gcell R2 C2 j / C2) * C2 + gcell R2 C2 j % C2 + 0) + gbel R2 C2 j)) (s := fun j => kd2 j) (τ := fun e => e) (fun j hj => by show 0 ≤ geb _ _ _ ∧ geb _ _ _ < _ ∧ (geb _ _ _).toNat = j; rw [hp j hj]; omega) (fun _ => 0) _ (Nat.le_refl _) e he
  rw [hq, if_pos ⟨he, hp e he⟩]
/-- Grid.copyTurned -/
theorem G_turn {g2 R2 C2 : Nat} {kd2 : Nat → Int} (G : GG h g R C kd) (G2 : GG h g2 R2 C2 kd2) (ha : g + 3 < g2 ∨ g2 + 3 < g) : wp E (k + 3) 46 0 (am_entry [.ref g, .ref g2] 6) [] h (fun q h1 => q = none ∧ FG h h1 g ∧ GG h1 g C2 R2 (fun e => kd2 (trE R2 C2 e)) ∧ GG h1 g2 R2 C2 kd2) := by
  obtain ⟨K0, S0, B0, G0, -⟩ := id G.2.2
  have hg := G.obj
  have hgl := G.lt
  have hg2 := G2.obj
  have hgl2 := G2.lt
  have hle2 := G2.1.le
  refine wp_g (n := 2) (pc' := 2) (L' := [some (.ref g), some (.ref g2), none, none, none, none]) (st' := [.ref g2, .ref g]) rfl ?_
  refine wp_getf rfl rfl hg2 (by omega) rfl ?_
  refine wp_g (n := 1) (pc' := 6) (L' := [some (.ref g), some (.ref g2), none, none, none, none]) (st' := [.ref g2, .int (iI (C2 : Int)), .ref g]) rfl ?_
  refine wp_getf rfl rfl hg2 (by omega) rfl ?_
  refine wp_cv (As := [.int (iI (C2 : Int)), .int (iI (R2 : Int))]) (rest := []) rfl rfl hg (by omega) rfl rfl rfl (Nat.le_of_ble_eq_true rfl) (Nat.le_of_ble_eq_true rfl) (G_lay G0 (C2 : Int) (R2 : Int) (by omega) (by omega) (by omega) (by omega)) (fun r1 h1 q1 => ?_)
  obtain ⟨rfl, hF1, G⟩ := q1
  obtain ⟨y1, y2, y3, y4⟩ := layR_ok G2.1
  rw [y3, y4] at G
  have G2 := G2.moved hF1 (by omega)
  have hg2 := G2.obj
  have hg := G.obj
  show wp _ _ _ _ _ [] _ _
  refine wp_g (n := 2) (pc' := 14) (L' := [some (.ref g), some (.ref g2), some (.int (iI 0)), none, none, none]) (st' := []) rfl ?_
  refine (wp_L (G_turn_l rfl rfl ha hgl hgl2 G.1 (gn R2 C2) 0 _ none none none rfl (by omega) G G2 hF1) rfl).mono (fun r h2 q => ⟨q.1, q.2.1, q.2.2.1.congr (fun e he => ?_), q.2.2.2⟩)
  obtain ⟨hp, hp2⟩ := trE_ok R2 hle2.1 C2 hle2.2
  exact (scat_perm (n := gn C2 R2) (n2 := gn R2 C2) (d := fun j => trD R2 C2 j) (s := kd2) (τ := trE R2 C2) hp (fun _ => 0) _ (Nat.le_refl _) e he).trans (if_pos ⟨(hp2 e he).1, (hp2 e he).2⟩)
/-- Grid.copyMirrored -/
theorem G_mirr {g2 R2 C2 : Nat} {kd2 : Nat → Int} (G : GG h g R C kd) (G2 : GG h g2 R2 C2 kd2) (ha : g + 3 < g2 ∨ g2 + 3 < g) : wp E (k + 3) 47 0 (am_entry [.ref g, .ref g2] 6) [] h (fun q h1 => q = none ∧ FG h h1 g ∧ GG h1 g R2 C2 (fun e => tov (kd2 (miE R2 C2 e))) ∧ GG h1 g2 R2 C2 kd2) := by
  obtain ⟨K0, S0, B0, G0, -⟩ := id G.2.2
  have hg := G.obj
  have hgl := G.lt
  have hg2 := G2.obj
  have hgl2 := G2.lt
  have hle2 := G2.1.le
  refine wp_g (n := 2) (pc' := 2) (L' := [some (.ref g), some (.ref g2), none, none, none, none]) (st' := [.ref g2, .ref g]) rfl ?_
  refine wp_getf rfl rfl hg2 (by omega) rfl ?_
  refine wp_g (n := 1) (pc' := 6) (L' := [some (.ref g), some (.ref g2), none, none, none, none]) (st' := [.ref g2, .int (iI (R2 : Int)), .ref g]) rfl ?_
  refine wp_getf rfl rfl hg2 (by omega) rfl ?_
  refine wp_cv (As := [.int (iI (R2 : Int)), .int (iI (C2 : Int))]) (rest := []) rfl rfl hg (by omega) rfl rfl rfl (Nat.le_of_ble_eq_true rfl) (Nat.le_of_ble_eq_true rfl) (G_lay G0 (R2 : Int) (C2 : Int) (by omega) (by omega) (by omega) (by omega)) (fun r1 h1 q1 => ?_)
  obtain ⟨rfl, hF1, G⟩ := q1
  obtain ⟨y1, y2, y3, y4⟩ := layR_ok G2.1
  rw [y1, y2] at G
  have G2 := G2.moved hF1 (by omega)
  have hg2 := G2.obj
  have hg := G.obj
  show wp _ _ _ _ _ [] _ _
  refine wp_g (n := 2) (pc' := 14) (L' := [some (.ref g), some (.ref g2), some (.int (iI 0)), none, none, none]) (st' := []) rfl ?_
  refine (wp_L (G_mirr_l rfl rfl ha hgl hgl2 G.1 (gn R2 C2) 0 _ none none none rfl (by omega) G G2 hF1) rfl).mono (fun r h2 q => ⟨q.1, q.2.1, q.2.2.1.congr (fun e he => ?_), q.2.2.2⟩)
  obtain ⟨hp, hp2⟩ := miE_ok R2 hle2.1 C2 hle2.2
  exact (scat_perm (n := gn R2 C2) (n2 := gn R2 C2) (d := fun j => miD R2 C2 j) (s := fun j => tov (kd2 j)) (τ := miE R2 C2) hp (fun _ => 0) _ (Nat.le_refl _) e he).trans (if_pos ⟨(hp2 e he).1, (hp2 e he).2⟩)
theorem gcell_sp : ∀ R, R ≤ 4 → ∀ C, C ≤ 4 → ∀ e, e < gn R C → 2 * gcell R C e + gbel R C e = gsp R C e := fun R _ C _ e _ => by unfold gcell gbel; omega
/-- the edge at a side of a cell, -1: none -/
def ges (R C c s : Nat) : Int := if s = 0 then (if C ≤ c then geb R C (2 * (c - C) + 1) else -1) else if s = 1 then geb R C (2 * c) else if s = 2 then geb R C (2 * c + 1) else if 0 < c % C then geb R C (2 * (c - 1)) else -1
theorem ges_rng {R C : Nat} (hR : R ≤ 4) (hC : C ≤ 4) {c s : Nat} (hc : c < R * C) : -1 ≤ ges R C c s ∧ ges R C c s < gn R C := by
  have hRC : R * C ≤ 16 := Nat.mul_le_mul hR hC
  have hg := geb_rng R hR C hC
  unfold ges
  split
  · split
    · exact hg _ (by omega)
    · omega
  · split
    · exact hg _ (by omega)
    · split
      · exact hg _ (by omega)
      · split
        · exact hg _ (by omega)
        · omega
theorem G_edgeOnSide (G : GG h g R C kd) (c s : Nat) (hc : c < R * C) (hs : s ≤ 3) : wp E (k + 2) 38 0 (am_entry [.ref g, .int (iI (c : Int)), .int (iI (s : Int))] 3) [] h (aI (ges R C c s) h) := by
  obtain ⟨K, S, B, G1, h1, h2⟩ := G.gr
  obtain ⟨r1, c1⟩ := G.1.le
  have hRC : R * C ≤ 16 := Nat.mul_le_mul r1 c1
  have hC1 : 1 ≤ C := by
    rcases Nat.eq_zero_or_pos C with rfl | h0
    · simp at hc
    · exact h0
  have := m_G_edgeOnSide (E := E) (k := k) G1 (c : Int) (by omega) (by omega) (s : Int) (by omega) (by omega) (by omega) (by omega) (by omega)
  have hcast : ((R : Int) * (C : Int)) = ((R * C : Nat) : Int) := by simp
  have e1 : gES R C B c s = ges R C c s := by
    unfold gES ges gEA
    rw [hcast]
    by_cases s0 : s = 0
    · subst s0
      rw [if_pos (show ((0 : Nat) : Int) = 0 from rfl), if_pos (show (0 : Nat) = 0 from rfl)]
      by_cases hcc : C ≤ c
      · rw [if_pos hcc, if_pos ⟨⟨by omega, by omega⟩, by omega⟩, ← h2 _ (by omega)]
        congr 1
        omega
      · rw [if_neg hcc, if_neg (by omega)]
    · rw [if_neg s0, if_neg (by omega)]
      by_cases s1 : s = 1
      · subst s1
        rw [if_pos (show ((1 : Nat) : Int) = 1 from rfl), if_pos (show (1 : Nat) = 1 from rfl), if_pos ⟨⟨by omega, by omega⟩, by omega⟩, ← h2 _ (by omega)]
        congr 1
      · rw [if_neg s1, if_neg (by omega)]
        by_cases s2 : s = 2
        · subst s2
          rw [if_pos (show ((2 : Nat) : Int) = 2 from rfl), if_pos (show (2 : Nat) = 2 from rfl), if_pos ⟨⟨by omega, by omega⟩, by omega⟩, ← h2 _ (by omega)]
          congr 1
        · rw [if_neg s2, if_neg (by omega)]
          have hm : ((c : Int) % (C : Int)) = ((c % C : Nat) : Int) := by simp
          rw [hm]
          by_cases hz : 0 < c % C
          · have : c % C ≤ c := Nat.mod_le c C
            rw [if_pos hz, if_pos (by omega), if_pos ⟨⟨by omega, by omega⟩, by omega⟩, ← h2 _ (by omega)]
            congr 1
            omega
          · rw [if_neg hz, if_neg (by omega)]
  rw [e1] at this
  exact this
theorem G_cellBeyond (G : GG h g R C kd) (c s : Int) (c1 : -2147483648 ≤ c) (c2 : c < 2147483648) (s1 : -2147483648 ≤ s) (s2 : s < 2147483648) : wp E k 39 0 (am_entry [.ref g, .int (iI c), .int (iI s)] 3) [] h (aI (gBy C c s) h) := by
  obtain ⟨K, S, B, G1, h1, h2⟩ := G.gr
  exact m_G_cellBeyond G1 c c1 c2 s s1 s2
theorem cnt_congr {F F2 : Nat → Int} (x : Int) : ∀ n : Nat, (∀ e, e < n → F e = F2 e) → cnt F x n = cnt F2 x n
  | 0, _ => rfl
  | n + 1, hq => by
    rw [cnt, cnt, cnt_congr x n (fun e he => hq e (by omega)), hq n (by omega)]
theorem G_howMany (G : GG h g R C kd) (d : Int) (d1 : -2147483648 ≤ d) (d2 : d < 2147483648) : wp E (k + 1) 40 0 (am_entry [.ref g, .int (iI d)] 4) [] h (aI (cnt kd d (gn R C)) h) := by
  obtain ⟨K, S, B, G1, h1, h2⟩ := G.gr
  have := m_G_howMany (E := E) (k := k) G1 d d1 d2
  rw [Int.toNat_natCast, cnt_congr d _ (fun e he => (h1 e he).1)] at this
  exact this
theorem G_crosses (G : GG h g R C kd) : wp E (k + 2) 41 0 (am_entry [.ref g] 1) [] h (aI (cnt kd 0 (gn R C) + cnt kd 1 (gn R C)) h) := by
  obtain ⟨K, S, B, G1, h1, h2⟩ := G.gr
  have := m_G_crosses (E := E) (k := k) G1
  rw [Int.toNat_natCast, cnt_congr 0 _ (fun e he => (h1 e he).1), cnt_congr 1 _ (fun e he => (h1 e he).1)] at this
  exact this
/-- is an edge a cross? -/
def isX (z : Int) : Prop := z = 0 ∨ z = 1
theorem G_isCross (G : GG h g R C kd) (e : Int) (e1 : -2147483648 ≤ e) (e2 : e < 2147483648) : wp E (k + 1) 34 0 (am_entry [.ref g, .int (iI e)] 3) [] h (aI (if (0 ≤ e ∧ e < gn R C) ∧ (kd e.toNat = 0 ∨ kd e.toNat = 1) then 1 else 0) h) := by
  obtain ⟨K, S, B, G1, h1, h2⟩ := G.gr
  have := m_G_isCross (E := E) (k := k) G1 e e1 e2
  have e3 : (if (if 0 ≤ e ∧ e < (gn R C : Int) then K e.toNat else -1) = 0 ∨ (if 0 ≤ e ∧ e < (gn R C : Int) then K e.toNat else -1) = 1 then (1 : Int) else 0) = (if (0 ≤ e ∧ e < gn R C) ∧ (kd e.toNat = 0 ∨ kd e.toNat = 1) then 1 else 0) := by
    by_cases he : 0 ≤ e ∧ e < (gn R C : Int)
    · have q := (h1 e.toNat (by omega)).1
      simp only [he, and_self, if_true, q, true_and]
    · simp [he]
  rw [e3] at this
  exact this
theorem G_isLike {g2 R2 C2 : Nat} {kd2 : Nat → Int} (G : GG h g R C kd) (G2 : GG h g2 R2 C2 kd2) : wp E (k + 1) 43 0 (am_entry [.ref g, .ref g2] 3) [] h (aI (bI (R = R2 ∧ C = C2 ∧ ∀ e, e < gn R C → kd e = kd2 e)) h) := by
  obtain ⟨K, S, B, G1, h1, -⟩ := G.gr
  obtain ⟨K2, S2, B2, G3, h3, -⟩ := G2.gr
  have := m_G_isLike (E := E) (k := k) G1 G3 (fun a b => by
    have a : R = R2 := by omega
    have b : C = C2 := by omega
    rw [a, b])
  have e1 : gLike R C (gn R C) K R2 C2 (gn R2 C2) K2 ↔ (R = R2 ∧ C = C2 ∧ ∀ e, e < gn R C → kd e = kd2 e) := by
    unfold gLike
    constructor
    · rintro ⟨a, b, q⟩
      have a : R = R2 := by omega
      have b : C = C2 := by omega
      subst a b
      refine ⟨rfl, rfl, fun e he => ?_⟩
      rw [← (h1 e he).1, ← (h3 e he).1]
      exact q e (by omega)
    · rintro ⟨rfl, rfl, q⟩
      refine ⟨rfl, rfl, fun e he => ?_⟩
      rw [(h1 e (by omega)).1, (h3 e (by omega)).1]
      exact q e (by omega)
  rw [propext e1] at this
  exact this
end CPT
