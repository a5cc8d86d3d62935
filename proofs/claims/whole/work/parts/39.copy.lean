/-- a cross turned over -/
def tov (z : Int) : Int := if z = 0 then 1 else if z = 1 then 0 else z
theorem tov_rng {z : Int} (h1 : 0 ≤ z) (h2 : z ≤ 3) : 0 ≤ tov z ∧ tov z ≤ 3 := by unfold tov; split; omega; split <;> omega
/-- what comes to lie where: the first m of s, at d -/
def scat (n : Nat) (d s : Nat → Int) : Nat → (Nat → Int) → (Nat → Int)
  | 0, K => K
  | j + 1, K => if 0 ≤ d j ∧ d j < n then up (scat n d s j K) (d j).toNat (s j) else scat n d s j K
section CPY
variable {E : am_E} {k : Nat} {h : am_H} {g R C : Nat} {kd : Nat → Int}
theorem G_edgeAtI (G : GG h g R C kd) (z : Int) (c : Nat) (y : Int) (b : Nat) (hz : z = (c : Int)) (hy : y = (b : Int)) (hc : c < R * C) (hb : b ≤ 1) : wp E (k + 1) 37 0 (am_entry [.ref g, .int (iI z), .int (iI y)] 3) [] h (aI (geb R C (2 * c + b)) h) := by
  subst hz hy
  exact G_edgeAt G c b hc hb
theorem gcell_lt {R C e : Nat} (h : gok R C) (he : e < gn R C) : gcell R C e < R * C ∧ gbel R C e ≤ 1 ∧ 1 ≤ C ∧ gcell R C e / C < R ∧ gcell R C e % C < C ∧ R ≤ 4 ∧ C ≤ 4 := by
  obtain ⟨r1, c1⟩ := h.le
  have h1 := gsp_lt R r1 C c1 e he
  have h2 : 1 ≤ C := by
    rcases h with ⟨rfl, rfl⟩ | h
    · have h0 : gn 0 0 = 0 := by decide
      omega
    · omega
  have h3 : gcell R C e < R * C := by unfold gcell; omega
  refine ⟨h3, by unfold gbel; omega, h2, ?_, Nat.mod_lt _ (by omega), r1, c1⟩
  exact Nat.div_lt_of_lt_mul (by rw [Nat.mul_comm]; exact h3)
theorem m_turnedOver (z : Int) (z1 : -2147483648 ≤ z) (z2 : z < 2147483648) : wp E k 181 0 (am_entry [.int (iI z)] 1) [] h (aI (tov z) h) := by
  refine wp_g (n := 1) (pc' := 1) (L' := [some (.int (iI z))]) (st' := [.int (iI z)]) rfl ?_
  refine wp_ifI rfl rfl (by omega) (by omega) (fun c1 => ?_) (fun c1 => ?_)
  · have c1 : (¬ (z : Int) = 0) := c1
    refine wp_g (n := 2) (pc' := 8) (L' := [some (.int (iI z))]) (st' := [.int (iI 1), .int (iI z)]) rfl ?_
    refine wp_icmpI rfl rfl (by omega) (by omega) (by omega) (by omega) (fun c2 => ?_) (fun c2 => ?_)
    · have c2 : (¬ (z : Int) = 1) := c2
      refine wp_g (n := 1) (pc' := 16) (L' := [some (.int (iI z))]) (st' := [.int (iI z)]) rfl ?_
      refine wp_iret rfl rfl ?_
      refine ⟨congrArg (fun z => some (Value.int (iI z))) ?_, rfl⟩
      unfold tov
      (repeat (first | rw [if_pos (by omega)] | rw [if_neg (by omega)]))
    · have c2 : ((z : Int) = 1) := Classical.not_not.mp c2
      refine wp_g (n := 2) (pc' := 16) (L' := [some (.int (iI z))]) (st' := [.int (iI 0)]) rfl ?_
      refine wp_iret rfl rfl ?_
      refine ⟨congrArg (fun z => some (Value.int (iI z))) ?_, rfl⟩
      unfold tov
      (repeat (first | rw [if_pos (by omega)] | rw [if_neg (by omega)]))
  · have c1 : ((z : Int) = 0) := Classical.not_not.mp c1
    refine wp_g (n := 1) (pc' := 5) (L' := [some (.int (iI z))]) (st' := [.int (iI 1)]) rfl ?_
    refine wp_iret rfl rfl ?_
    refine ⟨congrArg (fun z => some (Value.int (iI z))) ?_, rfl⟩
    unfold tov
    (repeat (first | rw [if_pos (by omega)] | rw [if_neg (by omega)]))
/-- Grid.paste, its loop -/
theorem G_paste_l {g2 R2 C2 : Nat} {kd2 : Nat → Int} {h0 : am_H} {cl : Nat} (hRR : R2 ≤ R) (hCC : C2 + cl ≤ C) (ha : g + 3 < g2 ∨ g2 + 3 < g) (hgl : g + 3 < 1000000) (hgl2 : g2 + 3 < 1000000) (hokR : gok R C) : ∀ (m j : Nat) (h : am_H) (x4 x5 : Option Value), gn R2 C2 - j = m → j ≤ gn R2 C2 → GG h g R C (scat (gn R C) (fun j => geb R C (2 * ((gcell R2 C2 j / C2) * C + gcell R2 C2 j % C2 + cl) + gbel R2 C2 j)) (fun j => kd2 j) j kd) → GG h g2 R2 C2 kd2 → FG h0 h g → wp E (k + 2) 45 2 [some (.ref g), some (.ref g2), some (.int (iI (cl : Int))), some (.int (iI (j : Int))), x4, x5] [] h (fun q h1 => q = none ∧ FG h0 h1 g ∧ GG h1 g R C (scat (gn R C) (fun j => geb R C (2 * ((gcell R2 C2 j / C2) * C + gcell R2 C2 j % C2 + cl) + gbel R2 C2 j)) (fun j => kd2 j) (gn R2 C2) kd) ∧ GG h1 g2 R2 C2 kd2)
  | m, j, h, x4, x5, hm, hj, G, G2, hFF => by
    have ih : ∀ (j' : Nat) (h' : am_H) (x4' x5' : Option Value), gn R2 C2 - j' < m → j' ≤ gn R2 C2 → GG h' g R C (scat (gn R C) (fun j => geb R C (2 * ((gcell R2 C2 j / C2) * C + gcell R2 C2 j % C2 + cl) + gbel R2 C2 j)) (fun j => kd2 j) j' kd) → GG h' g2 R2 C2 kd2 → FG h0 h' g → wp E (k + 2) 45 2 [some (.ref g), some (.ref g2), some (.int (iI (cl : Int))), some (.int (iI (j' : Int))), x4', x5'] [] h' (fun q h1 => q = none ∧ FG h0 h1 g ∧ GG h1 g R C (scat (gn R C) (fun j => geb R C (2 * ((gcell R2 C2 j / C2) * C + gcell R2 C2 j % C2 + cl) + gbel R2 C2 j)) (fun j => kd2 j) (gn R2 C2) kd) ∧ GG h1 g2 R2 C2 kd2) := fun j' h' x4' x5' q1 q2 q3 q4 q5 => G_paste_l hRR hCC ha hgl hgl2 hokR (gn R2 C2 - j') j' h' x4' x5' rfl q2 q3 q4 q5
    have hg := G.obj
    have hg2 := G2.obj
    have hnn := gn_le R2 G2.1.le.1 C2 G2.1.le.2
    have hnn1 := gn_le R hokR.le.1 C hokR.le.2
    have hRC : R * C ≤ 16 := Nat.mul_le_mul hokR.le.1 hokR.le.2
    have hRC2 : R2 * C2 ≤ 16 := Nat.mul_le_mul G2.1.le.1 G2.1.le.2
    refine wp_g (n := 2) (pc' := 4) (L' := [some (.ref g), some (.ref g2), some (.int (iI (cl : Int))), some (.int (iI (j : Int))), x4, x5]) (st' := [.ref g2, .int (iI (j : Int))]) rfl ?_
    refine wp_getf rfl rfl hg2 (by omega) rfl ?_
    refine wp_icmpI rfl rfl (by omega) (by omega) (by omega) (by omega) (fun c1 => ?_) (fun c1 => ?_)
    · have c1 : (((gn R2 C2 : Int) : Int) ≤ ((j : Int) : Int)) := c1
      refine wp_vret rfl rfl ?_
      have hjn : j = gn R2 C2 := by omega
      subst hjn
      exact ⟨rfl, hFF, G, G2⟩
    · have c1 : (¬ ((gn R2 C2 : Int) : Int) ≤ ((j : Int) : Int)) := c1
      obtain ⟨hq1, hq2, hC21, hq3, hq4, hq5, hq6⟩ := gcell_lt G2.1 (show j < gn R2 C2 by omega)
      have hkj := G2.2.1 j (by omega)
      have hin : ((gcell R2 C2 j / C2) * C + gcell R2 C2 j % C2 + cl) < R * C := by
        have h1 : (gcell R2 C2 j / C2 + 1) * C ≤ R * C := Nat.mul_le_mul_right C (by omega)
        rw [Nat.succ_mul] at h1
        omega
      have hcast : (((gcell R2 C2 j / C2 : Nat) : Int) * (C : Int)) = (((gcell R2 C2 j / C2) * C : Nat) : Int) := by simp
      have hgb := geb_rng R hokR.le.1 C hokR.le.2 (2 * ((gcell R2 C2 j / C2) * C + gcell R2 C2 j % C2 + cl) + gbel R2 C2 j) (by omega)
      refine wp_g (n := 2) (pc' := 12) (L' := [some (.ref g), some (.ref g2), some (.int (iI (cl : Int))), some (.int (iI (j : Int))), x4, x5]) (st' := [.int (iI (j : Int)), .ref g2]) rfl ?_
      refine wp_cv (As := [.int (iI (j : Int))]) (rest := []) rfl rfl hg2 (by omega) rfl rfl rfl (Nat.le_of_ble_eq_true rfl) (Nat.le_of_ble_eq_true rfl) (G_cellOf G2 j (by omega)) (fun r1 h1 q1 => ?_)
      obtain ⟨rfl, e1⟩ := q1
      rw [e1]
      show wp _ _ _ _ _ [.int (iI (gcell R2 C2 j : Int))] _ _
      refine wp_g (n := 3) (pc' := 20) (L' := [some (.ref g), some (.ref g2), some (.int (iI (cl : Int))), some (.int (iI (j : Int))), some (.int (iI (gcell R2 C2 j : Int))), x5]) (st' := [.int (iI (gcell R2 C2 j : Int)), .ref g2]) rfl ?_
      refine wp_cv (As := [.int (iI (gcell R2 C2 j : Int))]) (rest := []) rfl rfl hg2 (by omega) rfl rfl rfl (Nat.le_of_ble_eq_true rfl) (Nat.le_of_ble_eq_true rfl) (G_rowOf G2 hC21 (gcell R2 C2 j) (by omega)) (fun r2 h2 q2 => ?_)
      obtain ⟨rfl, e2⟩ := q2
      rw [e2]
      show wp _ _ _ _ _ [.int (iI ((gcell R2 C2 j / C2 : Nat) : Int))] _ _
      refine wp_g (n := 1) (pc' := 24) (L' := [some (.ref g), some (.ref g2), some (.int (iI (cl : Int))), some (.int (iI (j : Int))), some (.int (iI (gcell R2 C2 j : Int))), x5]) (st' := [.ref g, .int (iI ((gcell R2 C2 j / C2 : Nat) : Int))]) rfl ?_
      refine wp_getf rfl rfl hg (by omega) rfl ?_
      refine wp_mul rfl ?_
      refine wp_g (n := 2) (pc' := 31) (L' := [some (.ref g), some (.ref g2), some (.int (iI (cl : Int))), some (.int (iI (j : Int))), some (.int (iI (gcell R2 C2 j : Int))), x5]) (st' := [.int (iI (gcell R2 C2 j : Int)), .ref g2, .int (iI (((gcell R2 C2 j / C2 : Nat) : Int) * (C : Int)))]) rfl ?_
      refine wp_cv (As := [.int (iI (gcell R2 C2 j : Int))]) (rest := [.int (iI (((gcell R2 C2 j / C2 : Nat) : Int) * (C : Int)))]) rfl rfl hg2 (by omega) rfl rfl rfl (Nat.le_of_ble_eq_true rfl) (Nat.le_of_ble_eq_true rfl) (G_columnOf G2 hC21 (gcell R2 C2 j) (by omega)) (fun r3 h3 q3 => ?_)
      obtain ⟨rfl, e3⟩ := q3
      rw [e3]
      show wp _ _ _ _ _ [.int (iI ((gcell R2 C2 j % C2 : Nat) : Int)), .int (iI (((gcell R2 C2 j / C2 : Nat) : Int) * (C : Int)))] _ _
      refine wp_add rfl ?_
      refine wp_g (n := 1) (pc' := 36) (L' := [some (.ref g), some (.ref g2), some (.int (iI (cl : Int))), some (.int (iI (j : Int))), some (.int (iI (gcell R2 C2 j : Int))), x5]) (st' := [.int (iI (cl : Int)), .int (iI ((((gcell R2 C2 j / C2 : Nat) : Int) * (C : Int)) + ((gcell R2 C2 j % C2 : Nat) : Int)))]) rfl ?_
      refine wp_add rfl ?_
      refine wp_g (n := 6) (pc' := 45) (L' := [some (.ref g), some (.ref g2), some (.int (iI (cl : Int))), some (.int (iI (j : Int))), some (.int (iI (gcell R2 C2 j : Int))), some (.int (iI (((((gcell R2 C2 j / C2 : Nat) : Int) * (C : Int)) + ((gcell R2 C2 j % C2 : Nat) : Int)) + (cl : Int))))]) (st' := [.int (iI (j : Int)), .ref g2, .int (iI (((((gcell R2 C2 j / C2 : Nat) : Int) * (C : Int)) + ((gcell R2 C2 j % C2 : Nat) : Int)) + (cl : Int))), .ref g, .ref g]) rfl ?_
      refine wp_cv (As := [.int (iI (j : Int))]) (rest := [.int (iI (((((gcell R2 C2 j / C2 : Nat) : Int) * (C : Int)) + ((gcell R2 C2 j % C2 : Nat) : Int)) + (cl : Int))), .ref g, .ref g]) rfl rfl hg2 (by omega) rfl rfl rfl (Nat.le_of_ble_eq_true rfl) (Nat.le_of_ble_eq_true rfl) (G_belowOf G2 j (by omega)) (fun r4 h4 q4 => ?_)
      obtain ⟨rfl, e4⟩ := q4
      rw [e4]
      show wp _ _ _ _ _ [.int (iI (gbel R2 C2 j : Int)), .int (iI (((((gcell R2 C2 j / C2 : Nat) : Int) * (C : Int)) + ((gcell R2 C2 j % C2 : Nat) : Int)) + (cl : Int))), .ref g, .ref g] _ _
      refine wp_cv (As := [.int (iI (((((gcell R2 C2 j / C2 : Nat) : Int) * (C : Int)) + ((gcell R2 C2 j % C2 : Nat) : Int)) + (cl : Int))), .int (iI (gbel R2 C2 j : Int))]) (rest := [.ref g]) rfl rfl hg (by omega) rfl rfl rfl (Nat.le_of_ble_eq_true rfl) (Nat.le_of_ble_eq_true rfl) (G_edgeAtI G (((((gcell R2 C2 j / C2 : Nat) : Int) * (C : Int)) + ((gcell R2 C2 j % C2 : Nat) : Int)) + (cl : Int)) ((gcell R2 C2 j / C2) * C + gcell R2 C2 j % C2 + cl) (gbel R2 C2 j : Int) (gbel R2 C2 j) (by omega) (by omega) (by omega) (by omega)) (fun r5 h5 q5 => ?_)
      obtain ⟨rfl, e5⟩ := q5
      rw [e5]
      show wp _ _ _ _ _ [.int (iI (geb R C (2 * ((gcell R2 C2 j / C2) * C + gcell R2 C2 j % C2 + cl) + (gbel R2 C2 j)))), .ref g] _ _
      refine wp_g (n := 2) (pc' := 53) (L' := [some (.ref g), some (.ref g2), some (.int (iI (cl : Int))), some (.int (iI (j : Int))), some (.int (iI (gcell R2 C2 j : Int))), some (.int (iI (((((gcell R2 C2 j / C2 : Nat) : Int) * (C : Int)) + ((gcell R2 C2 j % C2 : Nat) : Int)) + (cl : Int))))]) (st' := [.int (iI (j : Int)), .ref g2, .int (iI (geb R C (2 * ((gcell R2 C2 j / C2) * C + gcell R2 C2 j % C2 + cl) + (gbel R2 C2 j)))), .ref g]) rfl ?_
      refine wp_cv (As := [.int (iI (j : Int))]) (rest := [.int (iI (geb R C (2 * ((gcell R2 C2 j / C2) * C + gcell R2 C2 j % C2 + cl) + (gbel R2 C2 j)))), .ref g]) rfl rfl hg2 (by omega) rfl rfl rfl (Nat.le_of_ble_eq_true rfl) (Nat.le_of_ble_eq_true rfl) (G_kindOf G2 j (by omega)) (fun r6 h6 q6 => ?_)
      obtain ⟨rfl, e6⟩ := q6
      rw [e6]
      show wp _ _ _ _ _ [.int (iI (kd2 j)), .int (iI (geb R C (2 * ((gcell R2 C2 j / C2) * C + gcell R2 C2 j % C2 + cl) + (gbel R2 C2 j)))), .ref g] _ _
      refine wp_cv (As := [.int (iI (geb R C (2 * ((gcell R2 C2 j / C2) * C + gcell R2 C2 j % C2 + cl) + (gbel R2 C2 j)))), .int (iI (kd2 j))]) (rest := []) rfl rfl hg (by omega) rfl rfl rfl (Nat.le_of_ble_eq_true rfl) (Nat.le_of_ble_eq_true rfl) (G_change G (geb R C (2 * ((gcell R2 C2 j / C2) * C + gcell R2 C2 j % C2 + cl) + (gbel R2 C2 j))) (kd2 j) (by omega) (by omega) (by omega) (by omega)) (fun r7 h7 q7 => ?_)
      obtain ⟨rfl, hF7, G⟩ := q7
      have G2 := G2.moved hF7 (by omega)
      have hFF := hFF.tr hF7
      have hg := G.obj
      have hg2 := G2.obj
      show wp _ _ _ _ _ [] _ _
      refine wp_iinc (L' := [some (.ref g), some (.ref g2), some (.int (iI (cl : Int))), some (.int (iI ((j : Int) + 1))), some (.int (iI (gcell R2 C2 j : Int))), some (.int (iI (((((gcell R2 C2 j / C2 : Nat) : Int) * (C : Int)) + ((gcell R2 C2 j % C2 : Nat) : Int)) + (cl : Int))))]) rfl rfl rfl ?_
      refine wp_g (n := 1) (pc' := 2) (L' := [some (.ref g), some (.ref g2), some (.int (iI (cl : Int))), some (.int (iI ((j : Int) + 1))), some (.int (iI (gcell R2 C2 j : Int))), some (.int (iI (((((gcell R2 C2 j / C2 : Nat) : Int) * (C : Int)) + ((gcell R2 C2 j % C2 : Nat) : Int)) + (cl : Int))))]) (st' := []) rfl ?_
      refine wp_L (ih (j + 1) _ (some (.int (iI (gcell R2 C2 j : Int)))) (some (.int (iI (((((gcell R2 C2 j / C2 : Nat) : Int) * (C : Int)) + ((gcell R2 C2 j % C2 : Nat) : Int)) + (cl : Int))))) (by omega) (by omega) ?_ G2 hFF) (by rw [Int.natCast_add]; rfl)
      rw [scat]
      exact G
  termination_by m => m
theorem G_paste {g2 R2 C2 : Nat} {kd2 : Nat → Int} {cl : Nat} (G : GG h g R C kd) (G2 : GG h g2 R2 C2 kd2) (hRR : R2 ≤ R) (hCC : C2 + cl ≤ C) (ha : g + 3 < g2 ∨ g2 + 3 < g) : wp E (k + 2) 45 0 (am_entry [.ref g, .ref g2, .int (iI (cl : Int))] 6) [] h (fun q h1 => q = none ∧ FG h h1 g ∧ GG h1 g R C (scat (gn R C) (fun j => geb R C (2 * ((gcell R2 C2 j / C2) * C + gcell R2 C2 j % C2 + cl) + gbel R2 C2 j)) (fun j => kd2 j) (gn R2 C2) kd) ∧ GG h1 g2 R2 C2 kd2) := by
  refine wp_g (n := 2) (pc' := 2) (L' := [some (.ref g), some (.ref g2), some (.int (iI (cl : Int))), some (.int (iI 0)), none, none]) (st' := []) rfl ?_
  exact wp_L (G_paste_l hRR hCC ha G.lt G2.lt G.1 (gn R2 C2) 0 h none none rfl (by omega) G G2 FG.rf) rfl
end CPY
