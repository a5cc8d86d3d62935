section X7A
variable {E : am_E} {k : Nat} {h : am_H} {m : Nat → Nat → Int} {γ : Nat → Nat × Nat × (Nat → Int)} {t : am_H} {R C : Nat} {kd : Nat → Int}
theorem c_noteT (S : ST h m γ t) {s i c n : Nat} (h1 : m 10 1 = (s : Int)) (h2 : m 10 2 = (n : Int)) (hc : c < 64) (hn : n < 64) (hs : s < 1000) (hi : i < 1000) : wp E (k + 1) 97 0 (am_entry [.ref 10, .int (iI (c : Int)), .int (iI (i : Int)), .int (iI 1)] 4) [] h (fun r h1 => r = none ∧ ST h1 (noteM m s i c n true) γ t) := by
  refine wp_g (n := 1) (pc' := 1) (L' := [some (.ref 10), some (.int (iI (c : Int))), some (.int (iI (i : Int))), some (.int (iI 1))]) (st' := [.ref 10]) rfl ?_
  refine wp_getf (v := .ref 15) rfl rfl (S.cell 10 (nc rfl)) (by decide) rfl ?_
  refine wp_g (n := 2) (pc' := 6) (L' := [some (.ref 10), some (.int (iI (c : Int))), some (.int (iI (i : Int))), some (.int (iI 1))]) (st' := [.ref 10, .int (iI (c : Int)), .ref 15]) rfl ?_
  refine wp_getf (v := .int (iI ((m 10) 1))) rfl rfl (S.cell 10 (nc rfl)) (by decide) rfl ?_
  have hr1 : -2147483648 ≤ ((m 10) 1) ∧ ((m 10) 1) < 2147483648 := S.rg 10 1 (nl rfl)
  refine wp_cs (As := [.ref 15, .int (iI (c : Int)), .int (iI ((m 10) 1))]) (rest := []) rfl rfl rfl rfl (Nat.le_of_ble_eq_true rfl) (Nat.le_of_ble_eq_true rfl) (c_put S (nc rfl) (n := 64) rfl (by decide) (c : Int) ((m 10) 1) (by omega) (by omega) (by omega) (by omega)) (fun r2 H2 q2 => ?_)
  obtain ⟨rfl, S⟩ := q2
  have S : ST H2 (up m 15 (ptn 64 (m 15) (c : Int) ((m 10) 1))) γ t := S
  show wp _ _ _ _ _ [] _ _
  refine wp_g (n := 1) (pc' := 13) (L' := [some (.ref 10), some (.int (iI (c : Int))), some (.int (iI (i : Int))), some (.int (iI 1))]) (st' := [.ref 10]) rfl ?_
  refine wp_getf (v := .ref 16) rfl rfl (S.cell 10 (nc rfl)) (by decide) rfl ?_
  refine wp_g (n := 2) (pc' := 18) (L' := [some (.ref 10), some (.int (iI (c : Int))), some (.int (iI (i : Int))), some (.int (iI 1))]) (st' := [.int (iI (i : Int)), .int (iI (c : Int)), .ref 16]) rfl ?_
  refine wp_cs (As := [.ref 16, .int (iI (c : Int)), .int (iI (i : Int))]) (rest := []) rfl rfl rfl rfl (Nat.le_of_ble_eq_true rfl) (Nat.le_of_ble_eq_true rfl) (c_put S (nc rfl) (n := 64) rfl (by decide) (c : Int) (i : Int) (by omega) (by omega) (by omega) (by omega)) (fun r3 H3 q3 => ?_)
  obtain ⟨rfl, S⟩ := q3
  have S : ST H3 (up (up m 15 (ptn 64 (m 15) (c : Int) ((m 10) 1))) 16 (ptn 64 (m 16) (c : Int) (i : Int))) γ t := S
  show wp _ _ _ _ _ [] _ _
  refine wp_g (n := 1) (pc' := 22) (L' := [some (.ref 10), some (.int (iI (c : Int))), some (.int (iI (i : Int))), some (.int (iI 1))]) (st' := [.ref 10]) rfl ?_
  refine wp_getf (v := .ref 17) rfl rfl (S.cell 10 (nc rfl)) (by decide) rfl ?_
  refine wp_g (n := 2) (pc' := 27) (L' := [some (.ref 10), some (.int (iI (c : Int))), some (.int (iI (i : Int))), some (.int (iI 1))]) (st' := [.int (iI 1), .int (iI (c : Int)), .ref 17]) rfl ?_
  refine wp_g (n := 1) (pc' := 30) (L' := [some (.ref 10), some (.int (iI (c : Int))), some (.int (iI (i : Int))), some (.int (iI 1))]) (st' := [.int (iI (c : Int)), .ref 17]) rfl ?_
  refine wp_g (n := 2) (pc' := 35) (L' := [some (.ref 10), some (.int (iI (c : Int))), some (.int (iI (i : Int))), some (.int (iI 1))]) (st' := [.int (iI 1), .int (iI (c : Int)), .ref 17]) rfl ?_
  refine wp_cs (As := [.ref 17, .int (iI (c : Int)), .int (iI 1)]) (rest := []) rfl rfl rfl rfl (Nat.le_of_ble_eq_true rfl) (Nat.le_of_ble_eq_true rfl) (c_put S (nc rfl) (n := 64) rfl (by decide) (c : Int) 1 (by omega) (by omega) (by omega) (by omega)) (fun r4 H4 q4 => ?_)
  obtain ⟨rfl, S⟩ := q4
  have S : ST H4 (up (up (up m 15 (ptn 64 (m 15) (c : Int) ((m 10) 1))) 16 (ptn 64 (m 16) (c : Int) (i : Int))) 17 (ptn 64 (m 17) (c : Int) 1)) γ t := S
  show wp _ _ _ _ _ [] _ _
  refine wp_g (n := 1) (pc' := 39) (L' := [some (.ref 10), some (.int (iI (c : Int))), some (.int (iI (i : Int))), some (.int (iI 1))]) (st' := [.ref 10]) rfl ?_
  refine wp_getf (v := .ref 18) rfl rfl (S.cell 10 (nc rfl)) (by decide) rfl ?_
  refine wp_g (n := 1) (pc' := 43) (L' := [some (.ref 10), some (.int (iI (c : Int))), some (.int (iI (i : Int))), some (.int (iI 1))]) (st' := [.ref 10, .ref 18]) rfl ?_
  refine wp_getf (v := .int (iI ((m 10) 2))) rfl rfl (S.cell 10 (nc rfl)) (by decide) rfl ?_
  have hr5 : -2147483648 ≤ ((m 10) 2) ∧ ((m 10) 2) < 2147483648 := S.rg 10 2 (nl rfl)
  refine wp_g (n := 1) (pc' := 47) (L' := [some (.ref 10), some (.int (iI (c : Int))), some (.int (iI (i : Int))), some (.int (iI 1))]) (st' := [.int (iI (c : Int)), .int (iI ((m 10) 2)), .ref 18]) rfl ?_
  refine wp_cs (As := [.ref 18, .int (iI ((m 10) 2)), .int (iI (c : Int))]) (rest := []) rfl rfl rfl rfl (Nat.le_of_ble_eq_true rfl) (Nat.le_of_ble_eq_true rfl) (c_put S (nc rfl) (n := 64) rfl (by decide) ((m 10) 2) (c : Int) (by omega) (by omega) (by omega) (by omega)) (fun r6 H6 q6 => ?_)
  obtain ⟨rfl, S⟩ := q6
  have S : ST H6 (up (up (up (up m 15 (ptn 64 (m 15) (c : Int) ((m 10) 1))) 16 (ptn 64 (m 16) (c : Int) (i : Int))) 17 (ptn 64 (m 17) (c : Int) 1)) 18 (ptn 64 (m 18) ((m 10) 2) (c : Int))) γ t := S
  show wp _ _ _ _ _ [] _ _
  refine wp_g (n := 2) (pc' := 52) (L' := [some (.ref 10), some (.int (iI (c : Int))), some (.int (iI (i : Int))), some (.int (iI 1))]) (st' := [.ref 10, .ref 10]) rfl ?_
  refine wp_getf (v := .int (iI ((m 10) 2))) rfl rfl (S.cell 10 (nc rfl)) (by decide) rfl ?_
  have hr7 : -2147483648 ≤ ((m 10) 2) ∧ ((m 10) 2) < 2147483648 := S.rg 10 2 (nl rfl)
  refine wp_g (n := 1) (pc' := 56) (L' := [some (.ref 10), some (.int (iI (c : Int))), some (.int (iI (i : Int))), some (.int (iI 1))]) (st' := [.int (iI 1), .int (iI ((m 10) 2)), .ref 10]) rfl ?_
  refine wp_add rfl ?_
  refine wp_putI rfl rfl (S.cell 10 (nc rfl)) (Nat.le_of_ble_eq_true rfl) rfl (fun H8 hl8 hz8 hf8 => ?_)
  have S : ST H8 (up (up (up (up (up m 15 (ptn 64 (m 15) (c : Int) ((m 10) 1))) 16 (ptn 64 (m 16) (c : Int) (i : Int))) 17 (ptn 64 (m 17) (c : Int) 1)) 18 (ptn 64 (m 18) ((m 10) 2) (c : Int))) 10 (up (m 10) 2 (((m 10) 2) + 1))) γ t := S.setI 10 (nc rfl) hl8 hz8 hf8 (by omega) (by omega)
  refine wp_vret rfl rfl ?_
  refine ⟨rfl, S.same_m ?_⟩
  rw [h1, h2, ptn_in hc, ptn_in hc, ptn_in hc, ptn_in hn]
  rfl
theorem c_noteF (S : ST h m γ t) {s i c n : Nat} (h1 : m 10 1 = (s : Int)) (h2 : m 10 2 = (n : Int)) (hc : c < 64) (hn : n < 64) (hs : s < 1000) (hi : i < 1000) : wp E (k + 1) 97 0 (am_entry [.ref 10, .int (iI (c : Int)), .int (iI (i : Int)), .int (iI 0)] 4) [] h (fun r h1 => r = none ∧ ST h1 (noteM m s i c n false) γ t) := by
  refine wp_g (n := 1) (pc' := 1) (L' := [some (.ref 10), some (.int (iI (c : Int))), some (.int (iI (i : Int))), some (.int (iI 0))]) (st' := [.ref 10]) rfl ?_
  refine wp_getf (v := .ref 15) rfl rfl (S.cell 10 (nc rfl)) (by decide) rfl ?_
  refine wp_g (n := 2) (pc' := 6) (L' := [some (.ref 10), some (.int (iI (c : Int))), some (.int (iI (i : Int))), some (.int (iI 0))]) (st' := [.ref 10, .int (iI (c : Int)), .ref 15]) rfl ?_
  refine wp_getf (v := .int (iI ((m 10) 1))) rfl rfl (S.cell 10 (nc rfl)) (by decide) rfl ?_
  have hr1 : -2147483648 ≤ ((m 10) 1) ∧ ((m 10) 1) < 2147483648 := S.rg 10 1 (nl rfl)
  refine wp_cs (As := [.ref 15, .int (iI (c : Int)), .int (iI ((m 10) 1))]) (rest := []) rfl rfl rfl rfl (Nat.le_of_ble_eq_true rfl) (Nat.le_of_ble_eq_true rfl) (c_put S (nc rfl) (n := 64) rfl (by decide) (c : Int) ((m 10) 1) (by omega) (by omega) (by omega) (by omega)) (fun r2 H2 q2 => ?_)
  obtain ⟨rfl, S⟩ := q2
  have S : ST H2 (up m 15 (ptn 64 (m 15) (c : Int) ((m 10) 1))) γ t := S
  show wp _ _ _ _ _ [] _ _
  refine wp_g (n := 1) (pc' := 13) (L' := [some (.ref 10), some (.int (iI (c : Int))), some (.int (iI (i : Int))), some (.int (iI 0))]) (st' := [.ref 10]) rfl ?_
  refine wp_getf (v := .ref 16) rfl rfl (S.cell 10 (nc rfl)) (by decide) rfl ?_
  refine wp_g (n := 2) (pc' := 18) (L' := [some (.ref 10), some (.int (iI (c : Int))), some (.int (iI (i : Int))), some (.int (iI 0))]) (st' := [.int (iI (i : Int)), .int (iI (c : Int)), .ref 16]) rfl ?_
  refine wp_cs (As := [.ref 16, .int (iI (c : Int)), .int (iI (i : Int))]) (rest := []) rfl rfl rfl rfl (Nat.le_of_ble_eq_true rfl) (Nat.le_of_ble_eq_true rfl) (c_put S (nc rfl) (n := 64) rfl (by decide) (c : Int) (i : Int) (by omega) (by omega) (by omega) (by omega)) (fun r3 H3 q3 => ?_)
  obtain ⟨rfl, S⟩ := q3
  have S : ST H3 (up (up m 15 (ptn 64 (m 15) (c : Int) ((m 10) 1))) 16 (ptn 64 (m 16) (c : Int) (i : Int))) γ t := S
  show wp _ _ _ _ _ [] _ _
  refine wp_g (n := 1) (pc' := 22) (L' := [some (.ref 10), some (.int (iI (c : Int))), some (.int (iI (i : Int))), some (.int (iI 0))]) (st' := [.ref 10]) rfl ?_
  refine wp_getf (v := .ref 17) rfl rfl (S.cell 10 (nc rfl)) (by decide) rfl ?_
  refine wp_g (n := 2) (pc' := 27) (L' := [some (.ref 10), some (.int (iI (c : Int))), some (.int (iI (i : Int))), some (.int (iI 0))]) (st' := [.int (iI 0), .int (iI (c : Int)), .ref 17]) rfl ?_
  refine wp_g (n := 1) (pc' := 34) (L' := [some (.ref 10), some (.int (iI (c : Int))), some (.int (iI (i : Int))), some (.int (iI 0))]) (st' := [.int (iI (c : Int)), .ref 17]) rfl ?_
  refine wp_g (n := 1) (pc' := 35) (L' := [some (.ref 10), some (.int (iI (c : Int))), some (.int (iI (i : Int))), some (.int (iI 0))]) (st' := [.int (iI (-1)), .int (iI (c : Int)), .ref 17]) rfl ?_
  refine wp_cs (As := [.ref 17, .int (iI (c : Int)), .int (iI (-1))]) (rest := []) rfl rfl rfl rfl (Nat.le_of_ble_eq_true rfl) (Nat.le_of_ble_eq_true rfl) (c_put S (nc rfl) (n := 64) rfl (by decide) (c : Int) (-1) (by omega) (by omega) (by omega) (by omega)) (fun r4 H4 q4 => ?_)
  obtain ⟨rfl, S⟩ := q4
  have S : ST H4 (up (up (up m 15 (ptn 64 (m 15) (c : Int) ((m 10) 1))) 16 (ptn 64 (m 16) (c : Int) (i : Int))) 17 (ptn 64 (m 17) (c : Int) (-1))) γ t := S
  show wp _ _ _ _ _ [] _ _
  refine wp_g (n := 1) (pc' := 39) (L' := [some (.ref 10), some (.int (iI (c : Int))), some (.int (iI (i : Int))), some (.int (iI 0))]) (st' := [.ref 10]) rfl ?_
  refine wp_getf (v := .ref 18) rfl rfl (S.cell 10 (nc rfl)) (by decide) rfl ?_
  refine wp_g (n := 1) (pc' := 43) (L' := [some (.ref 10), some (.int (iI (c : Int))), some (.int (iI (i : Int))), some (.int (iI 0))]) (st' := [.ref 10, .ref 18]) rfl ?_
  refine wp_getf (v := .int (iI ((m 10) 2))) rfl rfl (S.cell 10 (nc rfl)) (by decide) rfl ?_
  have hr5 : -2147483648 ≤ ((m 10) 2) ∧ ((m 10) 2) < 2147483648 := S.rg 10 2 (nl rfl)
  refine wp_g (n := 1) (pc' := 47) (L' := [some (.ref 10), some (.int (iI (c : Int))), some (.int (iI (i : Int))), some (.int (iI 0))]) (st' := [.int (iI (c : Int)), .int (iI ((m 10) 2)), .ref 18]) rfl ?_
  refine wp_cs (As := [.ref 18, .int (iI ((m 10) 2)), .int (iI (c : Int))]) (rest := []) rfl rfl rfl rfl (Nat.le_of_ble_eq_true rfl) (Nat.le_of_ble_eq_true rfl) (c_put S (nc rfl) (n := 64) rfl (by decide) ((m 10) 2) (c : Int) (by omega) (by omega) (by omega) (by omega)) (fun r6 H6 q6 => ?_)
  obtain ⟨rfl, S⟩ := q6
  have S : ST H6 (up (up (up (up m 15 (ptn 64 (m 15) (c : Int) ((m 10) 1))) 16 (ptn 64 (m 16) (c : Int) (i : Int))) 17 (ptn 64 (m 17) (c : Int) (-1))) 18 (ptn 64 (m 18) ((m 10) 2) (c : Int))) γ t := S
  show wp _ _ _ _ _ [] _ _
  refine wp_g (n := 2) (pc' := 52) (L' := [some (.ref 10), some (.int (iI (c : Int))), some (.int (iI (i : Int))), some (.int (iI 0))]) (st' := [.ref 10, .ref 10]) rfl ?_
  refine wp_getf (v := .int (iI ((m 10) 2))) rfl rfl (S.cell 10 (nc rfl)) (by decide) rfl ?_
  have hr7 : -2147483648 ≤ ((m 10) 2) ∧ ((m 10) 2) < 2147483648 := S.rg 10 2 (nl rfl)
  refine wp_g (n := 1) (pc' := 56) (L' := [some (.ref 10), some (.int (iI (c : Int))), some (.int (iI (i : Int))), some (.int (iI 0))]) (st' := [.int (iI 1), .int (iI ((m 10) 2)), .ref 10]) rfl ?_
  refine wp_add rfl ?_
  refine wp_putI rfl rfl (S.cell 10 (nc rfl)) (Nat.le_of_ble_eq_true rfl) rfl (fun H8 hl8 hz8 hf8 => ?_)
  have S : ST H8 (up (up (up (up (up m 15 (ptn 64 (m 15) (c : Int) ((m 10) 1))) 16 (ptn 64 (m 16) (c : Int) (i : Int))) 17 (ptn 64 (m 17) (c : Int) (-1))) 18 (ptn 64 (m 18) ((m 10) 2) (c : Int))) 10 (up (m 10) 2 (((m 10) 2) + 1))) γ t := S.setI 10 (nc rfl) hl8 hz8 hf8 (by omega) (by omega)
  refine wp_vret rfl rfl ?_
  refine ⟨rfl, S.same_m ?_⟩
  rw [h1, h2, ptn_in hc, ptn_in hc, ptn_in hc, ptn_in hn]
  rfl
theorem c_passO (S : ST h m γ t) (hγ : γ 11 = (R, C, kd)) {s n e fr sd : Nat} (h1 : m 10 1 = (s : Int)) (h2 : m 10 3 = (n : Int)) (he : e < gn R C) (hn : n < 48) (hs : s < 1000) (hfr : fr < 4) (hsd : sd < 4) (ho : ((decide (sdX ((sd : Int) % 4) - sdX ((fr : Int) % 4) = sdY ((sd : Int) % 4) - sdY ((fr : Int) % 4)) == decide ((gbel R C e : Int) = 0)) != decide (kd e = 1)) = true) : wp E (k + 2) 98 0 (am_entry [.ref 10, .int (iI (e : Int)), .int (iI (fr : Int)), .int (iI (sd : Int))] 8) [] h (fun r h1 => r = none ∧ ST h1 (passM m s e n (sdX ((sd : Int) % 4) - sdX ((fr : Int) % 4)) (sdY ((sd : Int) % 4) - sdY ((fr : Int) % 4)) true) γ t) := by
  have hx1 : ∀ z, -1 ≤ sdX z ∧ sdX z ≤ 1 := fun z => by unfold sdX; split; omega; split <;> omega
  have hy1 : ∀ z, -1 ≤ sdY z ∧ sdY z ≤ 1 := fun z => by unfold sdY; split; omega; split <;> omega
  have q1 := hx1 ((sd : Int) % 4)
  have q2 := hx1 ((fr : Int) % 4)
  have q3 := hy1 ((sd : Int) % 4)
  have q4 := hy1 ((fr : Int) % 4)
  have hgn := gn_le R (S.gq hγ (gi rfl)).1.le.1 C (S.gq hγ (gi rfl)).1.le.2
  have he2 : e < 24 := by omega
  refine wp_getst (b := 1001000) rfl rfl ?_
  refine wp_g (n := 2) (pc' := 5) (L' := [some (.ref 10), some (.int (iI (e : Int))), some (.int (iI (fr : Int))), some (.int (iI (sd : Int))), none, none, none, none]) (st' := [.int (iI 3), .int (iI (sd : Int)), .ref 1001000]) rfl ?_
  refine wp_and3 rfl (by omega) (by omega) ?_
  refine wp_sdx rfl (by omega) (by omega) ?_
  refine wp_getst (b := 1001000) rfl rfl ?_
  refine wp_g (n := 2) (pc' := 12) (L' := [some (.ref 10), some (.int (iI (e : Int))), some (.int (iI (fr : Int))), some (.int (iI (sd : Int))), none, none, none, none]) (st' := [.int (iI 3), .int (iI (fr : Int)), .ref 1001000, .int (iI (sdX ((sd : Int) % 4)))]) rfl ?_
  refine wp_and3 rfl (by omega) (by omega) ?_
  refine wp_sdx rfl (by omega) (by omega) ?_
  refine wp_sub rfl ?_
  refine wp_g (n := 1) (pc' := 17) (L' := [some (.ref 10), some (.int (iI (e : Int))), some (.int (iI (fr : Int))), some (.int (iI (sd : Int))), some (.int (iI ((sdX ((sd : Int) % 4)) - (sdX ((fr : Int) % 4))))), none, none, none]) (st' := []) rfl ?_
  refine wp_getst (b := 1001001) rfl rfl ?_
  refine wp_g (n := 2) (pc' := 22) (L' := [some (.ref 10), some (.int (iI (e : Int))), some (.int (iI (fr : Int))), some (.int (iI (sd : Int))), some (.int (iI ((sdX ((sd : Int) % 4)) - (sdX ((fr : Int) % 4))))), none, none, none]) (st' := [.int (iI 3), .int (iI (sd : Int)), .ref 1001001]) rfl ?_
  refine wp_and3 rfl (by omega) (by omega) ?_
  refine wp_sdy rfl (by omega) (by omega) ?_
  refine wp_getst (b := 1001001) rfl rfl ?_
  refine wp_g (n := 2) (pc' := 29) (L' := [some (.ref 10), some (.int (iI (e : Int))), some (.int (iI (fr : Int))), some (.int (iI (sd : Int))), some (.int (iI ((sdX ((sd : Int) % 4)) - (sdX ((fr : Int) % 4))))), none, none, none]) (st' := [.int (iI 3), .int (iI (fr : Int)), .ref 1001001, .int (iI (sdY ((sd : Int) % 4)))]) rfl ?_
  refine wp_and3 rfl (by omega) (by omega) ?_
  refine wp_sdy rfl (by omega) (by omega) ?_
  refine wp_sub rfl ?_
  refine wp_g (n := 3) (pc' := 38) (L' := [some (.ref 10), some (.int (iI (e : Int))), some (.int (iI (fr : Int))), some (.int (iI (sd : Int))), some (.int (iI ((sdX ((sd : Int) % 4)) - (sdX ((fr : Int) % 4))))), some (.int (iI ((sdY ((sd : Int) % 4)) - (sdY ((fr : Int) % 4))))), none, none]) (st' := [.int (iI ((sdY ((sd : Int) % 4)) - (sdY ((fr : Int) % 4)))), .int (iI ((sdX ((sd : Int) % 4)) - (sdX ((fr : Int) % 4))))]) rfl ?_
  refine wp_icmpI (a := ((sdX ((sd : Int) % 4)) - (sdX ((fr : Int) % 4)))) (b := ((sdY ((sd : Int) % 4)) - (sdY ((fr : Int) % 4)))) rfl rfl (by omega) (by omega) (by omega) (by omega) (fun c1 => ?_) (fun c1 => ?_)
  · have c1 : (¬ (((sdX ((sd : Int) % 4)) - (sdX ((fr : Int) % 4))) : Int) = ((sdY ((sd : Int) % 4)) - (sdY ((fr : Int) % 4)))) := c1
    refine wp_g (n := 4) (pc' := 51) (L' := [some (.ref 10), some (.int (iI (e : Int))), some (.int (iI (fr : Int))), some (.int (iI (sd : Int))), some (.int (iI ((sdX ((sd : Int) % 4)) - (sdX ((fr : Int) % 4))))), some (.int (iI ((sdY ((sd : Int) % 4)) - (sdY ((fr : Int) % 4))))), some (.int (iI 0)), none]) (st' := [.ref 10, .int (iI 0)]) rfl ?_
    refine wp_getf (v := .ref 11) rfl rfl (S.cell 10 (nc rfl)) (by decide) rfl ?_
    refine wp_g (n := 1) (pc' := 55) (L' := [some (.ref 10), some (.int (iI (e : Int))), some (.int (iI (fr : Int))), some (.int (iI (sd : Int))), some (.int (iI ((sdX ((sd : Int) % 4)) - (sdX ((fr : Int) % 4))))), some (.int (iI ((sdY ((sd : Int) % 4)) - (sdY ((fr : Int) % 4))))), some (.int (iI 0)), none]) (st' := [.int (iI (e : Int)), .ref 11, .int (iI 0)]) rfl ?_
    refine wp_cv (As := [.int (iI (e : Int))]) (rest := [.int (iI 0)]) rfl rfl (S.gq hγ (gi rfl)).obj (by decide) rfl rfl rfl (Nat.le_of_ble_eq_true rfl) (Nat.le_of_ble_eq_true rfl) (G_belowOfI (S.gq hγ (gi rfl)) (e : Int) (by omega) (by omega)) (fun r2 H2 q2 => ?_)
    obtain ⟨rfl, e2⟩ := q2
    rw [e2]
    show wp _ _ _ _ _ [.int (iI (gbel R C e : Int)), .int (iI 0)] _ _
    have hb3 := gbel_le R C e
    refine wp_ifI (a := (gbel R C e : Int)) rfl rfl (by omega) (by omega) (fun c4 => ?_) (fun c4 => ?_)
    · have c4 : (¬ ((gbel R C e : Int) : Int) = 0) := c4
      refine wp_g (n := 1) (pc' := 66) (L' := [some (.ref 10), some (.int (iI (e : Int))), some (.int (iI (fr : Int))), some (.int (iI (sd : Int))), some (.int (iI ((sdX ((sd : Int) % 4)) - (sdX ((fr : Int) % 4))))), some (.int (iI ((sdY ((sd : Int) % 4)) - (sdY ((fr : Int) % 4))))), some (.int (iI 0)), none]) (st' := [.int (iI 0), .int (iI 0)]) rfl ?_
      refine wp_g (n := 1) (pc' := 69) (L' := [some (.ref 10), some (.int (iI (e : Int))), some (.int (iI (fr : Int))), some (.int (iI (sd : Int))), some (.int (iI ((sdX ((sd : Int) % 4)) - (sdX ((fr : Int) % 4))))), some (.int (iI ((sdY ((sd : Int) % 4)) - (sdY ((fr : Int) % 4))))), some (.int (iI 0)), none]) (st' := []) rfl ?_
      refine wp_g (n := 4) (pc' := 77) (L' := [some (.ref 10), some (.int (iI (e : Int))), some (.int (iI (fr : Int))), some (.int (iI (sd : Int))), some (.int (iI ((sdX ((sd : Int) % 4)) - (sdX ((fr : Int) % 4))))), some (.int (iI ((sdY ((sd : Int) % 4)) - (sdY ((fr : Int) % 4))))), some (.int (iI 0)), some (.int (iI 1))]) (st' := [.ref 10]) rfl ?_
      refine wp_getf (v := .ref 11) rfl rfl (S.cell 10 (nc rfl)) (by decide) rfl ?_
      refine wp_g (n := 1) (pc' := 81) (L' := [some (.ref 10), some (.int (iI (e : Int))), some (.int (iI (fr : Int))), some (.int (iI (sd : Int))), some (.int (iI ((sdX ((sd : Int) % 4)) - (sdX ((fr : Int) % 4))))), some (.int (iI ((sdY ((sd : Int) % 4)) - (sdY ((fr : Int) % 4))))), some (.int (iI 0)), some (.int (iI 1))]) (st' := [.int (iI (e : Int)), .ref 11]) rfl ?_
      refine wp_cv (As := [.int (iI (e : Int))]) (rest := []) rfl rfl (S.gq hγ (gi rfl)).obj (by decide) rfl rfl rfl (Nat.le_of_ble_eq_true rfl) (Nat.le_of_ble_eq_true rfl) (G_kindOfI (S.gq hγ (gi rfl)) (e : Int) (by omega) (by omega)) (fun r5 H5 q5 => ?_)
      obtain ⟨rfl, e5⟩ := q5
      rw [e5]
      show wp _ _ _ _ _ [.int (iI (kd e))] _ _
      have hk6 := ((S.gq hγ (gi rfl))).2.1 e (by omega)
      refine wp_g (n := 1) (pc' := 85) (L' := [some (.ref 10), some (.int (iI (e : Int))), some (.int (iI (fr : Int))), some (.int (iI (sd : Int))), some (.int (iI ((sdX ((sd : Int) % 4)) - (sdX ((fr : Int) % 4))))), some (.int (iI ((sdY ((sd : Int) % 4)) - (sdY ((fr : Int) % 4))))), some (.int (iI 0)), some (.int (iI 1))]) (st' := [.int (iI 1), .int (iI (kd e))]) rfl ?_
      refine wp_icmpI (a := (kd e)) (b := 1) rfl rfl (by omega) (by omega) (by omega) (by omega) (fun c7 => ?_) (fun c7 => ?_)
      · have c7 : (¬ ((kd e) : Int) = 1) := c7
        refine wp_g (n := 1) (pc' := 102) (L' := [some (.ref 10), some (.int (iI (e : Int))), some (.int (iI (fr : Int))), some (.int (iI (sd : Int))), some (.int (iI ((sdX ((sd : Int) % 4)) - (sdX ((fr : Int) % 4))))), some (.int (iI ((sdY ((sd : Int) % 4)) - (sdY ((fr : Int) % 4))))), some (.int (iI 0)), some (.int (iI 1))]) (st' := [.int (iI 1)]) rfl ?_
        refine wp_g (n := 1) (pc' := 105) (L' := [some (.ref 10), some (.int (iI (e : Int))), some (.int (iI (fr : Int))), some (.int (iI (sd : Int))), some (.int (iI ((sdX ((sd : Int) % 4)) - (sdX ((fr : Int) % 4))))), some (.int (iI ((sdY ((sd : Int) % 4)) - (sdY ((fr : Int) % 4))))), some (.int (iI 0)), some (.int (iI 1))]) (st' := []) rfl ?_
        refine wp_g (n := 1) (pc' := 106) (L' := [some (.ref 10), some (.int (iI (e : Int))), some (.int (iI (fr : Int))), some (.int (iI (sd : Int))), some (.int (iI ((sdX ((sd : Int) % 4)) - (sdX ((fr : Int) % 4))))), some (.int (iI ((sdY ((sd : Int) % 4)) - (sdY ((fr : Int) % 4))))), some (.int (iI 0)), some (.int (iI 1))]) (st' := [.ref 10]) rfl ?_
        refine wp_getf (v := .ref 25) rfl rfl (S.cell 10 (nc rfl)) (by decide) rfl ?_
        refine wp_g (n := 3) (pc' := 118) (L' := [some (.ref 10), some (.int (iI (e : Int))), some (.int (iI (fr : Int))), some (.int (iI (sd : Int))), some (.int (iI ((sdX ((sd : Int) % 4)) - (sdX ((fr : Int) % 4))))), some (.int (iI ((sdY ((sd : Int) % 4)) - (sdY ((fr : Int) % 4))))), some (.int (iI 0)), some (.int (iI 1))]) (st' := [.ref 10, .int (iI (e : Int)), .ref 25]) rfl ?_
        refine wp_getf (v := .int (iI ((m 10) 3))) rfl rfl (S.cell 10 (nc rfl)) (by decide) rfl ?_
        have hr8 : -2147483648 ≤ ((m 10) 3) ∧ ((m 10) 3) < 2147483648 := S.rg 10 3 (nl rfl)
        refine wp_cs (As := [.ref 25, .int (iI (e : Int)), .int (iI ((m 10) 3))]) (rest := []) rfl rfl rfl rfl (Nat.le_of_ble_eq_true rfl) (Nat.le_of_ble_eq_true rfl) (c_put S (nc rfl) (n := 24) rfl (by decide) (e : Int) ((m 10) 3) (by omega) (by omega) (by omega) (by omega)) (fun r9 H9 q9 => ?_)
        obtain ⟨rfl, S⟩ := q9
        have S : ST H9 (up m 25 (ptn 24 (m 25) (e : Int) ((m 10) 3))) γ t := S
        show wp _ _ _ _ _ [] _ _
        refine wp_g (n := 1) (pc' := 125) (L' := [some (.ref 10), some (.int (iI (e : Int))), some (.int (iI (fr : Int))), some (.int (iI (sd : Int))), some (.int (iI ((sdX ((sd : Int) % 4)) - (sdX ((fr : Int) % 4))))), some (.int (iI ((sdY ((sd : Int) % 4)) - (sdY ((fr : Int) % 4))))), some (.int (iI 0)), some (.int (iI 1))]) (st' := [.ref 10]) rfl ?_
        refine wp_getf (v := .ref 20) rfl rfl (S.cell 10 (nc rfl)) (by decide) rfl ?_
        refine wp_g (n := 1) (pc' := 129) (L' := [some (.ref 10), some (.int (iI (e : Int))), some (.int (iI (fr : Int))), some (.int (iI (sd : Int))), some (.int (iI ((sdX ((sd : Int) % 4)) - (sdX ((fr : Int) % 4))))), some (.int (iI ((sdY ((sd : Int) % 4)) - (sdY ((fr : Int) % 4))))), some (.int (iI 0)), some (.int (iI 1))]) (st' := [.ref 10, .ref 20]) rfl ?_
        refine wp_getf (v := .int (iI ((m 10) 3))) rfl rfl (S.cell 10 (nc rfl)) (by decide) rfl ?_
        have hr10 : -2147483648 ≤ ((m 10) 3) ∧ ((m 10) 3) < 2147483648 := S.rg 10 3 (nl rfl)
        refine wp_g (n := 1) (pc' := 133) (L' := [some (.ref 10), some (.int (iI (e : Int))), some (.int (iI (fr : Int))), some (.int (iI (sd : Int))), some (.int (iI ((sdX ((sd : Int) % 4)) - (sdX ((fr : Int) % 4))))), some (.int (iI ((sdY ((sd : Int) % 4)) - (sdY ((fr : Int) % 4))))), some (.int (iI 0)), some (.int (iI 1))]) (st' := [.int (iI (e : Int)), .int (iI ((m 10) 3)), .ref 20]) rfl ?_
        refine wp_cs (As := [.ref 20, .int (iI ((m 10) 3)), .int (iI (e : Int))]) (rest := []) rfl rfl rfl rfl (Nat.le_of_ble_eq_true rfl) (Nat.le_of_ble_eq_true rfl) (c_put S (nc rfl) (n := 48) rfl (by decide) ((m 10) 3) (e : Int) (by omega) (by omega) (by omega) (by omega)) (fun r11 H11 q11 => ?_)
        obtain ⟨rfl, S⟩ := q11
        have S : ST H11 (up (up m 25 (ptn 24 (m 25) (e : Int) ((m 10) 3))) 20 (ptn 48 (m 20) ((m 10) 3) (e : Int))) γ t := S
        show wp _ _ _ _ _ [] _ _
        refine wp_g (n := 1) (pc' := 137) (L' := [some (.ref 10), some (.int (iI (e : Int))), some (.int (iI (fr : Int))), some (.int (iI (sd : Int))), some (.int (iI ((sdX ((sd : Int) % 4)) - (sdX ((fr : Int) % 4))))), some (.int (iI ((sdY ((sd : Int) % 4)) - (sdY ((fr : Int) % 4))))), some (.int (iI 0)), some (.int (iI 1))]) (st' := [.ref 10]) rfl ?_
        refine wp_getf (v := .ref 21) rfl rfl (S.cell 10 (nc rfl)) (by decide) rfl ?_
        refine wp_g (n := 1) (pc' := 141) (L' := [some (.ref 10), some (.int (iI (e : Int))), some (.int (iI (fr : Int))), some (.int (iI (sd : Int))), some (.int (iI ((sdX ((sd : Int) % 4)) - (sdX ((fr : Int) % 4))))), some (.int (iI ((sdY ((sd : Int) % 4)) - (sdY ((fr : Int) % 4))))), some (.int (iI 0)), some (.int (iI 1))]) (st' := [.ref 10, .ref 21]) rfl ?_
        refine wp_getf (v := .int (iI ((m 10) 3))) rfl rfl (S.cell 10 (nc rfl)) (by decide) rfl ?_
        have hr12 : -2147483648 ≤ ((m 10) 3) ∧ ((m 10) 3) < 2147483648 := S.rg 10 3 (nl rfl)
        refine wp_g (n := 1) (pc' := 145) (L' := [some (.ref 10), some (.int (iI (e : Int))), some (.int (iI (fr : Int))), some (.int (iI (sd : Int))), some (.int (iI ((sdX ((sd : Int) % 4)) - (sdX ((fr : Int) % 4))))), some (.int (iI ((sdY ((sd : Int) % 4)) - (sdY ((fr : Int) % 4))))), some (.int (iI 0)), some (.int (iI 1))]) (st' := [.ref 10, .int (iI ((m 10) 3)), .ref 21]) rfl ?_
        refine wp_getf (v := .int (iI ((m 10) 1))) rfl rfl (S.cell 10 (nc rfl)) (by decide) rfl ?_
        have hr13 : -2147483648 ≤ ((m 10) 1) ∧ ((m 10) 1) < 2147483648 := S.rg 10 1 (nl rfl)
        refine wp_cs (As := [.ref 21, .int (iI ((m 10) 3)), .int (iI ((m 10) 1))]) (rest := []) rfl rfl rfl rfl (Nat.le_of_ble_eq_true rfl) (Nat.le_of_ble_eq_true rfl) (c_put S (nc rfl) (n := 48) rfl (by decide) ((m 10) 3) ((m 10) 1) (by omega) (by omega) (by omega) (by omega)) (fun r14 H14 q14 => ?_)
        obtain ⟨rfl, S⟩ := q14
        have S : ST H14 (up (up (up m 25 (ptn 24 (m 25) (e : Int) ((m 10) 3))) 20 (ptn 48 (m 20) ((m 10) 3) (e : Int))) 21 (ptn 48 (m 21) ((m 10) 3) ((m 10) 1))) γ t := S
        show wp _ _ _ _ _ [] _ _
        refine wp_g (n := 1) (pc' := 152) (L' := [some (.ref 10), some (.int (iI (e : Int))), some (.int (iI (fr : Int))), some (.int (iI (sd : Int))), some (.int (iI ((sdX ((sd : Int) % 4)) - (sdX ((fr : Int) % 4))))), some (.int (iI ((sdY ((sd : Int) % 4)) - (sdY ((fr : Int) % 4))))), some (.int (iI 0)), some (.int (iI 1))]) (st' := [.ref 10]) rfl ?_
        refine wp_getf (v := .ref 22) rfl rfl (S.cell 10 (nc rfl)) (by decide) rfl ?_
        refine wp_g (n := 1) (pc' := 156) (L' := [some (.ref 10), some (.int (iI (e : Int))), some (.int (iI (fr : Int))), some (.int (iI (sd : Int))), some (.int (iI ((sdX ((sd : Int) % 4)) - (sdX ((fr : Int) % 4))))), some (.int (iI ((sdY ((sd : Int) % 4)) - (sdY ((fr : Int) % 4))))), some (.int (iI 0)), some (.int (iI 1))]) (st' := [.ref 10, .ref 22]) rfl ?_
        refine wp_getf (v := .int (iI ((m 10) 3))) rfl rfl (S.cell 10 (nc rfl)) (by decide) rfl ?_
        have hr15 : -2147483648 ≤ ((m 10) 3) ∧ ((m 10) 3) < 2147483648 := S.rg 10 3 (nl rfl)
        refine wp_g (n := 1) (pc' := 161) (L' := [some (.ref 10), some (.int (iI (e : Int))), some (.int (iI (fr : Int))), some (.int (iI (sd : Int))), some (.int (iI ((sdX ((sd : Int) % 4)) - (sdX ((fr : Int) % 4))))), some (.int (iI ((sdY ((sd : Int) % 4)) - (sdY ((fr : Int) % 4))))), some (.int (iI 0)), some (.int (iI 1))]) (st' := [.int (iI ((sdX ((sd : Int) % 4)) - (sdX ((fr : Int) % 4)))), .int (iI ((m 10) 3)), .ref 22]) rfl ?_
        refine wp_cs (As := [.ref 22, .int (iI ((m 10) 3)), .int (iI ((sdX ((sd : Int) % 4)) - (sdX ((fr : Int) % 4))))]) (rest := []) rfl rfl rfl rfl (Nat.le_of_ble_eq_true rfl) (Nat.le_of_ble_eq_true rfl) (c_put S (nc rfl) (n := 48) rfl (by decide) ((m 10) 3) ((sdX ((sd : Int) % 4)) - (sdX ((fr : Int) % 4))) (by omega) (by omega) (by omega) (by omega)) (fun r16 H16 q16 => ?_)
        obtain ⟨rfl, S⟩ := q16
        have S : ST H16 (up (up (up (up m 25 (ptn 24 (m 25) (e : Int) ((m 10) 3))) 20 (ptn 48 (m 20) ((m 10) 3) (e : Int))) 21 (ptn 48 (m 21) ((m 10) 3) ((m 10) 1))) 22 (ptn 48 (m 22) ((m 10) 3) ((sdX ((sd : Int) % 4)) - (sdX ((fr : Int) % 4))))) γ t := S
        show wp _ _ _ _ _ [] _ _
        refine wp_g (n := 1) (pc' := 165) (L' := [some (.ref 10), some (.int (iI (e : Int))), some (.int (iI (fr : Int))), some (.int (iI (sd : Int))), some (.int (iI ((sdX ((sd : Int) % 4)) - (sdX ((fr : Int) % 4))))), some (.int (iI ((sdY ((sd : Int) % 4)) - (sdY ((fr : Int) % 4))))), some (.int (iI 0)), some (.int (iI 1))]) (st' := [.ref 10]) rfl ?_
        refine wp_getf (v := .ref 23) rfl rfl (S.cell 10 (nc rfl)) (by decide) rfl ?_
        refine wp_g (n := 1) (pc' := 169) (L' := [some (.ref 10), some (.int (iI (e : Int))), some (.int (iI (fr : Int))), some (.int (iI (sd : Int))), some (.int (iI ((sdX ((sd : Int) % 4)) - (sdX ((fr : Int) % 4))))), some (.int (iI ((sdY ((sd : Int) % 4)) - (sdY ((fr : Int) % 4))))), some (.int (iI 0)), some (.int (iI 1))]) (st' := [.ref 10, .ref 23]) rfl ?_
        refine wp_getf (v := .int (iI ((m 10) 3))) rfl rfl (S.cell 10 (nc rfl)) (by decide) rfl ?_
        have hr17 : -2147483648 ≤ ((m 10) 3) ∧ ((m 10) 3) < 2147483648 := S.rg 10 3 (nl rfl)
        refine wp_g (n := 1) (pc' := 174) (L' := [some (.ref 10), some (.int (iI (e : Int))), some (.int (iI (fr : Int))), some (.int (iI (sd : Int))), some (.int (iI ((sdX ((sd : Int) % 4)) - (sdX ((fr : Int) % 4))))), some (.int (iI ((sdY ((sd : Int) % 4)) - (sdY ((fr : Int) % 4))))), some (.int (iI 0)), some (.int (iI 1))]) (st' := [.int (iI ((sdY ((sd : Int) % 4)) - (sdY ((fr : Int) % 4)))), .int (iI ((m 10) 3)), .ref 23]) rfl ?_
        refine wp_cs (As := [.ref 23, .int (iI ((m 10) 3)), .int (iI ((sdY ((sd : Int) % 4)) - (sdY ((fr : Int) % 4))))]) (rest := []) rfl rfl rfl rfl (Nat.le_of_ble_eq_true rfl) (Nat.le_of_ble_eq_true rfl) (c_put S (nc rfl) (n := 48) rfl (by decide) ((m 10) 3) ((sdY ((sd : Int) % 4)) - (sdY ((fr : Int) % 4))) (by omega) (by omega) (by omega) (by omega)) (fun r18 H18 q18 => ?_)
        obtain ⟨rfl, S⟩ := q18
        have S : ST H18 (up (up (up (up (up m 25 (ptn 24 (m 25) (e : Int) ((m 10) 3))) 20 (ptn 48 (m 20) ((m 10) 3) (e : Int))) 21 (ptn 48 (m 21) ((m 10) 3) ((m 10) 1))) 22 (ptn 48 (m 22) ((m 10) 3) ((sdX ((sd : Int) % 4)) - (sdX ((fr : Int) % 4))))) 23 (ptn 48 (m 23) ((m 10) 3) ((sdY ((sd : Int) % 4)) - (sdY ((fr : Int) % 4))))) γ t := S
        show wp _ _ _ _ _ [] _ _
        refine wp_g (n := 2) (pc' := 179) (L' := [some (.ref 10), some (.int (iI (e : Int))), some (.int (iI (fr : Int))), some (.int (iI (sd : Int))), some (.int (iI ((sdX ((sd : Int) % 4)) - (sdX ((fr : Int) % 4))))), some (.int (iI ((sdY ((sd : Int) % 4)) - (sdY ((fr : Int) % 4))))), some (.int (iI 0)), some (.int (iI 1))]) (st' := [.ref 10, .ref 10]) rfl ?_
        refine wp_getf (v := .int (iI ((m 10) 3))) rfl rfl (S.cell 10 (nc rfl)) (by decide) rfl ?_
        have hr19 : -2147483648 ≤ ((m 10) 3) ∧ ((m 10) 3) < 2147483648 := S.rg 10 3 (nl rfl)
        refine wp_g (n := 1) (pc' := 183) (L' := [some (.ref 10), some (.int (iI (e : Int))), some (.int (iI (fr : Int))), some (.int (iI (sd : Int))), some (.int (iI ((sdX ((sd : Int) % 4)) - (sdX ((fr : Int) % 4))))), some (.int (iI ((sdY ((sd : Int) % 4)) - (sdY ((fr : Int) % 4))))), some (.int (iI 0)), some (.int (iI 1))]) (st' := [.int (iI 1), .int (iI ((m 10) 3)), .ref 10]) rfl ?_
        refine wp_add rfl ?_
        refine wp_putI rfl rfl (S.cell 10 (nc rfl)) (Nat.le_of_ble_eq_true rfl) rfl (fun H20 hl20 hz20 hf20 => ?_)
        have S : ST H20 (up (up (up (up (up (up m 25 (ptn 24 (m 25) (e : Int) ((m 10) 3))) 20 (ptn 48 (m 20) ((m 10) 3) (e : Int))) 21 (ptn 48 (m 21) ((m 10) 3) ((m 10) 1))) 22 (ptn 48 (m 22) ((m 10) 3) ((sdX ((sd : Int) % 4)) - (sdX ((fr : Int) % 4))))) 23 (ptn 48 (m 23) ((m 10) 3) ((sdY ((sd : Int) % 4)) - (sdY ((fr : Int) % 4))))) 10 (up (m 10) 3 (((m 10) 3) + 1))) γ t := S.setI 10 (nc rfl) hl20 hz20 hf20 (by omega) (by omega)
        refine wp_vret rfl rfl ?_
        first
          | (exfalso; revert ho; simp only [c1, c4, c7, decide_true, decide_false] <;> decide)
          | (refine ⟨rfl, S.same_m ?_⟩
             rw [h1, h2, ptn_in he2, ptn_in hn, ptn_in hn, ptn_in hn, ptn_in hn]
             rfl)
      · have c7 : (((kd e) : Int) = 1) := Classical.not_not.mp c7
        refine wp_g (n := 1) (pc' := 90) (L' := [some (.ref 10), some (.int (iI (e : Int))), some (.int (iI (fr : Int))), some (.int (iI (sd : Int))), some (.int (iI ((sdX ((sd : Int) % 4)) - (sdX ((fr : Int) % 4))))), some (.int (iI ((sdY ((sd : Int) % 4)) - (sdY ((fr : Int) % 4))))), some (.int (iI 0)), some (.int (iI 1))]) (st' := [.int (iI 1)]) rfl ?_
        refine wp_g (n := 1) (pc' := 97) (L' := [some (.ref 10), some (.int (iI (e : Int))), some (.int (iI (fr : Int))), some (.int (iI (sd : Int))), some (.int (iI ((sdX ((sd : Int) % 4)) - (sdX ((fr : Int) % 4))))), some (.int (iI ((sdY ((sd : Int) % 4)) - (sdY ((fr : Int) % 4))))), some (.int (iI 0)), some (.int (iI 1))]) (st' := []) rfl ?_
        refine wp_g (n := 3) (pc' := 102) (L' := [some (.ref 10), some (.int (iI (e : Int))), some (.int (iI (fr : Int))), some (.int (iI (sd : Int))), some (.int (iI ((sdX ((sd : Int) % 4)) - (sdX ((fr : Int) % 4))))), some (.int (iI ((sdY ((sd : Int) % 4)) - (sdY ((fr : Int) % 4))))), some (.int (iI 0)), some (.int (iI 0))]) (st' := [.int (iI 0)]) rfl ?_
        refine wp_g (n := 1) (pc' := 112) (L' := [some (.ref 10), some (.int (iI (e : Int))), some (.int (iI (fr : Int))), some (.int (iI (sd : Int))), some (.int (iI ((sdX ((sd : Int) % 4)) - (sdX ((fr : Int) % 4))))), some (.int (iI ((sdY ((sd : Int) % 4)) - (sdY ((fr : Int) % 4))))), some (.int (iI 0)), some (.int (iI 0))]) (st' := []) rfl ?_
        refine wp_g (n := 1) (pc' := 113) (L' := [some (.ref 10), some (.int (iI (e : Int))), some (.int (iI (fr : Int))), some (.int (iI (sd : Int))), some (.int (iI ((sdX ((sd : Int) % 4)) - (sdX ((fr : Int) % 4))))), some (.int (iI ((sdY ((sd : Int) % 4)) - (sdY ((fr : Int) % 4))))), some (.int (iI 0)), some (.int (iI 0))]) (st' := [.ref 10]) rfl ?_
        refine wp_getf (v := .ref 26) rfl rfl (S.cell 10 (nc rfl)) (by decide) rfl ?_
        refine wp_g (n := 2) (pc' := 118) (L' := [some (.ref 10), some (.int (iI (e : Int))), some (.int (iI (fr : Int))), some (.int (iI (sd : Int))), some (.int (iI ((sdX ((sd : Int) % 4)) - (sdX ((fr : Int) % 4))))), some (.int (iI ((sdY ((sd : Int) % 4)) - (sdY ((fr : Int) % 4))))), some (.int (iI 0)), some (.int (iI 0))]) (st' := [.ref 10, .int (iI (e : Int)), .ref 26]) rfl ?_
        refine wp_getf (v := .int (iI ((m 10) 3))) rfl rfl (S.cell 10 (nc rfl)) (by decide) rfl ?_
        have hr21 : -2147483648 ≤ ((m 10) 3) ∧ ((m 10) 3) < 2147483648 := S.rg 10 3 (nl rfl)
        refine wp_cs (As := [.ref 26, .int (iI (e : Int)), .int (iI ((m 10) 3))]) (rest := []) rfl rfl rfl rfl (Nat.le_of_ble_eq_true rfl) (Nat.le_of_ble_eq_true rfl) (c_put S (nc rfl) (n := 24) rfl (by decide) (e : Int) ((m 10) 3) (by omega) (by omega) (by omega) (by omega)) (fun r22 H22 q22 => ?_)
        obtain ⟨rfl, S⟩ := q22
        have S : ST H22 (up m 26 (ptn 24 (m 26) (e : Int) ((m 10) 3))) γ t := S
        show wp _ _ _ _ _ [] _ _
        refine wp_g (n := 1) (pc' := 125) (L' := [some (.ref 10), some (.int (iI (e : Int))), some (.int (iI (fr : Int))), some (.int (iI (sd : Int))), some (.int (iI ((sdX ((sd : Int) % 4)) - (sdX ((fr : Int) % 4))))), some (.int (iI ((sdY ((sd : Int) % 4)) - (sdY ((fr : Int) % 4))))), some (.int (iI 0)), some (.int (iI 0))]) (st' := [.ref 10]) rfl ?_
        refine wp_getf (v := .ref 20) rfl rfl (S.cell 10 (nc rfl)) (by decide) rfl ?_
        refine wp_g (n := 1) (pc' := 129) (L' := [some (.ref 10), some (.int (iI (e : Int))), some (.int (iI (fr : Int))), some (.int (iI (sd : Int))), some (.int (iI ((sdX ((sd : Int) % 4)) - (sdX ((fr : Int) % 4))))), some (.int (iI ((sdY ((sd : Int) % 4)) - (sdY ((fr : Int) % 4))))), some (.int (iI 0)), some (.int (iI 0))]) (st' := [.ref 10, .ref 20]) rfl ?_
        refine wp_getf (v := .int (iI ((m 10) 3))) rfl rfl (S.cell 10 (nc rfl)) (by decide) rfl ?_
        have hr23 : -2147483648 ≤ ((m 10) 3) ∧ ((m 10) 3) < 2147483648 := S.rg 10 3 (nl rfl)
        refine wp_g (n := 1) (pc' := 133) (L' := [some (.ref 10), some (.int (iI (e : Int))), some (.int (iI (fr : Int))), some (.int (iI (sd : Int))), some (.int (iI ((sdX ((sd : Int) % 4)) - (sdX ((fr : Int) % 4))))), some (.int (iI ((sdY ((sd : Int) % 4)) - (sdY ((fr : Int) % 4))))), some (.int (iI 0)), some (.int (iI 0))]) (st' := [.int (iI (e : Int)), .int (iI ((m 10) 3)), .ref 20]) rfl ?_
        refine wp_cs (As := [.ref 20, .int (iI ((m 10) 3)), .int (iI (e : Int))]) (rest := []) rfl rfl rfl rfl (Nat.le_of_ble_eq_true rfl) (Nat.le_of_ble_eq_true rfl) (c_put S (nc rfl) (n := 48) rfl (by decide) ((m 10) 3) (e : Int) (by omega) (by omega) (by omega) (by omega)) (fun r24 H24 q24 => ?_)
        obtain ⟨rfl, S⟩ := q24
        have S : ST H24 (up (up m 26 (ptn 24 (m 26) (e : Int) ((m 10) 3))) 20 (ptn 48 (m 20) ((m 10) 3) (e : Int))) γ t := S
        show wp _ _ _ _ _ [] _ _
        refine wp_g (n := 1) (pc' := 137) (L' := [some (.ref 10), some (.int (iI (e : Int))), some (.int (iI (fr : Int))), some (.int (iI (sd : Int))), some (.int (iI ((sdX ((sd : Int) % 4)) - (sdX ((fr : Int) % 4))))), some (.int (iI ((sdY ((sd : Int) % 4)) - (sdY ((fr : Int) % 4))))), some (.int (iI 0)), some (.int (iI 0))]) (st' := [.ref 10]) rfl ?_
        refine wp_getf (v := .ref 21) rfl rfl (S.cell 10 (nc rfl)) (by decide) rfl ?_
        refine wp_g (n := 1) (pc' := 141) (L' := [some (.ref 10), some (.int (iI (e : Int))), some (.int (iI (fr : Int))), some (.int (iI (sd : Int))), some (.int (iI ((sdX ((sd : Int) % 4)) - (sdX ((fr : Int) % 4))))), some (.int (iI ((sdY ((sd : Int) % 4)) - (sdY ((fr : Int) % 4))))), some (.int (iI 0)), some (.int (iI 0))]) (st' := [.ref 10, .ref 21]) rfl ?_
        refine wp_getf (v := .int (iI ((m 10) 3))) rfl rfl (S.cell 10 (nc rfl)) (by decide) rfl ?_
        have hr25 : -2147483648 ≤ ((m 10) 3) ∧ ((m 10) 3) < 2147483648 := S.rg 10 3 (nl rfl)
        refine wp_g (n := 1) (pc' := 145) (L' := [some (.ref 10), some (.int (iI (e : Int))), some (.int (iI (fr : Int))), some (.int (iI (sd : Int))), some (.int (iI ((sdX ((sd : Int) % 4)) - (sdX ((fr : Int) % 4))))), some (.int (iI ((sdY ((sd : Int) % 4)) - (sdY ((fr : Int) % 4))))), some (.int (iI 0)), some (.int (iI 0))]) (st' := [.ref 10, .int (iI ((m 10) 3)), .ref 21]) rfl ?_
        refine wp_getf (v := .int (iI ((m 10) 1))) rfl rfl (S.cell 10 (nc rfl)) (by decide) rfl ?_
        have hr26 : -2147483648 ≤ ((m 10) 1) ∧ ((m 10) 1) < 2147483648 := S.rg 10 1 (nl rfl)
        refine wp_cs (As := [.ref 21, .int (iI ((m 10) 3)), .int (iI ((m 10) 1))]) (rest := []) rfl rfl rfl rfl (Nat.le_of_ble_eq_true rfl) (Nat.le_of_ble_eq_true rfl) (c_put S (nc rfl) (n := 48) rfl (by decide) ((m 10) 3) ((m 10) 1) (by omega) (by omega) (by omega) (by omega)) (fun r27 H27 q27 => ?_)
        obtain ⟨rfl, S⟩ := q27
        have S : ST H27 (up (up (up m 26 (ptn 24 (m 26) (e : Int) ((m 10) 3))) 20 (ptn 48 (m 20) ((m 10) 3) (e : Int))) 21 (ptn 48 (m 21) ((m 10) 3) ((m 10) 1))) γ t := S
        show wp _ _ _ _ _ [] _ _
        refine wp_g (n := 1) (pc' := 152) (L' := [some (.ref 10), some (.int (iI (e : Int))), some (.int (iI (fr : Int))), some (.int (iI (sd : Int))), some (.int (iI ((sdX ((sd : Int) % 4)) - (sdX ((fr : Int) % 4))))), some (.int (iI ((sdY ((sd : Int) % 4)) - (sdY ((fr : Int) % 4))))), some (.int (iI 0)), some (.int (iI 0))]) (st' := [.ref 10]) rfl ?_
        refine wp_getf (v := .ref 22) rfl rfl (S.cell 10 (nc rfl)) (by decide) rfl ?_
        refine wp_g (n := 1) (pc' := 156) (L' := [some (.ref 10), some (.int (iI (e : Int))), some (.int (iI (fr : Int))), some (.int (iI (sd : Int))), some (.int (iI ((sdX ((sd : Int) % 4)) - (sdX ((fr : Int) % 4))))), some (.int (iI ((sdY ((sd : Int) % 4)) - (sdY ((fr : Int) % 4))))), some (.int (iI 0)), some (.int (iI 0))]) (st' := [.ref 10, .ref 22]) rfl ?_
        refine wp_getf (v := .int (iI ((m 10) 3))) rfl rfl (S.cell 10 (nc rfl)) (by decide) rfl ?_
        have hr28 : -2147483648 ≤ ((m 10) 3) ∧ ((m 10) 3) < 2147483648 := S.rg 10 3 (nl rfl)
        refine wp_g (n := 1) (pc' := 161) (L' := [some (.ref 10), some (.int (iI (e : Int))), some (.int (iI (fr : Int))), some (.int (iI (sd : Int))), some (.int (iI ((sdX ((sd : Int) % 4)) - (sdX ((fr : Int) % 4))))), some (.int (iI ((sdY ((sd : Int) % 4)) - (sdY ((fr : Int) % 4))))), some (.int (iI 0)), some (.int (iI 0))]) (st' := [.int (iI ((sdX ((sd : Int) % 4)) - (sdX ((fr : Int) % 4)))), .int (iI ((m 10) 3)), .ref 22]) rfl ?_
        refine wp_cs (As := [.ref 22, .int (iI ((m 10) 3)), .int (iI ((sdX ((sd : Int) % 4)) - (sdX ((fr : Int) % 4))))]) (rest := []) rfl rfl rfl rfl (Nat.le_of_ble_eq_true rfl) (Nat.le_of_ble_eq_true rfl) (c_put S (nc rfl) (n := 48) rfl (by decide) ((m 10) 3) ((sdX ((sd : Int) % 4)) - (sdX ((fr : Int) % 4))) (by omega) (by omega) (by omega) (by omega)) (fun r29 H29 q29 => ?_)
        obtain ⟨rfl, S⟩ := q29
        have S : ST H29 (up (up (up (up m 26 (ptn 24 (m 26) (e : Int) ((m 10) 3))) 20 (ptn 48 (m 20) ((m 10) 3) (e : Int))) 21 (ptn 48 (m 21) ((m 10) 3) ((m 10) 1))) 22 (ptn 48 (m 22) ((m 10) 3) ((sdX ((sd : Int) % 4)) - (sdX ((fr : Int) % 4))))) γ t := S
        show wp _ _ _ _ _ [] _ _
        refine wp_g (n := 1) (pc' := 165) (L' := [some (.ref 10), some (.int (iI (e : Int))), some (.int (iI (fr : Int))), some (.int (iI (sd : Int))), some (.int (iI ((sdX ((sd : Int) % 4)) - (sdX ((fr : Int) % 4))))), some (.int (iI ((sdY ((sd : Int) % 4)) - (sdY ((fr : Int) % 4))))), some (.int (iI 0)), some (.int (iI 0))]) (st' := [.ref 10]) rfl ?_
        refine wp_getf (v := .ref 23) rfl rfl (S.cell 10 (nc rfl)) (by decide) rfl ?_
        refine wp_g (n := 1) (pc' := 169) (L' := [some (.ref 10), some (.int (iI (e : Int))), some (.int (iI (fr : Int))), some (.int (iI (sd : Int))), some (.int (iI ((sdX ((sd : Int) % 4)) - (sdX ((fr : Int) % 4))))), some (.int (iI ((sdY ((sd : Int) % 4)) - (sdY ((fr : Int) % 4))))), some (.int (iI 0)), some (.int (iI 0))]) (st' := [.ref 10, .ref 23]) rfl ?_
        refine wp_getf (v := .int (iI ((m 10) 3))) rfl rfl (S.cell 10 (nc rfl)) (by decide) rfl ?_
        have hr30 : -2147483648 ≤ ((m 10) 3) ∧ ((m 10) 3) < 2147483648 := S.rg 10 3 (nl rfl)
        refine wp_g (n := 1) (pc' := 174) (L' := [some (.ref 10), some (.int (iI (e : Int))), some (.int (iI (fr : Int))), some (.int (iI (sd : Int))), some (.int (iI ((sdX ((sd : Int) % 4)) - (sdX ((fr : Int) % 4))))), some (.int (iI ((sdY ((sd : Int) % 4)) - (sdY ((fr : Int) % 4))))), some (.int (iI 0)), some (.int (iI 0))]) (st' := [.int (iI ((sdY ((sd : Int) % 4)) - (sdY ((fr : Int) % 4)))), .int (iI ((m 10) 3)), .ref 23]) rfl ?_
        refine wp_cs (As := [.ref 23, .int (iI ((m 10) 3)), .int (iI ((sdY ((sd : Int) % 4)) - (sdY ((fr : Int) % 4))))]) (rest := []) rfl rfl rfl rfl (Nat.le_of_ble_eq_true rfl) (Nat.le_of_ble_eq_true rfl) (c_put S (nc rfl) (n := 48) rfl (by decide) ((m 10) 3) ((sdY ((sd : Int) % 4)) - (sdY ((fr : Int) % 4))) (by omega) (by omega) (by omega) (by omega)) (fun r31 H31 q31 => ?_)
        obtain ⟨rfl, S⟩ := q31
        have S : ST H31 (up (up (up (up (up m 26 (ptn 24 (m 26) (e : Int) ((m 10) 3))) 20 (ptn 48 (m 20) ((m 10) 3) (e : Int))) 21 (ptn 48 (m 21) ((m 10) 3) ((m 10) 1))) 22 (ptn 48 (m 22) ((m 10) 3) ((sdX ((sd : Int) % 4)) - (sdX ((fr : Int) % 4))))) 23 (ptn 48 (m 23) ((m 10) 3) ((sdY ((sd : Int) % 4)) - (sdY ((fr : Int) % 4))))) γ t := S
        show wp _ _ _ _ _ [] _ _
        refine wp_g (n := 2) (pc' := 179) (L' := [some (.ref 10), some (.int (iI (e : Int))), some (.int (iI (fr : Int))), some (.int (iI (sd : Int))), some (.int (iI ((sdX ((sd : Int) % 4)) - (sdX ((fr : Int) % 4))))), some (.int (iI ((sdY ((sd : Int) % 4)) - (sdY ((fr : Int) % 4))))), some (.int (iI 0)), some (.int (iI 0))]) (st' := [.ref 10, .ref 10]) rfl ?_
        refine wp_getf (v := .int (iI ((m 10) 3))) rfl rfl (S.cell 10 (nc rfl)) (by decide) rfl ?_
        have hr32 : -2147483648 ≤ ((m 10) 3) ∧ ((m 10) 3) < 2147483648 := S.rg 10 3 (nl rfl)
        refine wp_g (n := 1) (pc' := 183) (L' := [some (.ref 10), some (.int (iI (e : Int))), some (.int (iI (fr : Int))), some (.int (iI (sd : Int))), some (.int (iI ((sdX ((sd : Int) % 4)) - (sdX ((fr : Int) % 4))))), some (.int (iI ((sdY ((sd : Int) % 4)) - (sdY ((fr : Int) % 4))))), some (.int (iI 0)), some (.int (iI 0))]) (st' := [.int (iI 1), .int (iI ((m 10) 3)), .ref 10]) rfl ?_
        refine wp_add rfl ?_
        refine wp_putI rfl rfl (S.cell 10 (nc rfl)) (Nat.le_of_ble_eq_true rfl) rfl (fun H33 hl33 hz33 hf33 => ?_)
        have S : ST H33 (up (up (up (up (up (up m 26 (ptn 24 (m 26) (e : Int) ((m 10) 3))) 20 (ptn 48 (m 20) ((m 10) 3) (e : Int))) 21 (ptn 48 (m 21) ((m 10) 3) ((m 10) 1))) 22 (ptn 48 (m 22) ((m 10) 3) ((sdX ((sd : Int) % 4)) - (sdX ((fr : Int) % 4))))) 23 (ptn 48 (m 23) ((m 10) 3) ((sdY ((sd : Int) % 4)) - (sdY ((fr : Int) % 4))))) 10 (up (m 10) 3 (((m 10) 3) + 1))) γ t := S.setI 10 (nc rfl) hl33 hz33 hf33 (by omega) (by omega)
        refine wp_vret rfl rfl ?_
        first
          | (exfalso; revert ho; simp only [c1, c4, c7, decide_true, decide_false] <;> decide)
          | (refine ⟨rfl, S.same_m ?_⟩
             rw [h1, h2, ptn_in he2, ptn_in hn, ptn_in hn, ptn_in hn, ptn_in hn]
             rfl)
    · have c4 : (((gbel R C e : Int) : Int) = 0) := Classical.not_not.mp c4
      refine wp_g (n := 2) (pc' := 66) (L' := [some (.ref 10), some (.int (iI (e : Int))), some (.int (iI (fr : Int))), some (.int (iI (sd : Int))), some (.int (iI ((sdX ((sd : Int) % 4)) - (sdX ((fr : Int) % 4))))), some (.int (iI ((sdY ((sd : Int) % 4)) - (sdY ((fr : Int) % 4))))), some (.int (iI 0)), none]) (st' := [.int (iI 1), .int (iI 0)]) rfl ?_
      refine wp_g (n := 1) (pc' := 73) (L' := [some (.ref 10), some (.int (iI (e : Int))), some (.int (iI (fr : Int))), some (.int (iI (sd : Int))), some (.int (iI ((sdX ((sd : Int) % 4)) - (sdX ((fr : Int) % 4))))), some (.int (iI ((sdY ((sd : Int) % 4)) - (sdY ((fr : Int) % 4))))), some (.int (iI 0)), none]) (st' := []) rfl ?_
      refine wp_g (n := 3) (pc' := 77) (L' := [some (.ref 10), some (.int (iI (e : Int))), some (.int (iI (fr : Int))), some (.int (iI (sd : Int))), some (.int (iI ((sdX ((sd : Int) % 4)) - (sdX ((fr : Int) % 4))))), some (.int (iI ((sdY ((sd : Int) % 4)) - (sdY ((fr : Int) % 4))))), some (.int (iI 0)), some (.int (iI 0))]) (st' := [.ref 10]) rfl ?_
      refine wp_getf (v := .ref 11) rfl rfl (S.cell 10 (nc rfl)) (by decide) rfl ?_
      refine wp_g (n := 1) (pc' := 81) (L' := [some (.ref 10), some (.int (iI (e : Int))), some (.int (iI (fr : Int))), some (.int (iI (sd : Int))), some (.int (iI ((sdX ((sd : Int) % 4)) - (sdX ((fr : Int) % 4))))), some (.int (iI ((sdY ((sd : Int) % 4)) - (sdY ((fr : Int) % 4))))), some (.int (iI 0)), some (.int (iI 0))]) (st' := [.int (iI (e : Int)), .ref 11]) rfl ?_
      refine wp_cv (As := [.int (iI (e : Int))]) (rest := []) rfl rfl (S.gq hγ (gi rfl)).obj (by decide) rfl rfl rfl (Nat.le_of_ble_eq_true rfl) (Nat.le_of_ble_eq_true rfl) (G_kindOfI (S.gq hγ (gi rfl)) (e : Int) (by omega) (by omega)) (fun r34 H34 q34 => ?_)
      obtain ⟨rfl, e34⟩ := q34
      rw [e34]
      show wp _ _ _ _ _ [.int (iI (kd e))] _ _
      have hk35 := ((S.gq hγ (gi rfl))).2.1 e (by omega)
      refine wp_g (n := 1) (pc' := 85) (L' := [some (.ref 10), some (.int (iI (e : Int))), some (.int (iI (fr : Int))), some (.int (iI (sd : Int))), some (.int (iI ((sdX ((sd : Int) % 4)) - (sdX ((fr : Int) % 4))))), some (.int (iI ((sdY ((sd : Int) % 4)) - (sdY ((fr : Int) % 4))))), some (.int (iI 0)), some (.int (iI 0))]) (st' := [.int (iI 1), .int (iI (kd e))]) rfl ?_
      refine wp_icmpI (a := (kd e)) (b := 1) rfl rfl (by omega) (by omega) (by omega) (by omega) (fun c36 => ?_) (fun c36 => ?_)
      · have c36 : (¬ ((kd e) : Int) = 1) := c36
        refine wp_g (n := 1) (pc' := 102) (L' := [some (.ref 10), some (.int (iI (e : Int))), some (.int (iI (fr : Int))), some (.int (iI (sd : Int))), some (.int (iI ((sdX ((sd : Int) % 4)) - (sdX ((fr : Int) % 4))))), some (.int (iI ((sdY ((sd : Int) % 4)) - (sdY ((fr : Int) % 4))))), some (.int (iI 0)), some (.int (iI 0))]) (st' := [.int (iI 0)]) rfl ?_
        refine wp_g (n := 1) (pc' := 112) (L' := [some (.ref 10), some (.int (iI (e : Int))), some (.int (iI (fr : Int))), some (.int (iI (sd : Int))), some (.int (iI ((sdX ((sd : Int) % 4)) - (sdX ((fr : Int) % 4))))), some (.int (iI ((sdY ((sd : Int) % 4)) - (sdY ((fr : Int) % 4))))), some (.int (iI 0)), some (.int (iI 0))]) (st' := []) rfl ?_
        refine wp_g (n := 1) (pc' := 113) (L' := [some (.ref 10), some (.int (iI (e : Int))), some (.int (iI (fr : Int))), some (.int (iI (sd : Int))), some (.int (iI ((sdX ((sd : Int) % 4)) - (sdX ((fr : Int) % 4))))), some (.int (iI ((sdY ((sd : Int) % 4)) - (sdY ((fr : Int) % 4))))), some (.int (iI 0)), some (.int (iI 0))]) (st' := [.ref 10]) rfl ?_
        refine wp_getf (v := .ref 26) rfl rfl (S.cell 10 (nc rfl)) (by decide) rfl ?_
        refine wp_g (n := 2) (pc' := 118) (L' := [some (.ref 10), some (.int (iI (e : Int))), some (.int (iI (fr : Int))), some (.int (iI (sd : Int))), some (.int (iI ((sdX ((sd : Int) % 4)) - (sdX ((fr : Int) % 4))))), some (.int (iI ((sdY ((sd : Int) % 4)) - (sdY ((fr : Int) % 4))))), some (.int (iI 0)), some (.int (iI 0))]) (st' := [.ref 10, .int (iI (e : Int)), .ref 26]) rfl ?_
        refine wp_getf (v := .int (iI ((m 10) 3))) rfl rfl (S.cell 10 (nc rfl)) (by decide) rfl ?_
        have hr37 : -2147483648 ≤ ((m 10) 3) ∧ ((m 10) 3) < 2147483648 := S.rg 10 3 (nl rfl)
        refine wp_cs (As := [.ref 26, .int (iI (e : Int)), .int (iI ((m 10) 3))]) (rest := []) rfl rfl rfl rfl (Nat.le_of_ble_eq_true rfl) (Nat.le_of_ble_eq_true rfl) (c_put S (nc rfl) (n := 24) rfl (by decide) (e : Int) ((m 10) 3) (by omega) (by omega) (by omega) (by omega)) (fun r38 H38 q38 => ?_)
        obtain ⟨rfl, S⟩ := q38
        have S : ST H38 (up m 26 (ptn 24 (m 26) (e : Int) ((m 10) 3))) γ t := S
        show wp _ _ _ _ _ [] _ _
        refine wp_g (n := 1) (pc' := 125) (L' := [some (.ref 10), some (.int (iI (e : Int))), some (.int (iI (fr : Int))), some (.int (iI (sd : Int))), some (.int (iI ((sdX ((sd : Int) % 4)) - (sdX ((fr : Int) % 4))))), some (.int (iI ((sdY ((sd : Int) % 4)) - (sdY ((fr : Int) % 4))))), some (.int (iI 0)), some (.int (iI 0))]) (st' := [.ref 10]) rfl ?_
        refine wp_getf (v := .ref 20) rfl rfl (S.cell 10 (nc rfl)) (by decide) rfl ?_
        refine wp_g (n := 1) (pc' := 129) (L' := [some (.ref 10), some (.int (iI (e : Int))), some (.int (iI (fr : Int))), some (.int (iI (sd : Int))), some (.int (iI ((sdX ((sd : Int) % 4)) - (sdX ((fr : Int) % 4))))), some (.int (iI ((sdY ((sd : Int) % 4)) - (sdY ((fr : Int) % 4))))), some (.int (iI 0)), some (.int (iI 0))]) (st' := [.ref 10, .ref 20]) rfl ?_
        refine wp_getf (v := .int (iI ((m 10) 3))) rfl rfl (S.cell 10 (nc rfl)) (by decide) rfl ?_
        have hr39 : -2147483648 ≤ ((m 10) 3) ∧ ((m 10) 3) < 2147483648 := S.rg 10 3 (nl rfl)
        refine wp_g (n := 1) (pc' := 133) (L' := [some (.ref 10), some (.int (iI (e : Int))), some (.int (iI (fr : Int))), some (.int (iI (sd : Int))), some (.int (iI ((sdX ((sd : Int) % 4)) - (sdX ((fr : Int) % 4))))), some (.int (iI ((sdY ((sd : Int) % 4)) - (sdY ((fr : Int) % 4))))), some (.int (iI 0)), some (.int (iI 0))]) (st' := [.int (iI (e : Int)), .int (iI ((m 10) 3)), .ref 20]) rfl ?_
        refine wp_cs (As := [.ref 20, .int (iI ((m 10) 3)), .int (iI (e : Int))]) (rest := []) rfl rfl rfl rfl (Nat.le_of_ble_eq_true rfl) (Nat.le_of_ble_eq_true rfl) (c_put S (nc rfl) (n := 48) rfl (by decide) ((m 10) 3) (e : Int) (by omega) (by omega) (by omega) (by omega)) (fun r40 H40 q40 => ?_)
        obtain ⟨rfl, S⟩ := q40
        have S : ST H40 (up (up m 26 (ptn 24 (m 26) (e : Int) ((m 10) 3))) 20 (ptn 48 (m 20) ((m 10) 3) (e : Int))) γ t := S
        show wp _ _ _ _ _ [] _ _
        refine wp_g (n := 1) (pc' := 137) (L' := [some (.ref 10), some (.int (iI (e : Int))), some (.int (iI (fr : Int))), some (.int (iI (sd : Int))), some (.int (iI ((sdX ((sd : Int) % 4)) - (sdX ((fr : Int) % 4))))), some (.int (iI ((sdY ((sd : Int) % 4)) - (sdY ((fr : Int) % 4))))), some (.int (iI 0)), some (.int (iI 0))]) (st' := [.ref 10]) rfl ?_
        refine wp_getf (v := .ref 21) rfl rfl (S.cell 10 (nc rfl)) (by decide) rfl ?_
        refine wp_g (n := 1) (pc' := 141) (L' := [some (.ref 10), some (.int (iI (e : Int))), some (.int (iI (fr : Int))), some (.int (iI (sd : Int))), some (.int (iI ((sdX ((sd : Int) % 4)) - (sdX ((fr : Int) % 4))))), some (.int (iI ((sdY ((sd : Int) % 4)) - (sdY ((fr : Int) % 4))))), some (.int (iI 0)), some (.int (iI 0))]) (st' := [.ref 10, .ref 21]) rfl ?_
        refine wp_getf (v := .int (iI ((m 10) 3))) rfl rfl (S.cell 10 (nc rfl)) (by decide) rfl ?_
        have hr41 : -2147483648 ≤ ((m 10) 3) ∧ ((m 10) 3) < 2147483648 := S.rg 10 3 (nl rfl)
        refine wp_g (n := 1) (pc' := 145) (L' := [some (.ref 10), some (.int (iI (e : Int))), some (.int (iI (fr : Int))), some (.int (iI (sd : Int))), some (.int (iI ((sdX ((sd : Int) % 4)) - (sdX ((fr : Int) % 4))))), some (.int (iI ((sdY ((sd : Int) % 4)) - (sdY ((fr : Int) % 4))))), some (.int (iI 0)), some (.int (iI 0))]) (st' := [.ref 10, .int (iI ((m 10) 3)), .ref 21]) rfl ?_
        refine wp_getf (v := .int (iI ((m 10) 1))) rfl rfl (S.cell 10 (nc rfl)) (by decide) rfl ?_
        have hr42 : -2147483648 ≤ ((m 10) 1) ∧ ((m 10) 1) < 2147483648 := S.rg 10 1 (nl rfl)
        refine wp_cs (As := [.ref 21, .int (iI ((m 10) 3)), .int (iI ((m 10) 1))]) (rest := []) rfl rfl rfl rfl (Nat.le_of_ble_eq_true rfl) (Nat.le_of_ble_eq_true rfl) (c_put S (nc rfl) (n := 48) rfl (by decide) ((m 10) 3) ((m 10) 1) (by omega) (by omega) (by omega) (by omega)) (fun r43 H43 q43 => ?_)
        obtain ⟨rfl, S⟩ := q43
        have S : ST H43 (up (up (up m 26 (ptn 24 (m 26) (e : Int) ((m 10) 3))) 20 (ptn 48 (m 20) ((m 10) 3) (e : Int))) 21 (ptn 48 (m 21) ((m 10) 3) ((m 10) 1))) γ t := S
        show wp _ _ _ _ _ [] _ _
        refine wp_g (n := 1) (pc' := 152) (L' := [some (.ref 10), some (.int (iI (e : Int))), some (.int (iI (fr : Int))), some (.int (iI (sd : Int))), some (.int (iI ((sdX ((sd : Int) % 4)) - (sdX ((fr : Int) % 4))))), some (.int (iI ((sdY ((sd : Int) % 4)) - (sdY ((fr : Int) % 4))))), some (.int (iI 0)), some (.int (iI 0))]) (st' := [.ref 10]) rfl ?_
        refine wp_getf (v := .ref 22) rfl rfl (S.cell 10 (nc rfl)) (by decide) rfl ?_
        refine wp_g (n := 1) (pc' := 156) (L' := [some (.ref 10), some (.int (iI (e : Int))), some (.int (iI (fr : Int))), some (.int (iI (sd : Int))), some (.int (iI ((sdX ((sd : Int) % 4)) - (sdX ((fr : Int) % 4))))), some (.int (iI ((sdY ((sd : Int) % 4)) - (sdY ((fr : Int) % 4))))), some (.int (iI 0)), some (.int (iI 0))]) (st' := [.ref 10, .ref 22]) rfl ?_
        refine wp_getf (v := .int (iI ((m 10) 3))) rfl rfl (S.cell 10 (nc rfl)) (by decide) rfl ?_
        have hr44 : -2147483648 ≤ ((m 10) 3) ∧ ((m 10) 3) < 2147483648 := S.rg 10 3 (nl rfl)
        refine wp_g (n := 1) (pc' := 161) (L' := [some (.ref 10), some (.int (iI (e : Int))), some (.int (iI (fr : Int))), some (.int (iI (sd : Int))), some (.int (iI ((sdX ((sd : Int) % 4)) - (sdX ((fr : Int) % 4))))), some (.int (iI ((sdY ((sd : Int) % 4)) - (sdY ((fr : Int) % 4))))), some (.int (iI 0)), some (.int (iI 0))]) (st' := [.int (iI ((sdX ((sd : Int) % 4)) - (sdX ((fr : Int) % 4)))), .int (iI ((m 10) 3)), .ref 22]) rfl ?_
        refine wp_cs (As := [.ref 22, .int (iI ((m 10) 3)), .int (iI ((sdX ((sd : Int) % 4)) - (sdX ((fr : Int) % 4))))]) (rest := []) rfl rfl rfl rfl (Nat.le_of_ble_eq_true rfl) (Nat.le_of_ble_eq_true rfl) (c_put S (nc rfl) (n := 48) rfl (by decide) ((m 10) 3) ((sdX ((sd : Int) % 4)) - (sdX ((fr : Int) % 4))) (by omega) (by omega) (by omega) (by omega)) (fun r45 H45 q45 => ?_)
        obtain ⟨rfl, S⟩ := q45
        have S : ST H45 (up (up (up (up m 26 (ptn 24 (m 26) (e : Int) ((m 10) 3))) 20 (ptn 48 (m 20) ((m 10) 3) (e : Int))) 21 (ptn 48 (m 21) ((m 10) 3) ((m 10) 1))) 22 (ptn 48 (m 22) ((m 10) 3) ((sdX ((sd : Int) % 4)) - (sdX ((fr : Int) % 4))))) γ t := S
        show wp _ _ _ _ _ [] _ _
        refine wp_g (n := 1) (pc' := 165) (L' := [some (.ref 10), some (.int (iI (e : Int))), some (.int (iI (fr : Int))), some (.int (iI (sd : Int))), some (.int (iI ((sdX ((sd : Int) % 4)) - (sdX ((fr : Int) % 4))))), some (.int (iI ((sdY ((sd : Int) % 4)) - (sdY ((fr : Int) % 4))))), some (.int (iI 0)), some (.int (iI 0))]) (st' := [.ref 10]) rfl ?_
        refine wp_getf (v := .ref 23) rfl rfl (S.cell 10 (nc rfl)) (by decide) rfl ?_
        refine wp_g (n := 1) (pc' := 169) (L' := [some (.ref 10), some (.int (iI (e : Int))), some (.int (iI (fr : Int))), some (.int (iI (sd : Int))), some (.int (iI ((sdX ((sd : Int) % 4)) - (sdX ((fr : Int) % 4))))), some (.int (iI ((sdY ((sd : Int) % 4)) - (sdY ((fr : Int) % 4))))), some (.int (iI 0)), some (.int (iI 0))]) (st' := [.ref 10, .ref 23]) rfl ?_
        refine wp_getf (v := .int (iI ((m 10) 3))) rfl rfl (S.cell 10 (nc rfl)) (by decide) rfl ?_
        have hr46 : -2147483648 ≤ ((m 10) 3) ∧ ((m 10) 3) < 2147483648 := S.rg 10 3 (nl rfl)
        refine wp_g (n := 1) (pc' := 174) (L' := [some (.ref 10), some (.int (iI (e : Int))), some (.int (iI (fr : Int))), some (.int (iI (sd : Int))), some (.int (iI ((sdX ((sd : Int) % 4)) - (sdX ((fr : Int) % 4))))), some (.int (iI ((sdY ((sd : Int) % 4)) - (sdY ((fr : Int) % 4))))), some (.int (iI 0)), some (.int (iI 0))]) (st' := [.int (iI ((sdY ((sd : Int) % 4)) - (sdY ((fr : Int) % 4)))), .int (iI ((m 10) 3)), .ref 23]) rfl ?_
        refine wp_cs (As := [.ref 23, .int (iI ((m 10) 3)), .int (iI ((sdY ((sd : Int) % 4)) - (sdY ((fr : Int) % 4))))]) (rest := []) rfl rfl rfl rfl (Nat.le_of_ble_eq_true rfl) (Nat.le_of_ble_eq_true rfl) (c_put S (nc rfl) (n := 48) rfl (by decide) ((m 10) 3) ((sdY ((sd : Int) % 4)) - (sdY ((fr : Int) % 4))) (by omega) (by omega) (by omega) (by omega)) (fun r47 H47 q47 => ?_)
        obtain ⟨rfl, S⟩ := q47
        have S : ST H47 (up (up (up (up (up m 26 (ptn 24 (m 26) (e : Int) ((m 10) 3))) 20 (ptn 48 (m 20) ((m 10) 3) (e : Int))) 21 (ptn 48 (m 21) ((m 10) 3) ((m 10) 1))) 22 (ptn 48 (m 22) ((m 10) 3) ((sdX ((sd : Int) % 4)) - (sdX ((fr : Int) % 4))))) 23 (ptn 48 (m 23) ((m 10) 3) ((sdY ((sd : Int) % 4)) - (sdY ((fr : Int) % 4))))) γ t := S
        show wp _ _ _ _ _ [] _ _
        refine wp_g (n := 2) (pc' := 179) (L' := [some (.ref 10), some (.int (iI (e : Int))), some (.int (iI (fr : Int))), some (.int (iI (sd : Int))), some (.int (iI ((sdX ((sd : Int) % 4)) - (sdX ((fr : Int) % 4))))), some (.int (iI ((sdY ((sd : Int) % 4)) - (sdY ((fr : Int) % 4))))), some (.int (iI 0)), some (.int (iI 0))]) (st' := [.ref 10, .ref 10]) rfl ?_
        refine wp_getf (v := .int (iI ((m 10) 3))) rfl rfl (S.cell 10 (nc rfl)) (by decide) rfl ?_
        have hr48 : -2147483648 ≤ ((m 10) 3) ∧ ((m 10) 3) < 2147483648 := S.rg 10 3 (nl rfl)
        refine wp_g (n := 1) (pc' := 183) (L' := [some (.ref 10), some (.int (iI (e : Int))), some (.int (iI (fr : Int))), some (.int (iI (sd : Int))), some (.int (iI ((sdX ((sd : Int) % 4)) - (sdX ((fr : Int) % 4))))), some (.int (iI ((sdY ((sd : Int) % 4)) - (sdY ((fr : Int) % 4))))), some (.int (iI 0)), some (.int (iI 0))]) (st' := [.int (iI 1), .int (iI ((m 10) 3)), .ref 10]) rfl ?_
        refine wp_add rfl ?_
        refine wp_putI rfl rfl (S.cell 10 (nc rfl)) (Nat.le_of_ble_eq_true rfl) rfl (fun H49 hl49 hz49 hf49 => ?_)
        have S : ST H49 (up (up (up (up (up (up m 26 (ptn 24 (m 26) (e : Int) ((m 10) 3))) 20 (ptn 48 (m 20) ((m 10) 3) (e : Int))) 21 (ptn 48 (m 21) ((m 10) 3) ((m 10) 1))) 22 (ptn 48 (m 22) ((m 10) 3) ((sdX ((sd : Int) % 4)) - (sdX ((fr : Int) % 4))))) 23 (ptn 48 (m 23) ((m 10) 3) ((sdY ((sd : Int) % 4)) - (sdY ((fr : Int) % 4))))) 10 (up (m 10) 3 (((m 10) 3) + 1))) γ t := S.setI 10 (nc rfl) hl49 hz49 hf49 (by omega) (by omega)
        refine wp_vret rfl rfl ?_
        first
          | (exfalso; revert ho; simp only [c1, c4, c36, decide_true, decide_false] <;> decide)
          | (refine ⟨rfl, S.same_m ?_⟩
             rw [h1, h2, ptn_in he2, ptn_in hn, ptn_in hn, ptn_in hn, ptn_in hn]
             rfl)
      · have c36 : (((kd e) : Int) = 1) := Classical.not_not.mp c36
        refine wp_g (n := 1) (pc' := 90) (L' := [some (.ref 10), some (.int (iI (e : Int))), some (.int (iI (fr : Int))), some (.int (iI (sd : Int))), some (.int (iI ((sdX ((sd : Int) % 4)) - (sdX ((fr : Int) % 4))))), some (.int (iI ((sdY ((sd : Int) % 4)) - (sdY ((fr : Int) % 4))))), some (.int (iI 0)), some (.int (iI 0))]) (st' := [.int (iI 0)]) rfl ?_
        refine wp_g (n := 1) (pc' := 93) (L' := [some (.ref 10), some (.int (iI (e : Int))), some (.int (iI (fr : Int))), some (.int (iI (sd : Int))), some (.int (iI ((sdX ((sd : Int) % 4)) - (sdX ((fr : Int) % 4))))), some (.int (iI ((sdY ((sd : Int) % 4)) - (sdY ((fr : Int) % 4))))), some (.int (iI 0)), some (.int (iI 0))]) (st' := []) rfl ?_
        refine wp_g (n := 4) (pc' := 102) (L' := [some (.ref 10), some (.int (iI (e : Int))), some (.int (iI (fr : Int))), some (.int (iI (sd : Int))), some (.int (iI ((sdX ((sd : Int) % 4)) - (sdX ((fr : Int) % 4))))), some (.int (iI ((sdY ((sd : Int) % 4)) - (sdY ((fr : Int) % 4))))), some (.int (iI 0)), some (.int (iI 1))]) (st' := [.int (iI 1)]) rfl ?_
        refine wp_g (n := 1) (pc' := 105) (L' := [some (.ref 10), some (.int (iI (e : Int))), some (.int (iI (fr : Int))), some (.int (iI (sd : Int))), some (.int (iI ((sdX ((sd : Int) % 4)) - (sdX ((fr : Int) % 4))))), some (.int (iI ((sdY ((sd : Int) % 4)) - (sdY ((fr : Int) % 4))))), some (.int (iI 0)), some (.int (iI 1))]) (st' := []) rfl ?_
        refine wp_g (n := 1) (pc' := 106) (L' := [some (.ref 10), some (.int (iI (e : Int))), some (.int (iI (fr : Int))), some (.int (iI (sd : Int))), some (.int (iI ((sdX ((sd : Int) % 4)) - (sdX ((fr : Int) % 4))))), some (.int (iI ((sdY ((sd : Int) % 4)) - (sdY ((fr : Int) % 4))))), some (.int (iI 0)), some (.int (iI 1))]) (st' := [.ref 10]) rfl ?_
        refine wp_getf (v := .ref 25) rfl rfl (S.cell 10 (nc rfl)) (by decide) rfl ?_
        refine wp_g (n := 3) (pc' := 118) (L' := [some (.ref 10), some (.int (iI (e : Int))), some (.int (iI (fr : Int))), some (.int (iI (sd : Int))), some (.int (iI ((sdX ((sd : Int) % 4)) - (sdX ((fr : Int) % 4))))), some (.int (iI ((sdY ((sd : Int) % 4)) - (sdY ((fr : Int) % 4))))), some (.int (iI 0)), some (.int (iI 1))]) (st' := [.ref 10, .int (iI (e : Int)), .ref 25]) rfl ?_
        refine wp_getf (v := .int (iI ((m 10) 3))) rfl rfl (S.cell 10 (nc rfl)) (by decide) rfl ?_
        have hr50 : -2147483648 ≤ ((m 10) 3) ∧ ((m 10) 3) < 2147483648 := S.rg 10 3 (nl rfl)
        refine wp_cs (As := [.ref 25, .int (iI (e : Int)), .int (iI ((m 10) 3))]) (rest := []) rfl rfl rfl rfl (Nat.le_of_ble_eq_true rfl) (Nat.le_of_ble_eq_true rfl) (c_put S (nc rfl) (n := 24) rfl (by decide) (e : Int) ((m 10) 3) (by omega) (by omega) (by omega) (by omega)) (fun r51 H51 q51 => ?_)
        obtain ⟨rfl, S⟩ := q51
        have S : ST H51 (up m 25 (ptn 24 (m 25) (e : Int) ((m 10) 3))) γ t := S
        show wp _ _ _ _ _ [] _ _
        refine wp_g (n := 1) (pc' := 125) (L' := [some (.ref 10), some (.int (iI (e : Int))), some (.int (iI (fr : Int))), some (.int (iI (sd : Int))), some (.int (iI ((sdX ((sd : Int) % 4)) - (sdX ((fr : Int) % 4))))), some (.int (iI ((sdY ((sd : Int) % 4)) - (sdY ((fr : Int) % 4))))), some (.int (iI 0)), some (.int (iI 1))]) (st' := [.ref 10]) rfl ?_
        refine wp_getf (v := .ref 20) rfl rfl (S.cell 10 (nc rfl)) (by decide) rfl ?_
        refine wp_g (n := 1) (pc' := 129) (L' := [some (.ref 10), some (.int (iI (e : Int))), some (.int (iI (fr : Int))), some (.int (iI (sd : Int))), some (.int (iI ((sdX ((sd : Int) % 4)) - (sdX ((fr : Int) % 4))))), some (.int (iI ((sdY ((sd : Int) % 4)) - (sdY ((fr : Int) % 4))))), some (.int (iI 0)), some (.int (iI 1))]) (st' := [.ref 10, .ref 20]) rfl ?_
        refine wp_getf (v := .int (iI ((m 10) 3))) rfl rfl (S.cell 10 (nc rfl)) (by decide) rfl ?_
        have hr52 : -2147483648 ≤ ((m 10) 3) ∧ ((m 10) 3) < 2147483648 := S.rg 10 3 (nl rfl)
        refine wp_g (n := 1) (pc' := 133) (L' := [some (.ref 10), some (.int (iI (e : Int))), some (.int (iI (fr : Int))), some (.int (iI (sd : Int))), some (.int (iI ((sdX ((sd : Int) % 4)) - (sdX ((fr : Int) % 4))))), some (.int (iI ((sdY ((sd : Int) % 4)) - (sdY ((fr : Int) % 4))))), some (.int (iI 0)), some (.int (iI 1))]) (st' := [.int (iI (e : Int)), .int (iI ((m 10) 3)), .ref 20]) rfl ?_
        refine wp_cs (As := [.ref 20, .int (iI ((m 10) 3)), .int (iI (e : Int))]) (rest := []) rfl rfl rfl rfl (Nat.le_of_ble_eq_true rfl) (Nat.le_of_ble_eq_true rfl) (c_put S (nc rfl) (n := 48) rfl (by decide) ((m 10) 3) (e : Int) (by omega) (by omega) (by omega) (by omega)) (fun r53 H53 q53 => ?_)
        obtain ⟨rfl, S⟩ := q53
        have S : ST H53 (up (up m 25 (ptn 24 (m 25) (e : Int) ((m 10) 3))) 20 (ptn 48 (m 20) ((m 10) 3) (e : Int))) γ t := S
        show wp _ _ _ _ _ [] _ _
        refine wp_g (n := 1) (pc' := 137) (L' := [some (.ref 10), some (.int (iI (e : Int))), some (.int (iI (fr : Int))), some (.int (iI (sd : Int))), some (.int (iI ((sdX ((sd : Int) % 4)) - (sdX ((fr : Int) % 4))))), some (.int (iI ((sdY ((sd : Int) % 4)) - (sdY ((fr : Int) % 4))))), some (.int (iI 0)), some (.int (iI 1))]) (st' := [.ref 10]) rfl ?_
        refine wp_getf (v := .ref 21) rfl rfl (S.cell 10 (nc rfl)) (by decide) rfl ?_
        refine wp_g (n := 1) (pc' := 141) (L' := [some (.ref 10), some (.int (iI (e : Int))), some (.int (iI (fr : Int))), some (.int (iI (sd : Int))), some (.int (iI ((sdX ((sd : Int) % 4)) - (sdX ((fr : Int) % 4))))), some (.int (iI ((sdY ((sd : Int) % 4)) - (sdY ((fr : Int) % 4))))), some (.int (iI 0)), some (.int (iI 1))]) (st' := [.ref 10, .ref 21]) rfl ?_
        refine wp_getf (v := .int (iI ((m 10) 3))) rfl rfl (S.cell 10 (nc rfl)) (by decide) rfl ?_
        have hr54 : -2147483648 ≤ ((m 10) 3) ∧ ((m 10) 3) < 2147483648 := S.rg 10 3 (nl rfl)
        refine wp_g (n := 1) (pc' := 145) (L' := [some (.ref 10), some (.int (iI (e : Int))), some (.int (iI (fr : Int))), some (.int (iI (sd : Int))), some (.int (iI ((sdX ((sd : Int) % 4)) - (sdX ((fr : Int) % 4))))), some (.int (iI ((sdY ((sd : Int) % 4)) - (sdY ((fr : Int) % 4))))), some (.int (iI 0)), some (.int (iI 1))]) (st' := [.ref 10, .int (iI ((m 10) 3)), .ref 21]) rfl ?_
        refine wp_getf (v := .int (iI ((m 10) 1))) rfl rfl (S.cell 10 (nc rfl)) (by decide) rfl ?_
        have hr55 : -2147483648 ≤ ((m 10) 1) ∧ ((m 10) 1) < 2147483648 := S.rg 10 1 (nl rfl)
        refine wp_cs (As := [.ref 21, .int (iI ((m 10) 3)), .int (iI ((m 10) 1))]) (rest := []) rfl rfl rfl rfl (Nat.le_of_ble_eq_true rfl) (Nat.le_of_ble_eq_true rfl) (c_put S (nc rfl) (n := 48) rfl (by decide) ((m 10) 3) ((m 10) 1) (by omega) (by omega) (by omega) (by omega)) (fun r56 H56 q56 => ?_)
        obtain ⟨rfl, S⟩ := q56
        have S : ST H56 (up (up (up m 25 (ptn 24 (m 25) (e : Int) ((m 10) 3))) 20 (ptn 48 (m 20) ((m 10) 3) (e : Int))) 21 (ptn 48 (m 21) ((m 10) 3) ((m 10) 1))) γ t := S
        show wp _ _ _ _ _ [] _ _
        refine wp_g (n := 1) (pc' := 152) (L' := [some (.ref 10), some (.int (iI (e : Int))), some (.int (iI (fr : Int))), some (.int (iI (sd : Int))), some (.int (iI ((sdX ((sd : Int) % 4)) - (sdX ((fr : Int) % 4))))), some (.int (iI ((sdY ((sd : Int) % 4)) - (sdY ((fr : Int) % 4))))), some (.int (iI 0)), some (.int (iI 1))]) (st' := [.ref 10]) rfl ?_
        refine wp_getf (v := .ref 22) rfl rfl (S.cell 10 (nc rfl)) (by decide) rfl ?_
        refine wp_g (n := 1) (pc' := 156) (L' := [some (.ref 10), some (.int (iI (e : Int))), some (.int (iI (fr : Int))), some (.int (iI (sd : Int))), some (.int (iI ((sdX ((sd : Int) % 4)) - (sdX ((fr : Int) % 4))))), some (.int (iI ((sdY ((sd : Int) % 4)) - (sdY ((fr : Int) % 4))))), some (.int (iI 0)), some (.int (iI 1))]) (st' := [.ref 10, .ref 22]) rfl ?_
        refine wp_getf (v := .int (iI ((m 10) 3))) rfl rfl (S.cell 10 (nc rfl)) (by decide) rfl ?_
        have hr57 : -2147483648 ≤ ((m 10) 3) ∧ ((m 10) 3) < 2147483648 := S.rg 10 3 (nl rfl)
        refine wp_g (n := 1) (pc' := 161) (L' := [some (.ref 10), some (.int (iI (e : Int))), some (.int (iI (fr : Int))), some (.int (iI (sd : Int))), some (.int (iI ((sdX ((sd : Int) % 4)) - (sdX ((fr : Int) % 4))))), some (.int (iI ((sdY ((sd : Int) % 4)) - (sdY ((fr : Int) % 4))))), some (.int (iI 0)), some (.int (iI 1))]) (st' := [.int (iI ((sdX ((sd : Int) % 4)) - (sdX ((fr : Int) % 4)))), .int (iI ((m 10) 3)), .ref 22]) rfl ?_
        refine wp_cs (As := [.ref 22, .int (iI ((m 10) 3)), .int (iI ((sdX ((sd : Int) % 4)) - (sdX ((fr : Int) % 4))))]) (rest := []) rfl rfl rfl rfl (Nat.le_of_ble_eq_true rfl) (Nat.le_of_ble_eq_true rfl) (c_put S (nc rfl) (n := 48) rfl (by decide) ((m 10) 3) ((sdX ((sd : Int) % 4)) - (sdX ((fr : Int) % 4))) (by omega) (by omega) (by omega) (by omega)) (fun r58 H58 q58 => ?_)
        obtain ⟨rfl, S⟩ := q58
        have S : ST H58 (up (up (up (up m 25 (ptn 24 (m 25) (e : Int) ((m 10) 3))) 20 (ptn 48 (m 20) ((m 10) 3) (e : Int))) 21 (ptn 48 (m 21) ((m 10) 3) ((m 10) 1))) 22 (ptn 48 (m 22) ((m 10) 3) ((sdX ((sd : Int) % 4)) - (sdX ((fr : Int) % 4))))) γ t := S
        show wp _ _ _ _ _ [] _ _
        refine wp_g (n := 1) (pc' := 165) (L' := [some (.ref 10), some (.int (iI (e : Int))), some (.int (iI (fr : Int))), some (.int (iI (sd : Int))), some (.int (iI ((sdX ((sd : Int) % 4)) - (sdX ((fr : Int) % 4))))), some (.int (iI ((sdY ((sd : Int) % 4)) - (sdY ((fr : Int) % 4))))), some (.int (iI 0)), some (.int (iI 1))]) (st' := [.ref 10]) rfl ?_
        refine wp_getf (v := .ref 23) rfl rfl (S.cell 10 (nc rfl)) (by decide) rfl ?_
        refine wp_g (n := 1) (pc' := 169) (L' := [some (.ref 10), some (.int (iI (e : Int))), some (.int (iI (fr : Int))), some (.int (iI (sd : Int))), some (.int (iI ((sdX ((sd : Int) % 4)) - (sdX ((fr : Int) % 4))))), some (.int (iI ((sdY ((sd : Int) % 4)) - (sdY ((fr : Int) % 4))))), some (.int (iI 0)), some (.int (iI 1))]) (st' := [.ref 10, .ref 23]) rfl ?_
        refine wp_getf (v := .int (iI ((m 10) 3))) rfl rfl (S.cell 10 (nc rfl)) (by decide) rfl ?_
        have hr59 : -2147483648 ≤ ((m 10) 3) ∧ ((m 10) 3) < 2147483648 := S.rg 10 3 (nl rfl)
        refine wp_g (n := 1) (pc' := 174) (L' := [some (.ref 10), some (.int (iI (e : Int))), some (.int (iI (fr : Int))), some (.int (iI (sd : Int))), some (.int (iI ((sdX ((sd : Int) % 4)) - (sdX ((fr : Int) % 4))))), some (.int (iI ((sdY ((sd : Int) % 4)) - (sdY ((fr : Int) % 4))))), some (.int (iI 0)), some (.int (iI 1))]) (st' := [.int (iI ((sdY ((sd : Int) % 4)) - (sdY ((fr : Int) % 4)))), .int (iI ((m 10) 3)), .ref 23]) rfl ?_
        refine wp_cs (As := [.ref 23, .int (iI ((m 10) 3)), .int (iI ((sdY ((sd : Int) % 4)) - (sdY ((fr : Int) % 4))))]) (rest := []) rfl rfl rfl rfl (Nat.le_of_ble_eq_true rfl) (Nat.le_of_ble_eq_true rfl) (c_put S (nc rfl) (n := 48) rfl (by decide) ((m 10) 3) ((sdY ((sd : Int) % 4)) - (sdY ((fr : Int) % 4))) (by omega) (by omega) (by omega) (by omega)) (fun r60 H60 q60 => ?_)
        obtain ⟨rfl, S⟩ := q60
        have S : ST H60 (up (up (up (up (up m 25 (ptn 24 (m 25) (e : Int) ((m 10) 3))) 20 (ptn 48 (m 20) ((m 10) 3) (e : Int))) 21 (ptn 48 (m 21) ((m 10) 3) ((m 10) 1))) 22 (ptn 48 (m 22) ((m 10) 3) ((sdX ((sd : Int) % 4)) - (sdX ((fr : Int) % 4))))) 23 (ptn 48 (m 23) ((m 10) 3) ((sdY ((sd : Int) % 4)) - (sdY ((fr : Int) % 4))))) γ t := S
        show wp _ _ _ _ _ [] _ _
        refine wp_g (n := 2) (pc' := 179) (L' := [some (.ref 10), some (.int (iI (e : Int))), some (.int (iI (fr : Int))), some (.int (iI (sd : Int))), some (.int (iI ((sdX ((sd : Int) % 4)) - (sdX ((fr : Int) % 4))))), some (.int (iI ((sdY ((sd : Int) % 4)) - (sdY ((fr : Int) % 4))))), some (.int (iI 0)), some (.int (iI 1))]) (st' := [.ref 10, .ref 10]) rfl ?_
        refine wp_getf (v := .int (iI ((m 10) 3))) rfl rfl (S.cell 10 (nc rfl)) (by decide) rfl ?_
        have hr61 : -2147483648 ≤ ((m 10) 3) ∧ ((m 10) 3) < 2147483648 := S.rg 10 3 (nl rfl)
        refine wp_g (n := 1) (pc' := 183) (L' := [some (.ref 10), some (.int (iI (e : Int))), some (.int (iI (fr : Int))), some (.int (iI (sd : Int))), some (.int (iI ((sdX ((sd : Int) % 4)) - (sdX ((fr : Int) % 4))))), some (.int (iI ((sdY ((sd : Int) % 4)) - (sdY ((fr : Int) % 4))))), some (.int (iI 0)), some (.int (iI 1))]) (st' := [.int (iI 1), .int (iI ((m 10) 3)), .ref 10]) rfl ?_
        refine wp_add rfl ?_
        refine wp_putI rfl rfl (S.cell 10 (nc rfl)) (Nat.le_of_ble_eq_true rfl) rfl (fun H62 hl62 hz62 hf62 => ?_)
        have S : ST H62 (up (up (up (up (up (up m 25 (ptn 24 (m 25) (e : Int) ((m 10) 3))) 20 (ptn 48 (m 20) ((m 10) 3) (e : Int))) 21 (ptn 48 (m 21) ((m 10) 3) ((m 10) 1))) 22 (ptn 48 (m 22) ((m 10) 3) ((sdX ((sd : Int) % 4)) - (sdX ((fr : Int) % 4))))) 23 (ptn 48 (m 23) ((m 10) 3) ((sdY ((sd : Int) % 4)) - (sdY ((fr : Int) % 4))))) 10 (up (m 10) 3 (((m 10) 3) + 1))) γ t := S.setI 10 (nc rfl) hl62 hz62 hf62 (by omega) (by omega)
        refine wp_vret rfl rfl ?_
        first
          | (exfalso; revert ho; simp only [c1, c4, c36, decide_true, decide_false] <;> decide)
          | (refine ⟨rfl, S.same_m ?_⟩
             rw [h1, h2, ptn_in he2, ptn_in hn, ptn_in hn, ptn_in hn, ptn_in hn]
             rfl)
  · have c1 : ((((sdX ((sd : Int) % 4)) - (sdX ((fr : Int) % 4))) : Int) = ((sdY ((sd : Int) % 4)) - (sdY ((fr : Int) % 4)))) := Classical.not_not.mp c1
    refine wp_g (n := 5) (pc' := 51) (L' := [some (.ref 10), some (.int (iI (e : Int))), some (.int (iI (fr : Int))), some (.int (iI (sd : Int))), some (.int (iI ((sdX ((sd : Int) % 4)) - (sdX ((fr : Int) % 4))))), some (.int (iI ((sdY ((sd : Int) % 4)) - (sdY ((fr : Int) % 4))))), some (.int (iI 1)), none]) (st' := [.ref 10, .int (iI 1)]) rfl ?_
    refine wp_getf (v := .ref 11) rfl rfl (S.cell 10 (nc rfl)) (by decide) rfl ?_
    refine wp_g (n := 1) (pc' := 55) (L' := [some (.ref 10), some (.int (iI (e : Int))), some (.int (iI (fr : Int))), some (.int (iI (sd : Int))), some (.int (iI ((sdX ((sd : Int) % 4)) - (sdX ((fr : Int) % 4))))), some (.int (iI ((sdY ((sd : Int) % 4)) - (sdY ((fr : Int) % 4))))), some (.int (iI 1)), none]) (st' := [.int (iI (e : Int)), .ref 11, .int (iI 1)]) rfl ?_
    refine wp_cv (As := [.int (iI (e : Int))]) (rest := [.int (iI 1)]) rfl rfl (S.gq hγ (gi rfl)).obj (by decide) rfl rfl rfl (Nat.le_of_ble_eq_true rfl) (Nat.le_of_ble_eq_true rfl) (G_belowOfI (S.gq hγ (gi rfl)) (e : Int) (by omega) (by omega)) (fun r63 H63 q63 => ?_)
    obtain ⟨rfl, e63⟩ := q63
    rw [e63]
    show wp _ _ _ _ _ [.int (iI (gbel R C e : Int)), .int (iI 1)] _ _
    have hb64 := gbel_le R C e
    refine wp_ifI (a := (gbel R C e : Int)) rfl rfl (by omega) (by omega) (fun c65 => ?_) (fun c65 => ?_)
    · have c65 : (¬ ((gbel R C e : Int) : Int) = 0) := c65
      refine wp_g (n := 1) (pc' := 66) (L' := [some (.ref 10), some (.int (iI (e : Int))), some (.int (iI (fr : Int))), some (.int (iI (sd : Int))), some (.int (iI ((sdX ((sd : Int) % 4)) - (sdX ((fr : Int) % 4))))), some (.int (iI ((sdY ((sd : Int) % 4)) - (sdY ((fr : Int) % 4))))), some (.int (iI 1)), none]) (st' := [.int (iI 0), .int (iI 1)]) rfl ?_
      refine wp_g (n := 1) (pc' := 73) (L' := [some (.ref 10), some (.int (iI (e : Int))), some (.int (iI (fr : Int))), some (.int (iI (sd : Int))), some (.int (iI ((sdX ((sd : Int) % 4)) - (sdX ((fr : Int) % 4))))), some (.int (iI ((sdY ((sd : Int) % 4)) - (sdY ((fr : Int) % 4))))), some (.int (iI 1)), none]) (st' := []) rfl ?_
      refine wp_g (n := 3) (pc' := 77) (L' := [some (.ref 10), some (.int (iI (e : Int))), some (.int (iI (fr : Int))), some (.int (iI (sd : Int))), some (.int (iI ((sdX ((sd : Int) % 4)) - (sdX ((fr : Int) % 4))))), some (.int (iI ((sdY ((sd : Int) % 4)) - (sdY ((fr : Int) % 4))))), some (.int (iI 1)), some (.int (iI 0))]) (st' := [.ref 10]) rfl ?_
      refine wp_getf (v := .ref 11) rfl rfl (S.cell 10 (nc rfl)) (by decide) rfl ?_
      refine wp_g (n := 1) (pc' := 81) (L' := [some (.ref 10), some (.int (iI (e : Int))), some (.int (iI (fr : Int))), some (.int (iI (sd : Int))), some (.int (iI ((sdX ((sd : Int) % 4)) - (sdX ((fr : Int) % 4))))), some (.int (iI ((sdY ((sd : Int) % 4)) - (sdY ((fr : Int) % 4))))), some (.int (iI 1)), some (.int (iI 0))]) (st' := [.int (iI (e : Int)), .ref 11]) rfl ?_
      refine wp_cv (As := [.int (iI (e : Int))]) (rest := []) rfl rfl (S.gq hγ (gi rfl)).obj (by decide) rfl rfl rfl (Nat.le_of_ble_eq_true rfl) (Nat.le_of_ble_eq_true rfl) (G_kindOfI (S.gq hγ (gi rfl)) (e : Int) (by omega) (by omega)) (fun r66 H66 q66 => ?_)
      obtain ⟨rfl, e66⟩ := q66
      rw [e66]
      show wp _ _ _ _ _ [.int (iI (kd e))] _ _
      have hk67 := ((S.gq hγ (gi rfl))).2.1 e (by omega)
      refine wp_g (n := 1) (pc' := 85) (L' := [some (.ref 10), some (.int (iI (e : Int))), some (.int (iI (fr : Int))), some (.int (iI (sd : Int))), some (.int (iI ((sdX ((sd : Int) % 4)) - (sdX ((fr : Int) % 4))))), some (.int (iI ((sdY ((sd : Int) % 4)) - (sdY ((fr : Int) % 4))))), some (.int (iI 1)), some (.int (iI 0))]) (st' := [.int (iI 1), .int (iI (kd e))]) rfl ?_
      refine wp_icmpI (a := (kd e)) (b := 1) rfl rfl (by omega) (by omega) (by omega) (by omega) (fun c68 => ?_) (fun c68 => ?_)
      · have c68 : (¬ ((kd e) : Int) = 1) := c68
        refine wp_g (n := 1) (pc' := 102) (L' := [some (.ref 10), some (.int (iI (e : Int))), some (.int (iI (fr : Int))), some (.int (iI (sd : Int))), some (.int (iI ((sdX ((sd : Int) % 4)) - (sdX ((fr : Int) % 4))))), some (.int (iI ((sdY ((sd : Int) % 4)) - (sdY ((fr : Int) % 4))))), some (.int (iI 1)), some (.int (iI 0))]) (st' := [.int (iI 0)]) rfl ?_
        refine wp_g (n := 1) (pc' := 112) (L' := [some (.ref 10), some (.int (iI (e : Int))), some (.int (iI (fr : Int))), some (.int (iI (sd : Int))), some (.int (iI ((sdX ((sd : Int) % 4)) - (sdX ((fr : Int) % 4))))), some (.int (iI ((sdY ((sd : Int) % 4)) - (sdY ((fr : Int) % 4))))), some (.int (iI 1)), some (.int (iI 0))]) (st' := []) rfl ?_
        refine wp_g (n := 1) (pc' := 113) (L' := [some (.ref 10), some (.int (iI (e : Int))), some (.int (iI (fr : Int))), some (.int (iI (sd : Int))), some (.int (iI ((sdX ((sd : Int) % 4)) - (sdX ((fr : Int) % 4))))), some (.int (iI ((sdY ((sd : Int) % 4)) - (sdY ((fr : Int) % 4))))), some (.int (iI 1)), some (.int (iI 0))]) (st' := [.ref 10]) rfl ?_
        refine wp_getf (v := .ref 26) rfl rfl (S.cell 10 (nc rfl)) (by decide) rfl ?_
        refine wp_g (n := 2) (pc' := 118) (L' := [some (.ref 10), some (.int (iI (e : Int))), some (.int (iI (fr : Int))), some (.int (iI (sd : Int))), some (.int (iI ((sdX ((sd : Int) % 4)) - (sdX ((fr : Int) % 4))))), some (.int (iI ((sdY ((sd : Int) % 4)) - (sdY ((fr : Int) % 4))))), some (.int (iI 1)), some (.int (iI 0))]) (st' := [.ref 10, .int (iI (e : Int)), .ref 26]) rfl ?_
        refine wp_getf (v := .int (iI ((m 10) 3))) rfl rfl (S.cell 10 (nc rfl)) (by decide) rfl ?_
        have hr69 : -2147483648 ≤ ((m 10) 3) ∧ ((m 10) 3) < 2147483648 := S.rg 10 3 (nl rfl)
        refine wp_cs (As := [.ref 26, .int (iI (e : Int)), .int (iI ((m 10) 3))]) (rest := []) rfl rfl rfl rfl (Nat.le_of_ble_eq_true rfl) (Nat.le_of_ble_eq_true rfl) (c_put S (nc rfl) (n := 24) rfl (by decide) (e : Int) ((m 10) 3) (by omega) (by omega) (by omega) (by omega)) (fun r70 H70 q70 => ?_)
        obtain ⟨rfl, S⟩ := q70
        have S : ST H70 (up m 26 (ptn 24 (m 26) (e : Int) ((m 10) 3))) γ t := S
        show wp _ _ _ _ _ [] _ _
        refine wp_g (n := 1) (pc' := 125) (L' := [some (.ref 10), some (.int (iI (e : Int))), some (.int (iI (fr : Int))), some (.int (iI (sd : Int))), some (.int (iI ((sdX ((sd : Int) % 4)) - (sdX ((fr : Int) % 4))))), some (.int (iI ((sdY ((sd : Int) % 4)) - (sdY ((fr : Int) % 4))))), some (.int (iI 1)), some (.int (iI 0))]) (st' := [.ref 10]) rfl ?_
        refine wp_getf (v := .ref 20) rfl rfl (S.cell 10 (nc rfl)) (by decide) rfl ?_
        refine wp_g (n := 1) (pc' := 129) (L' := [some (.ref 10), some (.int (iI (e : Int))), some (.int (iI (fr : Int))), some (.int (iI (sd : Int))), some (.int (iI ((sdX ((sd : Int) % 4)) - (sdX ((fr : Int) % 4))))), some (.int (iI ((sdY ((sd : Int) % 4)) - (sdY ((fr : Int) % 4))))), some (.int (iI 1)), some (.int (iI 0))]) (st' := [.ref 10, .ref 20]) rfl ?_
        refine wp_getf (v := .int (iI ((m 10) 3))) rfl rfl (S.cell 10 (nc rfl)) (by decide) rfl ?_
        have hr71 : -2147483648 ≤ ((m 10) 3) ∧ ((m 10) 3) < 2147483648 := S.rg 10 3 (nl rfl)
        refine wp_g (n := 1) (pc' := 133) (L' := [some (.ref 10), some (.int (iI (e : Int))), some (.int (iI (fr : Int))), some (.int (iI (sd : Int))), some (.int (iI ((sdX ((sd : Int) % 4)) - (sdX ((fr : Int) % 4))))), some (.int (iI ((sdY ((sd : Int) % 4)) - (sdY ((fr : Int) % 4))))), some (.int (iI 1)), some (.int (iI 0))]) (st' := [.int (iI (e : Int)), .int (iI ((m 10) 3)), .ref 20]) rfl ?_
        refine wp_cs (As := [.ref 20, .int (iI ((m 10) 3)), .int (iI (e : Int))]) (rest := []) rfl rfl rfl rfl (Nat.le_of_ble_eq_true rfl) (Nat.le_of_ble_eq_true rfl) (c_put S (nc rfl) (n := 48) rfl (by decide) ((m 10) 3) (e : Int) (by omega) (by omega) (by omega) (by omega)) (fun r72 H72 q72 => ?_)
        obtain ⟨rfl, S⟩ := q72
        have S : ST H72 (up (up m 26 (ptn 24 (m 26) (e : Int) ((m 10) 3))) 20 (ptn 48 (m 20) ((m 10) 3) (e : Int))) γ t := S
        show wp _ _ _ _ _ [] _ _
        refine wp_g (n := 1) (pc' := 137) (L' := [some (.ref 10), some (.int (iI (e : Int))), some (.int (iI (fr : Int))), some (.int (iI (sd : Int))), some (.int (iI ((sdX ((sd : Int) % 4)) - (sdX ((fr : Int) % 4))))), some (.int (iI ((sdY ((sd : Int) % 4)) - (sdY ((fr : Int) % 4))))), some (.int (iI 1)), some (.int (iI 0))]) (st' := [.ref 10]) rfl ?_
        refine wp_getf (v := .ref 21) rfl rfl (S.cell 10 (nc rfl)) (by decide) rfl ?_
        refine wp_g (n := 1) (pc' := 141) (L' := [some (.ref 10), some (.int (iI (e : Int))), some (.int (iI (fr : Int))), some (.int (iI (sd : Int))), some (.int (iI ((sdX ((sd : Int) % 4)) - (sdX ((fr : Int) % 4))))), some (.int (iI ((sdY ((sd : Int) % 4)) - (sdY ((fr : Int) % 4))))), some (.int (iI 1)), some (.int (iI 0))]) (st' := [.ref 10, .ref 21]) rfl ?_
        refine wp_getf (v := .int (iI ((m 10) 3))) rfl rfl (S.cell 10 (nc rfl)) (by decide) rfl ?_
        have hr73 : -2147483648 ≤ ((m 10) 3) ∧ ((m 10) 3) < 2147483648 := S.rg 10 3 (nl rfl)
        refine wp_g (n := 1) (pc' := 145) (L' := [some (.ref 10), some (.int (iI (e : Int))), some (.int (iI (fr : Int))), some (.int (iI (sd : Int))), some (.int (iI ((sdX ((sd : Int) % 4)) - (sdX ((fr : Int) % 4))))), some (.int (iI ((sdY ((sd : Int) % 4)) - (sdY ((fr : Int) % 4))))), some (.int (iI 1)), some (.int (iI 0))]) (st' := [.ref 10, .int (iI ((m 10) 3)), .ref 21]) rfl ?_
        refine wp_getf (v := .int (iI ((m 10) 1))) rfl rfl (S.cell 10 (nc rfl)) (by decide) rfl ?_
        have hr74 : -2147483648 ≤ ((m 10) 1) ∧ ((m 10) 1) < 2147483648 := S.rg 10 1 (nl rfl)
        refine wp_cs (As := [.ref 21, .int (iI ((m 10) 3)), .int (iI ((m 10) 1))]) (rest := []) rfl rfl rfl rfl (Nat.le_of_ble_eq_true rfl) (Nat.le_of_ble_eq_true rfl) (c_put S (nc rfl) (n := 48) rfl (by decide) ((m 10) 3) ((m 10) 1) (by omega) (by omega) (by omega) (by omega)) (fun r75 H75 q75 => ?_)
        obtain ⟨rfl, S⟩ := q75
        have S : ST H75 (up (up (up m 26 (ptn 24 (m 26) (e : Int) ((m 10) 3))) 20 (ptn 48 (m 20) ((m 10) 3) (e : Int))) 21 (ptn 48 (m 21) ((m 10) 3) ((m 10) 1))) γ t := S
        show wp _ _ _ _ _ [] _ _
        refine wp_g (n := 1) (pc' := 152) (L' := [some (.ref 10), some (.int (iI (e : Int))), some (.int (iI (fr : Int))), some (.int (iI (sd : Int))), some (.int (iI ((sdX ((sd : Int) % 4)) - (sdX ((fr : Int) % 4))))), some (.int (iI ((sdY ((sd : Int) % 4)) - (sdY ((fr : Int) % 4))))), some (.int (iI 1)), some (.int (iI 0))]) (st' := [.ref 10]) rfl ?_
        refine wp_getf (v := .ref 22) rfl rfl (S.cell 10 (nc rfl)) (by decide) rfl ?_
        refine wp_g (n := 1) (pc' := 156) (L' := [some (.ref 10), some (.int (iI (e : Int))), some (.int (iI (fr : Int))), some (.int (iI (sd : Int))), some (.int (iI ((sdX ((sd : Int) % 4)) - (sdX ((fr : Int) % 4))))), some (.int (iI ((sdY ((sd : Int) % 4)) - (sdY ((fr : Int) % 4))))), some (.int (iI 1)), some (.int (iI 0))]) (st' := [.ref 10, .ref 22]) rfl ?_
        refine wp_getf (v := .int (iI ((m 10) 3))) rfl rfl (S.cell 10 (nc rfl)) (by decide) rfl ?_
        have hr76 : -2147483648 ≤ ((m 10) 3) ∧ ((m 10) 3) < 2147483648 := S.rg 10 3 (nl rfl)
        refine wp_g (n := 1) (pc' := 161) (L' := [some (.ref 10), some (.int (iI (e : Int))), some (.int (iI (fr : Int))), some (.int (iI (sd : Int))), some (.int (iI ((sdX ((sd : Int) % 4)) - (sdX ((fr : Int) % 4))))), some (.int (iI ((sdY ((sd : Int) % 4)) - (sdY ((fr : Int) % 4))))), some (.int (iI 1)), some (.int (iI 0))]) (st' := [.int (iI ((sdX ((sd : Int) % 4)) - (sdX ((fr : Int) % 4)))), .int (iI ((m 10) 3)), .ref 22]) rfl ?_
        refine wp_cs (As := [.ref 22, .int (iI ((m 10) 3)), .int (iI ((sdX ((sd : Int) % 4)) - (sdX ((fr : Int) % 4))))]) (rest := []) rfl rfl rfl rfl (Nat.le_of_ble_eq_true rfl) (Nat.le_of_ble_eq_true rfl) (c_put S (nc rfl) (n := 48) rfl (by decide) ((m 10) 3) ((sdX ((sd : Int) % 4)) - (sdX ((fr : Int) % 4))) (by omega) (by omega) (by omega) (by omega)) (fun r77 H77 q77 => ?_)
        obtain ⟨rfl, S⟩ := q77
        have S : ST H77 (up (up (up (up m 26 (ptn 24 (m 26) (e : Int) ((m 10) 3))) 20 (ptn 48 (m 20) ((m 10) 3) (e : Int))) 21 (ptn 48 (m 21) ((m 10) 3) ((m 10) 1))) 22 (ptn 48 (m 22) ((m 10) 3) ((sdX ((sd : Int) % 4)) - (sdX ((fr : Int) % 4))))) γ t := S
        show wp _ _ _ _ _ [] _ _
        refine wp_g (n := 1) (pc' := 165) (L' := [some (.ref 10), some (.int (iI (e : Int))), some (.int (iI (fr : Int))), some (.int (iI (sd : Int))), some (.int (iI ((sdX ((sd : Int) % 4)) - (sdX ((fr : Int) % 4))))), some (.int (iI ((sdY ((sd : Int) % 4)) - (sdY ((fr : Int) % 4))))), some (.int (iI 1)), some (.int (iI 0))]) (st' := [.ref 10]) rfl ?_
        refine wp_getf (v := .ref 23) rfl rfl (S.cell 10 (nc rfl)) (by decide) rfl ?_
        refine wp_g (n := 1) (pc' := 169) (L' := [some (.ref 10), some (.int (iI (e : Int))), some (.int (iI (fr : Int))), some (.int (iI (sd : Int))), some (.int (iI ((sdX ((sd : Int) % 4)) - (sdX ((fr : Int) % 4))))), some (.int (iI ((sdY ((sd : Int) % 4)) - (sdY ((fr : Int) % 4))))), some (.int (iI 1)), some (.int (iI 0))]) (st' := [.ref 10, .ref 23]) rfl ?_
        refine wp_getf (v := .int (iI ((m 10) 3))) rfl rfl (S.cell 10 (nc rfl)) (by decide) rfl ?_
        have hr78 : -2147483648 ≤ ((m 10) 3) ∧ ((m 10) 3) < 2147483648 := S.rg 10 3 (nl rfl)
        refine wp_g (n := 1) (pc' := 174) (L' := [some (.ref 10), some (.int (iI (e : Int))), some (.int (iI (fr : Int))), some (.int (iI (sd : Int))), some (.int (iI ((sdX ((sd : Int) % 4)) - (sdX ((fr : Int) % 4))))), some (.int (iI ((sdY ((sd : Int) % 4)) - (sdY ((fr : Int) % 4))))), some (.int (iI 1)), some (.int (iI 0))]) (st' := [.int (iI ((sdY ((sd : Int) % 4)) - (sdY ((fr : Int) % 4)))), .int (iI ((m 10) 3)), .ref 23]) rfl ?_
        refine wp_cs (As := [.ref 23, .int (iI ((m 10) 3)), .int (iI ((sdY ((sd : Int) % 4)) - (sdY ((fr : Int) % 4))))]) (rest := []) rfl rfl rfl rfl (Nat.le_of_ble_eq_true rfl) (Nat.le_of_ble_eq_true rfl) (c_put S (nc rfl) (n := 48) rfl (by decide) ((m 10) 3) ((sdY ((sd : Int) % 4)) - (sdY ((fr : Int) % 4))) (by omega) (by omega) (by omega) (by omega)) (fun r79 H79 q79 => ?_)
        obtain ⟨rfl, S⟩ := q79
        have S : ST H79 (up (up (up (up (up m 26 (ptn 24 (m 26) (e : Int) ((m 10) 3))) 20 (ptn 48 (m 20) ((m 10) 3) (e : Int))) 21 (ptn 48 (m 21) ((m 10) 3) ((m 10) 1))) 22 (ptn 48 (m 22) ((m 10) 3) ((sdX ((sd : Int) % 4)) - (sdX ((fr : Int) % 4))))) 23 (ptn 48 (m 23) ((m 10) 3) ((sdY ((sd : Int) % 4)) - (sdY ((fr : Int) % 4))))) γ t := S
        show wp _ _ _ _ _ [] _ _
        refine wp_g (n := 2) (pc' := 179) (L' := [some (.ref 10), some (.int (iI (e : Int))), some (.int (iI (fr : Int))), some (.int (iI (sd : Int))), some (.int (iI ((sdX ((sd : Int) % 4)) - (sdX ((fr : Int) % 4))))), some (.int (iI ((sdY ((sd : Int) % 4)) - (sdY ((fr : Int) % 4))))), some (.int (iI 1)), some (.int (iI 0))]) (st' := [.ref 10, .ref 10]) rfl ?_
        refine wp_getf (v := .int (iI ((m 10) 3))) rfl rfl (S.cell 10 (nc rfl)) (by decide) rfl ?_
        have hr80 : -2147483648 ≤ ((m 10) 3) ∧ ((m 10) 3) < 2147483648 := S.rg 10 3 (nl rfl)
        refine wp_g (n := 1) (pc' := 183) (L' := [some (.ref 10), some (.int (iI (e : Int))), some (.int (iI (fr : Int))), some (.int (iI (sd : Int))), some (.int (iI ((sdX ((sd : Int) % 4)) - (sdX ((fr : Int) % 4))))), some (.int (iI ((sdY ((sd : Int) % 4)) - (sdY ((fr : Int) % 4))))), some (.int (iI 1)), some (.int (iI 0))]) (st' := [.int (iI 1), .int (iI ((m 10) 3)), .ref 10]) rfl ?_
        refine wp_add rfl ?_
        refine wp_putI rfl rfl (S.cell 10 (nc rfl)) (Nat.le_of_ble_eq_true rfl) rfl (fun H81 hl81 hz81 hf81 => ?_)
        have S : ST H81 (up (up (up (up (up (up m 26 (ptn 24 (m 26) (e : Int) ((m 10) 3))) 20 (ptn 48 (m 20) ((m 10) 3) (e : Int))) 21 (ptn 48 (m 21) ((m 10) 3) ((m 10) 1))) 22 (ptn 48 (m 22) ((m 10) 3) ((sdX ((sd : Int) % 4)) - (sdX ((fr : Int) % 4))))) 23 (ptn 48 (m 23) ((m 10) 3) ((sdY ((sd : Int) % 4)) - (sdY ((fr : Int) % 4))))) 10 (up (m 10) 3 (((m 10) 3) + 1))) γ t := S.setI 10 (nc rfl) hl81 hz81 hf81 (by omega) (by omega)
        refine wp_vret rfl rfl ?_
        first
          | (exfalso; revert ho; simp only [c1, c65, c68, decide_true, decide_false] <;> decide)
          | (refine ⟨rfl, S.same_m ?_⟩
             rw [h1, h2, ptn_in he2, ptn_in hn, ptn_in hn, ptn_in hn, ptn_in hn]
             rfl)
      · have c68 : (((kd e) : Int) = 1) := Classical.not_not.mp c68
        refine wp_g (n := 1) (pc' := 90) (L' := [some (.ref 10), some (.int (iI (e : Int))), some (.int (iI (fr : Int))), some (.int (iI (sd : Int))), some (.int (iI ((sdX ((sd : Int) % 4)) - (sdX ((fr : Int) % 4))))), some (.int (iI ((sdY ((sd : Int) % 4)) - (sdY ((fr : Int) % 4))))), some (.int (iI 1)), some (.int (iI 0))]) (st' := [.int (iI 0)]) rfl ?_
        refine wp_g (n := 1) (pc' := 93) (L' := [some (.ref 10), some (.int (iI (e : Int))), some (.int (iI (fr : Int))), some (.int (iI (sd : Int))), some (.int (iI ((sdX ((sd : Int) % 4)) - (sdX ((fr : Int) % 4))))), some (.int (iI ((sdY ((sd : Int) % 4)) - (sdY ((fr : Int) % 4))))), some (.int (iI 1)), some (.int (iI 0))]) (st' := []) rfl ?_
        refine wp_g (n := 4) (pc' := 102) (L' := [some (.ref 10), some (.int (iI (e : Int))), some (.int (iI (fr : Int))), some (.int (iI (sd : Int))), some (.int (iI ((sdX ((sd : Int) % 4)) - (sdX ((fr : Int) % 4))))), some (.int (iI ((sdY ((sd : Int) % 4)) - (sdY ((fr : Int) % 4))))), some (.int (iI 1)), some (.int (iI 1))]) (st' := [.int (iI 1)]) rfl ?_
        refine wp_g (n := 1) (pc' := 105) (L' := [some (.ref 10), some (.int (iI (e : Int))), some (.int (iI (fr : Int))), some (.int (iI (sd : Int))), some (.int (iI ((sdX ((sd : Int) % 4)) - (sdX ((fr : Int) % 4))))), some (.int (iI ((sdY ((sd : Int) % 4)) - (sdY ((fr : Int) % 4))))), some (.int (iI 1)), some (.int (iI 1))]) (st' := []) rfl ?_
        refine wp_g (n := 1) (pc' := 106) (L' := [some (.ref 10), some (.int (iI (e : Int))), some (.int (iI (fr : Int))), some (.int (iI (sd : Int))), some (.int (iI ((sdX ((sd : Int) % 4)) - (sdX ((fr : Int) % 4))))), some (.int (iI ((sdY ((sd : Int) % 4)) - (sdY ((fr : Int) % 4))))), some (.int (iI 1)), some (.int (iI 1))]) (st' := [.ref 10]) rfl ?_
        refine wp_getf (v := .ref 25) rfl rfl (S.cell 10 (nc rfl)) (by decide) rfl ?_
        refine wp_g (n := 3) (pc' := 118) (L' := [some (.ref 10), some (.int (iI (e : Int))), some (.int (iI (fr : Int))), some (.int (iI (sd : Int))), some (.int (iI ((sdX ((sd : Int) % 4)) - (sdX ((fr : Int) % 4))))), some (.int (iI ((sdY ((sd : Int) % 4)) - (sdY ((fr : Int) % 4))))), some (.int (iI 1)), some (.int (iI 1))]) (st' := [.ref 10, .int (iI (e : Int)), .ref 25]) rfl ?_
        refine wp_getf (v := .int (iI ((m 10) 3))) rfl rfl (S.cell 10 (nc rfl)) (by decide) rfl ?_
        have hr82 : -2147483648 ≤ ((m 10) 3) ∧ ((m 10) 3) < 2147483648 := S.rg 10 3 (nl rfl)
        refine wp_cs (As := [.ref 25, .int (iI (e : Int)), .int (iI ((m 10) 3))]) (rest := []) rfl rfl rfl rfl (Nat.le_of_ble_eq_true rfl) (Nat.le_of_ble_eq_true rfl) (c_put S (nc rfl) (n := 24) rfl (by decide) (e : Int) ((m 10) 3) (by omega) (by omega) (by omega) (by omega)) (fun r83 H83 q83 => ?_)
        obtain ⟨rfl, S⟩ := q83
        have S : ST H83 (up m 25 (ptn 24 (m 25) (e : Int) ((m 10) 3))) γ t := S
        show wp _ _ _ _ _ [] _ _
        refine wp_g (n := 1) (pc' := 125) (L' := [some (.ref 10), some (.int (iI (e : Int))), some (.int (iI (fr : Int))), some (.int (iI (sd : Int))), some (.int (iI ((sdX ((sd : Int) % 4)) - (sdX ((fr : Int) % 4))))), some (.int (iI ((sdY ((sd : Int) % 4)) - (sdY ((fr : Int) % 4))))), some (.int (iI 1)), some (.int (iI 1))]) (st' := [.ref 10]) rfl ?_
        refine wp_getf (v := .ref 20) rfl rfl (S.cell 10 (nc rfl)) (by decide) rfl ?_
        refine wp_g (n := 1) (pc' := 129) (L' := [some (.ref 10), some (.int (iI (e : Int))), some (.int (iI (fr : Int))), some (.int (iI (sd : Int))), some (.int (iI ((sdX ((sd : Int) % 4)) - (sdX ((fr : Int) % 4))))), some (.int (iI ((sdY ((sd : Int) % 4)) - (sdY ((fr : Int) % 4))))), some (.int (iI 1)), some (.int (iI 1))]) (st' := [.ref 10, .ref 20]) rfl ?_
        refine wp_getf (v := .int (iI ((m 10) 3))) rfl rfl (S.cell 10 (nc rfl)) (by decide) rfl ?_
        have hr84 : -2147483648 ≤ ((m 10) 3) ∧ ((m 10) 3) < 2147483648 := S.rg 10 3 (nl rfl)
        refine wp_g (n := 1) (pc' := 133) (L' := [some (.ref 10), some (.int (iI (e : Int))), some (.int (iI (fr : Int))), some (.int (iI (sd : Int))), some (.int (iI ((sdX ((sd : Int) % 4)) - (sdX ((fr : Int) % 4))))), some (.int (iI ((sdY ((sd : Int) % 4)) - (sdY ((fr : Int) % 4))))), some (.int (iI 1)), some (.int (iI 1))]) (st' := [.int (iI (e : Int)), .int (iI ((m 10) 3)), .ref 20]) rfl ?_
        refine wp_cs (As := [.ref 20, .int (iI ((m 10) 3)), .int (iI (e : Int))]) (rest := []) rfl rfl rfl rfl (Nat.le_of_ble_eq_true rfl) (Nat.le_of_ble_eq_true rfl) (c_put S (nc rfl) (n := 48) rfl (by decide) ((m 10) 3) (e : Int) (by omega) (by omega) (by omega) (by omega)) (fun r85 H85 q85 => ?_)
        obtain ⟨rfl, S⟩ := q85
        have S : ST H85 (up (up m 25 (ptn 24 (m 25) (e : Int) ((m 10) 3))) 20 (ptn 48 (m 20) ((m 10) 3) (e : Int))) γ t := S
        show wp _ _ _ _ _ [] _ _
        refine wp_g (n := 1) (pc' := 137) (L' := [some (.ref 10), some (.int (iI (e : Int))), some (.int (iI (fr : Int))), some (.int (iI (sd : Int))), some (.int (iI ((sdX ((sd : Int) % 4)) - (sdX ((fr : Int) % 4))))), some (.int (iI ((sdY ((sd : Int) % 4)) - (sdY ((fr : Int) % 4))))), some (.int (iI 1)), some (.int (iI 1))]) (st' := [.ref 10]) rfl ?_
        refine wp_getf (v := .ref 21) rfl rfl (S.cell 10 (nc rfl)) (by decide) rfl ?_
        refine wp_g (n := 1) (pc' := 141) (L' := [some (.ref 10), some (.int (iI (e : Int))), some (.int (iI (fr : Int))), some (.int (iI (sd : Int))), some (.int (iI ((sdX ((sd : Int) % 4)) - (sdX ((fr : Int) % 4))))), some (.int (iI ((sdY ((sd : Int) % 4)) - (sdY ((fr : Int) % 4))))), some (.int (iI 1)), some (.int (iI 1))]) (st' := [.ref 10, .ref 21]) rfl ?_
        refine wp_getf (v := .int (iI ((m 10) 3))) rfl rfl (S.cell 10 (nc rfl)) (by decide) rfl ?_
        have hr86 : -2147483648 ≤ ((m 10) 3) ∧ ((m 10) 3) < 2147483648 := S.rg 10 3 (nl rfl)
        refine wp_g (n := 1) (pc' := 145) (L' := [some (.ref 10), some (.int (iI (e : Int))), some (.int (iI (fr : Int))), some (.int (iI (sd : Int))), some (.int (iI ((sdX ((sd : Int) % 4)) - (sdX ((fr : Int) % 4))))), some (.int (iI ((sdY ((sd : Int) % 4)) - (sdY ((fr : Int) % 4))))), some (.int (iI 1)), some (.int (iI 1))]) (st' := [.ref 10, .int (iI ((m 10) 3)), .ref 21]) rfl ?_
        refine wp_getf (v := .int (iI ((m 10) 1))) rfl rfl (S.cell 10 (nc rfl)) (by decide) rfl ?_
        have hr87 : -2147483648 ≤ ((m 10) 1) ∧ ((m 10) 1) < 2147483648 := S.rg 10 1 (nl rfl)
        refine wp_cs (As := [.ref 21, .int (iI ((m 10) 3)), .int (iI ((m 10) 1))]) (rest := []) rfl rfl rfl rfl (Nat.le_of_ble_eq_true rfl) (Nat.le_of_ble_eq_true rfl) (c_put S (nc rfl) (n := 48) rfl (by decide) ((m 10) 3) ((m 10) 1) (by omega) (by omega) (by omega) (by omega)) (fun r88 H88 q88 => ?_)
        obtain ⟨rfl, S⟩ := q88
        have S : ST H88 (up (up (up m 25 (ptn 24 (m 25) (e : Int) ((m 10) 3))) 20 (ptn 48 (m 20) ((m 10) 3) (e : Int))) 21 (ptn 48 (m 21) ((m 10) 3) ((m 10) 1))) γ t := S
        show wp _ _ _ _ _ [] _ _
        refine wp_g (n := 1) (pc' := 152) (L' := [some (.ref 10), some (.int (iI (e : Int))), some (.int (iI (fr : Int))), some (.int (iI (sd : Int))), some (.int (iI ((sdX ((sd : Int) % 4)) - (sdX ((fr : Int) % 4))))), some (.int (iI ((sdY ((sd : Int) % 4)) - (sdY ((fr : Int) % 4))))), some (.int (iI 1)), some (.int (iI 1))]) (st' := [.ref 10]) rfl ?_
        refine wp_getf (v := .ref 22) rfl rfl (S.cell 10 (nc rfl)) (by decide) rfl ?_
        refine wp_g (n := 1) (pc' := 156) (L' := [some (.ref 10), some (.int (iI (e : Int))), some (.int (iI (fr : Int))), some (.int (iI (sd : Int))), some (.int (iI ((sdX ((sd : Int) % 4)) - (sdX ((fr : Int) % 4))))), some (.int (iI ((sdY ((sd : Int) % 4)) - (sdY ((fr : Int) % 4))))), some (.int (iI 1)), some (.int (iI 1))]) (st' := [.ref 10, .ref 22]) rfl ?_
        refine wp_getf (v := .int (iI ((m 10) 3))) rfl rfl (S.cell 10 (nc rfl)) (by decide) rfl ?_
        have hr89 : -2147483648 ≤ ((m 10) 3) ∧ ((m 10) 3) < 2147483648 := S.rg 10 3 (nl rfl)
        refine wp_g (n := 1) (pc' := 161) (L' := [some (.ref 10), some (.int (iI (e : Int))), some (.int (iI (fr : Int))), some (.int (iI (sd : Int))), some (.int (iI ((sdX ((sd : Int) % 4)) - (sdX ((fr : Int) % 4))))), some (.int (iI ((sdY ((sd : Int) % 4)) - (sdY ((fr : Int) % 4))))), some (.int (iI 1)), some (.int (iI 1))]) (st' := [.int (iI ((sdX ((sd : Int) % 4)) - (sdX ((fr : Int) % 4)))), .int (iI ((m 10) 3)), .ref 22]) rfl ?_
        refine wp_cs (As := [.ref 22, .int (iI ((m 10) 3)), .int (iI ((sdX ((sd : Int) % 4)) - (sdX ((fr : Int) % 4))))]) (rest := []) rfl rfl rfl rfl (Nat.le_of_ble_eq_true rfl) (Nat.le_of_ble_eq_true rfl) (c_put S (nc rfl) (n := 48) rfl (by decide) ((m 10) 3) ((sdX ((sd : Int) % 4)) - (sdX ((fr : Int) % 4))) (by omega) (by omega) (by omega) (by omega)) (fun r90 H90 q90 => ?_)
        obtain ⟨rfl, S⟩ := q90
        have S : ST H90 (up (up (up (up m 25 (ptn 24 (m 25) (e : Int) ((m 10) 3))) 20 (ptn 48 (m 20) ((m 10) 3) (e : Int))) 21 (ptn 48 (m 21) ((m 10) 3) ((m 10) 1))) 22 (ptn 48 (m 22) ((m 10) 3) ((sdX ((sd : Int) % 4)) - (sdX ((fr : Int) % 4))))) γ t := S
        show wp _ _ _ _ _ [] _ _
        refine wp_g (n := 1) (pc' := 165) (L' := [some (.ref 10), some (.int (iI (e : Int))), some (.int (iI (fr : Int))), some (.int (iI (sd : Int))), some (.int (iI ((sdX ((sd : Int) % 4)) - (sdX ((fr : Int) % 4))))), some (.int (iI ((sdY ((sd : Int) % 4)) - (sdY ((fr : Int) % 4))))), some (.int (iI 1)), some (.int (iI 1))]) (st' := [.ref 10]) rfl ?_
        refine wp_getf (v := .ref 23) rfl rfl (S.cell 10 (nc rfl)) (by decide) rfl ?_
        refine wp_g (n := 1) (pc' := 169) (L' := [some (.ref 10), some (.int (iI (e : Int))), some (.int (iI (fr : Int))), some (.int (iI (sd : Int))), some (.int (iI ((sdX ((sd : Int) % 4)) - (sdX ((fr : Int) % 4))))), some (.int (iI ((sdY ((sd : Int) % 4)) - (sdY ((fr : Int) % 4))))), some (.int (iI 1)), some (.int (iI 1))]) (st' := [.ref 10, .ref 23]) rfl ?_
        refine wp_getf (v := .int (iI ((m 10) 3))) rfl rfl (S.cell 10 (nc rfl)) (by decide) rfl ?_
        have hr91 : -2147483648 ≤ ((m 10) 3) ∧ ((m 10) 3) < 2147483648 := S.rg 10 3 (nl rfl)
        refine wp_g (n := 1) (pc' := 174) (L' := [some (.ref 10), some (.int (iI (e : Int))), some (.int (iI (fr : Int))), some (.int (iI (sd : Int))), some (.int (iI ((sdX ((sd : Int) % 4)) - (sdX ((fr : Int) % 4))))), some (.int (iI ((sdY ((sd : Int) % 4)) - (sdY ((fr : Int) % 4))))), some (.int (iI 1)), some (.int (iI 1))]) (st' := [.int (iI ((sdY ((sd : Int) % 4)) - (sdY ((fr : Int) % 4)))), .int (iI ((m 10) 3)), .ref 23]) rfl ?_
        refine wp_cs (As := [.ref 23, .int (iI ((m 10) 3)), .int (iI ((sdY ((sd : Int) % 4)) - (sdY ((fr : Int) % 4))))]) (rest := []) rfl rfl rfl rfl (Nat.le_of_ble_eq_true rfl) (Nat.le_of_ble_eq_true rfl) (c_put S (nc rfl) (n := 48) rfl (by decide) ((m 10) 3) ((sdY ((sd : Int) % 4)) - (sdY ((fr : Int) % 4))) (by omega) (by omega) (by omega) (by omega)) (fun r92 H92 q92 => ?_)
        obtain ⟨rfl, S⟩ := q92
        have S : ST H92 (up (up (up (up (up m 25 (ptn 24 (m 25) (e : Int) ((m 10) 3))) 20 (ptn 48 (m 20) ((m 10) 3) (e : Int))) 21 (ptn 48 (m 21) ((m 10) 3) ((m 10) 1))) 22 (ptn 48 (m 22) ((m 10) 3) ((sdX ((sd : Int) % 4)) - (sdX ((fr : Int) % 4))))) 23 (ptn 48 (m 23) ((m 10) 3) ((sdY ((sd : Int) % 4)) - (sdY ((fr : Int) % 4))))) γ t := S
        show wp _ _ _ _ _ [] _ _
        refine wp_g (n := 2) (pc' := 179) (L' := [some (.ref 10), some (.int (iI (e : Int))), some (.int (iI (fr : Int))), some (.int (iI (sd : Int))), some (.int (iI ((sdX ((sd : Int) % 4)) - (sdX ((fr : Int) % 4))))), some (.int (iI ((sdY ((sd : Int) % 4)) - (sdY ((fr : Int) % 4))))), some (.int (iI 1)), some (.int (iI 1))]) (st' := [.ref 10, .ref 10]) rfl ?_
        refine wp_getf (v := .int (iI ((m 10) 3))) rfl rfl (S.cell 10 (nc rfl)) (by decide) rfl ?_
        have hr93 : -2147483648 ≤ ((m 10) 3) ∧ ((m 10) 3) < 2147483648 := S.rg 10 3 (nl rfl)
        refine wp_g (n := 1) (pc' := 183) (L' := [some (.ref 10), some (.int (iI (e : Int))), some (.int (iI (fr : Int))), some (.int (iI (sd : Int))), some (.int (iI ((sdX ((sd : Int) % 4)) - (sdX ((fr : Int) % 4))))), some (.int (iI ((sdY ((sd : Int) % 4)) - (sdY ((fr : Int) % 4))))), some (.int (iI 1)), some (.int (iI 1))]) (st' := [.int (iI 1), .int (iI ((m 10) 3)), .ref 10]) rfl ?_
        refine wp_add rfl ?_
        refine wp_putI rfl rfl (S.cell 10 (nc rfl)) (Nat.le_of_ble_eq_true rfl) rfl (fun H94 hl94 hz94 hf94 => ?_)
        have S : ST H94 (up (up (up (up (up (up m 25 (ptn 24 (m 25) (e : Int) ((m 10) 3))) 20 (ptn 48 (m 20) ((m 10) 3) (e : Int))) 21 (ptn 48 (m 21) ((m 10) 3) ((m 10) 1))) 22 (ptn 48 (m 22) ((m 10) 3) ((sdX ((sd : Int) % 4)) - (sdX ((fr : Int) % 4))))) 23 (ptn 48 (m 23) ((m 10) 3) ((sdY ((sd : Int) % 4)) - (sdY ((fr : Int) % 4))))) 10 (up (m 10) 3 (((m 10) 3) + 1))) γ t := S.setI 10 (nc rfl) hl94 hz94 hf94 (by omega) (by omega)
        refine wp_vret rfl rfl ?_
        first
          | (exfalso; revert ho; simp only [c1, c65, c68, decide_true, decide_false] <;> decide)
          | (refine ⟨rfl, S.same_m ?_⟩
             rw [h1, h2, ptn_in he2, ptn_in hn, ptn_in hn, ptn_in hn, ptn_in hn]
             rfl)
    · have c65 : (((gbel R C e : Int) : Int) = 0) := Classical.not_not.mp c65
      refine wp_g (n := 2) (pc' := 66) (L' := [some (.ref 10), some (.int (iI (e : Int))), some (.int (iI (fr : Int))), some (.int (iI (sd : Int))), some (.int (iI ((sdX ((sd : Int) % 4)) - (sdX ((fr : Int) % 4))))), some (.int (iI ((sdY ((sd : Int) % 4)) - (sdY ((fr : Int) % 4))))), some (.int (iI 1)), none]) (st' := [.int (iI 1), .int (iI 1)]) rfl ?_
      refine wp_g (n := 1) (pc' := 69) (L' := [some (.ref 10), some (.int (iI (e : Int))), some (.int (iI (fr : Int))), some (.int (iI (sd : Int))), some (.int (iI ((sdX ((sd : Int) % 4)) - (sdX ((fr : Int) % 4))))), some (.int (iI ((sdY ((sd : Int) % 4)) - (sdY ((fr : Int) % 4))))), some (.int (iI 1)), none]) (st' := []) rfl ?_
      refine wp_g (n := 4) (pc' := 77) (L' := [some (.ref 10), some (.int (iI (e : Int))), some (.int (iI (fr : Int))), some (.int (iI (sd : Int))), some (.int (iI ((sdX ((sd : Int) % 4)) - (sdX ((fr : Int) % 4))))), some (.int (iI ((sdY ((sd : Int) % 4)) - (sdY ((fr : Int) % 4))))), some (.int (iI 1)), some (.int (iI 1))]) (st' := [.ref 10]) rfl ?_
      refine wp_getf (v := .ref 11) rfl rfl (S.cell 10 (nc rfl)) (by decide) rfl ?_
      refine wp_g (n := 1) (pc' := 81) (L' := [some (.ref 10), some (.int (iI (e : Int))), some (.int (iI (fr : Int))), some (.int (iI (sd : Int))), some (.int (iI ((sdX ((sd : Int) % 4)) - (sdX ((fr : Int) % 4))))), some (.int (iI ((sdY ((sd : Int) % 4)) - (sdY ((fr : Int) % 4))))), some (.int (iI 1)), some (.int (iI 1))]) (st' := [.int (iI (e : Int)), .ref 11]) rfl ?_
      refine wp_cv (As := [.int (iI (e : Int))]) (rest := []) rfl rfl (S.gq hγ (gi rfl)).obj (by decide) rfl rfl rfl (Nat.le_of_ble_eq_true rfl) (Nat.le_of_ble_eq_true rfl) (G_kindOfI (S.gq hγ (gi rfl)) (e : Int) (by omega) (by omega)) (fun r95 H95 q95 => ?_)
      obtain ⟨rfl, e95⟩ := q95
      rw [e95]
      show wp _ _ _ _ _ [.int (iI (kd e))] _ _
      have hk96 := ((S.gq hγ (gi rfl))).2.1 e (by omega)
      refine wp_g (n := 1) (pc' := 85) (L' := [some (.ref 10), some (.int (iI (e : Int))), some (.int (iI (fr : Int))), some (.int (iI (sd : Int))), some (.int (iI ((sdX ((sd : Int) % 4)) - (sdX ((fr : Int) % 4))))), some (.int (iI ((sdY ((sd : Int) % 4)) - (sdY ((fr : Int) % 4))))), some (.int (iI 1)), some (.int (iI 1))]) (st' := [.int (iI 1), .int (iI (kd e))]) rfl ?_
      refine wp_icmpI (a := (kd e)) (b := 1) rfl rfl (by omega) (by omega) (by omega) (by omega) (fun c97 => ?_) (fun c97 => ?_)
      · have c97 : (¬ ((kd e) : Int) = 1) := c97
        refine wp_g (n := 1) (pc' := 102) (L' := [some (.ref 10), some (.int (iI (e : Int))), some (.int (iI (fr : Int))), some (.int (iI (sd : Int))), some (.int (iI ((sdX ((sd : Int) % 4)) - (sdX ((fr : Int) % 4))))), some (.int (iI ((sdY ((sd : Int) % 4)) - (sdY ((fr : Int) % 4))))), some (.int (iI 1)), some (.int (iI 1))]) (st' := [.int (iI 1)]) rfl ?_
        refine wp_g (n := 1) (pc' := 105) (L' := [some (.ref 10), some (.int (iI (e : Int))), some (.int (iI (fr : Int))), some (.int (iI (sd : Int))), some (.int (iI ((sdX ((sd : Int) % 4)) - (sdX ((fr : Int) % 4))))), some (.int (iI ((sdY ((sd : Int) % 4)) - (sdY ((fr : Int) % 4))))), some (.int (iI 1)), some (.int (iI 1))]) (st' := []) rfl ?_
        refine wp_g (n := 1) (pc' := 106) (L' := [some (.ref 10), some (.int (iI (e : Int))), some (.int (iI (fr : Int))), some (.int (iI (sd : Int))), some (.int (iI ((sdX ((sd : Int) % 4)) - (sdX ((fr : Int) % 4))))), some (.int (iI ((sdY ((sd : Int) % 4)) - (sdY ((fr : Int) % 4))))), some (.int (iI 1)), some (.int (iI 1))]) (st' := [.ref 10]) rfl ?_
        refine wp_getf (v := .ref 25) rfl rfl (S.cell 10 (nc rfl)) (by decide) rfl ?_
        refine wp_g (n := 3) (pc' := 118) (L' := [some (.ref 10), some (.int (iI (e : Int))), some (.int (iI (fr : Int))), some (.int (iI (sd : Int))), some (.int (iI ((sdX ((sd : Int) % 4)) - (sdX ((fr : Int) % 4))))), some (.int (iI ((sdY ((sd : Int) % 4)) - (sdY ((fr : Int) % 4))))), some (.int (iI 1)), some (.int (iI 1))]) (st' := [.ref 10, .int (iI (e : Int)), .ref 25]) rfl ?_
        refine wp_getf (v := .int (iI ((m 10) 3))) rfl rfl (S.cell 10 (nc rfl)) (by decide) rfl ?_
        have hr98 : -2147483648 ≤ ((m 10) 3) ∧ ((m 10) 3) < 2147483648 := S.rg 10 3 (nl rfl)
        refine wp_cs (As := [.ref 25, .int (iI (e : Int)), .int (iI ((m 10) 3))]) (rest := []) rfl rfl rfl rfl (Nat.le_of_ble_eq_true rfl) (Nat.le_of_ble_eq_true rfl) (c_put S (nc rfl) (n := 24) rfl (by decide) (e : Int) ((m 10) 3) (by omega) (by omega) (by omega) (by omega)) (fun r99 H99 q99 => ?_)
        obtain ⟨rfl, S⟩ := q99
        have S : ST H99 (up m 25 (ptn 24 (m 25) (e : Int) ((m 10) 3))) γ t := S
        show wp _ _ _ _ _ [] _ _
        refine wp_g (n := 1) (pc' := 125) (L' := [some (.ref 10), some (.int (iI (e : Int))), some (.int (iI (fr : Int))), some (.int (iI (sd : Int))), some (.int (iI ((sdX ((sd : Int) % 4)) - (sdX ((fr : Int) % 4))))), some (.int (iI ((sdY ((sd : Int) % 4)) - (sdY ((fr : Int) % 4))))), some (.int (iI 1)), some (.int (iI 1))]) (st' := [.ref 10]) rfl ?_
        refine wp_getf (v := .ref 20) rfl rfl (S.cell 10 (nc rfl)) (by decide) rfl ?_
        refine wp_g (n := 1) (pc' := 129) (L' := [some (.ref 10), some (.int (iI (e : Int))), some (.int (iI (fr : Int))), some (.int (iI (sd : Int))), some (.int (iI ((sdX ((sd : Int) % 4)) - (sdX ((fr : Int) % 4))))), some (.int (iI ((sdY ((sd : Int) % 4)) - (sdY ((fr : Int) % 4))))), some (.int (iI 1)), some (.int (iI 1))]) (st' := [.ref 10, .ref 20]) rfl ?_
        refine wp_getf (v := .int (iI ((m 10) 3))) rfl rfl (S.cell 10 (nc rfl)) (by decide) rfl ?_
        have hr100 : -2147483648 ≤ ((m 10) 3) ∧ ((m 10) 3) < 2147483648 := S.rg 10 3 (nl rfl)
        refine wp_g (n := 1) (pc' := 133) (L' := [some (.ref 10), some (.int (iI (e : Int))), some (.int (iI (fr : Int))), some (.int (iI (sd : Int))), some (.int (iI ((sdX ((sd : Int) % 4)) - (sdX ((fr : Int) % 4))))), some (.int (iI ((sdY ((sd : Int) % 4)) - (sdY ((fr : Int) % 4))))), some (.int (iI 1)), some (.int (iI 1))]) (st' := [.int (iI (e : Int)), .int (iI ((m 10) 3)), .ref 20]) rfl ?_
        refine wp_cs (As := [.ref 20, .int (iI ((m 10) 3)), .int (iI (e : Int))]) (rest := []) rfl rfl rfl rfl (Nat.le_of_ble_eq_true rfl) (Nat.le_of_ble_eq_true rfl) (c_put S (nc rfl) (n := 48) rfl (by decide) ((m 10) 3) (e : Int) (by omega) (by omega) (by omega) (by omega)) (fun r101 H101 q101 => ?_)
        obtain ⟨rfl, S⟩ := q101
        have S : ST H101 (up (up m 25 (ptn 24 (m 25) (e : Int) ((m 10) 3))) 20 (ptn 48 (m 20) ((m 10) 3) (e : Int))) γ t := S
        show wp _ _ _ _ _ [] _ _
        refine wp_g (n := 1) (pc' := 137) (L' := [some (.ref 10), some (.int (iI (e : Int))), some (.int (iI (fr : Int))), some (.int (iI (sd : Int))), some (.int (iI ((sdX ((sd : Int) % 4)) - (sdX ((fr : Int) % 4))))), some (.int (iI ((sdY ((sd : Int) % 4)) - (sdY ((fr : Int) % 4))))), some (.int (iI 1)), some (.int (iI 1))]) (st' := [.ref 10]) rfl ?_
        refine wp_getf (v := .ref 21) rfl rfl (S.cell 10 (nc rfl)) (by decide) rfl ?_
        refine wp_g (n := 1) (pc' := 141) (L' := [some (.ref 10), some (.int (iI (e : Int))), some (.int (iI (fr : Int))), some (.int (iI (sd : Int))), some (.int (iI ((sdX ((sd : Int) % 4)) - (sdX ((fr : Int) % 4))))), some (.int (iI ((sdY ((sd : Int) % 4)) - (sdY ((fr : Int) % 4))))), some (.int (iI 1)), some (.int (iI 1))]) (st' := [.ref 10, .ref 21]) rfl ?_
        refine wp_getf (v := .int (iI ((m 10) 3))) rfl rfl (S.cell 10 (nc rfl)) (by decide) rfl ?_
        have hr102 : -2147483648 ≤ ((m 10) 3) ∧ ((m 10) 3) < 2147483648 := S.rg 10 3 (nl rfl)
        refine wp_g (n := 1) (pc' := 145) (L' := [some (.ref 10), some (.int (iI (e : Int))), some (.int (iI (fr : Int))), some (.int (iI (sd : Int))), some (.int (iI ((sdX ((sd : Int) % 4)) - (sdX ((fr : Int) % 4))))), some (.int (iI ((sdY ((sd : Int) % 4)) - (sdY ((fr : Int) % 4))))), some (.int (iI 1)), some (.int (iI 1))]) (st' := [.ref 10, .int (iI ((m 10) 3)), .ref 21]) rfl ?_
        refine wp_getf (v := .int (iI ((m 10) 1))) rfl rfl (S.cell 10 (nc rfl)) (by decide) rfl ?_
        have hr103 : -2147483648 ≤ ((m 10) 1) ∧ ((m 10) 1) < 2147483648 := S.rg 10 1 (nl rfl)
        refine wp_cs (As := [.ref 21, .int (iI ((m 10) 3)), .int (iI ((m 10) 1))]) (rest := []) rfl rfl rfl rfl (Nat.le_of_ble_eq_true rfl) (Nat.le_of_ble_eq_true rfl) (c_put S (nc rfl) (n := 48) rfl (by decide) ((m 10) 3) ((m 10) 1) (by omega) (by omega) (by omega) (by omega)) (fun r104 H104 q104 => ?_)
        obtain ⟨rfl, S⟩ := q104
        have S : ST H104 (up (up (up m 25 (ptn 24 (m 25) (e : Int) ((m 10) 3))) 20 (ptn 48 (m 20) ((m 10) 3) (e : Int))) 21 (ptn 48 (m 21) ((m 10) 3) ((m 10) 1))) γ t := S
        show wp _ _ _ _ _ [] _ _
        refine wp_g (n := 1) (pc' := 152) (L' := [some (.ref 10), some (.int (iI (e : Int))), some (.int (iI (fr : Int))), some (.int (iI (sd : Int))), some (.int (iI ((sdX ((sd : Int) % 4)) - (sdX ((fr : Int) % 4))))), some (.int (iI ((sdY ((sd : Int) % 4)) - (sdY ((fr : Int) % 4))))), some (.int (iI 1)), some (.int (iI 1))]) (st' := [.ref 10]) rfl ?_
        refine wp_getf (v := .ref 22) rfl rfl (S.cell 10 (nc rfl)) (by decide) rfl ?_
        refine wp_g (n := 1) (pc' := 156) (L' := [some (.ref 10), some (.int (iI (e : Int))), some (.int (iI (fr : Int))), some (.int (iI (sd : Int))), some (.int (iI ((sdX ((sd : Int) % 4)) - (sdX ((fr : Int) % 4))))), some (.int (iI ((sdY ((sd : Int) % 4)) - (sdY ((fr : Int) % 4))))), some (.int (iI 1)), some (.int (iI 1))]) (st' := [.ref 10, .ref 22]) rfl ?_
        refine wp_getf (v := .int (iI ((m 10) 3))) rfl rfl (S.cell 10 (nc rfl)) (by decide) rfl ?_
        have hr105 : -2147483648 ≤ ((m 10) 3) ∧ ((m 10) 3) < 2147483648 := S.rg 10 3 (nl rfl)
        refine wp_g (n := 1) (pc' := 161) (L' := [some (.ref 10), some (.int (iI (e : Int))), some (.int (iI (fr : Int))), some (.int (iI (sd : Int))), some (.int (iI ((sdX ((sd : Int) % 4)) - (sdX ((fr : Int) % 4))))), some (.int (iI ((sdY ((sd : Int) % 4)) - (sdY ((fr : Int) % 4))))), some (.int (iI 1)), some (.int (iI 1))]) (st' := [.int (iI ((sdX ((sd : Int) % 4)) - (sdX ((fr : Int) % 4)))), .int (iI ((m 10) 3)), .ref 22]) rfl ?_
        refine wp_cs (As := [.ref 22, .int (iI ((m 10) 3)), .int (iI ((sdX ((sd : Int) % 4)) - (sdX ((fr : Int) % 4))))]) (rest := []) rfl rfl rfl rfl (Nat.le_of_ble_eq_true rfl) (Nat.le_of_ble_eq_true rfl) (c_put S (nc rfl) (n := 48) rfl (by decide) ((m 10) 3) ((sdX ((sd : Int) % 4)) - (sdX ((fr : Int) % 4))) (by omega) (by omega) (by omega) (by omega)) (fun r106 H106 q106 => ?_)
        obtain ⟨rfl, S⟩ := q106
        have S : ST H106 (up (up (up (up m 25 (ptn 24 (m 25) (e : Int) ((m 10) 3))) 20 (ptn 48 (m 20) ((m 10) 3) (e : Int))) 21 (ptn 48 (m 21) ((m 10) 3) ((m 10) 1))) 22 (ptn 48 (m 22) ((m 10) 3) ((sdX ((sd : Int) % 4)) - (sdX ((fr : Int) % 4))))) γ t := S
        show wp _ _ _ _ _ [] _ _
        refine wp_g (n := 1) (pc' := 165) (L' := [some (.ref 10), some (.int (iI (e : Int))), some (.int (iI (fr : Int))), some (.int (iI (sd : Int))), some (.int (iI ((sdX ((sd : Int) % 4)) - (sdX ((fr : Int) % 4))))), some (.int (iI ((sdY ((sd : Int) % 4)) - (sdY ((fr : Int) % 4))))), some (.int (iI 1)), some (.int (iI 1))]) (st' := [.ref 10]) rfl ?_
        refine wp_getf (v := .ref 23) rfl rfl (S.cell 10 (nc rfl)) (by decide) rfl ?_
        refine wp_g (n := 1) (pc' := 169) (L' := [some (.ref 10), some (.int (iI (e : Int))), some (.int (iI (fr : Int))), some (.int (iI (sd : Int))), some (.int (iI ((sdX ((sd : Int) % 4)) - (sdX ((fr : Int) % 4))))), some (.int (iI ((sdY ((sd : Int) % 4)) - (sdY ((fr : Int) % 4))))), some (.int (iI 1)), some (.int (iI 1))]) (st' := [.ref 10, .ref 23]) rfl ?_
        refine wp_getf (v := .int (iI ((m 10) 3))) rfl rfl (S.cell 10 (nc rfl)) (by decide) rfl ?_
        have hr107 : -2147483648 ≤ ((m 10) 3) ∧ ((m 10) 3) < 2147483648 := S.rg 10 3 (nl rfl)
        refine wp_g (n := 1) (pc' := 174) (L' := [some (.ref 10), some (.int (iI (e : Int))), some (.int (iI (fr : Int))), some (.int (iI (sd : Int))), some (.int (iI ((sdX ((sd : Int) % 4)) - (sdX ((fr : Int) % 4))))), some (.int (iI ((sdY ((sd : Int) % 4)) - (sdY ((fr : Int) % 4))))), some (.int (iI 1)), some (.int (iI 1))]) (st' := [.int (iI ((sdY ((sd : Int) % 4)) - (sdY ((fr : Int) % 4)))), .int (iI ((m 10) 3)), .ref 23]) rfl ?_
        refine wp_cs (As := [.ref 23, .int (iI ((m 10) 3)), .int (iI ((sdY ((sd : Int) % 4)) - (sdY ((fr : Int) % 4))))]) (rest := []) rfl rfl rfl rfl (Nat.le_of_ble_eq_true rfl) (Nat.le_of_ble_eq_true rfl) (c_put S (nc rfl) (n := 48) rfl (by decide) ((m 10) 3) ((sdY ((sd : Int) % 4)) - (sdY ((fr : Int) % 4))) (by omega) (by omega) (by omega) (by omega)) (fun r108 H108 q108 => ?_)
        obtain ⟨rfl, S⟩ := q108
        have S : ST H108 (up (up (up (up (up m 25 (ptn 24 (m 25) (e : Int) ((m 10) 3))) 20 (ptn 48 (m 20) ((m 10) 3) (e : Int))) 21 (ptn 48 (m 21) ((m 10) 3) ((m 10) 1))) 22 (ptn 48 (m 22) ((m 10) 3) ((sdX ((sd : Int) % 4)) - (sdX ((fr : Int) % 4))))) 23 (ptn 48 (m 23) ((m 10) 3) ((sdY ((sd : Int) % 4)) - (sdY ((fr : Int) % 4))))) γ t := S
        show wp _ _ _ _ _ [] _ _
        refine wp_g (n := 2) (pc' := 179) (L' := [some (.ref 10), some (.int (iI (e : Int))), some (.int (iI (fr : Int))), some (.int (iI (sd : Int))), some (.int (iI ((sdX ((sd : Int) % 4)) - (sdX ((fr : Int) % 4))))), some (.int (iI ((sdY ((sd : Int) % 4)) - (sdY ((fr : Int) % 4))))), some (.int (iI 1)), some (.int (iI 1))]) (st' := [.ref 10, .ref 10]) rfl ?_
        refine wp_getf (v := .int (iI ((m 10) 3))) rfl rfl (S.cell 10 (nc rfl)) (by decide) rfl ?_
        have hr109 : -2147483648 ≤ ((m 10) 3) ∧ ((m 10) 3) < 2147483648 := S.rg 10 3 (nl rfl)
        refine wp_g (n := 1) (pc' := 183) (L' := [some (.ref 10), some (.int (iI (e : Int))), some (.int (iI (fr : Int))), some (.int (iI (sd : Int))), some (.int (iI ((sdX ((sd : Int) % 4)) - (sdX ((fr : Int) % 4))))), some (.int (iI ((sdY ((sd : Int) % 4)) - (sdY ((fr : Int) % 4))))), some (.int (iI 1)), some (.int (iI 1))]) (st' := [.int (iI 1), .int (iI ((m 10) 3)), .ref 10]) rfl ?_
        refine wp_add rfl ?_
        refine wp_putI rfl rfl (S.cell 10 (nc rfl)) (Nat.le_of_ble_eq_true rfl) rfl (fun H110 hl110 hz110 hf110 => ?_)
        have S : ST H110 (up (up (up (up (up (up m 25 (ptn 24 (m 25) (e : Int) ((m 10) 3))) 20 (ptn 48 (m 20) ((m 10) 3) (e : Int))) 21 (ptn 48 (m 21) ((m 10) 3) ((m 10) 1))) 22 (ptn 48 (m 22) ((m 10) 3) ((sdX ((sd : Int) % 4)) - (sdX ((fr : Int) % 4))))) 23 (ptn 48 (m 23) ((m 10) 3) ((sdY ((sd : Int) % 4)) - (sdY ((fr : Int) % 4))))) 10 (up (m 10) 3 (((m 10) 3) + 1))) γ t := S.setI 10 (nc rfl) hl110 hz110 hf110 (by omega) (by omega)
        refine wp_vret rfl rfl ?_
        first
          | (exfalso; revert ho; simp only [c1, c65, c97, decide_true, decide_false] <;> decide)
          | (refine ⟨rfl, S.same_m ?_⟩
             rw [h1, h2, ptn_in he2, ptn_in hn, ptn_in hn, ptn_in hn, ptn_in hn]
             rfl)
      · have c97 : (((kd e) : Int) = 1) := Classical.not_not.mp c97
        refine wp_g (n := 1) (pc' := 90) (L' := [some (.ref 10), some (.int (iI (e : Int))), some (.int (iI (fr : Int))), some (.int (iI (sd : Int))), some (.int (iI ((sdX ((sd : Int) % 4)) - (sdX ((fr : Int) % 4))))), some (.int (iI ((sdY ((sd : Int) % 4)) - (sdY ((fr : Int) % 4))))), some (.int (iI 1)), some (.int (iI 1))]) (st' := [.int (iI 1)]) rfl ?_
        refine wp_g (n := 1) (pc' := 97) (L' := [some (.ref 10), some (.int (iI (e : Int))), some (.int (iI (fr : Int))), some (.int (iI (sd : Int))), some (.int (iI ((sdX ((sd : Int) % 4)) - (sdX ((fr : Int) % 4))))), some (.int (iI ((sdY ((sd : Int) % 4)) - (sdY ((fr : Int) % 4))))), some (.int (iI 1)), some (.int (iI 1))]) (st' := []) rfl ?_
        refine wp_g (n := 3) (pc' := 102) (L' := [some (.ref 10), some (.int (iI (e : Int))), some (.int (iI (fr : Int))), some (.int (iI (sd : Int))), some (.int (iI ((sdX ((sd : Int) % 4)) - (sdX ((fr : Int) % 4))))), some (.int (iI ((sdY ((sd : Int) % 4)) - (sdY ((fr : Int) % 4))))), some (.int (iI 1)), some (.int (iI 0))]) (st' := [.int (iI 0)]) rfl ?_
        refine wp_g (n := 1) (pc' := 112) (L' := [some (.ref 10), some (.int (iI (e : Int))), some (.int (iI (fr : Int))), some (.int (iI (sd : Int))), some (.int (iI ((sdX ((sd : Int) % 4)) - (sdX ((fr : Int) % 4))))), some (.int (iI ((sdY ((sd : Int) % 4)) - (sdY ((fr : Int) % 4))))), some (.int (iI 1)), some (.int (iI 0))]) (st' := []) rfl ?_
        refine wp_g (n := 1) (pc' := 113) (L' := [some (.ref 10), some (.int (iI (e : Int))), some (.int (iI (fr : Int))), some (.int (iI (sd : Int))), some (.int (iI ((sdX ((sd : Int) % 4)) - (sdX ((fr : Int) % 4))))), some (.int (iI ((sdY ((sd : Int) % 4)) - (sdY ((fr : Int) % 4))))), some (.int (iI 1)), some (.int (iI 0))]) (st' := [.ref 10]) rfl ?_
        refine wp_getf (v := .ref 26) rfl rfl (S.cell 10 (nc rfl)) (by decide) rfl ?_
        refine wp_g (n := 2) (pc' := 118) (L' := [some (.ref 10), some (.int (iI (e : Int))), some (.int (iI (fr : Int))), some (.int (iI (sd : Int))), some (.int (iI ((sdX ((sd : Int) % 4)) - (sdX ((fr : Int) % 4))))), some (.int (iI ((sdY ((sd : Int) % 4)) - (sdY ((fr : Int) % 4))))), some (.int (iI 1)), some (.int (iI 0))]) (st' := [.ref 10, .int (iI (e : Int)), .ref 26]) rfl ?_
        refine wp_getf (v := .int (iI ((m 10) 3))) rfl rfl (S.cell 10 (nc rfl)) (by decide) rfl ?_
        have hr111 : -2147483648 ≤ ((m 10) 3) ∧ ((m 10) 3) < 2147483648 := S.rg 10 3 (nl rfl)
        refine wp_cs (As := [.ref 26, .int (iI (e : Int)), .int (iI ((m 10) 3))]) (rest := []) rfl rfl rfl rfl (Nat.le_of_ble_eq_true rfl) (Nat.le_of_ble_eq_true rfl) (c_put S (nc rfl) (n := 24) rfl (by decide) (e : Int) ((m 10) 3) (by omega) (by omega) (by omega) (by omega)) (fun r112 H112 q112 => ?_)
        obtain ⟨rfl, S⟩ := q112
        have S : ST H112 (up m 26 (ptn 24 (m 26) (e : Int) ((m 10) 3))) γ t := S
        show wp _ _ _ _ _ [] _ _
        refine wp_g (n := 1) (pc' := 125) (L' := [some (.ref 10), some (.int (iI (e : Int))), some (.int (iI (fr : Int))), some (.int (iI (sd : Int))), some (.int (iI ((sdX ((sd : Int) % 4)) - (sdX ((fr : Int) % 4))))), some (.int (iI ((sdY ((sd : Int) % 4)) - (sdY ((fr : Int) % 4))))), some (.int (iI 1)), some (.int (iI 0))]) (st' := [.ref 10]) rfl ?_
        refine wp_getf (v := .ref 20) rfl rfl (S.cell 10 (nc rfl)) (by decide) rfl ?_
        refine wp_g (n := 1) (pc' := 129) (L' := [some (.ref 10), some (.int (iI (e : Int))), some (.int (iI (fr : Int))), some (.int (iI (sd : Int))), some (.int (iI ((sdX ((sd : Int) % 4)) - (sdX ((fr : Int) % 4))))), some (.int (iI ((sdY ((sd : Int) % 4)) - (sdY ((fr : Int) % 4))))), some (.int (iI 1)), some (.int (iI 0))]) (st' := [.ref 10, .ref 20]) rfl ?_
        refine wp_getf (v := .int (iI ((m 10) 3))) rfl rfl (S.cell 10 (nc rfl)) (by decide) rfl ?_
        have hr113 : -2147483648 ≤ ((m 10) 3) ∧ ((m 10) 3) < 2147483648 := S.rg 10 3 (nl rfl)
        refine wp_g (n := 1) (pc' := 133) (L' := [some (.ref 10), some (.int (iI (e : Int))), some (.int (iI (fr : Int))), some (.int (iI (sd : Int))), some (.int (iI ((sdX ((sd : Int) % 4)) - (sdX ((fr : Int) % 4))))), some (.int (iI ((sdY ((sd : Int) % 4)) - (sdY ((fr : Int) % 4))))), some (.int (iI 1)), some (.int (iI 0))]) (st' := [.int (iI (e : Int)), .int (iI ((m 10) 3)), .ref 20]) rfl ?_
        refine wp_cs (As := [.ref 20, .int (iI ((m 10) 3)), .int (iI (e : Int))]) (rest := []) rfl rfl rfl rfl (Nat.le_of_ble_eq_true rfl) (Nat.le_of_ble_eq_true rfl) (c_put S (nc rfl) (n := 48) rfl (by decide) ((m 10) 3) (e : Int) (by omega) (by omega) (by omega) (by omega)) (fun r114 H114 q114 => ?_)
        obtain ⟨rfl, S⟩ := q114
        have S : ST H114 (up (up m 26 (ptn 24 (m 26) (e : Int) ((m 10) 3))) 20 (ptn 48 (m 20) ((m 10) 3) (e : Int))) γ t := S
        show wp _ _ _ _ _ [] _ _
        refine wp_g (n := 1) (pc' := 137) (L' := [some (.ref 10), some (.int (iI (e : Int))), some (.int (iI (fr : Int))), some (.int (iI (sd : Int))), some (.int (iI ((sdX ((sd : Int) % 4)) - (sdX ((fr : Int) % 4))))), some (.int (iI ((sdY ((sd : Int) % 4)) - (sdY ((fr : Int) % 4))))), some (.int (iI 1)), some (.int (iI 0))]) (st' := [.ref 10]) rfl ?_
        refine wp_getf (v := .ref 21) rfl rfl (S.cell 10 (nc rfl)) (by decide) rfl ?_
        refine wp_g (n := 1) (pc' := 141) (L' := [some (.ref 10), some (.int (iI (e : Int))), some (.int (iI (fr : Int))), some (.int (iI (sd : Int))), some (.int (iI ((sdX ((sd : Int) % 4)) - (sdX ((fr : Int) % 4))))), some (.int (iI ((sdY ((sd : Int) % 4)) - (sdY ((fr : Int) % 4))))), some (.int (iI 1)), some (.int (iI 0))]) (st' := [.ref 10, .ref 21]) rfl ?_
        refine wp_getf (v := .int (iI ((m 10) 3))) rfl rfl (S.cell 10 (nc rfl)) (by decide) rfl ?_
        have hr115 : -2147483648 ≤ ((m 10) 3) ∧ ((m 10) 3) < 2147483648 := S.rg 10 3 (nl rfl)
        refine wp_g (n := 1) (pc' := 145) (L' := [some (.ref 10), some (.int (iI (e : Int))), some (.int (iI (fr : Int))), some (.int (iI (sd : Int))), some (.int (iI ((sdX ((sd : Int) % 4)) - (sdX ((fr : Int) % 4))))), some (.int (iI ((sdY ((sd : Int) % 4)) - (sdY ((fr : Int) % 4))))), some (.int (iI 1)), some (.int (iI 0))]) (st' := [.ref 10, .int (iI ((m 10) 3)), .ref 21]) rfl ?_
        refine wp_getf (v := .int (iI ((m 10) 1))) rfl rfl (S.cell 10 (nc rfl)) (by decide) rfl ?_
        have hr116 : -2147483648 ≤ ((m 10) 1) ∧ ((m 10) 1) < 2147483648 := S.rg 10 1 (nl rfl)
        refine wp_cs (As := [.ref 21, .int (iI ((m 10) 3)), .int (iI ((m 10) 1))]) (rest := []) rfl rfl rfl rfl (Nat.le_of_ble_eq_true rfl) (Nat.le_of_ble_eq_true rfl) (c_put S (nc rfl) (n := 48) rfl (by decide) ((m 10) 3) ((m 10) 1) (by omega) (by omega) (by omega) (by omega)) (fun r117 H117 q117 => ?_)
        obtain ⟨rfl, S⟩ := q117
        have S : ST H117 (up (up (up m 26 (ptn 24 (m 26) (e : Int) ((m 10) 3))) 20 (ptn 48 (m 20) ((m 10) 3) (e : Int))) 21 (ptn 48 (m 21) ((m 10) 3) ((m 10) 1))) γ t := S
        show wp _ _ _ _ _ [] _ _
        refine wp_g (n := 1) (pc' := 152) (L' := [some (.ref 10), some (.int (iI (e : Int))), some (.int (iI (fr : Int))), some (.int (iI (sd : Int))), some (.int (iI ((sdX ((sd : Int) % 4)) - (sdX ((fr : Int) % 4))))), some (.int (iI ((sdY ((sd : Int) % 4)) - (sdY ((fr : Int) % 4))))), some (.int (iI 1)), some (.int (iI 0))]) (st' := [.ref 10]) rfl ?_
        refine wp_getf (v := .ref 22) rfl rfl (S.cell 10 (nc rfl)) (by decide) rfl ?_
        refine wp_g (n := 1) (pc' := 156) (L' := [some (.ref 10), some (.int (iI (e : Int))), some (.int (iI (fr : Int))), some (.int (iI (sd : Int))), some (.int (iI ((sdX ((sd : Int) % 4)) - (sdX ((fr : Int) % 4))))), some (.int (iI ((sdY ((sd : Int) % 4)) - (sdY ((fr : Int) % 4))))), some (.int (iI 1)), some (.int (iI 0))]) (st' := [.ref 10, .ref 22]) rfl ?_
        refine wp_getf (v := .int (iI ((m 10) 3))) rfl rfl (S.cell 10 (nc rfl)) (by decide) rfl ?_
        have hr118 : -2147483648 ≤ ((m 10) 3) ∧ ((m 10) 3) < 2147483648 := S.rg 10 3 (nl rfl)
        refine wp_g (n := 1) (pc' := 161) (L' := [some (.ref 10), some (.int (iI (e : Int))), some (.int (iI (fr : Int))), some (.int (iI (sd : Int))), some (.int (iI ((sdX ((sd : Int) % 4)) - (sdX ((fr : Int) % 4))))), some (.int (iI ((sdY ((sd : Int) % 4)) - (sdY ((fr : Int) % 4))))), some (.int (iI 1)), some (.int (iI 0))]) (st' := [.int (iI ((sdX ((sd : Int) % 4)) - (sdX ((fr : Int) % 4)))), .int (iI ((m 10) 3)), .ref 22]) rfl ?_
        refine wp_cs (As := [.ref 22, .int (iI ((m 10) 3)), .int (iI ((sdX ((sd : Int) % 4)) - (sdX ((fr : Int) % 4))))]) (rest := []) rfl rfl rfl rfl (Nat.le_of_ble_eq_true rfl) (Nat.le_of_ble_eq_true rfl) (c_put S (nc rfl) (n := 48) rfl (by decide) ((m 10) 3) ((sdX ((sd : Int) % 4)) - (sdX ((fr : Int) % 4))) (by omega) (by omega) (by omega) (by omega)) (fun r119 H119 q119 => ?_)
        obtain ⟨rfl, S⟩ := q119
        have S : ST H119 (up (up (up (up m 26 (ptn 24 (m 26) (e : Int) ((m 10) 3))) 20 (ptn 48 (m 20) ((m 10) 3) (e : Int))) 21 (ptn 48 (m 21) ((m 10) 3) ((m 10) 1))) 22 (ptn 48 (m 22) ((m 10) 3) ((sdX ((sd : Int) % 4)) - (sdX ((fr : Int) % 4))))) γ t := S
        show wp _ _ _ _ _ [] _ _
        refine wp_g (n := 1) (pc' := 165) (L' := [some (.ref 10), some (.int (iI (e : Int))), some (.int (iI (fr : Int))), some (.int (iI (sd : Int))), some (.int (iI ((sdX ((sd : Int) % 4)) - (sdX ((fr : Int) % 4))))), some (.int (iI ((sdY ((sd : Int) % 4)) - (sdY ((fr : Int) % 4))))), some (.int (iI 1)), some (.int (iI 0))]) (st' := [.ref 10]) rfl ?_
        refine wp_getf (v := .ref 23) rfl rfl (S.cell 10 (nc rfl)) (by decide) rfl ?_
        refine wp_g (n := 1) (pc' := 169) (L' := [some (.ref 10), some (.int (iI (e : Int))), some (.int (iI (fr : Int))), some (.int (iI (sd : Int))), some (.int (iI ((sdX ((sd : Int) % 4)) - (sdX ((fr : Int) % 4))))), some (.int (iI ((sdY ((sd : Int) % 4)) - (sdY ((fr : Int) % 4))))), some (.int (iI 1)), some (.int (iI 0))]) (st' := [.ref 10, .ref 23]) rfl ?_
        refine wp_getf (v := .int (iI ((m 10) 3))) rfl rfl (S.cell 10 (nc rfl)) (by decide) rfl ?_
        have hr120 : -2147483648 ≤ ((m 10) 3) ∧ ((m 10) 3) < 2147483648 := S.rg 10 3 (nl rfl)
        refine wp_g (n := 1) (pc' := 174) (L' := [some (.ref 10), some (.int (iI (e : Int))), some (.int (iI (fr : Int))), some (.int (iI (sd : Int))), some (.int (iI ((sdX ((sd : Int) % 4)) - (sdX ((fr : Int) % 4))))), some (.int (iI ((sdY ((sd : Int) % 4)) - (sdY ((fr : Int) % 4))))), some (.int (iI 1)), some (.int (iI 0))]) (st' := [.int (iI ((sdY ((sd : Int) % 4)) - (sdY ((fr : Int) % 4)))), .int (iI ((m 10) 3)), .ref 23]) rfl ?_
        refine wp_cs (As := [.ref 23, .int (iI ((m 10) 3)), .int (iI ((sdY ((sd : Int) % 4)) - (sdY ((fr : Int) % 4))))]) (rest := []) rfl rfl rfl rfl (Nat.le_of_ble_eq_true rfl) (Nat.le_of_ble_eq_true rfl) (c_put S (nc rfl) (n := 48) rfl (by decide) ((m 10) 3) ((sdY ((sd : Int) % 4)) - (sdY ((fr : Int) % 4))) (by omega) (by omega) (by omega) (by omega)) (fun r121 H121 q121 => ?_)
        obtain ⟨rfl, S⟩ := q121
        have S : ST H121 (up (up (up (up (up m 26 (ptn 24 (m 26) (e : Int) ((m 10) 3))) 20 (ptn 48 (m 20) ((m 10) 3) (e : Int))) 21 (ptn 48 (m 21) ((m 10) 3) ((m 10) 1))) 22 (ptn 48 (m 22) ((m 10) 3) ((sdX ((sd : Int) % 4)) - (sdX ((fr : Int) % 4))))) 23 (ptn 48 (m 23) ((m 10) 3) ((sdY ((sd : Int) % 4)) - (sdY ((fr : Int) % 4))))) γ t := S
        show wp _ _ _ _ _ [] _ _
        refine wp_g (n := 2) (pc' := 179) (L' := [some (.ref 10), some (.int (iI (e : Int))), some (.int (iI (fr : Int))), some (.int (iI (sd : Int))), some (.int (iI ((sdX ((sd : Int) % 4)) - (sdX ((fr : Int) % 4))))), some (.int (iI ((sdY ((sd : Int) % 4)) - (sdY ((fr : Int) % 4))))), some (.int (iI 1)), some (.int (iI 0))]) (st' := [.ref 10, .ref 10]) rfl ?_
        refine wp_getf (v := .int (iI ((m 10) 3))) rfl rfl (S.cell 10 (nc rfl)) (by decide) rfl ?_
        have hr122 : -2147483648 ≤ ((m 10) 3) ∧ ((m 10) 3) < 2147483648 := S.rg 10 3 (nl rfl)
        refine wp_g (n := 1) (pc' := 183) (L' := [some (.ref 10), some (.int (iI (e : Int))), some (.int (iI (fr : Int))), some (.int (iI (sd : Int))), some (.int (iI ((sdX ((sd : Int) % 4)) - (sdX ((fr : Int) % 4))))), some (.int (iI ((sdY ((sd : Int) % 4)) - (sdY ((fr : Int) % 4))))), some (.int (iI 1)), some (.int (iI 0))]) (st' := [.int (iI 1), .int (iI ((m 10) 3)), .ref 10]) rfl ?_
        refine wp_add rfl ?_
        refine wp_putI rfl rfl (S.cell 10 (nc rfl)) (Nat.le_of_ble_eq_true rfl) rfl (fun H123 hl123 hz123 hf123 => ?_)
        have S : ST H123 (up (up (up (up (up (up m 26 (ptn 24 (m 26) (e : Int) ((m 10) 3))) 20 (ptn 48 (m 20) ((m 10) 3) (e : Int))) 21 (ptn 48 (m 21) ((m 10) 3) ((m 10) 1))) 22 (ptn 48 (m 22) ((m 10) 3) ((sdX ((sd : Int) % 4)) - (sdX ((fr : Int) % 4))))) 23 (ptn 48 (m 23) ((m 10) 3) ((sdY ((sd : Int) % 4)) - (sdY ((fr : Int) % 4))))) 10 (up (m 10) 3 (((m 10) 3) + 1))) γ t := S.setI 10 (nc rfl) hl123 hz123 hf123 (by omega) (by omega)
        refine wp_vret rfl rfl ?_
        first
          | (exfalso; revert ho; simp only [c1, c65, c97, decide_true, decide_false] <;> decide)
          | (refine ⟨rfl, S.same_m ?_⟩
             rw [h1, h2, ptn_in he2, ptn_in hn, ptn_in hn, ptn_in hn, ptn_in hn]
             rfl)
theorem c_passU (S : ST h m γ t) (hγ : γ 11 = (R, C, kd)) {s n e fr sd : Nat} (h1 : m 10 1 = (s : Int)) (h2 : m 10 3 = (n : Int)) (he : e < gn R C) (hn : n < 48) (hs : s < 1000) (hfr : fr < 4) (hsd : sd < 4) (ho : ((decide (sdX ((sd : Int) % 4) - sdX ((fr : Int) % 4) = sdY ((sd : Int) % 4) - sdY ((fr : Int) % 4)) == decide ((gbel R C e : Int) = 0)) != decide (kd e = 1)) = false) : wp E (k + 2) 98 0 (am_entry [.ref 10, .int (iI (e : Int)), .int (iI (fr : Int)), .int (iI (sd : Int))] 8) [] h (fun r h1 => r = none ∧ ST h1 (passM m s e n (sdX ((sd : Int) % 4) - sdX ((fr : Int) % 4)) (sdY ((sd : Int) % 4) - sdY ((fr : Int) % 4)) false) γ t) := by
  have hx1 : ∀ z, -1 ≤ sdX z ∧ sdX z ≤ 1 := fun z => by unfold sdX; split; omega; split <;> omega
  have hy1 : ∀ z, -1 ≤ sdY z ∧ sdY z ≤ 1 := fun z => by unfold sdY; split; omega; split <;> omega
  have q1 := hx1 ((sd : Int) % 4)
  have q2 := hx1 ((fr : Int) % 4)
  have q3 := hy1 ((sd : Int) % 4)
  have q4 := hy1 ((fr : Int) % 4)
  have hgn := gn_le R (S.gq hγ (gi rfl)).1.le.1 C (S.gq hγ (gi rfl)).1.le.2
  have he2 : e < 24 := by omega
  refine wp_getst (b := 1001000) rfl rfl ?_
  refine wp_g (n := 2) (pc' := 5) (L' := [some (.ref 10), some (.int (iI (e : Int))), some (.int (iI (fr : Int))), some (.int (iI (sd : Int))), none, none, none, none]) (st' := [.int (iI 3), .int (iI (sd : Int)), .ref 1001000]) rfl ?_
  refine wp_and3 rfl (by omega) (by omega) ?_
  refine wp_sdx rfl (by omega) (by omega) ?_
  refine wp_getst (b := 1001000) rfl rfl ?_
  refine wp_g (n := 2) (pc' := 12) (L' := [some (.ref 10), some (.int (iI (e : Int))), some (.int (iI (fr : Int))), some (.int (iI (sd : Int))), none, none, none, none]) (st' := [.int (iI 3), .int (iI (fr : Int)), .ref 1001000, .int (iI (sdX ((sd : Int) % 4)))]) rfl ?_
  refine wp_and3 rfl (by omega) (by omega) ?_
  refine wp_sdx rfl (by omega) (by omega) ?_
  refine wp_sub rfl ?_
  refine wp_g (n := 1) (pc' := 17) (L' := [some (.ref 10), some (.int (iI (e : Int))), some (.int (iI (fr : Int))), some (.int (iI (sd : Int))), some (.int (iI ((sdX ((sd : Int) % 4)) - (sdX ((fr : Int) % 4))))), none, none, none]) (st' := []) rfl ?_
  refine wp_getst (b := 1001001) rfl rfl ?_
  refine wp_g (n := 2) (pc' := 22) (L' := [some (.ref 10), some (.int (iI (e : Int))), some (.int (iI (fr : Int))), some (.int (iI (sd : Int))), some (.int (iI ((sdX ((sd : Int) % 4)) - (sdX ((fr : Int) % 4))))), none, none, none]) (st' := [.int (iI 3), .int (iI (sd : Int)), .ref 1001001]) rfl ?_
  refine wp_and3 rfl (by omega) (by omega) ?_
  refine wp_sdy rfl (by omega) (by omega) ?_
  refine wp_getst (b := 1001001) rfl rfl ?_
  refine wp_g (n := 2) (pc' := 29) (L' := [some (.ref 10), some (.int (iI (e : Int))), some (.int (iI (fr : Int))), some (.int (iI (sd : Int))), some (.int (iI ((sdX ((sd : Int) % 4)) - (sdX ((fr : Int) % 4))))), none, none, none]) (st' := [.int (iI 3), .int (iI (fr : Int)), .ref 1001001, .int (iI (sdY ((sd : Int) % 4)))]) rfl ?_
  refine wp_and3 rfl (by omega) (by omega) ?_
  refine wp_sdy rfl (by omega) (by omega) ?_
  refine wp_sub rfl ?_
  refine wp_g (n := 3) (pc' := 38) (L' := [some (.ref 10), some (.int (iI (e : Int))), some (.int (iI (fr : Int))), some (.int (iI (sd : Int))), some (.int (iI ((sdX ((sd : Int) % 4)) - (sdX ((fr : Int) % 4))))), some (.int (iI ((sdY ((sd : Int) % 4)) - (sdY ((fr : Int) % 4))))), none, none]) (st' := [.int (iI ((sdY ((sd : Int) % 4)) - (sdY ((fr : Int) % 4)))), .int (iI ((sdX ((sd : Int) % 4)) - (sdX ((fr : Int) % 4))))]) rfl ?_
  refine wp_icmpI (a := ((sdX ((sd : Int) % 4)) - (sdX ((fr : Int) % 4)))) (b := ((sdY ((sd : Int) % 4)) - (sdY ((fr : Int) % 4)))) rfl rfl (by omega) (by omega) (by omega) (by omega) (fun c1 => ?_) (fun c1 => ?_)
  · have c1 : (¬ (((sdX ((sd : Int) % 4)) - (sdX ((fr : Int) % 4))) : Int) = ((sdY ((sd : Int) % 4)) - (sdY ((fr : Int) % 4)))) := c1
    refine wp_g (n := 4) (pc' := 51) (L' := [some (.ref 10), some (.int (iI (e : Int))), some (.int (iI (fr : Int))), some (.int (iI (sd : Int))), some (.int (iI ((sdX ((sd : Int) % 4)) - (sdX ((fr : Int) % 4))))), some (.int (iI ((sdY ((sd : Int) % 4)) - (sdY ((fr : Int) % 4))))), some (.int (iI 0)), none]) (st' := [.ref 10, .int (iI 0)]) rfl ?_
    refine wp_getf (v := .ref 11) rfl rfl (S.cell 10 (nc rfl)) (by decide) rfl ?_
    refine wp_g (n := 1) (pc' := 55) (L' := [some (.ref 10), some (.int (iI (e : Int))), some (.int (iI (fr : Int))), some (.int (iI (sd : Int))), some (.int (iI ((sdX ((sd : Int) % 4)) - (sdX ((fr : Int) % 4))))), some (.int (iI ((sdY ((sd : Int) % 4)) - (sdY ((fr : Int) % 4))))), some (.int (iI 0)), none]) (st' := [.int (iI (e : Int)), .ref 11, .int (iI 0)]) rfl ?_
    refine wp_cv (As := [.int (iI (e : Int))]) (rest := [.int (iI 0)]) rfl rfl (S.gq hγ (gi rfl)).obj (by decide) rfl rfl rfl (Nat.le_of_ble_eq_true rfl) (Nat.le_of_ble_eq_true rfl) (G_belowOfI (S.gq hγ (gi rfl)) (e : Int) (by omega) (by omega)) (fun r2 H2 q2 => ?_)
    obtain ⟨rfl, e2⟩ := q2
    rw [e2]
    show wp _ _ _ _ _ [.int (iI (gbel R C e : Int)), .int (iI 0)] _ _
    have hb3 := gbel_le R C e
    refine wp_ifI (a := (gbel R C e : Int)) rfl rfl (by omega) (by omega) (fun c4 => ?_) (fun c4 => ?_)
    · have c4 : (¬ ((gbel R C e : Int) : Int) = 0) := c4
      refine wp_g (n := 1) (pc' := 66) (L' := [some (.ref 10), some (.int (iI (e : Int))), some (.int (iI (fr : Int))), some (.int (iI (sd : Int))), some (.int (iI ((sdX ((sd : Int) % 4)) - (sdX ((fr : Int) % 4))))), some (.int (iI ((sdY ((sd : Int) % 4)) - (sdY ((fr : Int) % 4))))), some (.int (iI 0)), none]) (st' := [.int (iI 0), .int (iI 0)]) rfl ?_
      refine wp_g (n := 1) (pc' := 69) (L' := [some (.ref 10), some (.int (iI (e : Int))), some (.int (iI (fr : Int))), some (.int (iI (sd : Int))), some (.int (iI ((sdX ((sd : Int) % 4)) - (sdX ((fr : Int) % 4))))), some (.int (iI ((sdY ((sd : Int) % 4)) - (sdY ((fr : Int) % 4))))), some (.int (iI 0)), none]) (st' := []) rfl ?_
      refine wp_g (n := 4) (pc' := 77) (L' := [some (.ref 10), some (.int (iI (e : Int))), some (.int (iI (fr : Int))), some (.int (iI (sd : Int))), some (.int (iI ((sdX ((sd : Int) % 4)) - (sdX ((fr : Int) % 4))))), some (.int (iI ((sdY ((sd : Int) % 4)) - (sdY ((fr : Int) % 4))))), some (.int (iI 0)), some (.int (iI 1))]) (st' := [.ref 10]) rfl ?_
      refine wp_getf (v := .ref 11) rfl rfl (S.cell 10 (nc rfl)) (by decide) rfl ?_
      refine wp_g (n := 1) (pc' := 81) (L' := [some (.ref 10), some (.int (iI (e : Int))), some (.int (iI (fr : Int))), some (.int (iI (sd : Int))), some (.int (iI ((sdX ((sd : Int) % 4)) - (sdX ((fr : Int) % 4))))), some (.int (iI ((sdY ((sd : Int) % 4)) - (sdY ((fr : Int) % 4))))), some (.int (iI 0)), some (.int (iI 1))]) (st' := [.int (iI (e : Int)), .ref 11]) rfl ?_
      refine wp_cv (As := [.int (iI (e : Int))]) (rest := []) rfl rfl (S.gq hγ (gi rfl)).obj (by decide) rfl rfl rfl (Nat.le_of_ble_eq_true rfl) (Nat.le_of_ble_eq_true rfl) (G_kindOfI (S.gq hγ (gi rfl)) (e : Int) (by omega) (by omega)) (fun r5 H5 q5 => ?_)
      obtain ⟨rfl, e5⟩ := q5
      rw [e5]
      show wp _ _ _ _ _ [.int (iI (kd e))] _ _
      have hk6 := ((S.gq hγ (gi rfl))).2.1 e (by omega)
      refine wp_g (n := 1) (pc' := 85) (L' := [some (.ref 10), some (.int (iI (e : Int))), some (.int (iI (fr : Int))), some (.int (iI (sd : Int))), some (.int (iI ((sdX ((sd : Int) % 4)) - (sdX ((fr : Int) % 4))))), some (.int (iI ((sdY ((sd : Int) % 4)) - (sdY ((fr : Int) % 4))))), some (.int (iI 0)), some (.int (iI 1))]) (st' := [.int (iI 1), .int (iI (kd e))]) rfl ?_
      refine wp_icmpI (a := (kd e)) (b := 1) rfl rfl (by omega) (by omega) (by omega) (by omega) (fun c7 => ?_) (fun c7 => ?_)
      · have c7 : (¬ ((kd e) : Int) = 1) := c7
        refine wp_g (n := 1) (pc' := 102) (L' := [some (.ref 10), some (.int (iI (e : Int))), some (.int (iI (fr : Int))), some (.int (iI (sd : Int))), some (.int (iI ((sdX ((sd : Int) % 4)) - (sdX ((fr : Int) % 4))))), some (.int (iI ((sdY ((sd : Int) % 4)) - (sdY ((fr : Int) % 4))))), some (.int (iI 0)), some (.int (iI 1))]) (st' := [.int (iI 1)]) rfl ?_
        refine wp_g (n := 1) (pc' := 105) (L' := [some (.ref 10), some (.int (iI (e : Int))), some (.int (iI (fr : Int))), some (.int (iI (sd : Int))), some (.int (iI ((sdX ((sd : Int) % 4)) - (sdX ((fr : Int) % 4))))), some (.int (iI ((sdY ((sd : Int) % 4)) - (sdY ((fr : Int) % 4))))), some (.int (iI 0)), some (.int (iI 1))]) (st' := []) rfl ?_
        refine wp_g (n := 1) (pc' := 106) (L' := [some (.ref 10), some (.int (iI (e : Int))), some (.int (iI (fr : Int))), some (.int (iI (sd : Int))), some (.int (iI ((sdX ((sd : Int) % 4)) - (sdX ((fr : Int) % 4))))), some (.int (iI ((sdY ((sd : Int) % 4)) - (sdY ((fr : Int) % 4))))), some (.int (iI 0)), some (.int (iI 1))]) (st' := [.ref 10]) rfl ?_
        refine wp_getf (v := .ref 25) rfl rfl (S.cell 10 (nc rfl)) (by decide) rfl ?_
        refine wp_g (n := 3) (pc' := 118) (L' := [some (.ref 10), some (.int (iI (e : Int))), some (.int (iI (fr : Int))), some (.int (iI (sd : Int))), some (.int (iI ((sdX ((sd : Int) % 4)) - (sdX ((fr : Int) % 4))))), some (.int (iI ((sdY ((sd : Int) % 4)) - (sdY ((fr : Int) % 4))))), some (.int (iI 0)), some (.int (iI 1))]) (st' := [.ref 10, .int (iI (e : Int)), .ref 25]) rfl ?_
        refine wp_getf (v := .int (iI ((m 10) 3))) rfl rfl (S.cell 10 (nc rfl)) (by decide) rfl ?_
        have hr8 : -2147483648 ≤ ((m 10) 3) ∧ ((m 10) 3) < 2147483648 := S.rg 10 3 (nl rfl)
        refine wp_cs (As := [.ref 25, .int (iI (e : Int)), .int (iI ((m 10) 3))]) (rest := []) rfl rfl rfl rfl (Nat.le_of_ble_eq_true rfl) (Nat.le_of_ble_eq_true rfl) (c_put S (nc rfl) (n := 24) rfl (by decide) (e : Int) ((m 10) 3) (by omega) (by omega) (by omega) (by omega)) (fun r9 H9 q9 => ?_)
        obtain ⟨rfl, S⟩ := q9
        have S : ST H9 (up m 25 (ptn 24 (m 25) (e : Int) ((m 10) 3))) γ t := S
        show wp _ _ _ _ _ [] _ _
        refine wp_g (n := 1) (pc' := 125) (L' := [some (.ref 10), some (.int (iI (e : Int))), some (.int (iI (fr : Int))), some (.int (iI (sd : Int))), some (.int (iI ((sdX ((sd : Int) % 4)) - (sdX ((fr : Int) % 4))))), some (.int (iI ((sdY ((sd : Int) % 4)) - (sdY ((fr : Int) % 4))))), some (.int (iI 0)), some (.int (iI 1))]) (st' := [.ref 10]) rfl ?_
        refine wp_getf (v := .ref 20) rfl rfl (S.cell 10 (nc rfl)) (by decide) rfl ?_
        refine wp_g (n := 1) (pc' := 129) (L' := [some (.ref 10), some (.int (iI (e : Int))), some (.int (iI (fr : Int))), some (.int (iI (sd : Int))), some (.int (iI ((sdX ((sd : Int) % 4)) - (sdX ((fr : Int) % 4))))), some (.int (iI ((sdY ((sd : Int) % 4)) - (sdY ((fr : Int) % 4))))), some (.int (iI 0)), some (.int (iI 1))]) (st' := [.ref 10, .ref 20]) rfl ?_
        refine wp_getf (v := .int (iI ((m 10) 3))) rfl rfl (S.cell 10 (nc rfl)) (by decide) rfl ?_
        have hr10 : -2147483648 ≤ ((m 10) 3) ∧ ((m 10) 3) < 2147483648 := S.rg 10 3 (nl rfl)
        refine wp_g (n := 1) (pc' := 133) (L' := [some (.ref 10), some (.int (iI (e : Int))), some (.int (iI (fr : Int))), some (.int (iI (sd : Int))), some (.int (iI ((sdX ((sd : Int) % 4)) - (sdX ((fr : Int) % 4))))), some (.int (iI ((sdY ((sd : Int) % 4)) - (sdY ((fr : Int) % 4))))), some (.int (iI 0)), some (.int (iI 1))]) (st' := [.int (iI (e : Int)), .int (iI ((m 10) 3)), .ref 20]) rfl ?_
        refine wp_cs (As := [.ref 20, .int (iI ((m 10) 3)), .int (iI (e : Int))]) (rest := []) rfl rfl rfl rfl (Nat.le_of_ble_eq_true rfl) (Nat.le_of_ble_eq_true rfl) (c_put S (nc rfl) (n := 48) rfl (by decide) ((m 10) 3) (e : Int) (by omega) (by omega) (by omega) (by omega)) (fun r11 H11 q11 => ?_)
        obtain ⟨rfl, S⟩ := q11
        have S : ST H11 (up (up m 25 (ptn 24 (m 25) (e : Int) ((m 10) 3))) 20 (ptn 48 (m 20) ((m 10) 3) (e : Int))) γ t := S
        show wp _ _ _ _ _ [] _ _
        refine wp_g (n := 1) (pc' := 137) (L' := [some (.ref 10), some (.int (iI (e : Int))), some (.int (iI (fr : Int))), some (.int (iI (sd : Int))), some (.int (iI ((sdX ((sd : Int) % 4)) - (sdX ((fr : Int) % 4))))), some (.int (iI ((sdY ((sd : Int) % 4)) - (sdY ((fr : Int) % 4))))), some (.int (iI 0)), some (.int (iI 1))]) (st' := [.ref 10]) rfl ?_
        refine wp_getf (v := .ref 21) rfl rfl (S.cell 10 (nc rfl)) (by decide) rfl ?_
        refine wp_g (n := 1) (pc' := 141) (L' := [some (.ref 10), some (.int (iI (e : Int))), some (.int (iI (fr : Int))), some (.int (iI (sd : Int))), some (.int (iI ((sdX ((sd : Int) % 4)) - (sdX ((fr : Int) % 4))))), some (.int (iI ((sdY ((sd : Int) % 4)) - (sdY ((fr : Int) % 4))))), some (.int (iI 0)), some (.int (iI 1))]) (st' := [.ref 10, .ref 21]) rfl ?_
        refine wp_getf (v := .int (iI ((m 10) 3))) rfl rfl (S.cell 10 (nc rfl)) (by decide) rfl ?_
        have hr12 : -2147483648 ≤ ((m 10) 3) ∧ ((m 10) 3) < 2147483648 := S.rg 10 3 (nl rfl)
        refine wp_g (n := 1) (pc' := 145) (L' := [some (.ref 10), some (.int (iI (e : Int))), some (.int (iI (fr : Int))), some (.int (iI (sd : Int))), some (.int (iI ((sdX ((sd : Int) % 4)) - (sdX ((fr : Int) % 4))))), some (.int (iI ((sdY ((sd : Int) % 4)) - (sdY ((fr : Int) % 4))))), some (.int (iI 0)), some (.int (iI 1))]) (st' := [.ref 10, .int (iI ((m 10) 3)), .ref 21]) rfl ?_
        refine wp_getf (v := .int (iI ((m 10) 1))) rfl rfl (S.cell 10 (nc rfl)) (by decide) rfl ?_
        have hr13 : -2147483648 ≤ ((m 10) 1) ∧ ((m 10) 1) < 2147483648 := S.rg 10 1 (nl rfl)
        refine wp_cs (As := [.ref 21, .int (iI ((m 10) 3)), .int (iI ((m 10) 1))]) (rest := []) rfl rfl rfl rfl (Nat.le_of_ble_eq_true rfl) (Nat.le_of_ble_eq_true rfl) (c_put S (nc rfl) (n := 48) rfl (by decide) ((m 10) 3) ((m 10) 1) (by omega) (by omega) (by omega) (by omega)) (fun r14 H14 q14 => ?_)
        obtain ⟨rfl, S⟩ := q14
        have S : ST H14 (up (up (up m 25 (ptn 24 (m 25) (e : Int) ((m 10) 3))) 20 (ptn 48 (m 20) ((m 10) 3) (e : Int))) 21 (ptn 48 (m 21) ((m 10) 3) ((m 10) 1))) γ t := S
        show wp _ _ _ _ _ [] _ _
        refine wp_g (n := 1) (pc' := 152) (L' := [some (.ref 10), some (.int (iI (e : Int))), some (.int (iI (fr : Int))), some (.int (iI (sd : Int))), some (.int (iI ((sdX ((sd : Int) % 4)) - (sdX ((fr : Int) % 4))))), some (.int (iI ((sdY ((sd : Int) % 4)) - (sdY ((fr : Int) % 4))))), some (.int (iI 0)), some (.int (iI 1))]) (st' := [.ref 10]) rfl ?_
        refine wp_getf (v := .ref 22) rfl rfl (S.cell 10 (nc rfl)) (by decide) rfl ?_
        refine wp_g (n := 1) (pc' := 156) (L' := [some (.ref 10), some (.int (iI (e : Int))), some (.int (iI (fr : Int))), some (.int (iI (sd : Int))), some (.int (iI ((sdX ((sd : Int) % 4)) - (sdX ((fr : Int) % 4))))), some (.int (iI ((sdY ((sd : Int) % 4)) - (sdY ((fr : Int) % 4))))), some (.int (iI 0)), some (.int (iI 1))]) (st' := [.ref 10, .ref 22]) rfl ?_
        refine wp_getf (v := .int (iI ((m 10) 3))) rfl rfl (S.cell 10 (nc rfl)) (by decide) rfl ?_
        have hr15 : -2147483648 ≤ ((m 10) 3) ∧ ((m 10) 3) < 2147483648 := S.rg 10 3 (nl rfl)
        refine wp_g (n := 1) (pc' := 161) (L' := [some (.ref 10), some (.int (iI (e : Int))), some (.int (iI (fr : Int))), some (.int (iI (sd : Int))), some (.int (iI ((sdX ((sd : Int) % 4)) - (sdX ((fr : Int) % 4))))), some (.int (iI ((sdY ((sd : Int) % 4)) - (sdY ((fr : Int) % 4))))), some (.int (iI 0)), some (.int (iI 1))]) (st' := [.int (iI ((sdX ((sd : Int) % 4)) - (sdX ((fr : Int) % 4)))), .int (iI ((m 10) 3)), .ref 22]) rfl ?_
        refine wp_cs (As := [.ref 22, .int (iI ((m 10) 3)), .int (iI ((sdX ((sd : Int) % 4)) - (sdX ((fr : Int) % 4))))]) (rest := []) rfl rfl rfl rfl (Nat.le_of_ble_eq_true rfl) (Nat.le_of_ble_eq_true rfl) (c_put S (nc rfl) (n := 48) rfl (by decide) ((m 10) 3) ((sdX ((sd : Int) % 4)) - (sdX ((fr : Int) % 4))) (by omega) (by omega) (by omega) (by omega)) (fun r16 H16 q16 => ?_)
        obtain ⟨rfl, S⟩ := q16
        have S : ST H16 (up (up (up (up m 25 (ptn 24 (m 25) (e : Int) ((m 10) 3))) 20 (ptn 48 (m 20) ((m 10) 3) (e : Int))) 21 (ptn 48 (m 21) ((m 10) 3) ((m 10) 1))) 22 (ptn 48 (m 22) ((m 10) 3) ((sdX ((sd : Int) % 4)) - (sdX ((fr : Int) % 4))))) γ t := S
        show wp _ _ _ _ _ [] _ _
        refine wp_g (n := 1) (pc' := 165) (L' := [some (.ref 10), some (.int (iI (e : Int))), some (.int (iI (fr : Int))), some (.int (iI (sd : Int))), some (.int (iI ((sdX ((sd : Int) % 4)) - (sdX ((fr : Int) % 4))))), some (.int (iI ((sdY ((sd : Int) % 4)) - (sdY ((fr : Int) % 4))))), some (.int (iI 0)), some (.int (iI 1))]) (st' := [.ref 10]) rfl ?_
        refine wp_getf (v := .ref 23) rfl rfl (S.cell 10 (nc rfl)) (by decide) rfl ?_
        refine wp_g (n := 1) (pc' := 169) (L' := [some (.ref 10), some (.int (iI (e : Int))), some (.int (iI (fr : Int))), some (.int (iI (sd : Int))), some (.int (iI ((sdX ((sd : Int) % 4)) - (sdX ((fr : Int) % 4))))), some (.int (iI ((sdY ((sd : Int) % 4)) - (sdY ((fr : Int) % 4))))), some (.int (iI 0)), some (.int (iI 1))]) (st' := [.ref 10, .ref 23]) rfl ?_
        refine wp_getf (v := .int (iI ((m 10) 3))) rfl rfl (S.cell 10 (nc rfl)) (by decide) rfl ?_
        have hr17 : -2147483648 ≤ ((m 10) 3) ∧ ((m 10) 3) < 2147483648 := S.rg 10 3 (nl rfl)
        refine wp_g (n := 1) (pc' := 174) (L' := [some (.ref 10), some (.int (iI (e : Int))), some (.int (iI (fr : Int))), some (.int (iI (sd : Int))), some (.int (iI ((sdX ((sd : Int) % 4)) - (sdX ((fr : Int) % 4))))), some (.int (iI ((sdY ((sd : Int) % 4)) - (sdY ((fr : Int) % 4))))), some (.int (iI 0)), some (.int (iI 1))]) (st' := [.int (iI ((sdY ((sd : Int) % 4)) - (sdY ((fr : Int) % 4)))), .int (iI ((m 10) 3)), .ref 23]) rfl ?_
        refine wp_cs (As := [.ref 23, .int (iI ((m 10) 3)), .int (iI ((sdY ((sd : Int) % 4)) - (sdY ((fr : Int) % 4))))]) (rest := []) rfl rfl rfl rfl (Nat.le_of_ble_eq_true rfl) (Nat.le_of_ble_eq_true rfl) (c_put S (nc rfl) (n := 48) rfl (by decide) ((m 10) 3) ((sdY ((sd : Int) % 4)) - (sdY ((fr : Int) % 4))) (by omega) (by omega) (by omega) (by omega)) (fun r18 H18 q18 => ?_)
        obtain ⟨rfl, S⟩ := q18
        have S : ST H18 (up (up (up (up (up m 25 (ptn 24 (m 25) (e : Int) ((m 10) 3))) 20 (ptn 48 (m 20) ((m 10) 3) (e : Int))) 21 (ptn 48 (m 21) ((m 10) 3) ((m 10) 1))) 22 (ptn 48 (m 22) ((m 10) 3) ((sdX ((sd : Int) % 4)) - (sdX ((fr : Int) % 4))))) 23 (ptn 48 (m 23) ((m 10) 3) ((sdY ((sd : Int) % 4)) - (sdY ((fr : Int) % 4))))) γ t := S
        show wp _ _ _ _ _ [] _ _
        refine wp_g (n := 2) (pc' := 179) (L' := [some (.ref 10), some (.int (iI (e : Int))), some (.int (iI (fr : Int))), some (.int (iI (sd : Int))), some (.int (iI ((sdX ((sd : Int) % 4)) - (sdX ((fr : Int) % 4))))), some (.int (iI ((sdY ((sd : Int) % 4)) - (sdY ((fr : Int) % 4))))), some (.int (iI 0)), some (.int (iI 1))]) (st' := [.ref 10, .ref 10]) rfl ?_
        refine wp_getf (v := .int (iI ((m 10) 3))) rfl rfl (S.cell 10 (nc rfl)) (by decide) rfl ?_
        have hr19 : -2147483648 ≤ ((m 10) 3) ∧ ((m 10) 3) < 2147483648 := S.rg 10 3 (nl rfl)
        refine wp_g (n := 1) (pc' := 183) (L' := [some (.ref 10), some (.int (iI (e : Int))), some (.int (iI (fr : Int))), some (.int (iI (sd : Int))), some (.int (iI ((sdX ((sd : Int) % 4)) - (sdX ((fr : Int) % 4))))), some (.int (iI ((sdY ((sd : Int) % 4)) - (sdY ((fr : Int) % 4))))), some (.int (iI 0)), some (.int (iI 1))]) (st' := [.int (iI 1), .int (iI ((m 10) 3)), .ref 10]) rfl ?_
        refine wp_add rfl ?_
        refine wp_putI rfl rfl (S.cell 10 (nc rfl)) (Nat.le_of_ble_eq_true rfl) rfl (fun H20 hl20 hz20 hf20 => ?_)
        have S : ST H20 (up (up (up (up (up (up m 25 (ptn 24 (m 25) (e : Int) ((m 10) 3))) 20 (ptn 48 (m 20) ((m 10) 3) (e : Int))) 21 (ptn 48 (m 21) ((m 10) 3) ((m 10) 1))) 22 (ptn 48 (m 22) ((m 10) 3) ((sdX ((sd : Int) % 4)) - (sdX ((fr : Int) % 4))))) 23 (ptn 48 (m 23) ((m 10) 3) ((sdY ((sd : Int) % 4)) - (sdY ((fr : Int) % 4))))) 10 (up (m 10) 3 (((m 10) 3) + 1))) γ t := S.setI 10 (nc rfl) hl20 hz20 hf20 (by omega) (by omega)
        refine wp_vret rfl rfl ?_
        first
          | (exfalso; revert ho; simp only [c1, c4, c7, decide_true, decide_false] <;> decide)
          | (refine ⟨rfl, S.same_m ?_⟩
             rw [h1, h2, ptn_in he2, ptn_in hn, ptn_in hn, ptn_in hn, ptn_in hn]
             rfl)
      · have c7 : (((kd e) : Int) = 1) := Classical.not_not.mp c7
        refine wp_g (n := 1) (pc' := 90) (L' := [some (.ref 10), some (.int (iI (e : Int))), some (.int (iI (fr : Int))), some (.int (iI (sd : Int))), some (.int (iI ((sdX ((sd : Int) % 4)) - (sdX ((fr : Int) % 4))))), some (.int (iI ((sdY ((sd : Int) % 4)) - (sdY ((fr : Int) % 4))))), some (.int (iI 0)), some (.int (iI 1))]) (st' := [.int (iI 1)]) rfl ?_
        refine wp_g (n := 1) (pc' := 97) (L' := [some (.ref 10), some (.int (iI (e : Int))), some (.int (iI (fr : Int))), some (.int (iI (sd : Int))), some (.int (iI ((sdX ((sd : Int) % 4)) - (sdX ((fr : Int) % 4))))), some (.int (iI ((sdY ((sd : Int) % 4)) - (sdY ((fr : Int) % 4))))), some (.int (iI 0)), some (.int (iI 1))]) (st' := []) rfl ?_
        refine wp_g (n := 3) (pc' := 102) (L' := [some (.ref 10), some (.int (iI (e : Int))), some (.int (iI (fr : Int))), some (.int (iI (sd : Int))), some (.int (iI ((sdX ((sd : Int) % 4)) - (sdX ((fr : Int) % 4))))), some (.int (iI ((sdY ((sd : Int) % 4)) - (sdY ((fr : Int) % 4))))), some (.int (iI 0)), some (.int (iI 0))]) (st' := [.int (iI 0)]) rfl ?_
        refine wp_g (n := 1) (pc' := 112) (L' := [some (.ref 10), some (.int (iI (e : Int))), some (.int (iI (fr : Int))), some (.int (iI (sd : Int))), some (.int (iI ((sdX ((sd : Int) % 4)) - (sdX ((fr : Int) % 4))))), some (.int (iI ((sdY ((sd : Int) % 4)) - (sdY ((fr : Int) % 4))))), some (.int (iI 0)), some (.int (iI 0))]) (st' := []) rfl ?_
        refine wp_g (n := 1) (pc' := 113) (L' := [some (.ref 10), some (.int (iI (e : Int))), some (.int (iI (fr : Int))), some (.int (iI (sd : Int))), some (.int (iI ((sdX ((sd : Int) % 4)) - (sdX ((fr : Int) % 4))))), some (.int (iI ((sdY ((sd : Int) % 4)) - (sdY ((fr : Int) % 4))))), some (.int (iI 0)), some (.int (iI 0))]) (st' := [.ref 10]) rfl ?_
        refine wp_getf (v := .ref 26) rfl rfl (S.cell 10 (nc rfl)) (by decide) rfl ?_
        refine wp_g (n := 2) (pc' := 118) (L' := [some (.ref 10), some (.int (iI (e : Int))), some (.int (iI (fr : Int))), some (.int (iI (sd : Int))), some (.int (iI ((sdX ((sd : Int) % 4)) - (sdX ((fr : Int) % 4))))), some (.int (iI ((sdY ((sd : Int) % 4)) - (sdY ((fr : Int) % 4))))), some (.int (iI 0)), some (.int (iI 0))]) (st' := [.ref 10, .int (iI (e : Int)), .ref 26]) rfl ?_
        refine wp_getf (v := .int (iI ((m 10) 3))) rfl rfl (S.cell 10 (nc rfl)) (by decide) rfl ?_
        have hr21 : -2147483648 ≤ ((m 10) 3) ∧ ((m 10) 3) < 2147483648 := S.rg 10 3 (nl rfl)
        refine wp_cs (As := [.ref 26, .int (iI (e : Int)), .int (iI ((m 10) 3))]) (rest := []) rfl rfl rfl rfl (Nat.le_of_ble_eq_true rfl) (Nat.le_of_ble_eq_true rfl) (c_put S (nc rfl) (n := 24) rfl (by decide) (e : Int) ((m 10) 3) (by omega) (by omega) (by omega) (by omega)) (fun r22 H22 q22 => ?_)
        obtain ⟨rfl, S⟩ := q22
        have S : ST H22 (up m 26 (ptn 24 (m 26) (e : Int) ((m 10) 3))) γ t := S
        show wp _ _ _ _ _ [] _ _
        refine wp_g (n := 1) (pc' := 125) (L' := [some (.ref 10), some (.int (iI (e : Int))), some (.int (iI (fr : Int))), some (.int (iI (sd : Int))), some (.int (iI ((sdX ((sd : Int) % 4)) - (sdX ((fr : Int) % 4))))), some (.int (iI ((sdY ((sd : Int) % 4)) - (sdY ((fr : Int) % 4))))), some (.int (iI 0)), some (.int (iI 0))]) (st' := [.ref 10]) rfl ?_
        refine wp_getf (v := .ref 20) rfl rfl (S.cell 10 (nc rfl)) (by decide) rfl ?_
        refine wp_g (n := 1) (pc' := 129) (L' := [some (.ref 10), some (.int (iI (e : Int))), some (.int (iI (fr : Int))), some (.int (iI (sd : Int))), some (.int (iI ((sdX ((sd : Int) % 4)) - (sdX ((fr : Int) % 4))))), some (.int (iI ((sdY ((sd : Int) % 4)) - (sdY ((fr : Int) % 4))))), some (.int (iI 0)), some (.int (iI 0))]) (st' := [.ref 10, .ref 20]) rfl ?_
        refine wp_getf (v := .int (iI ((m 10) 3))) rfl rfl (S.cell 10 (nc rfl)) (by decide) rfl ?_
        have hr23 : -2147483648 ≤ ((m 10) 3) ∧ ((m 10) 3) < 2147483648 := S.rg 10 3 (nl rfl)
        refine wp_g (n := 1) (pc' := 133) (L' := [some (.ref 10), some (.int (iI (e : Int))), some (.int (iI (fr : Int))), some (.int (iI (sd : Int))), some (.int (iI ((sdX ((sd : Int) % 4)) - (sdX ((fr : Int) % 4))))), some (.int (iI ((sdY ((sd : Int) % 4)) - (sdY ((fr : Int) % 4))))), some (.int (iI 0)), some (.int (iI 0))]) (st' := [.int (iI (e : Int)), .int (iI ((m 10) 3)), .ref 20]) rfl ?_
        refine wp_cs (As := [.ref 20, .int (iI ((m 10) 3)), .int (iI (e : Int))]) (rest := []) rfl rfl rfl rfl (Nat.le_of_ble_eq_true rfl) (Nat.le_of_ble_eq_true rfl) (c_put S (nc rfl) (n := 48) rfl (by decide) ((m 10) 3) (e : Int) (by omega) (by omega) (by omega) (by omega)) (fun r24 H24 q24 => ?_)
        obtain ⟨rfl, S⟩ := q24
        have S : ST H24 (up (up m 26 (ptn 24 (m 26) (e : Int) ((m 10) 3))) 20 (ptn 48 (m 20) ((m 10) 3) (e : Int))) γ t := S
        show wp _ _ _ _ _ [] _ _
        refine wp_g (n := 1) (pc' := 137) (L' := [some (.ref 10), some (.int (iI (e : Int))), some (.int (iI (fr : Int))), some (.int (iI (sd : Int))), some (.int (iI ((sdX ((sd : Int) % 4)) - (sdX ((fr : Int) % 4))))), some (.int (iI ((sdY ((sd : Int) % 4)) - (sdY ((fr : Int) % 4))))), some (.int (iI 0)), some (.int (iI 0))]) (st' := [.ref 10]) rfl ?_
        refine wp_getf (v := .ref 21) rfl rfl (S.cell 10 (nc rfl)) (by decide) rfl ?_
        refine wp_g (n := 1) (pc' := 141) (L' := [some (.ref 10), some (.int (iI (e : Int))), some (.int (iI (fr : Int))), some (.int (iI (sd : Int))), some (.int (iI ((sdX ((sd : Int) % 4)) - (sdX ((fr : Int) % 4))))), some (.int (iI ((sdY ((sd : Int) % 4)) - (sdY ((fr : Int) % 4))))), some (.int (iI 0)), some (.int (iI 0))]) (st' := [.ref 10, .ref 21]) rfl ?_
        refine wp_getf (v := .int (iI ((m 10) 3))) rfl rfl (S.cell 10 (nc rfl)) (by decide) rfl ?_
        have hr25 : -2147483648 ≤ ((m 10) 3) ∧ ((m 10) 3) < 2147483648 := S.rg 10 3 (nl rfl)
        refine wp_g (n := 1) (pc' := 145) (L' := [some (.ref 10), some (.int (iI (e : Int))), some (.int (iI (fr : Int))), some (.int (iI (sd : Int))), some (.int (iI ((sdX ((sd : Int) % 4)) - (sdX ((fr : Int) % 4))))), some (.int (iI ((sdY ((sd : Int) % 4)) - (sdY ((fr : Int) % 4))))), some (.int (iI 0)), some (.int (iI 0))]) (st' := [.ref 10, .int (iI ((m 10) 3)), .ref 21]) rfl ?_
        refine wp_getf (v := .int (iI ((m 10) 1))) rfl rfl (S.cell 10 (nc rfl)) (by decide) rfl ?_
        have hr26 : -2147483648 ≤ ((m 10) 1) ∧ ((m 10) 1) < 2147483648 := S.rg 10 1 (nl rfl)
        refine wp_cs (As := [.ref 21, .int (iI ((m 10) 3)), .int (iI ((m 10) 1))]) (rest := []) rfl rfl rfl rfl (Nat.le_of_ble_eq_true rfl) (Nat.le_of_ble_eq_true rfl) (c_put S (nc rfl) (n := 48) rfl (by decide) ((m 10) 3) ((m 10) 1) (by omega) (by omega) (by omega) (by omega)) (fun r27 H27 q27 => ?_)
        obtain ⟨rfl, S⟩ := q27
        have S : ST H27 (up (up (up m 26 (ptn 24 (m 26) (e : Int) ((m 10) 3))) 20 (ptn 48 (m 20) ((m 10) 3) (e : Int))) 21 (ptn 48 (m 21) ((m 10) 3) ((m 10) 1))) γ t := S
        show wp _ _ _ _ _ [] _ _
        refine wp_g (n := 1) (pc' := 152) (L' := [some (.ref 10), some (.int (iI (e : Int))), some (.int (iI (fr : Int))), some (.int (iI (sd : Int))), some (.int (iI ((sdX ((sd : Int) % 4)) - (sdX ((fr : Int) % 4))))), some (.int (iI ((sdY ((sd : Int) % 4)) - (sdY ((fr : Int) % 4))))), some (.int (iI 0)), some (.int (iI 0))]) (st' := [.ref 10]) rfl ?_
        refine wp_getf (v := .ref 22) rfl rfl (S.cell 10 (nc rfl)) (by decide) rfl ?_
        refine wp_g (n := 1) (pc' := 156) (L' := [some (.ref 10), some (.int (iI (e : Int))), some (.int (iI (fr : Int))), some (.int (iI (sd : Int))), some (.int (iI ((sdX ((sd : Int) % 4)) - (sdX ((fr : Int) % 4))))), some (.int (iI ((sdY ((sd : Int) % 4)) - (sdY ((fr : Int) % 4))))), some (.int (iI 0)), some (.int (iI 0))]) (st' := [.ref 10, .ref 22]) rfl ?_
        refine wp_getf (v := .int (iI ((m 10) 3))) rfl rfl (S.cell 10 (nc rfl)) (by decide) rfl ?_
        have hr28 : -2147483648 ≤ ((m 10) 3) ∧ ((m 10) 3) < 2147483648 := S.rg 10 3 (nl rfl)
        refine wp_g (n := 1) (pc' := 161) (L' := [some (.ref 10), some (.int (iI (e : Int))), some (.int (iI (fr : Int))), some (.int (iI (sd : Int))), some (.int (iI ((sdX ((sd : Int) % 4)) - (sdX ((fr : Int) % 4))))), some (.int (iI ((sdY ((sd : Int) % 4)) - (sdY ((fr : Int) % 4))))), some (.int (iI 0)), some (.int (iI 0))]) (st' := [.int (iI ((sdX ((sd : Int) % 4)) - (sdX ((fr : Int) % 4)))), .int (iI ((m 10) 3)), .ref 22]) rfl ?_
        refine wp_cs (As := [.ref 22, .int (iI ((m 10) 3)), .int (iI ((sdX ((sd : Int) % 4)) - (sdX ((fr : Int) % 4))))]) (rest := []) rfl rfl rfl rfl (Nat.le_of_ble_eq_true rfl) (Nat.le_of_ble_eq_true rfl) (c_put S (nc rfl) (n := 48) rfl (by decide) ((m 10) 3) ((sdX ((sd : Int) % 4)) - (sdX ((fr : Int) % 4))) (by omega) (by omega) (by omega) (by omega)) (fun r29 H29 q29 => ?_)
        obtain ⟨rfl, S⟩ := q29
        have S : ST H29 (up (up (up (up m 26 (ptn 24 (m 26) (e : Int) ((m 10) 3))) 20 (ptn 48 (m 20) ((m 10) 3) (e : Int))) 21 (ptn 48 (m 21) ((m 10) 3) ((m 10) 1))) 22 (ptn 48 (m 22) ((m 10) 3) ((sdX ((sd : Int) % 4)) - (sdX ((fr : Int) % 4))))) γ t := S
        show wp _ _ _ _ _ [] _ _
        refine wp_g (n := 1) (pc' := 165) (L' := [some (.ref 10), some (.int (iI (e : Int))), some (.int (iI (fr : Int))), some (.int (iI (sd : Int))), some (.int (iI ((sdX ((sd : Int) % 4)) - (sdX ((fr : Int) % 4))))), some (.int (iI ((sdY ((sd : Int) % 4)) - (sdY ((fr : Int) % 4))))), some (.int (iI 0)), some (.int (iI 0))]) (st' := [.ref 10]) rfl ?_
        refine wp_getf (v := .ref 23) rfl rfl (S.cell 10 (nc rfl)) (by decide) rfl ?_
        refine wp_g (n := 1) (pc' := 169) (L' := [some (.ref 10), some (.int (iI (e : Int))), some (.int (iI (fr : Int))), some (.int (iI (sd : Int))), some (.int (iI ((sdX ((sd : Int) % 4)) - (sdX ((fr : Int) % 4))))), some (.int (iI ((sdY ((sd : Int) % 4)) - (sdY ((fr : Int) % 4))))), some (.int (iI 0)), some (.int (iI 0))]) (st' := [.ref 10, .ref 23]) rfl ?_
        refine wp_getf (v := .int (iI ((m 10) 3))) rfl rfl (S.cell 10 (nc rfl)) (by decide) rfl ?_
        have hr30 : -2147483648 ≤ ((m 10) 3) ∧ ((m 10) 3) < 2147483648 := S.rg 10 3 (nl rfl)
        refine wp_g (n := 1) (pc' := 174) (L' := [some (.ref 10), some (.int (iI (e : Int))), some (.int (iI (fr : Int))), some (.int (iI (sd : Int))), some (.int (iI ((sdX ((sd : Int) % 4)) - (sdX ((fr : Int) % 4))))), some (.int (iI ((sdY ((sd : Int) % 4)) - (sdY ((fr : Int) % 4))))), some (.int (iI 0)), some (.int (iI 0))]) (st' := [.int (iI ((sdY ((sd : Int) % 4)) - (sdY ((fr : Int) % 4)))), .int (iI ((m 10) 3)), .ref 23]) rfl ?_
        refine wp_cs (As := [.ref 23, .int (iI ((m 10) 3)), .int (iI ((sdY ((sd : Int) % 4)) - (sdY ((fr : Int) % 4))))]) (rest := []) rfl rfl rfl rfl (Nat.le_of_ble_eq_true rfl) (Nat.le_of_ble_eq_true rfl) (c_put S (nc rfl) (n := 48) rfl (by decide) ((m 10) 3) ((sdY ((sd : Int) % 4)) - (sdY ((fr : Int) % 4))) (by omega) (by omega) (by omega) (by omega)) (fun r31 H31 q31 => ?_)
        obtain ⟨rfl, S⟩ := q31
        have S : ST H31 (up (up (up (up (up m 26 (ptn 24 (m 26) (e : Int) ((m 10) 3))) 20 (ptn 48 (m 20) ((m 10) 3) (e : Int))) 21 (ptn 48 (m 21) ((m 10) 3) ((m 10) 1))) 22 (ptn 48 (m 22) ((m 10) 3) ((sdX ((sd : Int) % 4)) - (sdX ((fr : Int) % 4))))) 23 (ptn 48 (m 23) ((m 10) 3) ((sdY ((sd : Int) % 4)) - (sdY ((fr : Int) % 4))))) γ t := S
        show wp _ _ _ _ _ [] _ _
        refine wp_g (n := 2) (pc' := 179) (L' := [some (.ref 10), some (.int (iI (e : Int))), some (.int (iI (fr : Int))), some (.int (iI (sd : Int))), some (.int (iI ((sdX ((sd : Int) % 4)) - (sdX ((fr : Int) % 4))))), some (.int (iI ((sdY ((sd : Int) % 4)) - (sdY ((fr : Int) % 4))))), some (.int (iI 0)), some (.int (iI 0))]) (st' := [.ref 10, .ref 10]) rfl ?_
        refine wp_getf (v := .int (iI ((m 10) 3))) rfl rfl (S.cell 10 (nc rfl)) (by decide) rfl ?_
        have hr32 : -2147483648 ≤ ((m 10) 3) ∧ ((m 10) 3) < 2147483648 := S.rg 10 3 (nl rfl)
        refine wp_g (n := 1) (pc' := 183) (L' := [some (.ref 10), some (.int (iI (e : Int))), some (.int (iI (fr : Int))), some (.int (iI (sd : Int))), some (.int (iI ((sdX ((sd : Int) % 4)) - (sdX ((fr : Int) % 4))))), some (.int (iI ((sdY ((sd : Int) % 4)) - (sdY ((fr : Int) % 4))))), some (.int (iI 0)), some (.int (iI 0))]) (st' := [.int (iI 1), .int (iI ((m 10) 3)), .ref 10]) rfl ?_
        refine wp_add rfl ?_
        refine wp_putI rfl rfl (S.cell 10 (nc rfl)) (Nat.le_of_ble_eq_true rfl) rfl (fun H33 hl33 hz33 hf33 => ?_)
        have S : ST H33 (up (up (up (up (up (up m 26 (ptn 24 (m 26) (e : Int) ((m 10) 3))) 20 (ptn 48 (m 20) ((m 10) 3) (e : Int))) 21 (ptn 48 (m 21) ((m 10) 3) ((m 10) 1))) 22 (ptn 48 (m 22) ((m 10) 3) ((sdX ((sd : Int) % 4)) - (sdX ((fr : Int) % 4))))) 23 (ptn 48 (m 23) ((m 10) 3) ((sdY ((sd : Int) % 4)) - (sdY ((fr : Int) % 4))))) 10 (up (m 10) 3 (((m 10) 3) + 1))) γ t := S.setI 10 (nc rfl) hl33 hz33 hf33 (by omega) (by omega)
        refine wp_vret rfl rfl ?_
        first
          | (exfalso; revert ho; simp only [c1, c4, c7, decide_true, decide_false] <;> decide)
          | (refine ⟨rfl, S.same_m ?_⟩
             rw [h1, h2, ptn_in he2, ptn_in hn, ptn_in hn, ptn_in hn, ptn_in hn]
             rfl)
    · have c4 : (((gbel R C e : Int) : Int) = 0) := Classical.not_not.mp c4
      refine wp_g (n := 2) (pc' := 66) (L' := [some (.ref 10), some (.int (iI (e : Int))), some (.int (iI (fr : Int))), some (.int (iI (sd : Int))), some (.int (iI ((sdX ((sd : Int) % 4)) - (sdX ((fr : Int) % 4))))), some (.int (iI ((sdY ((sd : Int) % 4)) - (sdY ((fr : Int) % 4))))), some (.int (iI 0)), none]) (st' := [.int (iI 1), .int (iI 0)]) rfl ?_
      refine wp_g (n := 1) (pc' := 73) (L' := [some (.ref 10), some (.int (iI (e : Int))), some (.int (iI (fr : Int))), some (.int (iI (sd : Int))), some (.int (iI ((sdX ((sd : Int) % 4)) - (sdX ((fr : Int) % 4))))), some (.int (iI ((sdY ((sd : Int) % 4)) - (sdY ((fr : Int) % 4))))), some (.int (iI 0)), none]) (st' := []) rfl ?_
      refine wp_g (n := 3) (pc' := 77) (L' := [some (.ref 10), some (.int (iI (e : Int))), some (.int (iI (fr : Int))), some (.int (iI (sd : Int))), some (.int (iI ((sdX ((sd : Int) % 4)) - (sdX ((fr : Int) % 4))))), some (.int (iI ((sdY ((sd : Int) % 4)) - (sdY ((fr : Int) % 4))))), some (.int (iI 0)), some (.int (iI 0))]) (st' := [.ref 10]) rfl ?_
      refine wp_getf (v := .ref 11) rfl rfl (S.cell 10 (nc rfl)) (by decide) rfl ?_
      refine wp_g (n := 1) (pc' := 81) (L' := [some (.ref 10), some (.int (iI (e : Int))), some (.int (iI (fr : Int))), some (.int (iI (sd : Int))), some (.int (iI ((sdX ((sd : Int) % 4)) - (sdX ((fr : Int) % 4))))), some (.int (iI ((sdY ((sd : Int) % 4)) - (sdY ((fr : Int) % 4))))), some (.int (iI 0)), some (.int (iI 0))]) (st' := [.int (iI (e : Int)), .ref 11]) rfl ?_
      refine wp_cv (As := [.int (iI (e : Int))]) (rest := []) rfl rfl (S.gq hγ (gi rfl)).obj (by decide) rfl rfl rfl (Nat.le_of_ble_eq_true rfl) (Nat.le_of_ble_eq_true rfl) (G_kindOfI (S.gq hγ (gi rfl)) (e : Int) (by omega) (by omega)) (fun r34 H34 q34 => ?_)
      obtain ⟨rfl, e34⟩ := q34
      rw [e34]
      show wp _ _ _ _ _ [.int (iI (kd e))] _ _
      have hk35 := ((S.gq hγ (gi rfl))).2.1 e (by omega)
      refine wp_g (n := 1) (pc' := 85) (L' := [some (.ref 10), some (.int (iI (e : Int))), some (.int (iI (fr : Int))), some (.int (iI (sd : Int))), some (.int (iI ((sdX ((sd : Int) % 4)) - (sdX ((fr : Int) % 4))))), some (.int (iI ((sdY ((sd : Int) % 4)) - (sdY ((fr : Int) % 4))))), some (.int (iI 0)), some (.int (iI 0))]) (st' := [.int (iI 1), .int (iI (kd e))]) rfl ?_
      refine wp_icmpI (a := (kd e)) (b := 1) rfl rfl (by omega) (by omega) (by omega) (by omega) (fun c36 => ?_) (fun c36 => ?_)
      · have c36 : (¬ ((kd e) : Int) = 1) := c36
        refine wp_g (n := 1) (pc' := 102) (L' := [some (.ref 10), some (.int (iI (e : Int))), some (.int (iI (fr : Int))), some (.int (iI (sd : Int))), some (.int (iI ((sdX ((sd : Int) % 4)) - (sdX ((fr : Int) % 4))))), some (.int (iI ((sdY ((sd : Int) % 4)) - (sdY ((fr : Int) % 4))))), some (.int (iI 0)), some (.int (iI 0))]) (st' := [.int (iI 0)]) rfl ?_
        refine wp_g (n := 1) (pc' := 112) (L' := [some (.ref 10), some (.int (iI (e : Int))), some (.int (iI (fr : Int))), some (.int (iI (sd : Int))), some (.int (iI ((sdX ((sd : Int) % 4)) - (sdX ((fr : Int) % 4))))), some (.int (iI ((sdY ((sd : Int) % 4)) - (sdY ((fr : Int) % 4))))), some (.int (iI 0)), some (.int (iI 0))]) (st' := []) rfl ?_
        refine wp_g (n := 1) (pc' := 113) (L' := [some (.ref 10), some (.int (iI (e : Int))), some (.int (iI (fr : Int))), some (.int (iI (sd : Int))), some (.int (iI ((sdX ((sd : Int) % 4)) - (sdX ((fr : Int) % 4))))), some (.int (iI ((sdY ((sd : Int) % 4)) - (sdY ((fr : Int) % 4))))), some (.int (iI 0)), some (.int (iI 0))]) (st' := [.ref 10]) rfl ?_
        refine wp_getf (v := .ref 26) rfl rfl (S.cell 10 (nc rfl)) (by decide) rfl ?_
        refine wp_g (n := 2) (pc' := 118) (L' := [some (.ref 10), some (.int (iI (e : Int))), some (.int (iI (fr : Int))), some (.int (iI (sd : Int))), some (.int (iI ((sdX ((sd : Int) % 4)) - (sdX ((fr : Int) % 4))))), some (.int (iI ((sdY ((sd : Int) % 4)) - (sdY ((fr : Int) % 4))))), some (.int (iI 0)), some (.int (iI 0))]) (st' := [.ref 10, .int (iI (e : Int)), .ref 26]) rfl ?_
        refine wp_getf (v := .int (iI ((m 10) 3))) rfl rfl (S.cell 10 (nc rfl)) (by decide) rfl ?_
        have hr37 : -2147483648 ≤ ((m 10) 3) ∧ ((m 10) 3) < 2147483648 := S.rg 10 3 (nl rfl)
        refine wp_cs (As := [.ref 26, .int (iI (e : Int)), .int (iI ((m 10) 3))]) (rest := []) rfl rfl rfl rfl (Nat.le_of_ble_eq_true rfl) (Nat.le_of_ble_eq_true rfl) (c_put S (nc rfl) (n := 24) rfl (by decide) (e : Int) ((m 10) 3) (by omega) (by omega) (by omega) (by omega)) (fun r38 H38 q38 => ?_)
        obtain ⟨rfl, S⟩ := q38
        have S : ST H38 (up m 26 (ptn 24 (m 26) (e : Int) ((m 10) 3))) γ t := S
        show wp _ _ _ _ _ [] _ _
        refine wp_g (n := 1) (pc' := 125) (L' := [some (.ref 10), some (.int (iI (e : Int))), some (.int (iI (fr : Int))), some (.int (iI (sd : Int))), some (.int (iI ((sdX ((sd : Int) % 4)) - (sdX ((fr : Int) % 4))))), some (.int (iI ((sdY ((sd : Int) % 4)) - (sdY ((fr : Int) % 4))))), some (.int (iI 0)), some (.int (iI 0))]) (st' := [.ref 10]) rfl ?_
        refine wp_getf (v := .ref 20) rfl rfl (S.cell 10 (nc rfl)) (by decide) rfl ?_
        refine wp_g (n := 1) (pc' := 129) (L' := [some (.ref 10), some (.int (iI (e : Int))), some (.int (iI (fr : Int))), some (.int (iI (sd : Int))), some (.int (iI ((sdX ((sd : Int) % 4)) - (sdX ((fr : Int) % 4))))), some (.int (iI ((sdY ((sd : Int) % 4)) - (sdY ((fr : Int) % 4))))), some (.int (iI 0)), some (.int (iI 0))]) (st' := [.ref 10, .ref 20]) rfl ?_
        refine wp_getf (v := .int (iI ((m 10) 3))) rfl rfl (S.cell 10 (nc rfl)) (by decide) rfl ?_
        have hr39 : -2147483648 ≤ ((m 10) 3) ∧ ((m 10) 3) < 2147483648 := S.rg 10 3 (nl rfl)
        refine wp_g (n := 1) (pc' := 133) (L' := [some (.ref 10), some (.int (iI (e : Int))), some (.int (iI (fr : Int))), some (.int (iI (sd : Int))), some (.int (iI ((sdX ((sd : Int) % 4)) - (sdX ((fr : Int) % 4))))), some (.int (iI ((sdY ((sd : Int) % 4)) - (sdY ((fr : Int) % 4))))), some (.int (iI 0)), some (.int (iI 0))]) (st' := [.int (iI (e : Int)), .int (iI ((m 10) 3)), .ref 20]) rfl ?_
        refine wp_cs (As := [.ref 20, .int (iI ((m 10) 3)), .int (iI (e : Int))]) (rest := []) rfl rfl rfl rfl (Nat.le_of_ble_eq_true rfl) (Nat.le_of_ble_eq_true rfl) (c_put S (nc rfl) (n := 48) rfl (by decide) ((m 10) 3) (e : Int) (by omega) (by omega) (by omega) (by omega)) (fun r40 H40 q40 => ?_)
        obtain ⟨rfl, S⟩ := q40
        have S : ST H40 (up (up m 26 (ptn 24 (m 26) (e : Int) ((m 10) 3))) 20 (ptn 48 (m 20) ((m 10) 3) (e : Int))) γ t := S
        show wp _ _ _ _ _ [] _ _
        refine wp_g (n := 1) (pc' := 137) (L' := [some (.ref 10), some (.int (iI (e : Int))), some (.int (iI (fr : Int))), some (.int (iI (sd : Int))), some (.int (iI ((sdX ((sd : Int) % 4)) - (sdX ((fr : Int) % 4))))), some (.int (iI ((sdY ((sd : Int) % 4)) - (sdY ((fr : Int) % 4))))), some (.int (iI 0)), some (.int (iI 0))]) (st' := [.ref 10]) rfl ?_
        refine wp_getf (v := .ref 21) rfl rfl (S.cell 10 (nc rfl)) (by decide) rfl ?_
        refine wp_g (n := 1) (pc' := 141) (L' := [some (.ref 10), some (.int (iI (e : Int))), some (.int (iI (fr : Int))), some (.int (iI (sd : Int))), some (.int (iI ((sdX ((sd : Int) % 4)) - (sdX ((fr : Int) % 4))))), some (.int (iI ((sdY ((sd : Int) % 4)) - (sdY ((fr : Int) % 4))))), some (.int (iI 0)), some (.int (iI 0))]) (st' := [.ref 10, .ref 21]) rfl ?_
        refine wp_getf (v := .int (iI ((m 10) 3))) rfl rfl (S.cell 10 (nc rfl)) (by decide) rfl ?_
        have hr41 : -2147483648 ≤ ((m 10) 3) ∧ ((m 10) 3) < 2147483648 := S.rg 10 3 (nl rfl)
        refine wp_g (n := 1) (pc' := 145) (L' := [some (.ref 10), some (.int (iI (e : Int))), some (.int (iI (fr : Int))), some (.int (iI (sd : Int))), some (.int (iI ((sdX ((sd : Int) % 4)) - (sdX ((fr : Int) % 4))))), some (.int (iI ((sdY ((sd : Int) % 4)) - (sdY ((fr : Int) % 4))))), some (.int (iI 0)), some (.int (iI 0))]) (st' := [.ref 10, .int (iI ((m 10) 3)), .ref 21]) rfl ?_
        refine wp_getf (v := .int (iI ((m 10) 1))) rfl rfl (S.cell 10 (nc rfl)) (by decide) rfl ?_
        have hr42 : -2147483648 ≤ ((m 10) 1) ∧ ((m 10) 1) < 2147483648 := S.rg 10 1 (nl rfl)
        refine wp_cs (As := [.ref 21, .int (iI ((m 10) 3)), .int (iI ((m 10) 1))]) (rest := []) rfl rfl rfl rfl (Nat.le_of_ble_eq_true rfl) (Nat.le_of_ble_eq_true rfl) (c_put S (nc rfl) (n := 48) rfl (by decide) ((m 10) 3) ((m 10) 1) (by omega) (by omega) (by omega) (by omega)) (fun r43 H43 q43 => ?_)
        obtain ⟨rfl, S⟩ := q43
        have S : ST H43 (up (up (up m 26 (ptn 24 (m 26) (e : Int) ((m 10) 3))) 20 (ptn 48 (m 20) ((m 10) 3) (e : Int))) 21 (ptn 48 (m 21) ((m 10) 3) ((m 10) 1))) γ t := S
        show wp _ _ _ _ _ [] _ _
        refine wp_g (n := 1) (pc' := 152) (L' := [some (.ref 10), some (.int (iI (e : Int))), some (.int (iI (fr : Int))), some (.int (iI (sd : Int))), some (.int (iI ((sdX ((sd : Int) % 4)) - (sdX ((fr : Int) % 4))))), some (.int (iI ((sdY ((sd : Int) % 4)) - (sdY ((fr : Int) % 4))))), some (.int (iI 0)), some (.int (iI 0))]) (st' := [.ref 10]) rfl ?_
        refine wp_getf (v := .ref 22) rfl rfl (S.cell 10 (nc rfl)) (by decide) rfl ?_
        refine wp_g (n := 1) (pc' := 156) (L' := [some (.ref 10), some (.int (iI (e : Int))), some (.int (iI (fr : Int))), some (.int (iI (sd : Int))), some (.int (iI ((sdX ((sd : Int) % 4)) - (sdX ((fr : Int) % 4))))), some (.int (iI ((sdY ((sd : Int) % 4)) - (sdY ((fr : Int) % 4))))), some (.int (iI 0)), some (.int (iI 0))]) (st' := [.ref 10, .ref 22]) rfl ?_
        refine wp_getf (v := .int (iI ((m 10) 3))) rfl rfl (S.cell 10 (nc rfl)) (by decide) rfl ?_
        have hr44 : -2147483648 ≤ ((m 10) 3) ∧ ((m 10) 3) < 2147483648 := S.rg 10 3 (nl rfl)
        refine wp_g (n := 1) (pc' := 161) (L' := [some (.ref 10), some (.int (iI (e : Int))), some (.int (iI (fr : Int))), some (.int (iI (sd : Int))), some (.int (iI ((sdX ((sd : Int) % 4)) - (sdX ((fr : Int) % 4))))), some (.int (iI ((sdY ((sd : Int) % 4)) - (sdY ((fr : Int) % 4))))), some (.int (iI 0)), some (.int (iI 0))]) (st' := [.int (iI ((sdX ((sd : Int) % 4)) - (sdX ((fr : Int) % 4)))), .int (iI ((m 10) 3)), .ref 22]) rfl ?_
        refine wp_cs (As := [.ref 22, .int (iI ((m 10) 3)), .int (iI ((sdX ((sd : Int) % 4)) - (sdX ((fr : Int) % 4))))]) (rest := []) rfl rfl rfl rfl (Nat.le_of_ble_eq_true rfl) (Nat.le_of_ble_eq_true rfl) (c_put S (nc rfl) (n := 48) rfl (by decide) ((m 10) 3) ((sdX ((sd : Int) % 4)) - (sdX ((fr : Int) % 4))) (by omega) (by omega) (by omega) (by omega)) (fun r45 H45 q45 => ?_)
        obtain ⟨rfl, S⟩ := q45
        have S : ST H45 (up (up (up (up m 26 (ptn 24 (m 26) (e : Int) ((m 10) 3))) 20 (ptn 48 (m 20) ((m 10) 3) (e : Int))) 21 (ptn 48 (m 21) ((m 10) 3) ((m 10) 1))) 22 (ptn 48 (m 22) ((m 10) 3) ((sdX ((sd : Int) % 4)) - (sdX ((fr : Int) % 4))))) γ t := S
        show wp _ _ _ _ _ [] _ _
        refine wp_g (n := 1) (pc' := 165) (L' := [some (.ref 10), some (.int (iI (e : Int))), some (.int (iI (fr : Int))), some (.int (iI (sd : Int))), some (.int (iI ((sdX ((sd : Int) % 4)) - (sdX ((fr : Int) % 4))))), some (.int (iI ((sdY ((sd : Int) % 4)) - (sdY ((fr : Int) % 4))))), some (.int (iI 0)), some (.int (iI 0))]) (st' := [.ref 10]) rfl ?_
        refine wp_getf (v := .ref 23) rfl rfl (S.cell 10 (nc rfl)) (by decide) rfl ?_
        refine wp_g (n := 1) (pc' := 169) (L' := [some (.ref 10), some (.int (iI (e : Int))), some (.int (iI (fr : Int))), some (.int (iI (sd : Int))), some (.int (iI ((sdX ((sd : Int) % 4)) - (sdX ((fr : Int) % 4))))), some (.int (iI ((sdY ((sd : Int) % 4)) - (sdY ((fr : Int) % 4))))), some (.int (iI 0)), some (.int (iI 0))]) (st' := [.ref 10, .ref 23]) rfl ?_
        refine wp_getf (v := .int (iI ((m 10) 3))) rfl rfl (S.cell 10 (nc rfl)) (by decide) rfl ?_
        have hr46 : -2147483648 ≤ ((m 10) 3) ∧ ((m 10) 3) < 2147483648 := S.rg 10 3 (nl rfl)
        refine wp_g (n := 1) (pc' := 174) (L' := [some (.ref 10), some (.int (iI (e : Int))), some (.int (iI (fr : Int))), some (.int (iI (sd : Int))), some (.int (iI ((sdX ((sd : Int) % 4)) - (sdX ((fr : Int) % 4))))), some (.int (iI ((sdY ((sd : Int) % 4)) - (sdY ((fr : Int) % 4))))), some (.int (iI 0)), some (.int (iI 0))]) (st' := [.int (iI ((sdY ((sd : Int) % 4)) - (sdY ((fr : Int) % 4)))), .int (iI ((m 10) 3)), .ref 23]) rfl ?_
        refine wp_cs (As := [.ref 23, .int (iI ((m 10) 3)), .int (iI ((sdY ((sd : Int) % 4)) - (sdY ((fr : Int) % 4))))]) (rest := []) rfl rfl rfl rfl (Nat.le_of_ble_eq_true rfl) (Nat.le_of_ble_eq_true rfl) (c_put S (nc rfl) (n := 48) rfl (by decide) ((m 10) 3) ((sdY ((sd : Int) % 4)) - (sdY ((fr : Int) % 4))) (by omega) (by omega) (by omega) (by omega)) (fun r47 H47 q47 => ?_)
        obtain ⟨rfl, S⟩ := q47
        have S : ST H47 (up (up (up (up (up m 26 (ptn 24 (m 26) (e : Int) ((m 10) 3))) 20 (ptn 48 (m 20) ((m 10) 3) (e : Int))) 21 (ptn 48 (m 21) ((m 10) 3) ((m 10) 1))) 22 (ptn 48 (m 22) ((m 10) 3) ((sdX ((sd : Int) % 4)) - (sdX ((fr : Int) % 4))))) 23 (ptn 48 (m 23) ((m 10) 3) ((sdY ((sd : Int) % 4)) - (sdY ((fr : Int) % 4))))) γ t := S
        show wp _ _ _ _ _ [] _ _
        refine wp_g (n := 2) (pc' := 179) (L' := [some (.ref 10), some (.int (iI (e : Int))), some (.int (iI (fr : Int))), some (.int (iI (sd : Int))), some (.int (iI ((sdX ((sd : Int) % 4)) - (sdX ((fr : Int) % 4))))), some (.int (iI ((sdY ((sd : Int) % 4)) - (sdY ((fr : Int) % 4))))), some (.int (iI 0)), some (.int (iI 0))]) (st' := [.ref 10, .ref 10]) rfl ?_
        refine wp_getf (v := .int (iI ((m 10) 3))) rfl rfl (S.cell 10 (nc rfl)) (by decide) rfl ?_
        have hr48 : -2147483648 ≤ ((m 10) 3) ∧ ((m 10) 3) < 2147483648 := S.rg 10 3 (nl rfl)
        refine wp_g (n := 1) (pc' := 183) (L' := [some (.ref 10), some (.int (iI (e : Int))), some (.int (iI (fr : Int))), some (.int (iI (sd : Int))), some (.int (iI ((sdX ((sd : Int) % 4)) - (sdX ((fr : Int) % 4))))), some (.int (iI ((sdY ((sd : Int) % 4)) - (sdY ((fr : Int) % 4))))), some (.int (iI 0)), some (.int (iI 0))]) (st' := [.int (iI 1), .int (iI ((m 10) 3)), .ref 10]) rfl ?_
        refine wp_add rfl ?_
        refine wp_putI rfl rfl (S.cell 10 (nc rfl)) (Nat.le_of_ble_eq_true rfl) rfl (fun H49 hl49 hz49 hf49 => ?_)
        have S : ST H49 (up (up (up (up (up (up m 26 (ptn 24 (m 26) (e : Int) ((m 10) 3))) 20 (ptn 48 (m 20) ((m 10) 3) (e : Int))) 21 (ptn 48 (m 21) ((m 10) 3) ((m 10) 1))) 22 (ptn 48 (m 22) ((m 10) 3) ((sdX ((sd : Int) % 4)) - (sdX ((fr : Int) % 4))))) 23 (ptn 48 (m 23) ((m 10) 3) ((sdY ((sd : Int) % 4)) - (sdY ((fr : Int) % 4))))) 10 (up (m 10) 3 (((m 10) 3) + 1))) γ t := S.setI 10 (nc rfl) hl49 hz49 hf49 (by omega) (by omega)
        refine wp_vret rfl rfl ?_
        first
          | (exfalso; revert ho; simp only [c1, c4, c36, decide_true, decide_false] <;> decide)
          | (refine ⟨rfl, S.same_m ?_⟩
             rw [h1, h2, ptn_in he2, ptn_in hn, ptn_in hn, ptn_in hn, ptn_in hn]
             rfl)
      · have c36 : (((kd e) : Int) = 1) := Classical.not_not.mp c36
        refine wp_g (n := 1) (pc' := 90) (L' := [some (.ref 10), some (.int (iI (e : Int))), some (.int (iI (fr : Int))), some (.int (iI (sd : Int))), some (.int (iI ((sdX ((sd : Int) % 4)) - (sdX ((fr : Int) % 4))))), some (.int (iI ((sdY ((sd : Int) % 4)) - (sdY ((fr : Int) % 4))))), some (.int (iI 0)), some (.int (iI 0))]) (st' := [.int (iI 0)]) rfl ?_
        refine wp_g (n := 1) (pc' := 93) (L' := [some (.ref 10), some (.int (iI (e : Int))), some (.int (iI (fr : Int))), some (.int (iI (sd : Int))), some (.int (iI ((sdX ((sd : Int) % 4)) - (sdX ((fr : Int) % 4))))), some (.int (iI ((sdY ((sd : Int) % 4)) - (sdY ((fr : Int) % 4))))), some (.int (iI 0)), some (.int (iI 0))]) (st' := []) rfl ?_
        refine wp_g (n := 4) (pc' := 102) (L' := [some (.ref 10), some (.int (iI (e : Int))), some (.int (iI (fr : Int))), some (.int (iI (sd : Int))), some (.int (iI ((sdX ((sd : Int) % 4)) - (sdX ((fr : Int) % 4))))), some (.int (iI ((sdY ((sd : Int) % 4)) - (sdY ((fr : Int) % 4))))), some (.int (iI 0)), some (.int (iI 1))]) (st' := [.int (iI 1)]) rfl ?_
        refine wp_g (n := 1) (pc' := 105) (L' := [some (.ref 10), some (.int (iI (e : Int))), some (.int (iI (fr : Int))), some (.int (iI (sd : Int))), some (.int (iI ((sdX ((sd : Int) % 4)) - (sdX ((fr : Int) % 4))))), some (.int (iI ((sdY ((sd : Int) % 4)) - (sdY ((fr : Int) % 4))))), some (.int (iI 0)), some (.int (iI 1))]) (st' := []) rfl ?_
        refine wp_g (n := 1) (pc' := 106) (L' := [some (.ref 10), some (.int (iI (e : Int))), some (.int (iI (fr : Int))), some (.int (iI (sd : Int))), some (.int (iI ((sdX ((sd : Int) % 4)) - (sdX ((fr : Int) % 4))))), some (.int (iI ((sdY ((sd : Int) % 4)) - (sdY ((fr : Int) % 4))))), some (.int (iI 0)), some (.int (iI 1))]) (st' := [.ref 10]) rfl ?_
        refine wp_getf (v := .ref 25) rfl rfl (S.cell 10 (nc rfl)) (by decide) rfl ?_
        refine wp_g (n := 3) (pc' := 118) (L' := [some (.ref 10), some (.int (iI (e : Int))), some (.int (iI (fr : Int))), some (.int (iI (sd : Int))), some (.int (iI ((sdX ((sd : Int) % 4)) - (sdX ((fr : Int) % 4))))), some (.int (iI ((sdY ((sd : Int) % 4)) - (sdY ((fr : Int) % 4))))), some (.int (iI 0)), some (.int (iI 1))]) (st' := [.ref 10, .int (iI (e : Int)), .ref 25]) rfl ?_
        refine wp_getf (v := .int (iI ((m 10) 3))) rfl rfl (S.cell 10 (nc rfl)) (by decide) rfl ?_
        have hr50 : -2147483648 ≤ ((m 10) 3) ∧ ((m 10) 3) < 2147483648 := S.rg 10 3 (nl rfl)
        refine wp_cs (As := [.ref 25, .int (iI (e : Int)), .int (iI ((m 10) 3))]) (rest := []) rfl rfl rfl rfl (Nat.le_of_ble_eq_true rfl) (Nat.le_of_ble_eq_true rfl) (c_put S (nc rfl) (n := 24) rfl (by decide) (e : Int) ((m 10) 3) (by omega) (by omega) (by omega) (by omega)) (fun r51 H51 q51 => ?_)
        obtain ⟨rfl, S⟩ := q51
        have S : ST H51 (up m 25 (ptn 24 (m 25) (e : Int) ((m 10) 3))) γ t := S
        show wp _ _ _ _ _ [] _ _
        refine wp_g (n := 1) (pc' := 125) (L' := [some (.ref 10), some (.int (iI (e : Int))), some (.int (iI (fr : Int))), some (.int (iI (sd : Int))), some (.int (iI ((sdX ((sd : Int) % 4)) - (sdX ((fr : Int) % 4))))), some (.int (iI ((sdY ((sd : Int) % 4)) - (sdY ((fr : Int) % 4))))), some (.int (iI 0)), some (.int (iI 1))]) (st' := [.ref 10]) rfl ?_
        refine wp_getf (v := .ref 20) rfl rfl (S.cell 10 (nc rfl)) (by decide) rfl ?_
        refine wp_g (n := 1) (pc' := 129) (L' := [some (.ref 10), some (.int (iI (e : Int))), some (.int (iI (fr : Int))), some (.int (iI (sd : Int))), some (.int (iI ((sdX ((sd : Int) % 4)) - (sdX ((fr : Int) % 4))))), some (.int (iI ((sdY ((sd : Int) % 4)) - (sdY ((fr : Int) % 4))))), some (.int (iI 0)), some (.int (iI 1))]) (st' := [.ref 10, .ref 20]) rfl ?_
        refine wp_getf (v := .int (iI ((m 10) 3))) rfl rfl (S.cell 10 (nc rfl)) (by decide) rfl ?_
        have hr52 : -2147483648 ≤ ((m 10) 3) ∧ ((m 10) 3) < 2147483648 := S.rg 10 3 (nl rfl)
        refine wp_g (n := 1) (pc' := 133) (L' := [some (.ref 10), some (.int (iI (e : Int))), some (.int (iI (fr : Int))), some (.int (iI (sd : Int))), some (.int (iI ((sdX ((sd : Int) % 4)) - (sdX ((fr : Int) % 4))))), some (.int (iI ((sdY ((sd : Int) % 4)) - (sdY ((fr : Int) % 4))))), some (.int (iI 0)), some (.int (iI 1))]) (st' := [.int (iI (e : Int)), .int (iI ((m 10) 3)), .ref 20]) rfl ?_
        refine wp_cs (As := [.ref 20, .int (iI ((m 10) 3)), .int (iI (e : Int))]) (rest := []) rfl rfl rfl rfl (Nat.le_of_ble_eq_true rfl) (Nat.le_of_ble_eq_true rfl) (c_put S (nc rfl) (n := 48) rfl (by decide) ((m 10) 3) (e : Int) (by omega) (by omega) (by omega) (by omega)) (fun r53 H53 q53 => ?_)
        obtain ⟨rfl, S⟩ := q53
        have S : ST H53 (up (up m 25 (ptn 24 (m 25) (e : Int) ((m 10) 3))) 20 (ptn 48 (m 20) ((m 10) 3) (e : Int))) γ t := S
        show wp _ _ _ _ _ [] _ _
        refine wp_g (n := 1) (pc' := 137) (L' := [some (.ref 10), some (.int (iI (e : Int))), some (.int (iI (fr : Int))), some (.int (iI (sd : Int))), some (.int (iI ((sdX ((sd : Int) % 4)) - (sdX ((fr : Int) % 4))))), some (.int (iI ((sdY ((sd : Int) % 4)) - (sdY ((fr : Int) % 4))))), some (.int (iI 0)), some (.int (iI 1))]) (st' := [.ref 10]) rfl ?_
        refine wp_getf (v := .ref 21) rfl rfl (S.cell 10 (nc rfl)) (by decide) rfl ?_
        refine wp_g (n := 1) (pc' := 141) (L' := [some (.ref 10), some (.int (iI (e : Int))), some (.int (iI (fr : Int))), some (.int (iI (sd : Int))), some (.int (iI ((sdX ((sd : Int) % 4)) - (sdX ((fr : Int) % 4))))), some (.int (iI ((sdY ((sd : Int) % 4)) - (sdY ((fr : Int) % 4))))), some (.int (iI 0)), some (.int (iI 1))]) (st' := [.ref 10, .ref 21]) rfl ?_
        refine wp_getf (v := .int (iI ((m 10) 3))) rfl rfl (S.cell 10 (nc rfl)) (by decide) rfl ?_
        have hr54 : -2147483648 ≤ ((m 10) 3) ∧ ((m 10) 3) < 2147483648 := S.rg 10 3 (nl rfl)
        refine wp_g (n := 1) (pc' := 145) (L' := [some (.ref 10), some (.int (iI (e : Int))), some (.int (iI (fr : Int))), some (.int (iI (sd : Int))), some (.int (iI ((sdX ((sd : Int) % 4)) - (sdX ((fr : Int) % 4))))), some (.int (iI ((sdY ((sd : Int) % 4)) - (sdY ((fr : Int) % 4))))), some (.int (iI 0)), some (.int (iI 1))]) (st' := [.ref 10, .int (iI ((m 10) 3)), .ref 21]) rfl ?_
        refine wp_getf (v := .int (iI ((m 10) 1))) rfl rfl (S.cell 10 (nc rfl)) (by decide) rfl ?_
        have hr55 : -2147483648 ≤ ((m 10) 1) ∧ ((m 10) 1) < 2147483648 := S.rg 10 1 (nl rfl)
        refine wp_cs (As := [.ref 21, .int (iI ((m 10) 3)), .int (iI ((m 10) 1))]) (rest := []) rfl rfl rfl rfl (Nat.le_of_ble_eq_true rfl) (Nat.le_of_ble_eq_true rfl) (c_put S (nc rfl) (n := 48) rfl (by decide) ((m 10) 3) ((m 10) 1) (by omega) (by omega) (by omega) (by omega)) (fun r56 H56 q56 => ?_)
        obtain ⟨rfl, S⟩ := q56
        have S : ST H56 (up (up (up m 25 (ptn 24 (m 25) (e : Int) ((m 10) 3))) 20 (ptn 48 (m 20) ((m 10) 3) (e : Int))) 21 (ptn 48 (m 21) ((m 10) 3) ((m 10) 1))) γ t := S
        show wp _ _ _ _ _ [] _ _
        refine wp_g (n := 1) (pc' := 152) (L' := [some (.ref 10), some (.int (iI (e : Int))), some (.int (iI (fr : Int))), some (.int (iI (sd : Int))), some (.int (iI ((sdX ((sd : Int) % 4)) - (sdX ((fr : Int) % 4))))), some (.int (iI ((sdY ((sd : Int) % 4)) - (sdY ((fr : Int) % 4))))), some (.int (iI 0)), some (.int (iI 1))]) (st' := [.ref 10]) rfl ?_
        refine wp_getf (v := .ref 22) rfl rfl (S.cell 10 (nc rfl)) (by decide) rfl ?_
        refine wp_g (n := 1) (pc' := 156) (L' := [some (.ref 10), some (.int (iI (e : Int))), some (.int (iI (fr : Int))), some (.int (iI (sd : Int))), some (.int (iI ((sdX ((sd : Int) % 4)) - (sdX ((fr : Int) % 4))))), some (.int (iI ((sdY ((sd : Int) % 4)) - (sdY ((fr : Int) % 4))))), some (.int (iI 0)), some (.int (iI 1))]) (st' := [.ref 10, .ref 22]) rfl ?_
        refine wp_getf (v := .int (iI ((m 10) 3))) rfl rfl (S.cell 10 (nc rfl)) (by decide) rfl ?_
        have hr57 : -2147483648 ≤ ((m 10) 3) ∧ ((m 10) 3) < 2147483648 := S.rg 10 3 (nl rfl)
        refine wp_g (n := 1) (pc' := 161) (L' := [some (.ref 10), some (.int (iI (e : Int))), some (.int (iI (fr : Int))), some (.int (iI (sd : Int))), some (.int (iI ((sdX ((sd : Int) % 4)) - (sdX ((fr : Int) % 4))))), some (.int (iI ((sdY ((sd : Int) % 4)) - (sdY ((fr : Int) % 4))))), some (.int (iI 0)), some (.int (iI 1))]) (st' := [.int (iI ((sdX ((sd : Int) % 4)) - (sdX ((fr : Int) % 4)))), .int (iI ((m 10) 3)), .ref 22]) rfl ?_
        refine wp_cs (As := [.ref 22, .int (iI ((m 10) 3)), .int (iI ((sdX ((sd : Int) % 4)) - (sdX ((fr : Int) % 4))))]) (rest := []) rfl rfl rfl rfl (Nat.le_of_ble_eq_true rfl) (Nat.le_of_ble_eq_true rfl) (c_put S (nc rfl) (n := 48) rfl (by decide) ((m 10) 3) ((sdX ((sd : Int) % 4)) - (sdX ((fr : Int) % 4))) (by omega) (by omega) (by omega) (by omega)) (fun r58 H58 q58 => ?_)
        obtain ⟨rfl, S⟩ := q58
        have S : ST H58 (up (up (up (up m 25 (ptn 24 (m 25) (e : Int) ((m 10) 3))) 20 (ptn 48 (m 20) ((m 10) 3) (e : Int))) 21 (ptn 48 (m 21) ((m 10) 3) ((m 10) 1))) 22 (ptn 48 (m 22) ((m 10) 3) ((sdX ((sd : Int) % 4)) - (sdX ((fr : Int) % 4))))) γ t := S
        show wp _ _ _ _ _ [] _ _
        refine wp_g (n := 1) (pc' := 165) (L' := [some (.ref 10), some (.int (iI (e : Int))), some (.int (iI (fr : Int))), some (.int (iI (sd : Int))), some (.int (iI ((sdX ((sd : Int) % 4)) - (sdX ((fr : Int) % 4))))), some (.int (iI ((sdY ((sd : Int) % 4)) - (sdY ((fr : Int) % 4))))), some (.int (iI 0)), some (.int (iI 1))]) (st' := [.ref 10]) rfl ?_
        refine wp_getf (v := .ref 23) rfl rfl (S.cell 10 (nc rfl)) (by decide) rfl ?_
        refine wp_g (n := 1) (pc' := 169) (L' := [some (.ref 10), some (.int (iI (e : Int))), some (.int (iI (fr : Int))), some (.int (iI (sd : Int))), some (.int (iI ((sdX ((sd : Int) % 4)) - (sdX ((fr : Int) % 4))))), some (.int (iI ((sdY ((sd : Int) % 4)) - (sdY ((fr : Int) % 4))))), some (.int (iI 0)), some (.int (iI 1))]) (st' := [.ref 10, .ref 23]) rfl ?_
        refine wp_getf (v := .int (iI ((m 10) 3))) rfl rfl (S.cell 10 (nc rfl)) (by decide) rfl ?_
        have hr59 : -2147483648 ≤ ((m 10) 3) ∧ ((m 10) 3) < 2147483648 := S.rg 10 3 (nl rfl)
        refine wp_g (n := 1) (pc' := 174) (L' := [some (.ref 10), some (.int (iI (e : Int))), some (.int (iI (fr : Int))), some (.int (iI (sd : Int))), some (.int (iI ((sdX ((sd : Int) % 4)) - (sdX ((fr : Int) % 4))))), some (.int (iI ((sdY ((sd : Int) % 4)) - (sdY ((fr : Int) % 4))))), some (.int (iI 0)), some (.int (iI 1))]) (st' := [.int (iI ((sdY ((sd : Int) % 4)) - (sdY ((fr : Int) % 4)))), .int (iI ((m 10) 3)), .ref 23]) rfl ?_
        refine wp_cs (As := [.ref 23, .int (iI ((m 10) 3)), .int (iI ((sdY ((sd : Int) % 4)) - (sdY ((fr : Int) % 4))))]) (rest := []) rfl rfl rfl rfl (Nat.le_of_ble_eq_true rfl) (Nat.le_of_ble_eq_true rfl) (c_put S (nc rfl) (n := 48) rfl (by decide) ((m 10) 3) ((sdY ((sd : Int) % 4)) - (sdY ((fr : Int) % 4))) (by omega) (by omega) (by omega) (by omega)) (fun r60 H60 q60 => ?_)
        obtain ⟨rfl, S⟩ := q60
        have S : ST H60 (up (up (up (up (up m 25 (ptn 24 (m 25) (e : Int) ((m 10) 3))) 20 (ptn 48 (m 20) ((m 10) 3) (e : Int))) 21 (ptn 48 (m 21) ((m 10) 3) ((m 10) 1))) 22 (ptn 48 (m 22) ((m 10) 3) ((sdX ((sd : Int) % 4)) - (sdX ((fr : Int) % 4))))) 23 (ptn 48 (m 23) ((m 10) 3) ((sdY ((sd : Int) % 4)) - (sdY ((fr : Int) % 4))))) γ t := S
        show wp _ _ _ _ _ [] _ _
        refine wp_g (n := 2) (pc' := 179) (L' := [some (.ref 10), some (.int (iI (e : Int))), some (.int (iI (fr : Int))), some (.int (iI (sd : Int))), some (.int (iI ((sdX ((sd : Int) % 4)) - (sdX ((fr : Int) % 4))))), some (.int (iI ((sdY ((sd : Int) % 4)) - (sdY ((fr : Int) % 4))))), some (.int (iI 0)), some (.int (iI 1))]) (st' := [.ref 10, .ref 10]) rfl ?_
        refine wp_getf (v := .int (iI ((m 10) 3))) rfl rfl (S.cell 10 (nc rfl)) (by decide) rfl ?_
        have hr61 : -2147483648 ≤ ((m 10) 3) ∧ ((m 10) 3) < 2147483648 := S.rg 10 3 (nl rfl)
        refine wp_g (n := 1) (pc' := 183) (L' := [some (.ref 10), some (.int (iI (e : Int))), some (.int (iI (fr : Int))), some (.int (iI (sd : Int))), some (.int (iI ((sdX ((sd : Int) % 4)) - (sdX ((fr : Int) % 4))))), some (.int (iI ((sdY ((sd : Int) % 4)) - (sdY ((fr : Int) % 4))))), some (.int (iI 0)), some (.int (iI 1))]) (st' := [.int (iI 1), .int (iI ((m 10) 3)), .ref 10]) rfl ?_
        refine wp_add rfl ?_
        refine wp_putI rfl rfl (S.cell 10 (nc rfl)) (Nat.le_of_ble_eq_true rfl) rfl (fun H62 hl62 hz62 hf62 => ?_)
        have S : ST H62 (up (up (up (up (up (up m 25 (ptn 24 (m 25) (e : Int) ((m 10) 3))) 20 (ptn 48 (m 20) ((m 10) 3) (e : Int))) 21 (ptn 48 (m 21) ((m 10) 3) ((m 10) 1))) 22 (ptn 48 (m 22) ((m 10) 3) ((sdX ((sd : Int) % 4)) - (sdX ((fr : Int) % 4))))) 23 (ptn 48 (m 23) ((m 10) 3) ((sdY ((sd : Int) % 4)) - (sdY ((fr : Int) % 4))))) 10 (up (m 10) 3 (((m 10) 3) + 1))) γ t := S.setI 10 (nc rfl) hl62 hz62 hf62 (by omega) (by omega)
        refine wp_vret rfl rfl ?_
        first
          | (exfalso; revert ho; simp only [c1, c4, c36, decide_true, decide_false] <;> decide)
          | (refine ⟨rfl, S.same_m ?_⟩
             rw [h1, h2, ptn_in he2, ptn_in hn, ptn_in hn, ptn_in hn, ptn_in hn]
             rfl)
  · have c1 : ((((sdX ((sd : Int) % 4)) - (sdX ((fr : Int) % 4))) : Int) = ((sdY ((sd : Int) % 4)) - (sdY ((fr : Int) % 4)))) := Classical.not_not.mp c1
    refine wp_g (n := 5) (pc' := 51) (L' := [some (.ref 10), some (.int (iI (e : Int))), some (.int (iI (fr : Int))), some (.int (iI (sd : Int))), some (.int (iI ((sdX ((sd : Int) % 4)) - (sdX ((fr : Int) % 4))))), some (.int (iI ((sdY ((sd : Int) % 4)) - (sdY ((fr : Int) % 4))))), some (.int (iI 1)), none]) (st' := [.ref 10, .int (iI 1)]) rfl ?_
    refine wp_getf (v := .ref 11) rfl rfl (S.cell 10 (nc rfl)) (by decide) rfl ?_
    refine wp_g (n := 1) (pc' := 55) (L' := [some (.ref 10), some (.int (iI (e : Int))), some (.int (iI (fr : Int))), some (.int (iI (sd : Int))), some (.int (iI ((sdX ((sd : Int) % 4)) - (sdX ((fr : Int) % 4))))), some (.int (iI ((sdY ((sd : Int) % 4)) - (sdY ((fr : Int) % 4))))), some (.int (iI 1)), none]) (st' := [.int (iI (e : Int)), .ref 11, .int (iI 1)]) rfl ?_
    refine wp_cv (As := [.int (iI (e : Int))]) (rest := [.int (iI 1)]) rfl rfl (S.gq hγ (gi rfl)).obj (by decide) rfl rfl rfl (Nat.le_of_ble_eq_true rfl) (Nat.le_of_ble_eq_true rfl) (G_belowOfI (S.gq hγ (gi rfl)) (e : Int) (by omega) (by omega)) (fun r63 H63 q63 => ?_)
    obtain ⟨rfl, e63⟩ := q63
    rw [e63]
    show wp _ _ _ _ _ [.int (iI (gbel R C e : Int)), .int (iI 1)] _ _
    have hb64 := gbel_le R C e
    refine wp_ifI (a := (gbel R C e : Int)) rfl rfl (by omega) (by omega) (fun c65 => ?_) (fun c65 => ?_)
    · have c65 : (¬ ((gbel R C e : Int) : Int) = 0) := c65
      refine wp_g (n := 1) (pc' := 66) (L' := [some (.ref 10), some (.int (iI (e : Int))), some (.int (iI (fr : Int))), some (.int (iI (sd : Int))), some (.int (iI ((sdX ((sd : Int) % 4)) - (sdX ((fr : Int) % 4))))), some (.int (iI ((sdY ((sd : Int) % 4)) - (sdY ((fr : Int) % 4))))), some (.int (iI 1)), none]) (st' := [.int (iI 0), .int (iI 1)]) rfl ?_
      refine wp_g (n := 1) (pc' := 73) (L' := [some (.ref 10), some (.int (iI (e : Int))), some (.int (iI (fr : Int))), some (.int (iI (sd : Int))), some (.int (iI ((sdX ((sd : Int) % 4)) - (sdX ((fr : Int) % 4))))), some (.int (iI ((sdY ((sd : Int) % 4)) - (sdY ((fr : Int) % 4))))), some (.int (iI 1)), none]) (st' := []) rfl ?_
      refine wp_g (n := 3) (pc' := 77) (L' := [some (.ref 10), some (.int (iI (e : Int))), some (.int (iI (fr : Int))), some (.int (iI (sd : Int))), some (.int (iI ((sdX ((sd : Int) % 4)) - (sdX ((fr : Int) % 4))))), some (.int (iI ((sdY ((sd : Int) % 4)) - (sdY ((fr : Int) % 4))))), some (.int (iI 1)), some (.int (iI 0))]) (st' := [.ref 10]) rfl ?_
      refine wp_getf (v := .ref 11) rfl rfl (S.cell 10 (nc rfl)) (by decide) rfl ?_
      refine wp_g (n := 1) (pc' := 81) (L' := [some (.ref 10), some (.int (iI (e : Int))), some (.int (iI (fr : Int))), some (.int (iI (sd : Int))), some (.int (iI ((sdX ((sd : Int) % 4)) - (sdX ((fr : Int) % 4))))), some (.int (iI ((sdY ((sd : Int) % 4)) - (sdY ((fr : Int) % 4))))), some (.int (iI 1)), some (.int (iI 0))]) (st' := [.int (iI (e : Int)), .ref 11]) rfl ?_
      refine wp_cv (As := [.int (iI (e : Int))]) (rest := []) rfl rfl (S.gq hγ (gi rfl)).obj (by decide) rfl rfl rfl (Nat.le_of_ble_eq_true rfl) (Nat.le_of_ble_eq_true rfl) (G_kindOfI (S.gq hγ (gi rfl)) (e : Int) (by omega) (by omega)) (fun r66 H66 q66 => ?_)
      obtain ⟨rfl, e66⟩ := q66
      rw [e66]
      show wp _ _ _ _ _ [.int (iI (kd e))] _ _
      have hk67 := ((S.gq hγ (gi rfl))).2.1 e (by omega)
      refine wp_g (n := 1) (pc' := 85) (L' := [some (.ref 10), some (.int (iI (e : Int))), some (.int (iI (fr : Int))), some (.int (iI (sd : Int))), some (.int (iI ((sdX ((sd : Int) % 4)) - (sdX ((fr : Int) % 4))))), some (.int (iI ((sdY ((sd : Int) % 4)) - (sdY ((fr : Int) % 4))))), some (.int (iI 1)), some (.int (iI 0))]) (st' := [.int (iI 1), .int (iI (kd e))]) rfl ?_
      refine wp_icmpI (a := (kd e)) (b := 1) rfl rfl (by omega) (by omega) (by omega) (by omega) (fun c68 => ?_) (fun c68 => ?_)
      · have c68 : (¬ ((kd e) : Int) = 1) := c68
        refine wp_g (n := 1) (pc' := 102) (L' := [some (.ref 10), some (.int (iI (e : Int))), some (.int (iI (fr : Int))), some (.int (iI (sd : Int))), some (.int (iI ((sdX ((sd : Int) % 4)) - (sdX ((fr : Int) % 4))))), some (.int (iI ((sdY ((sd : Int) % 4)) - (sdY ((fr : Int) % 4))))), some (.int (iI 1)), some (.int (iI 0))]) (st' := [.int (iI 0)]) rfl ?_
        refine wp_g (n := 1) (pc' := 112) (L' := [some (.ref 10), some (.int (iI (e : Int))), some (.int (iI (fr : Int))), some (.int (iI (sd : Int))), some (.int (iI ((sdX ((sd : Int) % 4)) - (sdX ((fr : Int) % 4))))), some (.int (iI ((sdY ((sd : Int) % 4)) - (sdY ((fr : Int) % 4))))), some (.int (iI 1)), some (.int (iI 0))]) (st' := []) rfl ?_
        refine wp_g (n := 1) (pc' := 113) (L' := [some (.ref 10), some (.int (iI (e : Int))), some (.int (iI (fr : Int))), some (.int (iI (sd : Int))), some (.int (iI ((sdX ((sd : Int) % 4)) - (sdX ((fr : Int) % 4))))), some (.int (iI ((sdY ((sd : Int) % 4)) - (sdY ((fr : Int) % 4))))), some (.int (iI 1)), some (.int (iI 0))]) (st' := [.ref 10]) rfl ?_
        refine wp_getf (v := .ref 26) rfl rfl (S.cell 10 (nc rfl)) (by decide) rfl ?_
        refine wp_g (n := 2) (pc' := 118) (L' := [some (.ref 10), some (.int (iI (e : Int))), some (.int (iI (fr : Int))), some (.int (iI (sd : Int))), some (.int (iI ((sdX ((sd : Int) % 4)) - (sdX ((fr : Int) % 4))))), some (.int (iI ((sdY ((sd : Int) % 4)) - (sdY ((fr : Int) % 4))))), some (.int (iI 1)), some (.int (iI 0))]) (st' := [.ref 10, .int (iI (e : Int)), .ref 26]) rfl ?_
        refine wp_getf (v := .int (iI ((m 10) 3))) rfl rfl (S.cell 10 (nc rfl)) (by decide) rfl ?_
        have hr69 : -2147483648 ≤ ((m 10) 3) ∧ ((m 10) 3) < 2147483648 := S.rg 10 3 (nl rfl)
        refine wp_cs (As := [.ref 26, .int (iI (e : Int)), .int (iI ((m 10) 3))]) (rest := []) rfl rfl rfl rfl (Nat.le_of_ble_eq_true rfl) (Nat.le_of_ble_eq_true rfl) (c_put S (nc rfl) (n := 24) rfl (by decide) (e : Int) ((m 10) 3) (by omega) (by omega) (by omega) (by omega)) (fun r70 H70 q70 => ?_)
        obtain ⟨rfl, S⟩ := q70
        have S : ST H70 (up m 26 (ptn 24 (m 26) (e : Int) ((m 10) 3))) γ t := S
        show wp _ _ _ _ _ [] _ _
        refine wp_g (n := 1) (pc' := 125) (L' := [some (.ref 10), some (.int (iI (e : Int))), some (.int (iI (fr : Int))), some (.int (iI (sd : Int))), some (.int (iI ((sdX ((sd : Int) % 4)) - (sdX ((fr : Int) % 4))))), some (.int (iI ((sdY ((sd : Int) % 4)) - (sdY ((fr : Int) % 4))))), some (.int (iI 1)), some (.int (iI 0))]) (st' := [.ref 10]) rfl ?_
        refine wp_getf (v := .ref 20) rfl rfl (S.cell 10 (nc rfl)) (by decide) rfl ?_
        refine wp_g (n := 1) (pc' := 129) (L' := [some (.ref 10), some (.int (iI (e : Int))), some (.int (iI (fr : Int))), some (.int (iI (sd : Int))), some (.int (iI ((sdX ((sd : Int) % 4)) - (sdX ((fr : Int) % 4))))), some (.int (iI ((sdY ((sd : Int) % 4)) - (sdY ((fr : Int) % 4))))), some (.int (iI 1)), some (.int (iI 0))]) (st' := [.ref 10, .ref 20]) rfl ?_
        refine wp_getf (v := .int (iI ((m 10) 3))) rfl rfl (S.cell 10 (nc rfl)) (by decide) rfl ?_
        have hr71 : -2147483648 ≤ ((m 10) 3) ∧ ((m 10) 3) < 2147483648 := S.rg 10 3 (nl rfl)
        refine wp_g (n := 1) (pc' := 133) (L' := [some (.ref 10), some (.int (iI (e : Int))), some (.int (iI (fr : Int))), some (.int (iI (sd : Int))), some (.int (iI ((sdX ((sd : Int) % 4)) - (sdX ((fr : Int) % 4))))), some (.int (iI ((sdY ((sd : Int) % 4)) - (sdY ((fr : Int) % 4))))), some (.int (iI 1)), some (.int (iI 0))]) (st' := [.int (iI (e : Int)), .int (iI ((m 10) 3)), .ref 20]) rfl ?_
        refine wp_cs (As := [.ref 20, .int (iI ((m 10) 3)), .int (iI (e : Int))]) (rest := []) rfl rfl rfl rfl (Nat.le_of_ble_eq_true rfl) (Nat.le_of_ble_eq_true rfl) (c_put S (nc rfl) (n := 48) rfl (by decide) ((m 10) 3) (e : Int) (by omega) (by omega) (by omega) (by omega)) (fun r72 H72 q72 => ?_)
        obtain ⟨rfl, S⟩ := q72
        have S : ST H72 (up (up m 26 (ptn 24 (m 26) (e : Int) ((m 10) 3))) 20 (ptn 48 (m 20) ((m 10) 3) (e : Int))) γ t := S
        show wp _ _ _ _ _ [] _ _
        refine wp_g (n := 1) (pc' := 137) (L' := [some (.ref 10), some (.int (iI (e : Int))), some (.int (iI (fr : Int))), some (.int (iI (sd : Int))), some (.int (iI ((sdX ((sd : Int) % 4)) - (sdX ((fr : Int) % 4))))), some (.int (iI ((sdY ((sd : Int) % 4)) - (sdY ((fr : Int) % 4))))), some (.int (iI 1)), some (.int (iI 0))]) (st' := [.ref 10]) rfl ?_
        refine wp_getf (v := .ref 21) rfl rfl (S.cell 10 (nc rfl)) (by decide) rfl ?_
        refine wp_g (n := 1) (pc' := 141) (L' := [some (.ref 10), some (.int (iI (e : Int))), some (.int (iI (fr : Int))), some (.int (iI (sd : Int))), some (.int (iI ((sdX ((sd : Int) % 4)) - (sdX ((fr : Int) % 4))))), some (.int (iI ((sdY ((sd : Int) % 4)) - (sdY ((fr : Int) % 4))))), some (.int (iI 1)), some (.int (iI 0))]) (st' := [.ref 10, .ref 21]) rfl ?_
        refine wp_getf (v := .int (iI ((m 10) 3))) rfl rfl (S.cell 10 (nc rfl)) (by decide) rfl ?_
        have hr73 : -2147483648 ≤ ((m 10) 3) ∧ ((m 10) 3) < 2147483648 := S.rg 10 3 (nl rfl)
        refine wp_g (n := 1) (pc' := 145) (L' := [some (.ref 10), some (.int (iI (e : Int))), some (.int (iI (fr : Int))), some (.int (iI (sd : Int))), some (.int (iI ((sdX ((sd : Int) % 4)) - (sdX ((fr : Int) % 4))))), some (.int (iI ((sdY ((sd : Int) % 4)) - (sdY ((fr : Int) % 4))))), some (.int (iI 1)), some (.int (iI 0))]) (st' := [.ref 10, .int (iI ((m 10) 3)), .ref 21]) rfl ?_
        refine wp_getf (v := .int (iI ((m 10) 1))) rfl rfl (S.cell 10 (nc rfl)) (by decide) rfl ?_
        have hr74 : -2147483648 ≤ ((m 10) 1) ∧ ((m 10) 1) < 2147483648 := S.rg 10 1 (nl rfl)
        refine wp_cs (As := [.ref 21, .int (iI ((m 10) 3)), .int (iI ((m 10) 1))]) (rest := []) rfl rfl rfl rfl (Nat.le_of_ble_eq_true rfl) (Nat.le_of_ble_eq_true rfl) (c_put S (nc rfl) (n := 48) rfl (by decide) ((m 10) 3) ((m 10) 1) (by omega) (by omega) (by omega) (by omega)) (fun r75 H75 q75 => ?_)
        obtain ⟨rfl, S⟩ := q75
        have S : ST H75 (up (up (up m 26 (ptn 24 (m 26) (e : Int) ((m 10) 3))) 20 (ptn 48 (m 20) ((m 10) 3) (e : Int))) 21 (ptn 48 (m 21) ((m 10) 3) ((m 10) 1))) γ t := S
        show wp _ _ _ _ _ [] _ _
        refine wp_g (n := 1) (pc' := 152) (L' := [some (.ref 10), some (.int (iI (e : Int))), some (.int (iI (fr : Int))), some (.int (iI (sd : Int))), some (.int (iI ((sdX ((sd : Int) % 4)) - (sdX ((fr : Int) % 4))))), some (.int (iI ((sdY ((sd : Int) % 4)) - (sdY ((fr : Int) % 4))))), some (.int (iI 1)), some (.int (iI 0))]) (st' := [.ref 10]) rfl ?_
        refine wp_getf (v := .ref 22) rfl rfl (S.cell 10 (nc rfl)) (by decide) rfl ?_
        refine wp_g (n := 1) (pc' := 156) (L' := [some (.ref 10), some (.int (iI (e : Int))), some (.int (iI (fr : Int))), some (.int (iI (sd : Int))), some (.int (iI ((sdX ((sd : Int) % 4)) - (sdX ((fr : Int) % 4))))), some (.int (iI ((sdY ((sd : Int) % 4)) - (sdY ((fr : Int) % 4))))), some (.int (iI 1)), some (.int (iI 0))]) (st' := [.ref 10, .ref 22]) rfl ?_
        refine wp_getf (v := .int (iI ((m 10) 3))) rfl rfl (S.cell 10 (nc rfl)) (by decide) rfl ?_
        have hr76 : -2147483648 ≤ ((m 10) 3) ∧ ((m 10) 3) < 2147483648 := S.rg 10 3 (nl rfl)
        refine wp_g (n := 1) (pc' := 161) (L' := [some (.ref 10), some (.int (iI (e : Int))), some (.int (iI (fr : Int))), some (.int (iI (sd : Int))), some (.int (iI ((sdX ((sd : Int) % 4)) - (sdX ((fr : Int) % 4))))), some (.int (iI ((sdY ((sd : Int) % 4)) - (sdY ((fr : Int) % 4))))), some (.int (iI 1)), some (.int (iI 0))]) (st' := [.int (iI ((sdX ((sd : Int) % 4)) - (sdX ((fr : Int) % 4)))), .int (iI ((m 10) 3)), .ref 22]) rfl ?_
        refine wp_cs (As := [.ref 22, .int (iI ((m 10) 3)), .int (iI ((sdX ((sd : Int) % 4)) - (sdX ((fr : Int) % 4))))]) (rest := []) rfl rfl rfl rfl (Nat.le_of_ble_eq_true rfl) (Nat.le_of_ble_eq_true rfl) (c_put S (nc rfl) (n := 48) rfl (by decide) ((m 10) 3) ((sdX ((sd : Int) % 4)) - (sdX ((fr : Int) % 4))) (by omega) (by omega) (by omega) (by omega)) (fun r77 H77 q77 => ?_)
        obtain ⟨rfl, S⟩ := q77
        have S : ST H77 (up (up (up (up m 26 (ptn 24 (m 26) (e : Int) ((m 10) 3))) 20 (ptn 48 (m 20) ((m 10) 3) (e : Int))) 21 (ptn 48 (m 21) ((m 10) 3) ((m 10) 1))) 22 (ptn 48 (m 22) ((m 10) 3) ((sdX ((sd : Int) % 4)) - (sdX ((fr : Int) % 4))))) γ t := S
        show wp _ _ _ _ _ [] _ _
        refine wp_g (n := 1) (pc' := 165) (L' := [some (.ref 10), some (.int (iI (e : Int))), some (.int (iI (fr : Int))), some (.int (iI (sd : Int))), some (.int (iI ((sdX ((sd : Int) % 4)) - (sdX ((fr : Int) % 4))))), some (.int (iI ((sdY ((sd : Int) % 4)) - (sdY ((fr : Int) % 4))))), some (.int (iI 1)), some (.int (iI 0))]) (st' := [.ref 10]) rfl ?_
        refine wp_getf (v := .ref 23) rfl rfl (S.cell 10 (nc rfl)) (by decide) rfl ?_
        refine wp_g (n := 1) (pc' := 169) (L' := [some (.ref 10), some (.int (iI (e : Int))), some (.int (iI (fr : Int))), some (.int (iI (sd : Int))), some (.int (iI ((sdX ((sd : Int) % 4)) - (sdX ((fr : Int) % 4))))), some (.int (iI ((sdY ((sd : Int) % 4)) - (sdY ((fr : Int) % 4))))), some (.int (iI 1)), some (.int (iI 0))]) (st' := [.ref 10, .ref 23]) rfl ?_
        refine wp_getf (v := .int (iI ((m 10) 3))) rfl rfl (S.cell 10 (nc rfl)) (by decide) rfl ?_
        have hr78 : -2147483648 ≤ ((m 10) 3) ∧ ((m 10) 3) < 2147483648 := S.rg 10 3 (nl rfl)
        refine wp_g (n := 1) (pc' := 174) (L' := [some (.ref 10), some (.int (iI (e : Int))), some (.int (iI (fr : Int))), some (.int (iI (sd : Int))), some (.int (iI ((sdX ((sd : Int) % 4)) - (sdX ((fr : Int) % 4))))), some (.int (iI ((sdY ((sd : Int) % 4)) - (sdY ((fr : Int) % 4))))), some (.int (iI 1)), some (.int (iI 0))]) (st' := [.int (iI ((sdY ((sd : Int) % 4)) - (sdY ((fr : Int) % 4)))), .int (iI ((m 10) 3)), .ref 23]) rfl ?_
        refine wp_cs (As := [.ref 23, .int (iI ((m 10) 3)), .int (iI ((sdY ((sd : Int) % 4)) - (sdY ((fr : Int) % 4))))]) (rest := []) rfl rfl rfl rfl (Nat.le_of_ble_eq_true rfl) (Nat.le_of_ble_eq_true rfl) (c_put S (nc rfl) (n := 48) rfl (by decide) ((m 10) 3) ((sdY ((sd : Int) % 4)) - (sdY ((fr : Int) % 4))) (by omega) (by omega) (by omega) (by omega)) (fun r79 H79 q79 => ?_)
        obtain ⟨rfl, S⟩ := q79
        have S : ST H79 (up (up (up (up (up m 26 (ptn 24 (m 26) (e : Int) ((m 10) 3))) 20 (ptn 48 (m 20) ((m 10) 3) (e : Int))) 21 (ptn 48 (m 21) ((m 10) 3) ((m 10) 1))) 22 (ptn 48 (m 22) ((m 10) 3) ((sdX ((sd : Int) % 4)) - (sdX ((fr : Int) % 4))))) 23 (ptn 48 (m 23) ((m 10) 3) ((sdY ((sd : Int) % 4)) - (sdY ((fr : Int) % 4))))) γ t := S
        show wp _ _ _ _ _ [] _ _
        refine wp_g (n := 2) (pc' := 179) (L' := [some (.ref 10), some (.int (iI (e : Int))), some (.int (iI (fr : Int))), some (.int (iI (sd : Int))), some (.int (iI ((sdX ((sd : Int) % 4)) - (sdX ((fr : Int) % 4))))), some (.int (iI ((sdY ((sd : Int) % 4)) - (sdY ((fr : Int) % 4))))), some (.int (iI 1)), some (.int (iI 0))]) (st' := [.ref 10, .ref 10]) rfl ?_
        refine wp_getf (v := .int (iI ((m 10) 3))) rfl rfl (S.cell 10 (nc rfl)) (by decide) rfl ?_
        have hr80 : -2147483648 ≤ ((m 10) 3) ∧ ((m 10) 3) < 2147483648 := S.rg 10 3 (nl rfl)
        refine wp_g (n := 1) (pc' := 183) (L' := [some (.ref 10), some (.int (iI (e : Int))), some (.int (iI (fr : Int))), some (.int (iI (sd : Int))), some (.int (iI ((sdX ((sd : Int) % 4)) - (sdX ((fr : Int) % 4))))), some (.int (iI ((sdY ((sd : Int) % 4)) - (sdY ((fr : Int) % 4))))), some (.int (iI 1)), some (.int (iI 0))]) (st' := [.int (iI 1), .int (iI ((m 10) 3)), .ref 10]) rfl ?_
        refine wp_add rfl ?_
        refine wp_putI rfl rfl (S.cell 10 (nc rfl)) (Nat.le_of_ble_eq_true rfl) rfl (fun H81 hl81 hz81 hf81 => ?_)
        have S : ST H81 (up (up (up (up (up (up m 26 (ptn 24 (m 26) (e : Int) ((m 10) 3))) 20 (ptn 48 (m 20) ((m 10) 3) (e : Int))) 21 (ptn 48 (m 21) ((m 10) 3) ((m 10) 1))) 22 (ptn 48 (m 22) ((m 10) 3) ((sdX ((sd : Int) % 4)) - (sdX ((fr : Int) % 4))))) 23 (ptn 48 (m 23) ((m 10) 3) ((sdY ((sd : Int) % 4)) - (sdY ((fr : Int) % 4))))) 10 (up (m 10) 3 (((m 10) 3) + 1))) γ t := S.setI 10 (nc rfl) hl81 hz81 hf81 (by omega) (by omega)
        refine wp_vret rfl rfl ?_
        first
          | (exfalso; revert ho; simp only [c1, c65, c68, decide_true, decide_false] <;> decide)
          | (refine ⟨rfl, S.same_m ?_⟩
             rw [h1, h2, ptn_in he2, ptn_in hn, ptn_in hn, ptn_in hn, ptn_in hn]
             rfl)
      · have c68 : (((kd e) : Int) = 1) := Classical.not_not.mp c68
        refine wp_g (n := 1) (pc' := 90) (L' := [some (.ref 10), some (.int (iI (e : Int))), some (.int (iI (fr : Int))), some (.int (iI (sd : Int))), some (.int (iI ((sdX ((sd : Int) % 4)) - (sdX ((fr : Int) % 4))))), some (.int (iI ((sdY ((sd : Int) % 4)) - (sdY ((fr : Int) % 4))))), some (.int (iI 1)), some (.int (iI 0))]) (st' := [.int (iI 0)]) rfl ?_
        refine wp_g (n := 1) (pc' := 93) (L' := [some (.ref 10), some (.int (iI (e : Int))), some (.int (iI (fr : Int))), some (.int (iI (sd : Int))), some (.int (iI ((sdX ((sd : Int) % 4)) - (sdX ((fr : Int) % 4))))), some (.int (iI ((sdY ((sd : Int) % 4)) - (sdY ((fr : Int) % 4))))), some (.int (iI 1)), some (.int (iI 0))]) (st' := []) rfl ?_
        refine wp_g (n := 4) (pc' := 102) (L' := [some (.ref 10), some (.int (iI (e : Int))), some (.int (iI (fr : Int))), some (.int (iI (sd : Int))), some (.int (iI ((sdX ((sd : Int) % 4)) - (sdX ((fr : Int) % 4))))), some (.int (iI ((sdY ((sd : Int) % 4)) - (sdY ((fr : Int) % 4))))), some (.int (iI 1)), some (.int (iI 1))]) (st' := [.int (iI 1)]) rfl ?_
        refine wp_g (n := 1) (pc' := 105) (L' := [some (.ref 10), some (.int (iI (e : Int))), some (.int (iI (fr : Int))), some (.int (iI (sd : Int))), some (.int (iI ((sdX ((sd : Int) % 4)) - (sdX ((fr : Int) % 4))))), some (.int (iI ((sdY ((sd : Int) % 4)) - (sdY ((fr : Int) % 4))))), some (.int (iI 1)), some (.int (iI 1))]) (st' := []) rfl ?_
        refine wp_g (n := 1) (pc' := 106) (L' := [some (.ref 10), some (.int (iI (e : Int))), some (.int (iI (fr : Int))), some (.int (iI (sd : Int))), some (.int (iI ((sdX ((sd : Int) % 4)) - (sdX ((fr : Int) % 4))))), some (.int (iI ((sdY ((sd : Int) % 4)) - (sdY ((fr : Int) % 4))))), some (.int (iI 1)), some (.int (iI 1))]) (st' := [.ref 10]) rfl ?_
        refine wp_getf (v := .ref 25) rfl rfl (S.cell 10 (nc rfl)) (by decide) rfl ?_
        refine wp_g (n := 3) (pc' := 118) (L' := [some (.ref 10), some (.int (iI (e : Int))), some (.int (iI (fr : Int))), some (.int (iI (sd : Int))), some (.int (iI ((sdX ((sd : Int) % 4)) - (sdX ((fr : Int) % 4))))), some (.int (iI ((sdY ((sd : Int) % 4)) - (sdY ((fr : Int) % 4))))), some (.int (iI 1)), some (.int (iI 1))]) (st' := [.ref 10, .int (iI (e : Int)), .ref 25]) rfl ?_
        refine wp_getf (v := .int (iI ((m 10) 3))) rfl rfl (S.cell 10 (nc rfl)) (by decide) rfl ?_
        have hr82 : -2147483648 ≤ ((m 10) 3) ∧ ((m 10) 3) < 2147483648 := S.rg 10 3 (nl rfl)
        refine wp_cs (As := [.ref 25, .int (iI (e : Int)), .int (iI ((m 10) 3))]) (rest := []) rfl rfl rfl rfl (Nat.le_of_ble_eq_true rfl) (Nat.le_of_ble_eq_true rfl) (c_put S (nc rfl) (n := 24) rfl (by decide) (e : Int) ((m 10) 3) (by omega) (by omega) (by omega) (by omega)) (fun r83 H83 q83 => ?_)
        obtain ⟨rfl, S⟩ := q83
        have S : ST H83 (up m 25 (ptn 24 (m 25) (e : Int) ((m 10) 3))) γ t := S
        show wp _ _ _ _ _ [] _ _
        refine wp_g (n := 1) (pc' := 125) (L' := [some (.ref 10), some (.int (iI (e : Int))), some (.int (iI (fr : Int))), some (.int (iI (sd : Int))), some (.int (iI ((sdX ((sd : Int) % 4)) - (sdX ((fr : Int) % 4))))), some (.int (iI ((sdY ((sd : Int) % 4)) - (sdY ((fr : Int) % 4))))), some (.int (iI 1)), some (.int (iI 1))]) (st' := [.ref 10]) rfl ?_
        refine wp_getf (v := .ref 20) rfl rfl (S.cell 10 (nc rfl)) (by decide) rfl ?_
        refine wp_g (n := 1) (pc' := 129) (L' := [some (.ref 10), some (.int (iI (e : Int))), some (.int (iI (fr : Int))), some (.int (iI (sd : Int))), some (.int (iI ((sdX ((sd : Int) % 4)) - (sdX ((fr : Int) % 4))))), some (.int (iI ((sdY ((sd : Int) % 4)) - (sdY ((fr : Int) % 4))))), some (.int (iI 1)), some (.int (iI 1))]) (st' := [.ref 10, .ref 20]) rfl ?_
        refine wp_getf (v := .int (iI ((m 10) 3))) rfl rfl (S.cell 10 (nc rfl)) (by decide) rfl ?_
        have hr84 : -2147483648 ≤ ((m 10) 3) ∧ ((m 10) 3) < 2147483648 := S.rg 10 3 (nl rfl)
        refine wp_g (n := 1) (pc' := 133) (L' := [some (.ref 10), some (.int (iI (e : Int))), some (.int (iI (fr : Int))), some (.int (iI (sd : Int))), some (.int (iI ((sdX ((sd : Int) % 4)) - (sdX ((fr : Int) % 4))))), some (.int (iI ((sdY ((sd : Int) % 4)) - (sdY ((fr : Int) % 4))))), some (.int (iI 1)), some (.int (iI 1))]) (st' := [.int (iI (e : Int)), .int (iI ((m 10) 3)), .ref 20]) rfl ?_
        refine wp_cs (As := [.ref 20, .int (iI ((m 10) 3)), .int (iI (e : Int))]) (rest := []) rfl rfl rfl rfl (Nat.le_of_ble_eq_true rfl) (Nat.le_of_ble_eq_true rfl) (c_put S (nc rfl) (n := 48) rfl (by decide) ((m 10) 3) (e : Int) (by omega) (by omega) (by omega) (by omega)) (fun r85 H85 q85 => ?_)
        obtain ⟨rfl, S⟩ := q85
        have S : ST H85 (up (up m 25 (ptn 24 (m 25) (e : Int) ((m 10) 3))) 20 (ptn 48 (m 20) ((m 10) 3) (e : Int))) γ t := S
        show wp _ _ _ _ _ [] _ _
        refine wp_g (n := 1) (pc' := 137) (L' := [some (.ref 10), some (.int (iI (e : Int))), some (.int (iI (fr : Int))), some (.int (iI (sd : Int))), some (.int (iI ((sdX ((sd : Int) % 4)) - (sdX ((fr : Int) % 4))))), some (.int (iI ((sdY ((sd : Int) % 4)) - (sdY ((fr : Int) % 4))))), some (.int (iI 1)), some (.int (iI 1))]) (st' := [.ref 10]) rfl ?_
        refine wp_getf (v := .ref 21) rfl rfl (S.cell 10 (nc rfl)) (by decide) rfl ?_
        refine wp_g (n := 1) (pc' := 141) (L' := [some (.ref 10), some (.int (iI (e : Int))), some (.int (iI (fr : Int))), some (.int (iI (sd : Int))), some (.int (iI ((sdX ((sd : Int) % 4)) - (sdX ((fr : Int) % 4))))), some (.int (iI ((sdY ((sd : Int) % 4)) - (sdY ((fr : Int) % 4))))), some (.int (iI 1)), some (.int (iI 1))]) (st' := [.ref 10, .ref 21]) rfl ?_
        refine wp_getf (v := .int (iI ((m 10) 3))) rfl rfl (S.cell 10 (nc rfl)) (by decide) rfl ?_
        have hr86 : -2147483648 ≤ ((m 10) 3) ∧ ((m 10) 3) < 2147483648 := S.rg 10 3 (nl rfl)
        refine wp_g (n := 1) (pc' := 145) (L' := [some (.ref 10), some (.int (iI (e : Int))), some (.int (iI (fr : Int))), some (.int (iI (sd : Int))), some (.int (iI ((sdX ((sd : Int) % 4)) - (sdX ((fr : Int) % 4))))), some (.int (iI ((sdY ((sd : Int) % 4)) - (sdY ((fr : Int) % 4))))), some (.int (iI 1)), some (.int (iI 1))]) (st' := [.ref 10, .int (iI ((m 10) 3)), .ref 21]) rfl ?_
        refine wp_getf (v := .int (iI ((m 10) 1))) rfl rfl (S.cell 10 (nc rfl)) (by decide) rfl ?_
        have hr87 : -2147483648 ≤ ((m 10) 1) ∧ ((m 10) 1) < 2147483648 := S.rg 10 1 (nl rfl)
        refine wp_cs (As := [.ref 21, .int (iI ((m 10) 3)), .int (iI ((m 10) 1))]) (rest := []) rfl rfl rfl rfl (Nat.le_of_ble_eq_true rfl) (Nat.le_of_ble_eq_true rfl) (c_put S (nc rfl) (n := 48) rfl (by decide) ((m 10) 3) ((m 10) 1) (by omega) (by omega) (by omega) (by omega)) (fun r88 H88 q88 => ?_)
        obtain ⟨rfl, S⟩ := q88
        have S : ST H88 (up (up (up m 25 (ptn 24 (m 25) (e : Int) ((m 10) 3))) 20 (ptn 48 (m 20) ((m 10) 3) (e : Int))) 21 (ptn 48 (m 21) ((m 10) 3) ((m 10) 1))) γ t := S
        show wp _ _ _ _ _ [] _ _
        refine wp_g (n := 1) (pc' := 152) (L' := [some (.ref 10), some (.int (iI (e : Int))), some (.int (iI (fr : Int))), some (.int (iI (sd : Int))), some (.int (iI ((sdX ((sd : Int) % 4)) - (sdX ((fr : Int) % 4))))), some (.int (iI ((sdY ((sd : Int) % 4)) - (sdY ((fr : Int) % 4))))), some (.int (iI 1)), some (.int (iI 1))]) (st' := [.ref 10]) rfl ?_
        refine wp_getf (v := .ref 22) rfl rfl (S.cell 10 (nc rfl)) (by decide) rfl ?_
        refine wp_g (n := 1) (pc' := 156) (L' := [some (.ref 10), some (.int (iI (e : Int))), some (.int (iI (fr : Int))), some (.int (iI (sd : Int))), some (.int (iI ((sdX ((sd : Int) % 4)) - (sdX ((fr : Int) % 4))))), some (.int (iI ((sdY ((sd : Int) % 4)) - (sdY ((fr : Int) % 4))))), some (.int (iI 1)), some (.int (iI 1))]) (st' := [.ref 10, .ref 22]) rfl ?_
        refine wp_getf (v := .int (iI ((m 10) 3))) rfl rfl (S.cell 10 (nc rfl)) (by decide) rfl ?_
        have hr89 : -2147483648 ≤ ((m 10) 3) ∧ ((m 10) 3) < 2147483648 := S.rg 10 3 (nl rfl)
        refine wp_g (n := 1) (pc' := 161) (L' := [some (.ref 10), some (.int (iI (e : Int))), some (.int (iI (fr : Int))), some (.int (iI (sd : Int))), some (.int (iI ((sdX ((sd : Int) % 4)) - (sdX ((fr : Int) % 4))))), some (.int (iI ((sdY ((sd : Int) % 4)) - (sdY ((fr : Int) % 4))))), some (.int (iI 1)), some (.int (iI 1))]) (st' := [.int (iI ((sdX ((sd : Int) % 4)) - (sdX ((fr : Int) % 4)))), .int (iI ((m 10) 3)), .ref 22]) rfl ?_
        refine wp_cs (As := [.ref 22, .int (iI ((m 10) 3)), .int (iI ((sdX ((sd : Int) % 4)) - (sdX ((fr : Int) % 4))))]) (rest := []) rfl rfl rfl rfl (Nat.le_of_ble_eq_true rfl) (Nat.le_of_ble_eq_true rfl) (c_put S (nc rfl) (n := 48) rfl (by decide) ((m 10) 3) ((sdX ((sd : Int) % 4)) - (sdX ((fr : Int) % 4))) (by omega) (by omega) (by omega) (by omega)) (fun r90 H90 q90 => ?_)
        obtain ⟨rfl, S⟩ := q90
        have S : ST H90 (up (up (up (up m 25 (ptn 24 (m 25) (e : Int) ((m 10) 3))) 20 (ptn 48 (m 20) ((m 10) 3) (e : Int))) 21 (ptn 48 (m 21) ((m 10) 3) ((m 10) 1))) 22 (ptn 48 (m 22) ((m 10) 3) ((sdX ((sd : Int) % 4)) - (sdX ((fr : Int) % 4))))) γ t := S
        show wp _ _ _ _ _ [] _ _
        refine wp_g (n := 1) (pc' := 165) (L' := [some (.ref 10), some (.int (iI (e : Int))), some (.int (iI (fr : Int))), some (.int (iI (sd : Int))), some (.int (iI ((sdX ((sd : Int) % 4)) - (sdX ((fr : Int) % 4))))), some (.int (iI ((sdY ((sd : Int) % 4)) - (sdY ((fr : Int) % 4))))), some (.int (iI 1)), some (.int (iI 1))]) (st' := [.ref 10]) rfl ?_
        refine wp_getf (v := .ref 23) rfl rfl (S.cell 10 (nc rfl)) (by decide) rfl ?_
        refine wp_g (n := 1) (pc' := 169) (L' := [some (.ref 10), some (.int (iI (e : Int))), some (.int (iI (fr : Int))), some (.int (iI (sd : Int))), some (.int (iI ((sdX ((sd : Int) % 4)) - (sdX ((fr : Int) % 4))))), some (.int (iI ((sdY ((sd : Int) % 4)) - (sdY ((fr : Int) % 4))))), some (.int (iI 1)), some (.int (iI 1))]) (st' := [.ref 10, .ref 23]) rfl ?_
        refine wp_getf (v := .int (iI ((m 10) 3))) rfl rfl (S.cell 10 (nc rfl)) (by decide) rfl ?_
        have hr91 : -2147483648 ≤ ((m 10) 3) ∧ ((m 10) 3) < 2147483648 := S.rg 10 3 (nl rfl)
        refine wp_g (n := 1) (pc' := 174) (L' := [some (.ref 10), some (.int (iI (e : Int))), some (.int (iI (fr : Int))), some (.int (iI (sd : Int))), some (.int (iI ((sdX ((sd : Int) % 4)) - (sdX ((fr : Int) % 4))))), some (.int (iI ((sdY ((sd : Int) % 4)) - (sdY ((fr : Int) % 4))))), some (.int (iI 1)), some (.int (iI 1))]) (st' := [.int (iI ((sdY ((sd : Int) % 4)) - (sdY ((fr : Int) % 4)))), .int (iI ((m 10) 3)), .ref 23]) rfl ?_
        refine wp_cs (As := [.ref 23, .int (iI ((m 10) 3)), .int (iI ((sdY ((sd : Int) % 4)) - (sdY ((fr : Int) % 4))))]) (rest := []) rfl rfl rfl rfl (Nat.le_of_ble_eq_true rfl) (Nat.le_of_ble_eq_true rfl) (c_put S (nc rfl) (n := 48) rfl (by decide) ((m 10) 3) ((sdY ((sd : Int) % 4)) - (sdY ((fr : Int) % 4))) (by omega) (by omega) (by omega) (by omega)) (fun r92 H92 q92 => ?_)
        obtain ⟨rfl, S⟩ := q92
        have S : ST H92 (up (up (up (up (up m 25 (ptn 24 (m 25) (e : Int) ((m 10) 3))) 20 (ptn 48 (m 20) ((m 10) 3) (e : Int))) 21 (ptn 48 (m 21) ((m 10) 3) ((m 10) 1))) 22 (ptn 48 (m 22) ((m 10) 3) ((sdX ((sd : Int) % 4)) - (sdX ((fr : Int) % 4))))) 23 (ptn 48 (m 23) ((m 10) 3) ((sdY ((sd : Int) % 4)) - (sdY ((fr : Int) % 4))))) γ t := S
        show wp _ _ _ _ _ [] _ _
        refine wp_g (n := 2) (pc' := 179) (L' := [some (.ref 10), some (.int (iI (e : Int))), some (.int (iI (fr : Int))), some (.int (iI (sd : Int))), some (.int (iI ((sdX ((sd : Int) % 4)) - (sdX ((fr : Int) % 4))))), some (.int (iI ((sdY ((sd : Int) % 4)) - (sdY ((fr : Int) % 4))))), some (.int (iI 1)), some (.int (iI 1))]) (st' := [.ref 10, .ref 10]) rfl ?_
        refine wp_getf (v := .int (iI ((m 10) 3))) rfl rfl (S.cell 10 (nc rfl)) (by decide) rfl ?_
        have hr93 : -2147483648 ≤ ((m 10) 3) ∧ ((m 10) 3) < 2147483648 := S.rg 10 3 (nl rfl)
        refine wp_g (n := 1) (pc' := 183) (L' := [some (.ref 10), some (.int (iI (e : Int))), some (.int (iI (fr : Int))), some (.int (iI (sd : Int))), some (.int (iI ((sdX ((sd : Int) % 4)) - (sdX ((fr : Int) % 4))))), some (.int (iI ((sdY ((sd : Int) % 4)) - (sdY ((fr : Int) % 4))))), some (.int (iI 1)), some (.int (iI 1))]) (st' := [.int (iI 1), .int (iI ((m 10) 3)), .ref 10]) rfl ?_
        refine wp_add rfl ?_
        refine wp_putI rfl rfl (S.cell 10 (nc rfl)) (Nat.le_of_ble_eq_true rfl) rfl (fun H94 hl94 hz94 hf94 => ?_)
        have S : ST H94 (up (up (up (up (up (up m 25 (ptn 24 (m 25) (e : Int) ((m 10) 3))) 20 (ptn 48 (m 20) ((m 10) 3) (e : Int))) 21 (ptn 48 (m 21) ((m 10) 3) ((m 10) 1))) 22 (ptn 48 (m 22) ((m 10) 3) ((sdX ((sd : Int) % 4)) - (sdX ((fr : Int) % 4))))) 23 (ptn 48 (m 23) ((m 10) 3) ((sdY ((sd : Int) % 4)) - (sdY ((fr : Int) % 4))))) 10 (up (m 10) 3 (((m 10) 3) + 1))) γ t := S.setI 10 (nc rfl) hl94 hz94 hf94 (by omega) (by omega)
        refine wp_vret rfl rfl ?_
        first
          | (exfalso; revert ho; simp only [c1, c65, c68, decide_true, decide_false] <;> decide)
          | (refine ⟨rfl, S.same_m ?_⟩
             rw [h1, h2, ptn_in he2, ptn_in hn, ptn_in hn, ptn_in hn, ptn_in hn]
             rfl)
    · have c65 : (((gbel R C e : Int) : Int) = 0) := Classical.not_not.mp c65
      refine wp_g (n := 2) (pc' := 66) (L' := [some (.ref 10), some (.int (iI (e : Int))), some (.int (iI (fr : Int))), some (.int (iI (sd : Int))), some (.int (iI ((sdX ((sd : Int) % 4)) - (sdX ((fr : Int) % 4))))), some (.int (iI ((sdY ((sd : Int) % 4)) - (sdY ((fr : Int) % 4))))), some (.int (iI 1)), none]) (st' := [.int (iI 1), .int (iI 1)]) rfl ?_
      refine wp_g (n := 1) (pc' := 69) (L' := [some (.ref 10), some (.int (iI (e : Int))), some (.int (iI (fr : Int))), some (.int (iI (sd : Int))), some (.int (iI ((sdX ((sd : Int) % 4)) - (sdX ((fr : Int) % 4))))), some (.int (iI ((sdY ((sd : Int) % 4)) - (sdY ((fr : Int) % 4))))), some (.int (iI 1)), none]) (st' := []) rfl ?_
      refine wp_g (n := 4) (pc' := 77) (L' := [some (.ref 10), some (.int (iI (e : Int))), some (.int (iI (fr : Int))), some (.int (iI (sd : Int))), some (.int (iI ((sdX ((sd : Int) % 4)) - (sdX ((fr : Int) % 4))))), some (.int (iI ((sdY ((sd : Int) % 4)) - (sdY ((fr : Int) % 4))))), some (.int (iI 1)), some (.int (iI 1))]) (st' := [.ref 10]) rfl ?_
      refine wp_getf (v := .ref 11) rfl rfl (S.cell 10 (nc rfl)) (by decide) rfl ?_
      refine wp_g (n := 1) (pc' := 81) (L' := [some (.ref 10), some (.int (iI (e : Int))), some (.int (iI (fr : Int))), some (.int (iI (sd : Int))), some (.int (iI ((sdX ((sd : Int) % 4)) - (sdX ((fr : Int) % 4))))), some (.int (iI ((sdY ((sd : Int) % 4)) - (sdY ((fr : Int) % 4))))), some (.int (iI 1)), some (.int (iI 1))]) (st' := [.int (iI (e : Int)), .ref 11]) rfl ?_
      refine wp_cv (As := [.int (iI (e : Int))]) (rest := []) rfl rfl (S.gq hγ (gi rfl)).obj (by decide) rfl rfl rfl (Nat.le_of_ble_eq_true rfl) (Nat.le_of_ble_eq_true rfl) (G_kindOfI (S.gq hγ (gi rfl)) (e : Int) (by omega) (by omega)) (fun r95 H95 q95 => ?_)
      obtain ⟨rfl, e95⟩ := q95
      rw [e95]
      show wp _ _ _ _ _ [.int (iI (kd e))] _ _
      have hk96 := ((S.gq hγ (gi rfl))).2.1 e (by omega)
      refine wp_g (n := 1) (pc' := 85) (L' := [some (.ref 10), some (.int (iI (e : Int))), some (.int (iI (fr : Int))), some (.int (iI (sd : Int))), some (.int (iI ((sdX ((sd : Int) % 4)) - (sdX ((fr : Int) % 4))))), some (.int (iI ((sdY ((sd : Int) % 4)) - (sdY ((fr : Int) % 4))))), some (.int (iI 1)), some (.int (iI 1))]) (st' := [.int (iI 1), .int (iI (kd e))]) rfl ?_
      refine wp_icmpI (a := (kd e)) (b := 1) rfl rfl (by omega) (by omega) (by omega) (by omega) (fun c97 => ?_) (fun c97 => ?_)
      · have c97 : (¬ ((kd e) : Int) = 1) := c97
        refine wp_g (n := 1) (pc' := 102) (L' := [some (.ref 10), some (.int (iI (e : Int))), some (.int (iI (fr : Int))), some (.int (iI (sd : Int))), some (.int (iI ((sdX ((sd : Int) % 4)) - (sdX ((fr : Int) % 4))))), some (.int (iI ((sdY ((sd : Int) % 4)) - (sdY ((fr : Int) % 4))))), some (.int (iI 1)), some (.int (iI 1))]) (st' := [.int (iI 1)]) rfl ?_
        refine wp_g (n := 1) (pc' := 105) (L' := [some (.ref 10), some (.int (iI (e : Int))), some (.int (iI (fr : Int))), some (.int (iI (sd : Int))), some (.int (iI ((sdX ((sd : Int) % 4)) - (sdX ((fr : Int) % 4))))), some (.int (iI ((sdY ((sd : Int) % 4)) - (sdY ((fr : Int) % 4))))), some (.int (iI 1)), some (.int (iI 1))]) (st' := []) rfl ?_
        refine wp_g (n := 1) (pc' := 106) (L' := [some (.ref 10), some (.int (iI (e : Int))), some (.int (iI (fr : Int))), some (.int (iI (sd : Int))), some (.int (iI ((sdX ((sd : Int) % 4)) - (sdX ((fr : Int) % 4))))), some (.int (iI ((sdY ((sd : Int) % 4)) - (sdY ((fr : Int) % 4))))), some (.int (iI 1)), some (.int (iI 1))]) (st' := [.ref 10]) rfl ?_
        refine wp_getf (v := .ref 25) rfl rfl (S.cell 10 (nc rfl)) (by decide) rfl ?_
        refine wp_g (n := 3) (pc' := 118) (L' := [some (.ref 10), some (.int (iI (e : Int))), some (.int (iI (fr : Int))), some (.int (iI (sd : Int))), some (.int (iI ((sdX ((sd : Int) % 4)) - (sdX ((fr : Int) % 4))))), some (.int (iI ((sdY ((sd : Int) % 4)) - (sdY ((fr : Int) % 4))))), some (.int (iI 1)), some (.int (iI 1))]) (st' := [.ref 10, .int (iI (e : Int)), .ref 25]) rfl ?_
        refine wp_getf (v := .int (iI ((m 10) 3))) rfl rfl (S.cell 10 (nc rfl)) (by decide) rfl ?_
        have hr98 : -2147483648 ≤ ((m 10) 3) ∧ ((m 10) 3) < 2147483648 := S.rg 10 3 (nl rfl)
        refine wp_cs (As := [.ref 25, .int (iI (e : Int)), .int (iI ((m 10) 3))]) (rest := []) rfl rfl rfl rfl (Nat.le_of_ble_eq_true rfl) (Nat.le_of_ble_eq_true rfl) (c_put S (nc rfl) (n := 24) rfl (by decide) (e : Int) ((m 10) 3) (by omega) (by omega) (by omega) (by omega)) (fun r99 H99 q99 => ?_)
        obtain ⟨rfl, S⟩ := q99
        have S : ST H99 (up m 25 (ptn 24 (m 25) (e : Int) ((m 10) 3))) γ t := S
        show wp _ _ _ _ _ [] _ _
        refine wp_g (n := 1) (pc' := 125) (L' := [some (.ref 10), some (.int (iI (e : Int))), some (.int (iI (fr : Int))), some (.int (iI (sd : Int))), some (.int (iI ((sdX ((sd : Int) % 4)) - (sdX ((fr : Int) % 4))))), some (.int (iI ((sdY ((sd : Int) % 4)) - (sdY ((fr : Int) % 4))))), some (.int (iI 1)), some (.int (iI 1))]) (st' := [.ref 10]) rfl ?_
        refine wp_getf (v := .ref 20) rfl rfl (S.cell 10 (nc rfl)) (by decide) rfl ?_
        refine wp_g (n := 1) (pc' := 129) (L' := [some (.ref 10), some (.int (iI (e : Int))), some (.int (iI (fr : Int))), some (.int (iI (sd : Int))), some (.int (iI ((sdX ((sd : Int) % 4)) - (sdX ((fr : Int) % 4))))), some (.int (iI ((sdY ((sd : Int) % 4)) - (sdY ((fr : Int) % 4))))), some (.int (iI 1)), some (.int (iI 1))]) (st' := [.ref 10, .ref 20]) rfl ?_
        refine wp_getf (v := .int (iI ((m 10) 3))) rfl rfl (S.cell 10 (nc rfl)) (by decide) rfl ?_
        have hr100 : -2147483648 ≤ ((m 10) 3) ∧ ((m 10) 3) < 2147483648 := S.rg 10 3 (nl rfl)
        refine wp_g (n := 1) (pc' := 133) (L' := [some (.ref 10), some (.int (iI (e : Int))), some (.int (iI (fr : Int))), some (.int (iI (sd : Int))), some (.int (iI ((sdX ((sd : Int) % 4)) - (sdX ((fr : Int) % 4))))), some (.int (iI ((sdY ((sd : Int) % 4)) - (sdY ((fr : Int) % 4))))), some (.int (iI 1)), some (.int (iI 1))]) (st' := [.int (iI (e : Int)), .int (iI ((m 10) 3)), .ref 20]) rfl ?_
        refine wp_cs (As := [.ref 20, .int (iI ((m 10) 3)), .int (iI (e : Int))]) (rest := []) rfl rfl rfl rfl (Nat.le_of_ble_eq_true rfl) (Nat.le_of_ble_eq_true rfl) (c_put S (nc rfl) (n := 48) rfl (by decide) ((m 10) 3) (e : Int) (by omega) (by omega) (by omega) (by omega)) (fun r101 H101 q101 => ?_)
        obtain ⟨rfl, S⟩ := q101
        have S : ST H101 (up (up m 25 (ptn 24 (m 25) (e : Int) ((m 10) 3))) 20 (ptn 48 (m 20) ((m 10) 3) (e : Int))) γ t := S
        show wp _ _ _ _ _ [] _ _
        refine wp_g (n := 1) (pc' := 137) (L' := [some (.ref 10), some (.int (iI (e : Int))), some (.int (iI (fr : Int))), some (.int (iI (sd : Int))), some (.int (iI ((sdX ((sd : Int) % 4)) - (sdX ((fr : Int) % 4))))), some (.int (iI ((sdY ((sd : Int) % 4)) - (sdY ((fr : Int) % 4))))), some (.int (iI 1)), some (.int (iI 1))]) (st' := [.ref 10]) rfl ?_
        refine wp_getf (v := .ref 21) rfl rfl (S.cell 10 (nc rfl)) (by decide) rfl ?_
        refine wp_g (n := 1) (pc' := 141) (L' := [some (.ref 10), some (.int (iI (e : Int))), some (.int (iI (fr : Int))), some (.int (iI (sd : Int))), some (.int (iI ((sdX ((sd : Int) % 4)) - (sdX ((fr : Int) % 4))))), some (.int (iI ((sdY ((sd : Int) % 4)) - (sdY ((fr : Int) % 4))))), some (.int (iI 1)), some (.int (iI 1))]) (st' := [.ref 10, .ref 21]) rfl ?_
        refine wp_getf (v := .int (iI ((m 10) 3))) rfl rfl (S.cell 10 (nc rfl)) (by decide) rfl ?_
        have hr102 : -2147483648 ≤ ((m 10) 3) ∧ ((m 10) 3) < 2147483648 := S.rg 10 3 (nl rfl)
        refine wp_g (n := 1) (pc' := 145) (L' := [some (.ref 10), some (.int (iI (e : Int))), some (.int (iI (fr : Int))), some (.int (iI (sd : Int))), some (.int (iI ((sdX ((sd : Int) % 4)) - (sdX ((fr : Int) % 4))))), some (.int (iI ((sdY ((sd : Int) % 4)) - (sdY ((fr : Int) % 4))))), some (.int (iI 1)), some (.int (iI 1))]) (st' := [.ref 10, .int (iI ((m 10) 3)), .ref 21]) rfl ?_
        refine wp_getf (v := .int (iI ((m 10) 1))) rfl rfl (S.cell 10 (nc rfl)) (by decide) rfl ?_
        have hr103 : -2147483648 ≤ ((m 10) 1) ∧ ((m 10) 1) < 2147483648 := S.rg 10 1 (nl rfl)
        refine wp_cs (As := [.ref 21, .int (iI ((m 10) 3)), .int (iI ((m 10) 1))]) (rest := []) rfl rfl rfl rfl (Nat.le_of_ble_eq_true rfl) (Nat.le_of_ble_eq_true rfl) (c_put S (nc rfl) (n := 48) rfl (by decide) ((m 10) 3) ((m 10) 1) (by omega) (by omega) (by omega) (by omega)) (fun r104 H104 q104 => ?_)
        obtain ⟨rfl, S⟩ := q104
        have S : ST H104 (up (up (up m 25 (ptn 24 (m 25) (e : Int) ((m 10) 3))) 20 (ptn 48 (m 20) ((m 10) 3) (e : Int))) 21 (ptn 48 (m 21) ((m 10) 3) ((m 10) 1))) γ t := S
        show wp _ _ _ _ _ [] _ _
        refine wp_g (n := 1) (pc' := 152) (L' := [some (.ref 10), some (.int (iI (e : Int))), some (.int (iI (fr : Int))), some (.int (iI (sd : Int))), some (.int (iI ((sdX ((sd : Int) % 4)) - (sdX ((fr : Int) % 4))))), some (.int (iI ((sdY ((sd : Int) % 4)) - (sdY ((fr : Int) % 4))))), some (.int (iI 1)), some (.int (iI 1))]) (st' := [.ref 10]) rfl ?_
        refine wp_getf (v := .ref 22) rfl rfl (S.cell 10 (nc rfl)) (by decide) rfl ?_
        refine wp_g (n := 1) (pc' := 156) (L' := [some (.ref 10), some (.int (iI (e : Int))), some (.int (iI (fr : Int))), some (.int (iI (sd : Int))), some (.int (iI ((sdX ((sd : Int) % 4)) - (sdX ((fr : Int) % 4))))), some (.int (iI ((sdY ((sd : Int) % 4)) - (sdY ((fr : Int) % 4))))), some (.int (iI 1)), some (.int (iI 1))]) (st' := [.ref 10, .ref 22]) rfl ?_
        refine wp_getf (v := .int (iI ((m 10) 3))) rfl rfl (S.cell 10 (nc rfl)) (by decide) rfl ?_
        have hr105 : -2147483648 ≤ ((m 10) 3) ∧ ((m 10) 3) < 2147483648 := S.rg 10 3 (nl rfl)
        refine wp_g (n := 1) (pc' := 161) (L' := [some (.ref 10), some (.int (iI (e : Int))), some (.int (iI (fr : Int))), some (.int (iI (sd : Int))), some (.int (iI ((sdX ((sd : Int) % 4)) - (sdX ((fr : Int) % 4))))), some (.int (iI ((sdY ((sd : Int) % 4)) - (sdY ((fr : Int) % 4))))), some (.int (iI 1)), some (.int (iI 1))]) (st' := [.int (iI ((sdX ((sd : Int) % 4)) - (sdX ((fr : Int) % 4)))), .int (iI ((m 10) 3)), .ref 22]) rfl ?_
        refine wp_cs (As := [.ref 22, .int (iI ((m 10) 3)), .int (iI ((sdX ((sd : Int) % 4)) - (sdX ((fr : Int) % 4))))]) (rest := []) rfl rfl rfl rfl (Nat.le_of_ble_eq_true rfl) (Nat.le_of_ble_eq_true rfl) (c_put S (nc rfl) (n := 48) rfl (by decide) ((m 10) 3) ((sdX ((sd : Int) % 4)) - (sdX ((fr : Int) % 4))) (by omega) (by omega) (by omega) (by omega)) (fun r106 H106 q106 => ?_)
        obtain ⟨rfl, S⟩ := q106
        have S : ST H106 (up (up (up (up m 25 (ptn 24 (m 25) (e : Int) ((m 10) 3))) 20 (ptn 48 (m 20) ((m 10) 3) (e : Int))) 21 (ptn 48 (m 21) ((m 10) 3) ((m 10) 1))) 22 (ptn 48 (m 22) ((m 10) 3) ((sdX ((sd : Int) % 4)) - (sdX ((fr : Int) % 4))))) γ t := S
        show wp _ _ _ _ _ [] _ _
        refine wp_g (n := 1) (pc' := 165) (L' := [some (.ref 10), some (.int (iI (e : Int))), some (.int (iI (fr : Int))), some (.int (iI (sd : Int))), some (.int (iI ((sdX ((sd : Int) % 4)) - (sdX ((fr : Int) % 4))))), some (.int (iI ((sdY ((sd : Int) % 4)) - (sdY ((fr : Int) % 4))))), some (.int (iI 1)), some (.int (iI 1))]) (st' := [.ref 10]) rfl ?_
        refine wp_getf (v := .ref 23) rfl rfl (S.cell 10 (nc rfl)) (by decide) rfl ?_
        refine wp_g (n := 1) (pc' := 169) (L' := [some (.ref 10), some (.int (iI (e : Int))), some (.int (iI (fr : Int))), some (.int (iI (sd : Int))), some (.int (iI ((sdX ((sd : Int) % 4)) - (sdX ((fr : Int) % 4))))), some (.int (iI ((sdY ((sd : Int) % 4)) - (sdY ((fr : Int) % 4))))), some (.int (iI 1)), some (.int (iI 1))]) (st' := [.ref 10, .ref 23]) rfl ?_
        refine wp_getf (v := .int (iI ((m 10) 3))) rfl rfl (S.cell 10 (nc rfl)) (by decide) rfl ?_
        have hr107 : -2147483648 ≤ ((m 10) 3) ∧ ((m 10) 3) < 2147483648 := S.rg 10 3 (nl rfl)
        refine wp_g (n := 1) (pc' := 174) (L' := [some (.ref 10), some (.int (iI (e : Int))), some (.int (iI (fr : Int))), some (.int (iI (sd : Int))), some (.int (iI ((sdX ((sd : Int) % 4)) - (sdX ((fr : Int) % 4))))), some (.int (iI ((sdY ((sd : Int) % 4)) - (sdY ((fr : Int) % 4))))), some (.int (iI 1)), some (.int (iI 1))]) (st' := [.int (iI ((sdY ((sd : Int) % 4)) - (sdY ((fr : Int) % 4)))), .int (iI ((m 10) 3)), .ref 23]) rfl ?_
        refine wp_cs (As := [.ref 23, .int (iI ((m 10) 3)), .int (iI ((sdY ((sd : Int) % 4)) - (sdY ((fr : Int) % 4))))]) (rest := []) rfl rfl rfl rfl (Nat.le_of_ble_eq_true rfl) (Nat.le_of_ble_eq_true rfl) (c_put S (nc rfl) (n := 48) rfl (by decide) ((m 10) 3) ((sdY ((sd : Int) % 4)) - (sdY ((fr : Int) % 4))) (by omega) (by omega) (by omega) (by omega)) (fun r108 H108 q108 => ?_)
        obtain ⟨rfl, S⟩ := q108
        have S : ST H108 (up (up (up (up (up m 25 (ptn 24 (m 25) (e : Int) ((m 10) 3))) 20 (ptn 48 (m 20) ((m 10) 3) (e : Int))) 21 (ptn 48 (m 21) ((m 10) 3) ((m 10) 1))) 22 (ptn 48 (m 22) ((m 10) 3) ((sdX ((sd : Int) % 4)) - (sdX ((fr : Int) % 4))))) 23 (ptn 48 (m 23) ((m 10) 3) ((sdY ((sd : Int) % 4)) - (sdY ((fr : Int) % 4))))) γ t := S
        show wp _ _ _ _ _ [] _ _
        refine wp_g (n := 2) (pc' := 179) (L' := [some (.ref 10), some (.int (iI (e : Int))), some (.int (iI (fr : Int))), some (.int (iI (sd : Int))), some (.int (iI ((sdX ((sd : Int) % 4)) - (sdX ((fr : Int) % 4))))), some (.int (iI ((sdY ((sd : Int) % 4)) - (sdY ((fr : Int) % 4))))), some (.int (iI 1)), some (.int (iI 1))]) (st' := [.ref 10, .ref 10]) rfl ?_
        refine wp_getf (v := .int (iI ((m 10) 3))) rfl rfl (S.cell 10 (nc rfl)) (by decide) rfl ?_
        have hr109 : -2147483648 ≤ ((m 10) 3) ∧ ((m 10) 3) < 2147483648 := S.rg 10 3 (nl rfl)
        refine wp_g (n := 1) (pc' := 183) (L' := [some (.ref 10), some (.int (iI (e : Int))), some (.int (iI (fr : Int))), some (.int (iI (sd : Int))), some (.int (iI ((sdX ((sd : Int) % 4)) - (sdX ((fr : Int) % 4))))), some (.int (iI ((sdY ((sd : Int) % 4)) - (sdY ((fr : Int) % 4))))), some (.int (iI 1)), some (.int (iI 1))]) (st' := [.int (iI 1), .int (iI ((m 10) 3)), .ref 10]) rfl ?_
        refine wp_add rfl ?_
        refine wp_putI rfl rfl (S.cell 10 (nc rfl)) (Nat.le_of_ble_eq_true rfl) rfl (fun H110 hl110 hz110 hf110 => ?_)
        have S : ST H110 (up (up (up (up (up (up m 25 (ptn 24 (m 25) (e : Int) ((m 10) 3))) 20 (ptn 48 (m 20) ((m 10) 3) (e : Int))) 21 (ptn 48 (m 21) ((m 10) 3) ((m 10) 1))) 22 (ptn 48 (m 22) ((m 10) 3) ((sdX ((sd : Int) % 4)) - (sdX ((fr : Int) % 4))))) 23 (ptn 48 (m 23) ((m 10) 3) ((sdY ((sd : Int) % 4)) - (sdY ((fr : Int) % 4))))) 10 (up (m 10) 3 (((m 10) 3) + 1))) γ t := S.setI 10 (nc rfl) hl110 hz110 hf110 (by omega) (by omega)
        refine wp_vret rfl rfl ?_
        first
          | (exfalso; revert ho; simp only [c1, c65, c97, decide_true, decide_false] <;> decide)
          | (refine ⟨rfl, S.same_m ?_⟩
             rw [h1, h2, ptn_in he2, ptn_in hn, ptn_in hn, ptn_in hn, ptn_in hn]
             rfl)
      · have c97 : (((kd e) : Int) = 1) := Classical.not_not.mp c97
        refine wp_g (n := 1) (pc' := 90) (L' := [some (.ref 10), some (.int (iI (e : Int))), some (.int (iI (fr : Int))), some (.int (iI (sd : Int))), some (.int (iI ((sdX ((sd : Int) % 4)) - (sdX ((fr : Int) % 4))))), some (.int (iI ((sdY ((sd : Int) % 4)) - (sdY ((fr : Int) % 4))))), some (.int (iI 1)), some (.int (iI 1))]) (st' := [.int (iI 1)]) rfl ?_
        refine wp_g (n := 1) (pc' := 97) (L' := [some (.ref 10), some (.int (iI (e : Int))), some (.int (iI (fr : Int))), some (.int (iI (sd : Int))), some (.int (iI ((sdX ((sd : Int) % 4)) - (sdX ((fr : Int) % 4))))), some (.int (iI ((sdY ((sd : Int) % 4)) - (sdY ((fr : Int) % 4))))), some (.int (iI 1)), some (.int (iI 1))]) (st' := []) rfl ?_
        refine wp_g (n := 3) (pc' := 102) (L' := [some (.ref 10), some (.int (iI (e : Int))), some (.int (iI (fr : Int))), some (.int (iI (sd : Int))), some (.int (iI ((sdX ((sd : Int) % 4)) - (sdX ((fr : Int) % 4))))), some (.int (iI ((sdY ((sd : Int) % 4)) - (sdY ((fr : Int) % 4))))), some (.int (iI 1)), some (.int (iI 0))]) (st' := [.int (iI 0)]) rfl ?_
        refine wp_g (n := 1) (pc' := 112) (L' := [some (.ref 10), some (.int (iI (e : Int))), some (.int (iI (fr : Int))), some (.int (iI (sd : Int))), some (.int (iI ((sdX ((sd : Int) % 4)) - (sdX ((fr : Int) % 4))))), some (.int (iI ((sdY ((sd : Int) % 4)) - (sdY ((fr : Int) % 4))))), some (.int (iI 1)), some (.int (iI 0))]) (st' := []) rfl ?_
        refine wp_g (n := 1) (pc' := 113) (L' := [some (.ref 10), some (.int (iI (e : Int))), some (.int (iI (fr : Int))), some (.int (iI (sd : Int))), some (.int (iI ((sdX ((sd : Int) % 4)) - (sdX ((fr : Int) % 4))))), some (.int (iI ((sdY ((sd : Int) % 4)) - (sdY ((fr : Int) % 4))))), some (.int (iI 1)), some (.int (iI 0))]) (st' := [.ref 10]) rfl ?_
        refine wp_getf (v := .ref 26) rfl rfl (S.cell 10 (nc rfl)) (by decide) rfl ?_
        refine wp_g (n := 2) (pc' := 118) (L' := [some (.ref 10), some (.int (iI (e : Int))), some (.int (iI (fr : Int))), some (.int (iI (sd : Int))), some (.int (iI ((sdX ((sd : Int) % 4)) - (sdX ((fr : Int) % 4))))), some (.int (iI ((sdY ((sd : Int) % 4)) - (sdY ((fr : Int) % 4))))), some (.int (iI 1)), some (.int (iI 0))]) (st' := [.ref 10, .int (iI (e : Int)), .ref 26]) rfl ?_
        refine wp_getf (v := .int (iI ((m 10) 3))) rfl rfl (S.cell 10 (nc rfl)) (by decide) rfl ?_
        have hr111 : -2147483648 ≤ ((m 10) 3) ∧ ((m 10) 3) < 2147483648 := S.rg 10 3 (nl rfl)
        refine wp_cs (As := [.ref 26, .int (iI (e : Int)), .int (iI ((m 10) 3))]) (rest := []) rfl rfl rfl rfl (Nat.le_of_ble_eq_true rfl) (Nat.le_of_ble_eq_true rfl) (c_put S (nc rfl) (n := 24) rfl (by decide) (e : Int) ((m 10) 3) (by omega) (by omega) (by omega) (by omega)) (fun r112 H112 q112 => ?_)
        obtain ⟨rfl, S⟩ := q112
        have S : ST H112 (up m 26 (ptn 24 (m 26) (e : Int) ((m 10) 3))) γ t := S
        show wp _ _ _ _ _ [] _ _
        refine wp_g (n := 1) (pc' := 125) (L' := [some (.ref 10), some (.int (iI (e : Int))), some (.int (iI (fr : Int))), some (.int (iI (sd : Int))), some (.int (iI ((sdX ((sd : Int) % 4)) - (sdX ((fr : Int) % 4))))), some (.int (iI ((sdY ((sd : Int) % 4)) - (sdY ((fr : Int) % 4))))), some (.int (iI 1)), some (.int (iI 0))]) (st' := [.ref 10]) rfl ?_
        refine wp_getf (v := .ref 20) rfl rfl (S.cell 10 (nc rfl)) (by decide) rfl ?_
        refine wp_g (n := 1) (pc' := 129) (L' := [some (.ref 10), some (.int (iI (e : Int))), some (.int (iI (fr : Int))), some (.int (iI (sd : Int))), some (.int (iI ((sdX ((sd : Int) % 4)) - (sdX ((fr : Int) % 4))))), some (.int (iI ((sdY ((sd : Int) % 4)) - (sdY ((fr : Int) % 4))))), some (.int (iI 1)), some (.int (iI 0))]) (st' := [.ref 10, .ref 20]) rfl ?_
        refine wp_getf (v := .int (iI ((m 10) 3))) rfl rfl (S.cell 10 (nc rfl)) (by decide) rfl ?_
        have hr113 : -2147483648 ≤ ((m 10) 3) ∧ ((m 10) 3) < 2147483648 := S.rg 10 3 (nl rfl)
        refine wp_g (n := 1) (pc' := 133) (L' := [some (.ref 10), some (.int (iI (e : Int))), some (.int (iI (fr : Int))), some (.int (iI (sd : Int))), some (.int (iI ((sdX ((sd : Int) % 4)) - (sdX ((fr : Int) % 4))))), some (.int (iI ((sdY ((sd : Int) % 4)) - (sdY ((fr : Int) % 4))))), some (.int (iI 1)), some (.int (iI 0))]) (st' := [.int (iI (e : Int)), .int (iI ((m 10) 3)), .ref 20]) rfl ?_
        refine wp_cs (As := [.ref 20, .int (iI ((m 10) 3)), .int (iI (e : Int))]) (rest := []) rfl rfl rfl rfl (Nat.le_of_ble_eq_true rfl) (Nat.le_of_ble_eq_true rfl) (c_put S (nc rfl) (n := 48) rfl (by decide) ((m 10) 3) (e : Int) (by omega) (by omega) (by omega) (by omega)) (fun r114 H114 q114 => ?_)
        obtain ⟨rfl, S⟩ := q114
        have S : ST H114 (up (up m 26 (ptn 24 (m 26) (e : Int) ((m 10) 3))) 20 (ptn 48 (m 20) ((m 10) 3) (e : Int))) γ t := S
        show wp _ _ _ _ _ [] _ _
        refine wp_g (n := 1) (pc' := 137) (L' := [some (.ref 10), some (.int (iI (e : Int))), some (.int (iI (fr : Int))), some (.int (iI (sd : Int))), some (.int (iI ((sdX ((sd : Int) % 4)) - (sdX ((fr : Int) % 4))))), some (.int (iI ((sdY ((sd : Int) % 4)) - (sdY ((fr : Int) % 4))))), some (.int (iI 1)), some (.int (iI 0))]) (st' := [.ref 10]) rfl ?_
        refine wp_getf (v := .ref 21) rfl rfl (S.cell 10 (nc rfl)) (by decide) rfl ?_
        refine wp_g (n := 1) (pc' := 141) (L' := [some (.ref 10), some (.int (iI (e : Int))), some (.int (iI (fr : Int))), some (.int (iI (sd : Int))), some (.int (iI ((sdX ((sd : Int) % 4)) - (sdX ((fr : Int) % 4))))), some (.int (iI ((sdY ((sd : Int) % 4)) - (sdY ((fr : Int) % 4))))), some (.int (iI 1)), some (.int (iI 0))]) (st' := [.ref 10, .ref 21]) rfl ?_
        refine wp_getf (v := .int (iI ((m 10) 3))) rfl rfl (S.cell 10 (nc rfl)) (by decide) rfl ?_
        have hr115 : -2147483648 ≤ ((m 10) 3) ∧ ((m 10) 3) < 2147483648 := S.rg 10 3 (nl rfl)
        refine wp_g (n := 1) (pc' := 145) (L' := [some (.ref 10), some (.int (iI (e : Int))), some (.int (iI (fr : Int))), some (.int (iI (sd : Int))), some (.int (iI ((sdX ((sd : Int) % 4)) - (sdX ((fr : Int) % 4))))), some (.int (iI ((sdY ((sd : Int) % 4)) - (sdY ((fr : Int) % 4))))), some (.int (iI 1)), some (.int (iI 0))]) (st' := [.ref 10, .int (iI ((m 10) 3)), .ref 21]) rfl ?_
        refine wp_getf (v := .int (iI ((m 10) 1))) rfl rfl (S.cell 10 (nc rfl)) (by decide) rfl ?_
        have hr116 : -2147483648 ≤ ((m 10) 1) ∧ ((m 10) 1) < 2147483648 := S.rg 10 1 (nl rfl)
        refine wp_cs (As := [.ref 21, .int (iI ((m 10) 3)), .int (iI ((m 10) 1))]) (rest := []) rfl rfl rfl rfl (Nat.le_of_ble_eq_true rfl) (Nat.le_of_ble_eq_true rfl) (c_put S (nc rfl) (n := 48) rfl (by decide) ((m 10) 3) ((m 10) 1) (by omega) (by omega) (by omega) (by omega)) (fun r117 H117 q117 => ?_)
        obtain ⟨rfl, S⟩ := q117
        have S : ST H117 (up (up (up m 26 (ptn 24 (m 26) (e : Int) ((m 10) 3))) 20 (ptn 48 (m 20) ((m 10) 3) (e : Int))) 21 (ptn 48 (m 21) ((m 10) 3) ((m 10) 1))) γ t := S
        show wp _ _ _ _ _ [] _ _
        refine wp_g (n := 1) (pc' := 152) (L' := [some (.ref 10), some (.int (iI (e : Int))), some (.int (iI (fr : Int))), some (.int (iI (sd : Int))), some (.int (iI ((sdX ((sd : Int) % 4)) - (sdX ((fr : Int) % 4))))), some (.int (iI ((sdY ((sd : Int) % 4)) - (sdY ((fr : Int) % 4))))), some (.int (iI 1)), some (.int (iI 0))]) (st' := [.ref 10]) rfl ?_
        refine wp_getf (v := .ref 22) rfl rfl (S.cell 10 (nc rfl)) (by decide) rfl ?_
        refine wp_g (n := 1) (pc' := 156) (L' := [some (.ref 10), some (.int (iI (e : Int))), some (.int (iI (fr : Int))), some (.int (iI (sd : Int))), some (.int (iI ((sdX ((sd : Int) % 4)) - (sdX ((fr : Int) % 4))))), some (.int (iI ((sdY ((sd : Int) % 4)) - (sdY ((fr : Int) % 4))))), some (.int (iI 1)), some (.int (iI 0))]) (st' := [.ref 10, .ref 22]) rfl ?_
        refine wp_getf (v := .int (iI ((m 10) 3))) rfl rfl (S.cell 10 (nc rfl)) (by decide) rfl ?_
        have hr118 : -2147483648 ≤ ((m 10) 3) ∧ ((m 10) 3) < 2147483648 := S.rg 10 3 (nl rfl)
        refine wp_g (n := 1) (pc' := 161) (L' := [some (.ref 10), some (.int (iI (e : Int))), some (.int (iI (fr : Int))), some (.int (iI (sd : Int))), some (.int (iI ((sdX ((sd : Int) % 4)) - (sdX ((fr : Int) % 4))))), some (.int (iI ((sdY ((sd : Int) % 4)) - (sdY ((fr : Int) % 4))))), some (.int (iI 1)), some (.int (iI 0))]) (st' := [.int (iI ((sdX ((sd : Int) % 4)) - (sdX ((fr : Int) % 4)))), .int (iI ((m 10) 3)), .ref 22]) rfl ?_
        refine wp_cs (As := [.ref 22, .int (iI ((m 10) 3)), .int (iI ((sdX ((sd : Int) % 4)) - (sdX ((fr : Int) % 4))))]) (rest := []) rfl rfl rfl rfl (Nat.le_of_ble_eq_true rfl) (Nat.le_of_ble_eq_true rfl) (c_put S (nc rfl) (n := 48) rfl (by decide) ((m 10) 3) ((sdX ((sd : Int) % 4)) - (sdX ((fr : Int) % 4))) (by omega) (by omega) (by omega) (by omega)) (fun r119 H119 q119 => ?_)
        obtain ⟨rfl, S⟩ := q119
        have S : ST H119 (up (up (up (up m 26 (ptn 24 (m 26) (e : Int) ((m 10) 3))) 20 (ptn 48 (m 20) ((m 10) 3) (e : Int))) 21 (ptn 48 (m 21) ((m 10) 3) ((m 10) 1))) 22 (ptn 48 (m 22) ((m 10) 3) ((sdX ((sd : Int) % 4)) - (sdX ((fr : Int) % 4))))) γ t := S
        show wp _ _ _ _ _ [] _ _
        refine wp_g (n := 1) (pc' := 165) (L' := [some (.ref 10), some (.int (iI (e : Int))), some (.int (iI (fr : Int))), some (.int (iI (sd : Int))), some (.int (iI ((sdX ((sd : Int) % 4)) - (sdX ((fr : Int) % 4))))), some (.int (iI ((sdY ((sd : Int) % 4)) - (sdY ((fr : Int) % 4))))), some (.int (iI 1)), some (.int (iI 0))]) (st' := [.ref 10]) rfl ?_
        refine wp_getf (v := .ref 23) rfl rfl (S.cell 10 (nc rfl)) (by decide) rfl ?_
        refine wp_g (n := 1) (pc' := 169) (L' := [some (.ref 10), some (.int (iI (e : Int))), some (.int (iI (fr : Int))), some (.int (iI (sd : Int))), some (.int (iI ((sdX ((sd : Int) % 4)) - (sdX ((fr : Int) % 4))))), some (.int (iI ((sdY ((sd : Int) % 4)) - (sdY ((fr : Int) % 4))))), some (.int (iI 1)), some (.int (iI 0))]) (st' := [.ref 10, .ref 23]) rfl ?_
        refine wp_getf (v := .int (iI ((m 10) 3))) rfl rfl (S.cell 10 (nc rfl)) (by decide) rfl ?_
        have hr120 : -2147483648 ≤ ((m 10) 3) ∧ ((m 10) 3) < 2147483648 := S.rg 10 3 (nl rfl)
        refine wp_g (n := 1) (pc' := 174) (L' := [some (.ref 10), some (.int (iI (e : Int))), some (.int (iI (fr : Int))), some (.int (iI (sd : Int))), some (.int (iI ((sdX ((sd : Int) % 4)) - (sdX ((fr : Int) % 4))))), some (.int (iI ((sdY ((sd : Int) % 4)) - (sdY ((fr : Int) % 4))))), some (.int (iI 1)), some (.int (iI 0))]) (st' := [.int (iI ((sdY ((sd : Int) % 4)) - (sdY ((fr : Int) % 4)))), .int (iI ((m 10) 3)), .ref 23]) rfl ?_
        refine wp_cs (As := [.ref 23, .int (iI ((m 10) 3)), .int (iI ((sdY ((sd : Int) % 4)) - (sdY ((fr : Int) % 4))))]) (rest := []) rfl rfl rfl rfl (Nat.le_of_ble_eq_true rfl) (Nat.le_of_ble_eq_true rfl) (c_put S (nc rfl) (n := 48) rfl (by decide) ((m 10) 3) ((sdY ((sd : Int) % 4)) - (sdY ((fr : Int) % 4))) (by omega) (by omega) (by omega) (by omega)) (fun r121 H121 q121 => ?_)
        obtain ⟨rfl, S⟩ := q121
        have S : ST H121 (up (up (up (up (up m 26 (ptn 24 (m 26) (e : Int) ((m 10) 3))) 20 (ptn 48 (m 20) ((m 10) 3) (e : Int))) 21 (ptn 48 (m 21) ((m 10) 3) ((m 10) 1))) 22 (ptn 48 (m 22) ((m 10) 3) ((sdX ((sd : Int) % 4)) - (sdX ((fr : Int) % 4))))) 23 (ptn 48 (m 23) ((m 10) 3) ((sdY ((sd : Int) % 4)) - (sdY ((fr : Int) % 4))))) γ t := S
        show wp _ _ _ _ _ [] _ _
        refine wp_g (n := 2) (pc' := 179) (L' := [some (.ref 10), some (.int (iI (e : Int))), some (.int (iI (fr : Int))), some (.int (iI (sd : Int))), some (.int (iI ((sdX ((sd : Int) % 4)) - (sdX ((fr : Int) % 4))))), some (.int (iI ((sdY ((sd : Int) % 4)) - (sdY ((fr : Int) % 4))))), some (.int (iI 1)), some (.int (iI 0))]) (st' := [.ref 10, .ref 10]) rfl ?_
        refine wp_getf (v := .int (iI ((m 10) 3))) rfl rfl (S.cell 10 (nc rfl)) (by decide) rfl ?_
        have hr122 : -2147483648 ≤ ((m 10) 3) ∧ ((m 10) 3) < 2147483648 := S.rg 10 3 (nl rfl)
        refine wp_g (n := 1) (pc' := 183) (L' := [some (.ref 10), some (.int (iI (e : Int))), some (.int (iI (fr : Int))), some (.int (iI (sd : Int))), some (.int (iI ((sdX ((sd : Int) % 4)) - (sdX ((fr : Int) % 4))))), some (.int (iI ((sdY ((sd : Int) % 4)) - (sdY ((fr : Int) % 4))))), some (.int (iI 1)), some (.int (iI 0))]) (st' := [.int (iI 1), .int (iI ((m 10) 3)), .ref 10]) rfl ?_
        refine wp_add rfl ?_
        refine wp_putI rfl rfl (S.cell 10 (nc rfl)) (Nat.le_of_ble_eq_true rfl) rfl (fun H123 hl123 hz123 hf123 => ?_)
        have S : ST H123 (up (up (up (up (up (up m 26 (ptn 24 (m 26) (e : Int) ((m 10) 3))) 20 (ptn 48 (m 20) ((m 10) 3) (e : Int))) 21 (ptn 48 (m 21) ((m 10) 3) ((m 10) 1))) 22 (ptn 48 (m 22) ((m 10) 3) ((sdX ((sd : Int) % 4)) - (sdX ((fr : Int) % 4))))) 23 (ptn 48 (m 23) ((m 10) 3) ((sdY ((sd : Int) % 4)) - (sdY ((fr : Int) % 4))))) 10 (up (m 10) 3 (((m 10) 3) + 1))) γ t := S.setI 10 (nc rfl) hl123 hz123 hf123 (by omega) (by omega)
        refine wp_vret rfl rfl ?_
        first
          | (exfalso; revert ho; simp only [c1, c65, c97, decide_true, decide_false] <;> decide)
          | (refine ⟨rfl, S.same_m ?_⟩
             rw [h1, h2, ptn_in he2, ptn_in hn, ptn_in hn, ptn_in hn, ptn_in hn]
             rfl)
end X7A
