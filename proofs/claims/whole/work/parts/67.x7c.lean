section X7C
variable {E : am_E} {k : Nat} {h : am_H} {m : Nat → Nat → Int} {γ : Nat → Nat × Nat × (Nat → Int)} {t : am_H} {R C : Nat} {kd : Nat → Int}
theorem c_followFrom {m0 : Nat → Nat → Int} {A : AS} {c0 : Nat} (S : ST h m γ t) (hγ : γ 11 = (R, C, kd)) (hA : clo (R, C, kd) A) (hp : pok (R, C, kd) A) (hc : c0 < 4 * (R * C)) (hv : c0 ∉ cs A) (hbl : A.2.2.2.length = A.2.2.1.length) (hl : A.2.2.1.length ≤ 64) (hT : TM (R, C, kd) m0 m A) (hs1 : m 10 1 = (A.2.2.1.length : Int)) (hfr : frT m0 m) : wp E (k + 3) 96 0 (am_entry [.ref 10, .int (iI (c0 : Int))] 9) [] h (fun r h1 => r = none ∧ ∃ m1, ST h1 m1 γ t ∧ TM (R, C, kd) m0 m1 (fol (R, C, kd) A c0) ∧ m1 10 1 = (A.2.2.1.length : Int) + 1 ∧ frT m0 m1) := by
  have hG : vG (R, C, kd) := (S.gq hγ (gi rfl)).vg
  have hT2 : m 10 2 = (A.1.length : Int) := hT.2.2.2.2.2.2.2.2.2.2.2.2.1
  have hT3 : m 10 3 = (A.2.1.length : Int) := hT.2.2.2.2.2.2.2.2.2.2.2.2.2
  have hb1 := S.rg 10 2 (nl rfl)
  have hb2 := S.rg 10 3 (nl rfl)
  rw [hT2] at hb1
  rw [hT3] at hb2
  refine wp_g (n := 1) (pc' := 1) (L' := [some (.ref 10), some (.int (iI (c0 : Int))), none, none, none, none, none, none, none]) (st' := [.ref 10]) rfl ?_
  refine wp_getf (v := .ref 19) rfl rfl (S.cell 10 (nc rfl)) (by decide) rfl ?_
  refine wp_g (n := 1) (pc' := 5) (L' := [some (.ref 10), some (.int (iI (c0 : Int))), none, none, none, none, none, none, none]) (st' := [.ref 10, .ref 19]) rfl ?_
  refine wp_getf (v := .int (iI (A.2.2.1.length : Int))) rfl rfl (S.cell 10 (nc rfl)) (by decide) (by rw [← hs1]; rfl) ?_
  refine wp_g (n := 1) (pc' := 9) (L' := [some (.ref 10), some (.int (iI (c0 : Int))), none, none, none, none, none, none, none]) (st' := [.ref 10, .int (iI (A.2.2.1.length : Int)), .ref 19]) rfl ?_
  refine wp_getf (v := .int (iI (A.1.length : Int))) rfl rfl (S.cell 10 (nc rfl)) (by decide) (by rw [← hT2]; rfl) ?_
  refine wp_cs (As := [.ref 19, .int (iI (A.2.2.1.length : Int)), .int (iI (A.1.length : Int))]) (rest := []) rfl rfl rfl rfl (Nat.le_of_ble_eq_true rfl) (Nat.le_of_ble_eq_true rfl) (c_put S (nc rfl) (n := 65) rfl (by decide) (A.2.2.1.length : Int) (A.1.length : Int) (by omega) (by omega) (by omega) (by omega)) (fun r3 H3 q3 => ?_)
  obtain ⟨rfl, S⟩ := q3
  have S : ST H3 (up m 19 (ptn 65 (m 19) (A.2.2.1.length : Int) (A.1.length : Int))) γ t := S
  show wp _ _ _ _ _ [] _ _
  refine wp_g (n := 1) (pc' := 16) (L' := [some (.ref 10), some (.int (iI (c0 : Int))), none, none, none, none, none, none, none]) (st' := [.ref 10]) rfl ?_
  refine wp_getf (v := .ref 24) rfl rfl (S.cell 10 (nc rfl)) (by decide) rfl ?_
  refine wp_g (n := 1) (pc' := 20) (L' := [some (.ref 10), some (.int (iI (c0 : Int))), none, none, none, none, none, none, none]) (st' := [.ref 10, .ref 24]) rfl ?_
  refine wp_getf (v := .int (iI (A.2.2.1.length : Int))) rfl rfl (S.cell 10 (nc rfl)) (by decide) (by rw [← hs1]; rfl) ?_
  refine wp_g (n := 1) (pc' := 24) (L' := [some (.ref 10), some (.int (iI (c0 : Int))), none, none, none, none, none, none, none]) (st' := [.ref 10, .int (iI (A.2.2.1.length : Int)), .ref 24]) rfl ?_
  refine wp_getf (v := .int (iI (A.2.1.length : Int))) rfl rfl (S.cell 10 (nc rfl)) (by decide) (by rw [← hT3]; rfl) ?_
  refine wp_cs (As := [.ref 24, .int (iI (A.2.2.1.length : Int)), .int (iI (A.2.1.length : Int))]) (rest := []) rfl rfl rfl rfl (Nat.le_of_ble_eq_true rfl) (Nat.le_of_ble_eq_true rfl) (c_put S (nc rfl) (n := 65) rfl (by decide) (A.2.2.1.length : Int) (A.2.1.length : Int) (by omega) (by omega) (by omega) (by omega)) (fun r6 H6 q6 => ?_)
  obtain ⟨rfl, S⟩ := q6
  have S : ST H6 (up (up m 19 (ptn 65 (m 19) (A.2.2.1.length : Int) (A.1.length : Int))) 24 (ptn 65 (m 24) (A.2.2.1.length : Int) (A.2.1.length : Int))) γ t := S
  show wp _ _ _ _ _ [] _ _
  refine wp_g (n := 6) (pc' := 37) (L' := [some (.ref 10), some (.int (iI (c0 : Int))), some (.int (iI (c0 : Int))), some (.int (iI 1)), some (.int (iI 0)), none, none, none, none]) (st' := []) rfl ?_
  have hT1 := TM_stt hT hbl
  rw [ptn_in (show A.2.2.1.length < 65 by omega), ptn_in (show A.2.2.1.length < 65 by omega)] at S
  exact followFrom_l hγ hA hp hc hv rfl (by omega) _ 0 _ _ _ _ _ _ _ _ _ rfl S hT1 hs1 (fun a g1 g2 => by rw [up_ne (by omega), up_ne (by omega)]; exact hfr a g1 g2) (len_ok hG hc).1 rfl rfl rfl
end X7C
