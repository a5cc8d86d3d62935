section X7B
variable {E : am_E} {k : Nat} {h : am_H} {m : Nat → Nat → Int} {γ : Nat → Nat × Nat × (Nat → Int)} {t : am_H} {R C : Nat} {kd : Nat → Int}
theorem c_passX (S : ST h m γ t) (hγ : γ 11 = (R, C, kd)) {s n c : Nat} {b : Bool} (z1 z2 z3 : Int) (q1 : z1 = exe R C c b) (q2 : z2 = (exs c (!b) : Int)) (q3 : z3 = (exs c b : Int)) (h1 : m 10 1 = (s : Int)) (h2 : m 10 3 = (n : Int)) (hx : isC (R, C, kd) (c, b) = true) (hc : c < 4 * (R * C)) (hn : n < 48) (hs : s < 1000) : wp E (k + 2) 98 0 (am_entry [.ref 10, .int (iI z1), .int (iI z2), .int (iI z3)] 8) [] h (fun r h1 => r = none ∧ ST h1 (passM m s (pE (R, C, kd) (c, b)) n (dX c b) (dY c b) (pO (R, C, kd) (c, b))) γ t) := by
  have hG : vG (R, C, kd) := (S.gq hγ (gi rfl)).vg
  obtain ⟨e1, e2⟩ := isC_ed hx
  have e3 := exe_rng hG (x := (c, b)) hc
  simp only at e1 e2 e3
  have e4 : z1 = ((exe R C c b).toNat : Int) := by omega
  have l1 := exs_lt c b
  have l2 := exs_lt c (!b)
  have m1 : ((exs c b : Nat) : Int) % 4 = (exs c b : Int) := by omega
  have m2 : ((exs c (!b) : Nat) : Int) % 4 = (exs c (!b) : Int) := by omega
  subst q2 q3
  rw [e4]
  have he : (exe R C c b).toNat < gn R C := by omega
  cases ho : pO (R, C, kd) (c, b) with
  | true =>
    have := c_passO (E := E) (k := k) S hγ (s := s) (n := n) (e := (exe R C c b).toNat) (fr := exs c (!b)) (sd := exs c b) h1 h2 he hn hs l2 l1 (by
      rw [m1, m2, show decide ((gbel R C (exe R C c b).toNat : Int) = 0) = decide (gbel R C (exe R C c b).toNat = 0) from decide_eq_decide.mpr (by omega)]
      unfold pO ovr at ho
      rw [e2] at ho
      exact ho)
    rw [m1, m2] at this
    exact this
  | false =>
    have := c_passU (E := E) (k := k) S hγ (s := s) (n := n) (e := (exe R C c b).toNat) (fr := exs c (!b)) (sd := exs c b) h1 h2 he hn hs l2 l1 (by
      rw [m1, m2, show decide ((gbel R C (exe R C c b).toNat : Int) = 0) = decide (gbel R C (exe R C c b).toNat = 0) from decide_eq_decide.mpr (by omega)]
      unfold pO ovr at ho
      rw [e2] at ho
      exact ho)
    rw [m1, m2] at this
    exact this
def frT (m0 m : Nat → Nat → Int) : Prop := ∀ a, a ≠ 10 → ¬ (15 ≤ a ∧ a ≤ 26) → m a = m0 a
theorem noteM_fr {m0 : Nat → Nat → Int} (hf : frT m0 m) {s i c n : Nat} {b : Bool} : frT m0 (noteM m s i c n b) := by
  intro a h1 h2
  unfold noteM
  rw [up_ne (by omega), up_ne (by omega), up_ne (by omega), up_ne (by omega), up_ne (by omega)]
  exact hf a h1 h2
theorem passM_fr {m0 : Nat → Nat → Int} (hf : frT m0 m) {s e j : Nat} {x y : Int} {o : Bool} : frT m0 (passM m s e j x y o) := by
  intro a h1 h2
  unfold passM
  rw [up_ne (by omega), up_ne (by omega), up_ne (by omega), up_ne (by omega), up_ne (by omega), up_ne (by cases o <;> simp <;> omega)]
  exact hf a h1 h2
theorem noteM_10 {s i c n : Nat} {b : Bool} : noteM m s i c n b 10 1 = m 10 1 ∧ noteM m s i c n b 10 3 = m 10 3 := ⟨rfl, rfl⟩
theorem passM_10 {s e j : Nat} {x y : Int} {o : Bool} : passM m s e j x y o 10 1 = m 10 1 := rfl
theorem nC_le (S : ST h m γ t) (hγ : γ 11 = (R, C, kd)) : 4 * (R * C) ≤ 64 := by
  have := (S.gq hγ (gi rfl)).1.le
  have h2 : R * C ≤ 4 * 4 := Nat.mul_le_mul this.1 this.2
  omega

theorem followFrom_l {m0 : Nat → Nat → Int} {A : AS} {c0 s : Nat} (hγ : γ 11 = (R, C, kd)) (hA : clo (R, C, kd) A) (hp : pok (R, C, kd) A) (hc : c0 < 4 * (R * C)) (hv : c0 ∉ cs A) (hsA : s = A.2.2.1.length) (hs : s < 1000) : ∀ (mm : Nat) (i : Nat) (h : am_H) (m : Nat → Nat → Int) (x2 x3 x4 : Int) (o5 o6 o7 o8 : Option Value), len (R, C, kd) c0 - i = mm → (ST h m γ t) → (TM (R, C, kd) m0 m (inn (R, C, kd) (stt A) c0 i)) → (m 10 1 = (s : Int)) → (frT m0 m) → (i < len (R, C, kd) c0) → (x2 = ((nxi (R, C, kd) i (c0, true)).1 : Int)) → (x3 = (if (nxi (R, C, kd) i (c0, true)).2 then 1 else 0)) → (x4 = (i : Int)) → wp E (k + 3) 96 37 [some (.ref 10), some (.int (iI (c0 : Int))), some (.int (iI x2)), some (.int (iI x3)), some (.int (iI x4)), o5, o6, o7, o8] [] h (fun r h1 => r = none ∧ ∃ m1, ST h1 m1 γ t ∧ TM (R, C, kd) m0 m1 (fol (R, C, kd) A c0) ∧ m1 10 1 = (s : Int) + 1 ∧ frT m0 m1)
  | mm, i, h, m, x2, x3, x4, o5, o6, o7, o8, hmm, S, hT, hs1, hfr, hi, hx2, hx3, hx4 => by
    have ih : ∀ (i' : Nat) (h' : am_H) (m' : Nat → Nat → Int) (x2' x3' x4' : Int) (o5' o6' o7' o8' : Option Value), len (R, C, kd) c0 - i' < mm → (ST h' m' γ t) → (TM (R, C, kd) m0 m' (inn (R, C, kd) (stt A) c0 i')) → (m' 10 1 = (s : Int)) → (frT m0 m') → (i' < len (R, C, kd) c0) → (x2' = ((nxi (R, C, kd) i' (c0, true)).1 : Int)) → (x3' = (if (nxi (R, C, kd) i' (c0, true)).2 then 1 else 0)) → (x4' = (i' : Int)) → wp E (k + 3) 96 37 [some (.ref 10), some (.int (iI (c0 : Int))), some (.int (iI x2')), some (.int (iI x3')), some (.int (iI x4')), o5', o6', o7', o8'] [] h' (fun r h1 => r = none ∧ ∃ m1, ST h1 m1 γ t ∧ TM (R, C, kd) m0 m1 (fol (R, C, kd) A c0) ∧ m1 10 1 = (s : Int) + 1 ∧ frT m0 m1) := fun i' h' m' x2' x3' x4' o5' o6' o7' o8' q0 q1 q2 q3 q4 q5 q6 q7 q8 => followFrom_l hγ hA hp hc hv hsA hs _ i' h' m' x2' x3' x4' o5' o6' o7' o8' rfl q1 q2 q3 q4 q5 q6 q7 q8
    have hG : vG (R, C, kd) := (S.gq hγ (gi rfl)).vg
    have hC64 := nC_le S hγ
    obtain ⟨hl1, hl2, hl3, hl4⟩ := len_ok hG (c := c0) hc
    have hl2 : len (R, C, kd) c0 ≤ 4 * (R * C) := hl2
    have hrm := inn_room hG hA hp hc hv hi
    have hlt := nxi_lt hG (x := (c0, true)) hc i
    have hgn := gn_le R (S.gq hγ (gi rfl)).1.le.1 C (S.gq hγ (gi rfl)).1.le.2
    obtain ⟨hrm1, hrm⟩ := hrm
    have hrm1 : (inn (R, C, kd) (stt A) c0 i).1.length < 4 * (R * C) := hrm1
    have hlt : (nxi (R, C, kd) i (c0, true)).1 < 4 * (R * C) := hlt
    have hi1 : nxi (R, C, kd) (i + 1) (c0, true) = nx (R, C, kd) (nxi (R, C, kd) i (c0, true)) := rfl
    have hin : inn (R, C, kd) (stt A) c0 (i + 1) = nt (R, C, kd) (inn (R, C, kd) (stt A) c0 i) i (nxi (R, C, kd) i (c0, true)) := rfl
    have hsl : s = (inn (R, C, kd) (stt A) c0 i).2.2.1.length - 1 := by
      rw [(inn_l (R, C, kd) (stt A) c0 i).2, hsA]
      simp [stt]
    have hn1 : m 10 2 = ((inn (R, C, kd) (stt A) c0 i).1.length : Int) := hT.2.2.2.2.2.2.2.2.2.2.2.2.1
    have hp1 : m 10 3 = ((inn (R, C, kd) (stt A) c0 i).2.1.length : Int) := hT.2.2.2.2.2.2.2.2.2.2.2.2.2
    generalize hxe : nxi (R, C, kd) i (c0, true) = xe at *
    obtain ⟨c, b⟩ := xe
    generalize hne : (inn (R, C, kd) (stt A) c0 i).1.length = n at *
    generalize hnp : (inn (R, C, kd) (stt A) c0 i).2.1.length = np at *
    simp only at hlt hx2 hx3
    subst hx2 hx4
    have hs0 := S
    have hrm : isC (R, C, kd) (c, b) = true → np < 2 * gn R C := hrm
    have hfin : ∀ (m1 : Nat → Nat → Int) (h1 : am_H) (y3 : Int) (p5 p6 p7 p8 : Option Value), ST h1 m1 γ t → TM (R, C, kd) m0 m1 (inn (R, C, kd) (stt A) c0 (i + 1)) → m1 10 1 = (s : Int) → frT m0 m1 → y3 = (if (nx (R, C, kd) (c, b)).2 then 1 else 0) → wp E (k + 3) 96 193 [some (.ref 10), some (.int (iI (c0 : Int))), some (.int (iI ((nx (R, C, kd) (c, b)).1 : Int))), some (.int (iI y3)), some (.int (iI (i : Int))), p5, p6, p7, p8] [] h1 (fun r h1 => r = none ∧ ∃ m1, ST h1 m1 γ t ∧ TM (R, C, kd) m0 m1 (fol (R, C, kd) A c0) ∧ m1 10 1 = (s : Int) + 1 ∧ frT m0 m1) := by
      intro m1 h1 y3 p5 p6 p7 p8 S1 T1 s1 f1 y3e
      have hlt2 := nxi_lt hG (x := (c0, true)) hc (i + 1)
      rw [hi1] at hlt2
      have hlt2 : (nx (R, C, kd) (c, b)).1 < 4 * (R * C) := hlt2
      refine wp_g (n := 2) (pc' := 195) (L' := [some (.ref 10), some (.int (iI (c0 : Int))), some (.int (iI ((nx (R, C, kd) (c, b)).1 : Int))), some (.int (iI y3)), some (.int (iI (i : Int))), p5, p6, p7, p8]) (st' := [.int (iI (c0 : Int)), .int (iI ((nx (R, C, kd) (c, b)).1 : Int))]) rfl ?_
      refine wp_icmpI rfl rfl (by omega) (by omega) (by omega) (by omega) (fun c1 => ?_) (fun c1 => ?_)
      · have c1 : ¬ ((nx (R, C, kd) (c, b)).1 : Int) = (c0 : Int) := c1
        have hil : i + 1 < len (R, C, kd) c0 := by
          rcases Nat.lt_or_ge (i + 1) (len (R, C, kd) c0) with g1 | g1
          · exact g1
          · have : i + 1 = len (R, C, kd) c0 := by omega
            rw [← this, hi1] at hl3
            rw [hl3] at c1
            exact absurd rfl c1
        refine wp_iinc (L' := [some (.ref 10), some (.int (iI (c0 : Int))), some (.int (iI ((nx (R, C, kd) (c, b)).1 : Int))), some (.int (iI y3)), some (.int (iI ((i : Int) + 1))), p5, p6, p7, p8]) (a := (i : Int)) rfl rfl rfl ?_
        refine wp_g (n := 1) (pc' := 37) (L' := [some (.ref 10), some (.int (iI (c0 : Int))), some (.int (iI ((nx (R, C, kd) (c, b)).1 : Int))), some (.int (iI y3)), some (.int (iI ((i : Int) + 1))), p5, p6, p7, p8]) (st' := []) rfl ?_
        exact ih (i + 1) h1 m1 _ _ _ _ _ _ _ (by omega) S1 T1 s1 f1 hil (by rw [hi1]) (by rw [hi1]; exact y3e) (by omega)
      · have c1 : ((nx (R, C, kd) (c, b)).1 : Int) = (c0 : Int) := Classical.not_not.mp c1
        have hil : i + 1 = len (R, C, kd) c0 := by
          rcases Nat.lt_or_ge (i + 1) (len (R, C, kd) c0) with g1 | g1
          · have := hl4 (i + 1) (by omega) g1
            rw [hi1] at this
            exact absurd (by omega) this
          · omega
        have T1 : TM (R, C, kd) m0 m1 (fol (R, C, kd) A c0) := by
          unfold fol
          rw [← hil]
          exact T1
        refine wp_g (n := 3) (pc' := 209) (L' := [some (.ref 10), some (.int (iI (c0 : Int))), some (.int (iI ((nx (R, C, kd) (c, b)).1 : Int))), some (.int (iI y3)), some (.int (iI (i : Int))), p5, p6, p7, p8]) (st' := [.ref 10, .ref 10]) rfl ?_
        refine wp_getf (v := .int (iI (m1 10 1))) rfl rfl (S1.cell 10 (nc rfl)) (by decide) rfl ?_
        refine wp_g (n := 1) (pc' := 213) (L' := [some (.ref 10), some (.int (iI (c0 : Int))), some (.int (iI ((nx (R, C, kd) (c, b)).1 : Int))), some (.int (iI y3)), some (.int (iI (i : Int))), p5, p6, p7, p8]) (st' := [.int (iI 1), .int (iI (m1 10 1)), .ref 10]) rfl ?_
        refine wp_add rfl ?_
        refine wp_putI rfl rfl (S1.cell 10 (nc rfl)) (Nat.le_of_ble_eq_true rfl) rfl (fun H8 hl8 hz8 hf8 => ?_)
        have S2 : ST H8 (up m1 10 (up (m1 10) 1 (m1 10 1 + 1))) γ t := S1.setI 10 (nc rfl) hl8 hz8 hf8 (by omega) (by omega)
        refine wp_vret rfl rfl ⟨rfl, _, S2, ?_, ?_, ?_⟩
        · obtain ⟨h15, h16, h17, h18, h19, h20, h21, h22, h23, h24, h25, h26, h2, h3⟩ := T1
          exact ⟨h15, h16, h17, h18, h19, h20, h21, h22, h23, h24, h25, h26, h2, h3⟩
        · show m1 10 1 + 1 = _
          omega
        · intro a g1 g2
          rw [up_ne g1]
          exact f1 a g1 g2
    cases b with
    | true =>
      have hx3 : x3 = 1 := hx3
      subst hx3
      have hT : TM (R, C, kd) m0 m (inn (R, C, kd) (stt A) c0 i) := hT
      have hsd : ((c : Int) + 1) % 4 = (exs c true : Int) := exsT c
      have hfr2 : (c : Int) % 4 = (exs c false : Int) := exsF c
      have hed := exe_rng hG (x := (c, true)) hlt
      simp only at hed
      have hexs := exs_lt c true
      refine wp_g (n := 2) (pc' := 41) (L' := [some (.ref 10), some (.int (iI (c0 : Int))), some (.int (iI (c : Int))), some (.int (iI 1)), some (.int (iI (i : Int))), o5, o6, o7, o8]) (st' := [.int (iI 64), .int (iI (i : Int))]) rfl ?_
      refine wp_icmpI (a := (i : Int)) (b := 64) rfl rfl (by omega) (by omega) (by omega) (by omega) (fun c1 => ?_) (fun c1 => ?_)
      · have c1 : ((64 : Int) ≤ (i : Int)) := c1
        exfalso; omega
      · have c1 : (¬ (64 : Int) ≤ (i : Int)) := c1
        refine wp_g (n := 4) (pc' := 49) (L' := [some (.ref 10), some (.int (iI (c0 : Int))), some (.int (iI (c : Int))), some (.int (iI 1)), some (.int (iI (i : Int))), o5, o6, o7, o8]) (st' := [.int (iI 1), .int (iI (i : Int)), .int (iI (c : Int)), .ref 10]) rfl ?_
        refine wp_cv (As := [.int (iI (c : Int)), .int (iI (i : Int)), .int (iI 1)]) (rest := []) rfl rfl (S.cell 10 (nc rfl)) (by decide) rfl rfl rfl (Nat.le_of_ble_eq_true rfl) (Nat.le_of_ble_eq_true rfl) (c_noteT S hs1 hn1 (by omega) (by omega) (by omega) (by omega)) (fun r2 H2 q2 => ?_)
        obtain ⟨rfl, S⟩ := q2
        have S : ST H2 (noteM m s i c n true) γ t := S
        show wp _ _ _ _ _ [] _ _
        refine wp_g (n := 2) (pc' := 54) (L' := [some (.ref 10), some (.int (iI (c0 : Int))), some (.int (iI (c : Int))), some (.int (iI 1)), some (.int (iI (i : Int))), o5, o6, o7, o8]) (st' := [.int (iI 2), .int (iI (c : Int))]) rfl ?_
        refine wp_shr2 rfl (by omega) (by omega) ?_
        refine wp_g (n := 2) (pc' := 58) (L' := [some (.ref 10), some (.int (iI (c0 : Int))), some (.int (iI (c : Int))), some (.int (iI 1)), some (.int (iI (i : Int))), some (.int (iI ((c : Int) / 4))), o6, o7, o8]) (st' := [.int (iI 1)]) rfl ?_
        refine wp_g (n := 1) (pc' := 61) (L' := [some (.ref 10), some (.int (iI (c0 : Int))), some (.int (iI (c : Int))), some (.int (iI 1)), some (.int (iI (i : Int))), some (.int (iI ((c : Int) / 4))), o6, o7, o8]) (st' := []) rfl ?_
        refine wp_g (n := 2) (pc' := 63) (L' := [some (.ref 10), some (.int (iI (c0 : Int))), some (.int (iI (c : Int))), some (.int (iI 1)), some (.int (iI (i : Int))), some (.int (iI ((c : Int) / 4))), o6, o7, o8]) (st' := [.int (iI 1), .int (iI (c : Int))]) rfl ?_
        refine wp_add rfl ?_
        refine wp_g (n := 2) (pc' := 69) (L' := [some (.ref 10), some (.int (iI (c0 : Int))), some (.int (iI (c : Int))), some (.int (iI 1)), some (.int (iI (i : Int))), some (.int (iI ((c : Int) / 4))), o6, o7, o8]) (st' := [.int (iI 3), .int (iI ((c : Int) + 1))]) rfl ?_
        refine wp_and3 rfl (by omega) (by omega) ?_
        refine wp_g (n := 2) (pc' := 73) (L' := [some (.ref 10), some (.int (iI (c0 : Int))), some (.int (iI (c : Int))), some (.int (iI 1)), some (.int (iI (i : Int))), some (.int (iI ((c : Int) / 4))), some (.int (iI (((c : Int) + 1) % 4))), o7, o8]) (st' := [.ref 10]) rfl ?_
        refine wp_getf (v := .ref 11) rfl rfl (S.cell 10 (nc rfl)) (by decide) rfl ?_
        refine wp_g (n := 2) (pc' := 80) (L' := [some (.ref 10), some (.int (iI (c0 : Int))), some (.int (iI (c : Int))), some (.int (iI 1)), some (.int (iI (i : Int))), some (.int (iI ((c : Int) / 4))), some (.int (iI (((c : Int) + 1) % 4))), o7, o8]) (st' := [.int (iI (((c : Int) + 1) % 4)), .int (iI ((c : Int) / 4)), .ref 11]) rfl ?_
        refine wp_cv (As := [.int (iI ((c : Int) / 4)), .int (iI (((c : Int) + 1) % 4))]) (rest := []) rfl rfl (S.gq hγ (gi rfl)).obj (by decide) rfl rfl rfl (Nat.le_of_ble_eq_true rfl) (Nat.le_of_ble_eq_true rfl) (G_edgeOnSideI (S.gq hγ (gi rfl)) ((c : Int) / 4) (((c : Int) + 1) % 4) (c / 4) (exs c true) (by omega) (by omega) (by omega) (by omega)) (fun r3 H3 q3 => ?_)
        obtain ⟨rfl, e3⟩ := q3
        rw [e3]
        show wp _ _ _ _ _ [.int (iI (exe R C c true))] _ _
        refine wp_g (n := 5) (pc' := 92) (L' := [some (.ref 10), some (.int (iI (c0 : Int))), some (.int (iI (c : Int))), some (.int (iI 1)), some (.int (iI (i : Int))), some (.int (iI ((c : Int) / 4))), some (.int (iI (((c : Int) + 1) % 4))), some (.int (iI (exe R C c true))), some (.int (iI (((c : Int) + 1) % 4)))]) (st' := [.int (iI (-1)), .int (iI (exe R C c true))]) rfl ?_
        refine wp_icmpI (a := (exe R C c true)) (b := (-1)) rfl rfl (by omega) (by omega) (by omega) (by omega) (fun c4 => ?_) (fun c4 => ?_)
        · have c4 : (((exe R C c true) : Int) = (-1)) := c4
          have hk : exk (R, C, kd) (c, true) = 2 := by unfold exk; exact if_pos c4
          have hisC : isC (R, C, kd) (c, true) = false := by unfold isC; rw [hk]; rfl
          have hT1 : TM (R, C, kd) m0 (noteM m s i c n true) (inn (R, C, kd) (stt A) c0 (i + 1)) := by rw [hin, ← hne]; exact TM_note hT hsl hisC
          have hs2 := (noteM_10 (m := m) (s := s) (i := i) (c := c) (n := n) (b := true)).1.trans hs1
          have hf2 := noteM_fr hfr (s := s) (i := i) (c := c) (n := n) (b := true)
          refine wp_g (n := 1) (pc' := 128) (L' := [some (.ref 10), some (.int (iI (c0 : Int))), some (.int (iI (c : Int))), some (.int (iI 1)), some (.int (iI (i : Int))), some (.int (iI ((c : Int) / 4))), some (.int (iI (((c : Int) + 1) % 4))), some (.int (iI (exe R C c true))), some (.int (iI (((c : Int) + 1) % 4)))]) (st' := [.ref 10]) rfl ?_
          refine wp_getf (v := .ref 11) rfl rfl (S.cell 10 (nc rfl)) (by decide) rfl ?_
          refine wp_g (n := 1) (pc' := 133) (L' := [some (.ref 10), some (.int (iI (c0 : Int))), some (.int (iI (c : Int))), some (.int (iI 1)), some (.int (iI (i : Int))), some (.int (iI ((c : Int) / 4))), some (.int (iI (((c : Int) + 1) % 4))), some (.int (iI (exe R C c true))), some (.int (iI (((c : Int) + 1) % 4)))]) (st' := [.int (iI (exe R C c true)), .ref 11]) rfl ?_
          refine wp_cv (As := [.int (iI (exe R C c true))]) (rest := []) rfl rfl (S.gq hγ (gi rfl)).obj (by decide) rfl rfl rfl (Nat.le_of_ble_eq_true rfl) (Nat.le_of_ble_eq_true rfl) (G_isCross (S.gq hγ (gi rfl)) (exe R C c true) (by omega) (by omega)) (fun r5 H5 q5 => ?_)
          obtain ⟨rfl, e5⟩ := q5
          rw [e5]
          by_cases c6 : (0 ≤ ((exe R C c true) : Int) ∧ (exe R C c true) < (gn R C : Int)) ∧ (kd ((exe R C c true)).toNat = 0 ∨ kd ((exe R C c true)).toNat = 1)
          · rw [if_pos c6]
            show wp _ _ _ _ _ [.int (iI 1)] _ _
            exfalso
            unfold exk at hk
            simp only at hk
            rw [if_neg (by omega)] at hk
            rcases c6.2 with g1 | g1 <;> omega
          · rw [if_neg c6]
            show wp _ _ _ _ _ [.int (iI 0)] _ _
            refine wp_g (n := 1) (pc' := 172) (L' := [some (.ref 10), some (.int (iI (c0 : Int))), some (.int (iI (c : Int))), some (.int (iI 1)), some (.int (iI (i : Int))), some (.int (iI ((c : Int) / 4))), some (.int (iI (((c : Int) + 1) % 4))), some (.int (iI (exe R C c true))), some (.int (iI (((c : Int) + 1) % 4)))]) (st' := []) rfl ?_
            refine wp_g (n := 2) (pc' := 175) (L' := [some (.ref 10), some (.int (iI (c0 : Int))), some (.int (iI (c : Int))), some (.int (iI 1)), some (.int (iI (i : Int))), some (.int (iI ((c : Int) / 4))), some (.int (iI (((c : Int) + 1) % 4))), some (.int (iI (exe R C c true))), some (.int (iI (((c : Int) + 1) % 4)))]) (st' := [.int (iI ((c : Int) / 4)), .int (iI 4)]) rfl ?_
            refine wp_mul rfl ?_
            refine wp_g (n := 1) (pc' := 177) (L' := [some (.ref 10), some (.int (iI (c0 : Int))), some (.int (iI (c : Int))), some (.int (iI 1)), some (.int (iI (i : Int))), some (.int (iI ((c : Int) / 4))), some (.int (iI (((c : Int) + 1) % 4))), some (.int (iI (exe R C c true))), some (.int (iI (((c : Int) + 1) % 4)))]) (st' := [.int (iI 1), .int (iI (4 * ((c : Int) / 4)))]) rfl ?_
            refine wp_g (n := 1) (pc' := 180) (L' := [some (.ref 10), some (.int (iI (c0 : Int))), some (.int (iI (c : Int))), some (.int (iI 1)), some (.int (iI (i : Int))), some (.int (iI ((c : Int) / 4))), some (.int (iI (((c : Int) + 1) % 4))), some (.int (iI (exe R C c true))), some (.int (iI (((c : Int) + 1) % 4)))]) (st' := [.int (iI (4 * ((c : Int) / 4)))]) rfl ?_
            refine wp_g (n := 2) (pc' := 191) (L' := [some (.ref 10), some (.int (iI (c0 : Int))), some (.int (iI (c : Int))), some (.int (iI 1)), some (.int (iI (i : Int))), some (.int (iI ((c : Int) / 4))), some (.int (iI (((c : Int) + 1) % 4))), some (.int (iI (exe R C c true))), some (.int (iI (((c : Int) + 1) % 4)))]) (st' := [.int (iI (((c : Int) + 1) % 4)), .int (iI (4 * ((c : Int) / 4)))]) rfl ?_
            refine wp_add rfl ?_
            refine wp_g (n := 1) (pc' := 193) (L' := [some (.ref 10), some (.int (iI (c0 : Int))), some (.int (iI ((4 * ((c : Int) / 4)) + (((c : Int) + 1) % 4)))), some (.int (iI 1)), some (.int (iI (i : Int))), some (.int (iI ((c : Int) / 4))), some (.int (iI (((c : Int) + 1) % 4))), some (.int (iI (exe R C c true))), some (.int (iI (((c : Int) + 1) % 4)))]) (st' := []) rfl ?_
            have hnx : ((4 * ((c : Int) / 4)) + (((c : Int) + 1) % 4)) = ((nx (R, C, kd) (c, true)).1 : Int) := by
              rw [nx_wall hk]
              simp only [if_true, if_false, Bool.false_eq_true]
              omega
            rw [hnx]
            exact hfin _ _ _ _ _ _ _ S hT1 hs2 hf2 (by rw [nx_wall hk]; rfl)
        · have c4 : (¬ ((exe R C c true) : Int) = (-1)) := c4
          have hne1 : ¬ exe R C c true = -1 := c4
          refine wp_g (n := 1) (pc' := 96) (L' := [some (.ref 10), some (.int (iI (c0 : Int))), some (.int (iI (c : Int))), some (.int (iI 1)), some (.int (iI (i : Int))), some (.int (iI ((c : Int) / 4))), some (.int (iI (((c : Int) + 1) % 4))), some (.int (iI (exe R C c true))), some (.int (iI (((c : Int) + 1) % 4)))]) (st' := [.ref 10]) rfl ?_
          refine wp_getf (v := .ref 11) rfl rfl (S.cell 10 (nc rfl)) (by decide) rfl ?_
          refine wp_g (n := 1) (pc' := 101) (L' := [some (.ref 10), some (.int (iI (c0 : Int))), some (.int (iI (c : Int))), some (.int (iI 1)), some (.int (iI (i : Int))), some (.int (iI ((c : Int) / 4))), some (.int (iI (((c : Int) + 1) % 4))), some (.int (iI (exe R C c true))), some (.int (iI (((c : Int) + 1) % 4)))]) (st' := [.int (iI (exe R C c true)), .ref 11]) rfl ?_
          refine wp_cv (As := [.int (iI (exe R C c true))]) (rest := []) rfl rfl (S.gq hγ (gi rfl)).obj (by decide) rfl rfl rfl (Nat.le_of_ble_eq_true rfl) (Nat.le_of_ble_eq_true rfl) (G_kindOfI (S.gq hγ (gi rfl)) (exe R C c true) (by omega) (by omega)) (fun r7 H7 q7 => ?_)
          obtain ⟨rfl, e7⟩ := q7
          rw [e7]
          show wp _ _ _ _ _ [.int (iI (kd (((exe R C c true)).toNat)))] _ _
          have hk8 := ((S.gq hγ (gi rfl))).2.1 (((exe R C c true)).toNat) (by omega)
          refine wp_g (n := 1) (pc' := 105) (L' := [some (.ref 10), some (.int (iI (c0 : Int))), some (.int (iI (c : Int))), some (.int (iI 1)), some (.int (iI (i : Int))), some (.int (iI ((c : Int) / 4))), some (.int (iI (((c : Int) + 1) % 4))), some (.int (iI (exe R C c true))), some (.int (iI (((c : Int) + 1) % 4)))]) (st' := [.int (iI 2), .int (iI (kd (((exe R C c true)).toNat)))]) rfl ?_
          refine wp_icmpI (a := (kd (((exe R C c true)).toNat))) (b := 2) rfl rfl (by omega) (by omega) (by omega) (by omega) (fun c9 => ?_) (fun c9 => ?_)
          · have c9 : (((kd (((exe R C c true)).toNat)) : Int) = 2) := c9
            have hk : exk (R, C, kd) (c, true) = 2 := by unfold exk; rw [if_neg hne1]; exact c9
            have hisC : isC (R, C, kd) (c, true) = false := by unfold isC; rw [hk]; rfl
            have hT1 : TM (R, C, kd) m0 (noteM m s i c n true) (inn (R, C, kd) (stt A) c0 (i + 1)) := by rw [hin, ← hne]; exact TM_note hT hsl hisC
            have hs2 := (noteM_10 (m := m) (s := s) (i := i) (c := c) (n := n) (b := true)).1.trans hs1
            have hf2 := noteM_fr hfr (s := s) (i := i) (c := c) (n := n) (b := true)
            refine wp_g (n := 1) (pc' := 128) (L' := [some (.ref 10), some (.int (iI (c0 : Int))), some (.int (iI (c : Int))), some (.int (iI 1)), some (.int (iI (i : Int))), some (.int (iI ((c : Int) / 4))), some (.int (iI (((c : Int) + 1) % 4))), some (.int (iI (exe R C c true))), some (.int (iI (((c : Int) + 1) % 4)))]) (st' := [.ref 10]) rfl ?_
            refine wp_getf (v := .ref 11) rfl rfl (S.cell 10 (nc rfl)) (by decide) rfl ?_
            refine wp_g (n := 1) (pc' := 133) (L' := [some (.ref 10), some (.int (iI (c0 : Int))), some (.int (iI (c : Int))), some (.int (iI 1)), some (.int (iI (i : Int))), some (.int (iI ((c : Int) / 4))), some (.int (iI (((c : Int) + 1) % 4))), some (.int (iI (exe R C c true))), some (.int (iI (((c : Int) + 1) % 4)))]) (st' := [.int (iI (exe R C c true)), .ref 11]) rfl ?_
            refine wp_cv (As := [.int (iI (exe R C c true))]) (rest := []) rfl rfl (S.gq hγ (gi rfl)).obj (by decide) rfl rfl rfl (Nat.le_of_ble_eq_true rfl) (Nat.le_of_ble_eq_true rfl) (G_isCross (S.gq hγ (gi rfl)) (exe R C c true) (by omega) (by omega)) (fun r10 H10 q10 => ?_)
            obtain ⟨rfl, e10⟩ := q10
            rw [e10]
            by_cases c11 : (0 ≤ ((exe R C c true) : Int) ∧ (exe R C c true) < (gn R C : Int)) ∧ (kd ((exe R C c true)).toNat = 0 ∨ kd ((exe R C c true)).toNat = 1)
            · rw [if_pos c11]
              show wp _ _ _ _ _ [.int (iI 1)] _ _
              exfalso
              unfold exk at hk
              simp only at hk
              rw [if_neg (by omega)] at hk
              rcases c11.2 with g1 | g1 <;> omega
            · rw [if_neg c11]
              show wp _ _ _ _ _ [.int (iI 0)] _ _
              refine wp_g (n := 1) (pc' := 172) (L' := [some (.ref 10), some (.int (iI (c0 : Int))), some (.int (iI (c : Int))), some (.int (iI 1)), some (.int (iI (i : Int))), some (.int (iI ((c : Int) / 4))), some (.int (iI (((c : Int) + 1) % 4))), some (.int (iI (exe R C c true))), some (.int (iI (((c : Int) + 1) % 4)))]) (st' := []) rfl ?_
              refine wp_g (n := 2) (pc' := 175) (L' := [some (.ref 10), some (.int (iI (c0 : Int))), some (.int (iI (c : Int))), some (.int (iI 1)), some (.int (iI (i : Int))), some (.int (iI ((c : Int) / 4))), some (.int (iI (((c : Int) + 1) % 4))), some (.int (iI (exe R C c true))), some (.int (iI (((c : Int) + 1) % 4)))]) (st' := [.int (iI ((c : Int) / 4)), .int (iI 4)]) rfl ?_
              refine wp_mul rfl ?_
              refine wp_g (n := 1) (pc' := 177) (L' := [some (.ref 10), some (.int (iI (c0 : Int))), some (.int (iI (c : Int))), some (.int (iI 1)), some (.int (iI (i : Int))), some (.int (iI ((c : Int) / 4))), some (.int (iI (((c : Int) + 1) % 4))), some (.int (iI (exe R C c true))), some (.int (iI (((c : Int) + 1) % 4)))]) (st' := [.int (iI 1), .int (iI (4 * ((c : Int) / 4)))]) rfl ?_
              refine wp_g (n := 1) (pc' := 180) (L' := [some (.ref 10), some (.int (iI (c0 : Int))), some (.int (iI (c : Int))), some (.int (iI 1)), some (.int (iI (i : Int))), some (.int (iI ((c : Int) / 4))), some (.int (iI (((c : Int) + 1) % 4))), some (.int (iI (exe R C c true))), some (.int (iI (((c : Int) + 1) % 4)))]) (st' := [.int (iI (4 * ((c : Int) / 4)))]) rfl ?_
              refine wp_g (n := 2) (pc' := 191) (L' := [some (.ref 10), some (.int (iI (c0 : Int))), some (.int (iI (c : Int))), some (.int (iI 1)), some (.int (iI (i : Int))), some (.int (iI ((c : Int) / 4))), some (.int (iI (((c : Int) + 1) % 4))), some (.int (iI (exe R C c true))), some (.int (iI (((c : Int) + 1) % 4)))]) (st' := [.int (iI (((c : Int) + 1) % 4)), .int (iI (4 * ((c : Int) / 4)))]) rfl ?_
              refine wp_add rfl ?_
              refine wp_g (n := 1) (pc' := 193) (L' := [some (.ref 10), some (.int (iI (c0 : Int))), some (.int (iI ((4 * ((c : Int) / 4)) + (((c : Int) + 1) % 4)))), some (.int (iI 1)), some (.int (iI (i : Int))), some (.int (iI ((c : Int) / 4))), some (.int (iI (((c : Int) + 1) % 4))), some (.int (iI (exe R C c true))), some (.int (iI (((c : Int) + 1) % 4)))]) (st' := []) rfl ?_
              have hnx : ((4 * ((c : Int) / 4)) + (((c : Int) + 1) % 4)) = ((nx (R, C, kd) (c, true)).1 : Int) := by
                rw [nx_wall hk]
                simp only [if_true, if_false, Bool.false_eq_true]
                omega
              rw [hnx]
              exact hfin _ _ _ _ _ _ _ S hT1 hs2 hf2 (by rw [nx_wall hk]; rfl)
          · have c9 : (¬ ((kd (((exe R C c true)).toNat)) : Int) = 2) := c9
            refine wp_g (n := 1) (pc' := 109) (L' := [some (.ref 10), some (.int (iI (c0 : Int))), some (.int (iI (c : Int))), some (.int (iI 1)), some (.int (iI (i : Int))), some (.int (iI ((c : Int) / 4))), some (.int (iI (((c : Int) + 1) % 4))), some (.int (iI (exe R C c true))), some (.int (iI (((c : Int) + 1) % 4)))]) (st' := [.ref 10]) rfl ?_
            refine wp_getf (v := .ref 11) rfl rfl (S.cell 10 (nc rfl)) (by decide) rfl ?_
            refine wp_g (n := 2) (pc' := 116) (L' := [some (.ref 10), some (.int (iI (c0 : Int))), some (.int (iI (c : Int))), some (.int (iI 1)), some (.int (iI (i : Int))), some (.int (iI ((c : Int) / 4))), some (.int (iI (((c : Int) + 1) % 4))), some (.int (iI (exe R C c true))), some (.int (iI (((c : Int) + 1) % 4)))]) (st' := [.int (iI (((c : Int) + 1) % 4)), .int (iI ((c : Int) / 4)), .ref 11]) rfl ?_
            refine wp_cv (As := [.int (iI ((c : Int) / 4)), .int (iI (((c : Int) + 1) % 4))]) (rest := []) rfl rfl (S.gq hγ (gi rfl)).obj (by decide) rfl rfl rfl (Nat.le_of_ble_eq_true rfl) (Nat.le_of_ble_eq_true rfl) (G_cellBeyond (S.gq hγ (gi rfl)) ((c : Int) / 4) (((c : Int) + 1) % 4) (by omega) (by omega) (by omega) (by omega)) (fun r12 H12 q12 => ?_)
            obtain ⟨rfl, e12⟩ := q12
            rw [e12]
            show wp _ _ _ _ _ [.int (iI (gBy C ((c : Int) / 4) (((c : Int) + 1) % 4)))] _ _
            refine wp_g (n := 3) (pc' := 124) (L' := [some (.ref 10), some (.int (iI (c0 : Int))), some (.int (iI (c : Int))), some (.int (iI 1)), some (.int (iI (i : Int))), some (.int (iI (gBy C ((c : Int) / 4) (((c : Int) + 1) % 4)))), some (.int (iI (((c : Int) + 1) % 4))), some (.int (iI (exe R C c true))), some (.int (iI (((c : Int) + 1) % 4)))]) (st' := [.int (iI 2), .int (iI (((c : Int) + 1) % 4))]) rfl ?_
            refine wp_xor2 rfl (by omega) (by omega) ?_
            refine wp_g (n := 2) (pc' := 128) (L' := [some (.ref 10), some (.int (iI (c0 : Int))), some (.int (iI (c : Int))), some (.int (iI 1)), some (.int (iI (i : Int))), some (.int (iI (gBy C ((c : Int) / 4) (((c : Int) + 1) % 4)))), some (.int (iI (((c : Int) + 1) % 4))), some (.int (iI (exe R C c true))), some (.int (iI (((((c : Int) + 1) % 4) + 2) % 4)))]) (st' := [.ref 10]) rfl ?_
            refine wp_getf (v := .ref 11) rfl rfl (S.cell 10 (nc rfl)) (by decide) rfl ?_
            refine wp_g (n := 1) (pc' := 133) (L' := [some (.ref 10), some (.int (iI (c0 : Int))), some (.int (iI (c : Int))), some (.int (iI 1)), some (.int (iI (i : Int))), some (.int (iI (gBy C ((c : Int) / 4) (((c : Int) + 1) % 4)))), some (.int (iI (((c : Int) + 1) % 4))), some (.int (iI (exe R C c true))), some (.int (iI (((((c : Int) + 1) % 4) + 2) % 4)))]) (st' := [.int (iI (exe R C c true)), .ref 11]) rfl ?_
            refine wp_cv (As := [.int (iI (exe R C c true))]) (rest := []) rfl rfl (S.gq hγ (gi rfl)).obj (by decide) rfl rfl rfl (Nat.le_of_ble_eq_true rfl) (Nat.le_of_ble_eq_true rfl) (G_isCross (S.gq hγ (gi rfl)) (exe R C c true) (by omega) (by omega)) (fun r13 H13 q13 => ?_)
            obtain ⟨rfl, e13⟩ := q13
            rw [e13]
            by_cases c14 : (0 ≤ ((exe R C c true) : Int) ∧ (exe R C c true) < (gn R C : Int)) ∧ (kd ((exe R C c true)).toNat = 0 ∨ kd ((exe R C c true)).toNat = 1)
            · rw [if_pos c14]
              show wp _ _ _ _ _ [.int (iI 1)] _ _
              have hk : exk (R, C, kd) (c, true) = 0 ∨ exk (R, C, kd) (c, true) = 1 := by unfold exk; rw [if_neg hne1]; exact c14.2
              have hisC : isC (R, C, kd) (c, true) = true := by unfold isC; exact decide_eq_true hk
              have hT1 : TM (R, C, kd) m0 (passM (noteM m s i c n true) s (pE (R, C, kd) (c, true)) np (dX c true) (dY c true) (pO (R, C, kd) (c, true))) (inn (R, C, kd) (stt A) c0 (i + 1)) := by rw [hin, ← hne, ← hnp]; exact TM_pass hT hsl hisC
              have hs2 : passM (noteM m s i c n true) s (pE (R, C, kd) (c, true)) np (dX c true) (dY c true) (pO (R, C, kd) (c, true)) 10 1 = (s : Int) := hs1
              have hf2 := passM_fr (noteM_fr hfr (s := s) (i := i) (c := c) (n := n) (b := true)) (s := s) (e := pE (R, C, kd) (c, true)) (j := np) (x := dX c true) (y := dY c true) (o := pO (R, C, kd) (c, true))
              refine wp_g (n := 1) (pc' := 139) (L' := [some (.ref 10), some (.int (iI (c0 : Int))), some (.int (iI (c : Int))), some (.int (iI 1)), some (.int (iI (i : Int))), some (.int (iI (gBy C ((c : Int) / 4) (((c : Int) + 1) % 4)))), some (.int (iI (((c : Int) + 1) % 4))), some (.int (iI (exe R C c true))), some (.int (iI (((((c : Int) + 1) % 4) + 2) % 4)))]) (st' := []) rfl ?_
              refine wp_g (n := 3) (pc' := 143) (L' := [some (.ref 10), some (.int (iI (c0 : Int))), some (.int (iI (c : Int))), some (.int (iI 1)), some (.int (iI (i : Int))), some (.int (iI (gBy C ((c : Int) / 4) (((c : Int) + 1) % 4)))), some (.int (iI (((c : Int) + 1) % 4))), some (.int (iI (exe R C c true))), some (.int (iI (((((c : Int) + 1) % 4) + 2) % 4)))]) (st' := [.int (iI 1), .int (iI (exe R C c true)), .ref 10]) rfl ?_
              refine wp_g (n := 1) (pc' := 146) (L' := [some (.ref 10), some (.int (iI (c0 : Int))), some (.int (iI (c : Int))), some (.int (iI 1)), some (.int (iI (i : Int))), some (.int (iI (gBy C ((c : Int) / 4) (((c : Int) + 1) % 4)))), some (.int (iI (((c : Int) + 1) % 4))), some (.int (iI (exe R C c true))), some (.int (iI (((((c : Int) + 1) % 4) + 2) % 4)))]) (st' := [.int (iI (exe R C c true)), .ref 10]) rfl ?_
              refine wp_g (n := 2) (pc' := 148) (L' := [some (.ref 10), some (.int (iI (c0 : Int))), some (.int (iI (c : Int))), some (.int (iI 1)), some (.int (iI (i : Int))), some (.int (iI (gBy C ((c : Int) / 4) (((c : Int) + 1) % 4)))), some (.int (iI (((c : Int) + 1) % 4))), some (.int (iI (exe R C c true))), some (.int (iI (((((c : Int) + 1) % 4) + 2) % 4)))]) (st' := [.int (iI 3), .int (iI (c : Int)), .int (iI (exe R C c true)), .ref 10]) rfl ?_
              refine wp_and3 rfl (by omega) (by omega) ?_
              refine wp_g (n := 2) (pc' := 159) (L' := [some (.ref 10), some (.int (iI (c0 : Int))), some (.int (iI (c : Int))), some (.int (iI 1)), some (.int (iI (i : Int))), some (.int (iI (gBy C ((c : Int) / 4) (((c : Int) + 1) % 4)))), some (.int (iI (((c : Int) + 1) % 4))), some (.int (iI (exe R C c true))), some (.int (iI (((((c : Int) + 1) % 4) + 2) % 4)))]) (st' := [.int (iI (((c : Int) + 1) % 4)), .int (iI ((c : Int) % 4)), .int (iI (exe R C c true)), .ref 10]) rfl ?_
              refine wp_cv (As := [.int (iI (exe R C c true)), .int (iI ((c : Int) % 4)), .int (iI (((c : Int) + 1) % 4))]) (rest := []) rfl rfl (S.cell 10 (nc rfl)) (by decide) rfl rfl rfl (Nat.le_of_ble_eq_true rfl) (Nat.le_of_ble_eq_true rfl) (c_passX S hγ (c := c) (b := true) (exe R C c true) ((c : Int) % 4) (((c : Int) + 1) % 4) rfl (by show _ = (exs c false : Int); omega) (by omega) (noteM_10.1.trans hs1) (noteM_10.2.trans hp1) hisC (by omega) (by have := hrm hisC; omega) (by omega)) (fun r15 H15 q15 => ?_)
              obtain ⟨rfl, S⟩ := q15
              have S : ST H15 (passM (noteM m s i c n true) s (pE (R, C, kd) (c, true)) np (dX c true) (dY c true) (pO (R, C, kd) (c, true))) γ t := S
              show wp _ _ _ _ _ [] _ _
              refine wp_g (n := 1) (pc' := 163) (L' := [some (.ref 10), some (.int (iI (c0 : Int))), some (.int (iI (c : Int))), some (.int (iI 1)), some (.int (iI (i : Int))), some (.int (iI (gBy C ((c : Int) / 4) (((c : Int) + 1) % 4)))), some (.int (iI (((c : Int) + 1) % 4))), some (.int (iI (exe R C c true))), some (.int (iI (((((c : Int) + 1) % 4) + 2) % 4)))]) (st' := [.int (iI 1)]) rfl ?_
              refine wp_g (n := 1) (pc' := 170) (L' := [some (.ref 10), some (.int (iI (c0 : Int))), some (.int (iI (c : Int))), some (.int (iI 1)), some (.int (iI (i : Int))), some (.int (iI (gBy C ((c : Int) / 4) (((c : Int) + 1) % 4)))), some (.int (iI (((c : Int) + 1) % 4))), some (.int (iI (exe R C c true))), some (.int (iI (((((c : Int) + 1) % 4) + 2) % 4)))]) (st' := []) rfl ?_
              refine wp_g (n := 4) (pc' := 175) (L' := [some (.ref 10), some (.int (iI (c0 : Int))), some (.int (iI (c : Int))), some (.int (iI 0)), some (.int (iI (i : Int))), some (.int (iI (gBy C ((c : Int) / 4) (((c : Int) + 1) % 4)))), some (.int (iI (((c : Int) + 1) % 4))), some (.int (iI (exe R C c true))), some (.int (iI (((((c : Int) + 1) % 4) + 2) % 4)))]) (st' := [.int (iI (gBy C ((c : Int) / 4) (((c : Int) + 1) % 4))), .int (iI 4)]) rfl ?_
              refine wp_mul rfl ?_
              refine wp_g (n := 1) (pc' := 177) (L' := [some (.ref 10), some (.int (iI (c0 : Int))), some (.int (iI (c : Int))), some (.int (iI 0)), some (.int (iI (i : Int))), some (.int (iI (gBy C ((c : Int) / 4) (((c : Int) + 1) % 4)))), some (.int (iI (((c : Int) + 1) % 4))), some (.int (iI (exe R C c true))), some (.int (iI (((((c : Int) + 1) % 4) + 2) % 4)))]) (st' := [.int (iI 0), .int (iI (4 * (gBy C ((c : Int) / 4) (((c : Int) + 1) % 4))))]) rfl ?_
              refine wp_g (n := 1) (pc' := 185) (L' := [some (.ref 10), some (.int (iI (c0 : Int))), some (.int (iI (c : Int))), some (.int (iI 0)), some (.int (iI (i : Int))), some (.int (iI (gBy C ((c : Int) / 4) (((c : Int) + 1) % 4)))), some (.int (iI (((c : Int) + 1) % 4))), some (.int (iI (exe R C c true))), some (.int (iI (((((c : Int) + 1) % 4) + 2) % 4)))]) (st' := [.int (iI (4 * (gBy C ((c : Int) / 4) (((c : Int) + 1) % 4))))]) rfl ?_
              refine wp_g (n := 2) (pc' := 188) (L' := [some (.ref 10), some (.int (iI (c0 : Int))), some (.int (iI (c : Int))), some (.int (iI 0)), some (.int (iI (i : Int))), some (.int (iI (gBy C ((c : Int) / 4) (((c : Int) + 1) % 4)))), some (.int (iI (((c : Int) + 1) % 4))), some (.int (iI (exe R C c true))), some (.int (iI (((((c : Int) + 1) % 4) + 2) % 4)))]) (st' := [.int (iI 3), .int (iI (((((c : Int) + 1) % 4) + 2) % 4)), .int (iI (4 * (gBy C ((c : Int) / 4) (((c : Int) + 1) % 4))))]) rfl ?_
              refine wp_add rfl ?_
              refine wp_g (n := 1) (pc' := 190) (L' := [some (.ref 10), some (.int (iI (c0 : Int))), some (.int (iI (c : Int))), some (.int (iI 0)), some (.int (iI (i : Int))), some (.int (iI (gBy C ((c : Int) / 4) (((c : Int) + 1) % 4)))), some (.int (iI (((c : Int) + 1) % 4))), some (.int (iI (exe R C c true))), some (.int (iI (((((c : Int) + 1) % 4) + 2) % 4)))]) (st' := [.int (iI 3), .int (iI ((((((c : Int) + 1) % 4) + 2) % 4) + 3)), .int (iI (4 * (gBy C ((c : Int) / 4) (((c : Int) + 1) % 4))))]) rfl ?_
              refine wp_and3 rfl (by omega) (by omega) ?_
              refine wp_add rfl ?_
              refine wp_g (n := 1) (pc' := 193) (L' := [some (.ref 10), some (.int (iI (c0 : Int))), some (.int (iI ((4 * (gBy C ((c : Int) / 4) (((c : Int) + 1) % 4))) + (((((((c : Int) + 1) % 4) + 2) % 4) + 3) % 4)))), some (.int (iI 0)), some (.int (iI (i : Int))), some (.int (iI (gBy C ((c : Int) / 4) (((c : Int) + 1) % 4)))), some (.int (iI (((c : Int) + 1) % 4))), some (.int (iI (exe R C c true))), some (.int (iI (((((c : Int) + 1) % 4) + 2) % 4)))]) (st' := []) rfl ?_
              have hnx : ((4 * (gBy C ((c : Int) / 4) (((c : Int) + 1) % 4))) + (((((((c : Int) + 1) % 4) + 2) % 4) + 3) % 4)) = ((nx (R, C, kd) (c, true)).1 : Int) := by
                rw [nx_cross hk]
                have hby := gBy_eq (R := R) (C := C) (c := c / 4) (exs_lt c true) hne1
                rw [show ((c : Int) / 4) = ((c / 4 : Nat) : Int) by omega] at *
                rw [exsT] at *
                rw [hby]
                simp only [if_true, if_false, Bool.false_eq_true]
                omega
              rw [hnx]
              exact hfin _ _ _ _ _ _ _ S hT1 hs2 hf2 (by rw [nx_cross hk]; rfl)
            · rw [if_neg c14]
              show wp _ _ _ _ _ [.int (iI 0)] _ _
              have hk : exk (R, C, kd) (c, true) = 3 := by
                unfold exk
                rw [if_neg hne1]
                simp only
                have hk3 := hG.2 (exe R C c true).toNat (by show _ < gn R C; omega)
                simp only at hk3
                have := c14
                have g1 : ¬ (kd (exe R C c true).toNat = 0 ∨ kd (exe R C c true).toNat = 1) := fun z => this ⟨by omega, z⟩
                omega
              have hisC : isC (R, C, kd) (c, true) = false := by unfold isC; rw [hk]; rfl
              have hT1 : TM (R, C, kd) m0 (noteM m s i c n true) (inn (R, C, kd) (stt A) c0 (i + 1)) := by rw [hin, ← hne]; exact TM_note hT hsl hisC
              have hs2 := (noteM_10 (m := m) (s := s) (i := i) (c := c) (n := n) (b := true)).1.trans hs1
              have hf2 := noteM_fr hfr (s := s) (i := i) (c := c) (n := n) (b := true)
              refine wp_g (n := 1) (pc' := 172) (L' := [some (.ref 10), some (.int (iI (c0 : Int))), some (.int (iI (c : Int))), some (.int (iI 1)), some (.int (iI (i : Int))), some (.int (iI (gBy C ((c : Int) / 4) (((c : Int) + 1) % 4)))), some (.int (iI (((c : Int) + 1) % 4))), some (.int (iI (exe R C c true))), some (.int (iI (((((c : Int) + 1) % 4) + 2) % 4)))]) (st' := []) rfl ?_
              refine wp_g (n := 2) (pc' := 175) (L' := [some (.ref 10), some (.int (iI (c0 : Int))), some (.int (iI (c : Int))), some (.int (iI 1)), some (.int (iI (i : Int))), some (.int (iI (gBy C ((c : Int) / 4) (((c : Int) + 1) % 4)))), some (.int (iI (((c : Int) + 1) % 4))), some (.int (iI (exe R C c true))), some (.int (iI (((((c : Int) + 1) % 4) + 2) % 4)))]) (st' := [.int (iI (gBy C ((c : Int) / 4) (((c : Int) + 1) % 4))), .int (iI 4)]) rfl ?_
              refine wp_mul rfl ?_
              refine wp_g (n := 1) (pc' := 177) (L' := [some (.ref 10), some (.int (iI (c0 : Int))), some (.int (iI (c : Int))), some (.int (iI 1)), some (.int (iI (i : Int))), some (.int (iI (gBy C ((c : Int) / 4) (((c : Int) + 1) % 4)))), some (.int (iI (((c : Int) + 1) % 4))), some (.int (iI (exe R C c true))), some (.int (iI (((((c : Int) + 1) % 4) + 2) % 4)))]) (st' := [.int (iI 1), .int (iI (4 * (gBy C ((c : Int) / 4) (((c : Int) + 1) % 4))))]) rfl ?_
              refine wp_g (n := 1) (pc' := 180) (L' := [some (.ref 10), some (.int (iI (c0 : Int))), some (.int (iI (c : Int))), some (.int (iI 1)), some (.int (iI (i : Int))), some (.int (iI (gBy C ((c : Int) / 4) (((c : Int) + 1) % 4)))), some (.int (iI (((c : Int) + 1) % 4))), some (.int (iI (exe R C c true))), some (.int (iI (((((c : Int) + 1) % 4) + 2) % 4)))]) (st' := [.int (iI (4 * (gBy C ((c : Int) / 4) (((c : Int) + 1) % 4))))]) rfl ?_
              refine wp_g (n := 2) (pc' := 191) (L' := [some (.ref 10), some (.int (iI (c0 : Int))), some (.int (iI (c : Int))), some (.int (iI 1)), some (.int (iI (i : Int))), some (.int (iI (gBy C ((c : Int) / 4) (((c : Int) + 1) % 4)))), some (.int (iI (((c : Int) + 1) % 4))), some (.int (iI (exe R C c true))), some (.int (iI (((((c : Int) + 1) % 4) + 2) % 4)))]) (st' := [.int (iI (((((c : Int) + 1) % 4) + 2) % 4)), .int (iI (4 * (gBy C ((c : Int) / 4) (((c : Int) + 1) % 4))))]) rfl ?_
              refine wp_add rfl ?_
              refine wp_g (n := 1) (pc' := 193) (L' := [some (.ref 10), some (.int (iI (c0 : Int))), some (.int (iI ((4 * (gBy C ((c : Int) / 4) (((c : Int) + 1) % 4))) + (((((c : Int) + 1) % 4) + 2) % 4)))), some (.int (iI 1)), some (.int (iI (i : Int))), some (.int (iI (gBy C ((c : Int) / 4) (((c : Int) + 1) % 4)))), some (.int (iI (((c : Int) + 1) % 4))), some (.int (iI (exe R C c true))), some (.int (iI (((((c : Int) + 1) % 4) + 2) % 4)))]) (st' := []) rfl ?_
              have hnx : ((4 * (gBy C ((c : Int) / 4) (((c : Int) + 1) % 4))) + (((((c : Int) + 1) % 4) + 2) % 4)) = ((nx (R, C, kd) (c, true)).1 : Int) := by
                rw [nx_gap hk]
                have hby := gBy_eq (R := R) (C := C) (c := c / 4) (exs_lt c true) hne1
                rw [show ((c : Int) / 4) = ((c / 4 : Nat) : Int) by omega] at *
                rw [exsT] at *
                rw [hby]
                simp only [if_true, if_false, Bool.false_eq_true]
                omega
              rw [hnx]
              exact hfin _ _ _ _ _ _ _ S hT1 hs2 hf2 (by rw [nx_gap hk]; rfl)
    | false =>
      have hx3 : x3 = 0 := hx3
      subst hx3
      have hT : TM (R, C, kd) m0 m (inn (R, C, kd) (stt A) c0 i) := hT
      have hsd : (c : Int) % 4 = (exs c false : Int) := exsF c
      have hfr2 : ((c : Int) + 1) % 4 = (exs c true : Int) := exsT c
      have hed := exe_rng hG (x := (c, false)) hlt
      simp only at hed
      have hexs := exs_lt c false
      refine wp_g (n := 2) (pc' := 41) (L' := [some (.ref 10), some (.int (iI (c0 : Int))), some (.int (iI (c : Int))), some (.int (iI 0)), some (.int (iI (i : Int))), o5, o6, o7, o8]) (st' := [.int (iI 64), .int (iI (i : Int))]) rfl ?_
      refine wp_icmpI (a := (i : Int)) (b := 64) rfl rfl (by omega) (by omega) (by omega) (by omega) (fun c1 => ?_) (fun c1 => ?_)
      · have c1 : ((64 : Int) ≤ (i : Int)) := c1
        exfalso; omega
      · have c1 : (¬ (64 : Int) ≤ (i : Int)) := c1
        refine wp_g (n := 4) (pc' := 49) (L' := [some (.ref 10), some (.int (iI (c0 : Int))), some (.int (iI (c : Int))), some (.int (iI 0)), some (.int (iI (i : Int))), o5, o6, o7, o8]) (st' := [.int (iI 0), .int (iI (i : Int)), .int (iI (c : Int)), .ref 10]) rfl ?_
        refine wp_cv (As := [.int (iI (c : Int)), .int (iI (i : Int)), .int (iI 0)]) (rest := []) rfl rfl (S.cell 10 (nc rfl)) (by decide) rfl rfl rfl (Nat.le_of_ble_eq_true rfl) (Nat.le_of_ble_eq_true rfl) (c_noteF S hs1 hn1 (by omega) (by omega) (by omega) (by omega)) (fun r2 H2 q2 => ?_)
        obtain ⟨rfl, S⟩ := q2
        have S : ST H2 (noteM m s i c n false) γ t := S
        show wp _ _ _ _ _ [] _ _
        refine wp_g (n := 2) (pc' := 54) (L' := [some (.ref 10), some (.int (iI (c0 : Int))), some (.int (iI (c : Int))), some (.int (iI 0)), some (.int (iI (i : Int))), o5, o6, o7, o8]) (st' := [.int (iI 2), .int (iI (c : Int))]) rfl ?_
        refine wp_shr2 rfl (by omega) (by omega) ?_
        refine wp_g (n := 2) (pc' := 58) (L' := [some (.ref 10), some (.int (iI (c0 : Int))), some (.int (iI (c : Int))), some (.int (iI 0)), some (.int (iI (i : Int))), some (.int (iI ((c : Int) / 4))), o6, o7, o8]) (st' := [.int (iI 0)]) rfl ?_
        refine wp_g (n := 1) (pc' := 67) (L' := [some (.ref 10), some (.int (iI (c0 : Int))), some (.int (iI (c : Int))), some (.int (iI 0)), some (.int (iI (i : Int))), some (.int (iI ((c : Int) / 4))), o6, o7, o8]) (st' := []) rfl ?_
        refine wp_g (n := 2) (pc' := 69) (L' := [some (.ref 10), some (.int (iI (c0 : Int))), some (.int (iI (c : Int))), some (.int (iI 0)), some (.int (iI (i : Int))), some (.int (iI ((c : Int) / 4))), o6, o7, o8]) (st' := [.int (iI 3), .int (iI (c : Int))]) rfl ?_
        refine wp_and3 rfl (by omega) (by omega) ?_
        refine wp_g (n := 2) (pc' := 73) (L' := [some (.ref 10), some (.int (iI (c0 : Int))), some (.int (iI (c : Int))), some (.int (iI 0)), some (.int (iI (i : Int))), some (.int (iI ((c : Int) / 4))), some (.int (iI ((c : Int) % 4))), o7, o8]) (st' := [.ref 10]) rfl ?_
        refine wp_getf (v := .ref 11) rfl rfl (S.cell 10 (nc rfl)) (by decide) rfl ?_
        refine wp_g (n := 2) (pc' := 80) (L' := [some (.ref 10), some (.int (iI (c0 : Int))), some (.int (iI (c : Int))), some (.int (iI 0)), some (.int (iI (i : Int))), some (.int (iI ((c : Int) / 4))), some (.int (iI ((c : Int) % 4))), o7, o8]) (st' := [.int (iI ((c : Int) % 4)), .int (iI ((c : Int) / 4)), .ref 11]) rfl ?_
        refine wp_cv (As := [.int (iI ((c : Int) / 4)), .int (iI ((c : Int) % 4))]) (rest := []) rfl rfl (S.gq hγ (gi rfl)).obj (by decide) rfl rfl rfl (Nat.le_of_ble_eq_true rfl) (Nat.le_of_ble_eq_true rfl) (G_edgeOnSideI (S.gq hγ (gi rfl)) ((c : Int) / 4) ((c : Int) % 4) (c / 4) (exs c false) (by omega) (by omega) (by omega) (by omega)) (fun r3 H3 q3 => ?_)
        obtain ⟨rfl, e3⟩ := q3
        rw [e3]
        show wp _ _ _ _ _ [.int (iI (exe R C c false))] _ _
        refine wp_g (n := 5) (pc' := 92) (L' := [some (.ref 10), some (.int (iI (c0 : Int))), some (.int (iI (c : Int))), some (.int (iI 0)), some (.int (iI (i : Int))), some (.int (iI ((c : Int) / 4))), some (.int (iI ((c : Int) % 4))), some (.int (iI (exe R C c false))), some (.int (iI ((c : Int) % 4)))]) (st' := [.int (iI (-1)), .int (iI (exe R C c false))]) rfl ?_
        refine wp_icmpI (a := (exe R C c false)) (b := (-1)) rfl rfl (by omega) (by omega) (by omega) (by omega) (fun c4 => ?_) (fun c4 => ?_)
        · have c4 : (((exe R C c false) : Int) = (-1)) := c4
          have hk : exk (R, C, kd) (c, false) = 2 := by unfold exk; exact if_pos c4
          have hisC : isC (R, C, kd) (c, false) = false := by unfold isC; rw [hk]; rfl
          have hT1 : TM (R, C, kd) m0 (noteM m s i c n false) (inn (R, C, kd) (stt A) c0 (i + 1)) := by rw [hin, ← hne]; exact TM_note hT hsl hisC
          have hs2 := (noteM_10 (m := m) (s := s) (i := i) (c := c) (n := n) (b := false)).1.trans hs1
          have hf2 := noteM_fr hfr (s := s) (i := i) (c := c) (n := n) (b := false)
          refine wp_g (n := 1) (pc' := 128) (L' := [some (.ref 10), some (.int (iI (c0 : Int))), some (.int (iI (c : Int))), some (.int (iI 0)), some (.int (iI (i : Int))), some (.int (iI ((c : Int) / 4))), some (.int (iI ((c : Int) % 4))), some (.int (iI (exe R C c false))), some (.int (iI ((c : Int) % 4)))]) (st' := [.ref 10]) rfl ?_
          refine wp_getf (v := .ref 11) rfl rfl (S.cell 10 (nc rfl)) (by decide) rfl ?_
          refine wp_g (n := 1) (pc' := 133) (L' := [some (.ref 10), some (.int (iI (c0 : Int))), some (.int (iI (c : Int))), some (.int (iI 0)), some (.int (iI (i : Int))), some (.int (iI ((c : Int) / 4))), some (.int (iI ((c : Int) % 4))), some (.int (iI (exe R C c false))), some (.int (iI ((c : Int) % 4)))]) (st' := [.int (iI (exe R C c false)), .ref 11]) rfl ?_
          refine wp_cv (As := [.int (iI (exe R C c false))]) (rest := []) rfl rfl (S.gq hγ (gi rfl)).obj (by decide) rfl rfl rfl (Nat.le_of_ble_eq_true rfl) (Nat.le_of_ble_eq_true rfl) (G_isCross (S.gq hγ (gi rfl)) (exe R C c false) (by omega) (by omega)) (fun r5 H5 q5 => ?_)
          obtain ⟨rfl, e5⟩ := q5
          rw [e5]
          by_cases c6 : (0 ≤ ((exe R C c false) : Int) ∧ (exe R C c false) < (gn R C : Int)) ∧ (kd ((exe R C c false)).toNat = 0 ∨ kd ((exe R C c false)).toNat = 1)
          · rw [if_pos c6]
            show wp _ _ _ _ _ [.int (iI 1)] _ _
            exfalso
            unfold exk at hk
            simp only at hk
            rw [if_neg (by omega)] at hk
            rcases c6.2 with g1 | g1 <;> omega
          · rw [if_neg c6]
            show wp _ _ _ _ _ [.int (iI 0)] _ _
            refine wp_g (n := 1) (pc' := 172) (L' := [some (.ref 10), some (.int (iI (c0 : Int))), some (.int (iI (c : Int))), some (.int (iI 0)), some (.int (iI (i : Int))), some (.int (iI ((c : Int) / 4))), some (.int (iI ((c : Int) % 4))), some (.int (iI (exe R C c false))), some (.int (iI ((c : Int) % 4)))]) (st' := []) rfl ?_
            refine wp_g (n := 2) (pc' := 175) (L' := [some (.ref 10), some (.int (iI (c0 : Int))), some (.int (iI (c : Int))), some (.int (iI 0)), some (.int (iI (i : Int))), some (.int (iI ((c : Int) / 4))), some (.int (iI ((c : Int) % 4))), some (.int (iI (exe R C c false))), some (.int (iI ((c : Int) % 4)))]) (st' := [.int (iI ((c : Int) / 4)), .int (iI 4)]) rfl ?_
            refine wp_mul rfl ?_
            refine wp_g (n := 1) (pc' := 177) (L' := [some (.ref 10), some (.int (iI (c0 : Int))), some (.int (iI (c : Int))), some (.int (iI 0)), some (.int (iI (i : Int))), some (.int (iI ((c : Int) / 4))), some (.int (iI ((c : Int) % 4))), some (.int (iI (exe R C c false))), some (.int (iI ((c : Int) % 4)))]) (st' := [.int (iI 0), .int (iI (4 * ((c : Int) / 4)))]) rfl ?_
            refine wp_g (n := 1) (pc' := 185) (L' := [some (.ref 10), some (.int (iI (c0 : Int))), some (.int (iI (c : Int))), some (.int (iI 0)), some (.int (iI (i : Int))), some (.int (iI ((c : Int) / 4))), some (.int (iI ((c : Int) % 4))), some (.int (iI (exe R C c false))), some (.int (iI ((c : Int) % 4)))]) (st' := [.int (iI (4 * ((c : Int) / 4)))]) rfl ?_
            refine wp_g (n := 2) (pc' := 188) (L' := [some (.ref 10), some (.int (iI (c0 : Int))), some (.int (iI (c : Int))), some (.int (iI 0)), some (.int (iI (i : Int))), some (.int (iI ((c : Int) / 4))), some (.int (iI ((c : Int) % 4))), some (.int (iI (exe R C c false))), some (.int (iI ((c : Int) % 4)))]) (st' := [.int (iI 3), .int (iI ((c : Int) % 4)), .int (iI (4 * ((c : Int) / 4)))]) rfl ?_
            refine wp_add rfl ?_
            refine wp_g (n := 1) (pc' := 190) (L' := [some (.ref 10), some (.int (iI (c0 : Int))), some (.int (iI (c : Int))), some (.int (iI 0)), some (.int (iI (i : Int))), some (.int (iI ((c : Int) / 4))), some (.int (iI ((c : Int) % 4))), some (.int (iI (exe R C c false))), some (.int (iI ((c : Int) % 4)))]) (st' := [.int (iI 3), .int (iI (((c : Int) % 4) + 3)), .int (iI (4 * ((c : Int) / 4)))]) rfl ?_
            refine wp_and3 rfl (by omega) (by omega) ?_
            refine wp_add rfl ?_
            refine wp_g (n := 1) (pc' := 193) (L' := [some (.ref 10), some (.int (iI (c0 : Int))), some (.int (iI ((4 * ((c : Int) / 4)) + ((((c : Int) % 4) + 3) % 4)))), some (.int (iI 0)), some (.int (iI (i : Int))), some (.int (iI ((c : Int) / 4))), some (.int (iI ((c : Int) % 4))), some (.int (iI (exe R C c false))), some (.int (iI ((c : Int) % 4)))]) (st' := []) rfl ?_
            have hnx : ((4 * ((c : Int) / 4)) + ((((c : Int) % 4) + 3) % 4)) = ((nx (R, C, kd) (c, false)).1 : Int) := by
              rw [nx_wall hk]
              simp only [if_true, if_false, Bool.false_eq_true]
              omega
            rw [hnx]
            exact hfin _ _ _ _ _ _ _ S hT1 hs2 hf2 (by rw [nx_wall hk]; rfl)
        · have c4 : (¬ ((exe R C c false) : Int) = (-1)) := c4
          have hne1 : ¬ exe R C c false = -1 := c4
          refine wp_g (n := 1) (pc' := 96) (L' := [some (.ref 10), some (.int (iI (c0 : Int))), some (.int (iI (c : Int))), some (.int (iI 0)), some (.int (iI (i : Int))), some (.int (iI ((c : Int) / 4))), some (.int (iI ((c : Int) % 4))), some (.int (iI (exe R C c false))), some (.int (iI ((c : Int) % 4)))]) (st' := [.ref 10]) rfl ?_
          refine wp_getf (v := .ref 11) rfl rfl (S.cell 10 (nc rfl)) (by decide) rfl ?_
          refine wp_g (n := 1) (pc' := 101) (L' := [some (.ref 10), some (.int (iI (c0 : Int))), some (.int (iI (c : Int))), some (.int (iI 0)), some (.int (iI (i : Int))), some (.int (iI ((c : Int) / 4))), some (.int (iI ((c : Int) % 4))), some (.int (iI (exe R C c false))), some (.int (iI ((c : Int) % 4)))]) (st' := [.int (iI (exe R C c false)), .ref 11]) rfl ?_
          refine wp_cv (As := [.int (iI (exe R C c false))]) (rest := []) rfl rfl (S.gq hγ (gi rfl)).obj (by decide) rfl rfl rfl (Nat.le_of_ble_eq_true rfl) (Nat.le_of_ble_eq_true rfl) (G_kindOfI (S.gq hγ (gi rfl)) (exe R C c false) (by omega) (by omega)) (fun r7 H7 q7 => ?_)
          obtain ⟨rfl, e7⟩ := q7
          rw [e7]
          show wp _ _ _ _ _ [.int (iI (kd (((exe R C c false)).toNat)))] _ _
          have hk8 := ((S.gq hγ (gi rfl))).2.1 (((exe R C c false)).toNat) (by omega)
          refine wp_g (n := 1) (pc' := 105) (L' := [some (.ref 10), some (.int (iI (c0 : Int))), some (.int (iI (c : Int))), some (.int (iI 0)), some (.int (iI (i : Int))), some (.int (iI ((c : Int) / 4))), some (.int (iI ((c : Int) % 4))), some (.int (iI (exe R C c false))), some (.int (iI ((c : Int) % 4)))]) (st' := [.int (iI 2), .int (iI (kd (((exe R C c false)).toNat)))]) rfl ?_
          refine wp_icmpI (a := (kd (((exe R C c false)).toNat))) (b := 2) rfl rfl (by omega) (by omega) (by omega) (by omega) (fun c9 => ?_) (fun c9 => ?_)
          · have c9 : (((kd (((exe R C c false)).toNat)) : Int) = 2) := c9
            have hk : exk (R, C, kd) (c, false) = 2 := by unfold exk; rw [if_neg hne1]; exact c9
            have hisC : isC (R, C, kd) (c, false) = false := by unfold isC; rw [hk]; rfl
            have hT1 : TM (R, C, kd) m0 (noteM m s i c n false) (inn (R, C, kd) (stt A) c0 (i + 1)) := by rw [hin, ← hne]; exact TM_note hT hsl hisC
            have hs2 := (noteM_10 (m := m) (s := s) (i := i) (c := c) (n := n) (b := false)).1.trans hs1
            have hf2 := noteM_fr hfr (s := s) (i := i) (c := c) (n := n) (b := false)
            refine wp_g (n := 1) (pc' := 128) (L' := [some (.ref 10), some (.int (iI (c0 : Int))), some (.int (iI (c : Int))), some (.int (iI 0)), some (.int (iI (i : Int))), some (.int (iI ((c : Int) / 4))), some (.int (iI ((c : Int) % 4))), some (.int (iI (exe R C c false))), some (.int (iI ((c : Int) % 4)))]) (st' := [.ref 10]) rfl ?_
            refine wp_getf (v := .ref 11) rfl rfl (S.cell 10 (nc rfl)) (by decide) rfl ?_
            refine wp_g (n := 1) (pc' := 133) (L' := [some (.ref 10), some (.int (iI (c0 : Int))), some (.int (iI (c : Int))), some (.int (iI 0)), some (.int (iI (i : Int))), some (.int (iI ((c : Int) / 4))), some (.int (iI ((c : Int) % 4))), some (.int (iI (exe R C c false))), some (.int (iI ((c : Int) % 4)))]) (st' := [.int (iI (exe R C c false)), .ref 11]) rfl ?_
            refine wp_cv (As := [.int (iI (exe R C c false))]) (rest := []) rfl rfl (S.gq hγ (gi rfl)).obj (by decide) rfl rfl rfl (Nat.le_of_ble_eq_true rfl) (Nat.le_of_ble_eq_true rfl) (G_isCross (S.gq hγ (gi rfl)) (exe R C c false) (by omega) (by omega)) (fun r10 H10 q10 => ?_)
            obtain ⟨rfl, e10⟩ := q10
            rw [e10]
            by_cases c11 : (0 ≤ ((exe R C c false) : Int) ∧ (exe R C c false) < (gn R C : Int)) ∧ (kd ((exe R C c false)).toNat = 0 ∨ kd ((exe R C c false)).toNat = 1)
            · rw [if_pos c11]
              show wp _ _ _ _ _ [.int (iI 1)] _ _
              exfalso
              unfold exk at hk
              simp only at hk
              rw [if_neg (by omega)] at hk
              rcases c11.2 with g1 | g1 <;> omega
            · rw [if_neg c11]
              show wp _ _ _ _ _ [.int (iI 0)] _ _
              refine wp_g (n := 1) (pc' := 172) (L' := [some (.ref 10), some (.int (iI (c0 : Int))), some (.int (iI (c : Int))), some (.int (iI 0)), some (.int (iI (i : Int))), some (.int (iI ((c : Int) / 4))), some (.int (iI ((c : Int) % 4))), some (.int (iI (exe R C c false))), some (.int (iI ((c : Int) % 4)))]) (st' := []) rfl ?_
              refine wp_g (n := 2) (pc' := 175) (L' := [some (.ref 10), some (.int (iI (c0 : Int))), some (.int (iI (c : Int))), some (.int (iI 0)), some (.int (iI (i : Int))), some (.int (iI ((c : Int) / 4))), some (.int (iI ((c : Int) % 4))), some (.int (iI (exe R C c false))), some (.int (iI ((c : Int) % 4)))]) (st' := [.int (iI ((c : Int) / 4)), .int (iI 4)]) rfl ?_
              refine wp_mul rfl ?_
              refine wp_g (n := 1) (pc' := 177) (L' := [some (.ref 10), some (.int (iI (c0 : Int))), some (.int (iI (c : Int))), some (.int (iI 0)), some (.int (iI (i : Int))), some (.int (iI ((c : Int) / 4))), some (.int (iI ((c : Int) % 4))), some (.int (iI (exe R C c false))), some (.int (iI ((c : Int) % 4)))]) (st' := [.int (iI 0), .int (iI (4 * ((c : Int) / 4)))]) rfl ?_
              refine wp_g (n := 1) (pc' := 185) (L' := [some (.ref 10), some (.int (iI (c0 : Int))), some (.int (iI (c : Int))), some (.int (iI 0)), some (.int (iI (i : Int))), some (.int (iI ((c : Int) / 4))), some (.int (iI ((c : Int) % 4))), some (.int (iI (exe R C c false))), some (.int (iI ((c : Int) % 4)))]) (st' := [.int (iI (4 * ((c : Int) / 4)))]) rfl ?_
              refine wp_g (n := 2) (pc' := 188) (L' := [some (.ref 10), some (.int (iI (c0 : Int))), some (.int (iI (c : Int))), some (.int (iI 0)), some (.int (iI (i : Int))), some (.int (iI ((c : Int) / 4))), some (.int (iI ((c : Int) % 4))), some (.int (iI (exe R C c false))), some (.int (iI ((c : Int) % 4)))]) (st' := [.int (iI 3), .int (iI ((c : Int) % 4)), .int (iI (4 * ((c : Int) / 4)))]) rfl ?_
              refine wp_add rfl ?_
              refine wp_g (n := 1) (pc' := 190) (L' := [some (.ref 10), some (.int (iI (c0 : Int))), some (.int (iI (c : Int))), some (.int (iI 0)), some (.int (iI (i : Int))), some (.int (iI ((c : Int) / 4))), some (.int (iI ((c : Int) % 4))), some (.int (iI (exe R C c false))), some (.int (iI ((c : Int) % 4)))]) (st' := [.int (iI 3), .int (iI (((c : Int) % 4) + 3)), .int (iI (4 * ((c : Int) / 4)))]) rfl ?_
              refine wp_and3 rfl (by omega) (by omega) ?_
              refine wp_add rfl ?_
              refine wp_g (n := 1) (pc' := 193) (L' := [some (.ref 10), some (.int (iI (c0 : Int))), some (.int (iI ((4 * ((c : Int) / 4)) + ((((c : Int) % 4) + 3) % 4)))), some (.int (iI 0)), some (.int (iI (i : Int))), some (.int (iI ((c : Int) / 4))), some (.int (iI ((c : Int) % 4))), some (.int (iI (exe R C c false))), some (.int (iI ((c : Int) % 4)))]) (st' := []) rfl ?_
              have hnx : ((4 * ((c : Int) / 4)) + ((((c : Int) % 4) + 3) % 4)) = ((nx (R, C, kd) (c, false)).1 : Int) := by
                rw [nx_wall hk]
                simp only [if_true, if_false, Bool.false_eq_true]
                omega
              rw [hnx]
              exact hfin _ _ _ _ _ _ _ S hT1 hs2 hf2 (by rw [nx_wall hk]; rfl)
          · have c9 : (¬ ((kd (((exe R C c false)).toNat)) : Int) = 2) := c9
            refine wp_g (n := 1) (pc' := 109) (L' := [some (.ref 10), some (.int (iI (c0 : Int))), some (.int (iI (c : Int))), some (.int (iI 0)), some (.int (iI (i : Int))), some (.int (iI ((c : Int) / 4))), some (.int (iI ((c : Int) % 4))), some (.int (iI (exe R C c false))), some (.int (iI ((c : Int) % 4)))]) (st' := [.ref 10]) rfl ?_
            refine wp_getf (v := .ref 11) rfl rfl (S.cell 10 (nc rfl)) (by decide) rfl ?_
            refine wp_g (n := 2) (pc' := 116) (L' := [some (.ref 10), some (.int (iI (c0 : Int))), some (.int (iI (c : Int))), some (.int (iI 0)), some (.int (iI (i : Int))), some (.int (iI ((c : Int) / 4))), some (.int (iI ((c : Int) % 4))), some (.int (iI (exe R C c false))), some (.int (iI ((c : Int) % 4)))]) (st' := [.int (iI ((c : Int) % 4)), .int (iI ((c : Int) / 4)), .ref 11]) rfl ?_
            refine wp_cv (As := [.int (iI ((c : Int) / 4)), .int (iI ((c : Int) % 4))]) (rest := []) rfl rfl (S.gq hγ (gi rfl)).obj (by decide) rfl rfl rfl (Nat.le_of_ble_eq_true rfl) (Nat.le_of_ble_eq_true rfl) (G_cellBeyond (S.gq hγ (gi rfl)) ((c : Int) / 4) ((c : Int) % 4) (by omega) (by omega) (by omega) (by omega)) (fun r12 H12 q12 => ?_)
            obtain ⟨rfl, e12⟩ := q12
            rw [e12]
            show wp _ _ _ _ _ [.int (iI (gBy C ((c : Int) / 4) ((c : Int) % 4)))] _ _
            refine wp_g (n := 3) (pc' := 124) (L' := [some (.ref 10), some (.int (iI (c0 : Int))), some (.int (iI (c : Int))), some (.int (iI 0)), some (.int (iI (i : Int))), some (.int (iI (gBy C ((c : Int) / 4) ((c : Int) % 4)))), some (.int (iI ((c : Int) % 4))), some (.int (iI (exe R C c false))), some (.int (iI ((c : Int) % 4)))]) (st' := [.int (iI 2), .int (iI ((c : Int) % 4))]) rfl ?_
            refine wp_xor2 rfl (by omega) (by omega) ?_
            refine wp_g (n := 2) (pc' := 128) (L' := [some (.ref 10), some (.int (iI (c0 : Int))), some (.int (iI (c : Int))), some (.int (iI 0)), some (.int (iI (i : Int))), some (.int (iI (gBy C ((c : Int) / 4) ((c : Int) % 4)))), some (.int (iI ((c : Int) % 4))), some (.int (iI (exe R C c false))), some (.int (iI ((((c : Int) % 4) + 2) % 4)))]) (st' := [.ref 10]) rfl ?_
            refine wp_getf (v := .ref 11) rfl rfl (S.cell 10 (nc rfl)) (by decide) rfl ?_
            refine wp_g (n := 1) (pc' := 133) (L' := [some (.ref 10), some (.int (iI (c0 : Int))), some (.int (iI (c : Int))), some (.int (iI 0)), some (.int (iI (i : Int))), some (.int (iI (gBy C ((c : Int) / 4) ((c : Int) % 4)))), some (.int (iI ((c : Int) % 4))), some (.int (iI (exe R C c false))), some (.int (iI ((((c : Int) % 4) + 2) % 4)))]) (st' := [.int (iI (exe R C c false)), .ref 11]) rfl ?_
            refine wp_cv (As := [.int (iI (exe R C c false))]) (rest := []) rfl rfl (S.gq hγ (gi rfl)).obj (by decide) rfl rfl rfl (Nat.le_of_ble_eq_true rfl) (Nat.le_of_ble_eq_true rfl) (G_isCross (S.gq hγ (gi rfl)) (exe R C c false) (by omega) (by omega)) (fun r13 H13 q13 => ?_)
            obtain ⟨rfl, e13⟩ := q13
            rw [e13]
            by_cases c14 : (0 ≤ ((exe R C c false) : Int) ∧ (exe R C c false) < (gn R C : Int)) ∧ (kd ((exe R C c false)).toNat = 0 ∨ kd ((exe R C c false)).toNat = 1)
            · rw [if_pos c14]
              show wp _ _ _ _ _ [.int (iI 1)] _ _
              have hk : exk (R, C, kd) (c, false) = 0 ∨ exk (R, C, kd) (c, false) = 1 := by unfold exk; rw [if_neg hne1]; exact c14.2
              have hisC : isC (R, C, kd) (c, false) = true := by unfold isC; exact decide_eq_true hk
              have hT1 : TM (R, C, kd) m0 (passM (noteM m s i c n false) s (pE (R, C, kd) (c, false)) np (dX c false) (dY c false) (pO (R, C, kd) (c, false))) (inn (R, C, kd) (stt A) c0 (i + 1)) := by rw [hin, ← hne, ← hnp]; exact TM_pass hT hsl hisC
              have hs2 : passM (noteM m s i c n false) s (pE (R, C, kd) (c, false)) np (dX c false) (dY c false) (pO (R, C, kd) (c, false)) 10 1 = (s : Int) := hs1
              have hf2 := passM_fr (noteM_fr hfr (s := s) (i := i) (c := c) (n := n) (b := false)) (s := s) (e := pE (R, C, kd) (c, false)) (j := np) (x := dX c false) (y := dY c false) (o := pO (R, C, kd) (c, false))
              refine wp_g (n := 1) (pc' := 139) (L' := [some (.ref 10), some (.int (iI (c0 : Int))), some (.int (iI (c : Int))), some (.int (iI 0)), some (.int (iI (i : Int))), some (.int (iI (gBy C ((c : Int) / 4) ((c : Int) % 4)))), some (.int (iI ((c : Int) % 4))), some (.int (iI (exe R C c false))), some (.int (iI ((((c : Int) % 4) + 2) % 4)))]) (st' := []) rfl ?_
              refine wp_g (n := 3) (pc' := 143) (L' := [some (.ref 10), some (.int (iI (c0 : Int))), some (.int (iI (c : Int))), some (.int (iI 0)), some (.int (iI (i : Int))), some (.int (iI (gBy C ((c : Int) / 4) ((c : Int) % 4)))), some (.int (iI ((c : Int) % 4))), some (.int (iI (exe R C c false))), some (.int (iI ((((c : Int) % 4) + 2) % 4)))]) (st' := [.int (iI 0), .int (iI (exe R C c false)), .ref 10]) rfl ?_
              refine wp_g (n := 1) (pc' := 152) (L' := [some (.ref 10), some (.int (iI (c0 : Int))), some (.int (iI (c : Int))), some (.int (iI 0)), some (.int (iI (i : Int))), some (.int (iI (gBy C ((c : Int) / 4) ((c : Int) % 4)))), some (.int (iI ((c : Int) % 4))), some (.int (iI (exe R C c false))), some (.int (iI ((((c : Int) % 4) + 2) % 4)))]) (st' := [.int (iI (exe R C c false)), .ref 10]) rfl ?_
              refine wp_g (n := 2) (pc' := 154) (L' := [some (.ref 10), some (.int (iI (c0 : Int))), some (.int (iI (c : Int))), some (.int (iI 0)), some (.int (iI (i : Int))), some (.int (iI (gBy C ((c : Int) / 4) ((c : Int) % 4)))), some (.int (iI ((c : Int) % 4))), some (.int (iI (exe R C c false))), some (.int (iI ((((c : Int) % 4) + 2) % 4)))]) (st' := [.int (iI 1), .int (iI (c : Int)), .int (iI (exe R C c false)), .ref 10]) rfl ?_
              refine wp_add rfl ?_
              refine wp_g (n := 1) (pc' := 156) (L' := [some (.ref 10), some (.int (iI (c0 : Int))), some (.int (iI (c : Int))), some (.int (iI 0)), some (.int (iI (i : Int))), some (.int (iI (gBy C ((c : Int) / 4) ((c : Int) % 4)))), some (.int (iI ((c : Int) % 4))), some (.int (iI (exe R C c false))), some (.int (iI ((((c : Int) % 4) + 2) % 4)))]) (st' := [.int (iI 3), .int (iI ((c : Int) + 1)), .int (iI (exe R C c false)), .ref 10]) rfl ?_
              refine wp_and3 rfl (by omega) (by omega) ?_
              refine wp_g (n := 1) (pc' := 159) (L' := [some (.ref 10), some (.int (iI (c0 : Int))), some (.int (iI (c : Int))), some (.int (iI 0)), some (.int (iI (i : Int))), some (.int (iI (gBy C ((c : Int) / 4) ((c : Int) % 4)))), some (.int (iI ((c : Int) % 4))), some (.int (iI (exe R C c false))), some (.int (iI ((((c : Int) % 4) + 2) % 4)))]) (st' := [.int (iI ((c : Int) % 4)), .int (iI (((c : Int) + 1) % 4)), .int (iI (exe R C c false)), .ref 10]) rfl ?_
              refine wp_cv (As := [.int (iI (exe R C c false)), .int (iI (((c : Int) + 1) % 4)), .int (iI ((c : Int) % 4))]) (rest := []) rfl rfl (S.cell 10 (nc rfl)) (by decide) rfl rfl rfl (Nat.le_of_ble_eq_true rfl) (Nat.le_of_ble_eq_true rfl) (c_passX S hγ (c := c) (b := false) (exe R C c false) (((c : Int) + 1) % 4) ((c : Int) % 4) rfl (by show _ = (exs c true : Int); omega) (by omega) (noteM_10.1.trans hs1) (noteM_10.2.trans hp1) hisC (by omega) (by have := hrm hisC; omega) (by omega)) (fun r15 H15 q15 => ?_)
              obtain ⟨rfl, S⟩ := q15
              have S : ST H15 (passM (noteM m s i c n false) s (pE (R, C, kd) (c, false)) np (dX c false) (dY c false) (pO (R, C, kd) (c, false))) γ t := S
              show wp _ _ _ _ _ [] _ _
              refine wp_g (n := 1) (pc' := 163) (L' := [some (.ref 10), some (.int (iI (c0 : Int))), some (.int (iI (c : Int))), some (.int (iI 0)), some (.int (iI (i : Int))), some (.int (iI (gBy C ((c : Int) / 4) ((c : Int) % 4)))), some (.int (iI ((c : Int) % 4))), some (.int (iI (exe R C c false))), some (.int (iI ((((c : Int) % 4) + 2) % 4)))]) (st' := [.int (iI 0)]) rfl ?_
              refine wp_g (n := 1) (pc' := 166) (L' := [some (.ref 10), some (.int (iI (c0 : Int))), some (.int (iI (c : Int))), some (.int (iI 0)), some (.int (iI (i : Int))), some (.int (iI (gBy C ((c : Int) / 4) ((c : Int) % 4)))), some (.int (iI ((c : Int) % 4))), some (.int (iI (exe R C c false))), some (.int (iI ((((c : Int) % 4) + 2) % 4)))]) (st' := []) rfl ?_
              refine wp_g (n := 5) (pc' := 175) (L' := [some (.ref 10), some (.int (iI (c0 : Int))), some (.int (iI (c : Int))), some (.int (iI 1)), some (.int (iI (i : Int))), some (.int (iI (gBy C ((c : Int) / 4) ((c : Int) % 4)))), some (.int (iI ((c : Int) % 4))), some (.int (iI (exe R C c false))), some (.int (iI ((((c : Int) % 4) + 2) % 4)))]) (st' := [.int (iI (gBy C ((c : Int) / 4) ((c : Int) % 4))), .int (iI 4)]) rfl ?_
              refine wp_mul rfl ?_
              refine wp_g (n := 1) (pc' := 177) (L' := [some (.ref 10), some (.int (iI (c0 : Int))), some (.int (iI (c : Int))), some (.int (iI 1)), some (.int (iI (i : Int))), some (.int (iI (gBy C ((c : Int) / 4) ((c : Int) % 4)))), some (.int (iI ((c : Int) % 4))), some (.int (iI (exe R C c false))), some (.int (iI ((((c : Int) % 4) + 2) % 4)))]) (st' := [.int (iI 1), .int (iI (4 * (gBy C ((c : Int) / 4) ((c : Int) % 4))))]) rfl ?_
              refine wp_g (n := 1) (pc' := 180) (L' := [some (.ref 10), some (.int (iI (c0 : Int))), some (.int (iI (c : Int))), some (.int (iI 1)), some (.int (iI (i : Int))), some (.int (iI (gBy C ((c : Int) / 4) ((c : Int) % 4)))), some (.int (iI ((c : Int) % 4))), some (.int (iI (exe R C c false))), some (.int (iI ((((c : Int) % 4) + 2) % 4)))]) (st' := [.int (iI (4 * (gBy C ((c : Int) / 4) ((c : Int) % 4))))]) rfl ?_
              refine wp_g (n := 2) (pc' := 191) (L' := [some (.ref 10), some (.int (iI (c0 : Int))), some (.int (iI (c : Int))), some (.int (iI 1)), some (.int (iI (i : Int))), some (.int (iI (gBy C ((c : Int) / 4) ((c : Int) % 4)))), some (.int (iI ((c : Int) % 4))), some (.int (iI (exe R C c false))), some (.int (iI ((((c : Int) % 4) + 2) % 4)))]) (st' := [.int (iI ((((c : Int) % 4) + 2) % 4)), .int (iI (4 * (gBy C ((c : Int) / 4) ((c : Int) % 4))))]) rfl ?_
              refine wp_add rfl ?_
              refine wp_g (n := 1) (pc' := 193) (L' := [some (.ref 10), some (.int (iI (c0 : Int))), some (.int (iI ((4 * (gBy C ((c : Int) / 4) ((c : Int) % 4))) + ((((c : Int) % 4) + 2) % 4)))), some (.int (iI 1)), some (.int (iI (i : Int))), some (.int (iI (gBy C ((c : Int) / 4) ((c : Int) % 4)))), some (.int (iI ((c : Int) % 4))), some (.int (iI (exe R C c false))), some (.int (iI ((((c : Int) % 4) + 2) % 4)))]) (st' := []) rfl ?_
              have hnx : ((4 * (gBy C ((c : Int) / 4) ((c : Int) % 4))) + ((((c : Int) % 4) + 2) % 4)) = ((nx (R, C, kd) (c, false)).1 : Int) := by
                rw [nx_cross hk]
                have hby := gBy_eq (R := R) (C := C) (c := c / 4) (exs_lt c false) hne1
                rw [show ((c : Int) / 4) = ((c / 4 : Nat) : Int) by omega] at *
                rw [exsF] at *
                rw [hby]
                simp only [if_true, if_false, Bool.false_eq_true]
                omega
              rw [hnx]
              exact hfin _ _ _ _ _ _ _ S hT1 hs2 hf2 (by rw [nx_cross hk]; rfl)
            · rw [if_neg c14]
              show wp _ _ _ _ _ [.int (iI 0)] _ _
              have hk : exk (R, C, kd) (c, false) = 3 := by
                unfold exk
                rw [if_neg hne1]
                simp only
                have hk3 := hG.2 (exe R C c false).toNat (by show _ < gn R C; omega)
                simp only at hk3
                have := c14
                have g1 : ¬ (kd (exe R C c false).toNat = 0 ∨ kd (exe R C c false).toNat = 1) := fun z => this ⟨by omega, z⟩
                omega
              have hisC : isC (R, C, kd) (c, false) = false := by unfold isC; rw [hk]; rfl
              have hT1 : TM (R, C, kd) m0 (noteM m s i c n false) (inn (R, C, kd) (stt A) c0 (i + 1)) := by rw [hin, ← hne]; exact TM_note hT hsl hisC
              have hs2 := (noteM_10 (m := m) (s := s) (i := i) (c := c) (n := n) (b := false)).1.trans hs1
              have hf2 := noteM_fr hfr (s := s) (i := i) (c := c) (n := n) (b := false)
              refine wp_g (n := 1) (pc' := 172) (L' := [some (.ref 10), some (.int (iI (c0 : Int))), some (.int (iI (c : Int))), some (.int (iI 0)), some (.int (iI (i : Int))), some (.int (iI (gBy C ((c : Int) / 4) ((c : Int) % 4)))), some (.int (iI ((c : Int) % 4))), some (.int (iI (exe R C c false))), some (.int (iI ((((c : Int) % 4) + 2) % 4)))]) (st' := []) rfl ?_
              refine wp_g (n := 2) (pc' := 175) (L' := [some (.ref 10), some (.int (iI (c0 : Int))), some (.int (iI (c : Int))), some (.int (iI 0)), some (.int (iI (i : Int))), some (.int (iI (gBy C ((c : Int) / 4) ((c : Int) % 4)))), some (.int (iI ((c : Int) % 4))), some (.int (iI (exe R C c false))), some (.int (iI ((((c : Int) % 4) + 2) % 4)))]) (st' := [.int (iI (gBy C ((c : Int) / 4) ((c : Int) % 4))), .int (iI 4)]) rfl ?_
              refine wp_mul rfl ?_
              refine wp_g (n := 1) (pc' := 177) (L' := [some (.ref 10), some (.int (iI (c0 : Int))), some (.int (iI (c : Int))), some (.int (iI 0)), some (.int (iI (i : Int))), some (.int (iI (gBy C ((c : Int) / 4) ((c : Int) % 4)))), some (.int (iI ((c : Int) % 4))), some (.int (iI (exe R C c false))), some (.int (iI ((((c : Int) % 4) + 2) % 4)))]) (st' := [.int (iI 0), .int (iI (4 * (gBy C ((c : Int) / 4) ((c : Int) % 4))))]) rfl ?_
              refine wp_g (n := 1) (pc' := 185) (L' := [some (.ref 10), some (.int (iI (c0 : Int))), some (.int (iI (c : Int))), some (.int (iI 0)), some (.int (iI (i : Int))), some (.int (iI (gBy C ((c : Int) / 4) ((c : Int) % 4)))), some (.int (iI ((c : Int) % 4))), some (.int (iI (exe R C c false))), some (.int (iI ((((c : Int) % 4) + 2) % 4)))]) (st' := [.int (iI (4 * (gBy C ((c : Int) / 4) ((c : Int) % 4))))]) rfl ?_
              refine wp_g (n := 2) (pc' := 188) (L' := [some (.ref 10), some (.int (iI (c0 : Int))), some (.int (iI (c : Int))), some (.int (iI 0)), some (.int (iI (i : Int))), some (.int (iI (gBy C ((c : Int) / 4) ((c : Int) % 4)))), some (.int (iI ((c : Int) % 4))), some (.int (iI (exe R C c false))), some (.int (iI ((((c : Int) % 4) + 2) % 4)))]) (st' := [.int (iI 3), .int (iI ((((c : Int) % 4) + 2) % 4)), .int (iI (4 * (gBy C ((c : Int) / 4) ((c : Int) % 4))))]) rfl ?_
              refine wp_add rfl ?_
              refine wp_g (n := 1) (pc' := 190) (L' := [some (.ref 10), some (.int (iI (c0 : Int))), some (.int (iI (c : Int))), some (.int (iI 0)), some (.int (iI (i : Int))), some (.int (iI (gBy C ((c : Int) / 4) ((c : Int) % 4)))), some (.int (iI ((c : Int) % 4))), some (.int (iI (exe R C c false))), some (.int (iI ((((c : Int) % 4) + 2) % 4)))]) (st' := [.int (iI 3), .int (iI (((((c : Int) % 4) + 2) % 4) + 3)), .int (iI (4 * (gBy C ((c : Int) / 4) ((c : Int) % 4))))]) rfl ?_
              refine wp_and3 rfl (by omega) (by omega) ?_
              refine wp_add rfl ?_
              refine wp_g (n := 1) (pc' := 193) (L' := [some (.ref 10), some (.int (iI (c0 : Int))), some (.int (iI ((4 * (gBy C ((c : Int) / 4) ((c : Int) % 4))) + ((((((c : Int) % 4) + 2) % 4) + 3) % 4)))), some (.int (iI 0)), some (.int (iI (i : Int))), some (.int (iI (gBy C ((c : Int) / 4) ((c : Int) % 4)))), some (.int (iI ((c : Int) % 4))), some (.int (iI (exe R C c false))), some (.int (iI ((((c : Int) % 4) + 2) % 4)))]) (st' := []) rfl ?_
              have hnx : ((4 * (gBy C ((c : Int) / 4) ((c : Int) % 4))) + ((((((c : Int) % 4) + 2) % 4) + 3) % 4)) = ((nx (R, C, kd) (c, false)).1 : Int) := by
                rw [nx_gap hk]
                have hby := gBy_eq (R := R) (C := C) (c := c / 4) (exs_lt c false) hne1
                rw [show ((c : Int) / 4) = ((c / 4 : Nat) : Int) by omega] at *
                rw [exsF] at *
                rw [hby]
                simp only [if_true, if_false, Bool.false_eq_true]
                omega
              rw [hnx]
              exact hfin _ _ _ _ _ _ _ S hT1 hs2 hf2 (by rw [nx_gap hk]; rfl)
  termination_by mm => mm

end X7B
