/-! ===== ways, cross by cross ===== -/
theorem xrk_mono {G : GV} {e e' : Nat} (h : e ≤ e') : xrk G e ≤ xrk G e' := by
  induction e' with
  | zero => rw [show e = 0 by omega]; exact Nat.le_refl _
  | succ n ih =>
    rcases Nat.lt_or_ge n e with c | c
    · rw [show e = n + 1 by omega]; exact Nat.le_refl _
    · have := ih c
      rw [xrk_succ]
      omega
theorem xrk_cr {G : GV} {e e' : Nat} (h : crX G e) (he : e < e') : xrk G e < xrk G e' := by
  have h1 : xrk G (e + 1) = xrk G e + 1 := by rw [xrk_succ, if_pos (show G.2.2 e = 0 ∨ G.2.2 e = 1 from h)]
  have := xrk_mono (G := G) (show e + 1 ≤ e' by omega)
  omega
theorem xrk_inj {G : GV} {e e' : Nat} (h : crX G e) (h' : crX G e') (he : xrk G e = xrk G e') : e = e' := by
  rcases Nat.lt_trichotomy e e' with c | c | c
  · have := xrk_cr h c; omega
  · exact c
  · have := xrk_cr h' c; omega
theorem xrk_end {G : GV} : (xrk G (gn G.1 G.2.1) : Int) = nX G := by
  have h1 := cnt_rng G.2.2 0 (gn G.1 G.2.1)
  have h2 := cnt_rng G.2.2 1 (gn G.1 G.2.1)
  unfold xrk nX
  omega
theorem xrk_lt {G : GV} {e : Nat} (h : crX G e) (he : e < gn G.1 G.2.1) : xrk G e < (nX G).toNat := by
  have := xrk_cr h he
  have := xrk_end (G := G)
  omega
/-- as many ways as begin so -/
def xte (G : GV) (n i s0 r l : Nat) : Int := sumN (fun set => if set % 2 ^ i = s0 ∧ rai G set = (r : Int) ∧ lps G set = l then 1 else 0) (2 ^ n)
theorem xte_0 (G : GV) (r l : Nat) : xte G (nX G).toNat 0 0 r l = tal G r l := by
  refine sumN_congr (fun set _ => ?_)
  by_cases c : rai G set = (r : Int) ∧ lps G set = l
  · rw [if_pos c, if_pos ⟨Nat.mod_one _, c⟩]
  · rw [if_neg c, if_neg (fun z => c z.2)]
theorem xte_pos (G : GV) (n i s0 r l : Nat) : 0 ≤ xte G n i s0 r l := by
  have := (sumN_rg (f := fun set => if set % 2 ^ i = s0 ∧ rai G set = (r : Int) ∧ lps G set = l then 1 else 0) (lo := 0) (hi := 1) (fun e => by split <;> omega) (2 ^ n)).1
  unfold xte
  omega
theorem mod_half (x i s0 : Nat) (h : s0 < 2 ^ i) : x % 2 ^ i = s0 ↔ x % 2 ^ (i + 1) = s0 ∨ x % 2 ^ (i + 1) = s0 + 2 ^ i := by
  have e : 2 ^ (i + 1) = 2 ^ i * 2 := Nat.pow_succ 2 i
  have h1 : x % 2 ^ (i + 1) % 2 ^ i = x % 2 ^ i := Nat.mod_mod_of_dvd x ⟨2, e⟩
  have h2 := Nat.mod_lt x (show 2 ^ (i + 1) > 0 from Nat.two_pow_pos _)
  generalize x % 2 ^ (i + 1) = y at h1 h2 ⊢
  rw [← h1]
  rw [e] at h2
  rcases Nat.lt_or_ge y (2 ^ i) with c | c
  · rw [Nat.mod_eq_of_lt c]
    omega
  · have : y % 2 ^ i = y - 2 ^ i := by
      rw [Nat.mod_eq_sub_mod c, Nat.mod_eq_of_lt (by omega)]
    rw [this]
    omega
theorem xte_half (G : GV) (n i s0 r l : Nat) (h : s0 < 2 ^ i) : xte G n i s0 r l = xte G n (i + 1) s0 r l + xte G n (i + 1) (s0 + 2 ^ i) r l := by
  unfold xte
  rw [← sumN_add]
  refine sumN_congr (fun set _ => ?_)
  have hp := Nat.two_pow_pos i
  have hm := mod_half set i s0 h
  by_cases c : rai G set = (r : Int) ∧ lps G set = l
  · by_cases c1 : set % 2 ^ (i + 1) = s0
    · rw [if_pos ⟨hm.mpr (Or.inl c1), c⟩, if_pos ⟨c1, c⟩, if_neg (fun z => by omega)]
      rfl
    · by_cases c2 : set % 2 ^ (i + 1) = s0 + 2 ^ i
      · rw [if_pos ⟨hm.mpr (Or.inr c2), c⟩, if_neg (fun z => c1 z.1), if_pos ⟨c2, c⟩]
        rfl
      · rw [if_neg (fun z => (hm.mp z.1).elim c1 c2), if_neg (fun z => c1 z.1), if_neg (fun z => c2 z.1)]
        rfl
  · rw [if_neg (fun z => c z.2), if_neg (fun z => c z.2), if_neg (fun z => c z.2)]
    rfl
theorem xte_end (G : GV) (n s0 r l : Nat) (h : s0 < 2 ^ n) : xte G n n s0 r l = if rai G s0 = (r : Int) ∧ lps G s0 = l then 1 else 0 := by
  unfold xte
  rw [sumN_congr (g := fun set => if set = s0 then (if rai G s0 = (r : Int) ∧ lps G s0 = l then 1 else 0) else 0) (fun set hs => ?_), sumN_one (i := s0) (fun j hj => if_neg hj), if_pos h, if_pos rfl]
  rw [Nat.mod_eq_of_lt hs]
  by_cases c : set = s0
  · subst c
    rw [if_pos rfl]
    by_cases c2 : rai G set = (r : Int) ∧ lps G set = l
    · rw [if_pos c2, if_pos ⟨rfl, c2⟩]
    · rw [if_neg c2, if_neg (fun z => c2 z.2)]
  · rw [if_neg c, if_neg (fun z => c z.1)]
/-- raised by the first i crosses -/
def rq (G : GV) (i s0 : Nat) : Int := sumN (fun e => if xrk G e < i ∧ ((G.2.2 e = 0 ∧ s0.testBit (xrk G e) = true) ∨ (G.2.2 e = 1 ∧ s0.testBit (xrk G e) = false)) then 1 else 0) (gn G.1 G.2.1)
theorem rq_0 (G : GV) (s0 : Nat) : rq G 0 s0 = 0 := by
  unfold rq
  rw [sumN_congr (g := fun _ => 0) (fun e _ => if_neg (fun z => Nat.not_lt_zero _ z.1)), sumN_zero]
theorem rq_end (G : GV) (s0 : Nat) : rq G (nX G).toNat s0 = rai G s0 := by
  refine sumN_congr (fun e he => ?_)
  by_cases c : (G.2.2 e = 0 ∧ s0.testBit (xrk G e) = true) ∨ (G.2.2 e = 1 ∧ s0.testBit (xrk G e) = false)
  · have hx : crX G e := by
      rcases c with c | c
      · exact Or.inl c.1
      · exact Or.inr c.1
    rw [if_pos c, if_pos ⟨xrk_lt hx he, c⟩]
  · rw [if_neg c, if_neg (fun z => c z.2)]
theorem tb_lt {s0 i : Nat} (h : s0 < 2 ^ i) : s0.testBit i = false := Nat.testBit_lt_two_pow h
theorem tb_add {s0 i : Nat} (h : s0 < 2 ^ i) : (s0 + 2 ^ i).testBit i = true ∧ ∀ j, j < i → (s0 + 2 ^ i).testBit j = s0.testBit j := by
  refine ⟨?_, fun j hj => ?_⟩
  · rw [Nat.add_comm, Nat.testBit_two_pow_add_eq, tb_lt h]
    rfl
  · rw [Nat.add_comm, Nat.testBit_two_pow_add_gt hj]
theorem rq_step {G : GV} {i s0 s1 e : Nat} (hx : crX G e) (he : e < gn G.1 G.2.1) (hi : xrk G e = i) (hs : ∀ j, j < i → s1.testBit j = s0.testBit j) : rq G (i + 1) s1 = rq G i s0 + (if (G.2.2 e = 0 ∧ s1.testBit i = true) ∨ (G.2.2 e = 1 ∧ s1.testBit i = false) then 1 else 0) := by
  have e1 : rq G (i + 1) s1 = sumN (fun e' => (if xrk G e' < i ∧ ((G.2.2 e' = 0 ∧ s0.testBit (xrk G e') = true) ∨ (G.2.2 e' = 1 ∧ s0.testBit (xrk G e') = false)) then 1 else 0) + (if e' = e then (if (G.2.2 e = 0 ∧ s1.testBit i = true) ∨ (G.2.2 e = 1 ∧ s1.testBit i = false) then 1 else 0) else 0)) (gn G.1 G.2.1) := by
    refine sumN_congr (fun e' he' => ?_)
    by_cases c : e' = e
    · subst c
      rw [if_pos rfl, hi, if_neg (show ¬ (i < i ∧ _) from fun z => Nat.lt_irrefl _ z.1)]
      by_cases c2 : (G.2.2 e' = 0 ∧ s1.testBit i = true) ∨ (G.2.2 e' = 1 ∧ s1.testBit i = false)
      · rw [if_pos c2, if_pos ⟨by omega, c2⟩]
        rfl
      · rw [if_neg c2, if_neg (fun z => c2 z.2)]
        rfl
    · rw [if_neg c, Int.add_zero]
      by_cases c1 : xrk G e' < i
      · rw [hs _ c1]
        by_cases c2 : (G.2.2 e' = 0 ∧ s0.testBit (xrk G e') = true) ∨ (G.2.2 e' = 1 ∧ s0.testBit (xrk G e') = false)
        · rw [if_pos ⟨by omega, c2⟩, if_pos ⟨c1, c2⟩]
        · rw [if_neg (fun z => c2 z.2), if_neg (fun z => c2 z.2)]
      · rw [if_neg (show ¬ (xrk G e' < i ∧ _) from fun z => c1 z.1)]
        refine if_neg (fun z => ?_)
        have hx' : crX G e' := by
          rcases z.2 with w | w
          · exact Or.inl w.1
          · exact Or.inr w.1
        exact c (xrk_inj hx' hx (by omega))
  rw [e1, sumN_add, sumN_one (f := fun e' => if e' = e then _ else 0) (i := e) (fun j hj => if_neg hj), if_pos he, if_pos rfl]
  rfl
/-- the joins when the first i crosses are settled as s0 says -/
def LV (G : GV) (i s0 : Nat) (P : List (Nat × Nat)) (s : JT) : Prop := JS (nC G) (opD G.1 G.2.1 (fun e => e < gn G.1 G.2.1 ∧ crX G e ∧ i ≤ xrk G e)) P s ∧ ∀ set, set % 2 ^ i = s0 → ∀ p ∈ P, p.1 < 2 * nC G ∧ p.2 = gl (smo G set) p.1
theorem LV.leaf {G : GV} (hG : vG G) {s0 : Nat} {P : List (Nat × Nat)} {s : JT} (h : LV G (nX G).toNat s0 P s) (hs : s0 < 2 ^ (nX G).toNat) : s.2.2 = (lps G s0 : Int) := by
  refine JS.nSt (G := smo G s0) (vG_smo hG) h.1 (fun x hx => ?_) (h.2 s0 (Nat.mod_eq_of_lt hs))
  obtain ⟨-, e, -, e1, e2, e3⟩ := hx
  have := xrk_lt e2 e1
  omega
theorem LV.step {G : GV} (hG : vG G) {i s0 s1 e : Nat} {P : List (Nat × Nat)} {s : JT} (h : LV G i s0 P s) (hx : crX G e) (he : e < gn G.1 G.2.1) (hi : xrk G e = i) (h1 : s0 < 2 ^ i) (hs : s1 = s0 ∨ s1 = s0 + 2 ^ i) : LV G (i + 1) s1 ((prs G.1 G.2.1 e (if s1.testBit i then 3 else 2)).2 :: (prs G.1 G.2.1 e (if s1.testBit i then 3 else 2)).1 :: P) (jst (jst s (prs G.1 G.2.1 e (if s1.testBit i then 3 else 2)).1) (prs G.1 G.2.1 e (if s1.testBit i then 3 else 2)).2) := by
  obtain ⟨hS, hP⟩ := h
  refine ⟨(hS.edge hG.1 he (show e < gn G.1 G.2.1 ∧ crX G e ∧ i ≤ xrk G e from ⟨he, hx, by omega⟩) _).congr (fun x => ⟨fun w => ?_, fun w => ?_⟩), fun set hset p hp => ?_⟩
  · obtain ⟨w1, e', w2, w3, w4, w5⟩ := w
    exact ⟨w1, e', w2, ⟨w3, w4, by omega⟩, fun q => by subst q; omega⟩
  · obtain ⟨w1, e', w2, ⟨w3, w4, w5⟩, w6⟩ := w
    refine ⟨w1, e', w2, w3, w4, ?_⟩
    have : xrk G e' ≠ i := fun q => w6 (xrk_inj w4 hx (by omega))
    omega
  · have hb : set.testBit i = s1.testBit i := by
      rw [← hset, Nat.testBit_mod_two_pow]
      simp
    have hk : (smo G set).2.2 e = if s1.testBit i then 3 else 2 := by
      show (if e < gn G.1 G.2.1 ∧ (G.2.2 e = 0 ∨ G.2.2 e = 1) then (if set.testBit (xrk G e) then (3 : Int) else 2) else G.2.2 e) = _
      rw [if_pos ⟨he, hx⟩, hi, hb]
    have hq := prs_gl (G := smo G set) (vG_smo hG) (e := e) he
    rw [hk] at hq
    rcases List.mem_cons.mp hp with c | c
    · exact hq p (Or.inr c)
    · rcases List.mem_cons.mp c with c | c
      · exact hq p (Or.inl c)
      · exact hP set ((mod_half set i s0 h1).mpr (by rw [hset]; exact hs)) p c
