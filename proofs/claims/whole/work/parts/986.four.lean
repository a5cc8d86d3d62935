/-! ===== without crosses, a strand has four corners or more ===== -/
def s4_1 (R C : Nat) (x0 : Nat × Bool) (n : Nat) (x : Nat × Bool) : Bool := match n with
  | 0 => true
  | n + 1 => [(2 : Int), 3].all (fun z => (decide (exe R C x.1 x.2 = -1) && decide (z = 3)) || (!decide (nxk R C z x.1 x.2 = x0) && s4_1 R C x0 n (nxk R C z x.1 x.2)))
theorem s4_D : ∀ R, R ≤ 4 → ∀ C, C ≤ 4 → ∀ c, c < 4 * (R * C) → s4_1 R C (c, true) 3 (c, true) = true := by decide +kernel
def nCr (G : GV) : Prop := ∀ e, e < gn G.1 G.2.1 → G.2.2 e = 2 ∨ G.2.2 e = 3
theorem s4_step {G : GV} (hG : vG G) (hn : nCr G) {x0 x : Nat × Bool} (hx : x.1 < nC G) {n : Nat} (h : s4_1 G.1 G.2.1 x0 (n + 1) x = true) : nx G x ≠ x0 ∧ s4_1 G.1 G.2.1 x0 n (nx G x) = true := by
  have hr := exe_rng hG hx
  have hz : exk G x = 2 ∨ (exk G x = 3 ∧ exe G.1 G.2.1 x.1 x.2 ≠ -1) := by
    unfold exk
    by_cases c : exe G.1 G.2.1 x.1 x.2 = -1
    · rw [if_pos c]
      exact Or.inl rfl
    · rw [if_neg c]
      rcases hn (exe G.1 G.2.1 x.1 x.2).toNat (by omega) with q | q
      · exact Or.inl q
      · exact Or.inr ⟨q, c⟩
  unfold s4_1 at h
  rw [List.all_eq_true] at h
  have h2 := h (exk G x) (by rcases hz with q | q; rw [q]; simp; rw [q.1]; simp)
  rw [Bool.or_eq_true, Bool.and_eq_true, Bool.and_eq_true, decide_eq_true_eq, decide_eq_true_eq, Bool.not_eq_true', decide_eq_false_iff_not] at h2
  rcases h2 with h2 | h2
  · exfalso
    rcases hz with q | q
    · rw [q] at h2
      exact absurd h2.2 (by decide)
    · exact q.2 h2.1
  · exact h2
theorem len4 {G : GV} (hG : vG G) (hn : nCr G) {c : Nat} (hc : c < nC G) : 4 ≤ len G c := by
  obtain ⟨h1, h2, h3, -⟩ := len_ok hG hc
  have h0 := s4_D _ hG.1.le.1 _ hG.1.le.2 c hc
  have q1 := s4_step hG hn (x := (c, true)) hc h0
  have q2 := s4_step hG hn (nxi_lt hG (x := (c, true)) hc 1) q1.2
  have q3 := s4_step hG hn (nxi_lt hG (x := (c, true)) hc 2) q2.2
  have : len G c ≠ 1 := fun e => q1.1 (by rw [e] at h3; exact h3)
  have : len G c ≠ 2 := fun e => q2.1 (by rw [e] at h3; exact h3)
  have : len G c ≠ 3 := fun e => q3.1 (by rw [e] at h3; exact h3)
  omega
theorem bg4 {G : GV} (hG : vG G) (hn : nCr G) : ∀ s, s ≤ nS G → 4 * s ≤ bg G s
  | 0, _ => Nat.zero_le _
  | s + 1, hs => by
    have ih := bg4 hG hn s (by omega)
    obtain ⟨c0, h1, h2, -⟩ := str_cyc hG (show s < nS G by omega)
    have h4 := len4 hG hn h1
    have : ln G s = bg G (s + 1) - bg G s := rfl
    omega
theorem nS16 {G : GV} (hG : vG G) (hn : nCr G) : nS G ≤ 16 := by
  have h1 := bg4 hG hn (nS G) (Nat.le_refl _)
  rw [bg_last hG] at h1
  have := nC_le64 hG
  omega
theorem smo_nCr {G : GV} (hG : vG G) (set : Nat) : nCr (smo G set) := by
  intro e he
  have he : e < gn G.1 G.2.1 := he
  have := hG.2 e he
  show (if e < gn G.1 G.2.1 ∧ (G.2.2 e = 0 ∨ G.2.2 e = 1) then (if set.testBit (xrk G e) then (3 : Int) else 2) else G.2.2 e) = 2 ∨ (if e < gn G.1 G.2.1 ∧ (G.2.2 e = 0 ∨ G.2.2 e = 1) then (if set.testBit (xrk G e) then (3 : Int) else 2) else G.2.2 e) = 3
  by_cases c : G.2.2 e = 0 ∨ G.2.2 e = 1
  · rw [if_pos ⟨he, c⟩]
    split <;> simp
  · rw [if_neg (fun q => c q.2)]
    omega
theorem lps16 {G : GV} (hG : vG G) (set : Nat) : lps G set ≤ 16 := nS16 (vG_smo hG) (smo_nCr hG set)
theorem nS_pos {G : GV} (hG : vG G) (h0 : 0 < G.1) : 1 ≤ nS G := by
  rcases Nat.eq_zero_or_pos (nS G) with h | h
  · exfalso
    have h1 := bg_last hG
    rw [h, bg_0 hG] at h1
    have h2 := hG.1
    unfold gok at h2
    have : 0 < G.1 * G.2.1 := Nat.mul_pos h0 (by omega)
    unfold nC at h1
    omega
  · exact h
theorem lps1 {G : GV} (hG : vG G) (h0 : 0 < G.1) (set : Nat) : 1 ≤ lps G set := nS_pos (vG_smo hG) h0
theorem rai_rg {G : GV} {set : Nat} : 0 ≤ rai G set ∧ rai G set ≤ nX G := by
  have key : ∀ i, 0 ≤ sumN (fun e => if (G.2.2 e = 0 ∧ set.testBit (xrk G e) = true) ∨ (G.2.2 e = 1 ∧ set.testBit (xrk G e) = false) then (1 : Int) else 0) i ∧ sumN (fun e => if (G.2.2 e = 0 ∧ set.testBit (xrk G e) = true) ∨ (G.2.2 e = 1 ∧ set.testBit (xrk G e) = false) then (1 : Int) else 0) i ≤ cnt G.2.2 0 i + cnt G.2.2 1 i := by
    intro i
    induction i with
    | zero => exact ⟨Int.le_refl _, Int.le_refl _⟩
    | succ i ih =>
      simp only [sumN, cnt]
      by_cases c0 : G.2.2 i = 0
      · simp only [c0]
        cases set.testBit (xrk G i) <;> simp <;> omega
      · by_cases c1 : G.2.2 i = 1
        · simp only [c1]
          cases set.testBit (xrk G i) <;> simp <;> omega
        · simp [c0, c1]
          omega
  exact key _
