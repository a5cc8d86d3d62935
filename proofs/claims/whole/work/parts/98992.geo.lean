/-! ===== strands and joins ===== -/
theorem tS_one {G : GV} (hG : vG G) {c : Nat} (hc : c < nC G) : ∃ s, s < nS G ∧ tS G c = (s : Int) ∧ ∃ i, i < ln G s ∧ ∀ c0, (∀ j, j < ln G s → (aG G).1[bg G s + j]? = some (s, j, nxi G j (c0, true))) → c = (nxi G i (c0, true)).1 := by
  obtain ⟨x, hx, e⟩ := out_all hG hc
  obtain ⟨i, hi, hix⟩ := List.getElem_of_mem hx
  have hi2 : (aG G).1[i]? = some x := by rw [List.getElem?_eq_getElem hi, hix]
  rw [out_len hG] at hi
  obtain ⟨s, hs, b1, b2⟩ := str_at hG hi
  have hl : ln G s = bg G (s + 1) - bg G s := rfl
  have hxs : x.1 = s := by
    obtain ⟨c1, d1, d2, d3⟩ := str_cyc hG hs
    have := d3 (i - bg G s) (by omega)
    rw [show bg G s + (i - bg G s) = i by omega, hi2] at this
    rw [Option.some.inj this]
  refine ⟨s, hs, ?_, i - bg G s, by omega, fun c0 h0 => ?_⟩
  · rw [← e, ← hxs]
    exact fu_ent hG hx
  · have := h0 (i - bg G s) (by omega)
    rw [show bg G s + (i - bg G s) = i by omega, hi2] at this
    rw [← e, Option.some.inj this]
theorem tS_cyc {G : GV} (hG : vG G) {s : Nat} (hs : s < nS G) : ∃ c0, c0 < nC G ∧ (∀ j, tS G (nxi G j (c0, true)).1 = (s : Int)) ∧ ∀ c, c < nC G → tS G c = (s : Int) → ∃ i, c = (nxi G i (c0, true)).1 := by
  obtain ⟨c0, d1, d2, d3⟩ := str_cyc hG hs
  have l := len_ok hG d1
  refine ⟨c0, d1, fun j => ?_, fun c hc hT => ?_⟩
  · induction j using Nat.strongRecOn with
    | _ j ih =>
      rcases Nat.lt_or_ge j (ln G s) with h | h
      · exact fu_ent hG (v := fun x => (x.1 : Int)) (F := fun _ => 0) (List.mem_of_getElem? (d3 j h))
      · have := ih (j - len G c0) (by omega)
        rw [show j = len G c0 + (j - len G c0) by omega, nxi_add, l.2.2.1]
        exact this
  · obtain ⟨s', e1, e2, i, e3, e4⟩ := tS_one hG hc
    have : s' = s := by omega
    subst this
    exact ⟨i, e4 c0 d3⟩
/-- strands hang together along steps -/
theorem tS_nx {G : GV} (hG : vG G) {x : Nat × Bool} (hx : x.1 < nC G) : tS G (nx G x).1 = tS G x.1 := by
  obtain ⟨s, hs, hT, -⟩ := tS_one hG hx
  obtain ⟨c0, d1, d2, d3⟩ := tS_cyc hG hs
  obtain ⟨i, hi⟩ := d3 _ hx hT
  have l := len_ok hG d1
  by_cases hb : x.2 = (nxi G i (c0, true)).2
  · have : x = nxi G i (c0, true) := Prod.ext hi hb
    rw [hT, this]
    exact d2 (i + 1)
  · have e1 : x = rho (nxi G i (c0, true)) := by
      refine Prod.ext hi ?_
      show x.2 = !(nxi G i (c0, true)).2
      cases h3 : x.2 <;> cases h4 : (nxi G i (c0, true)).2 <;> simp [h3, h4] at hb ⊢
    have e2 : nx G (nxi G (len G c0 - 1 + i) (c0, true)) = nxi G i (c0, true) := by
      show nxi G (len G c0 - 1 + i + 1) (c0, true) = _
      rw [show len G c0 - 1 + i + 1 = len G c0 + i by omega, nxi_add, l.2.2.1]
    have e3 := (nx_ok hG (nxi_lt hG (x := (c0, true)) d1 (len G c0 - 1 + i))).2.2.1
    rw [e2, ← e1] at e3
    rw [hT, e3]
    exact d2 _
/-- ends: 2 c at the side c, 2 c + 1 at the side c + 1 -/
def en (y : Nat × Bool) : Nat := 2 * y.1 + (if y.2 then 1 else 0)
def ec (x : Nat) : Nat × Bool := (x / 2, decide (x % 2 = 1))
theorem ec_en (y : Nat × Bool) : ec (en y) = y := by
  obtain ⟨c, b⟩ := y
  unfold ec en
  cases b
  · refine Prod.ext ?_ ?_
    · show (2 * c + 0) / 2 = c
      omega
    · exact decide_eq_false (by show ¬ (2 * c + 0) % 2 = 1; omega)
  · refine Prod.ext ?_ ?_
    · show (2 * c + 1) / 2 = c
      omega
    · exact decide_eq_true (by show (2 * c + 1) % 2 = 1; omega)
theorem en_ec (x : Nat) : en (ec x) = x := by
  unfold ec en
  by_cases h : x % 2 = 1
  · simp [h]; omega
  · simp [h]; omega
def xe (R C x : Nat) : Int := exe R C (ec x).1 (ec x).2
def glk (R C : Nat) (z : Int) (x : Nat) : Nat := en (rho (nxk R C z (ec x).1 (ec x).2))
def gl (G : GV) (x : Nat) : Nat := en (rho (nx G (ec x)))
theorem gl_gl {G : GV} (hG : vG G) {x : Nat} (hx : x < 2 * nC G) : gl G (gl G x) = x := by
  have h := (nx_ok hG (x := ec x) (by show x / 2 < nC G; omega)).2.2.1
  unfold gl
  rw [ec_en, h, rho_rho, en_ec]
theorem gl_half {G : GV} (x : Nat) : gl G x / 2 = (nx G (ec x)).1 := by
  have h := congrArg Prod.fst (ec_en (rho (nx G (ec x))))
  exact h
theorem gl_lt {G : GV} (hG : vG G) {x : Nat} (hx : x < 2 * nC G) : gl G x < 2 * nC G := by
  have h := (nx_ok hG (x := ec x) (by show x / 2 < nC G; omega)).1
  have := gl_half (G := G) x
  omega
/-- all ends joined as the grid says: as many loops as strands -/
theorem JS.nSt {G : GV} (hG : vG G) {op : Nat → Prop} {P : List (Nat × Nat)} {s : JT} (h : JS (nC G) op P s) (ho : ∀ x, ¬ op x) (hP : ∀ p ∈ P, p.1 < 2 * nC G ∧ p.2 = gl G p.1) : s.2.2 = (nS G : Int) := by
  have h6 := h.2.2.2.2.2
  refine h.all ho (T := tS G) (fun p hp => ?_) (fun c hc => ?_) (fun s hs => ?_) (fun L hL c c' hc hc' hT => ?_)
  · obtain ⟨p1, p2⟩ := hP p hp
    rw [p2, gl_half]
    exact (tS_nx hG (x := ec p.1) (by show p.1 / 2 < nC G; omega)).symm
  · obtain ⟨s, e1, e2, -⟩ := tS_one hG hc
    omega
  · obtain ⟨c0, d1, d2, -⟩ := tS_cyc hG hs
    exact ⟨c0, d1, d2 0⟩
  · have step : ∀ x : Nat × Bool, x.1 < nC G → L (nx G x).1 = L x.1 := by
      intro x hx
      have hxe : en x < 2 * nC G := by
        have : (en x) / 2 = x.1 := congrArg Prod.fst (ec_en x)
        omega
      have e1 : en x / 2 = x.1 := congrArg Prod.fst (ec_en x)
      have e2 : gl G (en x) / 2 = (nx G x).1 := by rw [gl_half, ec_en]
      rcases h6 (en x) hxe with c | ⟨p, hp, c⟩
      · exact absurd c (ho _)
      · obtain ⟨p1, p2⟩ := hP p hp
        have hl := hL p hp
        rcases c with c | c
        · rw [p2, c, e1, e2] at hl
          exact hl.symm
        · have : gl G (en x) = p.1 := by rw [← c, p2, gl_gl hG p1]
          rw [c, e1, ← this, e2] at hl
          exact hl
    obtain ⟨s, hs, e2, -⟩ := tS_one hG hc
    obtain ⟨c0, d1, -, d3⟩ := tS_cyc hG hs
    obtain ⟨i, hi⟩ := d3 c hc e2
    obtain ⟨i', hi'⟩ := d3 c' hc' (hT ▸ e2)
    have all : ∀ j, L (nxi G j (c0, true)).1 = L c0 := by
      intro j
      induction j with
      | zero => rfl
      | succ j ih => exact (step _ (nxi_lt hG (x := (c0, true)) d1 j)).trans ih
    rw [hi, hi', all, all]
/-! ===== the ends at an edge ===== -/
def eS (R C e : Nat) : Nat := if gbel R C e = 0 then 1 else 2
def clE (q : Nat) : Nat := 2 * (4 * (q / 4) + (q % 4 + 3) % 4) + 1
def eP (R C e : Nat) : Nat := 4 * gcell R C e + eS R C e
def eQ (R C e : Nat) : Nat := 4 * byN C (gcell R C e) (eS R C e) + (eS R C e + 2) % 4
def eA (R C e : Nat) : Nat := 2 * eP R C e
def eB (R C e : Nat) : Nat := clE (eP R C e)
def eC (R C e : Nat) : Nat := 2 * eQ R C e
def eD (R C e : Nat) : Nat := clE (eQ R C e)
def edP (R C e : Nat) : Bool := decide (eA R C e < 8 * (R * C) ∧ eB R C e < 8 * (R * C) ∧ eC R C e < 8 * (R * C) ∧ eD R C e < 8 * (R * C) ∧ eA R C e ≠ eB R C e ∧ eA R C e ≠ eC R C e ∧ eA R C e ≠ eD R C e ∧ eB R C e ≠ eC R C e ∧ eB R C e ≠ eD R C e ∧ eC R C e ≠ eD R C e)
theorem edP_D : ∀ R, R ≤ 4 → ∀ C, C ≤ 4 → ∀ e, e < gn R C → edP R C e = true := by decide +kernel
def edX (R C e : Nat) : Bool := decide (xe R C (eA R C e) = e) && decide (xe R C (eB R C e) = e) && decide (xe R C (eC R C e) = e) && decide (xe R C (eD R C e) = e)
theorem edX_D : ∀ R, R ≤ 4 → ∀ C, C ≤ 4 → ∀ e, e < gn R C → edX R C e = true := by decide +kernel
def edL (R C e : Nat) : Bool := decide (glk R C 2 (eA R C e) = eB R C e) && decide (glk R C 2 (eC R C e) = eD R C e) && decide (glk R C 3 (eA R C e) = eD R C e) && decide (glk R C 3 (eB R C e) = eC R C e) && decide (glk R C 0 (eA R C e) = eC R C e) && decide (glk R C 0 (eB R C e) = eD R C e) && decide (glk R C 1 (eA R C e) = eC R C e) && decide (glk R C 1 (eB R C e) = eD R C e)
theorem edL_D : ∀ R, R ≤ 4 → ∀ C, C ≤ 4 → ∀ e, e < gn R C → edL R C e = true := by decide +kernel
def edF (R C x e : Nat) : Bool := decide (x = eA R C e ∨ x = eB R C e ∨ x = eC R C e ∨ x = eD R C e)
def edQ (R C x : Nat) : Bool := decide (xe R C x = -1) || edF R C x (xe R C x).toNat
theorem edQ_D : ∀ R, R ≤ 4 → ∀ C, C ≤ 4 → ∀ x, x < 8 * (R * C) → edQ R C x = true := by decide +kernel
theorem ed_lt {R C e : Nat} (h : gok R C) (he : e < gn R C) : eA R C e < 8 * (R * C) ∧ eB R C e < 8 * (R * C) ∧ eC R C e < 8 * (R * C) ∧ eD R C e < 8 * (R * C) ∧ eA R C e ≠ eB R C e ∧ eA R C e ≠ eC R C e ∧ eA R C e ≠ eD R C e ∧ eB R C e ≠ eC R C e ∧ eB R C e ≠ eD R C e ∧ eC R C e ≠ eD R C e := of_decide_eq_true (edP_D R h.le.1 C h.le.2 e he)
theorem ed_xe {R C e : Nat} (h : gok R C) (he : e < gn R C) : xe R C (eA R C e) = e ∧ xe R C (eB R C e) = e ∧ xe R C (eC R C e) = e ∧ xe R C (eD R C e) = e := by
  have := edX_D R h.le.1 C h.le.2 e he
  unfold edX at this
  simp only [Bool.and_eq_true, decide_eq_true_eq] at this
  exact ⟨this.1.1.1, this.1.1.2, this.1.2, this.2⟩
theorem ed_gl {R C e : Nat} (h : gok R C) (he : e < gn R C) : (glk R C 2 (eA R C e) = eB R C e ∧ glk R C 2 (eC R C e) = eD R C e) ∧ (glk R C 3 (eA R C e) = eD R C e ∧ glk R C 3 (eB R C e) = eC R C e) ∧ (glk R C 0 (eA R C e) = eC R C e ∧ glk R C 0 (eB R C e) = eD R C e) ∧ (glk R C 1 (eA R C e) = eC R C e ∧ glk R C 1 (eB R C e) = eD R C e) := by
  have := edL_D R h.le.1 C h.le.2 e he
  unfold edL at this
  simp only [Bool.and_eq_true, decide_eq_true_eq] at this
  obtain ⟨⟨⟨⟨⟨⟨⟨a1, a2⟩, a3⟩, a4⟩, a5⟩, a6⟩, a7⟩, a8⟩ := this
  exact ⟨⟨a1, a2⟩, ⟨a3, a4⟩, ⟨a5, a6⟩, ⟨a7, a8⟩⟩
theorem ed_all {R C e x : Nat} (h : gok R C) (hx : x < 8 * (R * C)) (he : xe R C x = (e : Int)) : x = eA R C e ∨ x = eB R C e ∨ x = eC R C e ∨ x = eD R C e := by
  have := edQ_D R h.le.1 C h.le.2 x hx
  unfold edQ at this
  rw [he, Int.toNat_natCast] at this
  rcases Bool.or_eq_true _ _ ▸ this with c | c
  · have := of_decide_eq_true c
    omega
  · exact of_decide_eq_true c
/-- the rim -/
def psE (x : Nat) : Nat := 4 * (x / 8) + exs (x / 2) (decide (x % 2 = 1))
def rmP (R C q : Nat) : Bool := decide (ges R C (q / 4) (q % 4) ≠ -1) || (decide (2 * q < 8 * (R * C) ∧ clE q < 8 * (R * C) ∧ 2 * q ≠ clE q) && decide (glk R C 2 (2 * q) = clE q) && decide (xe R C (2 * q) = -1) && decide (xe R C (clE q) = -1))
theorem rmP_D : ∀ R, R ≤ 4 → ∀ C, C ≤ 4 → ∀ q, q < 4 * (R * C) → rmP R C q = true := by decide +kernel
def rmQ (R C x : Nat) : Bool := decide ((x = 2 * psE x ∨ x = clE (psE x)) ∧ psE x < 4 * (R * C)) && decide (xe R C x = ges R C (psE x / 4) (psE x % 4))
theorem rmQ_D : ∀ R, R ≤ 4 → ∀ C, C ≤ 4 → ∀ x, x < 8 * (R * C) → rmQ R C x = true := by decide +kernel
theorem ps_D : ∀ q, q < 64 → psE (2 * q) = q ∧ psE (clE q) = q := by decide +kernel
theorem rm_ok {R C q : Nat} (h : gok R C) (hq : q < 4 * (R * C)) (he : ges R C (q / 4) (q % 4) = -1) : (2 * q < 8 * (R * C) ∧ clE q < 8 * (R * C) ∧ 2 * q ≠ clE q) ∧ glk R C 2 (2 * q) = clE q ∧ xe R C (2 * q) = -1 ∧ xe R C (clE q) = -1 := by
  have := rmP_D R h.le.1 C h.le.2 q hq
  unfold rmP at this
  simp only [Bool.or_eq_true, Bool.and_eq_true, decide_eq_true_eq] at this
  rcases this with c | ⟨⟨⟨c1, c2⟩, c3⟩, c4⟩
  · exact absurd he c
  · exact ⟨c1, c2, c3, c4⟩
theorem rm_all {R C x : Nat} (h : gok R C) (hx : x < 8 * (R * C)) : (x = 2 * psE x ∨ x = clE (psE x)) ∧ psE x < 4 * (R * C) ∧ xe R C x = ges R C (psE x / 4) (psE x % 4) := by
  have := rmQ_D R h.le.1 C h.le.2 x hx
  unfold rmQ at this
  simp only [Bool.and_eq_true, decide_eq_true_eq] at this
  exact ⟨this.1.1, this.1.2, this.2⟩
