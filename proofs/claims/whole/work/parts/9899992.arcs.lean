/-! ===== a strand has at least four corners, also with crosses ===== -/
def pa_P (R C c : Nat) (b : Bool) (z : Nat) : Bool := decide (exs (nxk R C (z : Nat) c b).1 (!(nxk R C (z : Nat) c b).2) % 2 = (exs c (!b) + 1) % 2)
theorem pa_D : ∀ R, R ≤ 4 → ∀ C, C ≤ 4 → ∀ c, c < 4 * (R * C) → ∀ z, z < 4 → pa_P R C c true z = true ∧ pa_P R C c false z = true := by decide +kernel
def tw_Q (R C : Nat) (c : Nat) (b : Bool) (y : Nat × Bool) (z : Nat) : Bool := (decide (exe R C y.1 y.2 = -1) && !decide (z = 2)) || !decide (nxk R C (z : Nat) y.1 y.2 = (c, b))
def tw_P (R C c : Nat) (b : Bool) (z : Nat) : Bool := (decide (exe R C c b = -1) && !decide (z = 2)) || (tw_Q R C c b (nxk R C (z : Nat) c b) 0 && tw_Q R C c b (nxk R C (z : Nat) c b) 1 && tw_Q R C c b (nxk R C (z : Nat) c b) 2 && tw_Q R C c b (nxk R C (z : Nat) c b) 3)
theorem tw_D : ∀ R, R ≤ 4 → ∀ C, C ≤ 4 → ∀ c, c < 4 * (R * C) → ∀ z, z < 4 → tw_P R C c true z = true := by decide +kernel
theorem nx_par {G : GV} (hG : vG G) {x : Nat × Bool} (hx : x.1 < nC G) : exs (nx G x).1 (!(nx G x).2) % 2 = (exs x.1 (!x.2) + 1) % 2 := by
  have hk := exk_rng hG hx
  obtain ⟨c, b⟩ := x
  have h := pa_D _ hG.1.le.1 _ hG.1.le.2 c hx (exk G (c, b)).toNat (by omega)
  have hz : (((exk G (c, b)).toNat : Nat) : Int) = exk G (c, b) := by omega
  unfold pa_P at h
  rw [hz] at h
  cases b
  · exact of_decide_eq_true h.2
  · exact of_decide_eq_true h.1
theorem nx_two {G : GV} (hG : vG G) {c : Nat} (hc : c < nC G) : nx G (nx G (c, true)) ≠ (c, true) := by
  have hx1 : ((c, true) : Nat × Bool).1 < nC G := hc
  have hk := exk_rng hG hx1
  have hy := (nx_ok hG hx1).1
  have hk2 := exk_rng hG hy
  have h := tw_D _ hG.1.le.1 _ hG.1.le.2 c hc (exk G (c, true)).toNat (by omega)
  have hz : (((exk G (c, true)).toNat : Nat) : Int) = exk G (c, true) := by omega
  unfold tw_P at h
  rw [hz] at h
  have e1 : nxk G.1 G.2.1 (exk G (c, true)) c true = nx G (c, true) := rfl
  rw [e1] at h
  simp only [Bool.or_eq_true, Bool.and_eq_true, decide_eq_true_eq, Bool.not_eq_true', decide_eq_false_iff_not] at h
  rcases h with h | h
  · exfalso
    have : exk G (c, true) = 2 := if_pos h.1
    omega
  · have hz2 : (((exk G (nx G (c, true))).toNat : Nat) : Int) = exk G (nx G (c, true)) := by omega
    have key : tw_Q G.1 G.2.1 c true (nx G (c, true)) (exk G (nx G (c, true))).toNat = true := by
      have : (exk G (nx G (c, true))).toNat = 0 ∨ (exk G (nx G (c, true))).toNat = 1 ∨ (exk G (nx G (c, true))).toNat = 2 ∨ (exk G (nx G (c, true))).toNat = 3 := by omega
      rcases this with q | q | q | q <;> rw [q]
      · exact h.1.1.1
      · exact h.1.1.2
      · exact h.1.2
      · exact h.2
    unfold tw_Q at key
    rw [hz2] at key
    simp only [Bool.or_eq_true, Bool.and_eq_true, decide_eq_true_eq, Bool.not_eq_true', decide_eq_false_iff_not] at key
    rcases key with q | q
    · exfalso
      have : exk G (nx G (c, true)) = 2 := if_pos q.1
      omega
    · exact q
theorem nxi_par {G : GV} (hG : vG G) {x : Nat × Bool} (hx : x.1 < nC G) : ∀ i, exs (nxi G i x).1 (!(nxi G i x).2) % 2 = (exs x.1 (!x.2) + i) % 2
  | 0 => rfl
  | i + 1 => by
    have := nxi_par hG hx i
    have h2 := nx_par hG (nxi_lt hG hx i)
    show exs (nx G (nxi G i x)).1 (!(nx G (nxi G i x)).2) % 2 = _
    omega
theorem lenX4 {G : GV} (hG : vG G) {c : Nat} (hc : c < nC G) : 4 ≤ len G c := by
  obtain ⟨h1, h2, h3, -⟩ := len_ok hG hc
  have hp := nxi_par hG (x := (c, true)) hc (len G c)
  rw [h3] at hp
  have h4 : len G c ≠ 2 := fun q => by
    rw [q] at h3
    exact nx_two hG hc h3
  omega
theorem nSX {G : GV} (hG : vG G) : nS G ≤ 16 := by
  have key : ∀ s, s ≤ nS G → 4 * s ≤ bg G s := by
    intro s
    induction s with
    | zero => intro _; exact Nat.zero_le _
    | succ s ih =>
      intro hs
      have ih := ih (by omega)
      obtain ⟨c0, h1, h2, -⟩ := str_cyc hG (show s < nS G by omega)
      have h4 := lenX4 hG h1
      have : ln G s = bg G (s + 1) - bg G s := rfl
      omega
  have h1 := key (nS G) (Nat.le_refl _)
  rw [bg_last hG] at h1
  have := nC_le64 hG
  omega
/-! ===== arcs ===== -/
/-- passings under among the first n -/
def cj (G : GV) : Nat → Nat
  | 0 => 0
  | n + 1 => cj G n + (if pOv G n = 0 then 1 else 0)
theorem cj_mono {G : GV} {a b : Nat} (h : a ≤ b) : cj G a ≤ cj G b := by
  induction b with
  | zero => rw [show a = 0 by omega]; exact Nat.le_refl _
  | succ b ih =>
    rcases Nat.lt_or_ge b a with c | c
    · rw [show a = b + 1 by omega]; exact Nat.le_refl _
    · have := ih c
      show cj G a ≤ cj G b + _
      omega
theorem cj_list (G : GV) : ∀ n, cj G n = ((List.range n).filter (fun j => decide (pOv G j = 0))).length
  | 0 => rfl
  | n + 1 => by
    rw [List.range_succ, List.filter_append, List.length_append, ← cj_list G n]
    show cj G n + _ = _
    by_cases c : pOv G n = 0
    · rw [if_pos c, List.filter_cons_of_pos (by simp [c])]
      rfl
    · rw [if_neg c, List.filter_cons_of_neg (by simp [c])]
      rfl
theorem cj_24 {G : GV} (hG : vG G) : cj G (nP G) ≤ 24 := by
  have hgn := gn_le _ hG.1.le.1 _ hG.1.le.2
  rw [cj_list]
  have h1 : (((List.range (nP G)).filter (fun j => decide (pOv G j = 0))).map (fun j => (pEd G j).toNat)).Nodup := by
    unfold List.Nodup
    rw [List.pairwise_map]
    refine List.Pairwise.imp_of_mem (R := fun a b => a < b) ?_ (List.Pairwise.filter _ List.pairwise_lt_range)
    intro i j hi hj hij h
    obtain ⟨i1, i2⟩ := List.mem_filter.mp hi
    obtain ⟨j1, j2⟩ := List.mem_filter.mp hj
    have i1 := List.mem_range.mp i1
    have j1 := List.mem_range.mp j1
    have i2 := of_decide_eq_true i2
    have j2 := of_decide_eq_true j2
    obtain ⟨y, hy, ye, -⟩ := pas_get i1
    obtain ⟨z, hz, ze, -⟩ := pas_get j1
    obtain ⟨-, y2, -, -, y5⟩ := pSt_y hy
    obtain ⟨-, z2, -, -, z5⟩ := pSt_y hz
    rw [ye] at y2 y5
    rw [ze] at z2 z5
    have b0 : ∀ b, bb b = 0 → b = false := fun b hb => by
      cases b
      · rfl
      · exact absurd hb (by decide)
    have p1 := b0 _ (y5.symm.trans i2)
    have p2 := b0 _ (z5.symm.trans j2)
    have := pas_inj hG hy hz (by omega) (by rw [p1, p2])
    rw [this, ze] at ye
    omega
  have h2 := nodup_le (gn G.1 G.2.1) _ h1 (fun x hx => by
    obtain ⟨j, hj, rfl⟩ := List.mem_map.mp hx
    have j1 := List.mem_range.mp (List.mem_filter.mp hj).1
    obtain ⟨z, hz, ze, -⟩ := pas_get j1
    obtain ⟨-, z2, -⟩ := pSt_y hz
    have := (pas_cross hG hz).2.2.1
    rw [ze] at z2
    omega)
  rw [List.length_map] at h2
  omega
def cu (G : GV) (s i : Nat) : Nat := cj G (pf G s + i) - cj G (pf G s)
def un (G : GV) (s : Nat) : Nat := cu G s (pn G s)
def aU (G : GV) (s : Nat) : Nat := if un G s = 0 then 1 else un G s
def ba (G : GV) : Nat → Nat
  | 0 => 0
  | s + 1 => ba G s + aU G s
theorem cu_s (G : GV) (s i : Nat) : cu G s (i + 1) = cu G s i + (if pOv G (pf G s + i) = 0 then 1 else 0) := by
  unfold cu
  have h1 := cj_mono (G := G) (show pf G s ≤ pf G s + i by omega)
  have h2 : cj G (pf G s + (i + 1)) = cj G (pf G s + i) + (if pOv G (pf G s + i) = 0 then 1 else 0) := rfl
  rw [h2]
  split <;> omega
theorem cu_0 (G : GV) (s : Nat) : cu G s 0 = 0 := by unfold cu; rw [Nat.add_zero]; omega
theorem cu_mono {G : GV} {s i j : Nat} (h : i ≤ j) : cu G s i ≤ cu G s j := by
  unfold cu
  have := cj_mono (G := G) (show pf G s + i ≤ pf G s + j by omega)
  omega
theorem ba_mono {G : GV} {a b : Nat} (h : a ≤ b) : ba G a ≤ ba G b := by
  induction b with
  | zero => rw [show a = 0 by omega]; exact Nat.le_refl _
  | succ b ih =>
    rcases Nat.lt_or_ge b a with c | c
    · rw [show a = b + 1 by omega]; exact Nat.le_refl _
    · have := ih c
      show ba G a ≤ ba G b + _
      omega
theorem aU_pos (G : GV) (s : Nat) : 1 ≤ aU G s := by unfold aU; split <;> omega
theorem pf_s {G : GV} (hG : vG G) {s : Nat} (hs : s < nS G) : pf G (s + 1) = pf G s + pn G s := (pf_pn hG hs).1.symm
theorem ba_le {G : GV} (hG : vG G) : ∀ s, s ≤ nS G → ba G s ≤ s + cj G (pf G s)
  | 0, _ => Nat.zero_le _
  | s + 1, hs => by
    have ih := ba_le hG s (by omega)
    show ba G s + aU G s ≤ _
    have h1 := pf_s hG (show s < nS G by omega)
    have h2 := cj_mono (G := G) (show pf G s ≤ pf G s + pn G s by omega)
    have h3 : un G s = cj G (pf G s + pn G s) - cj G (pf G s) := rfl
    rw [h1]
    unfold aU
    split <;> omega
theorem ba_40 {G : GV} (hG : vG G) : ba G (nS G) ≤ 40 := by
  have h1 := ba_le hG (nS G) (Nat.le_refl _)
  have h2 := nSX hG
  have h3 := cj_24 hG
  have h4 : pf G (nS G) = nP G := by
    unfold pf
    rw [bg_last hG, cp_all hG]
  rw [h4] at h1
  omega
/-- an arc's number: the class's, the reference's -/
def lC (G : GV) (s u : Nat) : Nat := ba G s + (if u < un G s then u else 0)
def lR (G : GV) (s u : Nat) : Nat := ba G s + (if u = 0 then aU G s - 1 else u - 1)
def tau (G : GV) : Nat → Nat → Nat
  | 0, x => x
  | s + 1, x => if ba G s ≤ x then (if x = ba G s then ba G s + aU G s - 1 else x - 1) else tau G s x
theorem tau_at {G : GV} {s x : Nat} (h1 : ba G s ≤ x) (h2 : x < ba G (s + 1)) : ∀ n, s < n → tau G n x = if x = ba G s then ba G s + aU G s - 1 else x - 1
  | 0, h => absurd h (Nat.not_lt_zero s)
  | n + 1, h => by
    show (if ba G n ≤ x then (if x = ba G n then ba G n + aU G n - 1 else x - 1) else tau G n x) = _
    by_cases c : n = s
    · subst c
      rw [if_pos h1]
    · have := ba_mono (G := G) (show s + 1 ≤ n by omega)
      rw [if_neg (by omega)]
      exact tau_at h1 h2 n (by omega)
theorem ba_at {G : GV} {x : Nat} : ∀ n, x < ba G n → ∃ s, s < n ∧ ba G s ≤ x ∧ x < ba G (s + 1)
  | 0, h => absurd h (Nat.not_lt_zero x)
  | n + 1, h => by
    rcases Nat.lt_or_ge x (ba G n) with c | c
    · obtain ⟨s, s1, s2⟩ := ba_at n c
      exact ⟨s, by omega, s2⟩
    · exact ⟨n, by omega, c, h⟩
theorem tau_blk {G : GV} {s x : Nat} (n : Nat) (hs : s < n) (h1 : ba G s ≤ x) (h2 : x < ba G (s + 1)) : ba G s ≤ tau G n x ∧ tau G n x < ba G (s + 1) := by
  have hb : ba G (s + 1) = ba G s + aU G s := rfl
  have := aU_pos G s
  rw [tau_at h1 h2 n hs]
  split <;> omega
theorem tau_NB (G : GV) (n : Nat) : NB (ba G n) (ba G n) (tau G n) ∧ ∀ x y, x < ba G n → y < ba G n → (tau G n x = tau G n y ↔ x = y) := by
  refine ⟨⟨fun x hx => ?_, fun v hv => ?_⟩, fun x y hx hy => ⟨fun q => ?_, fun q => by rw [q]⟩⟩
  · obtain ⟨s, s1, s2, s3⟩ := ba_at n hx
    have := tau_blk n s1 s2 s3
    have := ba_mono (G := G) (show s + 1 ≤ n by omega)
    omega
  · obtain ⟨s, s1, s2, s3⟩ := ba_at n hv
    have hb : ba G (s + 1) = ba G s + aU G s := rfl
    have hm := ba_mono (G := G) (show s + 1 ≤ n by omega)
    have := aU_pos G s
    by_cases c : v = ba G s + aU G s - 1
    · refine ⟨ba G s, by omega, ?_⟩
      rw [tau_at (Nat.le_refl _) (by omega) n s1, if_pos rfl, c]
    · refine ⟨v + 1, by omega, ?_⟩
      rw [tau_at (s := s) (by omega) (by omega) n s1, if_neg (by omega)]
      omega
  · obtain ⟨s, s1, s2, s3⟩ := ba_at n hx
    obtain ⟨s', t1, t2, t3⟩ := ba_at n hy
    have b1 := tau_blk n s1 s2 s3
    have b2 := tau_blk n t1 t2 t3
    have : s = s' := by
      rcases Nat.lt_trichotomy s s' with c | c | c
      · have := ba_mono (G := G) (show s + 1 ≤ s' by omega)
        omega
      · exact c
      · have := ba_mono (G := G) (show s' + 1 ≤ s by omega)
        omega
    subst this
    have hb : ba G (s + 1) = ba G s + aU G s := rfl
    rw [tau_at s2 s3 n s1, tau_at t2 t3 n s1] at q
    split at q <;> split at q <;> omega
theorem aU_eq (G : GV) (s : Nat) : (un G s = 0 ∧ aU G s = 1) ∨ (un G s ≠ 0 ∧ aU G s = un G s) := by
  unfold aU
  by_cases c : un G s = 0
  · rw [if_pos c]; exact Or.inl ⟨c, rfl⟩
  · rw [if_neg c]; exact Or.inr ⟨c, rfl⟩
theorem lab_blk {G : GV} {s u : Nat} (hu : u ≤ un G s) : ba G s ≤ lC G s u ∧ lC G s u < ba G (s + 1) := by
  have hb : ba G (s + 1) = ba G s + aU G s := rfl
  have h1 := aU_eq G s
  unfold lC
  by_cases c : u < un G s
  · rw [if_pos c]; omega
  · rw [if_neg c]; omega
theorem lR_tau {G : GV} {s u n : Nat} (hs : s < n) (hu : u ≤ un G s) : lR G s u = tau G n (lC G s u) := by
  obtain ⟨h1, h2⟩ := lab_blk hu
  have ha := aU_eq G s
  rw [tau_at h1 h2 n hs]
  unfold lR lC
  by_cases c : u < un G s
  · by_cases c2 : u = 0
    · rw [if_pos c2, if_pos c, if_pos (show ba G s + u = ba G s by omega)]
      omega
    · rw [if_neg c2, if_pos c, if_neg (show ¬ ba G s + u = ba G s by omega)]
      omega
  · by_cases c2 : u = 0
    · rw [if_pos c2, if_neg c, if_pos (show ba G s + 0 = ba G s by omega)]
      omega
    · rw [if_neg c2, if_neg c, if_pos (show ba G s + 0 = ba G s by omega)]
      omega
/-- where the passings at a cross lie -/
def oI (G : GV) (e : Nat) : Nat := (oP G e).toNat - pf G (oS G e).toNat
def uI (G : GV) (e : Nat) : Nat := (uP G e).toNat - pf G (uS G e).toNat
theorem oI_ok {G : GV} (hG : vG G) {e : Nat} (he : e < gn G.1 G.2.1) (hx : crX G e) : 0 ≤ oS G e ∧ (oS G e).toNat < nS G ∧ oI G e < pn G (oS G e).toNat ∧ oP G e = ((pf G (oS G e).toNat + oI G e : Nat) : Int) ∧ pOv G (pf G (oS G e).toNat + oI G e) = 1 ∧ pEd G (pf G (oS G e).toNat + oI G e) = (e : Int) := by
  obtain ⟨y, hy, ho, hye, hP, hS, -⟩ := xo hG he hx
  obtain ⟨p1, p2, p3⟩ := pas_strand hG hy
  obtain ⟨-, z2, -, -, z5⟩ := pSt_y hy
  have hb := pf_pn hG p1
  have e1 : pf G y.2.1 = cp G (bg G y.2.1) := rfl
  have e2 : (oS G e).toNat = y.2.1 := by omega
  have e3 : pf G y.2.1 + oI G e = y.1 := by
    unfold oI
    rw [e2, hP]
    omega
  rw [e2]
  refine ⟨by omega, p1, by omega, by rw [e3, hP], ?_, ?_⟩
  · rw [e3, z5, ho]; rfl
  · rw [e3, z2, hye]
theorem uI_ok {G : GV} (hG : vG G) {e : Nat} (he : e < gn G.1 G.2.1) (hx : crX G e) : 0 ≤ uS G e ∧ (uS G e).toNat < nS G ∧ uI G e < pn G (uS G e).toNat ∧ uP G e = ((pf G (uS G e).toNat + uI G e : Nat) : Int) ∧ pOv G (pf G (uS G e).toNat + uI G e) = 0 ∧ pEd G (pf G (uS G e).toNat + uI G e) = (e : Int) := by
  obtain ⟨y, hy, ho, hye, hP, hS, -⟩ := xu hG he hx
  obtain ⟨p1, p2, p3⟩ := pas_strand hG hy
  obtain ⟨-, z2, -, -, z5⟩ := pSt_y hy
  have hb := pf_pn hG p1
  have e1 : pf G y.2.1 = cp G (bg G y.2.1) := rfl
  have e2 : (uS G e).toNat = y.2.1 := by omega
  have e3 : pf G y.2.1 + uI G e = y.1 := by
    unfold uI
    rw [e2, hP]
    omega
  rw [e2]
  refine ⟨by omega, p1, by omega, by rw [e3, hP], ?_, ?_⟩
  · rw [e3, z5, ho]; rfl
  · rw [e3, z2, hye]
/-- the three arcs at a cross -/
def aO (L : Nat → Nat → Nat) (G : GV) (e : Nat) : Nat := L (oS G e).toNat (cu G (oS G e).toNat (oI G e + 1))
def aB (L : Nat → Nat → Nat) (G : GV) (e : Nat) : Nat := L (uS G e).toNat (cu G (uS G e).toNat (uI G e))
def aH (L : Nat → Nat → Nat) (G : GV) (e : Nat) : Nat := L (uS G e).toNat (cu G (uS G e).toNat (uI G e + 1))
def sol (p : Nat) (G : GV) (h : Nat → Nat) (y : Nat → Int) : Prop := ∀ e, e < gn G.1 G.2.1 → crX G e → (2 * y (h (aO (lC G) G e)) - y (h (aB (lC G) G e)) - y (h (aH (lC G) G e))) % (p : Int) = 0
noncomputable def NS (p : Nat) (G : GV) (h : Nat → Nat) : Int := cW p 48 0 (fun y => ift (sol p G h y) 1 0) (fun _ => 0)
theorem arc_lt {G : GV} (hG : vG G) {e : Nat} (he : e < gn G.1 G.2.1) (hx : crX G e) : aO (lC G) G e < ba G (nS G) ∧ aB (lC G) G e < ba G (nS G) ∧ aH (lC G) G e < ba G (nS G) ∧ aO (lR G) G e = tau G (nS G) (aO (lC G) G e) ∧ aB (lR G) G e = tau G (nS G) (aB (lC G) G e) ∧ aH (lR G) G e = tau G (nS G) (aH (lC G) G e) := by
  obtain ⟨o1, o2, o3, -⟩ := oI_ok hG he hx
  obtain ⟨u1, u2, u3, -⟩ := uI_ok hG he hx
  have c1 : cu G (oS G e).toNat (oI G e + 1) ≤ un G (oS G e).toNat := cu_mono (by omega)
  have c2 : cu G (uS G e).toNat (uI G e) ≤ un G (uS G e).toNat := cu_mono (by omega)
  have c3 : cu G (uS G e).toNat (uI G e + 1) ≤ un G (uS G e).toNat := cu_mono (by omega)
  have b1 := lab_blk c1
  have b2 := lab_blk c2
  have b3 := lab_blk c3
  have m1 := ba_mono (G := G) (show (oS G e).toNat + 1 ≤ nS G by omega)
  have m2 := ba_mono (G := G) (show (uS G e).toNat + 1 ≤ nS G by omega)
  unfold aO aB aH
  exact ⟨by omega, by omega, by omega, lR_tau o2 c1, lR_tau u2 c2, lR_tau u2 c3⟩
theorem NS_tau {p : Nat} {G : GV} (hG : vG G) : NS p G (tau G (nS G)) = NS p G (fun x => x) := by
  have h40 := ba_40 hG
  obtain ⟨t1, t2⟩ := tau_NB G (nS G)
  refine nb_sort (N := ba G (nS G)) (n := ba G (nS G)) (D := NS p G) (fun f g h => ?_) (fun f q hf hq => ?_) ⟨fun c hc => hc, fun v hv => ⟨v, hv, rfl⟩⟩ t1 t2
  · unfold NS
    have : (fun y : Nat → Int => ift (sol p G f y) 1 0) = (fun y => ift (sol p G g y) 1 0) := by
      funext y
      have : sol p G f y = sol p G g y := propext ⟨fun w e he hx => by
        obtain ⟨a1, a2, a3, -⟩ := arc_lt hG he hx
        rw [← h _ a1, ← h _ a2, ← h _ a3]
        exact w e he hx, fun w e he hx => by
        obtain ⟨a1, a2, a3, -⟩ := arc_lt hG he hx
        rw [h _ a1, h _ a2, h _ a3]
        exact w e he hx⟩
      rw [this]
    rw [this]
  · unfold NS
    rw [← cW_swap p q 48 0 (fun y => ift (sol p G f y) 1 0) (fun _ => 0) (Nat.zero_le _) (by omega)]
    rfl
theorem pow_inj {p : Nat} (hp : pr6 p) {N : Int} {f f' : Nat} (h1 : N * ((p ^ f : Nat) : Int) = ((p ^ 48 : Nat) : Int)) (h2 : N * ((p ^ f' : Nat) : Int) = ((p ^ 48 : Nat) : Int)) : f = f' := by
  have hp2 : 2 ≤ p := by unfold pr6 at hp; omega
  have h48 : 0 < p ^ 48 := Nat.pow_pos (by omega)
  have hN : N ≠ 0 := fun q => by
    rw [q, Int.zero_mul] at h1
    omega
  have := Int.eq_of_mul_eq_mul_left hN (h1.trans h2.symm)
  have : p ^ f = p ^ f' := by omega
  exact (Nat.pow_right_inj hp2).mp this
noncomputable def rkV (p : Nat) (G : GV) : Nat := @dite _ (∃ f, NS p G (fun x => x) * ((p ^ f : Nat) : Int) = ((p ^ 48 : Nat) : Int)) (Classical.propDecidable _) (fun h => h.choose) (fun _ => 0)
theorem rkV_eq {p : Nat} (hp : pr6 p) {G : GV} {f : Nat} (h : NS p G (fun x => x) * ((p ^ f : Nat) : Int) = ((p ^ 48 : Nat) : Int)) : rkV p G = f := by
  have ex : ∃ f, NS p G (fun x => x) * ((p ^ f : Nat) : Int) = ((p ^ 48 : Nat) : Int) := ⟨f, h⟩
  have e : rkV p G = ex.choose := by
    unfold rkV
    rw [dif_pos ex]
  rw [e]
  exact pow_inj hp ex.choose_spec h
