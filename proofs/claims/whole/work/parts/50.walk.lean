/-! ===== the walk round a grid's corners, as such ===== -/
abbrev GV : Type := Nat × Nat × (Nat → Int)
def vG (G : GV) : Prop := gok G.1 G.2.1 ∧ ∀ e, e < gn G.1 G.2.1 → 0 ≤ G.2.2 e ∧ G.2.2 e ≤ 3
def nC (G : GV) : Nat := 4 * (G.1 * G.2.1)
/-- the side at which a corner ends -/
def exs (c : Nat) (b : Bool) : Nat := (c + (if b then 1 else 0)) % 4
def exe (R C c : Nat) (b : Bool) : Int := ges R C (c / 4) (exs c b)
def byN (C c s : Nat) : Nat := if s = 0 then c - C else if s = 1 then c + 1 else if s = 2 then c + C else c - 1
def nxk (R C : Nat) (z : Int) (c : Nat) (b : Bool) : Nat × Bool :=
  if z = 2 then (4 * (c / 4) + (if b then exs c b else (exs c b + 3) % 4), b)
  else if z = 3 then (4 * byN C (c / 4) (exs c b) + (if b then (exs c b + 2) % 4 else ((exs c b + 2) % 4 + 3) % 4), b)
  else (4 * byN C (c / 4) (exs c b) + (if b then ((exs c b + 2) % 4 + 3) % 4 else (exs c b + 2) % 4), !b)
def nxk_P (R C c : Nat) (b : Bool) (z : Nat) : Bool := (decide (exe R C c b = -1) && !decide (z = 2)) || (decide ((nxk R C (z : Nat) c b).1 < 4 * (R * C)) && decide (exe R C (nxk R C (z : Nat) c b).1 (!(nxk R C (z : Nat) c b).2) = exe R C c b) && decide (nxk R C (z : Nat) (nxk R C (z : Nat) c b).1 (!(nxk R C (z : Nat) c b).2) = (c, !b)) && !decide (nxk R C (z : Nat) c b = (c, !b)))
theorem nxk_D : ∀ R, R ≤ 4 → ∀ C, C ≤ 4 → ∀ c, c < 4 * (R * C) → ∀ z, z < 4 → nxk_P R C c true z = true ∧ nxk_P R C c false z = true := by decide +kernel
theorem nxk_ok (R : Nat) (hR : R ≤ 4) (C : Nat) (hC : C ≤ 4) (c : Nat) (hc : c < 4 * (R * C)) (b : Bool) (z : Nat) (hz : z < 4) (he : exe R C c b = -1 → z = 2) :
    (nxk R C (z : Nat) c b).1 < 4 * (R * C) ∧ exe R C (nxk R C (z : Nat) c b).1 (!(nxk R C (z : Nat) c b).2) = exe R C c b ∧
    nxk R C (z : Nat) (nxk R C (z : Nat) c b).1 (!(nxk R C (z : Nat) c b).2) = (c, !b) ∧ nxk R C (z : Nat) c b ≠ (c, !b) := by
  have h0 : nxk_P R C c b z = true := by
    have := nxk_D R hR C hC c hc z hz
    cases b
    · exact this.2
    · exact this.1
  unfold nxk_P at h0
  simp only [Bool.or_eq_true, Bool.and_eq_true, decide_eq_true_eq, Bool.not_eq_true', decide_eq_false_iff_not] at h0
  rcases h0 with h0 | h0
  · exact absurd (he h0.1) h0.2
  · exact ⟨h0.1.1.1, h0.1.1.2, h0.1.2, h0.2⟩
def rho (x : Nat × Bool) : Nat × Bool := (x.1, !x.2)
theorem rho_rho (x : Nat × Bool) : rho (rho x) = x := by unfold rho; simp
theorem rho_ne (x : Nat × Bool) : rho x ≠ x := fun h => by
  have : (!x.2) = x.2 := congrArg Prod.snd h
  cases hx : x.2 <;> simp [hx] at this
/-- the kind of the edge at which a corner ends; the rim is a wall -/
def exk (G : GV) (x : Nat × Bool) : Int := if exe G.1 G.2.1 x.1 x.2 = -1 then 2 else G.2.2 (exe G.1 G.2.1 x.1 x.2).toNat
def nx (G : GV) (x : Nat × Bool) : Nat × Bool := nxk G.1 G.2.1 (exk G x) x.1 x.2
theorem exe_rng {G : GV} (hG : vG G) {x : Nat × Bool} (hx : x.1 < nC G) : -1 ≤ exe G.1 G.2.1 x.1 x.2 ∧ exe G.1 G.2.1 x.1 x.2 < gn G.1 G.2.1 :=
  ges_rng hG.1.le.1 hG.1.le.2 (by unfold nC at hx; omega)
theorem exk_rng {G : GV} (hG : vG G) {x : Nat × Bool} (hx : x.1 < nC G) : 0 ≤ exk G x ∧ exk G x ≤ 3 := by
  unfold exk
  split
  · omega
  · next h => exact hG.2 _ (by have := exe_rng hG hx; omega)
theorem nx_ok {G : GV} (hG : vG G) {x : Nat × Bool} (hx : x.1 < nC G) : (nx G x).1 < nC G ∧ exe G.1 G.2.1 (rho (nx G x)).1 (rho (nx G x)).2 = exe G.1 G.2.1 x.1 x.2 ∧ nx G (rho (nx G x)) = rho x ∧ nx G x ≠ rho x := by
  have hk := exk_rng hG hx
  have hz : exk G x = (((exk G x).toNat : Nat) : Int) := by omega
  have h0 := nxk_ok G.1 hG.1.le.1 G.2.1 hG.1.le.2 x.1 hx x.2 (exk G x).toNat (by omega) (fun h => by
    have : exk G x = 2 := if_pos h
    omega)
  rw [← hz] at h0
  obtain ⟨h1, h2, h3, h4⟩ := h0
  have h5 : exk G (rho (nx G x)) = exk G x := by
    unfold exk
    rw [show exe G.1 G.2.1 (rho (nx G x)).1 (rho (nx G x)).2 = exe G.1 G.2.1 x.1 x.2 from h2]
  refine ⟨h1, h2, ?_, h4⟩
  show nxk G.1 G.2.1 (exk G (rho (nx G x))) _ _ = _
  rw [h5]
  exact h3
theorem nx_inj {G : GV} (hG : vG G) {x y : Nat × Bool} (hx : x.1 < nC G) (hy : y.1 < nC G) (h : nx G x = nx G y) : x = y := by
  have h1 := (nx_ok hG hx).2.2.1
  have h2 := (nx_ok hG hy).2.2.1
  rw [h] at h1
  rw [h1] at h2
  rw [← rho_rho x, h2, rho_rho]
/-- i steps on -/
def nxi (G : GV) : Nat → Nat × Bool → Nat × Bool
  | 0, x => x
  | i + 1, x => nx G (nxi G i x)
theorem nxi_lt {G : GV} (hG : vG G) {x : Nat × Bool} (hx : x.1 < nC G) : ∀ i, (nxi G i x).1 < nC G
  | 0 => hx
  | i + 1 => (nx_ok hG (nxi_lt hG hx i)).1
theorem nxi_add (G : GV) (x : Nat × Bool) : ∀ i j, nxi G (i + j) x = nxi G j (nxi G i x)
  | i, 0 => rfl
  | i, j + 1 => by
    show nx G (nxi G (i + j) x) = nx G (nxi G j (nxi G i x))
    rw [nxi_add G x i j]
theorem nxi_inj {G : GV} (hG : vG G) {x y : Nat × Bool} (hx : x.1 < nC G) (hy : y.1 < nC G) : ∀ i, nxi G i x = nxi G i y → x = y
  | 0, h => h
  | i + 1, h => nxi_inj hG hx hy i (nx_inj hG (nxi_lt hG hx i) (nxi_lt hG hy i) h)
/-- no corner is gone through in both ways -/
theorem nxi_rho {G : GV} (hG : vG G) : ∀ (i : Nat) (x : Nat × Bool), x.1 < nC G → nxi G i x ≠ rho x
  | 0, x, hx => fun h => rho_ne x h.symm
  | 1, x, hx => (nx_ok hG hx).2.2.2
  | i + 2, x, hx => fun h => by
    have h1 : nxi G (i + 1) (nx G x) = nx G (rho (nx G x)) := by
      rw [(nx_ok hG hx).2.2.1, ← h]
      have := nxi_add G x 1 (i + 1)
      rw [show 1 + (i + 1) = i + 2 by omega] at this
      exact this.symm
    have hy := (nx_ok hG hx).1
    have h2 : nxi G i (nx G x) = rho (nx G x) := nx_inj hG (nxi_lt hG hy i) (show (rho (nx G x)).1 < nC G from hy) h1
    exact nxi_rho hG i (nx G x) hy h2
/-- a list of different numbers below n has at most n -/
theorem nodup_le : ∀ (n : Nat) (l : List Nat), l.Nodup → (∀ x ∈ l, x < n) → l.length ≤ n
  | 0, l, _, h => by
    cases l with
    | nil => exact Nat.le_refl 0
    | cons a r => exact absurd (h a List.mem_cons_self) (Nat.not_lt_zero a)
  | n + 1, l, hl, h => by
    have h1 : (l.erase n).Nodup := hl.erase n
    have h2 := nodup_le n (l.erase n) h1 (fun x hx => by
      have h3 := h x (List.mem_of_mem_erase hx)
      have h4 : x ≠ n := fun e => by
        subst e
        exact (List.Nodup.mem_erase_iff hl).mp hx |>.1 rfl
      omega)
    rw [List.length_erase] at h2
    split at h2 <;> omega
theorem nxi_dis {G : GV} (hG : vG G) {x : Nat × Bool} (hx : x.1 < nC G) {i j : Nat} (hij : i < j) (h : (nxi G i x).1 = (nxi G j x).1) : nxi G (j - i) x = x := by
  have h1 : nxi G j x = nxi G (j - i) (nxi G i x) := by rw [← nxi_add, show i + (j - i) = j by omega]
  have hy := nxi_lt hG hx i
  have h2 : nxi G (j - i) (nxi G i x) = nxi G i x ∨ nxi G (j - i) (nxi G i x) = rho (nxi G i x) := by
    rw [← h1]
    by_cases hb : (nxi G j x).2 = (nxi G i x).2
    · exact Or.inl (Prod.ext h.symm hb)
    · refine Or.inr (Prod.ext h.symm ?_)
      show (nxi G j x).2 = !(nxi G i x).2
      cases h3 : (nxi G j x).2 <;> cases h4 : (nxi G i x).2 <;> simp [h3, h4] at hb ⊢
  rcases h2 with h2 | h2
  · rw [← nxi_add, show i + (j - i) = (j - i) + i by omega, nxi_add] at h2
    exact nxi_inj hG (nxi_lt hG hx _) hx i h2
  · exact absurd h2 (nxi_rho hG _ _ hy)
theorem nxi_back {G : GV} (hG : vG G) {x : Nat × Bool} (hx : x.1 < nC G) : ∃ i, i < nC G ∧ (nxi G (i + 1) x).1 = x.1 := by
  apply Classical.byContradiction
  intro hno
  have hno : ∀ i, i < nC G → (nxi G (i + 1) x).1 ≠ x.1 := fun i hi h => hno ⟨i, hi, h⟩
  have h1 : ((List.range (nC G + 1)).map (fun i => (nxi G i x).1)).Nodup := by
    unfold List.Nodup
    rw [List.pairwise_map]
    refine List.Pairwise.imp_of_mem (R := fun a b => a < b) ?_ List.pairwise_lt_range
    intro a b ha hb hab h
    have h2 := nxi_dis hG hx hab h
    have h3 := List.mem_range.mp hb
    have h4 := hno (b - a - 1) (by omega)
    rw [show b - a - 1 + 1 = b - a by omega, h2] at h4
    exact h4 rfl
  have h2 := nodup_le (nC G) _ h1 (fun y hy => by
    obtain ⟨i, -, rfl⟩ := List.mem_map.mp hy
    exact nxi_lt hG hx i)
  rw [List.length_map, List.length_range] at h2
  omega
