/-! ===== the reference: what stays, what changes ===== -/
theorem upN {P : Nat → Prop} {n : Nat} (hend : P n) (hstep : ∀ e, e < n → P (e + 1) → P e) : ∀ e, e ≤ n → P e := by
  intro e he
  obtain ⟨d, hd⟩ := Nat.exists_eq_add_of_le he
  clear he
  induction d generalizing e with
  | zero =>
    have : e = n := by omega
    rw [this]
    exact hend
  | succ d ih => exact hstep e (by omega) (ih (e + 1) (by omega))
theorem b1 {A B : Prop} (h : B) : ((1 : Int) = 0 → A) ∧ (¬ (1 : Int) = 0 → B) := ⟨fun q => absurd q (by decide), fun _ => h⟩
theorem b0 {A B : Prop} (h : A) : ((0 : Int) = 0 → A) ∧ (¬ (0 : Int) = 0 → B) := ⟨fun _ => h, fun q => absurd rfl q⟩
def fr (l fl : List Nat) (m m' : MM) : Prop := (∀ a, a ≠ 158 → a ∉ l → m' a = m a) ∧ (∀ j, j ∉ fl → m' 158 j = m 158 j)
section FR
variable {l fl : List Nat} {m m1 m2 : MM}
theorem fr.refl : fr l fl m m := ⟨fun _ _ _ => rfl, fun _ _ => rfl⟩
theorem fr.trans (h1 : fr l fl m m1) (h2 : fr l fl m1 m2) : fr l fl m m2 := ⟨fun a h h' => (h2.1 a h h').trans (h1.1 a h h'), fun j h => (h2.2 j h).trans (h1.2 j h)⟩
theorem fr.mono {l2 fl2 : List Nat} (h : fr l fl m m1) (h1 : ∀ a ∈ l, a ∈ l2) (h2 : ∀ a ∈ fl, a ∈ fl2) : fr l2 fl2 m m1 := ⟨fun a q q' => h.1 a q (fun z => q' (h1 a z)), fun j q => h.2 j (fun z => q (h2 j z))⟩
theorem fr.up {a : Nat} {F : Nat → Int} (h : fr l fl m m1) (ha : a ∈ l) (h8 : a ≠ 158) : fr l fl m (up m1 a F) := ⟨fun b q q' => by
  rw [up_ne (fun e => q' (e ▸ ha))]
  exact h.1 b q q', fun j q => by
  rw [up_ne (fun e => h8 e.symm)]
  exact h.2 j q⟩
theorem fr.up8 {F : Nat → Int} (h : fr l fl m m1) (hF : ∀ j, j ∉ fl → F j = m1 158 j) : fr l fl m (_root_.up m1 158 F) := ⟨fun b q q' => by
  rw [up_ne q]
  exact h.1 b q q', fun j q => by
  rw [up_self, hF j q]
  exact h.2 j q⟩
theorem fr.upf {j : Nat} {v : Int} (h : fr l fl m m1) (hj : j ∈ fl) : fr l fl m (_root_.up m1 158 (_root_.up (m1 158) j v)) := h.up8 (fun i hi => up_ne (fun e => hi (e ▸ hj)))
end FR
/-- three grids in a row of 78 numbers -/
def EN (row : Nat → Int) (g : Nat → GV) : Prop := ∀ s, s < 3 → row (26 * s) = (g s).1 ∧ row (26 * s + 1) = (g s).2.1 ∧ ∀ e, e < 24 → row (26 * s + 2 + e) = (g s).2.2 e
/-- a grid whose numbers beyond its edges are 0 -/
def nG (G : GV) : Prop := ∀ e, gn G.1 G.2.1 ≤ e → G.2.2 e = 0
def isG (g : Nat → GV) (s : Int) : Prop := 0 ≤ s ∧ s < 3 ∧ 0 < (g s.toNat).1
/-- the shape that the reference looks at; the grid -/
def RSh (m : MM) (R C : Nat) : Prop := m 158 4 = (R : Int) ∧ m 158 5 = (C : Int) ∧ m 158 6 = (gn R C : Int) ∧ (∀ e, e < gn R C → m 163 e = (gcell R C e : Int) ∧ m 164 e = (gbel R C e : Int)) ∧ ∀ s, s < 2 * (R * C) → m 165 s = geb R C s
def RG (m : MM) (G : GV) : Prop := RSh m G.1 G.2.1 ∧ (∀ e, e < gn G.1 G.2.1 → m 162 e = G.2.2 e) ∧ vG G ∧ 0 < G.1
theorem RSh.fr {m m1 : MM} {R C : Nat} {l fl : List Nat} (h : RSh m R C) (hf : fr l fl m m1) (h1 : 163 ∉ l) (h2 : 164 ∉ l) (h3 : 165 ∉ l) (h4 : 4 ∉ fl) (h5 : 5 ∉ fl) (h6 : 6 ∉ fl) : RSh m1 R C := by
  obtain ⟨a, b, c, d, e⟩ := h
  refine ⟨(hf.2 4 h4).trans a, (hf.2 5 h5).trans b, (hf.2 6 h6).trans c, fun q hq => ?_, fun s hs => ?_⟩
  · rw [hf.1 163 (by decide) h1, hf.1 164 (by decide) h2]
    exact d q hq
  · rw [hf.1 165 (by decide) h3]
    exact e s hs
theorem RG.fr {m m1 : MM} {G : GV} {l fl : List Nat} (h : RG m G) (hf : fr l fl m m1) (h0 : 162 ∉ l) (h1 : 163 ∉ l) (h2 : 164 ∉ l) (h3 : 165 ∉ l) (h4 : 4 ∉ fl) (h5 : 5 ∉ fl) (h6 : 6 ∉ fl) : RG m1 G := by
  refine ⟨h.1.fr hf h1 h2 h3 h4 h5 h6, fun e he => ?_, h.2.2⟩
  rw [hf.1 162 (by decide) h0]
  exact h.2.1 e he
/-- spots, in their order -/
def isSp (R C s : Nat) : Bool := if s % 2 = 0 then decide ((s / 2) % C + 1 < C) else decide ((s / 2) / C + 1 < R)
def spn (R C s : Nat) : Nat := ((List.range s).filter (isSp R C)).length
theorem spn_succ (R C s : Nat) : spn R C (s + 1) = spn R C s + (if isSp R C s then 1 else 0) := by
  unfold spn
  rw [List.range_succ, List.filter_append, List.length_append]
  congr 1
  cases h : isSp R C s <;> simp [h]
theorem spn_D : ∀ R, R ≤ 4 → ∀ C, C ≤ 4 → (∀ s, s < 2 * (R * C) → geb R C s = (if isSp R C s then (spn R C s : Int) else -1) ∧ (isSp R C s = true → spn R C s < 24 ∧ gcell R C (spn R C s) = s / 2 ∧ gbel R C (spn R C s) = s % 2)) ∧ spn R C (2 * (R * C)) = gn R C := by decide +kernel
section R0
variable {E : am_E} {k : Nat} {m : MM} {γ : GM} {t : am_H}
theorem S_in {Q : Int → MM → GM → am_H → Prop} {v lo hi : Int} (h1 : rK v) (h2 : rK lo) (h3 : rK hi) (q1 : lo ≤ v ∧ v ≤ hi → Q 1 m γ t) (q0 : ¬ (lo ≤ v ∧ v ≤ hi) → Q 0 m γ t) : TI E k 192 [.long (lI v), .long (lI lo), .long (lI hi)] m γ t Q := by
  refine vc_X9_in h1 h2 h3 ?_
  have a1 : lcI v lo < 0 ↔ v < lo := by unfold lcI; split; omega; split <;> omega
  have a2 : lcI v hi ≤ 0 ↔ v ≤ hi := by unfold lcI; split; omega; split <;> omega
  unfold W_X9_in
  rw [a1, a2]
  exact ⟨fun c => q0 (by omega), fun c => ⟨fun c2 => q1 (by omega), fun c2 => q0 (by omega)⟩⟩
theorem S_isSlot {Q : Int → MM → GM → am_H → Prop} {s : Int} (h1 : rJ s) (q1 : 0 ≤ s ∧ s < 3 → Q 1 m γ t) (q0 : ¬ (0 ≤ s ∧ s < 3) → Q 0 m γ t) : TI E (k + 1) 194 [.int (iI s)] m γ t Q :=
  vc_X9_isSlot h1 (S_in (by omega) (by decide) (by decide) (fun c => ⟨Or.inr rfl, q1 (by omega)⟩) (fun c => ⟨Or.inl rfl, q0 (by omega)⟩))
theorem S_isGrid {Q : Int → MM → GM → am_H → Prop} {g : Nat → GV} {s : Int} (he : EN (m 159) g) (h1 : rJ s) (q1 : isG g s → Q 1 m γ t) (q0 : ¬ isG g s → Q 0 m γ t) : TI E (k + 2) 195 [.ref 158, .int (iI s)] m γ t Q := by
  refine vc_X9_isGrid h1 (S_isSlot h1 (fun c => b1 ⟨by omega, fun c2 => q0 ?_, fun c2 => q1 ?_⟩) (fun c => b0 (q0 ?_)))
  · have := (he s.toNat (by omega)).1
    rw [show (26 * s).toNat = 26 * s.toNat by omega, this] at c2
    unfold isG
    omega
  · have := (he s.toNat (by omega)).1
    rw [show (26 * s).toNat = 26 * s.toNat by omega, this] at c2
    unfold isG
    omega
  · unfold isG
    omega
theorem S_remembers {Q : MM → GM → am_H → Prop} (hQ : ∀ m1, fr [160] [] m m1 → (∀ j, j < 78 → m1 160 j = m 159 j) → Q m1 γ t) : TV E k 196 [.ref 158] m γ t Q := by
  refine vc_X9_remembers ?_
  refine upN (n := 78) (P := fun e => ∀ m1, fr [160] [] m m1 → (∀ j, j < e → m1 160 j = m 159 j) → hd_X9_remembers_2 E k (e : Int) m1 γ t Q) ?_ ?_ 0 (by decide) m fr.refl (fun j hj => absurd hj (Nat.not_lt_zero j))
  · intro m1 hf h1
    refine vc_X9_remembers_2 (by omega) ⟨fun c => absurd c (by omega), fun c => hQ m1 hf h1⟩
  · intro e he ih m1 hf h1
    refine vc_X9_remembers_2 (by omega) ⟨fun c => ⟨by omega, by omega, ?_⟩, fun c => absurd c (by omega)⟩
    refine ih _ (hf.up (by decide) (by decide)) (fun j hj => ?_)
    rw [up_self, Int.toNat_natCast]
    unfold up
    split
    · next h => rw [h, hf.1 159 (by decide) (by decide)]
    · exact h1 j (by omega)
theorem S_cells {Q : Int → MM → GM → am_H → Prop} {R C : Nat} (h : RSh m R C) (hR : R ≤ 4) (hC : C ≤ 4) (hQ : Q ((R * C : Nat) : Int) m γ t) : TI E k 203 [.ref 158] m γ t Q := by
  have hRC : R * C ≤ 4 * 4 := Nat.mul_le_mul hR hC
  refine vc_X9_cells ?_
  unfold W_X9_cells
  rw [h.1, h.2.1, show (R : Int) * (C : Int) = ((R * C : Nat) : Int) by simp]
  exact ⟨by omega, hQ⟩
theorem S_isCross {Q : Int → MM → GM → am_H → Prop} {x : Int} (h : rJ x) (q1 : x = 0 ∨ x = 1 → Q 1 m γ t) (q0 : ¬ (x = 0 ∨ x = 1) → Q 0 m γ t) : TI E k 204 [.int (iI x)] m γ t Q := by
  refine vc_X9_isCross h ?_
  exact ⟨fun c => q1 (Or.inl c), fun c => ⟨fun c2 => q1 (Or.inr c2), fun c2 => q0 (fun z => z.elim c c2)⟩⟩
theorem S_many {Q : Int → MM → GM → am_H → Prop} {x : Int} {n : Nat} (hx : rJ x) (hn : m 158 6 = (n : Int)) (h24 : n ≤ 24) (hQ : Q (cnt (m 162) x n) m γ t) : TI E k 205 [.ref 158, .int (iI x)] m γ t Q := by
  refine vc_X9_many hx ?_
  have hr := cnt_rng (m 162) x
  refine upN (n := n) (P := fun e => hd_X9_many_4 E k x x (cnt (m 162) x e) (e : Int) m γ t Q) ?_ ?_ 0 (Nat.zero_le _)
  · have := hr n
    exact vc_X9_many_4 hx hx (by omega) (by omega) ⟨fun c => absurd c (by omega), fun c => hQ⟩
  · intro e he ih
    have := hr e
    refine vc_X9_many_4 hx hx (by omega) (by omega) ⟨fun c => ⟨by omega, fun c2 => ?_, fun c2 => ?_⟩, fun c => absurd c (by omega)⟩
    · rw [Int.toNat_natCast] at c2
      have h2 : cnt (m 162) x (e + 1) = cnt (m 162) x e + 1 := by simp only [cnt, if_pos c2]
      rw [h2] at ih
      exact ih
    · rw [Int.toNat_natCast] at c2
      have h2 : cnt (m 162) x (e + 1) = cnt (m 162) x e + 0 := by simp only [cnt, if_neg c2]
      rw [h2] at ih
      exact ih
theorem S_crosses {Q : Int → MM → GM → am_H → Prop} {n : Nat} (hn : m 158 6 = (n : Int)) (h24 : n ≤ 24) (hQ : Q (cnt (m 162) 0 n + cnt (m 162) 1 n) m γ t) : TI E (k + 1) 206 [.ref 158] m γ t Q := by
  have h0 := cnt_rng (m 162) 0 n
  have h1 := cnt_rng (m 162) 1 n
  exact vc_X9_crosses (S_many (by decide) hn h24 (S_many (by decide) hn h24 ⟨by omega, hQ⟩))
theorem S_behind {Q : Int → MM → GM → am_H → Prop} {R C e : Nat} (h : RSh m R C) (hR : R ≤ 4) (hC : C ≤ 4) (he : e < gn R C) (hQ : Q ((gcell R C e + (if gbel R C e = 1 then C else 1) : Nat) : Int) m γ t) : TI E k 207 [.ref 158, .int (iI (e : Int))] m γ t Q := by
  have hn := gn_le R hR C hC
  have hg := gsp_lt R hR C hC e he
  have hce : gcell R C e < 16 := by unfold gcell; omega
  obtain ⟨h1, h2⟩ := h.2.2.2.1 e he
  refine vc_X9_behind (by omega) ⟨by omega, by omega, ?_⟩
  rw [Int.toNat_natCast, h1, h2, h.2.1]
  refine ⟨fun c => ?_, fun c => ?_⟩
  · rw [if_pos (by omega)] at hQ
    exact ⟨by omega, by rw [← Int.natCast_add]; exact hQ⟩
  · rw [if_neg (by omega)] at hQ
    exact ⟨by omega, by rw [show (gcell R C e : Int) + 1 = ((gcell R C e + 1 : Nat) : Int) by omega]; exact hQ⟩
theorem S_shapes {Q : MM → GM → am_H → Prop} {R C : Nat} (hR : 1 ≤ R ∧ R ≤ 4) (hC : 1 ≤ C ∧ C ≤ 4) (hQ : ∀ m1, fr [163, 164, 165] [4, 5, 6] m m1 → RSh m1 R C → Q m1 γ t) : TV E k 200 [.ref 158, .int (iI (R : Int)), .int (iI (C : Int))] m γ t Q := by
  refine vc_X9_shapes (by omega) (by omega) ?_
  have hRC : R * C ≤ 4 * 4 := Nat.mul_le_mul hR.2 hC.2
  have hRC2 : (R : Int) * (C : Int) = ((R * C : Nat) : Int) := by simp
  obtain ⟨hD, hDn⟩ := spn_D R hR.2 C hC.2
  have inner : ∀ s, s ≤ 2 * (R * C) → ∀ m1, fr [163, 164, 165] [4, 5, 6] m m1 → m1 158 4 = (R : Int) → m1 158 5 = (C : Int) → m1 158 6 = (spn R C s : Int) → (∀ s', s' < s → m1 165 s' = geb R C s') → (∀ s', s' < s → isSp R C s' = true → m1 163 (spn R C s') = (gcell R C (spn R C s') : Int) ∧ m1 164 (spn R C s') = (gbel R C (spn R C s') : Int)) →
      (s % 2 = 0 → hd_X9_shapes_17 E k R C R C ((s / 2 : Nat) : Int) m1 γ t Q) ∧ (s % 2 = 1 → hd_X9_shapes_27 E k R C R C ((s / 2 : Nat) : Int) ((s % 2 : Nat) : Int) m1 γ t Q) := by
    sorry
  sorry
end R0
