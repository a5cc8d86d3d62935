/-! ===== the reference: what stays, what changes ===== -/
theorem upN {P : Nat → Prop} {n : Nat} (hend : P n) (hstep : ∀ e, e < n → P (e + 1) → P e) : ∀ e, e ≤ n → P e := by
  intro e he
  obtain ⟨d, hd⟩ := Nat.exists_eq_add_of_le he
  clear he
  induction d generalizing e with
  | zero =>
    have : e = n := by omega
    rw [this]
    exact hend
  | succ d ih => exact hstep e (by omega) (ih (e + 1) (by omega))
theorem b1 {A B : Prop} (h : B) : ((1 : Int) = 0 → A) ∧ (¬ (1 : Int) = 0 → B) := ⟨fun q => absurd q (by decide), fun _ => h⟩
theorem b0 {A B : Prop} (h : A) : ((0 : Int) = 0 → A) ∧ (¬ (0 : Int) = 0 → B) := ⟨fun _ => h, fun q => absurd rfl q⟩
def fr (l fl : List Nat) (m m' : MM) : Prop := (∀ a, a ≠ 158 → a ∉ l → m' a = m a) ∧ (∀ j, j ∉ fl → m' 158 j = m 158 j)
section FR
variable {l fl : List Nat} {m m1 m2 : MM}
theorem fr.refl : fr l fl m m := ⟨fun _ _ _ => rfl, fun _ _ => rfl⟩
theorem fr.trans (h1 : fr l fl m m1) (h2 : fr l fl m1 m2) : fr l fl m m2 := ⟨fun a h h' => (h2.1 a h h').trans (h1.1 a h h'), fun j h => (h2.2 j h).trans (h1.2 j h)⟩
theorem fr.mono {l2 fl2 : List Nat} (h : fr l fl m m1) (h1 : ∀ a ∈ l, a ∈ l2) (h2 : ∀ a ∈ fl, a ∈ fl2) : fr l2 fl2 m m1 := ⟨fun a q q' => h.1 a q (fun z => q' (h1 a z)), fun j q => h.2 j (fun z => q (h2 j z))⟩
theorem fr.upa {F : Nat → Int} (h : fr l fl m m1) (a : Nat) (ha : a ∈ l) (h8 : a ≠ 158) : fr l fl m (up m1 a F) := ⟨fun b q q' => by
  rw [up_ne (show b ≠ a from fun e => q' (by rw [e]; exact ha))]
  exact h.1 b q q', fun j q => by
  rw [up_ne (fun e => h8 e.symm)]
  exact h.2 j q⟩
theorem fr.up8 {F : Nat → Int} (h : fr l fl m m1) (hF : ∀ j, j ∉ fl → F j = m1 158 j) : fr l fl m (up m1 158 F) := ⟨fun b q q' => by
  rw [up_ne q]
  exact h.1 b q q', fun j q => by
  rw [up_self, hF j q]
  exact h.2 j q⟩
theorem fr.upf {j : Nat} {v : Int} (h : fr l fl m m1) (hj : j ∈ fl) : fr l fl m (up m1 158 (up (m1 158) j v)) := h.up8 (fun i hi => up_ne (show i ≠ j from fun e => hi (by rw [e]; exact hj)))
end FR
/-- three grids in a row of 78 numbers -/
def EN (row : Nat → Int) (g : Nat → GV) : Prop := ∀ s, s < 3 → row (26 * s) = (g s).1 ∧ row (26 * s + 1) = (g s).2.1 ∧ ∀ e, e < 24 → row (26 * s + 2 + e) = (g s).2.2 e
/-- a grid whose numbers beyond its edges are 0 -/
def nG (G : GV) : Prop := ∀ e, gn G.1 G.2.1 ≤ e → G.2.2 e = 0
def isG (g : Nat → GV) (s : Int) : Prop := 0 ≤ s ∧ s < 3 ∧ 0 < (g s.toNat).1
/-- the shape that the reference looks at; the grid -/
def RSh (m : MM) (R C : Nat) : Prop := m 158 4 = (R : Int) ∧ m 158 5 = (C : Int) ∧ m 158 6 = (gn R C : Int) ∧ (∀ e, e < gn R C → m 163 e = (gcell R C e : Int) ∧ m 164 e = (gbel R C e : Int)) ∧ ∀ s, s < 2 * (R * C) → m 165 s = geb R C s
def RG (m : MM) (G : GV) : Prop := RSh m G.1 G.2.1 ∧ (∀ e, e < gn G.1 G.2.1 → m 162 e = G.2.2 e) ∧ vG G ∧ 0 < G.1
theorem RSh.fr {m m1 : MM} {R C : Nat} {l fl : List Nat} (h : RSh m R C) (hf : fr l fl m m1) (h1 : 163 ∉ l) (h2 : 164 ∉ l) (h3 : 165 ∉ l) (h4 : 4 ∉ fl) (h5 : 5 ∉ fl) (h6 : 6 ∉ fl) : RSh m1 R C := by
  obtain ⟨a, b, c, d, e⟩ := h
  refine ⟨(hf.2 4 h4).trans a, (hf.2 5 h5).trans b, (hf.2 6 h6).trans c, fun q hq => ?_, fun s hs => ?_⟩
  · rw [hf.1 163 (by decide) h1, hf.1 164 (by decide) h2]
    exact d q hq
  · rw [hf.1 165 (by decide) h3]
    exact e s hs
theorem RG.fr {m m1 : MM} {G : GV} {l fl : List Nat} (h : RG m G) (hf : fr l fl m m1) (h0 : 162 ∉ l) (h1 : 163 ∉ l) (h2 : 164 ∉ l) (h3 : 165 ∉ l) (h4 : 4 ∉ fl) (h5 : 5 ∉ fl) (h6 : 6 ∉ fl) : RG m1 G := by
  refine ⟨h.1.fr hf h1 h2 h3 h4 h5 h6, fun e he => ?_, h.2.2⟩
  rw [hf.1 162 (by decide) h0]
  exact h.2.1 e he
/-- spots, in their order -/
def isSp (R C s : Nat) : Bool := if s % 2 = 0 then decide ((s / 2) % C + 1 < C) else decide ((s / 2) / C + 1 < R)
def spn (R C s : Nat) : Nat := ((List.range s).filter (isSp R C)).length
theorem spn_succ (R C s : Nat) : spn R C (s + 1) = spn R C s + (if isSp R C s then 1 else 0) := by
  unfold spn
  rw [List.range_succ, List.filter_append, List.length_append]
  congr 1
  cases h : isSp R C s <;> simp [h]
theorem spn_D : ∀ R, R ≤ 4 → ∀ C, C ≤ 4 → (∀ s, s < 2 * (R * C) → geb R C s = (if isSp R C s then (spn R C s : Int) else -1) ∧ (isSp R C s = true → spn R C s < 24 ∧ gcell R C (spn R C s) = s / 2 ∧ gbel R C (spn R C s) = s % 2)) ∧ spn R C (2 * (R * C)) = gn R C := by decide +kernel
section R0
variable {E : am_E} {k : Nat} {m : MM} {γ : GM} {t : am_H}
theorem S_in {Q : Int → MM → GM → am_H → Prop} {v lo hi : Int} (h1 : rK v) (h2 : rK lo) (h3 : rK hi) (q1 : lo ≤ v ∧ v ≤ hi → Q 1 m γ t) (q0 : ¬ (lo ≤ v ∧ v ≤ hi) → Q 0 m γ t) : TI E k 192 [.long (lI v), .long (lI lo), .long (lI hi)] m γ t Q := by
  refine vc_X9_in h1 h2 h3 ?_
  have a1 : lcI v lo < 0 ↔ v < lo := by unfold lcI; split; omega; split <;> omega
  have a2 : lcI v hi ≤ 0 ↔ v ≤ hi := by unfold lcI; split; omega; split <;> omega
  unfold W_X9_in
  rw [a1, a2]
  exact ⟨fun c => q0 (by omega), fun c => ⟨fun c2 => q1 (by omega), fun c2 => q0 (by omega)⟩⟩
theorem S_isSlot {Q : Int → MM → GM → am_H → Prop} {s : Int} (h1 : rJ s) (q1 : 0 ≤ s ∧ s < 3 → Q 1 m γ t) (q0 : ¬ (0 ≤ s ∧ s < 3) → Q 0 m γ t) : TI E (k + 1) 194 [.int (iI s)] m γ t Q :=
  vc_X9_isSlot h1 (S_in (by omega) (by decide) (by decide) (fun c => ⟨Or.inr rfl, q1 (by omega)⟩) (fun c => ⟨Or.inl rfl, q0 (by omega)⟩))
theorem S_isGrid {Q : Int → MM → GM → am_H → Prop} {g : Nat → GV} {s : Int} (he : EN (m 159) g) (h1 : rJ s) (q1 : isG g s → Q 1 m γ t) (q0 : ¬ isG g s → Q 0 m γ t) : TI E (k + 2) 195 [.ref 158, .int (iI s)] m γ t Q := by
  refine vc_X9_isGrid h1 (S_isSlot h1 (fun c => b1 ⟨by omega, fun c2 => q0 ?_, fun c2 => q1 ?_⟩) (fun c => b0 (q0 ?_)))
  · have := (he s.toNat (by omega)).1
    rw [show (26 * s).toNat = 26 * s.toNat by omega, this] at c2
    unfold isG
    omega
  · have := (he s.toNat (by omega)).1
    rw [show (26 * s).toNat = 26 * s.toNat by omega, this] at c2
    unfold isG
    omega
  · unfold isG
    omega
theorem S_remembers {Q : MM → GM → am_H → Prop} (hQ : ∀ m1, fr [160] [] m m1 → (∀ j, j < 78 → m1 160 j = m 159 j) → Q m1 γ t) : TV E k 196 [.ref 158] m γ t Q := by
  refine vc_X9_remembers ?_
  refine upN (n := 78) (P := fun e => ∀ m1, fr [160] [] m m1 → (∀ j, j < e → m1 160 j = m 159 j) → hd_X9_remembers_2 E k (e : Int) m1 γ t Q) ?_ ?_ 0 (by decide) m fr.refl (fun j hj => absurd hj (Nat.not_lt_zero j))
  · intro m1 hf h1
    refine vc_X9_remembers_2 (by omega) ⟨fun c => absurd c (by omega), fun c => hQ m1 hf h1⟩
  · intro e he ih m1 hf h1
    refine vc_X9_remembers_2 (by omega) ⟨fun c => ⟨by omega, by omega, ?_⟩, fun c => absurd c (by omega)⟩
    refine ih _ (hf.upa 160 (by decide) (by decide)) (fun j hj => ?_)
    rw [up_self, Int.toNat_natCast]
    unfold up
    split
    · next h => rw [h, hf.1 159 (by decide) (by decide)]
    · exact h1 j (by omega)
theorem S_cells {Q : Int → MM → GM → am_H → Prop} {R C : Nat} (h : RSh m R C) (hR : R ≤ 4) (hC : C ≤ 4) (hQ : Q ((R * C : Nat) : Int) m γ t) : TI E k 203 [.ref 158] m γ t Q := by
  have hRC : R * C ≤ 4 * 4 := Nat.mul_le_mul hR hC
  refine vc_X9_cells ?_
  unfold W_X9_cells
  rw [h.1, h.2.1, show (R : Int) * (C : Int) = ((R * C : Nat) : Int) by simp]
  exact ⟨by omega, hQ⟩
theorem S_isCross {Q : Int → MM → GM → am_H → Prop} {x : Int} (h : rJ x) (q1 : x = 0 ∨ x = 1 → Q 1 m γ t) (q0 : ¬ (x = 0 ∨ x = 1) → Q 0 m γ t) : TI E k 204 [.int (iI x)] m γ t Q := by
  refine vc_X9_isCross h ?_
  exact ⟨fun c => q1 (Or.inl c), fun c => ⟨fun c2 => q1 (Or.inr c2), fun c2 => q0 (fun z => z.elim c c2)⟩⟩
theorem S_many {Q : Int → MM → GM → am_H → Prop} {x : Int} {n : Nat} (hx : rJ x) (hn : m 158 6 = (n : Int)) (h24 : n ≤ 24) (hQ : Q (cnt (m 162) x n) m γ t) : TI E k 205 [.ref 158, .int (iI x)] m γ t Q := by
  refine vc_X9_many hx ?_
  have hr := cnt_rng (m 162) x
  refine upN (n := n) (P := fun e => hd_X9_many_4 E k x x (cnt (m 162) x e) (e : Int) m γ t Q) ?_ ?_ 0 (Nat.zero_le _)
  · have := hr n
    exact vc_X9_many_4 hx hx (by omega) (by omega) ⟨fun c => absurd c (by omega), fun c => hQ⟩
  · intro e he ih
    have := hr e
    refine vc_X9_many_4 hx hx (by omega) (by omega) ⟨fun c => ⟨by omega, fun c2 => ?_, fun c2 => ?_⟩, fun c => absurd c (by omega)⟩
    · rw [Int.toNat_natCast] at c2
      have h2 : cnt (m 162) x (e + 1) = cnt (m 162) x e + 1 := by simp only [cnt, if_pos c2]
      rw [h2] at ih
      exact ih
    · rw [Int.toNat_natCast] at c2
      have h2 : cnt (m 162) x (e + 1) = cnt (m 162) x e + 0 := by simp only [cnt, if_neg c2]
      rw [h2] at ih
      exact ih
theorem S_crosses {Q : Int → MM → GM → am_H → Prop} {n : Nat} (hn : m 158 6 = (n : Int)) (h24 : n ≤ 24) (hQ : Q (cnt (m 162) 0 n + cnt (m 162) 1 n) m γ t) : TI E (k + 1) 206 [.ref 158] m γ t Q := by
  have h0 := cnt_rng (m 162) 0 n
  have h1 := cnt_rng (m 162) 1 n
  exact vc_X9_crosses (S_many (by decide) hn h24 (S_many (by decide) hn h24 ⟨by omega, hQ⟩))
theorem S_behind {Q : Int → MM → GM → am_H → Prop} {R C e : Nat} (h : RSh m R C) (hR : R ≤ 4) (hC : C ≤ 4) (he : e < gn R C) (hQ : Q ((gcell R C e + (if gbel R C e = 1 then C else 1) : Nat) : Int) m γ t) : TI E k 207 [.ref 158, .int (iI (e : Int))] m γ t Q := by
  have hn := gn_le R hR C hC
  have hg := gsp_lt R hR C hC e he
  have hce : gcell R C e < 16 := by unfold gcell; omega
  obtain ⟨h1, h2⟩ := h.2.2.2.1 e he
  refine vc_X9_behind (by omega) ⟨by omega, by omega, ?_⟩
  rw [Int.toNat_natCast, h1, h2, h.2.1]
  refine ⟨fun c => ?_, fun c => ?_⟩
  · rw [if_pos (by omega)] at hQ
    exact ⟨by omega, by rw [← Int.natCast_add]; exact hQ⟩
  · rw [if_neg (by omega)] at hQ
    exact ⟨by omega, by rw [show (gcell R C e : Int) + 1 = ((gcell R C e + 1 : Nat) : Int) by omega]; exact hQ⟩
end R0
def ShI (m : MM) (R C s : Nat) (m1 : MM) : Prop := fr [163, 164, 165] [4, 5, 6] m m1 ∧ m1 158 4 = (R : Int) ∧ m1 158 5 = (C : Int) ∧ m1 158 6 = (spn R C s : Int) ∧ (∀ s', s' < s → m1 165 s' = geb R C s') ∧ (∀ s', s' < s → isSp R C s' = true → m1 163 (spn R C s') = (gcell R C (spn R C s') : Int) ∧ m1 164 (spn R C s') = (gbel R C (spn R C s') : Int))
theorem spn_mono {R C s s' : Nat} (h : s' < s) (hs : isSp R C s' = true) : spn R C s' < spn R C s := by
  induction s with
  | zero => omega
  | succ s ih =>
    rw [spn_succ]
    rcases Nat.lt_or_ge s' s with h1 | h1
    · have := ih h1
      omega
    · have : s' = s := by omega
      rw [← this, hs]
      simp
theorem ShI_yes {m m1 : MM} {R C s : Nat} (hR : R ≤ 4) (hC : C ≤ 4) (hs : s < 2 * (R * C)) (h : ShI m R C s m1) (hp : isSp R C s = true) : ShI m R C (s + 1) (up (up (up (up m1 165 (up (m1 165) ((((2 * ((s / 2 : Nat) : Int)) + ((s % 2 : Nat) : Int))).toNat) (m1 158 6))) 163 (up (m1 163) (((m1 158 6)).toNat) ((s / 2 : Nat) : Int))) 164 (up (m1 164) (((m1 158 6)).toNat) ((s % 2 : Nat) : Int))) 158 (up (m1 158) 6 ((m1 158 6) + 1))) := by
  obtain ⟨h1, h2, h3, h4, h5, h6⟩ := h
  obtain ⟨d1, d2⟩ := (spn_D R hR C hC).1 s hs
  obtain ⟨d3, d4, d5⟩ := d2 hp
  rw [hp, if_pos rfl] at d1
  refine ⟨?_, h2, h3, ?_, ?_, ?_⟩
  · exact (((h1.upa 165 (by decide) (by decide)).upa 163 (by decide) (by decide)).upa 164 (by decide) (by decide)).up8 (fun j hj => up_ne (show j ≠ 6 from fun e => hj (by rw [e]; decide)))
  · show m1 158 6 + 1 = _
    rw [spn_succ, hp, if_pos rfl, h4]
    omega
  · intro s' hs'
    show up (m1 165) ((((2 * ((s / 2 : Nat) : Int)) + ((s % 2 : Nat) : Int))).toNat) (m1 158 6) s' = _
    rw [show (((2 * ((s / 2 : Nat) : Int)) + ((s % 2 : Nat) : Int))).toNat = s by omega]
    unfold up
    split
    · next e => rw [e, h4, d1]
    · exact h5 s' (by omega)
  · intro s' hs' hp'
    show up (m1 163) (((m1 158 6)).toNat) ((s / 2 : Nat) : Int) (spn R C s') = _ ∧ up (m1 164) (((m1 158 6)).toNat) ((s % 2 : Nat) : Int) (spn R C s') = _
    rw [h4, Int.toNat_natCast]
    by_cases e : s' = s
    · subst e
      rw [up_self, up_self, d4, d5]
      exact ⟨rfl, rfl⟩
    · have := spn_mono (show s' < s by omega) hp'
      rw [up_ne (by omega), up_ne (by omega)]
      exact h6 s' (by omega) hp'
theorem ShI_no {m m1 : MM} {R C s : Nat} (hR : R ≤ 4) (hC : C ≤ 4) (hs : s < 2 * (R * C)) (h : ShI m R C s m1) (hp : isSp R C s = false) : ShI m R C (s + 1) (up m1 165 (up (m1 165) ((((2 * ((s / 2 : Nat) : Int)) + ((s % 2 : Nat) : Int))).toNat) (-1))) := by
  obtain ⟨h1, h2, h3, h4, h5, h6⟩ := h
  obtain ⟨d1, d2⟩ := (spn_D R hR C hC).1 s hs
  rw [hp] at d1
  refine ⟨h1.upa 165 (by decide) (by decide), h2, h3, ?_, ?_, ?_⟩
  · show m1 158 6 = _
    rw [spn_succ, hp, h4]
    rfl
  · intro s' hs'
    show up (m1 165) ((((2 * ((s / 2 : Nat) : Int)) + ((s % 2 : Nat) : Int))).toNat) (-1) s' = _
    rw [show (((2 * ((s / 2 : Nat) : Int)) + ((s % 2 : Nat) : Int))).toNat = s by omega]
    unfold up
    split
    · next e => rw [e, d1]; rfl
    · exact h5 s' (by omega)
  · intro s' hs' hp'
    have : s' ≠ s := fun e => by
      rw [e, hp] at hp'
      cases hp'
    exact h6 s' (by omega) hp'
theorem spn_inv : ∀ R, R ≤ 4 → ∀ C, C ≤ 4 → ∀ e, e < gn R C → gsp R C e < 2 * (R * C) ∧ isSp R C (gsp R C e) = true ∧ spn R C (gsp R C e) = e := by decide +kernel
theorem S_shapes {E : am_E} {k : Nat} {m : MM} {γ : GM} {t : am_H} {Q : MM → GM → am_H → Prop} {R C : Nat} (hR : 1 ≤ R ∧ R ≤ 4) (hC : 1 ≤ C ∧ C ≤ 4) (hQ : ∀ m1, fr [163, 164, 165] [4, 5, 6] m m1 → RSh m1 R C → Q m1 γ t) : TV E k 200 [.ref 158, .int (iI (R : Int)), .int (iI (C : Int))] m γ t Q := by
  refine vc_X9_shapes (by omega) (by omega) ?_
  have hRC : R * C ≤ 4 * 4 := Nat.mul_le_mul hR.2 hC.2
  have hRC2 : (R : Int) * (C : Int) = ((R * C : Nat) : Int) := by simp
  obtain ⟨hD, hDn⟩ := spn_D R hR.2 C hC.2
  have hle : ∀ s, s < 2 * (R * C) → isSp R C s = true → spn R C s < 24 := fun s h1 h2 => ((hD s h1).2 h2).1
  have adv : ∀ s, s < 2 * (R * C) → ∀ m1, (if s + 1 < 2 * (R * C) then hd_X9_shapes_27 E k R C R C (((s + 1) / 2 : Nat) : Int) (((s + 1) % 2 : Nat) : Int) m1 γ t Q else hd_X9_shapes_17 E k R C R C ((R * C : Nat) : Int) m1 γ t Q) → hd_X9_shapes_27 E k R C R C ((s / 2 : Nat) : Int) (((s % 2 : Nat) : Int) + 1) m1 γ t Q := by
    intro s hs m1 hn
    rcases Nat.mod_two_eq_zero_or_one s with h2 | h2
    · rw [if_pos (by omega), show (s + 1) / 2 = s / 2 by omega, show (s + 1) % 2 = 1 by omega] at hn
      rw [h2]
      exact hn
    · rw [h2]
      refine vc_X9_shapes_27 (by omega) (by omega) (by omega) (by omega) (by omega) (by omega) ⟨fun c => absurd c (by omega), fun c => ?_⟩
      split at hn
      · refine vc_X9_shapes_17 (by omega) (by omega) (by omega) (by omega) (by omega) ?_
        unfold W_X9_shapes_17
        rw [hRC2]
        refine ⟨by omega, fun c => ?_, fun c => absurd c (by omega)⟩
        rw [show (s + 1) % 2 = 0 by omega, show (((s + 1) / 2 : Nat) : Int) = ((s / 2 : Nat) : Int) + 1 by omega] at hn
        exact hn
      · rw [show ((R * C : Nat) : Int) = ((s / 2 : Nat) : Int) + 1 by omega] at hn
        exact hn
  have main : ∀ s, s ≤ 2 * (R * C) → ∀ m1, ShI m R C s m1 → (if s < 2 * (R * C) then hd_X9_shapes_27 E k R C R C ((s / 2 : Nat) : Int) ((s % 2 : Nat) : Int) m1 γ t Q else hd_X9_shapes_17 E k R C R C ((R * C : Nat) : Int) m1 γ t Q) := by
    refine upN ?_ ?_
    · intro m1 hI
      rw [if_neg (Nat.lt_irrefl _)]
      refine vc_X9_shapes_17 (by omega) (by omega) (by omega) (by omega) (by omega) ?_
      unfold W_X9_shapes_17
      rw [hRC2]
      refine ⟨by omega, fun c => absurd c (by omega), fun c => hQ m1 hI.1 ⟨hI.2.1, hI.2.2.1, by rw [hI.2.2.2.1, hDn], fun e he => ?_, hI.2.2.2.2.1⟩⟩
      obtain ⟨i1, i2, i3⟩ := spn_inv R hR.2 C hC.2 e he
      have := hI.2.2.2.2.2 _ i1 i2
      rw [i3] at this
      exact this
    · intro s hs ih m1 hI
      rw [if_pos hs]
      have hI6 := hI.2.2.2.1
      refine vc_X9_shapes_27 (by omega) (by omega) (by omega) (by omega) (by omega) (by omega) ⟨fun c => ⟨fun c2 => ⟨by omega, by omega, ?_⟩, fun c2 => ⟨by omega, by omega, ?_⟩⟩, fun c => absurd c (by omega)⟩
      · have hm : (((s / 2 : Nat) : Int) % (C : Int)) = (((s / 2) % C : Nat) : Int) := by simp
        have hlt := Nat.mod_lt (s / 2) (show 0 < C by omega)
        rw [hm]
        refine ⟨by omega, by omega, fun c3 => ?_, fun c3 => ?_⟩
        · have hp : isSp R C s = true := by unfold isSp; rw [if_pos (by omega)]; exact decide_eq_true (by omega)
          have h24 := hle s hs hp
          exact ⟨by omega, by omega, by omega, by omega, adv s hs _ (ih _ (ShI_yes hR.2 hC.2 hs hI hp))⟩
        · have hp : isSp R C s = false := by unfold isSp; rw [if_pos (by omega)]; exact decide_eq_false (by omega)
          exact ⟨by omega, adv s hs _ (ih _ (ShI_no hR.2 hC.2 hs hI hp))⟩
      · obtain ⟨q, hq⟩ : ∃ q, q = s / 2 / C := ⟨_, rfl⟩
        have hm : (((s / 2 : Nat) : Int) / (C : Int)) = (q : Int) := by rw [hq]; simp
        have hlt : q ≤ s / 2 := by rw [hq]; exact Nat.div_le_self (s / 2) C
        rw [hm]
        refine ⟨by omega, by omega, fun c3 => ?_, fun c3 => ?_⟩
        · have hp : isSp R C s = true := by unfold isSp; rw [if_neg (by omega), ← hq]; exact decide_eq_true (by omega)
          have h24 := hle s hs hp
          exact ⟨by omega, by omega, by omega, by omega, adv s hs _ (ih _ (ShI_yes hR.2 hC.2 hs hI hp))⟩
        · have hp : isSp R C s = false := by unfold isSp; rw [if_neg (by omega), ← hq]; exact decide_eq_false (by omega)
          exact ⟨by omega, adv s hs _ (ih _ (ShI_no hR.2 hC.2 hs hI hp))⟩
  have hpos : 0 < R * C := Nat.mul_pos (by omega) (by omega)
  have h0 := main 0 (by omega) _ (show ShI m R C 0 (up (up (up m 158 (up (m 158) 4 R)) 158 (up (up (m 158) 4 R) 5 C)) 158 (up (up (up (m 158) 4 R) 5 C) 6 0)) from ⟨((fr.refl.up8 (fun j hj => up_ne (show j ≠ 4 from fun e => hj (by rw [e]; decide)))).up8 (fun j hj => by
      rw [up_ne (show j ≠ 5 from fun e => hj (by rw [e]; decide))]; rfl)).up8 (fun j hj => by rw [up_ne (show j ≠ 6 from fun e => hj (by rw [e]; decide))]; rfl), rfl, rfl, rfl, fun s hs => absurd hs (Nat.not_lt_zero _), fun s hs => absurd hs (Nat.not_lt_zero _)⟩)
  rw [if_pos (by omega)] at h0
  refine vc_X9_shapes_17 (by omega) (by omega) (by omega) (by omega) (by omega) ?_
  unfold W_X9_shapes_17
  rw [hRC2]
  exact ⟨by omega, fun c => h0, fun c => absurd c (by omega)⟩
