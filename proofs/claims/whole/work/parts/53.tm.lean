/-! ===== rows written along a list ===== -/
def fu {α : Type} (i : α → Nat) (v : α → Int) (F : Nat → Int) (l : List α) : Nat → Int := l.foldl (fun F x => up F (i x) (v x)) F
theorem fu_app {α : Type} {i : α → Nat} {v : α → Int} {F : Nat → Int} {l : List α} {x : α} : fu i v F (l ++ [x]) = up (fu i v F l) (i x) (v x) := by
  unfold fu
  rw [List.foldl_append]
  rfl
theorem fu_out {α : Type} {i : α → Nat} {v : α → Int} {c : Nat} : ∀ {l : List α} {F : Nat → Int}, (∀ x ∈ l, i x ≠ c) → fu i v F l c = F c
  | [], F, _ => rfl
  | a :: r, F, h => by
    show fu i v (up F (i a) (v a)) r c = F c
    rw [fu_out (fun x hx => h x (List.mem_cons_of_mem _ hx)), up_ne (Ne.symm (h a List.mem_cons_self))]
theorem fu_in {α : Type} {i : α → Nat} {v : α → Int} {c : Nat} : ∀ {l : List α}, (∃ x ∈ l, i x = c) → ∃ x ∈ l, i x = c ∧ ∀ F, fu i v F l c = v x
  | [], h => by
    obtain ⟨x, hx, -⟩ := h
    exact absurd hx List.not_mem_nil
  | a :: r, h => by
    by_cases hr : ∃ x ∈ r, i x = c
    · obtain ⟨x, h1, h2, h3⟩ := fu_in (v := v) hr
      exact ⟨x, List.mem_cons_of_mem _ h1, h2, fun F => h3 _⟩
    · have ha : i a = c := by
        obtain ⟨x, hx, e⟩ := h
        rcases List.mem_cons.mp hx with rfl | hx
        · exact e
        · exact absurd ⟨x, hx, e⟩ hr
      refine ⟨a, List.mem_cons_self, ha, fun F => ?_⟩
      show fu i v (up F (i a) (v a)) r c = v a
      rw [fu_out (fun x hx e => hr ⟨x, hx, e⟩), ← ha, up_self]
def lsF {α : Type} (f : α → Int) (l : List α) (F : Nat → Int) : Nat → Int := fun j => match l[j]? with
  | some x => f x
  | none => F j
theorem lsF_app {α : Type} {f : α → Int} {l : List α} {F : Nat → Int} {x : α} : lsF f (l ++ [x]) F = up (lsF f l F) l.length (f x) := by
  funext j
  unfold lsF up
  by_cases h : j = l.length
  · rw [if_pos h, h, List.getElem?_append_right (Nat.le_refl _), Nat.sub_self]
    rfl
  · rw [if_neg h]
    rcases Nat.lt_or_ge j l.length with h1 | h1
    · rw [List.getElem?_append_left h1]
    · have e1 : (l ++ [x])[j]? = none := List.getElem?_eq_none (by rw [List.length_append]; simp; omega)
      have e2 : l[j]? = none := List.getElem?_eq_none h1
      simp only [e1, e2]
theorem lsF_in {α : Type} {f : α → Int} {l : List α} {F : Nat → Int} {j : Nat} {x : α} (h : l[j]? = some x) : lsF f l F j = f x := by
  unfold lsF
  rw [h]
theorem lsF_out {α : Type} {f : α → Int} {l : List α} {F : Nat → Int} {j : Nat} (h : l.length ≤ j) : lsF f l F j = F j := by
  unfold lsF
  rw [List.getElem?_eq_none h]
/-- what a passing's cross is, and whether it is over -/
def pE (G : GV) (x : Nat × Bool) : Nat := (exe G.1 G.2.1 x.1 x.2).toNat
def pO (G : GV) (x : Nat × Bool) : Bool := ovr G.1 G.2.1 (exk G x) x.1 x.2
def pm (b : Bool) : Int := if b then 1 else -1
/-- the rows of Trace after what A tells, laid over m0 -/
def TM (G : GV) (m0 m : Nat → Nat → Int) (A : AS) : Prop :=
  m 15 = fu (fun x => x.2.2.1) (fun x => (x.1 : Int)) (m0 15) A.1 ∧ m 16 = fu (fun x => x.2.2.1) (fun x => (x.2.1 : Int)) (m0 16) A.1 ∧ m 17 = fu (fun x => x.2.2.1) (fun x => pm x.2.2.2) (m0 17) A.1 ∧ m 18 = lsF (fun x => (x.2.2.1 : Int)) A.1 (m0 18) ∧
  m 19 = lsF (fun n : Nat => (n : Int)) A.2.2.1 (m0 19) ∧ m 20 = lsF (fun y => (pE G y.2.2 : Int)) A.2.1 (m0 20) ∧ m 21 = lsF (fun y => (y.2.1 : Int)) A.2.1 (m0 21) ∧ m 22 = lsF (fun y => dX y.2.2.1 y.2.2.2) A.2.1 (m0 22) ∧ m 23 = lsF (fun y => dY y.2.2.1 y.2.2.2) A.2.1 (m0 23) ∧
  m 24 = lsF (fun n : Nat => (n : Int)) A.2.2.2 (m0 24) ∧ m 25 = fu (fun y => pE G y.2.2) (fun y => (y.1 : Int)) (m0 25) (A.2.1.filter (fun y => pO G y.2.2)) ∧ m 26 = fu (fun y => pE G y.2.2) (fun y => (y.1 : Int)) (m0 26) (A.2.1.filter (fun y => !pO G y.2.2)) ∧
  m 10 2 = (A.1.length : Int) ∧ m 10 3 = (A.2.1.length : Int)
def noteM (m : Nat → Nat → Int) (s i c n : Nat) (b : Bool) : Nat → Nat → Int :=
  up (up (up (up (up m 15 (up (m 15) c (s : Int))) 16 (up (m 16) c (i : Int))) 17 (up (m 17) c (pm b))) 18 (up (m 18) n (c : Int))) 10 (up (m 10) 2 ((n : Int) + 1))
def passM (m : Nat → Nat → Int) (s e j : Nat) (x y : Int) (o : Bool) : Nat → Nat → Int :=
  up (up (up (up (up (up m (if o then 25 else 26) (up (m (if o then 25 else 26)) e (j : Int))) 20 (up (m 20) j (e : Int))) 21 (up (m 21) j (s : Int))) 22 (up (m 22) j x)) 23 (up (m 23) j y)) 10 (up (m 10) 3 ((j : Int) + 1))
theorem TM_note {G : GV} {m0 m : Nat → Nat → Int} {A : AS} (h : TM G m0 m A) {s i c : Nat} {b : Bool} (hs : s = A.2.2.1.length - 1) (hc : isC G (c, b) = false) : TM G m0 (noteM m s i c A.1.length b) (nt G A i (c, b)) := by
  subst hs
  obtain ⟨h15, h16, h17, h18, h19, h20, h21, h22, h23, h24, h25, h26, h2, h3⟩ := h
  unfold nt
  rw [hc]
  refine ⟨?_, ?_, ?_, ?_, h19, h20, h21, h22, h23, h24, h25, h26, ?_, h3⟩
  · show up (m 15) c _ = _
    rw [fu_app, ← h15]
  · show up (m 16) c _ = _
    rw [fu_app, ← h16]
  · show up (m 17) c _ = _
    rw [fu_app, ← h17]
  · show up (m 18) A.1.length _ = _
    rw [lsF_app, ← h18]
  · show (A.1.length : Int) + 1 = _
    rw [List.length_append]
    simp
theorem TM_pass {G : GV} {m0 m : Nat → Nat → Int} {A : AS} (h : TM G m0 m A) {s i c : Nat} {b : Bool} (hs : s = A.2.2.1.length - 1) (hc : isC G (c, b) = true) : TM G m0 (passM (noteM m s i c A.1.length b) s (pE G (c, b)) A.2.1.length (dX c b) (dY c b) (pO G (c, b))) (nt G A i (c, b)) := by
  subst hs
  obtain ⟨h15, h16, h17, h18, h19, h20, h21, h22, h23, h24, h25, h26, h2, h3⟩ := h
  unfold nt
  rw [hc]
  cases ho : pO G (c, b)
  · refine ⟨?_, ?_, ?_, ?_, h19, ?_, ?_, ?_, ?_, h24, ?_, ?_, ?_, ?_⟩
    · show up (m 15) c _ = _
      rw [fu_app, ← h15]
    · show up (m 16) c _ = _
      rw [fu_app, ← h16]
    · show up (m 17) c _ = _
      rw [fu_app, ← h17]
    · show up (m 18) A.1.length _ = _
      rw [lsF_app, ← h18]
    · show up (m 20) A.2.1.length _ = lsF _ (A.2.1 ++ [_]) _
      rw [lsF_app, ← h20]
    · show up (m 21) A.2.1.length _ = lsF _ (A.2.1 ++ [_]) _
      rw [lsF_app, ← h21]
    · show up (m 22) A.2.1.length _ = lsF _ (A.2.1 ++ [_]) _
      rw [lsF_app, ← h22]
    · show up (m 23) A.2.1.length _ = lsF _ (A.2.1 ++ [_]) _
      rw [lsF_app, ← h23]
    · show m 25 = fu _ _ _ ((A.2.1 ++ [_]).filter _)
      rw [List.filter_append, List.filter_cons]
      simp only [ho, Bool.false_eq_true, if_false, List.filter_nil, List.append_nil]
      exact h25
    · show up (m 26) _ _ = fu _ _ _ ((A.2.1 ++ [_]).filter _)
      rw [List.filter_append, List.filter_cons]
      simp only [ho, Bool.not_false, if_true, List.filter_nil]
      rw [fu_app, ← h26]
    · show (A.1.length : Int) + 1 = _
      rw [List.length_append]
      simp
    · show (A.2.1.length : Int) + 1 = ((A.2.1 ++ [_]).length : Int)
      rw [List.length_append]
      simp
  · refine ⟨?_, ?_, ?_, ?_, h19, ?_, ?_, ?_, ?_, h24, ?_, ?_, ?_, ?_⟩
    · show up (m 15) c _ = _
      rw [fu_app, ← h15]
    · show up (m 16) c _ = _
      rw [fu_app, ← h16]
    · show up (m 17) c _ = _
      rw [fu_app, ← h17]
    · show up (m 18) A.1.length _ = _
      rw [lsF_app, ← h18]
    · show up (m 20) A.2.1.length _ = lsF _ (A.2.1 ++ [_]) _
      rw [lsF_app, ← h20]
    · show up (m 21) A.2.1.length _ = lsF _ (A.2.1 ++ [_]) _
      rw [lsF_app, ← h21]
    · show up (m 22) A.2.1.length _ = lsF _ (A.2.1 ++ [_]) _
      rw [lsF_app, ← h22]
    · show up (m 23) A.2.1.length _ = lsF _ (A.2.1 ++ [_]) _
      rw [lsF_app, ← h23]
    · show up (m 25) _ _ = fu _ _ _ ((A.2.1 ++ [_]).filter _)
      rw [List.filter_append, List.filter_cons]
      simp only [ho, if_true, List.filter_nil]
      rw [fu_app, ← h25]
    · show m 26 = fu _ _ _ ((A.2.1 ++ [_]).filter _)
      rw [List.filter_append, List.filter_cons]
      simp only [ho, Bool.not_true, Bool.false_eq_true, if_false, List.filter_nil, List.append_nil]
      exact h26
    · show (A.1.length : Int) + 1 = _
      rw [List.length_append]
      simp
    · show (A.2.1.length : Int) + 1 = ((A.2.1 ++ [_]).length : Int)
      rw [List.length_append]
      simp
/-- a strand begins -/
theorem TM_stt {G : GV} {m0 m : Nat → Nat → Int} {A : AS} (h : TM G m0 m A) (hl : A.2.2.2.length = A.2.2.1.length) : TM G m0 (up (up m 19 (up (m 19) A.2.2.1.length (A.1.length : Int))) 24 (up (m 24) A.2.2.1.length (A.2.1.length : Int))) (stt A) := by
  obtain ⟨h15, h16, h17, h18, h19, h20, h21, h22, h23, h24, h25, h26, h2, h3⟩ := h
  refine ⟨h15, h16, h17, h18, ?_, h20, h21, h22, h23, ?_, h25, h26, h2, h3⟩
  · show up (m 19) _ _ = lsF _ (A.2.2.1 ++ [_]) _
    rw [lsF_app, ← h19]
  · show up (m 24) _ _ = lsF _ (A.2.2.2 ++ [_]) _
    rw [lsF_app, ← h24, hl]
theorem exsT (c : Nat) : ((c : Int) + 1) % 4 = (exs c true : Int) := by
  show _ = (((c + 1) % 4 : Nat) : Int)
  omega
theorem exsF (c : Nat) : (c : Int) % 4 = (exs c false : Int) := by
  show _ = (((c + 0) % 4 : Nat) : Int)
  omega
theorem exs_lt (c : Nat) (b : Bool) : exs c b < 4 := Nat.mod_lt _ (by decide)
theorem nx_wall {G : GV} {c : Nat} {b : Bool} (h : exk G (c, b) = 2) : nx G (c, b) = (4 * (c / 4) + (if b then exs c b else (exs c b + 3) % 4), b) := by
  unfold nx nxk
  rw [if_pos h]
theorem nx_gap {G : GV} {c : Nat} {b : Bool} (h : exk G (c, b) = 3) : nx G (c, b) = (4 * byN G.2.1 (c / 4) (exs c b) + (if b then (exs c b + 2) % 4 else ((exs c b + 2) % 4 + 3) % 4), b) := by
  unfold nx nxk
  rw [if_neg (by omega), if_pos h]
theorem nx_cross {G : GV} {c : Nat} {b : Bool} (h : exk G (c, b) = 0 ∨ exk G (c, b) = 1) : nx G (c, b) = (4 * byN G.2.1 (c / 4) (exs c b) + (if b then ((exs c b + 2) % 4 + 3) % 4 else (exs c b + 2) % 4), !b) := by
  unfold nx nxk
  rw [if_neg (by omega), if_neg (by omega)]
theorem gBy_eq {R C c s : Nat} (hs : s < 4) (he : ges R C c s ≠ -1) : gBy C c s = (byN C c s : Int) := by
  unfold ges at he
  unfold gBy byN
  by_cases s0 : s = 0
  · subst s0
    rw [if_pos rfl] at he
    rw [if_pos (show ((0 : Nat) : Int) = 0 from rfl)]
    show (c : Int) - (C : Int) = ((c - C : Nat) : Int)
    by_cases h : C ≤ c
    · omega
    · rw [if_neg h] at he
      exact absurd rfl he
  · rw [if_neg s0] at he
    rw [if_neg s0, if_neg (by omega)]
    by_cases s1 : s = 1
    · subst s1
      rfl
    · rw [if_neg s1] at he
      rw [if_neg s1, if_neg (by omega)]
      by_cases s2 : s = 2
      · subst s2
        rfl
      · rw [if_neg s2] at he
        rw [if_neg s2, if_neg (by omega)]
        by_cases h : 0 < c % C
        · have : c % C ≤ c := Nat.mod_le c C
          omega
        · rw [if_neg h] at he
          exact absurd rfl he
theorem gbel_le (R C e : Nat) : gbel R C e ≤ 1 := by unfold gbel; omega
section GGI
variable {E : am_E} {k : Nat} {h : am_H} {g R C : Nat} {kd : Nat → Int}
theorem G_edgeOnSideI (G : GG h g R C kd) (z y : Int) (c s : Nat) (hz : z = (c : Int)) (hy : y = (s : Int)) (hc : c < R * C) (hs : s ≤ 3) : wp E (k + 2) 38 0 (am_entry [.ref g, .int (iI z), .int (iI y)] 3) [] h (aI (ges R C c s) h) := by
  subst hz hy
  exact G_edgeOnSide G c s hc hs
theorem G_kindOfI (G : GG h g R C kd) (z : Int) (h0 : 0 ≤ z) (h1 : z < gn R C) : wp E k 33 0 (am_entry [.ref g, .int (iI z)] 2) [] h (aI (kd z.toNat) h) := by
  have := G_kindOf (E := E) (k := k) G z.toNat (by omega)
  rwa [show ((z.toNat : Nat) : Int) = z by omega] at this
theorem G_belowOfI (G : GG h g R C kd) (z : Int) (h0 : 0 ≤ z) (h1 : z < gn R C) : wp E (k + 1) 36 0 (am_entry [.ref g, .int (iI z)] 2) [] h (aI (gbel R C z.toNat : Int) h) := by
  have := G_belowOf (E := E) (k := k) G z.toNat (by omega)
  rwa [show ((z.toNat : Nat) : Int) = z by omega] at this
theorem G_cellOfI (G : GG h g R C kd) (z : Int) (h0 : 0 ≤ z) (h1 : z < gn R C) : wp E (k + 1) 35 0 (am_entry [.ref g, .int (iI z)] 2) [] h (aI (gcell R C z.toNat : Int) h) := by
  have := G_cellOf (E := E) (k := k) G z.toNat (by omega)
  rwa [show ((z.toNat : Nat) : Int) = z by omega] at this
theorem GG.vg (G : GG h g R C kd) : vG (R, C, kd) := ⟨G.1, G.2.1⟩
end GGI
