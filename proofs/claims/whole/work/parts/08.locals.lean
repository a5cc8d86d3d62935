theorem am_get_lt : ∀ {L : am_L} {i : Nat} {v : Value}, am_get L i = some v → i < L.length
  | [], i, v, h => by simp [am_get] at h
  | o :: r, 0, v, h => by simp
  | o :: r, i + 1, v, h => by
    have := am_get_lt (L := r) (i := i) (v := v) h
    simp only [List.length_cons]
    omega
theorem am_put1_spec : ∀ {L L' : am_L} {i : Nat} {v : Value}, am_put1 L i v = some L' → i < L.length ∧ L'.length = L.length ∧ ∀ j w, am_get L' j = some w → (j = i ∧ w = v) ∨ (j ≠ i ∧ am_get L j = some w ∧ ¬ (j + 1 = i ∧ w.category = 2))
  | [], L', i, v, h => by simp [am_put1] at h
  | o :: r, L', 0, v, h => by
    simp only [am_put1, Option.some.injEq] at h
    subst h
    refine ⟨by simp, by simp, fun j w hj => ?_⟩
    cases j with
    | zero =>
      simp only [am_get, Option.some.injEq] at hj
      exact Or.inl ⟨rfl, hj.symm⟩
    | succ j => exact Or.inr ⟨by omega, hj, by omega⟩
  | o :: r, L', i + 1, v, h => by
    simp only [am_put1] at h
    cases hr : am_put1 r i v with
    | none => simp [hr] at h
    | some r' =>
      simp only [hr, Option.some.injEq] at h
      subst h
      obtain ⟨h1, h2, h3⟩ := am_put1_spec hr
      refine ⟨by simp only [List.length_cons]; omega, by simp only [List.length_cons]; omega, fun j w hj => ?_⟩
      cases j with
      | zero =>
        simp only [am_get] at hj
        by_cases hb : (i == 0 && am_c2 o) = true
        · simp [hb] at hj
        · simp only [Bool.not_eq_true] at hb
          simp only [hb, cond_false] at hj
          refine Or.inr ⟨by omega, hj, ?_⟩
          rintro ⟨q1, q2⟩
          have hi : i = 0 := by omega
          subst hi
          subst hj
          simp [am_c2, q2] at hb
      | succ j =>
        rcases h3 j w hj with ⟨q1, q2⟩ | ⟨q1, q2, q3⟩
        · exact Or.inl ⟨by omega, q2⟩
        · exact Or.inr ⟨by omega, q2, fun z => q3 ⟨by omega, z.2⟩⟩
theorem am_put2_spec : ∀ {L L' : am_L} {i : Nat} {v : Value}, am_put2 L i v = some L' → i + 1 < L.length ∧ L'.length = L.length ∧ ∀ j w, am_get L' j = some w → (j = i ∧ w = v) ∨ (j ≠ i ∧ j ≠ i + 1 ∧ am_get L j = some w ∧ ¬ (j + 1 = i ∧ w.category = 2))
  | [], L', i, v, h => by simp [am_put2] at h
  | [o], L', 0, v, h => by simp [am_put2] at h
  | o :: o2 :: r, L', 0, v, h => by
    simp only [am_put2, Option.some.injEq] at h
    subst h
    refine ⟨by simp, by simp, fun j w hj => ?_⟩
    match j, hj with
    | 0, hj =>
      simp only [am_get, Option.some.injEq] at hj
      exact Or.inl ⟨rfl, hj.symm⟩
    | 1, hj => simp [am_get] at hj
    | j + 2, hj => exact Or.inr ⟨by omega, by omega, hj, by omega⟩
  | o :: r, L', i + 1, v, h => by
    simp only [am_put2] at h
    cases hr : am_put2 r i v with
    | none => simp [hr] at h
    | some r' =>
      simp only [hr, Option.some.injEq] at h
      subst h
      obtain ⟨h1, h2, h3⟩ := am_put2_spec hr
      refine ⟨by simp only [List.length_cons]; omega, by simp only [List.length_cons]; omega, fun j w hj => ?_⟩
      cases j with
      | zero =>
        simp only [am_get] at hj
        by_cases hb : (i == 0 && am_c2 o) = true
        · simp [hb] at hj
        · simp only [Bool.not_eq_true] at hb
          simp only [hb, cond_false] at hj
          refine Or.inr ⟨by omega, by omega, hj, ?_⟩
          rintro ⟨q1, q2⟩
          have hi : i = 0 := by omega
          subst hi
          subst hj
          simp [am_c2, q2] at hb
      | succ j =>
        rcases h3 j w hj with ⟨q1, q2⟩ | ⟨q1, q2, q3, q4⟩
        · exact Or.inl ⟨by omega, q2⟩
        · exact Or.inr ⟨by omega, by omega, q3, fun z => q4 ⟨by omega, z.2⟩⟩
/-- the locals as the kit lists them -/
def am_ps (ρ : Nat → Nat) (L : am_L) : List (Nat × Value) := (List.range L.length).filterMap (fun i => (am_get L i).map (fun v => (i, am_tv ρ v)))
theorem am_ps_mem {ρ : Nat → Nat} {L : am_L} {i : Nat} {v : Value} (h : am_get L i = some v) : (i, am_tv ρ v) ∈ am_ps ρ L :=
  List.mem_filterMap.mpr ⟨i, List.mem_range.mpr (am_get_lt h), by rw [h]; rfl⟩
theorem am_ps_has {ρ : Nat → Nat} {ls : Array Slot} {nL : Nat} {L : am_L} (h : am_Lr ρ ls nL L) : lv_has ls nL (am_ps ρ L) := by
  refine ⟨h.2.1, h.2.2.1, fun q hq => ?_⟩
  obtain ⟨i, -, hi⟩ := List.mem_filterMap.mp hq
  cases hv : am_get L i with
  | none => rw [hv] at hi; cases hi
  | some v =>
    rw [hv] at hi
    cases hi
    exact h.2.2.2 i v hv
theorem am_store1 {ρ : Nat → Nat} {ls ls' : Array Slot} {nL i : Nat} {L L' : am_L} {v : Value} (hL : am_Lr ρ ls nL L) (hp : am_put1 L i v = some L')
    (h : lv_has ls' nL ((i, am_tv ρ v) :: (am_ps ρ L).filter (fun q => !(q.1 == i) && !(q.1 + 1 == i && q.2.category == 2)))) : am_Lr ρ ls' nL L' := by
  obtain ⟨h1, h2, h3⟩ := am_put1_spec hp
  refine ⟨h2.trans hL.1, h.1, h.2.1, fun j w hj => ?_⟩
  rcases h3 j w hj with ⟨rfl, rfl⟩ | ⟨q1, q2, q3⟩
  · exact h.2.2 _ List.mem_cons_self
  · refine h.2.2 (j, am_tv ρ w) (List.mem_cons_of_mem _ (List.mem_filter.mpr ⟨am_ps_mem q2, ?_⟩))
    simp only [am_tv_cat]
    simp only [Bool.and_eq_true, Bool.not_eq_true', beq_eq_false_iff_ne, ne_eq, Bool.and_eq_false_iff]
    exact ⟨q1, by rcases Classical.em (j + 1 = i) with z | z; exact Or.inr (fun y => q3 ⟨z, y⟩); exact Or.inl z⟩
theorem am_store2 {ρ : Nat → Nat} {ls ls' : Array Slot} {nL i : Nat} {L L' : am_L} {v : Value} (hL : am_Lr ρ ls nL L) (hp : am_put2 L i v = some L')
    (h : lv_has ls' nL ((i, am_tv ρ v) :: (am_ps ρ L).filter (fun q => !(q.1 == i) && (!(q.1 == i + 1) && !(q.1 + 1 == i && q.2.category == 2))))) : am_Lr ρ ls' nL L' := by
  obtain ⟨h1, h2, h3⟩ := am_put2_spec hp
  refine ⟨h2.trans hL.1, h.1, h.2.1, fun j w hj => ?_⟩
  rcases h3 j w hj with ⟨rfl, rfl⟩ | ⟨q1, q0, q2, q3⟩
  · exact h.2.2 _ List.mem_cons_self
  · refine h.2.2 (j, am_tv ρ w) (List.mem_cons_of_mem _ (List.mem_filter.mpr ⟨am_ps_mem q2, ?_⟩))
    simp only [am_tv_cat]
    simp only [Bool.and_eq_true, Bool.not_eq_true', beq_eq_false_iff_ne, ne_eq, Bool.and_eq_false_iff]
    exact ⟨q1, q0, by rcases Classical.em (j + 1 = i) with z | z; exact Or.inr (fun y => q3 ⟨z, y⟩); exact Or.inl z⟩
theorem am_okL_put1 {n i : Nat} {L L' : am_L} {v : Value} (ho : am_okL n L) (hv : am_vok n v) (hp : am_put1 L i v = some L') : am_okL n L' := fun j w hj => by
  rcases (am_put1_spec hp).2.2 j w hj with ⟨-, rfl⟩ | ⟨-, q, -⟩
  · exact hv
  · exact ho j w q
theorem am_okL_put2 {n i : Nat} {L L' : am_L} {v : Value} (ho : am_okL n L) (hv : am_vok n v) (hp : am_put2 L i v = some L') : am_okL n L' := fun j w hj => by
  rcases (am_put2_spec hp).2.2 j w hj with ⟨-, rfl⟩ | ⟨-, -, q, -⟩
  · exact hv
  · exact ho j w q
/-- at a method's entry -/
theorem am_entry_lr {ρ : Nat → Nat} {vs : List Value} {n : Nat} (h : (am_sl vs).length ≤ n) : am_Lr ρ ((lg_sl (vs.map (am_tv ρ)) ++ List.replicate (n - (lg_sl (vs.map (am_tv ρ))).length) Slot.unset).toArray) n (am_entry vs n) := by
  have hg : ∀ (ws : List Value) (k : Nat) (i : Nat) (v : Value), am_get (am_sl ws ++ List.replicate k none) i = some v → (lg_sl (ws.map (am_tv ρ)) ++ List.replicate k Slot.unset)[i]? = some (.val (am_tv ρ v)) := by
    intro ws
    induction ws with
    | nil =>
      intro k i v hi
      exfalso
      have : ∀ (k i : Nat), am_get (List.replicate k none) i = none := by
        intro k
        induction k with
        | zero => intro i; cases i <;> rfl
        | succ k ih => intro i; cases i with
          | zero => rfl
          | succ i => exact ih i
      simp only [am_sl, List.flatMap_nil, List.nil_append] at hi
      rw [this] at hi
      cases hi
    | cons w ws ih =>
      intro k i v hi
      rcases lv_cat w with hc | hc
      · have e1 : am_sl (w :: ws) = some w :: am_sl ws := by simp [am_sl, hc]
        have e2 : lg_sl ((w :: ws).map (am_tv ρ)) = .val (am_tv ρ w) :: lg_sl (ws.map (am_tv ρ)) := by simp [lg_sl, am_tv_cat, hc]
        rw [e1] at hi
        rw [e2]
        cases i with
        | zero =>
          simp only [List.cons_append, am_get, Option.some.injEq] at hi
          subst hi
          rfl
        | succ i =>
          simp only [List.cons_append, am_get] at hi
          simp only [List.cons_append, List.getElem?_cons_succ]
          exact ih k i v hi
      · have e1 : am_sl (w :: ws) = some w :: none :: am_sl ws := by simp [am_sl, hc]
        have e2 : lg_sl ((w :: ws).map (am_tv ρ)) = .val (am_tv ρ w) :: .second :: lg_sl (ws.map (am_tv ρ)) := by simp [lg_sl, am_tv_cat, hc]
        rw [e1] at hi
        rw [e2]
        match i, hi with
        | 0, hi =>
          simp only [List.cons_append, am_get, Option.some.injEq] at hi
          subst hi
          rfl
        | 1, hi => simp [am_get] at hi
        | i + 2, hi =>
          simp only [List.cons_append, am_get] at hi
          simp only [List.cons_append, List.getElem?_cons_succ]
          exact ih k i v hi
  have hlen : ∀ ws : List Value, (lg_sl (ws.map (am_tv ρ))).length = (am_sl ws).length := by
    intro ws
    induction ws with
    | nil => rfl
    | cons w ws ih =>
      rcases lv_cat w with hc | hc <;> simp [lg_sl, am_sl, am_tv_cat, hc] at ih ⊢ <;> exact ih
  have hE := lv_entry (vs.map (am_tv ρ)) (n := n) (by rw [hlen]; exact h)
  refine ⟨?_, hE.1, hE.2.1, fun i v hi => ?_⟩
  · unfold am_entry
    rw [List.length_append, List.length_replicate]
    omega
  · have := hg vs (n - (am_sl vs).length) i v hi
    rw [hlen, List.getElem?_toArray]
    exact this
theorem am_entry_ok {n k : Nat} {vs : List Value} (h : am_okS n vs) : am_okL n (am_entry vs k) := by
  have : ∀ (ws : List Value) (k i : Nat) (v : Value), am_get (am_sl ws ++ List.replicate k none) i = some v → v ∈ ws := by
    intro ws
    induction ws with
    | nil =>
      intro k
      induction k with
      | zero => intro i v hi; cases i <;> simp [am_sl, am_get] at hi
      | succ k ih => intro i v hi; cases i with
        | zero => simp [am_sl, am_get, List.replicate_succ] at hi
        | succ i =>
          simp only [am_sl, List.flatMap_nil, List.nil_append, List.replicate_succ, am_get] at hi
          exact ih i v (by simpa only [am_sl, List.flatMap_nil, List.nil_append] using hi)
    | cons w ws ih =>
      intro k i v hi
      rcases lv_cat w with hc | hc
      · have e1 : am_sl (w :: ws) = some w :: am_sl ws := by simp [am_sl, hc]
        rw [e1] at hi
        cases i with
        | zero =>
          simp only [List.cons_append, am_get, Option.some.injEq] at hi
          subst hi
          exact List.mem_cons_self
        | succ i => exact List.mem_cons_of_mem _ (ih k i v hi)
      · have e1 : am_sl (w :: ws) = some w :: none :: am_sl ws := by simp [am_sl, hc]
        rw [e1] at hi
        match i, hi with
        | 0, hi =>
          simp only [List.cons_append, am_get, Option.some.injEq] at hi
          subst hi
          exact List.mem_cons_self
        | 1, hi => simp [am_get] at hi
        | i + 2, hi => exact List.mem_cons_of_mem _ (ih k i v hi)
  exact fun i v hv => h v (this vs _ i v hv)
