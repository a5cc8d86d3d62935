theorem am_fld_ok {o idx : Nat} {q : Nat × Nat × Nat} (h : am_fld o idx = some q) : ∃ c, am_cls[q.1]? = some c ∧ q.2.1 < c.2.2 ∧ Cond.fieldLink (am_own.getD o "") idx (c.2.1 q.2.1).1 (c.2.1 q.2.1).2.1 (c.2.1 q.2.1).2.2.1 ∈ am_tb := by
  have hm := am_lookup_mem h
  have ho : o < 16 := Nat.not_le.mp fun z => by
    rw [show am_fldT.getD o [] = [] by rw [List.getD_eq_getElem?_getD, List.getElem?_eq_none (by simpa [am_fldT] using z)]; rfl] at hm
    cases hm
  have hc := List.all_eq_true.mp (List.all_eq_true.mp am_fchk_all o (List.mem_range.mpr ho)) _ hm
  unfold am_fchk at hc
  split at hc
  · next c hcl =>
    simp only [Bool.and_eq_true, decide_eq_true_eq] at hc
    exact ⟨c, hcl, hc.1, am_at_in hc.2⟩
  · cases hc
theorem am_cls_lt {ci : Nat} {c : vw_C} (h : am_cls[ci]? = some c) : ci < 10 := by
  have := (List.getElem?_eq_some_iff.mp h).1
  simpa [am_cls] using this
theorem am_lay_ok {ci : Nat} {c : vw_C} (h : am_cls[ci]? = some c) : ∀ w ∈ u_ws c.1 c.2.1 c.2.2, w ∈ am_tb := by
  intro w hw
  have hc := List.all_eq_true.mp am_lchk_all ci (List.mem_range.mpr (am_cls_lt h))
  unfold am_lchk at hc
  rw [h] at hc
  obtain ⟨k, hk, rfl⟩ := List.mem_map.mp hw
  exact am_at_in (List.all_eq_true.mp hc k hk)
theorem am_ty_ok {ci : Nat} {c : vw_C} {t : Nat → FieldType} (h : am_cls[ci]? = some c) (ht : am_tys[ci]? = some t) : (∀ k, k < c.2.2 → parseFieldDescriptor (c.2.1 k).2.2.1 = some (t k)) ∧ ∀ a, a < c.2.2 → ∀ b, b < c.2.2 → a ≠ b → (c.2.1 a).2.1 ≠ (c.2.1 b).2.1 := by
  have hl := am_cls_lt h
  match ci, h, ht, hl with
  | 0, h, ht, _ => cases h; cases ht; exact ⟨tyX0_ok, nmX0⟩
  | 1, h, ht, _ => cases h; cases ht; exact ⟨tyX1_ok, nmX1⟩
  | 2, h, ht, _ => cases h; cases ht; exact ⟨tyX2_ok, nmX2⟩
  | 3, h, ht, _ => cases h; cases ht; exact ⟨tyX3_ok, nmX3⟩
  | 4, h, ht, _ => cases h; cases ht; exact ⟨tyX4_ok, nmX4⟩
  | 5, h, ht, _ => cases h; cases ht; exact ⟨tyX5_ok, nmX5⟩
  | 6, h, ht, _ => cases h; cases ht; exact ⟨tyX6_ok, nmX6⟩
  | 7, h, ht, _ => cases h; cases ht; exact ⟨tyX7_ok, nmX7⟩
  | 8, h, ht, _ => cases h; cases ht; exact ⟨tyX8_ok, nmX8⟩
  | 9, h, ht, _ => cases h; cases ht; exact ⟨tyX9_ok, nmX9⟩
theorem am_new_ok {o idx : Nat} {q : Nat × Nat × Nat × Nat} (h : am_new o idx = some q) : ∃ c, am_cls[q.1]? = some c ∧ Cond.classLink (am_own.getD o "") idx c.1 ∈ am_tb ∧ Cond.instantiable c.1 c.2.2 ∈ am_tb ∧ Cond.initialized c.1 ∈ am_tb := by
  have hm := am_lookup_mem h
  have ho : o < 16 := Nat.not_le.mp fun z => by
    rw [show am_newT.getD o [] = [] by rw [List.getD_eq_getElem?_getD, List.getElem?_eq_none (by simpa [am_newT] using z)]; rfl] at hm
    cases hm
  have hc := List.all_eq_true.mp (List.all_eq_true.mp am_nchk_all o (List.mem_range.mpr ho)) _ hm
  unfold am_nchk at hc
  split at hc
  · next c hcl =>
    simp only [Bool.and_eq_true] at hc
    exact ⟨c, hcl, am_at_in hc.1.1, am_at_in hc.1.2, am_at_in hc.2⟩
  · cases hc
theorem am_lng_ok {o idx : Nat} {q : Int64 × Nat} (h : am_lng o idx = some q) : Cond.constantLong (am_own.getD o "") idx q.1 ∈ am_tb := by
  have hm := am_lookup_mem h
  have ho : o < 16 := Nat.not_le.mp fun z => by
    rw [show am_lngT.getD o [] = [] by rw [List.getD_eq_getElem?_getD, List.getElem?_eq_none (by simpa [am_lngT] using z)]; rfl] at hm
    cases hm
  exact am_at_in (List.all_eq_true.mp (List.all_eq_true.mp am_lgchk_all o (List.mem_range.mpr ho)) _ hm)
theorem am_str_ok {o idx k : Nat} (h : am_str o idx = some k) : ∃ t, am_txt[k]? = some t ∧ t.1 = o ∧ t.2.1 = idx := by
  have hm := am_lookup_mem h
  have ho : o < 16 := Nat.not_le.mp fun z => by
    rw [show am_strT.getD o [] = [] by rw [List.getD_eq_getElem?_getD, List.getElem?_eq_none (by simpa [am_strT] using z)]; rfl] at hm
    cases hm
  have hc := List.all_eq_true.mp (List.all_eq_true.mp am_schk_all o (List.mem_range.mpr ho)) _ hm
  unfold am_schk at hc
  split at hc
  · next t ht =>
    simp only [Bool.and_eq_true, decide_eq_true_eq] at hc
    exact ⟨t, ht, hc.1, hc.2⟩
  · cases hc
theorem am_mth_ok {o idx : Nat} {q : Nat × Nat × Nat} (h : am_mth o idx = some q) : (q.1 = 9999 ∧ Cond.methodLink (am_own.getD o "") idx Lib.objectInit ∈ am_tb) ∨ (q.1 < 322 ∧ ((q.2.1 = 0 ∧ Cond.methodLink (am_own.getD o "") idx (am_ys.getD q.1 yL_law) ∈ am_tb) ∨ q.2.1 = 1)) := by
  have hm := am_lookup_mem h
  have ho : o < 16 := Nat.not_le.mp fun z => by
    rw [show am_mthT.getD o [] = [] by rw [List.getD_eq_getElem?_getD, List.getElem?_eq_none (by simpa [am_mthT] using z)]; rfl] at hm
    cases hm
  have hc := List.all_eq_true.mp (List.all_eq_true.mp am_lkchk_all o (List.mem_range.mpr ho)) _ hm
  unfold am_lkchk at hc
  split at hc
  · next e => exact Or.inl ⟨e, am_at_in hc⟩
  · split at hc
    · next e =>
      simp only [Bool.and_eq_true, decide_eq_true_eq] at hc
      exact Or.inr ⟨hc.2, Or.inl ⟨e, am_at_in hc.1⟩⟩
    · simp only [Bool.and_eq_true, decide_eq_true_eq] at hc
      exact Or.inr ⟨hc.2, Or.inr hc.1.1⟩
theorem am_obj_ok : Cond.instanceMethod Lib.objectInit ∈ am_tb ∧ Cond.code Lib.objectInit ⟨#[0xb1]⟩ 1 none ∈ am_tb := ⟨List.mem_filter.mpr ⟨by decide +kernel, by decide +kernel⟩, List.mem_filter.mpr ⟨by decide +kernel, by decide +kernel⟩⟩
theorem am_arr_ok : ∀ t ∈ [FieldType.int, .long, .byte, .boolean], Cond.arrayClass t ∈ am_tb := by
  intro t ht
  refine List.mem_filter.mpr ⟨?_, rfl⟩
  revert t
  decide +kernel
theorem am_slk_ok : Cond.fieldLink RJ0 38 "java/lang/String" "COMPACT_STRINGS" "Z" ∈ am_tb ∧ Cond.fieldLink RJ0 1053 "jdk/internal/util/Preconditions" "SIOOBE_FORMATTER" "Ljava/util/function/BiFunction;" ∈ am_tb ∧ Cond.fieldLink RX7 121 "PegStrings$Trace" "SIDE_X" "[I" ∈ am_tb ∧ Cond.fieldLink RX7 124 "PegStrings$Trace" "SIDE_Y" "[I" ∈ am_tb ∧ Cond.fieldLink RJ0 9 "java/lang/String" "value" "[B" ∈ am_tb ∧ Cond.fieldLink RJ0 15 "java/lang/String" "coder" "B" ∈ am_tb :=
  ⟨am_at_in (k := 2142) (by decide +kernel), am_at_in (k := 2158) (by decide +kernel), am_at_in (k := 3094) (by decide +kernel), am_at_in (k := 3096) (by decide +kernel), am_at_in (k := 8156) (by decide +kernel), am_at_in (k := 8157) (by decide +kernel)⟩
theorem am_ks_in {κ : FieldType → ClassId} {t : FieldType} (h : t ∈ am_kt) : ∃ k : Nat, (am_ks κ)[k]? = some (κ t, t) := by
  obtain ⟨k, hk⟩ := List.getElem?_of_mem h
  exact ⟨k, by rw [am_ks, List.getElem?_map, hk]; rfl⟩
theorem am_dflt_len {ci : Nat} {c : vw_C} {t : Nat → FieldType} (h : am_cls[ci]? = some c) (ht : am_tys[ci]? = some t) : (am_dflt ci).length = c.2.2 ∧ ∀ k, k < c.2.2 → (am_dflt ci)[k]? = some (defaultValue (t k)) := by
  have e : am_dflt ci = (List.range c.2.2).map (fun k => defaultValue (t k)) := by rw [am_dflt, h, ht]
  refine ⟨by rw [e, List.length_map, List.length_range], fun k hk => ?_⟩
  rw [e, List.getElem?_map, List.getElem?_range hk]
  rfl
theorem am_tys_of {ci : Nat} {c : vw_C} (h : am_cls[ci]? = some c) : ∃ t, am_tys[ci]? = some t := ⟨_, List.getElem?_eq_getElem (by have := am_cls_lt h; simpa [am_tys] using this)⟩
theorem am_tv_fits {ρ : Nat → Nat} {ty : FieldType} {v : Value} : fits ty (am_tv ρ v) = fits ty v := by
  cases v with
  | ref a => cases ty <;> rfl
  | _ => rfl
theorem am_tv_narrow {ρ : Nat → Nat} {ty : FieldType} {v : Value} (h : narrow ty v = v) : narrow ty (am_tv ρ v) = am_tv ρ v := by
  cases v with
  | ref a => cases ty <;> rfl
  | _ => exact h
