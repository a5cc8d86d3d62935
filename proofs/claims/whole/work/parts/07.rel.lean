/-! ===== what the small machine's states say of the true one's ===== -/
def am_tv (ρ : Nat → Nat) (v : Value) : Value := match v with
  | .ref a => .ref (ρ a)
  | v => v
def am_tA (ρ : Nat → Nat) (a : vp_A) : vp_A := (a.1, match a.2 with
  | .inr (.inr (.inr (.inr f))) => .inr (.inr (.inr (.inr (fun j => (f j).map ρ))))
  | x => x)
def am_tc (ρ : Nat → Nat) (κ : FieldType → ClassId) (c : am_C) : va_E := match c with
  | .inl q => .inl (κ q.1, am_tA ρ q.2)
  | .inr q => .inr (q.1, q.2.map (am_tv ρ))
def am_w (ρ : Nat → Nat) (κ : FieldType → ClassId) (h : am_H) : va_W := h.mapIdx (fun i c => (ρ i, am_tc ρ κ c))
/-- the array classes -/
def am_kt : List FieldType := [.int, .long, .byte, .boolean, .object RX3, .array .int, .array .long]
def am_ks (κ : FieldType → ClassId) : List (ClassId × FieldType) := am_kt.map (fun t => (κ t, t))
def am_vok (n : Nat) (v : Value) : Prop := match v with
  | .ref a => a < n ∨ 1000000 ≤ a
  | _ => True
def am_cok (n : Nat) (c : am_C) : Prop := match c with
  | .inl q => q.1 ∈ am_kt ∧ (match q.2.2 with
    | .inr (.inr (.inr (.inr f))) => ∀ j a, f j = some a → a < n
    | _ => True)
  | .inr q => ∀ v ∈ q.2, am_vok n v
def am_okH (h : am_H) : Prop := ∀ c ∈ h, am_cok h.length c
def am_okS (n : Nat) (st : List Value) : Prop := ∀ v ∈ st, am_vok n v
def am_okL (n : Nat) (L : am_L) : Prop := ∀ i v, am_get L i = some v → am_vok n v
def am_sz1 (c : am_C) : Nat := match c with
  | .inl q => q.2.1
  | .inr q => q.2.length
/-- how many slots a heap has -/
def am_sz (h : am_H) : Nat := (h.map am_sz1).sum
def am_ext (ρ ρ' : Nat → Nat) (n : Nat) : Prop := ∀ a, (a < n ∨ 1000000 ≤ a) → ρ' a = ρ a
def am_Lr (ρ : Nat → Nat) (ls : Array Slot) (nL : Nat) (L : am_L) : Prop := L.length = nL ∧ ls.size = nL ∧ lv_wf ls ∧ ∀ i v, am_get L i = some v → ls[i]? = some (.val (am_tv ρ v))
theorem am_ext.rf {ρ : Nat → Nat} {n : Nat} : am_ext ρ ρ n := fun _ _ => rfl
theorem am_ext.tr {ρ ρ1 ρ2 : Nat → Nat} {n n1 : Nat} (h : am_ext ρ ρ1 n) (h1 : am_ext ρ1 ρ2 n1) (hn : n ≤ n1) : am_ext ρ ρ2 n := fun a ha => (h1 a (by omega)).trans (h a ha)
theorem am_tv_ext {ρ ρ' : Nat → Nat} {n : Nat} (h : am_ext ρ ρ' n) {v : Value} (hv : am_vok n v) : am_tv ρ' v = am_tv ρ v := by
  cases v with
  | ref a => exact congrArg Value.ref (h a hv)
  | _ => rfl
theorem am_tvs_ext {ρ ρ' : Nat → Nat} {n : Nat} (h : am_ext ρ ρ' n) {st : List Value} (hv : am_okS n st) : st.map (am_tv ρ') = st.map (am_tv ρ) := List.map_congr_left fun v q => am_tv_ext h (hv v q)
theorem am_vok_mono {n n' : Nat} (h : n ≤ n') {v : Value} (hv : am_vok n v) : am_vok n' v := by
  cases v with
  | ref a =>
    exact hv.elim (fun q => Or.inl (Nat.lt_of_lt_of_le q h)) Or.inr
  | _ => trivial
theorem am_cok_mono {n n' : Nat} (h : n ≤ n') {c : am_C} (hv : am_cok n c) : am_cok n' c := by
  rcases c with ⟨t, k, x⟩ | ⟨ci, fs⟩
  · refine ⟨hv.1, ?_⟩
    rcases x with x | x | x | x | f
    · trivial
    · trivial
    · trivial
    · trivial
    · exact fun j a q => Nat.lt_of_lt_of_le (hv.2 j a q) h
  · exact fun v q => am_vok_mono h (hv v q)
theorem am_tc_ext {ρ ρ' : Nat → Nat} {n : Nat} (h : am_ext ρ ρ' n) {κ : FieldType → ClassId} {c : am_C} (hv : am_cok n c) : am_tc ρ' κ c = am_tc ρ κ c := by
  rcases c with ⟨t, k, x⟩ | ⟨ci, fs⟩
  · rcases x with x | x | x | x | f
    · rfl
    · rfl
    · rfl
    · rfl
    · have hf : (fun j => (f j).map ρ') = fun j => (f j).map ρ := funext fun j => by
        cases hj : f j with
        | none => rfl
        | some a => exact congrArg some (h a (Or.inl (hv.2 j a hj)))
      show Sum.inl (κ t, (k, Sum.inr (Sum.inr (Sum.inr (Sum.inr (fun j => (f j).map ρ')))))) = _
      rw [hf]
      rfl
  · show Sum.inr (ci, fs.map (am_tv ρ')) = _
    rw [am_tvs_ext h hv]
    rfl
theorem am_w_ext {ρ ρ' : Nat → Nat} {κ : FieldType → ClassId} {h : am_H} (hx : am_ext ρ ρ' h.length) (ho : am_okH h) : am_w ρ' κ h = am_w ρ κ h := by
  unfold am_w
  apply List.ext_getElem?
  intro i
  rw [List.getElem?_mapIdx, List.getElem?_mapIdx]
  cases hi : h[i]? with
  | none => rfl
  | some c =>
    have hl := (List.getElem?_eq_some_iff.mp hi).1
    show some (ρ' i, am_tc ρ' κ c) = some (ρ i, am_tc ρ κ c)
    rw [hx i (Or.inl hl), am_tc_ext hx (ho c (List.mem_of_getElem? hi))]
theorem am_w_get {ρ : Nat → Nat} {κ : FieldType → ClassId} {h : am_H} {a : Nat} {c : am_C} (hc : h[a]? = some c) : (am_w ρ κ h)[a]? = some (ρ a, am_tc ρ κ c) := by
  unfold am_w
  rw [List.getElem?_mapIdx, hc]
  rfl
theorem am_w_set {ρ : Nat → Nat} {κ : FieldType → ClassId} {h : am_H} {a : Nat} {c : am_C} : (am_w ρ κ h).set a (ρ a, am_tc ρ κ c) = am_w ρ κ (h.set a c) := by
  unfold am_w
  apply List.ext_getElem?
  intro i
  rw [List.getElem?_mapIdx, List.getElem?_set, List.getElem?_set, List.getElem?_mapIdx, List.length_mapIdx]
  by_cases hi : a = i
  · subst hi
    simp only [if_true]
    by_cases hl : a < h.length
    · simp only [if_pos hl]
      rfl
    · simp only [if_neg hl]
      rfl
  · simp only [if_neg hi]
theorem am_w_push {ρ : Nat → Nat} {κ : FieldType → ClassId} {h : am_H} {c : am_C} : am_w ρ κ (h ++ [c]) = am_w ρ κ h ++ [(ρ h.length, am_tc ρ κ c)] := by
  unfold am_w
  rw [List.mapIdx_append, List.mapIdx_cons, List.mapIdx_nil, Nat.zero_add]
/-- a map of places, at a new one -/
def am_at (ρ : Nat → Nat) (n q : Nat) : Nat → Nat := fun a => if a = n then q else ρ a
theorem am_at_ext {ρ : Nat → Nat} {n q : Nat} (hn : n < 1000000) : am_ext ρ (am_at ρ n q) n := fun a ha => by
  unfold am_at
  rw [if_neg (by omega)]
theorem am_at_n {ρ : Nat → Nat} {n q : Nat} : am_at ρ n q n = q := if_pos rfl
theorem am_okS_mono {n n' : Nat} (h : n ≤ n') {st : List Value} (hv : am_okS n st) : am_okS n' st := fun v q => am_vok_mono h (hv v q)
theorem am_okL_mono {n n' : Nat} (h : n ≤ n') {L : am_L} (hv : am_okL n L) : am_okL n' L := fun i v q => am_vok_mono h (hv i v q)
theorem am_Lr_ext {ρ ρ' : Nat → Nat} {n nL : Nat} {ls : Array Slot} {L : am_L} (h : am_ext ρ ρ' n) (ho : am_okL n L) (hL : am_Lr ρ ls nL L) : am_Lr ρ' ls nL L :=
  ⟨hL.1, hL.2.1, hL.2.2.1, fun i v hv => by rw [am_tv_ext h (ho i v hv)]; exact hL.2.2.2 i v hv⟩
theorem am_tv_cat {ρ : Nat → Nat} (v : Value) : (am_tv ρ v).category = v.category := by cases v <;> rfl
theorem am_okS_set {n : Nat} {fs : List Value} (hv : am_okS n fs) {k : Nat} {v : Value} (hx : am_vok n v) : am_okS n (fs.set k v) := fun w hw => by
  rcases List.mem_or_eq_of_mem_set hw with q | q
  · exact hv w q
  · subst q; exact hx
theorem am_okH_set {h : am_H} (ho : am_okH h) {a : Nat} {c : am_C} (hc : am_cok h.length c) : am_okH (h.set a c) := fun w hw => by
  rw [List.length_set]
  rcases List.mem_or_eq_of_mem_set hw with q | q
  · exact ho w q
  · subst q; exact hc
theorem am_okH_push {h : am_H} (ho : am_okH h) {c : am_C} (hc : am_cok h.length c) : am_okH (h ++ [c]) := fun w hw => by
  have hl : h.length ≤ (h ++ [c]).length := by rw [List.length_append]; exact Nat.le_add_right _ _
  rcases List.mem_append.mp hw with q | q
  · exact am_cok_mono hl (ho w q)
  · rw [List.mem_singleton.mp q]; exact am_cok_mono hl hc
theorem am_sz_set {h : am_H} {a : Nat} {c c0 : am_C} (hc : h[a]? = some c0) (hs : am_sz1 c = am_sz1 c0) : am_sz (h.set a c) = am_sz h := by
  unfold am_sz
  congr 1
  rw [List.map_set, hs]
  apply List.ext_getElem?
  intro i
  rw [List.getElem?_set]
  by_cases hi : a = i
  · subst hi
    have hl := (List.getElem?_eq_some_iff.mp hc).1
    rw [if_pos rfl, if_pos (by rw [List.length_map]; exact hl), List.getElem?_map, hc]
    rfl
  · rw [if_neg hi]
theorem am_sz_push {h : am_H} {c : am_C} : am_sz (h ++ [c]) = am_sz h + am_sz1 c := by
  unfold am_sz
  rw [List.map_append, List.sum_append]
  rfl
