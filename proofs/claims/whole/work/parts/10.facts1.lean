theorem am_lookup_mem {α : Type} : ∀ {l : List (Nat × α)} {k : Nat} {v : α}, l.lookup k = some v → (k, v) ∈ l
  | [], k, v, h => by simp at h
  | (k', v') :: l, k, v, h => by
    rw [List.lookup_cons] at h
    split at h
    · next e =>
      cases h
      have : k = k' := by simpa using e
      subst this
      exact List.mem_cons_self
    · exact List.mem_cons_of_mem _ (am_lookup_mem h)
theorem am_dM {M : Nat} (hM : M < 322) : am_dokM M = true := by
  by_cases h20 : M < 20
  · have := List.all_eq_true.mp am_d0 (M - 0) (List.mem_range.mpr (by omega))
    rwa [show 0 + (M - 0) = M by omega] at this
  by_cases h53 : M < 53
  · have := List.all_eq_true.mp am_d20 (M - 20) (List.mem_range.mpr (by omega))
    rwa [show 20 + (M - 20) = M by omega] at this
  by_cases h72 : M < 72
  · have := List.all_eq_true.mp am_d53 (M - 53) (List.mem_range.mpr (by omega))
    rwa [show 53 + (M - 53) = M by omega] at this
  by_cases h96 : M < 96
  · have := List.all_eq_true.mp am_d72 (M - 72) (List.mem_range.mpr (by omega))
    rwa [show 72 + (M - 72) = M by omega] at this
  by_cases h123 : M < 123
  · have := List.all_eq_true.mp am_d96 (M - 96) (List.mem_range.mpr (by omega))
    rwa [show 96 + (M - 96) = M by omega] at this
  by_cases h152 : M < 152
  · have := List.all_eq_true.mp am_d123 (M - 123) (List.mem_range.mpr (by omega))
    rwa [show 123 + (M - 123) = M by omega] at this
  by_cases h171 : M < 171
  · have := List.all_eq_true.mp am_d152 (M - 152) (List.mem_range.mpr (by omega))
    rwa [show 152 + (M - 152) = M by omega] at this
  by_cases h201 : M < 201
  · have := List.all_eq_true.mp am_d171 (M - 171) (List.mem_range.mpr (by omega))
    rwa [show 171 + (M - 171) = M by omega] at this
  by_cases h214 : M < 214
  · have := List.all_eq_true.mp am_d201 (M - 201) (List.mem_range.mpr (by omega))
    rwa [show 201 + (M - 201) = M by omega] at this
  by_cases h233 : M < 233
  · have := List.all_eq_true.mp am_d214 (M - 214) (List.mem_range.mpr (by omega))
    rwa [show 214 + (M - 214) = M by omega] at this
  by_cases h262 : M < 262
  · have := List.all_eq_true.mp am_d233 (M - 233) (List.mem_range.mpr (by omega))
    rwa [show 233 + (M - 233) = M by omega] at this
  by_cases h277 : M < 277
  · have := List.all_eq_true.mp am_d262 (M - 262) (List.mem_range.mpr (by omega))
    rwa [show 262 + (M - 262) = M by omega] at this
  by_cases h289 : M < 289
  · have := List.all_eq_true.mp am_d277 (M - 277) (List.mem_range.mpr (by omega))
    rwa [show 277 + (M - 277) = M by omega] at this
  by_cases h304 : M < 304
  · have := List.all_eq_true.mp am_d289 (M - 289) (List.mem_range.mpr (by omega))
    rwa [show 289 + (M - 289) = M by omega] at this
  by_cases h322 : M < 322
  · have := List.all_eq_true.mp am_d304 (M - 304) (List.mem_range.mpr (by omega))
    rwa [show 304 + (M - 304) = M by omega] at this
  omega
set_option maxRecDepth 20000 in
theorem am_lawlen : (am_codes.getD 322 []).length = 1372 := by decide +kernel
theorem am_piece {α : Type} {l : List α} {p : α → Bool} {a n k : Nat} {x : α} (h : (((l.drop a).take n).all p) = true) (hk : l[k]? = some x) (h1 : a ≤ k) (h2 : k < a + n) : p x = true := by
  refine List.all_eq_true.mp h x (List.mem_of_getElem? (i := k - a) ?_)
  rw [List.getElem?_take, if_pos (by omega), List.getElem?_drop, show a + (k - a) = k by omega]
  exact hk
theorem am_dLaw {q : Nat × Instr} (hq : q ∈ am_codes.getD 322 []) : am_dok (am_bs.getD 322 ByteArray.empty) q = true := by
  obtain ⟨k, hk⟩ := List.getElem?_of_mem hq
  have hl := (List.getElem?_eq_some_iff.mp hk).1
  rw [am_lawlen] at hl
  by_cases h0 : k < 100
  · exact am_piece am_dL0 hk (by omega) (by omega)
  by_cases h1 : k < 200
  · exact am_piece am_dL1 hk (by omega) (by omega)
  by_cases h2 : k < 300
  · exact am_piece am_dL2 hk (by omega) (by omega)
  by_cases h3 : k < 400
  · exact am_piece am_dL3 hk (by omega) (by omega)
  by_cases h4 : k < 500
  · exact am_piece am_dL4 hk (by omega) (by omega)
  by_cases h5 : k < 600
  · exact am_piece am_dL5 hk (by omega) (by omega)
  by_cases h6 : k < 700
  · exact am_piece am_dL6 hk (by omega) (by omega)
  by_cases h7 : k < 800
  · exact am_piece am_dL7 hk (by omega) (by omega)
  by_cases h8 : k < 900
  · exact am_piece am_dL8 hk (by omega) (by omega)
  by_cases h9 : k < 1000
  · exact am_piece am_dL9 hk (by omega) (by omega)
  by_cases h10 : k < 1100
  · exact am_piece am_dL10 hk (by omega) (by omega)
  by_cases h11 : k < 1200
  · exact am_piece am_dL11 hk (by omega) (by omega)
  by_cases h12 : k < 1300
  · exact am_piece am_dL12 hk (by omega) (by omega)
  by_cases h13 : k < 1400
  · exact am_piece am_dL13 hk (by omega) (by omega)
  omega
theorem am_codes_len : am_codes.length = 323 := by decide +kernel
/-- what stands in the code lists is what the bytes say -/
theorem am_dec {M pc : Nat} {i : Instr} (h : am_code M pc = some i) : ∃ len, decode (am_bs.getD M ByteArray.empty) pc = .ok (i, len) ∧ (len = am_ln i ∨ am_tsw i = true) := by
  have hm := am_lookup_mem h
  have hok : am_dok (am_bs.getD M ByteArray.empty) (pc, i) = true := by
    by_cases hM : M < 322
    · exact List.all_eq_true.mp (am_dM hM) _ hm
    · by_cases hM2 : M = 322
      · subst hM2
        exact am_dLaw hm
      · rw [show am_codes.getD M [] = [] by rw [List.getD_eq_getElem?_getD, List.getElem?_eq_none (by rw [am_codes_len]; omega)]; rfl] at hm
        cases hm
  unfold am_dok at hok
  split at hok
  · next i' len he =>
    simp only [Bool.and_eq_true, decide_eq_true_eq, Bool.or_eq_true] at hok
    obtain ⟨rfl, h2⟩ := hok
    exact ⟨len, he, h2⟩
  · cases hok
/-- lw_tbl in pieces -/
def am_pc : List (List Cond) := [k2_sels lw_privs, tables_1_1, tables_1_2, tables_1_3, tables_1_4, tables_1_5, tables_1_6, tables_1_7, tables_1_8]
theorem am_pc_in {j : Nat} {l : List Cond} (h : am_pc[j]? = some l) : ∀ w ∈ l, w ∈ lw_tbl := by
  intro w hw
  unfold lw_tbl tables_1
  match j, h with
  | 0, h => cases h; exact List.mem_append_left _ hw
  | 1, h => cases h; exact List.mem_append_right _ (List.mem_append_left _ hw)
  | 2, h => cases h; exact List.mem_append_right _ (List.mem_append_right _ (List.mem_append_left _ hw))
  | 3, h => cases h; exact List.mem_append_right _ (List.mem_append_right _ (List.mem_append_right _ (List.mem_append_left _ hw)))
  | 4, h => cases h; exact List.mem_append_right _ (List.mem_append_right _ (List.mem_append_right _ (List.mem_append_right _ (List.mem_append_left _ hw))))
  | 5, h => cases h; exact List.mem_append_right _ (List.mem_append_right _ (List.mem_append_right _ (List.mem_append_right _ (List.mem_append_right _ (List.mem_append_left _ hw)))))
  | 6, h => cases h; exact List.mem_append_right _ (List.mem_append_right _ (List.mem_append_right _ (List.mem_append_right _ (List.mem_append_right _ (List.mem_append_right _ (List.mem_append_left _ hw))))))
  | 7, h => cases h; exact List.mem_append_right _ (List.mem_append_right _ (List.mem_append_right _ (List.mem_append_right _ (List.mem_append_right _ (List.mem_append_right _ (List.mem_append_right _ (List.mem_append_left _ hw)))))))
  | 8, h => cases h; exact List.mem_append_right _ (List.mem_append_right _ (List.mem_append_right _ (List.mem_append_right _ (List.mem_append_right _ (List.mem_append_right _ (List.mem_append_right _ (List.mem_append_right _ hw)))))))
def am_at? (k : Nat) (w : Cond) : Bool := (match am_pc[k / 1000]? with
  | some l => decide (l[k % 1000]? = some w)
  | none => false) && goodWord w
theorem am_at_in {k : Nat} {w : Cond} (h : am_at? k w = true) : w ∈ am_tb := by
  simp only [am_at?, Bool.and_eq_true] at h
  obtain ⟨h1, h2⟩ := h
  split at h1
  · next l hl =>
    simp only [decide_eq_true_eq] at h1
    exact List.mem_filter.mpr ⟨am_pc_in hl w (List.mem_of_getElem? h1), h2⟩
  · cases h1
