/-! ===== the law's start ===== -/
/-- what the Statement says of a text -/
def am_strw (q : Nat × Nat × String × List Int32 × Nat) : List Cond :=
  [.exactly (Term.string (am_own.getD q.1 "") q.2.1) "java/lang/String", .eq (.field (Term.string (am_own.getD q.1 "") q.2.1) "java/lang/String" "coder" "B") (.int 0), .arrayOf (.field (Term.string (am_own.getD q.1 "") q.2.1) "java/lang/String" "value" "[B") .byte, .eq (.length (.field (Term.string (am_own.getD q.1 "") q.2.1) "java/lang/String" "value" "[B")) (.int (Int32.ofNat q.2.2.2.1.length))] ++
  (List.range q.2.2.2.1.length).map (fun j => .eq (.elem (.field (Term.string (am_own.getD q.1 "") q.2.1) "java/lang/String" "value" "[B") (.int (Int32.ofNat j))) (.int (q.2.2.2.1.getD j 0)))
def am_flat : List Cond := flatC (Jvm.Cond.and given_1 narrow_1)
def am_posn : List Nat := [23, 31, 39, 47, 54, 63, 72, 81, 90, 100, 110, 119, 127, 136, 145, 154, 162, 172, 182, 192, 197, 202, 212, 217, 228, 239, 249]
theorem am_strw_ok : ((am_txt.zip am_posn).all fun q => decide ((am_flat.drop q.2).take (am_strw q.1).length = am_strw q.1)) = true := by decide +kernel
theorem am_strw_in {k : Nat} {q : Nat × Nat × String × List Int32 × Nat} (h : am_txt[k]? = some q) : ∀ w ∈ am_strw q, w ∈ am_flat := by
  intro w hw
  have hl := (List.getElem?_eq_some_iff.mp h).1
  have hl : k < 27 := by simpa [am_txt] using hl
  have hz : (am_txt.zip am_posn)[k]? = some (q, am_posn.getD k 0) := by
    rw [List.getElem?_zip_eq_some]
    refine ⟨h, ?_⟩
    rw [List.getD_eq_getElem?_getD, List.getElem?_eq_getElem (by simpa [am_posn] using hl)]
    rfl
  have := List.all_eq_true.mp am_strw_ok _ (List.mem_of_getElem? hz)
  simp only [decide_eq_true_eq] at this
  rw [← this] at hw
  exact List.mem_of_mem_drop (List.mem_of_mem_take hw)
theorem am_tstr_ok : (am_txt.all fun q => am_has? q.2.2.2.2 (.stringRef (am_own.getD q.1 "") q.2.1 q.2.2.1)) = true := by decide +kernel
theorem am_has_in {k : Nat} {w : Cond} (h : am_has? k w = true) : w ∈ lw_tbl := by
  unfold am_has? at h
  split at h
  · next l hl =>
    simp only [decide_eq_true_eq] at h
    exact am_pc_in hl w (List.mem_of_getElem? h)
  · cases h
theorem am_one_str {args : Array Value} {s : State} (hts : ∀ w ∈ lw_tbl, w.before args s = true) (hfl : ∀ w ∈ am_flat, w.before args s = true) {k : Nat} {q : Nat × Nat × String × List Int32 × Nat} (h : am_txt[k]? = some q) {A : Nat → Prop} (hA : ∀ a : Nat, a < s.heap.size → ¬ A a) :
    ∃ a b : Nat, va_O "java/lang/String" a A s s.heap ∧ va_OF "java/lang/String" "coder" "B" (.int 0) a A s s.heap ∧ va_OF "java/lang/String" "value" "[B" (.ref b) a A s s.heap ∧ va_T .byte b q.2.2.2.1.length (fun j => .int (q.2.2.2.1.getD j 0)) A s s.heap ∧ vk_R (am_own.getD q.1 "") q.2.1 q.2.2.1 a s := by
  have hw : ∀ w ∈ am_strw q, w.before args s = true := fun w z => hfl w (am_strw_in h w z)
  have hlen : q.2.2.2.1.length < 2 ^ 31 := by
    have : ∀ q ∈ am_txt, q.2.2.2.1.length < 2 ^ 31 := by decide +kernel
    exact this q (List.mem_of_getElem? h)
  have h0 : ∀ w ∈ [Cond.exactly (Term.string (am_own.getD q.1 "") q.2.1) "java/lang/String", .eq (.field (Term.string (am_own.getD q.1 "") q.2.1) "java/lang/String" "coder" "B") (.int 0), .arrayOf (.field (Term.string (am_own.getD q.1 "") q.2.1) "java/lang/String" "value" "[B") .byte, .eq (.length (.field (Term.string (am_own.getD q.1 "") q.2.1) "java/lang/String" "value" "[B")) (.int (Int32.ofNat q.2.2.2.1.length))], w.before args s = true := fun w z => hw w (List.mem_append_left _ z)
  obtain ⟨adK, adV, hS, hev⟩ := vk_Sof (args := args) (s := s) (N := 1) (tm := fun _ => Term.string (am_own.getD q.1 "") q.2.1) (len := [q.2.2.2.1.length]) (byt := [q.2.2.2.1]) (A := A)
    (fun i hi => by rw [show i = 0 by omega]; exact hlen) (fun i hi => h0 _ (by simp)) (fun i hi => h0 _ (by simp)) (fun i hi => h0 _ (by simp)) (fun i hi => by rw [show i = 0 by omega]; exact h0 _ (by simp))
    (fun i hi j hj => by
      rw [show i = 0 by omega] at hj ⊢
      exact hw _ (List.mem_append_right _ (List.mem_map.mpr ⟨j, List.mem_range.mpr hj, rfl⟩)))
    (fun i j hi hj hij => absurd (show i = j by omega) hij) hA
  obtain ⟨g1, g2, g3, g4⟩ := hS.1 0 (by decide)
  refine ⟨adK 0, adV 0, g1, g2, g3, g4, ?_⟩
  have hr := List.all_eq_true.mp am_tstr_ok q (List.mem_of_getElem? h)
  exact vk_R.of (hts _ (am_has_in hr)) (hev 0 (by decide))
theorem am_static_row {args : Array Value} {s : State} (hts : ∀ w ∈ lw_tbl, w.before args s = true) (hfl : ∀ w ∈ am_flat, w.before args s = true) {A : Nat → Prop} (hA : ∀ a : Nat, a < s.heap.size → ¬ A a) {n : String} {f : Nat → Int32} (h1 : Cond.laysStatic "PegStrings$Trace" n "[I" ∈ lw_tbl) (h2 : Cond.arrayOf (.static "PegStrings$Trace" n "[I") .int ∈ am_flat) (h3 : Cond.eq (.length (.static "PegStrings$Trace" n "[I")) (.int 4) ∈ am_flat) (h4 : ∀ j, j < 4 → Cond.eq (.elem (.static "PegStrings$Trace" n "[I") (.int (Int32.ofNat j))) (.int (f j)) ∈ am_flat) (h5 : Cond.initialized "PegStrings$Trace" ∈ lw_tbl) :
    ∃ t : Nat, va_T .int t 4 (fun j => .int (f j)) A s s.heap ∧ va_Z "PegStrings$Trace" n "[I" (.ref t) A s s.heap := by
  obtain ⟨t, ht, hT⟩ := va_Tof (f := fun j => .int (f j)) (A := A) (by decide) (hfl _ h2) (va_eqt (hfl _ h3)) (fun j hj => va_eqt (hfl _ (h4 j hj))) hA
  exact ⟨t, hT, va_Zof (hts _ h1) (hts _ h5) ht hA⟩
