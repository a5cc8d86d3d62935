/-- the words that pass through every call -/
def am_tb : List Cond := lw_tbl.filter goodWord
/-- the constants: texts, fixed rows, the script, statics -/
def am_Cs (E : am_E) (γ : Nat → Nat) (A : Nat → Prop) (U : State) (H : Heap) : Prop :=
  (∀ (k : Nat) (q : Nat × Nat × String × List Int32 × Nat), am_txt[k]? = some q → va_O "java/lang/String" (γ (1000000 + 2 * k)) A U H ∧ va_OF "java/lang/String" "coder" "B" (.int 0) (γ (1000000 + 2 * k)) A U H ∧ va_OF "java/lang/String" "value" "[B" (.ref (γ (1000000 + 2 * k + 1))) (γ (1000000 + 2 * k)) A U H ∧
    va_T .byte (γ (1000000 + 2 * k + 1)) q.2.2.2.1.length (fun j => .int (q.2.2.2.1.getD j 0)) A U H ∧ vk_R (am_own.getD q.1 "") q.2.1 q.2.2.1 (γ (1000000 + 2 * k)) U) ∧
  va_T .int (γ 1001000) 4 (fun j => .int (am_sx j)) A U H ∧ va_T .int (γ 1001001) 4 (fun j => .int (am_sy j)) A U H ∧ va_T .int (γ 1002000) E.1.1 (fun j => .int (E.1.2 j)) A U H ∧
  va_Z "java/lang/String" "COMPACT_STRINGS" "Z" (.int 1) A U H ∧ va_Z "jdk/internal/util/Preconditions" "SIOOBE_FORMATTER" "Ljava/util/function/BiFunction;" (am_tv γ E.2) A U H ∧
  va_Z "PegStrings$Trace" "SIDE_X" "[I" (.ref (γ 1001000)) A U H ∧ va_Z "PegStrings$Trace" "SIDE_Y" "[I" (.ref (γ 1001001)) A U H
/-- arrays of arrays are known -/
def am_AOA (t : FieldType) (U : State) : Prop := (Cond.arrayOver (.array t)).before #[] U = true
/-- the words that pass through calls in a way of their own -/
def am_Wd (U : State) : Prop := (∀ (o idx : Nat) (q : Nat × Nat × Nat), am_mth o idx = some q → q.2.1 = 1 → va_Nw (.methodLinkNest (am_own.getD o "") idx (am_ys.getD q.1 yL_law) "PegStrings") U) ∧ va_AO RX3 U ∧ am_AOA .int U ∧ am_AOA .long U
/-- what stays through a method's body -/
def am_Fx (p : Program) (s : State) (m : MethodId) (args : Array Value) (meth : Method) (c : Code) (M : Nat) (E : am_E) (γ : Nat → Nat) (κ : FieldType → ClassId) (D : va_G) (A : Nat → Prop) : Prop :=
  p.tables.exec = Jvm.exec ∧ c.code = am_bs.getD M ByteArray.empty ∧ s.vm.findClass (am_own.getD (am_own1 M) "") = some m.cls ∧ (∀ w ∈ am_tb, w.before args s = true) ∧ (∀ q, s.heap.size ≤ q → A q) ∧ va_K D am_cls (am_ks κ) s ∧ am_Cs E γ A s s.heap ∧ (am_srts.getD M 0 = 2 → meth.name = "<init>") ∧ am_vok 0 E.2 ∧ c.maxLocals = am_mls.getD M 0 ∧ am_Wd s
/-- what a state of the small machine says -/
def am_I (s : State) (γ : Nat → Nat) (κ : FieldType → ClassId) (D : va_G) (A : Nat → Prop) (nL : Nat) (ρ : Nat → Nat) (H : Heap) (locs : List Loc) (h : am_H) (L : am_L) (ls : Array Slot) (st : List Value) : Prop :=
  va_P D am_cls (am_w ρ κ h) H ∧ va_D A (am_w ρ κ h) ∧ va_S A s.heap H locs ∧ am_Lr ρ ls nL L ∧ am_okH h ∧ am_okL h.length L ∧ am_okS h.length st ∧ ∀ a, 1000000 ≤ a → ρ a = γ a
theorem am_tb_in {w : Cond} {i : Nat} (h : lw_tbl[i]? = some w) (hg : goodWord w = true) : w ∈ am_tb := List.mem_filter.mpr ⟨List.mem_of_getElem? h, hg⟩
theorem am_inb_in {i : Int32} {n : Nat} (h : am_inb i n = true) : vp_in i n := by
  unfold am_inb at h
  simp only [Bool.not_eq_true', Bool.or_eq_false_iff, decide_eq_false_iff_not] at h
  exact fun q => q.elim h.1 h.2
theorem am_tg_spec {pc t : Nat} {off : Int} (h : am_tg pc off = some t) : (pc : Int) + off = (t : Int) := by
  unfold am_tg at h
  split at h
  · cases h
    omega
  · cases h
theorem am_txt_in {a : Nat} (h : (a - 1000000) / 2 < 27) : ∃ q, am_txt[(a - 1000000) / 2]? = some q := ⟨_, List.getElem?_eq_getElem (by simpa [am_txt] using h)⟩
theorem am_rd_T {E : am_E} {γ : Nat → Nat} {A : Nat → Prop} {U : State} {H : Heap} (hC : am_Cs E γ A U H) {a n : Nat} {ty : FieldType} {x : (Nat → Int32) ⊕ ((Nat → Int64) ⊕ ((Nat → UInt32) ⊕ ((Nat → UInt64) ⊕ (Nat → Option Nat))))} (ha : 1000000 ≤ a) (h : am_rd E a = some (ty, n, x)) : ∃ f : Nat → Int32, x = .inl f ∧ va_T ty (γ a) n (fun j => .int (f j)) A U H := by
  unfold am_rd at h
  split at h
  · next e => subst e; cases h; exact ⟨_, rfl, hC.2.2.2.1⟩
  · split at h
    · next e => subst e; cases h; exact ⟨_, rfl, hC.2.1⟩
    · split at h
      · next e => subst e; cases h; exact ⟨_, rfl, hC.2.2.1⟩
      · split at h
        · next e0 e1 e2 e3 =>
          split at h
          · next q hq =>
            cases h
            have h1 := (hC.1 _ _ hq).2.2.2.1
            rw [show 1000000 + 2 * ((a - 1000000) / 2) + 1 = a by omega] at h1
            exact ⟨_, rfl, h1⟩
          · cases h
        · cases h
section AMS
variable {p : Program} {l : Launch} {e : Env} {R : Room} {s : State} {m : MethodId} {args : Array Value} {below : List Frame} {meth : Method} {c : Code} {H : Heap} {locs : List Loc} {cells slots : Nat} {Q : State → Prop}
variable {M pc pc' nL : Nat} {E : am_E} {γ ρ : Nat → Nat} {κ : FieldType → ClassId} {D : va_G} {A : Nat → Prop} {h h' : am_H} {L L' : am_L} {ls : Array Slot} {st st' : List Value} {cc : ByteArray}
/-- what goes on behind an instruction -/
def am_kk (p : Program) (l : Launch) (e : Env) (R : Room) (s : State) (m : MethodId) (args : Array Value) (below : List Frame) (meth : Method) (c : Code) (cells slots : Nat) (Q : State → Prop) (γ : Nat → Nat) (κ : FieldType → ClassId) (D : va_G) (A : Nat → Prop) (nL : Nat) (ρ : Nat → Nat) (h : am_H) (pc' : Nat) (L' : am_L) (st' : List Value) (h' : am_H) : Prop :=
  ∀ (ρ' : Nat → Nat) (H' : Heap) (locs' : List Loc) (ls' : Array Slot), am_ext ρ ρ' h.length → am_I s γ κ D A nL ρ' H' locs' h' L' ls' st' → W p l e R s m args below meth c H' locs' (cells + (h'.length - h.length)) (slots + (am_sz h' - am_sz h)) Q (F0 m pc' ls' (st'.map (am_tv ρ')))
theorem am_kk_same (kk : am_kk p l e R s m args below meth c cells slots Q γ κ D A nL ρ h pc' L st' h) (hI : am_I s γ κ D A nL ρ H locs h L ls st) (ho : am_okS h.length st') : W p l e R s m args below meth c H locs cells slots Q (F0 m pc' ls (st'.map (am_tv ρ))) := by
  have := kk ρ H locs ls am_ext.rf ⟨hI.1, hI.2.1, hI.2.2.1, hI.2.2.2.1, hI.2.2.2.2.1, hI.2.2.2.2.2.1, ho, hI.2.2.2.2.2.2.2⟩
  simpa only [Nat.sub_self, Nat.add_zero] using this
theorem am_kk_loc (kk : am_kk p l e R s m args below meth c cells slots Q γ κ D A nL ρ h pc' L' st' h) (hI : am_I s γ κ D A nL ρ H locs h L ls st) (ho : am_okS h.length st') {ls' : Array Slot} (hL : am_Lr ρ ls' nL L') (hl : am_okL h.length L') : W p l e R s m args below meth c H locs cells slots Q (F0 m pc' ls' (st'.map (am_tv ρ))) := by
  have := kk ρ H locs ls' am_ext.rf ⟨hI.1, hI.2.1, hI.2.2.1, hL, hI.2.2.2.2.1, hl, ho, hI.2.2.2.2.2.2.2⟩
  simpa only [Nat.sub_self, Nat.add_zero] using this
theorem am_okS_i {n : Nat} {r : List Value} (h : am_okS n r) (x : Int32) : am_okS n (.int x :: r) := fun v hv => by
  rcases List.mem_cons.mp hv with rfl | q
  · trivial
  · exact h v q
theorem am_okS_l {n : Nat} {r : List Value} (h : am_okS n r) (x : Int64) : am_okS n (.long x :: r) := fun v hv => by
  rcases List.mem_cons.mp hv with rfl | q
  · trivial
  · exact h v q
theorem am_okS_c {n : Nat} {r : List Value} (h : am_okS n r) {v : Value} (hx : am_vok n v) : am_okS n (v :: r) := fun w hw => by
  rcases List.mem_cons.mp hw with rfl | q
  · exact hx
  · exact h w q
theorem am_okS_t {n : Nat} {r : List Value} {v : Value} (h : am_okS n (v :: r)) : am_okS n r := fun w hw => h w (List.mem_cons_of_mem _ hw)
theorem am_okS_h {n : Nat} {r : List Value} {v : Value} (h : am_okS n (v :: r)) : am_vok n v := h v List.mem_cons_self
theorem am_I.okS (hI : am_I s γ κ D A nL ρ H locs h L ls st) : am_okS h.length st := hI.2.2.2.2.2.2.1
theorem am_I.okL (hI : am_I s γ κ D A nL ρ H locs h L ls st) : am_okL h.length L := hI.2.2.2.2.2.1
theorem am_I.okH (hI : am_I s γ κ D A nL ρ H locs h L ls st) : am_okH h := hI.2.2.2.2.1
theorem am_I.lr (hI : am_I s γ κ D A nL ρ H locs h L ls st) : am_Lr ρ ls nL L := hI.2.2.2.1
/-- the heap has become otherwise at one of its cells -/
theorem am_kk_set (kk : am_kk p l e R s m args below meth c cells slots Q γ κ D A nL ρ h pc' L st' h') (hI : am_I s γ κ D A nL ρ H locs h L ls st) (ho : am_okS h.length st') {a : Nat} {c0 c1 : am_C} (h0 : h[a]? = some c0) (hh : h' = h.set a c1) (hz : am_sz1 c1 = am_sz1 c0) (hok : am_cok h.length c1) {H1 : Heap} {locs1 : List Loc}
    (hP : va_P D am_cls ((am_w ρ κ h).set a (ρ a, am_tc ρ κ c1)) H1) (hD : va_D A ((am_w ρ κ h).set a (ρ a, am_tc ρ κ c1))) (hS : va_S A s.heap H1 locs1) : W p l e R s m args below meth c H1 locs1 cells slots Q (F0 m pc' ls (st'.map (am_tv ρ))) := by
  subst hh
  rw [am_w_set] at hP hD
  have hn : (h.set a c1).length = h.length := List.length_set
  have := kk ρ H1 locs1 ls am_ext.rf ⟨hP, hD, hS, hI.lr, am_okH_set hI.okH hok, by rw [hn]; exact hI.okL, by rw [hn]; exact ho, hI.2.2.2.2.2.2.2⟩
  simpa only [hn, am_sz_set h0 hz, Nat.sub_self, Nat.add_zero] using this
/-- a cell has come behind the others -/
theorem am_kk_push {r : List Value} {c1 : am_C} (kk : am_kk p l e R s m args below meth c cells slots Q γ κ D A nL ρ h pc' L (.ref h.length :: r) (h ++ [c1])) (hI : am_I s γ κ D A nL ρ H locs h L ls st) (ho : am_okS h.length r) (hn : h.length < 1000000) (hok : am_cok 0 c1) {q : Nat} {e1 : va_E} (he : ∀ ρ', am_tc ρ' κ c1 = e1) {H1 : Heap}
    (hP : va_P D am_cls (am_w ρ κ h ++ [(q, e1)]) H1) (hD : va_D A (am_w ρ κ h ++ [(q, e1)])) (hS : va_S A s.heap H1 locs) : W p l e R s m args below meth c H1 locs (cells + 1) (slots + am_sz1 c1) Q (F0 m pc' ls (.ref q :: r.map (am_tv ρ))) := by
  have hx : am_ext ρ (am_at ρ h.length q) h.length := am_at_ext hn
  have hw : am_w (am_at ρ h.length q) κ (h ++ [c1]) = am_w ρ κ h ++ [(q, e1)] := by
    rw [am_w_push, am_w_ext hx hI.okH, he, am_at_n]
  have hl : (h ++ [c1]).length = h.length + 1 := by rw [List.length_append]; rfl
  have := kk (am_at ρ h.length q) H1 locs ls hx ⟨by rw [hw]; exact hP, by rw [hw]; exact hD, hS, am_Lr_ext hx hI.okL hI.lr, am_okH_push hI.okH (am_cok_mono (Nat.zero_le _) hok), by rw [hl]; exact am_okL_mono (by omega) hI.okL,
    by rw [hl]; exact am_okS_c (am_okS_mono (by omega) ho) (Or.inl (Nat.lt_succ_self _)), fun a ha => by rw [hx a (Or.inr ha)]; exact hI.2.2.2.2.2.2.2 a ha⟩
  rw [hl, am_sz_push, show h.length + 1 - h.length = 1 by omega, show am_sz h + am_sz1 c1 - am_sz h = am_sz1 c1 by omega, List.map_cons, am_tvs_ext hx ho] at this
  have e2 : am_tv (am_at ρ h.length q) (.ref h.length) = .ref q := congrArg Value.ref am_at_n
  rw [e2] at this
  exact this
theorem am_ldi_s {k : Nat} (row : ∀ {x : Int32}, ls[k]? = some (.val (.int x)) → W p l e R s m args below meth c H locs cells slots Q (F0 m pc' ls (.int x :: st.map (am_tv ρ))) → W p l e R s m args below meth c H locs cells slots Q (F0 m pc ls (st.map (am_tv ρ))))
    (hI : am_I s γ κ D A nL ρ H locs h L ls st) {q : Nat × am_L × List Value × am_H} (hs : am_ldi L k pc' st h = some q) (kk : am_kk p l e R s m args below meth c cells slots Q γ κ D A nL ρ h q.1 q.2.1 q.2.2.1 q.2.2.2) : W p l e R s m args below meth c H locs cells slots Q (F0 m pc ls (st.map (am_tv ρ))) := by
  unfold am_ldi at hs
  split at hs
  · next x hx =>
    cases hs
    exact row (hI.lr.2.2.2 _ _ hx) (am_kk_same kk hI (am_okS_i hI.okS x))
  · cases hs
theorem am_ldl_s {k : Nat} (row : ∀ {x : Int64}, ls[k]? = some (.val (.long x)) → W p l e R s m args below meth c H locs cells slots Q (F0 m pc' ls (.long x :: st.map (am_tv ρ))) → W p l e R s m args below meth c H locs cells slots Q (F0 m pc ls (st.map (am_tv ρ))))
    (hI : am_I s γ κ D A nL ρ H locs h L ls st) {q : Nat × am_L × List Value × am_H} (hs : am_ldl L k pc' st h = some q) (kk : am_kk p l e R s m args below meth c cells slots Q γ κ D A nL ρ h q.1 q.2.1 q.2.2.1 q.2.2.2) : W p l e R s m args below meth c H locs cells slots Q (F0 m pc ls (st.map (am_tv ρ))) := by
  unfold am_ldl at hs
  split at hs
  · next x hx =>
    cases hs
    exact row (hI.lr.2.2.2 _ _ hx) (am_kk_same kk hI (am_okS_l hI.okS x))
  · cases hs
theorem am_lda_s {k : Nat} (row : ∀ {x : Nat}, ls[k]? = some (.val (.ref x)) → W p l e R s m args below meth c H locs cells slots Q (F0 m pc' ls (.ref x :: st.map (am_tv ρ))) → W p l e R s m args below meth c H locs cells slots Q (F0 m pc ls (st.map (am_tv ρ))))
    (rowN : ls[k]? = some (.val .null) → W p l e R s m args below meth c H locs cells slots Q (F0 m pc' ls (.null :: st.map (am_tv ρ))) → W p l e R s m args below meth c H locs cells slots Q (F0 m pc ls (st.map (am_tv ρ))))
    (hI : am_I s γ κ D A nL ρ H locs h L ls st) {q : Nat × am_L × List Value × am_H} (hs : am_lda L k pc' st h = some q) (kk : am_kk p l e R s m args below meth c cells slots Q γ κ D A nL ρ h q.1 q.2.1 q.2.2.1 q.2.2.2) : W p l e R s m args below meth c H locs cells slots Q (F0 m pc ls (st.map (am_tv ρ))) := by
  unfold am_lda at hs
  split at hs
  · next x hx =>
    cases hs
    exact row (hI.lr.2.2.2 _ _ hx) (am_kk_same kk hI (am_okS_c hI.okS (hI.okL _ _ hx)))
  · next hx =>
    cases hs
    exact rowN (hI.lr.2.2.2 _ _ hx) (am_kk_same kk hI (am_okS_c hI.okS trivial))
  · cases hs
theorem am_sti_s {k : Nat} (row : ∀ {x : Int32} {rest : List Value}, k < nL → (∀ ls' : Array Slot, lv_has ls' nL ((k, Value.int x) :: (am_ps ρ L).filter (fun q => !(q.1 == k) && !(q.1 + 1 == k && q.2.category == 2))) → W p l e R s m args below meth c H locs cells slots Q (F0 m pc' ls' rest)) → W p l e R s m args below meth c H locs cells slots Q (F0 m pc ls (.int x :: rest)))
    (hI : am_I s γ κ D A nL ρ H locs h L ls st) {q : Nat × am_L × List Value × am_H} (hs : am_sti L k pc' st h = some q) (kk : am_kk p l e R s m args below meth c cells slots Q γ κ D A nL ρ h q.1 q.2.1 q.2.2.1 q.2.2.2) : W p l e R s m args below meth c H locs cells slots Q (F0 m pc ls (st.map (am_tv ρ))) := by
  unfold am_sti at hs
  split at hs
  · next x r =>
    unfold am_sto at hs
    split at hs
    · next L1 hL1 =>
      cases hs
      refine row (by have := (am_put1_spec hL1).1; rw [hI.lr.1] at this; exact this) (fun ls' hl => ?_)
      exact am_kk_loc kk hI (am_okS_t hI.okS) (am_store1 (v := .int x) hI.lr hL1 hl) (am_okL_put1 (v := .int x) hI.okL trivial hL1)
    · cases hs
  · cases hs
theorem am_stl_s {k : Nat} (row : ∀ {x : Int64} {rest : List Value}, k + 1 < nL → (∀ ls' : Array Slot, lv_has ls' nL ((k, Value.long x) :: (am_ps ρ L).filter (fun q => !(q.1 == k) && (!(q.1 == k + 1) && !(q.1 + 1 == k && q.2.category == 2)))) → W p l e R s m args below meth c H locs cells slots Q (F0 m pc' ls' rest)) → W p l e R s m args below meth c H locs cells slots Q (F0 m pc ls (.long x :: rest)))
    (hI : am_I s γ κ D A nL ρ H locs h L ls st) {q : Nat × am_L × List Value × am_H} (hs : am_stl L k pc' st h = some q) (kk : am_kk p l e R s m args below meth c cells slots Q γ κ D A nL ρ h q.1 q.2.1 q.2.2.1 q.2.2.2) : W p l e R s m args below meth c H locs cells slots Q (F0 m pc ls (st.map (am_tv ρ))) := by
  unfold am_stl at hs
  split at hs
  · next x r =>
    unfold am_sto at hs
    split at hs
    · next L1 hL1 =>
      cases hs
      refine row (by have := (am_put2_spec hL1).1; rw [hI.lr.1] at this; exact this) (fun ls' hl => ?_)
      exact am_kk_loc kk hI (am_okS_t hI.okS) (am_store2 (v := .long x) hI.lr hL1 hl) (am_okL_put2 (v := .long x) hI.okL trivial hL1)
    · cases hs
  · cases hs
theorem am_sta_s {k : Nat} (row : ∀ {x : Nat} {rest : List Value}, k < nL → (∀ ls' : Array Slot, lv_has ls' nL ((k, Value.ref x) :: (am_ps ρ L).filter (fun q => !(q.1 == k) && !(q.1 + 1 == k && q.2.category == 2))) → W p l e R s m args below meth c H locs cells slots Q (F0 m pc' ls' rest)) → W p l e R s m args below meth c H locs cells slots Q (F0 m pc ls (.ref x :: rest)))
    (rowN : ∀ {rest : List Value}, k < nL → (∀ ls' : Array Slot, lv_has ls' nL ((k, Value.null) :: (am_ps ρ L).filter (fun q => !(q.1 == k) && !(q.1 + 1 == k && q.2.category == 2))) → W p l e R s m args below meth c H locs cells slots Q (F0 m pc' ls' rest)) → W p l e R s m args below meth c H locs cells slots Q (F0 m pc ls (.null :: rest)))
    (hI : am_I s γ κ D A nL ρ H locs h L ls st) {q : Nat × am_L × List Value × am_H} (hs : am_sta1 L k pc' st h = some q) (kk : am_kk p l e R s m args below meth c cells slots Q γ κ D A nL ρ h q.1 q.2.1 q.2.2.1 q.2.2.2) : W p l e R s m args below meth c H locs cells slots Q (F0 m pc ls (st.map (am_tv ρ))) := by
  unfold am_sta1 at hs
  split at hs
  · next x r =>
    unfold am_sto at hs
    split at hs
    · next L1 hL1 =>
      cases hs
      refine row (by have := (am_put1_spec hL1).1; rw [hI.lr.1] at this; exact this) (fun ls' hl => ?_)
      exact am_kk_loc kk hI (am_okS_t hI.okS) (am_store1 (v := .ref x) hI.lr hL1 hl) (am_okL_put1 hI.okL (am_okS_h hI.okS) hL1)
    · cases hs
  · next r =>
    unfold am_sto at hs
    split at hs
    · next L1 hL1 =>
      cases hs
      refine rowN (by have := (am_put1_spec hL1).1; rw [hI.lr.1] at this; exact this) (fun ls' hl => ?_)
      exact am_kk_loc kk hI (am_okS_t hI.okS) (am_store1 (v := .null) hI.lr hL1 hl) (am_okL_put1 (v := .null) hI.okL trivial hL1)
    · cases hs
  · cases hs
theorem am_ii_s {f : Int32 → Int32 → Int32} (row : ∀ {x y : Int32} {rest : List Value}, W p l e R s m args below meth c H locs cells slots Q (F0 m (pc + 1) ls (.int (f x y) :: rest)) → W p l e R s m args below meth c H locs cells slots Q (F0 m pc ls (.int y :: .int x :: rest)))
    (hI : am_I s γ κ D A nL ρ H locs h L ls st) {q : Nat × am_L × List Value × am_H} (hs : am_ii f pc L st h = some q) (kk : am_kk p l e R s m args below meth c cells slots Q γ κ D A nL ρ h q.1 q.2.1 q.2.2.1 q.2.2.2) : W p l e R s m args below meth c H locs cells slots Q (F0 m pc ls (st.map (am_tv ρ))) := by
  unfold am_ii at hs
  split at hs
  · cases hs
    exact row (am_kk_same kk hI (am_okS_i (am_okS_t (am_okS_t hI.okS)) _))
  · cases hs
theorem am_dv_s {f : Int32 → Int32 → Int32} (row : ∀ {x y : Int32} {rest : List Value}, ¬ y = 0 → W p l e R s m args below meth c H locs cells slots Q (F0 m (pc + 1) ls (.int (f x y) :: rest)) → W p l e R s m args below meth c H locs cells slots Q (F0 m pc ls (.int y :: .int x :: rest)))
    (hI : am_I s γ κ D A nL ρ H locs h L ls st) {q : Nat × am_L × List Value × am_H} (hs : am_dv f pc L st h = some q) (kk : am_kk p l e R s m args below meth c cells slots Q γ κ D A nL ρ h q.1 q.2.1 q.2.2.1 q.2.2.2) : W p l e R s m args below meth c H locs cells slots Q (F0 m pc ls (st.map (am_tv ρ))) := by
  unfold am_dv at hs
  split at hs
  · split at hs
    · cases hs
    · next hy =>
      cases hs
      exact row hy (am_kk_same kk hI (am_okS_i (am_okS_t (am_okS_t hI.okS)) _))
  · cases hs
theorem am_ll_s {f : Int64 → Int64 → Int64} (row : ∀ {x y : Int64} {rest : List Value}, W p l e R s m args below meth c H locs cells slots Q (F0 m (pc + 1) ls (.long (f x y) :: rest)) → W p l e R s m args below meth c H locs cells slots Q (F0 m pc ls (.long y :: .long x :: rest)))
    (hI : am_I s γ κ D A nL ρ H locs h L ls st) {q : Nat × am_L × List Value × am_H} (hs : am_ll f pc L st h = some q) (kk : am_kk p l e R s m args below meth c cells slots Q γ κ D A nL ρ h q.1 q.2.1 q.2.2.1 q.2.2.2) : W p l e R s m args below meth c H locs cells slots Q (F0 m pc ls (st.map (am_tv ρ))) := by
  unfold am_ll at hs
  split at hs
  · cases hs
    exact row (am_kk_same kk hI (am_okS_l (am_okS_t (am_okS_t hI.okS)) _))
  · cases hs
theorem am_li_s {f : Int64 → Int32 → Int64} (row : ∀ {x : Int64} {y : Int32} {rest : List Value}, W p l e R s m args below meth c H locs cells slots Q (F0 m (pc + 1) ls (.long (f x y) :: rest)) → W p l e R s m args below meth c H locs cells slots Q (F0 m pc ls (.int y :: .long x :: rest)))
    (hI : am_I s γ κ D A nL ρ H locs h L ls st) {q : Nat × am_L × List Value × am_H} (hs : am_li f pc L st h = some q) (kk : am_kk p l e R s m args below meth c cells slots Q γ κ D A nL ρ h q.1 q.2.1 q.2.2.1 q.2.2.2) : W p l e R s m args below meth c H locs cells slots Q (F0 m pc ls (st.map (am_tv ρ))) := by
  unfold am_li at hs
  split at hs
  · cases hs
    exact row (am_kk_same kk hI (am_okS_l (am_okS_t (am_okS_t hI.okS)) _))
  · cases hs
theorem am_i1_s {f : Int32 → Value} (hf : ∀ (x : Int32) (n : Nat) (ρ : Nat → Nat), am_vok n (f x) ∧ am_tv ρ (f x) = f x) (row : ∀ {x : Int32} {rest : List Value}, W p l e R s m args below meth c H locs cells slots Q (F0 m (pc + 1) ls (f x :: rest)) → W p l e R s m args below meth c H locs cells slots Q (F0 m pc ls (.int x :: rest)))
    (hI : am_I s γ κ D A nL ρ H locs h L ls st) {q : Nat × am_L × List Value × am_H} (hs : am_i1 f pc L st h = some q) (kk : am_kk p l e R s m args below meth c cells slots Q γ κ D A nL ρ h q.1 q.2.1 q.2.2.1 q.2.2.2) : W p l e R s m args below meth c H locs cells slots Q (F0 m pc ls (st.map (am_tv ρ))) := by
  unfold am_i1 at hs
  split at hs
  · next x r =>
    cases hs
    have := am_kk_same kk hI (am_okS_c (am_okS_t hI.okS) (hf x _ ρ).1)
    rw [List.map_cons, (hf x 0 ρ).2] at this
    exact row this
  · cases hs
theorem am_br_s {b : Bool} {off : Int} {r : List Value} (hr : am_okS h.length r)
    (hI : am_I s γ κ D A nL ρ H locs h L ls st) {q : Nat × am_L × List Value × am_H} (hs : am_br b pc off L r h = some q) (kk : am_kk p l e R s m args below meth c cells slots Q γ κ D A nL ρ h q.1 q.2.1 q.2.2.1 q.2.2.2) :
    ∃ t : Nat, (pc : Int) + off = (t : Int) ∧ (b = true → W p l e R s m args below meth c H locs cells slots Q (F0 m t ls (r.map (am_tv ρ)))) ∧ (b = false → W p l e R s m args below meth c H locs cells slots Q (F0 m (pc + 3) ls (r.map (am_tv ρ)))) := by
  unfold am_br at hs
  split at hs
  · next t ht =>
    cases hs
    refine ⟨t, am_tg_spec ht, fun z => ?_, fun z => ?_⟩
    · subst z
      exact am_kk_same kk hI hr
    · subst z
      exact am_kk_same kk hI hr
  · cases hs
end AMS
