/-! ===== runs: calls and returns ===== -/
def am_ws (M : Nat) : List Cond := Cond.code (am_ys.getD M yL_law) (am_bs.getD M ByteArray.empty) (am_mls.getD M 0) (am_rets.getD M none) :: am_tb
def am_rm (d mc ms : Nat) : Room := { frames := d + 1, cells := mc, slots := ms, locals := 60 * d + 40 }
theorem am_Cs_go {E : am_E} {γ : Nat → Nat} {A B : Nat → Prop} {s U : State} {H : Heap} {locs : List Loc} (h : am_Cs E γ A s s.heap) (hS : va_S A s.heap H locs) (hAB : ∀ q, B q → A q) (hW : s.WarmedH U.vm) (hU : U.heap = H) : am_Cs E γ B U U.heap := by
  have hk : ∀ a : Nat, a < s.heap.size → ¬ A a → H[a]? = s.heap[a]? := fun a h1 h2 => hS.2.1 a h1 h2
  rw [hU]
  obtain ⟨h1, h2, h3, h4, h5, h6, h7, h8⟩ := h
  have hv := hW.alike
  refine ⟨fun k q hq => ?_, ((h2.kept hk).narrow hAB).moved hv, ((h3.kept hk).narrow hAB).moved hv, ((h4.kept hk).narrow hAB).moved hv, ((h5.kept hk).narrow hAB).moved hv, ((h6.kept hk).narrow hAB).moved hv, ((h7.kept hk).narrow hAB).moved hv, ((h8.kept hk).narrow hAB).moved hv⟩
  obtain ⟨g1, g2, g3, g4, g5⟩ := h1 k q hq
  exact ⟨((g1.kept hk).narrow hAB).moved hv, ((g2.kept hk).narrow hAB).moved hv, ((g3.kept hk).narrow hAB).moved hv, ((g4.kept hk).narrow hAB).moved hv, g5.warm hW⟩
theorem am_Cs_same {E : am_E} {γ : Nat → Nat} {A : Nat → Prop} {u U : State} {H : Heap} (hv : U.vm = u.vm) (h : am_Cs E γ A u H) : am_Cs E γ A U H := by
  have ha : u.vm.Alike U.vm := by rw [hv]; exact Vm.Alike.refl _
  obtain ⟨h1, h2, h3, h4, h5, h6, h7, h8⟩ := h
  refine ⟨fun k q hq => ?_, h2.moved ha, h3.moved ha, h4.moved ha, h5.moved ha, h6.moved ha, h7.moved ha, h8.moved ha⟩
  obtain ⟨g1, g2, g3, g4, g5⟩ := h1 k q hq
  exact ⟨g1.moved ha, g2.moved ha, g3.moved ha, g4.moved ha, g5.same hv⟩
theorem am_idx_bare (vm : Vm) (f : Kind → Bool) : (vm.bare.classes.findIdx? fun (x : Class) => f x.kind) = (vm.classes.findIdx? fun (x : Class) => f x.kind) := by
  simp only [Vm.bare, Array.findIdx?_map]
  rfl
theorem am_AOA_moved {t : FieldType} {u U : State} (hvm : u.vm.Alike U.vm) (h : am_AOA t u) : am_AOA t U := by
  have hi : ∀ f : Kind → Bool, (U.vm.classes.findIdx? fun (x : Class) => f x.kind) = (u.vm.classes.findIdx? fun (x : Class) => f x.kind) := by
    intro f
    rw [← am_idx_bare U.vm, ← am_idx_bare u.vm]
    first | rw [hvm.bare_eq] | rw [← hvm.bare_eq]
  have hf : ∀ n, U.vm.findClass n = u.vm.findClass n := fun n => hvm.findClass n _
  unfold am_AOA Cond.before Cond.holds at h ⊢
  simp only [Cond.value, beq_iff_eq] at h ⊢
  obtain ⟨comp, hc, h⟩ := Option.bind_eq_some_iff.mp h
  obtain ⟨c1, hj, h⟩ := Option.bind_eq_some_iff.mp h
  obtain ⟨k, hk, h⟩ := Option.map_eq_some_iff.mp h
  refine Option.bind_eq_some_iff.mpr ⟨comp, (hf _).trans hc, Option.bind_eq_some_iff.mpr ⟨c1, ?_, ?_⟩⟩
  · exact (hi (fun kd => match kd with | .array component _ => component == comp | _ => false)).trans hj
  · obtain ⟨k', hk', he⟩ := hvm.2.2 _ _ hk
    refine Option.map_eq_some_iff.mpr ⟨k', hk', ?_⟩
    rw [he, hf]
    exact h
theorem am_Wd_warm {s U : State} (hW : s.WarmedH U.vm) (h : am_Wd s) : am_Wd U :=
  ⟨fun o idx q hq h1 => (h.1 o idx q hq h1).warmM hW, h.2.1.moved hW.alike, am_AOA_moved hW.alike h.2.2.1, am_AOA_moved hW.alike h.2.2.2⟩
theorem am_Wd_same {u U : State} (hv : U.vm = u.vm) (h : am_Wd u) : am_Wd U := by
  have ha : u.vm.Alike U.vm := by rw [hv]; exact Vm.Alike.refl _
  exact ⟨fun o idx q hq h1 => va_Nw.same rfl hv.symm (h.1 o idx q hq h1), h.2.1.moved ha, am_AOA_moved ha h.2.2.1, am_AOA_moved ha h.2.2.2⟩
/-- a method's start -/
def am_Pc (E : am_E) (γ : Nat → Nat) (κ : FieldType → ClassId) (D : va_G) (ρ : Nat → Nat) (h : am_H) (sz : Nat) (vs : List Value) : Array Value → State → Prop := fun v U =>
  v = (vs.map (am_tv ρ)).toArray ∧ U.heap.size = sz ∧ va_P D am_cls (am_w ρ κ h) U.heap ∧ va_D (fun _ => True) (am_w ρ κ h) ∧ va_K D am_cls (am_ks κ) U ∧ am_Cs E γ (va_A (am_w ρ κ h) sz) U U.heap ∧ am_Wd U
/-- a method's end -/
def am_Qc (γ : Nat → Nat) (κ : FieldType → ClassId) (D : va_G) (ρ : Nat → Nat) (h : am_H) (sz : Nat) (r : Option Value) (h' : am_H) : Array Value → State → Outcome → State → Prop := fun _ st oc t =>
  (∃ ρ' : Nat → Nat, am_ext ρ ρ' h.length ∧ (∀ a, 1000000 ≤ a → ρ' a = γ a) ∧ oc = .returned (r.map (am_tv ρ')) ∧ va_P D am_cls (am_w ρ' κ h') t.heap ∧ va_D (va_A (am_w ρ κ h) sz) (am_w ρ' κ h') ∧ am_okH h' ∧ ∀ v, r = some v → am_vok h'.length v) ∧ va_F (va_A (am_w ρ κ h) sz) st t
theorem am_Pc_blind {E : am_E} {γ : Nat → Nat} {κ : FieldType → ClassId} {D : va_G} {ρ : Nat → Nat} {h : am_H} {sz : Nat} {vs : List Value} : FrameBlind (am_Pc E γ κ D ρ h sz vs) := by
  intro a U g mk q
  obtain ⟨q1, q2, q3, q4, q5, q6, q7⟩ := q
  exact ⟨q1, q2, q3, q4, va_K.moved (u := U) (U := U.calling g mk a) (Vm.Alike.refl U.vm) q5, am_Cs_same (u := U) rfl q6, am_Wd_same (u := U) rfl q7⟩
section AMR
variable {p : Program} {l : Launch} {e : Env} {R : Room} {s : State} {m : MethodId} {args : Array Value} {below : List Frame} {meth : Method} {c : Code} {H : Heap} {locs : List Loc} {cells slots : Nat} {Q : State → Prop}
variable {M pc pc' nL : Nat} {E : am_E} {γ ρ : Nat → Nat} {κ : FieldType → ClassId} {D : va_G} {A : Nat → Prop} {h h' : am_H} {L L' : am_L} {ls : Array Slot} {st st' : List Value} {cc : ByteArray}
theorem am_callc {mc ms : Nat} {st0 rest : List Value} {Qa : State → Outcome → State → Prop} {free : Addr → Prop} (hr : va_Run p l e R s m args below meth c H locs cells slots mc ms (F0 m pc ls st0) rest Qa free)
    (kk : ∀ (v : Option Value) (st₀ t : State) (H1 : Heap) (Ls : List Loc), st₀.heap = H → t.heap = H1 → Qa st₀ (.returned v) t → (∀ q ∈ Ls, free q.base) → W p l e R s m args below meth c H1 (locs ++ Ls) (cells + mc) (slots + ms) Q (F0 m (pc + 3) ls (v.toList ++ rest))) : W p l e R s m args below meth c H locs cells slots Q (F0 m pc ls st0) := by
  intro T hT X
  obtain ⟨v, st₀, t, T', Ls, h0, X', hL, e1, e2, hq, stp⟩ := hr T hT X
  obtain ⟨t2, a1, b1⟩ := kk v st₀ t T'.heap Ls h0 e1.symm hq hL T' rfl X'
  exact ⟨t2, stp t2 a1, b1⟩
theorem am_free (hF : am_Fx p s m args meth c M E γ κ D A) (hI : am_I s γ κ D A nL ρ H locs h L ls st) : ∀ q, va_A (am_w ρ κ h) H.size q → A q := by
  intro q hq
  rcases hq with ⟨k, e, hk⟩ | hq
  · exact hI.2.1.2 k _ hk
  · exact hF.2.2.2.2.1 q (Nat.le_trans hI.2.2.1.1 hq)
/-- behind a call -/
theorem am_back (hF : am_Fx p s m args meth c M E γ κ D A) (hI : am_I s γ κ D A nL ρ H locs h L ls st) {mc ms : Nat} {st0 rest : List Value} {a : Array Value} {r : Option Value} {h1 : am_H} (hrest : am_okS h.length rest) (hu : h.length ≤ h1.length)
    (hr : va_Run p l e R s m args below meth c H locs cells slots mc ms (F0 m pc ls st0) (rest.map (am_tv ρ)) (am_Qc γ κ D ρ h H.size r h1 a) (va_A (am_w ρ κ h) H.size))
    (kk : ∀ (ρ' : Nat → Nat) (H' : Heap) (locs' : List Loc), am_ext ρ ρ' h.length → am_I s γ κ D A nL ρ' H' locs' h1 L ls (r.toList ++ rest) → W p l e R s m args below meth c H' locs' (cells + mc) (slots + ms) Q (F0 m (pc + 3) ls ((r.toList ++ rest).map (am_tv ρ')))) : W p l e R s m args below meth c H locs cells slots Q (F0 m pc ls st0) := by
  have hAf := am_free hF hI
  refine am_callc hr (fun v st₀ t H1 Ls h0 ht hq hL => ?_)
  obtain ⟨⟨ρ', hx, hg, hv, hP, hD, hok, hrv⟩, hz, hkeep⟩ := hq
  rw [ht] at hP
  rw [h0, ht] at hz
  rw [h0, ht] at hkeep
  have hv : v = r.map (am_tv ρ') := by cases hv; rfl
  have e1 : v.toList ++ rest.map (am_tv ρ) = (r.toList ++ rest).map (am_tv ρ') := by
    rw [List.map_append, am_tvs_ext hx hrest, hv]
    cases r <;> rfl
  rw [e1]
  refine kk ρ' H1 (locs ++ Ls) hx ⟨hP, hD.weaken (fun k q _ z => hAf _ z), ⟨Nat.le_trans hI.2.2.1.1 hz, fun q h1 h2 => ?_, fun q hq => ?_⟩, am_Lr_ext hx hI.okL hI.lr, hok, am_okL_mono hu hI.okL, fun w hw => ?_, hg⟩
  · rw [hkeep q (Nat.lt_of_lt_of_le h1 hI.2.2.1.1) (fun z => h2 (hAf q z))]
    exact hI.2.2.1.2.1 q h1 h2
  · rcases List.mem_append.mp hq with z | z
    · exact hI.2.2.1.2.2 q z
    · exact hAf _ (hL q z)
  · rcases List.mem_append.mp hw with z | z
    · cases r with
      | none => cases z
      | some v0 =>
        rw [List.mem_singleton.mp z]
        exact hrv v0 rfl
    · exact am_vok_mono hu (hrest w z)
end AMR
/-- what is shown of n steps -/
def am_Pn (l : Launch) (n : Nat) : Prop := ∀ (E : am_E) (γ : Nat → Nat) (κ : FieldType → ClassId) (D : va_G) (p : Program) (e : Env) (R : Room) (s : State) (m : MethodId) (args : Array Value) (below : List Frame) (meth : Method) (c : Code) (Q : State → Prop) (M : Nat) (A : Nat → Prop) (nL : Nat) (ρ : Nat → Nat) (H : Heap) (locs : List Loc) (cells slots d pc : Nat) (L : am_L) (ls : Array Slot) (st : List Value) (h : am_H) (r : Option Value) (h' : am_H),
  am_exec E n d M pc L st h = some (r, h') → am_Fx p s m args meth c M E γ κ D A → am_I s γ κ D A nL ρ H locs h L ls st → nL = am_mls.getD M 0 → d + 1 ≤ R.frames → 60 * d + 40 ≤ R.locals → cells + (h'.length - h.length) ≤ R.cells → slots + (am_sz h' - am_sz h) ≤ R.slots →
  (∀ (ρ' : Nat → Nat) (H' : Heap) (locs' : List Loc) (L' : am_L) (ls' : Array Slot) (pc' : Nat) (i : Instr) (st' : List Value), am_ext ρ ρ' h.length → am_I s γ κ D A nL ρ' H' locs' h' L' ls' st' → am_code M pc' = some i → am_rt M i st' = some r → W p l e R s m args below meth c H' locs' (cells + (h'.length - h.length)) (slots + (am_sz h' - am_sz h)) Q (F0 m pc' ls' (st'.map (am_tv ρ')))) →
  W p l e R s m args below meth c H locs cells slots Q (F0 m pc ls (st.map (am_tv ρ)))
theorem am_mchk_of {M : Nat} (hM : M < 322) : Cond.code (am_ys.getD M yL_law) (am_bs.getD M ByteArray.empty) (am_mls.getD M 0) (am_rets.getD M none) ∈ am_tb ∧ (am_srts.getD M 9 = 1 → Cond.static (am_ys.getD M yL_law) ∈ am_tb) ∧ (¬ am_srts.getD M 9 = 1 → Cond.instanceMethod (am_ys.getD M yL_law) ∈ am_tb) ∧ (am_srts.getD M 9 = 0 → Cond.selects (am_ys.getD M yL_law).cls (am_ys.getD M yL_law) (am_ys.getD M yL_law) ∈ am_tb) ∧ Cond.initialized (am_ys.getD M yL_law).cls ∈ am_tb ∧
    (am_ys.getD M yL_law).cls = am_own.getD (am_own1 M) "" ∧ plainFor (am_ys.getD M yL_law) = true ∧ ((am_ys.getD M yL_law).cls ≠ "java/lang/invoke/MethodHandle" ∧ (am_ys.getD M yL_law).cls ≠ "java/lang/invoke/VarHandle") ∧ (parseMethodDescriptor (am_ys.getD M yL_law).desc).map (fun d => d.parameters.length) = some (am_nps.getD M 0) ∧ (am_srts.getD M 9 = 2 → (am_ys.getD M yL_law).name = "<init>" ∧ am_rets.getD M none = none) ∧ am_mls.getD M 0 ≤ 16 ∧ am_srts.getD M 9 ≤ 2 := by
  have h := am_mM hM
  simp only [am_mchk, Bool.and_eq_true, decide_eq_true_eq] at h
  obtain ⟨⟨⟨⟨⟨⟨⟨⟨⟨h2, h3⟩, h4⟩, h5⟩, h6⟩, h7⟩, h8⟩, h9⟩, h10⟩, h11⟩ := h
  refine ⟨am_codew hM, fun z => ?_, fun z => ?_, fun z => ?_, am_at_in h4, h5, h6, h7, h8, fun z => ?_, h10, h11⟩
  · rw [if_pos z] at h2; exact am_at_in h2
  · rw [if_neg z] at h2; exact am_at_in h2
  · rw [if_pos z] at h3; exact am_at_in h3
  · rw [if_pos z] at h9
    simpa using h9
/-- Met.ofW for a method that no native stands for -/
theorem am_ofW {l : Launch} {y : MethodName} {ws ws' : List Cond} {rm : Room} {Pc : Array Value → State → Prop} {Qc : Array Value → State → Outcome → State → Prop} {mc ms : Nat} {free : Addr → Prop} {cc : ByteArray} {maxL : Nat} {ret : Option FieldType}
    (hy : plainFor y = true) (hw : ws = Cond.code y cc maxL ret :: ws')
    (body : ∀ p e s m args below meth c s₁, BodyLoose p l y (headSpec ws rm) cc maxL ret e s m args below meth c s₁ → c.maxLocals = maxL → Pc args s →
      W p l e (headSpec ws rm).room s m args below meth c s.heap [] 0 0 (MQ below Qc args s mc ms free) (entryFrame m args maxL)) : Met l y ws rm Pc Qc mc ms free := by
  refine MetFree.of_bodySF (code := cc) (maxLocals := maxL) (ret := ret) hy ?_ ?_
  · intro args s m h hn
    obtain ⟨meth, c, h1, h2, h3, h4, h5, h6, -, -⟩ := Cond.code_spec hn (atoms_spec (ws := ws) h _ (by rw [hw]; exact List.mem_cons_self))
    exact ⟨meth, c, h1, h2, h3, h4, h5, h6⟩
  · intro p e s m args below meth c s₁ B hml hP _
    have hh0 : s₁.heap = s.heap := by rw [B.state]; rfl
    obtain ⟨t, a1, o, b1, b2, b3⟩ := body p e s m args below meth c s₁ B hml hP s₁ hh0 (Stand.of_body B)
    exact ⟨t, o, a1, b1, b2, ⟨b3.1, b3.2⟩⟩
theorem am_srt_eq {M : Nat} (hM : M < 322) : am_srts.getD M 9 = am_srts.getD M 0 := by
  have hl : am_srts.length = 323 := by decide +kernel
  rw [List.getD_eq_getElem?_getD, List.getD_eq_getElem?_getD, List.getElem?_eq_getElem (by rw [hl]; omega)]
  rfl
set_option maxHeartbeats 1000000 in
/-- the contract of a method, from its run -/
theorem am_met {l : Launch} {n : Nat} (hPn : am_Pn l n) {E : am_E} {γ : Nat → Nat} {κ : FieldType → ClassId} {D : va_G} {ρ : Nat → Nat} {d M sz : Nat} {vs : List Value} {h h' : am_H} {r : Option Value} (hM : M < 322) (hex : am_exec E n d M 0 (am_entry vs (am_mls.getD M 0)) [] h = some (r, h')) (hsl : (am_sl vs).length ≤ am_mls.getD M 0) (hok : am_okH h) (hvs : am_okS h.length vs) (hg : ∀ a, 1000000 ≤ a → ρ a = γ a) (hE : am_vok 0 E.2) :
    Met l (am_ys.getD M yL_law) (am_ws M) (am_rm d (h'.length - h.length) (am_sz h' - am_sz h)) (am_Pc E γ κ D ρ h sz vs) (am_Qc γ κ D ρ h sz r h') (h'.length - h.length) (am_sz h' - am_sz h) (va_A (am_w ρ κ h) sz) := by
  obtain ⟨hcode, -, -, -, -, hcls, hplain, -, -, hname, -, -⟩ := am_mchk_of hM
  refine am_ofW (cc := am_bs.getD M ByteArray.empty) (maxL := am_mls.getD M 0) (ret := am_rets.getD M none) hplain rfl ?_
  intro p e s m args below meth c s₁ B hml hv
  obtain ⟨rfl, hsz, hP, hD, hK, hC, hWd⟩ := hv
  have hts := atoms_spec (ws := am_ws M) B.pre
  have hown : s.vm.findClass (am_own.getD (am_own1 M) "") = some m.cls := hcls ▸ findClass_of_methodNamed B.named
  have hlocks : meth.locks = false := B.notSynchronized
  have hret := B.returns
  have hF : am_Fx p s m (vs.map (am_tv ρ)).toArray meth c M E γ κ D (va_A (am_w ρ κ h) sz) := by
    refine ⟨B.exec, B.bytes, hown, fun w hw => hts w (List.mem_cons_of_mem _ hw), fun q hq => Or.inr (by rw [hsz] at hq; exact hq), hK, hC, fun z => ?_, hE, hml, hWd⟩
    rw [(name_of_methodNamed B.named B.method).1]
    exact (hname (by rw [am_srt_eq hM]; exact z)).1
  have hI : am_I s γ κ D (va_A (am_w ρ κ h) sz) (am_mls.getD M 0) ρ s.heap [] h (am_entry vs (am_mls.getD M 0)) ((lg_sl (vs.map (am_tv ρ)) ++ List.replicate (am_mls.getD M 0 - (lg_sl (vs.map (am_tv ρ))).length) Slot.unset).toArray) [] :=
    ⟨hP, hD.self, va_S.rf, am_entry_lr hsl, hok, am_entry_ok hvs, (fun _ hv => nomatch hv), hg⟩
  rw [lg_entry_eq]
  refine hPn E γ κ D p e (am_rm d (h'.length - h.length) (am_sz h' - am_sz h)) s m _ below meth c _ M _ _ ρ s.heap [] 0 0 d 0 _ _ [] h r h' hex hF hI rfl (Nat.le_refl _) (Nat.le_refl _) (by rw [Nat.zero_add]; exact Nat.le_refl _) (by rw [Nat.zero_add]; exact Nat.le_refl _) ?_
  intro ρ' H' locs' L' ls' pc' i st' hx hI' hcd hrt
  rw [Nat.zero_add, Nat.zero_add]
  obtain ⟨len, hd0, hlen⟩ := am_dec hcd
  have hq : (∀ v, r = some v → am_vok h'.length v) → ∀ t : State, t.heap = H' → s.WarmedH t.vm → am_Qc γ κ D ρ h sz r h' (vs.map (am_tv ρ)).toArray s (.returned (r.map (am_tv ρ'))) t := by
    intro hrv t ht _
    refine ⟨⟨ρ', hx, hI'.2.2.2.2.2.2.2, rfl, by rw [ht]; exact hI'.1, hI'.2.1, hI'.okH, hrv⟩, by rw [ht]; exact hI'.2.2.1.1, fun q h1 h2 => by rw [ht]; exact hI'.2.2.1.2.1 q h1 h2⟩
  have hf : ∀ q ∈ locs', va_A (am_w ρ κ h) sz q.base := hI'.2.2.1.2.2
  unfold am_rt at hrt
  split at hrt
  · next v =>
    split at hrt
    · next ty hty =>
      split at hrt
      · next hn =>
        cases hrt
        rcases hlen with rfl | z
        · exact W.zret (v := v) B.exec B.bytes (by rw [hret, hty]) hn (hq (fun w hw => by cases hw; trivial)) hf hd0 hlocks
        · cases z
      · cases hrt
    · cases hrt
  · next v =>
    split at hrt
    · next hty =>
      cases hrt
      rcases hlen with rfl | z
      · exact W.lret (v := v) B.exec B.bytes (by rw [hret, hty]) (hq (fun w hw => by cases hw; trivial)) hf hd0 hlocks
      · cases z
    · cases hrt
  · next a =>
    split at hrt
    · next nm hty =>
      cases hrt
      rcases hlen with rfl | z
      · exact W.aret (v := .ref (ρ' a)) (rt := .object nm) B.exec B.bytes (by rw [hret, hty]) (Or.inl ⟨nm, rfl⟩) (Or.inr ⟨_, rfl⟩) (hq (fun w hw => by cases hw; exact am_okS_h hI'.okS)) hf hd0 hlocks
      · cases z
    · cases hrt
  · split at hrt
    · next nm hty =>
      cases hrt
      rcases hlen with rfl | z
      · exact W.aret (v := .null) (rt := .object nm) B.exec B.bytes (by rw [hret, hty]) (Or.inl ⟨nm, rfl⟩) (Or.inl rfl) (hq (fun w hw => by cases hw; trivial)) hf hd0 hlocks
      · cases z
    · cases hrt
  · split at hrt
    · next hty =>
      cases hrt
      rcases hlen with rfl | z
      · exact W.vret B.exec B.bytes (by rw [hret, hty]) (hq (fun w hw => by cases hw)) hf hd0 hlocks
      · cases z
    · cases hrt
  · cases hrt
