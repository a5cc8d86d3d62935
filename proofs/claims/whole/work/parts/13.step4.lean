theorem am_kt_i : FieldType.int ∈ am_kt := by decide
theorem am_kt_l : FieldType.long ∈ am_kt := by decide
theorem am_kt_b : FieldType.byte ∈ am_kt := by decide
theorem am_kt_z : FieldType.boolean ∈ am_kt := by decide
theorem am_kt_g : FieldType.object RX3 ∈ am_kt := by decide
theorem am_rd_ty {E : am_E} {a n : Nat} {ty : FieldType} {x : (Nat → Int32) ⊕ ((Nat → Int64) ⊕ ((Nat → UInt32) ⊕ ((Nat → UInt64) ⊕ (Nat → Option Nat))))} (h : am_rd E a = some (ty, n, x)) : ty = .int ∨ ty = .byte := by
  unfold am_rd at h
  split at h
  · cases h; exact Or.inl rfl
  · split at h
    · cases h; exact Or.inl rfl
    · split at h
      · cases h; exact Or.inl rfl
      · split at h
        · split at h
          · cases h; exact Or.inr rfl
          · cases h
        · cases h
section AMU
variable {p : Program} {l : Launch} {e : Env} {R : Room} {s : State} {m : MethodId} {args : Array Value} {below : List Frame} {meth : Method} {c : Code} {H : Heap} {locs : List Loc} {cells slots : Nat} {Q : State → Prop}
variable {M pc pc' nL : Nat} {E : am_E} {γ ρ : Nat → Nat} {κ : FieldType → ClassId} {D : va_G} {A : Nat → Prop} {h h' : am_H} {L L' : am_L} {ls : Array Slot} {st st' : List Value} {cc : ByteArray}
theorem am_rdi_s (hF : am_Fx p s m args meth c M E γ κ D A) (hI : am_I s γ κ D A nL ρ H locs h L ls st) {a : Nat} {i : Int32} {r : List Value} (hr : am_okS h.length r) (hd : decode (am_bs.getD M ByteArray.empty) pc = .ok (.iaload, 1)) {q : Nat × am_L × List Value × am_H} (hs : am_rdi (am_arr E h a) i pc L r h = some q) (kk : am_kk p l e R s m args below meth c cells slots Q γ κ D A nL ρ h q.1 q.2.1 q.2.2.1 q.2.2.2) : W p l e R s m args below meth c H locs cells slots Q (F0 m pc ls (.int i :: .ref (ρ a) :: r.map (am_tv ρ))) := by
  obtain ⟨hx, hb, hown, hts, hA, hK, hC, hini, hE, hml, hWd⟩ := hF
  unfold am_rdi at hs
  split at hs
  · next n f hx0 =>
    cases hin : am_inb i n with
    | false => rw [hin] at hs; cases hs
    | true =>
      rw [hin] at hs
      cases hs
      have k1 := am_kk_same kk hI (am_okS_i hr (f i.toNatClampNeg))
      rcases am_arr_cases hx0 with ⟨hl, ha⟩ | ⟨hl, ha⟩
      · exact va_iald hx hb hK hI.1 a 0 (am_w_get ha) rfl (am_inb_in hin) hd k1
      · obtain ⟨g, hg, hT⟩ := am_rd_T hC hl ha
        cases hg
        rw [hI.2.2.2.2.2.2.2 a hl]
        exact va_ti hx hb hT hI.2.2.1 (am_inb_in hin) rfl hd k1
  · cases hs
theorem am_rdb_s (hF : am_Fx p s m args meth c M E γ κ D A) (hI : am_I s γ κ D A nL ρ H locs h L ls st) {a : Nat} {i : Int32} {r : List Value} (hr : am_okS h.length r) (hd : decode (am_bs.getD M ByteArray.empty) pc = .ok (.baload, 1)) {q : Nat × am_L × List Value × am_H} (hs : am_rdb (am_arr E h a) i pc L r h = some q) (kk : am_kk p l e R s m args below meth c cells slots Q γ κ D A nL ρ h q.1 q.2.1 q.2.2.1 q.2.2.2) : W p l e R s m args below meth c H locs cells slots Q (F0 m pc ls (.int i :: .ref (ρ a) :: r.map (am_tv ρ))) := by
  obtain ⟨hx, hb, hown, hts, hA, hK, hC, hini, hE, hml, hWd⟩ := hF
  unfold am_rdb at hs
  split at hs
  · next n f hx0 =>
    cases hin : am_inb i n with
    | false => rw [hin] at hs; cases hs
    | true =>
      rw [hin] at hs
      cases hs
      have k1 := am_kk_same kk hI (am_okS_i hr (f i.toNatClampNeg))
      rcases am_arr_cases hx0 with ⟨hl, ha⟩ | ⟨hl, ha⟩
      · exact va_bald hx hb hK hI.1 a 2 (am_w_get ha) rfl (am_inb_in hin) hd k1
      · obtain ⟨g, hg, hT⟩ := am_rd_T hC hl ha
        cases hg
        rw [hI.2.2.2.2.2.2.2 a hl]
        exact va_tb hx hb hT hI.2.2.1 (am_inb_in hin) rfl hd k1
  · next n f hx0 =>
    cases hin : am_inb i n with
    | false => rw [hin] at hs; cases hs
    | true =>
      rw [hin] at hs
      cases hs
      have k1 := am_kk_same kk hI (am_okS_i hr (f i.toNatClampNeg))
      rcases am_arr_cases hx0 with ⟨hl, ha⟩ | ⟨hl, ha⟩
      · exact va_zald hx hb hK hI.1 a 3 (am_w_get ha) rfl (am_inb_in hin) hd k1
      · rcases am_rd_ty ha with z | z <;> cases z
  · cases hs
theorem am_rdl_s (hF : am_Fx p s m args meth c M E γ κ D A) (hI : am_I s γ κ D A nL ρ H locs h L ls st) {a : Nat} {i : Int32} {r : List Value} (hr : am_okS h.length r) (hd : decode (am_bs.getD M ByteArray.empty) pc = .ok (.laload, 1)) {q : Nat × am_L × List Value × am_H} (hs : am_rdl (am_arr E h a) i pc L r h = some q) (kk : am_kk p l e R s m args below meth c cells slots Q γ κ D A nL ρ h q.1 q.2.1 q.2.2.1 q.2.2.2) : W p l e R s m args below meth c H locs cells slots Q (F0 m pc ls (.int i :: .ref (ρ a) :: r.map (am_tv ρ))) := by
  obtain ⟨hx, hb, hown, hts, hA, hK, hC, hini, hE, hml, hWd⟩ := hF
  unfold am_rdl at hs
  split at hs
  · next n f hx0 =>
    cases hin : am_inb i n with
    | false => rw [hin] at hs; cases hs
    | true =>
      rw [hin] at hs
      cases hs
      have k1 := am_kk_same kk hI (am_okS_l hr (f i.toNatClampNeg))
      rcases am_arr_cases hx0 with ⟨hl, ha⟩ | ⟨hl, ha⟩
      · exact va_lald hx hb hK hI.1 a 1 (am_w_get ha) rfl (am_inb_in hin) hd k1
      · rcases am_rd_ty ha with z | z <;> cases z
  · cases hs
theorem am_rda_s (hF : am_Fx p s m args meth c M E γ κ D A) (hI : am_I s γ κ D A nL ρ H locs h L ls st) {a : Nat} {i : Int32} {r : List Value} (hr : am_okS h.length r) (hd : decode (am_bs.getD M ByteArray.empty) pc = .ok (.aaload, 1)) {q : Nat × am_L × List Value × am_H} (hs : am_rda h[a]? i pc L r h = some q) (kk : am_kk p l e R s m args below meth c cells slots Q γ κ D A nL ρ h q.1 q.2.1 q.2.2.1 q.2.2.2) : W p l e R s m args below meth c H locs cells slots Q (F0 m pc ls (.int i :: .ref (ρ a) :: r.map (am_tv ρ))) := by
  obtain ⟨hx, hb, hown, hts, hA, hK, hC, hini, hE, hml, hWd⟩ := hF
  have key : ∀ (ty : FieldType) (n : Nat) (f : Nat → Option Nat), ty.isReference = true → h[a]? = some (.inl (ty, n, .inr (.inr (.inr (.inr f))))) → am_inb i n = true → q = (pc + 1, L, va_rf (f i.toNatClampNeg) :: r, h) → W p l e R s m args below meth c H locs cells slots Q (F0 m pc ls (.int i :: .ref (ρ a) :: r.map (am_tv ρ))) := by
    intro ty n f hty ha hin hq
    subst hq
    have hcok := hI.okH _ (List.mem_of_getElem? ha)
    obtain ⟨t0, ht0⟩ := am_ks_in (κ := κ) hcok.1
    have hv : am_vok h.length (va_rf (f i.toNatClampNeg)) := by
      cases hf : f i.toNatClampNeg with
      | none => trivial
      | some b => exact Or.inl (hcok.2 _ _ hf)
    have k1 := am_kk_same kk hI (am_okS_c hr hv)
    refine am_aldA hx hb hK hI.1 a t0 hty (am_w_get ha) ht0 (am_inb_in hin) hd ?_
    show W p l e R s m args below meth c H locs cells slots Q (F0 m (pc + 1) ls (va_rf ((f i.toNatClampNeg).map ρ) :: r.map (am_tv ρ)))
    rw [am_rf_tv]
    exact k1
  unfold am_rda at hs
  split at hs
  · next C n f hx0 =>
    cases hin : am_inb i n with
    | false => rw [hin] at hs; cases hs
    | true => rw [hin] at hs; exact key _ n f rfl hx0 hin (Option.some.inj hs).symm
  · next C n f hx0 =>
    cases hin : am_inb i n with
    | false => rw [hin] at hs; cases hs
    | true => rw [hin] at hs; exact key _ n f rfl hx0 hin (Option.some.inj hs).symm
  · cases hs
theorem am_wri_s (hF : am_Fx p s m args meth c M E γ κ D A) (hI : am_I s γ κ D A nL ρ H locs h L ls st) {a : Nat} {i x : Int32} {r : List Value} (hr : am_okS h.length r) (hd : decode (am_bs.getD M ByteArray.empty) pc = .ok (.iastore, 1)) {q : Nat × am_L × List Value × am_H} (hs : am_wri a i x pc L r h = some q) (kk : am_kk p l e R s m args below meth c cells slots Q γ κ D A nL ρ h q.1 q.2.1 q.2.2.1 q.2.2.2) : W p l e R s m args below meth c H locs cells slots Q (F0 m pc ls (.int x :: .int i :: .ref (ρ a) :: r.map (am_tv ρ))) := by
  obtain ⟨hx, hb, hown, hts, hA, hK, hC, hini, hE, hml, hWd⟩ := hF
  unfold am_wri at hs
  split at hs
  · next n f ha =>
    cases hin : am_inb i n with
    | false => rw [hin] at hs; cases hs
    | true =>
      rw [hin] at hs
      cases hs
      exact va_iast hx hb hK hI.1 hI.2.1 hI.2.2.1 a 0 (am_w_get ha) rfl (am_inb_in hin) hd (fun H1 locs1 hP hD hS => am_kk_set (c1 := .inl (.int, n, .inl (upd f i.toNatClampNeg x))) kk hI hr ha rfl rfl ⟨am_kt_i, trivial⟩ hP hD hS)
  · cases hs
theorem am_wrb_s (hF : am_Fx p s m args meth c M E γ κ D A) (hI : am_I s γ κ D A nL ρ H locs h L ls st) {a : Nat} {i x : Int32} {r : List Value} (hr : am_okS h.length r) (hd : decode (am_bs.getD M ByteArray.empty) pc = .ok (.bastore, 1)) {q : Nat × am_L × List Value × am_H} (hs : am_wrb a i x pc L r h = some q) (kk : am_kk p l e R s m args below meth c cells slots Q γ κ D A nL ρ h q.1 q.2.1 q.2.2.1 q.2.2.2) : W p l e R s m args below meth c H locs cells slots Q (F0 m pc ls (.int x :: .int i :: .ref (ρ a) :: r.map (am_tv ρ))) := by
  obtain ⟨hx, hb, hown, hts, hA, hK, hC, hini, hE, hml, hWd⟩ := hF
  unfold am_wrb at hs
  split at hs
  · next n f ha =>
    cases hin : am_inb i n with
    | false => rw [hin] at hs; cases hs
    | true =>
      rw [hin] at hs
      cases hs
      exact va_bast hx hb hK hI.1 hI.2.1 hI.2.2.1 a 2 (am_w_get ha) rfl (am_inb_in hin) hd (fun H1 locs1 hP hD hS => am_kk_set (c1 := .inl (.byte, n, .inl (upd f i.toNatClampNeg (vp_nar .byte x)))) kk hI hr ha rfl rfl ⟨am_kt_b, trivial⟩ hP hD hS)
  · next n f ha =>
    cases hin : am_inb i n with
    | false => rw [hin] at hs; cases hs
    | true =>
      rw [hin] at hs
      cases hs
      exact va_zast hx hb hK hI.1 hI.2.1 hI.2.2.1 a 3 (am_w_get ha) rfl (am_inb_in hin) hd (fun H1 locs1 hP hD hS => am_kk_set (c1 := .inl (.boolean, n, .inl (upd f i.toNatClampNeg (vp_nar .boolean x)))) kk hI hr ha rfl rfl ⟨am_kt_z, trivial⟩ hP hD hS)
  · cases hs
theorem am_wrl_s (hF : am_Fx p s m args meth c M E γ κ D A) (hI : am_I s γ κ D A nL ρ H locs h L ls st) {a : Nat} {i : Int32} {x : Int64} {r : List Value} (hr : am_okS h.length r) (hd : decode (am_bs.getD M ByteArray.empty) pc = .ok (.lastore, 1)) {q : Nat × am_L × List Value × am_H} (hs : am_wrl a i x pc L r h = some q) (kk : am_kk p l e R s m args below meth c cells slots Q γ κ D A nL ρ h q.1 q.2.1 q.2.2.1 q.2.2.2) : W p l e R s m args below meth c H locs cells slots Q (F0 m pc ls (.long x :: .int i :: .ref (ρ a) :: r.map (am_tv ρ))) := by
  obtain ⟨hx, hb, hown, hts, hA, hK, hC, hini, hE, hml, hWd⟩ := hF
  unfold am_wrl at hs
  split at hs
  · next n f ha =>
    cases hin : am_inb i n with
    | false => rw [hin] at hs; cases hs
    | true =>
      rw [hin] at hs
      cases hs
      exact va_last hx hb hK hI.1 hI.2.1 hI.2.2.1 a 1 (am_w_get ha) rfl (am_inb_in hin) hd (fun H1 locs1 hP hD hS => am_kk_set (c1 := .inl (.long, n, .inr (.inl (vp_updL f i.toNatClampNeg x)))) kk hI hr ha rfl rfl ⟨am_kt_l, trivial⟩ hP hD hS)
  · cases hs
theorem am_wra_s (hF : am_Fx p s m args meth c M E γ κ D A) (hI : am_I s γ κ D A nL ρ H locs h L ls st) {a v : Nat} {i : Int32} {r : List Value} (hr : am_okS h.length r) (hd : decode (am_bs.getD M ByteArray.empty) pc = .ok (.aastore, 1)) {q : Nat × am_L × List Value × am_H} (hs : am_wra a i v pc L r h = some q) (kk : am_kk p l e R s m args below meth c cells slots Q γ κ D A nL ρ h q.1 q.2.1 q.2.2.1 q.2.2.2) : W p l e R s m args below meth c H locs cells slots Q (F0 m pc ls (.ref (ρ v) :: .int i :: .ref (ρ a) :: r.map (am_tv ρ))) := by
  obtain ⟨hx, hb, hown, hts, hA, hK, hC, hini, hE, hml, hWd⟩ := hF
  unfold am_wra at hs
  split at hs
  · next C n f ci vs ha hv =>
    cases hin : (am_inb i n && decide ((am_cls[ci]?).map (fun q => q.1) = some C)) with
    | false => rw [hin] at hs; cases hs
    | true =>
      rw [hin] at hs
      cases hs
      simp only [Bool.and_eq_true, decide_eq_true_eq] at hin
      obtain ⟨hin, hC1⟩ := hin
      cases hci : am_cls[ci]? with
      | none => rw [hci] at hC1; cases hC1
      | some r1 =>
        rw [hci] at hC1
        cases hC1
        have hcok := hI.okH _ (List.mem_of_getElem? ha)
        obtain ⟨t0, ht0⟩ := am_ks_in (κ := κ) hcok.1
        have hvl : v < h.length := (List.getElem?_eq_some_iff.mp hv).1
        have hok : am_cok h.length (.inl (.object r1.1, n, .inr (.inr (.inr (.inr (va_up f i.toNatClampNeg (some v))))))) := by
          refine ⟨hcok.1, fun j b hj => ?_⟩
          simp only [va_up] at hj
          split at hj
          · cases hj; exact hvl
          · exact hcok.2 j b hj
        have e1 : (Sum.inl (κ (.object r1.1), n, Sum.inr (Sum.inr (Sum.inr (Sum.inr (va_up (fun j => (f j).map ρ) i.toNatClampNeg (some (ρ v))))))) : va_E) = am_tc ρ κ (.inl (.object r1.1, n, .inr (.inr (.inr (.inr (va_up f i.toNatClampNeg (some v))))))) := by
          show _ = Sum.inl (κ (.object r1.1), n, Sum.inr (Sum.inr (Sum.inr (Sum.inr (fun j => (va_up f i.toNatClampNeg (some v) j).map ρ)))))
          congr 7
          funext j
          simp only [va_up]
          split <;> rfl
        refine va_astq hx hb hK hI.1 hI.2.1 hI.2.2.1 a t0 v ci (am_w_get ha) ht0 (am_w_get hv) hci (am_inb_in hin) hd (fun H1 locs1 hP hD hS => ?_)
        rw [e1] at hP hD
        exact am_kk_set kk hI hr ha rfl rfl hok hP hD hS
  · cases hs
theorem am_newarr_s (hF : am_Fx p s m args meth c M E γ κ D A) (hI : am_I s γ κ D A nL ρ H locs h L ls st) {t : ArrayType} {n : Int32} {r : List Value} (hr : am_okS h.length r) (hn : ¬ n < 0) (hn2 : n.toNatClampNeg ≤ 10000) (hd : decode (am_bs.getD M ByteArray.empty) pc = .ok (.newarray t, 2)) {q : Nat × am_L × List Value × am_H} (hs : am_grow (am_blank (newarray.typeOf t) n.toNatClampNeg) (pc + 2) L r h = some q) (hc : cells + (q.2.2.2.length - h.length) ≤ R.cells) (hz : slots + (am_sz q.2.2.2 - am_sz h) ≤ R.slots)
    (kk : am_kk p l e R s m args below meth c cells slots Q γ κ D A nL ρ h q.1 q.2.1 q.2.2.1 q.2.2.2) : W p l e R s m args below meth c H locs cells slots Q (F0 m pc ls (.int n :: r.map (am_tv ρ))) := by
  obtain ⟨hx, hb, hown, hts, hA, hK, hC, hini, hE, hml, hWd⟩ := hF
  unfold am_grow at hs
  split at hs
  · next c1 hc1 =>
    split at hs
    · next hlt =>
      cases hs
      have hl1 : (h ++ [c1]).length - h.length = 1 := by rw [List.length_append, List.length_singleton]; omega
      have hs1 : am_sz (h ++ [c1]) - am_sz h = am_sz1 c1 := by rw [am_sz_push]; omega
      simp only [hl1] at hc
      simp only [hs1] at hz
      have key : ∀ (ty : FieldType) (z : vp_A), newarray.typeOf t = ty → ty ∈ am_kt → ty ∈ [FieldType.int, .long, .byte, .boolean] → z.1 = n.toNatClampNeg → c1 = .inl (ty, z) → am_cok 0 c1 → (∀ ρ', am_tA ρ' z = z) → componentBytes ty ≤ 8 → (∀ cA : ClassId, vp_cell cA z = arrV cA n.toNatClampNeg (fun _ => defaultValue ty)) → W p l e R s m args below meth c H locs cells slots Q (F0 m pc ls (.int n :: r.map (am_tv ρ))) := by
        intro ty z hty hkt hkt2 hz1 he hok htA hcb hcell
        subst he
        have hsz : am_sz1 (.inl (ty, z)) = n.toNatClampNeg := hz1
        rw [hsz] at hz
        refine va_newa (atype := t) hx hb (by rw [hty]; exact hts _ (am_arr_ok ty hkt2)) hty hK hI.1 hI.2.1 hI.2.2.1 hA hcell hn rfl ?_ hc hz hd (fun q cA H1 hK' hP hD hS => ?_)
        · have := Nat.mul_le_mul hn2 hcb
          omega
        · have e1 := am_kuniq hK hkt hK'
          subst e1
          have := am_kk_push (q := q) (e1 := .inl (κ ty, z)) kk hI hr hlt hok (fun ρ' => by show Sum.inl (κ ty, am_tA ρ' z) = _; rw [htA]) hP hD hS
          rw [hsz] at this
          exact this
      unfold am_blank am_zero at hc1
      cases t
      case int => cases hc1; exact key .int (n.toNatClampNeg, .inl fun _ => 0) rfl am_kt_i (by decide) rfl rfl ⟨am_kt_i, trivial⟩ (fun _ => rfl) (by decide) (fun cA => rfl)
      case long => cases hc1; exact key .long (n.toNatClampNeg, .inr (.inl fun _ => 0)) rfl am_kt_l (by decide) rfl rfl ⟨am_kt_l, trivial⟩ (fun _ => rfl) (by decide) (fun cA => rfl)
      case byte => cases hc1; exact key .byte (n.toNatClampNeg, .inl fun _ => 0) rfl am_kt_b (by decide) rfl rfl ⟨am_kt_b, trivial⟩ (fun _ => rfl) (by decide) (fun cA => rfl)
      case boolean => cases hc1; exact key .boolean (n.toNatClampNeg, .inl fun _ => 0) rfl am_kt_z (by decide) rfl rfl ⟨am_kt_z, trivial⟩ (fun _ => rfl) (by decide) (fun cA => rfl)
      all_goals cases hc1
    · cases hs
  · cases hs
theorem am_anew_s (hF : am_Fx p s m args meth c M E γ κ D A) (hI : am_I s γ κ D A nL ρ H locs h L ls st) {idx : Nat} {n : Int32} {r : List Value} (hr : am_okS h.length r) (hn : ¬ n < 0) (hn2 : n.toNatClampNeg ≤ 10000) (hd : decode (am_bs.getD M ByteArray.empty) pc = .ok (.anewarray idx, 3)) {w : Nat × Nat × Nat × Nat} (hw : am_new (am_own1 M) idx = some w) (hw3 : w.1 = 3) {q : Nat × am_L × List Value × am_H} (hs : am_grow ((am_cls[w.1]?).map fun c => .inl (.object c.1, n.toNatClampNeg, .inr (.inr (.inr (.inr (fun _ => none)))))) (pc + 3) L r h = some q) (hc : cells + (q.2.2.2.length - h.length) ≤ R.cells) (hz : slots + (am_sz q.2.2.2 - am_sz h) ≤ R.slots)
    (kk : am_kk p l e R s m args below meth c cells slots Q γ κ D A nL ρ h q.1 q.2.1 q.2.2.1 q.2.2.2) : W p l e R s m args below meth c H locs cells slots Q (F0 m pc ls (.int n :: r.map (am_tv ρ))) := by
  obtain ⟨hx, hb, hown, hts, hA, hK, hC, hini, hE, hml, hWd⟩ := hF
  obtain ⟨c0, hc0, hl1, -, -⟩ := am_new_ok hw
  rw [hw3] at hc0 hs
  cases hc0
  unfold am_grow at hs
  simp only [am_cls, List.getElem?_cons_succ, List.getElem?_cons_zero, Option.map_some] at hs
  split at hs
  · next hlt =>
    cases hs
    have hl2 : ∀ c1 : am_C, (h ++ [c1]).length - h.length = 1 := fun c1 => by rw [List.length_append, List.length_singleton]; omega
    have hs1 : ∀ c1 : am_C, am_sz (h ++ [c1]) - am_sz h = am_sz1 c1 := fun c1 => by rw [am_sz_push]; omega
    simp only [hl2] at hc
    simp only [hs1] at hz
    refine va_newq hx hb hown (hts _ hl1) hWd.2.1 hK hI.1 hI.2.1 hI.2.2.1 hA hn rfl (by omega) hc hz hd (fun q cA H1 hK' hP hD hS => ?_)
    have e1 := am_kuniq hK am_kt_g hK'
    subst e1
    exact am_kk_push (q := q) (e1 := .inl (κ (.object RX3), n.toNatClampNeg, .inr (.inr (.inr (.inr (fun _ => none)))))) kk hI hr hlt ⟨am_kt_g, fun j b hj => by cases hj⟩ (fun ρ' => rfl) hP hD hS
  · cases hs
theorem am_newobj_s (hF : am_Fx p s m args meth c M E γ κ D A) (hI : am_I s γ κ D A nL ρ H locs h L ls st) {idx : Nat} (hd : decode (am_bs.getD M ByteArray.empty) pc = .ok (.new idx, 3)) {w : Nat × Nat × Nat × Nat} (hw : am_new (am_own1 M) idx = some w) {q : Nat × am_L × List Value × am_H} (hs : am_grow (some (.inr (w.1, am_dflt w.1))) (pc + 3) L st h = some q) (hc : cells + (q.2.2.2.length - h.length) ≤ R.cells) (hz : slots + (am_sz q.2.2.2 - am_sz h) ≤ R.slots)
    (kk : am_kk p l e R s m args below meth c cells slots Q γ κ D A nL ρ h q.1 q.2.1 q.2.2.1 q.2.2.2) : W p l e R s m args below meth c H locs cells slots Q (F0 m pc ls (st.map (am_tv ρ))) := by
  obtain ⟨hx, hb, hown, hts, hA, hK, hC, hini, hE, hml, hWd⟩ := hF
  obtain ⟨c0, hc0, hl1, hl2, hl3⟩ := am_new_ok hw
  obtain ⟨t, ht⟩ := am_tys_of hc0
  obtain ⟨hty, -⟩ := am_ty_ok hc0 ht
  obtain ⟨hdl, hdv⟩ := am_dflt_len hc0 ht
  unfold am_grow at hs
  split at hs
  · next c1 hc1 =>
    cases hc1
    split at hs
    · next hlt =>
      cases hs
      have hl2' : ∀ c1 : am_C, (h ++ [c1]).length - h.length = 1 := fun c1 => by rw [List.length_append, List.length_singleton]; omega
      have hs1 : am_sz (h ++ [.inr (w.1, am_dflt w.1)]) - am_sz h = c0.2.2 := by rw [am_sz_push]; show am_sz h + (am_dflt w.1).length - am_sz h = _; rw [hdl]; omega
      simp only [hl2'] at hc
      simp only [hs1] at hz
      have hdef : ∀ v ∈ am_dflt w.1, am_vok 0 v ∧ ∀ ρ', am_tv ρ' v = v := by
        intro v hv
        obtain ⟨k, hk⟩ := List.getElem?_of_mem hv
        have hkl := (List.getElem?_eq_some_iff.mp hk).1
        rw [hdl] at hkl
        rw [hdv k hkl] at hk
        cases hk
        cases t k <;> exact ⟨trivial, fun _ => rfl⟩
      refine va_new (C := c0.1) (T := c0.2.1) (N := c0.2.2) (fs := am_dflt w.1) hx hb hts (am_lay_ok hc0) t hty hown (hts _ hl1) (hts _ hl2) (hts _ hl3) hK hI.1 hI.2.1 hI.2.2.1 hA hc0 (fun j hj => ?_) hc hz hd (fun q H1 hP hD hS => ?_)
      · show _ = (am_dflt w.1).getD j .null
        rw [List.getD_eq_getElem?_getD, hdv j hj]
        rfl
      · have := am_kk_push (q := q) (e1 := .inr (w.1, am_dflt w.1)) kk hI hI.okS hlt (fun v hv => (hdef v hv).1) (fun ρ' => by
          show Sum.inr (w.1, (am_dflt w.1).map (am_tv ρ')) = _
          rw [List.map_congr_left (g := id) (fun v hv => (hdef v hv).2 ρ'), List.map_id]) hP hD hS
        have e3 : am_sz1 (.inr (w.1, am_dflt w.1)) = c0.2.2 := hdl
        rw [e3] at this
        exact this
    · cases hs
  · cases hs
end AMU
