theorem am_mna_ok {o idx : Nat} {q : FieldType × Nat} (h : am_mna o idx = some q) : Cond.classLink (am_own.getD o "") idx ("[" ++ (FieldType.array q.1).toString) ∈ am_tb ∧ (q.1 = .int ∨ q.1 = .long) := by
  have hm := am_lookup_mem h
  have ho : o < 16 := Nat.not_le.mp fun z => by
    rw [show am_mnaT.getD o [] = [] by rw [List.getD_eq_getElem?_getD, List.getElem?_eq_none (by simpa [am_mnaT] using z)]; rfl] at hm
    cases hm
  have hc := List.all_eq_true.mp (List.all_eq_true.mp am_mnchk_all o (List.mem_range.mpr ho)) _ hm
  simp only [am_mnchk, Bool.and_eq_true, Bool.or_eq_true, decide_eq_true_eq] at hc
  exact ⟨am_at_in hc.1, hc.2⟩
theorem am_mapIdx_rep {α β : Type} (f : Nat → α → β) (z : α) : ∀ n : Nat, (List.replicate n z).mapIdx f = (List.range n).map (fun i => f i z) := by
  intro n
  apply List.ext_getElem?
  intro i
  rw [List.getElem?_mapIdx, List.getElem?_replicate, List.getElem?_map]
  by_cases h : i < n
  · rw [if_pos h, List.getElem?_range h]
    rfl
  · rw [if_neg h, List.getElem?_eq_none (by rw [List.length_range]; omega)]
    rfl
section AMN
variable {p : Program} {l : Launch} {e : Env} {R : Room} {s : State} {m : MethodId} {args : Array Value} {below : List Frame} {meth : Method} {c : Code} {H : Heap} {locs : List Loc} {cells slots : Nat} {Q : State → Prop}
variable {M pc pc' nL : Nat} {E : am_E} {γ ρ : Nat → Nat} {κ : FieldType → ClassId} {D : va_G} {A : Nat → Prop} {h h' : am_H} {L L' : am_L} {ls : Array Slot} {st st' : List Value} {cc : ByteArray}
theorem am_mna_s (hF : am_Fx p s m args meth c M E γ κ D A) (hI : am_I s γ κ D A nL ρ H locs h L ls st) {idx : Nat} {n k : Int32} {r : List Value} (hr : am_okS h.length r) (hd : decode (am_bs.getD M ByteArray.empty) pc = .ok (.multianewarray idx 2, 4)) {q : Nat × am_L × List Value × am_H} (hs : am_mn (am_own1 M) idx n k pc L r h = some q) (hc : cells + (q.2.2.2.length - h.length) ≤ R.cells) (hz : slots + (am_sz q.2.2.2 - am_sz h) ≤ R.slots)
    (kk : am_kk p l e R s m args below meth c cells slots Q γ κ D A nL ρ h q.1 q.2.1 q.2.2.1 q.2.2.2) : W p l e R s m args below meth c H locs cells slots Q (F0 m pc ls (.int k :: .int n :: r.map (am_tv ρ))) := by
  obtain ⟨hx, hb, hown, hts, hA, hK, hC, hini, hE, hml, hWd⟩ := hF
  unfold am_mn at hs
  split at hs
  · next w hw =>
    split at hs
    · next hcond =>
      obtain ⟨hn, hk, hn2, hk2, hlt⟩ := hcond
      split at hs
      · next z hz0 =>
        cases hs
        obtain ⟨hl, hty⟩ := am_mna_ok hw
        have key : ∀ (ty : FieldType) (x : (Nat → Int32) ⊕ ((Nat → Int64) ⊕ ((Nat → UInt32) ⊕ ((Nat → UInt64) ⊕ (Nat → Option Nat))))), w.1 = ty → ty ∈ am_kt → FieldType.array ty ∈ am_kt → ty ∈ [FieldType.int, .long, .byte, .boolean] → am_AOA ty s → s.vm.findClass (FieldType.array ty).toString = some (κ ty) → z = .inl (.array ty, n.toNatClampNeg, .inr (.inr (.inr (.inr (fun i => if i < n.toNatClampNeg then some (h.length + 1 + i) else none))))) :: List.replicate n.toNatClampNeg (.inl (ty, k.toNatClampNeg, x)) → am_cok 0 (.inl (ty, k.toNatClampNeg, x)) → (∀ ρ', am_tA ρ' (k.toNatClampNeg, x) = (k.toNatClampNeg, x)) → (∀ c : ClassId, Jvm.Free.Multi.innerC c k.toNatClampNeg (defaultValue ty) = vp_cell c (k.toNatClampNeg, x)) → fits ty (defaultValue ty) = true → (defaultValue ty).isDefault = true → componentBytes ty ≤ 8 → W p l e R s m args below meth c H locs cells slots Q (F0 m pc ls (.int k :: .int n :: r.map (am_tv ρ))) := by
          intro ty x hwt hkt hkt2 hkt3 hao hcy hzz hcok htA hin hdf hdd hcb
          subst hzz
          rw [hwt] at hl
          have hlen : ∀ (y : am_C) (zz : am_C) (N : Nat), (h ++ y :: List.replicate N zz).length - h.length = 1 + N := fun y zz N => by rw [List.length_append, List.length_cons, List.length_replicate]; omega
          have hsz : ∀ (y : am_C) (zz : am_C) (N : Nat), am_sz (h ++ y :: List.replicate N zz) - am_sz h = am_sz1 y + N * am_sz1 zz := fun y zz N => by
            unfold am_sz
            rw [List.map_append, List.sum_append, List.map_cons, List.sum_cons, List.map_replicate, List.sum_replicate_nat]
            omega
          simp only [hlen] at hc
          simp only [hsz] at hz
          refine va_mna (X := am_w ρ κ h) (L := []) (f := fun _ => .inr (0, [])) (z := (k.toNatClampNeg, x)) hx hb hown (hts _ hl) hao (hts _ (am_arr_ok ty hkt3)) hcy hK (by simpa [va_pl] using hI.1) (by simpa [va_pl] using hI.2.1) hI.2.2.1 hA hn hk rfl rfl (by omega) ?_ (by omega) hdf hdd hc hz hin hd (fun q0 r0 cA H1 hinj hnot hK' hP hD hS => ?_)
          · have := Nat.mul_le_mul hk2 hcb
            omega
          · have e1 := am_kuniq hK hkt2 hK'
            subst e1
            generalize hρ : (fun a : Nat => if a = h.length then q0 else if h.length < a ∧ a < h.length + 1 + n.toNatClampNeg then r0 (a - h.length - 1) else ρ a) = ρ'
            have hx' : am_ext ρ ρ' h.length := fun a ha => by
              rw [← hρ]
              show (if a = h.length then q0 else _) = _
              rw [if_neg (by omega), if_neg (by omega)]
            have hq0 : ρ' h.length = q0 := by rw [← hρ]; exact if_pos rfl
            have hr0 : ∀ i, i < n.toNatClampNeg → ρ' (h.length + 1 + i) = r0 i := fun i hi => by
              rw [← hρ]
              show (if h.length + 1 + i = h.length then q0 else _) = _
              rw [if_neg (by omega), if_pos (by omega), show h.length + 1 + i - h.length - 1 = i by omega]
            have hw' : am_w ρ' κ (h ++ .inl (.array ty, n.toNatClampNeg, .inr (.inr (.inr (.inr (fun i => if i < n.toNatClampNeg then some (h.length + 1 + i) else none))))) :: List.replicate n.toNatClampNeg (.inl (ty, k.toNatClampNeg, x))) = (am_w ρ κ h ++ [(q0, .inl (κ (.array ty), n.toNatClampNeg, .inr (.inr (.inr (.inr (fun i => if i < n.toNatClampNeg then some (r0 i) else none))))))]) ++ va_pl ([] ++ (List.range n.toNatClampNeg).map r0) (vr_up (fun _ => .inr (0, [])) ((List.range n.toNatClampNeg).map r0) (.inl (κ ty, k.toNatClampNeg, x))) := by
              have h1 : am_w ρ' κ (h ++ .inl (.array ty, n.toNatClampNeg, .inr (.inr (.inr (.inr (fun i => if i < n.toNatClampNeg then some (h.length + 1 + i) else none))))) :: List.replicate n.toNatClampNeg (.inl (ty, k.toNatClampNeg, x))) = am_w ρ' κ h ++ ((ρ' h.length, am_tc ρ' κ (.inl (.array ty, n.toNatClampNeg, .inr (.inr (.inr (.inr (fun i => if i < n.toNatClampNeg then some (h.length + 1 + i) else none))))))) :: (List.range n.toNatClampNeg).map (fun i => (ρ' (h.length + 1 + i), am_tc ρ' κ (.inl (ty, k.toNatClampNeg, x))))) := by
                unfold am_w
                rw [List.mapIdx_append, List.mapIdx_cons, am_mapIdx_rep, Nat.zero_add]
                congr 2
                apply List.map_congr_left
                intro i _
                show (ρ' (i + 1 + h.length), _) = (ρ' (h.length + 1 + i), _)
                rw [show i + 1 + h.length = h.length + 1 + i by omega]
              rw [h1, am_w_ext hx' hI.okH, hq0, List.append_assoc, List.singleton_append]
              congr 2
              · congr 1
                show Sum.inl (κ (.array ty), n.toNatClampNeg, Sum.inr (Sum.inr (Sum.inr (Sum.inr (fun j => (if j < n.toNatClampNeg then some (h.length + 1 + j) else none).map ρ'))))) = _
                congr 7
                funext j
                by_cases hj : j < n.toNatClampNeg
                · rw [if_pos hj, if_pos hj]
                  exact congrArg some (hr0 j hj)
                · rw [if_neg hj, if_neg hj]
                  rfl
              · unfold va_pl
                rw [List.nil_append, List.map_map]
                apply List.map_congr_left
                intro i hi
                have hi' := List.mem_range.mp hi
                show (ρ' (h.length + 1 + i), am_tc ρ' κ (.inl (ty, k.toNatClampNeg, x))) = (r0 i, vr_up _ _ _ (r0 i))
                rw [hr0 i hi', vr_up_in (List.mem_map.mpr ⟨i, hi, rfl⟩)]
                show (r0 i, Sum.inl (κ ty, am_tA ρ' (k.toNatClampNeg, x))) = _
                rw [htA]
            have hl' : (h ++ .inl (.array ty, n.toNatClampNeg, .inr (.inr (.inr (.inr (fun i => if i < n.toNatClampNeg then some (h.length + 1 + i) else none))))) :: List.replicate n.toNatClampNeg (.inl (ty, k.toNatClampNeg, x)) : am_H).length = h.length + 1 + n.toNatClampNeg := by rw [List.length_append, List.length_cons, List.length_replicate]; omega
            have := kk ρ' H1 locs ls hx' ⟨by rw [hw']; exact hP, by rw [hw']; exact hD, hS, am_Lr_ext hx' hI.okL hI.lr, ?_, by rw [hl']; exact am_okL_mono (by omega) hI.okL, by rw [hl']; exact am_okS_c (am_okS_mono (by omega) hr) (Or.inl (by show h.length < _; omega)), fun a ha => by rw [hx' a (Or.inr ha)]; exact hI.2.2.2.2.2.2.2 a ha⟩
            · simp only [hlen, hsz] at this
              have e2 : (Value.ref h.length :: r).map (am_tv ρ') = .ref q0 :: r.map (am_tv ρ) := by
                rw [List.map_cons, am_tvs_ext hx' hr]
                exact congrArg (fun a => Value.ref a :: _) hq0
              rw [e2] at this
              rw [show cells + 1 + n.toNatClampNeg = cells + (1 + n.toNatClampNeg) by omega]
              have e3 : slots + n.toNatClampNeg + n.toNatClampNeg * k.toNatClampNeg = slots + (n.toNatClampNeg + n.toNatClampNeg * k.toNatClampNeg) := Nat.add_assoc _ _ _
              rw [e3]
              exact this
            · intro y hy
              rw [hl']
              rcases List.mem_append.mp hy with z1 | z1
              · exact am_cok_mono (by omega) (hI.okH y z1)
              · rcases List.mem_cons.mp z1 with rfl | z2
                · refine ⟨hkt2, fun j a hj => ?_⟩
                  by_cases hjn : j < n.toNatClampNeg
                  · have hj : (if j < n.toNatClampNeg then some (h.length + 1 + j) else none) = some a := hj
                    rw [if_pos hjn] at hj
                    have := Option.some.inj hj
                    omega
                  · have hj : (if j < n.toNatClampNeg then some (h.length + 1 + j) else none) = some a := hj
                    rw [if_neg hjn] at hj
                    cases hj
                · rw [List.eq_of_mem_replicate z2]
                  exact am_cok_mono (Nat.zero_le _) hcok
        unfold am_rows am_blank am_zero at hz0
        rcases hty with e | e
        · rw [e] at hz0
          refine key .int (.inl fun _ => 0) e (by decide) (by decide) (by decide) hWd.2.2.1 ?_ (Option.some.inj hz0).symm ⟨am_kt_i, trivial⟩ (fun _ => rfl) (fun c => ?_) rfl rfl (by decide)
          · exact (hK.2 0 _ rfl).2
          · exact arrV_new c _ _
        · rw [e] at hz0
          refine key .long (.inr (.inl fun _ => 0)) e (by decide) (by decide) (by decide) hWd.2.2.2 ?_ (Option.some.inj hz0).symm ⟨am_kt_l, trivial⟩ (fun _ => rfl) (fun c => ?_) rfl rfl (by decide)
          · exact (hK.2 1 _ rfl).2
          · exact arrV_new c _ _
      · cases hs
    · cases hs
  · cases hs
end AMN
