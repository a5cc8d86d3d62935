theorem am_vok_c {n a : Nat} (h : 1000000 ≤ a) : am_vok n (.ref a) := Or.inr h
section AMT
variable {p : Program} {l : Launch} {e : Env} {R : Room} {s : State} {m : MethodId} {args : Array Value} {below : List Frame} {meth : Method} {c : Code} {H : Heap} {locs : List Loc} {cells slots : Nat} {Q : State → Prop}
variable {M pc pc' nL : Nat} {E : am_E} {γ ρ : Nat → Nat} {κ : FieldType → ClassId} {D : va_G} {A : Nat → Prop} {h h' : am_H} {L L' : am_L} {ls : Array Slot} {st st' : List Value} {cc : ByteArray}
theorem am_ldcSw {pc : Nat} {ls : Array Slot} {rest : List Value} (hexec : p.tables.exec = Jvm.exec) (hb : c.code = cc) {own tx : String} {index q : Nat} (hown : s.vm.findClass own = some m.cls) (hZ : vk_R own index tx q s) (hdg : decode cc pc = .ok (.ldc_w index, 3))
    (k : W p l e R s m args below meth c H locs cells slots Q (F0 m (pc + 3) ls (.ref q :: rest))) : W p l e R s m args below meth c H locs cells slots Q (F0 m pc ls rest) := by
  intro T hT X
  obtain ⟨t, a1, b1⟩ := k T hT X
  exact ⟨t, X.ldcStringW hexec hown (text := tx) (a := q) hZ.1 hZ.2 (g := F0 m pc ls rest) rfl (by rw [hb]; exact hdg) t a1, b1⟩
/-- aaload of an array of arrays -/
theorem am_aldA {pc : Nat} {ls : Array Slot} {rest : List Value} {cl : List vw_C} {tys : List (ClassId × FieldType)} {ws : va_W} {a : Nat} (hexec : p.tables.exec = Jvm.exec) (hb : c.code = cc) (hK : va_K D cl tys s) (hP : va_P D cl ws H) (q0 t0 : Nat) {cA : ClassId} {ty : FieldType} (hty : ty.isReference = true) {n : Nat} {f : Nat → Option Nat} (ha : ws[q0]? = some (a, .inl (cA, n, .inr (.inr (.inr (.inr f)))))) (ht : tys[t0]? = some (cA, ty)) {i : Int32} (hin : vp_in i n) (hdg : decode cc pc = .ok (.aaload, 1))
    (kk : W p l e R s m args below meth c H locs cells slots Q (F0 m (pc + 1) ls (va_rf (f i.toNatClampNeg) :: rest))) : W p l e R s m args below meth c H locs cells slots Q (F0 m pc ls (.int i :: .ref a :: rest)) := by
  have hlt : i.toNatClampNeg < n := Nat.not_le.mp fun q => hin (Or.inr q)
  exact W.aald (v := va_rf (f i.toNatClampNeg)) (ty := ty) hexec hb (hP q0 _ ha) ((hK.2 t0 _ ht).1 n (fun j => va_rf (f j))) hty (fun q => by cases q) (by show ¬ (i < 0 ∨ (arrV _ _ _).slots.size ≤ _); rw [arrV_size]; exact hin) (by show (arrV _ _ _).slots[_]? = _; rw [arrV_read _ _ hlt]) rfl rfl hdg kk
theorem am_arr_cases {a n : Nat} {ty : FieldType} {x : (Nat → Int32) ⊕ ((Nat → Int64) ⊕ ((Nat → UInt32) ⊕ ((Nat → UInt64) ⊕ (Nat → Option Nat))))} (hh : am_arr E h a = some (ty, n, x)) : (a < 1000000 ∧ h[a]? = some (.inl (ty, n, x))) ∨ (1000000 ≤ a ∧ am_rd E a = some (ty, n, x)) := by
  unfold am_arr at hh
  split at hh
  · next hl =>
    split at hh
    · next y hy => cases hh; exact Or.inl ⟨hl, hy⟩
    · cases hh
  · next hl => exact Or.inr ⟨by omega, hh⟩
theorem am_kuniq {cl : List vw_C} {ty : FieldType} {cA : ClassId} (hK : va_K D cl (am_ks κ) s) (ht : ty ∈ am_kt) (hK' : va_K D cl (am_ks κ ++ [(cA, ty)]) s) : cA = κ ty := by
  obtain ⟨k, hk⟩ := am_ks_in (κ := κ) ht
  have h1 := (hK.2 k _ hk).2
  have h2 := (hK'.2 (am_ks κ).length (cA, ty) (by rw [List.getElem?_append_right (Nat.le_refl _), Nat.sub_self]; rfl)).2
  have key : ∀ (c1 c2 : ClassId), va_RA s c1 ty → va_RA s c2 ty → c1 = c2 := by
    intro c1 c2 q1 q2
    cases ty with
    | object C =>
      obtain ⟨-, -, -, -, -, q1⟩ := q1
      obtain ⟨-, -, -, -, -, q2⟩ := q2
      exact Option.some.inj (q1.symm.trans q2)
    | _ => exact Option.some.inj (Eq.trans (Eq.symm q1) q2)
  exact key _ _ h2 h1
theorem am_rf_tv (r : Option Nat) : va_rf (r.map ρ) = am_tv ρ (va_rf r) := by cases r <;> rfl
theorem am_getf (hF : am_Fx p s m args meth c M E γ κ D A) (hI : am_I s γ κ D A nL ρ H locs h L ls st) {idx a : Nat} {r : List Value} {v : Value} (hd : decode (am_bs.getD M ByteArray.empty) pc = .ok (.getfield idx, 3)) (hg : am_gf (am_own1 M) idx a h = some v) :
    am_vok h.length v ∧ (W p l e R s m args below meth c H locs cells slots Q (F0 m (pc + 3) ls (am_tv ρ v :: r)) → W p l e R s m args below meth c H locs cells slots Q (F0 m pc ls (.ref (ρ a) :: r))) := by
  obtain ⟨hx, hb, hown, hts, hA, hK, hC, hini, hE, hml, hWd⟩ := hF
  unfold am_gf at hg
  split at hg
  · split at hg
    · next q' ci fs hq ha =>
      split at hg
      · next hci =>
        subst hci
        obtain ⟨c1, hc1, hk, hl⟩ := am_fld_ok hq
        refine ⟨hI.okH _ (List.mem_of_getElem? ha) v (List.mem_of_getElem? hg), fun kk => ?_⟩
        refine va_get (C := c1.1) (T := c1.2.1) (N := c1.2.2) hx hb hts (am_lay_ok hc1) hown hK hI.1 a (am_w_get ha) hc1 q'.2.1 hk (hts _ hl) (fun x hx => hx) (v := am_tv ρ v) ?_ hd kk
        rw [List.getElem?_map, hg]
        rfl
      · cases hg
    · cases hg
  · next hlt =>
    split at hg
    · next hc11 =>
      obtain ⟨ho, he, hk⟩ := hc11
      have hag : ρ a = γ a := hI.2.2.2.2.2.2.2 a (by omega)
      obtain ⟨t, ht⟩ := am_txt_in hk
      have hT := hC.1 _ t ht
      rw [show 1000000 + 2 * ((a - 1000000) / 2) = a by omega] at hT
      rw [ho] at hown
      split at hg
      · next e9 =>
        cases hg
        subst e9
        refine ⟨am_vok_c (by omega), fun kk => ?_⟩
        have ha1 : ρ (a + 1) = γ (a + 1) := hI.2.2.2.2.2.2.2 _ (by omega)
        have kk : W p l e R s m args below meth c H locs cells slots Q (F0 m (pc + 3) ls (.ref (γ (a + 1)) :: r)) := by rw [← ha1]; exact kk
        rw [hag]
        exact vk_getf hx hb hT.2.2.1 hI.2.2.1 hown (hts _ am_slk_ok.2.2.2.2.1) (fun x hx => hx) hd kk
      · split at hg
        · next e15 =>
          cases hg
          subst e15
          refine ⟨trivial, fun kk => ?_⟩
          rw [hag]
          exact vk_getf hx hb hT.2.1 hI.2.2.1 hown (hts _ am_slk_ok.2.2.2.2.2) (fun x hx => hx) hd kk
        · cases hg
    · cases hg
theorem am_putf (hF : am_Fx p s m args meth c M E γ κ D A) (hI : am_I s γ κ D A nL ρ H locs h L ls st) {idx a : Nat} {r : List Value} {v : Value} (hv : am_vok h.length v) (hr : am_okS h.length r) (hd : decode (am_bs.getD M ByteArray.empty) pc = .ok (.putfield idx, 3)) (hg : am_pf M idx a v h = some h')
    (kk : am_kk p l e R s m args below meth c cells slots Q γ κ D A nL ρ h (pc + 3) L r h') : W p l e R s m args below meth c H locs cells slots Q (F0 m pc ls (am_tv ρ v :: .ref (ρ a) :: r.map (am_tv ρ))) := by
  obtain ⟨hx, hb, hown, hts, hA, hK, hC, hini, hE, hml, hWd⟩ := hF
  unfold am_pf at hg
  split at hg
  · next q' ci fs hq ha =>
    split at hg
    · next hcond =>
      obtain ⟨hci, hlen, hmay⟩ := hcond
      cases hg
      subst hci
      obtain ⟨c1, hc1, hk, hl⟩ := am_fld_ok hq
      unfold am_mayput at hmay
      split at hmay
      · next c2 t hc2 ht =>
        cases hc1.symm.trans hc2
        simp only [Bool.and_eq_true, decide_eq_true_eq, Bool.or_eq_true, Bool.not_eq_true'] at hmay
        obtain ⟨⟨⟨h1, h2⟩, h3⟩, h4⟩ := hmay
        obtain ⟨hty, hnm⟩ := am_ty_ok hc1 ht
        have hok : am_cok h.length (.inr (q'.1, fs.set q'.2.1 v)) := am_okS_set (hI.okH _ (List.mem_of_getElem? ha)) hv
        have fin : ∀ (H1 : Heap) (locs1 : List Loc), va_P D am_cls ((am_w ρ κ h).set a (ρ a, .inr (q'.1, (fs.map (am_tv ρ)).set q'.2.1 (am_tv ρ v)))) H1 → va_D A ((am_w ρ κ h).set a (ρ a, .inr (q'.1, (fs.map (am_tv ρ)).set q'.2.1 (am_tv ρ v)))) → va_S A s.heap H1 locs1 → W p l e R s m args below meth c H1 locs1 cells slots Q (F0 m (pc + 3) ls (r.map (am_tv ρ))) := by
          intro H1 locs1 hP hD hS
          have e1 : (Sum.inr (q'.1, (fs.map (am_tv ρ)).set q'.2.1 (am_tv ρ v)) : va_E) = am_tc ρ κ (.inr (q'.1, fs.set q'.2.1 v)) := by
            show _ = Sum.inr (q'.1, (fs.set q'.2.1 v).map (am_tv ρ))
            rw [List.map_set]
          rw [e1] at hP hD
          exact am_kk_set kk hI hr ha rfl (by simp [am_sz1]) hok hP hD hS
        rcases h4 with h4 | ⟨h4, h5⟩
        · exact va_put (C := c1.1) (T := c1.2.1) (N := c1.2.2) hx hb hts (am_lay_ok hc1) t hty hnm hown hK hI.1 hI.2.1 hI.2.2.1 a (am_w_get ha) hc1 q'.2.1 hk (hts _ hl) (fun x hx => hx) h4 (hty _ hk) (am_tv_narrow h2) (by rw [am_tv_fits]; exact h3) (by rw [List.length_map]; exact hlen) hd fin
        · cases hf : (c1.2.1 q'.2.1).2.2.2 with
          | false => exact va_put (C := c1.1) (T := c1.2.1) (N := c1.2.2) hx hb hts (am_lay_ok hc1) t hty hnm hown hK hI.1 hI.2.1 hI.2.2.1 a (am_w_get ha) hc1 q'.2.1 hk (hts _ hl) (fun x hx => hx) hf (hty _ hk) (am_tv_narrow h2) (by rw [am_tv_fits]; exact h3) (by rw [List.length_map]; exact hlen) hd fin
          | true => exact va_putF (C := c1.1) (T := c1.2.1) (N := c1.2.2) hx hb hts (am_lay_ok hc1) t hty hnm hown hK hI.1 hI.2.1 hI.2.2.1 a (am_w_get ha) hc1 q'.2.1 hk (hts _ hl) (fun x hx => hx) hf (hini h4) h5 (hty _ hk) (am_tv_narrow h2) (by rw [am_tv_fits]; exact h3) (by rw [List.length_map]; exact hlen) hd fin
      · cases hmay
    · cases hg
  · cases hg
theorem am_gets (hF : am_Fx p s m args meth c M E γ κ D A) (hI : am_I s γ κ D A nL ρ H locs h L ls st) {idx : Nat} {r : List Value} {v : Value} (hd : decode (am_bs.getD M ByteArray.empty) pc = .ok (.getstatic idx, 3)) (hg : am_sta E (am_own1 M) idx = some v) :
    am_vok h.length v ∧ (W p l e R s m args below meth c H locs cells slots Q (F0 m (pc + 3) ls (am_tv ρ v :: r)) → W p l e R s m args below meth c H locs cells slots Q (F0 m pc ls r)) := by
  obtain ⟨hx, hb, hown, hts, hA, hK, hC, hini, hE, hml, hWd⟩ := hF
  have hgam : ∀ w, am_vok 0 w → am_tv ρ w = am_tv γ w := fun w hw => by
    cases w with
    | ref a => exact congrArg Value.ref (hI.2.2.2.2.2.2.2 a (hw.elim (fun z => absurd z (Nat.not_lt_zero _)) id))
    | _ => rfl
  unfold am_sta at hg
  split at hg
  · next hc1 =>
    cases hg
    rw [hc1.1] at hown
    obtain ⟨-, rfl⟩ := hc1
    exact ⟨trivial, fun kk => va_gets hx hb hC.2.2.2.2.1 hI.2.2.1 hown (hts _ am_slk_ok.1) (fun x hx => hx) hd kk⟩
  · split at hg
    · next hc1 =>
      cases hg
      rw [hc1.1] at hown
      obtain ⟨-, rfl⟩ := hc1
      exact ⟨am_vok_mono (Nat.zero_le _) hE, fun kk => va_gets hx hb hC.2.2.2.2.2.1 hI.2.2.1 hown (hts _ am_slk_ok.2.1) (fun x hx => hx) hd (by rw [← hgam _ hE]; exact kk)⟩
    · split at hg
      · next hc1 =>
        cases hg
        rw [hc1.1] at hown
        obtain ⟨-, rfl⟩ := hc1
        exact ⟨am_vok_c (by omega), fun kk => va_gets hx hb hC.2.2.2.2.2.2.1 hI.2.2.1 hown (hts _ am_slk_ok.2.2.1) (fun x hx => hx) hd (by
          have := kk
          rw [hgam (.ref 1001000) (am_vok_c (by omega))] at this
          exact this)⟩
      · split at hg
        · next hc1 =>
          cases hg
          rw [hc1.1] at hown
          obtain ⟨-, rfl⟩ := hc1
          exact ⟨am_vok_c (by omega), fun kk => va_gets hx hb hC.2.2.2.2.2.2.2 hI.2.2.1 hown (hts _ am_slk_ok.2.2.2.1) (fun x hx => hx) hd (by
            have := kk
            rw [hgam (.ref 1001001) (am_vok_c (by omega))] at this
            exact this)⟩
        · cases hg
end AMT
