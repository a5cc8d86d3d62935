theorem am_cat_sum {ρ : Nat → Nat} (r : List Value) : ((r.map (am_tv ρ)).map fun v => v.category).sum = (r.map fun v => v.category).sum := by
  rw [List.map_map, show ((fun v : Value => v.category) ∘ am_tv ρ) = fun v => v.category from funext fun v => am_tv_cat v]
theorem am_good {M : Nat} (hM : M < 322) : GoodIn am_tb (am_ws M) := by
  intro w hw
  have hin : w ∈ am_tb := by
    rcases List.mem_cons.mp hw with rfl | z
    · exact (am_mchk_of hM).1
    · exact z
  exact ⟨hin, good_of_word (List.mem_filter.mp hin).2⟩
theorem am_clsOf_recv {p : Program} {s : State} {m : MethodId} {args : Array Value} {meth : Method} {c : Code} {M nL : Nat} {E : am_E} {γ ρ : Nat → Nat} {κ : FieldType → ClassId} {D : va_G} {A : Nat → Prop} {H : Heap} {locs : List Loc} {h : am_H} {L : am_L} {ls : Array Slot} {st : List Value} {b o : Nat} (hF : am_Fx p s m args meth c M E γ κ D A) (hI : am_I s γ κ D A nL ρ H locs h L ls st) (hb : am_clsOf h b = some o) :
    ∃ cell : Cell, H[ρ b]? = some cell ∧ cell.vm.isStatics = false ∧ s.vm.findClass (am_own.getD o "") = some cell.cls := by
  obtain ⟨hx, hcb, hown, hts, hA, hK, hC, hini, hE, hml, hWd⟩ := hF
  unfold am_clsOf at hb
  split at hb
  · split at hb
    · next q hq =>
      cases hb
      obtain ⟨ci, fs⟩ := q
      obtain ⟨r, hr, -⟩ := hI.1 b _ (am_w_get hq)
      have h1 := va_recv hK hI.1 hr (am_w_get hq)
      have e1 : am_own.getD ci "" = r.1 := by
        have hl := am_cls_lt hr
        match ci, hr, hl with
        | 0, hr, _ => cases hr; rfl
        | 1, hr, _ => cases hr; rfl
        | 2, hr, _ => cases hr; rfl
        | 3, hr, _ => cases hr; rfl
        | 4, hr, _ => cases hr; rfl
        | 5, hr, _ => cases hr; rfl
        | 6, hr, _ => cases hr; rfl
        | 7, hr, _ => cases hr; rfl
        | 8, hr, _ => cases hr; rfl
        | 9, hr, _ => cases hr; rfl
      rw [e1]
      exact h1
    · cases hb
  · next hlt =>
    split at hb
    · next hk =>
      cases hb
      obtain ⟨t, ht⟩ := am_txt_in hk.2
      have h1 := (hC.1 _ t ht).1
      rw [show 1000000 + 2 * ((b - 1000000) / 2) = b by omega] at h1
      rw [hI.2.2.2.2.2.2.2 b (by omega)]
      obtain ⟨cell, g1, g2, g3, g4⟩ := h1
      exact ⟨cell, by rw [hI.2.2.1.2.1 _ (Array.getElem?_eq_some_iff.mp g1).1 g4]; exact g1, g2, g3⟩
    · cases hb
set_option maxHeartbeats 1000000 in
theorem am_call {l : Launch} {n : Nat} (hPn : am_Pn l n) {p : Program} {e : Env} {R : Room} {s : State} {m : MethodId} {args : Array Value} {below : List Frame} {meth : Method} {c : Code} {H : Heap} {locs : List Loc} {cells slots : Nat} {Q : State → Prop} {M pc nL d : Nat} {E : am_E} {γ ρ : Nat → Nat} {κ : FieldType → ClassId} {D : va_G} {A : Nat → Prop} {h : am_H} {L : am_L} {ls : Array Slot} {st : List Value} {i : Instr}
    (hF : am_Fx p s m args meth c M E γ κ D A) (hI : am_I s γ κ D A nL ρ H locs h L ls st) (hnL : nL = am_mls.getD M 0) (hcode : am_code M pc = some i) {w : Nat × List Value × List Value} (hcl : am_cl M i st h = some w) {r : Option Value} {h1 : am_H} (hex : am_exec E n d w.1 0 (am_entry w.2.1 (am_mls.getD w.1 0)) [] h = some (r, h1))
    (hfr : d + 2 ≤ R.frames) (hlo : 60 * (d + 1) + 40 ≤ R.locals) (hc : cells + (h1.length - h.length) ≤ R.cells) (hz : slots + (am_sz h1 - am_sz h) ≤ R.slots)
    (kk : ∀ (ρ' : Nat → Nat) (H' : Heap) (locs' : List Loc), am_ext ρ ρ' h.length → am_I s γ κ D A nL ρ' H' locs' h1 L ls (r.toList ++ w.2.2) → W p l e R s m args below meth c H' locs' (cells + (h1.length - h.length)) (slots + (am_sz h1 - am_sz h)) Q (F0 m (pc + 3) ls ((r.toList ++ w.2.2).map (am_tv ρ')))) : W p l e R s m args below meth c H locs cells slots Q (F0 m pc ls (st.map (am_tv ρ))) := by
  obtain ⟨len, hd0, hlen⟩ := am_dec hcode
  have hF0 := hF
  obtain ⟨hx, hb, hown, hts, hA, hK, hC, hini, hE, hml, hWd⟩ := hF
  have hup := am_exec_h _ _ _ _ _ _ _ _ hex
  have hAf := am_free hF0 hI
  have hsize : ls.size = am_mls.getD M 0 := by rw [hI.lr.2.1, hnL]
  have hfix : CallFix p m c (am_bs.getD M ByteArray.empty) (am_mls.getD M 0) s args am_tb (am_own.getD (am_own1 M) "") := ⟨hx, hb, hml, hown, hts⟩
  have hpre : ∀ (vs : List Value) (U : State), U.heap = H → s.WarmedH U.vm → am_Pc E γ κ D ρ h H.size vs (vs.map (am_tv ρ)).toArray U := by
    intro vs U hU hW
    refine ⟨rfl, by rw [hU], by rw [hU]; exact hI.1, hI.2.1.weaken (fun _ _ _ _ => trivial), va_K.moved hW.alike hK, ?_, am_Wd_warm hW hWd⟩
    exact am_Cs_go hC hI.2.2.1 hAf hW hU
  -- a stack's top n values
  have htop : ∀ (k : Nat), k ≤ st.length → ∀ rest, st.drop k = rest → st.map (am_tv ρ) = ((st.take k).reverse.map (am_tv ρ)).reverse ++ rest.map (am_tv ρ) := by
    intro k hk rest hr
    rw [List.map_reverse, List.reverse_reverse, ← List.map_append, ← hr, List.take_append_drop]
  have hokT : ∀ k, am_okS h.length (st.take k).reverse := fun k v hv => hI.okS v (List.mem_of_mem_take (List.mem_reverse.mp hv))
  have hokD : ∀ k, am_okS h.length (st.drop k) := fun k v hv => hI.okS v (List.mem_of_mem_drop hv)
  have hlenT : ∀ k, k ≤ st.length → ((st.take k).reverse.map (am_tv ρ)).length = k := fun k hk => by rw [List.length_map, List.length_reverse, List.length_take]; omega
  cases i
  case invokevirtual idx =>
    have hd : decode (am_bs.getD M ByteArray.empty) pc = .ok (.invokevirtual idx, 3) := by
      rcases hlen with rfl | z
      · exact hd0
      · cases z
    simp only [am_cl] at hcl
    split at hcl
    · next q hq =>
      split at hcl
      · next b rest hdr =>
        split at hcl
        · next hcond =>
          obtain ⟨c1, c2, c3, c4, c5⟩ := hcond
          cases hcl
          rcases am_mth_ok hq with ⟨h99, -⟩ | ⟨hM', hk⟩
          · rw [h99] at c1; exact absurd c1 (by decide)
          · obtain ⟨m1, m2, m3, m4, m5, m6, m7, m8, m9, m10, m11, m12⟩ := am_mchk_of hM'
            have hokA : am_okS h.length (.ref b :: (st.take (am_nps.getD q.1 0)).reverse) := am_okS_c (hokT _) (by have := hokD (am_nps.getD q.1 0); rw [hdr] at this; exact am_okS_h this)
            have hokR : am_okS h.length rest := by have := hokD (am_nps.getD q.1 0); rw [hdr] at this; exact am_okS_t this
            have hM := am_met (l := l) (sz := H.size) (κ := κ) (D := D) hPn hM' hex c5 hI.okH hokA hI.2.2.2.2.2.2.2 hE
            have hstk : st.map (am_tv ρ) = ((st.take (am_nps.getD q.1 0)).reverse.map (am_tv ρ)).reverse ++ .ref (ρ b) :: rest.map (am_tv ρ) := htop _ c2 (.ref b :: rest) hdr
            have hrec := am_clsOf_recv hF0 hI c3
            rw [← m6] at hrec
            have hrW : 2 * (F0 m pc ls (st.map (am_tv ρ))).monitorRoom + ((rest.map (am_tv ρ)).map fun v => v.category).sum ≤ 8 := lv_room (m := m) (pc := pc) (ls := ls) (rest := st.map (am_tv ρ)) (by rw [am_cat_sum]; exact c4)
            have hRm : (am_rm d (h1.length - h.length) (am_sz h1 - am_sz h)).frames + 1 ≤ R.frames ∧ 8 + (am_mls.getD q.1 0 + 11) + (am_rm d (h1.length - h.length) (am_sz h1 - am_sz h)).locals ≤ R.locals := ⟨by show d + 1 + 1 ≤ _; omega, by show 8 + (am_mls.getD q.1 0 + 11) + (60 * d + 40) ≤ _; omega⟩
            have hPV : PreV s H (am_ys.getD q.1 yL_law).cls (ρ b) (am_Pc E γ κ D ρ h H.size (.ref b :: (st.take (am_nps.getD q.1 0)).reverse)) ((st.take (am_nps.getD q.1 0)).reverse.map (am_tv ρ)) := ⟨am_Pc_blind, hrec, fun U hU hW => hpre _ U hU hW⟩
            rcases hk with ⟨k0, hlink⟩ | k1
            · refine am_back hF0 hI hokR hup.1 (va_runV (g := F0 m pc ls (st.map (am_tv ρ))) hfix hM ⟨callB_of (am_nps.getD q.1 0) hts (am_good hM') rfl rfl rfl (hts _ m5) (hts _ hlink) ⟨m8.1, m8.2, m9⟩ hRm, hts _ (m3 (by rw [c1]; decide)), hts _ (m4 c1)⟩ hPV rfl (hlenT _ c2) hsize hstk hrW hd ⟨hc, hz⟩) kk
            · refine am_back hF0 hI hokR hup.1 (va_runVN (host := "PegStrings") (g := F0 m pc ls (st.map (am_tv ρ))) hfix hM ⟨va_cnB (am_nps.getD q.1 0) hts (am_good hM') rfl rfl rfl (hWd.1 _ _ _ hq k1) (hts _ m5) ⟨m8.1, m8.2, m9⟩ hRm, hts _ (m3 (by rw [c1]; decide)), hts _ (m4 c1)⟩ hPV rfl (hlenT _ c2) hsize hstk hrW hd ⟨hc, hz⟩) kk
        · cases hcl
      · cases hcl
    · cases hcl
  case invokespecial idx =>
    have hd : decode (am_bs.getD M ByteArray.empty) pc = .ok (.invokespecial idx, 3) := by
      rcases hlen with rfl | z
      · exact hd0
      · cases z
    simp only [am_cl] at hcl
    split at hcl
    · next q hq =>
      split at hcl
      · next b rest hdr =>
        split at hcl
        · next hcond =>
          obtain ⟨c1, c2, c4, c5⟩ := hcond
          cases hcl
          rcases am_mth_ok hq with ⟨h99, -⟩ | ⟨hM', hk⟩
          · rw [h99] at c1; exact absurd c1 (by decide)
          · obtain ⟨m1, m2, m3, m4, m5, m6, m7, m8, m9, m10, m11, m12⟩ := am_mchk_of hM'
            have hokA : am_okS h.length (.ref b :: (st.take (am_nps.getD q.1 0)).reverse) := am_okS_c (hokT _) (by have := hokD (am_nps.getD q.1 0); rw [hdr] at this; exact am_okS_h this)
            have hokR : am_okS h.length rest := by have := hokD (am_nps.getD q.1 0); rw [hdr] at this; exact am_okS_t this
            have hM := am_met (l := l) (sz := H.size) (κ := κ) (D := D) hPn hM' hex c5 hI.okH hokA hI.2.2.2.2.2.2.2 hE
            have hstk : st.map (am_tv ρ) = ((st.take (am_nps.getD q.1 0)).reverse.map (am_tv ρ)).reverse ++ .ref (ρ b) :: rest.map (am_tv ρ) := htop _ c2 (.ref b :: rest) hdr
            have hrW : 2 * (F0 m pc ls (st.map (am_tv ρ))).monitorRoom + ((rest.map (am_tv ρ)).map fun v => v.category).sum ≤ 8 := lv_room (m := m) (pc := pc) (ls := ls) (rest := st.map (am_tv ρ)) (by rw [am_cat_sum]; exact c4)
            have hRm : (am_rm d (h1.length - h.length) (am_sz h1 - am_sz h)).frames + 1 ≤ R.frames ∧ 8 + (am_mls.getD q.1 0 + 11) + (am_rm d (h1.length - h.length) (am_sz h1 - am_sz h)).locals ≤ R.locals := ⟨by show d + 1 + 1 ≤ _; omega, by show 8 + (am_mls.getD q.1 0 + 11) + (60 * d + 40) ≤ _; omega⟩
            have hPS : PreS s H (am_Pc E γ κ D ρ h H.size (.ref b :: (st.take (am_nps.getD q.1 0)).reverse)) (.ref (ρ b) :: (st.take (am_nps.getD q.1 0)).reverse.map (am_tv ρ)) := ⟨am_Pc_blind, fun U hU hW => hpre _ U hU hW⟩
            have hg : GoodIn am_tb (Cond.code (am_ys.getD q.1 yL_law) (am_bs.getD q.1 ByteArray.empty) (am_mls.getD q.1 0) none :: am_tb) := by
              have := am_good hM'
              unfold am_ws at this
              rw [(m10 c1).2] at this
              exact this
            unfold am_ws at hM
            rw [(m10 c1).2] at hM
            rcases hk with ⟨k0, hlink⟩ | k1
            · refine am_back hF0 hI hokR hup.1 (va_runI (g := F0 m pc ls (st.map (am_tv ρ))) hfix hM ⟨callB_of (am_nps.getD q.1 0) hts hg rfl rfl rfl (hts _ m5) (hts _ hlink) ⟨m8.1, m8.2, m9⟩ hRm, (m10 c1).1, hts _ (m3 (by rw [c1]; decide))⟩ hPS rfl (hlenT _ c2) hsize hstk hrW hd ⟨hc, hz⟩) kk
            · refine am_back hF0 hI hokR hup.1 (va_runIN (host := "PegStrings") (g := F0 m pc ls (st.map (am_tv ρ))) hfix hM ⟨va_cnB (am_nps.getD q.1 0) hts hg rfl rfl rfl (hWd.1 _ _ _ hq k1) (hts _ m5) ⟨m8.1, m8.2, m9⟩ hRm, (m10 c1).1, hts _ (m3 (by rw [c1]; decide))⟩ hPS rfl (hlenT _ c2) hsize hstk hrW hd ⟨hc, hz⟩) kk
        · cases hcl
      · cases hcl
    · cases hcl
  case invokestatic idx =>
    have hd : decode (am_bs.getD M ByteArray.empty) pc = .ok (.invokestatic idx, 3) := by
      rcases hlen with rfl | z
      · exact hd0
      · cases z
    simp only [am_cl] at hcl
    split at hcl
    · next q hq =>
      split at hcl
      · next hcond =>
        obtain ⟨c1, c2, c4, c5⟩ := hcond
        cases hcl
        rcases am_mth_ok hq with ⟨h99, -⟩ | ⟨hM', hk⟩
        · rw [h99] at c1; exact absurd c1 (by decide)
        · obtain ⟨m1, m2, m3, m4, m5, m6, m7, m8, m9, m10, m11, m12⟩ := am_mchk_of hM'
          have hM := am_met (l := l) (sz := H.size) (κ := κ) (D := D) hPn hM' hex c5 hI.okH (hokT _) hI.2.2.2.2.2.2.2 hE
          have hstk : st.map (am_tv ρ) = ((st.take (am_nps.getD q.1 0)).reverse.map (am_tv ρ)).reverse ++ (st.drop (am_nps.getD q.1 0)).map (am_tv ρ) := htop _ c2 _ rfl
          have hrW : 2 * (F0 m pc ls (st.map (am_tv ρ))).monitorRoom + (((st.drop (am_nps.getD q.1 0)).map (am_tv ρ)).map fun v => v.category).sum ≤ 8 := lv_room (m := m) (pc := pc) (ls := ls) (rest := st.map (am_tv ρ)) (by rw [am_cat_sum]; exact c4)
          have hRm : (am_rm d (h1.length - h.length) (am_sz h1 - am_sz h)).frames + 1 ≤ R.frames ∧ 8 + (am_mls.getD q.1 0 + 11) + (am_rm d (h1.length - h.length) (am_sz h1 - am_sz h)).locals ≤ R.locals := ⟨by show d + 1 + 1 ≤ _; omega, by show 8 + (am_mls.getD q.1 0 + 11) + (60 * d + 40) ≤ _; omega⟩
          have hPS : PreS s H (am_Pc E γ κ D ρ h H.size (st.take (am_nps.getD q.1 0)).reverse) ((st.take (am_nps.getD q.1 0)).reverse.map (am_tv ρ)) := ⟨am_Pc_blind, fun U hU hW => hpre _ U hU hW⟩
          rcases hk with ⟨k0, hlink⟩ | k1
          · refine am_back hF0 hI (hokD _) hup.1 (va_runS (g := F0 m pc ls (st.map (am_tv ρ))) hfix hM ⟨callB_of (am_nps.getD q.1 0) hts (am_good hM') rfl rfl rfl (hts _ m5) (hts _ hlink) ⟨m8.1, m8.2, m9⟩ hRm, hts _ (m2 c1)⟩ hPS rfl (hlenT _ c2) hsize hstk hrW hd ⟨hc, hz⟩) kk
          · refine am_back hF0 hI (hokD _) hup.1 (va_runSN (host := "PegStrings") (g := F0 m pc ls (st.map (am_tv ρ))) hfix hM ⟨va_cnB (am_nps.getD q.1 0) hts (am_good hM') rfl rfl rfl (hWd.1 _ _ _ hq k1) (hts _ m5) ⟨m8.1, m8.2, m9⟩ hRm, hts _ (m2 c1), trivial⟩ hPS rfl (hlenT _ c2) hsize hstk hrW hd ⟨hc, hz⟩) kk
      · cases hcl
    · cases hcl
  all_goals exact absurd hcl (by simp [am_cl])
set_option maxHeartbeats 1000000 in
/-- THE SMALL MACHINE IS RIGHT -/
theorem am_run (l : Launch) : ∀ n, am_Pn l n
  | 0 => by
    intro E γ κ D p e R s m args below meth c Q M A nL ρ H locs cells slots d pc L ls st h r h' hex
    simp [am_exec] at hex
  | n + 1 => by
    intro E γ κ D p e R s m args below meth c Q M A nL ρ H locs cells slots d pc L ls st h r h' hex hF hI hnL hfr hlo hc hz hret
    have ih := am_run l n
    simp only [am_exec] at hex
    split at hex
    · cases hex
    · next i hcode =>
      split at hex
      · next q hq =>
        have u1 := am_s_h hq
        have u2 := am_exec_h _ _ _ _ _ _ _ _ hex
        obtain ⟨u1a, u1b⟩ := u1
        obtain ⟨u2a, u2b⟩ := u2
        simp only at u2a u2b
        refine am_step hF hI hnL hcode hq (by omega) (by omega) (by omega) (by omega) (fun ρ' H' locs' ls' hx hI' => ?_)
        refine ih E γ κ D p e R s m args below meth c Q M A nL ρ' H' locs' _ _ d q.1 q.2.1 ls' q.2.2.1 q.2.2.2 r h' hex hF hI' hnL hfr hlo (by omega) (by omega) (fun ρ2 H2 locs2 L2 ls2 pc2 i2 st2 hx2 hI2 hc2 hr2 => ?_)
        have := hret ρ2 H2 locs2 L2 ls2 pc2 i2 st2 (hx.tr hx2 u1a) hI2 hc2 hr2
        rw [show cells + (q.2.2.2.length - h.length) + (h'.length - q.2.2.2.length) = cells + (h'.length - h.length) by omega, show slots + (am_sz q.2.2.2 - am_sz h) + (am_sz h' - am_sz q.2.2.2) = slots + (am_sz h' - am_sz h) by omega]
        exact this
      · split at hex
        · next r1 hr1 =>
          cases hex
          have := hret ρ H locs L ls pc i st am_ext.rf hI hcode hr1
          rw [Nat.sub_self, Nat.sub_self, Nat.add_zero, Nat.add_zero] at this
          exact this
        · split at hex
          · next q d' hq =>
            split at hex
            · next w hw =>
              have u1 := am_exec_h _ _ _ _ _ _ _ _ hw
              have u2 := am_exec_h _ _ _ _ _ _ _ _ hex
              obtain ⟨u1a, u1b⟩ := u1
              obtain ⟨u2a, u2b⟩ := u2
              simp only at u2a u2b
              refine am_call ih hF hI hnL hcode hq hw (by omega) hlo (by omega) (by omega) (fun ρ' H' locs' hx hI' => ?_)
              refine ih E γ κ D p e R s m args below meth c Q M A nL ρ' H' locs' _ _ (d' + 1) (pc + 3) L ls _ w.2 r h' hex hF hI' hnL hfr hlo (by omega) (by omega) (fun ρ2 H2 locs2 L2 ls2 pc2 i2 st2 hx2 hI2 hc2 hr2 => ?_)
              have := hret ρ2 H2 locs2 L2 ls2 pc2 i2 st2 (hx.tr hx2 u1a) hI2 hc2 hr2
              rw [show cells + (w.2.length - h.length) + (h'.length - w.2.length) = cells + (h'.length - h.length) by omega, show slots + (am_sz w.2 - am_sz h) + (am_sz h' - am_sz w.2) = slots + (am_sz h' - am_sz h) by omega]
              exact this
            · cases hex
          · cases hex
