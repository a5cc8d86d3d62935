section AMV
variable {p : Program} {l : Launch} {e : Env} {R : Room} {s : State} {m : MethodId} {args : Array Value} {below : List Frame} {meth : Method} {c : Code} {H : Heap} {locs : List Loc} {cells slots : Nat} {Q : State → Prop}
variable {M pc pc' nL : Nat} {E : am_E} {γ ρ : Nat → Nat} {κ : FieldType → ClassId} {D : va_G} {A : Nat → Prop} {h h' : am_H} {L L' : am_L} {ls : Array Slot} {st st' : List Value} {cc : ByteArray}
set_option maxHeartbeats 4000000 in
/-- an instruction of the small machine is one of the true one -/
theorem am_step {i : Instr} (hF : am_Fx p s m args meth c M E γ κ D A) (hI : am_I s γ κ D A nL ρ H locs h L ls st) (hnL : nL = am_mls.getD M 0) (hcode : am_code M pc = some i) {q : Nat × am_L × List Value × am_H} (hs : am_s E M i pc L st h = some q) (hc : cells + (q.2.2.2.length - h.length) ≤ R.cells) (hz : slots + (am_sz q.2.2.2 - am_sz h) ≤ R.slots) (hfr : 1 ≤ R.frames) (hlo : 20 ≤ R.locals)
    (kk : am_kk p l e R s m args below meth c cells slots Q γ κ D A nL ρ h q.1 q.2.1 q.2.2.1 q.2.2.2) : W p l e R s m args below meth c H locs cells slots Q (F0 m pc ls (st.map (am_tv ρ))) := by
  obtain ⟨len, hd0, hlen⟩ := am_dec hcode
  have hd1 : am_tsw i = false → decode (am_bs.getD M ByteArray.empty) pc = .ok (i, am_ln i) := fun z => by
    rcases hlen with rfl | y
    · exact hd0
    · rw [z] at y; cases y
  have hF0 := hF
  obtain ⟨hx, hb, hown, hts, hA, hK, hC, hini, hE, hml, hWd⟩ := hF
  cases i
  case iconst n =>
    simp only [am_s, Option.some.injEq] at hs; subst hs
    exact lv_iconst hx hb (hd1 rfl) rfl (am_kk_same kk hI (am_okS_i hI.okS _))
  case bipush n =>
    simp only [am_s, Option.some.injEq] at hs; subst hs
    exact lv_bipush hx hb (hd1 rfl) rfl (am_kk_same kk hI (am_okS_i hI.okS _))
  case sipush n =>
    simp only [am_s, Option.some.injEq] at hs; subst hs
    exact lv_sipush hx hb (hd1 rfl) rfl (am_kk_same kk hI (am_okS_i hI.okS _))
  case lconst n =>
    simp only [am_s, Option.some.injEq] at hs; subst hs
    exact lv_lconst hx hb (hd1 rfl) rfl (am_kk_same kk hI (am_okS_l hI.okS _))
  case aconst_null =>
    simp only [am_s, Option.some.injEq] at hs; subst hs
    exact lv_null hx hb (hd1 rfl) (am_kk_same kk hI (am_okS_c hI.okS trivial))
  case ldc idx =>
    simp only [am_s] at hs
    split at hs
    · next k hk =>
      simp only [Option.some.injEq] at hs; subst hs
      obtain ⟨t, ht, ho, hi⟩ := am_str_ok hk
      have hR := (hC.1 k t ht).2.2.2.2
      rw [ho, hi] at hR
      have k1 := am_kk_same kk hI (am_okS_c hI.okS (v := .ref (1000000 + 2 * k)) (Or.inr (Nat.le_add_right _ _)))
      have e1 : am_tv ρ (.ref (1000000 + 2 * k)) = .ref (γ (1000000 + 2 * k)) := congrArg Value.ref (hI.2.2.2.2.2.2.2 _ (Nat.le_add_right _ _))
      rw [List.map_cons, e1] at k1
      exact va_ldcS hx hb hown hR (hd1 rfl) k1
    · cases hs
  case ldc_w idx =>
    simp only [am_s] at hs
    split at hs
    · next k hk =>
      simp only [Option.some.injEq] at hs; subst hs
      obtain ⟨t, ht, ho, hi⟩ := am_str_ok hk
      have hR := (hC.1 k t ht).2.2.2.2
      rw [ho, hi] at hR
      have k1 := am_kk_same kk hI (am_okS_c hI.okS (v := .ref (1000000 + 2 * k)) (Or.inr (Nat.le_add_right _ _)))
      have e1 : am_tv ρ (.ref (1000000 + 2 * k)) = .ref (γ (1000000 + 2 * k)) := congrArg Value.ref (hI.2.2.2.2.2.2.2 _ (Nat.le_add_right _ _))
      rw [List.map_cons, e1] at k1
      exact am_ldcSw hx hb hown hR (hd1 rfl) k1
    · cases hs
  case ldc2_w idx =>
    simp only [am_s] at hs
    split at hs
    · next k hk =>
      simp only [Option.some.injEq] at hs; subst hs
      exact lv_ldc2 hx hb hown (hts _ (am_lng_ok hk)) (hd1 rfl) (am_kk_same kk hI (am_okS_l hI.okS _))
    · cases hs
  case iload_n k =>
    simp only [am_s] at hs
    exact am_ldi_s (pc' := pc + 1) (fun hl kk => lv_iload_n hx hb (hd1 rfl) rfl hl kk) hI hs kk
  case iload k =>
    simp only [am_s] at hs
    exact am_ldi_s (pc' := pc + 2) (fun hl kk => lv_iload hx hb (hd1 rfl) hl kk) hI hs kk
  case lload_n k =>
    simp only [am_s] at hs
    exact am_ldl_s (pc' := pc + 1) (fun hl kk => lv_lload_n hx hb (hd1 rfl) rfl hl kk) hI hs kk
  case lload k =>
    simp only [am_s] at hs
    exact am_ldl_s (pc' := pc + 2) (fun hl kk => lv_lload hx hb (hd1 rfl) hl kk) hI hs kk
  case aload_n k =>
    simp only [am_s] at hs
    exact am_lda_s (pc' := pc + 1) (fun hl kk => lv_aload_n hx hb (hd1 rfl) rfl hl kk) (fun hl kk => lv_aload_nN hx hb (hd1 rfl) rfl hl kk) hI hs kk
  case aload k =>
    simp only [am_s] at hs
    exact am_lda_s (pc' := pc + 2) (fun hl kk => lv_aload hx hb (hd1 rfl) hl kk) (fun hl kk => lv_aloadN hx hb (hd1 rfl) hl kk) hI hs kk
  case istore_n k =>
    simp only [am_s] at hs
    exact am_sti_s (pc' := pc + 1) (fun hk kk => lv_istore_n hx hb (hd1 rfl) rfl (am_ps_has hI.lr) hk rfl kk) hI hs kk
  case istore k =>
    simp only [am_s] at hs
    exact am_sti_s (pc' := pc + 2) (fun hk kk => lv_istore hx hb (hd1 rfl) (am_ps_has hI.lr) hk rfl kk) hI hs kk
  case lstore_n k =>
    simp only [am_s] at hs
    exact am_stl_s (pc' := pc + 1) (fun hk kk => lv_lstore_n hx hb (hd1 rfl) rfl (am_ps_has hI.lr) hk rfl kk) hI hs kk
  case lstore k =>
    simp only [am_s] at hs
    exact am_stl_s (pc' := pc + 2) (fun hk kk => lv_lstore hx hb (hd1 rfl) (am_ps_has hI.lr) hk rfl kk) hI hs kk
  case astore_n k =>
    simp only [am_s] at hs
    exact am_sta_s (pc' := pc + 1) (fun hk kk => lv_astore_n hx hb (hd1 rfl) rfl (am_ps_has hI.lr) hk rfl kk) (fun hk kk => lv_astore_nN hx hb (hd1 rfl) rfl (am_ps_has hI.lr) hk rfl kk) hI hs kk
  case astore k =>
    simp only [am_s] at hs
    exact am_sta_s (pc' := pc + 2) (fun hk kk => lv_astore hx hb (hd1 rfl) (am_ps_has hI.lr) hk rfl kk) (fun hk kk => lv_astoreN hx hb (hd1 rfl) (am_ps_has hI.lr) hk rfl kk) hI hs kk
  case iinc k n =>
    simp only [am_s] at hs
    split at hs
    · next x hx0 =>
      unfold am_sto at hs
      split at hs
      · next L1 hL1 =>
        simp only [Option.some.injEq] at hs; subst hs
        obtain ⟨j, hj⟩ := List.getElem?_of_mem (am_ps_mem (ρ := ρ) hx0)
        refine lv_iinc (k := j) hx hb (hd1 rfl) (am_ps_has hI.lr) hj rfl (by have := (am_put1_spec hL1).1; rw [hI.lr.1] at this; exact this) rfl (fun ls' hl => ?_)
        exact am_kk_loc kk hI hI.okS (am_store1 (v := .int (x + Int32.ofInt n)) hI.lr hL1 hl) (am_okL_put1 (v := .int (x + Int32.ofInt n)) hI.okL trivial hL1)
      · cases hs
    · cases hs
  case dup =>
    simp only [am_s] at hs
    split at hs
    · next v r =>
      split at hs
      · next hv =>
        simp only [Option.some.injEq] at hs; subst hs
        exact lv_dup hx hb (hd1 rfl) (by rw [am_tv_cat]; exact hv) (am_kk_same kk hI (am_okS_c hI.okS (am_okS_h hI.okS)))
      · cases hs
    · cases hs
  case dup2 =>
    simp only [am_s] at hs
    split at hs
    · next v w r =>
      split at hs
      · next hv =>
        simp only [Option.some.injEq] at hs; subst hs
        exact lv_dup2_11 hx hb (hd1 rfl) (by rw [am_tv_cat]; exact hv.1) (by rw [am_tv_cat]; exact hv.2) (am_kk_same kk hI (am_okS_c (am_okS_c hI.okS (am_okS_h (am_okS_t hI.okS))) (am_okS_h hI.okS)))
      · cases hs
    · cases hs
  case pop =>
    simp only [am_s] at hs
    split at hs
    · next v r =>
      split at hs
      · next hv =>
        simp only [Option.some.injEq] at hs; subst hs
        exact lv_pop hx hb (hd1 rfl) (by rw [am_tv_cat]; exact hv) (am_kk_same kk hI (am_okS_t hI.okS))
      · cases hs
    · cases hs
  case iadd => simp only [am_s] at hs; exact am_ii_s (fun kk => lv_iadd hx hb (hd1 rfl) kk) hI hs kk
  case isub => simp only [am_s] at hs; exact am_ii_s (fun kk => lv_isub hx hb (hd1 rfl) kk) hI hs kk
  case imul => simp only [am_s] at hs; exact am_ii_s (fun kk => lv_imul hx hb (hd1 rfl) kk) hI hs kk
  case iand => simp only [am_s] at hs; exact am_ii_s (fun kk => lv_iand hx hb (hd1 rfl) kk) hI hs kk
  case ior => simp only [am_s] at hs; exact am_ii_s (fun kk => lv_ior hx hb (hd1 rfl) kk) hI hs kk
  case ixor => simp only [am_s] at hs; exact am_ii_s (fun kk => lv_ixor hx hb (hd1 rfl) kk) hI hs kk
  case ishl => simp only [am_s] at hs; exact am_ii_s (fun kk => lv_ishl hx hb (hd1 rfl) kk) hI hs kk
  case ishr => simp only [am_s] at hs; exact am_ii_s (fun kk => lv_ishr hx hb (hd1 rfl) kk) hI hs kk
  case iushr => simp only [am_s] at hs; exact am_ii_s (fun kk => lv_iushr hx hb (hd1 rfl) rfl kk) hI hs kk
  case idiv => simp only [am_s] at hs; exact am_dv_s (fun hy kk => lv_idiv hx hb (hd1 rfl) hy kk) hI hs kk
  case irem => simp only [am_s] at hs; exact am_dv_s (fun hy kk => lv_irem hx hb (hd1 rfl) hy kk) hI hs kk
  case ineg => simp only [am_s] at hs; exact am_i1_s (f := fun x => .int (-x)) (fun _ _ _ => ⟨trivial, rfl⟩) (fun kk => lv_ineg hx hb (hd1 rfl) kk) hI hs kk
  case i2l => simp only [am_s] at hs; exact am_i1_s (f := fun x => .long x.toInt64) (fun _ _ _ => ⟨trivial, rfl⟩) (fun kk => lv_i2l hx hb (hd1 rfl) rfl kk) hI hs kk
  case i2b => simp only [am_s] at hs; exact am_i1_s (f := fun x => .int x.toInt8.toInt32) (fun _ _ _ => ⟨trivial, rfl⟩) (fun kk => lv_i2b hx hb (hd1 rfl) rfl kk) hI hs kk
  case i2c => simp only [am_s] at hs; exact am_i1_s (f := fun x => .int (x.toUInt32 % 65536).toInt32) (fun _ _ _ => ⟨trivial, rfl⟩) (fun kk => lv_i2c hx hb (hd1 rfl) rfl kk) hI hs kk
  case ladd => simp only [am_s] at hs; exact am_ll_s (fun kk => lv_ladd hx hb (hd1 rfl) kk) hI hs kk
  case lsub => simp only [am_s] at hs; exact am_ll_s (fun kk => lv_lsub hx hb (hd1 rfl) kk) hI hs kk
  case lmul => simp only [am_s] at hs; exact am_ll_s (fun kk => lv_lmul hx hb (hd1 rfl) kk) hI hs kk
  case land => simp only [am_s] at hs; exact am_ll_s (fun kk => lv_land hx hb (hd1 rfl) kk) hI hs kk
  case lor => simp only [am_s] at hs; exact am_ll_s (fun kk => lv_lor hx hb (hd1 rfl) kk) hI hs kk
  case lshl => simp only [am_s] at hs; exact am_li_s (fun kk => lv_lshl hx hb (hd1 rfl) rfl kk) hI hs kk
  case lshr => simp only [am_s] at hs; exact am_li_s (fun kk => lv_lshr hx hb (hd1 rfl) rfl kk) hI hs kk
  case lushr => simp only [am_s] at hs; exact am_li_s (fun kk => lv_lushr hx hb (hd1 rfl) rfl kk) hI hs kk
  case ldiv =>
    simp only [am_s] at hs
    split at hs
    · split at hs
      · cases hs
      · next hy =>
        simp only [Option.some.injEq] at hs; subst hs
        exact lv_ldiv hx hb (hd1 rfl) hy (am_kk_same kk hI (am_okS_l (am_okS_t (am_okS_t hI.okS)) _))
    · cases hs
  case lneg =>
    simp only [am_s] at hs
    split at hs
    · simp only [Option.some.injEq] at hs; subst hs
      exact lv_lneg hx hb (hd1 rfl) (am_kk_same kk hI (am_okS_l (am_okS_t hI.okS) _))
    · cases hs
  case lcmp =>
    simp only [am_s] at hs
    split at hs
    · simp only [Option.some.injEq] at hs; subst hs
      exact W.lcmp hx hb (hd1 rfl) (am_kk_same kk hI (am_okS_i (am_okS_t (am_okS_t hI.okS)) _))
    · cases hs
  case ifCond cd off =>
    simp only [am_s] at hs
    split at hs
    · next x r =>
      obtain ⟨t, ht, bt, bf⟩ := am_br_s (am_okS_t hI.okS) hI hs kk
      cases cd
      case eq => exact lv_if_eq hx hb (hd1 rfl) ht (fun z => bt (decide_eq_true z)) (fun z => bf (decide_eq_false z))
      case ne => exact lv_if_ne hx hb (hd1 rfl) ht (fun z => bt (by show (!decide (x = 0)) = true; rw [decide_eq_false z]; rfl)) (fun z => bf (by show (!decide (x = 0)) = false; rw [decide_eq_true z]; rfl))
      case lt => exact lv_if_lt hx hb (hd1 rfl) ht (fun z => bt (decide_eq_true z)) (fun z => bf (decide_eq_false z))
      case ge => exact lv_if_ge hx hb (hd1 rfl) ht (fun z => bt (decide_eq_true z)) (fun z => bf (decide_eq_false z))
      case gt => exact lv_if_gt hx hb (hd1 rfl) ht (fun z => bt (decide_eq_true z)) (fun z => bf (decide_eq_false z))
      case le => exact lv_if_le hx hb (hd1 rfl) ht (fun z => bt (decide_eq_true z)) (fun z => bf (decide_eq_false z))
    · cases hs
  case if_icmp cd off =>
    simp only [am_s] at hs
    split at hs
    · next y x r =>
      obtain ⟨t, ht, bt, bf⟩ := am_br_s (am_okS_t (am_okS_t hI.okS)) hI hs kk
      cases cd
      case eq => exact lv_icmp_eq hx hb (hd1 rfl) ht (fun z => bt (decide_eq_true z)) (fun z => bf (decide_eq_false z))
      case ne => exact lv_icmp_ne hx hb (hd1 rfl) ht (fun z => bt (by show (!decide (x = y)) = true; rw [decide_eq_false z]; rfl)) (fun z => bf (by show (!decide (x = y)) = false; rw [decide_eq_true z]; rfl))
      case lt => exact lv_icmp_lt hx hb (hd1 rfl) ht (fun z => bt (decide_eq_true z)) (fun z => bf (decide_eq_false z))
      case ge => exact lv_icmp_ge hx hb (hd1 rfl) ht (fun z => bt (decide_eq_true z)) (fun z => bf (decide_eq_false z))
      case gt => exact lv_icmp_gt hx hb (hd1 rfl) ht (fun z => bt (decide_eq_true z)) (fun z => bf (decide_eq_false z))
      case le => exact lv_icmp_le hx hb (hd1 rfl) ht (fun z => bt (decide_eq_true z)) (fun z => bf (decide_eq_false z))
    · cases hs
  case ifnull off =>
    simp only [am_s] at hs
    split at hs
    · obtain ⟨t, ht, bt, bf⟩ := am_br_s (am_okS_t hI.okS) hI hs kk
      exact lv_ifnullN hx hb (hd1 rfl) ht (bt rfl)
    · obtain ⟨t, ht, bt, bf⟩ := am_br_s (am_okS_t hI.okS) hI hs kk
      exact lv_ifnull hx hb (hd1 rfl) (bf rfl)
    · cases hs
  case ifnonnull off =>
    simp only [am_s] at hs
    split at hs
    · obtain ⟨t, ht, bt, bf⟩ := am_br_s (am_okS_t hI.okS) hI hs kk
      exact lv_ifnonnullN hx hb (hd1 rfl) (bf rfl)
    · obtain ⟨t, ht, bt, bf⟩ := am_br_s (am_okS_t hI.okS) hI hs kk
      exact lv_ifnonnull hx hb (hd1 rfl) ht (bt rfl)
    · cases hs
  case goto off =>
    simp only [am_s, am_to] at hs
    split at hs
    · next t ht =>
      simp only [Option.some.injEq] at hs; subst hs
      exact lv_goto hx hb (hd1 rfl) (am_tg_spec ht) (am_kk_same kk hI hI.okS)
    · cases hs
  case tableswitch dflt lo hi offs =>
    simp only [am_s] at hs
    split at hs
    · next x r =>
      split at hs
      · next hout =>
        simp only [am_to] at hs
        split at hs
        · next t ht =>
          simp only [Option.some.injEq] at hs; subst hs
          exact lv_tableOut hx hb hd0 hout (am_tg_spec ht) (am_kk_same kk hI (am_okS_t hI.okS))
        · cases hs
      · next hin =>
        split at hs
        · next off hoff =>
          simp only [am_to] at hs
          split at hs
          · next t ht =>
            simp only [Option.some.injEq] at hs; subst hs
            exact lv_tableIn hx hb hd0 (fun z => hin (Or.inl z)) (fun z => hin (Or.inr z)) hoff (am_tg_spec ht) (am_kk_same kk hI (am_okS_t hI.okS))
          · cases hs
        · cases hs
    · cases hs
  case getfield idx =>
    simp only [am_s] at hs
    split at hs
    · next a r =>
      split at hs
      · next v hv =>
        simp only [Option.some.injEq] at hs; subst hs
        obtain ⟨hok, row⟩ := am_getf (l := l) (e := e) (R := R) (below := below) (cells := cells) (slots := slots) (Q := Q) (r := r.map (am_tv ρ)) hF0 hI (hd1 rfl) hv
        exact row (am_kk_same kk hI (am_okS_c (am_okS_t hI.okS) hok))
      · cases hs
    · cases hs
  case putfield idx =>
    simp only [am_s] at hs
    split at hs
    · next v a r =>
      split at hs
      · next h1 hv =>
        simp only [Option.some.injEq] at hs; subst hs
        exact am_putf hF0 hI (am_okS_h hI.okS) (am_okS_t (am_okS_t hI.okS)) (hd1 rfl) hv kk
      · cases hs
    · cases hs
  case getstatic idx =>
    simp only [am_s] at hs
    split at hs
    · next v hv =>
      simp only [Option.some.injEq] at hs; subst hs
      obtain ⟨hok, row⟩ := am_gets (l := l) (e := e) (R := R) (below := below) (cells := cells) (slots := slots) (Q := Q) (r := st.map (am_tv ρ)) hF0 hI (hd1 rfl) hv
      exact row (am_kk_same kk hI (am_okS_c hI.okS hok))
    · cases hs
  case iaload =>
    simp only [am_s] at hs
    split at hs
    · exact am_rdi_s hF0 hI (am_okS_t (am_okS_t hI.okS)) (hd1 rfl) hs kk
    · cases hs
  case baload =>
    simp only [am_s] at hs
    split at hs
    · exact am_rdb_s hF0 hI (am_okS_t (am_okS_t hI.okS)) (hd1 rfl) hs kk
    · cases hs
  case laload =>
    simp only [am_s] at hs
    split at hs
    · exact am_rdl_s hF0 hI (am_okS_t (am_okS_t hI.okS)) (hd1 rfl) hs kk
    · cases hs
  case aaload =>
    simp only [am_s] at hs
    split at hs
    · exact am_rda_s hF0 hI (am_okS_t (am_okS_t hI.okS)) (hd1 rfl) hs kk
    · cases hs
  case iastore =>
    simp only [am_s] at hs
    split at hs
    · exact am_wri_s hF0 hI (am_okS_t (am_okS_t (am_okS_t hI.okS))) (hd1 rfl) hs kk
    · cases hs
  case bastore =>
    simp only [am_s] at hs
    split at hs
    · exact am_wrb_s hF0 hI (am_okS_t (am_okS_t (am_okS_t hI.okS))) (hd1 rfl) hs kk
    · cases hs
  case lastore =>
    simp only [am_s] at hs
    split at hs
    · exact am_wrl_s hF0 hI (am_okS_t (am_okS_t (am_okS_t hI.okS))) (hd1 rfl) hs kk
    · cases hs
  case aastore =>
    simp only [am_s] at hs
    split at hs
    · exact am_wra_s hF0 hI (am_okS_t (am_okS_t (am_okS_t hI.okS))) (hd1 rfl) hs kk
    · cases hs
  case arraylength =>
    simp only [am_s] at hs
    split at hs
    · next a r =>
      split at hs
      · next x hx0 =>
        obtain ⟨ty, n, x⟩ := x
        simp only [Option.some.injEq] at hs; subst hs
        have k1 := am_kk_same kk hI (am_okS_i (am_okS_t hI.okS) (Int32.ofNat n))
        rcases am_arr_cases hx0 with ⟨hl, ha⟩ | ⟨hl, ha⟩
        · obtain ⟨t0, ht0⟩ := am_ks_in (κ := κ) (hI.okH _ (List.mem_of_getElem? ha)).1
          exact va_alen hx hb hK hI.1 a t0 (am_w_get ha) ht0 rfl (hd1 rfl) k1
        · obtain ⟨g, hg, hT⟩ := am_rd_T hC hl ha
          have k2 : W p l e R s m args below meth c H locs cells slots Q (F0 m pc ls (.ref (γ a) :: r.map (am_tv ρ))) := va_tlen hx hb hT hI.2.2.1 rfl (hd1 rfl) k1
          rw [← hI.2.2.2.2.2.2.2 a hl] at k2
          exact k2
      · cases hs
    · cases hs
  case newarray t =>
    simp only [am_s] at hs
    split at hs
    · next n r =>
      split at hs
      · cases hs
      · next hn =>
        exact am_newarr_s hF0 hI (am_okS_t hI.okS) (fun z => hn (Or.inl z)) (Nat.not_lt.mp fun z => hn (Or.inr z)) (hd1 rfl) hs hc hz kk
    · cases hs
  case anewarray idx =>
    simp only [am_s] at hs
    split at hs
    · next n r =>
      split at hs
      · cases hs
      · next hn =>
        split at hs
        · next w hw =>
          split at hs
          · next hw3 => exact am_anew_s hF0 hI (am_okS_t hI.okS) (fun z => hn (Or.inl z)) (Nat.not_lt.mp fun z => hn (Or.inr z)) (hd1 rfl) hw hw3 hs hc hz kk
          · cases hs
        · cases hs
    · cases hs
  case multianewarray idx dims =>
    simp only [am_s] at hs
    split at hs
    · next k n r =>
      split at hs
      · next hd2 =>
        subst hd2
        exact am_mna_s hF0 hI (am_okS_t (am_okS_t hI.okS)) (hd1 rfl) hs hc hz kk
      · cases hs
    · cases hs
  case new idx =>
    simp only [am_s] at hs
    split at hs
    · next w hw => exact am_newobj_s hF0 hI (hd1 rfl) hw hs hc hz kk
    · cases hs
  case invokespecial idx =>
    simp only [am_s] at hs
    split at hs
    · next w a r hw =>
      split at hs
      · next hcond =>
        simp only [Option.some.injEq] at hs; subst hs
        rcases am_mth_ok hw with ⟨-, hl⟩ | ⟨hl, -⟩
        · refine W.objInit hx hb hown (hts _ hl) (hts _ am_obj_ok.1) (hts _ am_obj_ok.2) (g := F0 m pc ls (.ref (ρ a) :: r.map (am_tv ρ))) rfl ?_ rfl (hd1 rfl) hfr ?_ (am_kk_same kk hI (am_okS_t hI.okS))
          · show ls.size = _
            rw [hI.lr.2.1, hnL, hml]
          · have : ((r.map (am_tv ρ)).map fun v => v.category).sum ≤ 8 := by
              rw [List.map_map]
              rw [show ((fun v : Value => v.category) ∘ am_tv ρ) = fun v => v.category from funext fun v => am_tv_cat v]
              exact hcond.2
            have h0 := lv_room (m := m) (pc := pc) (ls := ls) (rest := []) this
            have h0 : 2 * (F0 m pc ls (.ref (ρ a) :: r.map (am_tv ρ))).monitorRoom + ((r.map (am_tv ρ)).map fun v => v.category).sum ≤ 8 := h0
            omega
        · omega
      · cases hs
    · cases hs
  all_goals exact absurd hs (by simp [am_s])
end AMV
