/-! the heap only grows -/
def am_up (h h' : am_H) : Prop := h.length ≤ h'.length ∧ am_sz h ≤ am_sz h'
theorem am_up.rf {h : am_H} : am_up h h := ⟨Nat.le_refl _, Nat.le_refl _⟩
theorem am_up.tr {h h1 h2 : am_H} (a : am_up h h1) (b : am_up h1 h2) : am_up h h2 := ⟨Nat.le_trans a.1 b.1, Nat.le_trans a.2 b.2⟩
theorem am_up.app {h z : am_H} : am_up h (h ++ z) := ⟨by rw [List.length_append]; exact Nat.le_add_right _ _, by unfold am_sz; rw [List.map_append, List.sum_append]; exact Nat.le_add_right _ _⟩
theorem am_up.set {h : am_H} {a : Nat} {c c0 : am_C} (hc : h[a]? = some c0) (hs : am_sz1 c = am_sz1 c0) : am_up h (h.set a c) := ⟨by rw [List.length_set]; exact Nat.le_refl _, by rw [am_sz_set hc hs]; exact Nat.le_refl _⟩
section AMM
variable {E : am_E} {M pc k : Nat} {L : am_L} {st r : List Value} {h : am_H} {q : Nat × am_L × List Value × am_H} {i x : Int32}
theorem am_ldi_h (hs : am_ldi L k pc st h = some q) : am_up h q.2.2.2 := by
  unfold am_ldi at hs
  split at hs <;> cases hs
  exact am_up.rf
theorem am_ldl_h (hs : am_ldl L k pc st h = some q) : am_up h q.2.2.2 := by
  unfold am_ldl at hs
  split at hs <;> cases hs
  exact am_up.rf
theorem am_lda_h (hs : am_lda L k pc st h = some q) : am_up h q.2.2.2 := by
  unfold am_lda at hs
  split at hs <;> cases hs <;> exact am_up.rf
theorem am_sto_h {L : Option am_L} (hs : am_sto L pc st h = some q) : am_up h q.2.2.2 := by
  unfold am_sto at hs
  split at hs <;> cases hs
  exact am_up.rf
theorem am_sti_h (hs : am_sti L k pc st h = some q) : am_up h q.2.2.2 := by
  unfold am_sti at hs
  split at hs
  · exact am_sto_h hs
  · cases hs
theorem am_stl_h (hs : am_stl L k pc st h = some q) : am_up h q.2.2.2 := by
  unfold am_stl at hs
  split at hs
  · exact am_sto_h hs
  · cases hs
theorem am_sta1_h (hs : am_sta1 L k pc st h = some q) : am_up h q.2.2.2 := by
  unfold am_sta1 at hs
  split at hs
  · exact am_sto_h hs
  · exact am_sto_h hs
  · cases hs
theorem am_ii_h {f : Int32 → Int32 → Int32} (hs : am_ii f pc L st h = some q) : am_up h q.2.2.2 := by
  unfold am_ii at hs
  split at hs <;> cases hs
  exact am_up.rf
theorem am_dv_h {f : Int32 → Int32 → Int32} (hs : am_dv f pc L st h = some q) : am_up h q.2.2.2 := by
  unfold am_dv at hs
  split at hs
  · split at hs <;> cases hs
    exact am_up.rf
  · cases hs
theorem am_ll_h {f : Int64 → Int64 → Int64} (hs : am_ll f pc L st h = some q) : am_up h q.2.2.2 := by
  unfold am_ll at hs
  split at hs <;> cases hs
  exact am_up.rf
theorem am_li_h {f : Int64 → Int32 → Int64} (hs : am_li f pc L st h = some q) : am_up h q.2.2.2 := by
  unfold am_li at hs
  split at hs <;> cases hs
  exact am_up.rf
theorem am_i1_h {f : Int32 → Value} (hs : am_i1 f pc L st h = some q) : am_up h q.2.2.2 := by
  unfold am_i1 at hs
  split at hs <;> cases hs
  exact am_up.rf
theorem am_to_h {t : Option Nat} (hs : am_to t L st h = some q) : am_up h q.2.2.2 := by
  unfold am_to at hs
  split at hs <;> cases hs
  exact am_up.rf
theorem am_br_h {b : Bool} {off : Int} (hs : am_br b pc off L st h = some q) : am_up h q.2.2.2 := by
  unfold am_br at hs
  split at hs <;> cases hs
  exact am_up.rf
theorem am_cond_h {b : Bool} {w : Nat × am_L × List Value × am_H} (hs : (bif b then some w else none) = some q) (hw : am_up h w.2.2.2) : am_up h q.2.2.2 := by
  cases b
  · cases hs
  · cases hs; exact hw
theorem am_rdi_h {y : Option (FieldType × vp_A)} (hs : am_rdi y i pc L r h = some q) : am_up h q.2.2.2 := by
  unfold am_rdi at hs
  split at hs
  · exact am_cond_h hs am_up.rf
  · cases hs
theorem am_rdb_h {y : Option (FieldType × vp_A)} (hs : am_rdb y i pc L r h = some q) : am_up h q.2.2.2 := by
  unfold am_rdb at hs
  split at hs
  · exact am_cond_h hs am_up.rf
  · exact am_cond_h hs am_up.rf
  · cases hs
theorem am_rdl_h {y : Option (FieldType × vp_A)} (hs : am_rdl y i pc L r h = some q) : am_up h q.2.2.2 := by
  unfold am_rdl at hs
  split at hs
  · exact am_cond_h hs am_up.rf
  · cases hs
theorem am_rda_h {y : Option am_C} (hs : am_rda y i pc L r h = some q) : am_up h q.2.2.2 := by
  unfold am_rda at hs
  split at hs
  · exact am_cond_h hs am_up.rf
  · exact am_cond_h hs am_up.rf
  · cases hs
theorem am_wri_h {a : Nat} (hs : am_wri a i x pc L r h = some q) : am_up h q.2.2.2 := by
  unfold am_wri at hs
  split at hs
  · next ha => exact am_cond_h hs (am_up.set ha rfl)
  · cases hs
theorem am_wrb_h {a : Nat} (hs : am_wrb a i x pc L r h = some q) : am_up h q.2.2.2 := by
  unfold am_wrb at hs
  split at hs
  · next ha => exact am_cond_h hs (am_up.set ha rfl)
  · next ha => exact am_cond_h hs (am_up.set ha rfl)
  · cases hs
theorem am_wrl_h {a : Nat} {x : Int64} (hs : am_wrl a i x pc L r h = some q) : am_up h q.2.2.2 := by
  unfold am_wrl at hs
  split at hs
  · next ha => exact am_cond_h hs (am_up.set ha rfl)
  · cases hs
theorem am_wra_h {a v : Nat} (hs : am_wra a i v pc L r h = some q) : am_up h q.2.2.2 := by
  unfold am_wra at hs
  split at hs
  · next ha _ => exact am_cond_h hs (am_up.set ha rfl)
  · cases hs
theorem am_pf_h {idx a : Nat} {v : Value} {h' : am_H} (hs : am_pf M idx a v h = some h') : am_up h h' := by
  unfold am_pf at hs
  split at hs
  · next ha =>
    split at hs
    · cases hs
      exact am_up.set ha (by simp [am_sz1])
    · cases hs
  · cases hs
theorem am_grow_h {c : Option am_C} (hs : am_grow c pc L r h = some q) : am_up h q.2.2.2 := by
  unfold am_grow at hs
  split at hs
  · split at hs
    · cases hs
      exact am_up.app
    · cases hs
  · cases hs
theorem am_mn_h {o idx : Nat} {n m : Int32} (hs : am_mn o idx n m pc L r h = some q) : am_up h q.2.2.2 := by
  unfold am_mn at hs
  split at hs
  · split at hs
    · split at hs
      · cases hs
        exact am_up.app
      · cases hs
    · cases hs
  · cases hs
theorem am_s_h {i : Instr} (hs : am_s E M i pc L st h = some q) : am_up h q.2.2.2 := by
  cases i <;> simp only [am_s] at hs
  case iload_n => exact am_ldi_h hs
  case iload => exact am_ldi_h hs
  case lload_n => exact am_ldl_h hs
  case lload => exact am_ldl_h hs
  case aload_n => exact am_lda_h hs
  case aload => exact am_lda_h hs
  case istore_n => exact am_sti_h hs
  case istore => exact am_sti_h hs
  case lstore_n => exact am_stl_h hs
  case lstore => exact am_stl_h hs
  case astore_n => exact am_sta1_h hs
  case astore => exact am_sta1_h hs
  case iinc =>
    split at hs
    · exact am_sto_h hs
    · cases hs
  case iadd => exact am_ii_h hs
  case isub => exact am_ii_h hs
  case imul => exact am_ii_h hs
  case iand => exact am_ii_h hs
  case ior => exact am_ii_h hs
  case ixor => exact am_ii_h hs
  case ishl => exact am_ii_h hs
  case ishr => exact am_ii_h hs
  case iushr => exact am_ii_h hs
  case idiv => exact am_dv_h hs
  case irem => exact am_dv_h hs
  case ineg => exact am_i1_h hs
  case i2l => exact am_i1_h hs
  case i2b => exact am_i1_h hs
  case i2c => exact am_i1_h hs
  case ladd => exact am_ll_h hs
  case lsub => exact am_ll_h hs
  case lmul => exact am_ll_h hs
  case land => exact am_ll_h hs
  case lor => exact am_ll_h hs
  case lshl => exact am_li_h hs
  case lshr => exact am_li_h hs
  case lushr => exact am_li_h hs
  case ifCond =>
    split at hs
    · exact am_br_h hs
    · cases hs
  case if_icmp =>
    split at hs
    · exact am_br_h hs
    · cases hs
  case ifnull =>
    split at hs
    · exact am_br_h hs
    · exact am_br_h hs
    · cases hs
  case ifnonnull =>
    split at hs
    · exact am_br_h hs
    · exact am_br_h hs
    · cases hs
  case goto => exact am_to_h hs
  case tableswitch =>
    split at hs
    · split at hs
      · exact am_to_h hs
      · split at hs
        · exact am_to_h hs
        · cases hs
    · cases hs
  case putfield =>
    split at hs
    · split at hs
      · next hv => cases hs; exact am_pf_h hv
      · cases hs
    · cases hs
  case iaload =>
    split at hs
    · exact am_rdi_h hs
    · cases hs
  case baload =>
    split at hs
    · exact am_rdb_h hs
    · cases hs
  case laload =>
    split at hs
    · exact am_rdl_h hs
    · cases hs
  case aaload =>
    split at hs
    · exact am_rda_h hs
    · cases hs
  case iastore =>
    split at hs
    · exact am_wri_h hs
    · cases hs
  case bastore =>
    split at hs
    · exact am_wrb_h hs
    · cases hs
  case lastore =>
    split at hs
    · exact am_wrl_h hs
    · cases hs
  case aastore =>
    split at hs
    · exact am_wra_h hs
    · cases hs
  case newarray =>
    split at hs
    · split at hs
      · cases hs
      · exact am_grow_h hs
    · cases hs
  case anewarray =>
    split at hs
    · split at hs
      · cases hs
      · split at hs
        · split at hs
          · exact am_grow_h hs
          · cases hs
        · cases hs
    · cases hs
  case multianewarray =>
    split at hs
    · split at hs
      · exact am_mn_h hs
      · cases hs
    · cases hs
  case new =>
    split at hs
    · exact am_grow_h hs
    · cases hs
  all_goals first
    | (cases hs; done)
    | (cases hs; exact am_up.rf)
    | (split at hs <;> first | (cases hs; done) | (cases hs; exact am_up.rf) | (split at hs <;> first | (cases hs; done) | (cases hs; exact am_up.rf)))
end AMM
theorem am_exec_h {E : am_E} : ∀ (n d M pc : Nat) (L : am_L) (st : List Value) (h : am_H) (w : Option Value × am_H), am_exec E n d M pc L st h = some w → am_up h w.2
  | 0, d, M, pc, L, st, h, w, hs => by simp [am_exec] at hs
  | n + 1, d, M, pc, L, st, h, w, hs => by
    simp only [am_exec] at hs
    split at hs
    · cases hs
    · split at hs
      · next q hq => exact (am_s_h hq).tr (am_exec_h n _ _ _ _ _ _ _ hs)
      · split at hs
        · cases hs; exact am_up.rf
        · split at hs
          · split at hs
            · next w1 hw1 => exact (am_exec_h n _ _ _ _ _ _ _ hw1).tr (am_exec_h n _ _ _ _ _ _ _ hs)
            · cases hs
          · cases hs
