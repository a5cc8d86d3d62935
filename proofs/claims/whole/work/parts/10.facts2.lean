def am_fchk (o : Nat) (q : Nat × (Nat × Nat × Nat)) : Bool := match am_cls[q.2.1]? with
  | some c => decide (q.2.2.1 < c.2.2) && am_at? q.2.2.2 (.fieldLink (am_own.getD o "") q.1 (c.2.1 q.2.2.1).1 (c.2.1 q.2.2.1).2.1 (c.2.1 q.2.2.1).2.2.1)
  | none => false
theorem am_fchk_all : ((List.range 16).all fun o => (am_fldT.getD o []).all (am_fchk o)) = true := by decide +kernel
def am_lchk (ci : Nat) : Bool := match am_cls[ci]? with
  | some c => (List.range c.2.2).all fun k => am_at? ((am_layT.getD ci []).getD k 0) (u_lay c.1 c.2.1 k)
  | none => true
theorem am_lchk_all : ((List.range 10).all am_lchk) = true := by decide +kernel
def am_nchk (o : Nat) (q : Nat × (Nat × Nat × Nat × Nat)) : Bool := match am_cls[q.2.1]? with
  | some c => am_at? q.2.2.1 (.classLink (am_own.getD o "") q.1 c.1) && am_at? q.2.2.2.1 (.instantiable c.1 c.2.2) && am_at? q.2.2.2.2 (.initialized c.1)
  | none => false
theorem am_nchk_all : ((List.range 16).all fun o => (am_newT.getD o []).all (am_nchk o)) = true := by decide +kernel
def am_lgchk (o : Nat) (q : Nat × (Int64 × Nat)) : Bool := am_at? q.2.2 (.constantLong (am_own.getD o "") q.1 q.2.1)
theorem am_lgchk_all : ((List.range 16).all fun o => (am_lngT.getD o []).all (am_lgchk o)) = true := by decide +kernel
def am_mnchk (o : Nat) (q : Nat × (FieldType × Nat)) : Bool := am_at? q.2.2 (.classLink (am_own.getD o "") q.1 ("[" ++ (FieldType.array q.2.1).toString)) && (decide (q.2.1 = .int) || decide (q.2.1 = .long))
theorem am_mnchk_all : ((List.range 16).all fun o => (am_mnaT.getD o []).all (am_mnchk o)) = true := by decide +kernel
def am_schk (o : Nat) (q : Nat × Nat) : Bool := match am_txt[q.2]? with
  | some t => decide (t.1 = o) && decide (t.2.1 = q.1)
  | none => false
theorem am_schk_all : ((List.range 16).all fun o => (am_strT.getD o []).all (am_schk o)) = true := by decide +kernel
def am_has? (k : Nat) (w : Cond) : Bool := match am_pc[k / 1000]? with
  | some l => decide (l[k % 1000]? = some w)
  | none => false
def am_lkchk (o : Nat) (q : Nat × (Nat × Nat × Nat)) : Bool := if q.2.1 = 9999 then am_at? q.2.2.2 (.methodLink (am_own.getD o "") q.1 Lib.objectInit)
  else if q.2.2.1 = 0 then am_at? q.2.2.2 (.methodLink (am_own.getD o "") q.1 (am_ys.getD q.2.1 yL_law)) && decide (q.2.1 < 322)
  else decide (q.2.2.1 = 1) && am_has? q.2.2.2 (.methodLinkNest (am_own.getD o "") q.1 (am_ys.getD q.2.1 yL_law) "PegStrings") && decide (q.2.1 < 322)
theorem am_lkchk_all : ((List.range 16).all fun o => (am_mthT.getD o []).all (am_lkchk o)) = true := by decide +kernel
