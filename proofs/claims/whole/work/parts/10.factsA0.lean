/-- of a method: its words -/
def am_mchk (M : Nat) : Bool :=
  let y := am_ys.getD M yL_law
  let q := am_pls.getD M (0, 0, 0, 0)
  let z := am_srts.getD M 9
  (if z = 1 then am_at? q.2.1 (.static y) else am_at? q.2.1 (.instanceMethod y)) &&
  (if z = 0 then am_at? q.2.2.1 (.selects y.cls y y) else true) && am_at? q.2.2.2 (.initialized y.cls) &&
  decide (y.cls = am_own.getD (am_own1 M) "") && plainFor y && decide (y.cls ≠ "java/lang/invoke/MethodHandle" ∧ y.cls ≠ "java/lang/invoke/VarHandle") &&
  decide ((parseMethodDescriptor y.desc).map (fun d => d.parameters.length) = some (am_nps.getD M 0)) && (if z = 2 then decide (y.name = "<init>") && decide (am_rets.getD M none = none) else true) && decide (am_mls.getD M 0 ≤ 16) && decide (z ≤ 2)
theorem am_m0 : ((List.range 46).all fun k => am_mchk (0 + k)) = true := by decide +kernel
