def am_tsw (i : Instr) : Bool := match i with
  | .tableswitch _ _ _ _ => true
  | _ => false
/-- how many bytes an instruction has -/
def am_ln (i : Instr) : Nat := match i with
  | .bipush _ | .ldc _ | .iload _ | .lload _ | .aload _ | .istore _ | .lstore _ | .astore _ | .newarray _ => 2
  | .sipush _ | .ldc_w _ | .ldc2_w _ | .iinc _ _ | .ifCond _ _ | .if_icmp _ _ | .ifnull _ | .ifnonnull _ | .goto _ | .getfield _ | .putfield _ | .getstatic _ | .invokevirtual _ | .invokespecial _ | .invokestatic _ | .new _ | .anewarray _ => 3
  | .multianewarray _ _ => 4
  | _ => 1
def am_dok (b : ByteArray) (q : Nat × Instr) : Bool := match decode b q.1 with
  | .ok (i, len) => decide (i = q.2) && (decide (len = am_ln q.2) || am_tsw q.2)
  | _ => false
def am_dokM (M : Nat) : Bool := (am_codes.getD M []).all (am_dok (am_bs.getD M ByteArray.empty))
theorem am_d0 : ((List.range 20).all fun k => am_dokM (0 + k)) = true := by decide +kernel
theorem am_d20 : ((List.range 33).all fun k => am_dokM (20 + k)) = true := by decide +kernel
theorem am_d53 : ((List.range 19).all fun k => am_dokM (53 + k)) = true := by decide +kernel
theorem am_d72 : ((List.range 24).all fun k => am_dokM (72 + k)) = true := by decide +kernel
