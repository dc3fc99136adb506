noncomputable def zilen (i : Instr) : Nat := match i with
  | .aload _ | .iload _ | .lload _ | .fload _ | .dload _ | .astore _ | .istore _ | .lstore _ | .fstore _ | .dstore _ | .bipush _ | .ldc _ | .newarray _ => 2
  | .ifnonnull _ | .checkcast _ | .sipush _ | .ldc_w _ | .ldc2_w _ | .iinc _ _ | .ifCond _ _ | .if_icmp _ _ | .goto _ | .getfield _ | .putfield _ | .getstatic _ | .invokevirtual _ | .invokespecial _ | .invokestatic _ | .new _ | .anewarray _ => 3
  | .multianewarray _ _ => 4
  | .tableswitch _ _ _ _ => 0
  | .lookupswitch _ _ => 0
  | _ => 1
noncomputable def zjok (pc : Nat) (i : Instr) : Bool := match i with
  | .goto off => decide (0 ≤ (pc : Int) + off)
  | .ifnonnull off => decide (0 ≤ (pc : Int) + off)
  | .ifCond _ off => decide (0 ≤ (pc : Int) + off)
  | .if_icmp _ off => decide (0 ≤ (pc : Int) + off)
  | .tableswitch d lo hi offs => decide (0 ≤ (pc : Int) + d) && offs.toList.all (fun o => decide (0 ≤ (pc : Int) + o)) && decide ((offs.toList.length : Int) = hi - lo + 1)
  | .lookupswitch d ps => decide (0 ≤ (pc : Int) + d) && ps.toList.all (fun o => decide (0 ≤ (pc : Int) + o.2)) && (ps.toList.zip (ps.toList.drop 1)).all (fun (a, next) => a.1 < next.1)
  | _ => true
theorem zdec (m pc : Nat) (r : Instr × Nat) : zcode m pc = some r → decode (zbytes m) pc = .ok r ∧ (zilen r.1 = 0 ∨ r.2 = zilen r.1) ∧ zjok pc r.1 = true := sorry
