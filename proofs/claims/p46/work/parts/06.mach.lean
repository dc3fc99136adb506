/-! One step of the small machine, with what follows handed in: 'kn' goes on in the method, 'kd' answers, 'kt' throws, 'kc' calls. -/
abbrev zKn : Type := Nat → zL → List zV → zH → zO
abbrev zKc : Type := Nat → List zV → Nat → zL → List zV → zH → zO
noncomputable def zload (L : zL) (S : List zV) (h : zH) (pc n t : Nat) (kn : zKn) : zO := zlv L n fun v => match t, v with
  | 0, .inl x => kn pc L (zI x :: S) h
  | 1, .inr (.inl x) => kn pc L (zJ x :: S) h
  | 2, .inr (.inr (.inl x)) => kn pc L (zF x :: S) h
  | 3, .inr (.inr (.inr (.inl x))) => kn pc L (zD x :: S) h
  | 4, .inr (.inr (.inr (.inr x))) => kn pc L (zR x :: S) h
  | _, _ => none
noncomputable def zstore (L : zL) (S : List zV) (h : zH) (pc n t : Nat) (kn : zKn) : zO := match t with
  | 0 => pI S fun x S => zls (zst1 L n (some (zI x))) fun L => kn pc L S h
  | 1 => pJ S fun x S => zls (zst2 L n (zJ x)) fun L => kn pc L S h
  | 2 => pF S fun x S => zls (zst1 L n (some (zF x))) fun L => kn pc L S h
  | 3 => pD S fun x S => zls (zst2 L n (zD x)) fun L => kn pc L S h
  | _ => pR S fun x S => zls (zst1 L n (some (zR x))) fun L => kn pc L S h
/-- a read of the field f (64 times its class, and its place) -/
noncomputable def zget (L : zL) (S : List zV) (h : zH) (pc f : Nat) (kn : zKn) : zO := pR S fun r S => gd (zob h r (1 + f / 64)) (gd (f % 64 < znf (f / 64)) (match zfty (f / 64) (f % 64) with
  | 0 => kn pc L (zI (hI h (zdr r) (f % 64)) :: S) h
  | 1 => kn pc L (zI (hI h (zdr r) (f % 64)) :: S) h
  | 2 => kn pc L (zJ (hJ h (zdr r) (f % 64)) :: S) h
  | 3 => kn pc L (zF (hF h (zdr r) (f % 64)) :: S) h
  | 4 => kn pc L (zD (hD h (zdr r) (f % 64)) :: S) h
  | 5 => kn pc L (zR (hR h (zdr r) (f % 64)) :: S) h
  | 6 => kn pc L (zI (hI h (zdr r) (f % 64)) :: S) h
  | _ => none))
noncomputable def zset (L : zL) (S : List zV) (h : zH) (pc f : Nat) (kn : zKn) : zO := gd (f % 64 < znf (f / 64)) (match zfty (f / 64) (f % 64) with
  | 0 => pI S fun v S => pR S fun r S => gd (zob h r (1 + f / 64)) (kn pc L S (sI h (zdr r) (f % 64) v))
  | 1 => pI S fun v S => pR S fun r S => gd (zob h r (1 + f / 64)) (gd (v = 0 ∨ v = 1) (kn pc L S (sI h (zdr r) (f % 64) v)))
  | 2 => pJ S fun v S => pR S fun r S => gd (zob h r (1 + f / 64)) (kn pc L S (sJ h (zdr r) (f % 64) v))
  | 3 => pF S fun v S => pR S fun r S => gd (zob h r (1 + f / 64)) (kn pc L S (sF h (zdr r) (f % 64) v))
  | 4 => pD S fun v S => pR S fun r S => gd (zob h r (1 + f / 64)) (kn pc L S (sD h (zdr r) (f % 64) v))
  | 5 => pR S fun v S => pR S fun r S => gd (zob h r (1 + f / 64)) (kn pc L S (sR h (zdr r) (f % 64) v))
  | 6 => pI S fun v S => pR S fun r S => gd (zob h r (1 + f / 64)) (gd (-128 ≤ v ∧ v < 128) (kn pc L S (sI h (zdr r) (f % 64) v)))
  | _ => none)
def zcs (S : List zV) : Nat := (S.map fun v => if zc2 v then 2 else 1).sum
/-- a call: of a method of the tables, or of one that is taken as one step -/
noncomputable def zcal (m : Nat) (L : zL) (S : List zV) (h : zH) (pc q : Nat) (sp : Bool) (kn : zKn) (kc : zKc) : zO :=
  zpop (znarg q) S fun as S => gd (sp = zspc q ∧ zcs S ≤ 8 ∧ zrm m (zrf q + 1) (8 + (zmaxl q + 11) + zrl q) = true ∧ zcs as ≤ zmaxl q) (match zrecv q with
    | 0 => kc q as pc L S h
    | t + 1 => match as with
      | .inr (.inr (.inr (.inr r))) :: _ => gd (zob h r (t + 1)) (kc q as pc L S h)
      | _ => none)
noncomputable def zinv (m : Nat) (L : zL) (S : List zV) (h : zH) (pc q : Nat) (sp : Bool) (kn : zKn) (kc : zKc) : zO :=
  if q < 900 then zcal m L S h pc q sp kn kc
  else match q with
    | 901 => gd (zctor m = true ∧ sp = true) (pR S fun r S => gd (r.isSome = true ∧ zcs S ≤ 8 ∧ zrm m 1 20 = true) (kn pc L S h))
    | 902 => pF S fun x S => gd (zcs S ≤ 8 ∧ zrm m 1 27 = true) (kn pc L (zI x.toInt32.toInt :: S) h)
    | 903 => pD S fun x S => gd (zcs S ≤ 8 ∧ zrm m 1 27 = true) (kn pc L (zJ x.toInt64.toBitVec :: S) h)
    | 904 => pR S fun r S => gd (r.isSome = true ∧ hT h (zdr r) = 40 ∧ zcs S ≤ 8 ∧ zrm m 5 120 = true) (kn pc L (zI (hL h (zdr r)) :: S) h)
    | 905 => pI S fun i S => pR S fun r S => gd (zok h r 40 i ∧ zcs S ≤ 8 ∧ zrm m 5 120 = true) (kn pc L (zI (hI h (zdr r) i.toNat) :: S) h)
    | 906 => pI S fun n S => pR S fun r S => gd (zob h r 21 ∧ 0 ≤ n ∧ n < 65536 ∧ zcs S ≤ 8 ∧ zrm m 3 80 = true) (kn pc L (zR (some (hN h)) :: S)
        (((hN (hNew h 21 n.toNat), hU (hNew h 21 n.toNat), hT (hNew h 21 n.toNat), hL (hNew h 21 n.toNat), hR (hNew h 21 n.toNat), zu1 (hI h) (hN h) (fun j => if j < hL h (zdr r) ∧ j < n.toNat then hI h (zdr r) j else 0), hJ (hNew h 21 n.toNat), hF (hNew h 21 n.toNat), hD (hNew h 21 n.toNat)) : zH)))
    | 908 => pI S fun c S => pI S fun k S => pR S fun d S => pR S fun r S => gd (c = 0 ∧ r.isSome = true ∧ hT h (zdr r) = 40 ∧ zob h d 21 ∧ 0 ≤ k ∧ k + (hL h (zdr r) : Int) ≤ (hL h (zdr d) : Int) ∧ zcs S ≤ 8 ∧ zrm m 6 200 = true) (kn pc L S (hPut h (zdr r) (zdr d) k.toNat))
    | 909 => pR S fun r S => gd (r.isSome = true ∧ hT h (zdr r) = 40 ∧ zcs S ≤ 8 ∧ zrm m 6 200 = true) (kn pc L (zI 0 :: S) h)
    | 920 => pR S fun r S1 => if hT h (zdr r) = 40 then gd (r.isSome = true ∧ zcs S1 ≤ 8 ∧ zrm m 5 120 = true) (kn pc L (zI (hL h (zdr r)) :: S1) h) else zcal m L S h pc mSt_length false kn kc
    | 921 => pI S fun i S1 => pR S1 fun r S2 => if hT h (zdr r) = 40 then gd (zok h r 40 i ∧ zcs S2 ≤ 8 ∧ zrm m 5 120 = true) (kn pc L (zI (hI h (zdr r) i.toNat) :: S2) h) else zcal m L S h pc mSt_charAt false kn kc
    | 930 => pI S fun k S => pI S fun e S => pR S fun d S => pI S fun f S => pR S fun r S => gd (zob h r 21 ∧ zob h d 21 ∧ zdr r ≠ zdr d ∧ 0 ≤ f ∧ 0 ≤ e ∧ 0 ≤ k ∧ f + k ≤ (hL h (zdr r) : Int) ∧ e + k ≤ (hL h (zdr d) : Int) ∧ zcs S ≤ 8 ∧ zrm m 6 200 = true) (kn pc L S (hAc h (zdr r) f.toNat (zdr d) e.toNat k.toNat))
    | 931 => pR S fun r S => gd (zob h r 21 ∧ hL h (zdr r) < 65536 ∧ zcs S ≤ 8 ∧ zrm m 6 200 = true) (kn pc L (zR (some (hN h)) :: S)
        (((hN (hNew h 21 (hL h (zdr r))), hU (hNew h 21 (hL h (zdr r))), hT (hNew h 21 (hL h (zdr r))), hL (hNew h 21 (hL h (zdr r))), hR (hNew h 21 (hL h (zdr r))), zu1 (hI h) (hN h) (hI h (zdr r)), hJ (hNew h 21 (hL h (zdr r))), hF (hNew h 21 (hL h (zdr r))), hD (hNew h 21 (hL h (zdr r)))) : zH)))
    | 932 => pI S fun n S => pI S fun i S => gd (0 ≤ i ∧ i < n ∧ zcs S ≤ 8 ∧ zrm m 6 200 = true) (kn pc L S h)
    | _ => none
/-- what is divided, where the law does it: one less than none is none -/
def zpz (x y : Int) : Int := if x = -1 ∧ 1 < y then 0 else x
noncomputable def zExe (m : Nat) (pc len : Nat) (i : Instr) (L : zL) (S : List zV) (h : zH) (kn : zKn) (kd : Option zV → zH → zO) (kt : Nat → zH → zO) (kc : zKc) : zO := match i with
  | .aload n => zload L S h (pc + len) n 4 kn
  | .aload_n n => zload L S h (pc + len) n.val 4 kn
  | .iload n => zload L S h (pc + len) n 0 kn
  | .iload_n n => zload L S h (pc + len) n.val 0 kn
  | .lload n => zload L S h (pc + len) n 1 kn
  | .lload_n n => zload L S h (pc + len) n.val 1 kn
  | .fload n => zload L S h (pc + len) n 2 kn
  | .fload_n n => zload L S h (pc + len) n.val 2 kn
  | .dload n => zload L S h (pc + len) n 3 kn
  | .dload_n n => zload L S h (pc + len) n.val 3 kn
  | .astore n => zstore L S h (pc + len) n 4 kn
  | .astore_n n => zstore L S h (pc + len) n.val 4 kn
  | .istore n => zstore L S h (pc + len) n 0 kn
  | .istore_n n => zstore L S h (pc + len) n.val 0 kn
  | .lstore n => zstore L S h (pc + len) n 1 kn
  | .lstore_n n => zstore L S h (pc + len) n.val 1 kn
  | .fstore n => zstore L S h (pc + len) n 2 kn
  | .fstore_n n => zstore L S h (pc + len) n.val 2 kn
  | .dstore n => zstore L S h (pc + len) n 3 kn
  | .dstore_n n => zstore L S h (pc + len) n.val 3 kn
  | .iinc n k => zlv L n fun v => match v with
    | .inl x => gd (inR (x + k)) (gd (inR k) (zls (zst1 L n (some (zI (x + k)))) fun L => kn (pc + len) L S h))
    | _ => none
  | .iconst k => gd (inR k) (kn (pc + len) L (zI k :: S) h)
  | .bipush k => gd (-128 ≤ k ∧ k < 128) (kn (pc + len) L (zI k :: S) h)
  | .sipush k => gd (-32768 ≤ k ∧ k < 32768) (kn (pc + len) L (zI k :: S) h)
  | .lconst k => kn (pc + len) L (zJ (BitVec.ofNat 64 k.val) :: S) h
  | .fconst 0 => kn (pc + len) L (zF FP.fconst0 :: S) h
  | .fconst 1 => kn (pc + len) L (zF FP.fconst1 :: S) h
  | .fconst 2 => kn (pc + len) L (zF FP.fconst2 :: S) h
  | .dconst 0 => kn (pc + len) L (zD FP.dconst0 :: S) h
  | .dconst 1 => kn (pc + len) L (zD FP.dconst1 :: S) h
  | .ldc n => match zcpK (zown m) n with
    | some v => if zc2 v then none else kn (pc + len) L (v :: S) h
    | none => none
  | .ldc_w n => match zcpK (zown m) n with
    | some v => if zc2 v then none else kn (pc + len) L (v :: S) h
    | none => none
  | .ldc2_w n => match zcpK (zown m) n with
    | some v => if zc2 v then kn (pc + len) L (v :: S) h else none
    | none => none
  | .dup => p1 S fun v S => kn (pc + len) L (v :: v :: S) h
  | .dup2 => p1 S fun v S => p1 S fun w S => kn (pc + len) L (v :: w :: v :: w :: S) h
  | .dup_x1 => p1 S fun v S => p1 S fun w S => kn (pc + len) L (v :: w :: v :: S) h
  | .aconst_null => kn (pc + len) L (zR none :: S) h
  | .pop => p1 S fun _ S => kn (pc + len) L S h
  | .iadd => bif Nat.blt (zown m) 13 then pI S fun y S => pI S fun x S => gd (inR (x + y)) (kn (pc + len) L (zI (x + y) :: S) h) else pI S fun y S => pI S fun x S => kn (pc + len) L (zI (zwadd x y) :: S) h
  | .isub => bif Nat.blt (zown m) 13 then pI S fun y S => pI S fun x S => gd (inR (x - y)) (kn (pc + len) L (zI (x - y) :: S) h) else pI S fun y S => pI S fun x S => kn (pc + len) L (zI (zwsub x y) :: S) h
  | .imul => bif Nat.blt (zown m) 13 then pI S fun y S => pI S fun x S => gd (inR (x * y)) (kn (pc + len) L (zI (x * y) :: S) h) else pI S fun y S => pI S fun x S => kn (pc + len) L (zI (zwmul x y) :: S) h
  | .idiv => pI S fun y S => pI S fun x S => gd (0 ≤ (bif Nat.blt (zown m) 13 then x else zpz x y) ∧ 0 < y) (kn (pc + len) L (zI ((bif Nat.blt (zown m) 13 then x else zpz x y) / y) :: S) h)
  | .irem => pI S fun y S => pI S fun x S => gd (0 ≤ x ∧ 0 < y ∨ -2147483648 < x ∧ 0 < y) (kn (pc + len) L (zI (x.tmod y) :: S) h)
  | .iand => pI S fun y S => pI S fun x S => kn (pc + len) L (zI (zand x y) :: S) h
  | .ior => pI S fun y S => pI S fun x S => kn (pc + len) L (zI (zor x y) :: S) h
  | .ixor => pI S fun y S => pI S fun x S => kn (pc + len) L (zI (zxor x y) :: S) h
  | .ishl => pI S fun y S => pI S fun x S => kn (pc + len) L (zI (zshl x y) :: S) h
  | .ishr => pI S fun y S => pI S fun x S => kn (pc + len) L (zI (zshr x y) :: S) h
  | .iushr => pI S fun y S => pI S fun x S => kn (pc + len) L (zI (zushr x y) :: S) h
  | .ladd => pJ S fun y S => pJ S fun x S => kn (pc + len) L (zJ (x + y) :: S) h
  | .lsub => pJ S fun y S => pJ S fun x S => kn (pc + len) L (zJ (x - y) :: S) h
  | .land => pJ S fun y S => pJ S fun x S => kn (pc + len) L (zJ (x &&& y) :: S) h
  | .lor => pJ S fun y S => pJ S fun x S => kn (pc + len) L (zJ (x ||| y) :: S) h
  | .lxor => pJ S fun y S => pJ S fun x S => kn (pc + len) L (zJ (x ^^^ y) :: S) h
  | .lshl => pI S fun y S => pJ S fun x S => kn (pc + len) L (zJ (zlshl x y) :: S) h
  | .lushr => pI S fun y S => pJ S fun x S => kn (pc + len) L (zJ (zlushr x y) :: S) h
  | .ineg => pI S fun x S => kn (pc + len) L (zI (zwneg x) :: S) h
  | .lmul => pJ S fun y S => pJ S fun x S => kn (pc + len) L (zJ (x * y) :: S) h
  | .lneg => pJ S fun x S => kn (pc + len) L (zJ (-x) :: S) h
  | .lcmp => pJ S fun y S => pJ S fun x S => kn (pc + len) L (zI (zlcmp x y) :: S) h
  | .i2l => pI S fun x S => kn (pc + len) L (zJ (zi2l x) :: S) h
  | .l2i => pJ S fun x S => kn (pc + len) L (zI (zl2i x) :: S) h
  | .i2c => pI S fun x S => kn (pc + len) L (zI (zi2c x) :: S) h
  | .i2b => pI S fun x S => kn (pc + len) L (zI (zi2b x) :: S) h
  | .i2f => pI S fun x S => kn (pc + len) L (zF (FP.i2f (Int32.ofInt x)) :: S) h
  | .i2d => pI S fun x S => kn (pc + len) L (zD (FP.i2d (Int32.ofInt x)) :: S) h
  | .f2i => pF S fun x S => kn (pc + len) L (zI (FP.f2i x).toInt :: S) h
  | .f2d => pF S fun x S => gd (zn64 (FP.f2d x) = true) (kn (pc + len) L (zD (FP.f2d x) :: S) h)
  | .d2l => pD S fun x S => kn (pc + len) L (zJ (FP.d2l x).toBitVec :: S) h
  | .fadd => pF S fun y S => pF S fun x S => gd (zn32 (FP.fadd x y) = true) (kn (pc + len) L (zF (FP.fadd x y) :: S) h)
  | .fsub => pF S fun y S => pF S fun x S => gd (zn32 (FP.fsub x y) = true) (kn (pc + len) L (zF (FP.fsub x y) :: S) h)
  | .fmul => pF S fun y S => pF S fun x S => gd (zn32 (FP.fmul x y) = true) (kn (pc + len) L (zF (FP.fmul x y) :: S) h)
  | .fdiv => pF S fun y S => pF S fun x S => gd (zn32 (FP.fdiv x y) = true) (kn (pc + len) L (zF (FP.fdiv x y) :: S) h)
  | .fneg => pF S fun x S => kn (pc + len) L (zF (FP.fneg x) :: S) h
  | .fcmp op => pF S fun y S => pF S fun x S => kn (pc + len) L (zI (Op.cmpValue (FP.fcmp x y) op).toInt :: S) h
  | .dadd => pD S fun y S => pD S fun x S => gd (zn64 (FP.dadd x y) = true) (kn (pc + len) L (zD (FP.dadd x y) :: S) h)
  | .dsub => pD S fun y S => pD S fun x S => gd (zn64 (FP.dsub x y) = true) (kn (pc + len) L (zD (FP.dsub x y) :: S) h)
  | .dmul => pD S fun y S => pD S fun x S => gd (zn64 (FP.dmul x y) = true) (kn (pc + len) L (zD (FP.dmul x y) :: S) h)
  | .ddiv => pD S fun y S => pD S fun x S => gd (zn64 (FP.ddiv x y) = true) (kn (pc + len) L (zD (FP.ddiv x y) :: S) h)
  | .dcmp op => pD S fun y S => pD S fun x S => kn (pc + len) L (zI (Op.cmpValue (FP.dcmp x y) op).toInt :: S) h
  | .ifCond c off => pI S fun x S => zbr c x 0 (kn (ztgt pc off) L S h) (kn (pc + len) L S h)
  | .if_icmp c off => pI S fun y S => pI S fun x S => zbr c x y (kn (ztgt pc off) L S h) (kn (pc + len) L S h)
  | .ifnonnull off => pR S fun r S => if r.isSome = true then kn (ztgt pc off) L S h else kn (pc + len) L S h
  | .goto off => kn (ztgt pc off) L S h
  | .tableswitch d lo hi offs => pI S fun x S => ztab pc x (fun t => kn t L S h) offs.toList lo (kn (ztgt pc d) L S h)
  | .lookupswitch d ps => pI S fun x S => zsw pc d x ps.toList fun t => kn t L S h
  | .ireturn => bif Nat.blt (zown m) 20 then pI S fun x S => gd (S.isEmpty = true ∧ (zrk m = 1 ∨ zrk m = 6 ∧ (x = 0 ∨ x = 1))) (kd (some (zI x)) h) else pI S fun x S => gd (S.isEmpty = true ∧ (zrk m = 1 ∨ zrk m = 6 ∧ (x = 0 ∨ x = 1) ∨ zrk m = 7 ∧ 0 ≤ x ∧ x < 65536 ∨ zrk m = 8 ∧ -128 ≤ x ∧ x < 128)) (kd (some (zI x)) h)
  | .lreturn => pJ S fun x S => gd (S.isEmpty = true ∧ zrk m = 2) (kd (some (zJ x)) h)
  | .freturn => pF S fun x S => gd (S.isEmpty = true ∧ zrk m = 3) (kd (some (zF x)) h)
  | .dreturn => pD S fun x S => gd (S.isEmpty = true ∧ zrk m = 4) (kd (some (zD x)) h)
  | .areturn => pR S fun x S => gd (S.isEmpty = true ∧ zrk m = 5) (kd (some (zR x)) h)
  | .return_ => gd (S.isEmpty = true ∧ zrk m = 0) (kd none h)
  | .getfield n => match zcpF (zown m) n with
    | some f => zget L S h (pc + len) f kn
    | none => none
  | .putfield n => match zcpF (zown m) n with
    | some f => gd (zpfok m f = true) (zset L S h (pc + len) f kn)
    | none => none
  | .getstatic n => match zcpG (zown m) n with
    | some a => bif Nat.beq a 0 then kn (pc + len) L (zI 1 :: S) h else kn (pc + len) L (zR (some a) :: S) h
    | none => none
  | .iaload => pI S fun i S => pR S fun r S => gd (zok h r 22 i) (kn (pc + len) L (zI (hI h (zdr r) i.toNat) :: S) h)
  | .laload => pI S fun i S => pR S fun r S => gd (zok h r 23 i) (kn (pc + len) L (zJ (hJ h (zdr r) i.toNat) :: S) h)
  | .baload => bif !(Nat.beq (zown m) 21) then pI S fun i S => pR S fun r S => gd (zokw h r 21 i ∨ zokw h r 20 i) (kn (pc + len) L (zI (hI h (zdr r) i.toNat) :: S) h) else pI S fun i S => pR S fun r S => gd (zok h r 21 i ∧ zVB ≤ zdr r) (kn (pc + len) L (zI (hI h (zdr r) i.toNat) :: S) h)
  | .aaload => pI S fun i S => pR S fun r S => gd (zokw h r 25 i ∨ zokw h r 26 i ∨ zokw h r 27 i) (kn (pc + len) L (zR (hR h (zdr r) i.toNat) :: S) h)
  | .iastore => pI S fun v S => pI S fun i S => pR S fun r S => gd (zokw h r 22 i) (kn (pc + len) L S (sI h (zdr r) i.toNat v))
  | .lastore => pJ S fun v S => pI S fun i S => pR S fun r S => gd (zokw h r 23 i) (kn (pc + len) L S (sJ h (zdr r) i.toNat v))
  | .bastore => pI S fun v S => pI S fun i S => pR S fun r S => gd (zokw h r 21 i ∨ zokw h r 20 i) (gd (-128 ≤ v ∧ v < 128 ∧ (hT h (zdr r) = 20 → v = 0 ∨ v = 1)) (kn (pc + len) L S (sI h (zdr r) i.toNat v)))
  | .aastore => pR S fun v S => pI S fun i S => pR S fun r S => gd (zokw h r 25 i ∧ zob h v 2 ∨ zokw h r 26 i ∧ zob h v 10) (kn (pc + len) L S (sR h (zdr r) i.toNat v))
  | .checkcast n => match zcpA (zown m) n with
    | some t => pR S fun r S => gd (t = 21 ∧ zob h r 21) (kn (pc + len) L (zR r :: S) h)
    | none => none
  | .arraylength => pR S fun r S => gd (r.isSome = true ∧ 20 ≤ hT h (zdr r) ∧ hT h (zdr r) < 40) (kn (pc + len) L (zI (hL h (zdr r)) :: S) h)
  | .new n => match zcpC (zown m) n with
    | none => none
    | some c => if c < 100 then kn (pc + len) L (zR (some (hN h)) :: S) (hNew h (1 + c) (znf c))
      else match zcode m (pc + 3), zcode m (pc + 4), zcode m (pc + 7) with
        | some (.dup, 1), some (.invokespecial n2, 3), some (.athrow, 1) => if zcpM (zown m) n2 = some (810 + c) ∧ zown m ≠ 13 ∧ zcs S ≤ 8 ∧ zrm m 6 99 = true then kt (c - 100) (hNew h 0 6) else none
        | _, _, _ => none
  | .newarray t => pI S fun n S => gd (0 ≤ n ∧ n < 65536) (match t with
    | .boolean => kn (pc + len) L (zR (some (hN h)) :: S) (hNew h 20 n.toNat)
    | .byte => kn (pc + len) L (zR (some (hN h)) :: S) (hNew h 21 n.toNat)
    | .int => kn (pc + len) L (zR (some (hN h)) :: S) (hNew h 22 n.toNat)
    | .long => kn (pc + len) L (zR (some (hN h)) :: S) (hNew h 23 n.toNat)
    | _ => none)
  | .anewarray n => match zcpA (zown m) n with
    | some t => pI S fun n S => gd (0 ≤ n ∧ n < 65536) (if t = 25 ∨ t = 26 then kn (pc + len) L (zR (some (hN h)) :: S) (hNew h t n.toNat) else none)
    | none => none
  | .multianewarray n 2 => match zcpA (zown m) n with
    | some t => pI S fun k S => pI S fun n S => gd (t = 27 ∧ 0 ≤ n ∧ n < 1024 ∧ 0 ≤ k ∧ k < 65536) (kn (pc + len) L (zR (some (hN h)) :: S)
        ((hN (hNews (hNew h 27 n.toNat) 21 k.toNat n.toNat), hU (hNews (hNew h 27 n.toNat) 21 k.toNat n.toNat), hT (hNews (hNew h 27 n.toNat) 21 k.toNat n.toNat), hL (hNews (hNew h 27 n.toNat) 21 k.toNat n.toNat), zu1 (hR (hNews (hNew h 27 n.toNat) 21 k.toNat n.toNat)) (hN h) (fun j => if j < n.toNat then some (hN h + 1 + j) else none), hI (hNews (hNew h 27 n.toNat) 21 k.toNat n.toNat), hJ (hNews (hNew h 27 n.toNat) 21 k.toNat n.toNat), hF (hNews (hNew h 27 n.toNat) 21 k.toNat n.toNat), hD (hNews (hNew h 27 n.toNat) 21 k.toNat n.toNat)) : zH))
    | none => none
  | .invokevirtual n => match zcpM (zown m) n with
    | some q => if q < 900 then gd (0 < zrecv q) (zinv m L S h (pc + len) q false kn kc) else if q < 906 then gd (q = 904 ∨ q = 905) (zinv m L S h (pc + len) q false kn kc) else gd (q = 908 ∨ q = 909 ∨ q = 920 ∨ q = 921 ∨ q = 931) (zinv m L S h (pc + len) q false kn kc)
    | none => none
  | .invokespecial n => match zcpM (zown m) n with
    | some q => gd (q < 900 ∨ q = 901) (zinv m L S h (pc + len) q true kn kc)
    | none => none
  | .invokestatic n => match zcpM (zown m) n with
    | some q => if q < 900 then gd (zrecv q = 0) (zinv m L S h (pc + len) q false kn kc) else if q < 907 then gd (q = 902 ∨ q = 903 ∨ q = 906) (zinv m L S h (pc + len) q false kn kc) else gd (q = 930 ∨ q = 932) (zinv m L S h (pc + len) q false kn kc)
    | none => none
  | _ => none
noncomputable def zStp (m pc : Nat) (L : zL) (S : List zV) (h : zH) (kn : zKn) (kd : Option zV → zH → zO) (kt : Nat → zH → zO) (kc : zKc) : zO := match zcode m pc with
  | some (i, len) => zExe m pc len i L S h kn kd kt kc
  | none => none
/-- behind a call: an answer goes on the stack; a throw goes to the method's own handler (its first instruction stores the thrown thing, which nothing reads), or on -/
noncomputable def zBack (Y : Nat → Nat → zL → List zV → zH → zO) (m pcc pc : Nat) (L : zL) (S : List zV) (r : zO) : zO := match r with
  | none => none
  | some (.inl none, h) => Y m pc L S h
  | some (.inl (some v), h) => Y m pc L (v :: S) h
  | some (.inr E, h) => match zhnd m pcc E with
    | none => gd (zown m ≠ 13) (some (.inr E, h))
    | some hp => match zcode m hp with
      | some (.astore n, len) => zls (zst1 L n none) fun L => Y m (hp + len) L [] h
      | some (.astore_n n, len) => zls (zst1 L n.val none) fun L => Y m (hp + len) L [] h
      | _ => none
noncomputable def zFun (Y : Nat → Nat → zL → List zV → zH → zO) (m pc : Nat) (L : zL) (S : List zV) (h : zH) : zO :=
  zStp m pc L S h (fun pc L S h => Y m pc L S h) (fun v h => some (.inl v, h)) (fun E h => some (.inr E, h)) (fun q as pc2 L S h => zBack Y m pc pc2 L S (Y q 0 (zini as (zmaxl q)) [] h))
noncomputable def zX : Nat → Nat → Nat → zL → List zV → zH → zO
  | 0 => fun _ _ _ _ _ => none
  | n + 1 => zFun (zX n)
