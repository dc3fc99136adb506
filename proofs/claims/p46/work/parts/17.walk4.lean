/-! One step: objects made, calls, what comes back, ends. -/
section VXIA
variable {p : Program} {l : Launch} {e : Env} {R : Room} {s : State} {m : MethodId} {args : Array Value} {below : List Frame} {meth : Method} {c : Code} {T : State} {locs : List Loc} {cells slots : Nat}
theorem vx_callI (X : Stand p l e R s m args below meth c T locs cells slots) (hexec : p.tables.exec = Jvm.exec) {own : String} {index : Nat} {y : MethodName} {bytes : ByteArray} {maxL : Nat}
    (hown : s.vm.findClass own = some m.cls) (hy1 : y.name = "<init>") (hlink : (Cond.methodLink own index y).before args s = true) (hinst : (Cond.instanceMethod y).before args s = true)
    (hcode : (Cond.code y bytes maxL none).before args s = true) (hy : y.cls ≠ "java/lang/invoke/MethodHandle" ∧ y.cls ≠ "java/lang/invoke/VarHandle")
    {W9 : Nat} {Pre : Pt → Array Value → Prop} {Post : Pt → Array Value → Option Value → Pt → Prop} {PostX : Pt → Array Value → Addr → Pt → Prop} (hK : vx_Back l R p e below s args y 3 W9 Pre Post PostX)
    {g : JFrame} (hg : g.method = m) (hsize : g.locals.size = c.maxLocals) {a : Addr} {argsL rest : List Value} (hlen : ∀ sig, parseMethodDescriptor y.desc = some sig → argsL.length = sig.parameters.length)
    (hstack : g.stack = argsL.reverse ++ .ref a :: rest) (hW : 2 * g.monitorRoom + (rest.map fun v => v.category).sum ≤ W9) (hdg : decode c.code g.pc = .ok (.invokespecial index, 3))
    (hpre : ∀ vm₁, s.WarmedH vm₁ → Pre ⟨T.setVm vm₁, locs, cells, slots⟩ (Value.ref a :: argsL).toArray) :
    (∃ (v : Option Value) (vm₁ : Vm) (B : Pt), s.WarmedH vm₁ ∧ Stand p l e R s m args below meth c B.U B.locs B.cells B.slots ∧ Post ⟨T.setVm vm₁, locs, cells, slots⟩ (Value.ref a :: argsL).toArray v B ∧
      ∀ target, Steps p.tables e below (B.U.setTop { g with pc := g.pc + 3, stack := v.toList ++ rest }) target → Steps p.tables e below (T.setTop g) target) ∨
    (∃ (q : Addr) (vm₁ : Vm) (B : Pt), s.WarmedH vm₁ ∧ Stand p l e R s m args below meth c B.U B.locs B.cells B.slots ∧ PostX ⟨T.setVm vm₁, locs, cells, slots⟩ (Value.ref a :: argsL).toArray q B ∧
      Steps p.tables e below (T.setTop g) ((B.U.setTop { g with stack := rest }).pushFrame (.throwing q))) := by
  subst hg
  have hpl : e.platform.magicAccessors = ({} : Platform).magicAccessors := by rw [X.admits.platform]
  obtain ⟨mk, methM, cM, kP, vm₁, hnamed, hmethM, hcodeM, -, hlocalsM, -, hkP, -, hW₁, hstep₁⟩ := Steps.initColdArgs (e := e) X.here hexec X.warmed hpl hown hy1 hy hlink hinst hcode (f := g) rfl hlen hstack hdg
  have X₁ := X.noted hW₁
  rcases hK g.method meth c ⟨T.setVm vm₁, locs, cells, slots⟩ { g with stack := rest } (.invokespecial index) mk (Value.ref a :: argsL).toArray X₁ rfl hsize hdg hW (X₁.named hnamed) (hpre vm₁ X₁.warmed) with ⟨v, B, X', hpost, hsteps⟩ | ⟨q, B, X', hpost, hsteps⟩
  · exact Or.inl ⟨v, vm₁, B, X₁.warmed, X', hpost, fun target h => hstep₁ _ fun acts => by rw [doInvoke_state]; exact hsteps.trans h⟩
  · exact Or.inr ⟨q, vm₁, B, X₁.warmed, X', hpost, hstep₁ _ fun acts => by rw [doInvoke_state]; exact hsteps⟩
end VXIA
section VXIB
variable {p : Program} {l : Launch} {e : Env} {R : Room} {s : State} {m : MethodId} {args : Array Value} {below : List Frame} {meth : Method} {c : Code} {H : Heap} {locs : List Loc} {cells slots : Nat}
variable {y : MethodName} {bytes cc : ByteArray} {maxL nL mc ms n index : Nat} {ret : Option FieldType} {ws : List Cond} {rm : Room} {Pc : Array Value → State → Prop} {Qc : Array Value → State → Outcome → State → Prop} {XC : String → State → State → Prop} {free : Addr → Prop} {Ts : List Cond} {own C : String} {b : Addr} {As rest : List Value} {g : JFrame}
theorem vx_runI (S : CallFix p m c cc nL s args Ts own) (hM : vx_Met l y ws rm Pc Qc XC mc ms free) (cw : CallB R s args own index y bytes maxL none ws rm mc ms n ∧ y.name = "<init>" ∧ (Cond.instanceMethod y).before args s = true) (hp : PreS s H Pc (.ref b :: As))
    (hg : g.method = m) (hn : As.length = n) (hsize : g.locals.size = nL) (hstack : g.stack = As.reverse ++ .ref b :: rest) (hW : 2 * g.monitorRoom + (rest.map fun v => v.category).sum ≤ 8) (hdg : decode cc g.pc = .ok (.invokespecial index, 3)) (hf : cells + mc ≤ R.cells ∧ slots + ms ≤ R.slots) :
    vx_Run p l e R s m args below meth c H locs cells slots mc ms g rest (Qc (Value.ref b :: As).toArray) XC free := by
  have hK : vx_Back l R p e below s args y 3 8 (PreOf R mc ms Pc) (PostOf Qc mc ms free) (vx_Post XC mc ms free) := vx_callBack cw.1 hM hp.1
  obtain ⟨⟨-, -, -, -, -, -, hcode, -, hy, hlen, hl⟩, hy1, hin⟩ := cw
  obtain ⟨hx, hb, hml, ho, -⟩ := S
  have hPc := hp.2
  intro T hT X
  rcases vx_callI X hx (bytes := bytes) (maxL := maxL) ho hy1 hl hin hcode hy hK hg (hsize.trans hml.symm) (a := b) (argsL := As) (rest := rest) (fun sig h => hn.trans (hlen sig h)) hstack hW (by rw [hb]; exact hdg)
    (fun vm₁ hW₁ => ⟨hf.1, hf.2, hPc (T.setVm vm₁) hT hW₁⟩) with ⟨v, vm₁, ⟨U', l2, c2, s2⟩, hW₁, X', ⟨g', mk, t, L, e1, e2, hq, h1, hL, h2, h3⟩, st⟩ | ⟨q, vm₁, ⟨U', l2, c2, s2⟩, hW₁, X', ⟨g', mk, t, L, E, ce, e1, e2, hq, hce, hcv, hcl, h1, hL, h2, h3⟩, st⟩
  · dsimp only [Pt.U, Pt.locs, Pt.cells, Pt.slots] at X' e1 e2 h1 h2 h3 st
    subst h1; subst h2; subst h3
    exact Or.inl ⟨v, (T.setVm vm₁).calling g' mk (Value.ref b :: As).toArray, t, U', L, hT, X', hL, e1, e2, hq, st⟩
  · dsimp only [Pt.U, Pt.locs, Pt.cells, Pt.slots] at X' e1 e2 h1 h2 h3 st hcl
    subst h1; subst h2; subst h3
    exact Or.inr ⟨q, (T.setVm vm₁).calling g' mk (Value.ref b :: As).toArray, t, U', L, E, ce, hT, X', hL, e1, e2, hq, hce, hcv, vx_cls hW₁ hcl, st⟩
end VXIB
theorem zIn_all : ∀ c, c < 13 → zinP (.initialized (zvn c)) (zpN (zobo c)) := lt_s (lt_s (lt_s (lt_s (lt_s (lt_s (lt_s (lt_s (lt_s (lt_s (lt_s (lt_s (lt_s (lt_0) ⟨rfl, rfl⟩) ⟨rfl, rfl⟩) ⟨rfl, rfl⟩) ⟨rfl, rfl⟩) ⟨rfl, rfl⟩) ⟨rfl, rfl⟩) ⟨rfl, rfl⟩) ⟨rfl, rfl⟩) ⟨rfl, rfl⟩) ⟨rfl, rfl⟩) ⟨rfl, rfl⟩) ⟨rfl, rfl⟩) ⟨rfl, rfl⟩
/-- how an answer comes back: by which instruction -/
def zrOk (q : Nat) (i : Instr) (v : Option zV) : Prop := match i, v with
  | .ireturn, some (.inl x) => zrk q = 1 ∨ zrk q = 6 ∧ (x = 0 ∨ x = 1) ∨ zrk q = 7 ∧ 0 ≤ x ∧ x < 65536 ∨ zrk q = 8 ∧ -128 ≤ x ∧ x < 128
  | .lreturn, some (.inr (.inl _)) => zrk q = 2
  | .freturn, some (.inr (.inr (.inl _))) => zrk q = 3
  | .dreturn, some (.inr (.inr (.inr (.inl _)))) => zrk q = 4
  | .areturn, some (.inr (.inr (.inr (.inr _)))) => zrk q = 5
  | .return_, none => zrk q = 0
  | _, _ => False
def zRt (p : Program) (l : Launch) (e : Env) (R : Room) (s : State) (m : MethodId) (args : Array Value) (below : List Frame) (meth : Method) (c : Code) (Q : State → Prop) (q : Nat) (r : (Option zV ⊕ Nat) × zH) (base n0 u0 : Nat) (adr : Nat → Nat) (dC : Nat → ClassId) (dI : Nat → Nat → Nat) (cA : Nat → ClassId) (L0 : Nat) (xs : Nat → Int32) : Prop :=
  ∀ (pc : Nat) (i : Instr) (v : Option zV) (L : zL) (h : zH) (H : Heap) (locs : List Loc) (cells slots : Nat) (ls : Array Slot), r = (.inl v, h) → zAt s q base n0 u0 adr dC dI cA L0 xs H locs cells slots ls L v.toList h → decode (zbytes q) pc = .ok (i, 1) → zrOk q i v → W p l e R s m args below meth c H locs cells slots Q (F0 m pc ls (v.toList.map (zenc (zrho base adr))))
def zTh (p : Program) (l : Launch) (e : Env) (R : Room) (s : State) (m : MethodId) (args : Array Value) (below : List Frame) (meth : Method) (c : Code) (Q : State → Prop) (q : Nat) (r : (Option zV ⊕ Nat) × zH) (base n0 u0 : Nat) (adr : Nat → Nat) (dC : Nat → ClassId) (dI : Nat → Nat → Nat) (cA : Nat → ClassId) (L0 : Nat) (xs : Nat → Int32) : Prop :=
  ∀ (pc k c9 n2 : Nat) (L : zL) (S : List zV) (h : zH) (H : Heap) (locs : List Loc) (cells slots : Nat) (ls : Array Slot), r = (.inr (c9 - 100), hNew h 0 6) → zAt s q base n0 u0 adr dC dI cA L0 xs H locs cells slots ls L S h → zcpC (zown q) k = some c9 → ¬ c9 < 100 → zcpM (zown q) n2 = some (810 + c9) → zown q ≠ 13 → (zcs S ≤ 8 ∧ zrm q 6 99 = true) →
    decode (zbytes q) pc = .ok (.new k, 3) → decode (zbytes q) (pc + 3) = .ok (.dup, 1) → decode (zbytes q) (pc + 4) = .ok (.invokespecial n2, 3) → decode (zbytes q) (pc + 7) = .ok (.athrow, 1) → W p l e R s m args below meth c H locs cells slots Q (F0 m pc ls (S.map (zenc (zrho base adr))))
section ZW
variable {p : Program} {l : Launch} {e : Env} {R : Room} {s : State} {m : MethodId} {args : Array Value} {below : List Frame} {meth : Method} {c : Code} {Q : State → Prop}
variable {q n : Nat} {r : (Option zV ⊕ Nat) × zH} {base n0 u0 : Nat} {adr adV : Nat → Nat} {dC : Nat → ClassId} {dI : Nat → Nat → Nat} {cA : Nat → ClassId} {L0 : Nat} {xs : Nat → Int32}
variable {pc len : Nat} {L : zL} {S : List zV} {h : zH} {H : Heap} {locs : List Loc} {cells slots : Nat} {ls : Array Slot}
theorem zw_ireturn (hret : zRt p l e R s m args below meth c Q q r base n0 u0 adr dC dI cA L0 xs) (C : zCtx p l R s m args meth c q base adr adV dC dI cA L0 xs) (K : zWk p l e R s m args below meth c Q q n r base n0 u0 adr dC dI cA L0 xs) (hd : decode (zbytes q) pc = .ok (.ireturn, len)) (hn : zilen (.ireturn) = 0 ∨ len = zilen (.ireturn)) (A : zAt s q base n0 u0 adr dC dI cA L0 xs H locs cells slots ls L S h)
    (hr : zExe q pc len (.ireturn) L S h (fun pc L S h => zX n q pc L S h) (fun v h => some (.inl v, h)) (fun E h => some (.inr E, h)) (fun k as pc2 L S h => zBack (zX n) q pc pc2 L S (zX n k 0 (zini as (zmaxl k)) [] h)) = some r) : W p l e R s m args below meth c H locs cells slots Q (F0 m pc ls (S.map (zenc (zrho base adr)))) := by
  obtain ⟨hx, hb, hml, hown, hts, hK, hSt, hin, ⟨hrf, hrl⟩, hl, hexc, hlk⟩ := id C
  obtain ⟨a1, a2, a3, a4, a5, a6, a7, a8⟩ := id A
  obtain rfl : len = 1 := hn.resolve_left (by simp [zilen])
  simp only [zExe] at hr
  cases hb9 : Nat.blt (zown q) 20 with
  | true =>
    simp only [hb9, cond_true] at hr
    obtain ⟨x, S0, rfl, hr1⟩ := pI_some hr
    obtain ⟨⟨g1, g2⟩, hr2⟩ := gd_some hr1
    obtain rfl : S0 = [] := List.isEmpty_iff.mp g1
    exact hret pc .ireturn (some (zI x)) L h H locs cells slots ls (Option.some.inj hr2).symm A hd (g2.imp id Or.inl)
  | false =>
    simp only [hb9, cond_false] at hr
    obtain ⟨x, S0, rfl, hr1⟩ := pI_some hr
    obtain ⟨⟨g1, g2⟩, hr2⟩ := gd_some hr1
    obtain rfl : S0 = [] := List.isEmpty_iff.mp g1
    exact hret pc .ireturn (some (zI x)) L h H locs cells slots ls (Option.some.inj hr2).symm A hd g2
theorem zw_lreturn (hret : zRt p l e R s m args below meth c Q q r base n0 u0 adr dC dI cA L0 xs) (C : zCtx p l R s m args meth c q base adr adV dC dI cA L0 xs) (K : zWk p l e R s m args below meth c Q q n r base n0 u0 adr dC dI cA L0 xs) (hd : decode (zbytes q) pc = .ok (.lreturn, len)) (hn : zilen (.lreturn) = 0 ∨ len = zilen (.lreturn)) (A : zAt s q base n0 u0 adr dC dI cA L0 xs H locs cells slots ls L S h)
    (hr : zExe q pc len (.lreturn) L S h (fun pc L S h => zX n q pc L S h) (fun v h => some (.inl v, h)) (fun E h => some (.inr E, h)) (fun k as pc2 L S h => zBack (zX n) q pc pc2 L S (zX n k 0 (zini as (zmaxl k)) [] h)) = some r) : W p l e R s m args below meth c H locs cells slots Q (F0 m pc ls (S.map (zenc (zrho base adr)))) := by
  obtain ⟨hx, hb, hml, hown, hts, hK, hSt, hin, ⟨hrf, hrl⟩, hl, hexc, hlk⟩ := id C
  obtain ⟨a1, a2, a3, a4, a5, a6, a7, a8⟩ := id A
  obtain rfl : len = 1 := hn.resolve_left (by simp [zilen])
  simp only [zExe] at hr
  obtain ⟨x, S0, rfl, hr1⟩ := pJ_some hr
  obtain ⟨⟨g1, g2⟩, hr2⟩ := gd_some hr1
  obtain rfl : S0 = [] := List.isEmpty_iff.mp g1
  exact hret pc .lreturn (some (zJ x)) L h H locs cells slots ls (Option.some.inj hr2).symm A hd g2
theorem zw_freturn (hret : zRt p l e R s m args below meth c Q q r base n0 u0 adr dC dI cA L0 xs) (C : zCtx p l R s m args meth c q base adr adV dC dI cA L0 xs) (K : zWk p l e R s m args below meth c Q q n r base n0 u0 adr dC dI cA L0 xs) (hd : decode (zbytes q) pc = .ok (.freturn, len)) (hn : zilen (.freturn) = 0 ∨ len = zilen (.freturn)) (A : zAt s q base n0 u0 adr dC dI cA L0 xs H locs cells slots ls L S h)
    (hr : zExe q pc len (.freturn) L S h (fun pc L S h => zX n q pc L S h) (fun v h => some (.inl v, h)) (fun E h => some (.inr E, h)) (fun k as pc2 L S h => zBack (zX n) q pc pc2 L S (zX n k 0 (zini as (zmaxl k)) [] h)) = some r) : W p l e R s m args below meth c H locs cells slots Q (F0 m pc ls (S.map (zenc (zrho base adr)))) := by
  obtain ⟨hx, hb, hml, hown, hts, hK, hSt, hin, ⟨hrf, hrl⟩, hl, hexc, hlk⟩ := id C
  obtain ⟨a1, a2, a3, a4, a5, a6, a7, a8⟩ := id A
  obtain rfl : len = 1 := hn.resolve_left (by simp [zilen])
  simp only [zExe] at hr
  obtain ⟨x, S0, rfl, hr1⟩ := pF_some hr
  obtain ⟨⟨g1, g2⟩, hr2⟩ := gd_some hr1
  obtain rfl : S0 = [] := List.isEmpty_iff.mp g1
  exact hret pc .freturn (some (zF x)) L h H locs cells slots ls (Option.some.inj hr2).symm A hd g2
theorem zw_dreturn (hret : zRt p l e R s m args below meth c Q q r base n0 u0 adr dC dI cA L0 xs) (C : zCtx p l R s m args meth c q base adr adV dC dI cA L0 xs) (K : zWk p l e R s m args below meth c Q q n r base n0 u0 adr dC dI cA L0 xs) (hd : decode (zbytes q) pc = .ok (.dreturn, len)) (hn : zilen (.dreturn) = 0 ∨ len = zilen (.dreturn)) (A : zAt s q base n0 u0 adr dC dI cA L0 xs H locs cells slots ls L S h)
    (hr : zExe q pc len (.dreturn) L S h (fun pc L S h => zX n q pc L S h) (fun v h => some (.inl v, h)) (fun E h => some (.inr E, h)) (fun k as pc2 L S h => zBack (zX n) q pc pc2 L S (zX n k 0 (zini as (zmaxl k)) [] h)) = some r) : W p l e R s m args below meth c H locs cells slots Q (F0 m pc ls (S.map (zenc (zrho base adr)))) := by
  obtain ⟨hx, hb, hml, hown, hts, hK, hSt, hin, ⟨hrf, hrl⟩, hl, hexc, hlk⟩ := id C
  obtain ⟨a1, a2, a3, a4, a5, a6, a7, a8⟩ := id A
  obtain rfl : len = 1 := hn.resolve_left (by simp [zilen])
  simp only [zExe] at hr
  obtain ⟨x, S0, rfl, hr1⟩ := pD_some hr
  obtain ⟨⟨g1, g2⟩, hr2⟩ := gd_some hr1
  obtain rfl : S0 = [] := List.isEmpty_iff.mp g1
  exact hret pc .dreturn (some (zD x)) L h H locs cells slots ls (Option.some.inj hr2).symm A hd g2
theorem zw_areturn (hret : zRt p l e R s m args below meth c Q q r base n0 u0 adr dC dI cA L0 xs) (C : zCtx p l R s m args meth c q base adr adV dC dI cA L0 xs) (K : zWk p l e R s m args below meth c Q q n r base n0 u0 adr dC dI cA L0 xs) (hd : decode (zbytes q) pc = .ok (.areturn, len)) (hn : zilen (.areturn) = 0 ∨ len = zilen (.areturn)) (A : zAt s q base n0 u0 adr dC dI cA L0 xs H locs cells slots ls L S h)
    (hr : zExe q pc len (.areturn) L S h (fun pc L S h => zX n q pc L S h) (fun v h => some (.inl v, h)) (fun E h => some (.inr E, h)) (fun k as pc2 L S h => zBack (zX n) q pc pc2 L S (zX n k 0 (zini as (zmaxl k)) [] h)) = some r) : W p l e R s m args below meth c H locs cells slots Q (F0 m pc ls (S.map (zenc (zrho base adr)))) := by
  obtain ⟨hx, hb, hml, hown, hts, hK, hSt, hin, ⟨hrf, hrl⟩, hl, hexc, hlk⟩ := id C
  obtain ⟨a1, a2, a3, a4, a5, a6, a7, a8⟩ := id A
  obtain rfl : len = 1 := hn.resolve_left (by simp [zilen])
  simp only [zExe] at hr
  obtain ⟨x, S0, rfl, hr1⟩ := pR_some hr
  obtain ⟨⟨g1, g2⟩, hr2⟩ := gd_some hr1
  obtain rfl : S0 = [] := List.isEmpty_iff.mp g1
  exact hret pc .areturn (some (zR x)) L h H locs cells slots ls (Option.some.inj hr2).symm A hd g2
theorem zw_return_ (hret : zRt p l e R s m args below meth c Q q r base n0 u0 adr dC dI cA L0 xs) (C : zCtx p l R s m args meth c q base adr adV dC dI cA L0 xs) (K : zWk p l e R s m args below meth c Q q n r base n0 u0 adr dC dI cA L0 xs) (hd : decode (zbytes q) pc = .ok (.return_, len)) (hn : zilen (.return_) = 0 ∨ len = zilen (.return_)) (A : zAt s q base n0 u0 adr dC dI cA L0 xs H locs cells slots ls L S h)
    (hr : zExe q pc len (.return_) L S h (fun pc L S h => zX n q pc L S h) (fun v h => some (.inl v, h)) (fun E h => some (.inr E, h)) (fun k as pc2 L S h => zBack (zX n) q pc pc2 L S (zX n k 0 (zini as (zmaxl k)) [] h)) = some r) : W p l e R s m args below meth c H locs cells slots Q (F0 m pc ls (S.map (zenc (zrho base adr)))) := by
  obtain ⟨hx, hb, hml, hown, hts, hK, hSt, hin, ⟨hrf, hrl⟩, hl, hexc, hlk⟩ := id C
  obtain ⟨a1, a2, a3, a4, a5, a6, a7, a8⟩ := id A
  obtain rfl : len = 1 := hn.resolve_left (by simp [zilen])
  simp only [zExe] at hr
  obtain ⟨⟨g1, g2⟩, hr1⟩ := gd_some hr
  obtain rfl : S = [] := List.isEmpty_iff.mp g1
  exact hret pc .return_ none L h H locs cells slots ls (Option.some.inj hr1).symm A hd g2
theorem zw_new {k : Nat} (hroom : zRoom R r n0 u0) (hthr : zTh p l e R s m args below meth c Q q r base n0 u0 adr dC dI cA L0 xs) (C : zCtx p l R s m args meth c q base adr adV dC dI cA L0 xs) (K : zWk p l e R s m args below meth c Q q n r base n0 u0 adr dC dI cA L0 xs) (hd : decode (zbytes q) pc = .ok (.new k, len)) (hn : zilen (.new k) = 0 ∨ len = zilen (.new k)) (A : zAt s q base n0 u0 adr dC dI cA L0 xs H locs cells slots ls L S h)
    (hr : zExe q pc len (.new k) L S h (fun pc L S h => zX n q pc L S h) (fun v h => some (.inl v, h)) (fun E h => some (.inr E, h)) (fun k as pc2 L S h => zBack (zX n) q pc pc2 L S (zX n k 0 (zini as (zmaxl k)) [] h)) = some r) : W p l e R s m args below meth c H locs cells slots Q (F0 m pc ls (S.map (zenc (zrho base adr)))) := by
  obtain ⟨hx, hb, hml, hown, hts, hK, hSt, hin, ⟨hrf, hrl⟩, hl, hexc, hlk⟩ := id C
  obtain ⟨a1, a2, a3, a4, a5, a6, a7, a8⟩ := id A
  obtain rfl : len = 3 := hn.resolve_left (by simp [zilen])
  simp only [zExe] at hr
  split at hr
  · cases hr
  rename_i c9 hc9
  obtain ⟨lk, lc⟩ := lkC _ _ _ hc9
  rcases zif_some hr with ⟨hlt, hr1⟩ | ⟨hlt, hr1⟩
  · have hc : c9 < 13 := by omega
    have lk1 : zinP (.classLink (zcn (zown q)) k (zvn c9)) (zplC (zown q) k) := by
      rw [show Nat.blt c9 100 = true from Nat.ble_eq.mpr hlt] at lk
      exact lk
    obtain ⟨rm1, rm2, rm3⟩ := hroom
    have hsz : H.size = base + hN h := a1.1
    have hrho : zrho base adr (hN h) = H.size := by rw [zrho_lt a1.2.1, hsz]
    have mo := zX_mo _ _ _ _ _ _ _ hr1
    have mo1 : hN h + 1 ≤ hN r.2 := mo.1
    have mo2 : hU h + znf c9 ≤ hU r.2 := mo.2
    obtain ⟨hUf, hnm, hob⟩ := zU_all _ hc
    obtain ⟨hS, hfc, kC0, hkC0, hkind⟩ := id (hK.1 _ hc)
    have hi9 := zV_all _ hc
    have hn9 := zIn_all _ hc
    refine W.newcK hx hb hown (hts _ (zin_ok lk1) lk1.2) (hts _ (zin_ok hi9) hi9.2) (hts _ (zin_ok hn9) hn9.2) rfl hd (by omega) (by omega) hfc rfl (fun H9 kC e1 e2 e3 e4 => ?_)
    have hob9 := u_born (ws := lw_good) (fun k9 => zFT c9 k9) (fun w hw => hts w (List.mem_filter.mp hw).1 (List.mem_filter.mp hw).2) (fun w hw => lw_good_in (zUin hc w hw)) (hK.1 _ hc) e1 e2 (fun k9 hk9 => (hUf k9 hk9).2.2.2.1)
    have g := K _ L (zR (some (hN h)) :: S) _ H9 locs (cells + 1) (slots + znf c9) ls hr1 ⟨zRep.alloc a1 e3 e4 (by omega) ⟨fun x y => ?_, fun x y => by rw [hNew_T0.1] at x; omega, Or.inl (by rw [hNew_T0.1]; omega)⟩, ⟨by rw [e3]; exact Nat.le_succ_of_le a2.1, fun q9 h1 h2 => (e4 q9 (Nat.lt_of_lt_of_le h1 a2.1)).trans (a2.2.1 q9 h1 h2), a2.2.2⟩, a3, a4, a5, a6.cons trivial, by show cells + 1 + n0 = hN h + 1; omega, by show slots + znf c9 + u0 = hU h + znf c9; omega⟩
    · rw [List.map_cons, show zenc (zrho base adr) (zR (some (hN h))) = .ref H.size by rw [zenc_R rfl, show zdr (some (hN h)) = hN h from rfl, hrho]] at g
      exact g
    · rw [hNew_T0.1, show 1 + c9 - 1 = c9 by omega, hrho]
      refine t_OB.to hob9 (fun k9 hk9 => ?_)
      have h4 := (hUf k9 hk9).2.2.2.2
      unfold zfv
      split
      · rename_i e9; rw [e9] at h4; rw [show zFT c9 k9 = .int from h4, zNewI]; rfl
      · rename_i e9; rw [e9] at h4; rw [show zFT c9 k9 = .boolean from h4, zNewI]; rfl
      · rename_i e9; rw [e9] at h4; rw [show zFT c9 k9 = .long from h4, zNewJ]; rfl
      · rename_i e9; rw [e9] at h4; rw [show zFT c9 k9 = .float from h4, zNewF]; rfl
      · rename_i e9; rw [e9] at h4; rw [show zFT c9 k9 = .double from h4, zNewD]; rfl
      · rename_i e9; rw [e9] at h4; rw [show zFT c9 k9 = .byte from h4, zNewI]; rfl
      · rename_i d0 d1 d2 d3 d4 d6
        rw [zNewR]
        have h5 : (∃ C, zFT c9 k9 = .object C) ∨ ∃ t2, zFT c9 k9 = .array t2 := by
          unfold zftm at h4
          split at h4
          · rename_i e9; exact absurd e9 d0
          · rename_i e9; exact absurd e9 d1
          · rename_i e9; exact absurd e9 d2
          · rename_i e9; exact absurd e9 d3
          · rename_i e9; exact absurd e9 d4
          · rename_i e9; exact absurd e9 d6
          · exact h4
        rcases h5 with ⟨C5, h5⟩ | ⟨C5, h5⟩ <;> rw [h5] <;> rfl
  · split at hr1
    · rename_i z3 z4 z7
      rcases zif_some hr1 with ⟨⟨w1, w2, w3⟩, hr2⟩ | ⟨-, hr2⟩
      · exact hthr pc k c9 _ L S h H locs cells slots ls (Option.some.inj hr2).symm A hc9 hlt w1 w2 w3 hd (zdec _ _ _ z3).1 (zdec _ _ _ z4).1 (zdec _ _ _ z7).1
      · cases hr2
    · cases hr1
theorem zw_anewarray {k : Nat} (hroom : zRoom R r n0 u0) (C : zCtx p l R s m args meth c q base adr adV dC dI cA L0 xs) (K : zWk p l e R s m args below meth c Q q n r base n0 u0 adr dC dI cA L0 xs) (hd : decode (zbytes q) pc = .ok (.anewarray k, len)) (hn : zilen (.anewarray k) = 0 ∨ len = zilen (.anewarray k)) (A : zAt s q base n0 u0 adr dC dI cA L0 xs H locs cells slots ls L S h)
    (hr : zExe q pc len (.anewarray k) L S h (fun pc L S h => zX n q pc L S h) (fun v h => some (.inl v, h)) (fun E h => some (.inr E, h)) (fun k as pc2 L S h => zBack (zX n) q pc pc2 L S (zX n k 0 (zini as (zmaxl k)) [] h)) = some r) : W p l e R s m args below meth c H locs cells slots Q (F0 m pc ls (S.map (zenc (zrho base adr)))) := by
  obtain ⟨hx, hb, hml, hown, hts, hK, hSt, hin, ⟨hrf, hrl⟩, hl, hexc, hlk⟩ := id C
  obtain ⟨a1, a2, a3, a4, a5, a6, a7, a8⟩ := id A
  obtain rfl : len = 3 := hn.resolve_left (by simp [zilen])
  simp only [zExe] at hr
  split at hr
  · rename_i t9 ht9
    obtain ⟨lk, lt⟩ := lkA _ _ _ ht9
    obtain ⟨x, S0, rfl, hr1⟩ := pI_some hr
    obtain ⟨⟨g1, g2⟩, hr2⟩ := gd_some hr1
    rcases zif_some hr2 with ⟨hlt, hr3⟩ | ⟨hlt, hr3⟩
    · have hk1 : inR x := a6.hd
      obtain ⟨rm1, rm2, rm3⟩ := hroom
      have hsz : H.size = base + hN h := a1.1
      have hrho : zrho base adr (hN h) = H.size := by rw [zrho_lt a1.2.1, hsz]
      have mo := zX_mo _ _ _ _ _ _ _ hr3
      have mo1 : hN h + 1 ≤ hN r.2 := mo.1
      have mo2 : hU h + x.toNat ≤ hU r.2 := mo.2
      have hcl := zi_cl hk1 g1
      have main : ∀ C : String, zaty t9 = .object C → zanm t9 = C → va_AO C s → W p l e R s m args below meth c H locs cells slots Q (F0 m pc ls ((zI x :: S0).map (zenc (zrho base adr)))) := by
        intro C hty hnm hao
        have hra := (hK.2 t9 (by omega) (by omega)).2
        rw [hty] at hra
        obtain ⟨kA0, comp0, k1, k2, k3, k4⟩ := hra
        rw [hnm] at lk
        refine W.anew hx hb hown (hts _ (zin_ok lk) lk.2) (va_AO.use hao) rfl hd rfl (by rw [← zi_0, zi_lt hk1 (by decide)]; omega) (by rw [hcl]; omega) (by omega) (by rw [hcl]; omega) (fun cA9 kA comp f1 f2 f3 f4 => ?_)
        have hcA : cA9 = cA t9 := Option.some.inj (f1.symm.trans k4)
        subst hcA
        rw [hcl, arrV_new]
        have g := K _ L (zR (some (hN h)) :: S0) _ (H.push (arrV (cA t9) x.toNat fun _ => .null)) locs (cells + 1) (slots + x.toNat) ls hr3 ⟨zRep.alloc a1 (by rw [Array.size_push]) (fun q9 hq9 => by rw [Array.getElem?_push, if_neg (by omega)]) (by omega) ⟨fun x y => by rw [hNew_T0.1] at x y; omega, fun x y => ⟨by rw [hNew_T0.1, hNew_T0.2, hrho, Array.getElem?_push, if_pos rfl]; exact congrArg some (congrArg (arrV _ _) (funext fun j => by rcases hlt with rfl | rfl <;> simp only [zev, zNewR] <;> rfl)), by rw [hNew_T0.2]; omega, fun _ j => by rw [zNewI]; decide⟩, Or.inr (by rw [hNew_T0.1]; omega)⟩, ⟨by rw [Array.size_push]; exact Nat.le_succ_of_le a2.1, fun q9 h1 h2 => by rw [Array.getElem?_push, if_neg (by have := a2.1; omega)]; exact a2.2.1 q9 h1 h2, a2.2.2⟩, a3, a4, a5, a6.tl.cons trivial, by show cells + 1 + n0 = hN h + 1; omega, by show slots + x.toNat + u0 = hU h + x.toNat; omega⟩
        rw [List.map_cons, show zenc (zrho base adr) (zR (some (hN h))) = .ref H.size by rw [zenc_R rfl, show zdr (some (hN h)) = hN h from rfl, hrho]] at g
        exact g
      rcases hlt with rfl | rfl
      · exact main _ rfl rfl hSt.2.2.2.2.2.2.2.2.1
      · exact main _ rfl rfl hSt.2.2.2.2.2.2.2.2.2.1
    · cases hr3
  · cases hr
end ZW
