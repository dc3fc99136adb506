/-! Methods of Java's own library that are taken as one step: their contracts. -/
abbrev yLen : MethodName := ⟨"java/lang/String", "length", "()I"⟩
abbrev yCod : MethodName := ⟨"java/lang/String", "coder", "()B"⟩
abbrev yChr : MethodName := ⟨"java/lang/String", "charAt", "(I)C"⟩
abbrev yLat : MethodName := ⟨"java/lang/String", "isLatin1", "()Z"⟩
abbrev yL1 : MethodName := ⟨"java/lang/StringLatin1", "charAt", "([BI)C"⟩
abbrev yChk : MethodName := ⟨"java/lang/String", "checkIndex", "(II)V"⟩
abbrev yPre : MethodName := ⟨"jdk/internal/util/Preconditions", "checkIndex", "(IILjava/util/function/BiFunction;)I"⟩
def jPc (As : List Value) (base : Nat) (adr adV : Nat → Nat) (L0 : Nat) (xs : Nat → Int32) : Array Value → State → Prop := fun a U => a = As.toArray ∧ zSt base adr adV L0 xs U U.heap
def jQc (v : Option Value) : Array Value → State → Outcome → State → Prop := fun _ st o t => o = .returned v ∧ t.heap = st.heap
def jX : String → State → State → Prop := fun _ _ _ => False
def jF : Addr → Prop := fun _ => False
abbrev jRm (f n : Nat) : Room := { frames := f, cells := 0, slots := 0, locals := n }
def jMet (l : Launch) (y : MethodName) (f n : Nat) (As : List Value) (v : Option Value) (base : Nat) (adr adV : Nat → Nat) (L0 : Nat) (xs : Nat → Int32) : Prop := vx_Met l y lw_good (jRm f n) (jPc As base adr adV L0 xs) (jQc v) jX 0 0 jF
section JW
variable {p : Program} {l : Launch} {e : Env} {R : Room} {s : State} {m : MethodId} {args : Array Value} {below : List Frame} {meth : Method} {c : Code} {Q : State → Prop}
variable {base : Nat} {adr adV : Nat → Nat} {L0 : Nat} {xs : Nat → Int32} {H : Heap} {locs : List Loc} {cells slots : Nat} {ls : Array Slot} {pc : Nat} {rest : List Value} {cc : ByteArray}
theorem jPc_blind {As : List Value} : FrameBlind (jPc As base adr adV L0 xs) := fun a U g mk q => ⟨q.1, zSt.warm (s := U) (U := U.calling g mk a) (State.WarmedH.refl U) q.2⟩
theorem lw_w {w : Cond} {k : Nat} (z : zinP w k) (ht : ∀ w ∈ lw_good, w.before args s = true) : w.before args s = true := ht _ (lw_good_in ⟨zin_ok z, z.2⟩)
theorem lw_gd : ∀ w ∈ lw_good, (∀ w ∈ lw_good, w.before args s = true) → ∀ (a' : Array Value) (U : State), s.WarmedH U.vm → w.before a' U = true := fun w hw ht a' U hW => word_at hW (good_of_word (List.mem_filter.mp hw).2) (ht w hw)
theorem vx_ofJ {y : MethodName} {ws : List Cond} {rm : Room} {Pc : Array Value → State → Prop} {Qc : Array Value → State → Outcome → State → Prop} {XC : String → State → State → Prop} {mc ms : Nat} {free : Addr → Prop} {maxL : Nat} {ret : Option FieldType}
    (hy : plainFor y = true)
    (his : ∀ (args : Array Value) (s : State) (m : MethodId), (headSpec ws rm).pre.before args s = true → s.methodNamed? y = some m → ∃ meth c, s.vm.method? m = some meth ∧ meth.code = some c ∧ c.code = cc ∧ c.maxLocals = maxL ∧ meth.sig.returnType = ret ∧ meth.locks = false)
    (body : ∀ p e s m args below meth c s₁, BodyLoose p l y (headSpec ws rm) cc maxL ret e s m args below meth c s₁ → c.maxLocals = maxL → Pc args s →
      W p l e rm s m args below meth c s.heap [] 0 0 (vx_MQ below Qc XC args s mc ms free) (entryFrame m args maxL)) : vx_Met l y ws rm Pc Qc XC mc ms free := by
  refine MetFree.of_bodySF (code := cc) (maxLocals := maxL) (ret := ret) hy his ?_
  intro p e s m args below meth c s₁ B hml hP _
  have hh0 : s₁.heap = s.heap := by rw [B.state]; rfl
  obtain ⟨t, a1, o, b1, b2, b3⟩ := body p e s m args below meth c s₁ B hml hP s₁ hh0 (Stand.of_body B)
  exact ⟨t, o, a1, b1, b2, b3⟩
/-- a body's frame -/
theorem j_of {y : MethodName} {maxL f n : Nat} {ret : Option FieldType} {As : List Value} {v : Option Value} (hy : plainFor y = true) {kc : Nat} (hw : zinP (Cond.code y cc maxL ret) kc)
    (body : ∀ (p : Program) (e : Env) (s : State) (m : MethodId) (below : List Frame) (meth : Method) (c : Code), p.tables.exec = Jvm.exec → c.code = cc → c.maxLocals = maxL → s.vm.findClass y.cls = some m.cls → (∀ w ∈ lw_good, w.before As.toArray s = true) → zSt base adr adV L0 xs s s.heap → meth.locks = false → meth.sig.returnType = ret →
      W p l e (jRm f n) s m As.toArray below meth c s.heap [] 0 0 (vx_MQ below (jQc v) jX As.toArray s 0 0 jF) (F0 m 0 ((lg_sl As ++ List.replicate (maxL - (lg_sl As).length) Slot.unset).toArray) [])) : jMet l y f n As v base adr adV L0 xs := by
  refine vx_ofJ (cc := cc) (maxL := maxL) (ret := ret) hy (fun args s m h hn => ?_) ?_
  · obtain ⟨meth, c, h1, h2, h3, h4, h5, h6, -, -⟩ := Cond.code_spec hn (atoms_spec (ws := lw_good) h _ (lw_good_in ⟨zin_ok hw, hw.2⟩))
    exact ⟨meth, c, h1, h2, h3, h4, h5, h6⟩
  · intro p e s m args below meth c s₁ B hml hP
    obtain ⟨rfl, hS⟩ := hP
    rw [lg_entry_eq]
    exact body p e s m below meth c B.exec B.bytes hml (findClass_of_methodNamed B.named) (atoms_spec (ws := lw_good) B.pre) hS B.notSynchronized B.returns
theorem j_after {v : Option Value} {a9 : Array Value} {st0 : List Value} (hrun : vx_Run p l e R s m args below meth c H locs cells slots 0 0 (F0 m pc ls st0) rest (jQc v a9) jX jF) (k : W p l e R s m args below meth c H locs cells slots Q (F0 m (pc + 3) ls (v.toList ++ rest))) : W p l e R s m args below meth c H locs cells slots Q (F0 m pc ls st0) := by
  intro T hT X
  rcases hrun T hT X with ⟨v2, st₀, t, T', L9, h0, X', hL, e1, e2, ⟨q1, q2⟩, st⟩ | ⟨q9, st₀, t, T', L9, E, ce, h0, X', hL, e1, e2, q, _⟩
  · have hn : L9 = [] := by
      cases L9 with
      | nil => rfl
      | cons x xs => exact absurd (hL x (List.mem_cons_self ..)) id
    subst hn
    rw [List.append_nil] at X'
    cases q1
    obtain ⟨t2, b1, b2⟩ := k T' (by rw [e1, q2, h0]) X'
    exact ⟨t2, st t2 b1, b2⟩
  · exact absurd q id
theorem j_S {y : MethodName} {own : String} {index maxL nL f n : Nat} {bytes : ByteArray} {ret : Option FieldType} {As : List Value} {v : Option Value} {kc ki kl ks : Nat} (hM : jMet l y f n As v base adr adV L0 xs)
    (hx : p.tables.exec = Jvm.exec) (hb : c.code = cc) (hml : c.maxLocals = nL) (hls : ls.size = nL) (hown : s.vm.findClass own = some m.cls) (ht : ∀ w ∈ lw_good, w.before args s = true) (hS : zSt base adr adV L0 xs s s.heap) (hSt : va_S (zA base) s.heap H locs)
    (wc : zinP (Cond.code y bytes maxL ret) kc) (wi : zinP (Cond.initialized y.cls) ki) (wl : zinP (Cond.methodLink own index y) kl) (ws : zinP (Cond.static y) ks)
    (hy : y.cls ≠ "java/lang/invoke/MethodHandle" ∧ y.cls ≠ "java/lang/invoke/VarHandle") {na : Nat} (hlen : (parseMethodDescriptor y.desc).map (fun d => d.parameters.length) = some na) (hna : As.length = na)
    (hR : f + 1 ≤ R.frames ∧ 8 + (maxL + 11) + n ≤ R.locals) (hC : cells ≤ R.cells ∧ slots ≤ R.slots) (hw : (rest.map fun v => v.category).sum ≤ 8) (hdg : decode cc pc = .ok (.invokestatic index, 3))
    (k : W p l e R s m args below meth c H locs cells slots Q (F0 m (pc + 3) ls (v.toList ++ rest))) : W p l e R s m args below meth c H locs cells slots Q (F0 m pc ls (As.reverse ++ rest)) := by
  refine j_after (a9 := As.toArray) ?_ k
  refine vx_runS (n := As.length) (As := As) ⟨hx, hb, hml, hown, ht⟩ hM ⟨⟨rfl, rfl, hR.1, hR.2, fun w h => lw_gd w h ht, lw_good_in ⟨zin_ok wc, wc.2⟩, lw_w wc ht, lw_w wi ht, hy, fun sig h => ?_, lw_w wl ht⟩, lw_w ws ht⟩ ⟨jPc_blind, fun U hU hW => ⟨rfl, ?_⟩⟩ rfl rfl hls rfl (by show 2 * 0 + _ ≤ 8; omega) hdg ⟨hC.1, hC.2⟩
  · rw [h] at hlen
    exact hna.trans (Option.some.inj hlen).symm
  · rw [hU]; exact zSt.warm hW (zSt.kept hSt.1 hSt.2.1 hS)
theorem j_V {y : MethodName} {own : String} {index maxL nL f n b : Nat} {bytes : ByteArray} {ret : Option FieldType} {As : List Value} {v : Option Value} {kc ki ks kn : Nat} (hM : jMet l y f n (.ref b :: As) v base adr adV L0 xs)
    (hx : p.tables.exec = Jvm.exec) (hb : c.code = cc) (hml : c.maxLocals = nL) (hls : ls.size = nL) (hown : s.vm.findClass own = some m.cls) (ht : ∀ w ∈ lw_good, w.before args s = true) (hS : zSt base adr adV L0 xs s s.heap) (hSt : va_S (zA base) s.heap H locs)
    (hcell : ∃ cellB : Cell, H[b]? = some cellB ∧ cellB.vm.isStatics = false ∧ s.vm.findClass y.cls = some cellB.cls)
    (wc : zinP (Cond.code y bytes maxL ret) kc) (wi : zinP (Cond.initialized y.cls) ki) (wl : (Cond.methodLink own index y).before args s = true) (ws : zinP (Cond.selects y.cls y y) ks) (wn : zinP (Cond.instanceMethod y) kn)
    (hy : y.cls ≠ "java/lang/invoke/MethodHandle" ∧ y.cls ≠ "java/lang/invoke/VarHandle") {na : Nat} (hlen : (parseMethodDescriptor y.desc).map (fun d => d.parameters.length) = some na) (hna : As.length = na)
    (hR : f + 1 ≤ R.frames ∧ 8 + (maxL + 11) + n ≤ R.locals) (hC : cells ≤ R.cells ∧ slots ≤ R.slots) (hw : (rest.map fun v => v.category).sum ≤ 8) (hdg : decode cc pc = .ok (.invokevirtual index, 3))
    (k : W p l e R s m args below meth c H locs cells slots Q (F0 m (pc + 3) ls (v.toList ++ rest))) : W p l e R s m args below meth c H locs cells slots Q (F0 m pc ls (As.reverse ++ .ref b :: rest)) := by
  refine j_after (a9 := (Value.ref b :: As).toArray) ?_ k
  refine vx_runV (C := y.cls) (b := b) (n := As.length) (As := As) ⟨hx, hb, hml, hown, ht⟩ hM ⟨⟨rfl, rfl, hR.1, hR.2, fun w h => lw_gd w h ht, lw_good_in ⟨zin_ok wc, wc.2⟩, lw_w wc ht, lw_w wi ht, hy, fun sig h => ?_, wl⟩, lw_w wn ht, lw_w ws ht⟩ ⟨jPc_blind, hcell, fun U hU hW => ⟨rfl, ?_⟩⟩ rfl rfl hls rfl (by show 2 * 0 + _ ≤ 8; omega) hdg ⟨hC.1, hC.2⟩
  · rw [h] at hlen
    exact hna.trans (Option.some.inj hlen).symm
  · rw [hU]; exact zSt.warm hW (zSt.kept hSt.1 hSt.2.1 hS)
set_option maxRecDepth 100000 in
theorem m_Pre {i n : Int32} {fv : Value} (hf : fv = .null ∨ ∃ t, fv = .ref t) (h0 : ¬ i < 0) (h1 : i < n) : jMet l yPre 0 0 [.int i, .int n, fv] (some (.int i)) base adr adV L0 xs := by
  refine j_of (cc := prog_42_method_11_code) (maxL := 3) (ret := some .int) (kc := 2210) rfl ⟨rfl, rfl⟩ ?_
  intro p e s m below meth c hx hb hml hown ht hS hlk hret
  have body : ∀ ls : Array Slot, ls[0]? = some (.val (.int i)) → ls[1]? = some (.val (.int n)) → W p l e (jRm 0 0) s m [Value.int i, .int n, fv].toArray below meth c s.heap [] 0 0 (vx_MQ below (jQc (some (.int i))) jX [Value.int i, .int n, fv].toArray s 0 0 jF) (F0 m 0 ls []) := by
    intro ls l0 l1
    refine lv_iload_n hx hb (k := 0) (i := 0) (by decide +kernel) rfl l0 ?_
    refine lv_if_lt hx hb (tgt := 9) (off := 8) (by decide +kernel) (by decide) (fun z => absurd z h0) (fun _ => ?_)
    refine lv_iload_n hx hb (k := 0) (i := 0) (by decide +kernel) rfl l0 ?_
    refine lv_iload_n hx hb (k := 1) (i := 1) (by decide +kernel) rfl l1 ?_
    refine lv_icmp_lt hx hb (tgt := 16) (off := 10) (by decide +kernel) (by decide) (fun _ => ?_) (fun z => absurd h1 z)
    refine lv_iload_n hx hb (k := 0) (i := 0) (by decide +kernel) rfl l0 ?_
    exact vx_ret (W.iret hx hb hret (fun t ht _ => ⟨rfl, ht⟩) (fun q h => by cases h) (by decide +kernel) hlk)
  rcases hf with rfl | ⟨t, rfl⟩
  · exact body _ rfl rfl
  · exact body _ rfl rfl
set_option maxRecDepth 100000 in
theorem m_Chk {i n : Int32} (h0 : ¬ i < 0) (h1 : i < n) : jMet l yChk 1 22 [.int i, .int n] none base adr adV L0 xs := by
  refine j_of (cc := prog_31_method_155_code) (maxL := 2) (ret := none) (kc := 2205) rfl ⟨rfl, rfl⟩ ?_
  intro p e s m below meth c hx hb hml hown ht hS hlk hret
  refine lv_iload_n hx hb (k := 0) (i := 0) (x := i) (by decide +kernel) rfl rfl ?_
  refine lv_iload_n hx hb (k := 1) (i := 1) (x := n) (by decide +kernel) rfl rfl ?_
  obtain ⟨fv, hZ, hf⟩ : ∃ fv, va_Z "jdk/internal/util/Preconditions" "SIOOBE_FORMATTER" "Ljava/util/function/BiFunction;" fv (zA base) s s.heap ∧ (fv = .null ∨ ∃ t, fv = .ref t) := by
    rcases hS.2.2.2.2.1.2 with h | ⟨t, h⟩
    · exact ⟨_, h, Or.inl rfl⟩
    · exact ⟨_, h, Or.inr ⟨t, rfl⟩⟩
  refine va_gets hx hb hZ va_S.rf hown (lw_w (k := 2206) ⟨rfl, rfl⟩ ht) (fun _ h => h) (by decide +kernel) ?_
  refine j_S (y := yPre) (As := [.int i, .int n, fv]) (rest := []) (nL := 2) (maxL := 3) (bytes := prog_42_method_11_code) (ret := some .int) (kc := 2210) (ki := 1018) (kl := 2208) (ks := 2209) (m_Pre hf h0 h1) hx hb hml rfl hown ht hS va_S.rf ⟨rfl, rfl⟩ ⟨rfl, rfl⟩ ⟨rfl, rfl⟩ ⟨rfl, rfl⟩ (by decide) (na := 3) (by decide +kernel) rfl ⟨by decide, by decide⟩ ⟨Nat.le_refl _, Nat.le_refl _⟩ (by decide) (by decide +kernel) ?_
  refine lv_pop hx hb (by decide +kernel) rfl ?_
  exact vx_ret (W.vret hx hb hret (fun t ht _ => ⟨rfl, ht⟩) (fun q h => by cases h) (by decide +kernel) hlk)
/-- the k-th constant text, its bytes -/
abbrev jB (k j : Nat) : Int32 := (([zbyts.getD k []].getD 0 []).getD j 0)
abbrev jN (k : Nat) : Nat := [zlens.getD k 0].getD 0 0
theorem jS_at {k : Nat} (hS : zSt base adr adV L0 xs s s.heap) (hk : k < 53) : va_O "java/lang/String" (adr (3 + k)) (zA base) s s.heap ∧ va_OF "java/lang/String" "coder" "B" (.int 0) (adr (3 + k)) (zA base) s s.heap ∧ va_OF "java/lang/String" "value" "[B" (.ref (adV k)) (adr (3 + k)) (zA base) s s.heap ∧ va_T .byte (adV k) (jN k) (fun j => .int (jB k j)) (zA base) s s.heap := (hS.2.2.2.1.1 k hk).1 0 (by decide)
theorem jS_cell {k : Nat} (hS : zSt base adr adV L0 xs s s.heap) (hk : k < 53) (hSt : va_S (zA base) s.heap H locs) : ∃ cellB : Cell, H[adr (3 + k)]? = some cellB ∧ cellB.vm.isStatics = false ∧ s.vm.findClass "java/lang/String" = some cellB.cls := by
  obtain ⟨cell, h1, h2, h3, -⟩ := (jS_at hS hk).1.kept hSt.2.1
  exact ⟨cell, h1, h2, h3⟩
theorem jN_lt : ∀ k : Fin 53, jN k.val < 65536 ∧ (jN k.val = zlens.getD k.val 0 ∧ ∀ j : Fin 128, jB k.val j.val = (zbyts.getD k.val []).getD j.val 0) := by decide +kernel
set_option maxRecDepth 100000 in
theorem m_L1 {k : Nat} {i : Int32} (hk : k < 53) (h0 : ¬ i < 0) (h1 : i < Int32.ofNat (jN k)) (hin : vp_in i (jN k)) {v : Int32} (hv : ((jB k i.toNatClampNeg &&& 255).toUInt32 % 65536).toInt32 = v) (hn : narrow .char (.int v) = .int v) : jMet l yL1 2 43 [.ref (adV k), .int i] (some (.int v)) base adr adV L0 xs := by
  refine j_of (cc := prog_33_method_2_code) (maxL := 2) (ret := some .char) (kc := 2202) rfl ⟨rfl, rfl⟩ ?_
  intro p e s m below meth c hx hb hml hown ht hS hlk hret
  refine lv_iload_n hx hb (k := 1) (i := 1) (x := i) (by decide +kernel) rfl rfl ?_
  refine lv_aload_n hx hb (k := 0) (i := 0) (x := adV k) (by decide +kernel) rfl rfl ?_
  refine va_tlen hx hb (jS_at hS hk).2.2.2 va_S.rf rfl (by decide +kernel) ?_
  refine j_S (y := yChk) (As := [.int i, .int (Int32.ofNat (jN k))]) (rest := []) (nL := 2) (maxL := 2) (bytes := prog_31_method_155_code) (ret := none) (kc := 2205) (ki := 1016) (kl := 2203) (ks := 2204) (m_Chk h0 h1) hx hb hml rfl hown ht hS va_S.rf ⟨rfl, rfl⟩ ⟨rfl, rfl⟩ ⟨rfl, rfl⟩ ⟨rfl, rfl⟩ (by decide) (na := 2) (by decide +kernel) rfl ⟨by decide, by decide⟩ ⟨Nat.le_refl _, Nat.le_refl _⟩ (by decide) (by decide +kernel) ?_
  refine lv_aload_n hx hb (k := 0) (i := 0) (x := adV k) (by decide +kernel) rfl rfl ?_
  refine lv_iload_n hx hb (k := 1) (i := 1) (x := i) (by decide +kernel) rfl rfl ?_
  refine va_tb hx hb (jS_at hS hk).2.2.2 va_S.rf hin rfl (by decide +kernel) ?_
  refine lv_sipush hx hb (n := 255) (v := 255) (by decide +kernel) (by decide) ?_
  refine lv_iand hx hb (by decide +kernel) ?_
  refine lv_i2c hx hb (by decide +kernel) hv ?_
  exact vx_ret (W.zret hx hb hret hn (fun t ht _ => ⟨rfl, ht⟩) (fun q h => by cases h) (by decide +kernel) hlk)
set_option maxRecDepth 100000 in
theorem m_Lat {k : Nat} (hk : k < 53) : jMet l yLat 0 0 [.ref (adr (3 + k))] (some (.int 1)) base adr adV L0 xs := by
  refine j_of (cc := prog_31_method_154_code) (maxL := 1) (ret := some .boolean) (kc := 2199) rfl ⟨rfl, rfl⟩ ?_
  intro p e s m below meth c hx hb hml hown ht hS hlk hret
  refine va_gets hx hb hS.2.2.2.2.1.1 va_S.rf hown (lw_w (k := 2190) ⟨rfl, rfl⟩ ht) (fun _ h => h) (by decide +kernel) ?_
  refine lv_if_eq hx hb (tgt := 17) (off := 14) (by decide +kernel) (by decide) (fun z => absurd z (by decide)) (fun _ => ?_)
  refine lv_aload_n hx hb (k := 0) (i := 0) (x := adr (3 + k)) (by decide +kernel) rfl rfl ?_
  refine vk_getf hx hb (jS_at hS hk).2.1 va_S.rf hown (lw_w (k := 6217) ⟨rfl, rfl⟩ ht) (fun _ h => h) (by decide +kernel) ?_
  refine lv_if_ne hx hb (tgt := 17) (off := 7) (by decide +kernel) (by decide) (fun z => absurd rfl z) (fun _ => ?_)
  refine lv_iconst hx hb (n := 1) (v := 1) (by decide +kernel) (by decide) ?_
  refine lv_goto hx hb (tgt := 18) (off := 4) (by decide +kernel) (by decide) ?_
  exact vx_ret (W.zret hx hb hret rfl (fun t ht _ => ⟨rfl, ht⟩) (fun q h => by cases h) (by decide +kernel) hlk)
set_option maxRecDepth 100000 in
theorem m_Cod {k : Nat} (hk : k < 53) : jMet l yCod 0 0 [.ref (adr (3 + k))] (some (.int 0)) base adr adV L0 xs := by
  refine j_of (cc := prog_31_method_152_code) (maxL := 1) (ret := some .byte) (kc := 2189) rfl ⟨rfl, rfl⟩ ?_
  intro p e s m below meth c hx hb hml hown ht hS hlk hret
  refine va_gets hx hb hS.2.2.2.2.1.1 va_S.rf hown (lw_w (k := 2190) ⟨rfl, rfl⟩ ht) (fun _ h => h) (by decide +kernel) ?_
  refine lv_if_eq hx hb (tgt := 13) (off := 10) (by decide +kernel) (by decide) (fun z => absurd z (by decide)) (fun _ => ?_)
  refine lv_aload_n hx hb (k := 0) (i := 0) (x := adr (3 + k)) (by decide +kernel) rfl rfl ?_
  refine vk_getf hx hb (jS_at hS hk).2.1 va_S.rf hown (lw_w (k := 6217) ⟨rfl, rfl⟩ ht) (fun _ h => h) (by decide +kernel) ?_
  refine lv_goto hx hb (tgt := 14) (off := 4) (by decide +kernel) (by decide) ?_
  exact vx_ret (W.zret hx hb hret rfl (fun t ht _ => ⟨rfl, ht⟩) (fun q h => by cases h) (by decide +kernel) hlk)
set_option maxRecDepth 100000 in
theorem m_Len {k : Nat} (hk : k < 53) : jMet l yLen 1 20 [.ref (adr (3 + k))] (some (.int (Int32.ofNat (jN k)))) base adr adV L0 xs := by
  refine j_of (cc := prog_31_method_54_code) (maxL := 1) (ret := some .int) (kc := 2185) rfl ⟨rfl, rfl⟩ ?_
  intro p e s m below meth c hx hb hml hown ht hS hlk hret
  refine lv_aload_n hx hb (k := 0) (i := 0) (x := adr (3 + k)) (by decide +kernel) rfl rfl ?_
  refine vk_getf hx hb (jS_at hS hk).2.2.1 va_S.rf hown (lw_w (k := 6216) ⟨rfl, rfl⟩ ht) (fun _ h => h) (by decide +kernel) ?_
  refine va_tlen hx hb (jS_at hS hk).2.2.2 va_S.rf rfl (by decide +kernel) ?_
  refine lv_aload_n hx hb (k := 0) (i := 0) (x := adr (3 + k)) (by decide +kernel) rfl rfl ?_
  refine j_V (y := yCod) (own := "java/lang/String") (As := []) (rest := [.int (Int32.ofNat (jN k))]) (nL := 1) (maxL := 1) (bytes := prog_31_method_152_code) (ret := some .byte) (kc := 2189) (ki := 1016) (ks := 2188) (kn := 2187) (m_Cod hk) hx hb hml rfl hown ht hS va_S.rf (jS_cell hS hk va_S.rf) ⟨rfl, rfl⟩ ⟨rfl, rfl⟩ (lw_w (k := 2186) ⟨rfl, rfl⟩ ht) ⟨rfl, rfl⟩ ⟨rfl, rfl⟩ (by decide) (na := 0) (by decide +kernel) rfl ⟨by decide, by decide⟩ ⟨Nat.le_refl _, Nat.le_refl _⟩ (by show 1 + 0 ≤ 8; decide) (by decide +kernel) ?_
  refine lv_ishr hx hb (by decide +kernel) ?_
  rw [show Int32.ofNat (jN k) >>> ((0 : Int32) &&& 31) = Int32.ofNat (jN k) from by
    apply Int32.toBitVec.inj
    rw [Int32.toBitVec_shiftRight, show ((0 : Int32) &&& 31).toBitVec.smod 32 = 0#32 by decide, BitVec.sshiftRight', show (0#32).toNat = 0 from rfl, BitVec.sshiftRight_zero]]
  exact vx_ret (W.iret hx hb hret (fun t ht _ => ⟨rfl, ht⟩) (fun q h => by cases h) (by decide +kernel) hlk)
set_option maxRecDepth 100000 in
theorem m_Chr {k : Nat} {i : Int32} (hk : k < 53) (h0 : ¬ i < 0) (h1 : i < Int32.ofNat (jN k)) (hin : vp_in i (jN k)) {v : Int32} (hv : ((jB k i.toNatClampNeg &&& 255).toUInt32 % 65536).toInt32 = v) (hn : narrow .char (.int v) = .int v) : jMet l yChr 3 64 [.ref (adr (3 + k)), .int i] (some (.int v)) base adr adV L0 xs := by
  refine j_of (cc := prog_31_method_56_code) (maxL := 2) (ret := some .char) (kc := 2195) rfl ⟨rfl, rfl⟩ ?_
  intro p e s m below meth c hx hb hml hown ht hS hlk hret
  refine lv_aload_n hx hb (k := 0) (i := 0) (x := adr (3 + k)) (by decide +kernel) rfl rfl ?_
  refine j_V (y := yLat) (own := "java/lang/String") (As := []) (rest := []) (nL := 2) (maxL := 1) (bytes := prog_31_method_154_code) (ret := some .boolean) (kc := 2199) (ki := 1016) (ks := 2198) (kn := 2197) (m_Lat hk) hx hb hml rfl hown ht hS va_S.rf (jS_cell hS hk va_S.rf) ⟨rfl, rfl⟩ ⟨rfl, rfl⟩ (lw_w (k := 2196) ⟨rfl, rfl⟩ ht) ⟨rfl, rfl⟩ ⟨rfl, rfl⟩ (by decide) (na := 0) (by decide +kernel) rfl ⟨by decide, by decide⟩ ⟨Nat.le_refl _, Nat.le_refl _⟩ (by decide) (by decide +kernel) ?_
  refine lv_if_eq hx hb (tgt := 16) (off := 12) (by decide +kernel) (by decide) (fun z => absurd z (by decide)) (fun _ => ?_)
  refine lv_aload_n hx hb (k := 0) (i := 0) (x := adr (3 + k)) (by decide +kernel) rfl rfl ?_
  refine vk_getf hx hb (jS_at hS hk).2.2.1 va_S.rf hown (lw_w (k := 6216) ⟨rfl, rfl⟩ ht) (fun _ h => h) (by decide +kernel) ?_
  refine lv_iload_n hx hb (k := 1) (i := 1) (x := i) (by decide +kernel) rfl rfl ?_
  refine j_S (y := yL1) (As := [.ref (adV k), .int i]) (rest := []) (nL := 2) (maxL := 2) (bytes := prog_33_method_2_code) (ret := some .char) (kc := 2202) (ki := 1017) (kl := 2200) (ks := 2201) (m_L1 hk h0 h1 hin hv hn) hx hb hml rfl hown ht hS va_S.rf ⟨rfl, rfl⟩ ⟨rfl, rfl⟩ ⟨rfl, rfl⟩ ⟨rfl, rfl⟩ (by decide) (na := 2) (by decide +kernel) rfl ⟨by decide, by decide⟩ ⟨Nat.le_refl _, Nat.le_refl _⟩ (by decide) (by decide +kernel) ?_
  exact vx_ret (W.zret hx hb hret hn (fun t ht _ => ⟨rfl, ht⟩) (fun q h => by cases h) (by decide +kernel) hlk)
end JW
section JZ
variable {p : Program} {l : Launch} {e : Env} {R : Room} {s : State} {m : MethodId} {args : Array Value} {below : List Frame} {meth : Method} {c : Code} {Q : State → Prop}
variable {q n : Nat} {r : (Option zV ⊕ Nat) × zH} {base n0 u0 : Nat} {adr adV : Nat → Nat} {dC : Nat → ClassId} {dI : Nat → Nat → Nat} {cA : Nat → ClassId} {L0 : Nat} {xs : Nat → Int32}
variable {pc len : Nat} {L : zL} {S : List zV} {h : zH} {H : Heap} {locs : List Loc} {cells slots : Nat} {ls : Array Slot}
theorem zstr_at {a : Nat} (a1 : zRep base adr dC dI cA L0 xs H h) (g : hT h a = 40) : ∃ k, k < 53 ∧ a = zVB + (3 + k) ∧ hL h a = zlens.getD k 0 ∧ ∀ j, j < zlens.getD k 0 → hI h a j = ((zbyts.getD k []).getD j 0).toInt := by
  have hge : zVB ≤ a := by
    rcases Nat.lt_or_ge a (hN h) with w | w
    · have := (a1.2.2.1 _ w).2.2
      omega
    · rcases Nat.lt_or_ge a zVB with w2 | w2
      · have w2 := a1.2.2.2.2.1 _ w w2
        rw [w2] at g; cases g
      · exact w2
  obtain ⟨v0, v1, v2, v3, vd, v4⟩ := a1.2.2.2.2.2
  rcases Nat.lt_or_ge a (zVB + 56) with w | w
  · by_cases e1 : a = zVB
    · rw [e1, v0.1] at g; cases g
    · by_cases e2 : a = zVB + 1
      · rw [e2, v1.1] at g; cases g
      · by_cases e3 : a = zVB + 2
        · rw [e3, v2.1] at g; cases g
        · have e4 := v3 (a - zVB - 3) (by omega)
          rw [show zVB + 3 + (a - zVB - 3) = a by omega] at e4
          exact ⟨a - zVB - 3, by omega, by omega, e4.2.1, e4.2.2⟩
  · rcases Nat.lt_or_ge a (zVB + 58) with w9 | w9
    · have e5 := (vd (a - zVB - 56) (by omega)).1
      rw [show zVB + 56 + (a - zVB - 56) = a by omega, g] at e5
      cases e5
    · rw [v4 _ w9] at g; cases g
theorem zi_nt (n : Nat) : Int32.ofInt (n : Int) = Int32.ofNat n := by
  apply Int32.toBitVec.inj
  rw [Int32.toBitVec_ofInt]
  exact BitVec.ofInt_natCast 32 n
theorem zw_len {k : Nat} (C : zCtx p l R s m args meth c q base adr adV dC dI cA L0 xs) (K : zWk p l e R s m args below meth c Q q n r base n0 u0 adr dC dI cA L0 xs) (hroom : zRoom R r n0 u0) (hd : decode (zbytes q) pc = .ok (.invokevirtual k, 3)) (A : zAt s q base n0 u0 adr dC dI cA L0 xs H locs cells slots ls L S h) (hmlk : (Cond.methodLink (zcn (zown q)) k yLen).before args s = true)
    (hr : (pR S fun r S => gd (r.isSome = true ∧ hT h (zdr r) = 40 ∧ zcs S ≤ 8 ∧ zrm q 5 120 = true) (zX n q (pc + 3) L (zI (hL h (zdr r)) :: S) h)) = some r) : W p l e R s m args below meth c H locs cells slots Q (F0 m pc ls (S.map (zenc (zrho base adr)))) := by
  obtain ⟨hx, hb, hml, hown, hts, hK, hSt, hin, ⟨hrf, hrl⟩, hl, hexc, hlk⟩ := id C
  obtain ⟨a1, a2, a3, a4, a5, a6, a7, a8⟩ := id A
  obtain ⟨x, S0, rfl, hr1⟩ := pR_some hr
  obtain ⟨⟨g1, g2, g3, g4⟩, hr2⟩ := gd_some hr1
  obtain ⟨rm1, rm2⟩ := zrm_ok g4
  obtain ⟨k9, hk9, e9, el, -⟩ := zstr_at a1 g2
  have mo := zX_mo _ _ _ _ _ _ _ hr2
  obtain ⟨ro1, ro2, ro3⟩ := hroom
  have m1 := mo.1
  have m2 := mo.2
  have htsg : ∀ w ∈ lw_good, w.before args s = true := fun w hw => hts w (List.mem_filter.mp hw).1 (List.mem_filter.mp hw).2
  have kn := jN_lt ⟨k9, hk9⟩
  simp only at kn
  have g := K _ _ (zI _ :: S0) _ _ _ _ _ _ hr2 ⟨a1, a2, a3, a4, a5, a6.tl.cons (show inR _ by rw [el, ← kn.2.1]; unfold inR; omega), a7, a8⟩
  rw [List.map_cons, zenc_R g1, e9, show zrho base adr (zVB + (3 + k9)) = adr (3 + k9) from zrho_ge]
  refine j_V (y := yLen) (own := zcn (zown q)) (As := []) (nL := zmaxl q) (maxL := 1) (bytes := prog_31_method_54_code) (ret := some .int) (kc := 2185) (ki := 1016) (ks := 2184) (kn := 2183) (m_Len hk9) hx hb hml (by rw [a3.1, a4]) hown htsg hSt a2 (jS_cell hSt hk9 a2) ⟨rfl, rfl⟩ ⟨rfl, rfl⟩ hmlk ⟨rfl, rfl⟩ ⟨rfl, rfl⟩ (by decide) (na := 0) (by decide +kernel) rfl ⟨by omega, by omega⟩ ⟨by omega, by omega⟩ (by rw [zcs_e]; exact g3) hd ?_
  rw [List.map_cons, show zenc (zrho base adr) (zI (hL h (zdr x))) = .int (Int32.ofNat (jN k9)) from by show Value.int (Int32.ofInt _) = _; rw [zi_nt, el, kn.2.1]] at g
  exact g
theorem jB_ch : ∀ k : Fin 53, ∀ j : Fin 128, j.val < jN k.val → ((jB k.val j.val &&& 255).toUInt32 % 65536).toInt32 = jB k.val j.val ∧ narrow .char (.int (jB k.val j.val)) = .int (jB k.val j.val) := by decide +kernel
theorem jN_128 : ∀ k : Fin 53, jN k.val ≤ 128 := by decide +kernel
theorem zw_chr {k : Nat} (C : zCtx p l R s m args meth c q base adr adV dC dI cA L0 xs) (K : zWk p l e R s m args below meth c Q q n r base n0 u0 adr dC dI cA L0 xs) (hroom : zRoom R r n0 u0) (hd : decode (zbytes q) pc = .ok (.invokevirtual k, 3)) (A : zAt s q base n0 u0 adr dC dI cA L0 xs H locs cells slots ls L S h) (hmlk : (Cond.methodLink (zcn (zown q)) k yChr).before args s = true)
    (hr : (pI S fun i S => pR S fun r S => gd (zok h r 40 i ∧ zcs S ≤ 8 ∧ zrm q 5 120 = true) (zX n q (pc + 3) L (zI (hI h (zdr r) i.toNat) :: S) h)) = some r) : W p l e R s m args below meth c H locs cells slots Q (F0 m pc ls (S.map (zenc (zrho base adr)))) := by
  obtain ⟨hx, hb, hml, hown, hts, hK, hSt, hin, ⟨hrf, hrl⟩, hl, hexc, hlk⟩ := id C
  obtain ⟨a1, a2, a3, a4, a5, a6, a7, a8⟩ := id A
  obtain ⟨i, S1, rfl, hr0⟩ := pI_some hr
  obtain ⟨x, S0, rfl, hr1⟩ := pR_some hr0
  obtain ⟨⟨⟨g1, g2, h0, h1⟩, g3, g4⟩, hr2⟩ := gd_some hr1
  obtain ⟨rm1, rm2⟩ := zrm_ok g4
  obtain ⟨k9, hk9, e9, el, ev⟩ := zstr_at a1 g2
  have mo := zX_mo _ _ _ _ _ _ _ hr2
  obtain ⟨ro1, ro2, ro3⟩ := hroom
  have m1 := mo.1
  have m2 := mo.2
  have htsg : ∀ w ∈ lw_good, w.before args s = true := fun w hw => hts w (List.mem_filter.mp hw).1 (List.mem_filter.mp hw).2
  have kn := jN_lt ⟨k9, hk9⟩
  have k28 := jN_128 ⟨k9, hk9⟩
  simp only at kn k28
  have hi1 : inR i := a6.hd
  have lt : i.toNat < jN k9 := by omega
  have cl := zi_cl hi1 h0
  have vb := kn.2.2 ⟨i.toNat, by omega⟩
  simp only at vb
  have ch := jB_ch ⟨k9, hk9⟩ ⟨i.toNat, by omega⟩ lt
  simp only at ch
  have ve : Int32.ofInt (hI h (zdr x) i.toNat) = jB k9 i.toNat := by
    rw [ev _ (by omega), zi_of, vb]
  have g := K _ _ (zI _ :: S0) _ _ _ _ _ _ hr2 ⟨a1, a2, a3, a4, a5, a6.tl.tl.cons (a1.2.2.2.1 _ _), a7, a8⟩
  rw [List.map_cons, List.map_cons, zenc_R g1, e9, show zrho base adr (zVB + (3 + k9)) = adr (3 + k9) from zrho_ge]
  have iR : inR ((jN k9 : Nat) : Int) := by unfold inR; omega
  refine j_V (y := yChr) (own := zcn (zown q)) (As := [.int (Int32.ofInt i)]) (nL := zmaxl q) (maxL := 2) (bytes := prog_31_method_56_code) (ret := some .char) (kc := 2195) (ki := 1016) (ks := 2194) (kn := 2193) (m_Chr hk9 (v := jB k9 i.toNat) (by rw [← zi_0, zi_lt hi1 (by decide)]; omega) (by rw [← zi_nt, zi_lt hi1 iR]; omega) (zi_in hi1 h0 (by omega)) (by rw [cl]; exact ch.1) ch.2) hx hb hml (by rw [a3.1, a4]) hown htsg hSt a2 (jS_cell hSt hk9 a2) ⟨rfl, rfl⟩ ⟨rfl, rfl⟩ hmlk ⟨rfl, rfl⟩ ⟨rfl, rfl⟩ (by decide) (na := 1) (by decide +kernel) rfl ⟨by omega, by omega⟩ ⟨by omega, by omega⟩ (by rw [zcs_e]; exact g3) hd ?_
  rw [List.map_cons, show zenc (zrho base adr) (zI (hI h (zdr x) i.toNat)) = .int (jB k9 i.toNat) from congrArg Value.int ve] at g
  exact g
end JZ
