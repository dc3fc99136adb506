section COPW
variable {p : Program} {l : Launch} {e : Env} {R : Room} {s : State} {m : MethodId} {args : Array Value} {below : List Frame} {meth : Method} {c : Code} {Q : State → Prop}
variable {base : Nat} {adr adV : Nat → Nat} {dC : Nat → ClassId} {dI : Nat → Nat → Nat} {cA : Nat → ClassId} {L0 : Nat} {xs : Nat → Int32} {H : Heap} {locs : List Loc} {cells slots : Nat} {ls : Array Slot} {pc : Nat} {rest : List Value} {cc : ByteArray} {h : zH}
set_option maxRecDepth 100000 in
theorem m_Min {i n : Int32} : jMet l yMin 0 0 [.int i, .int n] (some (.int (if n < i then n else i))) base adr adV L0 xs := by
  refine j_of (cc := prog_28_method_69_code) (maxL := 2) (ret := some .int) (kc := 1063) (by decide +kernel) ⟨rfl, rfl⟩ ?_
  intro p e s m below meth c hx hb hml hown ht hS hlk hret
  refine lv_iload_n hx hb (k := 0) (i := 0) (x := i) (by decide +kernel) rfl rfl ?_
  refine lv_iload_n hx hb (k := 1) (i := 1) (x := n) (by decide +kernel) rfl rfl ?_
  refine lv_icmp_gt hx hb (tgt := 9) (off := 7) (by decide +kernel) (by decide) (fun z => ?_) (fun z => ?_)
  · refine lv_iload_n hx hb (k := 1) (i := 1) (x := n) (by decide +kernel) rfl rfl ?_
    rw [if_pos (show n < i from z)]
    exact vx_ret (W.iret hx hb hret (fun t ht _ => ⟨rfl, ht⟩) (fun q h => by cases h) (by decide +kernel) hlk)
  · refine lv_iload_n hx hb (k := 0) (i := 0) (x := i) (by decide +kernel) rfl rfl ?_
    refine lv_goto hx hb (tgt := 10) (off := 4) (by decide +kernel) (by decide) ?_
    rw [if_neg (show ¬ n < i from z)]
    exact vx_ret (W.iret hx hb hret (fun t ht _ => ⟨rfl, ht⟩) (fun q h => by cases h) (by decide +kernel) hlk)
set_option maxRecDepth 100000 in
/-- [B.clone -/
theorem w_clone {own : String} {index a n : Nat} {cB : ClassId} {f : Nat → Value} (hx : p.tables.exec = Jvm.exec) (hb : c.code = cc) (hml : c.maxLocals = ls.size) (hown : s.vm.findClass own = some m.cls) (ht : ∀ w ∈ lw_good, w.before args s = true)
    (hlink : (Cond.methodLink own index ⟨"[B", "clone", "()Ljava/lang/Object;"⟩).before args s = true) (hcl : va_Nw (.castable "[B" "java/lang/Cloneable") s) (hAO : ∀ n f, s.isArrayOf (arrV cB n f) .byte) (hnm : s.vm.findClass "[B" = some cB)
    (hcell : H[a]? = some (arrV cB n f)) (hfit : ∀ j, j < n → fits .byte (f j) = true)
    (hframes : 1 ≤ R.frames) (hlocals : (rest.map fun v => v.category).sum + 14 ≤ R.locals) (hcells : cells + 1 ≤ R.cells) (hslots : slots + n ≤ R.slots) (hdg : decode cc pc = .ok (.invokevirtual index, 3))
    (kk : W p l e R s m args below meth c (H.push (arrV cB n f)) locs (cells + 1) (slots + n) Q (F0 m (pc + 3) ls (.ref H.size :: rest))) : W p l e R s m args below meth c H locs cells slots Q (F0 m pc ls (.ref a :: rest)) := by
  obtain ⟨c0, t0', f1, f2, f3⟩ := Cond.castable_spec (va_Nw.use (A := args) rfl hcl)
  cases hnm.symm.trans f1
  intro T hT X
  have hcellT : T.heap[a]? = some (arrV cB n f) := by rw [hT]; exact hcell
  obtain ⟨-, kA, hkA, comp, hkind⟩ := State.isArrayOf_alike X.warmed.alike (hAO 0 (fun _ => .null))
  obtain ⟨-, kS, hkS, compS, hkindS⟩ := hAO 0 (fun _ => .null)
  obtain ⟨vm', X', st⟩ := X.cloneArray hx hown hlink (lw_w (k := 1055) ⟨rfl, rfl⟩ ht) (lw_w (k := 1056) ⟨rfl, rfl⟩ ht) (lw_w (k := 1057) ⟨rfl, rfl⟩ ht) (lw_w (k := 1058) ⟨rfl, rfl⟩ ht) (a := a) (cell := arrV cB n f) hcellT (fun k h => by cases h) (fun h => by cases h) hnm f2 f3
    (fun i v hv => by
      by_cases hi : i < n
      · rw [arrV_read _ _ hi] at hv
        cases hv
        have hk' : T.vm.classes[cB]? = some kA := hkA
        have := hfit i hi
        simpa [State.fitsSlot, State.slotType?, arrV, hk', hkind] using this
      · rw [Array.getElem?_eq_none (by rw [arrV_size]; omega)] at hv
        cases hv)
    (g := F0 m pc ls (.ref a :: rest)) rfl (by rw [hml]) rfl (by rw [hb]; exact hdg) hframes (by show 2 * 0 + _ + 14 ≤ _; omega) hcells (by rw [arrV_size]; exact hslots) (hloader := Vm.clonesLoader_of_array hkS hkindS)
  rw [arrV_size] at X'
  obtain ⟨t, b1, b2⟩ := kk ((T.setVm vm').pushCell (arrV cB n f)) (by rw [← hT]; rfl) X'
  refine ⟨t, st t ?_, b2⟩
  rw [hT]
  exact b1
/-- a cast of a byte array to its own class -/
theorem w_castB {own : String} {index a n : Nat} {cB : ClassId} {f : Nat → Value} (hx : p.tables.exec = Jvm.exec) (hb : c.code = cc) (hown : s.vm.findClass own = some m.cls) (hlink : (Cond.classLink own index "[B").before args s = true) (hnm : s.vm.findClass "[B" = some cB)
    (hcell : H[a]? = some (arrV cB n f)) (hdg : decode cc pc = .ok (.checkcast index, 3))
    (kk : W p l e R s m args below meth c H locs cells slots Q (F0 m (pc + 3) ls (.ref a :: rest))) : W p l e R s m args below meth c H locs cells slots Q (F0 m pc ls (.ref a :: rest)) := va_castE hx hb hown hlink ⟨_, hcell, rfl, hnm⟩ hdg kk
set_option maxRecDepth 100000 in
/-- System.arraycopy between byte arrays -/
theorem w_copyB {own : String} {index a b n1 n2 k : Nat} {cB : ClassId} {f g : Nat → Value} (hx : p.tables.exec = Jvm.exec) (hb : c.code = cc) (hml : c.maxLocals = ls.size) (hown : s.vm.findClass own = some m.cls) (ht : ∀ w ∈ lw_good, w.before args s = true)
    (hlink : (Cond.methodLink own index arraycopyName).before args s = true) (hAO : ∀ n f, s.isArrayOf (arrV cB n f) .byte) (hne : a ≠ b)
    (ha : H[a]? = some (arrV cB n1 f)) (hbc : H[b]? = some (arrV cB n2 g)) (hk1 : k ≤ n1) (hk2 : k ≤ n2) (hk : k < 2147483648) (hfit : ∀ j, j < n1 → fits .byte (f j) = true)
    (hframes : 1 ≤ R.frames) (hlocals : (rest.map fun v => v.category).sum + (nativeFrameWords "java/lang/System" "arraycopy" 5 + 11) ≤ R.locals) (hdg : decode cc pc = .ok (.invokestatic index, 3))
    (kk : ∀ L, (∀ q ∈ L, q.base = b) → W p l e R s m args below meth c (H.setIfInBounds b (arrV cB n2 (va_cpy f g 0 0 k))) (locs ++ L) cells slots Q (F0 m (pc + 3) ls rest)) : W p l e R s m args below meth c H locs cells slots Q (F0 m pc ls (.int (Int32.ofNat k) :: .int 0 :: .ref b :: .int 0 :: .ref a :: rest)) := by
  have kc : (Int32.ofNat k).toNatClampNeg = k := by
    rw [← zi_nt, zi_cl (by unfold inR; omega) (by omega)]; omega
  have ki : (Int32.ofNat k).toInt = k := by rw [← zi_nt, zi_to (by unfold inR; omega)]
  have z0 : (0 : Int32).toNatClampNeg = 0 := rfl
  intro T hT X
  obtain ⟨-, k1, hk1', cm1, hkk1⟩ := hAO 0 (fun _ => .null)
  obtain ⟨vm', X', step⟩ := X.arraycopy hx hown hlink (lw_w (k := 1066) ⟨rfl, rfl⟩ ht) (lw_w (k := 1065) ⟨rfl, rfl⟩ ht) (lw_w (k := 1005) ⟨rfl, rfl⟩ ht) (src := a) (dst := b) (cs := arrV cB n1 f) (cd := arrV cB n2 g) (srcPos := 0) (destPos := 0) (n := Int32.ofNat k) (by rw [hT]; exact ha) (by rw [hT]; exact hbc)
    (fun _ h => by cases h) (fun _ h => by cases h) (fun h => by cases h) (fun h => by cases h) hk1' hk1' hkk1 hkk1 rfl (by decide) (by decide) (by rw [Int32.lt_iff_toInt_lt, ki]; show ¬ (k : Int) < 0; omega)
    (by rw [ki, arrV_size]; show ¬ ((0 : Int) + k > n1); omega) (by rw [ki, arrV_size]; show ¬ ((0 : Int) + k > n2); omega)
    (fun vm₁ hal i hi => by
      rw [kc] at hi
      have e : (arrV cB n1 f).slots.getD ((0 : Int32).toNatClampNeg + i) .null = f i := by
        rw [z0, Nat.zero_add, Array.getD_eq_getD_getElem?, arrV_read _ _ (by omega)]
        rfl
      rw [e]
      have h1 := hfit i (by omega)
      refine ⟨h1, ?_⟩
      cases hv : f i with
      | int v => trivial
      | _ => rw [hv] at h1; cases h1)
    (g := F0 m pc ls (.int (Int32.ofNat k) :: .int 0 :: .ref b :: .int 0 :: .ref a :: rest)) rfl (by rw [hml]) (rest := rest) rfl (by rw [hb]; exact hdg) hframes (by show 2 * 0 + _ + _ ≤ _; omega)
  have e1 : copied (arrV cB n1 f) (arrV cB n2 g) 0 0 (Int32.ofNat k) = arrV cB n2 (va_cpy f g 0 0 k) := by
    have := va_copied (fun z => z) cB cB f g (n0 := n1) (n1 := n2) (sp := 0) (dp := 0) (n := k) (by omega)
    unfold copied
    rw [z0, kc]
    exact this
  rw [e1] at X' step
  obtain ⟨t, b1, b2⟩ := kk _ (fun q hq => by
    obtain ⟨z, -, hz⟩ := List.mem_map.mp hq
    rw [← hz]) _ (by rw [← hT]; rfl) X'
  exact ⟨t, step t b1, b2⟩
end COPW
section COPZ
variable {p : Program} {l : Launch} {e : Env} {R : Room} {s : State} {m : MethodId} {args : Array Value} {below : List Frame} {meth : Method} {c : Code} {Q : State → Prop}
variable {q n : Nat} {r : (Option zV ⊕ Nat) × zH} {base n0 u0 : Nat} {adr adV : Nat → Nat} {dC : Nat → ClassId} {dI : Nat → Nat → Nat} {cA : Nat → ClassId} {L0 : Nat} {xs : Nat → Int32}
variable {pc len : Nat} {L : zL} {S : List zV} {h : zH} {H : Heap} {locs : List Loc} {cells slots : Nat} {ls : Array Slot}
set_option maxRecDepth 100000 in
theorem m_Cop {x : Option Nat} {k : Int} (hs : x.isSome = true) (hT : hT h (zdr x) = 21) (hlt : zdr x < hN h) (h0 : 0 ≤ k) (h1 : k < 65536) (hz : hN h + 1 < zVB) : vx_Met l yCop lw_good { frames := 1, cells := 1, slots := k.toNat, locals := 40 } (zPc adV base adr dC dI cA L0 xs [zR x, zI k] h) (zQc base adr dC dI cA L0 xs (.inl (some (zR (some (hN h)))), hCop h x k)) (zXc base adr dC dI cA L0 xs (.inl (some (zR (some (hN h)))), hCop h x k)) 1 k.toNat (zA base) := by
  have wc : zinP (Cond.code yCop prog_39_method_121_code 3 (some (.array .byte))) 1053 := ⟨rfl, rfl⟩
  refine vx_ofJ (cc := prog_39_method_121_code) (maxL := 3) (ret := some (.array .byte)) (by decide +kernel) (fun args s m h hn => ?_) ?_
  · obtain ⟨meth, c, h1, h2, h3, h4, h5, h6, -, -⟩ := Cond.code_spec hn (atoms_spec (ws := lw_good) h _ (lw_good_in ⟨zin_ok wc, wc.2⟩))
    exact ⟨meth, c, h1, h2, h3, h4, h5, h6⟩
  intro p e s m args below meth c s₁ B hml hP
  obtain ⟨rfl, R1, hK, hS⟩ := hP
  have hx := B.exec
  have hb := B.bytes
  have hown : s.vm.findClass "java/util/Arrays" = some m.cls := findClass_of_methodNamed B.named
  have ht : ∀ w ∈ lw_good, w.before ([zR x, zI k].map (zenc (zrho base adr))).toArray s = true := atoms_spec (ws := lw_good) B.pre
  have hlk := B.notSynchronized
  have hret := B.returns
  have sz := R1.1
  have ra : zrho base adr (zdr x) = base + zdr x := zrho_lt (by omega)
  have rn : zrho base adr (hN h) = s.heap.size := by rw [zrho_lt R1.2.1, sz]
  have a21 := R1.arr hlt hT (by decide) (by decide)
  have rng := ((R1.2.2.1 _ hlt).2.1 (by omega) (by omega)).2.2 hT
  obtain ⟨k1, k2⟩ := hK.2 21 (by decide) (by decide)
  have hkR : inR k := ⟨by omega, by omega⟩
  have hcl := zi_cl hkR h0
  generalize hf : (fun j => zenc (zrho base adr) (zev h 21 (zdr x) j)) = f at a21
  have fe : ∀ j, f j = .int (Int32.ofInt (hI h (zdr x) j)) := fun j => by rw [← hf]; rfl
  have fit : ∀ j, fits .byte (f j) = true := fun j => by
    rw [fe]
    have g := rng j
    show (decide (-128 ≤ Int32.ofInt (hI h (zdr x) j)) && decide (Int32.ofInt (hI h (zdr x) j) ≤ 127)) = true
    rw [Bool.and_eq_true, decide_eq_true_eq, decide_eq_true_eq, Int32.le_iff_toInt_le, Int32.le_iff_toInt_le, zi_to ⟨by omega, by omega⟩]
    exact ⟨g.1, by show _ ≤ (127 : Int); omega⟩
  rw [lg_entry_eq]
  have hst : ([zR x, zI k].map (zenc (zrho base adr))) = [.ref (zrho base adr (zdr x)), .int (Int32.ofInt k)] := by
    rw [List.map_cons, List.map_cons, zenc_R hs]
    rfl
  rw [hst] at ht ⊢
  rw [ra] at ht a21 ⊢
  have hL9 : hL h (zdr x) < 536870912 := a21.2
  have a21 := a21.1
  have k1 : ∀ n f, s.isArrayOf (arrV (cA 21) n f) .byte := k1
  have nm : s.vm.findClass "[B" = some (cA 21) := k2
  have hLR : inR ((hL h (zdr x) : Nat) : Int) := ⟨by omega, by omega⟩
  have al : base + zdr x < s.heap.size := by omega
  have fin : ∀ (H2 : Heap) (locs2 : List Loc) (c9 s9 : Nat) (ls9 : Array Slot) (pc9 : Nat), c9 = 1 → s9 = k.toNat → (∀ q ∈ locs2, base ≤ q.base) → zRep base adr dC dI cA L0 xs H2 (hCop h x k) → va_S (zA base) s.heap H2 locs2 → decode prog_39_method_121_code pc9 = .ok (.areturn, 1) → W p l e { frames := 1, cells := 1, slots := k.toNat, locals := 40 } s m [Value.ref (base + zdr x), .int (Int32.ofInt k)].toArray below meth c H2 locs2 c9 s9 (vx_MQ below (zQc base adr dC dI cA L0 xs (.inl (some (zR (some (hN h)))), hCop h x k)) (zXc base adr dC dI cA L0 xs (.inl (some (zR (some (hN h)))), hCop h x k)) [Value.ref (base + zdr x), .int (Int32.ofInt k)].toArray s 1 k.toNat (zA base)) (F0 m pc9 ls9 [.ref s.heap.size]) := by
    rintro H2 locs2 _ _ ls9 pc9 rfl rfl hl9 R2 S2 hd9
    refine vx_ret (W.aret hx hb hret (Or.inr ⟨_, rfl⟩) (Or.inr ⟨_, rfl⟩) (fun t ht _ => ⟨some (zR (some (hN h))), rfl, ?_, by rw [ht]; exact R2, va_S.F S2 ht, fun w hw => by cases hw; trivial⟩) hl9 hd9 hlk)
    rw [← rn]
    exact congrArg (fun v => Outcome.returned (some v)) (zenc_R (ρ := zrho base adr) (r := some (hN h)) rfl).symm
  have ent := lv_entry [Value.ref (base + zdr x), .int (Int32.ofInt k)] (n := 3) (show 2 ≤ 3 by decide)
  generalize (lg_sl [Value.ref (base + zdr x), .int (Int32.ofInt k)] ++ List.replicate (3 - (lg_sl [Value.ref (base + zdr x), .int (Int32.ofInt k)]).length) Slot.unset).toArray = ls at *
  have l0 : ls[0]? = some (.val (.ref (base + zdr x))) := ent.2.2 (0, .ref (base + zdr x)) (List.mem_cons_self ..)
  have l1 : ls[1]? = some (.val (.int (Int32.ofInt k))) := ent.2.2 (1, .int (Int32.ofInt k)) (List.mem_cons_of_mem _ (List.mem_cons_self ..))
  refine lv_iload_n hx hb (k := 1) (i := 1) (by decide +kernel) rfl l1 ?_
  refine lv_aload_n hx hb (k := 0) (i := 0) (by decide +kernel) rfl l0 ?_
  refine W.alen (n := Int32.ofInt (hL h (zdr x))) hx hb a21 (k1 _ _) (by rw [arrV_size]; rfl) rfl rfl (show decode prog_39_method_121_code 2 = .ok (.arraylength, 1) by decide +kernel) ?_
  show W p l e _ s m _ below meth c _ _ _ _ _ (F0 m 3 ls [.int (Int32.ofInt (hL h (zdr x))), .int (Int32.ofInt k)])
  refine lv_icmp_ne hx hb (tgt := 14) (off := 11) (by decide +kernel) (by decide) (fun hne => ?_) (fun heq => ?_)
  · refine lv_iload_n hx hb (k := 1) (i := 1) (by decide +kernel) rfl l1 ?_
    refine W.newa hx hb (atype := .byte) (lw_w (w := Cond.arrayClass .byte) (k := 1073) ⟨rfl, rfl⟩ ht) rfl (show decode prog_39_method_121_code 15 = .ok (.newarray .byte, 2) by decide +kernel) rfl (by rw [← zi_0, zi_lt hkR (by decide)]; omega) (by rw [hcl]; show k.toNat * 1 ≤ _; omega) (Nat.le_refl 1) (by rw [hcl]; show 0 + k.toNat ≤ k.toNat; omega) (fun cA9 kA comp f1 f2 f3 => ?_)
    have hcA : cA9 = cA 21 := Option.some.inj (f1.symm.trans nm)
    subst hcA
    rw [hcl, arrV_new]
    show W p l e _ s m _ below meth c (s.heap.push (arrV (cA 21) k.toNat fun _ => .int 0)) _ _ _ _ (F0 m 17 ls [.ref s.heap.size])
    generalize hH1 : s.heap.push (arrV (cA 21) k.toNat fun _ => .int 0) = H1
    have z1 : H1.size = s.heap.size + 1 := by rw [← hH1, Array.size_push]
    have b1 : H1[s.heap.size]? = some (arrV (cA 21) k.toNat fun _ => .int 0) := by rw [← hH1, Array.getElem?_push_size]
    have o1 : ∀ q : Nat, q < s.heap.size → H1[q]? = s.heap[q]? := fun q hq => by rw [← hH1, Array.getElem?_push, if_neg (by omega)]
    have s1 : va_S (zA base) s.heap H1 [] := ⟨by omega, fun q h1 _ => o1 q h1, fun q hq => by cases hq⟩
    have a1 : H1[base + zdr x]? = some (arrV (cA 21) (hL h (zdr x)) f) := (o1 _ al).trans a21
    refine lv_astore_n hx hb (k := 2) (i := 2) (by decide +kernel) rfl ent (by decide) rfl (fun ls2 h2 => ?_)
    have l0 : ls2[0]? = some (.val (.ref (base + zdr x))) := h2.2.2 (0, .ref (base + zdr x)) (List.mem_cons_of_mem _ (List.mem_cons_self ..))
    have l1 : ls2[1]? = some (.val (.int (Int32.ofInt k))) := h2.2.2 (1, .int (Int32.ofInt k)) (List.mem_cons_of_mem _ (List.mem_cons_of_mem _ (List.mem_cons_self ..)))
    have l2 : ls2[2]? = some (.val (.ref s.heap.size)) := h2.2.2 (2, .ref s.heap.size) (List.mem_cons_self ..)
    refine lv_aload_n hx hb (k := 0) (i := 0) (by decide +kernel) rfl l0 ?_
    refine lv_iconst hx hb (n := 0) (v := 0) (by decide +kernel) (by decide) ?_
    refine lv_aload_n hx hb (k := 2) (i := 2) (by decide +kernel) rfl l2 ?_
    refine lv_iconst hx hb (n := 0) (v := 0) (by decide +kernel) (by decide) ?_
    refine lv_aload_n hx hb (k := 0) (i := 0) (by decide +kernel) rfl l0 ?_
    refine W.alen (n := Int32.ofInt (hL h (zdr x))) hx hb a1 (k1 _ _) (by rw [arrV_size]; rfl) rfl rfl (show decode prog_39_method_121_code 23 = .ok (.arraylength, 1) by decide +kernel) ?_
    show W p l e _ s m _ below meth c _ _ _ _ _ (F0 m 24 ls2 [.int (Int32.ofInt (hL h (zdr x))), .int 0, .ref s.heap.size, .int 0, .ref (base + zdr x)])
    refine lv_iload_n hx hb (k := 1) (i := 1) (by decide +kernel) rfl l1 ?_
    refine j_S (y := yMin) (As := [.int (Int32.ofInt (hL h (zdr x))), .int (Int32.ofInt k)]) (rest := [.int 0, .ref s.heap.size, .int 0, .ref (base + zdr x)]) (nL := 3) (maxL := 2) (bytes := prog_28_method_69_code) (ret := some .int) (kc := 1063) (ki := 1003) (kl := 1061) (ks := 1062) m_Min hx hb hml h2.1 hown ht hS s1 ⟨rfl, rfl⟩ ⟨rfl, rfl⟩ ⟨rfl, rfl⟩ ⟨rfl, rfl⟩ (by decide) (na := 2) (by decide +kernel) rfl ⟨Nat.le_refl 1, show 21 ≤ 40 by decide⟩ ⟨Nat.le_refl 1, by show 0 + k.toNat ≤ k.toNat; omega⟩ (show 4 ≤ 8 by decide) (by decide +kernel) ?_
    have mn : (if Int32.ofInt k < Int32.ofInt (hL h (zdr x)) then Int32.ofInt k else Int32.ofInt (hL h (zdr x))) = Int32.ofNat (min k.toNat (hL h (zdr x))) := by
      by_cases c : k < hL h (zdr x)
      · rw [if_pos ((zi_lt hkR hLR).2 c), Nat.min_eq_left (by omega), ← zi_nt]
        congr 1
        omega
      · rw [if_neg (fun z => c ((zi_lt hkR hLR).1 z)), Nat.min_eq_right (by omega), ← zi_nt]
    rw [mn]
    refine w_copyB (cB := cA 21) hx hb (hml.trans h2.1.symm) hown ht (lw_w (k := 1064) ⟨rfl, rfl⟩ ht) k1 (by omega) a1 b1 (Nat.min_le_right _ _) (Nat.min_le_left _ _) (by omega) (fun j _ => fit j) (Nat.le_refl 1) (by show 0 + (nativeFrameWords "java/lang/System" "arraycopy" 5 + 11) ≤ 40; decide) (by decide +kernel) (fun L9 hLb => ?_)
    refine lv_aload_n hx hb (k := 2) (i := 2) (by decide +kernel) rfl l2 ?_
    have oq : ∀ q : Nat, q < s.heap.size → (H1.setIfInBounds s.heap.size (arrV (cA 21) k.toNat (va_cpy f (fun _ => .int 0) 0 0 (min k.toNat (hL h (zdr x))))))[q]? = s.heap[q]? := fun q hq => by
      rw [Array.getElem?_setIfInBounds, if_neg (by omega)]
      exact o1 q hq
    refine fin _ _ _ _ _ _ rfl (Nat.zero_add _) (fun q hq => by
      rcases List.mem_append.1 hq with hq | hq
      · cases hq
      · rw [hLb q hq]; omega) (zRep.cop R1 hlt hT h0 h1 (by rw [Array.size_setIfInBounds]; exact z1) oq hz ?_) ⟨by rw [Array.size_setIfInBounds]; omega, fun q h1 _ => oq q h1, fun q hq => by
      rcases List.mem_append.1 hq with hq | hq
      · cases hq
      · show base ≤ q.base
        rw [hLb q hq]; omega⟩ (by decide +kernel)
    rw [Array.getElem?_setIfInBounds, if_pos rfl, if_pos (by omega)]
    refine congrArg some (arrV_cg fun j hj => ?_)
    unfold va_cpy
    by_cases c : j < hL h (zdr x)
    · rw [if_pos ⟨by omega, by omega⟩, if_pos ⟨c, hj⟩, show 0 + (j - 0) = j by omega, fe]
    · rw [if_neg (by omega), if_neg (fun z => c z.1)]
      rfl
  · have ek : k = hL h (zdr x) := by
      have := congrArg Int32.toInt heq
      rw [zi_to hkR, zi_to hLR] at this
      exact this
    have ek2 : hL h (zdr x) = k.toNat := by omega
    rw [ek2] at a21
    refine lv_aload_n hx hb (k := 0) (i := 0) (by decide +kernel) rfl l0 ?_
    refine w_clone (cB := cA 21) hx hb (hml.trans ent.1.symm) hown ht (lw_w (k := 1054) ⟨rfl, rfl⟩ ht) (hS.2.2.2.2.2.2.2.1 _ (List.mem_append_left _ (by unfold zNw1; simp))) k1 nm a21 (fun j _ => fit j) (Nat.le_refl 1) (by show 0 + 14 ≤ 40; decide) (Nat.le_refl 1) (by show 0 + k.toNat ≤ k.toNat; omega) (by decide +kernel) ?_
    have hg : (s.heap.push (arrV (cA 21) k.toNat f))[s.heap.size]? = some (arrV (cA 21) k.toNat f) := by rw [Array.getElem?_push_size]
    refine w_castB (cB := cA 21) hx hb hown (lw_w (k := 1060) ⟨rfl, rfl⟩ ht) nm hg (by decide +kernel) ?_
    refine fin _ _ _ _ _ _ rfl (Nat.zero_add _) (fun q hq => by cases hq) (zRep.cop R1 hlt hT h0 h1 (by rw [Array.size_push]) (fun q hq => by rw [Array.getElem?_push, if_neg (by omega)]) hz ?_) ⟨by rw [Array.size_push]; omega, fun q h1 h2 => by rw [Array.getElem?_push, if_neg (by omega)], fun q hq => by cases hq⟩ (by decide +kernel)
    rw [hg]
    refine congrArg some (arrV_cg fun j hj => ?_)
    rw [fe, if_pos ⟨by omega, hj⟩]
theorem zw_ok {v2 : Option zV} {h2 : zH} {mc ms : Nat} {S1 : List zV} {st0 : List Value} {a9 : Array Value} (K : zWk p l e R s m args below meth c Q q n r base n0 u0 adr dC dI cA L0 xs) (A : zAt s q base n0 u0 adr dC dI cA L0 xs H locs cells slots ls L S1 h) (eN : hN h2 = hN h + mc) (eU : hU h2 = hU h + ms)
    (hrun : vx_Run p l e R s m args below meth c H locs cells slots mc ms (F0 m pc ls st0) (S1.map (zenc (zrho base adr))) (zQc base adr dC dI cA L0 xs (.inl v2, h2) a9) (zXc base adr dC dI cA L0 xs (.inl v2, h2)) (zA base)) (hr : zX n q (pc + 3) L (v2.toList ++ S1) h2 = some r) : W p l e R s m args below meth c H locs cells slots Q (F0 m pc ls st0) := by
  obtain ⟨a1, a2, a3, a4, a5, a6, a7, a8⟩ := id A
  intro T hT X
  rcases hrun T hT X with ⟨v, st₀, t, T', L9, h0, X', hL, e1, e2, ⟨v3, q1, q2, q3, q4, q6⟩, st⟩ | ⟨q9, st₀, t, T', L9, E, ce, h0, X', hL, e1, e2, ⟨k, q1, q2, q3, q4, q5⟩, hce, hcv, hcl, st⟩
  · obtain ⟨k1, k2, k3⟩ := vx_keep h0 e1 a2 (fun _ _ h => h) (fun _ h => h) hL q4
    cases q1
    rw [← e1] at q3
    have hv : v = v2.map (zenc (zrho base adr)) := by cases q2; rfl
    subst hv
    cases v2 with
    | none =>
      obtain ⟨t2, b1, b2⟩ := K (pc + 3) L S1 h2 T'.heap (locs ++ L9) (cells + mc) (slots + ms) ls hr ⟨q3, k3, a3, a4, a5, a6, by omega, by omega⟩ T' rfl X'
      exact ⟨t2, st t2 b1, b2⟩
    | some w =>
      have hw : zok1 w := q6 w rfl
      obtain ⟨t2, b1, b2⟩ := K (pc + 3) L (w :: S1) h2 T'.heap (locs ++ L9) (cells + mc) (slots + ms) ls hr ⟨q3, k3, a3, a4, a5, a6.cons hw, by omega, by omega⟩ T' rfl X'
      exact ⟨t2, st t2 b1, b2⟩
  · cases q1
set_option maxRecDepth 100000 in
theorem zw_cop {k : Nat} (C : zCtx p l R s m args meth c q base adr adV dC dI cA L0 xs) (K : zWk p l e R s m args below meth c Q q n r base n0 u0 adr dC dI cA L0 xs) (hroom : zRoom R r n0 u0) (hd : decode (zbytes q) pc = .ok (.invokestatic k, 3)) (A : zAt s q base n0 u0 adr dC dI cA L0 xs H locs cells slots ls L S h) (hmlk : (Cond.methodLink (zcn (zown q)) k yCop).before args s = true)
    (hr : (pI S fun i S => pR S fun x S => gd (zob h x 21 ∧ 0 ≤ i ∧ i < 65536 ∧ zcs S ≤ 8 ∧ zrm q 3 80 = true) (zX n q (pc + 3) L (zR (some (hN h)) :: S) (hCop h x i))) = some r) : W p l e R s m args below meth c H locs cells slots Q (F0 m pc ls (S.map (zenc (zrho base adr)))) := by
  obtain ⟨hx, hb, hml, hown, hts, hK, hSt, hin, ⟨hrf, hrl⟩, hl, hexc, hlk⟩ := id C
  obtain ⟨a1, a2, a3, a4, a5, a6, a7, a8⟩ := id A
  obtain ⟨i, S1, rfl, hr0⟩ := pI_some hr
  obtain ⟨x, S0, rfl, hr1⟩ := pR_some hr0
  obtain ⟨⟨⟨g1, g2, g5⟩, h0, h1, g3, g4⟩, hr2⟩ := gd_some hr1
  obtain ⟨rm1, rm2⟩ := zrm_ok g4
  have mo := zX_mo _ _ _ _ _ _ _ hr2
  obtain ⟨ro1, ro2, ro3⟩ := hroom
  have m1 : hN h + 1 ≤ hN r.2 := mo.1
  have m2 : hU h + i.toNat ≤ hU r.2 := mo.2
  have htsg : ∀ w ∈ lw_good, w.before args s = true := fun w hw => hts w (List.mem_filter.mp hw).1 (List.mem_filter.mp hw).2
  have wc : zinP (Cond.code yCop prog_39_method_121_code 3 (some (.array .byte))) 1053 := ⟨rfl, rfl⟩
  refine zw_ok (h2 := hCop h x i) (mc := 1) (ms := i.toNat) (v2 := some (zR (some (hN h)))) (S1 := S0) (a9 := ([zR x, zI i].map (zenc (zrho base adr))).toArray) K ⟨a1, a2, a3, a4, a5, a6.tl.tl, a7, a8⟩ rfl rfl ?_ hr2
  refine vx_runS (n := 2) (As := [zR x, zI i].map (zenc (zrho base adr))) ⟨hx, hb, hml, hown, htsg⟩ (m_Cop g1 g2 g5 h0 h1 (by omega)) ⟨⟨rfl, rfl, by show 1 + 1 ≤ R.frames; omega, by show 8 + (3 + 11) + 40 ≤ R.locals; omega, fun w h => lw_gd w h htsg, lw_good_in ⟨zin_ok wc, wc.2⟩, lw_w wc htsg, lw_w (k := 1004) ⟨rfl, rfl⟩ htsg, by decide, fun sig h => ?_, hmlk⟩, lw_w (k := 1052) ⟨rfl, rfl⟩ htsg⟩ ⟨zPc_blind, fun U hU hW => ⟨rfl, by rw [hU]; exact a1, zK.moved hW.alike hK, by rw [hU]; exact zSt.warm hW (zSt.kept a2.1 a2.2.1 hSt)⟩⟩ rfl rfl (by show ls.size = zmaxl q; rw [a3.1, a4]) rfl (by rw [zcs_e]; exact lv_room0 g3) hd ⟨by omega, by omega⟩
  have hlen : (parseMethodDescriptor yCop.desc).map (fun d => d.parameters.length) = some 2 := by decide +kernel
  rw [h] at hlen
  exact (Option.some.inj hlen).symm
end COPZ
