/-! A method's contract out of its runs; all methods by the fuel. -/
theorem zat_rep (n : Nat) : ∀ i, zat (List.replicate n none) i = none := by
  induction n with
  | zero => intro i; rfl
  | succ n ih =>
    intro i
    rw [List.replicate_succ]
    cases i with
    | zero => rfl
    | succ i => exact ih i
theorem zcs_cons (v : zV) (as : List zV) : zcs (v :: as) = (if zc2 v then 2 else 1) + zcs as := by
  unfold zcs
  rw [List.map_cons, List.sum_cons]
theorem zini_len : ∀ (as : List zV) (n : Nat), zcs as ≤ n → (zini as n).length = n := by
  intro as
  induction as with
  | nil => intro n _; exact List.length_replicate
  | cons v as ih =>
    intro n h
    rw [zcs_cons] at h
    unfold zini
    split at h
    · rename_i hc
      rw [if_pos hc, List.length_cons, List.length_cons, ih _ (by omega)]
      omega
    · rename_i hc
      rw [if_neg hc, List.length_cons, ih _ (by omega)]
      omega
theorem zini_at (ρ : Nat → Nat) : ∀ (as : List zV) (n i j : Nat) (v : zV), zat (zini as n) i = some v → v ∈ as ∧ (j + i, zenc ρ v) ∈ lv_args j (as.map (zenc ρ)) := by
  intro as
  induction as with
  | nil => intro n i j v h; rw [show zini [] n = List.replicate n none from rfl, zat_rep] at h; cases h
  | cons w as ih =>
    intro n i j v h
    unfold zini at h
    simp only [List.map_cons, lv_args, zenc_cat]
    cases hc : zc2 w with
    | true =>
      rw [hc] at h
      simp only [if_true] at h ⊢
      match i, h with
      | 0, h => cases Option.some.inj h; exact ⟨List.mem_cons_self, List.mem_cons_self⟩
      | 1, h => cases h
      | i + 2, h =>
        obtain ⟨h1, h2⟩ := ih (n - 2) i (j + 2) v h
        exact ⟨List.mem_cons_of_mem _ h1, List.mem_cons_of_mem _ (by rw [show j + (i + 2) = j + 2 + i by omega]; exact h2)⟩
    | false =>
      rw [hc] at h
      simp only [Bool.false_eq_true, if_false] at h ⊢
      match i, h with
      | 0, h => cases Option.some.inj h; exact ⟨List.mem_cons_self, List.mem_cons_self⟩
      | i + 1, h =>
        obtain ⟨h1, h2⟩ := ih (n - 1) i (j + 1) v h
        exact ⟨List.mem_cons_of_mem _ h1, List.mem_cons_of_mem _ (by rw [show j + (i + 1) = j + 1 + i by omega]; exact h2)⟩
theorem zsl_len (ρ : Nat → Nat) : ∀ as : List zV, (lg_sl (as.map (zenc ρ))).length = zcs as := by
  intro as
  induction as with
  | nil => rfl
  | cons v as ih =>
    rw [zcs_cons, ← ih]
    unfold lg_sl
    rw [List.map_cons, List.flatMap_cons, List.length_append, zenc_cat]
    cases zc2 v <;> rfl
theorem zini_LS {ρ : Nat → Nat} {as : List zV} {n : Nat} (h : zcs as ≤ n) : zLS ρ ((lg_sl (as.map (zenc ρ)) ++ List.replicate (n - (lg_sl (as.map (zenc ρ))).length) Slot.unset).toArray) (zini as n) := by
  obtain ⟨h1, h2, h3⟩ := lv_entry (as.map (zenc ρ)) (n := n) (by rw [zsl_len]; exact h)
  refine ⟨h1.trans (zini_len as n h).symm, h2, fun i v hv => ?_⟩
  have h4 := (zini_at ρ as n i 0 v hv).2
  rw [Nat.zero_add] at h4
  exact h3 _ h4
noncomputable def zchkR (m : Nat) : Bool := match zrk m, zret m with
  | 0, none => true
  | 1, some .int => true
  | 2, some .long => true
  | 3, some .float => true
  | 4, some .double => true
  | 5, some (.object _) => true
  | 5, some (.array _) => true
  | 6, some .boolean => true
  | 7, some .char => true
  | 8, some .byte => true
  | _, _ => false
set_option maxRecDepth 1000000 in
theorem zchkR_all : ∀ j, j < 261 → zchkR j = true := by decide +kernel
theorem zchkR_ok {q : Nat} (h : q < 261) : (zrk q = 0 → zret q = none) ∧ (zrk q = 1 → zret q = some .int) ∧ (zrk q = 2 → zret q = some .long) ∧ (zrk q = 3 → zret q = some .float) ∧ (zrk q = 4 → zret q = some .double) ∧ (zrk q = 5 → ∃ t, zret q = some t ∧ ((∃ n, t = .object n) ∨ ∃ u, t = .array u)) ∧ (zrk q = 6 → zret q = some .boolean) ∧ (zrk q = 7 → zret q = some .char) ∧ (zrk q = 8 → zret q = some .byte) := by
  have h1 := zchkR_all q h
  unfold zchkR at h1
  generalize zrk q = a at h1 ⊢
  generalize zret q = b at h1 ⊢
  split at h1
  all_goals first | (exact absurd h1 (by decide)) | simp
theorem vx_ofF {l : Launch} {y : MethodName} {ws : List Cond} {rm : Room} {Pc : Array Value → State → Prop} {Qc : Array Value → State → Outcome → State → Prop} {XC : String → State → State → Prop} {mc ms : Nat} {free : Addr → Prop} {cc : ByteArray} {maxL : Nat} {ret : Option FieldType}
    (hy : plainFor y = true)
    (his : ∀ (args : Array Value) (s : State) (m : MethodId), (headSpec ws rm).pre.before args s = true → s.methodNamed? y = some m → ∃ meth c, s.vm.method? m = some meth ∧ meth.code = some c ∧ c.code = cc ∧ c.maxLocals = maxL ∧ meth.sig.returnType = ret ∧ meth.locks = false)
    (body : ∀ p e s m args below meth c s₁, BodyLoose p l y (headSpec ws rm) cc maxL ret e s m args below meth c s₁ → c.maxLocals = maxL → Pc args s →
      W p l e rm s m args below meth c s.heap [] 0 0 (vx_MQ below Qc XC args s mc ms free) (entryFrame m args maxL)) : vx_Met l y ws rm Pc Qc XC mc ms free := by
  refine MetFree.of_bodySF (code := cc) (maxLocals := maxL) (ret := ret) hy his ?_
  intro p e s m args below meth c s₁ B hml hP _
  have hh0 : s₁.heap = s.heap := by rw [B.state]; rfl
  obtain ⟨t, a1, o, b1, b2, b3⟩ := body p e s m args below meth c s₁ B hml hP s₁ hh0 (Stand.of_body B)
  exact ⟨t, o, a1, b1, b2, b3⟩
theorem zi_char {x : Int} (h0 : 0 ≤ x) (h1 : x < 65536) : narrow .char (.int (Int32.ofInt x)) = .int (Int32.ofInt x) := by
  refine congrArg Value.int ?_
  apply Int32.toBitVec.inj
  apply BitVec.eq_of_toNat_eq
  have e : (Int32.ofInt x).toBitVec.toNat = x.toNat := by
    rw [Int32.toBitVec_ofInt, BitVec.toNat_ofInt]; omega
  have e2 : ((Int32.ofInt x).toUInt32.toUInt16.toUInt32).toNat = x.toNat := by
    rw [UInt16.toNat_toUInt32, UInt32.toNat_toUInt16, show (Int32.ofInt x).toUInt32.toNat = x.toNat from e]; omega
  exact e2.trans e.symm
theorem zhh_n2 : ∀ q, q < 261 → zcw q = true ∨ zhh q = [] := by decide +kernel
theorem zword_13 {k : Nat} (h : zcw k = true) : zword k = .codeWith (zy k) (zbytes k) (zmaxl k) (zret k) (zhh k) := by
  unfold zword
  rw [h]
  rfl
theorem zword_n {k : Nat} (h : zcw k = false) : zword k = .code (zy k) (zbytes k) (zmaxl k) (zret k) := by
  unfold zword
  rw [h]
  rfl
theorem zmeth_his {k : Nat} {rm : Room} (args : Array Value) (s : State) (m : MethodId) (h : (headSpec (zws k) rm).pre.before args s = true) (hn : s.methodNamed? (zy k) = some m) : ∃ meth c, s.vm.method? m = some meth ∧ meth.code = some c ∧ c.code = zbytes k ∧ c.maxLocals = zmaxl k ∧ meth.sig.returnType = zret k ∧ meth.locks = false := by
  have hw := atoms_spec (ws := zws k) h (zword k) List.mem_cons_self
  by_cases h13 : zcw k = true
  · rw [zword_13 h13] at hw
    obtain ⟨m9, meth, c, hn9, h1, h2, h3, h4, -, h5, h6, -⟩ := Cond.codeWith_spec hw
    cases hn.symm.trans hn9
    exact ⟨meth, c, h1, h2, h3, h4, h5, h6⟩
  · rw [zword_n (Bool.eq_false_iff.mpr h13)] at hw
    obtain ⟨meth, c, h1, h2, h3, h4, h5, h6, -, -⟩ := Cond.code_spec hn hw
    exact ⟨meth, c, h1, h2, h3, h4, h5, h6⟩
section ZM
variable {p : Program} {l : Launch} {e : Env} {R : Room} {s s₁ : State} {m : MethodId} {args : Array Value} {below : List Frame} {meth : Method} {c : Code} {Q : State → Prop} {rm : Room}
variable {q n : Nat} {r : (Option zV ⊕ Nat) × zH} {base n0 u0 : Nat} {adr adV : Nat → Nat} {dC : Nat → ClassId} {dI : Nat → Nat → Nat} {cA : Nat → ClassId} {L0 : Nat} {xs : Nat → Int32}
theorem zCtx_of {k : Nat} (hk : k < 261) (hl : l.stackTraces = false) (B : BodyLoose p l (zy k) (headSpec (zws k) rm) (zbytes k) (zmaxl k) (zret k) e s m args below meth c s₁) (hml : c.maxLocals = zmaxl k) (hK : zK dC dI cA s) (hS : zSt base adr adV L0 xs s s.heap) (hR : zrf k ≤ R.frames ∧ zrl k ≤ R.locals) : zCtx p l R s m args meth c k base adr adV dC dI cA L0 xs := by
  obtain ⟨b1, b2, b3, b4, b5, b6, b7, b8, b9, b10⟩ := zA2 hk
  have hat := atoms_spec (ws := zws k) B.pre
  have hgood : ∀ w ∈ lw_tbl, goodWord w = true → w.before args s = true := fun w h1 h2 => hat w (List.mem_cons_of_mem _ (List.mem_filter.mpr ⟨h1, h2⟩))
  have hzw := hat (zword k) List.mem_cons_self
  have hcode := (Stand.of_body B).code
  refine ⟨B.exec, B.bytes, hml, ?_, hgood, hK, hS, ?_, hR, hl, ?_, B.notSynchronized⟩
  · rw [← b1]
    exact findClass_of_methodNamed B.named
  · intro hc
    rw [b6] at hc
    rw [(name_of_methodNamed B.named B.method).1]
    exact of_decide_eq_true hc
  · by_cases h13 : zcw k = true
    · rw [zword_13 h13] at hzw
      have h9 := vx_table (x := zy k) B hzw
      show c.exceptionTable.toList.map _ = _
      rw [h9]
      unfold tableOf
      rw [List.map_map]
      exact List.map_id _
    · rw [zword_n (Bool.eq_false_iff.mpr h13)] at hzw
      obtain ⟨meth9, c9, h1, h2, -, -, -, -, h7, -⟩ := Cond.code_spec B.named hzw
      cases Option.some.inj (h1.symm.trans B.method)
      cases Option.some.inj (h2.symm.trans hcode)
      show c.exceptionTable.toList.map _ = _
      rw [Array.isEmpty_iff.mp h7, (zhh_n2 k (by omega)).resolve_left h13]
      rfl
abbrev zMQ (below : List Frame) (base : Nat) (adr : Nat → Nat) (dC : Nat → ClassId) (dI : Nat → Nat → Nat) (cA : Nat → ClassId) (L0 : Nat) (xs : Nat → Int32) (r : (Option zV ⊕ Nat) × zH) (args : Array Value) (s : State) (n0 u0 : Nat) : State → Prop := vx_MQ below (zQc base adr dC dI cA L0 xs r) (zXc base adr dC dI cA L0 xs r) args s (hN r.2 - n0) (hU r.2 - u0) (zA base)
set_option maxRecDepth 100000 in
theorem zRt_of (C : zCtx p l R s m args meth c q base adr adV dC dI cA L0 xs) (hr : meth.sig.returnType = zret q) (hq : q < 261) : zRt p l e R s m args below meth c (zMQ below base adr dC dI cA L0 xs r args s n0 u0) q r base n0 u0 adr dC dI cA L0 xs := by
  obtain ⟨hx, hb, hml, hown, hts, hK, hSt, hin, ⟨hrf, hrl⟩, hl, hexc, hlk⟩ := id C
  obtain ⟨r0, r1, r2, r3, r4, r5, r6, r7, r8⟩ := zchkR_ok hq
  intro pc i v L h H locs cells slots ls hr1 A hd hk
  obtain ⟨a1, a2, a3, a4, a5, a6, a7, a8⟩ := id A
  have hf : ∀ z ∈ locs, zA base z.base := a2.2.2
  have hq2 : ∀ t : State, t.heap = H → zQc base adr dC dI cA L0 xs r args s (.returned (v.map (zenc (zrho base adr)))) t := fun t ht => ⟨v, by rw [hr1], rfl, by rw [hr1, ht]; exact a1, va_S.F a2 ht, fun w hw => a6 w (by rw [hw]; exact List.mem_singleton.mpr rfl)⟩
  unfold zMQ
  rw [show hN r.2 - n0 = cells by rw [hr1]; show hN h - n0 = cells; omega, show hU r.2 - u0 = slots by rw [hr1]; show hU h - u0 = slots; omega]
  cases i with
  | ireturn =>
    rcases v with _ | (x | x | x | x | x)
    · exact hk.elim
    · rcases hk with g | ⟨g, g2⟩ | ⟨g, g2, g3⟩ | ⟨g, g2, g3⟩
      · exact vx_ret (W.iret hx hb (hr.trans (r1 g)) (fun t ht _ => hq2 t ht) hf hd hlk)
      · exact vx_ret (W.zret hx hb (hr.trans (r6 g)) (by rcases g2 with rfl | rfl <;> rfl) (fun t ht _ => hq2 t ht) hf hd hlk)
      · exact vx_ret (W.zret hx hb (hr.trans (r7 g)) (zi_char g2 g3) (fun t ht _ => hq2 t ht) hf hd hlk)
      · exact vx_ret (W.zret hx hb (hr.trans (r8 g)) (zi_byte g2 g3) (fun t ht _ => hq2 t ht) hf hd hlk)
    · exact hk.elim
    · exact hk.elim
    · exact hk.elim
    · exact hk.elim
  | lreturn =>
    rcases v with _ | (x | x | x | x | x)
    · exact hk.elim
    · exact hk.elim
    · exact vx_ret (W.lret hx hb (hr.trans (r2 hk)) (fun t ht _ => hq2 t ht) hf hd hlk)
    · exact hk.elim
    · exact hk.elim
    · exact hk.elim
  | freturn =>
    rcases v with _ | (x | x | x | x | x)
    · exact hk.elim
    · exact hk.elim
    · exact hk.elim
    · exact vx_ret (W.fret hx hb (hr.trans (r3 hk)) (fun t ht _ => hq2 t ht) hf hd hlk)
    · exact hk.elim
    · exact hk.elim
  | dreturn =>
    rcases v with _ | (x | x | x | x | x)
    · exact hk.elim
    · exact hk.elim
    · exact hk.elim
    · exact hk.elim
    · exact vx_ret (W.dret hx hb (hr.trans (r4 hk)) (fun t ht _ => hq2 t ht) hf hd hlk)
    · exact hk.elim
  | areturn =>
    rcases v with _ | (x | x | x | x | x)
    · exact hk.elim
    · exact hk.elim
    · exact hk.elim
    · exact hk.elim
    · exact hk.elim
    · obtain ⟨ty, e1, e2⟩ := r5 hk
      exact vx_ret (W.aret hx hb (hr.trans e1) e2 (by cases x with
        | none => exact Or.inl rfl
        | some a => exact Or.inr ⟨_, rfl⟩) (fun t ht _ => hq2 t ht) hf hd hlk)
  | return_ =>
    rcases v with _ | (x | x | x | x | x)
    · exact vx_ret (W.vret hx hb (hr.trans (r0 hk)) (fun t ht _ => hq2 t ht) hf hd hlk)
    · exact hk.elim
    · exact hk.elim
    · exact hk.elim
    · exact hk.elim
    · exact hk.elim
  | _ => exact hk.elim
theorem zout {pc : Nat} (hq : q < 261) (h13 : zown q ≠ 13) (hexc : zExc c q) : ∀ x ∈ c.exceptionTable.toList, covers x pc = false := by
  intro x hx
  unfold zExc at hexc
  rw [(zhh_nil q (by omega)).resolve_left h13] at hexc
  have h9 := List.map_eq_nil_iff.mp hexc
  rw [h9] at hx
  cases hx
theorem zPr_of (C : zCtx p l R s m args meth c q base adr adV dC dI cA L0 xs) (hq : q < 261) : zPr p l e R s m args below meth c (zMQ below base adr dC dI cA L0 xs r args s n0 u0) q r base n0 u0 adr dC dI cA L0 xs := by
  obtain ⟨hx, hb, hml, hown, hts, hK, hSt, hin, ⟨hrf, hrl⟩, hl, hexc, hlk⟩ := id C
  intro pc k h H locs cells slots ls rest q9 ce hr1 hk hk2 h13 a1 a2 a7 a8 hcell hv hcl
  unfold zMQ
  rw [show hN r.2 - n0 = cells by rw [hr1]; show hN h - n0 = cells; omega, show hU r.2 - u0 = slots by rw [hr1]; show hU h - u0 = slots; omega]
  exact vx_out (E := zen k) (zout hq h13 hexc) hlk hcell hv hcl (fun t ht _ => ⟨k, by rw [hr1], hk, hk2, rfl, by rw [hr1, ht]; exact a1, va_S.F a2 ht⟩) a2.2.2 (Nat.le_refl _) (Nat.le_refl _)
theorem zyy_ex (E : Nat) (hE : E < 4) : zyy (910 + E) = Bundle.init0 (zen E) := by
  match E, hE with
  | 0, _ => rfl
  | 1, _ => rfl
  | 2, _ => rfl
  | 3, _ => rfl
theorem zov_ex (E : Nat) (hE : E < 4) : zovr (910 + E) = false := by
  match E, hE with
  | 0, _ => rfl
  | 1, _ => rfl
  | 2, _ => rfl
  | 3, _ => rfl
theorem zfit_ex (E : Nat) (hE : E < 4) : Bundle.fit (zen E) = true := by
  match E, hE with
  | 0, _ => rfl
  | 1, _ => rfl
  | 2, _ => rfl
  | 3, _ => rfl
theorem zini_ex (E : Nat) (hE : E < 4) (h2 : E ≠ 2) : ∃ p, zinP (.initialized (zen E)) p := by
  match E, hE, h2 with
  | 0, _, _ => exact ⟨1028, rfl, rfl⟩
  | 1, _, _ => exact ⟨1029, rfl, rfl⟩
  | 2, _, h => exact absurd rfl h
  | 3, _, _ => exact ⟨1030, rfl, rfl⟩
theorem zTh_of (C : zCtx p l R s m args meth c q base adr adV dC dI cA L0 xs) (hroom : zRoom R r n0 u0) (hq : q < 261) : zTh p l e R s m args below meth c (zMQ below base adr dC dI cA L0 xs r args s n0 u0) q r base n0 u0 adr dC dI cA L0 xs := by
  obtain ⟨hx, hb, hml, hown, hts, hK, hSt, hin, ⟨hrf, hrl⟩, hl, hexc, hlk⟩ := id C
  intro pc k c9 n2 L S h H locs cells slots ls hr1 A hk9 h100 hn2 h13 hrm d0 d3 d4 d7
  obtain ⟨a1, a2, a3, a4, a5, a6, a7, a8⟩ := id A
  obtain ⟨lw, lr⟩ := lkC _ _ _ hk9
  obtain ⟨mw, -, -, mo9⟩ := lkM _ _ _ hn2
  obtain ⟨E, rfl⟩ : ∃ E, c9 = 100 + E := ⟨c9 - 100, by omega⟩
  have hE : E < 4 := by omega
  have hE2 : E ≠ 2 := by omega
  rw [Nat.add_sub_cancel_left] at hr1 lw
  rw [show Nat.blt (100 + E) 100 = false from Bool.eq_false_iff.mpr fun g => by have := Nat.ble_eq.mp g; omega] at lw
  rw [show 810 + (100 + E) = 910 + E by omega, zlk_yy (mo9.symm.trans (by rw [show 810 + (100 + E) = 910 + E by omega]; exact zov_ex E hE)), zyy_ex E hE] at mw
  obtain ⟨pi, iw⟩ := zini_ex E hE hE2
  obtain ⟨rm1, rm2⟩ := zrm_ok hrm.2
  obtain ⟨ro1, ro2, ro3⟩ := hroom
  have e1 : hN r.2 = hN h + 1 := by rw [hr1]; rfl
  have e2 : hU r.2 = hU h + 6 := by rw [hr1]; rfl
  have hStE := hSt.2.2.2.2.2.2
  have hat : ∀ w ∈ vx_at0 (zcn (zown q)) n2 (zen E) zoaN, w.before args s = true := fun w hw => by
    rcases zoa_own hE hE2 w hw with rfl | h1 | h1
    · exact hts _ (zin_ok mw) mw.2
    · exact hts _ h1.1 h1.2
    · exact va_Nw.use h1.2 (hStE.2.1 w h1.1)
  have hgood : ∀ w ∈ Cond.classLink (zcn (zown q)) k (zen E) :: Cond.initialized (zen E) :: vx_at0 (zcn (zown q)) n2 (zen E) zoaN, vx_ot w = true := fun w hw => by
    unfold vx_ot
    rw [Bool.or_eq_true]
    rcases List.mem_cons.mp hw with rfl | hw
    · exact Or.inr lw.2
    rcases List.mem_cons.mp hw with rfl | hw
    · exact Or.inr iw.2
    rcases zoa_own hE hE2 w hw with rfl | h1 | h1
    · exact Or.inr mw.2
    · exact Or.inr h1.2
    · exact Or.inl h1.2
  have hcs : ((S.map (zenc (zrho base adr))).map fun v => v.category).sum ≤ 8 := by rw [zcs_e]; exact hrm.1
  refine vx_throw0 (names := zoaN) (A := zA base) hx hb hl hown (zfit_ex E hE) (by decide) (hts _ (zin_ok lw) lw.2) (hts _ (zin_ok iw) iw.2) hat hgood hStE.1.1 hStE.1.2 a2 (by rw [hml, a3.1, a4]) d0 d3 d4 d7 (zout hq h13 hexc) (by show 2 + 3 < R.frames; omega) (by show _ + (13 * (2 + 1) + 42) ≤ R.locals; omega) (by omega) (by omega) hlk ?_ a2.2.2 (by omega) (by omega)
  intro t hal hts9 hold
  refine ⟨E, by rw [hr1], hE, hE2, rfl, ?_, ?_⟩
  · rw [hr1]
    have ht : hT (hNew h 0 6) (hN h) = 0 := if_pos rfl
    exact zRep.alloc a1 hts9 hold (by omega) ⟨fun g => by rw [ht] at g; omega, fun g => by rw [ht] at g; omega, Or.inl (by rw [ht]; omega)⟩
  · refine ⟨by have := a2.1; omega, fun q9 h9 hA => ?_⟩
    rw [hold q9 (by have := a2.1; omega)]
    exact a2.2.1 q9 h9 hA
theorem zMt_of {k : Nat} {as : List zV} {h : zH} {x : (Option zV ⊕ Nat) × zH} (hl : l.stackTraces = false) (hk : k < 261) (hz : zX n k 0 (zini as (zmaxl k)) [] h = some x) (hcs : zcs as ≤ zmaxl k) (hok : zSok as) (hVB : hN x.2 < zVB)
    (hIH : ∀ j, j < n → zIH l j base adr adV dC dI cA L0 xs) : zMt l adV base adr dC dI cA L0 xs k as h x := by
  unfold zMt
  have hmo := zX_mo _ _ _ _ _ _ _ hz
  refine vx_ofF (cc := zbytes k) (maxL := zmaxl k) (ret := zret k) (zA2 hk).2.1 (fun args s m h hn => zmeth_his args s m h hn) ?_
  intro p e s m args below meth c s₁ B hml hP
  obtain ⟨ha, hrep, hK, hS⟩ := hP
  have C := zCtx_of (R := { frames := zrf k, cells := hN x.2 - hN h, slots := hU x.2 - hU h, locals := zrl k }) hk hl B hml hK hS ⟨Nat.le_refl _, Nat.le_refl _⟩
  have m1 := hmo.1
  have m2 := hmo.2
  have hroom : zRoom { frames := zrf k, cells := hN x.2 - hN h, slots := hU x.2 - hU h, locals := zrl k } x (hN h) (hU h) := ⟨by show _ ≤ hN h + (hN x.2 - hN h); omega, by show _ ≤ hU h + (hU x.2 - hU h); omega, hVB⟩
  have hall : ∀ j, j ≤ n → zWk p l e { frames := zrf k, cells := hN x.2 - hN h, slots := hU x.2 - hU h, locals := zrl k } s m args below meth c (zMQ below base adr dC dI cA L0 xs x args s (hN h) (hU h)) k j x base (hN h) (hU h) adr dC dI cA L0 xs := by
    intro j
    induction j with
    | zero => intro _ pc L S h H locs cells slots ls hr; cases hr
    | succ j ih =>
      intro hj
      exact zWk_next C (ih (by omega)) (zRt_of C B.returns hk) (zTh_of C hroom hk) (zPr_of C hk) hroom (hIH j (by omega))
  have he : entryFrame m args (zmaxl k) = F0 m 0 ((lg_sl (as.map (zenc (zrho base adr))) ++ List.replicate (zmaxl k - (lg_sl (as.map (zenc (zrho base adr)))).length) Slot.unset).toArray) [] := by
    rw [ha]
    exact lg_entry_eq _ _ _
  rw [he]
  refine hall n (Nat.le_refl _) 0 (zini as (zmaxl k)) [] h s.heap [] 0 0 _ hz ⟨hrep, va_S.rf, zini_LS hcs, zini_len _ _ hcs, ?_, (fun v hv => nomatch hv), Nat.zero_add _, Nat.zero_add _⟩
  exact fun i v hv => hok v (zini_at (zrho base adr) as _ i 0 v hv).1
theorem zIH_all (hl : l.stackTraces = false) : ∀ n, zIH l n base adr adV dC dI cA L0 xs := by
  intro n
  induction n using Nat.strongRecOn with
  | _ n ih =>
    intro k as h x hk hz hlen hcs hok hVB
    exact zMt_of hl hk hz hcs hok hVB ih
end ZM
