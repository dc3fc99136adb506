/-! One step of the real machine for one of the small one: what stays in the method and makes nothing. -/
theorem zSok.tl {v : zV} {S : List zV} (h : zSok (v :: S)) : zSok S := fun w hw => h w (List.mem_cons_of_mem _ hw)
theorem zSok.hd {v : zV} {S : List zV} (h : zSok (v :: S)) : zok1 v := h v List.mem_cons_self
theorem zSok.cons {v : zV} {S : List zV} (h : zSok S) (hv : zok1 v) : zSok (v :: S) := fun w hw => (List.mem_cons.mp hw).elim (fun e => by rw [e]; exact hv) (h w)
def zExc (c : Code) (q : Nat) : Prop := c.exceptionTable.toList.map (fun h => (h.startPc, h.endPc, h.handlerPc, h.catchType)) = zhh q
def zCtx (p : Program) (l : Launch) (R : Room) (s : State) (m : MethodId) (args : Array Value) (meth : Method) (c : Code) (q base : Nat) (adr adV : Nat → Nat) (dC : Nat → ClassId) (dI : Nat → Nat → Nat) (cA : Nat → ClassId) (L0 : Nat) (xs : Nat → Int32) : Prop :=
  p.tables.exec = Jvm.exec ∧ c.code = zbytes q ∧ c.maxLocals = zmaxl q ∧ s.vm.findClass (zcn (zown q)) = some m.cls ∧ (∀ w ∈ lw_tbl, goodWord w = true → w.before args s = true) ∧ zK dC dI cA s ∧ zSt base adr adV L0 xs s s.heap ∧ (zctor q = true → meth.name = "<init>") ∧ (zrf q ≤ R.frames ∧ zrl q ≤ R.locals) ∧ l.stackTraces = false ∧ zExc c q ∧ meth.locks = false
def zAt (s : State) (q base n0 u0 : Nat) (adr : Nat → Nat) (dC : Nat → ClassId) (dI : Nat → Nat → Nat) (cA : Nat → ClassId) (L0 : Nat) (xs : Nat → Int32) (H : Heap) (locs : List Loc) (cells slots : Nat) (ls : Array Slot) (L : zL) (S : List zV) (h : zH) : Prop :=
  zRep base adr dC dI cA L0 xs H h ∧ va_S (zA base) s.heap H locs ∧ zLS (zrho base adr) ls L ∧ L.length = zmaxl q ∧ zLok L ∧ zSok S ∧ cells + n0 = hN h ∧ slots + u0 = hU h
def zWk (p : Program) (l : Launch) (e : Env) (R : Room) (s : State) (m : MethodId) (args : Array Value) (below : List Frame) (meth : Method) (c : Code) (Q : State → Prop) (q n : Nat) (r : (Option zV ⊕ Nat) × zH) (base n0 u0 : Nat) (adr : Nat → Nat) (dC : Nat → ClassId) (dI : Nat → Nat → Nat) (cA : Nat → ClassId) (L0 : Nat) (xs : Nat → Int32) : Prop :=
  ∀ (pc : Nat) (L : zL) (S : List zV) (h : zH) (H : Heap) (locs : List Loc) (cells slots : Nat) (ls : Array Slot), zX n q pc L S h = some r → zAt s q base n0 u0 adr dC dI cA L0 xs H locs cells slots ls L S h → W p l e R s m args below meth c H locs cells slots Q (F0 m pc ls (S.map (zenc (zrho base adr))))
theorem zst1_back {L L' : zL} {n : Nat} {v : Option zV} (h : zst1 L n v = some L') {i : Nat} {w : zV} (hi : i ≠ n) (hw : zat L' i = some w) : zat L i = some w := by
  unfold zst1 at h
  rw [Option.bind_eq_some_iff] at h
  obtain ⟨L1, h1, h2⟩ := h
  rw [(zput_spec h2).2.2, if_neg hi] at hw
  exact ((zkil_spec h1).2 i w hw).1
theorem zst2_back {L L' : zL} {n : Nat} {v : zV} (h : zst2 L n v = some L') {i : Nat} {w : zV} (hi : i ≠ n) (hw : zat L' i = some w) : zat L i = some w := by
  unfold zst2 at h
  simp only [Option.bind_eq_some_iff] at h
  obtain ⟨L1, h1, L2, h2, h3⟩ := h
  rw [(zput_spec h3).2.2] at hw
  split at hw
  · cases hw
  rw [(zput_spec h2).2.2, if_neg hi] at hw
  exact ((zkil_spec h1).2 i w hw).1
theorem zand_e (x y : Int) : Int32.ofInt (zand x y) = Int32.ofInt x &&& Int32.ofInt y := zi_of _
theorem zor_e (x y : Int) : Int32.ofInt (zor x y) = Int32.ofInt x ||| Int32.ofInt y := zi_of _
theorem zxor_e (x y : Int) : Int32.ofInt (zxor x y) = Int32.ofInt x ^^^ Int32.ofInt y := zi_of _
theorem zshl_e (x y : Int) : Int32.ofInt (zshl x y) = Int32.ofInt x <<< (Int32.ofInt y &&& 31) := zi_of _
theorem zshr_e (x y : Int) : Int32.ofInt (zshr x y) = Int32.ofInt x >>> (Int32.ofInt y &&& 31) := zi_of _
theorem zushr_e (x y : Int) : Int32.ofInt (zushr x y) = ((Int32.ofInt x).toUInt32 >>> ((Int32.ofInt y).toUInt32 &&& Int32.toUInt32 31)).toInt32 := zi_of _
theorem zn32_ok {r : UInt32} (h : zn32 r = true) : vf_n32 r := of_decide_eq_true (p := r &&& 0x7fffffff ≤ 0x7f800000) h
theorem zn64_ok {r : UInt64} (h : zn64 r = true) : vf_n64 r := of_decide_eq_true (p := r &&& 0x7fffffffffffffff ≤ 0x7ff0000000000000) h
theorem zlcmp_r (x y : BitVec 64) : inR (zlcmp x y) := by
  unfold zlcmp
  split
  · decide
  · split <;> decide
theorem zlcmp_e (x y : BitVec 64) : lg_cmp (Int64.ofBitVec x) (Int64.ofBitVec y) = Int32.ofInt (zlcmp x y) := by
  have h1 : (Int64.ofBitVec y < Int64.ofBitVec x) ↔ y.slt x = true := Iff.rfl
  have h2 : (Int64.ofBitVec x = Int64.ofBitVec y) ↔ x = y := ⟨fun h => congrArg Int64.toBitVec h, fun h => by rw [h]⟩
  have h3 : y.slt x = true ↔ y.toInt < x.toInt := BitVec.slt_iff_toInt_lt
  have h4 : x.slt y = true ↔ x.toInt < y.toInt := BitVec.slt_iff_toInt_lt
  unfold lg_cmp zlcmp
  by_cases e : x = y
  · subst e
    simp [h1, h3]
  · have e2 : x.toInt ≠ y.toInt := fun h => e (BitVec.eq_of_toInt_eq h)
    simp only [h1, h2, h3, h4, e, if_false]
    by_cases g : x.toInt < y.toInt
    · rw [if_neg (by omega), if_pos g]; rfl
    · rw [if_pos (by omega), if_neg g]; rfl
section ZW
variable {p : Program} {l : Launch} {e : Env} {R : Room} {s : State} {m : MethodId} {args : Array Value} {below : List Frame} {meth : Method} {c : Code} {Q : State → Prop}
variable {q n : Nat} {r : (Option zV ⊕ Nat) × zH} {base n0 u0 : Nat} {adr adV : Nat → Nat} {dC : Nat → ClassId} {dI : Nat → Nat → Nat} {cA : Nat → ClassId} {L0 : Nat} {xs : Nat → Int32}
variable {pc len : Nat} {L : zL} {S : List zV} {h : zH} {H : Heap} {locs : List Loc} {cells slots : Nat} {ls : Array Slot}
theorem zw_iload {k : Nat} (C : zCtx p l R s m args meth c q base adr adV dC dI cA L0 xs) (K : zWk p l e R s m args below meth c Q q n r base n0 u0 adr dC dI cA L0 xs) (hd : decode (zbytes q) pc = .ok (.iload k, len)) (hn : zilen (.iload k) = 0 ∨ len = zilen (.iload k)) (A : zAt s q base n0 u0 adr dC dI cA L0 xs H locs cells slots ls L S h)
    (hr : zExe q pc len (.iload k) L S h (fun pc L S h => zX n q pc L S h) (fun v h => some (.inl v, h)) (fun E h => some (.inr E, h)) (fun k as pc2 L S h => zBack (zX n) q pc pc2 L S (zX n k 0 (zini as (zmaxl k)) [] h)) = some r) : W p l e R s m args below meth c H locs cells slots Q (F0 m pc ls (S.map (zenc (zrho base adr)))) := by
  obtain ⟨hx, hb, hml, hown, hts, hK, hSt, hin, ⟨hrf, hrl⟩, hl, hexc, hlk⟩ := id C
  obtain ⟨a1, a2, a3, a4, a5, a6, a7, a8⟩ := id A
  obtain rfl : len = 2 := hn.resolve_left (by simp [zilen])
  simp only [zExe] at hr
  unfold zload at hr
  obtain ⟨v, hv, hr1⟩ := zlv_some hr
  have g := a3.at hv
  rcases v with x | x | x | x | x <;> simp only [reduceCtorEq] at hr1
  exact lv_iload hx hb hd g (K _ _ (zI x :: S) _ _ _ _ _ _ hr1 ⟨a1, a2, a3, a4, a5, a6.cons (a5 _ _ hv), a7, a8⟩)
theorem zw_iload_n {k : Fin 4} (C : zCtx p l R s m args meth c q base adr adV dC dI cA L0 xs) (K : zWk p l e R s m args below meth c Q q n r base n0 u0 adr dC dI cA L0 xs) (hd : decode (zbytes q) pc = .ok (.iload_n k, len)) (hn : zilen (.iload_n k) = 0 ∨ len = zilen (.iload_n k)) (A : zAt s q base n0 u0 adr dC dI cA L0 xs H locs cells slots ls L S h)
    (hr : zExe q pc len (.iload_n k) L S h (fun pc L S h => zX n q pc L S h) (fun v h => some (.inl v, h)) (fun E h => some (.inr E, h)) (fun k as pc2 L S h => zBack (zX n) q pc pc2 L S (zX n k 0 (zini as (zmaxl k)) [] h)) = some r) : W p l e R s m args below meth c H locs cells slots Q (F0 m pc ls (S.map (zenc (zrho base adr)))) := by
  obtain ⟨hx, hb, hml, hown, hts, hK, hSt, hin, ⟨hrf, hrl⟩, hl, hexc, hlk⟩ := id C
  obtain ⟨a1, a2, a3, a4, a5, a6, a7, a8⟩ := id A
  obtain rfl : len = 1 := hn.resolve_left (by simp [zilen])
  simp only [zExe] at hr
  unfold zload at hr
  obtain ⟨v, hv, hr1⟩ := zlv_some hr
  have g := a3.at hv
  rcases v with x | x | x | x | x <;> simp only [reduceCtorEq] at hr1
  exact lv_iload_n hx hb hd rfl g (K _ _ (zI x :: S) _ _ _ _ _ _ hr1 ⟨a1, a2, a3, a4, a5, a6.cons (a5 _ _ hv), a7, a8⟩)
theorem zw_lload {k : Nat} (C : zCtx p l R s m args meth c q base adr adV dC dI cA L0 xs) (K : zWk p l e R s m args below meth c Q q n r base n0 u0 adr dC dI cA L0 xs) (hd : decode (zbytes q) pc = .ok (.lload k, len)) (hn : zilen (.lload k) = 0 ∨ len = zilen (.lload k)) (A : zAt s q base n0 u0 adr dC dI cA L0 xs H locs cells slots ls L S h)
    (hr : zExe q pc len (.lload k) L S h (fun pc L S h => zX n q pc L S h) (fun v h => some (.inl v, h)) (fun E h => some (.inr E, h)) (fun k as pc2 L S h => zBack (zX n) q pc pc2 L S (zX n k 0 (zini as (zmaxl k)) [] h)) = some r) : W p l e R s m args below meth c H locs cells slots Q (F0 m pc ls (S.map (zenc (zrho base adr)))) := by
  obtain ⟨hx, hb, hml, hown, hts, hK, hSt, hin, ⟨hrf, hrl⟩, hl, hexc, hlk⟩ := id C
  obtain ⟨a1, a2, a3, a4, a5, a6, a7, a8⟩ := id A
  obtain rfl : len = 2 := hn.resolve_left (by simp [zilen])
  simp only [zExe] at hr
  unfold zload at hr
  obtain ⟨v, hv, hr1⟩ := zlv_some hr
  have g := a3.at hv
  rcases v with x | x | x | x | x <;> simp only [reduceCtorEq] at hr1
  exact lv_lload hx hb hd g (K _ _ (zJ x :: S) _ _ _ _ _ _ hr1 ⟨a1, a2, a3, a4, a5, a6.cons trivial, a7, a8⟩)
theorem zw_lload_n {k : Fin 4} (C : zCtx p l R s m args meth c q base adr adV dC dI cA L0 xs) (K : zWk p l e R s m args below meth c Q q n r base n0 u0 adr dC dI cA L0 xs) (hd : decode (zbytes q) pc = .ok (.lload_n k, len)) (hn : zilen (.lload_n k) = 0 ∨ len = zilen (.lload_n k)) (A : zAt s q base n0 u0 adr dC dI cA L0 xs H locs cells slots ls L S h)
    (hr : zExe q pc len (.lload_n k) L S h (fun pc L S h => zX n q pc L S h) (fun v h => some (.inl v, h)) (fun E h => some (.inr E, h)) (fun k as pc2 L S h => zBack (zX n) q pc pc2 L S (zX n k 0 (zini as (zmaxl k)) [] h)) = some r) : W p l e R s m args below meth c H locs cells slots Q (F0 m pc ls (S.map (zenc (zrho base adr)))) := by
  obtain ⟨hx, hb, hml, hown, hts, hK, hSt, hin, ⟨hrf, hrl⟩, hl, hexc, hlk⟩ := id C
  obtain ⟨a1, a2, a3, a4, a5, a6, a7, a8⟩ := id A
  obtain rfl : len = 1 := hn.resolve_left (by simp [zilen])
  simp only [zExe] at hr
  unfold zload at hr
  obtain ⟨v, hv, hr1⟩ := zlv_some hr
  have g := a3.at hv
  rcases v with x | x | x | x | x <;> simp only [reduceCtorEq] at hr1
  exact lv_lload_n hx hb hd rfl g (K _ _ (zJ x :: S) _ _ _ _ _ _ hr1 ⟨a1, a2, a3, a4, a5, a6.cons trivial, a7, a8⟩)
theorem zw_fload {k : Nat} (C : zCtx p l R s m args meth c q base adr adV dC dI cA L0 xs) (K : zWk p l e R s m args below meth c Q q n r base n0 u0 adr dC dI cA L0 xs) (hd : decode (zbytes q) pc = .ok (.fload k, len)) (hn : zilen (.fload k) = 0 ∨ len = zilen (.fload k)) (A : zAt s q base n0 u0 adr dC dI cA L0 xs H locs cells slots ls L S h)
    (hr : zExe q pc len (.fload k) L S h (fun pc L S h => zX n q pc L S h) (fun v h => some (.inl v, h)) (fun E h => some (.inr E, h)) (fun k as pc2 L S h => zBack (zX n) q pc pc2 L S (zX n k 0 (zini as (zmaxl k)) [] h)) = some r) : W p l e R s m args below meth c H locs cells slots Q (F0 m pc ls (S.map (zenc (zrho base adr)))) := by
  obtain ⟨hx, hb, hml, hown, hts, hK, hSt, hin, ⟨hrf, hrl⟩, hl, hexc, hlk⟩ := id C
  obtain ⟨a1, a2, a3, a4, a5, a6, a7, a8⟩ := id A
  obtain rfl : len = 2 := hn.resolve_left (by simp [zilen])
  simp only [zExe] at hr
  unfold zload at hr
  obtain ⟨v, hv, hr1⟩ := zlv_some hr
  have g := a3.at hv
  rcases v with x | x | x | x | x <;> simp only [reduceCtorEq] at hr1
  exact lv_fload hx hb hd g (K _ _ (zF x :: S) _ _ _ _ _ _ hr1 ⟨a1, a2, a3, a4, a5, a6.cons trivial, a7, a8⟩)
theorem zw_fload_n {k : Fin 4} (C : zCtx p l R s m args meth c q base adr adV dC dI cA L0 xs) (K : zWk p l e R s m args below meth c Q q n r base n0 u0 adr dC dI cA L0 xs) (hd : decode (zbytes q) pc = .ok (.fload_n k, len)) (hn : zilen (.fload_n k) = 0 ∨ len = zilen (.fload_n k)) (A : zAt s q base n0 u0 adr dC dI cA L0 xs H locs cells slots ls L S h)
    (hr : zExe q pc len (.fload_n k) L S h (fun pc L S h => zX n q pc L S h) (fun v h => some (.inl v, h)) (fun E h => some (.inr E, h)) (fun k as pc2 L S h => zBack (zX n) q pc pc2 L S (zX n k 0 (zini as (zmaxl k)) [] h)) = some r) : W p l e R s m args below meth c H locs cells slots Q (F0 m pc ls (S.map (zenc (zrho base adr)))) := by
  obtain ⟨hx, hb, hml, hown, hts, hK, hSt, hin, ⟨hrf, hrl⟩, hl, hexc, hlk⟩ := id C
  obtain ⟨a1, a2, a3, a4, a5, a6, a7, a8⟩ := id A
  obtain rfl : len = 1 := hn.resolve_left (by simp [zilen])
  simp only [zExe] at hr
  unfold zload at hr
  obtain ⟨v, hv, hr1⟩ := zlv_some hr
  have g := a3.at hv
  rcases v with x | x | x | x | x <;> simp only [reduceCtorEq] at hr1
  exact lv_fload_n hx hb hd rfl g (K _ _ (zF x :: S) _ _ _ _ _ _ hr1 ⟨a1, a2, a3, a4, a5, a6.cons trivial, a7, a8⟩)
theorem zw_dload {k : Nat} (C : zCtx p l R s m args meth c q base adr adV dC dI cA L0 xs) (K : zWk p l e R s m args below meth c Q q n r base n0 u0 adr dC dI cA L0 xs) (hd : decode (zbytes q) pc = .ok (.dload k, len)) (hn : zilen (.dload k) = 0 ∨ len = zilen (.dload k)) (A : zAt s q base n0 u0 adr dC dI cA L0 xs H locs cells slots ls L S h)
    (hr : zExe q pc len (.dload k) L S h (fun pc L S h => zX n q pc L S h) (fun v h => some (.inl v, h)) (fun E h => some (.inr E, h)) (fun k as pc2 L S h => zBack (zX n) q pc pc2 L S (zX n k 0 (zini as (zmaxl k)) [] h)) = some r) : W p l e R s m args below meth c H locs cells slots Q (F0 m pc ls (S.map (zenc (zrho base adr)))) := by
  obtain ⟨hx, hb, hml, hown, hts, hK, hSt, hin, ⟨hrf, hrl⟩, hl, hexc, hlk⟩ := id C
  obtain ⟨a1, a2, a3, a4, a5, a6, a7, a8⟩ := id A
  obtain rfl : len = 2 := hn.resolve_left (by simp [zilen])
  simp only [zExe] at hr
  unfold zload at hr
  obtain ⟨v, hv, hr1⟩ := zlv_some hr
  have g := a3.at hv
  rcases v with x | x | x | x | x <;> simp only [reduceCtorEq] at hr1
  exact lv_dload hx hb hd g (K _ _ (zD x :: S) _ _ _ _ _ _ hr1 ⟨a1, a2, a3, a4, a5, a6.cons trivial, a7, a8⟩)
theorem zw_dload_n {k : Fin 4} (C : zCtx p l R s m args meth c q base adr adV dC dI cA L0 xs) (K : zWk p l e R s m args below meth c Q q n r base n0 u0 adr dC dI cA L0 xs) (hd : decode (zbytes q) pc = .ok (.dload_n k, len)) (hn : zilen (.dload_n k) = 0 ∨ len = zilen (.dload_n k)) (A : zAt s q base n0 u0 adr dC dI cA L0 xs H locs cells slots ls L S h)
    (hr : zExe q pc len (.dload_n k) L S h (fun pc L S h => zX n q pc L S h) (fun v h => some (.inl v, h)) (fun E h => some (.inr E, h)) (fun k as pc2 L S h => zBack (zX n) q pc pc2 L S (zX n k 0 (zini as (zmaxl k)) [] h)) = some r) : W p l e R s m args below meth c H locs cells slots Q (F0 m pc ls (S.map (zenc (zrho base adr)))) := by
  obtain ⟨hx, hb, hml, hown, hts, hK, hSt, hin, ⟨hrf, hrl⟩, hl, hexc, hlk⟩ := id C
  obtain ⟨a1, a2, a3, a4, a5, a6, a7, a8⟩ := id A
  obtain rfl : len = 1 := hn.resolve_left (by simp [zilen])
  simp only [zExe] at hr
  unfold zload at hr
  obtain ⟨v, hv, hr1⟩ := zlv_some hr
  have g := a3.at hv
  rcases v with x | x | x | x | x <;> simp only [reduceCtorEq] at hr1
  exact lv_dload_n hx hb hd rfl g (K _ _ (zD x :: S) _ _ _ _ _ _ hr1 ⟨a1, a2, a3, a4, a5, a6.cons trivial, a7, a8⟩)
theorem zw_aload {k : Nat} (C : zCtx p l R s m args meth c q base adr adV dC dI cA L0 xs) (K : zWk p l e R s m args below meth c Q q n r base n0 u0 adr dC dI cA L0 xs) (hd : decode (zbytes q) pc = .ok (.aload k, len)) (hn : zilen (.aload k) = 0 ∨ len = zilen (.aload k)) (A : zAt s q base n0 u0 adr dC dI cA L0 xs H locs cells slots ls L S h)
    (hr : zExe q pc len (.aload k) L S h (fun pc L S h => zX n q pc L S h) (fun v h => some (.inl v, h)) (fun E h => some (.inr E, h)) (fun k as pc2 L S h => zBack (zX n) q pc pc2 L S (zX n k 0 (zini as (zmaxl k)) [] h)) = some r) : W p l e R s m args below meth c H locs cells slots Q (F0 m pc ls (S.map (zenc (zrho base adr)))) := by
  obtain ⟨hx, hb, hml, hown, hts, hK, hSt, hin, ⟨hrf, hrl⟩, hl, hexc, hlk⟩ := id C
  obtain ⟨a1, a2, a3, a4, a5, a6, a7, a8⟩ := id A
  obtain rfl : len = 2 := hn.resolve_left (by simp [zilen])
  simp only [zExe] at hr
  unfold zload at hr
  obtain ⟨v, hv, hr1⟩ := zlv_some hr
  have g := a3.at hv
  rcases v with x | x | x | x | x <;> simp only [reduceCtorEq] at hr1
  cases x with
  | none => exact lv_aloadN hx hb hd g (K _ _ (zR none :: S) _ _ _ _ _ _ hr1 ⟨a1, a2, a3, a4, a5, a6.cons trivial, a7, a8⟩)
  | some x => exact lv_aload hx hb hd g (K _ _ (zR (some x) :: S) _ _ _ _ _ _ hr1 ⟨a1, a2, a3, a4, a5, a6.cons trivial, a7, a8⟩)
theorem zw_aload_n {k : Fin 4} (C : zCtx p l R s m args meth c q base adr adV dC dI cA L0 xs) (K : zWk p l e R s m args below meth c Q q n r base n0 u0 adr dC dI cA L0 xs) (hd : decode (zbytes q) pc = .ok (.aload_n k, len)) (hn : zilen (.aload_n k) = 0 ∨ len = zilen (.aload_n k)) (A : zAt s q base n0 u0 adr dC dI cA L0 xs H locs cells slots ls L S h)
    (hr : zExe q pc len (.aload_n k) L S h (fun pc L S h => zX n q pc L S h) (fun v h => some (.inl v, h)) (fun E h => some (.inr E, h)) (fun k as pc2 L S h => zBack (zX n) q pc pc2 L S (zX n k 0 (zini as (zmaxl k)) [] h)) = some r) : W p l e R s m args below meth c H locs cells slots Q (F0 m pc ls (S.map (zenc (zrho base adr)))) := by
  obtain ⟨hx, hb, hml, hown, hts, hK, hSt, hin, ⟨hrf, hrl⟩, hl, hexc, hlk⟩ := id C
  obtain ⟨a1, a2, a3, a4, a5, a6, a7, a8⟩ := id A
  obtain rfl : len = 1 := hn.resolve_left (by simp [zilen])
  simp only [zExe] at hr
  unfold zload at hr
  obtain ⟨v, hv, hr1⟩ := zlv_some hr
  have g := a3.at hv
  rcases v with x | x | x | x | x <;> simp only [reduceCtorEq] at hr1
  cases x with
  | none => exact lv_aload_nN hx hb hd rfl g (K _ _ (zR none :: S) _ _ _ _ _ _ hr1 ⟨a1, a2, a3, a4, a5, a6.cons trivial, a7, a8⟩)
  | some x => exact lv_aload_n hx hb hd rfl g (K _ _ (zR (some x) :: S) _ _ _ _ _ _ hr1 ⟨a1, a2, a3, a4, a5, a6.cons trivial, a7, a8⟩)
theorem zw_istore {k : Nat} (C : zCtx p l R s m args meth c q base adr adV dC dI cA L0 xs) (K : zWk p l e R s m args below meth c Q q n r base n0 u0 adr dC dI cA L0 xs) (hd : decode (zbytes q) pc = .ok (.istore k, len)) (hn : zilen (.istore k) = 0 ∨ len = zilen (.istore k)) (A : zAt s q base n0 u0 adr dC dI cA L0 xs H locs cells slots ls L S h)
    (hr : zExe q pc len (.istore k) L S h (fun pc L S h => zX n q pc L S h) (fun v h => some (.inl v, h)) (fun E h => some (.inr E, h)) (fun k as pc2 L S h => zBack (zX n) q pc pc2 L S (zX n k 0 (zini as (zmaxl k)) [] h)) = some r) : W p l e R s m args below meth c H locs cells slots Q (F0 m pc ls (S.map (zenc (zrho base adr)))) := by
  obtain ⟨hx, hb, hml, hown, hts, hK, hSt, hin, ⟨hrf, hrl⟩, hl, hexc, hlk⟩ := id C
  obtain ⟨a1, a2, a3, a4, a5, a6, a7, a8⟩ := id A
  obtain rfl : len = 2 := hn.resolve_left (by simp [zilen])
  simp only [zExe] at hr
  unfold zstore at hr
  obtain ⟨x, S0, rfl, hr1⟩ := pI_some hr
  obtain ⟨L1, hL, hr2⟩ := zls_some hr1
  obtain ⟨g1, g2, g3, g4⟩ := zst1_spec (ρ := zrho base adr) hL
  exact lv_istore hx hb hd a3.has g2 rfl (fun ls1 hl1 => K _ _ S0 _ _ _ _ _ _ hr2 ⟨a1, a2, zLS.put (v := zI x) g1 g3 g4 hl1, by rw [g1, a4], a5.put (v := zI x) (ρ := zrho base adr) (lv' := []) a6.hd g3 (fun i w hi hw => by exact zst1_back hL hi hw), a6.tl, a7, a8⟩)
theorem zw_istore_n {k : Fin 4} (C : zCtx p l R s m args meth c q base adr adV dC dI cA L0 xs) (K : zWk p l e R s m args below meth c Q q n r base n0 u0 adr dC dI cA L0 xs) (hd : decode (zbytes q) pc = .ok (.istore_n k, len)) (hn : zilen (.istore_n k) = 0 ∨ len = zilen (.istore_n k)) (A : zAt s q base n0 u0 adr dC dI cA L0 xs H locs cells slots ls L S h)
    (hr : zExe q pc len (.istore_n k) L S h (fun pc L S h => zX n q pc L S h) (fun v h => some (.inl v, h)) (fun E h => some (.inr E, h)) (fun k as pc2 L S h => zBack (zX n) q pc pc2 L S (zX n k 0 (zini as (zmaxl k)) [] h)) = some r) : W p l e R s m args below meth c H locs cells slots Q (F0 m pc ls (S.map (zenc (zrho base adr)))) := by
  obtain ⟨hx, hb, hml, hown, hts, hK, hSt, hin, ⟨hrf, hrl⟩, hl, hexc, hlk⟩ := id C
  obtain ⟨a1, a2, a3, a4, a5, a6, a7, a8⟩ := id A
  obtain rfl : len = 1 := hn.resolve_left (by simp [zilen])
  simp only [zExe] at hr
  unfold zstore at hr
  obtain ⟨x, S0, rfl, hr1⟩ := pI_some hr
  obtain ⟨L1, hL, hr2⟩ := zls_some hr1
  obtain ⟨g1, g2, g3, g4⟩ := zst1_spec (ρ := zrho base adr) hL
  exact lv_istore_n hx hb hd rfl a3.has g2 rfl (fun ls1 hl1 => K _ _ S0 _ _ _ _ _ _ hr2 ⟨a1, a2, zLS.put (v := zI x) g1 g3 g4 hl1, by rw [g1, a4], a5.put (v := zI x) (ρ := zrho base adr) (lv' := []) a6.hd g3 (fun i w hi hw => by exact zst1_back hL hi hw), a6.tl, a7, a8⟩)
theorem zw_lstore {k : Nat} (C : zCtx p l R s m args meth c q base adr adV dC dI cA L0 xs) (K : zWk p l e R s m args below meth c Q q n r base n0 u0 adr dC dI cA L0 xs) (hd : decode (zbytes q) pc = .ok (.lstore k, len)) (hn : zilen (.lstore k) = 0 ∨ len = zilen (.lstore k)) (A : zAt s q base n0 u0 adr dC dI cA L0 xs H locs cells slots ls L S h)
    (hr : zExe q pc len (.lstore k) L S h (fun pc L S h => zX n q pc L S h) (fun v h => some (.inl v, h)) (fun E h => some (.inr E, h)) (fun k as pc2 L S h => zBack (zX n) q pc pc2 L S (zX n k 0 (zini as (zmaxl k)) [] h)) = some r) : W p l e R s m args below meth c H locs cells slots Q (F0 m pc ls (S.map (zenc (zrho base adr)))) := by
  obtain ⟨hx, hb, hml, hown, hts, hK, hSt, hin, ⟨hrf, hrl⟩, hl, hexc, hlk⟩ := id C
  obtain ⟨a1, a2, a3, a4, a5, a6, a7, a8⟩ := id A
  obtain rfl : len = 2 := hn.resolve_left (by simp [zilen])
  simp only [zExe] at hr
  unfold zstore at hr
  obtain ⟨x, S0, rfl, hr1⟩ := pJ_some hr
  obtain ⟨L1, hL, hr2⟩ := zls_some hr1
  obtain ⟨g1, g2, g3, g4⟩ := zst2_spec (ρ := zrho base adr) hL
  exact lv_lstore hx hb hd a3.has g2 rfl (fun ls1 hl1 => K _ _ S0 _ _ _ _ _ _ hr2 ⟨a1, a2, zLS.put (v := zJ x) g1 g3 g4 hl1, by rw [g1, a4], a5.put (v := zJ x) (ρ := zrho base adr) (lv' := []) trivial g3 (fun i w hi hw => by exact zst2_back hL hi hw), a6.tl, a7, a8⟩)
theorem zw_lstore_n {k : Fin 4} (C : zCtx p l R s m args meth c q base adr adV dC dI cA L0 xs) (K : zWk p l e R s m args below meth c Q q n r base n0 u0 adr dC dI cA L0 xs) (hd : decode (zbytes q) pc = .ok (.lstore_n k, len)) (hn : zilen (.lstore_n k) = 0 ∨ len = zilen (.lstore_n k)) (A : zAt s q base n0 u0 adr dC dI cA L0 xs H locs cells slots ls L S h)
    (hr : zExe q pc len (.lstore_n k) L S h (fun pc L S h => zX n q pc L S h) (fun v h => some (.inl v, h)) (fun E h => some (.inr E, h)) (fun k as pc2 L S h => zBack (zX n) q pc pc2 L S (zX n k 0 (zini as (zmaxl k)) [] h)) = some r) : W p l e R s m args below meth c H locs cells slots Q (F0 m pc ls (S.map (zenc (zrho base adr)))) := by
  obtain ⟨hx, hb, hml, hown, hts, hK, hSt, hin, ⟨hrf, hrl⟩, hl, hexc, hlk⟩ := id C
  obtain ⟨a1, a2, a3, a4, a5, a6, a7, a8⟩ := id A
  obtain rfl : len = 1 := hn.resolve_left (by simp [zilen])
  simp only [zExe] at hr
  unfold zstore at hr
  obtain ⟨x, S0, rfl, hr1⟩ := pJ_some hr
  obtain ⟨L1, hL, hr2⟩ := zls_some hr1
  obtain ⟨g1, g2, g3, g4⟩ := zst2_spec (ρ := zrho base adr) hL
  exact lv_lstore_n hx hb hd rfl a3.has g2 rfl (fun ls1 hl1 => K _ _ S0 _ _ _ _ _ _ hr2 ⟨a1, a2, zLS.put (v := zJ x) g1 g3 g4 hl1, by rw [g1, a4], a5.put (v := zJ x) (ρ := zrho base adr) (lv' := []) trivial g3 (fun i w hi hw => by exact zst2_back hL hi hw), a6.tl, a7, a8⟩)
theorem zw_fstore {k : Nat} (C : zCtx p l R s m args meth c q base adr adV dC dI cA L0 xs) (K : zWk p l e R s m args below meth c Q q n r base n0 u0 adr dC dI cA L0 xs) (hd : decode (zbytes q) pc = .ok (.fstore k, len)) (hn : zilen (.fstore k) = 0 ∨ len = zilen (.fstore k)) (A : zAt s q base n0 u0 adr dC dI cA L0 xs H locs cells slots ls L S h)
    (hr : zExe q pc len (.fstore k) L S h (fun pc L S h => zX n q pc L S h) (fun v h => some (.inl v, h)) (fun E h => some (.inr E, h)) (fun k as pc2 L S h => zBack (zX n) q pc pc2 L S (zX n k 0 (zini as (zmaxl k)) [] h)) = some r) : W p l e R s m args below meth c H locs cells slots Q (F0 m pc ls (S.map (zenc (zrho base adr)))) := by
  obtain ⟨hx, hb, hml, hown, hts, hK, hSt, hin, ⟨hrf, hrl⟩, hl, hexc, hlk⟩ := id C
  obtain ⟨a1, a2, a3, a4, a5, a6, a7, a8⟩ := id A
  obtain rfl : len = 2 := hn.resolve_left (by simp [zilen])
  simp only [zExe] at hr
  unfold zstore at hr
  obtain ⟨x, S0, rfl, hr1⟩ := pF_some hr
  obtain ⟨L1, hL, hr2⟩ := zls_some hr1
  obtain ⟨g1, g2, g3, g4⟩ := zst1_spec (ρ := zrho base adr) hL
  exact lv_fstore hx hb hd a3.has g2 rfl (fun ls1 hl1 => K _ _ S0 _ _ _ _ _ _ hr2 ⟨a1, a2, zLS.put (v := zF x) g1 g3 g4 hl1, by rw [g1, a4], a5.put (v := zF x) (ρ := zrho base adr) (lv' := []) trivial g3 (fun i w hi hw => by exact zst1_back hL hi hw), a6.tl, a7, a8⟩)
theorem zw_fstore_n {k : Fin 4} (C : zCtx p l R s m args meth c q base adr adV dC dI cA L0 xs) (K : zWk p l e R s m args below meth c Q q n r base n0 u0 adr dC dI cA L0 xs) (hd : decode (zbytes q) pc = .ok (.fstore_n k, len)) (hn : zilen (.fstore_n k) = 0 ∨ len = zilen (.fstore_n k)) (A : zAt s q base n0 u0 adr dC dI cA L0 xs H locs cells slots ls L S h)
    (hr : zExe q pc len (.fstore_n k) L S h (fun pc L S h => zX n q pc L S h) (fun v h => some (.inl v, h)) (fun E h => some (.inr E, h)) (fun k as pc2 L S h => zBack (zX n) q pc pc2 L S (zX n k 0 (zini as (zmaxl k)) [] h)) = some r) : W p l e R s m args below meth c H locs cells slots Q (F0 m pc ls (S.map (zenc (zrho base adr)))) := by
  obtain ⟨hx, hb, hml, hown, hts, hK, hSt, hin, ⟨hrf, hrl⟩, hl, hexc, hlk⟩ := id C
  obtain ⟨a1, a2, a3, a4, a5, a6, a7, a8⟩ := id A
  obtain rfl : len = 1 := hn.resolve_left (by simp [zilen])
  simp only [zExe] at hr
  unfold zstore at hr
  obtain ⟨x, S0, rfl, hr1⟩ := pF_some hr
  obtain ⟨L1, hL, hr2⟩ := zls_some hr1
  obtain ⟨g1, g2, g3, g4⟩ := zst1_spec (ρ := zrho base adr) hL
  exact lv_fstore_n hx hb hd rfl a3.has g2 rfl (fun ls1 hl1 => K _ _ S0 _ _ _ _ _ _ hr2 ⟨a1, a2, zLS.put (v := zF x) g1 g3 g4 hl1, by rw [g1, a4], a5.put (v := zF x) (ρ := zrho base adr) (lv' := []) trivial g3 (fun i w hi hw => by exact zst1_back hL hi hw), a6.tl, a7, a8⟩)
theorem zw_dstore {k : Nat} (C : zCtx p l R s m args meth c q base adr adV dC dI cA L0 xs) (K : zWk p l e R s m args below meth c Q q n r base n0 u0 adr dC dI cA L0 xs) (hd : decode (zbytes q) pc = .ok (.dstore k, len)) (hn : zilen (.dstore k) = 0 ∨ len = zilen (.dstore k)) (A : zAt s q base n0 u0 adr dC dI cA L0 xs H locs cells slots ls L S h)
    (hr : zExe q pc len (.dstore k) L S h (fun pc L S h => zX n q pc L S h) (fun v h => some (.inl v, h)) (fun E h => some (.inr E, h)) (fun k as pc2 L S h => zBack (zX n) q pc pc2 L S (zX n k 0 (zini as (zmaxl k)) [] h)) = some r) : W p l e R s m args below meth c H locs cells slots Q (F0 m pc ls (S.map (zenc (zrho base adr)))) := by
  obtain ⟨hx, hb, hml, hown, hts, hK, hSt, hin, ⟨hrf, hrl⟩, hl, hexc, hlk⟩ := id C
  obtain ⟨a1, a2, a3, a4, a5, a6, a7, a8⟩ := id A
  obtain rfl : len = 2 := hn.resolve_left (by simp [zilen])
  simp only [zExe] at hr
  unfold zstore at hr
  obtain ⟨x, S0, rfl, hr1⟩ := pD_some hr
  obtain ⟨L1, hL, hr2⟩ := zls_some hr1
  obtain ⟨g1, g2, g3, g4⟩ := zst2_spec (ρ := zrho base adr) hL
  exact lv_dstore hx hb hd a3.has g2 rfl (fun ls1 hl1 => K _ _ S0 _ _ _ _ _ _ hr2 ⟨a1, a2, zLS.put (v := zD x) g1 g3 g4 hl1, by rw [g1, a4], a5.put (v := zD x) (ρ := zrho base adr) (lv' := []) trivial g3 (fun i w hi hw => by exact zst2_back hL hi hw), a6.tl, a7, a8⟩)
theorem zw_dstore_n {k : Fin 4} (C : zCtx p l R s m args meth c q base adr adV dC dI cA L0 xs) (K : zWk p l e R s m args below meth c Q q n r base n0 u0 adr dC dI cA L0 xs) (hd : decode (zbytes q) pc = .ok (.dstore_n k, len)) (hn : zilen (.dstore_n k) = 0 ∨ len = zilen (.dstore_n k)) (A : zAt s q base n0 u0 adr dC dI cA L0 xs H locs cells slots ls L S h)
    (hr : zExe q pc len (.dstore_n k) L S h (fun pc L S h => zX n q pc L S h) (fun v h => some (.inl v, h)) (fun E h => some (.inr E, h)) (fun k as pc2 L S h => zBack (zX n) q pc pc2 L S (zX n k 0 (zini as (zmaxl k)) [] h)) = some r) : W p l e R s m args below meth c H locs cells slots Q (F0 m pc ls (S.map (zenc (zrho base adr)))) := by
  obtain ⟨hx, hb, hml, hown, hts, hK, hSt, hin, ⟨hrf, hrl⟩, hl, hexc, hlk⟩ := id C
  obtain ⟨a1, a2, a3, a4, a5, a6, a7, a8⟩ := id A
  obtain rfl : len = 1 := hn.resolve_left (by simp [zilen])
  simp only [zExe] at hr
  unfold zstore at hr
  obtain ⟨x, S0, rfl, hr1⟩ := pD_some hr
  obtain ⟨L1, hL, hr2⟩ := zls_some hr1
  obtain ⟨g1, g2, g3, g4⟩ := zst2_spec (ρ := zrho base adr) hL
  exact lv_dstore_n hx hb hd rfl a3.has g2 rfl (fun ls1 hl1 => K _ _ S0 _ _ _ _ _ _ hr2 ⟨a1, a2, zLS.put (v := zD x) g1 g3 g4 hl1, by rw [g1, a4], a5.put (v := zD x) (ρ := zrho base adr) (lv' := []) trivial g3 (fun i w hi hw => by exact zst2_back hL hi hw), a6.tl, a7, a8⟩)
theorem zw_astore {k : Nat} (C : zCtx p l R s m args meth c q base adr adV dC dI cA L0 xs) (K : zWk p l e R s m args below meth c Q q n r base n0 u0 adr dC dI cA L0 xs) (hd : decode (zbytes q) pc = .ok (.astore k, len)) (hn : zilen (.astore k) = 0 ∨ len = zilen (.astore k)) (A : zAt s q base n0 u0 adr dC dI cA L0 xs H locs cells slots ls L S h)
    (hr : zExe q pc len (.astore k) L S h (fun pc L S h => zX n q pc L S h) (fun v h => some (.inl v, h)) (fun E h => some (.inr E, h)) (fun k as pc2 L S h => zBack (zX n) q pc pc2 L S (zX n k 0 (zini as (zmaxl k)) [] h)) = some r) : W p l e R s m args below meth c H locs cells slots Q (F0 m pc ls (S.map (zenc (zrho base adr)))) := by
  obtain ⟨hx, hb, hml, hown, hts, hK, hSt, hin, ⟨hrf, hrl⟩, hl, hexc, hlk⟩ := id C
  obtain ⟨a1, a2, a3, a4, a5, a6, a7, a8⟩ := id A
  obtain rfl : len = 2 := hn.resolve_left (by simp [zilen])
  simp only [zExe] at hr
  unfold zstore at hr
  obtain ⟨x, S0, rfl, hr1⟩ := pR_some hr
  obtain ⟨L1, hL, hr2⟩ := zls_some hr1
  obtain ⟨g1, g2, g3, g4⟩ := zst1_spec (ρ := zrho base adr) hL
  cases x with
  | none => exact lv_astoreN hx hb hd a3.has g2 rfl (fun ls1 hl1 => K _ _ S0 _ _ _ _ _ _ hr2 ⟨a1, a2, zLS.put (v := zR none) g1 g3 g4 hl1, by rw [g1, a4], a5.put (v := zR none) (ρ := zrho base adr) (lv' := []) trivial g3 (fun i w hi hw => by exact zst1_back hL hi hw), a6.tl, a7, a8⟩)
  | some x => exact lv_astore hx hb hd a3.has g2 rfl (fun ls1 hl1 => K _ _ S0 _ _ _ _ _ _ hr2 ⟨a1, a2, zLS.put (v := zR (some x)) g1 g3 g4 hl1, by rw [g1, a4], a5.put (v := zR (some x)) (ρ := zrho base adr) (lv' := []) trivial g3 (fun i w hi hw => by exact zst1_back hL hi hw), a6.tl, a7, a8⟩)
theorem zw_astore_n {k : Fin 4} (C : zCtx p l R s m args meth c q base adr adV dC dI cA L0 xs) (K : zWk p l e R s m args below meth c Q q n r base n0 u0 adr dC dI cA L0 xs) (hd : decode (zbytes q) pc = .ok (.astore_n k, len)) (hn : zilen (.astore_n k) = 0 ∨ len = zilen (.astore_n k)) (A : zAt s q base n0 u0 adr dC dI cA L0 xs H locs cells slots ls L S h)
    (hr : zExe q pc len (.astore_n k) L S h (fun pc L S h => zX n q pc L S h) (fun v h => some (.inl v, h)) (fun E h => some (.inr E, h)) (fun k as pc2 L S h => zBack (zX n) q pc pc2 L S (zX n k 0 (zini as (zmaxl k)) [] h)) = some r) : W p l e R s m args below meth c H locs cells slots Q (F0 m pc ls (S.map (zenc (zrho base adr)))) := by
  obtain ⟨hx, hb, hml, hown, hts, hK, hSt, hin, ⟨hrf, hrl⟩, hl, hexc, hlk⟩ := id C
  obtain ⟨a1, a2, a3, a4, a5, a6, a7, a8⟩ := id A
  obtain rfl : len = 1 := hn.resolve_left (by simp [zilen])
  simp only [zExe] at hr
  unfold zstore at hr
  obtain ⟨x, S0, rfl, hr1⟩ := pR_some hr
  obtain ⟨L1, hL, hr2⟩ := zls_some hr1
  obtain ⟨g1, g2, g3, g4⟩ := zst1_spec (ρ := zrho base adr) hL
  cases x with
  | none => exact lv_astore_nN hx hb hd rfl a3.has g2 rfl (fun ls1 hl1 => K _ _ S0 _ _ _ _ _ _ hr2 ⟨a1, a2, zLS.put (v := zR none) g1 g3 g4 hl1, by rw [g1, a4], a5.put (v := zR none) (ρ := zrho base adr) (lv' := []) trivial g3 (fun i w hi hw => by exact zst1_back hL hi hw), a6.tl, a7, a8⟩)
  | some x => exact lv_astore_n hx hb hd rfl a3.has g2 rfl (fun ls1 hl1 => K _ _ S0 _ _ _ _ _ _ hr2 ⟨a1, a2, zLS.put (v := zR (some x)) g1 g3 g4 hl1, by rw [g1, a4], a5.put (v := zR (some x)) (ρ := zrho base adr) (lv' := []) trivial g3 (fun i w hi hw => by exact zst1_back hL hi hw), a6.tl, a7, a8⟩)
theorem zw_iconst {k : Int} (C : zCtx p l R s m args meth c q base adr adV dC dI cA L0 xs) (K : zWk p l e R s m args below meth c Q q n r base n0 u0 adr dC dI cA L0 xs) (hd : decode (zbytes q) pc = .ok (.iconst k, len)) (hn : zilen (.iconst k) = 0 ∨ len = zilen (.iconst k)) (A : zAt s q base n0 u0 adr dC dI cA L0 xs H locs cells slots ls L S h)
    (hr : zExe q pc len (.iconst k) L S h (fun pc L S h => zX n q pc L S h) (fun v h => some (.inl v, h)) (fun E h => some (.inr E, h)) (fun k as pc2 L S h => zBack (zX n) q pc pc2 L S (zX n k 0 (zini as (zmaxl k)) [] h)) = some r) : W p l e R s m args below meth c H locs cells slots Q (F0 m pc ls (S.map (zenc (zrho base adr)))) := by
  obtain ⟨hx, hb, hml, hown, hts, hK, hSt, hin, ⟨hrf, hrl⟩, hl, hexc, hlk⟩ := id C
  obtain ⟨a1, a2, a3, a4, a5, a6, a7, a8⟩ := id A
  obtain rfl : len = 1 := hn.resolve_left (by simp [zilen])
  simp only [zExe] at hr
  obtain ⟨hg, hr1⟩ := gd_some hr
  exact lv_iconst hx hb hd rfl (K _ _ (zI k :: S) _ _ _ _ _ _ hr1 ⟨a1, a2, a3, a4, a5, a6.cons hg, a7, a8⟩)
theorem zw_bipush {k : Int} (C : zCtx p l R s m args meth c q base adr adV dC dI cA L0 xs) (K : zWk p l e R s m args below meth c Q q n r base n0 u0 adr dC dI cA L0 xs) (hd : decode (zbytes q) pc = .ok (.bipush k, len)) (hn : zilen (.bipush k) = 0 ∨ len = zilen (.bipush k)) (A : zAt s q base n0 u0 adr dC dI cA L0 xs H locs cells slots ls L S h)
    (hr : zExe q pc len (.bipush k) L S h (fun pc L S h => zX n q pc L S h) (fun v h => some (.inl v, h)) (fun E h => some (.inr E, h)) (fun k as pc2 L S h => zBack (zX n) q pc pc2 L S (zX n k 0 (zini as (zmaxl k)) [] h)) = some r) : W p l e R s m args below meth c H locs cells slots Q (F0 m pc ls (S.map (zenc (zrho base adr)))) := by
  obtain ⟨hx, hb, hml, hown, hts, hK, hSt, hin, ⟨hrf, hrl⟩, hl, hexc, hlk⟩ := id C
  obtain ⟨a1, a2, a3, a4, a5, a6, a7, a8⟩ := id A
  obtain rfl : len = 2 := hn.resolve_left (by simp [zilen])
  simp only [zExe] at hr
  obtain ⟨hg, hr1⟩ := gd_some hr
  have e8 : (Int8.ofInt k).toInt32 = Int32.ofInt k := by
    apply Int32.toInt_inj.mp
    rw [zi_to (by omega), Int8.toInt_toInt32, Int8.toInt_ofInt]
    show Int.bmod k 256 = k
    rw [Int.bmod_def]
    split <;> omega
  exact lv_bipush hx hb hd e8 (K _ _ (zI k :: S) _ _ _ _ _ _ hr1 ⟨a1, a2, a3, a4, a5, a6.cons (show inR k by omega), a7, a8⟩)
theorem zw_sipush {k : Int} (C : zCtx p l R s m args meth c q base adr adV dC dI cA L0 xs) (K : zWk p l e R s m args below meth c Q q n r base n0 u0 adr dC dI cA L0 xs) (hd : decode (zbytes q) pc = .ok (.sipush k, len)) (hn : zilen (.sipush k) = 0 ∨ len = zilen (.sipush k)) (A : zAt s q base n0 u0 adr dC dI cA L0 xs H locs cells slots ls L S h)
    (hr : zExe q pc len (.sipush k) L S h (fun pc L S h => zX n q pc L S h) (fun v h => some (.inl v, h)) (fun E h => some (.inr E, h)) (fun k as pc2 L S h => zBack (zX n) q pc pc2 L S (zX n k 0 (zini as (zmaxl k)) [] h)) = some r) : W p l e R s m args below meth c H locs cells slots Q (F0 m pc ls (S.map (zenc (zrho base adr)))) := by
  obtain ⟨hx, hb, hml, hown, hts, hK, hSt, hin, ⟨hrf, hrl⟩, hl, hexc, hlk⟩ := id C
  obtain ⟨a1, a2, a3, a4, a5, a6, a7, a8⟩ := id A
  obtain rfl : len = 3 := hn.resolve_left (by simp [zilen])
  simp only [zExe] at hr
  obtain ⟨hg, hr1⟩ := gd_some hr
  have e8 : (Int16.ofInt k).toInt32 = Int32.ofInt k := by
    apply Int32.toInt_inj.mp
    rw [zi_to (by omega), Int16.toInt_toInt32, Int16.toInt_ofInt]
    show Int.bmod k 65536 = k
    rw [Int.bmod_def]
    split <;> omega
  exact lv_sipush hx hb hd e8 (K _ _ (zI k :: S) _ _ _ _ _ _ hr1 ⟨a1, a2, a3, a4, a5, a6.cons (show inR k by omega), a7, a8⟩)
theorem zw_lconst {k : Fin 2} (C : zCtx p l R s m args meth c q base adr adV dC dI cA L0 xs) (K : zWk p l e R s m args below meth c Q q n r base n0 u0 adr dC dI cA L0 xs) (hd : decode (zbytes q) pc = .ok (.lconst k, len)) (hn : zilen (.lconst k) = 0 ∨ len = zilen (.lconst k)) (A : zAt s q base n0 u0 adr dC dI cA L0 xs H locs cells slots ls L S h)
    (hr : zExe q pc len (.lconst k) L S h (fun pc L S h => zX n q pc L S h) (fun v h => some (.inl v, h)) (fun E h => some (.inr E, h)) (fun k as pc2 L S h => zBack (zX n) q pc pc2 L S (zX n k 0 (zini as (zmaxl k)) [] h)) = some r) : W p l e R s m args below meth c H locs cells slots Q (F0 m pc ls (S.map (zenc (zrho base adr)))) := by
  obtain ⟨hx, hb, hml, hown, hts, hK, hSt, hin, ⟨hrf, hrl⟩, hl, hexc, hlk⟩ := id C
  obtain ⟨a1, a2, a3, a4, a5, a6, a7, a8⟩ := id A
  obtain rfl : len = 1 := hn.resolve_left (by simp [zilen])
  simp only [zExe] at hr
  exact lv_lconst hx hb hd rfl (K _ _ (zJ (BitVec.ofNat 64 k.val) :: S) _ _ _ _ _ _ hr ⟨a1, a2, a3, a4, a5, a6.cons trivial, a7, a8⟩)
theorem zw_fconst0 (C : zCtx p l R s m args meth c q base adr adV dC dI cA L0 xs) (K : zWk p l e R s m args below meth c Q q n r base n0 u0 adr dC dI cA L0 xs) (hd : decode (zbytes q) pc = .ok (.fconst 0, len)) (hn : zilen (.fconst 0) = 0 ∨ len = zilen (.fconst 0)) (A : zAt s q base n0 u0 adr dC dI cA L0 xs H locs cells slots ls L S h)
    (hr : zExe q pc len (.fconst 0) L S h (fun pc L S h => zX n q pc L S h) (fun v h => some (.inl v, h)) (fun E h => some (.inr E, h)) (fun k as pc2 L S h => zBack (zX n) q pc pc2 L S (zX n k 0 (zini as (zmaxl k)) [] h)) = some r) : W p l e R s m args below meth c H locs cells slots Q (F0 m pc ls (S.map (zenc (zrho base adr)))) := by
  obtain ⟨hx, hb, hml, hown, hts, hK, hSt, hin, ⟨hrf, hrl⟩, hl, hexc, hlk⟩ := id C
  obtain ⟨a1, a2, a3, a4, a5, a6, a7, a8⟩ := id A
  obtain rfl : len = 1 := hn.resolve_left (by simp [zilen])
  simp only [zExe] at hr
  exact lv_fconst0 hx hb hd (K _ _ (zF FP.fconst0 :: S) _ _ _ _ _ _ hr ⟨a1, a2, a3, a4, a5, a6.cons trivial, a7, a8⟩)
theorem zw_fconst1 (C : zCtx p l R s m args meth c q base adr adV dC dI cA L0 xs) (K : zWk p l e R s m args below meth c Q q n r base n0 u0 adr dC dI cA L0 xs) (hd : decode (zbytes q) pc = .ok (.fconst 1, len)) (hn : zilen (.fconst 1) = 0 ∨ len = zilen (.fconst 1)) (A : zAt s q base n0 u0 adr dC dI cA L0 xs H locs cells slots ls L S h)
    (hr : zExe q pc len (.fconst 1) L S h (fun pc L S h => zX n q pc L S h) (fun v h => some (.inl v, h)) (fun E h => some (.inr E, h)) (fun k as pc2 L S h => zBack (zX n) q pc pc2 L S (zX n k 0 (zini as (zmaxl k)) [] h)) = some r) : W p l e R s m args below meth c H locs cells slots Q (F0 m pc ls (S.map (zenc (zrho base adr)))) := by
  obtain ⟨hx, hb, hml, hown, hts, hK, hSt, hin, ⟨hrf, hrl⟩, hl, hexc, hlk⟩ := id C
  obtain ⟨a1, a2, a3, a4, a5, a6, a7, a8⟩ := id A
  obtain rfl : len = 1 := hn.resolve_left (by simp [zilen])
  simp only [zExe] at hr
  exact lv_fconst1 hx hb hd (K _ _ (zF FP.fconst1 :: S) _ _ _ _ _ _ hr ⟨a1, a2, a3, a4, a5, a6.cons trivial, a7, a8⟩)
theorem zw_fconst2 (C : zCtx p l R s m args meth c q base adr adV dC dI cA L0 xs) (K : zWk p l e R s m args below meth c Q q n r base n0 u0 adr dC dI cA L0 xs) (hd : decode (zbytes q) pc = .ok (.fconst 2, len)) (hn : zilen (.fconst 2) = 0 ∨ len = zilen (.fconst 2)) (A : zAt s q base n0 u0 adr dC dI cA L0 xs H locs cells slots ls L S h)
    (hr : zExe q pc len (.fconst 2) L S h (fun pc L S h => zX n q pc L S h) (fun v h => some (.inl v, h)) (fun E h => some (.inr E, h)) (fun k as pc2 L S h => zBack (zX n) q pc pc2 L S (zX n k 0 (zini as (zmaxl k)) [] h)) = some r) : W p l e R s m args below meth c H locs cells slots Q (F0 m pc ls (S.map (zenc (zrho base adr)))) := by
  obtain ⟨hx, hb, hml, hown, hts, hK, hSt, hin, ⟨hrf, hrl⟩, hl, hexc, hlk⟩ := id C
  obtain ⟨a1, a2, a3, a4, a5, a6, a7, a8⟩ := id A
  obtain rfl : len = 1 := hn.resolve_left (by simp [zilen])
  simp only [zExe] at hr
  exact lv_fconst2 hx hb hd (K _ _ (zF FP.fconst2 :: S) _ _ _ _ _ _ hr ⟨a1, a2, a3, a4, a5, a6.cons trivial, a7, a8⟩)
theorem zw_dconst0 (C : zCtx p l R s m args meth c q base adr adV dC dI cA L0 xs) (K : zWk p l e R s m args below meth c Q q n r base n0 u0 adr dC dI cA L0 xs) (hd : decode (zbytes q) pc = .ok (.dconst 0, len)) (hn : zilen (.dconst 0) = 0 ∨ len = zilen (.dconst 0)) (A : zAt s q base n0 u0 adr dC dI cA L0 xs H locs cells slots ls L S h)
    (hr : zExe q pc len (.dconst 0) L S h (fun pc L S h => zX n q pc L S h) (fun v h => some (.inl v, h)) (fun E h => some (.inr E, h)) (fun k as pc2 L S h => zBack (zX n) q pc pc2 L S (zX n k 0 (zini as (zmaxl k)) [] h)) = some r) : W p l e R s m args below meth c H locs cells slots Q (F0 m pc ls (S.map (zenc (zrho base adr)))) := by
  obtain ⟨hx, hb, hml, hown, hts, hK, hSt, hin, ⟨hrf, hrl⟩, hl, hexc, hlk⟩ := id C
  obtain ⟨a1, a2, a3, a4, a5, a6, a7, a8⟩ := id A
  obtain rfl : len = 1 := hn.resolve_left (by simp [zilen])
  simp only [zExe] at hr
  exact lv_dconst0 hx hb hd (K _ _ (zD FP.dconst0 :: S) _ _ _ _ _ _ hr ⟨a1, a2, a3, a4, a5, a6.cons trivial, a7, a8⟩)
theorem zw_dconst1 (C : zCtx p l R s m args meth c q base adr adV dC dI cA L0 xs) (K : zWk p l e R s m args below meth c Q q n r base n0 u0 adr dC dI cA L0 xs) (hd : decode (zbytes q) pc = .ok (.dconst 1, len)) (hn : zilen (.dconst 1) = 0 ∨ len = zilen (.dconst 1)) (A : zAt s q base n0 u0 adr dC dI cA L0 xs H locs cells slots ls L S h)
    (hr : zExe q pc len (.dconst 1) L S h (fun pc L S h => zX n q pc L S h) (fun v h => some (.inl v, h)) (fun E h => some (.inr E, h)) (fun k as pc2 L S h => zBack (zX n) q pc pc2 L S (zX n k 0 (zini as (zmaxl k)) [] h)) = some r) : W p l e R s m args below meth c H locs cells slots Q (F0 m pc ls (S.map (zenc (zrho base adr)))) := by
  obtain ⟨hx, hb, hml, hown, hts, hK, hSt, hin, ⟨hrf, hrl⟩, hl, hexc, hlk⟩ := id C
  obtain ⟨a1, a2, a3, a4, a5, a6, a7, a8⟩ := id A
  obtain rfl : len = 1 := hn.resolve_left (by simp [zilen])
  simp only [zExe] at hr
  exact lv_dconst1 hx hb hd (K _ _ (zD FP.dconst1 :: S) _ _ _ _ _ _ hr ⟨a1, a2, a3, a4, a5, a6.cons trivial, a7, a8⟩)
theorem zw_dup (C : zCtx p l R s m args meth c q base adr adV dC dI cA L0 xs) (K : zWk p l e R s m args below meth c Q q n r base n0 u0 adr dC dI cA L0 xs) (hd : decode (zbytes q) pc = .ok (.dup, len)) (hn : zilen (.dup) = 0 ∨ len = zilen (.dup)) (A : zAt s q base n0 u0 adr dC dI cA L0 xs H locs cells slots ls L S h)
    (hr : zExe q pc len (.dup) L S h (fun pc L S h => zX n q pc L S h) (fun v h => some (.inl v, h)) (fun E h => some (.inr E, h)) (fun k as pc2 L S h => zBack (zX n) q pc pc2 L S (zX n k 0 (zini as (zmaxl k)) [] h)) = some r) : W p l e R s m args below meth c H locs cells slots Q (F0 m pc ls (S.map (zenc (zrho base adr)))) := by
  obtain ⟨hx, hb, hml, hown, hts, hK, hSt, hin, ⟨hrf, hrl⟩, hl, hexc, hlk⟩ := id C
  obtain ⟨a1, a2, a3, a4, a5, a6, a7, a8⟩ := id A
  obtain rfl : len = 1 := hn.resolve_left (by simp [zilen])
  simp only [zExe] at hr
  obtain ⟨v, S0, rfl, hc, hr1⟩ := p1_some hr
  exact lv_dup hx hb hd (by rw [zenc_cat, hc]; rfl) (K _ _ (v :: v :: S0) _ _ _ _ _ _ hr1 ⟨a1, a2, a3, a4, a5, a6.cons a6.hd, a7, a8⟩)
theorem zw_dup2 (C : zCtx p l R s m args meth c q base adr adV dC dI cA L0 xs) (K : zWk p l e R s m args below meth c Q q n r base n0 u0 adr dC dI cA L0 xs) (hd : decode (zbytes q) pc = .ok (.dup2, len)) (hn : zilen (.dup2) = 0 ∨ len = zilen (.dup2)) (A : zAt s q base n0 u0 adr dC dI cA L0 xs H locs cells slots ls L S h)
    (hr : zExe q pc len (.dup2) L S h (fun pc L S h => zX n q pc L S h) (fun v h => some (.inl v, h)) (fun E h => some (.inr E, h)) (fun k as pc2 L S h => zBack (zX n) q pc pc2 L S (zX n k 0 (zini as (zmaxl k)) [] h)) = some r) : W p l e R s m args below meth c H locs cells slots Q (F0 m pc ls (S.map (zenc (zrho base adr)))) := by
  obtain ⟨hx, hb, hml, hown, hts, hK, hSt, hin, ⟨hrf, hrl⟩, hl, hexc, hlk⟩ := id C
  obtain ⟨a1, a2, a3, a4, a5, a6, a7, a8⟩ := id A
  obtain rfl : len = 1 := hn.resolve_left (by simp [zilen])
  simp only [zExe] at hr
  obtain ⟨v, S0, rfl, hc, hr1⟩ := p1_some hr
  obtain ⟨w, S1, rfl, hc2, hr2⟩ := p1_some hr1
  exact lv_dup2_11 hx hb hd (by rw [zenc_cat, hc]; rfl) (by rw [zenc_cat, hc2]; rfl) (K _ _ (v :: w :: v :: w :: S1) _ _ _ _ _ _ hr2 ⟨a1, a2, a3, a4, a5, (a6.cons a6.tl.hd).cons a6.hd, a7, a8⟩)
theorem zw_pop (C : zCtx p l R s m args meth c q base adr adV dC dI cA L0 xs) (K : zWk p l e R s m args below meth c Q q n r base n0 u0 adr dC dI cA L0 xs) (hd : decode (zbytes q) pc = .ok (.pop, len)) (hn : zilen (.pop) = 0 ∨ len = zilen (.pop)) (A : zAt s q base n0 u0 adr dC dI cA L0 xs H locs cells slots ls L S h)
    (hr : zExe q pc len (.pop) L S h (fun pc L S h => zX n q pc L S h) (fun v h => some (.inl v, h)) (fun E h => some (.inr E, h)) (fun k as pc2 L S h => zBack (zX n) q pc pc2 L S (zX n k 0 (zini as (zmaxl k)) [] h)) = some r) : W p l e R s m args below meth c H locs cells slots Q (F0 m pc ls (S.map (zenc (zrho base adr)))) := by
  obtain ⟨hx, hb, hml, hown, hts, hK, hSt, hin, ⟨hrf, hrl⟩, hl, hexc, hlk⟩ := id C
  obtain ⟨a1, a2, a3, a4, a5, a6, a7, a8⟩ := id A
  obtain rfl : len = 1 := hn.resolve_left (by simp [zilen])
  simp only [zExe] at hr
  obtain ⟨v, S0, rfl, hc, hr1⟩ := p1_some hr
  exact lv_pop hx hb hd (by rw [zenc_cat, hc]; rfl) (K _ _ S0 _ _ _ _ _ _ hr1 ⟨a1, a2, a3, a4, a5, a6.tl, a7, a8⟩)
theorem zw_iadd (C : zCtx p l R s m args meth c q base adr adV dC dI cA L0 xs) (K : zWk p l e R s m args below meth c Q q n r base n0 u0 adr dC dI cA L0 xs) (hd : decode (zbytes q) pc = .ok (.iadd, len)) (hn : zilen (.iadd) = 0 ∨ len = zilen (.iadd)) (A : zAt s q base n0 u0 adr dC dI cA L0 xs H locs cells slots ls L S h)
    (hr : zExe q pc len (.iadd) L S h (fun pc L S h => zX n q pc L S h) (fun v h => some (.inl v, h)) (fun E h => some (.inr E, h)) (fun k as pc2 L S h => zBack (zX n) q pc pc2 L S (zX n k 0 (zini as (zmaxl k)) [] h)) = some r) : W p l e R s m args below meth c H locs cells slots Q (F0 m pc ls (S.map (zenc (zrho base adr)))) := by
  obtain ⟨hx, hb, hml, hown, hts, hK, hSt, hin, ⟨hrf, hrl⟩, hl, hexc, hlk⟩ := id C
  obtain ⟨a1, a2, a3, a4, a5, a6, a7, a8⟩ := id A
  obtain rfl : len = 1 := hn.resolve_left (by simp [zilen])
  simp only [zExe] at hr
  cases hb9 : Nat.blt (zown q) 13 with
  | true =>
    simp only [hb9, cond_true] at hr
    obtain ⟨y, S0, rfl, hr1⟩ := pI_some hr
    obtain ⟨x, S1, rfl, hr2⟩ := pI_some hr1
    obtain ⟨hg, hr3⟩ := gd_some hr2
    refine lv_iadd hx hb hd ?_
    rw [← Int32.ofInt_add]
    exact K _ _ (zI (x + y) :: S1) _ _ _ _ _ _ hr3 ⟨a1, a2, a3, a4, a5, a6.tl.tl.cons hg, a7, a8⟩
  | false =>
    simp only [hb9, cond_false] at hr
    obtain ⟨y, S0, rfl, hr1⟩ := pI_some hr
    obtain ⟨x, S1, rfl, hr2⟩ := pI_some hr1
    refine lv_iadd hx hb hd ?_
    rw [← show Int32.ofInt (zwadd x y) = Int32.ofInt x + Int32.ofInt y from zi_of _]
    exact K _ _ (zI (zwadd x y) :: S1) _ _ _ _ _ _ hr2 ⟨a1, a2, a3, a4, a5, a6.tl.tl.cons (zsh_r _ _ _), a7, a8⟩
theorem zw_isub (C : zCtx p l R s m args meth c q base adr adV dC dI cA L0 xs) (K : zWk p l e R s m args below meth c Q q n r base n0 u0 adr dC dI cA L0 xs) (hd : decode (zbytes q) pc = .ok (.isub, len)) (hn : zilen (.isub) = 0 ∨ len = zilen (.isub)) (A : zAt s q base n0 u0 adr dC dI cA L0 xs H locs cells slots ls L S h)
    (hr : zExe q pc len (.isub) L S h (fun pc L S h => zX n q pc L S h) (fun v h => some (.inl v, h)) (fun E h => some (.inr E, h)) (fun k as pc2 L S h => zBack (zX n) q pc pc2 L S (zX n k 0 (zini as (zmaxl k)) [] h)) = some r) : W p l e R s m args below meth c H locs cells slots Q (F0 m pc ls (S.map (zenc (zrho base adr)))) := by
  obtain ⟨hx, hb, hml, hown, hts, hK, hSt, hin, ⟨hrf, hrl⟩, hl, hexc, hlk⟩ := id C
  obtain ⟨a1, a2, a3, a4, a5, a6, a7, a8⟩ := id A
  obtain rfl : len = 1 := hn.resolve_left (by simp [zilen])
  simp only [zExe] at hr
  cases hb9 : Nat.blt (zown q) 13 with
  | true =>
    simp only [hb9, cond_true] at hr
    obtain ⟨y, S0, rfl, hr1⟩ := pI_some hr
    obtain ⟨x, S1, rfl, hr2⟩ := pI_some hr1
    obtain ⟨hg, hr3⟩ := gd_some hr2
    refine lv_isub hx hb hd ?_
    rw [← Int32.ofInt_sub]
    exact K _ _ (zI (x - y) :: S1) _ _ _ _ _ _ hr3 ⟨a1, a2, a3, a4, a5, a6.tl.tl.cons hg, a7, a8⟩
  | false =>
    simp only [hb9, cond_false] at hr
    obtain ⟨y, S0, rfl, hr1⟩ := pI_some hr
    obtain ⟨x, S1, rfl, hr2⟩ := pI_some hr1
    refine lv_isub hx hb hd ?_
    rw [← show Int32.ofInt (zwsub x y) = Int32.ofInt x - Int32.ofInt y from zi_of _]
    exact K _ _ (zI (zwsub x y) :: S1) _ _ _ _ _ _ hr2 ⟨a1, a2, a3, a4, a5, a6.tl.tl.cons (zsh_r _ _ _), a7, a8⟩
theorem zw_imul (C : zCtx p l R s m args meth c q base adr adV dC dI cA L0 xs) (K : zWk p l e R s m args below meth c Q q n r base n0 u0 adr dC dI cA L0 xs) (hd : decode (zbytes q) pc = .ok (.imul, len)) (hn : zilen (.imul) = 0 ∨ len = zilen (.imul)) (A : zAt s q base n0 u0 adr dC dI cA L0 xs H locs cells slots ls L S h)
    (hr : zExe q pc len (.imul) L S h (fun pc L S h => zX n q pc L S h) (fun v h => some (.inl v, h)) (fun E h => some (.inr E, h)) (fun k as pc2 L S h => zBack (zX n) q pc pc2 L S (zX n k 0 (zini as (zmaxl k)) [] h)) = some r) : W p l e R s m args below meth c H locs cells slots Q (F0 m pc ls (S.map (zenc (zrho base adr)))) := by
  obtain ⟨hx, hb, hml, hown, hts, hK, hSt, hin, ⟨hrf, hrl⟩, hl, hexc, hlk⟩ := id C
  obtain ⟨a1, a2, a3, a4, a5, a6, a7, a8⟩ := id A
  obtain rfl : len = 1 := hn.resolve_left (by simp [zilen])
  simp only [zExe] at hr
  cases hb9 : Nat.blt (zown q) 13 with
  | true =>
    simp only [hb9, cond_true] at hr
    obtain ⟨y, S0, rfl, hr1⟩ := pI_some hr
    obtain ⟨x, S1, rfl, hr2⟩ := pI_some hr1
    obtain ⟨hg, hr3⟩ := gd_some hr2
    refine lv_imul hx hb hd ?_
    rw [← Int32.ofInt_mul]
    exact K _ _ (zI (x * y) :: S1) _ _ _ _ _ _ hr3 ⟨a1, a2, a3, a4, a5, a6.tl.tl.cons hg, a7, a8⟩
  | false =>
    simp only [hb9, cond_false] at hr
    obtain ⟨y, S0, rfl, hr1⟩ := pI_some hr
    obtain ⟨x, S1, rfl, hr2⟩ := pI_some hr1
    refine lv_imul hx hb hd ?_
    rw [← show Int32.ofInt (zwmul x y) = Int32.ofInt x * Int32.ofInt y from zi_of _]
    exact K _ _ (zI (zwmul x y) :: S1) _ _ _ _ _ _ hr2 ⟨a1, a2, a3, a4, a5, a6.tl.tl.cons (zsh_r _ _ _), a7, a8⟩
theorem zi_dpz {x y : Int} (hx : inR x) (hy : inR y) (h0 : 0 ≤ zpz x y) (h1 : 0 < y) : Int32.ofInt x / Int32.ofInt y = Int32.ofInt (zpz x y / y) := by
  unfold zpz at h0 ⊢
  by_cases c : x = -1 ∧ 1 < y
  · rw [if_pos c, Int.zero_ediv]
    obtain ⟨rfl, c⟩ := c
    have t : (-1 : Int).tdiv y = 0 := by
      rw [Int.neg_tdiv, Int.tdiv_eq_ediv_of_nonneg (by decide), Int.ediv_eq_zero_of_lt (by decide) c]
      rfl
    apply Int32.toInt_inj.mp
    rw [Int32.toInt_div, zi_to hx, zi_to hy, t]
    rfl
  · rw [if_neg c] at h0 ⊢
    exact zi_div hx hy h0 h1
theorem zw_idiv (C : zCtx p l R s m args meth c q base adr adV dC dI cA L0 xs) (K : zWk p l e R s m args below meth c Q q n r base n0 u0 adr dC dI cA L0 xs) (hd : decode (zbytes q) pc = .ok (.idiv, len)) (hn : zilen (.idiv) = 0 ∨ len = zilen (.idiv)) (A : zAt s q base n0 u0 adr dC dI cA L0 xs H locs cells slots ls L S h)
    (hr : zExe q pc len (.idiv) L S h (fun pc L S h => zX n q pc L S h) (fun v h => some (.inl v, h)) (fun E h => some (.inr E, h)) (fun k as pc2 L S h => zBack (zX n) q pc pc2 L S (zX n k 0 (zini as (zmaxl k)) [] h)) = some r) : W p l e R s m args below meth c H locs cells slots Q (F0 m pc ls (S.map (zenc (zrho base adr)))) := by
  obtain ⟨hx, hb, hml, hown, hts, hK, hSt, hin, ⟨hrf, hrl⟩, hl, hexc, hlk⟩ := id C
  obtain ⟨a1, a2, a3, a4, a5, a6, a7, a8⟩ := id A
  obtain rfl : len = 1 := hn.resolve_left (by simp [zilen])
  simp only [zExe] at hr
  obtain ⟨y, S0, rfl, hr1⟩ := pI_some hr
  obtain ⟨x, S1, rfl, hr2⟩ := pI_some hr1
  obtain ⟨hg, hr3⟩ := gd_some hr2
  have hx1 : inR x := a6.tl.hd
  have hy1 : inR y := a6.hd
  have e : Int32.ofInt x / Int32.ofInt y = Int32.ofInt ((bif Nat.blt (zown q) 13 then x else zpz x y) / y) := by
    cases hb9 : Nat.blt (zown q) 13 with
    | true => rw [hb9] at hg; exact zi_div hx1 hy1 hg.1 hg.2
    | false => rw [hb9] at hg; exact zi_dpz hx1 hy1 hg.1 hg.2
  have hw : (bif Nat.blt (zown q) 13 then x else zpz x y) ≤ 2147483647 := by
    cases hb9 : Nat.blt (zown q) 13 with
    | true => show x ≤ 2147483647; omega
    | false =>
      show zpz x y ≤ 2147483647
      unfold zpz
      split <;> omega
  refine lv_idiv hx hb hd (by rw [← zi_0, zi_eq hy1 (by decide)]; omega) ?_
  rw [e]
  generalize (bif Nat.blt (zown q) 13 then x else zpz x y) = x9 at hg hw hr3
  have hq : inR (x9 / y) := by
    have h1 : x9 / y ≤ x9 := Int.ediv_le_self y hg.1
    have h2 : 0 ≤ x9 / y := Int.ediv_nonneg hg.1 (Int.le_of_lt hg.2)
    omega
  exact K _ _ (zI (x9 / y) :: S1) _ _ _ _ _ _ hr3 ⟨a1, a2, a3, a4, a5, a6.tl.tl.cons hq, a7, a8⟩
theorem zw_irem (C : zCtx p l R s m args meth c q base adr adV dC dI cA L0 xs) (K : zWk p l e R s m args below meth c Q q n r base n0 u0 adr dC dI cA L0 xs) (hd : decode (zbytes q) pc = .ok (.irem, len)) (hn : zilen (.irem) = 0 ∨ len = zilen (.irem)) (A : zAt s q base n0 u0 adr dC dI cA L0 xs H locs cells slots ls L S h)
    (hr : zExe q pc len (.irem) L S h (fun pc L S h => zX n q pc L S h) (fun v h => some (.inl v, h)) (fun E h => some (.inr E, h)) (fun k as pc2 L S h => zBack (zX n) q pc pc2 L S (zX n k 0 (zini as (zmaxl k)) [] h)) = some r) : W p l e R s m args below meth c H locs cells slots Q (F0 m pc ls (S.map (zenc (zrho base adr)))) := by
  obtain ⟨hx, hb, hml, hown, hts, hK, hSt, hin, ⟨hrf, hrl⟩, hl, hexc, hlk⟩ := id C
  obtain ⟨a1, a2, a3, a4, a5, a6, a7, a8⟩ := id A
  obtain rfl : len = 1 := hn.resolve_left (by simp [zilen])
  simp only [zExe] at hr
  obtain ⟨y, S0, rfl, hr1⟩ := pI_some hr
  obtain ⟨x, S1, rfl, hr2⟩ := pI_some hr1
  obtain ⟨hg, hr3⟩ := gd_some hr2
  have hx1 : inR x := a6.tl.hd
  have hy1 : inR y := a6.hd
  refine lv_irem hx hb hd (by rw [← zi_0, zi_eq hy1 (by decide)]; omega) ?_
  rw [zi_rem hx1 hy1 hg]
  have hq : inR (x.tmod y) := by
    have h1 : (x.tmod y).natAbs ≤ x.natAbs := by rw [Int.natAbs_tmod]; exact Nat.mod_le _ _
    omega
  exact K _ _ (zI (x.tmod y) :: S1) _ _ _ _ _ _ hr3 ⟨a1, a2, a3, a4, a5, a6.tl.tl.cons hq, a7, a8⟩
theorem zw_iand (C : zCtx p l R s m args meth c q base adr adV dC dI cA L0 xs) (K : zWk p l e R s m args below meth c Q q n r base n0 u0 adr dC dI cA L0 xs) (hd : decode (zbytes q) pc = .ok (.iand, len)) (hn : zilen (.iand) = 0 ∨ len = zilen (.iand)) (A : zAt s q base n0 u0 adr dC dI cA L0 xs H locs cells slots ls L S h)
    (hr : zExe q pc len (.iand) L S h (fun pc L S h => zX n q pc L S h) (fun v h => some (.inl v, h)) (fun E h => some (.inr E, h)) (fun k as pc2 L S h => zBack (zX n) q pc pc2 L S (zX n k 0 (zini as (zmaxl k)) [] h)) = some r) : W p l e R s m args below meth c H locs cells slots Q (F0 m pc ls (S.map (zenc (zrho base adr)))) := by
  obtain ⟨hx, hb, hml, hown, hts, hK, hSt, hin, ⟨hrf, hrl⟩, hl, hexc, hlk⟩ := id C
  obtain ⟨a1, a2, a3, a4, a5, a6, a7, a8⟩ := id A
  obtain rfl : len = 1 := hn.resolve_left (by simp [zilen])
  simp only [zExe] at hr
  obtain ⟨y, S0, rfl, hr1⟩ := pI_some hr
  obtain ⟨x, S1, rfl, hr2⟩ := pI_some hr1
  refine lv_iand hx hb hd (W.eq (g2 := F0 m (pc + 1) ls ((zI (zand x y) :: S1).map (zenc (zrho base adr)))) ?_ (K _ _ (zI (zand x y) :: S1) _ _ _ _ _ _ hr2 ⟨a1, a2, a3, a4, a5, a6.tl.tl.cons (zsh_r _ _ _), a7, a8⟩))
  exact congrArg (F0 m (pc + 1) ls) (congrArg (· :: S1.map (zenc (zrho base adr))) (congrArg Value.int (zand_e x y).symm))
theorem zw_ior (C : zCtx p l R s m args meth c q base adr adV dC dI cA L0 xs) (K : zWk p l e R s m args below meth c Q q n r base n0 u0 adr dC dI cA L0 xs) (hd : decode (zbytes q) pc = .ok (.ior, len)) (hn : zilen (.ior) = 0 ∨ len = zilen (.ior)) (A : zAt s q base n0 u0 adr dC dI cA L0 xs H locs cells slots ls L S h)
    (hr : zExe q pc len (.ior) L S h (fun pc L S h => zX n q pc L S h) (fun v h => some (.inl v, h)) (fun E h => some (.inr E, h)) (fun k as pc2 L S h => zBack (zX n) q pc pc2 L S (zX n k 0 (zini as (zmaxl k)) [] h)) = some r) : W p l e R s m args below meth c H locs cells slots Q (F0 m pc ls (S.map (zenc (zrho base adr)))) := by
  obtain ⟨hx, hb, hml, hown, hts, hK, hSt, hin, ⟨hrf, hrl⟩, hl, hexc, hlk⟩ := id C
  obtain ⟨a1, a2, a3, a4, a5, a6, a7, a8⟩ := id A
  obtain rfl : len = 1 := hn.resolve_left (by simp [zilen])
  simp only [zExe] at hr
  obtain ⟨y, S0, rfl, hr1⟩ := pI_some hr
  obtain ⟨x, S1, rfl, hr2⟩ := pI_some hr1
  refine lv_ior hx hb hd (W.eq (g2 := F0 m (pc + 1) ls ((zI (zor x y) :: S1).map (zenc (zrho base adr)))) ?_ (K _ _ (zI (zor x y) :: S1) _ _ _ _ _ _ hr2 ⟨a1, a2, a3, a4, a5, a6.tl.tl.cons (zsh_r _ _ _), a7, a8⟩))
  exact congrArg (F0 m (pc + 1) ls) (congrArg (· :: S1.map (zenc (zrho base adr))) (congrArg Value.int (zor_e x y).symm))
theorem zw_ixor (C : zCtx p l R s m args meth c q base adr adV dC dI cA L0 xs) (K : zWk p l e R s m args below meth c Q q n r base n0 u0 adr dC dI cA L0 xs) (hd : decode (zbytes q) pc = .ok (.ixor, len)) (hn : zilen (.ixor) = 0 ∨ len = zilen (.ixor)) (A : zAt s q base n0 u0 adr dC dI cA L0 xs H locs cells slots ls L S h)
    (hr : zExe q pc len (.ixor) L S h (fun pc L S h => zX n q pc L S h) (fun v h => some (.inl v, h)) (fun E h => some (.inr E, h)) (fun k as pc2 L S h => zBack (zX n) q pc pc2 L S (zX n k 0 (zini as (zmaxl k)) [] h)) = some r) : W p l e R s m args below meth c H locs cells slots Q (F0 m pc ls (S.map (zenc (zrho base adr)))) := by
  obtain ⟨hx, hb, hml, hown, hts, hK, hSt, hin, ⟨hrf, hrl⟩, hl, hexc, hlk⟩ := id C
  obtain ⟨a1, a2, a3, a4, a5, a6, a7, a8⟩ := id A
  obtain rfl : len = 1 := hn.resolve_left (by simp [zilen])
  simp only [zExe] at hr
  obtain ⟨y, S0, rfl, hr1⟩ := pI_some hr
  obtain ⟨x, S1, rfl, hr2⟩ := pI_some hr1
  refine lv_ixor hx hb hd (W.eq (g2 := F0 m (pc + 1) ls ((zI (zxor x y) :: S1).map (zenc (zrho base adr)))) ?_ (K _ _ (zI (zxor x y) :: S1) _ _ _ _ _ _ hr2 ⟨a1, a2, a3, a4, a5, a6.tl.tl.cons (zsh_r _ _ _), a7, a8⟩))
  exact congrArg (F0 m (pc + 1) ls) (congrArg (· :: S1.map (zenc (zrho base adr))) (congrArg Value.int (zxor_e x y).symm))
theorem zw_ishl (C : zCtx p l R s m args meth c q base adr adV dC dI cA L0 xs) (K : zWk p l e R s m args below meth c Q q n r base n0 u0 adr dC dI cA L0 xs) (hd : decode (zbytes q) pc = .ok (.ishl, len)) (hn : zilen (.ishl) = 0 ∨ len = zilen (.ishl)) (A : zAt s q base n0 u0 adr dC dI cA L0 xs H locs cells slots ls L S h)
    (hr : zExe q pc len (.ishl) L S h (fun pc L S h => zX n q pc L S h) (fun v h => some (.inl v, h)) (fun E h => some (.inr E, h)) (fun k as pc2 L S h => zBack (zX n) q pc pc2 L S (zX n k 0 (zini as (zmaxl k)) [] h)) = some r) : W p l e R s m args below meth c H locs cells slots Q (F0 m pc ls (S.map (zenc (zrho base adr)))) := by
  obtain ⟨hx, hb, hml, hown, hts, hK, hSt, hin, ⟨hrf, hrl⟩, hl, hexc, hlk⟩ := id C
  obtain ⟨a1, a2, a3, a4, a5, a6, a7, a8⟩ := id A
  obtain rfl : len = 1 := hn.resolve_left (by simp [zilen])
  simp only [zExe] at hr
  obtain ⟨y, S0, rfl, hr1⟩ := pI_some hr
  obtain ⟨x, S1, rfl, hr2⟩ := pI_some hr1
  refine lv_ishl hx hb hd (W.eq (g2 := F0 m (pc + 1) ls ((zI (zshl x y) :: S1).map (zenc (zrho base adr)))) ?_ (K _ _ (zI (zshl x y) :: S1) _ _ _ _ _ _ hr2 ⟨a1, a2, a3, a4, a5, a6.tl.tl.cons (zsh_r _ _ _), a7, a8⟩))
  exact congrArg (F0 m (pc + 1) ls) (congrArg (· :: S1.map (zenc (zrho base adr))) (congrArg Value.int (zshl_e x y).symm))
theorem zw_ishr (C : zCtx p l R s m args meth c q base adr adV dC dI cA L0 xs) (K : zWk p l e R s m args below meth c Q q n r base n0 u0 adr dC dI cA L0 xs) (hd : decode (zbytes q) pc = .ok (.ishr, len)) (hn : zilen (.ishr) = 0 ∨ len = zilen (.ishr)) (A : zAt s q base n0 u0 adr dC dI cA L0 xs H locs cells slots ls L S h)
    (hr : zExe q pc len (.ishr) L S h (fun pc L S h => zX n q pc L S h) (fun v h => some (.inl v, h)) (fun E h => some (.inr E, h)) (fun k as pc2 L S h => zBack (zX n) q pc pc2 L S (zX n k 0 (zini as (zmaxl k)) [] h)) = some r) : W p l e R s m args below meth c H locs cells slots Q (F0 m pc ls (S.map (zenc (zrho base adr)))) := by
  obtain ⟨hx, hb, hml, hown, hts, hK, hSt, hin, ⟨hrf, hrl⟩, hl, hexc, hlk⟩ := id C
  obtain ⟨a1, a2, a3, a4, a5, a6, a7, a8⟩ := id A
  obtain rfl : len = 1 := hn.resolve_left (by simp [zilen])
  simp only [zExe] at hr
  obtain ⟨y, S0, rfl, hr1⟩ := pI_some hr
  obtain ⟨x, S1, rfl, hr2⟩ := pI_some hr1
  refine lv_ishr hx hb hd (W.eq (g2 := F0 m (pc + 1) ls ((zI (zshr x y) :: S1).map (zenc (zrho base adr)))) ?_ (K _ _ (zI (zshr x y) :: S1) _ _ _ _ _ _ hr2 ⟨a1, a2, a3, a4, a5, a6.tl.tl.cons (zsh_r _ _ _), a7, a8⟩))
  exact congrArg (F0 m (pc + 1) ls) (congrArg (· :: S1.map (zenc (zrho base adr))) (congrArg Value.int (zshr_e x y).symm))
theorem zw_iushr (C : zCtx p l R s m args meth c q base adr adV dC dI cA L0 xs) (K : zWk p l e R s m args below meth c Q q n r base n0 u0 adr dC dI cA L0 xs) (hd : decode (zbytes q) pc = .ok (.iushr, len)) (hn : zilen (.iushr) = 0 ∨ len = zilen (.iushr)) (A : zAt s q base n0 u0 adr dC dI cA L0 xs H locs cells slots ls L S h)
    (hr : zExe q pc len (.iushr) L S h (fun pc L S h => zX n q pc L S h) (fun v h => some (.inl v, h)) (fun E h => some (.inr E, h)) (fun k as pc2 L S h => zBack (zX n) q pc pc2 L S (zX n k 0 (zini as (zmaxl k)) [] h)) = some r) : W p l e R s m args below meth c H locs cells slots Q (F0 m pc ls (S.map (zenc (zrho base adr)))) := by
  obtain ⟨hx, hb, hml, hown, hts, hK, hSt, hin, ⟨hrf, hrl⟩, hl, hexc, hlk⟩ := id C
  obtain ⟨a1, a2, a3, a4, a5, a6, a7, a8⟩ := id A
  obtain rfl : len = 1 := hn.resolve_left (by simp [zilen])
  simp only [zExe] at hr
  obtain ⟨y, S0, rfl, hr1⟩ := pI_some hr
  obtain ⟨x, S1, rfl, hr2⟩ := pI_some hr1
  exact lv_iushr hx hb hd (zushr_e x y).symm (K _ _ (zI (zushr x y) :: S1) _ _ _ _ _ _ hr2 ⟨a1, a2, a3, a4, a5, a6.tl.tl.cons (zsh_r _ _ _), a7, a8⟩)
theorem zw_ladd (C : zCtx p l R s m args meth c q base adr adV dC dI cA L0 xs) (K : zWk p l e R s m args below meth c Q q n r base n0 u0 adr dC dI cA L0 xs) (hd : decode (zbytes q) pc = .ok (.ladd, len)) (hn : zilen (.ladd) = 0 ∨ len = zilen (.ladd)) (A : zAt s q base n0 u0 adr dC dI cA L0 xs H locs cells slots ls L S h)
    (hr : zExe q pc len (.ladd) L S h (fun pc L S h => zX n q pc L S h) (fun v h => some (.inl v, h)) (fun E h => some (.inr E, h)) (fun k as pc2 L S h => zBack (zX n) q pc pc2 L S (zX n k 0 (zini as (zmaxl k)) [] h)) = some r) : W p l e R s m args below meth c H locs cells slots Q (F0 m pc ls (S.map (zenc (zrho base adr)))) := by
  obtain ⟨hx, hb, hml, hown, hts, hK, hSt, hin, ⟨hrf, hrl⟩, hl, hexc, hlk⟩ := id C
  obtain ⟨a1, a2, a3, a4, a5, a6, a7, a8⟩ := id A
  obtain rfl : len = 1 := hn.resolve_left (by simp [zilen])
  simp only [zExe] at hr
  obtain ⟨y, S0, rfl, hr1⟩ := pJ_some hr
  obtain ⟨x, S1, rfl, hr2⟩ := pJ_some hr1
  exact lv_ladd hx hb hd (K _ _ (zJ (x + y) :: S1) _ _ _ _ _ _ hr2 ⟨a1, a2, a3, a4, a5, a6.tl.tl.cons trivial, a7, a8⟩)
theorem zw_lsub (C : zCtx p l R s m args meth c q base adr adV dC dI cA L0 xs) (K : zWk p l e R s m args below meth c Q q n r base n0 u0 adr dC dI cA L0 xs) (hd : decode (zbytes q) pc = .ok (.lsub, len)) (hn : zilen (.lsub) = 0 ∨ len = zilen (.lsub)) (A : zAt s q base n0 u0 adr dC dI cA L0 xs H locs cells slots ls L S h)
    (hr : zExe q pc len (.lsub) L S h (fun pc L S h => zX n q pc L S h) (fun v h => some (.inl v, h)) (fun E h => some (.inr E, h)) (fun k as pc2 L S h => zBack (zX n) q pc pc2 L S (zX n k 0 (zini as (zmaxl k)) [] h)) = some r) : W p l e R s m args below meth c H locs cells slots Q (F0 m pc ls (S.map (zenc (zrho base adr)))) := by
  obtain ⟨hx, hb, hml, hown, hts, hK, hSt, hin, ⟨hrf, hrl⟩, hl, hexc, hlk⟩ := id C
  obtain ⟨a1, a2, a3, a4, a5, a6, a7, a8⟩ := id A
  obtain rfl : len = 1 := hn.resolve_left (by simp [zilen])
  simp only [zExe] at hr
  obtain ⟨y, S0, rfl, hr1⟩ := pJ_some hr
  obtain ⟨x, S1, rfl, hr2⟩ := pJ_some hr1
  exact lv_lsub hx hb hd (K _ _ (zJ (x - y) :: S1) _ _ _ _ _ _ hr2 ⟨a1, a2, a3, a4, a5, a6.tl.tl.cons trivial, a7, a8⟩)
theorem zw_land (C : zCtx p l R s m args meth c q base adr adV dC dI cA L0 xs) (K : zWk p l e R s m args below meth c Q q n r base n0 u0 adr dC dI cA L0 xs) (hd : decode (zbytes q) pc = .ok (.land, len)) (hn : zilen (.land) = 0 ∨ len = zilen (.land)) (A : zAt s q base n0 u0 adr dC dI cA L0 xs H locs cells slots ls L S h)
    (hr : zExe q pc len (.land) L S h (fun pc L S h => zX n q pc L S h) (fun v h => some (.inl v, h)) (fun E h => some (.inr E, h)) (fun k as pc2 L S h => zBack (zX n) q pc pc2 L S (zX n k 0 (zini as (zmaxl k)) [] h)) = some r) : W p l e R s m args below meth c H locs cells slots Q (F0 m pc ls (S.map (zenc (zrho base adr)))) := by
  obtain ⟨hx, hb, hml, hown, hts, hK, hSt, hin, ⟨hrf, hrl⟩, hl, hexc, hlk⟩ := id C
  obtain ⟨a1, a2, a3, a4, a5, a6, a7, a8⟩ := id A
  obtain rfl : len = 1 := hn.resolve_left (by simp [zilen])
  simp only [zExe] at hr
  obtain ⟨y, S0, rfl, hr1⟩ := pJ_some hr
  obtain ⟨x, S1, rfl, hr2⟩ := pJ_some hr1
  exact lv_land hx hb hd (K _ _ (zJ (x &&& y) :: S1) _ _ _ _ _ _ hr2 ⟨a1, a2, a3, a4, a5, a6.tl.tl.cons trivial, a7, a8⟩)
theorem zw_lor (C : zCtx p l R s m args meth c q base adr adV dC dI cA L0 xs) (K : zWk p l e R s m args below meth c Q q n r base n0 u0 adr dC dI cA L0 xs) (hd : decode (zbytes q) pc = .ok (.lor, len)) (hn : zilen (.lor) = 0 ∨ len = zilen (.lor)) (A : zAt s q base n0 u0 adr dC dI cA L0 xs H locs cells slots ls L S h)
    (hr : zExe q pc len (.lor) L S h (fun pc L S h => zX n q pc L S h) (fun v h => some (.inl v, h)) (fun E h => some (.inr E, h)) (fun k as pc2 L S h => zBack (zX n) q pc pc2 L S (zX n k 0 (zini as (zmaxl k)) [] h)) = some r) : W p l e R s m args below meth c H locs cells slots Q (F0 m pc ls (S.map (zenc (zrho base adr)))) := by
  obtain ⟨hx, hb, hml, hown, hts, hK, hSt, hin, ⟨hrf, hrl⟩, hl, hexc, hlk⟩ := id C
  obtain ⟨a1, a2, a3, a4, a5, a6, a7, a8⟩ := id A
  obtain rfl : len = 1 := hn.resolve_left (by simp [zilen])
  simp only [zExe] at hr
  obtain ⟨y, S0, rfl, hr1⟩ := pJ_some hr
  obtain ⟨x, S1, rfl, hr2⟩ := pJ_some hr1
  exact lv_lor hx hb hd (K _ _ (zJ (x ||| y) :: S1) _ _ _ _ _ _ hr2 ⟨a1, a2, a3, a4, a5, a6.tl.tl.cons trivial, a7, a8⟩)
theorem zw_lxor (C : zCtx p l R s m args meth c q base adr adV dC dI cA L0 xs) (K : zWk p l e R s m args below meth c Q q n r base n0 u0 adr dC dI cA L0 xs) (hd : decode (zbytes q) pc = .ok (.lxor, len)) (hn : zilen (.lxor) = 0 ∨ len = zilen (.lxor)) (A : zAt s q base n0 u0 adr dC dI cA L0 xs H locs cells slots ls L S h)
    (hr : zExe q pc len (.lxor) L S h (fun pc L S h => zX n q pc L S h) (fun v h => some (.inl v, h)) (fun E h => some (.inr E, h)) (fun k as pc2 L S h => zBack (zX n) q pc pc2 L S (zX n k 0 (zini as (zmaxl k)) [] h)) = some r) : W p l e R s m args below meth c H locs cells slots Q (F0 m pc ls (S.map (zenc (zrho base adr)))) := by
  obtain ⟨hx, hb, hml, hown, hts, hK, hSt, hin, ⟨hrf, hrl⟩, hl, hexc, hlk⟩ := id C
  obtain ⟨a1, a2, a3, a4, a5, a6, a7, a8⟩ := id A
  obtain rfl : len = 1 := hn.resolve_left (by simp [zilen])
  simp only [zExe] at hr
  obtain ⟨y, S0, rfl, hr1⟩ := pJ_some hr
  obtain ⟨x, S1, rfl, hr2⟩ := pJ_some hr1
  exact lv_lxor hx hb hd (K _ _ (zJ (x ^^^ y) :: S1) _ _ _ _ _ _ hr2 ⟨a1, a2, a3, a4, a5, a6.tl.tl.cons trivial, a7, a8⟩)
theorem zw_lshl (C : zCtx p l R s m args meth c q base adr adV dC dI cA L0 xs) (K : zWk p l e R s m args below meth c Q q n r base n0 u0 adr dC dI cA L0 xs) (hd : decode (zbytes q) pc = .ok (.lshl, len)) (hn : zilen (.lshl) = 0 ∨ len = zilen (.lshl)) (A : zAt s q base n0 u0 adr dC dI cA L0 xs H locs cells slots ls L S h)
    (hr : zExe q pc len (.lshl) L S h (fun pc L S h => zX n q pc L S h) (fun v h => some (.inl v, h)) (fun E h => some (.inr E, h)) (fun k as pc2 L S h => zBack (zX n) q pc pc2 L S (zX n k 0 (zini as (zmaxl k)) [] h)) = some r) : W p l e R s m args below meth c H locs cells slots Q (F0 m pc ls (S.map (zenc (zrho base adr)))) := by
  obtain ⟨hx, hb, hml, hown, hts, hK, hSt, hin, ⟨hrf, hrl⟩, hl, hexc, hlk⟩ := id C
  obtain ⟨a1, a2, a3, a4, a5, a6, a7, a8⟩ := id A
  obtain rfl : len = 1 := hn.resolve_left (by simp [zilen])
  simp only [zExe] at hr
  obtain ⟨y, S0, rfl, hr1⟩ := pI_some hr
  obtain ⟨x, S1, rfl, hr2⟩ := pJ_some hr1
  exact lv_lshl hx hb hd rfl (K _ _ (zJ (zlshl x y) :: S1) _ _ _ _ _ _ hr2 ⟨a1, a2, a3, a4, a5, a6.tl.tl.cons trivial, a7, a8⟩)
theorem zw_lushr (C : zCtx p l R s m args meth c q base adr adV dC dI cA L0 xs) (K : zWk p l e R s m args below meth c Q q n r base n0 u0 adr dC dI cA L0 xs) (hd : decode (zbytes q) pc = .ok (.lushr, len)) (hn : zilen (.lushr) = 0 ∨ len = zilen (.lushr)) (A : zAt s q base n0 u0 adr dC dI cA L0 xs H locs cells slots ls L S h)
    (hr : zExe q pc len (.lushr) L S h (fun pc L S h => zX n q pc L S h) (fun v h => some (.inl v, h)) (fun E h => some (.inr E, h)) (fun k as pc2 L S h => zBack (zX n) q pc pc2 L S (zX n k 0 (zini as (zmaxl k)) [] h)) = some r) : W p l e R s m args below meth c H locs cells slots Q (F0 m pc ls (S.map (zenc (zrho base adr)))) := by
  obtain ⟨hx, hb, hml, hown, hts, hK, hSt, hin, ⟨hrf, hrl⟩, hl, hexc, hlk⟩ := id C
  obtain ⟨a1, a2, a3, a4, a5, a6, a7, a8⟩ := id A
  obtain rfl : len = 1 := hn.resolve_left (by simp [zilen])
  simp only [zExe] at hr
  obtain ⟨y, S0, rfl, hr1⟩ := pI_some hr
  obtain ⟨x, S1, rfl, hr2⟩ := pJ_some hr1
  exact lv_lushr hx hb hd rfl (K _ _ (zJ (zlushr x y) :: S1) _ _ _ _ _ _ hr2 ⟨a1, a2, a3, a4, a5, a6.tl.tl.cons trivial, a7, a8⟩)
theorem zw_lneg (C : zCtx p l R s m args meth c q base adr adV dC dI cA L0 xs) (K : zWk p l e R s m args below meth c Q q n r base n0 u0 adr dC dI cA L0 xs) (hd : decode (zbytes q) pc = .ok (.lneg, len)) (hn : zilen (.lneg) = 0 ∨ len = zilen (.lneg)) (A : zAt s q base n0 u0 adr dC dI cA L0 xs H locs cells slots ls L S h)
    (hr : zExe q pc len (.lneg) L S h (fun pc L S h => zX n q pc L S h) (fun v h => some (.inl v, h)) (fun E h => some (.inr E, h)) (fun k as pc2 L S h => zBack (zX n) q pc pc2 L S (zX n k 0 (zini as (zmaxl k)) [] h)) = some r) : W p l e R s m args below meth c H locs cells slots Q (F0 m pc ls (S.map (zenc (zrho base adr)))) := by
  obtain ⟨hx, hb, hml, hown, hts, hK, hSt, hin, ⟨hrf, hrl⟩, hl, hexc, hlk⟩ := id C
  obtain ⟨a1, a2, a3, a4, a5, a6, a7, a8⟩ := id A
  obtain rfl : len = 1 := hn.resolve_left (by simp [zilen])
  simp only [zExe] at hr
  obtain ⟨x, S0, rfl, hr1⟩ := pJ_some hr
  exact lv_lneg hx hb hd (K _ _ (zJ (-x) :: S0) _ _ _ _ _ _ hr1 ⟨a1, a2, a3, a4, a5, a6.tl.cons trivial, a7, a8⟩)
theorem zw_lcmp (C : zCtx p l R s m args meth c q base adr adV dC dI cA L0 xs) (K : zWk p l e R s m args below meth c Q q n r base n0 u0 adr dC dI cA L0 xs) (hd : decode (zbytes q) pc = .ok (.lcmp, len)) (hn : zilen (.lcmp) = 0 ∨ len = zilen (.lcmp)) (A : zAt s q base n0 u0 adr dC dI cA L0 xs H locs cells slots ls L S h)
    (hr : zExe q pc len (.lcmp) L S h (fun pc L S h => zX n q pc L S h) (fun v h => some (.inl v, h)) (fun E h => some (.inr E, h)) (fun k as pc2 L S h => zBack (zX n) q pc pc2 L S (zX n k 0 (zini as (zmaxl k)) [] h)) = some r) : W p l e R s m args below meth c H locs cells slots Q (F0 m pc ls (S.map (zenc (zrho base adr)))) := by
  obtain ⟨hx, hb, hml, hown, hts, hK, hSt, hin, ⟨hrf, hrl⟩, hl, hexc, hlk⟩ := id C
  obtain ⟨a1, a2, a3, a4, a5, a6, a7, a8⟩ := id A
  obtain rfl : len = 1 := hn.resolve_left (by simp [zilen])
  simp only [zExe] at hr
  obtain ⟨y, S0, rfl, hr1⟩ := pJ_some hr
  obtain ⟨x, S1, rfl, hr2⟩ := pJ_some hr1
  have e1 : lg_cmp (Int64.ofBitVec x) (Int64.ofBitVec y) = Int32.ofInt (zlcmp x y) := zlcmp_e x y
  refine W.lcmp hx hb hd ?_
  rw [e1]
  exact K _ _ (zI (zlcmp x y) :: S1) _ _ _ _ _ _ hr2 ⟨a1, a2, a3, a4, a5, a6.tl.tl.cons (zlcmp_r x y), a7, a8⟩
theorem zw_i2l (C : zCtx p l R s m args meth c q base adr adV dC dI cA L0 xs) (K : zWk p l e R s m args below meth c Q q n r base n0 u0 adr dC dI cA L0 xs) (hd : decode (zbytes q) pc = .ok (.i2l, len)) (hn : zilen (.i2l) = 0 ∨ len = zilen (.i2l)) (A : zAt s q base n0 u0 adr dC dI cA L0 xs H locs cells slots ls L S h)
    (hr : zExe q pc len (.i2l) L S h (fun pc L S h => zX n q pc L S h) (fun v h => some (.inl v, h)) (fun E h => some (.inr E, h)) (fun k as pc2 L S h => zBack (zX n) q pc pc2 L S (zX n k 0 (zini as (zmaxl k)) [] h)) = some r) : W p l e R s m args below meth c H locs cells slots Q (F0 m pc ls (S.map (zenc (zrho base adr)))) := by
  obtain ⟨hx, hb, hml, hown, hts, hK, hSt, hin, ⟨hrf, hrl⟩, hl, hexc, hlk⟩ := id C
  obtain ⟨a1, a2, a3, a4, a5, a6, a7, a8⟩ := id A
  obtain rfl : len = 1 := hn.resolve_left (by simp [zilen])
  simp only [zExe] at hr
  obtain ⟨x, S0, rfl, hr1⟩ := pI_some hr
  exact lv_i2l hx hb hd rfl (K _ _ (zJ (zi2l x) :: S0) _ _ _ _ _ _ hr1 ⟨a1, a2, a3, a4, a5, a6.tl.cons trivial, a7, a8⟩)
theorem zw_l2i (C : zCtx p l R s m args meth c q base adr adV dC dI cA L0 xs) (K : zWk p l e R s m args below meth c Q q n r base n0 u0 adr dC dI cA L0 xs) (hd : decode (zbytes q) pc = .ok (.l2i, len)) (hn : zilen (.l2i) = 0 ∨ len = zilen (.l2i)) (A : zAt s q base n0 u0 adr dC dI cA L0 xs H locs cells slots ls L S h)
    (hr : zExe q pc len (.l2i) L S h (fun pc L S h => zX n q pc L S h) (fun v h => some (.inl v, h)) (fun E h => some (.inr E, h)) (fun k as pc2 L S h => zBack (zX n) q pc pc2 L S (zX n k 0 (zini as (zmaxl k)) [] h)) = some r) : W p l e R s m args below meth c H locs cells slots Q (F0 m pc ls (S.map (zenc (zrho base adr)))) := by
  obtain ⟨hx, hb, hml, hown, hts, hK, hSt, hin, ⟨hrf, hrl⟩, hl, hexc, hlk⟩ := id C
  obtain ⟨a1, a2, a3, a4, a5, a6, a7, a8⟩ := id A
  obtain rfl : len = 1 := hn.resolve_left (by simp [zilen])
  simp only [zExe] at hr
  obtain ⟨x, S0, rfl, hr1⟩ := pJ_some hr
  exact lv_l2i hx hb hd (zi_of _).symm (K _ _ (zI (zl2i x) :: S0) _ _ _ _ _ _ hr1 ⟨a1, a2, a3, a4, a5, a6.tl.cons (zi_r _), a7, a8⟩)
theorem zw_i2b (C : zCtx p l R s m args meth c q base adr adV dC dI cA L0 xs) (K : zWk p l e R s m args below meth c Q q n r base n0 u0 adr dC dI cA L0 xs) (hd : decode (zbytes q) pc = .ok (.i2b, len)) (hn : zilen (.i2b) = 0 ∨ len = zilen (.i2b)) (A : zAt s q base n0 u0 adr dC dI cA L0 xs H locs cells slots ls L S h)
    (hr : zExe q pc len (.i2b) L S h (fun pc L S h => zX n q pc L S h) (fun v h => some (.inl v, h)) (fun E h => some (.inr E, h)) (fun k as pc2 L S h => zBack (zX n) q pc pc2 L S (zX n k 0 (zini as (zmaxl k)) [] h)) = some r) : W p l e R s m args below meth c H locs cells slots Q (F0 m pc ls (S.map (zenc (zrho base adr)))) := by
  obtain ⟨hx, hb, hml, hown, hts, hK, hSt, hin, ⟨hrf, hrl⟩, hl, hexc, hlk⟩ := id C
  obtain ⟨a1, a2, a3, a4, a5, a6, a7, a8⟩ := id A
  obtain rfl : len = 1 := hn.resolve_left (by simp [zilen])
  simp only [zExe] at hr
  obtain ⟨x, S0, rfl, hr1⟩ := pI_some hr
  exact lv_i2b hx hb hd (zi_of _).symm (K _ _ (zI (zi2b x) :: S0) _ _ _ _ _ _ hr1 ⟨a1, a2, a3, a4, a5, a6.tl.cons (zi_r _), a7, a8⟩)
theorem zw_i2f (C : zCtx p l R s m args meth c q base adr adV dC dI cA L0 xs) (K : zWk p l e R s m args below meth c Q q n r base n0 u0 adr dC dI cA L0 xs) (hd : decode (zbytes q) pc = .ok (.i2f, len)) (hn : zilen (.i2f) = 0 ∨ len = zilen (.i2f)) (A : zAt s q base n0 u0 adr dC dI cA L0 xs H locs cells slots ls L S h)
    (hr : zExe q pc len (.i2f) L S h (fun pc L S h => zX n q pc L S h) (fun v h => some (.inl v, h)) (fun E h => some (.inr E, h)) (fun k as pc2 L S h => zBack (zX n) q pc pc2 L S (zX n k 0 (zini as (zmaxl k)) [] h)) = some r) : W p l e R s m args below meth c H locs cells slots Q (F0 m pc ls (S.map (zenc (zrho base adr)))) := by
  obtain ⟨hx, hb, hml, hown, hts, hK, hSt, hin, ⟨hrf, hrl⟩, hl, hexc, hlk⟩ := id C
  obtain ⟨a1, a2, a3, a4, a5, a6, a7, a8⟩ := id A
  obtain rfl : len = 1 := hn.resolve_left (by simp [zilen])
  simp only [zExe] at hr
  obtain ⟨x, S0, rfl, hr1⟩ := pI_some hr
  exact lv_i2f hx hb hd (K _ _ (zF (FP.i2f (Int32.ofInt x)) :: S0) _ _ _ _ _ _ hr1 ⟨a1, a2, a3, a4, a5, a6.tl.cons trivial, a7, a8⟩)
theorem zw_i2d (C : zCtx p l R s m args meth c q base adr adV dC dI cA L0 xs) (K : zWk p l e R s m args below meth c Q q n r base n0 u0 adr dC dI cA L0 xs) (hd : decode (zbytes q) pc = .ok (.i2d, len)) (hn : zilen (.i2d) = 0 ∨ len = zilen (.i2d)) (A : zAt s q base n0 u0 adr dC dI cA L0 xs H locs cells slots ls L S h)
    (hr : zExe q pc len (.i2d) L S h (fun pc L S h => zX n q pc L S h) (fun v h => some (.inl v, h)) (fun E h => some (.inr E, h)) (fun k as pc2 L S h => zBack (zX n) q pc pc2 L S (zX n k 0 (zini as (zmaxl k)) [] h)) = some r) : W p l e R s m args below meth c H locs cells slots Q (F0 m pc ls (S.map (zenc (zrho base adr)))) := by
  obtain ⟨hx, hb, hml, hown, hts, hK, hSt, hin, ⟨hrf, hrl⟩, hl, hexc, hlk⟩ := id C
  obtain ⟨a1, a2, a3, a4, a5, a6, a7, a8⟩ := id A
  obtain rfl : len = 1 := hn.resolve_left (by simp [zilen])
  simp only [zExe] at hr
  obtain ⟨x, S0, rfl, hr1⟩ := pI_some hr
  exact lv_i2d hx hb hd (K _ _ (zD (FP.i2d (Int32.ofInt x)) :: S0) _ _ _ _ _ _ hr1 ⟨a1, a2, a3, a4, a5, a6.tl.cons trivial, a7, a8⟩)
theorem zw_f2i (C : zCtx p l R s m args meth c q base adr adV dC dI cA L0 xs) (K : zWk p l e R s m args below meth c Q q n r base n0 u0 adr dC dI cA L0 xs) (hd : decode (zbytes q) pc = .ok (.f2i, len)) (hn : zilen (.f2i) = 0 ∨ len = zilen (.f2i)) (A : zAt s q base n0 u0 adr dC dI cA L0 xs H locs cells slots ls L S h)
    (hr : zExe q pc len (.f2i) L S h (fun pc L S h => zX n q pc L S h) (fun v h => some (.inl v, h)) (fun E h => some (.inr E, h)) (fun k as pc2 L S h => zBack (zX n) q pc pc2 L S (zX n k 0 (zini as (zmaxl k)) [] h)) = some r) : W p l e R s m args below meth c H locs cells slots Q (F0 m pc ls (S.map (zenc (zrho base adr)))) := by
  obtain ⟨hx, hb, hml, hown, hts, hK, hSt, hin, ⟨hrf, hrl⟩, hl, hexc, hlk⟩ := id C
  obtain ⟨a1, a2, a3, a4, a5, a6, a7, a8⟩ := id A
  obtain rfl : len = 1 := hn.resolve_left (by simp [zilen])
  simp only [zExe] at hr
  obtain ⟨x, S0, rfl, hr1⟩ := pF_some hr
  exact lv_f2i hx hb hd (W.eq (g2 := F0 m (pc + 1) ls ((zI (FP.f2i x).toInt :: S0).map (zenc (zrho base adr)))) (congrArg (F0 m (pc + 1) ls) (congrArg (· :: S0.map (zenc (zrho base adr))) (congrArg Value.int (zi_of _).symm))) (K _ _ (zI (FP.f2i x).toInt :: S0) _ _ _ _ _ _ hr1 ⟨a1, a2, a3, a4, a5, a6.tl.cons (zi_r _), a7, a8⟩))
theorem zw_d2l (C : zCtx p l R s m args meth c q base adr adV dC dI cA L0 xs) (K : zWk p l e R s m args below meth c Q q n r base n0 u0 adr dC dI cA L0 xs) (hd : decode (zbytes q) pc = .ok (.d2l, len)) (hn : zilen (.d2l) = 0 ∨ len = zilen (.d2l)) (A : zAt s q base n0 u0 adr dC dI cA L0 xs H locs cells slots ls L S h)
    (hr : zExe q pc len (.d2l) L S h (fun pc L S h => zX n q pc L S h) (fun v h => some (.inl v, h)) (fun E h => some (.inr E, h)) (fun k as pc2 L S h => zBack (zX n) q pc pc2 L S (zX n k 0 (zini as (zmaxl k)) [] h)) = some r) : W p l e R s m args below meth c H locs cells slots Q (F0 m pc ls (S.map (zenc (zrho base adr)))) := by
  obtain ⟨hx, hb, hml, hown, hts, hK, hSt, hin, ⟨hrf, hrl⟩, hl, hexc, hlk⟩ := id C
  obtain ⟨a1, a2, a3, a4, a5, a6, a7, a8⟩ := id A
  obtain rfl : len = 1 := hn.resolve_left (by simp [zilen])
  simp only [zExe] at hr
  obtain ⟨x, S0, rfl, hr1⟩ := pD_some hr
  exact lv_d2l hx hb hd (K _ _ (zJ (FP.d2l x).toBitVec :: S0) _ _ _ _ _ _ hr1 ⟨a1, a2, a3, a4, a5, a6.tl.cons trivial, a7, a8⟩)
theorem zw_f2d (C : zCtx p l R s m args meth c q base adr adV dC dI cA L0 xs) (K : zWk p l e R s m args below meth c Q q n r base n0 u0 adr dC dI cA L0 xs) (hd : decode (zbytes q) pc = .ok (.f2d, len)) (hn : zilen (.f2d) = 0 ∨ len = zilen (.f2d)) (A : zAt s q base n0 u0 adr dC dI cA L0 xs H locs cells slots ls L S h)
    (hr : zExe q pc len (.f2d) L S h (fun pc L S h => zX n q pc L S h) (fun v h => some (.inl v, h)) (fun E h => some (.inr E, h)) (fun k as pc2 L S h => zBack (zX n) q pc pc2 L S (zX n k 0 (zini as (zmaxl k)) [] h)) = some r) : W p l e R s m args below meth c H locs cells slots Q (F0 m pc ls (S.map (zenc (zrho base adr)))) := by
  obtain ⟨hx, hb, hml, hown, hts, hK, hSt, hin, ⟨hrf, hrl⟩, hl, hexc, hlk⟩ := id C
  obtain ⟨a1, a2, a3, a4, a5, a6, a7, a8⟩ := id A
  obtain rfl : len = 1 := hn.resolve_left (by simp [zilen])
  simp only [zExe] at hr
  obtain ⟨x, S0, rfl, hr1⟩ := pF_some hr
  obtain ⟨hg, hr2⟩ := gd_some hr1
  exact lv_f2d hx hb hd (zn64_ok hg) (K _ _ (zD (FP.f2d x) :: S0) _ _ _ _ _ _ hr2 ⟨a1, a2, a3, a4, a5, a6.tl.cons trivial, a7, a8⟩)
theorem zw_fadd (C : zCtx p l R s m args meth c q base adr adV dC dI cA L0 xs) (K : zWk p l e R s m args below meth c Q q n r base n0 u0 adr dC dI cA L0 xs) (hd : decode (zbytes q) pc = .ok (.fadd, len)) (hn : zilen (.fadd) = 0 ∨ len = zilen (.fadd)) (A : zAt s q base n0 u0 adr dC dI cA L0 xs H locs cells slots ls L S h)
    (hr : zExe q pc len (.fadd) L S h (fun pc L S h => zX n q pc L S h) (fun v h => some (.inl v, h)) (fun E h => some (.inr E, h)) (fun k as pc2 L S h => zBack (zX n) q pc pc2 L S (zX n k 0 (zini as (zmaxl k)) [] h)) = some r) : W p l e R s m args below meth c H locs cells slots Q (F0 m pc ls (S.map (zenc (zrho base adr)))) := by
  obtain ⟨hx, hb, hml, hown, hts, hK, hSt, hin, ⟨hrf, hrl⟩, hl, hexc, hlk⟩ := id C
  obtain ⟨a1, a2, a3, a4, a5, a6, a7, a8⟩ := id A
  obtain rfl : len = 1 := hn.resolve_left (by simp [zilen])
  simp only [zExe] at hr
  obtain ⟨y, S0, rfl, hr1⟩ := pF_some hr
  obtain ⟨x, S1, rfl, hr2⟩ := pF_some hr1
  obtain ⟨hg, hr3⟩ := gd_some hr2
  exact lv_fadd hx hb hd (zn32_ok hg) (K _ _ (zF (FP.fadd x y) :: S1) _ _ _ _ _ _ hr3 ⟨a1, a2, a3, a4, a5, a6.tl.tl.cons trivial, a7, a8⟩)
theorem zw_fsub (C : zCtx p l R s m args meth c q base adr adV dC dI cA L0 xs) (K : zWk p l e R s m args below meth c Q q n r base n0 u0 adr dC dI cA L0 xs) (hd : decode (zbytes q) pc = .ok (.fsub, len)) (hn : zilen (.fsub) = 0 ∨ len = zilen (.fsub)) (A : zAt s q base n0 u0 adr dC dI cA L0 xs H locs cells slots ls L S h)
    (hr : zExe q pc len (.fsub) L S h (fun pc L S h => zX n q pc L S h) (fun v h => some (.inl v, h)) (fun E h => some (.inr E, h)) (fun k as pc2 L S h => zBack (zX n) q pc pc2 L S (zX n k 0 (zini as (zmaxl k)) [] h)) = some r) : W p l e R s m args below meth c H locs cells slots Q (F0 m pc ls (S.map (zenc (zrho base adr)))) := by
  obtain ⟨hx, hb, hml, hown, hts, hK, hSt, hin, ⟨hrf, hrl⟩, hl, hexc, hlk⟩ := id C
  obtain ⟨a1, a2, a3, a4, a5, a6, a7, a8⟩ := id A
  obtain rfl : len = 1 := hn.resolve_left (by simp [zilen])
  simp only [zExe] at hr
  obtain ⟨y, S0, rfl, hr1⟩ := pF_some hr
  obtain ⟨x, S1, rfl, hr2⟩ := pF_some hr1
  obtain ⟨hg, hr3⟩ := gd_some hr2
  exact lv_fsub hx hb hd (zn32_ok hg) (K _ _ (zF (FP.fsub x y) :: S1) _ _ _ _ _ _ hr3 ⟨a1, a2, a3, a4, a5, a6.tl.tl.cons trivial, a7, a8⟩)
theorem zw_fmul (C : zCtx p l R s m args meth c q base adr adV dC dI cA L0 xs) (K : zWk p l e R s m args below meth c Q q n r base n0 u0 adr dC dI cA L0 xs) (hd : decode (zbytes q) pc = .ok (.fmul, len)) (hn : zilen (.fmul) = 0 ∨ len = zilen (.fmul)) (A : zAt s q base n0 u0 adr dC dI cA L0 xs H locs cells slots ls L S h)
    (hr : zExe q pc len (.fmul) L S h (fun pc L S h => zX n q pc L S h) (fun v h => some (.inl v, h)) (fun E h => some (.inr E, h)) (fun k as pc2 L S h => zBack (zX n) q pc pc2 L S (zX n k 0 (zini as (zmaxl k)) [] h)) = some r) : W p l e R s m args below meth c H locs cells slots Q (F0 m pc ls (S.map (zenc (zrho base adr)))) := by
  obtain ⟨hx, hb, hml, hown, hts, hK, hSt, hin, ⟨hrf, hrl⟩, hl, hexc, hlk⟩ := id C
  obtain ⟨a1, a2, a3, a4, a5, a6, a7, a8⟩ := id A
  obtain rfl : len = 1 := hn.resolve_left (by simp [zilen])
  simp only [zExe] at hr
  obtain ⟨y, S0, rfl, hr1⟩ := pF_some hr
  obtain ⟨x, S1, rfl, hr2⟩ := pF_some hr1
  obtain ⟨hg, hr3⟩ := gd_some hr2
  exact lv_fmul hx hb hd (zn32_ok hg) (K _ _ (zF (FP.fmul x y) :: S1) _ _ _ _ _ _ hr3 ⟨a1, a2, a3, a4, a5, a6.tl.tl.cons trivial, a7, a8⟩)
theorem zw_fdiv (C : zCtx p l R s m args meth c q base adr adV dC dI cA L0 xs) (K : zWk p l e R s m args below meth c Q q n r base n0 u0 adr dC dI cA L0 xs) (hd : decode (zbytes q) pc = .ok (.fdiv, len)) (hn : zilen (.fdiv) = 0 ∨ len = zilen (.fdiv)) (A : zAt s q base n0 u0 adr dC dI cA L0 xs H locs cells slots ls L S h)
    (hr : zExe q pc len (.fdiv) L S h (fun pc L S h => zX n q pc L S h) (fun v h => some (.inl v, h)) (fun E h => some (.inr E, h)) (fun k as pc2 L S h => zBack (zX n) q pc pc2 L S (zX n k 0 (zini as (zmaxl k)) [] h)) = some r) : W p l e R s m args below meth c H locs cells slots Q (F0 m pc ls (S.map (zenc (zrho base adr)))) := by
  obtain ⟨hx, hb, hml, hown, hts, hK, hSt, hin, ⟨hrf, hrl⟩, hl, hexc, hlk⟩ := id C
  obtain ⟨a1, a2, a3, a4, a5, a6, a7, a8⟩ := id A
  obtain rfl : len = 1 := hn.resolve_left (by simp [zilen])
  simp only [zExe] at hr
  obtain ⟨y, S0, rfl, hr1⟩ := pF_some hr
  obtain ⟨x, S1, rfl, hr2⟩ := pF_some hr1
  obtain ⟨hg, hr3⟩ := gd_some hr2
  exact lv_fdiv hx hb hd (zn32_ok hg) (K _ _ (zF (FP.fdiv x y) :: S1) _ _ _ _ _ _ hr3 ⟨a1, a2, a3, a4, a5, a6.tl.tl.cons trivial, a7, a8⟩)
theorem zw_dadd (C : zCtx p l R s m args meth c q base adr adV dC dI cA L0 xs) (K : zWk p l e R s m args below meth c Q q n r base n0 u0 adr dC dI cA L0 xs) (hd : decode (zbytes q) pc = .ok (.dadd, len)) (hn : zilen (.dadd) = 0 ∨ len = zilen (.dadd)) (A : zAt s q base n0 u0 adr dC dI cA L0 xs H locs cells slots ls L S h)
    (hr : zExe q pc len (.dadd) L S h (fun pc L S h => zX n q pc L S h) (fun v h => some (.inl v, h)) (fun E h => some (.inr E, h)) (fun k as pc2 L S h => zBack (zX n) q pc pc2 L S (zX n k 0 (zini as (zmaxl k)) [] h)) = some r) : W p l e R s m args below meth c H locs cells slots Q (F0 m pc ls (S.map (zenc (zrho base adr)))) := by
  obtain ⟨hx, hb, hml, hown, hts, hK, hSt, hin, ⟨hrf, hrl⟩, hl, hexc, hlk⟩ := id C
  obtain ⟨a1, a2, a3, a4, a5, a6, a7, a8⟩ := id A
  obtain rfl : len = 1 := hn.resolve_left (by simp [zilen])
  simp only [zExe] at hr
  obtain ⟨y, S0, rfl, hr1⟩ := pD_some hr
  obtain ⟨x, S1, rfl, hr2⟩ := pD_some hr1
  obtain ⟨hg, hr3⟩ := gd_some hr2
  exact lv_dadd hx hb hd (zn64_ok hg) (K _ _ (zD (FP.dadd x y) :: S1) _ _ _ _ _ _ hr3 ⟨a1, a2, a3, a4, a5, a6.tl.tl.cons trivial, a7, a8⟩)
theorem zw_dsub (C : zCtx p l R s m args meth c q base adr adV dC dI cA L0 xs) (K : zWk p l e R s m args below meth c Q q n r base n0 u0 adr dC dI cA L0 xs) (hd : decode (zbytes q) pc = .ok (.dsub, len)) (hn : zilen (.dsub) = 0 ∨ len = zilen (.dsub)) (A : zAt s q base n0 u0 adr dC dI cA L0 xs H locs cells slots ls L S h)
    (hr : zExe q pc len (.dsub) L S h (fun pc L S h => zX n q pc L S h) (fun v h => some (.inl v, h)) (fun E h => some (.inr E, h)) (fun k as pc2 L S h => zBack (zX n) q pc pc2 L S (zX n k 0 (zini as (zmaxl k)) [] h)) = some r) : W p l e R s m args below meth c H locs cells slots Q (F0 m pc ls (S.map (zenc (zrho base adr)))) := by
  obtain ⟨hx, hb, hml, hown, hts, hK, hSt, hin, ⟨hrf, hrl⟩, hl, hexc, hlk⟩ := id C
  obtain ⟨a1, a2, a3, a4, a5, a6, a7, a8⟩ := id A
  obtain rfl : len = 1 := hn.resolve_left (by simp [zilen])
  simp only [zExe] at hr
  obtain ⟨y, S0, rfl, hr1⟩ := pD_some hr
  obtain ⟨x, S1, rfl, hr2⟩ := pD_some hr1
  obtain ⟨hg, hr3⟩ := gd_some hr2
  exact lv_dsub hx hb hd (zn64_ok hg) (K _ _ (zD (FP.dsub x y) :: S1) _ _ _ _ _ _ hr3 ⟨a1, a2, a3, a4, a5, a6.tl.tl.cons trivial, a7, a8⟩)
theorem zw_dmul (C : zCtx p l R s m args meth c q base adr adV dC dI cA L0 xs) (K : zWk p l e R s m args below meth c Q q n r base n0 u0 adr dC dI cA L0 xs) (hd : decode (zbytes q) pc = .ok (.dmul, len)) (hn : zilen (.dmul) = 0 ∨ len = zilen (.dmul)) (A : zAt s q base n0 u0 adr dC dI cA L0 xs H locs cells slots ls L S h)
    (hr : zExe q pc len (.dmul) L S h (fun pc L S h => zX n q pc L S h) (fun v h => some (.inl v, h)) (fun E h => some (.inr E, h)) (fun k as pc2 L S h => zBack (zX n) q pc pc2 L S (zX n k 0 (zini as (zmaxl k)) [] h)) = some r) : W p l e R s m args below meth c H locs cells slots Q (F0 m pc ls (S.map (zenc (zrho base adr)))) := by
  obtain ⟨hx, hb, hml, hown, hts, hK, hSt, hin, ⟨hrf, hrl⟩, hl, hexc, hlk⟩ := id C
  obtain ⟨a1, a2, a3, a4, a5, a6, a7, a8⟩ := id A
  obtain rfl : len = 1 := hn.resolve_left (by simp [zilen])
  simp only [zExe] at hr
  obtain ⟨y, S0, rfl, hr1⟩ := pD_some hr
  obtain ⟨x, S1, rfl, hr2⟩ := pD_some hr1
  obtain ⟨hg, hr3⟩ := gd_some hr2
  exact lv_dmul hx hb hd (zn64_ok hg) (K _ _ (zD (FP.dmul x y) :: S1) _ _ _ _ _ _ hr3 ⟨a1, a2, a3, a4, a5, a6.tl.tl.cons trivial, a7, a8⟩)
theorem zw_ddiv (C : zCtx p l R s m args meth c q base adr adV dC dI cA L0 xs) (K : zWk p l e R s m args below meth c Q q n r base n0 u0 adr dC dI cA L0 xs) (hd : decode (zbytes q) pc = .ok (.ddiv, len)) (hn : zilen (.ddiv) = 0 ∨ len = zilen (.ddiv)) (A : zAt s q base n0 u0 adr dC dI cA L0 xs H locs cells slots ls L S h)
    (hr : zExe q pc len (.ddiv) L S h (fun pc L S h => zX n q pc L S h) (fun v h => some (.inl v, h)) (fun E h => some (.inr E, h)) (fun k as pc2 L S h => zBack (zX n) q pc pc2 L S (zX n k 0 (zini as (zmaxl k)) [] h)) = some r) : W p l e R s m args below meth c H locs cells slots Q (F0 m pc ls (S.map (zenc (zrho base adr)))) := by
  obtain ⟨hx, hb, hml, hown, hts, hK, hSt, hin, ⟨hrf, hrl⟩, hl, hexc, hlk⟩ := id C
  obtain ⟨a1, a2, a3, a4, a5, a6, a7, a8⟩ := id A
  obtain rfl : len = 1 := hn.resolve_left (by simp [zilen])
  simp only [zExe] at hr
  obtain ⟨y, S0, rfl, hr1⟩ := pD_some hr
  obtain ⟨x, S1, rfl, hr2⟩ := pD_some hr1
  obtain ⟨hg, hr3⟩ := gd_some hr2
  exact lv_ddiv hx hb hd (zn64_ok hg) (K _ _ (zD (FP.ddiv x y) :: S1) _ _ _ _ _ _ hr3 ⟨a1, a2, a3, a4, a5, a6.tl.tl.cons trivial, a7, a8⟩)
theorem zw_fneg (C : zCtx p l R s m args meth c q base adr adV dC dI cA L0 xs) (K : zWk p l e R s m args below meth c Q q n r base n0 u0 adr dC dI cA L0 xs) (hd : decode (zbytes q) pc = .ok (.fneg, len)) (hn : zilen (.fneg) = 0 ∨ len = zilen (.fneg)) (A : zAt s q base n0 u0 adr dC dI cA L0 xs H locs cells slots ls L S h)
    (hr : zExe q pc len (.fneg) L S h (fun pc L S h => zX n q pc L S h) (fun v h => some (.inl v, h)) (fun E h => some (.inr E, h)) (fun k as pc2 L S h => zBack (zX n) q pc pc2 L S (zX n k 0 (zini as (zmaxl k)) [] h)) = some r) : W p l e R s m args below meth c H locs cells slots Q (F0 m pc ls (S.map (zenc (zrho base adr)))) := by
  obtain ⟨hx, hb, hml, hown, hts, hK, hSt, hin, ⟨hrf, hrl⟩, hl, hexc, hlk⟩ := id C
  obtain ⟨a1, a2, a3, a4, a5, a6, a7, a8⟩ := id A
  obtain rfl : len = 1 := hn.resolve_left (by simp [zilen])
  simp only [zExe] at hr
  obtain ⟨x, S0, rfl, hr1⟩ := pF_some hr
  exact lv_fneg hx hb hd (K _ _ (zF (FP.fneg x) :: S0) _ _ _ _ _ _ hr1 ⟨a1, a2, a3, a4, a5, a6.tl.cons trivial, a7, a8⟩)
theorem zw_fcmp {op : CmpOp} (C : zCtx p l R s m args meth c q base adr adV dC dI cA L0 xs) (K : zWk p l e R s m args below meth c Q q n r base n0 u0 adr dC dI cA L0 xs) (hd : decode (zbytes q) pc = .ok (.fcmp op, len)) (hn : zilen (.fcmp op) = 0 ∨ len = zilen (.fcmp op)) (A : zAt s q base n0 u0 adr dC dI cA L0 xs H locs cells slots ls L S h)
    (hr : zExe q pc len (.fcmp op) L S h (fun pc L S h => zX n q pc L S h) (fun v h => some (.inl v, h)) (fun E h => some (.inr E, h)) (fun k as pc2 L S h => zBack (zX n) q pc pc2 L S (zX n k 0 (zini as (zmaxl k)) [] h)) = some r) : W p l e R s m args below meth c H locs cells slots Q (F0 m pc ls (S.map (zenc (zrho base adr)))) := by
  obtain ⟨hx, hb, hml, hown, hts, hK, hSt, hin, ⟨hrf, hrl⟩, hl, hexc, hlk⟩ := id C
  obtain ⟨a1, a2, a3, a4, a5, a6, a7, a8⟩ := id A
  obtain rfl : len = 1 := hn.resolve_left (by simp [zilen])
  simp only [zExe] at hr
  obtain ⟨y, S0, rfl, hr1⟩ := pF_some hr
  obtain ⟨x, S1, rfl, hr2⟩ := pF_some hr1
  exact lv_fcmp hx hb hd (W.eq (g2 := F0 m (pc + 1) ls ((zI (Op.cmpValue (FP.fcmp x y) op).toInt :: S1).map (zenc (zrho base adr)))) (congrArg (F0 m (pc + 1) ls) (congrArg (· :: S1.map (zenc (zrho base adr))) (congrArg Value.int (zi_of _).symm))) (K _ _ (zI (Op.cmpValue (FP.fcmp x y) op).toInt :: S1) _ _ _ _ _ _ hr2 ⟨a1, a2, a3, a4, a5, a6.tl.tl.cons (zi_r _), a7, a8⟩))
theorem zw_dcmp {op : CmpOp} (C : zCtx p l R s m args meth c q base adr adV dC dI cA L0 xs) (K : zWk p l e R s m args below meth c Q q n r base n0 u0 adr dC dI cA L0 xs) (hd : decode (zbytes q) pc = .ok (.dcmp op, len)) (hn : zilen (.dcmp op) = 0 ∨ len = zilen (.dcmp op)) (A : zAt s q base n0 u0 adr dC dI cA L0 xs H locs cells slots ls L S h)
    (hr : zExe q pc len (.dcmp op) L S h (fun pc L S h => zX n q pc L S h) (fun v h => some (.inl v, h)) (fun E h => some (.inr E, h)) (fun k as pc2 L S h => zBack (zX n) q pc pc2 L S (zX n k 0 (zini as (zmaxl k)) [] h)) = some r) : W p l e R s m args below meth c H locs cells slots Q (F0 m pc ls (S.map (zenc (zrho base adr)))) := by
  obtain ⟨hx, hb, hml, hown, hts, hK, hSt, hin, ⟨hrf, hrl⟩, hl, hexc, hlk⟩ := id C
  obtain ⟨a1, a2, a3, a4, a5, a6, a7, a8⟩ := id A
  obtain rfl : len = 1 := hn.resolve_left (by simp [zilen])
  simp only [zExe] at hr
  obtain ⟨y, S0, rfl, hr1⟩ := pD_some hr
  obtain ⟨x, S1, rfl, hr2⟩ := pD_some hr1
  exact lv_dcmp hx hb hd (W.eq (g2 := F0 m (pc + 1) ls ((zI (Op.cmpValue (FP.dcmp x y) op).toInt :: S1).map (zenc (zrho base adr)))) (congrArg (F0 m (pc + 1) ls) (congrArg (· :: S1.map (zenc (zrho base adr))) (congrArg Value.int (zi_of _).symm))) (K _ _ (zI (Op.cmpValue (FP.dcmp x y) op).toInt :: S1) _ _ _ _ _ _ hr2 ⟨a1, a2, a3, a4, a5, a6.tl.tl.cons (zi_r _), a7, a8⟩))
theorem zw_iinc {k : Nat} {x0 : Int} (C : zCtx p l R s m args meth c q base adr adV dC dI cA L0 xs) (K : zWk p l e R s m args below meth c Q q n r base n0 u0 adr dC dI cA L0 xs) (hd : decode (zbytes q) pc = .ok (.iinc k x0, len)) (hn : zilen (.iinc k x0) = 0 ∨ len = zilen (.iinc k x0)) (A : zAt s q base n0 u0 adr dC dI cA L0 xs H locs cells slots ls L S h)
    (hr : zExe q pc len (.iinc k x0) L S h (fun pc L S h => zX n q pc L S h) (fun v h => some (.inl v, h)) (fun E h => some (.inr E, h)) (fun k as pc2 L S h => zBack (zX n) q pc pc2 L S (zX n k 0 (zini as (zmaxl k)) [] h)) = some r) : W p l e R s m args below meth c H locs cells slots Q (F0 m pc ls (S.map (zenc (zrho base adr)))) := by
  obtain ⟨hx, hb, hml, hown, hts, hK, hSt, hin, ⟨hrf, hrl⟩, hl, hexc, hlk⟩ := id C
  obtain ⟨a1, a2, a3, a4, a5, a6, a7, a8⟩ := id A
  obtain rfl : len = 3 := hn.resolve_left (by simp [zilen])
  simp only [zExe] at hr
  obtain ⟨v, hv, hr1⟩ := zlv_some hr
  have g := a3.at hv
  rcases v with x | x | x | x | x <;> simp only [reduceCtorEq] at hr1
  obtain ⟨hg, hr2⟩ := gd_some hr1
  obtain ⟨hg2, hr3⟩ := gd_some hr2
  obtain ⟨L1, hL, hr4⟩ := zls_some hr3
  obtain ⟨g1, g2, g3, g4⟩ := zst1_spec (ρ := zrho base adr) hL
  have hm : (k, zenc (zrho base adr) (zI x)) ∈ zlv1 (zrho base adr) L := zlv1_in.mpr ⟨_, hv, rfl⟩
  obtain ⟨j, hj⟩ := List.getElem?_of_mem hm
  exact lv_iinc (k := j) hx hb hd a3.has hj (Int32.ofInt_add (a := x) (b := x0)).symm g2 rfl (fun ls1 hl1 => K _ _ S _ _ _ _ _ _ hr4 ⟨a1, a2, zLS.put (v := zI (x + x0)) g1 g3 g4 hl1, by rw [g1, a4], a5.put (v := zI (x + x0)) (ρ := zrho base adr) (lv' := []) hg g3 (fun i w hi hw => zst1_back hL hi hw), a6, a7, a8⟩)
theorem zw_ineg (C : zCtx p l R s m args meth c q base adr adV dC dI cA L0 xs) (K : zWk p l e R s m args below meth c Q q n r base n0 u0 adr dC dI cA L0 xs) (hd : decode (zbytes q) pc = .ok (.ineg, len)) (hn : zilen (.ineg) = 0 ∨ len = zilen (.ineg)) (A : zAt s q base n0 u0 adr dC dI cA L0 xs H locs cells slots ls L S h)
    (hr : zExe q pc len (.ineg) L S h (fun pc L S h => zX n q pc L S h) (fun v h => some (.inl v, h)) (fun E h => some (.inr E, h)) (fun k as pc2 L S h => zBack (zX n) q pc pc2 L S (zX n k 0 (zini as (zmaxl k)) [] h)) = some r) : W p l e R s m args below meth c H locs cells slots Q (F0 m pc ls (S.map (zenc (zrho base adr)))) := by
  obtain ⟨hx, hb, hml, hown, hts, hK, hSt, hin, ⟨hrf, hrl⟩, hl, hexc, hlk⟩ := id C
  obtain ⟨a1, a2, a3, a4, a5, a6, a7, a8⟩ := id A
  obtain rfl : len = 1 := hn.resolve_left (by simp [zilen])
  simp only [zExe] at hr
  obtain ⟨x, S0, rfl, hr1⟩ := pI_some hr
  refine lv_ineg hx hb hd ?_
  rw [← show Int32.ofInt (zwneg x) = -Int32.ofInt x from zi_of _]
  exact K _ _ (zI (zwneg x) :: S0) _ _ _ _ _ _ hr1 ⟨a1, a2, a3, a4, a5, a6.tl.cons (zsh_r _ _ _), a7, a8⟩
theorem zw_lmul (C : zCtx p l R s m args meth c q base adr adV dC dI cA L0 xs) (K : zWk p l e R s m args below meth c Q q n r base n0 u0 adr dC dI cA L0 xs) (hd : decode (zbytes q) pc = .ok (.lmul, len)) (hn : zilen (.lmul) = 0 ∨ len = zilen (.lmul)) (A : zAt s q base n0 u0 adr dC dI cA L0 xs H locs cells slots ls L S h)
    (hr : zExe q pc len (.lmul) L S h (fun pc L S h => zX n q pc L S h) (fun v h => some (.inl v, h)) (fun E h => some (.inr E, h)) (fun k as pc2 L S h => zBack (zX n) q pc pc2 L S (zX n k 0 (zini as (zmaxl k)) [] h)) = some r) : W p l e R s m args below meth c H locs cells slots Q (F0 m pc ls (S.map (zenc (zrho base adr)))) := by
  obtain ⟨hx, hb, hml, hown, hts, hK, hSt, hin, ⟨hrf, hrl⟩, hl, hexc, hlk⟩ := id C
  obtain ⟨a1, a2, a3, a4, a5, a6, a7, a8⟩ := id A
  obtain rfl : len = 1 := hn.resolve_left (by simp [zilen])
  simp only [zExe] at hr
  obtain ⟨y, S0, rfl, hr1⟩ := pJ_some hr
  obtain ⟨x, S1, rfl, hr2⟩ := pJ_some hr1
  exact lv_lmul hx hb hd (K _ _ (zJ (x * y) :: S1) _ _ _ _ _ _ hr2 ⟨a1, a2, a3, a4, a5, a6.tl.tl.cons trivial, a7, a8⟩)
theorem zw_i2c (C : zCtx p l R s m args meth c q base adr adV dC dI cA L0 xs) (K : zWk p l e R s m args below meth c Q q n r base n0 u0 adr dC dI cA L0 xs) (hd : decode (zbytes q) pc = .ok (.i2c, len)) (hn : zilen (.i2c) = 0 ∨ len = zilen (.i2c)) (A : zAt s q base n0 u0 adr dC dI cA L0 xs H locs cells slots ls L S h)
    (hr : zExe q pc len (.i2c) L S h (fun pc L S h => zX n q pc L S h) (fun v h => some (.inl v, h)) (fun E h => some (.inr E, h)) (fun k as pc2 L S h => zBack (zX n) q pc pc2 L S (zX n k 0 (zini as (zmaxl k)) [] h)) = some r) : W p l e R s m args below meth c H locs cells slots Q (F0 m pc ls (S.map (zenc (zrho base adr)))) := by
  obtain ⟨hx, hb, hml, hown, hts, hK, hSt, hin, ⟨hrf, hrl⟩, hl, hexc, hlk⟩ := id C
  obtain ⟨a1, a2, a3, a4, a5, a6, a7, a8⟩ := id A
  obtain rfl : len = 1 := hn.resolve_left (by simp [zilen])
  simp only [zExe] at hr
  obtain ⟨x, S0, rfl, hr1⟩ := pI_some hr
  exact lv_i2c hx hb hd (zi_of _).symm (K _ _ (zI (zi2c x) :: S0) _ _ _ _ _ _ hr1 ⟨a1, a2, a3, a4, a5, a6.tl.cons (zi_r _), a7, a8⟩)
theorem zw_dup_x1 (C : zCtx p l R s m args meth c q base adr adV dC dI cA L0 xs) (K : zWk p l e R s m args below meth c Q q n r base n0 u0 adr dC dI cA L0 xs) (hd : decode (zbytes q) pc = .ok (.dup_x1, len)) (hn : zilen (.dup_x1) = 0 ∨ len = zilen (.dup_x1)) (A : zAt s q base n0 u0 adr dC dI cA L0 xs H locs cells slots ls L S h)
    (hr : zExe q pc len (.dup_x1) L S h (fun pc L S h => zX n q pc L S h) (fun v h => some (.inl v, h)) (fun E h => some (.inr E, h)) (fun k as pc2 L S h => zBack (zX n) q pc pc2 L S (zX n k 0 (zini as (zmaxl k)) [] h)) = some r) : W p l e R s m args below meth c H locs cells slots Q (F0 m pc ls (S.map (zenc (zrho base adr)))) := by
  obtain ⟨hx, hb, hml, hown, hts, hK, hSt, hin, ⟨hrf, hrl⟩, hl, hexc, hlk⟩ := id C
  obtain ⟨a1, a2, a3, a4, a5, a6, a7, a8⟩ := id A
  obtain rfl : len = 1 := hn.resolve_left (by simp [zilen])
  simp only [zExe] at hr
  obtain ⟨v, S0, rfl, hc, hr1⟩ := p1_some hr
  obtain ⟨w, S1, rfl, hc2, hr2⟩ := p1_some hr1
  exact lv_dup_x1 hx hb hd (by rw [zenc_cat, hc]; rfl) (by rw [zenc_cat, hc2]; rfl) (K _ _ (v :: w :: v :: S1) _ _ _ _ _ _ hr2 ⟨a1, a2, a3, a4, a5, (a6.tl.tl.cons a6.hd |>.cons a6.tl.hd).cons a6.hd, a7, a8⟩)
theorem zw_aconst_null (C : zCtx p l R s m args meth c q base adr adV dC dI cA L0 xs) (K : zWk p l e R s m args below meth c Q q n r base n0 u0 adr dC dI cA L0 xs) (hd : decode (zbytes q) pc = .ok (.aconst_null, len)) (hn : zilen (.aconst_null) = 0 ∨ len = zilen (.aconst_null)) (A : zAt s q base n0 u0 adr dC dI cA L0 xs H locs cells slots ls L S h)
    (hr : zExe q pc len (.aconst_null) L S h (fun pc L S h => zX n q pc L S h) (fun v h => some (.inl v, h)) (fun E h => some (.inr E, h)) (fun k as pc2 L S h => zBack (zX n) q pc pc2 L S (zX n k 0 (zini as (zmaxl k)) [] h)) = some r) : W p l e R s m args below meth c H locs cells slots Q (F0 m pc ls (S.map (zenc (zrho base adr)))) := by
  obtain ⟨hx, hb, hml, hown, hts, hK, hSt, hin, ⟨hrf, hrl⟩, hl, hexc, hlk⟩ := id C
  obtain ⟨a1, a2, a3, a4, a5, a6, a7, a8⟩ := id A
  obtain rfl : len = 1 := hn.resolve_left (by simp [zilen])
  simp only [zExe] at hr
  exact lv_null hx hb hd (K _ _ (zR none :: S) _ _ _ _ _ _ hr ⟨a1, a2, a3, a4, a5, a6.cons trivial, a7, a8⟩)
end ZW
