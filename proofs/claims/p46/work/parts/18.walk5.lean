/-! Calls. -/
theorem zcs_e (ρ : Nat → Nat) (S : List zV) : ((S.map (zenc ρ)).map fun v => v.category).sum = zcs S := by
  unfold zcs
  rw [List.map_map]
  exact congrArg List.sum (List.map_congr_left fun v _ => zenc_cat ρ v)
theorem zhh_nil : ∀ q, q < 262 → zown q = 13 ∨ zhh q = [] := by decide +kernel
noncomputable def zhck : List (Nat × Nat × Nat × Nat) → Nat → Nat → Nat → Bool
  | [], _, _, _ => false
  | (a, b, hp, ct) :: l, pc, E, h => bif Nat.ble a pc && Nat.blt pc b && decide (zcpC 13 ct = some (100 + E)) then Nat.beq hp h else (!(Nat.ble a pc && Nat.blt pc b) || (match zcpC 13 ct with
    | some c9 => Nat.ble 100 c9 && Nat.blt c9 104 && !(Nat.beq c9 (100 + E))
    | none => false)) && zhck l pc E h
noncomputable def zhckA (q pc E : Nat) : Bool := match zhnd q pc E with
  | none => true
  | some hp => Nat.beq (zown q) 13 && zhck (zhh q) pc E hp
theorem zhck_all : ∀ q, q < 262 → ∀ pc, pc < 64 → ∀ E, E < 4 → zhckA q pc E = true := by decide +kernel
theorem zhck_ok {q pc E hp : Nat} (h : zhnd q pc E = some hp) : zown q = 13 ∧ zhck (zhh q) pc E hp = true := by
  have hb : q < 262 ∧ pc < 64 ∧ E < 4 := by
    unfold zhnd at h
    cases hg : (Nat.blt q 262 && Nat.blt pc 64 && Nat.blt E 4) with
    | false => rw [hg] at h; cases h
    | true =>
      simp only [Bool.and_eq_true] at hg
      exact ⟨Nat.ble_eq.mp hg.1.1, Nat.ble_eq.mp hg.1.2, Nat.ble_eq.mp hg.2⟩
  have h1 := zhck_all q hb.1 pc hb.2.1 E hb.2.2
  unfold zhckA at h1
  rw [h] at h1
  rw [Bool.and_eq_true] at h1
  exact ⟨Nat.eq_of_beq_eq_true h1.1, h1.2⟩
theorem zcatch {pc E hp : Nat} : ∀ tl : List ExceptionTableEntry, zhck (tl.map (fun h => (h.startPc, h.endPc, h.handlerPc, h.catchType))) pc E hp = true → ∃ pre x suf, tl = pre ++ x :: suf ∧ (∀ z ∈ pre, covers z pc = false ∨ ∃ E2, E2 < 4 ∧ E2 ≠ E ∧ zcpC 13 z.catchType = some (100 + E2)) ∧ covers x pc = true ∧ zcpC 13 x.catchType = some (100 + E) ∧ x.handlerPc = hp
  | [], h => by cases h
  | z :: tl, h => by
    rw [List.map_cons] at h
    unfold zhck at h
    cases hg : (Nat.ble z.startPc pc && Nat.blt pc z.endPc && decide (zcpC 13 z.catchType = some (100 + E))) with
    | true =>
      rw [hg] at h
      simp only [Bool.and_eq_true] at hg
      refine ⟨[], z, tl, rfl, (fun _ h => by cases h), ?_, of_decide_eq_true hg.2, Nat.eq_of_beq_eq_true h⟩
      unfold covers
      have h1 := Nat.ble_eq.mp hg.1.1
      have h2 : pc < z.endPc := Nat.ble_eq.mp hg.1.2
      simp [h1, h2]
    | false =>
      rw [hg] at h
      rw [cond_false, Bool.and_eq_true] at h
      obtain ⟨pre, x, suf, e1, e2, e3⟩ := zcatch tl h.2
      refine ⟨z :: pre, x, suf, by rw [e1]; rfl, fun w hw => ?_, e3⟩
      rcases List.mem_cons.mp hw with rfl | hw
      · rcases Bool.or_eq_true _ _ ▸ h.1 with h1 | h1
        · refine Or.inl ?_
          unfold covers
          simp only [Bool.not_eq_true', Bool.and_eq_false_iff] at h1
          rcases h1 with h1 | h1
          · have : ¬ w.startPc ≤ pc := fun g => by rw [Nat.ble_eq.mpr g] at h1; cases h1
            simp [this]
          · have : ¬ pc < w.endPc := fun g => by rw [show Nat.blt pc w.endPc = true from Nat.ble_eq.mpr g] at h1; cases h1
            simp [this]
        · split at h1
          · rename_i c9 hc
            simp only [Bool.and_eq_true, Bool.not_eq_true'] at h1
            have g1 := Nat.ble_eq.mp h1.1.1
            have g2 : c9 < 104 := Nat.ble_eq.mp h1.1.2
            refine Or.inr ⟨c9 - 100, by omega, fun g => ?_, by rw [hc]; exact congrArg some (by omega)⟩
            have g3 : c9 = 100 + E := by omega
            rw [g3, show Nat.beq (100 + E) (100 + E) = true from Nat.beq_refl _] at h1
            exact absurd h1.2 (by decide)
          · cases h1
      · exact e2 w hw
noncomputable def zws (k : Nat) : List Cond := zword k :: lw_good
def zPc (adV : Nat → Nat) (base : Nat) (adr : Nat → Nat) (dC : Nat → ClassId) (dI : Nat → Nat → Nat) (cA : Nat → ClassId) (L0 : Nat) (xs : Nat → Int32) (as : List zV) (h : zH) : Array Value → State → Prop := fun a U => a = (as.map (zenc (zrho base adr))).toArray ∧ zRep base adr dC dI cA L0 xs U.heap h ∧ zK dC dI cA U ∧ zSt base adr adV L0 xs U U.heap
def zQc (base : Nat) (adr : Nat → Nat) (dC : Nat → ClassId) (dI : Nat → Nat → Nat) (cA : Nat → ClassId) (L0 : Nat) (xs : Nat → Int32) (r : (Option zV ⊕ Nat) × zH) : Array Value → State → Outcome → State → Prop := fun _ st o t => ∃ v, r.1 = .inl v ∧ o = .returned (v.map (zenc (zrho base adr))) ∧ zRep base adr dC dI cA L0 xs t.heap r.2 ∧ va_F (zA base) st t ∧ ∀ w, v = some w → zok1 w
def zXc (base : Nat) (adr : Nat → Nat) (dC : Nat → ClassId) (dI : Nat → Nat → Nat) (cA : Nat → ClassId) (L0 : Nat) (xs : Nat → Int32) (r : (Option zV ⊕ Nat) × zH) : String → State → State → Prop := fun E st t => ∃ k, r.1 = .inr k ∧ k < 4 ∧ k ≠ 2 ∧ E = zen k ∧ zRep base adr dC dI cA L0 xs t.heap r.2 ∧ va_F (zA base) st t
/-- a method's contract, for one run of the small machine -/
def zMt (l : Launch) (adV : Nat → Nat) (base : Nat) (adr : Nat → Nat) (dC : Nat → ClassId) (dI : Nat → Nat → Nat) (cA : Nat → ClassId) (L0 : Nat) (xs : Nat → Int32) (k : Nat) (as : List zV) (h : zH) (r : (Option zV ⊕ Nat) × zH) : Prop :=
  vx_Met l (zy k) (zws k) { frames := zrf k, cells := hN r.2 - hN h, slots := hU r.2 - hU h, locals := zrl k } (zPc adV base adr dC dI cA L0 xs as h) (zQc base adr dC dI cA L0 xs r) (zXc base adr dC dI cA L0 xs r) (hN r.2 - hN h) (hU r.2 - hU h) (zA base)
def zPr (p : Program) (l : Launch) (e : Env) (R : Room) (s : State) (m : MethodId) (args : Array Value) (below : List Frame) (meth : Method) (c : Code) (Q : State → Prop) (q : Nat) (r : (Option zV ⊕ Nat) × zH) (base n0 u0 : Nat) (adr : Nat → Nat) (dC : Nat → ClassId) (dI : Nat → Nat → Nat) (cA : Nat → ClassId) (L0 : Nat) (xs : Nat → Int32) : Prop :=
  ∀ (pc k : Nat) (h : zH) (H : Heap) (locs : List Loc) (cells slots : Nat) (ls : Array Slot) (rest : List Value) (q9 : Addr) (ce : Cell), r = (.inr k, h) → k < 4 → k ≠ 2 → zown q ≠ 13 → zRep base adr dC dI cA L0 xs H h → va_S (zA base) s.heap H locs → cells + n0 = hN h → slots + u0 = hU h → H[q9]? = some ce → ce.vm = .none → s.vm.findClass (zen k) = some ce.cls → vx_W p l e R s m args below meth c H locs cells slots Q (F0 m pc ls rest) q9
section ZW
variable {p : Program} {l : Launch} {e : Env} {R : Room} {s : State} {m : MethodId} {args : Array Value} {below : List Frame} {meth : Method} {c : Code} {Q : State → Prop}
variable {q n : Nat} {r : (Option zV ⊕ Nat) × zH} {base n0 u0 : Nat} {adr adV : Nat → Nat} {dC : Nat → ClassId} {dI : Nat → Nat → Nat} {cA : Nat → ClassId} {L0 : Nat} {xs : Nat → Int32}
variable {pc len : Nat} {L : zL} {S : List zV} {h : zH} {H : Heap} {locs : List Loc} {cells slots : Nat} {ls : Array Slot}
theorem zw_after {x : (Option zV ⊕ Nat) × zH} {S1 : List zV} {st0 : List Value} {a9 : Array Value} (C : zCtx p l R s m args meth c q base adr adV dC dI cA L0 xs) (K : zWk p l e R s m args below meth c Q q n r base n0 u0 adr dC dI cA L0 xs) (hprop : zPr p l e R s m args below meth c Q q r base n0 u0 adr dC dI cA L0 xs) (A : zAt s q base n0 u0 adr dC dI cA L0 xs H locs cells slots ls L S1 h) (hmo : zMo h x.2)
    (hrun : vx_Run p l e R s m args below meth c H locs cells slots (hN x.2 - hN h) (hU x.2 - hU h) (F0 m pc ls st0) (S1.map (zenc (zrho base adr))) (zQc base adr dC dI cA L0 xs x a9) (zXc base adr dC dI cA L0 xs x) (zA base)) (hr : zBack (zX n) q pc (pc + 3) L S1 (some x) = some r) : W p l e R s m args below meth c H locs cells slots Q (F0 m pc ls st0) := by
  obtain ⟨hx, hb, hml, hown, hts, hK, hSt, hin, ⟨hrf, hrl⟩, hl, hexc, hlk⟩ := id C
  obtain ⟨a1, a2, a3, a4, a5, a6, a7, a8⟩ := id A
  obtain ⟨o, h2⟩ := x
  have mo1 : hN h ≤ hN h2 := hmo.1
  have mo2 : hU h ≤ hU h2 := hmo.2
  intro T hT X
  rcases hrun T hT X with ⟨v, st₀, t, T', L9, h0, X', hL, e1, e2, ⟨v2, q1, q2, q3, q4, q6⟩, st⟩ | ⟨q9, st₀, t, T', L9, E, ce, h0, X', hL, e1, e2, ⟨k, q1, q2, q22, q3, q4, q5⟩, hce, hcv, hcl, st⟩
  · obtain ⟨k1, k2, k3⟩ := vx_keep h0 e1 a2 (fun _ _ h => h) (fun _ h => h) hL q4
    simp only at q1 q3
    subst q1
    rw [← e1] at q3
    have hv : v = v2.map (zenc (zrho base adr)) := by cases q2; rfl
    subst hv
    cases v2 with
    | none =>
      obtain ⟨t2, b1, b2⟩ := K (pc + 3) L S1 h2 T'.heap (locs ++ L9) (cells + (hN h2 - hN h)) (slots + (hU h2 - hU h)) ls hr ⟨q3, k3, a3, a4, a5, a6, by omega, by omega⟩ T' rfl X'
      exact ⟨t2, st t2 b1, b2⟩
    | some w =>
      have hw : zok1 w := q6 w rfl
      obtain ⟨t2, b1, b2⟩ := K (pc + 3) L (w :: S1) h2 T'.heap (locs ++ L9) (cells + (hN h2 - hN h)) (slots + (hU h2 - hU h)) ls hr ⟨q3, k3, a3, a4, a5, a6.cons hw, by omega, by omega⟩ T' rfl X'
      exact ⟨t2, st t2 b1, b2⟩
  · obtain ⟨k1, k2, k3⟩ := vx_keep h0 e1 a2 (fun _ _ h => h) (fun _ h => h) hL q5
    simp only at q1 q4
    subst q1
    subst q3
    rw [← e1] at q4 hce
    have main : vx_W p l e R s m args below meth c T'.heap (locs ++ L9) (cells + (hN h2 - hN h)) (slots + (hU h2 - hU h)) Q (F0 m pc ls (S1.map (zenc (zrho base adr)))) q9 := by
      simp only [zBack] at hr
      split at hr
      · obtain ⟨hn13, hr⟩ := gd_some hr
        exact hprop pc k h2 _ _ _ _ ls _ q9 ce (Option.some.inj hr).symm q2 q22 hn13 q4 k3 (by omega) (by omega) hce hcv hcl
      · rename_i hp hhp
        obtain ⟨h13, hck⟩ := zhck_ok hhp
        unfold zExc at hexc
        rw [← hexc] at hck
        obtain ⟨pre, x9, suf, f1, f2, f3, f4, f5⟩ := zcatch _ hck
        rw [h13] at hown
        have cl : ∀ E2 ct, zcpC 13 ct = some (100 + E2) → (Cond.classLink (zcn 13) ct (zen E2)).before args s = true := by
          intro E2 ct hct
          have w := (lkC _ _ _ hct).1
          rw [show Nat.blt (100 + E2) 100 = false from Bool.eq_false_iff.mpr fun g => by have := Nat.ble_eq.mp g; omega, cond_false, Nat.add_sub_cancel_left] at w
          exact hts _ (zin_ok w) w.2
        have hcast : (Cond.castable (zen k) (zen k)).before args s = true := by
          have : k = 0 ∨ k = 1 ∨ k = 3 := by omega
          rcases this with rfl | rfl | rfl
          · exact va_Nw.use rfl (hSt.2.2.2.2.2.2.2.1 _ (List.mem_append_left _ (List.mem_of_getElem? (i := 0) rfl)))
          · exact va_Nw.use rfl (hSt.2.2.2.2.2.2.2.1 _ (List.mem_append_left _ (List.mem_of_getElem? (i := 1) rfl)))
          · exact va_Nw.use rfl (hSt.2.2.2.2.2.2.2.1 _ (List.mem_append_left _ (List.mem_of_getElem? (i := 2) rfl)))
        have f6 : x9.catchType ≠ 0 := fun g => by
          rw [g] at f4
          exact absurd f4 (by rw [show zcpC 13 0 = none from rfl]; exact fun w => by cases w)
        have catch9 : W p l e R s m args below meth c T'.heap (locs ++ L9) (cells + (hN h2 - hN h)) (slots + (hU h2 - hU h)) Q (F0 m hp ls [.ref q9]) → vx_W p l e R s m args below meth c T'.heap (locs ++ L9) (cells + (hN h2 - hN h)) (slots + (hU h2 - hU h)) Q (F0 m pc ls (S1.map (zenc (zrho base adr)))) q9 := by
          intro kk
          refine vx_catch hown pre x9 suf f1 (fun z hz => ?_) f3 f6 (cl k _ f4) hcast hce hcv hcl (by rw [f5]; exact kk)
          rcases f2 z hz with g | ⟨E2, g1, g2, g3⟩
          · exact Or.inl g
          · refine Or.inr ⟨fun g => ?_, zen E2, cl E2 _ g3, hSt.2.2.2.2.2.2.2.2.2.2.2 k q2 q22 E2 g1 (fun w => by have y := (lkC _ _ _ g3).2; omega) (fun w => g2 w.symm)⟩
            rw [g] at g3
            exact absurd g3 (by rw [show zcpC 13 0 = none from rfl]; exact fun w => by cases w)
        refine catch9 ?_
        split at hr
        · rename_i n9 len9 hz
          obtain ⟨L1, hL1, hr⟩ := zls_some hr
          obtain ⟨d1, d2, -⟩ := zdec _ _ _ hz
          have hlen : len9 = 2 := d2.resolve_left (by simp [zilen])
          subst hlen
          obtain ⟨g1, g2, g3, g4⟩ := zst1_spec (ρ := zrho base adr) hL1
          refine lv_astore hx hb d1 a3.has g2 rfl (fun ls1 hl1 => K _ _ [] _ _ _ _ _ _ hr ⟨q4, k3, ⟨by rw [hl1.1, g1], hl1.2.1, fun i w hw => ?_⟩, by rw [g1, a4], fun i w hw => ?_, (fun _ h => by cases h), by omega, by omega⟩)
          · by_cases ei : i = n9
            · subst ei; rw [g3] at hw; cases hw
            · exact hl1.2.2 (i, zenc _ w) (List.mem_cons_of_mem _ (g4 i w ei hw))
          · by_cases ei : i = n9
            · subst ei; rw [g3] at hw; cases hw
            · exact a5 i w (zst1_back hL1 ei hw)
        · rename_i n9 len9 hz
          obtain ⟨L1, hL1, hr⟩ := zls_some hr
          obtain ⟨d1, d2, -⟩ := zdec _ _ _ hz
          have hlen : len9 = 1 := d2.resolve_left (by simp [zilen])
          subst hlen
          obtain ⟨g1, g2, g3, g4⟩ := zst1_spec (ρ := zrho base adr) hL1
          refine lv_astore_n hx hb d1 rfl a3.has g2 rfl (fun ls1 hl1 => K _ _ [] _ _ _ _ _ _ hr ⟨q4, k3, ⟨by rw [hl1.1, g1], hl1.2.1, fun i w hw => ?_⟩, by rw [g1, a4], fun i w hw => ?_, (fun _ h => by cases h), by omega, by omega⟩)
          · by_cases ei : i = n9.val
            · subst ei; rw [g3] at hw; cases hw
            · exact hl1.2.2 (i, zenc _ w) (List.mem_cons_of_mem _ (g4 i w ei hw))
          · by_cases ei : i = n9.val
            · subst ei; rw [g3] at hw; cases hw
            · exact a5 i w (zst1_back hL1 ei hw)
        · cases hr
    obtain ⟨t2, b1, b2⟩ := main T' rfl X'
    exact ⟨t2, st.trans b1, b2⟩
abbrev zIH (l : Launch) (n base : Nat) (adr adV : Nat → Nat) (dC : Nat → ClassId) (dI : Nat → Nat → Nat) (cA : Nat → ClassId) (L0 : Nat) (xs : Nat → Int32) : Prop := ∀ (k : Nat) (as : List zV) (h : zH) (x : (Option zV ⊕ Nat) × zH), k < 261 → zX n k 0 (zini as (zmaxl k)) [] h = some x → as.length = znarg k → zcs as ≤ zmaxl k → zSok as → hN x.2 < zVB → zMt l adV base adr dC dI cA L0 xs k as h x
theorem zPc_blind {adV : Nat → Nat} {as : List zV} : FrameBlind (zPc adV base adr dC dI cA L0 xs as h) := fun a U g mk q => ⟨q.1, q.2.1, zK.moved (u := U) (U := U.calling g mk a) (Vm.Alike.refl U.vm) q.2.2.1, zSt.warm (s := U) (U := U.calling g mk a) (State.WarmedH.refl U) q.2.2.2⟩
theorem zws_good (k : Nat) (hk : k < 261) : GoodIn lw_good (zws k) := by
  intro w hw
  rcases List.mem_cons.mp hw with rfl | hw
  · have h1 := (zM_all k hk).1
    exact ⟨lw_good_in ⟨zin_ok h1, h1.2⟩, good_of_word h1.2⟩
  · exact ⟨hw, good_of_word (List.mem_filter.mp hw).2⟩
noncomputable def zchkA2 (m : Nat) : Bool := decide ((zy m).cls = zcn (zown m)) && plainFor (zy m) && decide ((zy m).cls ≠ "java/lang/invoke/MethodHandle") && decide ((zy m).cls ≠ "java/lang/invoke/VarHandle") && decide ((parseMethodDescriptor (zy m).desc).map (fun d => d.parameters.length) = some (bif Nat.beq (zrecv m) 0 then znarg m else znarg m - 1)) && decide (zctor m = decide ((zy m).name = "<init>")) && (Nat.beq (zrecv m) 0 || (decide (0 < znarg m) && decide (0 = 0) && decide (zrecv m - 1 < 13))) && (!zctor m || decide (zret m = none)) && (!zctor m || !(Nat.beq (zrecv m) 0)) && (!(Nat.beq (zown m) 13) || Nat.beq (zrecv m) 0)
set_option maxRecDepth 1000000 in
theorem zchkA_0 : ∀ j, j < 28 → zchkA2 (0 + j) = true := by decide +kernel
set_option maxRecDepth 1000000 in
theorem zchkA_28 : ∀ j, j < 28 → zchkA2 (28 + j) = true := by decide +kernel
set_option maxRecDepth 1000000 in
theorem zchkA_56 : ∀ j, j < 28 → zchkA2 (56 + j) = true := by decide +kernel
set_option maxRecDepth 1000000 in
theorem zchkA_84 : ∀ j, j < 28 → zchkA2 (84 + j) = true := by decide +kernel
set_option maxRecDepth 1000000 in
theorem zchkA_112 : ∀ j, j < 28 → zchkA2 (112 + j) = true := by decide +kernel
set_option maxRecDepth 1000000 in
theorem zchkA_140 : ∀ j, j < 28 → zchkA2 (140 + j) = true := by decide +kernel
set_option maxRecDepth 1000000 in
theorem zchkA_168 : ∀ j, j < 28 → zchkA2 (168 + j) = true := by decide +kernel
set_option maxRecDepth 1000000 in
theorem zchkA_196 : ∀ j, j < 28 → zchkA2 (196 + j) = true := by decide +kernel
set_option maxRecDepth 1000000 in
theorem zchkA_224 : ∀ j, j < 28 → zchkA2 (224 + j) = true := by decide +kernel
set_option maxRecDepth 1000000 in
theorem zchkA_252 : ∀ j, j < 9 → zchkA2 (252 + j) = true := by decide +kernel
theorem zchkA_all (m : Nat) (h : m < 261) : zchkA2 m = true := by
  by_cases h0 : m < 28
  · have := zchkA_0 (m - 0) (by omega); rwa [show 0 + (m - 0) = m by omega] at this
  by_cases h28 : m < 56
  · have := zchkA_28 (m - 28) (by omega); rwa [show 28 + (m - 28) = m by omega] at this
  by_cases h56 : m < 84
  · have := zchkA_56 (m - 56) (by omega); rwa [show 56 + (m - 56) = m by omega] at this
  by_cases h84 : m < 112
  · have := zchkA_84 (m - 84) (by omega); rwa [show 84 + (m - 84) = m by omega] at this
  by_cases h112 : m < 140
  · have := zchkA_112 (m - 112) (by omega); rwa [show 112 + (m - 112) = m by omega] at this
  by_cases h140 : m < 168
  · have := zchkA_140 (m - 140) (by omega); rwa [show 140 + (m - 140) = m by omega] at this
  by_cases h168 : m < 196
  · have := zchkA_168 (m - 168) (by omega); rwa [show 168 + (m - 168) = m by omega] at this
  by_cases h196 : m < 224
  · have := zchkA_196 (m - 196) (by omega); rwa [show 196 + (m - 196) = m by omega] at this
  by_cases h224 : m < 252
  · have := zchkA_224 (m - 224) (by omega); rwa [show 224 + (m - 224) = m by omega] at this
  by_cases h252 : m < 261
  · have := zchkA_252 (m - 252) (by omega); rwa [show 252 + (m - 252) = m by omega] at this
  exact absurd h h252
theorem zcw_own : ∀ q, q < 261 → zcw q = true → zown q = 13 := by decide +kernel
theorem zA2 {m : Nat} (h : m < 261) : (zy m).cls = zcn (zown m) ∧ plainFor (zy m) = true ∧ (zy m).cls ≠ "java/lang/invoke/MethodHandle" ∧ (zy m).cls ≠ "java/lang/invoke/VarHandle" ∧ (parseMethodDescriptor (zy m).desc).map (fun d => d.parameters.length) = some (bif Nat.beq (zrecv m) 0 then znarg m else znarg m - 1) ∧ zctor m = decide ((zy m).name = "<init>") ∧ (zrecv m = 0 ∨ (0 < znarg m ∧ 0 = 0 ∧ zrecv m - 1 < 13)) ∧ (zctor m = true → zret m = none) ∧ (zctor m = true → zrecv m ≠ 0) ∧ (zown m = 13 → zrecv m = 0) := by
  have h1 := zchkA_all m h
  unfold zchkA2 at h1
  simp only [Bool.and_eq_true, Bool.or_eq_true, decide_eq_true_eq, Nat.beq_eq, Bool.not_eq_true'] at h1
  obtain ⟨⟨⟨⟨⟨⟨⟨⟨⟨b1, b2⟩, b3⟩, b4⟩, b5⟩, b6⟩, b7⟩, b8⟩, b9⟩, b10⟩ := h1
  refine ⟨b1, b2, b3, b4, b5, b6, b7.imp id (fun w => ⟨w.1.1, rfl, w.2⟩), fun g => b8.resolve_left (by rw [g]; decide), fun g => ?_, fun g => b10.resolve_left (fun w => by rw [g] at w; exact absurd w (by decide))⟩
  have b11 := b9.resolve_left (by rw [g]; decide)
  intro w
  rw [w] at b11
  exact absurd b11 (by decide)
theorem zrm_ok {m f l9 : Nat} (hz : zrm m f l9 = true) : f ≤ zrf m ∧ l9 ≤ zrl m := by
  unfold zrm zrmx at hz
  rw [Bool.and_eq_true] at hz
  exact ⟨Nat.ble_eq.mp hz.1, Nat.ble_eq.mp hz.2⟩
theorem lv_room0 {m : MethodId} {pc k : Nat} {ls : Array Slot} {st : List Value} (h : k ≤ 8) : 2 * (F0 m pc ls st).monitorRoom + k ≤ 8 := by
  show 2 * 0 + k ≤ 8
  omega
theorem zBack_mo {n m pcc pc : Nat} {L : zL} {S : List zV} {x r : (Option zV ⊕ Nat) × zH} (hr : zBack (zX n) m pcc pc L S (some x) = some r) : zMo x.2 r.2 := by
  obtain ⟨o, h2⟩ := x
  cases o with
  | inl v =>
    cases v with
    | none => exact zX_mo n _ _ _ _ _ _ hr
    | some v => exact zX_mo n _ _ _ _ _ _ hr
  | inr E =>
    simp only [zBack] at hr
    split at hr
    · obtain ⟨-, hr⟩ := gd_some hr
      cases hr; exact zMo.rf
    · split at hr
      · obtain ⟨L1, -, hr⟩ := zls_some hr
        exact zX_mo n _ _ _ _ _ _ hr
      · obtain ⟨L1, -, hr⟩ := zls_some hr
        exact zX_mo n _ _ _ _ _ _ hr
      · cases hr
theorem zlk_yy {o i q : Nat} (h : zovs o i = false) : zlk o i q = zyy q := by
  unfold zovs at h
  rw [Bool.or_eq_false_iff] at h
  unfold zlk
  rw [h.1, h.2]
  rfl
theorem zov_st : ∀ q, q < 261 → zrecv q = 0 → zovr q = false := by decide +kernel
theorem zw_invokestatic_r {q2 k : Nat} (C : zCtx p l R s m args meth c q base adr adV dC dI cA L0 xs) (K : zWk p l e R s m args below meth c Q q n r base n0 u0 adr dC dI cA L0 xs) (hprop : zPr p l e R s m args below meth c Q q r base n0 u0 adr dC dI cA L0 xs) (hroom : zRoom R r n0 u0) (hIH : zIH l n base adr adV dC dI cA L0 xs) (hd : decode (zbytes q) pc = .ok (.invokestatic k, 3)) (A : zAt s q base n0 u0 adr dC dI cA L0 xs H locs cells slots ls L S h) (hq : zcpM (zown q) k = some q2) (h9 : q2 < 900)
    (h0 : zrecv q2 = 0) (hr : zinv q L S h (pc + 3) q2 false (fun pc L S h => zX n q pc L S h) (fun k as pc2 L S h => zBack (zX n) q pc pc2 L S (zX n k 0 (zini as (zmaxl k)) [] h)) = some r) : W p l e R s m args below meth c H locs cells slots Q (F0 m pc ls (S.map (zenc (zrho base adr)))) := by
  obtain ⟨hx, hb, hml, hown, hts, hK, hSt, hin, ⟨hrf, hrl⟩, hl, hexc, hlk⟩ := id C
  obtain ⟨a1, a2, a3, a4, a5, a6, a7, a8⟩ := id A
  obtain ⟨lw, lq, ls9, lo9⟩ := lkM _ _ _ hq
  have hq2 : q2 < 261 := by omega
  rw [zlk_yy (lo9.symm.trans (zov_st q2 hq2 h0)), show zyy q2 = zy q2 by unfold zyy; rw [show Nat.blt q2 900 = true from Nat.ble_eq.mpr h9]; rfl] at lw
  obtain ⟨b1, b2, b3, b4, b5, b6, b7, b8, b9, b10⟩ := zA2 hq2
  obtain ⟨z1, z2, z3, z4⟩ := zM_all q2 hq2
  unfold zinv at hr
  rw [if_pos h9] at hr
  unfold zcal at hr
  obtain ⟨g1, hr⟩ := zpop_some hr
  obtain ⟨⟨g2, g3, g4, g5⟩, hr⟩ := gd_some hr
  obtain ⟨rm1, rm2⟩ := zrm_ok g4
  have hSe : S = (S.take (znarg q2)).reverse.reverse ++ S.drop (znarg q2) := by rw [List.reverse_reverse, List.take_append_drop]
  have hlen : (S.take (znarg q2)).reverse.length = znarg q2 := by rw [List.length_reverse, List.length_take]; omega
  have hSo1 : zSok (S.take (znarg q2)).reverse := fun w hw => a6 w (List.mem_of_mem_take (List.mem_reverse.mp hw))
  have hSo2 : zSok (S.drop (znarg q2)) := fun w hw => a6 w (List.mem_of_mem_drop hw)
  have htsg : ∀ w ∈ lw_good, w.before args s = true := fun w hw => hts w (List.mem_filter.mp hw).1 (List.mem_filter.mp hw).2
  have hini : (Cond.initialized (zy q2).cls).before args s = true := by rw [b1]; exact hts _ (zin_ok z4) z4.2
  have hmlk : (Cond.methodLink (zcn (zown q)) k (zy q2)).before args s = true := hts _ (zin_ok lw) lw.2
  have hcw : Cond.code (zy q2) (zbytes q2) (zmaxl q2) (zret q2) = zword q2 ∨ zcw q2 = true := by
    unfold zword
    cases hbq : zcw q2 with
    | true => exact Or.inr rfl
    | false => exact Or.inl rfl
  have hcodeB : ∀ w ∈ zws q2, ∀ (a' : Array Value) (U : State), s.WarmedH U.vm → w.before a' U = true := fun w hw a' U hW => word_at hW (zws_good q2 hq2 w hw).2 (htsg w (zws_good q2 hq2 w hw).1)
  have hzw : (zword q2).before args s = true := hts _ (zin_ok z1) z1.2
  generalize hS1 : S.drop (znarg q2) = S1 at *
  generalize hAs : (S.take (znarg q2)).reverse = as at *
  have hpre : ∀ U : State, U.heap = H → s.WarmedH U.vm → zPc adV base adr dC dI cA L0 xs as h (as.map (zenc (zrho base adr))).toArray U := fun U hU hW => ⟨rfl, by rw [hU]; exact a1, zK.moved hW.alike hK, by rw [hU]; exact zSt.warm hW (zSt.kept a2.1 a2.2.1 hSt)⟩
  have hcs : 2 * (F0 m pc ls (S.map (zenc (zrho base adr)))).monitorRoom + ((S1.map (zenc (zrho base adr))).map fun v => v.category).sum ≤ 8 := by
    rw [zcs_e]
    exact lv_room0 g3
  rw [h0] at hr
  simp only at hr
  cases hxx : zX n q2 0 (zini as (zmaxl q2)) [] h with
  | none => rw [hxx] at hr; cases hr
  | some x =>
  rw [hxx] at hr
  have mo := zX_mo _ _ _ _ _ _ _ hxx
  have mo2 : zMo x.2 r.2 := zBack_mo hr
  obtain ⟨ro1, ro2, ro3⟩ := hroom
  have m1 := mo.1
  have m2 := mo.2
  have m3 := mo2.1
  have m4 := mo2.2
  have hM := hIH q2 as h x hq2 hxx hlen g5 hSo1 (by omega)
  have hA1 : zAt s q base n0 u0 adr dC dI cA L0 xs H locs cells slots ls L S1 h := ⟨a1, a2, a3, a4, a5, hSo2, a7, a8⟩
  have hfit : cells + (hN x.2 - hN h) ≤ R.cells ∧ slots + (hU x.2 - hU h) ≤ R.slots := ⟨by omega, by omega⟩
  refine zw_after C K hprop hA1 mo (a9 := (as.map (zenc (zrho base adr))).toArray) ?_ hr
  rw [h0, show Nat.beq 0 0 = true from rfl, cond_true] at z2 b5
  have hstat : (Cond.static (zy q2)).before args s = true := hts _ (zin_ok z2) z2.2
  have hpar : ∀ sig, parseMethodDescriptor (zy q2).desc = some sig → (as.map (zenc (zrho base adr))).length = sig.parameters.length := fun sig hs => by
    rw [hs] at b5
    rw [List.length_map, hlen]
    exact (Option.some.inj b5).symm
  have hstk : (F0 m pc ls (S.map (zenc (zrho base adr)))).stack = (as.map (zenc (zrho base adr))).reverse ++ S1.map (zenc (zrho base adr)) := by
    show S.map _ = _
    rw [hSe, List.map_append, List.map_reverse]
  rcases hcw with hcw | h13
  · refine vx_runS (n := (as.map (zenc (zrho base adr))).length) (As := as.map (zenc (zrho base adr))) ⟨hx, hb, hml, hown, htsg⟩ hM ⟨⟨rfl, rfl, by show zrf q2 + 1 ≤ R.frames; omega, by show 8 + (zmaxl q2 + 11) + zrl q2 ≤ R.locals; omega, hcodeB, by rw [hcw]; exact List.mem_cons_self, by rw [hcw]; exact hzw, hini, ⟨b3, b4⟩, hpar, hmlk⟩, hstat⟩ ⟨zPc_blind, hpre⟩ rfl rfl (by show ls.size = zmaxl q; rw [a3.1, a4]) hstk hcs hd hfit
  · have hcw2 : Cond.codeWith (zy q2) (zbytes q2) (zmaxl q2) (zret q2) (zhh q2) = zword q2 := by unfold zword; rw [h13]; rfl
    refine vx_runSX (n := (as.map (zenc (zrho base adr))).length) (As := as.map (zenc (zrho base adr))) ⟨hx, hb, hml, hown, htsg⟩ hM ⟨⟨rfl, rfl, by show zrf q2 + 1 ≤ R.frames; omega, by show 8 + (zmaxl q2 + 11) + zrl q2 ≤ R.locals; omega, hcodeB, by rw [hcw2]; exact List.mem_cons_self⟩, by rw [hcw2]; exact hzw, hini, ⟨b3, b4⟩, hpar, hmlk, hstat⟩ ⟨zPc_blind, hpre⟩ rfl rfl (by show ls.size = zmaxl q; rw [a3.1, a4]) hstk hcs hd hfit
/-- the two places where what runs is the method of a StringBuilder that overrides what the reference names -/
theorem zovr_w {o i q : Nat} {args : Array Value} {s : State} (h : zovs o i = true) (hov : zovr q = true) (hts : ∀ w ∈ lw_tbl, goodWord w = true → w.before args s = true) (hq : zcpM o i = some q := by assumption) : ∃ x : MethodName, zlk o i q = x ∧ (Cond.sameMethod x.cls "java/lang/AbstractStringBuilder" x.name x.desc).before args s = true ∧ va_Decl s ⟨"java/lang/AbstractStringBuilder", x.name, x.desc⟩ ∧ True ∧ (Cond.selects "java/lang/StringBuilder" x (zy q)).before args s = true ∧ True ∧ x.desc = (zy q).desc ∧ ∀ t, zrecv q = t + 1 → zvn t = "java/lang/StringBuilder" := by
  unfold zovs at h
  rw [Bool.or_eq_true, Bool.and_eq_true, Bool.and_eq_true] at h
  rcases h with ⟨h1, h2⟩ | ⟨h1, h2⟩
  · obtain rfl := Nat.eq_of_beq_eq_true h1
    obtain rfl := Nat.eq_of_beq_eq_true h2
    obtain rfl : 148 = q := Option.some.inj ((show zcpM 19 43 = some 148 from rfl).symm.trans hq)
    exact ⟨_, rfl, hts _ (zin_ok (p := 5225) ⟨rfl, rfl⟩) rfl, va_Decl.of (hts _ (zin_ok (p := 5224) ⟨rfl, rfl⟩) rfl) (hts _ (zin_ok (p := 5235) (w := zword 238) ⟨rfl, rfl⟩) rfl), trivial, hts _ (zin_ok (p := 5226) ⟨rfl, rfl⟩) rfl, trivial, rfl, fun t ht => by cases (show 11 + 1 = t + 1 from ht); rfl⟩
  · obtain rfl := Nat.eq_of_beq_eq_true h1
    obtain rfl := Nat.eq_of_beq_eq_true h2
    obtain rfl : 205 = q := Option.some.inj ((show zcpM 20 549 = some 205 from rfl).symm.trans hq)
    exact ⟨_, rfl, hts _ (zin_ok (p := 6166) ⟨rfl, rfl⟩) rfl, va_Decl.of (hts _ (zin_ok (p := 6165) ⟨rfl, rfl⟩) rfl) (hts _ (zin_ok (p := 6171) (w := zword 247) ⟨rfl, rfl⟩) rfl), trivial, hts _ (zin_ok (p := 6167) ⟨rfl, rfl⟩) rfl, trivial, rfl, fun t ht => by cases (show 11 + 1 = t + 1 from ht); rfl⟩
theorem zsp_ct : ∀ q, q < 261 → (zctor q = true → zspc q = true) ∧ (zspc q = true → zovr q = false) ∧ (zspc q = true → zctor q = false → (q = 238 ∨ q = 244 ∨ q = 245 ∨ q = 247)) := by decide +kernel
theorem zsup_w {q : Nat} {args : Array Value} {s : State} (h : q = 238 ∨ q = 244 ∨ q = 245 ∨ q = 247) (hts : ∀ w ∈ lw_tbl, goodWord w = true → w.before args s = true) : (Cond.sameMethod (zy q).cls (zy q).cls (zy q).name (zy q).desc).before args s = true ∧ (Cond.superclass (zcn 12) (zy q).cls).before args s = true ∧ (zy q).name ≠ "<init>" := by
  rcases h with rfl | rfl | rfl | rfl
  · exact ⟨hts _ (zin_ok (p := 5225) ⟨rfl, rfl⟩) rfl, hts _ (zin_ok (p := 5234) ⟨rfl, rfl⟩) rfl, by decide +kernel⟩
  · exact ⟨hts _ (zin_ok (p := 8139) ⟨rfl, rfl⟩) rfl, hts _ (zin_ok (p := 5234) ⟨rfl, rfl⟩) rfl, by decide +kernel⟩
  · exact ⟨hts _ (zin_ok (p := 8140) ⟨rfl, rfl⟩) rfl, hts _ (zin_ok (p := 5234) ⟨rfl, rfl⟩) rfl, by decide +kernel⟩
  · exact ⟨hts _ (zin_ok (p := 6166) ⟨rfl, rfl⟩) rfl, hts _ (zin_ok (p := 5234) ⟨rfl, rfl⟩) rfl, by decide +kernel⟩
theorem zw_invokevirtual_c {q2 k : Nat} (C : zCtx p l R s m args meth c q base adr adV dC dI cA L0 xs) (K : zWk p l e R s m args below meth c Q q n r base n0 u0 adr dC dI cA L0 xs) (hprop : zPr p l e R s m args below meth c Q q r base n0 u0 adr dC dI cA L0 xs) (hroom : zRoom R r n0 u0) (hIH : zIH l n base adr adV dC dI cA L0 xs) (hd : decode (zbytes q) pc = .ok (.invokevirtual k, 3)) (A : zAt s q base n0 u0 adr dC dI cA L0 xs H locs cells slots ls L S h) (hq2 : q2 < 261) (hmlk : (Cond.methodLink (zcn (zown q)) k (zy q2)).before args s = true)
    (hov : zovr q2 = false) (h0 : 0 < zrecv q2) (hr : zcal q L S h (pc + 3) q2 false (fun pc L S h => zX n q pc L S h) (fun k as pc2 L S h => zBack (zX n) q pc pc2 L S (zX n k 0 (zini as (zmaxl k)) [] h)) = some r) : W p l e R s m args below meth c H locs cells slots Q (F0 m pc ls (S.map (zenc (zrho base adr)))) := by
  obtain ⟨hx, hb, hml, hown, hts, hK, hSt, hin, ⟨hrf, hrl⟩, hl, hexc, hlk⟩ := id C
  obtain ⟨a1, a2, a3, a4, a5, a6, a7, a8⟩ := id A
  obtain ⟨b1, b2, b3, b4, b5, b6, b7, b8, b9, b10⟩ := zA2 hq2
  obtain ⟨z1, z2, z3, z4⟩ := zM_all q2 hq2
  unfold zcal at hr
  obtain ⟨g1, hr⟩ := zpop_some hr
  obtain ⟨⟨g2, g3, g4, g5⟩, hr⟩ := gd_some hr
  obtain ⟨rm1, rm2⟩ := zrm_ok g4
  have hSe : S = (S.take (znarg q2)).reverse.reverse ++ S.drop (znarg q2) := by rw [List.reverse_reverse, List.take_append_drop]
  have hlen : (S.take (znarg q2)).reverse.length = znarg q2 := by rw [List.length_reverse, List.length_take]; omega
  have hSo1 : zSok (S.take (znarg q2)).reverse := fun w hw => a6 w (List.mem_of_mem_take (List.mem_reverse.mp hw))
  have hSo2 : zSok (S.drop (znarg q2)) := fun w hw => a6 w (List.mem_of_mem_drop hw)
  have htsg : ∀ w ∈ lw_good, w.before args s = true := fun w hw => hts w (List.mem_filter.mp hw).1 (List.mem_filter.mp hw).2
  have hini : (Cond.initialized (zy q2).cls).before args s = true := by rw [b1]; exact hts _ (zin_ok z4) z4.2
  have hcw : Cond.code (zy q2) (zbytes q2) (zmaxl q2) (zret q2) = zword q2 ∨ zcw q2 = true := by
    unfold zword
    cases hbq : zcw q2 with
    | true => exact Or.inr rfl
    | false => exact Or.inl rfl
  have hcodeB : ∀ w ∈ zws q2, ∀ (a' : Array Value) (U : State), s.WarmedH U.vm → w.before a' U = true := fun w hw a' U hW => word_at hW (zws_good q2 hq2 w hw).2 (htsg w (zws_good q2 hq2 w hw).1)
  have hzw : (zword q2).before args s = true := hts _ (zin_ok z1) z1.2
  generalize hS1 : S.drop (znarg q2) = S1 at *
  generalize has : (S.take (znarg q2)).reverse = as at *
  have hpre : ∀ U : State, U.heap = H → s.WarmedH U.vm → zPc adV base adr dC dI cA L0 xs as h (as.map (zenc (zrho base adr))).toArray U := fun U hU hW => ⟨rfl, by rw [hU]; exact a1, zK.moved hW.alike hK, by rw [hU]; exact zSt.warm hW (zSt.kept a2.1 a2.2.1 hSt)⟩
  have hcs : 2 * (F0 m pc ls (S.map (zenc (zrho base adr)))).monitorRoom + ((S1.map (zenc (zrho base adr))).map fun v => v.category).sum ≤ 8 := by
    rw [zcs_e]
    exact lv_room0 g3
  have hne : zrecv q2 ≠ 0 := by omega
  obtain ⟨w1, w2, w3⟩ := b7.resolve_left hne
  obtain ⟨t9, ht9⟩ : ∃ t, zrecv q2 = t + 1 := ⟨zrecv q2 - 1, by omega⟩
  rw [ht9] at hr w3
  rw [Nat.add_sub_cancel] at w3
  rw [ht9, Nat.add_sub_cancel] at z3
  have hshape : ∃ r0 as1, as = zR r0 :: as1 ∧ zob h r0 (t9 + 1) ∧ zBack (zX n) q pc (pc + 3) L S1 (zX n q2 0 (zini as (zmaxl q2)) [] h) = some r := by
    simp only at hr
    rcases as with _ | ⟨v0, as1⟩
    · cases hr
    · rcases v0 with x | x | x | x | x
      · cases hr
      · cases hr
      · cases hr
      · cases hr
      · obtain ⟨v, hr⟩ := gd_some hr
        exact ⟨x, as1, rfl, v, hr⟩
  obtain ⟨r0, as1, e0, ⟨v1, v2, v3⟩, hrr⟩ := hshape
  cases hxx : zX n q2 0 (zini as (zmaxl q2)) [] h with
  | none => rw [hxx] at hrr; cases hrr
  | some x =>
  rw [hxx] at hrr
  have mo := zX_mo _ _ _ _ _ _ _ hxx
  have mo2 : zMo x.2 r.2 := zBack_mo hrr
  obtain ⟨ro1, ro2, ro3⟩ := hroom
  have m1 := mo.1
  have m2 := mo.2
  have m3 := mo2.1
  have m4 := mo2.2
  have hM := hIH q2 as h x hq2 hxx hlen g5 hSo1 (by omega)
  have hA1 : zAt s q base n0 u0 adr dC dI cA L0 xs H locs cells slots ls L S1 h := ⟨a1, a2, a3, a4, a5, hSo2, a7, a8⟩
  have hfit : cells + (hN x.2 - hN h) ≤ R.cells ∧ slots + (hU x.2 - hU h) ≤ R.slots := ⟨by omega, by omega⟩
  refine zw_after C K hprop hA1 mo (a9 := (as.map (zenc (zrho base adr))).toArray) ?_ hrr
  rw [show Nat.beq (zrecv q2) 0 = false from Bool.eq_false_iff.mpr fun g => hne (Nat.eq_of_beq_eq_true g), cond_false] at z2 b5
  have hinst : (Cond.instanceMethod (zy q2)).before args s = true := hts _ (zin_ok z2) z2.2
  have hpar : ∀ sig, parseMethodDescriptor (zy q2).desc = some sig → (as1.map (zenc (zrho base adr))).length = sig.parameters.length := fun sig hs => by
    rw [hs] at b5
    rw [List.length_map]
    have h5 : sig.parameters.length = znarg q2 - 1 := Option.some.inj b5
    rw [e0, List.length_cons] at hlen
    omega
  have hAse : as.map (zenc (zrho base adr)) = .ref (zrho base adr (zdr r0)) :: as1.map (zenc (zrho base adr)) := by rw [e0, List.map_cons, zenc_R v1]
  have hstk : (F0 m pc ls (S.map (zenc (zrho base adr)))).stack = (as1.map (zenc (zrho base adr))).reverse ++ .ref (zrho base adr (zdr r0)) :: S1.map (zenc (zrho base adr)) := by
    show S.map _ = _
    rw [hSe, List.map_append, List.map_reverse, hAse, List.reverse_cons, List.append_assoc]
    rfl
  have hnot : ¬ zcw q2 = true := fun g => hne (b10 (zcw_own q2 hq2 g))
  have hcw1 := hcw.resolve_right hnot
  obtain ⟨cellB, q1, q2', q3, -⟩ := (a1.2.2.1 _ v3).1 (by omega) (by omega)
  rw [v2, Nat.add_sub_cancel] at q2'
  rw [hAse] at hpre ⊢
  have hsel : (Cond.selects (zvn t9) (zy q2) (zy q2)).before args s = true := by
    rcases z3 with (g | g | g) | g | g
    · cases g
    · rw [g] at g2; cases g2
    · rw [g] at hov; cases hov
    · exact hts _ (zin_ok g) g.2
    · exact va_Nw.use rfl (hSt.2.2.2.2.2.2.2.1 _ (List.mem_append_right _ g))
  exact vx_runV (n := (as1.map (zenc (zrho base adr))).length) (As := as1.map (zenc (zrho base adr))) (C := zvn t9) ⟨hx, hb, hml, hown, htsg⟩ hM ⟨⟨rfl, rfl, by show zrf q2 + 1 ≤ R.frames; omega, by show 8 + (zmaxl q2 + 11) + zrl q2 ≤ R.locals; omega, hcodeB, by rw [hcw1]; exact List.mem_cons_self, by rw [hcw1]; exact hzw, hini, ⟨b3, b4⟩, hpar, hmlk⟩, hinst, hsel⟩ ⟨zPc_blind, ⟨cellB, q1, by rw [q3]; rfl, by rw [q2']; exact (hK.1 t9 w3).2.1⟩, hpre⟩ rfl rfl (by show ls.size = zmaxl q; rw [a3.1, a4]) hstk hcs hd hfit
theorem zw_invokevirtual_r {q2 k : Nat} (C : zCtx p l R s m args meth c q base adr adV dC dI cA L0 xs) (K : zWk p l e R s m args below meth c Q q n r base n0 u0 adr dC dI cA L0 xs) (hprop : zPr p l e R s m args below meth c Q q r base n0 u0 adr dC dI cA L0 xs) (hroom : zRoom R r n0 u0) (hIH : zIH l n base adr adV dC dI cA L0 xs) (hd : decode (zbytes q) pc = .ok (.invokevirtual k, 3)) (A : zAt s q base n0 u0 adr dC dI cA L0 xs H locs cells slots ls L S h) (hq : zcpM (zown q) k = some q2) (h9 : q2 < 900)
    (hov : zovr q2 = false) (h0 : 0 < zrecv q2) (hr : zinv q L S h (pc + 3) q2 false (fun pc L S h => zX n q pc L S h) (fun k as pc2 L S h => zBack (zX n) q pc pc2 L S (zX n k 0 (zini as (zmaxl k)) [] h)) = some r) : W p l e R s m args below meth c H locs cells slots Q (F0 m pc ls (S.map (zenc (zrho base adr)))) := by
  have hts := id C.2.2.2.2.1
  obtain ⟨lw, lq, ls9, lo9⟩ := lkM _ _ _ hq
  have hq2 : q2 < 261 := by omega
  rw [zlk_yy (lo9.symm.trans hov), show zyy q2 = zy q2 by unfold zyy; rw [show Nat.blt q2 900 = true from Nat.ble_eq.mpr h9]; rfl] at lw
  unfold zinv at hr
  rw [if_pos h9] at hr
  unfold zcal at hr
  exact zw_invokevirtual_c C K hprop hroom hIH hd A hq2 (hts _ (zin_ok lw) lw.2) hov h0 hr
theorem zw_invokevirtual_u {q2 k : Nat} (C : zCtx p l R s m args meth c q base adr adV dC dI cA L0 xs) (K : zWk p l e R s m args below meth c Q q n r base n0 u0 adr dC dI cA L0 xs) (hprop : zPr p l e R s m args below meth c Q q r base n0 u0 adr dC dI cA L0 xs) (hroom : zRoom R r n0 u0) (hIH : zIH l n base adr adV dC dI cA L0 xs) (hd : decode (zbytes q) pc = .ok (.invokevirtual k, 3)) (A : zAt s q base n0 u0 adr dC dI cA L0 xs H locs cells slots ls L S h) (hq : zcpM (zown q) k = some q2) (h9 : q2 < 900)
    (hov : zovr q2 = true) (h0 : 0 < zrecv q2) (hr : zinv q L S h (pc + 3) q2 false (fun pc L S h => zX n q pc L S h) (fun k as pc2 L S h => zBack (zX n) q pc pc2 L S (zX n k 0 (zini as (zmaxl k)) [] h)) = some r) : W p l e R s m args below meth c H locs cells slots Q (F0 m pc ls (S.map (zenc (zrho base adr)))) := by
  obtain ⟨hx, hb, hml, hown, hts, hK, hSt, hin, ⟨hrf, hrl⟩, hl, hexc, hlk⟩ := id C
  obtain ⟨a1, a2, a3, a4, a5, a6, a7, a8⟩ := id A
  obtain ⟨lw, lq, ls9, lo9⟩ := lkM _ _ _ hq
  have hq2 : q2 < 261 := by omega
  obtain ⟨b1, b2, b3, b4, b5, b6, b7, b8, b9, b10⟩ := zA2 hq2
  obtain ⟨z1, z2, z3, z4⟩ := zM_all q2 hq2
  unfold zinv at hr
  rw [if_pos h9] at hr
  unfold zcal at hr
  obtain ⟨g1, hr⟩ := zpop_some hr
  obtain ⟨⟨g2, g3, g4, g5⟩, hr⟩ := gd_some hr
  obtain ⟨rm1, rm2⟩ := zrm_ok g4
  have hSe : S = (S.take (znarg q2)).reverse.reverse ++ S.drop (znarg q2) := by rw [List.reverse_reverse, List.take_append_drop]
  have hlen : (S.take (znarg q2)).reverse.length = znarg q2 := by rw [List.length_reverse, List.length_take]; omega
  have hSo1 : zSok (S.take (znarg q2)).reverse := fun w hw => a6 w (List.mem_of_mem_take (List.mem_reverse.mp hw))
  have hSo2 : zSok (S.drop (znarg q2)) := fun w hw => a6 w (List.mem_of_mem_drop hw)
  have htsg : ∀ w ∈ lw_good, w.before args s = true := fun w hw => hts w (List.mem_filter.mp hw).1 (List.mem_filter.mp hw).2
  have hini : (Cond.initialized (zy q2).cls).before args s = true := by rw [b1]; exact hts _ (zin_ok z4) z4.2
  have hmlk : (Cond.methodLink (zcn (zown q)) k (zlk (zown q) k q2)).before args s = true := hts _ (zin_ok lw) lw.2
  have hcw : Cond.code (zy q2) (zbytes q2) (zmaxl q2) (zret q2) = zword q2 ∨ zcw q2 = true := by
    unfold zword
    cases hbq : zcw q2 with
    | true => exact Or.inr rfl
    | false => exact Or.inl rfl
  have hcodeB : ∀ w ∈ zws q2, ∀ (a' : Array Value) (U : State), s.WarmedH U.vm → w.before a' U = true := fun w hw a' U hW => word_at hW (zws_good q2 hq2 w hw).2 (htsg w (zws_good q2 hq2 w hw).1)
  have hzw : (zword q2).before args s = true := hts _ (zin_ok z1) z1.2
  generalize hS1 : S.drop (znarg q2) = S1 at *
  generalize has : (S.take (znarg q2)).reverse = as at *
  have hpre : ∀ U : State, U.heap = H → s.WarmedH U.vm → zPc adV base adr dC dI cA L0 xs as h (as.map (zenc (zrho base adr))).toArray U := fun U hU hW => ⟨rfl, by rw [hU]; exact a1, zK.moved hW.alike hK, by rw [hU]; exact zSt.warm hW (zSt.kept a2.1 a2.2.1 hSt)⟩
  have hcs : 2 * (F0 m pc ls (S.map (zenc (zrho base adr)))).monitorRoom + ((S1.map (zenc (zrho base adr))).map fun v => v.category).sum ≤ 8 := by
    rw [zcs_e]
    exact lv_room0 g3
  have hne : zrecv q2 ≠ 0 := by omega
  obtain ⟨w1, w2, w3⟩ := b7.resolve_left hne
  obtain ⟨t9, ht9⟩ : ∃ t, zrecv q2 = t + 1 := ⟨zrecv q2 - 1, by omega⟩
  rw [ht9] at hr w3
  rw [Nat.add_sub_cancel] at w3
  rw [ht9, Nat.add_sub_cancel] at z3
  have hshape : ∃ r0 as1, as = zR r0 :: as1 ∧ zob h r0 (t9 + 1) ∧ zBack (zX n) q pc (pc + 3) L S1 (zX n q2 0 (zini as (zmaxl q2)) [] h) = some r := by
    simp only at hr
    rcases as with _ | ⟨v0, as1⟩
    · cases hr
    · rcases v0 with x | x | x | x | x
      · cases hr
      · cases hr
      · cases hr
      · cases hr
      · obtain ⟨v, hr⟩ := gd_some hr
        exact ⟨x, as1, rfl, v, hr⟩
  obtain ⟨r0, as1, e0, ⟨v1, v2, v3⟩, hrr⟩ := hshape
  cases hxx : zX n q2 0 (zini as (zmaxl q2)) [] h with
  | none => rw [hxx] at hrr; cases hrr
  | some x =>
  rw [hxx] at hrr
  have mo := zX_mo _ _ _ _ _ _ _ hxx
  have mo2 : zMo x.2 r.2 := zBack_mo hrr
  obtain ⟨ro1, ro2, ro3⟩ := hroom
  have m1 := mo.1
  have m2 := mo.2
  have m3 := mo2.1
  have m4 := mo2.2
  have hM := hIH q2 as h x hq2 hxx hlen g5 hSo1 (by omega)
  have hA1 : zAt s q base n0 u0 adr dC dI cA L0 xs H locs cells slots ls L S1 h := ⟨a1, a2, a3, a4, a5, hSo2, a7, a8⟩
  have hfit : cells + (hN x.2 - hN h) ≤ R.cells ∧ slots + (hU x.2 - hU h) ≤ R.slots := ⟨by omega, by omega⟩
  refine zw_after C K hprop hA1 mo (a9 := (as.map (zenc (zrho base adr))).toArray) ?_ hrr
  rw [show Nat.beq (zrecv q2) 0 = false from Bool.eq_false_iff.mpr fun g => hne (Nat.eq_of_beq_eq_true g), cond_false] at z2 b5
  have hinst : (Cond.instanceMethod (zy q2)).before args s = true := hts _ (zin_ok z2) z2.2
  have hpar : ∀ sig, parseMethodDescriptor (zy q2).desc = some sig → (as1.map (zenc (zrho base adr))).length = sig.parameters.length := fun sig hs => by
    rw [hs] at b5
    rw [List.length_map]
    have h5 : sig.parameters.length = znarg q2 - 1 := Option.some.inj b5
    rw [e0, List.length_cons] at hlen
    omega
  have hAse : as.map (zenc (zrho base adr)) = .ref (zrho base adr (zdr r0)) :: as1.map (zenc (zrho base adr)) := by rw [e0, List.map_cons, zenc_R v1]
  have hstk : (F0 m pc ls (S.map (zenc (zrho base adr)))).stack = (as1.map (zenc (zrho base adr))).reverse ++ .ref (zrho base adr (zdr r0)) :: S1.map (zenc (zrho base adr)) := by
    show S.map _ = _
    rw [hSe, List.map_append, List.map_reverse, hAse, List.reverse_cons, List.append_assoc]
    rfl
  have hnot : ¬ zcw q2 = true := fun g => hne (b10 (zcw_own q2 hq2 g))
  have hcw1 := hcw.resolve_right hnot
  obtain ⟨cellB, q1, q2', q3, -⟩ := (a1.2.2.1 _ v3).1 (by omega) (by omega)
  rw [v2, Nat.add_sub_cancel] at q2'
  rw [hAse] at hpre ⊢
  obtain ⟨x, hx9, y1, y2, y3, y4, y5, y6, y7⟩ := zovr_w (lo9.symm.trans hov) hov hts
  rw [hx9] at hmlk
  have ht11 : zvn t9 = "java/lang/StringBuilder" := y7 t9 ht9
  exact vx_runU (n := (as1.map (zenc (zrho base adr))).length) (As := as1.map (zenc (zrho base adr))) (C := zvn t9) (owner := "java/lang/AbstractStringBuilder") (x := x) ⟨hx, hb, hml, hown, htsg⟩ hM ⟨⟨rfl, rfl, by show zrf q2 + 1 ≤ R.frames; omega, by show 8 + (zmaxl q2 + 11) + zrl q2 ≤ R.locals; omega, hcodeB, by rw [hcw1]; exact List.mem_cons_self⟩, by rw [hcw1]; exact hzw, hini, ⟨by decide, by decide⟩, (fun sig hs => hpar sig (by rw [← y6]; exact hs)), hmlk, y1, y2, by rw [ht11]; exact y4, hinst⟩ ⟨zPc_blind, ⟨cellB, q1, by rw [q3]; rfl, by rw [q2']; exact (hK.1 t9 w3).2.1⟩, hpre⟩ rfl rfl (by show ls.size = zmaxl q; rw [a3.1, a4]) hstk hcs hd hfit
theorem zw_invokespecial_r {q2 k : Nat} (hct : zctor q2 = true) (C : zCtx p l R s m args meth c q base adr adV dC dI cA L0 xs) (K : zWk p l e R s m args below meth c Q q n r base n0 u0 adr dC dI cA L0 xs) (hprop : zPr p l e R s m args below meth c Q q r base n0 u0 adr dC dI cA L0 xs) (hroom : zRoom R r n0 u0) (hIH : zIH l n base adr adV dC dI cA L0 xs) (hd : decode (zbytes q) pc = .ok (.invokespecial k, 3)) (A : zAt s q base n0 u0 adr dC dI cA L0 xs H locs cells slots ls L S h) (hq : zcpM (zown q) k = some q2) (h9 : q2 < 900)
    (hr : zinv q L S h (pc + 3) q2 true (fun pc L S h => zX n q pc L S h) (fun k as pc2 L S h => zBack (zX n) q pc pc2 L S (zX n k 0 (zini as (zmaxl k)) [] h)) = some r) : W p l e R s m args below meth c H locs cells slots Q (F0 m pc ls (S.map (zenc (zrho base adr)))) := by
  obtain ⟨hx, hb, hml, hown, hts, hK, hSt, hin, ⟨hrf, hrl⟩, hl, hexc, hlk⟩ := id C
  obtain ⟨a1, a2, a3, a4, a5, a6, a7, a8⟩ := id A
  obtain ⟨lw, lq, ls9, lo9⟩ := lkM _ _ _ hq
  have hq2 : q2 < 261 := by omega
  rw [zlk_yy (lo9.symm.trans ((zsp_ct q2 hq2).2.1 ((zsp_ct q2 hq2).1 hct))), show zyy q2 = zy q2 by unfold zyy; rw [show Nat.blt q2 900 = true from Nat.ble_eq.mpr h9]; rfl] at lw
  obtain ⟨b1, b2, b3, b4, b5, b6, b7, b8, b9, b10⟩ := zA2 hq2
  obtain ⟨z1, z2, z3, z4⟩ := zM_all q2 hq2
  unfold zinv at hr
  rw [if_pos h9] at hr
  unfold zcal at hr
  obtain ⟨g1, hr⟩ := zpop_some hr
  obtain ⟨⟨g2, g3, g4, g5⟩, hr⟩ := gd_some hr
  obtain ⟨rm1, rm2⟩ := zrm_ok g4
  have hSe : S = (S.take (znarg q2)).reverse.reverse ++ S.drop (znarg q2) := by rw [List.reverse_reverse, List.take_append_drop]
  have hlen : (S.take (znarg q2)).reverse.length = znarg q2 := by rw [List.length_reverse, List.length_take]; omega
  have hSo1 : zSok (S.take (znarg q2)).reverse := fun w hw => a6 w (List.mem_of_mem_take (List.mem_reverse.mp hw))
  have hSo2 : zSok (S.drop (znarg q2)) := fun w hw => a6 w (List.mem_of_mem_drop hw)
  have htsg : ∀ w ∈ lw_good, w.before args s = true := fun w hw => hts w (List.mem_filter.mp hw).1 (List.mem_filter.mp hw).2
  have hini : (Cond.initialized (zy q2).cls).before args s = true := by rw [b1]; exact hts _ (zin_ok z4) z4.2
  have hmlk : (Cond.methodLink (zcn (zown q)) k (zy q2)).before args s = true := hts _ (zin_ok lw) lw.2
  have hcw : Cond.code (zy q2) (zbytes q2) (zmaxl q2) (zret q2) = zword q2 ∨ zcw q2 = true := by
    unfold zword
    cases hbq : zcw q2 with
    | true => exact Or.inr rfl
    | false => exact Or.inl rfl
  have hcodeB : ∀ w ∈ zws q2, ∀ (a' : Array Value) (U : State), s.WarmedH U.vm → w.before a' U = true := fun w hw a' U hW => word_at hW (zws_good q2 hq2 w hw).2 (htsg w (zws_good q2 hq2 w hw).1)
  have hzw : (zword q2).before args s = true := hts _ (zin_ok z1) z1.2
  generalize hS1 : S.drop (znarg q2) = S1 at *
  generalize has : (S.take (znarg q2)).reverse = as at *
  have hpre : ∀ U : State, U.heap = H → s.WarmedH U.vm → zPc adV base adr dC dI cA L0 xs as h (as.map (zenc (zrho base adr))).toArray U := fun U hU hW => ⟨rfl, by rw [hU]; exact a1, zK.moved hW.alike hK, by rw [hU]; exact zSt.warm hW (zSt.kept a2.1 a2.2.1 hSt)⟩
  have hcs : 2 * (F0 m pc ls (S.map (zenc (zrho base adr)))).monitorRoom + ((S1.map (zenc (zrho base adr))).map fun v => v.category).sum ≤ 8 := by
    rw [zcs_e]
    exact lv_room0 g3
  have hne : zrecv q2 ≠ 0 := b9 hct
  obtain ⟨w1, w2, w3⟩ := b7.resolve_left hne
  obtain ⟨t9, ht9⟩ : ∃ t, zrecv q2 = t + 1 := ⟨zrecv q2 - 1, by omega⟩
  rw [ht9] at hr w3
  rw [Nat.add_sub_cancel] at w3
  have hshape : ∃ r0 as1, as = zR r0 :: as1 ∧ zob h r0 (t9 + 1) ∧ zBack (zX n) q pc (pc + 3) L S1 (zX n q2 0 (zini as (zmaxl q2)) [] h) = some r := by
    simp only at hr
    rcases as with _ | ⟨v0, as1⟩
    · cases hr
    · rcases v0 with x | x | x | x | x
      · cases hr
      · cases hr
      · cases hr
      · cases hr
      · obtain ⟨v, hr⟩ := gd_some hr
        exact ⟨x, as1, rfl, v, hr⟩
  obtain ⟨r0, as1, e0, ⟨v1, v2, v3⟩, hrr⟩ := hshape
  cases hxx : zX n q2 0 (zini as (zmaxl q2)) [] h with
  | none => rw [hxx] at hrr; cases hrr
  | some x =>
  rw [hxx] at hrr
  have mo := zX_mo _ _ _ _ _ _ _ hxx
  have mo2 : zMo x.2 r.2 := zBack_mo hrr
  obtain ⟨ro1, ro2, ro3⟩ := hroom
  have m1 := mo.1
  have m2 := mo.2
  have m3 := mo2.1
  have m4 := mo2.2
  have hM := hIH q2 as h x hq2 hxx hlen g5 hSo1 (by omega)
  have hA1 : zAt s q base n0 u0 adr dC dI cA L0 xs H locs cells slots ls L S1 h := ⟨a1, a2, a3, a4, a5, hSo2, a7, a8⟩
  have hfit : cells + (hN x.2 - hN h) ≤ R.cells ∧ slots + (hU x.2 - hU h) ≤ R.slots := ⟨by omega, by omega⟩
  refine zw_after C K hprop hA1 mo (a9 := (as.map (zenc (zrho base adr))).toArray) ?_ hrr
  rw [show Nat.beq (zrecv q2) 0 = false from Bool.eq_false_iff.mpr fun g => hne (Nat.eq_of_beq_eq_true g), cond_false] at z2 b5
  have hinst : (Cond.instanceMethod (zy q2)).before args s = true := hts _ (zin_ok z2) z2.2
  have hpar : ∀ sig, parseMethodDescriptor (zy q2).desc = some sig → (as1.map (zenc (zrho base adr))).length = sig.parameters.length := fun sig hs => by
    rw [hs] at b5
    rw [List.length_map]
    have h5 : sig.parameters.length = znarg q2 - 1 := Option.some.inj b5
    rw [e0, List.length_cons] at hlen
    omega
  have hAse : as.map (zenc (zrho base adr)) = .ref (zrho base adr (zdr r0)) :: as1.map (zenc (zrho base adr)) := by rw [e0, List.map_cons, zenc_R v1]
  have hstk : (F0 m pc ls (S.map (zenc (zrho base adr)))).stack = (as1.map (zenc (zrho base adr))).reverse ++ .ref (zrho base adr (zdr r0)) :: S1.map (zenc (zrho base adr)) := by
    show S.map _ = _
    rw [hSe, List.map_append, List.map_reverse, hAse, List.reverse_cons, List.append_assoc]
    rfl
  have hnot : ¬ zcw q2 = true := fun g => hne (b10 (zcw_own q2 hq2 g))
  have hcw1 := hcw.resolve_right hnot
  obtain ⟨cellB, q1, q2', q3, -⟩ := (a1.2.2.1 _ v3).1 (by omega) (by omega)
  rw [v2, Nat.add_sub_cancel] at q2'
  rw [hAse] at hpre ⊢
  have hret : zret q2 = none := b8 hct
  rw [hret] at hcw1
  have hnm : (zy q2).name = "<init>" := of_decide_eq_true (b6.symm.trans hct)
  exact vx_runI (n := (as1.map (zenc (zrho base adr))).length) (As := as1.map (zenc (zrho base adr))) ⟨hx, hb, hml, hown, htsg⟩ hM ⟨⟨rfl, rfl, by show zrf q2 + 1 ≤ R.frames; omega, by show 8 + (zmaxl q2 + 11) + zrl q2 ≤ R.locals; omega, hcodeB, by rw [hcw1]; exact List.mem_cons_self, by rw [hcw1]; exact hzw, hini, ⟨b3, b4⟩, hpar, hmlk⟩, hnm, hinst⟩ ⟨zPc_blind, hpre⟩ rfl rfl (by show ls.size = zmaxl q; rw [a3.1, a4]) hstk hcs hd hfit
theorem zw_invokespecial_s {q2 k : Nat} (hct : zctor q2 = false) (C : zCtx p l R s m args meth c q base adr adV dC dI cA L0 xs) (K : zWk p l e R s m args below meth c Q q n r base n0 u0 adr dC dI cA L0 xs) (hprop : zPr p l e R s m args below meth c Q q r base n0 u0 adr dC dI cA L0 xs) (hroom : zRoom R r n0 u0) (hIH : zIH l n base adr adV dC dI cA L0 xs) (hd : decode (zbytes q) pc = .ok (.invokespecial k, 3)) (A : zAt s q base n0 u0 adr dC dI cA L0 xs H locs cells slots ls L S h) (hq : zcpM (zown q) k = some q2) (h9 : q2 < 900)
    (hr : zinv q L S h (pc + 3) q2 true (fun pc L S h => zX n q pc L S h) (fun k as pc2 L S h => zBack (zX n) q pc pc2 L S (zX n k 0 (zini as (zmaxl k)) [] h)) = some r) : W p l e R s m args below meth c H locs cells slots Q (F0 m pc ls (S.map (zenc (zrho base adr)))) := by
  obtain ⟨hx, hb, hml, hown, hts, hK, hSt, hin, ⟨hrf, hrl⟩, hl, hexc, hlk⟩ := id C
  obtain ⟨a1, a2, a3, a4, a5, a6, a7, a8⟩ := id A
  obtain ⟨lw, lq, ls9, lo9⟩ := lkM _ _ _ hq
  have hq2 : q2 < 261 := by omega
  obtain ⟨b1, b2, b3, b4, b5, b6, b7, b8, b9, b10⟩ := zA2 hq2
  obtain ⟨z1, z2, z3, z4⟩ := zM_all q2 hq2
  unfold zinv at hr
  rw [if_pos h9] at hr
  unfold zcal at hr
  obtain ⟨g1, hr⟩ := zpop_some hr
  obtain ⟨⟨g2, g3, g4, g5⟩, hr⟩ := gd_some hr
  have hsp : zspc q2 = true := g2.symm
  rw [zlk_yy (lo9.symm.trans ((zsp_ct q2 hq2).2.1 hsp)), show zyy q2 = zy q2 by unfold zyy; rw [show Nat.blt q2 900 = true from Nat.ble_eq.mpr h9]; rfl] at lw
  obtain ⟨rm1, rm2⟩ := zrm_ok g4
  have hSe : S = (S.take (znarg q2)).reverse.reverse ++ S.drop (znarg q2) := by rw [List.reverse_reverse, List.take_append_drop]
  have hlen : (S.take (znarg q2)).reverse.length = znarg q2 := by rw [List.length_reverse, List.length_take]; omega
  have hSo1 : zSok (S.take (znarg q2)).reverse := fun w hw => a6 w (List.mem_of_mem_take (List.mem_reverse.mp hw))
  have hSo2 : zSok (S.drop (znarg q2)) := fun w hw => a6 w (List.mem_of_mem_drop hw)
  have htsg : ∀ w ∈ lw_good, w.before args s = true := fun w hw => hts w (List.mem_filter.mp hw).1 (List.mem_filter.mp hw).2
  have hini : (Cond.initialized (zy q2).cls).before args s = true := by rw [b1]; exact hts _ (zin_ok z4) z4.2
  have hmlk : (Cond.methodLink (zcn (zown q)) k (zy q2)).before args s = true := hts _ (zin_ok lw) lw.2
  have hcw : Cond.code (zy q2) (zbytes q2) (zmaxl q2) (zret q2) = zword q2 ∨ zcw q2 = true := by
    unfold zword
    cases hbq : zcw q2 with
    | true => exact Or.inr rfl
    | false => exact Or.inl rfl
  have hcodeB : ∀ w ∈ zws q2, ∀ (a' : Array Value) (U : State), s.WarmedH U.vm → w.before a' U = true := fun w hw a' U hW => word_at hW (zws_good q2 hq2 w hw).2 (htsg w (zws_good q2 hq2 w hw).1)
  have hzw : (zword q2).before args s = true := hts _ (zin_ok z1) z1.2
  generalize hS1 : S.drop (znarg q2) = S1 at *
  generalize has : (S.take (znarg q2)).reverse = as at *
  have hpre : ∀ U : State, U.heap = H → s.WarmedH U.vm → zPc adV base adr dC dI cA L0 xs as h (as.map (zenc (zrho base adr))).toArray U := fun U hU hW => ⟨rfl, by rw [hU]; exact a1, zK.moved hW.alike hK, by rw [hU]; exact zSt.warm hW (zSt.kept a2.1 a2.2.1 hSt)⟩
  have hcs : 2 * (F0 m pc ls (S.map (zenc (zrho base adr)))).monitorRoom + ((S1.map (zenc (zrho base adr))).map fun v => v.category).sum ≤ 8 := by
    rw [zcs_e]
    exact lv_room0 g3
  have hcase := (zsp_ct q2 hq2).2.2 hsp hct
  have hrc : zrecv q2 = 12 := by rcases hcase with rfl | rfl | rfl | rfl <;> rfl
  have hne : zrecv q2 ≠ 0 := by omega
  obtain ⟨w1, w2, w3⟩ := b7.resolve_left hne
  obtain ⟨t9, ht9⟩ : ∃ t, zrecv q2 = t + 1 := ⟨zrecv q2 - 1, by omega⟩
  rw [ht9] at hr w3
  rw [Nat.add_sub_cancel] at w3
  have hshape : ∃ r0 as1, as = zR r0 :: as1 ∧ zob h r0 (t9 + 1) ∧ zBack (zX n) q pc (pc + 3) L S1 (zX n q2 0 (zini as (zmaxl q2)) [] h) = some r := by
    simp only at hr
    rcases as with _ | ⟨v0, as1⟩
    · cases hr
    · rcases v0 with x | x | x | x | x
      · cases hr
      · cases hr
      · cases hr
      · cases hr
      · obtain ⟨v, hr⟩ := gd_some hr
        exact ⟨x, as1, rfl, v, hr⟩
  obtain ⟨r0, as1, e0, ⟨v1, v2, v3⟩, hrr⟩ := hshape
  cases hxx : zX n q2 0 (zini as (zmaxl q2)) [] h with
  | none => rw [hxx] at hrr; cases hrr
  | some x =>
  rw [hxx] at hrr
  have mo := zX_mo _ _ _ _ _ _ _ hxx
  have mo2 : zMo x.2 r.2 := zBack_mo hrr
  obtain ⟨ro1, ro2, ro3⟩ := hroom
  have m1 := mo.1
  have m2 := mo.2
  have m3 := mo2.1
  have m4 := mo2.2
  have hM := hIH q2 as h x hq2 hxx hlen g5 hSo1 (by omega)
  have hA1 : zAt s q base n0 u0 adr dC dI cA L0 xs H locs cells slots ls L S1 h := ⟨a1, a2, a3, a4, a5, hSo2, a7, a8⟩
  have hfit : cells + (hN x.2 - hN h) ≤ R.cells ∧ slots + (hU x.2 - hU h) ≤ R.slots := ⟨by omega, by omega⟩
  refine zw_after C K hprop hA1 mo (a9 := (as.map (zenc (zrho base adr))).toArray) ?_ hrr
  rw [show Nat.beq (zrecv q2) 0 = false from Bool.eq_false_iff.mpr fun g => hne (Nat.eq_of_beq_eq_true g), cond_false] at z2 b5
  have hinst : (Cond.instanceMethod (zy q2)).before args s = true := hts _ (zin_ok z2) z2.2
  have hpar : ∀ sig, parseMethodDescriptor (zy q2).desc = some sig → (as1.map (zenc (zrho base adr))).length = sig.parameters.length := fun sig hs => by
    rw [hs] at b5
    rw [List.length_map]
    have h5 : sig.parameters.length = znarg q2 - 1 := Option.some.inj b5
    rw [e0, List.length_cons] at hlen
    omega
  have hAse : as.map (zenc (zrho base adr)) = .ref (zrho base adr (zdr r0)) :: as1.map (zenc (zrho base adr)) := by rw [e0, List.map_cons, zenc_R v1]
  have hstk : (F0 m pc ls (S.map (zenc (zrho base adr)))).stack = (as1.map (zenc (zrho base adr))).reverse ++ .ref (zrho base adr (zdr r0)) :: S1.map (zenc (zrho base adr)) := by
    show S.map _ = _
    rw [hSe, List.map_append, List.map_reverse, hAse, List.reverse_cons, List.append_assoc]
    rfl
  have hnot : ¬ zcw q2 = true := fun g => hne (b10 (zcw_own q2 hq2 g))
  have hcw1 := hcw.resolve_right hnot
  obtain ⟨cellB, q1, q2', q3, -⟩ := (a1.2.2.1 _ v3).1 (by omega) (by omega)
  rw [v2, Nat.add_sub_cancel] at q2'
  rw [hAse] at hpre ⊢
  have ho12 : zown q = 12 := by
    rw [hsp, hct] at ls9
    exact Nat.eq_of_beq_eq_true ls9
  obtain ⟨y1, y2, y3⟩ := zsup_w hcase hts
  have hown2 := hown
  rw [ho12] at hown2
  have h9t : t9 = 11 := by omega
  subst h9t
  obtain ⟨hS9, hfc9, kC9, hkC9, hkind9⟩ := id (hK.1 11 (by decide))
  rw [ho12] at hmlk
  exact vx_runSU (n := (as1.map (zenc (zrho base adr))).length) (As := as1.map (zenc (zrho base adr))) (C := zvn 11) (own := zcn 12) (cC := dC 11) ⟨hfc9, kC9, hkC9, hkind9⟩ ⟨hx, hb, hml, hown2, htsg⟩ hM ⟨⟨rfl, rfl, by show zrf q2 + 1 ≤ R.frames; omega, by show 8 + (zmaxl q2 + 11) + zrl q2 ≤ R.locals; omega, hcodeB, by rw [hcw1]; exact List.mem_cons_self⟩, hmlk, y1, y2, hinst, hini, by rw [hcw1]; exact hzw, y3, hpar⟩ ⟨zPc_blind, ⟨cellB, q1, by rw [q3]; rfl, by rw [q2']; exact hfc9⟩, hpre⟩ rfl rfl (by show ls.size = zmaxl q; rw [a3.1, a4]) hstk hcs hd hfit
end ZW
