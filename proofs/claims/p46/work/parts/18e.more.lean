/-! Rows of bytes copied by Java's own library; its texts' coder; its checks. -/
abbrev yGet : MethodName := ⟨"java/lang/String", "getBytes", "([BIB)V"⟩
section COPG
variable {p : Program} {l : Launch} {e : Env} {R : Room} {s : State} {m : MethodId} {args : Array Value} {below : List Frame} {meth : Method} {c : Code} {Q : State → Prop}
variable {H : Heap} {locs : List Loc} {cells slots : Nat} {ls : Array Slot} {pc : Nat} {rest : List Value} {cc : ByteArray}
set_option maxRecDepth 100000 in
/-- System.arraycopy of bytes, from any row into a made one -/
theorem w_copyG {own : String} {index a b n1 n2 k sp dp : Nat} {cs : Cell} {cB : ClassId} {f g : Nat → Value} (hx : p.tables.exec = Jvm.exec) (hb : c.code = cc) (hml : c.maxLocals = ls.size) (hown : s.vm.findClass own = some m.cls) (ht : ∀ w ∈ lw_good, w.before args s = true)
    (hlink : (Cond.methodLink own index arraycopyName).before args s = true) (hAO : ∀ n f, s.isArrayOf (arrV cB n f) .byte) (hcsA : s.isArrayOf cs .byte) (hcsu : cs.vm ≠ .unknown)
    (ha : H[a]? = some cs) (hsl : ∀ j, j < n1 → cs.slots[j]? = some (f j)) (hsz : n1 ≤ cs.slots.size) (hbc : H[b]? = some (arrV cB n2 g)) (hk1 : sp + k ≤ n1) (hk2 : dp + k ≤ n2) (hn1 : n1 < 2147483648) (hn2 : n2 < 2147483648) (hfit : ∀ j, j < n1 → fits .byte (f j) = true)
    (hframes : 1 ≤ R.frames) (hlocals : (rest.map fun v => v.category).sum + (nativeFrameWords "java/lang/System" "arraycopy" 5 + 11) ≤ R.locals) (hdg : decode cc pc = .ok (.invokestatic index, 3))
    (kk : ∀ L, (∀ q ∈ L, q.base = b) → W p l e R s m args below meth c (H.setIfInBounds b (arrV cB n2 (va_cpy f g sp dp k))) (locs ++ L) cells slots Q (F0 m (pc + 3) ls rest)) : W p l e R s m args below meth c H locs cells slots Q (F0 m pc ls (.int (Int32.ofNat k) :: .int (Int32.ofNat dp) :: .ref b :: .int (Int32.ofNat sp) :: .ref a :: rest)) := by
  have cn : ∀ x : Nat, x < 2147483648 → (Int32.ofNat x).toNatClampNeg = x := fun x hx => by
    rw [← zi_nt, zi_cl (by unfold inR; omega) (by omega)]; omega
  have ci : ∀ x : Nat, x < 2147483648 → (Int32.ofNat x).toInt = x := fun x hx => by rw [← zi_nt, zi_to (by unfold inR; omega)]
  have c0 : ∀ x : Nat, x < 2147483648 → ¬ Int32.ofNat x < 0 := fun x hx => by
    rw [Int32.lt_iff_toInt_lt, ci x hx]; show ¬ (x : Int) < 0; omega
  intro T hT X
  obtain ⟨-, k1, hk1', cm1, hkk1⟩ := hAO 0 (fun _ => .null)
  obtain ⟨hs0, k2, hk2', cm2, hkk2⟩ := hcsA
  obtain ⟨vm', X', step⟩ := X.arraycopy hx hown hlink (lw_w (k := 1066) ⟨rfl, rfl⟩ ht) (lw_w (k := 1065) ⟨rfl, rfl⟩ ht) (lw_w (k := 1005) ⟨rfl, rfl⟩ ht) (src := a) (dst := b) (cs := cs) (cd := arrV cB n2 g) (srcPos := Int32.ofNat sp) (destPos := Int32.ofNat dp) (n := Int32.ofNat k) (by rw [hT]; exact ha) (by rw [hT]; exact hbc)
    hs0 (fun _ h => by cases h) hcsu (fun h => by cases h) hk2' hk1' hkk2 hkk1 rfl (c0 _ (by omega)) (c0 _ (by omega)) (c0 _ (by omega))
    (by rw [ci _ (by omega), ci _ (by omega)]; omega) (by rw [ci _ (by omega), ci _ (by omega), arrV_size]; omega)
    (fun vm₁ hal i hi => by
      rw [cn _ (by omega)] at hi
      have e : cs.slots.getD ((Int32.ofNat sp).toNatClampNeg + i) .null = f (sp + i) := by
        rw [cn _ (by omega), Array.getD_eq_getD_getElem?, hsl _ (by omega)]
        rfl
      rw [e]
      have h1 := hfit (sp + i) (by omega)
      refine ⟨h1, ?_⟩
      cases hv : f (sp + i) with
      | int v => trivial
      | _ => rw [hv] at h1; cases h1)
    (g := F0 m pc ls (.int (Int32.ofNat k) :: .int (Int32.ofNat dp) :: .ref b :: .int (Int32.ofNat sp) :: .ref a :: rest)) rfl (by rw [hml]) (rest := rest) rfl (by rw [hb]; exact hdg) hframes (by show 2 * 0 + _ + _ ≤ _; omega)
  have e1 : copied cs (arrV cB n2 g) (Int32.ofNat sp) (Int32.ofNat dp) (Int32.ofNat k) = arrV cB n2 (va_cpy f g sp dp k) := by
    have := va_copiedX (fun z => z) cs cB f g (n0 := n1) (n1 := n2) (sp := sp) (dp := dp) (n := k) hsl hk1
    unfold copied
    rw [cn _ (by omega), cn _ (by omega), cn _ (by omega)]
    exact this
  rw [e1] at X' step
  obtain ⟨t, b1, b2⟩ := kk _ (fun q hq => by
    obtain ⟨z, -, hz⟩ := List.mem_map.mp hq
    rw [← hz]) _ (by rw [← hT]; rfl) X'
  exact ⟨t, step t b1, b2⟩
end COPG
/-- the row d written anew -/
def hRow (h : zH) (d : Nat) (g : Nat → Int) : zH := (hN h, hU h, hT h, hL h, hR h, zu1 (hI h) d g, hJ h, hF h, hD h)
theorem hRow_I {h : zH} {d b : Nat} {g : Nat → Int} (hb : b ≠ d) : hI (hRow h d g) b = hI h b := if_neg hb
theorem hRow_I0 {h : zH} {d : Nat} {g : Nat → Int} : hI (hRow h d g) d = g := if_pos rfl
theorem hRow_fv {h : zH} {d b : Nat} {g : Nat → Int} (hb : b ≠ d) (c j : Nat) : zfv (hRow h d g) c b j = zfv h c b j := by
  unfold zfv
  rw [hRow_I hb]
  rfl
theorem hRow_ev {h : zH} {d b : Nat} {g : Nat → Int} (hb : b ≠ d) (t j : Nat) : zev (hRow h d g) t b j = zev h t b j := by
  unfold zev
  rw [hRow_I hb]
  rfl
section ROW
variable {base : Nat} {adr : Nat → Nat} {dC : Nat → ClassId} {dI : Nat → Nat → Nat} {cA : Nat → ClassId} {L0 : Nat} {xs : Nat → Int32} {H H2 : Heap} {h : zH}
theorem zRep.row {d : Nat} {g : Nat → Int} (R : zRep base adr dC dI cA L0 xs H h) (hd : d < hN h) (ht : hT h d = 21) (hg : ∀ j, -128 ≤ g j ∧ g j < 128)
    (e1 : H2[zrho base adr d]? = some (arrV (cA 21) (hL h d) (fun j => .int (Int32.ofInt (g j))))) (e2 : H2.size = H.size) (e3 : ∀ q, q ≠ zrho base adr d → H2[q]? = H[q]?) : zRep base adr dC dI cA L0 xs H2 (hRow h d g) := by
  obtain ⟨r1, r2, r3, r4, r5, r6⟩ := R
  refine ⟨by rw [e2]; exact r1, r2, fun b hb => ?_, fun a k => ?_, r5, ?_⟩
  · have hb : b < hN h := hb
    obtain ⟨c1, c2, c3⟩ := r3 b hb
    unfold zcell
    rw [show hT (hRow h d g) b = hT h b from rfl, show hL (hRow h d g) b = hL h b from rfl]
    by_cases hbd : b = d
    · subst hbd
      refine ⟨fun x y => by omega, fun x y => ⟨?_, (c2 x y).2.1, fun _ j => by rw [hRow_I0]; exact hg j⟩, c3⟩
      rw [e1, ht]
      refine congrArg some (congrArg (arrV _ _) (funext fun j => ?_))
      rw [show zev (hRow h b g) 21 b j = zI (hI (hRow h b g) b j) from rfl, hRow_I0]
      rfl
    · have hne : zrho base adr b ≠ zrho base adr d := by rw [zrho_lt (by omega), zrho_lt (by omega)]; omega
      refine ⟨fun x y => t_OB.to ((c1 x y).kept (e3 _ hne)) (fun j _ => by rw [hRow_fv hbd]), fun x y => ⟨?_, (c2 x y).2.1, fun e j => by rw [hRow_I hbd]; exact (c2 x y).2.2 e j⟩, c3⟩
      rw [e3 _ hne, (c2 x y).1]
      exact congrArg some (congrArg (arrV _ _) (funext fun j => by rw [hRow_ev hbd]))
  · by_cases e : a = d
    · subst e
      rw [hRow_I0]
      have := hg k
      exact ⟨by omega, by omega⟩
    · rw [hRow_I e]; exact r4 a k
  · have hI9 : ∀ b, zVB ≤ b → hI (hRow h d g) b = hI h b := fun b hb => hRow_I (by omega)
    obtain ⟨⟨a1, a2, a3⟩, ⟨b1, b2, b3⟩, ⟨c1, c2, c3⟩, dd, dg, f⟩ := r6
    refine ⟨⟨a1, a2, fun j hj => by rw [hI9 _ (Nat.le_refl _)]; exact a3 j hj⟩, ⟨b1, b2, b3⟩, ⟨c1, c2, c3⟩, fun k hk => ⟨(dd k hk).1, (dd k hk).2.1, fun j hj => by rw [hI9 _ (by omega)]; exact (dd k hk).2.2 j hj⟩, fun k hk => ⟨(dg k hk).1, (dg k hk).2.1, fun j hj => by rw [hI9 _ (by omega)]; exact (dg k hk).2.2 j hj⟩, f⟩
end ROW
section ACZ
variable {p : Program} {l : Launch} {e : Env} {R : Room} {s : State} {m : MethodId} {args : Array Value} {below : List Frame} {meth : Method} {c : Code} {Q : State → Prop}
variable {q n : Nat} {r : (Option zV ⊕ Nat) × zH} {base n0 u0 : Nat} {adr adV : Nat → Nat} {dC : Nat → ClassId} {dI : Nat → Nat → Nat} {cA : Nat → ClassId} {L0 : Nat} {xs : Nat → Int32}
variable {pc len : Nat} {L : zL} {S : List zV} {h : zH} {H : Heap} {locs : List Loc} {cells slots : Nat} {ls : Array Slot}
theorem zbf {x : Int} (h1 : -128 ≤ x) (h2 : x < 128) : fits .byte (.int (Int32.ofInt x)) = true := by
  show (decide (-128 ≤ Int32.ofInt x) && decide (Int32.ofInt x ≤ 127)) = true
  rw [Bool.and_eq_true, decide_eq_true_eq, decide_eq_true_eq, Int32.le_iff_toInt_le, Int32.le_iff_toInt_le, zi_to ⟨by omega, by omega⟩]
  exact ⟨h1, by show _ ≤ (127 : Int); omega⟩
theorem zi_nn {x : Int} (h : 0 ≤ x) : Int32.ofInt x = Int32.ofNat x.toNat := by
  rw [← zi_nt]
  exact congrArg Int32.ofInt (by omega)
set_option maxRecDepth 100000 in
theorem zw_ac {k : Nat} (C : zCtx p l R s m args meth c q base adr adV dC dI cA L0 xs) (K : zWk p l e R s m args below meth c Q q n r base n0 u0 adr dC dI cA L0 xs) (hd : decode (zbytes q) pc = .ok (.invokestatic k, 3)) (A : zAt s q base n0 u0 adr dC dI cA L0 xs H locs cells slots ls L S h) (hmlk : (Cond.methodLink (zcn (zown q)) k arraycopyName).before args s = true)
    (hr : (pI S fun k S => pI S fun e S => pR S fun d S => pI S fun f S => pR S fun r S => gd (zob h r 21 ∧ zob h d 21 ∧ zdr r ≠ zdr d ∧ 0 ≤ f ∧ 0 ≤ e ∧ 0 ≤ k ∧ f + k ≤ (hL h (zdr r) : Int) ∧ e + k ≤ (hL h (zdr d) : Int) ∧ zcs S ≤ 8 ∧ zrm q 6 200 = true) (zX n q (pc + 3) L S (hAc h (zdr r) f.toNat (zdr d) e.toNat k.toNat))) = some r) : W p l e R s m args below meth c H locs cells slots Q (F0 m pc ls (S.map (zenc (zrho base adr)))) := by
  obtain ⟨hx, hb, hml, hown, hts, hK, hSt, hin, ⟨hrf, hrl⟩, hl, hexc, hlk⟩ := id C
  obtain ⟨a1, a2, a3, a4, a5, a6, a7, a8⟩ := id A
  obtain ⟨k9, S1, rfl, hr_1⟩ := pI_some hr
  obtain ⟨e9, S2, rfl, hr_2⟩ := pI_some hr_1
  obtain ⟨d9, S3, rfl, hr_3⟩ := pR_some hr_2
  obtain ⟨f9, S4, rfl, hr_4⟩ := pI_some hr_3
  obtain ⟨r9, S5, rfl, hr_5⟩ := pR_some hr_4
  obtain ⟨⟨⟨g1, g2, g3⟩, ⟨d1, d2, d3⟩, hne, hf0, he0, hk0, hfk, hek, hcs, hz⟩, hr⟩ := gd_some hr_5
  obtain ⟨rm1, rm2⟩ := zrm_ok hz
  have htsg : ∀ w ∈ lw_good, w.before args s = true := fun w hw => hts w (List.mem_filter.mp hw).1 (List.mem_filter.mp hw).2
  have as21 := a1.arr g3 g2 (by decide) (by decide)
  have ad21 := a1.arr d3 d2 (by decide) (by decide)
  have rs := ((a1.2.2.1 _ g3).2.1 (by omega) (by omega)).2.2 g2
  have rd := ((a1.2.2.1 _ d3).2.1 (by omega) (by omega)).2.2 d2
  obtain ⟨k1, k2⟩ := hK.2 21 (by decide) (by decide)
  have hzr : zrho base adr (zdr r9) ≠ zrho base adr (zdr d9) := by
    have := a1.2.1
    rw [zrho_lt (by omega), zrho_lt (by omega)]; omega
  rw [List.map_cons, List.map_cons, List.map_cons, List.map_cons, List.map_cons, zenc_R g1, zenc_R d1]
  show W p l e R s m args below meth c H locs cells slots Q (F0 m pc ls (.int (Int32.ofInt k9) :: .int (Int32.ofInt e9) :: .ref (zrho base adr (zdr d9)) :: .int (Int32.ofInt f9) :: .ref (zrho base adr (zdr r9)) :: S5.map (zenc (zrho base adr))))
  rw [zi_nn hk0, zi_nn he0, zi_nn hf0]
  have fe : ∀ a j, zenc (zrho base adr) (zev h 21 a j) = .int (Int32.ofInt (hI h a j)) := fun a j => rfl
  have hnf : nativeFrameWords "java/lang/System" "arraycopy" 5 + 11 ≤ 100 := by decide
  refine w_copyG (cB := cA 21) (n1 := hL h (zdr r9)) (n2 := hL h (zdr d9)) (f := fun j => zenc (zrho base adr) (zev h 21 (zdr r9) j)) (g := fun j => zenc (zrho base adr) (zev h 21 (zdr d9) j)) hx hb (by rw [hml, a3.1, a4]) hown htsg hmlk k1 (k1 _ _) (fun z => by cases z) as21.1 (fun j hj => arrV_read _ _ hj) (by rw [arrV_size]; exact Nat.le_refl _) ad21.1 (by omega) (by omega) (by have := as21.2; omega) (by have := ad21.2; omega) (fun j _ => by rw [fe]; exact zbf (rs j).1 (rs j).2) (by omega) (by rw [zcs_e]; omega) hd (fun L9 hL9 => ?_)
  have lt9 : zrho base adr (zdr d9) < H.size := by
    rw [zrho_lt (Nat.lt_trans d3 a1.2.1), a1.1]; omega
  have hge : base ≤ zrho base adr (zdr d9) := by rw [zrho_lt (Nat.lt_trans d3 a1.2.1)]; omega
  refine K _ _ S5 (hRow h (zdr d9) (fun j => if e9.toNat ≤ j ∧ j < e9.toNat + k9.toNat then hI h (zdr r9) (f9.toNat + (j - e9.toNat)) else hI h (zdr d9) j)) _ _ _ _ _ hr ⟨zRep.row a1 d3 d2 (fun j => ?_) ?_ (by rw [Array.size_setIfInBounds]) (fun q9 hq9 => by rw [Array.getElem?_setIfInBounds, if_neg (fun z => hq9 z.symm)]), ⟨by rw [Array.size_setIfInBounds]; exact a2.1, fun q9 h1 h2 => ?_, fun q9 hq9 => ?_⟩, a3, a4, a5, a6.tl.tl.tl.tl.tl, a7, a8⟩
  · split
    · exact rs _
    · exact rd _
  · rw [Array.getElem?_setIfInBounds, if_pos rfl, if_pos lt9]
    refine congrArg some (congrArg (arrV _ _) (funext fun j => ?_))
    unfold va_cpy
    split
    · exact fe _ _
    · exact fe _ _
  · have h3 : ¬ base ≤ q9 := h2
    rw [Array.getElem?_setIfInBounds, if_neg (by omega)]
    exact a2.2.1 q9 h1 h2
  · rcases List.mem_append.1 hq9 with hq9 | hq9
    · exact a2.2.2 q9 hq9
    · show base ≤ q9.base
      rw [hL9 q9 hq9]; exact hge
set_option maxRecDepth 100000 in
theorem zw_cln {k : Nat} (hroom : zRoom R r n0 u0) (C : zCtx p l R s m args meth c q base adr adV dC dI cA L0 xs) (K : zWk p l e R s m args below meth c Q q n r base n0 u0 adr dC dI cA L0 xs) (hd : decode (zbytes q) pc = .ok (.invokevirtual k, 3)) (A : zAt s q base n0 u0 adr dC dI cA L0 xs H locs cells slots ls L S h) (hmlk : (Cond.methodLink (zcn (zown q)) k ⟨"[B", "clone", "()Ljava/lang/Object;"⟩).before args s = true)
    (hr : (pR S fun r S => gd (zob h r 21 ∧ hL h (zdr r) < 65536 ∧ zcs S ≤ 8 ∧ zrm q 6 200 = true) (zX n q (pc + 3) L (zR (some (hN h)) :: S) (((hN (hNew h 21 (hL h (zdr r))), hU (hNew h 21 (hL h (zdr r))), hT (hNew h 21 (hL h (zdr r))), hL (hNew h 21 (hL h (zdr r))), hR (hNew h 21 (hL h (zdr r))), zu1 (hI h) (hN h) (hI h (zdr r)), hJ (hNew h 21 (hL h (zdr r))), hF (hNew h 21 (hL h (zdr r))), hD (hNew h 21 (hL h (zdr r)))) : zH)))) = some r) : W p l e R s m args below meth c H locs cells slots Q (F0 m pc ls (S.map (zenc (zrho base adr)))) := by
  obtain ⟨hx, hb, hml, hown, hts, hK, hSt, hin, ⟨hrf, hrl⟩, hl, hexc, hlk⟩ := id C
  obtain ⟨a1, a2, a3, a4, a5, a6, a7, a8⟩ := id A
  obtain ⟨r9, S1, rfl, hr_1⟩ := pR_some hr
  obtain ⟨⟨⟨g1, g2, g3⟩, g4, hcs, hz⟩, hr⟩ := gd_some hr_1
  obtain ⟨rm1, rm2⟩ := zrm_ok hz
  have htsg : ∀ w ∈ lw_good, w.before args s = true := fun w hw => hts w (List.mem_filter.mp hw).1 (List.mem_filter.mp hw).2
  have mo := zX_mo _ _ _ _ _ _ _ hr
  obtain ⟨ro1, ro2, ro3⟩ := hroom
  have m1 : hN h + 1 ≤ hN r.2 := mo.1
  have m2 : hU h + hL h (zdr r9) ≤ hU r.2 := mo.2
  have as21 := a1.arr g3 g2 (by decide) (by decide)
  have rs := ((a1.2.2.1 _ g3).2.1 (by omega) (by omega)).2.2 g2
  obtain ⟨k1, k2⟩ := hK.2 21 (by decide) (by decide)
  rw [List.map_cons, zenc_R g1]
  have hsz : H.size = base + hN h := a1.1
  have hrho : zrho base adr (hN h) = H.size := by rw [zrho_lt a1.2.1, hsz]
  refine w_clone (cB := cA 21) (n := hL h (zdr r9)) (f := fun j => zenc (zrho base adr) (zev h 21 (zdr r9) j)) hx hb (by rw [hml, a3.1, a4]) hown htsg hmlk (hSt.2.2.2.2.2.2.2.1 _ (List.mem_append_left _ (by unfold zNw1; simp))) k1 k2 as21.1 (fun j _ => zbf (rs j).1 (rs j).2) (by omega) (by rw [zcs_e]; omega) (by omega) (by omega) hd ?_
  have g := K (pc + 3) L (zR (some (hN h)) :: S1) _ (H.push (arrV (cA 21) (hL h (zdr r9)) fun j => zenc (zrho base adr) (zev h 21 (zdr r9) j))) locs (cells + 1) (slots + hL h (zdr r9)) ls hr
  have R2 : zRep base adr dC dI cA L0 xs (H.push (arrV (cA 21) (hL h (zdr r9)) fun j => zenc (zrho base adr) (zev h 21 (zdr r9) j))) (hRow (hNew h 21 (hL h (zdr r9))) (hN h) (hI h (zdr r9))) := by
    have R1 : zRep base adr dC dI cA L0 xs (H.push (arrV (cA 21) (hL h (zdr r9)) fun j => .int 0)) (hNew h 21 (hL h (zdr r9))) := by
      refine zRep.alloc a1 (by rw [Array.size_push]) (fun q9 hq9 => by rw [Array.getElem?_push, if_neg (by omega)]) (by omega) ⟨fun x y => by rw [hNew_T0.1] at x y; omega, fun x y => ⟨?_, by rw [hNew_T0.2]; omega, fun _ j => by rw [zNewI]; decide⟩, Or.inr (by rw [hNew_T0.1]; omega)⟩
      rw [hNew_T0.1, hNew_T0.2, hrho, Array.getElem?_push, if_pos rfl]
      exact congrArg some (congrArg (arrV _ _) (funext fun j => by simp only [zev, zNewI]; rfl))
    refine zRep.row R1 (Nat.lt_succ_self _) hNew_T0.1 rs ?_ (by rw [Array.size_push, Array.size_push]) (fun q9 hq9 => ?_)
    · rw [hrho, hNew_T0.2, Array.getElem?_push, if_pos rfl]
      rfl
    · rw [hrho] at hq9
      rw [Array.getElem?_push, Array.getElem?_push]
      rw [if_neg hq9, if_neg hq9]
  have hh : hRow (hNew h 21 (hL h (zdr r9))) (hN h) (hI h (zdr r9)) = (hN (hNew h 21 (hL h (zdr r9))), hU (hNew h 21 (hL h (zdr r9))), hT (hNew h 21 (hL h (zdr r9))), hL (hNew h 21 (hL h (zdr r9))), hR (hNew h 21 (hL h (zdr r9))), zu1 (hI h) (hN h) (hI h (zdr r9)), hJ (hNew h 21 (hL h (zdr r9))), hF (hNew h 21 (hL h (zdr r9))), hD (hNew h 21 (hL h (zdr r9)))) := by
    unfold hRow
    rw [show zu1 (hI (hNew h 21 (hL h (zdr r9)))) (hN h) (hI h (zdr r9)) = zu1 (hI h) (hN h) (hI h (zdr r9)) from by
      funext b
      unfold zu1
      by_cases hb9 : b = hN h
      · rw [if_pos hb9, if_pos hb9]
      · rw [if_neg hb9, if_neg hb9]; exact (hNew_I hb9).1]
  rw [hh] at R2
  have g2 := g ⟨R2, ⟨by rw [Array.size_push]; exact Nat.le_succ_of_le a2.1, fun q9 h1 h2 => by rw [Array.getElem?_push, if_neg (by have := a2.1; omega)]; exact a2.2.1 q9 h1 h2, a2.2.2⟩, a3, a4, a5, a6.tl.cons trivial, by show cells + 1 + n0 = hN h + 1; omega, by show slots + hL h (zdr r9) + u0 = hU h + hL h (zdr r9); omega⟩
  rw [List.map_cons, show zenc (zrho base adr) (zR (some (hN h))) = .ref H.size by rw [zenc_R rfl, show zdr (some (hN h)) = hN h from rfl, hrho]] at g2
  exact g2
theorem zw_chk {k kl9 : Nat} (C : zCtx p l R s m args meth c q base adr adV dC dI cA L0 xs) (K : zWk p l e R s m args below meth c Q q n r base n0 u0 adr dC dI cA L0 xs) (hroom : zRoom R r n0 u0) (hd : decode (zbytes q) pc = .ok (.invokestatic k, 3)) (A : zAt s q base n0 u0 adr dC dI cA L0 xs H locs cells slots ls L S h) (wl : zinP (Cond.methodLink (zcn (zown q)) k yChk) kl9)
    (hr : (pI S fun n9 S => pI S fun i S => gd (0 ≤ i ∧ i < n9 ∧ zcs S ≤ 8 ∧ zrm q 6 200 = true) (zX n q (pc + 3) L S h)) = some r) : W p l e R s m args below meth c H locs cells slots Q (F0 m pc ls (S.map (zenc (zrho base adr)))) := by
  obtain ⟨hx, hb, hml, hown, hts, hK, hSt, hin, ⟨hrf, hrl⟩, hl, hexc, hlk⟩ := id C
  obtain ⟨a1, a2, a3, a4, a5, a6, a7, a8⟩ := id A
  obtain ⟨n9, S1, rfl, hr_1⟩ := pI_some hr
  obtain ⟨i9, S2, rfl, hr_2⟩ := pI_some hr_1
  obtain ⟨⟨g1, g2, g3, g4⟩, hr⟩ := gd_some hr_2
  obtain ⟨rm1, rm2⟩ := zrm_ok g4
  have hn1 : inR n9 := a6.hd
  have hi1 : inR i9 := a6.tl.hd
  have mo := zX_mo _ _ _ _ _ _ _ hr
  obtain ⟨ro1, ro2, ro3⟩ := hroom
  have m1 := mo.1
  have m2 := mo.2
  have htsg : ∀ w ∈ lw_good, w.before args s = true := fun w hw => hts w (List.mem_filter.mp hw).1 (List.mem_filter.mp hw).2
  have g := K _ _ S2 _ _ _ _ _ _ hr ⟨a1, a2, a3, a4, a5, a6.tl.tl, a7, a8⟩
  exact j_S (y := yChk) (own := zcn (zown q)) (As := [.int (Int32.ofInt i9), .int (Int32.ofInt n9)]) (nL := zmaxl q) (maxL := 2) (bytes := prog_31_method_155_code) (ret := none) (kc := 2205) (ki := 1016) (kl := kl9) (ks := 2204) (m_Chk (by rw [← zi_0, zi_lt hi1 (by decide)]; omega) (by rw [zi_lt hi1 hn1]; omega)) hx hb hml (by rw [a3.1, a4]) hown htsg hSt a2 ⟨rfl, rfl⟩ ⟨rfl, rfl⟩ wl ⟨rfl, rfl⟩ (by decide) (na := 2) (by decide +kernel) rfl ⟨by omega, by omega⟩ ⟨by omega, by omega⟩ (by rw [zcs_e]; exact g3) hd g
theorem zw_cod {k : Nat} (C : zCtx p l R s m args meth c q base adr adV dC dI cA L0 xs) (K : zWk p l e R s m args below meth c Q q n r base n0 u0 adr dC dI cA L0 xs) (hroom : zRoom R r n0 u0) (hd : decode (zbytes q) pc = .ok (.invokevirtual k, 3)) (A : zAt s q base n0 u0 adr dC dI cA L0 xs H locs cells slots ls L S h) (hmlk : (Cond.methodLink (zcn (zown q)) k yCod).before args s = true)
    (hr : (pR S fun r S => gd (r.isSome = true ∧ hT h (zdr r) = 40 ∧ zcs S ≤ 8 ∧ zrm q 6 200 = true) (zX n q (pc + 3) L (zI 0 :: S) h)) = some r) : W p l e R s m args below meth c H locs cells slots Q (F0 m pc ls (S.map (zenc (zrho base adr)))) := by
  obtain ⟨hx, hb, hml, hown, hts, hK, hSt, hin, ⟨hrf, hrl⟩, hl, hexc, hlk⟩ := id C
  obtain ⟨a1, a2, a3, a4, a5, a6, a7, a8⟩ := id A
  obtain ⟨x, S0, rfl, hr1⟩ := pR_some hr
  obtain ⟨⟨g1, g2, g3, g4⟩, hr2⟩ := gd_some hr1
  obtain ⟨rm1, rm2⟩ := zrm_ok g4
  obtain ⟨k9, hk9, e9, el, -⟩ := zstr_at a1 g2
  have mo := zX_mo _ _ _ _ _ _ _ hr2
  obtain ⟨ro1, ro2, ro3⟩ := hroom
  have m1 := mo.1
  have m2 := mo.2
  have htsg : ∀ w ∈ lw_good, w.before args s = true := fun w hw => hts w (List.mem_filter.mp hw).1 (List.mem_filter.mp hw).2
  have g := K _ _ (zI 0 :: S0) _ _ _ _ _ _ hr2 ⟨a1, a2, a3, a4, a5, a6.tl.cons (show inR 0 by decide), a7, a8⟩
  rw [List.map_cons, zenc_R g1, e9, show zrho base adr (zVB + (3 + k9)) = adr (3 + k9) from zrho_ge]
  exact j_V (y := yCod) (own := zcn (zown q)) (As := []) (nL := zmaxl q) (maxL := 1) (bytes := prog_31_method_152_code) (ret := some .byte) (kc := 2189) (ki := 1016) (ks := 2188) (kn := 2187) (m_Cod hk9) hx hb hml (by rw [a3.1, a4]) hown htsg hSt a2 (jS_cell hSt hk9 a2) ⟨rfl, rfl⟩ ⟨rfl, rfl⟩ hmlk ⟨rfl, rfl⟩ ⟨rfl, rfl⟩ (by decide) (na := 0) (by decide +kernel) rfl ⟨by omega, by omega⟩ ⟨by omega, by omega⟩ (by rw [zcs_e]; exact g3) hd g
theorem zw_checkcast {k : Nat} (C : zCtx p l R s m args meth c q base adr adV dC dI cA L0 xs) (K : zWk p l e R s m args below meth c Q q n r base n0 u0 adr dC dI cA L0 xs) (hd : decode (zbytes q) pc = .ok (.checkcast k, len)) (hn : zilen (.checkcast k) = 0 ∨ len = zilen (.checkcast k)) (A : zAt s q base n0 u0 adr dC dI cA L0 xs H locs cells slots ls L S h)
    (hr : zExe q pc len (.checkcast k) L S h (fun pc L S h => zX n q pc L S h) (fun v h => some (.inl v, h)) (fun E h => some (.inr E, h)) (fun k as pc2 L S h => zBack (zX n) q pc pc2 L S (zX n k 0 (zini as (zmaxl k)) [] h)) = some r) : W p l e R s m args below meth c H locs cells slots Q (F0 m pc ls (S.map (zenc (zrho base adr)))) := by
  obtain ⟨hx, hb, hml, hown, hts, hK, hSt, hin, ⟨hrf, hrl⟩, hl, hexc, hlk⟩ := id C
  obtain ⟨a1, a2, a3, a4, a5, a6, a7, a8⟩ := id A
  obtain rfl : len = 3 := hn.resolve_left (by simp [zilen])
  simp only [zExe] at hr
  split at hr
  · rename_i t9 ht9
    obtain ⟨lk, lt⟩ := lkA _ _ _ ht9
    obtain ⟨x, S0, rfl, hr1⟩ := pR_some hr
    obtain ⟨⟨g0, g1, g2, g3⟩, hr2⟩ := gd_some hr1
    subst g0
    have as21 := a1.arr g3 g2 (by decide) (by decide)
    have g := K _ _ (zR x :: S0) _ _ _ _ _ _ hr2 ⟨a1, a2, a3, a4, a5, a6, a7, a8⟩
    rw [List.map_cons, zenc_R g1] at g ⊢
    exact w_castB hx hb hown (hts _ (zin_ok lk) lk.2) (hK.2 21 (by decide) (by decide)).2 as21.1 hd g
  · cases hr
end ACZ
