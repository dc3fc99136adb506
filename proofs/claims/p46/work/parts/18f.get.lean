/-! String.getBytes of a constant text, as one step. -/
section GET
variable {p : Program} {l : Launch} {e : Env} {R : Room} {s : State} {m : MethodId} {args : Array Value} {below : List Frame} {meth : Method} {c : Code} {Q : State → Prop}
variable {q n : Nat} {r : (Option zV ⊕ Nat) × zH} {base n0 u0 : Nat} {adr adV : Nat → Nat} {dC : Nat → ClassId} {dI : Nat → Nat → Nat} {cA : Nat → ClassId} {L0 : Nat} {xs : Nat → Int32}
variable {pc len : Nat} {L : zL} {S : List zV} {h : zH} {H : Heap} {locs : List Loc} {cells slots : Nat} {ls : Array Slot}
theorem zbyt_r : ∀ k : Fin 53, ∀ j : Fin 128, 0 ≤ ((zbyts.getD k.val []).getD j.val 0).toInt ∧ ((zbyts.getD k.val []).getD j.val 0).toInt < 128 := by decide +kernel
theorem zlen_r : ∀ k : Fin 53, zlens.getD k.val 0 ≤ 128 := by decide +kernel
theorem ishl0 (x : Int32) : x <<< ((0 : Int32) &&& 31) = x := by
  apply Int32.toBitVec.inj
  rw [Int32.toBitVec_shiftLeft, show ((0 : Int32) &&& 31).toBitVec.smod 32 = 0#32 by decide]
  exact BitVec.shiftLeft_zero _
set_option maxRecDepth 100000 in
set_option maxHeartbeats 4000000 in
theorem m_Get {x d : Option Nat} {k9 : Nat} {k : Int} (hk9 : k9 < 53) (hs : x.isSome = true) (he : zdr x = zVB + (3 + k9)) (hel : hL h (zdr x) = zlens.getD k9 0) (hev : ∀ j, j < zlens.getD k9 0 → hI h (zdr x) j = ((zbyts.getD k9 []).getD j 0).toInt) (hds : d.isSome = true) (hdT : hT h (zdr d) = 21) (hdl : zdr d < hN h) (h0 : 0 ≤ k) (h1 : k + (hL h (zdr x) : Int) ≤ (hL h (zdr d) : Int)) :
    vx_Met l yGet lw_good { frames := 2, cells := 0, slots := 0, locals := 120 } (zPc adV base adr dC dI cA L0 xs [zR x, zR d, zI k, zI 0] h) (zQc base adr dC dI cA L0 xs (.inl none, hPut h (zdr x) (zdr d) k.toNat)) (zXc base adr dC dI cA L0 xs (.inl none, hPut h (zdr x) (zdr d) k.toNat)) 0 0 (zA base) := by
  have wc : zinP (Cond.code yGet prog_31_method_147_code 4 none) 6068 := ⟨rfl, rfl⟩
  refine vx_ofJ (cc := prog_31_method_147_code) (maxL := 4) (ret := none) (by decide +kernel) (fun args s m h hn => ?_) ?_
  · obtain ⟨meth, c, h1, h2, h3, h4, h5, h6, -, -⟩ := Cond.code_spec hn (atoms_spec (ws := lw_good) h _ (lw_good_in ⟨zin_ok wc, wc.2⟩))
    exact ⟨meth, c, h1, h2, h3, h4, h5, h6⟩
  intro p e s m args below meth c s₁ B hml hP
  obtain ⟨rfl, R1, hK, hS⟩ := hP
  have hx := B.exec
  have hb := B.bytes
  have hown : s.vm.findClass "java/lang/String" = some m.cls := findClass_of_methodNamed B.named
  have ht : ∀ w ∈ lw_good, w.before ([zR x, zR d, zI k, zI 0].map (zenc (zrho base adr))).toArray s = true := atoms_spec (ws := lw_good) B.pre
  have hlk := B.notSynchronized
  have hret := B.returns
  have sz := R1.1
  have rx : zrho base adr (zdr x) = adr (3 + k9) := by rw [he]; exact zrho_ge
  have rd : zrho base adr (zdr d) = base + zdr d := zrho_lt (Nat.lt_trans hdl R1.2.1)
  have d21 := R1.arr hdl hdT (by decide) (by decide)
  have rng := ((R1.2.2.1 _ hdl).2.1 (by omega) (by omega)).2.2 hdT
  obtain ⟨k1, k2⟩ := hK.2 21 (by decide) (by decide)
  have kn := jN_lt ⟨k9, hk9⟩
  simp only at kn
  have zl := zlen_r ⟨k9, hk9⟩
  simp only at zl
  have zb := fun j (hj : j < 128) => zbyt_r ⟨k9, hk9⟩ ⟨j, hj⟩
  simp only at zb
  rw [lg_entry_eq]
  have hst : ([zR x, zR d, zI k, zI 0].map (zenc (zrho base adr))) = [.ref (adr (3 + k9)), .ref (base + zdr d), .int (Int32.ofInt k), .int 0] := by
    rw [List.map_cons, List.map_cons, List.map_cons, List.map_cons, zenc_R hs, zenc_R hds, rx, rd]
    rfl
  rw [hst] at ht ⊢
  have ent := lv_entry [Value.ref (adr (3 + k9)), .ref (base + zdr d), .int (Int32.ofInt k), .int 0] (n := 4) (show 4 ≤ 4 by decide)
  generalize (lg_sl [Value.ref (adr (3 + k9)), .ref (base + zdr d), .int (Int32.ofInt k), .int 0] ++ List.replicate (4 - (lg_sl [Value.ref (adr (3 + k9)), .ref (base + zdr d), .int (Int32.ofInt k), .int 0]).length) Slot.unset).toArray = ls at *
  have l0 : ls[0]? = some (.val (.ref (adr (3 + k9)))) := ent.2.2 (0, .ref (adr (3 + k9))) (List.mem_cons_self ..)
  have l1 : ls[1]? = some (.val (.ref (base + zdr d))) := ent.2.2 (1, .ref (base + zdr d)) (List.mem_cons_of_mem _ (List.mem_cons_self ..))
  have l2 : ls[2]? = some (.val (.int (Int32.ofInt k))) := ent.2.2 (2, .int (Int32.ofInt k)) (List.mem_cons_of_mem _ (List.mem_cons_of_mem _ (List.mem_cons_self ..)))
  have l3 : ls[3]? = some (.val (.int 0)) := ent.2.2 (3, .int 0) (List.mem_cons_of_mem _ (List.mem_cons_of_mem _ (List.mem_cons_of_mem _ (List.mem_cons_self ..))))
  refine lv_aload_n hx hb (k := 0) (i := 0) (by decide +kernel) rfl l0 ?_
  refine j_V (y := yCod) (own := "java/lang/String") (As := []) (rest := []) (nL := 4) (maxL := 1) (bytes := prog_31_method_152_code) (ret := some .byte) (kc := 2189) (ki := 1016) (ks := 2188) (kn := 2187) (m_Cod hk9) hx hb hml ent.1 hown ht hS va_S.rf (jS_cell hS hk9 va_S.rf) ⟨rfl, rfl⟩ ⟨rfl, rfl⟩ (lw_w (k := 2186) ⟨rfl, rfl⟩ ht) ⟨rfl, rfl⟩ ⟨rfl, rfl⟩ (by decide) (na := 0) (by decide +kernel) rfl ⟨by decide, by decide⟩ ⟨Nat.le_refl _, Nat.le_refl _⟩ (by decide) (by decide +kernel) ?_
  refine lv_iload_n hx hb (k := 3) (i := 3) (by decide +kernel) rfl l3 ?_
  refine lv_icmp_ne hx hb (tgt := 28) (off := 23) (by decide +kernel) (by decide) (fun z => absurd rfl z) (fun _ => ?_)
  refine lv_aload_n hx hb (k := 0) (i := 0) (by decide +kernel) rfl l0 ?_
  refine vk_getf hx hb (jS_at hS hk9).2.2.1 va_S.rf hown (lw_w (k := 6216) ⟨rfl, rfl⟩ ht) (fun _ h => h) (by decide +kernel) ?_
  refine lv_iconst hx hb (n := 0) (v := 0) (by decide +kernel) (by decide) ?_
  refine lv_aload_n hx hb (k := 1) (i := 1) (by decide +kernel) rfl l1 ?_
  refine lv_iload_n hx hb (k := 2) (i := 2) (by decide +kernel) rfl l2 ?_
  refine lv_iload_n hx hb (k := 3) (i := 3) (by decide +kernel) rfl l3 ?_
  refine lv_ishl hx hb (by decide +kernel) ?_
  rw [show Int32.ofInt k <<< ((0 : Int32) &&& 31) = Int32.ofNat k.toNat by rw [ishl0, zi_nn h0]]
  refine lv_aload_n hx hb (k := 0) (i := 0) (by decide +kernel) rfl l0 ?_
  refine vk_getf hx hb (jS_at hS hk9).2.2.1 va_S.rf hown (lw_w (k := 6216) ⟨rfl, rfl⟩ ht) (fun _ h => h) (by decide +kernel) ?_
  refine va_tlen hx hb (jS_at hS hk9).2.2.2 va_S.rf rfl (by decide +kernel) ?_
  obtain ⟨cs, t1, t2, t3, t4, t5, t6, t7⟩ := (jS_at hS hk9).2.2.2
  rw [rd] at d21
  have jn : jN k9 = hL h (zdr x) := by rw [kn.2.1, hel]
  have hnf : nativeFrameWords "java/lang/System" "arraycopy" 5 + 11 ≤ 100 := by decide
  show W p l e _ s m _ below meth c _ _ _ _ _ (F0 m 22 ls [.int (Int32.ofNat (jN k9)), .int (Int32.ofNat k.toNat), .ref (base + zdr d), .int (Int32.ofNat 0), .ref (adV k9)])
  refine w_copyG (own := "java/lang/String") (cB := cA 21) (n1 := jN k9) (n2 := hL h (zdr d)) (f := fun j => .int (jB k9 j)) (g := fun j => zenc (zrho base adr) (zev h 21 (zdr d) j)) (rest := []) hx hb (hml.trans ent.1.symm) hown ht (lw_w (k := 6069) ⟨rfl, rfl⟩ ht) k1 t2 t3 t1 t6 t4 d21.1 (by omega) (by omega) (by omega) (by have := d21.2; omega) (fun j hj => ?_) (by show 1 ≤ 2; decide) (by show 0 + _ ≤ 120; omega) (by decide +kernel) (fun L9 hL9 => ?_)
  · have hj2 : j < 128 := by omega
    have e1 := kn.2.2 ⟨j, hj2⟩
    simp only at e1
    rw [e1, ← zi_of ((zbyts.getD k9 []).getD j 0)]
    exact zbf (by have := zb j hj2; omega) (zb j hj2).2
  refine lv_goto hx hb (tgt := 43) (off := 18) (by decide +kernel) (by decide) ?_
  have lt9 : base + zdr d < s.heap.size := by omega
  have RR : zRep base adr dC dI cA L0 xs (s.heap.setIfInBounds (base + zdr d) (arrV (cA 21) (hL h (zdr d)) (va_cpy (fun j => .int (jB k9 j)) (fun j => zenc (zrho base adr) (zev h 21 (zdr d) j)) 0 k.toNat (jN k9)))) (hRow h (zdr d) (fun j => if k.toNat ≤ j ∧ j < k.toNat + hL h (zdr x) then hI h (zdr x) (j - k.toNat) else hI h (zdr d) j)) := by
    refine zRep.row R1 hdl hdT (fun j => ?_) ?_ (by rw [Array.size_setIfInBounds]) (fun q9 hq9 => by rw [rd] at hq9; rw [Array.getElem?_setIfInBounds, if_neg (fun z => hq9 z.symm)])
    · split
      · rename_i hj
        rw [hev _ (by omega)]
        have hj2 : j - k.toNat < 128 := by omega
        exact ⟨by have := zb _ hj2; omega, (zb _ hj2).2⟩
      · exact rng j
    · rw [rd, Array.getElem?_setIfInBounds, if_pos rfl, if_pos lt9]
      refine congrArg some (congrArg (arrV _ _) (funext fun j => ?_))
      unfold va_cpy
      rw [jn]
      split
      · rename_i hj
        have hj2 : j - k.toNat < 128 := by omega
        have e1 := kn.2.2 ⟨j - k.toNat, hj2⟩
        simp only at e1
        show Value.int (jB k9 (0 + (j - k.toNat))) = _
        rw [Nat.zero_add, e1, hev _ (by omega), zi_of]
      · rfl
  have hlocs : ∀ q9 ∈ ([] : List Loc) ++ L9, base ≤ q9.base := fun q9 hq9 => by
    rw [hL9 q9 hq9]; omega
  have SS9 : va_S (zA base) s.heap (s.heap.setIfInBounds (base + zdr d) (arrV (cA 21) (hL h (zdr d)) (va_cpy (fun j => .int (jB k9 j)) (fun j => zenc (zrho base adr) (zev h 21 (zdr d) j)) 0 k.toNat (jN k9)))) ([] ++ L9) := ⟨by rw [Array.size_setIfInBounds]; exact Nat.le_refl _, fun q9 h1 h2 => by
    have h3 : ¬ base ≤ q9 := h2
    rw [Array.getElem?_setIfInBounds, if_neg (by omega)], hlocs⟩
  exact vx_ret (W.vret hx hb hret (fun t ht _ => ⟨none, rfl, rfl, by rw [ht]; exact RR, va_S.F SS9 ht, fun w hw => by cases hw⟩) hlocs (by decide +kernel) hlk)
set_option maxRecDepth 100000 in
theorem zw_put {k : Nat} (C : zCtx p l R s m args meth c q base adr adV dC dI cA L0 xs) (K : zWk p l e R s m args below meth c Q q n r base n0 u0 adr dC dI cA L0 xs) (hroom : zRoom R r n0 u0) (hd : decode (zbytes q) pc = .ok (.invokevirtual k, 3)) (A : zAt s q base n0 u0 adr dC dI cA L0 xs H locs cells slots ls L S h) (hmlk : (Cond.methodLink (zcn (zown q)) k yGet).before args s = true)
    (hr : (pI S fun c S => pI S fun k S => pR S fun d S => pR S fun r S => gd (c = 0 ∧ r.isSome = true ∧ hT h (zdr r) = 40 ∧ zob h d 21 ∧ 0 ≤ k ∧ k + (hL h (zdr r) : Int) ≤ (hL h (zdr d) : Int) ∧ zcs S ≤ 8 ∧ zrm q 6 200 = true) (zX n q (pc + 3) L S (hPut h (zdr r) (zdr d) k.toNat))) = some r) : W p l e R s m args below meth c H locs cells slots Q (F0 m pc ls (S.map (zenc (zrho base adr)))) := by
  obtain ⟨hx, hb, hml, hown, hts, hK, hSt, hin, ⟨hrf, hrl⟩, hl, hexc, hlk⟩ := id C
  obtain ⟨a1, a2, a3, a4, a5, a6, a7, a8⟩ := id A
  obtain ⟨c9, S1, rfl, hr1⟩ := pI_some hr
  obtain ⟨k9, S2, rfl, hr2⟩ := pI_some hr1
  obtain ⟨d9, S3, rfl, hr3⟩ := pR_some hr2
  obtain ⟨r9, S4, rfl, hr4⟩ := pR_some hr3
  obtain ⟨⟨rfl, g1, g2, ⟨d1, d2, d3⟩, g4, g5, g6, g7⟩, hr5⟩ := gd_some hr4
  obtain ⟨rm1, rm2⟩ := zrm_ok g7
  obtain ⟨w9, hw9, e9, el, ev⟩ := zstr_at a1 g2
  have htsg : ∀ w ∈ lw_good, w.before args s = true := fun w hw => hts w (List.mem_filter.mp hw).1 (List.mem_filter.mp hw).2
  have mo := zX_mo _ _ _ _ _ _ _ hr5
  obtain ⟨ro1, ro2, ro3⟩ := hroom
  have m1 : hN h ≤ hN r.2 := mo.1
  have m2 : hU h ≤ hU r.2 := mo.2
  have wc : zinP (Cond.code yGet prog_31_method_147_code 4 none) 6068 := ⟨rfl, rfl⟩
  refine zw_ok (h2 := hPut h (zdr r9) (zdr d9) k9.toNat) (mc := 0) (ms := 0) (v2 := none) (S1 := S4) (a9 := ([zR r9, zR d9, zI k9, zI 0].map (zenc (zrho base adr))).toArray) K ⟨a1, a2, a3, a4, a5, a6.tl.tl.tl.tl, a7, a8⟩ rfl rfl ?_ hr5
  obtain ⟨cellB, q1, q2, q3⟩ := jS_cell hSt hw9 a2
  have hR9 : zenc (zrho base adr) (zR r9) = .ref (adr (3 + w9)) := by rw [zenc_R g1, e9]; exact congrArg Value.ref zrho_ge
  have hstk : (zI 0 :: zI k9 :: zR d9 :: zR r9 :: S4).map (zenc (zrho base adr)) = ([zR d9, zI k9, zI 0].map (zenc (zrho base adr))).reverse ++ .ref (adr (3 + w9)) :: S4.map (zenc (zrho base adr)) := by
    rw [← hR9]
    rfl
  have hAse : [zR r9, zR d9, zI k9, zI 0].map (zenc (zrho base adr)) = .ref (adr (3 + w9)) :: [zR d9, zI k9, zI 0].map (zenc (zrho base adr)) := by rw [← hR9]; rfl
  rw [hAse]
  refine vx_runV (C := "java/lang/String") (b := adr (3 + w9)) (n := 3) (As := [zR d9, zI k9, zI 0].map (zenc (zrho base adr))) ⟨hx, hb, hml, hown, htsg⟩ (m_Get hw9 g1 e9 el ev d1 d2 d3 g4 g5) ⟨⟨rfl, rfl, by show 2 + 1 ≤ R.frames; omega, by show 8 + (4 + 11) + 120 ≤ R.locals; omega, fun w h => lw_gd w h htsg, lw_good_in ⟨zin_ok wc, wc.2⟩, lw_w wc htsg, lw_w (k := 1016) ⟨rfl, rfl⟩ htsg, by decide, fun sig h => ?_, hmlk⟩, lw_w (k := 6066) ⟨rfl, rfl⟩ htsg, lw_w (k := 6067) ⟨rfl, rfl⟩ htsg⟩ ⟨zPc_blind, ⟨cellB, q1, q2, q3⟩, fun U hU hW => ⟨by rw [hAse], by rw [hU]; exact a1, zK.moved hW.alike hK, by rw [hU]; exact zSt.warm hW (zSt.kept a2.1 a2.2.1 hSt)⟩⟩ rfl rfl (by show ls.size = zmaxl q; rw [a3.1, a4]) hstk (by rw [zcs_e]; exact lv_room0 g6) hd ⟨by omega, by omega⟩
  have hlen : (parseMethodDescriptor yGet.desc).map (fun d => d.parameters.length) = some 3 := by decide +kernel
  rw [h] at hlen
  exact (Option.some.inj hlen).symm
end GET
