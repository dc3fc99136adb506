/-! One step: arrays, and what is made. -/
section REP2
variable {base : Nat} {adr : Nat → Nat} {dC : Nat → ClassId} {dI : Nat → Nat → Nat} {cA : Nat → ClassId} {L0 : Nat} {xs : Nat → Int32} {H H2 : Heap} {h : zH}
theorem zRep.arr {a t : Nat} (R : zRep base adr dC dI cA L0 xs H h) (ha : a < hN h) (ht : hT h a = t) (h20 : 20 ≤ t) (h28 : t < 28) : H[zrho base adr a]? = some (arrV (cA t) (hL h a) (fun j => zenc (zrho base adr) (zev h t a j))) ∧ hL h a < 536870912 := by
  subst ht
  have g := (R.2.2.1 a ha).2.1 h20 h28
  exact ⟨g.1, g.2.1⟩
theorem hNew_fv {t n b : Nat} (hb : b ≠ hN h) (c j : Nat) : zfv (hNew h t n) c b j = zfv h c b j := by
  unfold zfv hNew hI hJ hF hD hR zu1
  simp only [if_neg hb]
theorem hNew_ev {t n b : Nat} (hb : b ≠ hN h) (t2 j : Nat) : zev (hNew h t n) t2 b j = zev h t2 b j := by
  unfold zev hNew hI hJ hD hR zu1
  simp only [if_neg hb]
theorem hNew_T {t n b : Nat} (hb : b ≠ hN h) : hT (hNew h t n) b = hT h b ∧ hL (hNew h t n) b = hL h b := ⟨if_neg hb, if_neg hb⟩
theorem hNew_T0 {t n : Nat} : hT (hNew h t n) (hN h) = t ∧ hL (hNew h t n) (hN h) = n := ⟨if_pos rfl, if_pos rfl⟩
theorem hNew_I {t n b : Nat} (hb : b ≠ hN h) : hI (hNew h t n) b = hI h b ∧ hJ (hNew h t n) b = hJ h b := ⟨if_neg hb, if_neg hb⟩
theorem zRep.alloc {t n : Nat} (R : zRep base adr dC dI cA L0 xs H h) (e2 : H2.size = H.size + 1) (e3 : ∀ q, q < H.size → H2[q]? = H[q]?) (hb : hN h + 1 < zVB) (hc : zcell dC dI cA (zrho base adr) (hNew h t n) H2 (hN h)) : zRep base adr dC dI cA L0 xs H2 (hNew h t n) := by
  obtain ⟨r1, r2, r3, r4, r5, r6⟩ := R
  have hne : ∀ a, hN h < a → a ≠ hN h := fun a h1 h2 => by omega
  refine ⟨by rw [e2, r1]; exact Nat.add_assoc _ _ _, hb, fun b hb2 => ?_, fun a k => ?_, fun a h1 h2 => ?_, ?_⟩
  · by_cases e : b = hN h
    · rw [e]; exact hc
    · have hlt : b < hN h := Nat.lt_of_le_of_ne (Nat.le_of_lt_succ hb2) e
      obtain ⟨c1, c2, c3⟩ := r3 b hlt
      unfold zcell
      rw [(hNew_T e).1, (hNew_T e).2]
      have hq : zrho base adr b < H.size := by rw [zrho_lt (by omega), r1]; omega
      refine ⟨fun x y => t_OB.to ((c1 x y).kept (e3 _ hq)) (fun j _ => by rw [hNew_fv e]), fun x y => ⟨?_, (c2 x y).2.1, fun e2 j => by rw [(hNew_I e).1]; exact (c2 x y).2.2 e2 j⟩, c3⟩
      rw [e3 _ hq, (c2 x y).1]
      exact congrArg some (congrArg (arrV _ _) (funext fun j => by rw [hNew_ev e]))
  · by_cases e : a = hN h
    · subst e
      rw [show hI (hNew h t n) (hN h) k = 0 from congrFun (if_pos rfl) k]
      decide
    · rw [(hNew_I e).1]; exact r4 a k
  · have e : a ≠ hN h := by have h3 : hN h + 1 ≤ a := h1; omega
    rw [(hNew_T e).1]
    exact r5 a (by have h3 : hN h + 1 ≤ a := h1; omega) h2
  · obtain ⟨⟨a1, a2, a3⟩, ⟨b1, b2, b3⟩, ⟨c1, c2, c3⟩, d, dg, f⟩ := r6
    have g : ∀ b, zVB ≤ b → b ≠ hN h := fun b h1 => by omega
    have gT : ∀ b, zVB ≤ b → hT (hNew h t n) b = hT h b := fun b h1 => (hNew_T (g b h1)).1
    have gL : ∀ b, zVB ≤ b → hL (hNew h t n) b = hL h b := fun b h1 => (hNew_T (g b h1)).2
    have gI : ∀ b, zVB ≤ b → hI (hNew h t n) b = hI h b := fun b h1 => (hNew_I (g b h1)).1
    have gJ : ∀ b, zVB ≤ b → hJ (hNew h t n) b = hJ h b := fun b h1 => (hNew_I (g b h1)).2
    have g0 : zVB ≤ zVB := Nat.le_refl _
    have g1 : ∀ k, zVB ≤ zVB + k := fun k => Nat.le_add_right _ _
    refine ⟨⟨by rw [gT _ g0]; exact a1, by rw [gL _ g0]; exact a2, by rw [gI _ g0]; exact a3⟩, ⟨by rw [gT _ (g1 _)]; exact b1, by rw [gL _ (g1 _)]; exact b2, by rw [gJ _ (g1 _)]; exact b3⟩, ⟨by rw [gT _ (g1 _)]; exact c1, by rw [gL _ (g1 _)]; exact c2, by rw [gJ _ (g1 _)]; exact c3⟩, fun k hk => ?_, fun t ht => ?_, fun a ha => ?_⟩
    · have g2 : zVB ≤ zVB + 3 + k := by omega
      rw [gT _ g2, gL _ g2, gI _ g2]
      exact d k hk
    · have g2 : zVB ≤ zVB + 56 + t := by omega
      rw [gT _ g2, gL _ g2, gI _ g2]
      exact dg t ht
    · rw [gT _ (by omega)]
      exact f a ha
end REP2
/-- the last heap of the run: it bounds what the method may make -/
def zRoom (R : Room) (r : (Option zV ⊕ Nat) × zH) (n0 u0 : Nat) : Prop := hN r.2 ≤ n0 + R.cells ∧ hU r.2 ≤ u0 + R.slots ∧ hN r.2 < zVB
theorem zA_in {base : Nat} {adr : Nat → Nat} {dC : Nat → ClassId} {dI : Nat → Nat → Nat} {cA : Nat → ClassId} {L0 : Nat} {xs : Nat → Int32} {H : Heap} {h : zH} {a : Nat} (R : zRep base adr dC dI cA L0 xs H h) (ha : a < hN h) : zA base (zrho base adr a) := by
  show base ≤ _
  rw [zrho_lt (Nat.lt_trans ha R.2.1)]
  exact Nat.le_add_right _ _
theorem zi_byte {v : Int} (h1 : -128 ≤ v) (h2 : v < 128) : narrow .byte (.int (Int32.ofInt v)) = .int (Int32.ofInt v) := by
  show Value.int _ = Value.int _
  refine congrArg Value.int (Int32.toInt_inj.mp ?_)
  have hv : inR v := ⟨by omega, by omega⟩
  rw [Int8.toInt_toInt32, Int32.toInt_toInt8, zi_to hv]
  show Int.bmod v 256 = v
  rw [Int.bmod_def]
  split <;> omega
theorem zi_bool {v : Int} (h : v = 0 ∨ v = 1) : narrow .boolean (.int (Int32.ofInt v)) = .int (Int32.ofInt v) := by
  rcases h with rfl | rfl <;> rfl
theorem zNewI {h : zH} {t n j : Nat} : hI (hNew h t n) (hN h) j = 0 := congrFun (if_pos rfl) j
theorem zNewJ {h : zH} {t n j : Nat} : hJ (hNew h t n) (hN h) j = 0#64 := congrFun (if_pos rfl) j
theorem zNewF {h : zH} {t n j : Nat} : hF (hNew h t n) (hN h) j = 0 := congrFun (if_pos rfl) j
theorem zNewD {h : zH} {t n j : Nat} : hD (hNew h t n) (hN h) j = 0 := congrFun (if_pos rfl) j
theorem zNewR {h : zH} {t n j : Nat} : hR (hNew h t n) (hN h) j = none := congrFun (if_pos rfl) j
section ZW
variable {p : Program} {l : Launch} {e : Env} {R : Room} {s : State} {m : MethodId} {args : Array Value} {below : List Frame} {meth : Method} {c : Code} {Q : State → Prop}
variable {q n : Nat} {r : (Option zV ⊕ Nat) × zH} {base n0 u0 : Nat} {adr adV : Nat → Nat} {dC : Nat → ClassId} {dI : Nat → Nat → Nat} {cA : Nat → ClassId} {L0 : Nat} {xs : Nat → Int32}
variable {pc len : Nat} {L : zL} {S : List zV} {h : zH} {H : Heap} {locs : List Loc} {cells slots : Nat} {ls : Array Slot}
theorem zw_iaload (C : zCtx p l R s m args meth c q base adr adV dC dI cA L0 xs) (K : zWk p l e R s m args below meth c Q q n r base n0 u0 adr dC dI cA L0 xs) (hd : decode (zbytes q) pc = .ok (.iaload, len)) (hn : zilen (.iaload) = 0 ∨ len = zilen (.iaload)) (A : zAt s q base n0 u0 adr dC dI cA L0 xs H locs cells slots ls L S h)
    (hr : zExe q pc len (.iaload) L S h (fun pc L S h => zX n q pc L S h) (fun v h => some (.inl v, h)) (fun E h => some (.inr E, h)) (fun k as pc2 L S h => zBack (zX n) q pc pc2 L S (zX n k 0 (zini as (zmaxl k)) [] h)) = some r) : W p l e R s m args below meth c H locs cells slots Q (F0 m pc ls (S.map (zenc (zrho base adr)))) := by
  obtain ⟨hx, hb, hml, hown, hts, hK, hSt, hin, ⟨hrf, hrl⟩, hl, hexc, hlk⟩ := id C
  obtain ⟨a1, a2, a3, a4, a5, a6, a7, a8⟩ := id A
  obtain rfl : len = 1 := hn.resolve_left (by simp [zilen])
  simp only [zExe] at hr
  obtain ⟨i, S0, rfl, hr1⟩ := pI_some hr
  obtain ⟨r0, S1, rfl, hr2⟩ := pR_some hr1
  obtain ⟨⟨g1, g2, g4, g5⟩, hr3⟩ := gd_some hr2
  by_cases hlt : zdr r0 < hN h
  · skip
    have e8 := a1.arr hlt g2 (by decide) (by decide)
    have hi1 : inR i := a6.hd
    rw [List.map_cons, List.map_cons, zenc_R g1]
    exact W.iald (v := zenc (zrho base adr) (zI (hI h (zdr r0) i.toNat))) hx hb e8.1 ((hK.2 22 (by decide) (by decide)).1 _ _) (fun q9 => by cases q9) (by rw [arrV_size]; exact zi_in hi1 g4 g5) (by rw [zi_cl hi1 g4, arrV_read _ _ (by omega)]; rfl) rfl rfl hd (K _ _ (zI _ :: S1) _ _ _ _ _ _ hr3 ⟨a1, a2, a3, a4, a5, a6.tl.tl.cons (a1.2.2.2.1 _ _), a7, a8⟩)
  · have hge : zVB ≤ zdr r0 := by
      rcases Nat.lt_or_ge (zdr r0) zVB with w | w
      · have w2 := a1.2.2.2.2.1 _ (Nat.not_lt.mp hlt) w
        rw [w2] at g2; cases g2
      · exact w
    obtain ⟨v0, v1, v2, v3, vd, v4⟩ := a1.2.2.2.2.2
    have he : zdr r0 = zVB := by
      rcases Nat.lt_or_ge (zdr r0) (zVB + 56) with w | w
      · by_cases e1 : zdr r0 = zVB
        · exact e1
        · by_cases e2 : zdr r0 = zVB + 1
          · rw [e2, v1.1] at g2; cases g2
          · by_cases e3 : zdr r0 = zVB + 2
            · rw [e3, v2.1] at g2; cases g2
            · have e4 := (v3 (zdr r0 - zVB - 3) (by omega)).1
              rw [show zVB + 3 + (zdr r0 - zVB - 3) = zdr r0 by omega, g2] at e4
              cases e4
      · rcases Nat.lt_or_ge (zdr r0) (zVB + 58) with w9 | w9
        · have e5 := (vd (zdr r0 - zVB - 56) (by omega)).1
          rw [show zVB + 56 + (zdr r0 - zVB - 56) = zdr r0 by omega, g2] at e5
          cases e5
        · rw [v4 _ w9] at g2; cases g2
    have hi1 : inR i := a6.hd
    rw [he] at g5 hr3
    rw [v0.2.1] at g5
    rw [v0.2.2 _ (by omega)] at hr3
    rw [List.map_cons, List.map_cons, zenc_R g1, he, show zrho base adr zVB = adr 0 from zrho_ge (k := 0)]
    refine va_sld hx hb hSt.1.1 (Nat.lt_of_lt_of_le hSt.1.2.1 hSt.1.2.2.1) (Nat.not_le.mpr hSt.1.2.1) a2 (zi_in hi1 g4 g5) hd ?_
    have g := K _ _ (zI _ :: S1) _ _ _ _ _ _ hr3 ⟨a1, a2, a3, a4, a5, a6.tl.tl.cons (zi_r _), a7, a8⟩
    rw [zi_cl hi1 g4]
    rw [List.map_cons, show zenc (zrho base adr) (zI (xs i.toNat).toInt) = .int (xs i.toNat) from congrArg Value.int (zi_of _)] at g
    exact g
theorem zw_laload (C : zCtx p l R s m args meth c q base adr adV dC dI cA L0 xs) (K : zWk p l e R s m args below meth c Q q n r base n0 u0 adr dC dI cA L0 xs) (hd : decode (zbytes q) pc = .ok (.laload, len)) (hn : zilen (.laload) = 0 ∨ len = zilen (.laload)) (A : zAt s q base n0 u0 adr dC dI cA L0 xs H locs cells slots ls L S h)
    (hr : zExe q pc len (.laload) L S h (fun pc L S h => zX n q pc L S h) (fun v h => some (.inl v, h)) (fun E h => some (.inr E, h)) (fun k as pc2 L S h => zBack (zX n) q pc pc2 L S (zX n k 0 (zini as (zmaxl k)) [] h)) = some r) : W p l e R s m args below meth c H locs cells slots Q (F0 m pc ls (S.map (zenc (zrho base adr)))) := by
  obtain ⟨hx, hb, hml, hown, hts, hK, hSt, hin, ⟨hrf, hrl⟩, hl, hexc, hlk⟩ := id C
  obtain ⟨a1, a2, a3, a4, a5, a6, a7, a8⟩ := id A
  obtain rfl : len = 1 := hn.resolve_left (by simp [zilen])
  simp only [zExe] at hr
  obtain ⟨i, S0, rfl, hr1⟩ := pI_some hr
  obtain ⟨r0, S1, rfl, hr2⟩ := pR_some hr1
  obtain ⟨⟨g1, g2, g4, g5⟩, hr3⟩ := gd_some hr2
  by_cases hlt : zdr r0 < hN h
  · skip
    have e8 := a1.arr hlt g2 (by decide) (by decide)
    have hi1 : inR i := a6.hd
    rw [List.map_cons, List.map_cons, zenc_R g1]
    exact W.lald (v := zenc (zrho base adr) (zJ (hJ h (zdr r0) i.toNat))) hx hb e8.1 ((hK.2 23 (by decide) (by decide)).1 _ _) (fun q9 => by cases q9) (by rw [arrV_size]; exact zi_in hi1 g4 g5) (by rw [zi_cl hi1 g4, arrV_read _ _ (by omega)]; rfl) rfl rfl hd (K _ _ (zJ _ :: S1) _ _ _ _ _ _ hr3 ⟨a1, a2, a3, a4, a5, a6.tl.tl.cons trivial, a7, a8⟩)
  · have hge : zVB ≤ zdr r0 := by
      rcases Nat.lt_or_ge (zdr r0) zVB with w | w
      · have w2 := a1.2.2.2.2.1 _ (Nat.not_lt.mp hlt) w
        rw [w2] at g2; cases g2
      · exact w
    obtain ⟨v0, v1, v2, v3, vd, v4⟩ := a1.2.2.2.2.2
    have hi1 : inR i := a6.hd
    rw [List.map_cons, List.map_cons, zenc_R g1]
    have fin9 : ∀ (k9 : Nat) (f9 : Nat → BitVec 64), zdr r0 = zVB + k9 → (∀ j, j < 3 → hJ h (zVB + k9) j = f9 j) → hL h (zVB + k9) = 3 → va_T .long (adr k9) 3 (fun j => .long (Int64.ofBitVec (f9 j))) (zA base) s s.heap → W p l e R s m args below meth c H locs cells slots Q (F0 m pc ls (zenc (zrho base adr) (zI i) :: .ref (zrho base adr (zdr r0)) :: S1.map (zenc (zrho base adr)))) := by
      intro k9 f9 he hf hl9 hT9
      rw [he] at g5 hr3 ⊢
      rw [hl9] at g5
      rw [hf _ (by omega)] at hr3
      rw [show zrho base adr (zVB + k9) = adr k9 from zrho_ge]
      obtain ⟨cell, t1, t2, t3, t4, t5, t6, t7⟩ := hT9.kept a2.2.1
      exact W.lald (v := zenc (zrho base adr) (zJ (f9 i.toNat))) hx hb t1 t2 t3 (by have := zi_in (n := cell.slots.size) hi1 g4 (by omega); exact this) (by rw [zi_cl hi1 g4]; exact t6 _ (by omega)) rfl rfl hd (K _ _ (zJ _ :: S1) _ _ _ _ _ _ hr3 ⟨a1, a2, a3, a4, a5, a6.tl.tl.cons trivial, a7, a8⟩)
    rcases Nat.lt_or_ge (zdr r0) (zVB + 56) with w | w
    · by_cases e1 : zdr r0 = zVB
      · rw [e1, v0.1] at g2; cases g2
      · by_cases e2 : zdr r0 = zVB + 1
        · exact fin9 1 _ e2 v1.2.2 v1.2.1 hSt.2.1.2
        · by_cases e3 : zdr r0 = zVB + 2
          · exact fin9 2 _ e3 v2.2.2 v2.2.1 hSt.2.2.1.2
          · have e4 := (v3 (zdr r0 - zVB - 3) (by omega)).1
            rw [show zVB + 3 + (zdr r0 - zVB - 3) = zdr r0 by omega, g2] at e4
            cases e4
    · rcases Nat.lt_or_ge (zdr r0) (zVB + 58) with w9 | w9
      · have e5 := (vd (zdr r0 - zVB - 56) (by omega)).1
        rw [show zVB + 56 + (zdr r0 - zVB - 56) = zdr r0 by omega, g2] at e5
        cases e5
      · rw [v4 _ w9] at g2; cases g2
theorem zw_baload (C : zCtx p l R s m args meth c q base adr adV dC dI cA L0 xs) (K : zWk p l e R s m args below meth c Q q n r base n0 u0 adr dC dI cA L0 xs) (hd : decode (zbytes q) pc = .ok (.baload, len)) (hn : zilen (.baload) = 0 ∨ len = zilen (.baload)) (A : zAt s q base n0 u0 adr dC dI cA L0 xs H locs cells slots ls L S h)
    (hr : zExe q pc len (.baload) L S h (fun pc L S h => zX n q pc L S h) (fun v h => some (.inl v, h)) (fun E h => some (.inr E, h)) (fun k as pc2 L S h => zBack (zX n) q pc pc2 L S (zX n k 0 (zini as (zmaxl k)) [] h)) = some r) : W p l e R s m args below meth c H locs cells slots Q (F0 m pc ls (S.map (zenc (zrho base adr)))) := by
  obtain ⟨hx, hb, hml, hown, hts, hK, hSt, hin, ⟨hrf, hrl⟩, hl, hexc, hlk⟩ := id C
  obtain ⟨a1, a2, a3, a4, a5, a6, a7, a8⟩ := id A
  obtain rfl : len = 1 := hn.resolve_left (by simp [zilen])
  simp only [zExe] at hr
  cases hb9 : Nat.beq (zown q) 21 with
  | false =>
    simp only [hb9, Bool.not_false, cond_true] at hr
    obtain ⟨i, S0, rfl, hr1⟩ := pI_some hr
    obtain ⟨r0, S1, rfl, hr2⟩ := pR_some hr1
    obtain ⟨g, hr3⟩ := gd_some hr2
    rcases g with ⟨g1, g2, g3, g4, g5⟩ | ⟨g1, g2, g3, g4, g5⟩
    · skip
      have e8 := a1.arr g3 g2 (by decide) (by decide)
      have hi1 : inR i := a6.hd
      rw [List.map_cons, List.map_cons, zenc_R g1]
      exact W.bald (v := zenc (zrho base adr) (zI (hI h (zdr r0) i.toNat))) hx hb e8.1 ((hK.2 21 (by decide) (by decide)).1 _ _) (fun q9 => by cases q9) (by rw [arrV_size]; exact zi_in hi1 g4 g5) (by rw [zi_cl hi1 g4, arrV_read _ _ (by omega)]; rfl) rfl rfl hd (K _ _ (zI _ :: S1) _ _ _ _ _ _ hr3 ⟨a1, a2, a3, a4, a5, a6.tl.tl.cons (a1.2.2.2.1 _ _), a7, a8⟩)
    · skip
      have e8 := a1.arr g3 g2 (by decide) (by decide)
      have hi1 : inR i := a6.hd
      rw [List.map_cons, List.map_cons, zenc_R g1]
      exact W.zald (v := zenc (zrho base adr) (zI (hI h (zdr r0) i.toNat))) hx hb e8.1 ((hK.2 20 (by decide) (by decide)).1 _ _) (fun q9 => by cases q9) (by rw [arrV_size]; exact zi_in hi1 g4 g5) (by rw [zi_cl hi1 g4, arrV_read _ _ (by omega)]; rfl) rfl rfl hd (K _ _ (zI _ :: S1) _ _ _ _ _ _ hr3 ⟨a1, a2, a3, a4, a5, a6.tl.tl.cons (a1.2.2.2.1 _ _), a7, a8⟩)
  | true =>
    simp only [hb9, Bool.not_true, cond_false] at hr
    obtain ⟨i, S0, rfl, hr1⟩ := pI_some hr
    obtain ⟨r0, S1, rfl, hr2⟩ := pR_some hr1
    obtain ⟨⟨⟨g1, g2, g4, g5⟩, hge⟩, hr3⟩ := gd_some hr2
    obtain ⟨v0, v1, v2, v3, vd, v4⟩ := a1.2.2.2.2.2
    have hi1 : inR i := a6.hd
    have he : ∃ t, t < 2 ∧ zdr r0 = zVB + (56 + t) := by
      rcases Nat.lt_or_ge (zdr r0) (zVB + 56) with w | w
      · exfalso
        by_cases e1 : zdr r0 = zVB
        · rw [e1, v0.1] at g2; cases g2
        · by_cases e2 : zdr r0 = zVB + 1
          · rw [e2, v1.1] at g2; cases g2
          · by_cases e3 : zdr r0 = zVB + 2
            · rw [e3, v2.1] at g2; cases g2
            · have e4 := (v3 (zdr r0 - zVB - 3) (by omega)).1
              rw [show zVB + 3 + (zdr r0 - zVB - 3) = zdr r0 by omega, g2] at e4
              cases e4
      · rcases Nat.lt_or_ge (zdr r0) (zVB + 58) with w9 | w9
        · exact ⟨zdr r0 - zVB - 56, by omega, by omega⟩
        · rw [v4 _ w9] at g2; cases g2
    obtain ⟨t, ht, he⟩ := he
    have vt := vd t ht
    rw [Nat.add_assoc] at vt
    rw [he] at g5 hr3
    rw [vt.2.1] at g5
    rw [vt.2.2 _ (by omega)] at hr3
    rw [List.map_cons, List.map_cons, zenc_R g1, he, show zrho base adr (zVB + (56 + t)) = adr (56 + t) from zrho_ge]
    refine va_tb hx hb (hSt.2.2.2.2.2.1 t ht).2 a2 (v := .int (Int32.ofInt (zdg t i.toNat))) (by unfold vp_in; exact zi_in hi1 g4 g5) (by rw [zi_cl hi1 g4]) hd ?_
    have hz : inR (zdg t i.toNat) := by
      have hi2 : i.toNat < 100 := by omega
      unfold zdg inR
      split <;> omega
    exact K _ _ (zI _ :: S1) _ _ _ _ _ _ hr3 ⟨a1, a2, a3, a4, a5, a6.tl.tl.cons hz, a7, a8⟩
theorem zw_aaload (C : zCtx p l R s m args meth c q base adr adV dC dI cA L0 xs) (K : zWk p l e R s m args below meth c Q q n r base n0 u0 adr dC dI cA L0 xs) (hd : decode (zbytes q) pc = .ok (.aaload, len)) (hn : zilen (.aaload) = 0 ∨ len = zilen (.aaload)) (A : zAt s q base n0 u0 adr dC dI cA L0 xs H locs cells slots ls L S h)
    (hr : zExe q pc len (.aaload) L S h (fun pc L S h => zX n q pc L S h) (fun v h => some (.inl v, h)) (fun E h => some (.inr E, h)) (fun k as pc2 L S h => zBack (zX n) q pc pc2 L S (zX n k 0 (zini as (zmaxl k)) [] h)) = some r) : W p l e R s m args below meth c H locs cells slots Q (F0 m pc ls (S.map (zenc (zrho base adr)))) := by
  obtain ⟨hx, hb, hml, hown, hts, hK, hSt, hin, ⟨hrf, hrl⟩, hl, hexc, hlk⟩ := id C
  obtain ⟨a1, a2, a3, a4, a5, a6, a7, a8⟩ := id A
  obtain rfl : len = 1 := hn.resolve_left (by simp [zilen])
  simp only [zExe] at hr
  obtain ⟨i, S0, rfl, hr1⟩ := pI_some hr
  obtain ⟨r0, S1, rfl, hr2⟩ := pR_some hr1
  obtain ⟨g, hr3⟩ := gd_some hr2
  rcases g with ⟨g1, g2, g3, g4, g5⟩ | ⟨g1, g2, g3, g4, g5⟩ | ⟨g1, g2, g3, g4, g5⟩
  · skip
    have e8 := a1.arr g3 g2 (by decide) (by decide)
    have hi1 : inR i := a6.hd
    rw [List.map_cons, List.map_cons, zenc_R g1]
    exact W.aald (v := zenc (zrho base adr) (zR (hR h (zdr r0) i.toNat))) (ty := zaty 25) hx hb e8.1 ((hK.2 25 (by decide) (by decide)).1 _ _) rfl (fun q9 => by cases q9) (by rw [arrV_size]; exact zi_in hi1 g4 g5) (by rw [zi_cl hi1 g4, arrV_read _ _ (by omega)]; rfl) rfl rfl hd (K _ _ (zR _ :: S1) _ _ _ _ _ _ hr3 ⟨a1, a2, a3, a4, a5, a6.tl.tl.cons trivial, a7, a8⟩)
  · skip
    have e8 := a1.arr g3 g2 (by decide) (by decide)
    have hi1 : inR i := a6.hd
    rw [List.map_cons, List.map_cons, zenc_R g1]
    exact W.aald (v := zenc (zrho base adr) (zR (hR h (zdr r0) i.toNat))) (ty := zaty 26) hx hb e8.1 ((hK.2 26 (by decide) (by decide)).1 _ _) rfl (fun q9 => by cases q9) (by rw [arrV_size]; exact zi_in hi1 g4 g5) (by rw [zi_cl hi1 g4, arrV_read _ _ (by omega)]; rfl) rfl rfl hd (K _ _ (zR _ :: S1) _ _ _ _ _ _ hr3 ⟨a1, a2, a3, a4, a5, a6.tl.tl.cons trivial, a7, a8⟩)
  · skip
    have e8 := a1.arr g3 g2 (by decide) (by decide)
    have hi1 : inR i := a6.hd
    rw [List.map_cons, List.map_cons, zenc_R g1]
    exact W.aald (v := zenc (zrho base adr) (zR (hR h (zdr r0) i.toNat))) (ty := zaty 27) hx hb e8.1 ((hK.2 27 (by decide) (by decide)).1 _ _) rfl (fun q9 => by cases q9) (by rw [arrV_size]; exact zi_in hi1 g4 g5) (by rw [zi_cl hi1 g4, arrV_read _ _ (by omega)]; rfl) rfl rfl hd (K _ _ (zR _ :: S1) _ _ _ _ _ _ hr3 ⟨a1, a2, a3, a4, a5, a6.tl.tl.cons trivial, a7, a8⟩)
theorem zw_iastore (C : zCtx p l R s m args meth c q base adr adV dC dI cA L0 xs) (K : zWk p l e R s m args below meth c Q q n r base n0 u0 adr dC dI cA L0 xs) (hd : decode (zbytes q) pc = .ok (.iastore, len)) (hn : zilen (.iastore) = 0 ∨ len = zilen (.iastore)) (A : zAt s q base n0 u0 adr dC dI cA L0 xs H locs cells slots ls L S h)
    (hr : zExe q pc len (.iastore) L S h (fun pc L S h => zX n q pc L S h) (fun v h => some (.inl v, h)) (fun E h => some (.inr E, h)) (fun k as pc2 L S h => zBack (zX n) q pc pc2 L S (zX n k 0 (zini as (zmaxl k)) [] h)) = some r) : W p l e R s m args below meth c H locs cells slots Q (F0 m pc ls (S.map (zenc (zrho base adr)))) := by
  obtain ⟨hx, hb, hml, hown, hts, hK, hSt, hin, ⟨hrf, hrl⟩, hl, hexc, hlk⟩ := id C
  obtain ⟨a1, a2, a3, a4, a5, a6, a7, a8⟩ := id A
  obtain rfl : len = 1 := hn.resolve_left (by simp [zilen])
  simp only [zExe] at hr
  obtain ⟨v, S0, rfl, hr1⟩ := pI_some hr
  obtain ⟨i, S1, rfl, hr2⟩ := pI_some hr1
  obtain ⟨r0, S2, rfl, hr3⟩ := pR_some hr2
  obtain ⟨⟨g1, g2, g3, g4, g5⟩, hr4⟩ := gd_some hr3
  have hi1 : inR i := a6.tl.hd
  have e8 := a1.arr g3 g2 (by decide) (by decide)
  rw [List.map_cons, List.map_cons, List.map_cons, zenc_R g1]
  refine W.iast hx hb e8.1 ((hK.2 22 (by decide) (by decide)).1 _ _) (fun q9 => by cases q9) (by rw [arrV_size]; exact zi_in hi1 g4 g5) rfl rfl hd (fun H9 e1 e2 e3 => ?_)
  rw [zi_cl hi1 g4] at e1
  exact K _ _ S2 _ _ _ _ _ _ hr4 ⟨zRep.elem (v := zI v) a1 g3 g2 (by decide) (by decide) (Or.inl ⟨v, rfl, rfl⟩) a6.hd (by simp only [zev, hI_sI, zup_s]) (fun e => by cases e) e1 e2 e3, va_S.put a2 e2 e3 (zA_in a1 g3), a3, a4, a5, a6.tl.tl.tl, a7, a8⟩
  
theorem zw_lastore (C : zCtx p l R s m args meth c q base adr adV dC dI cA L0 xs) (K : zWk p l e R s m args below meth c Q q n r base n0 u0 adr dC dI cA L0 xs) (hd : decode (zbytes q) pc = .ok (.lastore, len)) (hn : zilen (.lastore) = 0 ∨ len = zilen (.lastore)) (A : zAt s q base n0 u0 adr dC dI cA L0 xs H locs cells slots ls L S h)
    (hr : zExe q pc len (.lastore) L S h (fun pc L S h => zX n q pc L S h) (fun v h => some (.inl v, h)) (fun E h => some (.inr E, h)) (fun k as pc2 L S h => zBack (zX n) q pc pc2 L S (zX n k 0 (zini as (zmaxl k)) [] h)) = some r) : W p l e R s m args below meth c H locs cells slots Q (F0 m pc ls (S.map (zenc (zrho base adr)))) := by
  obtain ⟨hx, hb, hml, hown, hts, hK, hSt, hin, ⟨hrf, hrl⟩, hl, hexc, hlk⟩ := id C
  obtain ⟨a1, a2, a3, a4, a5, a6, a7, a8⟩ := id A
  obtain rfl : len = 1 := hn.resolve_left (by simp [zilen])
  simp only [zExe] at hr
  obtain ⟨v, S0, rfl, hr1⟩ := pJ_some hr
  obtain ⟨i, S1, rfl, hr2⟩ := pI_some hr1
  obtain ⟨r0, S2, rfl, hr3⟩ := pR_some hr2
  obtain ⟨⟨g1, g2, g3, g4, g5⟩, hr4⟩ := gd_some hr3
  have hi1 : inR i := a6.tl.hd
  have e8 := a1.arr g3 g2 (by decide) (by decide)
  rw [List.map_cons, List.map_cons, List.map_cons, zenc_R g1]
  refine W.last hx hb e8.1 ((hK.2 23 (by decide) (by decide)).1 _ _) (fun q9 => by cases q9) (by rw [arrV_size]; exact zi_in hi1 g4 g5) rfl rfl hd (fun H9 e1 e2 e3 => ?_)
  rw [zi_cl hi1 g4] at e1
  exact K _ _ S2 _ _ _ _ _ _ hr4 ⟨zRep.elem (v := zJ v) a1 g3 g2 (by decide) (by decide) (Or.inr (Or.inl ⟨v, rfl, rfl⟩)) a6.hd (by simp only [zev, hJ_sJ, zup_s]) (fun e => by cases e) e1 e2 e3, va_S.put a2 e2 e3 (zA_in a1 g3), a3, a4, a5, a6.tl.tl.tl, a7, a8⟩
  
theorem zw_bastore (C : zCtx p l R s m args meth c q base adr adV dC dI cA L0 xs) (K : zWk p l e R s m args below meth c Q q n r base n0 u0 adr dC dI cA L0 xs) (hd : decode (zbytes q) pc = .ok (.bastore, len)) (hn : zilen (.bastore) = 0 ∨ len = zilen (.bastore)) (A : zAt s q base n0 u0 adr dC dI cA L0 xs H locs cells slots ls L S h)
    (hr : zExe q pc len (.bastore) L S h (fun pc L S h => zX n q pc L S h) (fun v h => some (.inl v, h)) (fun E h => some (.inr E, h)) (fun k as pc2 L S h => zBack (zX n) q pc pc2 L S (zX n k 0 (zini as (zmaxl k)) [] h)) = some r) : W p l e R s m args below meth c H locs cells slots Q (F0 m pc ls (S.map (zenc (zrho base adr)))) := by
  obtain ⟨hx, hb, hml, hown, hts, hK, hSt, hin, ⟨hrf, hrl⟩, hl, hexc, hlk⟩ := id C
  obtain ⟨a1, a2, a3, a4, a5, a6, a7, a8⟩ := id A
  obtain rfl : len = 1 := hn.resolve_left (by simp [zilen])
  simp only [zExe] at hr
  obtain ⟨v, S0, rfl, hr1⟩ := pI_some hr
  obtain ⟨i, S1, rfl, hr2⟩ := pI_some hr1
  obtain ⟨r0, S2, rfl, hr3⟩ := pR_some hr2
  obtain ⟨g, hr4⟩ := gd_some hr3
  obtain ⟨gv, hr5⟩ := gd_some hr4
  have hi1 : inR i := a6.tl.hd
  rcases g with ⟨g1, g2, g3, g4, g5⟩ | ⟨g1, g2, g3, g4, g5⟩
  · have e8 := a1.arr g3 g2 (by decide) (by decide)
    rw [List.map_cons, List.map_cons, List.map_cons, zenc_R g1]
    refine W.bast hx hb e8.1 ((hK.2 21 (by decide) (by decide)).1 _ _) (fun q9 => by cases q9) (by rw [arrV_size]; exact zi_in hi1 g4 g5) rfl rfl hd (fun H9 e1 e2 e3 => ?_)
    rw [zi_cl hi1 g4] at e1
    exact K _ _ S2 _ _ _ _ _ _ hr5 ⟨zRep.elem (v := zI v) a1 g3 g2 (by decide) (by decide) (Or.inl ⟨v, rfl, rfl⟩) a6.hd (by simp only [zev, hI_sI, zup_s]) (fun _ => ⟨v, rfl, gv.1, gv.2.1⟩) (by rw [show narrow .byte (.int (Int32.ofInt v)) = .int (Int32.ofInt v) from zi_byte gv.1 gv.2.1] at e1; exact e1) e2 e3, va_S.put a2 e2 e3 (zA_in a1 g3), a3, a4, a5, a6.tl.tl.tl, a7, a8⟩
    
  · have e8 := a1.arr g3 g2 (by decide) (by decide)
    rw [List.map_cons, List.map_cons, List.map_cons, zenc_R g1]
    refine W.zast hx hb e8.1 ((hK.2 20 (by decide) (by decide)).1 _ _) (fun q9 => by cases q9) (by rw [arrV_size]; exact zi_in hi1 g4 g5) rfl rfl hd (fun H9 e1 e2 e3 => ?_)
    rw [zi_cl hi1 g4] at e1
    exact K _ _ S2 _ _ _ _ _ _ hr5 ⟨zRep.elem (v := zI v) a1 g3 g2 (by decide) (by decide) (Or.inl ⟨v, rfl, rfl⟩) a6.hd (by simp only [zev, hI_sI, zup_s]) (fun e => by cases e) (by rw [show narrow .boolean (.int (Int32.ofInt v)) = .int (Int32.ofInt v) from zi_bool (gv.2.2 g2)] at e1; exact e1) e2 e3, va_S.put a2 e2 e3 (zA_in a1 g3), a3, a4, a5, a6.tl.tl.tl, a7, a8⟩
    
theorem zw_aastore (C : zCtx p l R s m args meth c q base adr adV dC dI cA L0 xs) (K : zWk p l e R s m args below meth c Q q n r base n0 u0 adr dC dI cA L0 xs) (hd : decode (zbytes q) pc = .ok (.aastore, len)) (hn : zilen (.aastore) = 0 ∨ len = zilen (.aastore)) (A : zAt s q base n0 u0 adr dC dI cA L0 xs H locs cells slots ls L S h)
    (hr : zExe q pc len (.aastore) L S h (fun pc L S h => zX n q pc L S h) (fun v h => some (.inl v, h)) (fun E h => some (.inr E, h)) (fun k as pc2 L S h => zBack (zX n) q pc pc2 L S (zX n k 0 (zini as (zmaxl k)) [] h)) = some r) : W p l e R s m args below meth c H locs cells slots Q (F0 m pc ls (S.map (zenc (zrho base adr)))) := by
  obtain ⟨hx, hb, hml, hown, hts, hK, hSt, hin, ⟨hrf, hrl⟩, hl, hexc, hlk⟩ := id C
  obtain ⟨a1, a2, a3, a4, a5, a6, a7, a8⟩ := id A
  obtain rfl : len = 1 := hn.resolve_left (by simp [zilen])
  simp only [zExe] at hr
  obtain ⟨v, S0, rfl, hr1⟩ := pR_some hr
  obtain ⟨i, S1, rfl, hr2⟩ := pI_some hr1
  obtain ⟨r0, S2, rfl, hr3⟩ := pR_some hr2
  obtain ⟨g, hr4⟩ := gd_some hr3
  have hi1 : inR i := a6.tl.hd
  have main : ∀ t c9 : Nat, zokw h r0 t i → zob h v (1 + c9) → c9 < 13 → (t = 25 ∨ t = 26) → zaty t = .object (zvn c9) → W p l e R s m args below meth c H locs cells slots Q (F0 m pc ls ((zR v :: zI i :: zR r0 :: S2).map (zenc (zrho base adr)))) := by
    intro t c9 g gv hc9 ht hty
    obtain ⟨g1, g2, g3, g4, g5⟩ := g
    obtain ⟨w1, w2, w3⟩ := gv
    have t1 : 20 ≤ t := by omega
    have t2 : t < 28 := by omega
    have e8 := a1.arr g3 g2 t1 t2
    obtain ⟨cellV, q1, q2, q3, -⟩ := (a1.2.2.1 _ w3).1 (by omega) (by omega)
    rw [w2, show 1 + c9 - 1 = c9 by omega] at q2
    have hcls := (hK.1 c9 hc9).2
    have hra := (hK.2 t t1 t2).2
    rw [hty] at hra
    obtain ⟨kA, comp, k1, k2, k3, -⟩ := hra
    have hcomp : comp = dC c9 := Option.some.inj (k3.symm.trans hcls.1)
    subst hcomp
    obtain ⟨kC, hkC, -⟩ := hcls.2
    rw [List.map_cons, List.map_cons, List.map_cons, zenc_R g1, zenc_R w1]
    refine W.aast hx hb e8.1 (fun q9 h9 => by cases h9) (fun h9 => by cases h9) k1 k2 rfl hkC ⟨fun h9 => zi_in (n := hL h (zdr r0)) hi1 g4 g5 (Or.inl h9), by rw [arrV_size, zi_cl hi1 g4]; omega⟩ q1 (fun q9 h9 => by rw [q3] at h9; cases h9) (by rw [q2]; exact hkC) (by rw [q2]; exact va_assign hcls) rfl rfl hd (fun H9 e1 e2 e3 => ?_)
    rw [zi_cl hi1 g4] at e1
    exact K _ _ S2 _ _ _ _ _ _ hr4 ⟨zRep.elem (v := zR v) a1 g3 g2 t1 t2 (Or.inr (Or.inr (Or.inr (Or.inr ⟨v, rfl, rfl⟩)))) a6.hd (by rcases ht with rfl | rfl <;> simp only [zev, hR_sR, zup_s]) (fun e => by rcases ht with rfl | rfl <;> cases e) (by rw [zenc_R w1]; exact e1) e2 e3, va_S.put a2 e2 e3 (zA_in a1 g3), a3, a4, a5, a6.tl.tl.tl, a7, a8⟩
  rcases g with ⟨g, gv⟩ | ⟨g, gv⟩
  · exact main 25 1 g gv (by decide) (Or.inl rfl) rfl
  · exact main 26 9 g gv (by decide) (Or.inr rfl) rfl
theorem zw_arraylength (C : zCtx p l R s m args meth c q base adr adV dC dI cA L0 xs) (K : zWk p l e R s m args below meth c Q q n r base n0 u0 adr dC dI cA L0 xs) (hd : decode (zbytes q) pc = .ok (.arraylength, len)) (hn : zilen (.arraylength) = 0 ∨ len = zilen (.arraylength)) (A : zAt s q base n0 u0 adr dC dI cA L0 xs H locs cells slots ls L S h)
    (hr : zExe q pc len (.arraylength) L S h (fun pc L S h => zX n q pc L S h) (fun v h => some (.inl v, h)) (fun E h => some (.inr E, h)) (fun k as pc2 L S h => zBack (zX n) q pc pc2 L S (zX n k 0 (zini as (zmaxl k)) [] h)) = some r) : W p l e R s m args below meth c H locs cells slots Q (F0 m pc ls (S.map (zenc (zrho base adr)))) := by
  obtain ⟨hx, hb, hml, hown, hts, hK, hSt, hin, ⟨hrf, hrl⟩, hl, hexc, hlk⟩ := id C
  obtain ⟨a1, a2, a3, a4, a5, a6, a7, a8⟩ := id A
  obtain rfl : len = 1 := hn.resolve_left (by simp [zilen])
  simp only [zExe] at hr
  obtain ⟨r0, S0, rfl, hr1⟩ := pR_some hr
  obtain ⟨⟨g1, g2, g3⟩, hr2⟩ := gd_some hr1
  rw [List.map_cons, zenc_R g1]
  by_cases hlt : zdr r0 < hN h
  · have hz := (a1.2.2.1 _ hlt).2.2
    have e8 := a1.arr hlt rfl g2 (by omega)
    exact W.alen (n := Int32.ofInt (hL h (zdr r0))) hx hb e8.1 ((hK.2 _ g2 (by omega)).1 _ _) (by rw [arrV_size]; rfl) rfl rfl hd (K _ _ (zI _ :: S0) _ _ _ _ _ _ hr2 ⟨a1, a2, a3, a4, a5, a6.tl.cons (show inR _ by have := e8.2; omega), a7, a8⟩)
  · have hge : zVB ≤ zdr r0 := by
      rcases Nat.lt_or_ge (zdr r0) zVB with w | w
      · have w2 := a1.2.2.2.2.1 _ (Nat.not_lt.mp hlt) w
        rw [w2] at g2; cases g2
      · exact w
    obtain ⟨v0, v1, v2, v3, vd, v4⟩ := a1.2.2.2.2.2
    have fin9 : ∀ (ty9 : FieldType) (n9 k9 : Nat) (f9 : Nat → Value), n9 < 1000 → zdr r0 = zVB + k9 → hL h (zVB + k9) = n9 → va_T ty9 (adr k9) n9 f9 (zA base) s s.heap → W p l e R s m args below meth c H locs cells slots Q (F0 m pc ls (.ref (zrho base adr (zdr r0)) :: S0.map (zenc (zrho base adr)))) := by
      intro ty9 n9 k9 f9 hn9 he hl9 hT9
      rw [he] at hr2 ⊢
      rw [hl9] at hr2
      rw [show zrho base adr (zVB + k9) = adr k9 from zrho_ge]
      obtain ⟨cell, t1, t2, t3, t4, t5, t6, t7⟩ := hT9.kept a2.2.1
      have z9 : inR (n9 : Int) := ⟨by omega, by omega⟩
      exact W.alen (n := Int32.ofInt (n9 : Int)) hx hb t1 t2 t5 rfl rfl hd (K _ _ (zI _ :: S0) _ _ _ _ _ _ hr2 ⟨a1, a2, a3, a4, a5, a6.tl.cons z9, a7, a8⟩)
    rcases Nat.lt_or_ge (zdr r0) (zVB + 56) with w | w
    · by_cases e1 : zdr r0 = zVB
      · rw [e1] at hr2 ⊢
        rw [v0.2.1] at hr2
        rw [show zrho base adr zVB = adr 0 from zrho_ge (k := 0)]
        refine va_slen hx hb hSt.1.1 (Nat.lt_of_lt_of_le hSt.1.2.1 hSt.1.2.2.1) (Nat.not_le.mpr hSt.1.2.1) a2 hd ?_
        exact K _ _ (zI _ :: S0) _ _ _ _ _ _ hr2 ⟨a1, a2, a3, a4, a5, a6.tl.cons (show inR _ by have := hSt.1.2.2.2; omega), a7, a8⟩
      · by_cases e2 : zdr r0 = zVB + 1
        · exact fin9 _ 3 1 _ (by decide) e2 v1.2.1 hSt.2.1.2
        · by_cases e3 : zdr r0 = zVB + 2
          · exact fin9 _ 3 2 _ (by decide) e3 v2.2.1 hSt.2.2.1.2
          · have e4 := (v3 (zdr r0 - zVB - 3) (by omega)).1
            rw [show zVB + 3 + (zdr r0 - zVB - 3) = zdr r0 by omega] at e4
            omega
    · rcases Nat.lt_or_ge (zdr r0) (zVB + 58) with w9 | w9
      · have e5 : zdr r0 = zVB + (56 + (zdr r0 - zVB - 56)) := by omega
        have h2 : zdr r0 - zVB - 56 < 2 := by omega
        generalize zdr r0 - zVB - 56 = t at *
        exact fin9 _ 100 (56 + t) _ (by decide) e5 (by rw [← Nat.add_assoc]; exact (vd t h2).2.1) (hSt.2.2.2.2.2.1 t h2).2
      · rw [v4 _ w9] at g2; cases g2
theorem zw_getstatic {k : Nat} (C : zCtx p l R s m args meth c q base adr adV dC dI cA L0 xs) (K : zWk p l e R s m args below meth c Q q n r base n0 u0 adr dC dI cA L0 xs) (hd : decode (zbytes q) pc = .ok (.getstatic k, len)) (hn : zilen (.getstatic k) = 0 ∨ len = zilen (.getstatic k)) (A : zAt s q base n0 u0 adr dC dI cA L0 xs H locs cells slots ls L S h)
    (hr : zExe q pc len (.getstatic k) L S h (fun pc L S h => zX n q pc L S h) (fun v h => some (.inl v, h)) (fun E h => some (.inr E, h)) (fun k as pc2 L S h => zBack (zX n) q pc pc2 L S (zX n k 0 (zini as (zmaxl k)) [] h)) = some r) : W p l e R s m args below meth c H locs cells slots Q (F0 m pc ls (S.map (zenc (zrho base adr)))) := by
  obtain ⟨hx, hb, hml, hown, hts, hK, hSt, hin, ⟨hrf, hrl⟩, hl, hexc, hlk⟩ := id C
  obtain ⟨a1, a2, a3, a4, a5, a6, a7, a8⟩ := id A
  obtain rfl : len = 3 := hn.resolve_left (by simp [zilen])
  simp only [zExe] at hr
  split at hr
  · rename_i a ha
    rcases lkG _ _ _ ha with ⟨e1, hw⟩ | ⟨e1, hw⟩ | ⟨e1, hw⟩ | ⟨e1, hw⟩ | ⟨e1, hw⟩
    · rw [e1] at hr
      simp only [show Nat.beq (zVB + 1) 0 = false from rfl, cond_false] at hr
      refine va_gets hx hb hSt.2.1.1 a2 hown (hts _ (zin_ok hw) hw.2) (fun _ h9 => h9) hd ?_
      have g := K _ _ (zR (some _) :: S) _ _ _ _ _ _ hr ⟨a1, a2, a3, a4, a5, a6.cons trivial, a7, a8⟩
      rw [List.map_cons, show zenc (zrho base adr) (zR (some (zVB + 1))) = .ref (adr 1) from congrArg Value.ref (zrho_ge (k := 1))] at g
      exact g
    · rw [e1] at hr
      simp only [show Nat.beq (zVB + 2) 0 = false from rfl, cond_false] at hr
      refine va_gets hx hb hSt.2.2.1.1 a2 hown (hts _ (zin_ok hw) hw.2) (fun _ h9 => h9) hd ?_
      have g := K _ _ (zR (some _) :: S) _ _ _ _ _ _ hr ⟨a1, a2, a3, a4, a5, a6.cons trivial, a7, a8⟩
      rw [List.map_cons, show zenc (zrho base adr) (zR (some (zVB + 2))) = .ref (adr 2) from congrArg Value.ref (zrho_ge (k := 2))] at g
      exact g
    · rw [e1] at hr
      simp only [show Nat.beq 0 0 = true from rfl, cond_true] at hr
      refine va_gets hx hb hSt.2.2.2.2.1.1 a2 hown (hts _ (zin_ok hw) hw.2) (fun _ h9 => h9) hd ?_
      exact K _ _ (zI 1 :: S) _ _ _ _ _ _ hr ⟨a1, a2, a3, a4, a5, a6.cons (show inR 1 by decide), a7, a8⟩
    · rw [e1] at hr
      simp only [show Nat.beq (zVB + 56) 0 = false from rfl, cond_false] at hr
      refine va_gets hx hb (hSt.2.2.2.2.2.1 0 (by decide)).1 a2 hown (hts _ (zin_ok hw) hw.2) (fun _ h9 => h9) hd ?_
      have g := K _ _ (zR (some _) :: S) _ _ _ _ _ _ hr ⟨a1, a2, a3, a4, a5, a6.cons trivial, a7, a8⟩
      rw [List.map_cons, show zenc (zrho base adr) (zR (some (zVB + 56))) = .ref (adr 56) from congrArg Value.ref (zrho_ge (k := 56))] at g
      exact g
    · rw [e1] at hr
      simp only [show Nat.beq (zVB + 57) 0 = false from rfl, cond_false] at hr
      refine va_gets hx hb (hSt.2.2.2.2.2.1 1 (by decide)).1 a2 hown (hts _ (zin_ok hw) hw.2) (fun _ h9 => h9) hd ?_
      have g := K _ _ (zR (some _) :: S) _ _ _ _ _ _ hr ⟨a1, a2, a3, a4, a5, a6.cons trivial, a7, a8⟩
      rw [List.map_cons, show zenc (zrho base adr) (zR (some (zVB + 57))) = .ref (adr 57) from congrArg Value.ref (zrho_ge (k := 57))] at g
      exact g
  · cases hr
theorem zw_newarray {t : ArrayType} (hroom : zRoom R r n0 u0) (C : zCtx p l R s m args meth c q base adr adV dC dI cA L0 xs) (K : zWk p l e R s m args below meth c Q q n r base n0 u0 adr dC dI cA L0 xs) (hd : decode (zbytes q) pc = .ok (.newarray t, len)) (hn : zilen (.newarray t) = 0 ∨ len = zilen (.newarray t)) (A : zAt s q base n0 u0 adr dC dI cA L0 xs H locs cells slots ls L S h)
    (hr : zExe q pc len (.newarray t) L S h (fun pc L S h => zX n q pc L S h) (fun v h => some (.inl v, h)) (fun E h => some (.inr E, h)) (fun k as pc2 L S h => zBack (zX n) q pc pc2 L S (zX n k 0 (zini as (zmaxl k)) [] h)) = some r) : W p l e R s m args below meth c H locs cells slots Q (F0 m pc ls (S.map (zenc (zrho base adr)))) := by
  obtain ⟨hx, hb, hml, hown, hts, hK, hSt, hin, ⟨hrf, hrl⟩, hl, hexc, hlk⟩ := id C
  obtain ⟨a1, a2, a3, a4, a5, a6, a7, a8⟩ := id A
  obtain rfl : len = 2 := hn.resolve_left (by simp [zilen])
  simp only [zExe] at hr
  obtain ⟨k, S0, rfl, hr1⟩ := pI_some hr
  obtain ⟨⟨g1, g2⟩, hr2⟩ := gd_some hr1
  have hk1 : inR k := a6.hd
  obtain ⟨rm1, rm2, rm3⟩ := hroom
  have main : ∀ t9 : Nat, (20 ≤ t9 ∧ t9 < 25) → newarray.typeOf t = zaty t9 → Cond.arrayClass (zaty t9) ∈ lw_tbl → (componentBytes (zaty t9) ≤ 8) → (∀ j, zenc (zrho base adr) (zev (hNew h t9 k.toNat) t9 (hN h) j) = defaultValue (zaty t9)) → s.vm.findClass ("[" ++ (zaty t9).toString) = some (cA t9) → zX n q (pc + 2) L (zR (some (hN h)) :: S0) (hNew h t9 k.toNat) = some r → W p l e R s m args below meth c H locs cells slots Q (F0 m pc ls ((zI k :: S0).map (zenc (zrho base adr)))) := by
    intro t9 ht9 hty hin9 hcb hdef hcls hr9
    have mo := zX_mo _ _ _ _ _ _ _ hr9
    have mo1 : hN h + 1 ≤ hN r.2 := mo.1
    have mo2 : hU h + k.toNat ≤ hU r.2 := mo.2
    have hcl := zi_cl hk1 g1
    refine W.newa hx hb (atype := t) (by rw [hty]; exact hts _ hin9 rfl) rfl hd rfl (by rw [← zi_0, zi_lt hk1 (by decide)]; omega) (by rw [hcl, hty]; have : k.toNat * componentBytes (zaty t9) ≤ 65536 * 8 := Nat.mul_le_mul (by omega) hcb; omega) (by omega) (by rw [hcl]; omega) (fun cA9 kA comp f1 f2 f3 => ?_)
    have hcA : cA9 = cA t9 := by rw [hty] at f1; exact Option.some.inj (f1.symm.trans hcls)
    subst hcA
    rw [hcl, hty, arrV_new]
    have hsz : H.size = base + hN h := a1.1
    have hrho : zrho base adr (hN h) = H.size := by rw [zrho_lt a1.2.1, hsz]
    have g := K _ L (zR (some (hN h)) :: S0) _ (H.push (arrV (cA t9) k.toNat fun _ => defaultValue (zaty t9))) locs (cells + 1) (slots + k.toNat) ls hr9 ⟨zRep.alloc a1 (by rw [Array.size_push]) (fun q9 hq9 => by rw [Array.getElem?_push, if_neg (by omega)]) (by omega) ⟨fun x y => by rw [hNew_T0.1] at x y; omega, fun x y => ⟨by rw [hNew_T0.1, hNew_T0.2, hrho, Array.getElem?_push, if_pos rfl]; exact congrArg some (congrArg (arrV _ _) (funext fun j => (hdef j).symm)), by rw [hNew_T0.2]; omega, fun _ j => by rw [show hI (hNew h t9 k.toNat) (hN h) j = 0 from congrFun (if_pos rfl) j]; decide⟩, Or.inr (by rw [hNew_T0.1]; omega)⟩, ⟨by rw [Array.size_push]; exact Nat.le_succ_of_le a2.1, fun q9 h1 h2 => by rw [Array.getElem?_push, if_neg (by have := a2.1; omega)]; exact a2.2.1 q9 h1 h2, a2.2.2⟩, a3, a4, a5, a6.tl.cons trivial, by show cells + 1 + n0 = hN h + 1; omega, by show slots + k.toNat + u0 = hU h + k.toNat; omega⟩
    rw [List.map_cons, show zenc (zrho base adr) (zR (some (hN h))) = .ref H.size by rw [zenc_R rfl, show zdr (some (hN h)) = hN h from rfl, hrho]] at g
    exact g
  cases t <;> simp only [reduceCtorEq] at hr2
  · exact main 20 (by omega) rfl (zArr_0 _ (by simp [zaty])).1 (by decide) (fun j => by simp only [zev, zNewI]; rfl) (hK.2 20 (by decide) (by decide)).2 hr2
  · exact main 21 (by omega) rfl (zArr_0 _ (by simp [zaty])).1 (by decide) (fun j => by simp only [zev, zNewI]; rfl) (hK.2 21 (by decide) (by decide)).2 hr2
  · exact main 22 (by omega) rfl (zArr_0 _ (by simp [zaty])).1 (by decide) (fun j => by simp only [zev, zNewI]; rfl) (hK.2 22 (by decide) (by decide)).2 hr2
  · exact main 23 (by omega) rfl (zArr_0 _ (by simp [zaty])).1 (by decide) (fun j => by simp only [zev, zNewJ]; rfl) (hK.2 23 (by decide) (by decide)).2 hr2
end ZW
