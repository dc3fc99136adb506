/-! Rows of rows, made at once. -/
def hMna (h : zH) (n k : Int) : zH := (hN (hNews (hNew h 27 n.toNat) 21 k.toNat n.toNat), hU (hNews (hNew h 27 n.toNat) 21 k.toNat n.toNat), hT (hNews (hNew h 27 n.toNat) 21 k.toNat n.toNat), hL (hNews (hNew h 27 n.toNat) 21 k.toNat n.toNat), zu1 (hR (hNews (hNew h 27 n.toNat) 21 k.toNat n.toNat)) (hN h) (fun j => if j < n.toNat then some (hN h + 1 + j) else none), hI (hNews (hNew h 27 n.toNat) 21 k.toNat n.toNat), hJ (hNews (hNew h 27 n.toNat) 21 k.toNat n.toNat), hF (hNews (hNew h 27 n.toNat) 21 k.toNat n.toNat), hD (hNews (hNew h 27 n.toNat) 21 k.toNat n.toNat))
section MNA
variable {base : Nat} {adr : Nat → Nat} {dC : Nat → ClassId} {dI : Nat → Nat → Nat} {cA : Nat → ClassId} {L0 : Nat} {xs : Nat → Int32} {H H2 : Heap} {h h2 : zH}
def eqAt (h2 h : zH) (b : Nat) : Prop := (hT h2 b = hT h b ∧ hL h2 b = hL h b) ∧ hI h2 b = hI h b ∧ hJ h2 b = hJ h b ∧ hF h2 b = hF h b ∧ hD h2 b = hD h b ∧ hR h2 b = hR h b
theorem eqAt_new {t m b : Nat} (hb : b ≠ hN h) : eqAt (hNew h t m) h b := ⟨⟨if_neg hb, if_neg hb⟩, if_neg hb, if_neg hb, if_neg hb, if_neg hb, if_neg hb⟩
theorem eqAt_t {h3 : zH} {b : Nat} (e : eqAt h3 h2 b) (f : eqAt h2 h b) : eqAt h3 h b := ⟨⟨e.1.1.trans f.1.1, e.1.2.trans f.1.2⟩, e.2.1.trans f.2.1, e.2.2.1.trans f.2.2.1, e.2.2.2.1.trans f.2.2.2.1, e.2.2.2.2.1.trans f.2.2.2.2.1, e.2.2.2.2.2.trans f.2.2.2.2.2⟩
theorem eqAt_fv {b : Nat} (e : eqAt h2 h b) (c j : Nat) : zfv h2 c b j = zfv h c b j := by
  obtain ⟨_, e1, e2, e3, e4, e5⟩ := e
  unfold zfv
  rw [e1, e2, e3, e4, e5]
theorem eqAt_ev {b : Nat} (e : eqAt h2 h b) (t j : Nat) : zev h2 t b j = zev h t b j := by
  obtain ⟨_, e1, e2, e3, e4, e5⟩ := e
  unfold zev
  rw [e1, e2, e4, e5]
theorem hNews_N (h : zH) (t m : Nat) : ∀ n, hN (hNews h t m n) = hN h + n ∧ hU (hNews h t m n) = hU h + n * m
  | 0 => ⟨rfl, by rw [Nat.zero_mul]; rfl⟩
  | n + 1 => by
    have i := hNews_N h t m n
    refine ⟨?_, ?_⟩
    · show hN (hNews h t m n) + 1 = _
      omega
    · show hU (hNews h t m n) + m = _
      rw [i.2, Nat.succ_mul]
      omega
theorem hNews_o (h : zH) (t m : Nat) {b : Nat} : ∀ n, (b < hN h ∨ hN h + n ≤ b) → eqAt (hNews h t m n) h b
  | 0, _ => ⟨⟨rfl, rfl⟩, rfl, rfl, rfl, rfl, rfl⟩
  | n + 1, hb => eqAt_t (eqAt_new (by rw [(hNews_N h t m n).1]; omega)) (hNews_o h t m n (by omega))
theorem hNews_i (h : zH) (t m : Nat) {b : Nat} : ∀ n, hN h ≤ b → b < hN h + n → hT (hNews h t m n) b = t ∧ hL (hNews h t m n) b = m ∧ hI (hNews h t m n) b = fun _ => 0
  | 0, h1, h2 => by omega
  | n + 1, h1, h2 => by
    have e := (hNews_N h t m n).1
    by_cases c : b = hN h + n
    · rw [c, ← e]
      exact ⟨if_pos rfl, if_pos rfl, if_pos rfl⟩
    · have i := hNews_i h t m n h1 (by omega)
      have q : eqAt (hNews h t m (n + 1)) (hNews h t m n) b := eqAt_new (by omega)
      exact ⟨q.1.1.trans i.1, q.1.2.trans i.2.1, q.2.1.trans i.2.2⟩
theorem hMna_N (n k : Int) : hN (hMna h n k) = hN h + 1 + n.toNat ∧ hU (hMna h n k) = hU h + n.toNat + n.toNat * k.toNat := by
  have e := hNews_N (hNew h 27 n.toNat) 21 k.toNat n.toNat
  exact ⟨e.1, e.2⟩
theorem hMna_o {n k : Int} {b : Nat} (hb : b < hN h ∨ hN h + 1 + n.toNat ≤ b) : eqAt (hMna h n k) h b := by
  have e := eqAt_t (hNews_o (hNew h 27 n.toNat) 21 k.toNat n.toNat (b := b) (by show b < hN h + 1 ∨ hN h + 1 + _ ≤ b; omega)) (eqAt_new (h := h) (t := 27) (m := n.toNat) (b := b) (by omega))
  obtain ⟨e0, e1, e2, e3, e4, e5⟩ := e
  refine ⟨e0, e1, e2, e3, e4, ?_⟩
  rw [← e5]
  exact if_neg (by omega)
theorem hMna_h {n k : Int} : hT (hMna h n k) (hN h) = 27 ∧ hL (hMna h n k) (hN h) = n.toNat ∧ (∀ j, hI (hMna h n k) (hN h) j = 0) ∧ ∀ j, hR (hMna h n k) (hN h) j = if j < n.toNat then some (hN h + 1 + j) else none := by
  have e := hNews_o (hNew h 27 n.toNat) 21 k.toNat n.toNat (b := hN h) (Or.inl (Nat.lt_succ_self _))
  exact ⟨e.1.1.trans (if_pos rfl), e.1.2.trans (if_pos rfl), fun j => congrFun (e.2.1.trans (if_pos rfl)) j, fun j => congrFun (if_pos rfl) j⟩
theorem hMna_r {n k : Int} {b : Nat} (h1 : hN h < b) (h2 : b < hN h + 1 + n.toNat) : hT (hMna h n k) b = 21 ∧ hL (hMna h n k) b = k.toNat ∧ hI (hMna h n k) b = fun _ => 0 := hNews_i (hNew h 27 n.toNat) 21 k.toNat n.toNat h1 h2
theorem zRep.mna {n k : Int} (R : zRep base adr dC dI cA L0 xs H h) (h0 : 0 ≤ n) (h1 : n < 1024) (k0 : 0 ≤ k) (k1 : k < 65536) (e2 : H2.size = H.size + 1 + n.toNat) (e3 : ∀ q, q < H.size → H2[q]? = H[q]?) (hb : hN h + 1 + n.toNat < zVB)
    (eo : H2[H.size]? = some (arrV (cA 27) n.toNat (fun j => va_rf (if j < n.toNat then some (H.size + 1 + j) else none)))) (er : ∀ j, j < n.toNat → H2[H.size + 1 + j]? = some (arrV (cA 21) k.toNat (fun _ => .int 0))) : zRep base adr dC dI cA L0 xs H2 (hMna h n k) := by
  obtain ⟨r1, r2, r3, r4, r5, r6⟩ := R
  have N := (hMna_N (h := h) n k).1
  refine ⟨by rw [e2, N]; omega, by rw [N]; exact hb, fun b hb2 => ?_, fun a j => ?_, fun a q1 q2 => ?_, ?_⟩
  · rw [N] at hb2
    rcases Nat.lt_trichotomy b (hN h) with c | c | c
    · have e := hMna_o (h := h) (n := n) (k := k) (b := b) (Or.inl c)
      obtain ⟨c1, c2, c3⟩ := r3 b c
      unfold zcell
      rw [e.1.1, e.1.2]
      have hq : zrho base adr b < H.size := by rw [zrho_lt (by omega), r1]; omega
      refine ⟨fun x y => t_OB.to ((c1 x y).kept (e3 _ hq)) (fun j _ => by rw [eqAt_fv e]), fun x y => ⟨?_, (c2 x y).2.1, fun e2 j => by rw [e.2.1]; exact (c2 x y).2.2 e2 j⟩, c3⟩
      rw [e3 _ hq, (c2 x y).1]
      exact congrArg some (congrArg (arrV _ _) (funext fun j => by rw [eqAt_ev e]))
    · subst c
      obtain ⟨t1, t2, t3, t4⟩ := hMna_h (h := h) (n := n) (k := k)
      unfold zcell
      rw [t1, t2, show zrho base adr (hN h) = H.size by rw [zrho_lt (by omega), r1]]
      refine ⟨fun x y => by omega, fun _ _ => ⟨?_, by omega, fun e => by cases e⟩, Or.inr (by omega)⟩
      rw [eo]
      refine congrArg some (arrV_cg fun j hj => ?_)
      rw [show zev (hMna h n k) 27 (hN h) j = zR (hR (hMna h n k) (hN h) j) from rfl, t4, if_pos hj, if_pos hj]
      show Value.ref (H.size + 1 + j) = Value.ref (zrho base adr (hN h + 1 + j))
      rw [zrho_lt (show hN h + 1 + j < zVB by omega)]
      exact congrArg Value.ref (show (H.size + 1 + j : Nat) = base + (hN h + 1 + j) by omega)
    · obtain ⟨t1, t2, t3⟩ := hMna_r (h := h) (n := n) (k := k) c hb2
      unfold zcell
      rw [t1, t2, zrho_lt (show b < zVB by omega)]
      refine ⟨fun x y => by omega, fun _ _ => ⟨?_, by omega, fun _ j => by rw [t3]; exact (show -128 ≤ (0 : Int) ∧ (0 : Int) < 128 by decide)⟩, Or.inr (by omega)⟩
      have := er (b - hN h - 1) (by omega)
      rw [show H.size + 1 + (b - hN h - 1) = base + b by omega] at this
      rw [this]
      refine congrArg some (arrV_cg fun j hj => ?_)
      rw [show zev (hMna h n k) 21 b j = zI (hI (hMna h n k) b j) from rfl, t3]
      rfl
  · rcases Nat.lt_trichotomy a (hN h) with c | c | c
    · rw [(hMna_o (h := h) (n := n) (k := k) (Or.inl c)).2.1]; exact r4 a j
    · rw [c, hMna_h.2.2.1]; decide
    · by_cases c2 : a < hN h + 1 + n.toNat
      · rw [(hMna_r c c2).2.2]; exact (show inR 0 by decide)
      · rw [(hMna_o (h := h) (n := n) (k := k) (Or.inr (by omega))).2.1]; exact r4 a j
  · rw [N] at q1
    rw [(hMna_o (h := h) (n := n) (k := k) (Or.inr q1)).1.1]
    exact r5 a (by omega) q2
  · have g : ∀ b, zVB ≤ b → eqAt (hMna h n k) h b := fun b hb3 => hMna_o (Or.inr (by omega))
    obtain ⟨⟨a1, a2, a3⟩, ⟨b1, b2, b3⟩, ⟨c1, c2, c3⟩, d, dg, f⟩ := r6
    have g0 : zVB ≤ zVB := Nat.le_refl _
    have g1 : ∀ k, zVB ≤ zVB + k := fun k => Nat.le_add_right _ _
    refine ⟨⟨by rw [(g _ g0).1.1]; exact a1, by rw [(g _ g0).1.2]; exact a2, by rw [(g _ g0).2.1]; exact a3⟩, ⟨by rw [(g _ (g1 _)).1.1]; exact b1, by rw [(g _ (g1 _)).1.2]; exact b2, by rw [(g _ (g1 _)).2.2.1]; exact b3⟩, ⟨by rw [(g _ (g1 _)).1.1]; exact c1, by rw [(g _ (g1 _)).1.2]; exact c2, by rw [(g _ (g1 _)).2.2.1]; exact c3⟩, fun k hk => ?_, fun t ht => ?_, fun a ha => ?_⟩
    · have g2 := g (zVB + 3 + k) (by omega)
      rw [g2.1.1, g2.1.2, g2.2.1]
      exact d k hk
    · have g2 := g (zVB + 56 + t) (by omega)
      rw [g2.1.1, g2.1.2, g2.2.1]
      exact dg t ht
    · rw [(g a (by omega)).1.1]
      exact f a ha
theorem vr_outer (c : ClassId) (N h0 : Nat) : ∀ i : Nat, Jvm.Free.Multi.outerC c N h0 i = arrV c N (fun j => va_rf (if j < i then some (h0 + 1 + j) else none))
  | 0 => by
    show ({ cls := c, slots := Array.replicate N .null, vm := .none } : Cell) = _
    rw [arrV_new]
    refine congrArg (arrV c N) (funext fun j => ?_)
    simp [va_rf]
  | i + 1 => by
    show (Jvm.Free.Multi.outerC c N h0 i).setSlot i (.ref (h0 + 1 + i)) = _
    rw [vr_outer c N h0 i, arrV_store]
    refine congrArg (arrV c N) (funext fun j => ?_)
    by_cases e : j = i
    · subst e
      simp [updV, va_rf]
    · by_cases h : j < i
      · simp [updV, e, h, Nat.lt_succ_of_lt h]
      · simp [updV, e, h, show ¬ j < i + 1 by omega]
end MNA
section MNAZ
variable {p : Program} {l : Launch} {e : Env} {R : Room} {s : State} {m : MethodId} {args : Array Value} {below : List Frame} {meth : Method} {c : Code} {Q : State → Prop}
variable {q n : Nat} {r : (Option zV ⊕ Nat) × zH} {base n0 u0 : Nat} {adr adV : Nat → Nat} {dC : Nat → ClassId} {dI : Nat → Nat → Nat} {cA : Nat → ClassId} {L0 : Nat} {xs : Nat → Int32}
variable {pc len : Nat} {L : zL} {S : List zV} {h : zH} {H : Heap} {locs : List Loc} {cells slots : Nat} {ls : Array Slot}
set_option maxRecDepth 100000 in
theorem zw_multianewarray {i0 d : Nat} (hroom : zRoom R r n0 u0) (C : zCtx p l R s m args meth c q base adr adV dC dI cA L0 xs) (K : zWk p l e R s m args below meth c Q q n r base n0 u0 adr dC dI cA L0 xs) (hd : decode (zbytes q) pc = .ok (.multianewarray i0 d, len)) (hn : zilen (.multianewarray i0 d) = 0 ∨ len = zilen (.multianewarray i0 d)) (A : zAt s q base n0 u0 adr dC dI cA L0 xs H locs cells slots ls L S h)
    (hr : zExe q pc len (.multianewarray i0 d) L S h (fun pc L S h => zX n q pc L S h) (fun v h => some (.inl v, h)) (fun E h => some (.inr E, h)) (fun k as pc2 L S h => zBack (zX n) q pc pc2 L S (zX n k 0 (zini as (zmaxl k)) [] h)) = some r) : W p l e R s m args below meth c H locs cells slots Q (F0 m pc ls (S.map (zenc (zrho base adr)))) := by
  obtain ⟨hx, hb, hml, hown, hts, hK, hSt, hin, ⟨hrf, hrl⟩, hl, hexc, hlk⟩ := id C
  obtain ⟨a1, a2, a3, a4, a5, a6, a7, a8⟩ := id A
  obtain rfl : len = 4 := hn.resolve_left (by simp [zilen])
  rcases d with _ | _ | _ | d
  · cases hr
  · cases hr
  · simp only [zExe] at hr
    split at hr
    · rename_i t9 ht9
      obtain ⟨lk, lt⟩ := lkA _ _ _ ht9
      obtain ⟨k, S1, rfl, hr1⟩ := pI_some hr
      obtain ⟨x, S0, rfl, hr2⟩ := pI_some hr1
      obtain ⟨⟨rfl, g1, g2, g3, g4⟩, hr3⟩ := gd_some hr2
      have hr3 : zX n q (pc + 4) L (zR (some (hN h)) :: S0) (hMna h x k) = some r := hr3
      have hkR : inR k := a6.hd
      have hxR : inR x := a6.tl.hd
      obtain ⟨rm1, rm2, rm3⟩ := hroom
      have hsz : H.size = base + hN h := a1.1
      have hrho : zrho base adr (hN h) = H.size := by rw [zrho_lt a1.2.1, hsz]
      have NN := hMna_N (h := h) x k
      have mo := zX_mo _ _ _ _ _ _ _ hr3
      have mo1 := mo.1
      have mo2 := mo.2
      rw [NN.1] at mo1
      rw [NN.2] at mo2
      have hclx := zi_cl hxR g1
      have hclk := zi_cl hkR g3
      have nm27 : s.vm.findClass ("[" ++ (FieldType.array .byte).toString) = some (cA 27) := (hK.2 27 (by decide) (by decide)).2
      have nm21 : s.vm.findClass (FieldType.array .byte).toString = some (cA 21) := (hK.2 21 (by decide) (by decide)).2
      intro T hT X
      obtain ⟨vm₁, cO, comp, -, fA, fC, hO, -, X', step⟩ := X.multianewarray2F hx (ty := .byte) hown (hts _ (zin_ok lk) lk.2) (show (Cond.arrayOver (.array .byte)).before args s = true from hSt.2.2.2.2.2.2.2.2.2.2.1) (hts (Cond.arrayClass .byte) (zin_ok (p := 1073) ⟨rfl, rfl⟩) rfl) (g := F0 m pc ls ((zI k :: zI x :: S0).map (zenc (zrho base adr)))) rfl (by rw [hb]; exact hd) (n := Int32.ofInt x) (k := Int32.ofInt k) (rest := S0.map (zenc (zrho base adr))) rfl (by rw [← zi_0, zi_lt hxR (by decide)]; omega) (by rw [← zi_0, zi_lt hkR (by decide)]; omega) (by rw [hclx]; omega) (by rw [hclk]; show k.toNat * 1 ≤ _; omega) (by rw [hclk]; omega) rfl rfl (by rw [hclx]; omega) (by rw [hclx, hclk]; omega)
      have eO : cO = cA 27 := Option.some.inj (fA.symm.trans nm27)
      have eC : comp = cA 21 := Option.some.inj (fC.symm.trans nm21)
      subst eO eC
      rw [hclx, hclk] at X' step
      have hTh : (T.setVm vm₁).heap = H := hT
      have ff := Jvm.Free.Multi.fill_facts (T.setVm vm₁) (cA 27) (cA 21) x.toNat k.toNat (defaultValue .byte) x.toNat
      have fo := fun (a : Nat) (ha : a < H.size) => Jvm.Free.Multi.fill_old (T.setVm vm₁) (cA 27) (cA 21) x.toNat k.toNat (defaultValue .byte) (a := a) (by rw [hTh]; exact ha) x.toNat
      have fi := Jvm.Free.Multi.fill_inner (T.setVm vm₁) (cA 27) (cA 21) x.toNat k.toNat (defaultValue .byte) x.toNat
      rw [hTh] at ff fi
      simp only [hTh] at fo
      generalize Jvm.Free.Multi.fill (T.setVm vm₁) (cA 27) (cA 21) x.toNat k.toNat (defaultValue .byte) x.toNat = F at X' step ff fo fi
      obtain ⟨f1, f2, -, -⟩ := ff
      rw [vr_outer] at f2
      have Rm := zRep.mna (n := x) (k := k) a1 g1 g2 g3 g4 f1 fo (by omega) f2 (fun j hj => by
        rw [fi j hj]
        show some ({ cls := cA 21, slots := Array.replicate k.toNat (.int 0), vm := .none } : Cell) = _
        rw [arrV_new])
      obtain ⟨t, b1, b2⟩ := K _ L (zR (some (hN h)) :: S0) _ F.heap locs (cells + 1 + x.toNat) (slots + x.toNat + x.toNat * k.toNat) ls hr3 ⟨Rm, ⟨by rw [f1]; have := a2.1; omega, fun q9 h1 h2 => (fo q9 (Nat.lt_of_lt_of_le h1 a2.1)).trans (a2.2.1 q9 h1 h2), a2.2.2⟩, a3, a4, a5, a6.tl.tl.cons trivial, by rw [NN.1]; omega, by rw [NN.2]; omega⟩ F rfl X'
      refine ⟨t, step t ?_, b2⟩
      rw [List.map_cons, show zenc (zrho base adr) (zR (some (hN h))) = .ref H.size by rw [zenc_R rfl, show zdr (some (hN h)) = hN h from rfl, hrho]] at b1
      rw [hT]
      exact b1
    · cases hr
  · cases hr
end MNAZ
