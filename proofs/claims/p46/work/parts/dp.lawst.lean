/-! The law's state between its calls; the calls that change. -/
/-- what stands all the while: texts, the script, the seed's row -/
def ST (L : Nat) (h : zH) : Prop := KS h ∧ (hT h zVB = 22 ∧ hL h zVB = L) ∧ (hT h 177 = 22 ∧ hL h 177 = 1)
/-- the room used so far, in units -/
def RU (b : Nat) (h : zH) : Prop := 178 ≤ hN h ∧ hN h ≤ 300 + 200 * b ∧ hU h ≤ 30000 + 7200 * b
def LW (L : Nat) (t : TSt) (b : Nat) (h : zH) : Prop := (∃ p v O, CJ h p v (wO t O)) ∧ (SS (wO t []) ∧ XS (wO t [])) ∧ t.2.2.2.2.2.2.2.2.2.1 = 0 ∧ ST L h ∧ RU b h
section LST
variable {L b : Nat} {t : TSt} {h h1 h2 : zH} {n top : Int} {R N : Nat → Int} {c : Nat} {Ol : Nat → Nat → Int} {s0 s1 : Option (Nat → Int)} {I : Nat → Int} {m : Int} {ec ep : Int} {d e : Nat} {W : Nat → Nat → Prop}
theorem KS_w (K : KS h) (G : Gw W d e h h2) (w : ∀ a k, W a k → a < zVB) : KS h2 := fun a ha => by
  have q := K a ha
  have nw : ∀ k, ¬ W a k := fun k z => by have := w a k z; omega
  have hb : a < hN h ∨ zVB ≤ a := Or.inr (by omega)
  exact ⟨(gT G hb).trans q.1, (gL G hb).trans q.2.1, (grI G hb nw).trans q.2.2.1, (grJ G hb nw).trans q.2.2.2⟩
theorem ST_w (S : ST L h) (n7 : 177 < hN h) (G : Gw W d e h h2) (w : ∀ a k, W a k → a < zVB) : ST L h2 := by
  obtain ⟨K, ⟨a1, a2⟩, b1, b2⟩ := S
  exact ⟨KS_w K G w, ⟨(gT G (Or.inr (Nat.le_refl _))).trans a1, (gL G (Or.inr (Nat.le_refl _))).trans a2⟩, (gT G (Or.inl n7)).trans b1, (gL G (Or.inl n7)).trans b2⟩
theorem RU_w (U : RU b h) {q : Nat} (G : Gw W d e h h2) (hd : d ≤ 200 * q) (he : e + 16 * d ≤ 7200 * q) : RU (b + q) h2 := by
  obtain ⟨u1, u2, u3⟩ := U
  obtain ⟨⟨g1, g2, g3⟩, _⟩ := G
  exact ⟨by omega, by omega, by omega⟩
theorem RU_m (U : RU b h) {q : Nat} (hq : b ≤ q) : RU q h := ⟨U.1, by have := U.2.1; omega, by have := U.2.2; omega⟩
theorem LW_m (U : LW L t b h) {q : Nat} (hq : b ≤ q) : LW L t q h := ⟨U.1, U.2.1, U.2.2.1, U.2.2.2.1, RU_m U.2.2.2.2 hq⟩
theorem zVB_v : zVB = 10000000 := rfl
theorem Wb_z (a k : Nat) (z : Wb a k) : a < zVB := Nat.lt_trans z (by decide)
theorem Wc_z (a k : Nat) (z : Wc a k) : a < zVB := by unfold Wc at z; have := zVB_v; omega
theorem Wbd_z (a k : Nat) (z : Wbd a k) : a < zVB := by have := Wbd_lt z; have := zVB_v; omega
theorem lz_L (U : LW L t b h) : LJ t h h := by
  obtain ⟨⟨p, v, O, J⟩, _⟩ := U
  exact ⟨p, v, O, J, Gw_r _ h⟩
theorem lz_n (U : LW L t b h) : 177 < hN h := U.2.2.2.2.1
theorem lz_z (U : LW L t b h) (hb : b ≤ 1000) : hN h + 2000 < zVB := by have := U.2.2.2.2.2.1; have := zVB_v; omega
/-- through calls that only read -/
theorem lz_J (U : LW L t b h) (J : LJ t h h2) : LW L t b h2 := by
  obtain ⟨_, S, m0, s, r⟩ := U
  obtain ⟨p, v, O, J, G⟩ := J
  exact ⟨⟨p, v, O, J⟩, S, m0, ST_w s r.1 G Wb_z, RU_w (q := 0) r G (Nat.zero_le _) (Nat.zero_le _)⟩
theorem lz_P (U : LW L (n, top, R, N, c, Ol, s0, s1, I, m, ec, ep) b h) : Prg n top R N ∧ RX n R := ⟨U.2.1.1.1, U.2.1.2.1⟩
theorem lz_0 (U : LW L (n, top, R, N, c, Ol, s0, s1, I, m, ec, ep) b h) : m = 0 := U.2.2.1
/-- through a change -/
theorem lz_C {t2 : TSt} (U : LW L t b h) {p v : Nat} {O : List Int} (J : CJ h2 p v (wO t2 O)) (G : Gw Wc 200 4000 h h2) (S : SS (wO t2 [])) (X : XS (wO t2 [])) (m0 : t2.2.2.2.2.2.2.2.2.2.1 = 0) : LW L t2 (b + 1) h2 :=
  ⟨⟨p, v, O, J⟩, ⟨S, X⟩, m0, ST_w U.2.2.2.1 U.2.2.2.2.1 G Wc_z, RU_w (q := 1) U.2.2.2.2 G (by decide) (by decide)⟩
theorem gr_77 : okCJ [(177, none)] = true := by decide
/-- through a run that writes no cell of the class's -/
theorem CJ_R {p v k : Nat} {σ : MSt} (J : CJ h p v σ) (F : RF 177 k h h2) (n7 : 177 < hN h) (t : hT h2 177 = hT h 177) (l : hL h2 177 = hL h 177) : CJ h2 p v σ := by
  let g : zH := (hN h, hU h, hT h, hL h, (fun a j => if a = 177 then hR h2 a j else hR h a j), (fun a j => if a = 177 then hI h2 a j else hI h a j), (fun a j => if a = 177 then hJ h2 a j else hJ h a j), (fun a j => if a = 177 then hF h2 a j else hF h a j), (fun a j => if a = 177 then hD h2 a j else hD h a j))
  have F1 : Fr [(177, none)] h g := by
    refine ⟨rfl, rfl, rfl, rfl, fun a j q => ?_⟩
    have ne : a ≠ 177 := fun z => by
      subst z
      exact Bool.noConfusion ((show inA [(177, none)] 177 j = true from rfl).symm.trans q)
    exact ⟨if_neg ne, if_neg ne, if_neg ne, if_neg ne, if_neg ne⟩
  have J1 := CJ_f J F1 gr_77
  have G : Gw W0 k (2000 * k) g h2 := by
    refine ⟨⟨F.1.1, F.1.2.1, ?_⟩, fun a ha => ?_, fun a j ha _ => ?_⟩
    · have := F.1.1
      have := F.1.2.2
      show hU h2 + 16 * hN h ≤ hU h + 16 * hN h2 + 2000 * k
      omega
    · by_cases c : a = 177
      · subst c; exact ⟨t, l⟩
      · have q := F.2 a ha c
        exact ⟨q.1, q.2.1⟩
    · by_cases c : a = 177
      · subst c; exact ⟨rfl, rfl, rfl, rfl, rfl⟩
      · have q := F.2 a ha c
        exact ⟨(congrFun q.2.2.1 j).trans (if_neg c).symm, (congrFun q.2.2.2.1 j).trans (if_neg c).symm, (congrFun q.2.2.2.2.1 j).trans (if_neg c).symm, (congrFun q.2.2.2.2.2.1 j).trans (if_neg c).symm, (congrFun q.2.2.2.2.2.2 j).trans (if_neg c).symm⟩
  exact CJ_0 J1 G
theorem ST_R {k : Nat} (S : ST L h) (F : RF 177 k h h2) (t : hT h2 177 = 22) (l : hL h2 177 = 1) : ST L h2 := by
  obtain ⟨K, ⟨a1, a2⟩, b1, b2⟩ := S
  have q := F.2 zVB (Or.inr (Nat.le_refl _)) (by decide)
  refine ⟨fun a ha => ?_, ⟨q.1.trans a1, q.2.1.trans a2⟩, t, l⟩
  have zv := zVB_v
  have q := F.2 a (Or.inr (by omega)) (by omega)
  have z := K a ha
  exact ⟨q.1.trans z.1, q.2.1.trans z.2.1, q.2.2.2.1.trans z.2.2.1, q.2.2.2.2.1.trans z.2.2.2⟩
theorem lz_R {k q : Nat} (U : LW L t b h) (F : RF 177 k h h2) (t7 : hT h2 177 = 22) (l7 : hL h2 177 = 1) (hk : k ≤ 200 * q) (hq : 2000 * k ≤ 7200 * q) : LW L t (b + q) h2 := by
  obtain ⟨⟨p, v, O, J⟩, S, m0, s, r⟩ := U
  refine ⟨⟨p, v, O, CJ_R J F r.1 (t7.trans s.2.2.1.symm) (l7.trans s.2.2.2.symm)⟩, S, m0, ST_R s F t7 l7, ?_⟩
  obtain ⟨⟨f1, f2, f3⟩, _⟩ := F
  obtain ⟨r1, r2, r3⟩ := r
  exact ⟨by omega, by omega, by omega⟩
/-- one number of the seed -/
theorem lz_next (U : LW L t b h) : ∃ x h1, zC 207 [zR (some 177)] h = some (.inl (some (zI x)), h1) ∧ (0 ≤ x ∧ x < 8388608) ∧ LW L t b h1 := by
  have s := U.2.2.2.1
  have n7 := lz_n U
  refine ⟨_, _, c_next s.2.2.1 n7 (by rw [s.2.2.2]; decide), yV_r _, ?_⟩
  exact lz_R (k := 0) (q := 0) U ⟨⟨Nat.le_refl _, Nat.le_refl _, Nat.le_refl _⟩, fun a _ e => Gs_sI h _ _ e⟩ s.2.2.1 s.2.2.2 (Nat.le_refl _) (Nat.le_refl _)
def chT (N2 : Nat → Int) : TSt → TSt
  | (n, top, R, N, c, Ol, s0, s1, I, m, ec, ep) => (n, top, R, N2, psc c, psh N Ol, s0, s1, I, m, ec, ep)
/-- a hole is filled, or not -/
theorem w_fill0 (U : LW L (n, top, R, N, c, Ol, s0, s1, I, m, ec, ep) b h) (hb : b ≤ 1000) {l f : Int} (e : lpAt n R 3 l = -1) : ∃ h2, zC 211 [zR (some 0), zI l, zI f] h = some (.inl (some (zI (-5))), h2) ∧ LW L (n, top, R, N, c, Ol, s0, s1, I, m, ec, ep) (b + 1) h2 := by
  have z := lz_z U hb
  obtain ⟨⟨p, v, O, J⟩, ⟨S, X⟩, m0, s, r⟩ := id U
  have K : KC h := J_K J
  have ea : aFill l f (n, top, R, N, c, Ol, s0, s1, I, m, O, ec, ep) = ((1, zI 0), (n, top, R, N, c, Ol, s0, s1, I, m, O, ec, ep)) := if_pos e
  have C := k_fill J S.1 (by omega) l f
  obtain ⟨h2, p2, v2, E, J2, G⟩ := c_L_filled K C (ty_aFill l f _)
  rw [ea] at E J2
  exact ⟨h2, E, lz_C U J2 G S X m0⟩
theorem w_fill (U : LW L (n, top, R, N, c, Ol, s0, s1, I, m, ec, ep) b h) (hb : b ≤ 1000) {l f : Int} (e : lpAt n R 3 l ≠ -1) (f0 : -1 ≤ f) (f1 : f ≤ 38) : ∃ h2, zC 211 [zR (some 0), zI l, zI f] h = some (.inl (some (zI (nfC n top R (upN N (2294 + lpAt n R 3 l).toNat f)))), h2) ∧ LW L (chT (upN N (2294 + lpAt n R 3 l).toNat f) (n, top, R, N, c, Ol, s0, s1, I, m, ec, ep)) (b + 1) h2 := by
  have z := lz_z U hb
  obtain ⟨⟨p, v, O, J⟩, ⟨S, X⟩, m0, s, r⟩ := id U
  have K : KC h := J_K J
  have ea : aFill l f (n, top, R, N, c, Ol, s0, s1, I, m, O, ec, ep) = ((0, zI (nfC n top R (upN N (2294 + lpAt n R 3 l).toNat f))), (n, top, R, upN N (2294 + lpAt n R 3 l).toNat f, psc c, psh N Ol, s0, s1, I, m, O, ec, ep)) := (if_neg e).trans (if_pos ⟨f0, f1⟩)
  have C := k_fill J S.1 (by omega) l f
  have S2 := SS_fill (σ := (n, top, R, N, c, Ol, s0, s1, I, m, O, ec, ep)) S l f
  have X2 := XS_fill (top := top) (I := I) (m := m) (O := O) (ec := ec) (ep := ep) X S.1 l f
  obtain ⟨h2, p2, v2, E, J2, G⟩ := c_L_filled K C (ty_aFill l f _)
  rw [ea] at E J2 S2 X2
  exact ⟨h2, E, lz_C (t2 := chT (upN N (2294 + lpAt n R 3 l).toNat f) (n, top, R, N, c, Ol, s0, s1, I, m, ec, ep)) U J2 G S2 X2 m0⟩
theorem w_price0 (U : LW L (n, top, R, N, c, Ol, s0, s1, I, m, ec, ep) b h) (hb : b ≤ 1000) {s x : Int} (e : ¬ (0 ≤ s ∧ s < n)) : ∃ h2, zC 212 [zR (some 0), zI s, zI x] h = some (.inl (some (zI (-5))), h2) ∧ LW L (n, top, R, N, c, Ol, s0, s1, I, m, ec, ep) (b + 1) h2 := by
  have z := lz_z U hb
  obtain ⟨⟨p, v, O, J⟩, ⟨S, X⟩, m0, _, r⟩ := id U
  have K : KC h := J_K J
  have ea : aSetPrice s x (n, top, R, N, c, Ol, s0, s1, I, m, O, ec, ep) = ((1, zI 0), (n, top, R, N, c, Ol, s0, s1, I, m, O, ec, ep)) := if_neg e
  have C := k_setPrice J S.1 (by omega) s x
  obtain ⟨h2, p2, v2, E, J2, G⟩ := c_L_priced K C (ty_aSetPrice s x _)
  rw [ea] at E J2
  exact ⟨h2, E, lz_C U J2 G S X m0⟩
theorem w_price1 (U : LW L (n, top, R, N, c, Ol, s0, s1, I, m, ec, ep) b h) (hb : b ≤ 1000) {s x : Int} (e : 0 ≤ s ∧ s < n) (ex : ¬ (0 ≤ x ∧ x ≤ 99)) : ∃ h2, zC 212 [zR (some 0), zI s, zI x] h = some (.inl (some (zI (-2))), h2) ∧ LW L (n, top, R, N, c, Ol, s0, s1, I, m, ec, ep) (b + 1) h2 := by
  have z := lz_z U hb
  obtain ⟨⟨p, v, O, J⟩, ⟨S, X⟩, m0, _, r⟩ := id U
  have K : KC h := J_K J
  have ea : aSetPrice s x (n, top, R, N, c, Ol, s0, s1, I, m, O, ec, ep) = ((2, zI 0), (n, top, R, N, c, Ol, s0, s1, I, m, O, ec, ep)) := (if_pos e).trans (if_neg ex)
  have C := k_setPrice J S.1 (by omega) s x
  obtain ⟨h2, p2, v2, E, J2, G⟩ := c_L_priced K C (ty_aSetPrice s x _)
  rw [ea] at E J2
  exact ⟨h2, E, lz_C U J2 G S X m0⟩
theorem w_price (U : LW L (n, top, R, N, c, Ol, s0, s1, I, m, ec, ep) b h) (hb : b ≤ 1000) {s x : Int} (e : 0 ≤ s ∧ s < n) (ex : 0 ≤ x ∧ x ≤ 99) : ∃ h2, zC 212 [zR (some 0), zI s, zI x] h = some (.inl (some (zI (N (2318 + s).toNat))), h2) ∧ LW L (chT (upN N (2318 + s).toNat x) (n, top, R, N, c, Ol, s0, s1, I, m, ec, ep)) (b + 1) h2 := by
  have z := lz_z U hb
  obtain ⟨⟨p, v, O, J⟩, ⟨S, X⟩, m0, _, r⟩ := id U
  have K : KC h := J_K J
  have ea : aSetPrice s x (n, top, R, N, c, Ol, s0, s1, I, m, O, ec, ep) = ((0, zI (N (2318 + s).toNat)), (n, top, R, upN N (2318 + s).toNat x, psc c, psh N Ol, s0, s1, I, m, O, ec, ep)) := (if_pos e).trans (if_pos ex)
  have C := k_setPrice J S.1 (by omega) s x
  have S2 := SS_setPrice (σ := (n, top, R, N, c, Ol, s0, s1, I, m, O, ec, ep)) S s x
  have X2 := XS_setPrice (top := top) (I := I) (m := m) (O := O) (ec := ec) (ep := ep) X S.1 s x
  obtain ⟨h2, p2, v2, E, J2, G⟩ := c_L_priced K C (ty_aSetPrice s x _)
  rw [ea] at E J2 S2 X2
  exact ⟨h2, E, lz_C (t2 := chT (upN N (2318 + s).toNat x) (n, top, R, N, c, Ol, s0, s1, I, m, ec, ep)) U J2 G S2 X2 m0⟩
/-- the class's own setPrice -/
theorem v_price (U : LW L (n, top, R, N, c, Ol, s0, s1, I, m, ec, ep) b h) (hb : b ≤ 1000) {s x : Int} (e : 0 ≤ s ∧ s < n) (ex : 0 ≤ x ∧ x ≤ 99) : ∃ h2, zC 198 [zR (some 0), zI s, zI x] h = some (.inl (some (zI (N (2318 + s).toNat))), h2) ∧ LW L (chT (upN N (2318 + s).toNat x) (n, top, R, N, c, Ol, s0, s1, I, m, ec, ep)) (b + 1) h2 := by
  have z := lz_z U hb
  obtain ⟨⟨p, v, O, J⟩, ⟨S, X⟩, m0, _, r⟩ := id U
  have ea : aSetPrice s x (n, top, R, N, c, Ol, s0, s1, I, m, O, ec, ep) = ((0, zI (N (2318 + s).toNat)), (n, top, R, upN N (2318 + s).toNat x, psc c, psh N Ol, s0, s1, I, m, O, ec, ep)) := (if_pos e).trans (if_pos ex)
  have S2 := SS_setPrice (σ := (n, top, R, N, c, Ol, s0, s1, I, m, O, ec, ep)) S s x
  have X2 := XS_setPrice (top := top) (I := I) (m := m) (O := O) (ec := ec) (ep := ep) X S.1 s x
  obtain ⟨h2, p2, v2, E, J2, G⟩ := k_setPrice J S.1 (by omega) s x
  rw [ea] at E J2 S2 X2
  exact ⟨h2, E, lz_C (t2 := chT (upN N (2318 + s).toNat x) (n, top, R, N, c, Ol, s0, s1, I, m, ec, ep)) U J2 G S2 X2 m0⟩
theorem w_undo (U : LW L (n, top, R, N, c, Ol, s0, s1, I, m, ec, ep) b h) (hb : b ≤ 1000) (hc : 0 < c) : ∃ h2, zC 210 [zR (some 0)] h = some (.inl (some (zI ((c : Int) - 1))), h2) ∧ LW L (n, top, R, Ol 0, c - 1, (fun i => Ol (i + 1)), s0, s1, I, m, ec, ep) (b + 1) h2 := by
  have z := lz_z U hb
  obtain ⟨⟨p, v, O, J⟩, ⟨S, X⟩, m0, _, r⟩ := id U
  have K : KC h := J_K J
  have ea : aUndo (n, top, R, N, c, Ol, s0, s1, I, m, O, ec, ep) = ((0, zI ((c : Int) - 1)), (n, top, R, Ol 0, c - 1, (fun i => Ol (i + 1)), s0, s1, I, m, O, ec, ep)) := if_neg (by omega)
  have C := k_undo J S.1 (fun i hi => (S.2.2.2.1.2 i hi).1) X.2.1 (by omega)
  have S2 := SS_undo (σ := (n, top, R, N, c, Ol, s0, s1, I, m, O, ec, ep)) S
  have X2 := XS_undo (top := top) (I := I) (m := m) (O := O) (ec := ec) (ep := ep) X
  obtain ⟨h2, p2, v2, E, J2, G⟩ := c_L_undone K C (ty_aUndo _)
  rw [ea] at E J2 S2 X2
  exact ⟨h2, E, lz_C (t2 := (n, top, R, Ol 0, c - 1, (fun i => Ol (i + 1)), s0, s1, I, m, ec, ep)) U J2 G S2 X2 m0⟩
theorem v_restore (U : LW L (n, top, R, N, c, Ol, s0, s1, I, m, ec, ep) b h) (hb : b ≤ 1000) {x : Int} {N2 : Nat → Int} (x0 : 0 ≤ x ∧ x ≤ 1) (es : slt x s0 s1 = some N2) : ∃ h2, zC 199 [zR (some 0), zI x] h = some (.inl (some (zI (nfC n top R N2))), h2) ∧ LW L (chT N2 (n, top, R, N, c, Ol, s0, s1, I, m, ec, ep)) (b + 1) h2 := by
  have z := lz_z U hb
  obtain ⟨⟨p, v, O, J⟩, ⟨S, X⟩, m0, _, r⟩ := id U
  have ea : aRestore x (n, top, R, N, c, Ol, s0, s1, I, m, O, ec, ep) = ((0, zI (nfC n top R N2)), (n, top, R, N2, psc c, psh N Ol, s0, s1, I, m, O, ec, ep)) := by
    unfold aRestore
    simp only
    rw [if_pos x0, es]
    rfl
  have C := k_restore J S.1 (fun y M hy => ⟨(slt_ok S hy).1, by
    unfold slt at hy
    split at hy
    · exact X.2.2.1 M hy
    · exact X.2.2.2 M hy⟩) (by omega) x
  have S2 := SS_restore (σ := (n, top, R, N, c, Ol, s0, s1, I, m, O, ec, ep)) S x
  have X2 := XS_restore (top := top) (I := I) (m := m) (O := O) (ec := ec) (ep := ep) X x
  obtain ⟨h2, p2, v2, E, J2, G⟩ := C
  rw [ea] at E J2 S2 X2
  exact ⟨h2, E, lz_C (t2 := chT N2 (n, top, R, N, c, Ol, s0, s1, I, m, ec, ep)) U J2 G S2 X2 m0⟩
theorem v_save (U : LW L (n, top, R, N, c, Ol, none, none, I, m, ec, ep) b h) (hb : b ≤ 1000) {x : Int} (x0 : x = 0 ∨ x = 1) : ∃ h2, zC 202 [zR (some 0), zI x] h = some (.inl (some (zI 1)), h2) ∧ LW L (n, top, R, N, c, Ol, (if x = 0 then some N else none), (if x = 1 then some N else none), I, m, ec, ep) (b + 1) h2 := by
  have z := lz_z U hb
  obtain ⟨⟨p, v, O, J⟩, ⟨S, X⟩, m0, _, r⟩ := id U
  have ea : aSave x (n, top, R, N, c, Ol, none, none, I, m, O, ec, ep) = ((0, zI 1), (n, top, R, N, c, Ol, (if x = 0 then some N else none), (if x = 1 then some N else none), I, m, O, ec, ep)) := by
    rcases x0 with q | q <;> (subst q; rfl)
  have S2 := SS_save (σ := (n, top, R, N, c, Ol, none, none, I, m, O, ec, ep)) S x
  have X2 := XS_save (top := top) (I := I) (m := m) (O := O) (ec := ec) (ep := ep) X x
  obtain ⟨h2, p2, v2, E, J2, G⟩ := k_save J S.1 (by omega) x
  rw [ea] at E J2 S2 X2
  exact ⟨h2, E, lz_C (t2 := (n, top, R, N, c, Ol, (if x = 0 then some N else none), (if x = 1 then some N else none), I, m, ec, ep)) U J2 G S2 X2 m0⟩
theorem v_proves (U : LW L (n, top, R, N, c, Ol, s0, s1, I, m, ec, ep) b h) (hb : b ≤ 1000) {l : Int} (e : lpAt n R 3 l ≠ -1) : ∃ x h2, zC 181 [zR (some 0), zI l] h = some (.inl (some (zI x)), h2) ∧ LW L (n, top, R, N, c, Ol, s0, s1, I, m, ec, ep) (b + 1) h2 ∧ aProves n top R N l = (0, zI x) := by
  have z := lz_z U hb
  obtain ⟨⟨p, v, O, J⟩, ⟨S, X⟩, m0, _, r⟩ := id U
  obtain ⟨h2, p2, v2, E, J2, G⟩ := k_proves J S.1 (by omega) l
  obtain ⟨x, ex⟩ : ∃ x, aProves n top R N l = (0, zI x) := by
    unfold aProves
    exact ⟨_, if_neg e⟩
  rw [ex] at E
  exact ⟨x, h2, E, lz_C U J2 G S X m0, ex⟩
theorem v_rights (U : LW L (n, top, R, N, c, Ol, s0, s1, I, m, ec, ep) b h) (hb : b ≤ 1000) {l : Int} (e : lpAt n R 3 l ≠ -1) : ∃ x h2, zC 184 [zR (some 0), zI l] h = some (.inl (some (zI x)), h2) ∧ LW L (n, top, R, N, c, Ol, s0, s1, I, m, ec, ep) (b + 1) h2 ∧ aRights n top R N l = (0, zI x) := by
  have z := lz_z U hb
  obtain ⟨⟨p, v, O, J⟩, ⟨S, X⟩, m0, _, r⟩ := id U
  obtain ⟨h2, p2, v2, E, J2, G⟩ := k_rights J S.1 (by omega) l
  obtain ⟨x, ex⟩ : ∃ x, aRights n top R N l = (0, zI x) := by
    unfold aRights
    exact ⟨_, if_neg e⟩
  rw [ex] at E
  exact ⟨x, h2, E, lz_C U J2 G S X m0, ex⟩
/-- a text is typed -/
theorem w_type (U : LW L (n, top, R, N, c, Ol, s0, s1, I, m, ec, ep) b h) (hb : b ≤ 1000) {s : Nat} {V : List Int} (Xa : TXa h s V) (A : ascL V) (l : V.length ≤ 780) : ∃ h2 p v O I2 m2, zC 209 [zR (some 0), zR (some s)] h = some (.inl (some (zI (V.length : Int))), h2) ∧ CJ h2 p v (n, top, R, N, c, Ol, s0, s1, I2, m2, O, ec, ep) ∧ (V.length : Int) ≤ m2 ∧ m2 ≤ 800 ∧ (∀ i, i < V.length → I2 i = tg V i) ∧ Gw Wbd 1 5 h h2 ∧ ST L h2 ∧ RU (b + 1) h2 ∧ SS (n, top, R, N, c, Ol, s0, s1, I2, m2, O, ec, ep) ∧ XS (n, top, R, N, c, Ol, s0, s1, I2, m2, O, ec, ep) := by
  have z := lz_z U hb
  have e0 := lz_0 U
  subst e0
  obtain ⟨⟨p, v, O, J⟩, ⟨S, X⟩, m0, st, r⟩ := id U
  obtain ⟨h2, I2, m2, E, J2, l1, l2, l3, G⟩ := c_type J Xa A l (by omega)
  refine ⟨h2, p, v, O, I2, m2, E, J2, l1, l2, l3, G, ST_w st r.1 G Wbd_z, RU_w (q := 1) r G (by decide) (by decide), ?_, X⟩
  exact ⟨S.1, S.2.1, S.2.2.1, S.2.2.2.1, S.2.2.2.2.1, S.2.2.2.2.2.1, by omega⟩
theorem lz_C2 {t2 : TSt} {p v : Nat} {O : List Int} (s : ST L h1) (r : RU b h1) (J : CJ h2 p v (wO t2 O)) (G : Gw Wc 200 4000 h1 h2) (S : SS (wO t2 [])) (X : XS (wO t2 [])) (m0 : t2.2.2.2.2.2.2.2.2.2.1 = 0) : LW L t2 (b + 1) h2 :=
  ⟨⟨p, v, O, J⟩, ⟨S, X⟩, m0, ST_w s r.1 G Wc_z, RU_w (q := 1) r G (by decide) (by decide)⟩
/-- a program is loaded -/
theorem w_load (U : LW L (n, top, R, N, c, Ol, s0, s1, I, m, ec, ep) b h) (hb : b ≤ 900) {s : Nat} {V : List Int} {cnt : Int} (Xa : TXa h s (spl V)) (w : wok V) (ne : V ≠ []) (l : (spl V).length ≤ 780) (P : Pfx V [] cnt) : ∃ h2 top2 R2 N2 I2, zC 208 [zR (some 0), zR (some s)] h = some (.inl (some (zI cnt)), h2) ∧ LW L (cnt, top2, R2, N2, 0, Ol, none, none, I2, 0, 0, -1) (b + 2) h2 := by
  obtain ⟨h1, p, v, O, I2, m2, E1, J1, l1, l2, l3, G1, st, r, S, X⟩ := w_type U (by omega) Xa (asc_spl V w) l
  have K : KC h1 := J_K J1
  have r2 := r.2.1
  have zv := zVB_v
  have C := k_load J1 (by omega) S.2.1 r.1 (by omega) ((spl V).length : Int)
  obtain ⟨h2, p2, v2, E, J2, G⟩ := c_L_load E1 K C (ty_aLoad _ _)
  have TK : TKs I2 ((spl V).length : Int) V (tok I2 ((spl V).length : Int) false 0) := by
    cases V with
    | nil => exact absurd rfl ne
    | cons x l' => exact tks_spl l3 rfl l w rfl
  have lV : V.length ≤ 800 := by
    cases V with
    | nil => exact absurd rfl ne
    | cons x l' =>
      have q := (ctx_len l' fun y hy => w y (List.mem_cons_of_mem _ hy)).1
      have e : (spl (x :: l')).length = (wlt x).length + (ctx l').length := List.length_append
      rw [List.length_cons]
      omega
  obtain ⟨t1, t2⟩ := pf_txt (fa := 0) (R := R) P lV (by omega) (by omega) TK
  have S2 := SS_load S ((spl V).length : Int)
  have X2 := XS_load X S.2.1 (by omega) ((spl V).length : Int)
  have ea : aLoad ((spl V).length : Int) (n, top, R, N, c, Ol, s0, s1, I2, m2, O, ec, ep) = ((0, zI cnt), (cnt, (txtP I2 ((spl V).length : Int) (begS I2 ((spl V).length : Int) 0 R)).2.2.1.2.1, (txtP I2 ((spl V).length : Int) (begS I2 ((spl V).length : Int) 0 R)).2.2.1.2.2.1, (txtP I2 ((spl V).length : Int) (begS I2 ((spl V).length : Int) 0 R)).2.2.1.2.2.2, 0, Ol, none, none, I2, 0, O, 0, -1)) := by
    unfold aLoad
    simp only
    rw [if_pos ⟨by omega, l1⟩, if_pos t1, t2]
  rw [ea] at E J2 S2 X2
  exact ⟨h2, _, _, _, I2, E, lz_C2 (t2 := (cnt, (txtP I2 ((spl V).length : Int) (begS I2 ((spl V).length : Int) 0 R)).2.2.1.2.1, (txtP I2 ((spl V).length : Int) (begS I2 ((spl V).length : Int) 0 R)).2.2.1.2.2.1, (txtP I2 ((spl V).length : Int) (begS I2 ((spl V).length : Int) 0 R)).2.2.1.2.2.2, 0, Ol, none, none, I2, 0, 0, -1)) st r J2 G S2 X2 rfl⟩
theorem w_before0 (U : LW L (n, top, R, N, c, Ol, s0, s1, I, m, ec, ep) b h) (hb : b ≤ 900) {s : Nat} {V : List Int} (Xa : TXa h s V) (A : ascL V) (l : V.length ≤ 780) (bad : ∀ I2, (∀ i, i < V.length → I2 i = tg V i) → ¬ alE I2 (V.length : Int) 0 1 N = 0) : ∃ h2 I2 ec2 ep2, zC 213 [zR (some 0), zR (some s)] h = some (.inl (some (zI (-3))), h2) ∧ LW L (n, top, R, N, c, Ol, s0, s1, I2, 0, ec2, ep2) (b + 2) h2 := by
  obtain ⟨h1, p, v, O, I2, m2, E1, J1, l1, l2, l3, G1, st, r, S, X⟩ := w_type U (by omega) Xa A l
  have K : KC h1 := J_K J1
  have r2 := r.2.1
  have zv := zVB_v
  have C := k_setBefore J1 S.1 (by omega) r.1 (by omega) (V.length : Int)
  obtain ⟨h2, p2, v2, E, J2, G⟩ := c_L_before E1 K C (ty_aSetB _ _ _)
  have S2 := SS_setB S (q := 0) (by decide) (V.length : Int)
  have X2 := XS_setB X S.1 (q := 0) (by decide) (V.length : Int)
  have be := bad I2 l3
  have ea : aSetB 0 (V.length : Int) (n, top, R, N, c, Ol, s0, s1, I2, m2, O, ec, ep) = ((2, zI 0), (n, top, R, N, c, Ol, s0, s1, I2, 0, O, alE I2 (V.length : Int) 0 1 N, alA I2 (V.length : Int) 0 1 N)) := by
    unfold aSetB frmS
    simp only
    rw [if_pos ⟨by omega, l1⟩, if_neg be, if_neg be]
  rw [ea] at E J2 S2 X2
  exact ⟨h2, I2, _, _, E, lz_C2 (t2 := (n, top, R, N, c, Ol, s0, s1, I2, 0, alE I2 (V.length : Int) 0 1 N, alA I2 (V.length : Int) 0 1 N)) st r J2 G S2 X2 rfl⟩
theorem w_before (U : LW L (n, top, R, N, c, Ol, s0, s1, I, m, ec, ep) b h) (hb : b ≤ 900) {s : Nat} {V : List Int} (Xa : TXa h s V) (A : ascL V) (l : V.length ≤ 780) (good : ∀ I2, (∀ i, i < V.length → I2 i = tg V i) → alE I2 (V.length : Int) 0 1 N = 0) : ∃ h2 I2 N2, zC 213 [zR (some 0), zR (some s)] h = some (.inl (some (zI (f_M_ones (setL (lst N2 0))))), h2) ∧ LW L (n, top, R, N2, psc c, psh N Ol, s0, s1, I2, 0, 0, -1) (b + 2) h2 := by
  obtain ⟨h1, p, v, O, I2, m2, E1, J1, l1, l2, l3, G1, st, r, S, X⟩ := w_type U (by omega) Xa A l
  have K : KC h1 := J_K J1
  have r2 := r.2.1
  have zv := zVB_v
  have C := k_setBefore J1 S.1 (by omega) r.1 (by omega) (V.length : Int)
  obtain ⟨h2, p2, v2, E, J2, G⟩ := c_L_before E1 K C (ty_aSetB _ _ _)
  have S2 := SS_setB S (q := 0) (by decide) (V.length : Int)
  have X2 := XS_setB X S.1 (q := 0) (by decide) (V.length : Int)
  have be := good I2 l3
  have ea : aSetB 0 (V.length : Int) (n, top, R, N, c, Ol, s0, s1, I2, m2, O, ec, ep) = ((0, zI (f_M_ones (setL (lst (alN I2 (V.length : Int) 0 1 N) 0)))), (n, top, R, alN I2 (V.length : Int) 0 1 N, psc c, psh N Ol, s0, s1, I2, 0, O, 0, -1)) := by
    unfold aSetB frmS
    simp only
    rw [if_pos ⟨by omega, l1⟩, if_pos be, if_pos be]
  rw [ea] at E J2 S2 X2
  exact ⟨h2, I2, _, E, lz_C2 (t2 := (n, top, R, alN I2 (V.length : Int) 0 1 N, psc c, psh N Ol, s0, s1, I2, 0, 0, -1)) st r J2 G S2 X2 rfl⟩
theorem w_after0 (U : LW L (n, top, R, N, c, Ol, s0, s1, I, m, ec, ep) b h) (hb : b ≤ 900) {s : Nat} {V : List Int} (Xa : TXa h s V) (A : ascL V) (l : V.length ≤ 780) (bad : ∀ I2, (∀ i, i < V.length → I2 i = tg V i) → ¬ alE I2 (V.length : Int) 1 1 N = 0) : ∃ h2 I2 ec2 ep2, zC 214 [zR (some 0), zR (some s)] h = some (.inl (some (zI (-3))), h2) ∧ LW L (n, top, R, N, c, Ol, s0, s1, I2, 0, ec2, ep2) (b + 2) h2 := by
  obtain ⟨h1, p, v, O, I2, m2, E1, J1, l1, l2, l3, G1, st, r, S, X⟩ := w_type U (by omega) Xa A l
  have K : KC h1 := J_K J1
  have r2 := r.2.1
  have zv := zVB_v
  have C := k_setAfter J1 S.1 (by omega) r.1 (by omega) (V.length : Int)
  obtain ⟨h2, p2, v2, E, J2, G⟩ := c_L_after E1 K C (ty_aSetB _ _ _)
  have S2 := SS_setB S (q := 1) (by decide) (V.length : Int)
  have X2 := XS_setB X S.1 (q := 1) (by decide) (V.length : Int)
  have be := bad I2 l3
  have ea : aSetB 1 (V.length : Int) (n, top, R, N, c, Ol, s0, s1, I2, m2, O, ec, ep) = ((2, zI 0), (n, top, R, N, c, Ol, s0, s1, I2, 0, O, alE I2 (V.length : Int) 1 1 N, alA I2 (V.length : Int) 1 1 N)) := by
    unfold aSetB frmS
    simp only
    rw [if_pos ⟨by omega, l1⟩, if_neg be, if_neg be]
  rw [ea] at E J2 S2 X2
  exact ⟨h2, I2, _, _, E, lz_C2 (t2 := (n, top, R, N, c, Ol, s0, s1, I2, 0, alE I2 (V.length : Int) 1 1 N, alA I2 (V.length : Int) 1 1 N)) st r J2 G S2 X2 rfl⟩
theorem w_after (U : LW L (n, top, R, N, c, Ol, s0, s1, I, m, ec, ep) b h) (hb : b ≤ 900) {s : Nat} {V : List Int} (Xa : TXa h s V) (A : ascL V) (l : V.length ≤ 780) (good : ∀ I2, (∀ i, i < V.length → I2 i = tg V i) → alE I2 (V.length : Int) 1 1 N = 0) : ∃ h2 I2 N2, zC 214 [zR (some 0), zR (some s)] h = some (.inl (some (zI (f_M_ones (setL (lst N2 1))))), h2) ∧ LW L (n, top, R, N2, psc c, psh N Ol, s0, s1, I2, 0, 0, -1) (b + 2) h2 := by
  obtain ⟨h1, p, v, O, I2, m2, E1, J1, l1, l2, l3, G1, st, r, S, X⟩ := w_type U (by omega) Xa A l
  have K : KC h1 := J_K J1
  have r2 := r.2.1
  have zv := zVB_v
  have C := k_setAfter J1 S.1 (by omega) r.1 (by omega) (V.length : Int)
  obtain ⟨h2, p2, v2, E, J2, G⟩ := c_L_after E1 K C (ty_aSetB _ _ _)
  have S2 := SS_setB S (q := 1) (by decide) (V.length : Int)
  have X2 := XS_setB X S.1 (q := 1) (by decide) (V.length : Int)
  have be := good I2 l3
  have ea : aSetB 1 (V.length : Int) (n, top, R, N, c, Ol, s0, s1, I2, m2, O, ec, ep) = ((0, zI (f_M_ones (setL (lst (alN I2 (V.length : Int) 1 1 N) 1)))), (n, top, R, alN I2 (V.length : Int) 1 1 N, psc c, psh N Ol, s0, s1, I2, 0, O, 0, -1)) := by
    unfold aSetB frmS
    simp only
    rw [if_pos ⟨by omega, l1⟩, if_pos be, if_pos be]
  rw [ea] at E J2 S2 X2
  exact ⟨h2, I2, _, E, lz_C2 (t2 := (n, top, R, alN I2 (V.length : Int) 1 1 N, psc c, psh N Ol, s0, s1, I2, 0, 0, -1)) st r J2 G S2 X2 rfl⟩
theorem w_keep (U : LW L (n, top, R, N, c, Ol, s0, s1, I, m, ec, ep) b h) (hb : b ≤ 900) {s : Nat} {V : List Int} {l : Int} (el : lpAt n R 2 l ≠ -1) (Xa : TXa h s V) (A : ascL V) (l8 : V.length ≤ 780) (good : ∀ I2, (∀ i, i < V.length → I2 i = tg V i) → alE I2 (V.length : Int) (26 + lpAt n R 2 l) 1 N = 0) : ∃ h2 I2 N2, zC 221 [zR (some 0), zI l, zR (some s)] h = some (.inl (some (zI (f_M_ones (setL (lst N2 (26 + lpAt n R 2 l)))))), h2) ∧ LW L (n, top, R, N2, psc c, psh N Ol, s0, s1, I2, 0, 0, -1) (b + 2) h2 := by
  obtain ⟨h1, p, v, O, I2, m2, E1, J1, l1, l2, l3, G1, st, r, S, X⟩ := w_type U (by omega) Xa A l8
  have K : KC h1 := J_K J1
  have r2 := r.2.1
  have zv := zVB_v
  have C := k_setKeep J1 S.1 (by omega) r.1 (by omega) l (V.length : Int)
  obtain ⟨h2, p2, v2, E, J2, G⟩ := c_L_keep E1 K C (ty_aSetK _ _ _)
  have S2 := SS_setK S l (V.length : Int)
  have X2 := XS_setK X S.1 l (V.length : Int)
  have be := good I2 l3
  have ea : aSetK l (V.length : Int) (n, top, R, N, c, Ol, s0, s1, I2, m2, O, ec, ep) = ((0, zI (f_M_ones (setL (lst (alN I2 (V.length : Int) (26 + lpAt n R 2 l) 1 N) (26 + lpAt n R 2 l))))), (n, top, R, alN I2 (V.length : Int) (26 + lpAt n R 2 l) 1 N, psc c, psh N Ol, s0, s1, I2, 0, O, 0, -1)) := by
    unfold aSetK frmS
    simp only
    rw [if_neg el, if_pos ⟨by omega, l1⟩, if_pos be, if_pos be]
  rw [ea] at E J2 S2 X2
  exact ⟨h2, I2, _, E, lz_C2 (t2 := (n, top, R, alN I2 (V.length : Int) (26 + lpAt n R 2 l) 1 N, psc c, psh N Ol, s0, s1, I2, 0, 0, -1)) st r J2 G S2 X2 rfl⟩
theorem w_less (U : LW L (n, top, R, N, c, Ol, s0, s1, I, m, ec, ep) b h) (hb : b ≤ 900) {s : Nat} {V : List Int} {l : Int} (el : lpAt n R 2 l ≠ -1) (Xa : TXa h s V) (A : ascL V) (l8 : V.length ≤ 780) (good : ∀ I2, (∀ i, i < V.length → I2 i = tg V i) → alE I2 (V.length : Int) (50 + lpAt n R 2 l) 0 N = 0) : ∃ h2 I2 N2, zC 222 [zR (some 0), zI l, zR (some s)] h = some (.inl (some (zI (grA N2 (lpAt n R 2 l) 64))), h2) ∧ LW L (n, top, R, N2, psc c, psh N Ol, s0, s1, I2, 0, 0, -1) (b + 2) h2 := by
  obtain ⟨h1, p, v, O, I2, m2, E1, J1, l1, l2, l3, G1, st, r, S, X⟩ := w_type U (by omega) Xa A l8
  have K : KC h1 := J_K J1
  have r2 := r.2.1
  have zv := zVB_v
  have C := k_setLess J1 S.1 (by omega) r.1 (by omega) l (V.length : Int)
  obtain ⟨h2, p2, v2, E, J2, G⟩ := c_L_less E1 K C (ty_aSetL _ _ _)
  have S2 := SS_setL S l (V.length : Int)
  have X2 := XS_setL X S.1 l (V.length : Int)
  have be := good I2 l3
  have ea : aSetL l (V.length : Int) (n, top, R, N, c, Ol, s0, s1, I2, m2, O, ec, ep) = ((0, zI (grA (alN I2 (V.length : Int) (50 + lpAt n R 2 l) 0 N) (lpAt n R 2 l) 64)), (n, top, R, alN I2 (V.length : Int) (50 + lpAt n R 2 l) 0 N, psc c, psh N Ol, s0, s1, I2, 0, O, 0, -1)) := by
    unfold aSetL frmS
    simp only
    rw [if_neg el, if_pos ⟨by omega, l1⟩, if_pos be, if_pos be]
  rw [ea] at E J2 S2 X2
  exact ⟨h2, I2, _, E, lz_C2 (t2 := (n, top, R, alN I2 (V.length : Int) (50 + lpAt n R 2 l) 0 N, psc c, psh N Ol, s0, s1, I2, 0, 0, -1)) st r J2 G S2 X2 rfl⟩
end LST
