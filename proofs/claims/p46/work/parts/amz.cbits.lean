/-! The class: a float's and a double's bits, computed. -/
section CBITS
variable {h : zH} {n top : Int} {R N : Nat → Int}
theorem coT_R (w : WS n R) (v : WN n R N) {th : Int → Int} {al : Int} (p : Int × Int) : ∀ (t : Nat), 16 * t ≤ 2 ^ 24 → (∀ i, i < t → 0 ≤ (orb R N th al p i).1 ∧ (orb R N th al p i).1 < n) → fgR (16 * t) (coT R N th al p t)
  | 0, _, _ => fgR_0
  | t + 1, ht, h => by
    have h1 := h t (by omega)
    have hp := (v.2.2 _ h1.1 h1.2).2.2.2.2
    exact fgR_add (coT_R w v p t (by omega) fun i hi => h i (by omega)) (prc_R hp.1 hp.2) (by omega)
theorem coC_R (P : Prg n top R N) {st : Int} (h2 : 0 ≤ st) (h3 : st < 64) (hE : EC n top R N st ≠ -1) : fgR 24576 (coC R N top st) := by
  have hD := runD_C P h2 h3
  by_cases ht : top = -1
  · have h0 : dT R N top st = 0 := by
      obtain ⟨D, hD2, h4⟩ := runD_top (Prg_S P) h2 h3
      rw [← dT_e hD2]
      exact (h4 ht).1
    show fgR 24576 (coT R N (thn R) (-1) (top, st) (dT R N top st))
    rw [h0]
    exact fgR_m fgR_0 (by omega)
  · obtain ⟨⟨d1, d2, d3⟩, d4, d5⟩ := hD
    have d6 := (d5 hE).2
    have hnn : ∀ i, i < dT R N top st → (orb R N (thn R) (-1) (top, st) i).1 ≠ -1 := fun i hi e => d3 i hi (Or.inl e)
    have hp : pv n (top, st) := ⟨(Sem_top (Prg_S P)).resolve_left ht, h2, h3⟩
    exact fgR_m (coT_R P.1 P.2.1 _ _ (by omega) fun i hi => ((orb_v (al := -1) P.1 P.2.1 (isTS_thR P.1 (isTS_t P.1 (-1))) hp i fun j hj => hnn j (by omega)).1.resolve_left (hnn i hi))) (by omega)
theorem meA_R (P : Prg n top R N) : ∀ k : Nat, k ≤ 64 → dgR (24576 * k) (meA n top R N k).1
  | 0, _ => dgR_0
  | k + 1, hk => by
    have i := meA_R P k (by omega)
    rw [meA]
    by_cases c : bt (setL (lst N 0)) k = true ∧ EC n top R N k ≠ -1
    · rw [if_pos c]
      exact dgR_add (u := 24576 * k) (w := 24576) i (f2d_R (coC_R P (st := k) (by omega) (by omega) c.2) (by decide)) (by omega)
    · rw [if_neg c]
      exact dgR_m i (by omega)
theorem menS_B (P : Prg n top R N) : dnB (menS n top R N) ∧ dpos (menS n top R N) := by
  have hb := meA_b n top R N 64
  have hr := meA_R P 64 (by omega)
  unfold menS
  by_cases z : (meA n top R N 64).2 = 0
  · rw [if_pos z]; exact ⟨Or.inl (by decide), dpos_0⟩
  · rw [if_neg z]; exact ⟨dnB_div hr (by decide) (by omega) (by omega), dpos_div hr.2.1 (by omega) (by omega)⟩
theorem fxd_p {E t : Nat} {x : UInt32} (h : FP.Core.val32 x = fxd E t) : fpos x := fpos_of (by rw [h]; exact fx_nn) (by rw [h]; rfl)
theorem dxd_p {E t : Nat} {x : UInt64} (h : FP.Core.val64 x = dxd E t) : dpos x := dpos_of (by rw [h]; exact dx_nn) (by rw [h]; rfl)
theorem fxd_c {E t : Nat} {x y : UInt32} {k : ClassFile.CmpOp} {F : Nat} (h : FP.Core.val32 x = fxd E t) (h1 : 1 ≤ E) (h2 : E ≤ 254) (ht : t < 2 ^ 23) (hy : FP.Core.val32 y = fxd F 0) (f1 : 1 ≤ F) (f2 : F ≤ 254) : ((Op.cmpValue (FP.fcmp x y) k).toInt < 0 ↔ E < F) := by
  have bx := fxd_bits h h1 h2 ht
  have bY := fxd_bits hy f1 f2 (by decide)
  rw [(fcmp_i (a := x) (b := y) (by rw [h]; exact fx_nn) (by rw [hy]; exact fx_nn) (by omega) (by omega)).1]
  omega
theorem dxd_c {E t : Nat} {x y : UInt64} {k : ClassFile.CmpOp} {F : Nat} (h : FP.Core.val64 x = dxd E t) (h1 : 1 ≤ E) (h2 : E ≤ 2046) (ht : t < 2 ^ 52) (hy : FP.Core.val64 y = dxd F 0) (f1 : 1 ≤ F) (f2 : F ≤ 2046) : ((Op.cmpValue (FP.dcmp x y) k).toInt < 0 ↔ E < F) := by
  have bx := dxd_bits h h1 h2 ht
  have bY := dxd_bits hy f1 f2 (by decide)
  rw [(dcmp_i (a := x) (b := y) (by rw [h]; exact dx_nn) (by rw [hy]; exact dx_nn) (by omega) (by omega)).1]
  omega
theorem l_bF1 (x0 : UInt32) {t : Nat} (ht : t < 2 ^ 23) : ∀ (k : Nat) (x1 : UInt32) (x2 x3 : Int), FP.Core.val32 x1 = fxd (127 + k) t → k ≤ 127 → 0 ≤ x3 → x3 + k < 2000 → 0 ≤ x2 → x2 + k < 100000 → ∃ y, zY 77 26 [some (zF x0), some (zF x1), some (zI x2), some (zI x3)] [] h = zY 77 54 [some (zF x0), some (zF y), some (zI (x2 + k)), some (zI 0)] [] h ∧ FP.Core.val32 y = fxd 127 t
  | 0, x1, x2, x3, hx, hk, a0, a1, b0, b1 => by
    rw [q_R_bitsOf_F_26, if_pos (by omega), if_pos ((fxd_c hx (by omega) (by omega) ht fv2 (by omega) (by omega)).2 (by omega))]
    exact ⟨x1, by rw [show x2 + ((0 : Nat) : Int) = x2 by omega], hx⟩
  | k + 1, x1, x2, x3, hx, hk, a0, a1, b0, b1 => by
    have hh := fx_half hx (by omega) (by omega) ht
    rw [show 127 + (k + 1) - 1 = 127 + k by omega] at hh
    rw [q_R_bitsOf_F_26, if_pos (by omega), if_neg (fun z => by have := (fxd_c hx (by omega) (by omega) ht fv2 (by omega) (by omega)).1 z; omega), gd_t (fpos_zn (fxd_p hh)), gd_t (by omega), gd_t (by omega)]
    obtain ⟨y, e, hy⟩ := l_bF1 x0 ht k _ (x2 + 1) (x3 + 1) hh (by omega) (by omega) (by omega) (by omega) (by omega)
    exact ⟨y, by rw [e, show x2 + 1 + (k : Int) = x2 + ((k + 1 : Nat) : Int) by omega], hy⟩
theorem l_bF2 (x0 : UInt32) {t : Nat} (ht : t < 2 ^ 23) : ∀ (k : Nat) (x1 : UInt32) (x2 x3 : Int), FP.Core.val32 x1 = fxd (127 - k) t → k ≤ 126 → 0 ≤ x3 → x3 + k < 2000 → -1000 ≤ x2 - k → x2 < 100000 → zY 77 54 [some (zF x0), some (zF x1), some (zI x2), some (zI x3)] [] h = some (.inl (some (zI (zor (zor (if (Op.cmpValue (FP.fcmp x0 FP.fconst0) .g).toInt < 0 then -2147483648 else 0) (zshl (x2 - k) 23)) t))), h)
  | 0, x1, x2, x3, hx, hk, a0, a1, b0, b1 => by
    obtain ⟨s1, s2, s3⟩ := fx_sub1 hx ht
    have q : (FP.f2i (FP.fmul (FP.fsub x1 FP.fconst1) 1258291200)).toInt = t := by
      have e : (Int32.ofInt (t : Int)).toInt = t := Int32.toInt_ofInt_of_le (by omega) (by omega)
      rw [show FP.f2i (FP.fmul (FP.fsub x1 FP.fconst1) 1258291200) = Int32.ofInt (t : Int) from FP.Core.f2i_int (by rw [e]; exact s3), e]
    rw [q_R_bitsOf_F_54, if_pos (by omega), if_neg (fun z => by have := (fxd_c hx (by omega) (by omega) ht fv1 (by omega) (by omega)).1 z; omega), gd_t (fpos_zn s1), gd_t (fpos_zn s2), q, show x2 - ((0 : Nat) : Int) = x2 by omega]
    split <;> rfl
  | k + 1, x1, x2, x3, hx, hk, a0, a1, b0, b1 => by
    have hh := fx_dbl hx (by omega) (by omega) ht
    rw [show 127 - (k + 1) + 1 = 127 - k by omega] at hh
    rw [q_R_bitsOf_F_54, if_pos (by omega), if_pos ((fxd_c hx (by omega) (by omega) ht fv1 (by omega) (by omega)).2 (by omega)), gd_t (fpos_zn (fxd_p hh)), gd_t (by omega), gd_t (by omega)]
    rw [l_bF2 x0 ht k _ (x2 + (-1)) (x3 + 1) hh (by omega) (by omega) (by omega) (by omega) (by omega), show x2 + (-1) - (k : Int) = x2 - ((k + 1 : Nat) : Int) by omega]
theorem i32_nat {n : Nat} (hn : n < 2 ^ 31) : (Int32.ofInt (n : Int)).toBitVec = BitVec.ofNat 32 n := by
  rw [Int32.toBitVec_ofInt]
  exact BitVec.ofInt_natCast 32 n
theorem zor_n {a b : Nat} (ha : a < 2 ^ 31) (hb : b < 2 ^ 31) : zor a b = ((a ||| b : Nat) : Int) := by
  have o : a ||| b < 2 ^ 31 := Nat.or_lt_two_pow ha hb
  show (Int32.ofInt (a : Int) ||| Int32.ofInt (b : Int)).toInt = _
  have e : (Int32.ofInt (a : Int) ||| Int32.ofInt (b : Int)) = Int32.ofInt ((a ||| b : Nat) : Int) := by
    apply Int32.toBitVec.inj
    rw [Int32.toBitVec_or, i32_nat ha, i32_nat hb, i32_nat o]
    apply BitVec.eq_of_toNat_eq
    rw [BitVec.toNat_or, BitVec.toNat_ofNat, BitVec.toNat_ofNat, BitVec.toNat_ofNat, Nat.mod_eq_of_lt (by omega), Nat.mod_eq_of_lt (by omega), Nat.mod_eq_of_lt (by omega)]
  rw [e]
  exact Int32.toInt_ofInt_of_le (by omega) (by omega)
theorem zshl_E : ∀ E : Fin 255, zshl (E.val : Int) 23 = ((E.val * 2 ^ 23 : Nat) : Int) := by decide +kernel
theorem bits_F {E t : Nat} (h2 : E ≤ 254) (ht : t < 2 ^ 23) : zor (zor 0 (zshl (E : Int) 23)) t = ((E * 2 ^ 23 + t : Nat) : Int) := by
  rw [zshl_E ⟨E, by omega⟩]
  show zor (zor ((0 : Nat) : Int) ((E * 2 ^ 23 : Nat) : Int)) ((t : Nat) : Int) = _
  rw [zor_n (by omega) (by omega), Nat.zero_or, zor_n (by omega) (by omega), Nat.mul_comm E, ← Nat.two_pow_add_eq_or_of_lt ht]
theorem c_bitsF (P : Prg n top R N) {st : Int} (h0 : 0 ≤ st) (h1 : st < 64) (h : zH) : zC 77 [zF (cstS n top R N st)] h = some (.inl (some (zI (f_Fl_floatToIntBits (cstS n top R N st)))), h) := by
  unfold cstS
  by_cases hE : EC n top R N st = -1
  · rw [if_pos hE, q_R_bitsOf_F, if_neg (by decide +kernel), if_pos (by decide +kernel)]
    obtain ⟨y, e, hy⟩ := l_bF1 (h := h) 3212836864 (t := 0) (by decide) 0 (FP.fneg 3212836864) 127 0 (by decide +kernel) (by omega) (by omega) (by omega) (by omega) (by omega)
    rw [e, l_bF2 3212836864 (by decide) 0 y _ 0 hy (by omega) (by omega) (by omega) (by omega) (by omega)]
    rw [show (zor (zor (if (Op.cmpValue (FP.fcmp 3212836864 FP.fconst0) .g).toInt < 0 then -2147483648 else 0) (zshl (127 + ((0 : Nat) : Int) - ((0 : Nat) : Int)) 23)) ((0 : Nat) : Int)) = f_Fl_floatToIntBits 3212836864 by decide +kernel]
  · rw [if_neg hE]
    have X := coC_R P h0 h1 hE
    have B := fgR_n X
    have p := X.2.1
    generalize coC R N top st = x at *
    have nx := (fpos_to p).1
    have cc := fun {k : ClassFile.CmpOp} => fcmp_i (a := x) (b := FP.fconst0) (k := k) nx (by decide +kernel) (by unfold fpos at p; omega) (by decide)
    have z0 : FP.fconst0.toNat = 0 := by decide
    have nan : ¬ b_Fl_isNaN x := fun q => q ((fcmp_i nx nx (by unfold fpos at p; omega) (by unfold fpos at p; omega)).2.2.2 rfl)
    have f : f_Fl_floatToIntBits x = (UInt32.toInt32 x).toInt := by
      unfold f_Fl_floatToIntBits
      rw [if_neg nan]
    have g : (UInt32.toInt32 x).toInt = (x.toNat : Int) := by
      show x.toBitVec.toInt = _
      rw [BitVec.toInt_eq_toNat_of_lt (by show 2 * x.toNat < 2 ^ 32; unfold fpos at p; omega)]
      rfl
    rw [f, g, q_R_bitsOf_F]
    rcases B with B | ⟨B1, B2⟩
    · rw [if_pos (cc.2.2.2 (by omega)), B]
      rfl
    · have e : x.toNat = x.toNat / 2 ^ 23 * 2 ^ 23 + x.toNat % 2 ^ 23 := by omega
      have ht : x.toNat % 2 ^ 23 < 2 ^ 23 := by omega
      generalize hE : x.toNat / 2 ^ 23 = E at e
      generalize hT : x.toNat % 2 ^ 23 = t at e ht
      have e1 : 1 ≤ E := by omega
      have e2 : E ≤ 254 := by omega
      have v := fxd_val rfl e e1 e2 ht
      have neg : ¬ (Op.cmpValue (FP.fcmp x FP.fconst0) .g).toInt < 0 := fun z => by have := cc.1.1 z; omega
      rw [if_neg (fun z => by have := cc.2.2.1 z; omega), if_neg neg]
      have bf := bits_F e2 ht
      rw [← e] at bf
      by_cases c : 127 ≤ E
      · obtain ⟨y, q, hy⟩ := l_bF1 (h := h) x ht (E - 127) x 127 0 (by rw [show 127 + (E - 127) = E by omega]; exact v) (by omega) (by omega) (by omega) (by omega) (by omega)
        rw [q, l_bF2 x ht 0 y _ 0 hy (by omega) (by omega) (by omega) (by omega) (by omega), if_neg neg, show (127 : Int) + ((E - 127 : Nat) : Int) - ((0 : Nat) : Int) = E by omega, bf]
      · rw [q_R_bitsOf_F_26, if_pos (by omega), if_pos ((fxd_c v e1 e2 ht fv2 (by omega) (by omega)).2 (by omega))]
        rw [l_bF2 x ht (127 - E) x 127 0 (by rw [show 127 - (127 - E) = E by omega]; exact v) (by omega) (by omega) (by omega) (by omega) (by omega), if_neg neg, show (127 : Int) - ((127 - E : Nat) : Int) = E by omega, bf]
theorem l_bD1 (x0 : UInt64) {t : Nat} (ht : t < 2 ^ 52) : ∀ (k : Nat) (x2 : UInt64) (m : Nat) (x6 : Int), FP.Core.val64 x2 = dxd (1023 + k) t → k ≤ 1023 → 0 ≤ x6 → x6 + k < 2000 → ∃ y, zY 74 18 [some (zD x0), none, some (zD x2), none, some (zJ (BitVec.ofNat 64 m)), none, some (zI x6), none] [] h = zY 74 55 [some (zD x0), none, some (zD y), none, some (zJ (BitVec.ofNat 64 (m + k))), none, some (zI 0), none] [] h ∧ FP.Core.val64 y = dxd 1023 t
  | 0, x2, m, x6, hx, hk, a0, a1 => by
    rw [q_R_bitsOf_D_18, if_pos (by omega), if_pos ((dxd_c hx (by omega) (by omega) ht dv2 (by omega) (by omega)).2 (by omega))]
    exact ⟨x2, rfl, hx⟩
  | k + 1, x2, m, x6, hx, hk, a0, a1 => by
    have hh := dx_half hx (by omega) (by omega) ht
    rw [show 1023 + (k + 1) - 1 = 1023 + k by omega] at hh
    rw [q_R_bitsOf_D_18, if_pos (by omega), if_neg (fun z => by have := (dxd_c hx (by omega) (by omega) ht dv2 (by omega) (by omega)).1 z; omega), gd_t (dpos_zn (dxd_p hh)), gd_t (by omega)]
    obtain ⟨y, e, hy⟩ := l_bD1 x0 ht k _ (m + 1) (x6 + 1) hh (by omega) (by omega) (by omega)
    exact ⟨y, by rw [← BitVec.ofNat_add, e, show m + 1 + k = m + (k + 1) by omega], hy⟩
theorem l_bD2 (x0 : UInt64) {t : Nat} (ht : t < 2 ^ 52) : ∀ (k : Nat) (x2 : UInt64) (m : Nat) (x6 : Int), FP.Core.val64 x2 = dxd (1023 - k) t → k ≤ 1022 → k ≤ m → m < 5000 → 0 ≤ x6 → x6 + k < 2000 → zY 74 55 [some (zD x0), none, some (zD x2), none, some (zJ (BitVec.ofNat 64 m)), none, some (zI x6), none] [] h = some (.inl (some (zJ (zlshl (BitVec.ofNat 64 (m - k)) 52 ||| BitVec.ofNat 64 t))), h)
  | 0, x2, m, x6, hx, hk, km, hm, a0, a1 => by
    obtain ⟨s1, s2, s3⟩ := dx_sub1 hx ht
    have q : (FP.d2l (FP.dmul (FP.dsub x2 FP.dconst1) 4841369599423283200)).toBitVec = BitVec.ofNat 64 t := by
      have e : (Int64.ofInt (t : Int)).toInt = t := Int64.toInt_ofInt_of_le (by omega) (by omega)
      rw [show FP.d2l (FP.dmul (FP.dsub x2 FP.dconst1) 4841369599423283200) = Int64.ofInt (t : Int) from FP.Core.d2l_int (by rw [e]; exact s3), Int64.toBitVec_ofInt]
      exact BitVec.ofInt_natCast 64 t
    rw [q_R_bitsOf_D_55, if_pos (by omega), if_neg (fun z => by have := (dxd_c hx (by omega) (by omega) ht dv1 (by omega) (by omega)).1 z; omega), gd_t (dpos_zn s1), gd_t (dpos_zn s2), q]
    rfl
  | k + 1, x2, m, x6, hx, hk, km, hm, a0, a1 => by
    have hh := dx_dbl hx (by omega) (by omega) ht
    rw [show 1023 - (k + 1) + 1 = 1023 - k by omega] at hh
    rw [q_R_bitsOf_D_55, if_pos (by omega), if_pos ((dxd_c hx (by omega) (by omega) ht dv1 (by omega) (by omega)).2 (by omega)), gd_t (dpos_zn (dxd_p hh)), gd_t (by omega)]
    have e : (BitVec.ofNat 64 m - 1#64) = BitVec.ofNat 64 (m - 1) := by
      apply BitVec.eq_of_toNat_eq
      rw [BitVec.toNat_sub, BitVec.toNat_ofNat, BitVec.toNat_ofNat, BitVec.toNat_ofNat]
      omega
    rw [e, l_bD2 x0 ht k _ (m - 1) (x6 + 1) hh (by omega) (by omega) (by omega) (by omega) (by omega), show m - 1 - k = m - (k + 1) by omega]
theorem zlshl_E {E : Nat} (hE : E ≤ 2046) : zlshl (BitVec.ofNat 64 E) 52 = BitVec.ofNat 64 (E * 2 ^ 52) := by
  have k : ∀ E : Fin 2047, zlshl (BitVec.ofNat 64 E.val) 52 = BitVec.ofNat 64 (E.val * 2 ^ 52) := by decide +kernel
  exact k ⟨E, by omega⟩
theorem bits_D {E t : Nat} (h2 : E ≤ 2046) (ht : t < 2 ^ 52) : zlshl (BitVec.ofNat 64 E) 52 ||| BitVec.ofNat 64 t = BitVec.ofNat 64 (E * 2 ^ 52 + t) := by
  rw [zlshl_E h2]
  apply BitVec.eq_of_toNat_eq
  rw [BitVec.toNat_or, BitVec.toNat_ofNat, BitVec.toNat_ofNat, BitVec.toNat_ofNat, Nat.mod_eq_of_lt (by omega), Nat.mod_eq_of_lt (by omega), Nat.mod_eq_of_lt (by omega), Nat.mul_comm E, ← Nat.two_pow_add_eq_or_of_lt ht]
theorem c_bitsD (P : Prg n top R N) (h : zH) : zC 74 [zD (menS n top R N)] h = some (.inl (some (zJ (f_Do_doubleToLongBits (menS n top R N)))), h) := by
  obtain ⟨B, p⟩ := menS_B P
  generalize menS n top R N = x at *
  have nx := (dpos_to p).1
  have cc := fun {k : ClassFile.CmpOp} => dcmp_i (a := x) (b := FP.dconst0) (k := k) nx (by decide +kernel) (by unfold dpos at p; omega) (by decide)
  have z0 : FP.dconst0.toNat = 0 := by decide
  have nan : ¬ b_Do_isNaN x := fun q => q ((dcmp_i nx nx (by unfold dpos at p; omega) (by unfold dpos at p; omega)).2.2.2 rfl)
  have f : f_Do_doubleToLongBits x = BitVec.ofNat 64 x.toNat := by
    unfold f_Do_doubleToLongBits
    rw [if_neg nan]
    show x.toBitVec = _
    apply BitVec.eq_of_toNat_eq
    rw [BitVec.toNat_ofNat, Nat.mod_eq_of_lt (by unfold dpos at p; omega)]
    rfl
  rw [f, q_R_bitsOf_D]
  rcases B with B | ⟨B1, B2⟩
  · rw [if_neg (fun z => by have := cc.2.1.1 z; omega), B]
  · have e : x.toNat = x.toNat / 2 ^ 52 * 2 ^ 52 + x.toNat % 2 ^ 52 := by omega
    have ht : x.toNat % 2 ^ 52 < 2 ^ 52 := by omega
    generalize hE : x.toNat / 2 ^ 52 = E at e
    generalize hT : x.toNat % 2 ^ 52 = t at e ht
    have e1 : 1 ≤ E := by omega
    have e2 : E ≤ 2046 := by omega
    have v := dxd_val rfl e e1 e2 ht
    rw [if_pos (cc.2.1.2 (by omega))]
    have bf := bits_D e2 ht
    rw [← e] at bf
    by_cases c : 1023 ≤ E
    · obtain ⟨y, q, hy⟩ := l_bD1 (h := h) x ht (E - 1023) x 1023 0 (by rw [show 1023 + (E - 1023) = E by omega]; exact v) (by omega) (by omega) (by omega)
      rw [q, l_bD2 x ht 0 y _ 0 hy (by omega) (by omega) (by omega) (by omega) (by omega), show 1023 + (E - 1023) - 0 = E by omega, bf]
    · rw [q_R_bitsOf_D_18, if_pos (by omega), if_pos ((dxd_c v e1 e2 ht dv2 (by omega) (by omega)).2 (by omega))]
      rw [l_bD2 x ht (1023 - E) x 1023 0 (by rw [show 1023 - (1023 - E) = E by omega]; exact v) (by omega) (by omega) (by omega) (by omega) (by omega), show 1023 - (1023 - E) = E by omega, bf]
end CBITS

