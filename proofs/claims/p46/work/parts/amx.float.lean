/-! Floats: bits and numbers. -/

theorem pw_1 {c t a k T D : Nat} (ha : a = k + (T + D)) (u : c * 2 ^ a = t * 2 ^ D) : c * 2 ^ T * 2 ^ k = t := by
  refine Nat.eq_of_mul_eq_mul_right (Nat.two_pow_pos D) ?_
  rw [← u, ha, Nat.pow_add, Nat.pow_add]
  ac_rfl
theorem pw_2 {c t a k T D : Nat} (ha : a + k = T + D) (u : c * 2 ^ a = t * 2 ^ D) : c * 2 ^ T = t * 2 ^ k := by
  refine Nat.eq_of_mul_eq_mul_right (Nat.two_pow_pos D) ?_
  rw [Nat.mul_right_comm t, ← u, Nat.mul_assoc, ← Nat.pow_add, Nat.mul_assoc, ← Nat.pow_add, ha]

def fxd (E t : Nat) : FP.Core.Datum := .fin false (2 ^ 23 + t) ((E : Int) - 150)
theorem fxd_fits {E t : Nat} (h1 : 1 ≤ E) (h2 : E ≤ 254) (ht : t < 2 ^ 23) : FP.Core.fits FP.Core.b32 (fxd E t) := by
  refine ⟨?_, ?_, ?_, Or.inr ?_⟩
  · rw [show FP.Core.b32.p = 23 + 1 from rfl, Nat.pow_succ]; omega
  · rw [show FP.Core.b32.qmin = -149 by decide]; omega
  · rw [show FP.Core.b32.qmax = 104 by decide]; omega
  · rw [show FP.Core.b32.tails = 2 ^ 23 by decide]; omega
theorem fxd_val {n E t : Nat} {x : UInt32} (hx : x.toNat = n) (hn : n = E * 2 ^ 23 + t) (h1 : 1 ≤ E) (h2 : E ≤ 254) (ht : t < 2 ^ 23) : FP.Core.val32 x = fxd E t := by
  unfold FP.Core.val32
  rw [hx, hn]
  have e := FP.Core.decode_assemble FP.Core.b32 false E t (by rw [show FP.Core.b32.exps = 254 + 2 by decide]; omega) (by rw [show FP.Core.b32.tails = 2 ^ 23 by decide]; exact ht)
  rw [if_neg (by rw [show FP.Core.b32.exps = 254 + 2 by decide]; omega), if_neg (by omega)] at e
  have a : FP.Core.assemble FP.Core.b32 false E t = E * 2 ^ 23 + t := by
    show (0 * FP.Core.b32.exps + E) * FP.Core.b32.tails + t = _
    rw [Nat.zero_mul, Nat.zero_add, show FP.Core.b32.tails = 2 ^ 23 by decide]
  rw [a] at e
  rw [e, show FP.Core.b32.tails = 2 ^ 23 by decide, show FP.Core.b32.qmin = -149 by decide]
  unfold fxd
  congr 1
  omega
theorem fxd_bits {E t : Nat} {x : UInt32} (h : FP.Core.val32 x = fxd E t) (h1 : 1 ≤ E) (h2 : E ≤ 254) (ht : t < 2 ^ 23) : x.toNat = E * 2 ^ 23 + t := by
  have b : (UInt32.ofNat (E * 2 ^ 23 + t)).toNat = E * 2 ^ 23 + t := UInt32.toNat_ofNat_of_lt' (by show _ < 2 ^ 32; omega)
  have v := fxd_val b rfl h1 h2 ht
  have e := FP.Core.val32_inj (a := x) (by rw [h]; exact FP.Core.Datum.noConfusion) (h.trans v.symm)
  rw [e, b]
theorem fv2 : FP.Core.val32 FP.fconst2 = fxd (127 + 1) 0 := by decide +kernel
theorem fv1 : FP.Core.val32 FP.fconst1 = fxd 127 0 := by decide +kernel
theorem fvM : FP.Core.val32 1258291200 = fxd (127 + 23) 0 := by decide +kernel
theorem fx_half {E t : Nat} {x : UInt32} (h : FP.Core.val32 x = fxd E t) (h1 : 2 ≤ E) (h2 : E ≤ 254) (ht : t < 2 ^ 23) : FP.Core.val32 (FP.fdiv x FP.fconst2) = fxd (E - 1) t := by
  refine (FP.Core.val32_fdiv x FP.fconst2).trans ?_
  rw [h, fv2]
  show (if 2 ^ 23 + 0 = 0 then (if 2 ^ 23 + t = 0 then FP.Core.Datum.nan else .inf (false != false)) else FP.Core.roundRatio FP.Core.b32 (false != false) (2 ^ 23 + t) (2 ^ 23 + 0) ((E : Int) - 150 - (((127 + 1 : Nat) : Int) - 150))) = _
  rw [if_neg (by decide)]
  refine FP.Core.roundRatio_exact FP.Core.good_b32 (by decide) (fxd_fits (E := E - 1) (by omega) (by omega) ht) ?_
  rw [show ((E : Int) - 150 - (((127 + 1 : Nat) : Int) - 150) - (((E - 1 : Nat) : Int) - 150)).toNat = 23 by omega, show ((((E - 1 : Nat) : Int) - 150) - ((E : Int) - 150 - (((127 + 1 : Nat) : Int) - 150))).toNat = 0 by omega]
  rw [Nat.add_zero, Nat.pow_zero, Nat.mul_one]
theorem fx_dbl {E t : Nat} {x : UInt32} (h : FP.Core.val32 x = fxd E t) (h1 : 1 ≤ E) (h2 : E < 254) (ht : t < 2 ^ 23) : FP.Core.val32 (FP.fmul x FP.fconst2) = fxd (E + 1) t := by
  refine (FP.Core.val32_fmul x FP.fconst2).trans ?_
  rw [h, fv2]
  show FP.Core.roundRatio FP.Core.b32 (false != false) ((2 ^ 23 + t) * (2 ^ 23 + 0)) 1 ((E : Int) - 150 + (((127 + 1 : Nat) : Int) - 150)) = _
  refine FP.Core.roundRatio_exact FP.Core.good_b32 (by decide) (fxd_fits (E := E + 1) (by omega) (by omega) ht) ?_
  rw [show ((E : Int) - 150 + (((127 + 1 : Nat) : Int) - 150) - (((E + 1 : Nat) : Int) - 150)).toNat = 0 by omega, show ((((E + 1 : Nat) : Int) - 150) - ((E : Int) - 150 + (((127 + 1 : Nat) : Int) - 150))).toNat = 23 by omega]
  rw [Nat.add_zero, Nat.pow_zero, Nat.mul_one, Nat.mul_one]
theorem fx_nn {E t : Nat} : fxd E t ≠ .nan := FP.Core.Datum.noConfusion
theorem fcmp_i {a b : UInt32} {k : ClassFile.CmpOp} (ha : FP.Core.val32 a ≠ .nan) (hb : FP.Core.val32 b ≠ .nan) (sa : a.toNat < 2 ^ 31) (sb : b.toNat < 2 ^ 31) : ((Op.cmpValue (FP.fcmp a b) k).toInt < 0 ↔ a.toNat < b.toNat) ∧ (0 < (Op.cmpValue (FP.fcmp a b) k).toInt ↔ b.toNat < a.toNat) ∧ ((Op.cmpValue (FP.fcmp a b) k).toInt = 0 ↔ a.toNat = b.toNat) := by
  have ka : FP.Core.fkey a = (a.toNat : Int) := if_neg (by omega)
  have kb : FP.Core.fkey b = (b.toNat : Int) := if_neg (by omega)
  rcases Nat.lt_trichotomy a.toNat b.toNat with c | c | c
  · rw [show FP.fcmp a b = some .lt from (FP.Core.fcmp_lt_key ha hb).2 (by omega)]
    have : (Op.cmpValue (some .lt) k).toInt = -1 := by cases k <;> decide
    omega
  · rw [show FP.fcmp a b = some .eq from (FP.Core.fcmp_eq_key ha hb).2 (by omega)]
    have : (Op.cmpValue (some .eq) k).toInt = 0 := by cases k <;> decide
    omega
  · rw [show FP.fcmp a b = some .gt from (FP.Core.fcmp_gt_key ha hb).2 (by omega)]
    have : (Op.cmpValue (some .gt) k).toInt = 1 := by cases k <;> decide
    omega
theorem fx_sub1 {t : Nat} {x : UInt32} (h : FP.Core.val32 x = fxd 127 t) (ht : t < 2 ^ 23) : fpos (FP.fsub x FP.fconst1) ∧ fpos (FP.fmul (FP.fsub x FP.fconst1) 1258291200) ∧ FP.Core.FInt (t : Int) (FP.fmul (FP.fsub x FP.fconst1) 1258291200) := by
  have e : FP.Core.val32 (FP.fsub x FP.fconst1) = FP.Core.round FP.Core.b32 (.fin false t (-23)) := by
    refine (FP.Core.val32_fsub x FP.fconst1).trans ?_
    rw [h, fv1]
    have s : FP.Core.sumUnits false (2 ^ 23 + t) (((127 : Nat) : Int) - 150) true (2 ^ 23 + 0) (((127 : Nat) : Int) - 150) (min (((127 : Nat) : Int) - 150) (((127 : Nat) : Int) - 150)) = (t : Int) := by
      rw [Int.min_self]
      unfold FP.Core.sumUnits FP.Core.inUnits FP.Core.signed
      rw [Int.sub_self, if_neg (by decide), if_pos rfl, Int.toNat_zero, Nat.pow_zero, Nat.mul_one, Nat.mul_one]
      omega
    show FP.Core.round FP.Core.b32 (.fin (FP.Core.sumSign false true (FP.Core.sumUnits false (2 ^ 23 + t) (((127 : Nat) : Int) - 150) true (2 ^ 23 + 0) (((127 : Nat) : Int) - 150) (min (((127 : Nat) : Int) - 150) (((127 : Nat) : Int) - 150)))) (FP.Core.sumUnits false (2 ^ 23 + t) (((127 : Nat) : Int) - 150) true (2 ^ 23 + 0) (((127 : Nat) : Int) - 150) (min (((127 : Nat) : Int) - 150) (((127 : Nat) : Int) - 150))).natAbs (min (((127 : Nat) : Int) - 150) (((127 : Nat) : Int) - 150))) = _
    rw [s, Int.min_self]
    congr 1
    unfold FP.Core.sumSign
    rw [show (((127 : Nat) : Int) - 150) = -23 by decide]
    congr 1
    split
    · rfl
    · exact decide_eq_false (by omega)
  obtain ⟨c', q', e2, u⟩ := FP.Core.round_exact FP.Core.good_b32 false (c := t) (q := -23) (by rw [show FP.Core.b32.p = 23 + 1 from rfl, Nat.pow_succ]; omega) (by decide) (by decide)
  have fq : FP.Core.b32.qmin ≤ q' := by
    have f := FP.Core.round_fits FP.Core.good_b32 (.fin false t (-23))
    rw [e2] at f
    exact f.2.1
  rw [e2] at e
  have p1 : fpos (FP.fsub x FP.fconst1) := fpos_of (by rw [e]; exact FP.Core.Datum.noConfusion) (by rw [e]; rfl)
  have hw : FP.Core.Whole (t : Int) (.fin false (c' * (2 ^ 23 + 0)) (q' + (((127 + 23 : Nat) : Int) - 150))) := by
    show FP.Core.signed false (c' * (2 ^ 23 + 0) * 2 ^ (q' + (((127 + 23 : Nat) : Int) - 150)).toNat) = (t : Int) * ((2 ^ (-(q' + (((127 + 23 : Nat) : Int) - 150))).toNat : Nat) : Int)
    rw [show (((127 + 23 : Nat) : Int) - 150) = 0 by decide, Int.add_zero, Nat.add_zero]
    rw [show FP.Core.b32.qmin = -149 by decide] at fq u
    unfold FP.Core.inUnits at u
    rw [show (-(23 : Int) - -149).toNat = 149 - 23 by decide] at u
    show (((c' * 2 ^ 23 * 2 ^ q'.toNat : Nat)) : Int) = _
    rw [← Int.natCast_mul]
    congr 1
    by_cases hq : 0 ≤ q'
    · rw [show (-q').toNat = 0 by omega, Nat.pow_zero, Nat.mul_one]
      exact pw_1 (D := 149 - 23) (by omega) u
    · rw [show q'.toNat = 0 by omega, Nat.pow_zero, Nat.mul_one]
      exact pw_2 (D := 149 - 23) (by omega) u
  have e3 : FP.Core.val32 (FP.fmul (FP.fsub x FP.fconst1) 1258291200) = FP.Core.round FP.Core.b32 (.fin false (c' * (2 ^ 23 + 0)) (q' + (((127 + 23 : Nat) : Int) - 150))) := by
    refine (FP.Core.val32_fmul _ 1258291200).trans ?_
    rw [e, fvM]
    rfl
  obtain ⟨r1, r2⟩ := rnd_p (f := FP.Core.b32) (d := .fin false (c' * (2 ^ 23 + 0)) (q' + (((127 + 23 : Nat) : Int) - 150))) FP.Core.Datum.noConfusion rfl
  rw [← e3] at r1 r2
  refine ⟨p1, fpos_of r1 r2, ?_⟩
  unfold FP.Core.FInt
  rw [e3]
  exact FP.Core.whole_round FP.Core.good_b32 FP.Core.wide_b32 (by rw [show FP.Core.b32.p = 23 + 1 from rfl, Nat.pow_succ]; omega) hw

def dxd (E t : Nat) : FP.Core.Datum := .fin false (2 ^ 52 + t) ((E : Int) - 1075)
theorem dxd_fits {E t : Nat} (h1 : 1 ≤ E) (h2 : E ≤ 2046) (ht : t < 2 ^ 52) : FP.Core.fits FP.Core.b64 (dxd E t) := by
  refine ⟨?_, ?_, ?_, Or.inr ?_⟩
  · rw [show FP.Core.b64.p = 52 + 1 from rfl, Nat.pow_succ]; omega
  · rw [show FP.Core.b64.qmin = -1074 by decide]; omega
  · rw [show FP.Core.b64.qmax = 971 by decide]; omega
  · rw [show FP.Core.b64.tails = 2 ^ 52 by decide]; omega
theorem dxd_val {n E t : Nat} {x : UInt64} (hx : x.toNat = n) (hn : n = E * 2 ^ 52 + t) (h1 : 1 ≤ E) (h2 : E ≤ 2046) (ht : t < 2 ^ 52) : FP.Core.val64 x = dxd E t := by
  unfold FP.Core.val64
  rw [hx, hn]
  have e := FP.Core.decode_assemble FP.Core.b64 false E t (by rw [show FP.Core.b64.exps = 2046 + 2 by decide]; omega) (by rw [show FP.Core.b64.tails = 2 ^ 52 by decide]; exact ht)
  rw [if_neg (by rw [show FP.Core.b64.exps = 2046 + 2 by decide]; omega), if_neg (by omega)] at e
  have a : FP.Core.assemble FP.Core.b64 false E t = E * 2 ^ 52 + t := by
    show (0 * FP.Core.b64.exps + E) * FP.Core.b64.tails + t = _
    rw [Nat.zero_mul, Nat.zero_add, show FP.Core.b64.tails = 2 ^ 52 by decide]
  rw [a] at e
  rw [e, show FP.Core.b64.tails = 2 ^ 52 by decide, show FP.Core.b64.qmin = -1074 by decide]
  unfold dxd
  congr 1
  omega
theorem dxd_bits {E t : Nat} {x : UInt64} (h : FP.Core.val64 x = dxd E t) (h1 : 1 ≤ E) (h2 : E ≤ 2046) (ht : t < 2 ^ 52) : x.toNat = E * 2 ^ 52 + t := by
  have b : (UInt64.ofNat (E * 2 ^ 52 + t)).toNat = E * 2 ^ 52 + t := UInt64.toNat_ofNat_of_lt' (by show _ < 2 ^ 64; omega)
  have v := dxd_val b rfl h1 h2 ht
  have e := FP.Core.val64_inj (a := x) (by rw [h]; exact FP.Core.Datum.noConfusion) (h.trans v.symm)
  rw [e, b]
theorem dv2 : FP.Core.val64 4611686018427387904 = dxd (1023 + 1) 0 := by decide +kernel
theorem dv1 : FP.Core.val64 FP.dconst1 = dxd 1023 0 := by decide +kernel
theorem dvM : FP.Core.val64 4841369599423283200 = dxd (1023 + 52) 0 := by decide +kernel
theorem dx_half {E t : Nat} {x : UInt64} (h : FP.Core.val64 x = dxd E t) (h1 : 2 ≤ E) (h2 : E ≤ 2046) (ht : t < 2 ^ 52) : FP.Core.val64 (FP.ddiv x 4611686018427387904) = dxd (E - 1) t := by
  refine (FP.Core.val64_ddiv x 4611686018427387904).trans ?_
  rw [h, dv2]
  show (if 2 ^ 52 + 0 = 0 then (if 2 ^ 52 + t = 0 then FP.Core.Datum.nan else .inf (false != false)) else FP.Core.roundRatio FP.Core.b64 (false != false) (2 ^ 52 + t) (2 ^ 52 + 0) ((E : Int) - 1075 - (((1023 + 1 : Nat) : Int) - 1075))) = _
  rw [if_neg (by decide)]
  refine FP.Core.roundRatio_exact FP.Core.good_b64 (by decide) (dxd_fits (E := E - 1) (by omega) (by omega) ht) ?_
  rw [show ((E : Int) - 1075 - (((1023 + 1 : Nat) : Int) - 1075) - (((E - 1 : Nat) : Int) - 1075)).toNat = 52 by omega, show ((((E - 1 : Nat) : Int) - 1075) - ((E : Int) - 1075 - (((1023 + 1 : Nat) : Int) - 1075))).toNat = 0 by omega]
  rw [Nat.add_zero, Nat.pow_zero, Nat.mul_one]
theorem dx_dbl {E t : Nat} {x : UInt64} (h : FP.Core.val64 x = dxd E t) (h1 : 1 ≤ E) (h2 : E < 2046) (ht : t < 2 ^ 52) : FP.Core.val64 (FP.dmul x 4611686018427387904) = dxd (E + 1) t := by
  refine (FP.Core.val64_dmul x 4611686018427387904).trans ?_
  rw [h, dv2]
  show FP.Core.roundRatio FP.Core.b64 (false != false) ((2 ^ 52 + t) * (2 ^ 52 + 0)) 1 ((E : Int) - 1075 + (((1023 + 1 : Nat) : Int) - 1075)) = _
  refine FP.Core.roundRatio_exact FP.Core.good_b64 (by decide) (dxd_fits (E := E + 1) (by omega) (by omega) ht) ?_
  rw [show ((E : Int) - 1075 + (((1023 + 1 : Nat) : Int) - 1075) - (((E + 1 : Nat) : Int) - 1075)).toNat = 0 by omega, show ((((E + 1 : Nat) : Int) - 1075) - ((E : Int) - 1075 + (((1023 + 1 : Nat) : Int) - 1075))).toNat = 52 by omega]
  rw [Nat.add_zero, Nat.pow_zero, Nat.mul_one, Nat.mul_one]
theorem dx_nn {E t : Nat} : dxd E t ≠ .nan := FP.Core.Datum.noConfusion
theorem dcmp_i {a b : UInt64} {k : ClassFile.CmpOp} (ha : FP.Core.val64 a ≠ .nan) (hb : FP.Core.val64 b ≠ .nan) (sa : a.toNat < 2 ^ 63) (sb : b.toNat < 2 ^ 63) : ((Op.cmpValue (FP.dcmp a b) k).toInt < 0 ↔ a.toNat < b.toNat) ∧ (0 < (Op.cmpValue (FP.dcmp a b) k).toInt ↔ b.toNat < a.toNat) ∧ ((Op.cmpValue (FP.dcmp a b) k).toInt = 0 ↔ a.toNat = b.toNat) := by
  have ka : FP.Core.dkey a = (a.toNat : Int) := if_neg (by omega)
  have kb : FP.Core.dkey b = (b.toNat : Int) := if_neg (by omega)
  rcases Nat.lt_trichotomy a.toNat b.toNat with c | c | c
  · rw [show FP.dcmp a b = some .lt from (FP.Core.dcmp_lt_key ha hb).2 (by omega)]
    have : (Op.cmpValue (some .lt) k).toInt = -1 := by cases k <;> decide
    omega
  · rw [show FP.dcmp a b = some .eq from (FP.Core.dcmp_eq_key ha hb).2 (by omega)]
    have : (Op.cmpValue (some .eq) k).toInt = 0 := by cases k <;> decide
    omega
  · rw [show FP.dcmp a b = some .gt from (FP.Core.dcmp_gt_key ha hb).2 (by omega)]
    have : (Op.cmpValue (some .gt) k).toInt = 1 := by cases k <;> decide
    omega
theorem dx_sub1 {t : Nat} {x : UInt64} (h : FP.Core.val64 x = dxd 1023 t) (ht : t < 2 ^ 52) : dpos (FP.dsub x FP.dconst1) ∧ dpos (FP.dmul (FP.dsub x FP.dconst1) 4841369599423283200) ∧ FP.Core.DInt (t : Int) (FP.dmul (FP.dsub x FP.dconst1) 4841369599423283200) := by
  have e : FP.Core.val64 (FP.dsub x FP.dconst1) = FP.Core.round FP.Core.b64 (.fin false t (-52)) := by
    refine (FP.Core.val64_dsub x FP.dconst1).trans ?_
    rw [h, dv1]
    have s : FP.Core.sumUnits false (2 ^ 52 + t) (((1023 : Nat) : Int) - 1075) true (2 ^ 52 + 0) (((1023 : Nat) : Int) - 1075) (min (((1023 : Nat) : Int) - 1075) (((1023 : Nat) : Int) - 1075)) = (t : Int) := by
      rw [Int.min_self]
      unfold FP.Core.sumUnits FP.Core.inUnits FP.Core.signed
      rw [Int.sub_self, if_neg (by decide), if_pos rfl, Int.toNat_zero, Nat.pow_zero, Nat.mul_one, Nat.mul_one]
      omega
    show FP.Core.round FP.Core.b64 (.fin (FP.Core.sumSign false true (FP.Core.sumUnits false (2 ^ 52 + t) (((1023 : Nat) : Int) - 1075) true (2 ^ 52 + 0) (((1023 : Nat) : Int) - 1075) (min (((1023 : Nat) : Int) - 1075) (((1023 : Nat) : Int) - 1075)))) (FP.Core.sumUnits false (2 ^ 52 + t) (((1023 : Nat) : Int) - 1075) true (2 ^ 52 + 0) (((1023 : Nat) : Int) - 1075) (min (((1023 : Nat) : Int) - 1075) (((1023 : Nat) : Int) - 1075))).natAbs (min (((1023 : Nat) : Int) - 1075) (((1023 : Nat) : Int) - 1075))) = _
    rw [s, Int.min_self]
    congr 1
    unfold FP.Core.sumSign
    rw [show (((1023 : Nat) : Int) - 1075) = -52 by decide]
    congr 1
    split
    · rfl
    · exact decide_eq_false (by omega)
  obtain ⟨c', q', e2, u⟩ := FP.Core.round_exact FP.Core.good_b64 false (c := t) (q := -52) (by rw [show FP.Core.b64.p = 52 + 1 from rfl, Nat.pow_succ]; omega) (by decide) (by decide)
  have fq : FP.Core.b64.qmin ≤ q' := by
    have f := FP.Core.round_fits FP.Core.good_b64 (.fin false t (-52))
    rw [e2] at f
    exact f.2.1
  rw [e2] at e
  have p1 : dpos (FP.dsub x FP.dconst1) := dpos_of (by rw [e]; exact FP.Core.Datum.noConfusion) (by rw [e]; rfl)
  have hw : FP.Core.Whole (t : Int) (.fin false (c' * (2 ^ 52 + 0)) (q' + (((1023 + 52 : Nat) : Int) - 1075))) := by
    show FP.Core.signed false (c' * (2 ^ 52 + 0) * 2 ^ (q' + (((1023 + 52 : Nat) : Int) - 1075)).toNat) = (t : Int) * ((2 ^ (-(q' + (((1023 + 52 : Nat) : Int) - 1075))).toNat : Nat) : Int)
    rw [show (((1023 + 52 : Nat) : Int) - 1075) = 0 by decide, Int.add_zero, Nat.add_zero]
    rw [show FP.Core.b64.qmin = -1074 by decide] at fq u
    unfold FP.Core.inUnits at u
    rw [show (-(52 : Int) - -1074).toNat = 1074 - 52 by decide] at u
    show (((c' * 2 ^ 52 * 2 ^ q'.toNat : Nat)) : Int) = _
    rw [← Int.natCast_mul]
    congr 1
    by_cases hq : 0 ≤ q'
    · rw [show (-q').toNat = 0 by omega, Nat.pow_zero, Nat.mul_one]
      exact pw_1 (D := 1074 - 52) (by omega) u
    · rw [show q'.toNat = 0 by omega, Nat.pow_zero, Nat.mul_one]
      exact pw_2 (D := 1074 - 52) (by omega) u
  have e3 : FP.Core.val64 (FP.dmul (FP.dsub x FP.dconst1) 4841369599423283200) = FP.Core.round FP.Core.b64 (.fin false (c' * (2 ^ 52 + 0)) (q' + (((1023 + 52 : Nat) : Int) - 1075))) := by
    refine (FP.Core.val64_dmul _ 4841369599423283200).trans ?_
    rw [e, dvM]
    rfl
  obtain ⟨r1, r2⟩ := rnd_p (f := FP.Core.b64) (d := .fin false (c' * (2 ^ 52 + 0)) (q' + (((1023 + 52 : Nat) : Int) - 1075))) FP.Core.Datum.noConfusion rfl
  rw [← e3] at r1 r2
  refine ⟨p1, dpos_of r1 r2, ?_⟩
  unfold FP.Core.DInt
  rw [e3]
  exact FP.Core.whole_round FP.Core.good_b64 FP.Core.wide_b64 (by rw [show FP.Core.b64.p = 52 + 1 from rfl, Nat.pow_succ]; omega) hw

/-- what a number of the format adds up to, in units -/
theorem fadd_z {x y : UInt32} (fx : FP.Core.FFin x) (fy : FP.Core.FFin y) {V : FP.Core.Datum} (hV : FP.Core.fits FP.Core.b32 V) (hn : V ≠ .nan) : (FP.Core.zval FP.Core.b32 (FP.Core.val32 x) + FP.Core.zval FP.Core.b32 (FP.Core.val32 y) ≤ FP.Core.zval FP.Core.b32 V → FP.Core.zval FP.Core.b32 (FP.Core.val32 (FP.fadd x y)) ≤ FP.Core.zval FP.Core.b32 V) ∧ (FP.Core.zval FP.Core.b32 V ≤ FP.Core.zval FP.Core.b32 (FP.Core.val32 x) + FP.Core.zval FP.Core.b32 (FP.Core.val32 y) → FP.Core.zval FP.Core.b32 V ≤ FP.Core.zval FP.Core.b32 (FP.Core.val32 (FP.fadd x y))) := by
  obtain ⟨s, c, q, hx⟩ := fx
  obtain ⟨t, d, r, hy⟩ := fy
  have gx := FP.Core.val32_fits x
  have gy := FP.Core.val32_fits y
  have e : FP.Core.val32 (FP.fadd x y) = _ := FP.Core.val32_fadd x y
  rw [hx] at gx e ⊢
  rw [hy] at gy e ⊢
  obtain ⟨sg, n, e', q1, q2, q3⟩ := FP.Core.sum_units gx gy
  rw [e, q1, ← q3]
  have one : ((2 ^ (FP.Core.b32.qmin - FP.Core.b32.qmin).toNat : Nat) : Int) = 1 := by rw [Int.sub_self]; rfl
  exact ⟨fun h => FP.Core.zval_round_le FP.Core.good_b32 hV hn (Int.le_refl _) q2 (by rw [one, Int.mul_one]; exact h), fun h => FP.Core.zval_round_ge FP.Core.good_b32 hV hn (Int.le_refl _) q2 (by rw [one, Int.mul_one]; exact h)⟩
theorem fnat_V {n : Nat} (hn : n ≤ 2 ^ 24) : ∃ V, FP.Core.fits FP.Core.b32 V ∧ V ≠ .nan ∧ FP.Core.zval FP.Core.b32 V = (n : Int) * ((2 ^ 149 : Nat) : Int) := by
  obtain ⟨c, q, f, e⟩ := FP.Core.natFit FP.Core.good_b32 FP.Core.wide_b32 false (n := n) (Nat.le_trans hn (by decide))
  refine ⟨.fin false c q, f, FP.Core.Datum.noConfusion, ?_⟩
  have w : FP.Core.Whole (n : Int) (.fin false c q) := by
    show ((c * 2 ^ q.toNat : Nat) : Int) = (n : Int) * ((2 ^ (-q).toNat : Nat) : Int)
    rw [← Int.natCast_mul]
    congr 1
    rw [Nat.mul_one, Int.sub_zero, Int.zero_sub] at e
    exact e.symm
  rw [FP.Core.whole_zval FP.Core.good_b32 f w, show (-FP.Core.b32.qmin).toNat = 149 by decide]
/-- not negative, finite, at most u, and no smaller than 1/16 where it is not 0 -/
def fgR (u : Nat) (x : UInt32) : Prop := FP.Core.FFin x ∧ fpos x ∧ FP.Core.zval FP.Core.b32 (FP.Core.val32 x) ≤ (u : Int) * ((2 ^ 149 : Nat) : Int) ∧ (FP.Core.zval FP.Core.b32 (FP.Core.val32 x) = 0 ∨ ((2 ^ 145 : Nat) : Int) ≤ FP.Core.zval FP.Core.b32 (FP.Core.val32 x))
theorem fL_z : FP.Core.zval FP.Core.b32 (FP.Core.val32 1031798784) = ((2 ^ 145 : Nat) : Int) ∧ FP.Core.val32 1031798784 ≠ .nan := by decide +kernel
theorem fz_nn {x : UInt32} (h : fpos x) : 0 ≤ FP.Core.zval FP.Core.b32 (FP.Core.val32 x) := FP.Core.zval_nonneg32 (fpos_to h).1 (by unfold fpos at h; omega)
theorem ffin_z {x : UInt32} (h : fpos x) {n : Nat} (hn : n ≤ 2 ^ 24) (z : FP.Core.zval FP.Core.b32 (FP.Core.val32 x) ≤ (n : Int) * ((2 ^ 149 : Nat) : Int)) : FP.Core.FFin x := by
  obtain ⟨a, b⟩ := fpos_to h
  unfold FP.Core.FFin
  cases e : FP.Core.val32 x with
  | nan => exact absurd e a
  | fin s c q => exact ⟨s, c, q, rfl⟩
  | inf s =>
    rw [e] at b z
    have b : s = false := b
    subst b
    have z : ((FP.Core.b32.tails * 2 ^ (FP.Core.b32.exps - 2) : Nat) : Int) ≤ (n : Int) * ((2 ^ 149 : Nat) : Int) := z
    rw [← Int.natCast_mul] at z
    have k : 2 ^ 24 * 2 ^ 149 < FP.Core.b32.tails * 2 ^ (FP.Core.b32.exps - 2) := by decide +kernel
    have := Nat.mul_le_mul_right (2 ^ 149) hn
    omega
theorem fgR_add {u w : Nat} {x y : UInt32} (X : fgR u x) (Y : fgR w y) (h : u + w ≤ 2 ^ 24) : fgR (u + w) (FP.fadd x y) := by
  obtain ⟨x1, x2, x3, x4⟩ := X
  obtain ⟨y1, y2, y3, y4⟩ := Y
  have zx := fz_nn x2
  have zy := fz_nn y2
  have p := fpos_add x2 y2
  obtain ⟨V, v1, v2, v3⟩ := fnat_V h
  have up : FP.Core.zval FP.Core.b32 (FP.Core.val32 (FP.fadd x y)) ≤ ((u + w : Nat) : Int) * ((2 ^ 149 : Nat) : Int) := by
    rw [← v3]
    refine (fadd_z x1 y1 v1 v2).1 ?_
    rw [v3, Int.natCast_add, Int.add_mul]
    exact Int.add_le_add x3 y3
  refine ⟨ffin_z p h up, p, up, ?_⟩
  have lo := fun {k : UInt32} (hk : FP.Core.val32 k ≠ .nan) => (fadd_z x1 y1 (FP.Core.val32_fits k) hk).2
  by_cases hx : FP.Core.zval FP.Core.b32 (FP.Core.val32 x) = 0
  · by_cases hy : FP.Core.zval FP.Core.b32 (FP.Core.val32 y) = 0
    · left
      have a := (fadd_z x1 y1 (FP.Core.val32_fits x) (fpos_to x2).1).1 (by omega)
      have b := fz_nn p
      omega
    · right
      have := lo fL_z.2 (by rw [fL_z.1]; omega)
      rw [fL_z.1] at this
      exact this
  · right
    have := lo fL_z.2 (by rw [fL_z.1]; omega)
    rw [fL_z.1] at this
    exact this
theorem fgR_0 : fgR 0 FP.fconst0 := ⟨⟨false, 0, FP.Core.b32.qmin, by decide +kernel⟩, by unfold fpos; decide, by decide +kernel, Or.inl (by decide +kernel)⟩
theorem fL_u : FP.Core.unitsOf FP.Core.b32 1031798784 = 2 ^ 145 := by decide +kernel
theorem fz_u {x : UInt32} (h : fpos x) : FP.Core.zval FP.Core.b32 (FP.Core.val32 x) = (FP.Core.unitsOf FP.Core.b32 x.toNat : Int) := by
  obtain ⟨a, b⟩ := fpos_to h
  have e := FP.Core.zmag_bits32 a
  rw [Nat.mod_eq_of_lt (by unfold fpos at h; omega)] at e
  unfold FP.Core.zval
  rw [b, e]
  rfl
/-- 0, or a normal number -/
def fnB (x : UInt32) : Prop := x.toNat = 0 ∨ 2 ^ 23 ≤ x.toNat ∧ x.toNat < (254 + 1) * 2 ^ 23
theorem fgR_n {u : Nat} {x : UInt32} (X : fgR u x) : fnB x := by
  obtain ⟨x1, x2, x3, x4⟩ := X
  rw [fz_u x2] at x4
  have f := (FP.Core.fin_bits32 x).1 x1
  rw [Nat.mod_eq_of_lt (by unfold fpos at x2; omega)] at f
  rcases x4 with x4 | x4
  · left
    exact (FP.Core.unitsOf_eq_zero (f := FP.Core.b32)).1 (by omega)
  · right
    rw [← fL_u] at x4
    have := FP.Core.unitsOf_le_iff.1 (Int.ofNat_le.1 x4)
    omega

/-- what a number of the format adds up to, in units -/
theorem dadd_z {x y : UInt64} (fx : FP.Core.DFin x) (fy : FP.Core.DFin y) {V : FP.Core.Datum} (hV : FP.Core.fits FP.Core.b64 V) (hn : V ≠ .nan) : (FP.Core.zval FP.Core.b64 (FP.Core.val64 x) + FP.Core.zval FP.Core.b64 (FP.Core.val64 y) ≤ FP.Core.zval FP.Core.b64 V → FP.Core.zval FP.Core.b64 (FP.Core.val64 (FP.dadd x y)) ≤ FP.Core.zval FP.Core.b64 V) ∧ (FP.Core.zval FP.Core.b64 V ≤ FP.Core.zval FP.Core.b64 (FP.Core.val64 x) + FP.Core.zval FP.Core.b64 (FP.Core.val64 y) → FP.Core.zval FP.Core.b64 V ≤ FP.Core.zval FP.Core.b64 (FP.Core.val64 (FP.dadd x y))) := by
  obtain ⟨s, c, q, hx⟩ := fx
  obtain ⟨t, d, r, hy⟩ := fy
  have gx := FP.Core.val64_fits x
  have gy := FP.Core.val64_fits y
  have e : FP.Core.val64 (FP.dadd x y) = _ := FP.Core.val64_dadd x y
  rw [hx] at gx e ⊢
  rw [hy] at gy e ⊢
  obtain ⟨sg, n, e', q1, q2, q3⟩ := FP.Core.sum_units gx gy
  rw [e, q1, ← q3]
  have one : ((2 ^ (FP.Core.b64.qmin - FP.Core.b64.qmin).toNat : Nat) : Int) = 1 := by rw [Int.sub_self]; rfl
  exact ⟨fun h => FP.Core.zval_round_le FP.Core.good_b64 hV hn (Int.le_refl _) q2 (by rw [one, Int.mul_one]; exact h), fun h => FP.Core.zval_round_ge FP.Core.good_b64 hV hn (Int.le_refl _) q2 (by rw [one, Int.mul_one]; exact h)⟩
theorem dnat_V {n : Nat} (hn : n ≤ 2 ^ 24) : ∃ V, FP.Core.fits FP.Core.b64 V ∧ V ≠ .nan ∧ FP.Core.zval FP.Core.b64 V = (n : Int) * ((2 ^ 1074 : Nat) : Int) := by
  obtain ⟨c, q, f, e⟩ := FP.Core.natFit FP.Core.good_b64 FP.Core.wide_b64 false (n := n) (Nat.le_trans hn (by decide))
  refine ⟨.fin false c q, f, FP.Core.Datum.noConfusion, ?_⟩
  have w : FP.Core.Whole (n : Int) (.fin false c q) := by
    show ((c * 2 ^ q.toNat : Nat) : Int) = (n : Int) * ((2 ^ (-q).toNat : Nat) : Int)
    rw [← Int.natCast_mul]
    congr 1
    rw [Nat.mul_one, Int.sub_zero, Int.zero_sub] at e
    exact e.symm
  rw [FP.Core.whole_zval FP.Core.good_b64 f w, show (-FP.Core.b64.qmin).toNat = 1074 by decide]
/-- not negative, finite, at most u, and no smaller than 1/16 where it is not 0 -/
def dgR (u : Nat) (x : UInt64) : Prop := FP.Core.DFin x ∧ dpos x ∧ FP.Core.zval FP.Core.b64 (FP.Core.val64 x) ≤ (u : Int) * ((2 ^ 1074 : Nat) : Int) ∧ (FP.Core.zval FP.Core.b64 (FP.Core.val64 x) = 0 ∨ ((2 ^ 1070 : Nat) : Int) ≤ FP.Core.zval FP.Core.b64 (FP.Core.val64 x))
theorem dL_z : FP.Core.zval FP.Core.b64 (FP.Core.val64 4589168020290535424) = ((2 ^ 1070 : Nat) : Int) ∧ FP.Core.val64 4589168020290535424 ≠ .nan := by decide +kernel
theorem dz_nn {x : UInt64} (h : dpos x) : 0 ≤ FP.Core.zval FP.Core.b64 (FP.Core.val64 x) := FP.Core.zval_nonneg (dpos_to h).1 (by unfold dpos at h; omega)
theorem dfin_z {x : UInt64} (h : dpos x) {n : Nat} (hn : n ≤ 2 ^ 24) (z : FP.Core.zval FP.Core.b64 (FP.Core.val64 x) ≤ (n : Int) * ((2 ^ 1074 : Nat) : Int)) : FP.Core.DFin x := by
  obtain ⟨a, b⟩ := dpos_to h
  unfold FP.Core.DFin
  cases e : FP.Core.val64 x with
  | nan => exact absurd e a
  | fin s c q => exact ⟨s, c, q, rfl⟩
  | inf s =>
    rw [e] at b z
    have b : s = false := b
    subst b
    have z : ((FP.Core.b64.tails * 2 ^ (FP.Core.b64.exps - 2) : Nat) : Int) ≤ (n : Int) * ((2 ^ 1074 : Nat) : Int) := z
    rw [← Int.natCast_mul] at z
    have k : 2 ^ 24 * 2 ^ 1074 < FP.Core.b64.tails * 2 ^ (FP.Core.b64.exps - 2) := by decide +kernel
    have := Nat.mul_le_mul_right (2 ^ 1074) hn
    omega
theorem dgR_add {u w : Nat} {x y : UInt64} (X : dgR u x) (Y : dgR w y) (h : u + w ≤ 2 ^ 24) : dgR (u + w) (FP.dadd x y) := by
  obtain ⟨x1, x2, x3, x4⟩ := X
  obtain ⟨y1, y2, y3, y4⟩ := Y
  have zx := dz_nn x2
  have zy := dz_nn y2
  have p := dpos_add x2 y2
  obtain ⟨V, v1, v2, v3⟩ := dnat_V h
  have up : FP.Core.zval FP.Core.b64 (FP.Core.val64 (FP.dadd x y)) ≤ ((u + w : Nat) : Int) * ((2 ^ 1074 : Nat) : Int) := by
    rw [← v3]
    refine (dadd_z x1 y1 v1 v2).1 ?_
    rw [v3, Int.natCast_add, Int.add_mul]
    exact Int.add_le_add x3 y3
  refine ⟨dfin_z p h up, p, up, ?_⟩
  have lo := fun {k : UInt64} (hk : FP.Core.val64 k ≠ .nan) => (dadd_z x1 y1 (FP.Core.val64_fits k) hk).2
  by_cases hx : FP.Core.zval FP.Core.b64 (FP.Core.val64 x) = 0
  · by_cases hy : FP.Core.zval FP.Core.b64 (FP.Core.val64 y) = 0
    · left
      have a := (dadd_z x1 y1 (FP.Core.val64_fits x) (dpos_to x2).1).1 (by omega)
      have b := dz_nn p
      omega
    · right
      have := lo dL_z.2 (by rw [dL_z.1]; omega)
      rw [dL_z.1] at this
      exact this
  · right
    have := lo dL_z.2 (by rw [dL_z.1]; omega)
    rw [dL_z.1] at this
    exact this
theorem dgR_0 : dgR 0 FP.dconst0 := ⟨⟨false, 0, FP.Core.b64.qmin, by decide +kernel⟩, by unfold dpos; decide, by decide +kernel, Or.inl (by decide +kernel)⟩
theorem dL_u : FP.Core.unitsOf FP.Core.b64 4589168020290535424 = 2 ^ 1070 := by decide +kernel
theorem dz_u {x : UInt64} (h : dpos x) : FP.Core.zval FP.Core.b64 (FP.Core.val64 x) = (FP.Core.unitsOf FP.Core.b64 x.toNat : Int) := by
  obtain ⟨a, b⟩ := dpos_to h
  have e := FP.Core.zmag_bits a
  rw [Nat.mod_eq_of_lt (by unfold dpos at h; omega)] at e
  unfold FP.Core.zval
  rw [b, e]
  rfl
/-- 0, or a normal number -/
def dnB (x : UInt64) : Prop := x.toNat = 0 ∨ 2 ^ 52 ≤ x.toNat ∧ x.toNat < (2046 + 1) * 2 ^ 52
theorem dgR_n {u : Nat} {x : UInt64} (X : dgR u x) : dnB x := by
  obtain ⟨x1, x2, x3, x4⟩ := X
  rw [dz_u x2] at x4
  have f := (FP.Core.fin_bits x).1 x1
  rw [Nat.mod_eq_of_lt (by unfold dpos at x2; omega)] at f
  rcases x4 with x4 | x4
  · left
    exact (FP.Core.unitsOf_eq_zero (f := FP.Core.b64)).1 (by omega)
  · right
    rw [← dL_u] at x4
    have := FP.Core.unitsOf_le_iff.1 (Int.ofNat_le.1 x4)
    omega

/-- a price -/
def prB : FP.Core.Datum → Bool
  | .fin s c q => !s && (decide (c * 2 ^ (q - -149).toNat ≤ 16 * 2 ^ 149) && (decide (c = 0) || decide (2 ^ 145 ≤ c * 2 ^ (q - -149).toNat)))
  | _ => false
theorem prc_B : ∀ p : Fin 100, prB (FP.Core.val32 (FP.fdiv (FP.i2f (Int32.ofInt (p.val : Int))) 1092616192)) = true := by decide +kernel
theorem prB_R {x : UInt32} (h : prB (FP.Core.val32 x) = true) : fgR 16 x := by
  have fits := FP.Core.val32_fits x
  cases e : FP.Core.val32 x with
  | nan => rw [e] at h; exact absurd h Bool.false_ne_true
  | inf s => rw [e] at h; exact absurd h Bool.false_ne_true
  | fin s c q =>
    rw [e] at h
    simp only [prB, Bool.and_eq_true, Bool.or_eq_true, Bool.not_eq_true', decide_eq_true_eq] at h
    obtain ⟨rfl, h2, h3⟩ := h
    have p : fpos x := fpos_of (by rw [e]; exact FP.Core.Datum.noConfusion) (by rw [e]; rfl)
    have z : FP.Core.zval FP.Core.b32 (FP.Core.val32 x) = ((c * 2 ^ (q - -149).toNat : Nat) : Int) := by rw [e]; rfl
    refine ⟨⟨false, c, q, e⟩, p, ?_, ?_⟩
    · rw [z, ← Int.natCast_mul]
      exact Int.ofNat_le.2 h2
    · rw [z]
      rcases h3 with h3 | h3
      · left; rw [h3, Nat.zero_mul]; rfl
      · right; exact Int.ofNat_le.2 h3
theorem prc_R {p : Int} (h0 : 0 ≤ p) (h1 : p ≤ 99) : fgR 16 (FP.fdiv (FP.i2f (Int32.ofInt p)) 1092616192) := by
  have g := prc_B ⟨p.toNat, by omega⟩
  rw [show (((⟨p.toNat, by omega⟩ : Fin 100).val : Nat) : Int) = p from by show ((p.toNat : Nat) : Int) = p; omega] at g
  exact prB_R g
theorem fgR_m {u w : Nat} {x : UInt32} (X : fgR u x) (h : u ≤ w) : fgR w x := ⟨X.1, X.2.1, Int.le_trans X.2.2.1 (Int.mul_le_mul_of_nonneg_right (Int.ofNat_le.2 h) (Int.natCast_nonneg _)), X.2.2.2⟩
theorem dgR_m {u w : Nat} {x : UInt64} (X : dgR u x) (h : u ≤ w) : dgR w x := ⟨X.1, X.2.1, Int.le_trans X.2.2.1 (Int.mul_le_mul_of_nonneg_right (Int.ofNat_le.2 h) (Int.natCast_nonneg _)), X.2.2.2⟩
theorem f2d_R {u : Nat} {x : UInt32} (X : fgR u x) (h : u ≤ 2 ^ 24) : dgR u (FP.f2d x) := by
  obtain ⟨⟨s, c, q, e⟩, x2, x3, x4⟩ := X
  have p := dpos_f2d x2
  have v : FP.Core.val64 (FP.f2d x) = FP.Core.round FP.Core.b64 (.fin s c q) := by
    have n : FP.Core.fIsNaN x = false := (FP.Core.notNaN_iff32 x).2 (fpos_to x2).1
    unfold FP.f2d
    rw [n, if_neg (by decide), FP.Core.val64_f2d, e]
  have gx := FP.Core.val32_fits x
  rw [e] at gx x3 x4
  have q1 : -149 ≤ q := gx.2.1
  have mv : FP.Core.inUnits c q FP.Core.b64.qmin = FP.Core.inUnits c q FP.Core.b32.qmin * 2 ^ 925 := by
    rw [FP.Core.inUnits_move c (e := FP.Core.b64.qmin) (r := FP.Core.b32.qmin) (by decide) q1]
    rw [show (FP.Core.b32.qmin - FP.Core.b64.qmin).toNat = 925 by decide]
  have sg : FP.Core.signed s (FP.Core.inUnits c q FP.Core.b64.qmin) = FP.Core.zval FP.Core.b32 (.fin s c q) * ((2 ^ 925 : Nat) : Int) := by
    rw [mv, FP.Core.signed_mul]
    rfl
  have one : ((2 ^ (FP.Core.b64.qmin - FP.Core.b64.qmin).toNat : Nat) : Int) = 1 := by rw [Int.sub_self]; rfl
  have up := fun {V : FP.Core.Datum} (hV : FP.Core.fits FP.Core.b64 V) (hn : V ≠ .nan) (w : FP.Core.zval FP.Core.b32 (.fin s c q) * ((2 ^ 925 : Nat) : Int) ≤ FP.Core.zval FP.Core.b64 V) => FP.Core.zval_round_le FP.Core.good_b64 (s := s) (c := c) (q := q) hV hn (Int.le_refl _) (Int.le_trans (by decide) q1) (by rw [one, Int.mul_one, sg]; exact w)
  have lo := fun {V : FP.Core.Datum} (hV : FP.Core.fits FP.Core.b64 V) (hn : V ≠ .nan) (w : FP.Core.zval FP.Core.b64 V ≤ FP.Core.zval FP.Core.b32 (.fin s c q) * ((2 ^ 925 : Nat) : Int)) => FP.Core.zval_round_ge FP.Core.good_b64 (s := s) (c := c) (q := q) hV hn (Int.le_refl _) (Int.le_trans (by decide) q1) (by rw [one, Int.mul_one, sg]; exact w)
  rw [← v] at up lo
  have P : (0 : Int) ≤ ((2 ^ 925 : Nat) : Int) := Int.natCast_nonneg _
  obtain ⟨V, v1, v2, v3⟩ := dnat_V h
  have u1 : FP.Core.zval FP.Core.b64 (FP.Core.val64 (FP.f2d x)) ≤ (u : Int) * ((2 ^ 1074 : Nat) : Int) := by
    rw [← v3]
    refine up v1 v2 ?_
    rw [v3]
    have := Int.mul_le_mul_of_nonneg_right x3 P
    rw [Int.mul_assoc, ← Int.natCast_mul (2 ^ 149), ← Nat.pow_add] at this
    exact this
  refine ⟨dfin_z p h u1, p, u1, ?_⟩
  rcases x4 with x4 | x4
  · left
    rw [x4, Int.zero_mul] at up
    have a := up (V := FP.Core.val64 FP.dconst0) (FP.Core.val64_fits _) (by decide +kernel) (by decide +kernel)
    have b := dz_nn p
    have c : FP.Core.zval FP.Core.b64 (FP.Core.val64 FP.dconst0) = 0 := by decide +kernel
    omega
  · right
    have a := lo (V := FP.Core.val64 4589168020290535424) (FP.Core.val64_fits _) dL_z.2 (by
      rw [dL_z.1]
      have := Int.mul_le_mul_of_nonneg_right x4 P
      rw [← Int.natCast_mul, ← Nat.pow_add] at this
      exact this)
    rw [dL_z.1] at a
    exact a
theorem div_ge {f : FP.Core.Fmt} (hf : FP.Core.Good f) {x y m : Nat} (hx : FP.Core.mag f x < FP.Core.infBits f) (hy : FP.Core.mag f y < FP.Core.infBits f) (h0 : FP.Core.mag f y ≠ 0) (hm : m ≤ FP.Core.infBits f) (h : FP.Core.unitsOf f m * FP.Core.unitsOf f (FP.Core.mag f y) ≤ FP.Core.unitsOf f (FP.Core.mag f x) * 2 ^ (-f.qmin).toNat) : m ≤ FP.Core.mag f (FP.Core.div f x y) := by
  obtain ⟨s, c, q, x1, x2, x3⟩ := FP.Core.fin_of_mag hf hx
  obtain ⟨t, d, r, y1, y2, y3⟩ := FP.Core.fin_of_mag hf hy
  have hq := FP.Core.qmin_neg hf
  have hd0 : d ≠ 0 := by
    rintro rfl
    have h1 : FP.Core.zmag f (.fin t 0 r) = 0 := Nat.zero_mul _
    rw [y3] at h1
    exact h0 (FP.Core.unitsOf_eq_zero.1 h1)
  have hd : FP.Core.decode f (FP.Core.div f x y) = FP.Core.roundRatio f (s != t) c d (q - r) := by
    unfold FP.Core.div
    rw [FP.Core.decode_enc hf (FP.Core.quotient_fits hf _ _), x1, y1]
    simp only [FP.Core.quotient, if_neg hd0]
  have hx1 := x2.2.1
  have hy1 := y2.2.1
  refine FP.Core.mag_ge hf hd (by omega) (e0 := 2 * f.qmin - r) (by omega) (by omega) hm ?_
  have e1 : FP.Core.inUnits c (q - r) (2 * f.qmin - r) = FP.Core.zmag f (.fin s c q) * 2 ^ (-f.qmin).toNat := by
    show c * _ = c * _ * _
    rw [Nat.mul_assoc, ← Nat.pow_add]; congr 2; omega
  have e2 : 2 ^ (f.qmin - (2 * f.qmin - r)).toNat * d = FP.Core.zmag f (.fin t d r) := by
    show _ = d * _
    rw [Nat.mul_comm]; congr 2; omega
  rw [e1, Nat.mul_assoc, e2, x3, y3]
  exact h
theorem i2d_B : ∀ k : Fin 65, 1 ≤ k.val → (FP.i2d (Int32.ofInt (k.val : Int))).toNat ≤ 4634204016564240384 ∧ 1023 * 2 ^ 52 ≤ (FP.i2d (Int32.ofInt (k.val : Int))).toNat := by decide +kernel
theorem dnB_div {u : Nat} {x : UInt64} (X : dgR u x) (hu : u ≤ 2 ^ 24) {k : Int} (h0 : 1 ≤ k) (h1 : k ≤ 64) : dnB (FP.ddiv x (FP.i2d (Int32.ofInt k))) := by
  have p := dpos_div X.2.1 h0 h1
  have g := i2d_B ⟨k.toNat, by omega⟩ (by show 1 ≤ k.toNat; omega)
  rw [show (((⟨k.toNat, by omega⟩ : Fin 65).val : Nat) : Int) = k from by show ((k.toNat : Nat) : Int) = k; omega] at g
  have xn := dgR_n X
  have z := dz_u X.2.1
  obtain ⟨x1, x2, x3, x4⟩ := X
  generalize FP.i2d (Int32.ofInt k) = y at *
  have big : x.toNat < 1100 * 2 ^ 52 := by
    refine Nat.lt_of_not_le fun c => ?_
    have a := FP.Core.unitsOf_le_iff (f := FP.Core.b64) |>.2 c
    have b : FP.Core.unitsOf FP.Core.b64 (1100 * 2 ^ 52) = 2 ^ 1151 := by decide +kernel
    rw [b] at a
    rw [z, ← Int.natCast_mul] at x3
    have x3 := Int.ofNat_le.1 x3
    have d : 2 ^ 24 * 2 ^ 1074 < 2 ^ 1151 := by decide +kernel
    have := Nat.mul_le_mul_right (2 ^ 1074) hu
    omega
  have up := FP.Core.ddiv_mag (a := x) (b := y) (K := 1100) (L := 1023) (by rw [Nat.mod_eq_of_lt (by unfold dpos at x2; omega)]; exact big) (by rw [Nat.mod_eq_of_lt (by omega)]; exact g.2) (by rw [Nat.mod_eq_of_lt (by omega)]; omega) (by decide) (by decide)
  rw [Nat.mod_eq_of_lt (by have p := p; unfold dpos at p; show (FP.ddiv x y).toNat < _; omega)] at up
  have up : (FP.ddiv x y).toNat < 1104 * 2 ^ 52 := Nat.lt_of_lt_of_le up (by decide)
  have my : FP.Core.mag FP.Core.b64 y.toNat = y.toNat := FP.Core.mag_of_lt (by rw [FP.Core.half_b64]; omega)
  have mx : FP.Core.mag FP.Core.b64 x.toNat = x.toNat := FP.Core.mag_of_lt (by rw [FP.Core.half_b64]; omega)
  have mz : FP.Core.mag FP.Core.b64 (FP.ddiv x y).toNat = (FP.ddiv x y).toNat := FP.Core.mag_of_lt (by rw [FP.Core.half_b64]; omega)
  have dv : (FP.ddiv x y).toNat = FP.Core.div FP.Core.b64 x.toNat y.toNat := FP.Core.toNat_of64 (FP.Core.quotient_fits FP.Core.good_b64 _ _)
  have ib := FP.Core.infBits_b64
  rw [z] at x4
  rcases x4 with x4 | x4
  · left
    have x0 : x.toNat = 0 := (FP.Core.unitsOf_eq_zero (f := FP.Core.b64)).1 (by omega)
    have vx : FP.Core.val64 x = .fin false 0 FP.Core.b64.qmin := by
      unfold FP.Core.val64
      rw [x0]
      decide +kernel
    obtain ⟨t, d, r, y1, y2, y3⟩ := FP.Core.fin_of_mag FP.Core.good_b64 (n := y.toNat) (by rw [my, ib]; omega)
    have hd0 : d ≠ 0 := by
      rintro rfl
      have h1 : FP.Core.zmag FP.Core.b64 (.fin t 0 r) = 0 := Nat.zero_mul _
      rw [y3, my] at h1
      have := (FP.Core.unitsOf_eq_zero (f := FP.Core.b64)).1 h1
      omega
    have y1 : FP.Core.val64 y = .fin t d r := y1
    have e : FP.Core.val64 (FP.ddiv x y) = .fin (false != t) 0 FP.Core.b64.qmin := by
      refine (FP.Core.val64_ddiv x y).trans ?_
      rw [vx, y1]
      show (if d = 0 then _ else FP.Core.roundRatio FP.Core.b64 (false != t) 0 d (FP.Core.b64.qmin - r)) = _
      rw [if_neg hd0]
      rfl
    have q := dz_u p
    rw [e] at q
    have : FP.Core.zval FP.Core.b64 (.fin (false != t) 0 FP.Core.b64.qmin) = 0 := by cases t <;> decide
    exact (FP.Core.unitsOf_eq_zero (f := FP.Core.b64)).1 (by omega)
  · right
    refine ⟨?_, by omega⟩
    have a := div_ge FP.Core.good_b64 (x := x.toNat) (y := y.toNat) (m := 2 ^ 52) (by rw [mx, ib]; omega) (by rw [my, ib]; omega) (by rw [my]; omega) (by rw [ib]; omega) (by
      rw [mx, my]
      have a := (FP.Core.unitsOf_le_iff (f := FP.Core.b64)).2 g.1
      have b : FP.Core.unitsOf FP.Core.b64 4634204016564240384 = 2 ^ 1080 := by decide +kernel
      have c : FP.Core.unitsOf FP.Core.b64 (2 ^ 52) = 2 ^ 52 := by decide +kernel
      rw [b] at a
      rw [c, show (-FP.Core.b64.qmin).toNat = 1074 by decide]
      have x4 := Int.ofNat_le.1 x4
      calc 2 ^ 52 * FP.Core.unitsOf FP.Core.b64 y.toNat ≤ 2 ^ 52 * 2 ^ 1080 := Nat.mul_le_mul_left _ a
        _ ≤ 2 ^ 1070 * 2 ^ 1074 := by rw [← Nat.pow_add, ← Nat.pow_add]; exact Nat.pow_le_pow_right (by decide) (by decide)
        _ ≤ _ := Nat.mul_le_mul_right _ x4)
    rw [← dv, mz] at a
    exact a

