/-! Floats that are not negative. -/
def fpos (x : UInt32) : Prop := x.toNat ≤ 2139095040
theorem fpos_zn {x : UInt32} (h : fpos x) : zn32 x = true := by
  unfold zn32
  refine decide_eq_true ?_
  rw [UInt32.le_iff_toNat_le, UInt32.toNat_and]
  exact Nat.le_trans Nat.and_le_left h
theorem fpos_add {x y : UInt32} (h : fpos x) (g : fpos y) : fpos (FP.fadd x y) := sorry
theorem fpos_prc {p : Int} (h0 : 0 ≤ p) (h1 : p ≤ 99) : fpos (FP.fdiv (FP.i2f (Int32.ofInt p)) 1092616192) := sorry
theorem fpos_0 : fpos FP.fconst0 := by unfold fpos; decide
def dpos (x : UInt64) : Prop := x.toNat ≤ 9218868437227405312
theorem dpos_zn {x : UInt64} (h : dpos x) : zn64 x = true := by
  unfold zn64
  refine decide_eq_true ?_
  rw [UInt64.le_iff_toNat_le, UInt64.toNat_and]
  exact Nat.le_trans Nat.and_le_left h
theorem dpos_f2d {x : UInt32} (h : fpos x) : dpos (FP.f2d x) := sorry
theorem dpos_add {x y : UInt64} (h : dpos x) (g : dpos y) : dpos (FP.dadd x y) := sorry
theorem dpos_div {x : UInt64} (h : dpos x) {k : Int} (h0 : 1 ≤ k) (h1 : k ≤ 64) : dpos (FP.ddiv x (FP.i2d (Int32.ofInt k))) := sorry
theorem dpos_0 : dpos FP.dconst0 := by unfold dpos; decide
theorem fpos_shr {k : Int} (h0 : 0 ≤ k) (h1 : k ≤ 64) : fpos (FP.fdiv (FP.i2f (Int32.ofInt k)) 1115684864) := sorry
