/-! Floats that are not negative. -/
def fpos (x : UInt32) : Prop := x.toNat ≤ 2139095040
theorem fpos_zn {x : UInt32} (h : fpos x) : zn32 x = true := by
  unfold zn32
  refine decide_eq_true ?_
  rw [UInt32.le_iff_toNat_le, UInt32.toNat_and]
  exact Nat.le_trans Nat.and_le_left h
theorem fpos_add {x y : UInt32} (h : fpos x) (g : fpos y) : fpos (FP.fadd x y) := sorry
theorem fpos_prc {p : Int} (h0 : 0 ≤ p) (h1 : p ≤ 99) : fpos (FP.fdiv (FP.i2f (Int32.ofInt p)) 1092616192) := sorry
theorem fpos_0 : fpos FP.fconst0 := by unfold fpos; decide
