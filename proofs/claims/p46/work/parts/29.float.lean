/-! Floats that are not negative. -/
def fpos (x : UInt32) : Prop := x.toNat ≤ 2139095040
theorem fpos_zn {x : UInt32} (h : fpos x) : zn32 x = true := sorry
theorem fpos_0 : fpos FP.fconst0 := sorry
def dpos (x : UInt64) : Prop := x.toNat ≤ 9218868437227405312
theorem dpos_zn {x : UInt64} (h : dpos x) : zn64 x = true := sorry
theorem dpos_0 : dpos FP.dconst0 := sorry
theorem fpos_of {x : UInt32} (h : FP.Core.val32 x ≠ .nan) (s : FP.Core.sgn (FP.Core.val32 x) = false) : fpos x := sorry
theorem fpos_to {x : UInt32} (h : fpos x) : FP.Core.val32 x ≠ .nan ∧ FP.Core.sgn (FP.Core.val32 x) = false := sorry
theorem dpos_of {x : UInt64} (h : FP.Core.val64 x ≠ .nan) (s : FP.Core.sgn (FP.Core.val64 x) = false) : dpos x := sorry
theorem dpos_to {x : UInt64} (h : dpos x) : FP.Core.val64 x ≠ .nan ∧ FP.Core.sgn (FP.Core.val64 x) = false := sorry
theorem rnd_p {f : FP.Core.Fmt} {d : FP.Core.Datum} (h : d ≠ .nan) (s : FP.Core.sgn d = false) : FP.Core.round f d ≠ .nan ∧ FP.Core.sgn (FP.Core.round f d) = false := sorry
theorem sum_p {x y : FP.Core.Datum} (hx : x ≠ .nan) (sx : FP.Core.sgn x = false) (hy : y ≠ .nan) (sy : FP.Core.sgn y = false) : FP.Core.exactSum x y ≠ .nan ∧ FP.Core.sgn (FP.Core.exactSum x y) = false := sorry
/-- positive and not zero -/
def pnz : FP.Core.Datum → Bool
  | .fin s c _ => !s && decide (c ≠ 0)
  | _ => false
theorem quo_p {f : FP.Core.Fmt} {x y : FP.Core.Datum} (hx : x ≠ .nan) (sx : FP.Core.sgn x = false) (hy : pnz y = true) : FP.Core.quotient f x y ≠ .nan ∧ FP.Core.sgn (FP.Core.quotient f x y) = false := sorry
theorem fpos_add {x y : UInt32} (h : fpos x) (g : fpos y) : fpos (FP.fadd x y) := sorry
theorem fpos_div {x y : UInt32} (h : fpos x) (g : pnz (FP.Core.val32 y) = true) : fpos (FP.fdiv x y) := sorry
theorem fpos_i2f {k : Int} (h0 : 0 ≤ k) (h1 : k ≤ 1000) : fpos (FP.i2f (Int32.ofInt k)) := sorry
theorem fpos_prc {p : Int} (h0 : 0 ≤ p) (h1 : p ≤ 99) : fpos (FP.fdiv (FP.i2f (Int32.ofInt p)) 1092616192) := sorry
theorem fpos_shr {k : Int} (h0 : 0 ≤ k) (h1 : k ≤ 64) : fpos (FP.fdiv (FP.i2f (Int32.ofInt k)) 1115684864) := sorry
theorem dpos_f2d {x : UInt32} (h : fpos x) : dpos (FP.f2d x) := sorry
theorem dpos_add {x y : UInt64} (h : dpos x) (g : dpos y) : dpos (FP.dadd x y) := sorry
theorem pnz_i2d : ∀ k : Fin 65, 1 ≤ k.val → pnz (FP.Core.val64 (FP.i2d (Int32.ofInt (k.val : Int)))) = true := sorry
theorem dpos_div {x : UInt64} (h : dpos x) {k : Int} (h0 : 1 ≤ k) (h1 : k ≤ 64) : dpos (FP.ddiv x (FP.i2d (Int32.ofInt k))) := sorry
