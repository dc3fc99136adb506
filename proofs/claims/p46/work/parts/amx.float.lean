/-! Floats: bits and numbers. -/

theorem pw_1 {c t a k T D : Nat} (ha : a = k + (T + D)) (u : c * 2 ^ a = t * 2 ^ D) : c * 2 ^ T * 2 ^ k = t := sorry
theorem pw_2 {c t a k T D : Nat} (ha : a + k = T + D) (u : c * 2 ^ a = t * 2 ^ D) : c * 2 ^ T = t * 2 ^ k := sorry
def fxd (E t : Nat) : FP.Core.Datum := .fin false (2 ^ 23 + t) ((E : Int) - 150)
theorem fxd_fits {E t : Nat} (h1 : 1 ≤ E) (h2 : E ≤ 254) (ht : t < 2 ^ 23) : FP.Core.fits FP.Core.b32 (fxd E t) := sorry
theorem fxd_val {n E t : Nat} {x : UInt32} (hx : x.toNat = n) (hn : n = E * 2 ^ 23 + t) (h1 : 1 ≤ E) (h2 : E ≤ 254) (ht : t < 2 ^ 23) : FP.Core.val32 x = fxd E t := sorry
theorem fxd_bits {E t : Nat} {x : UInt32} (h : FP.Core.val32 x = fxd E t) (h1 : 1 ≤ E) (h2 : E ≤ 254) (ht : t < 2 ^ 23) : x.toNat = E * 2 ^ 23 + t := sorry
theorem fv2 : FP.Core.val32 FP.fconst2 = fxd (127 + 1) 0 := sorry
theorem fv1 : FP.Core.val32 FP.fconst1 = fxd 127 0 := sorry
theorem fvM : FP.Core.val32 1258291200 = fxd (127 + 23) 0 := sorry
theorem fx_half {E t : Nat} {x : UInt32} (h : FP.Core.val32 x = fxd E t) (h1 : 2 ≤ E) (h2 : E ≤ 254) (ht : t < 2 ^ 23) : FP.Core.val32 (FP.fdiv x FP.fconst2) = fxd (E - 1) t := sorry
theorem fx_dbl {E t : Nat} {x : UInt32} (h : FP.Core.val32 x = fxd E t) (h1 : 1 ≤ E) (h2 : E < 254) (ht : t < 2 ^ 23) : FP.Core.val32 (FP.fmul x FP.fconst2) = fxd (E + 1) t := sorry
theorem fx_nn {E t : Nat} : fxd E t ≠ .nan := sorry
theorem fcmp_i {a b : UInt32} {k : ClassFile.CmpOp} (ha : FP.Core.val32 a ≠ .nan) (hb : FP.Core.val32 b ≠ .nan) (sa : a.toNat < 2 ^ 31) (sb : b.toNat < 2 ^ 31) : ((Op.cmpValue (FP.fcmp a b) k).toInt < 0 ↔ a.toNat < b.toNat) ∧ (0 < (Op.cmpValue (FP.fcmp a b) k).toInt ↔ b.toNat < a.toNat) ∧ ((Op.cmpValue (FP.fcmp a b) k).toInt = 0 ↔ a.toNat = b.toNat) := sorry
theorem fx_sub1 {t : Nat} {x : UInt32} (h : FP.Core.val32 x = fxd 127 t) (ht : t < 2 ^ 23) : fpos (FP.fsub x FP.fconst1) ∧ fpos (FP.fmul (FP.fsub x FP.fconst1) 1258291200) ∧ FP.Core.FInt (t : Int) (FP.fmul (FP.fsub x FP.fconst1) 1258291200) := sorry
def dxd (E t : Nat) : FP.Core.Datum := .fin false (2 ^ 52 + t) ((E : Int) - 1075)
theorem dxd_fits {E t : Nat} (h1 : 1 ≤ E) (h2 : E ≤ 2046) (ht : t < 2 ^ 52) : FP.Core.fits FP.Core.b64 (dxd E t) := sorry
theorem dxd_val {n E t : Nat} {x : UInt64} (hx : x.toNat = n) (hn : n = E * 2 ^ 52 + t) (h1 : 1 ≤ E) (h2 : E ≤ 2046) (ht : t < 2 ^ 52) : FP.Core.val64 x = dxd E t := sorry
theorem dxd_bits {E t : Nat} {x : UInt64} (h : FP.Core.val64 x = dxd E t) (h1 : 1 ≤ E) (h2 : E ≤ 2046) (ht : t < 2 ^ 52) : x.toNat = E * 2 ^ 52 + t := sorry
theorem dv2 : FP.Core.val64 4611686018427387904 = dxd (1023 + 1) 0 := sorry
theorem dv1 : FP.Core.val64 FP.dconst1 = dxd 1023 0 := sorry
theorem dvM : FP.Core.val64 4841369599423283200 = dxd (1023 + 52) 0 := sorry
theorem dx_half {E t : Nat} {x : UInt64} (h : FP.Core.val64 x = dxd E t) (h1 : 2 ≤ E) (h2 : E ≤ 2046) (ht : t < 2 ^ 52) : FP.Core.val64 (FP.ddiv x 4611686018427387904) = dxd (E - 1) t := sorry
theorem dx_dbl {E t : Nat} {x : UInt64} (h : FP.Core.val64 x = dxd E t) (h1 : 1 ≤ E) (h2 : E < 2046) (ht : t < 2 ^ 52) : FP.Core.val64 (FP.dmul x 4611686018427387904) = dxd (E + 1) t := sorry
theorem dx_nn {E t : Nat} : dxd E t ≠ .nan := sorry
theorem dcmp_i {a b : UInt64} {k : ClassFile.CmpOp} (ha : FP.Core.val64 a ≠ .nan) (hb : FP.Core.val64 b ≠ .nan) (sa : a.toNat < 2 ^ 63) (sb : b.toNat < 2 ^ 63) : ((Op.cmpValue (FP.dcmp a b) k).toInt < 0 ↔ a.toNat < b.toNat) ∧ (0 < (Op.cmpValue (FP.dcmp a b) k).toInt ↔ b.toNat < a.toNat) ∧ ((Op.cmpValue (FP.dcmp a b) k).toInt = 0 ↔ a.toNat = b.toNat) := sorry
theorem dx_sub1 {t : Nat} {x : UInt64} (h : FP.Core.val64 x = dxd 1023 t) (ht : t < 2 ^ 52) : dpos (FP.dsub x FP.dconst1) ∧ dpos (FP.dmul (FP.dsub x FP.dconst1) 4841369599423283200) ∧ FP.Core.DInt (t : Int) (FP.dmul (FP.dsub x FP.dconst1) 4841369599423283200) := sorry
/-- what a number of the format adds up to, in units -/
theorem fadd_z {x y : UInt32} (fx : FP.Core.FFin x) (fy : FP.Core.FFin y) {V : FP.Core.Datum} (hV : FP.Core.fits FP.Core.b32 V) (hn : V ≠ .nan) : (FP.Core.zval FP.Core.b32 (FP.Core.val32 x) + FP.Core.zval FP.Core.b32 (FP.Core.val32 y) ≤ FP.Core.zval FP.Core.b32 V → FP.Core.zval FP.Core.b32 (FP.Core.val32 (FP.fadd x y)) ≤ FP.Core.zval FP.Core.b32 V) ∧ (FP.Core.zval FP.Core.b32 V ≤ FP.Core.zval FP.Core.b32 (FP.Core.val32 x) + FP.Core.zval FP.Core.b32 (FP.Core.val32 y) → FP.Core.zval FP.Core.b32 V ≤ FP.Core.zval FP.Core.b32 (FP.Core.val32 (FP.fadd x y))) := sorry
theorem fnat_V {n : Nat} (hn : n ≤ 2 ^ 24) : ∃ V, FP.Core.fits FP.Core.b32 V ∧ V ≠ .nan ∧ FP.Core.zval FP.Core.b32 V = (n : Int) * ((2 ^ 149 : Nat) : Int) := sorry
/-- not negative, finite, at most u, and no smaller than 1/16 where it is not 0 -/
def fgR (u : Nat) (x : UInt32) : Prop := FP.Core.FFin x ∧ fpos x ∧ FP.Core.zval FP.Core.b32 (FP.Core.val32 x) ≤ (u : Int) * ((2 ^ 149 : Nat) : Int) ∧ (FP.Core.zval FP.Core.b32 (FP.Core.val32 x) = 0 ∨ ((2 ^ 145 : Nat) : Int) ≤ FP.Core.zval FP.Core.b32 (FP.Core.val32 x))
theorem fL_z : FP.Core.zval FP.Core.b32 (FP.Core.val32 1031798784) = ((2 ^ 145 : Nat) : Int) ∧ FP.Core.val32 1031798784 ≠ .nan := sorry
theorem fz_nn {x : UInt32} (h : fpos x) : 0 ≤ FP.Core.zval FP.Core.b32 (FP.Core.val32 x) := sorry
theorem ffin_z {x : UInt32} (h : fpos x) {n : Nat} (hn : n ≤ 2 ^ 24) (z : FP.Core.zval FP.Core.b32 (FP.Core.val32 x) ≤ (n : Int) * ((2 ^ 149 : Nat) : Int)) : FP.Core.FFin x := sorry
theorem fgR_add {u w : Nat} {x y : UInt32} (X : fgR u x) (Y : fgR w y) (h : u + w ≤ 2 ^ 24) : fgR (u + w) (FP.fadd x y) := sorry
theorem fgR_0 : fgR 0 FP.fconst0 := sorry
theorem fL_u : FP.Core.unitsOf FP.Core.b32 1031798784 = 2 ^ 145 := sorry
theorem fz_u {x : UInt32} (h : fpos x) : FP.Core.zval FP.Core.b32 (FP.Core.val32 x) = (FP.Core.unitsOf FP.Core.b32 x.toNat : Int) := sorry
/-- 0, or a normal number -/
def fnB (x : UInt32) : Prop := x.toNat = 0 ∨ 2 ^ 23 ≤ x.toNat ∧ x.toNat < (254 + 1) * 2 ^ 23
theorem fgR_n {u : Nat} {x : UInt32} (X : fgR u x) : fnB x := sorry
/-- what a number of the format adds up to, in units -/
theorem dadd_z {x y : UInt64} (fx : FP.Core.DFin x) (fy : FP.Core.DFin y) {V : FP.Core.Datum} (hV : FP.Core.fits FP.Core.b64 V) (hn : V ≠ .nan) : (FP.Core.zval FP.Core.b64 (FP.Core.val64 x) + FP.Core.zval FP.Core.b64 (FP.Core.val64 y) ≤ FP.Core.zval FP.Core.b64 V → FP.Core.zval FP.Core.b64 (FP.Core.val64 (FP.dadd x y)) ≤ FP.Core.zval FP.Core.b64 V) ∧ (FP.Core.zval FP.Core.b64 V ≤ FP.Core.zval FP.Core.b64 (FP.Core.val64 x) + FP.Core.zval FP.Core.b64 (FP.Core.val64 y) → FP.Core.zval FP.Core.b64 V ≤ FP.Core.zval FP.Core.b64 (FP.Core.val64 (FP.dadd x y))) := sorry
theorem dnat_V {n : Nat} (hn : n ≤ 2 ^ 24) : ∃ V, FP.Core.fits FP.Core.b64 V ∧ V ≠ .nan ∧ FP.Core.zval FP.Core.b64 V = (n : Int) * ((2 ^ 1074 : Nat) : Int) := sorry
/-- not negative, finite, at most u, and no smaller than 1/16 where it is not 0 -/
def dgR (u : Nat) (x : UInt64) : Prop := FP.Core.DFin x ∧ dpos x ∧ FP.Core.zval FP.Core.b64 (FP.Core.val64 x) ≤ (u : Int) * ((2 ^ 1074 : Nat) : Int) ∧ (FP.Core.zval FP.Core.b64 (FP.Core.val64 x) = 0 ∨ ((2 ^ 1070 : Nat) : Int) ≤ FP.Core.zval FP.Core.b64 (FP.Core.val64 x))
theorem dL_z : FP.Core.zval FP.Core.b64 (FP.Core.val64 4589168020290535424) = ((2 ^ 1070 : Nat) : Int) ∧ FP.Core.val64 4589168020290535424 ≠ .nan := sorry
theorem dz_nn {x : UInt64} (h : dpos x) : 0 ≤ FP.Core.zval FP.Core.b64 (FP.Core.val64 x) := sorry
theorem dfin_z {x : UInt64} (h : dpos x) {n : Nat} (hn : n ≤ 2 ^ 24) (z : FP.Core.zval FP.Core.b64 (FP.Core.val64 x) ≤ (n : Int) * ((2 ^ 1074 : Nat) : Int)) : FP.Core.DFin x := sorry
theorem dgR_add {u w : Nat} {x y : UInt64} (X : dgR u x) (Y : dgR w y) (h : u + w ≤ 2 ^ 24) : dgR (u + w) (FP.dadd x y) := sorry
theorem dgR_0 : dgR 0 FP.dconst0 := sorry
theorem dL_u : FP.Core.unitsOf FP.Core.b64 4589168020290535424 = 2 ^ 1070 := sorry
theorem dz_u {x : UInt64} (h : dpos x) : FP.Core.zval FP.Core.b64 (FP.Core.val64 x) = (FP.Core.unitsOf FP.Core.b64 x.toNat : Int) := sorry
/-- 0, or a normal number -/
def dnB (x : UInt64) : Prop := x.toNat = 0 ∨ 2 ^ 52 ≤ x.toNat ∧ x.toNat < (2046 + 1) * 2 ^ 52
theorem dgR_n {u : Nat} {x : UInt64} (X : dgR u x) : dnB x := sorry
/-- a price -/
def prB : FP.Core.Datum → Bool
  | .fin s c q => !s && (decide (c * 2 ^ (q - -149).toNat ≤ 16 * 2 ^ 149) && (decide (c = 0) || decide (2 ^ 145 ≤ c * 2 ^ (q - -149).toNat)))
  | _ => false
theorem prc_B : ∀ p : Fin 100, prB (FP.Core.val32 (FP.fdiv (FP.i2f (Int32.ofInt (p.val : Int))) 1092616192)) = true := sorry
theorem prB_R {x : UInt32} (h : prB (FP.Core.val32 x) = true) : fgR 16 x := sorry
theorem prc_R {p : Int} (h0 : 0 ≤ p) (h1 : p ≤ 99) : fgR 16 (FP.fdiv (FP.i2f (Int32.ofInt p)) 1092616192) := sorry
theorem fgR_m {u w : Nat} {x : UInt32} (X : fgR u x) (h : u ≤ w) : fgR w x := sorry
theorem dgR_m {u w : Nat} {x : UInt64} (X : dgR u x) (h : u ≤ w) : dgR w x := sorry
theorem f2d_R {u : Nat} {x : UInt32} (X : fgR u x) (h : u ≤ 2 ^ 24) : dgR u (FP.f2d x) := sorry
theorem div_ge {f : FP.Core.Fmt} (hf : FP.Core.Good f) {x y m : Nat} (hx : FP.Core.mag f x < FP.Core.infBits f) (hy : FP.Core.mag f y < FP.Core.infBits f) (h0 : FP.Core.mag f y ≠ 0) (hm : m ≤ FP.Core.infBits f) (h : FP.Core.unitsOf f m * FP.Core.unitsOf f (FP.Core.mag f y) ≤ FP.Core.unitsOf f (FP.Core.mag f x) * 2 ^ (-f.qmin).toNat) : m ≤ FP.Core.mag f (FP.Core.div f x y) := sorry
theorem i2d_B : ∀ k : Fin 65, 1 ≤ k.val → (FP.i2d (Int32.ofInt (k.val : Int))).toNat ≤ 4634204016564240384 ∧ 1023 * 2 ^ 52 ≤ (FP.i2d (Int32.ofInt (k.val : Int))).toNat := sorry
theorem dnB_div {u : Nat} {x : UInt64} (X : dgR u x) (hu : u ≤ 2 ^ 24) {k : Int} (h0 : 1 ≤ k) (h1 : k ≤ 64) : dnB (FP.ddiv x (FP.i2d (Int32.ofInt k))) := sorry
