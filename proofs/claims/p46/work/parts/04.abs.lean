/-! A small machine of pure values: what the walks of the real one are shown to follow. -/
/-- values: an int (as a whole number), a long, a float's bits, a double's bits, a reference -/
abbrev zV : Type := Int ⊕ (BitVec 64 ⊕ (UInt32 ⊕ (UInt64 ⊕ Option Nat)))
abbrev zI (x : Int) : zV := .inl x
abbrev zJ (x : BitVec 64) : zV := .inr (.inl x)
abbrev zF (x : UInt32) : zV := .inr (.inr (.inl x))
abbrev zD (x : UInt64) : zV := .inr (.inr (.inr (.inl x)))
abbrev zR (x : Option Nat) : zV := .inr (.inr (.inr (.inr x)))
/-- a heap: how many cells, how many slots they have; of each address its kind, its length; and what lies there, by kinds of value -/
abbrev zH : Type := Nat × Nat × (Nat → Nat) × (Nat → Nat) × (Nat → Nat → Option Nat) × (Nat → Nat → Int) × (Nat → Nat → BitVec 64) × (Nat → Nat → UInt32) × (Nat → Nat → UInt64)
def hN (h : zH) : Nat := h.1
def hU (h : zH) : Nat := h.2.1
def hT (h : zH) : Nat → Nat := h.2.2.1
def hL (h : zH) : Nat → Nat := h.2.2.2.1
def hR (h : zH) : Nat → Nat → Option Nat := h.2.2.2.2.1
def hI (h : zH) : Nat → Nat → Int := h.2.2.2.2.2.1
def hJ (h : zH) : Nat → Nat → BitVec 64 := h.2.2.2.2.2.2.1
def hF (h : zH) : Nat → Nat → UInt32 := h.2.2.2.2.2.2.2.1
def hD (h : zH) : Nat → Nat → UInt64 := h.2.2.2.2.2.2.2.2
def zup {α : Type} (f : Nat → Nat → α) (a k : Nat) (v : α) : Nat → Nat → α := fun b j => if b = a ∧ j = k then v else f b j
def sR (h : zH) (a k : Nat) (v : Option Nat) : zH := (hN h, hU h, hT h, hL h, zup (hR h) a k v, hI h, hJ h, hF h, hD h)
def sI (h : zH) (a k : Nat) (v : Int) : zH := (hN h, hU h, hT h, hL h, hR h, zup (hI h) a k v, hJ h, hF h, hD h)
def sJ (h : zH) (a k : Nat) (v : BitVec 64) : zH := (hN h, hU h, hT h, hL h, hR h, hI h, zup (hJ h) a k v, hF h, hD h)
def sF (h : zH) (a k : Nat) (v : UInt32) : zH := (hN h, hU h, hT h, hL h, hR h, hI h, hJ h, zup (hF h) a k v, hD h)
def sD (h : zH) (a k : Nat) (v : UInt64) : zH := (hN h, hU h, hT h, hL h, hR h, hI h, hJ h, hF h, zup (hD h) a k v)
def zu1 {α : Type} (f : Nat → α) (a : Nat) (v : α) : Nat → α := fun b => if b = a then v else f b
/-- a new cell of the kind t, of n places, all of their first value; it takes n slots -/
def hNew (h : zH) (t n : Nat) : zH := (hN h + 1, hU h + n, zu1 (hT h) (hN h) t, zu1 (hL h) (hN h) n, zu1 (hR h) (hN h) (fun _ => none), zu1 (hI h) (hN h) (fun _ => 0), zu1 (hJ h) (hN h) (fun _ => 0#64), zu1 (hF h) (hN h) (fun _ => 0), zu1 (hD h) (hN h) (fun _ => 0))
/-- n more of them, all of one kind and length -/
def hNews (h : zH) (t len : Nat) : Nat → zH
  | 0 => h
  | n + 1 => hNew (hNews h t len n) t len
theorem hN_sR (h : zH) (a k v) : hN (sR h a k v) = hN h := rfl
theorem hN_sI (h : zH) (a k v) : hN (sI h a k v) = hN h := rfl
theorem hN_sJ (h : zH) (a k v) : hN (sJ h a k v) = hN h := rfl
theorem hN_sF (h : zH) (a k v) : hN (sF h a k v) = hN h := rfl
theorem hN_sD (h : zH) (a k v) : hN (sD h a k v) = hN h := rfl
theorem hU_sR (h : zH) (a k v) : hU (sR h a k v) = hU h := rfl
theorem hU_sI (h : zH) (a k v) : hU (sI h a k v) = hU h := rfl
theorem hU_sJ (h : zH) (a k v) : hU (sJ h a k v) = hU h := rfl
theorem hU_sF (h : zH) (a k v) : hU (sF h a k v) = hU h := rfl
theorem hU_sD (h : zH) (a k v) : hU (sD h a k v) = hU h := rfl
theorem hT_sR (h : zH) (a k v) : hT (sR h a k v) = hT h := rfl
theorem hT_sI (h : zH) (a k v) : hT (sI h a k v) = hT h := rfl
theorem hT_sJ (h : zH) (a k v) : hT (sJ h a k v) = hT h := rfl
theorem hT_sF (h : zH) (a k v) : hT (sF h a k v) = hT h := rfl
theorem hT_sD (h : zH) (a k v) : hT (sD h a k v) = hT h := rfl
theorem hL_sR (h : zH) (a k v) : hL (sR h a k v) = hL h := rfl
theorem hL_sI (h : zH) (a k v) : hL (sI h a k v) = hL h := rfl
theorem hL_sJ (h : zH) (a k v) : hL (sJ h a k v) = hL h := rfl
theorem hL_sF (h : zH) (a k v) : hL (sF h a k v) = hL h := rfl
theorem hL_sD (h : zH) (a k v) : hL (sD h a k v) = hL h := rfl
theorem hR_sR (h : zH) (a k v) : hR (sR h a k v) = zup (hR h) a k v := rfl
theorem hR_sI (h : zH) (a k v) : hR (sI h a k v) = hR h := rfl
theorem hR_sJ (h : zH) (a k v) : hR (sJ h a k v) = hR h := rfl
theorem hR_sF (h : zH) (a k v) : hR (sF h a k v) = hR h := rfl
theorem hR_sD (h : zH) (a k v) : hR (sD h a k v) = hR h := rfl
theorem hI_sR (h : zH) (a k v) : hI (sR h a k v) = hI h := rfl
theorem hI_sI (h : zH) (a k v) : hI (sI h a k v) = zup (hI h) a k v := rfl
theorem hI_sJ (h : zH) (a k v) : hI (sJ h a k v) = hI h := rfl
theorem hI_sF (h : zH) (a k v) : hI (sF h a k v) = hI h := rfl
theorem hI_sD (h : zH) (a k v) : hI (sD h a k v) = hI h := rfl
theorem hJ_sR (h : zH) (a k v) : hJ (sR h a k v) = hJ h := rfl
theorem hJ_sI (h : zH) (a k v) : hJ (sI h a k v) = hJ h := rfl
theorem hJ_sJ (h : zH) (a k v) : hJ (sJ h a k v) = zup (hJ h) a k v := rfl
theorem hJ_sF (h : zH) (a k v) : hJ (sF h a k v) = hJ h := rfl
theorem hJ_sD (h : zH) (a k v) : hJ (sD h a k v) = hJ h := rfl
theorem hF_sR (h : zH) (a k v) : hF (sR h a k v) = hF h := rfl
theorem hF_sI (h : zH) (a k v) : hF (sI h a k v) = hF h := rfl
theorem hF_sJ (h : zH) (a k v) : hF (sJ h a k v) = hF h := rfl
theorem hF_sF (h : zH) (a k v) : hF (sF h a k v) = zup (hF h) a k v := rfl
theorem hF_sD (h : zH) (a k v) : hF (sD h a k v) = hF h := rfl
theorem hD_sR (h : zH) (a k v) : hD (sR h a k v) = hD h := rfl
theorem hD_sI (h : zH) (a k v) : hD (sI h a k v) = hD h := rfl
theorem hD_sJ (h : zH) (a k v) : hD (sJ h a k v) = hD h := rfl
theorem hD_sF (h : zH) (a k v) : hD (sF h a k v) = hD h := rfl
theorem hD_sD (h : zH) (a k v) : hD (sD h a k v) = zup (hD h) a k v := rfl
theorem zup_s {α : Type} (f : Nat → Nat → α) (a k : Nat) (v : α) : zup f a k v a k = v := by simp [zup]
theorem zup_n {α : Type} (f : Nat → Nat → α) (a k : Nat) (v : α) (b j : Nat) (h : ¬ (b = a ∧ j = k)) : zup f a k v b j = f b j := by simp [zup, h]
/-- where the script, the constant rows and the texts stand, that no step makes or writes: from zVB on -/
abbrev zVB : Nat := 10000000
abbrev inR (z : Int) : Prop := -2147483648 ≤ z ∧ z < 2147483648
/-- what a run comes to: an answer (or none), or a throw by its number; and the heap -/
abbrev zO : Type := Option ((Option zV ⊕ Nat) × zH)
def gd {α : Type} (p : Prop) [Decidable p] (k : Option α) : Option α := if p then k else none
theorem gd_t {α : Type} {p : Prop} [Decidable p] (h : p) (k : Option α) : gd p k = k := if_pos h
theorem gd_f {α : Type} {p : Prop} [Decidable p] (h : ¬ p) (k : Option α) : gd p k = none := if_neg h
theorem gd_some {α : Type} {p : Prop} [Decidable p] {k : Option α} {r : α} (h : gd p k = some r) : p ∧ k = some r := by
  unfold gd at h
  split at h
  · exact ⟨by assumption, h⟩
  · cases h
/-- locals: 'none' where nothing is known -/
abbrev zL : Type := List (Option zV)
def zat : zL → Nat → Option zV
  | [], _ => none
  | x :: _, 0 => x
  | _ :: l, n + 1 => zat l n
def zput : zL → Nat → Option zV → Option zL
  | [], _, _ => none
  | _ :: l, 0, v => some (v :: l)
  | x :: l, n + 1, v => (zput l n v).map (x :: ·)
def zc2 : zV → Bool
  | .inr (.inl _) => true
  | .inr (.inr (.inr (.inl _))) => true
  | _ => false
/-- a value of two places whose second one is written is gone -/
def zkil (L : zL) : Nat → Option zL
  | 0 => some L
  | n + 1 => match zat L n with
    | none => some L
    | some v => if zc2 v then zput L n none else some L
def zst1 (L : zL) (n : Nat) (v : Option zV) : Option zL := (zkil L n).bind fun L => zput L n v
def zst2 (L : zL) (n : Nat) (v : zV) : Option zL := (zkil L n).bind fun L => (zput L n (some v)).bind fun L => zput L (n + 1) none
def zini : List zV → Nat → zL
  | [], n => List.replicate n none
  | v :: vs, n => if zc2 v then some v :: none :: zini vs (n - 2) else some v :: zini vs (n - 1)
/-- what takes from the stack, or from the locals -/
def pI (S : List zV) (k : Int → List zV → zO) : zO := match S with
  | .inl x :: S => k x S
  | _ => none
def pJ (S : List zV) (k : BitVec 64 → List zV → zO) : zO := match S with
  | .inr (.inl x) :: S => k x S
  | _ => none
def pF (S : List zV) (k : UInt32 → List zV → zO) : zO := match S with
  | .inr (.inr (.inl x)) :: S => k x S
  | _ => none
def pD (S : List zV) (k : UInt64 → List zV → zO) : zO := match S with
  | .inr (.inr (.inr (.inl x))) :: S => k x S
  | _ => none
def pR (S : List zV) (k : Option Nat → List zV → zO) : zO := match S with
  | .inr (.inr (.inr (.inr x))) :: S => k x S
  | _ => none
def p1 (S : List zV) (k : zV → List zV → zO) : zO := match S with
  | v :: S => if zc2 v then none else k v S
  | _ => none
def zlv (L : zL) (n : Nat) (k : zV → zO) : zO := match zat L n with
  | some v => k v
  | none => none
def zls (x : Option zL) (k : zL → zO) : zO := match x with
  | some L => k L
  | none => none
def zdr (r : Option Nat) : Nat := r.getD 0
/-- r is an array of the kind t, i is within -/
abbrev zok (h : zH) (r : Option Nat) (t : Nat) (i : Int) : Prop := r.isSome = true ∧ hT h (zdr r) = t ∧ 0 ≤ i ∧ i < (hL h (zdr r) : Int)
/-- .. that may be written -/
abbrev zokw (h : zH) (r : Option Nat) (t : Nat) (i : Int) : Prop := r.isSome = true ∧ hT h (zdr r) = t ∧ zdr r < hN h ∧ 0 ≤ i ∧ i < (hL h (zdr r) : Int)
/-- r is an object of the kind t -/
abbrev zob (h : zH) (r : Option Nat) (t : Nat) : Prop := r.isSome = true ∧ hT h (zdr r) = t ∧ zdr r < hN h
/-- r is null, or a cell of the kind t -/
abbrev zrn (h : zH) (r : Option Nat) (t : Nat) : Prop := r = none ∨ (r.isSome = true ∧ hT h (zdr r) = t ∧ zdr r < hN h)
def zbr (c : Jvm.ClassFile.Cond) (x y : Int) (a b : zO) : zO := match c with
  | .eq => if x = y then a else b
  | .ne => if x = y then b else a
  | .lt => if x < y then a else b
  | .ge => if x < y then b else a
  | .gt => if y < x then a else b
  | .le => if y < x then b else a
def zlcmp (x y : BitVec 64) : Int := if x = y then 0 else if x.slt y then -1 else 1
def zsh (f : Int32 → Int32 → Int32) (x y : Int) : Int := (f (Int32.ofInt x) (Int32.ofInt y)).toInt
def zand (x y : Int) : Int := zsh (fun a b => a &&& b) x y
def zor (x y : Int) : Int := zsh (fun a b => a ||| b) x y
def zxor (x y : Int) : Int := zsh (fun a b => a ^^^ b) x y
def zshl (x y : Int) : Int := zsh (fun a b => a <<< (b &&& 31)) x y
def zshr (x y : Int) : Int := zsh (fun a b => a >>> (b &&& 31)) x y
def zushr (x y : Int) : Int := zsh (fun a b => (a.toUInt32 >>> (b.toUInt32 &&& Int32.toUInt32 31)).toInt32) x y
def zi2b (x : Int) : Int := (Int32.ofInt x).toInt8.toInt32.toInt
def zi2l (x : Int) : BitVec 64 := (Int32.ofInt x).toInt64.toBitVec
def zl2i (x : BitVec 64) : Int := (Int64.ofBitVec x).toInt32.toInt
def zlshl (x : BitVec 64) (y : Int) : BitVec 64 := (Int64.ofBitVec x <<< ((Int32.ofInt y).toInt64 &&& 63)).toBitVec
def zlushr (x : BitVec 64) (y : Int) : BitVec 64 := ((Int64.ofBitVec x).toUInt64 >>> ((Int32.ofInt y).toInt64.toUInt64 &&& Int64.toUInt64 63)).toInt64.toBitVec
def zn32 (r : UInt32) : Bool := decide (r &&& 0x7fffffff ≤ 0x7f800000)
def zn64 (r : UInt64) : Bool := decide (r &&& 0x7fffffffffffffff ≤ 0x7ff0000000000000)
def ztgt (pc : Nat) (off : Int) : Nat := ((pc : Int) + off).toNat
/-- n values from the stack, the lowest first -/
def zpop (n : Nat) (S : List zV) (k : List zV → List zV → zO) : zO := if n ≤ S.length then k (S.take n).reverse (S.drop n) else none
def zsw (pc : Nat) (d : Int) (x : Int) : List (Int × Int) → (Nat → zO) → zO
  | [], k => k (ztgt pc d)
  | q :: qs, k => if x = q.1 then k (ztgt pc q.2) else zsw pc d x qs k
def ztab (pc : Nat) (x : Int) (k : Nat → zO) : List Int → Int → zO → zO
  | [], _, d => d
  | o :: os, j, d => if x = j then k (ztgt pc o) else ztab pc x k os (j + 1) d
/-! Beside: what the law and Java's own library take of the machine. -/
def zi2c (x : Int) : Int := ((Int32.ofInt x).toUInt32 % 65536).toInt32.toInt
def zwadd (x y : Int) : Int := zsh (fun a b => a + b) x y
def zwsub (x y : Int) : Int := zsh (fun a b => a - b) x y
def zwmul (x y : Int) : Int := zsh (fun a b => a * b) x y
def zwneg (x : Int) : Int := zsh (fun a _ => -a) x x
/-- the bytes of the text r from the place at on in the row d -/
def hPut (h : zH) (r d : Nat) (at' : Nat) : zH := (hN h, hU h, hT h, hL h, hR h, zu1 (hI h) d (fun j => if at' ≤ j ∧ j < at' + hL h r then hI h r (j - at') else hI h d j), hJ h, hF h, hD h)
/-- k places of the row r from f on, put into the row d from e on -/
def hAc (h : zH) (r f d e k : Nat) : zH := (hN h, hU h, hT h, hL h, hR h, zu1 (hI h) d (fun j => if e ≤ j ∧ j < e + k then hI h r (f + (j - e)) else hI h d j), hJ h, hF h, hD h)
