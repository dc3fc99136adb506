/-! The reference: needs as conditions, asked. -/
section API6
variable {n top : Int} {R N : Nat → Int}
def gpF (l : List Int) (b : BitVec 64) (st : Int) : Int := if val l st = 1 ↔ bt b st = true then 0 else 1
def gpS (d : DO) (b : BitVec 64) : Int := match d with | none => 0 | some l => zsum (gpF l b) 0 64
def dLen (d : DO) : Int := match d with | none => -1 | some l => l.length
def aNeedNodes (n : Int) (R N : Nat → Int) (s : Int) : Int × zV := if 0 ≤ s ∧ s < n then (0, zI (dLen (WW n R N s))) else (1, zI 0)
def aGap (n : Int) (R N : Nat → Int) (s : Int) : Int × zV := if 0 ≤ s ∧ s < n then (0, zI (gpS (WW n R N s) (NN n R N s))) else (1, zI 0)
/-- the letters of a word -/
def ktW (i : Int) : Nat → Int → List Int
  | 0, _ => []
  | m + 1, j => if mKeys.getD (5 * i + j).toNat 0 = 0 then [] else mKeys.getD (5 * i + j).toNat 0 :: ktW i m (j + 1)
def nodeW (x : Int) : List Int := if x < 4 then [48 + x] else ktW (x - 4) 5 0
/-- a row of nodes as text, from place j on -/
def rwO : Nat → List Int → List Int
  | _, [] => []
  | 0, x :: l => nodeW x ++ rwO 1 l
  | j + 1, x :: l => 32 :: (nodeW x ++ rwO (j + 2) l)
theorem ktW_len (i : Int) : ∀ (m : Nat) (j : Int), (ktW i m j).length ≤ m
  | 0, _ => Nat.le_refl _
  | m + 1, j => by
    unfold ktW
    split
    · exact Nat.zero_le _
    · exact Nat.succ_le_succ (ktW_len i m (j + 1))
theorem nodeW_len (x : Int) : (nodeW x).length ≤ 5 := by
  unfold nodeW
  split
  · simp
  · exact ktW_len _ 5 0
theorem rwO_len : ∀ (l : List Int) (j : Nat), (rwO j l).length ≤ 6 * l.length
  | [], _ => by simp [rwO]
  | x :: l, 0 => by
    have := nodeW_len x
    have := rwO_len l 1
    simp only [rwO, List.length_append, List.length_cons]; omega
  | x :: l, j + 1 => by
    have := nodeW_len x
    have := rwO_len l (j + 2)
    simp only [rwO, List.length_append, List.length_cons]; omega
theorem zi2b_v {x : Int} (h0 : 0 ≤ x) (h1 : x < 128) : zi2b x = x := finN (P := fun x => zi2b x = x) (n := 128) (by decide +kernel) h0 h1
/-- the answer, and what was written -/
def aWriteNeed (n : Int) (R N : Nat → Int) (O : List Int) (s : Int) : (Int × zV) × List Int :=
  if 0 ≤ s ∧ s < n then (match WW n R N s with | none => ((0, zI (-1)), O) | some l => ((0, zI (rwO 0 l).length), rwO 0 l)) else ((1, zI 0), O)
def aOutputByte (O : List Int) (x : Int) : Int × zV := if 0 ≤ x ∧ x < O.length then (0, zI (O.getD x.toNat 0)) else (1, zI 0)
end API6

