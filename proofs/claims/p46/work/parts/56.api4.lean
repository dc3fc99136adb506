/-! The reference: what is met, rounds, the dearest, the mean; what would be. -/
section API4
variable {n top : Int} {R N : Nat → Int}
def sfS (n : Int) (R N : Nat → Int) (s : Int) : BitVec 64 := bset fun st => decide (TT n R N s st ≠ -1) && bt (ahd N (NN n R N) (thn R s)) (TT n R N s st)
def aSafe (n : Int) (R N : Nat → Int) (l : Int) : Int × zV := if lpAt n R 2 l = -1 then (1, zJ 0#64) else (0, zJ (sfS n R N (lpAt n R 2 l)))
def aUnsf (n : Int) (R N : Nat → Int) (l : Int) : Int × zV := if lpAt n R 2 l = -1 then (1, zJ 0#64) else (0, zJ (setL (lst N (26 + lpAt n R 2 l)) &&& ~~~ sfS n R N (lpAt n R 2 l)))
/-- what has been met behind the runs from the first k states -/
def mtA (n top : Int) (R N : Nat → Int) : Nat → Int → BitVec 64
  | 0 => fun _ => 0#64
  | k + 1 => if bt (setL (lst N 0)) k = true then mtT R N (thn R) (-1) (top, k) (mtA n top R N k) (dT R N top k + if EC n top R N k = -1 then 1 else 0) else mtA n top R N k
def aMet (n top : Int) (R N : Nat → Int) (s : Int) : Int × zV := if 0 ≤ s ∧ s < n then (0, zJ (mtA n top R N 64 s)) else (1, zJ 0#64)
abbrev msC (R N : Nat → Int) (top st l : Int) : Int := msT R N (thn R) (clS R (-1)) (-1) (top, st) (dT R N top st) l
/-- the most rounds of a loop in runs from the first k states -/
def rdA (n top : Int) (R N : Nat → Int) (l : Int) : Nat → Int
  | 0 => 0
  | k + 1 => if bt (setL (lst N 0)) k = true ∧ EC n top R N k ≠ -1 ∧ rdA n top R N l k < msC R N top k l then msC R N top k l else rdA n top R N l k
def aRounds (n top : Int) (R N : Nat → Int) (l : Int) : Int × zV := if lpAt n R 2 l = -1 then (1, zI 0) else (0, zI (rdA n top R N (lpAt n R 2 l) 64))
def fgt (x y : UInt32) : Bool := decide (0 < (Op.cmpValue (FP.fcmp x y) .l).toInt)
/-- the dearest state so far, and its cost -/
def drA (n top : Int) (R N : Nat → Int) : Nat → Int × UInt32
  | 0 => (-1, FP.fconst0)
  | k + 1 => if bt (setL (lst N 0)) k = true ∧ EC n top R N k ≠ -1 ∧ ((drA n top R N k).1 = -1 ∨ fgt (coC R N top k) (drA n top R N k).2 = true) then (k, coC R N top k) else drA n top R N k
/-- the costs together, and how many they are -/
def meA (n top : Int) (R N : Nat → Int) : Nat → UInt64 × Int
  | 0 => (FP.dconst0, 0)
  | k + 1 => if bt (setL (lst N 0)) k = true ∧ EC n top R N k ≠ -1 then (FP.dadd (meA n top R N k).1 (FP.f2d (coC R N top k)), (meA n top R N k).2 + 1) else meA n top R N k
def menS (n top : Int) (R N : Nat → Int) : UInt64 := if (meA n top R N 64).2 = 0 then FP.dconst0 else FP.ddiv (meA n top R N 64).1 (FP.i2d (Int32.ofInt (meA n top R N 64).2))
theorem meA_b (n top : Int) (R N : Nat → Int) : ∀ (k : Nat), 0 ≤ (meA n top R N k).2 ∧ (meA n top R N k).2 ≤ k
  | 0 => ⟨Int.le_refl _, Int.le_refl _⟩
  | k + 1 => by
    have := meA_b n top R N k
    rw [meA]
    by_cases c : bt (setL (lst N 0)) k = true ∧ EC n top R N k ≠ -1
    · rw [if_pos c]
      show 0 ≤ (meA n top R N k).2 + 1 ∧ (meA n top R N k).2 + 1 ≤ ((k + 1 : Nat) : Int)
      omega
    · rw [if_neg c]
      omega
theorem coC_p (P : Prg n top R N) {st : Int} (h2 : 0 ≤ st) (h3 : st < 64) (hE : EC n top R N st ≠ -1) (hD : RunD R N (thn R) (-1) (top, st) (dT R N top st) (EC n top R N st)) : fpos (coC R N top st) := by
  by_cases ht : top = -1
  · have h0 : dT R N top st = 0 := by
      obtain ⟨D, hD2, h4⟩ := runD_top (Prg_S P) h2 h3
      rw [← dT_e hD2]
      exact (h4 ht).1
    show fpos (coT R N (thn R) (-1) (top, st) (dT R N top st))
    rw [h0]
    exact fpos_0
  · obtain ⟨⟨d1, d2, d3⟩, d4, d5⟩ := hD
    have hnn : ∀ i, i < dT R N top st → (orb R N (thn R) (-1) (top, st) i).1 ≠ -1 := fun i hi e => d3 i hi (Or.inl e)
    have hp : pv n (top, st) := ⟨(Sem_top (Prg_S P)).resolve_left ht, h2, h3⟩
    exact coT_b P.1 P.2.1 _ _ fun i hi => ((orb_v (al := -1) P.1 P.2.1 (isTS_thR P.1 (isTS_t P.1 (-1))) hp i fun j hj => hnn j (by omega)).1.resolve_left (hnn i hi))
end API4

