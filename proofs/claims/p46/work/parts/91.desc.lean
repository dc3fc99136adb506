/-! Rounds of a loop: where a run is inside it. -/
section DESC
variable {n : Int} {R N : Nat → Int} {th cl : Int → Int} {ls : Int}
/-- rounds as the class counts them -/
def tcT (R N : Nat → Int) (th : Int → Int) (ls : Int) (p : Int × Int) : Nat → Int
  | 0 => 0
  | k + 1 => if (orb R N th (-1) p k).1 = ls then (if hb N ls (orb R N th (-1) p k).2 = true then tcT R N th ls p k + 1 else 0) else tcT R N th ls p k
def mcT (R N : Nat → Int) (th : Int → Int) (ls : Int) (p : Int × Int) : Nat → Int
  | 0 => 0
  | k + 1 => if (orb R N th (-1) p k).1 = ls then (if mcT R N th ls p k < tcT R N th ls p (k + 1) then tcT R N th ls p (k + 1) else mcT R N th ls p k) else mcT R N th ls p k
theorem tcT_b (ls : Int) (p : Int × Int) : ∀ (k : Nat), 0 ≤ tcT R N th ls p k ∧ tcT R N th ls p k ≤ k
  | 0 => ⟨Int.le_refl _, Int.le_refl _⟩
  | k + 1 => by
    have := tcT_b ls p k
    rw [tcT]
    repeat' split
    all_goals omega
end DESC

