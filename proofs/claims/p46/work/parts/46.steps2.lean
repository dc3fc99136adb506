/-! The reference: what one step of a run does. -/
section STEPS2
variable {n top : Int} {R N : Nat → Int} {th cl : Int → Int} {al sp : Int}
def tb (t : Int → Int) (b l : Int) : Int := t l + (if b = l then 1 else 0)
def mb (t m : Int → Int) (b l : Int) : Int := if b = l ∧ m l < tb t b l then tb t b l else m l
end STEPS2

