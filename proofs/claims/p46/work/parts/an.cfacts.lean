/-! The class: facts that its answers need. -/
section CFACTS
variable {h h2 : zH} {p v : Nat} {n top : Int} {R N : Nat → Int} {c : Nat} {Ol : Nat → Nat → Int} {s0 s1 : Option (Nat → Int)} {I : Nat → Int} {m : Int} {O : List Int} {ec ep : Int}
/-- bits counted at once are bits counted one by one -/
theorem bitc_e (x : BitVec 64) : f_Lo_bitCount x = f_M_ones x := bitc_e' x
theorem leastc_e (x : BitVec 64) : f_S_least x = f_M_leastOf x := leastc_e' x
end CFACTS

