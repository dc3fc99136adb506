/-! The class: facts that its answers need. -/
section CFACTS
variable {h h2 : zH} {p v : Nat} {n top : Int} {R N : Nat → Int} {c : Nat} {Ol : Nat → Nat → Int} {s0 s1 : Option (Nat → Int)} {I : Nat → Int} {m : Int} {O : List Int} {ec ep : Int}
/-- bits counted at once are bits counted one by one -/
theorem bitc_e (x : BitVec 64) : f_Lo_bitCount x = f_M_ones x := sorry
theorem leastc_e (x : BitVec 64) : f_S_least x = f_M_leastOf x := sorry
theorem c_bitsF (P : Prg n top R N) {st : Int} (h0 : 0 ≤ st) (h1 : st < 64) (h : zH) : zC 77 [zF (cstS n top R N st)] h = some (.inl (some (zI (f_Fl_floatToIntBits (cstS n top R N st)))), h) := sorry
theorem c_bitsD (P : Prg n top R N) (h : zH) : zC 74 [zD (menS n top R N)] h = some (.inl (some (zJ (f_Do_doubleToLongBits (menS n top R N)))), h) := sorry
end CFACTS
