/-! The reference: what is asked, answered. -/
section API2
variable {n top : Int} {R N : Nat → Int}
def fhS (n : Int) (R N : Nat → Int) : Int := zsum (fun k => if sv R k 0 = 3 ∧ ¬ N (2294 + k).toNat = -1 then 1 else 0) 0 n.toNat
def aValue (c n top : Int) (R N : Nat → Int) (x : Int) : Int × zV :=
  if 0 ≤ x ∧ x ≤ 7 then (0, zI (if x = 0 then n else if x = 1 then cntK R 2 n.toNat else if x = 2 then cntK R 3 n.toNat else if x = 3 then fhS n R N else if x = 4 then dmS n R else if x = 5 then nfS n top R N (TT n R N) (NN n R N) else if x = 6 then (if nfS n top R N (TT n R N) (NN n R N) = 0 then 1 else 0) else c))
  else (1, zI 0)
def aStatement (n : Int) (R N : Nat → Int) (s x : Int) : Int × zV :=
  if 0 ≤ s ∧ s < n then
    (if x = 0 then (0, zI (sv R s 0)) else if x = 1 then (0, zI (if sv R s 0 = 3 ∧ ¬ N (2294 + s).toNat = -1 then N (2294 + s).toNat / 13 else sv R s 1)) else if x = 2 then (0, zI (sv R s 2)) else if x = 3 then (0, zI (sv R s 8)) else if x = 4 then (0, zI (sv R s 9)) else if x = 5 then (0, zI (N (2318 + s).toNat)) else if x = 6 then (0, zI (if sv R s 0 = 3 then 0 else if sv R s 0 = 2 then N (31 * (2 + s)).toNat + (N (31 * (26 + s)).toNat + N (31 * (50 + s)).toNat) else N (31 * (2 + s)).toNat)) else if x = 7 then (0, zI (sv R s 7)) else (2, zI 0))
  else (1, zI 0)
end API2

