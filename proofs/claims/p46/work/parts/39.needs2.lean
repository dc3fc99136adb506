/-! The reference: the needs, all of them. -/
theorem isND_w {n : Int} {R N : Nat → Int} {th : Int → Int} {ND : Int → BitVec 64} (hN : isND n R N th ND) : ∀ t, 0 ≤ t → t < n → sv R t 0 = 2 → ND t = setL (lst N (26 + t)) := fun t h0 h1 c => by rw [hN t h0 h1, ndS, if_pos c]
