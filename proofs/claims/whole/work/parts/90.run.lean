/-! What is left: the small machine's run of the law. -/
theorem zrun_law (L : Nat) (xs : Nat → Int32) (hL : L ≤ 3072) : ∃ (n : Nat) (h9 : zH), zX n 392 0 (zini [zR (some zVB)] 10) [] (zH0 L xs) = some (.inl (some (zI 1)), h9) ∧ hN h9 ≤ 601024 ∧ hU h9 ≤ 7293034 := sorry
