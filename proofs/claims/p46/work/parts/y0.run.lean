/-! What is left: the small machine's run of the law. -/
theorem zrun_law (L : Nat) (xs : Nat → Int32) (hL : L ≤ 260) : ∃ (n : Nat) (h9 : zH), zX n 261 0 (zini [zR (some zVB)] 12) [] (zH0 L xs) = some (.inl (some (zI 1)), h9) ∧ hN h9 ≤ 600086 ∧ hU h9 ≤ 7301442 := sorry
