/-! The small machine's run of the law. -/
theorem zrun_law (L : Nat) (xs : Nat → Int32) (hL : L ≤ 260) : ∃ (n : Nat) (h9 : zH), zX n 261 0 (zini [zR (some zVB)] 12) [] (zH0 L xs) = some (.inl (some (zI 1)), h9) ∧ hN h9 ≤ 600086 ∧ hU h9 ≤ 7301442 := by
  obtain ⟨h9, E, a, b⟩ := c_law L xs hL
  have E : zY 261 0 (zini [zR (some zVB)] 12) [] (zH0 L xs) = some (.inl (some (zI 1)), h9) := E
  obtain ⟨n, hn⟩ := zY_ex E
  exact ⟨n, h9, hn, a, b⟩
