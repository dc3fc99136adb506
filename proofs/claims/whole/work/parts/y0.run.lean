/-! The small machine's run of the law. -/
theorem zrun_law (L : Nat) (xs : Nat → Int32) (hL : L ≤ 3072) : ∃ (n : Nat) (h9 : zH), zX n 392 0 (zini [zR (some zVB)] 10) [] (zH0 L xs) = some (.inl (some (zI 1)), h9) ∧ hN h9 ≤ 601024 ∧ hU h9 ≤ 7293034 := by
  have z9 : zVB = 10000000 := rfl
  obtain ⟨h, e, J, n, u⟩ := l_start L xs
  obtain ⟨h9, e9, b1, b2⟩ := l_law hL 512 0 h _ J (by omega) (by omega) (by omega) (by omega)
  obtain ⟨k, ek⟩ := zY_ex (e.trans e9)
  exact ⟨k, h9, ek, by omega, by omega⟩
