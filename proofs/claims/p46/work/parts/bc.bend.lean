/-! The start: the class's constructor, its end, pieces. -/
section BEND
set_option maxRecDepth 1000000
set_option maxHeartbeats 10000000
theorem qc_90 {h : zH} (hn : hN h = 163) (t0 : hT h 0 = 11) (l0 : hL h 0 = 15) (r0_0 : hR h 0 0 = some 1) : zY 146 162 [some (zR (some 0))] [] h = zBack zY 146 170 173 [some (zR (some 0))] [zR (some 0)] (zC 136 [zR (some 10000003), zR (some 1), zI 0] h) := by
  obtain ⟨hN0, U, T, L, R, I, J, F, D⟩ := h
  obtain rfl : hN0 = 163 := hn
  obtain ⟨T, rfl⟩ : ∃ T2 : Nat → Nat, T = zu1 (T2) 0 11 := ⟨T, (by rw [zu1_id (f := T) t0])⟩
  obtain ⟨L, rfl⟩ : ∃ L2 : Nat → Nat, L = zu1 (L2) 0 15 := ⟨L, (by rw [zu1_id (f := L) l0])⟩
  obtain ⟨R, rfl⟩ : ∃ R2 : Nat → Nat → Option Nat, R = zup (R2) 0 0 (some 1) := ⟨R, (by rw [zup_id (f := R) r0_0])⟩
  exact zGo 6 _ _ _ _ _
noncomputable def gc76 (h : zH) : zH := sI (h) 0 1 95
theorem qc_91 {h : zH} (hn : hN h = 163) (t0 : hT h 0 = 11) (l0 : hL h 0 = 15) (t5 : hT h 5 = 4) (l5 : hL h 5 = 8) (r0_7 : hR h 0 7 = some 5) : zY 146 173 [some (zR (some 0))] [zI 95, zR (some 0)] h = zBack zY 146 184 187 [some (zR (some 0))] [] (zC 24 [zR (some 5), zI 95] (gc76 h)) := by
  obtain ⟨hN0, U, T, L, R, I, J, F, D⟩ := h
  obtain rfl : hN0 = 163 := hn
  obtain ⟨T, rfl⟩ : ∃ T2 : Nat → Nat, T = zu1 (zu1 (T2) 0 11) 5 4 := ⟨T, (by rw [zu1_id (f := T) t0, zu1_id (f := T) t5])⟩
  obtain ⟨L, rfl⟩ : ∃ L2 : Nat → Nat, L = zu1 (zu1 (L2) 0 15) 5 8 := ⟨L, (by rw [zu1_id (f := L) l0, zu1_id (f := L) l5])⟩
  obtain ⟨R, rfl⟩ : ∃ R2 : Nat → Nat → Option Nat, R = zup (R2) 0 7 (some 5) := ⟨R, (by rw [zup_id (f := R) r0_7])⟩
  exact zGo 6 _ _ _ _ _
theorem qc_92 {h : zH} (hn : hN h = 163) (t0 : hT h 0 = 11) (l0 : hL h 0 = 15) (t5 : hT h 5 = 4) (l5 : hL h 5 = 8) (r0_7 : hR h 0 7 = some 5) (r0_13 : hR h 0 13 = some 74) (r0_14 : hR h 0 14 = some 85) : zY 146 187 [some (zR (some 0))] [] h = zBack zY 146 199 202 [some (zR (some 0))] [] (zC 25 [zR (some 5), zR (some 74), zR (some 85)] h) := by
  obtain ⟨hN0, U, T, L, R, I, J, F, D⟩ := h
  obtain rfl : hN0 = 163 := hn
  obtain ⟨T, rfl⟩ : ∃ T2 : Nat → Nat, T = zu1 (zu1 (T2) 0 11) 5 4 := ⟨T, (by rw [zu1_id (f := T) t0, zu1_id (f := T) t5])⟩
  obtain ⟨L, rfl⟩ : ∃ L2 : Nat → Nat, L = zu1 (zu1 (L2) 0 15) 5 8 := ⟨L, (by rw [zu1_id (f := L) l0, zu1_id (f := L) l5])⟩
  obtain ⟨R, rfl⟩ : ∃ R2 : Nat → Nat → Option Nat, R = zup (zup (zup (R2) 0 7 (some 5)) 0 13 (some 74)) 0 14 (some 85) := ⟨R, (by rw [zup_id (f := R) r0_7, zup_id (f := R) r0_13, zup_id (f := R) r0_14])⟩
  exact zGo 7 _ _ _ _ _
noncomputable def gc77 (h : zH) : zH := sI (sI (h) 0 1 0) 0 5 (-1)
theorem qc_93 {h : zH} (hn : hN h = 177) (t0 : hT h 0 = 11) (l0 : hL h 0 = 15) (t132 : hT h 132 = 1) (l132 : hL h 132 = 5) (r0_11 : hR h 0 11 = some 132) (r0_13 : hR h 0 13 = some 74) (r0_14 : hR h 0 14 = some 85) : zY 146 202 [some (zR (some 0))] [] h = zBack zY 146 224 227 [some (zR (some 0))] [] (zC 1 [zR (some 132), zR (some 74), zR (some 85)] (gc77 h)) := by
  obtain ⟨hN0, U, T, L, R, I, J, F, D⟩ := h
  obtain rfl : hN0 = 177 := hn
  obtain ⟨T, rfl⟩ : ∃ T2 : Nat → Nat, T = zu1 (zu1 (T2) 0 11) 132 1 := ⟨T, (by rw [zu1_id (f := T) t0, zu1_id (f := T) t132])⟩
  obtain ⟨L, rfl⟩ : ∃ L2 : Nat → Nat, L = zu1 (zu1 (L2) 0 15) 132 5 := ⟨L, (by rw [zu1_id (f := L) l0, zu1_id (f := L) l132])⟩
  obtain ⟨R, rfl⟩ : ∃ R2 : Nat → Nat → Option Nat, R = zup (zup (zup (R2) 0 11 (some 132)) 0 13 (some 74)) 0 14 (some 85) := ⟨R, (by rw [zup_id (f := R) r0_11, zup_id (f := R) r0_13, zup_id (f := R) r0_14])⟩
  exact zGo 13 _ _ _ _ _
theorem qc_94 {h : zH} (hn : hN h = 177) : zY 146 227 [some (zR (some 0))] [] h = some (.inl none, h) := by
  obtain ⟨hN0, U, T, L, R, I, J, F, D⟩ := h
  obtain rfl : hN0 = 177 := hn
  exact zGo 1 _ _ _ _ _
end BEND


