/-! The start: the class's constructor, pieces. -/
/-- rows of one length, and the row of them -/
noncomputable def hMul (h : zH) (n k : Nat) : zH := (hN (hNews (hNew h 27 n) 21 k n), hU (hNews (hNew h 27 n) 21 k n), hT (hNews (hNew h 27 n) 21 k n), hL (hNews (hNew h 27 n) 21 k n), zu1 (hR (hNews (hNew h 27 n) 21 k n)) (hN h) (fun j => if j < n then some (hN h + 1 + j) else none), hI (hNews (hNew h 27 n) 21 k n), hJ (hNews (hNew h 27 n) 21 k n), hF (hNews (hNew h 27 n) 21 k n), hD (hNews (hNew h 27 n) 21 k n))
section BINIT
set_option maxRecDepth 1000000
set_option maxHeartbeats 10000000
noncomputable def gc1 (h : zH) : zH := hNew (sR (hNew (sR (hNew (h) 21 800) 0 0 (some 1)) 21 1200) 0 2 (some 2)) 2 1
theorem qc_1 {h : zH} (hn : hN h = 1) (t0 : hT h 0 = 11) (l0 : hL h 0 = 15) : zC 146 [zR (some 0)] h = zBack zY 146 32 35 [some (zR (some 0))] [zR (some 3), zR (some 0)] (zC 13 [zR (some 3), zR (some 1), zI 0] (gc1 h)) := by
  obtain ⟨hN0, U, T, L, R, I, J, F, D⟩ := h
  obtain rfl : hN0 = 1 := hn
  obtain ⟨T, rfl⟩ : ∃ T2 : Nat → Nat, T = zu1 (T2) 0 11 := ⟨T, (by rw [zu1_id (f := T) t0])⟩
  obtain ⟨L, rfl⟩ : ∃ L2 : Nat → Nat, L = zu1 (L2) 0 15 := ⟨L, (by rw [zu1_id (f := L) l0])⟩
  exact zGo 17 _ _ _ _ _
noncomputable def gc2 (h : zH) : zH := hNew (sR (h) 0 6 (some 3)) 4 8
theorem qc_2 {h : zH} (hn : hN h = 5) (t0 : hT h 0 = 11) (l0 : hL h 0 = 15) (r0_0 : hR h 0 0 = some 1) : zY 146 35 [some (zR (some 0))] [zR (some 3), zR (some 0)] h = zBack zY 146 47 50 [some (zR (some 0))] [zR (some 5), zR (some 0)] (zC 23 [zR (some 5), zR (some 1)] (gc2 h)) := by
  obtain ⟨hN0, U, T, L, R, I, J, F, D⟩ := h
  obtain rfl : hN0 = 5 := hn
  obtain ⟨T, rfl⟩ : ∃ T2 : Nat → Nat, T = zu1 (T2) 0 11 := ⟨T, (by rw [zu1_id (f := T) t0])⟩
  obtain ⟨L, rfl⟩ : ∃ L2 : Nat → Nat, L = zu1 (L2) 0 15 := ⟨L, (by rw [zu1_id (f := L) l0])⟩
  obtain ⟨R, rfl⟩ : ∃ R2 : Nat → Nat → Option Nat, R = zup (R2) 0 0 (some 1) := ⟨R, (by rw [zup_id (f := R) r0_0])⟩
  exact zGo 7 _ _ _ _ _
noncomputable def gc3 (h : zH) : zH := hNew (sR (hNew (h) 21 30) 5 3 (some 6)) 7 9
theorem qc_3 {h : zH} (hn : hN h = 6) (t5 : hT h 5 = 4) (l5 : hL h 5 = 8) : zC 23 [zR (some 5), zR (some 1)] h = zBack zY 23 18 21 [some (zR (some 5)), some (zR (some 1))] [zR (some 7), zR (some 5)] (zC 81 [zR (some 7), zR (some 1)] (gc3 h)) := by
  obtain ⟨hN0, U, T, L, R, I, J, F, D⟩ := h
  obtain rfl : hN0 = 6 := hn
  obtain ⟨T, rfl⟩ : ∃ T2 : Nat → Nat, T = zu1 (T2) 5 4 := ⟨T, (by rw [zu1_id (f := T) t5])⟩
  obtain ⟨L, rfl⟩ : ∃ L2 : Nat → Nat, L = zu1 (L2) 5 8 := ⟨L, (by rw [zu1_id (f := L) l5])⟩
  exact zGo 11 _ _ _ _ _
noncomputable def gc4 (h : zH) : zH := sR (sR (hNew (sR (hNew (h) 22 402) 7 5 (some 8)) 22 402) 7 6 (some 9)) 7 2 (some 1)
theorem qc_4 {h : zH} (hn : hN h = 8) (t7 : hT h 7 = 7) (l7 : hL h 7 = 9) : zC 81 [zR (some 7), zR (some 1)] h = some (.inl none, (gc4 h)) := by
  obtain ⟨hN0, U, T, L, R, I, J, F, D⟩ := h
  obtain rfl : hN0 = 8 := hn
  obtain ⟨T, rfl⟩ : ∃ T2 : Nat → Nat, T = zu1 (T2) 7 7 := ⟨T, (by rw [zu1_id (f := T) t7])⟩
  obtain ⟨L, rfl⟩ : ∃ L2 : Nat → Nat, L = zu1 (L2) 7 9 := ⟨L, (by rw [zu1_id (f := L) l7])⟩
  exact zGo 14 _ _ _ _ _
noncomputable def gc5 (h : zH) : zH := sR (h) 5 2 (some 7)
theorem qc_5 {h : zH} (hn : hN h = 10) (t5 : hT h 5 = 4) (l5 : hL h 5 = 8) : zY 23 21 [some (zR (some 5)), some (zR (some 1))] [zR (some 7), zR (some 5)] h = some (.inl none, (gc5 h)) := by
  obtain ⟨hN0, U, T, L, R, I, J, F, D⟩ := h
  obtain rfl : hN0 = 10 := hn
  obtain ⟨T, rfl⟩ : ∃ T2 : Nat → Nat, T = zu1 (T2) 5 4 := ⟨T, (by rw [zu1_id (f := T) t5])⟩
  obtain ⟨L, rfl⟩ : ∃ L2 : Nat → Nat, L = zu1 (L2) 5 8 := ⟨L, (by rw [zu1_id (f := L) l5])⟩
  exact zGo 2 _ _ _ _ _
noncomputable def gc6 (h : zH) : zH := hNew (sR (h) 0 7 (some 5)) 3 5
theorem qc_6 {h : zH} (hn : hN h = 10) (t0 : hT h 0 = 11) (l0 : hL h 0 = 15) (r0_6 : hR h 0 6 = some 3) : zY 146 50 [some (zR (some 0))] [zR (some 5), zR (some 0)] h = zBack zY 146 62 65 [some (zR (some 0))] [zR (some 10), zR (some 0)] (zC 15 [zR (some 10), zR (some 3)] (gc6 h)) := by
  obtain ⟨hN0, U, T, L, R, I, J, F, D⟩ := h
  obtain rfl : hN0 = 10 := hn
  obtain ⟨T, rfl⟩ : ∃ T2 : Nat → Nat, T = zu1 (T2) 0 11 := ⟨T, (by rw [zu1_id (f := T) t0])⟩
  obtain ⟨L, rfl⟩ : ∃ L2 : Nat → Nat, L = zu1 (L2) 0 15 := ⟨L, (by rw [zu1_id (f := L) l0])⟩
  obtain ⟨R, rfl⟩ : ∃ R2 : Nat → Nat → Option Nat, R = zup (R2) 0 6 (some 3) := ⟨R, (by rw [zup_id (f := R) r0_6])⟩
  exact zGo 7 _ _ _ _ _
noncomputable def gc7 (h : zH) : zH := hNew (sR (hNew (sR (hNew (sR (hNew (h) 26 10) 10 2 (some 11)) 26 2) 10 3 (some 12)) 20 2) 10 4 (some 13)) 10 7
theorem qc_7 {h : zH} (hn : hN h = 11) (t10 : hT h 10 = 3) (l10 : hL h 10 = 5) : zC 15 [zR (some 10), zR (some 3)] h = zY 15 44 [some (zR (some 10)), some (zR (some 3)), some (zI 0)] [zR (some 14), zI 0, zR (some 11)] (gc7 h) := by
  obtain ⟨hN0, U, T, L, R, I, J, F, D⟩ := h
  obtain rfl : hN0 = 11 := hn
  obtain ⟨T, rfl⟩ : ∃ T2 : Nat → Nat, T = zu1 (T2) 10 3 := ⟨T, (by rw [zu1_id (f := T) t10])⟩
  obtain ⟨L, rfl⟩ : ∃ L2 : Nat → Nat, L = zu1 (L2) 10 5 := ⟨L, (by rw [zu1_id (f := L) l10])⟩
  exact zGo 23 _ _ _ _ _
theorem qc_8 {h : zH} (hn : hN h = 15) (t14 : hT h 14 = 10) (l14 : hL h 14 = 7) : zY 15 44 [some (zR (some 10)), some (zR (some 3)), some (zI 0)] [zR (some 14), zI 0, zR (some 11)] h = zBack zY 15 46 49 [some (zR (some 10)), some (zR (some 3)), some (zI 0)] [zR (some 14), zI 0, zR (some 11)] (zC 124 [zR (some 14), zR (some 3)] h) := by
  obtain ⟨hN0, U, T, L, R, I, J, F, D⟩ := h
  obtain rfl : hN0 = 15 := hn
  obtain ⟨T, rfl⟩ : ∃ T2 : Nat → Nat, T = zu1 (T2) 14 10 := ⟨T, (by rw [zu1_id (f := T) t14])⟩
  obtain ⟨L, rfl⟩ : ∃ L2 : Nat → Nat, L = zu1 (L2) 14 7 := ⟨L, (by rw [zu1_id (f := L) l14])⟩
  exact zGo 3 _ _ _ _ _
noncomputable def gc8 (h : zH) : zH := hNew (sR (h) 11 0 (some 14)) 10 7
theorem qc_9 {h : zH} (hn : hN h = 19) (t10 : hT h 10 = 3) (l10 : hL h 10 = 5) (t11 : hT h 11 = 26) (l11 : hL h 11 = 10) (t14 : hT h 14 = 10) (l14 : hL h 14 = 7) (r10_2 : hR h 10 2 = some 11) : zY 15 49 [some (zR (some 10)), some (zR (some 3)), some (zI 0)] [zR (some 14), zI 0, zR (some 11)] h = zBack zY 15 46 49 [some (zR (some 10)), some (zR (some 3)), some (zI 1)] [zR (some 19), zI 1, zR (some 11)] (zC 124 [zR (some 19), zR (some 3)] (gc8 h)) := by
  obtain ⟨hN0, U, T, L, R, I, J, F, D⟩ := h
  obtain rfl : hN0 = 19 := hn
  obtain ⟨T, rfl⟩ : ∃ T2 : Nat → Nat, T = zu1 (zu1 (zu1 (T2) 10 3) 11 26) 14 10 := ⟨T, (by rw [zu1_id (f := T) t10, zu1_id (f := T) t11, zu1_id (f := T) t14])⟩
  obtain ⟨L, rfl⟩ : ∃ L2 : Nat → Nat, L = zu1 (zu1 (zu1 (L2) 10 5) 11 10) 14 7 := ⟨L, (by rw [zu1_id (f := L) l10, zu1_id (f := L) l11, zu1_id (f := L) l14])⟩
  obtain ⟨R, rfl⟩ : ∃ R2 : Nat → Nat → Option Nat, R = zup (R2) 10 2 (some 11) := ⟨R, (by rw [zup_id (f := R) r10_2])⟩
  exact zGo 13 _ _ _ _ _
noncomputable def gc9 (h : zH) : zH := hNew (sR (h) 11 1 (some 19)) 10 7
theorem qc_10 {h : zH} (hn : hN h = 24) (t10 : hT h 10 = 3) (l10 : hL h 10 = 5) (t11 : hT h 11 = 26) (l11 : hL h 11 = 10) (t19 : hT h 19 = 10) (l19 : hL h 19 = 7) (r10_2 : hR h 10 2 = some 11) : zY 15 49 [some (zR (some 10)), some (zR (some 3)), some (zI 1)] [zR (some 19), zI 1, zR (some 11)] h = zBack zY 15 46 49 [some (zR (some 10)), some (zR (some 3)), some (zI 2)] [zR (some 24), zI 2, zR (some 11)] (zC 124 [zR (some 24), zR (some 3)] (gc9 h)) := by
  obtain ⟨hN0, U, T, L, R, I, J, F, D⟩ := h
  obtain rfl : hN0 = 24 := hn
  obtain ⟨T, rfl⟩ : ∃ T2 : Nat → Nat, T = zu1 (zu1 (zu1 (T2) 10 3) 11 26) 19 10 := ⟨T, (by rw [zu1_id (f := T) t10, zu1_id (f := T) t11, zu1_id (f := T) t19])⟩
  obtain ⟨L, rfl⟩ : ∃ L2 : Nat → Nat, L = zu1 (zu1 (zu1 (L2) 10 5) 11 10) 19 7 := ⟨L, (by rw [zu1_id (f := L) l10, zu1_id (f := L) l11, zu1_id (f := L) l19])⟩
  obtain ⟨R, rfl⟩ : ∃ R2 : Nat → Nat → Option Nat, R = zup (R2) 10 2 (some 11) := ⟨R, (by rw [zup_id (f := R) r10_2])⟩
  exact zGo 13 _ _ _ _ _
noncomputable def gc10 (h : zH) : zH := hNew (sR (h) 11 2 (some 24)) 10 7
theorem qc_11 {h : zH} (hn : hN h = 29) (t10 : hT h 10 = 3) (l10 : hL h 10 = 5) (t11 : hT h 11 = 26) (l11 : hL h 11 = 10) (t24 : hT h 24 = 10) (l24 : hL h 24 = 7) (r10_2 : hR h 10 2 = some 11) : zY 15 49 [some (zR (some 10)), some (zR (some 3)), some (zI 2)] [zR (some 24), zI 2, zR (some 11)] h = zBack zY 15 46 49 [some (zR (some 10)), some (zR (some 3)), some (zI 3)] [zR (some 29), zI 3, zR (some 11)] (zC 124 [zR (some 29), zR (some 3)] (gc10 h)) := by
  obtain ⟨hN0, U, T, L, R, I, J, F, D⟩ := h
  obtain rfl : hN0 = 29 := hn
  obtain ⟨T, rfl⟩ : ∃ T2 : Nat → Nat, T = zu1 (zu1 (zu1 (T2) 10 3) 11 26) 24 10 := ⟨T, (by rw [zu1_id (f := T) t10, zu1_id (f := T) t11, zu1_id (f := T) t24])⟩
  obtain ⟨L, rfl⟩ : ∃ L2 : Nat → Nat, L = zu1 (zu1 (zu1 (L2) 10 5) 11 10) 24 7 := ⟨L, (by rw [zu1_id (f := L) l10, zu1_id (f := L) l11, zu1_id (f := L) l24])⟩
  obtain ⟨R, rfl⟩ : ∃ R2 : Nat → Nat → Option Nat, R = zup (R2) 10 2 (some 11) := ⟨R, (by rw [zup_id (f := R) r10_2])⟩
  exact zGo 13 _ _ _ _ _
noncomputable def gc11 (h : zH) : zH := hNew (sR (h) 11 3 (some 29)) 10 7
theorem qc_12 {h : zH} (hn : hN h = 34) (t10 : hT h 10 = 3) (l10 : hL h 10 = 5) (t11 : hT h 11 = 26) (l11 : hL h 11 = 10) (t29 : hT h 29 = 10) (l29 : hL h 29 = 7) (r10_2 : hR h 10 2 = some 11) : zY 15 49 [some (zR (some 10)), some (zR (some 3)), some (zI 3)] [zR (some 29), zI 3, zR (some 11)] h = zBack zY 15 46 49 [some (zR (some 10)), some (zR (some 3)), some (zI 4)] [zR (some 34), zI 4, zR (some 11)] (zC 124 [zR (some 34), zR (some 3)] (gc11 h)) := by
  obtain ⟨hN0, U, T, L, R, I, J, F, D⟩ := h
  obtain rfl : hN0 = 34 := hn
  obtain ⟨T, rfl⟩ : ∃ T2 : Nat → Nat, T = zu1 (zu1 (zu1 (T2) 10 3) 11 26) 29 10 := ⟨T, (by rw [zu1_id (f := T) t10, zu1_id (f := T) t11, zu1_id (f := T) t29])⟩
  obtain ⟨L, rfl⟩ : ∃ L2 : Nat → Nat, L = zu1 (zu1 (zu1 (L2) 10 5) 11 10) 29 7 := ⟨L, (by rw [zu1_id (f := L) l10, zu1_id (f := L) l11, zu1_id (f := L) l29])⟩
  obtain ⟨R, rfl⟩ : ∃ R2 : Nat → Nat → Option Nat, R = zup (R2) 10 2 (some 11) := ⟨R, (by rw [zup_id (f := R) r10_2])⟩
  exact zGo 13 _ _ _ _ _
noncomputable def gc12 (h : zH) : zH := hNew (sR (h) 11 4 (some 34)) 10 7
theorem qc_13 {h : zH} (hn : hN h = 39) (t10 : hT h 10 = 3) (l10 : hL h 10 = 5) (t11 : hT h 11 = 26) (l11 : hL h 11 = 10) (t34 : hT h 34 = 10) (l34 : hL h 34 = 7) (r10_2 : hR h 10 2 = some 11) : zY 15 49 [some (zR (some 10)), some (zR (some 3)), some (zI 4)] [zR (some 34), zI 4, zR (some 11)] h = zBack zY 15 46 49 [some (zR (some 10)), some (zR (some 3)), some (zI 5)] [zR (some 39), zI 5, zR (some 11)] (zC 124 [zR (some 39), zR (some 3)] (gc12 h)) := by
  obtain ⟨hN0, U, T, L, R, I, J, F, D⟩ := h
  obtain rfl : hN0 = 39 := hn
  obtain ⟨T, rfl⟩ : ∃ T2 : Nat → Nat, T = zu1 (zu1 (zu1 (T2) 10 3) 11 26) 34 10 := ⟨T, (by rw [zu1_id (f := T) t10, zu1_id (f := T) t11, zu1_id (f := T) t34])⟩
  obtain ⟨L, rfl⟩ : ∃ L2 : Nat → Nat, L = zu1 (zu1 (zu1 (L2) 10 5) 11 10) 34 7 := ⟨L, (by rw [zu1_id (f := L) l10, zu1_id (f := L) l11, zu1_id (f := L) l34])⟩
  obtain ⟨R, rfl⟩ : ∃ R2 : Nat → Nat → Option Nat, R = zup (R2) 10 2 (some 11) := ⟨R, (by rw [zup_id (f := R) r10_2])⟩
  exact zGo 13 _ _ _ _ _
noncomputable def gc13 (h : zH) : zH := hNew (sR (h) 11 5 (some 39)) 10 7
theorem qc_14 {h : zH} (hn : hN h = 44) (t10 : hT h 10 = 3) (l10 : hL h 10 = 5) (t11 : hT h 11 = 26) (l11 : hL h 11 = 10) (t39 : hT h 39 = 10) (l39 : hL h 39 = 7) (r10_2 : hR h 10 2 = some 11) : zY 15 49 [some (zR (some 10)), some (zR (some 3)), some (zI 5)] [zR (some 39), zI 5, zR (some 11)] h = zBack zY 15 46 49 [some (zR (some 10)), some (zR (some 3)), some (zI 6)] [zR (some 44), zI 6, zR (some 11)] (zC 124 [zR (some 44), zR (some 3)] (gc13 h)) := by
  obtain ⟨hN0, U, T, L, R, I, J, F, D⟩ := h
  obtain rfl : hN0 = 44 := hn
  obtain ⟨T, rfl⟩ : ∃ T2 : Nat → Nat, T = zu1 (zu1 (zu1 (T2) 10 3) 11 26) 39 10 := ⟨T, (by rw [zu1_id (f := T) t10, zu1_id (f := T) t11, zu1_id (f := T) t39])⟩
  obtain ⟨L, rfl⟩ : ∃ L2 : Nat → Nat, L = zu1 (zu1 (zu1 (L2) 10 5) 11 10) 39 7 := ⟨L, (by rw [zu1_id (f := L) l10, zu1_id (f := L) l11, zu1_id (f := L) l39])⟩
  obtain ⟨R, rfl⟩ : ∃ R2 : Nat → Nat → Option Nat, R = zup (R2) 10 2 (some 11) := ⟨R, (by rw [zup_id (f := R) r10_2])⟩
  exact zGo 13 _ _ _ _ _
noncomputable def gc14 (h : zH) : zH := hNew (sR (h) 11 6 (some 44)) 10 7
theorem qc_15 {h : zH} (hn : hN h = 49) (t10 : hT h 10 = 3) (l10 : hL h 10 = 5) (t11 : hT h 11 = 26) (l11 : hL h 11 = 10) (t44 : hT h 44 = 10) (l44 : hL h 44 = 7) (r10_2 : hR h 10 2 = some 11) : zY 15 49 [some (zR (some 10)), some (zR (some 3)), some (zI 6)] [zR (some 44), zI 6, zR (some 11)] h = zBack zY 15 46 49 [some (zR (some 10)), some (zR (some 3)), some (zI 7)] [zR (some 49), zI 7, zR (some 11)] (zC 124 [zR (some 49), zR (some 3)] (gc14 h)) := by
  obtain ⟨hN0, U, T, L, R, I, J, F, D⟩ := h
  obtain rfl : hN0 = 49 := hn
  obtain ⟨T, rfl⟩ : ∃ T2 : Nat → Nat, T = zu1 (zu1 (zu1 (T2) 10 3) 11 26) 44 10 := ⟨T, (by rw [zu1_id (f := T) t10, zu1_id (f := T) t11, zu1_id (f := T) t44])⟩
  obtain ⟨L, rfl⟩ : ∃ L2 : Nat → Nat, L = zu1 (zu1 (zu1 (L2) 10 5) 11 10) 44 7 := ⟨L, (by rw [zu1_id (f := L) l10, zu1_id (f := L) l11, zu1_id (f := L) l44])⟩
  obtain ⟨R, rfl⟩ : ∃ R2 : Nat → Nat → Option Nat, R = zup (R2) 10 2 (some 11) := ⟨R, (by rw [zup_id (f := R) r10_2])⟩
  exact zGo 13 _ _ _ _ _
noncomputable def gc15 (h : zH) : zH := hNew (sR (h) 11 7 (some 49)) 10 7
theorem qc_16 {h : zH} (hn : hN h = 54) (t10 : hT h 10 = 3) (l10 : hL h 10 = 5) (t11 : hT h 11 = 26) (l11 : hL h 11 = 10) (t49 : hT h 49 = 10) (l49 : hL h 49 = 7) (r10_2 : hR h 10 2 = some 11) : zY 15 49 [some (zR (some 10)), some (zR (some 3)), some (zI 7)] [zR (some 49), zI 7, zR (some 11)] h = zBack zY 15 46 49 [some (zR (some 10)), some (zR (some 3)), some (zI 8)] [zR (some 54), zI 8, zR (some 11)] (zC 124 [zR (some 54), zR (some 3)] (gc15 h)) := by
  obtain ⟨hN0, U, T, L, R, I, J, F, D⟩ := h
  obtain rfl : hN0 = 54 := hn
  obtain ⟨T, rfl⟩ : ∃ T2 : Nat → Nat, T = zu1 (zu1 (zu1 (T2) 10 3) 11 26) 49 10 := ⟨T, (by rw [zu1_id (f := T) t10, zu1_id (f := T) t11, zu1_id (f := T) t49])⟩
  obtain ⟨L, rfl⟩ : ∃ L2 : Nat → Nat, L = zu1 (zu1 (zu1 (L2) 10 5) 11 10) 49 7 := ⟨L, (by rw [zu1_id (f := L) l10, zu1_id (f := L) l11, zu1_id (f := L) l49])⟩
  obtain ⟨R, rfl⟩ : ∃ R2 : Nat → Nat → Option Nat, R = zup (R2) 10 2 (some 11) := ⟨R, (by rw [zup_id (f := R) r10_2])⟩
  exact zGo 13 _ _ _ _ _
noncomputable def gc16 (h : zH) : zH := hNew (sR (h) 11 8 (some 54)) 10 7
theorem qc_17 {h : zH} (hn : hN h = 59) (t10 : hT h 10 = 3) (l10 : hL h 10 = 5) (t11 : hT h 11 = 26) (l11 : hL h 11 = 10) (t54 : hT h 54 = 10) (l54 : hL h 54 = 7) (r10_2 : hR h 10 2 = some 11) : zY 15 49 [some (zR (some 10)), some (zR (some 3)), some (zI 8)] [zR (some 54), zI 8, zR (some 11)] h = zBack zY 15 46 49 [some (zR (some 10)), some (zR (some 3)), some (zI 9)] [zR (some 59), zI 9, zR (some 11)] (zC 124 [zR (some 59), zR (some 3)] (gc16 h)) := by
  obtain ⟨hN0, U, T, L, R, I, J, F, D⟩ := h
  obtain rfl : hN0 = 59 := hn
  obtain ⟨T, rfl⟩ : ∃ T2 : Nat → Nat, T = zu1 (zu1 (zu1 (T2) 10 3) 11 26) 54 10 := ⟨T, (by rw [zu1_id (f := T) t10, zu1_id (f := T) t11, zu1_id (f := T) t54])⟩
  obtain ⟨L, rfl⟩ : ∃ L2 : Nat → Nat, L = zu1 (zu1 (zu1 (L2) 10 5) 11 10) 54 7 := ⟨L, (by rw [zu1_id (f := L) l10, zu1_id (f := L) l11, zu1_id (f := L) l54])⟩
  obtain ⟨R, rfl⟩ : ∃ R2 : Nat → Nat → Option Nat, R = zup (R2) 10 2 (some 11) := ⟨R, (by rw [zup_id (f := R) r10_2])⟩
  exact zGo 13 _ _ _ _ _
noncomputable def gc17 (h : zH) : zH := hNew (sR (h) 11 9 (some 59)) 10 7
theorem qc_18 {h : zH} (hn : hN h = 64) (t10 : hT h 10 = 3) (l10 : hL h 10 = 5) (t11 : hT h 11 = 26) (l11 : hL h 11 = 10) (t59 : hT h 59 = 10) (l59 : hL h 59 = 7) (r10_3 : hR h 10 3 = some 12) : zY 15 49 [some (zR (some 10)), some (zR (some 3)), some (zI 9)] [zR (some 59), zI 9, zR (some 11)] h = zBack zY 15 73 76 [some (zR (some 10)), some (zR (some 3)), some (zI 0)] [zR (some 64), zI 0, zR (some 12)] (zC 124 [zR (some 64), zR (some 3)] (gc17 h)) := by
  obtain ⟨hN0, U, T, L, R, I, J, F, D⟩ := h
  obtain rfl : hN0 = 64 := hn
  obtain ⟨T, rfl⟩ : ∃ T2 : Nat → Nat, T = zu1 (zu1 (zu1 (T2) 10 3) 11 26) 59 10 := ⟨T, (by rw [zu1_id (f := T) t10, zu1_id (f := T) t11, zu1_id (f := T) t59])⟩
  obtain ⟨L, rfl⟩ : ∃ L2 : Nat → Nat, L = zu1 (zu1 (zu1 (L2) 10 5) 11 10) 59 7 := ⟨L, (by rw [zu1_id (f := L) l10, zu1_id (f := L) l11, zu1_id (f := L) l59])⟩
  obtain ⟨R, rfl⟩ : ∃ R2 : Nat → Nat → Option Nat, R = zup (R2) 10 3 (some 12) := ⟨R, (by rw [zup_id (f := R) r10_3])⟩
  exact zGo 18 _ _ _ _ _
noncomputable def gc18 (h : zH) : zH := hNew (sR (h) 12 0 (some 64)) 10 7
theorem qc_19 {h : zH} (hn : hN h = 69) (t10 : hT h 10 = 3) (l10 : hL h 10 = 5) (t12 : hT h 12 = 26) (l12 : hL h 12 = 2) (t64 : hT h 64 = 10) (l64 : hL h 64 = 7) (r10_3 : hR h 10 3 = some 12) : zY 15 76 [some (zR (some 10)), some (zR (some 3)), some (zI 0)] [zR (some 64), zI 0, zR (some 12)] h = zBack zY 15 73 76 [some (zR (some 10)), some (zR (some 3)), some (zI 1)] [zR (some 69), zI 1, zR (some 12)] (zC 124 [zR (some 69), zR (some 3)] (gc18 h)) := by
  obtain ⟨hN0, U, T, L, R, I, J, F, D⟩ := h
  obtain rfl : hN0 = 69 := hn
  obtain ⟨T, rfl⟩ : ∃ T2 : Nat → Nat, T = zu1 (zu1 (zu1 (T2) 10 3) 12 26) 64 10 := ⟨T, (by rw [zu1_id (f := T) t10, zu1_id (f := T) t12, zu1_id (f := T) t64])⟩
  obtain ⟨L, rfl⟩ : ∃ L2 : Nat → Nat, L = zu1 (zu1 (zu1 (L2) 10 5) 12 2) 64 7 := ⟨L, (by rw [zu1_id (f := L) l10, zu1_id (f := L) l12, zu1_id (f := L) l64])⟩
  obtain ⟨R, rfl⟩ : ∃ R2 : Nat → Nat → Option Nat, R = zup (R2) 10 3 (some 12) := ⟨R, (by rw [zup_id (f := R) r10_3])⟩
  exact zGo 13 _ _ _ _ _
noncomputable def gc19 (h : zH) : zH := sR (h) 12 1 (some 69)
theorem qc_20 {h : zH} (hn : hN h = 74) (t12 : hT h 12 = 26) (l12 : hL h 12 = 2) (t69 : hT h 69 = 10) (l69 : hL h 69 = 7) : zY 15 76 [some (zR (some 10)), some (zR (some 3)), some (zI 1)] [zR (some 69), zI 1, zR (some 12)] h = some (.inl none, (gc19 h)) := by
  obtain ⟨hN0, U, T, L, R, I, J, F, D⟩ := h
  obtain rfl : hN0 = 74 := hn
  obtain ⟨T, rfl⟩ : ∃ T2 : Nat → Nat, T = zu1 (zu1 (T2) 12 26) 69 10 := ⟨T, (by rw [zu1_id (f := T) t12, zu1_id (f := T) t69])⟩
  obtain ⟨L, rfl⟩ : ∃ L2 : Nat → Nat, L = zu1 (zu1 (L2) 12 2) 69 7 := ⟨L, (by rw [zu1_id (f := L) l12, zu1_id (f := L) l69])⟩
  exact zGo 7 _ _ _ _ _
noncomputable def gc20 (h : zH) : zH := hNew (sR (h) 0 8 (some 10)) 5 14
theorem qc_21 {h : zH} (hn : hN h = 74) (t0 : hT h 0 = 11) (l0 : hL h 0 = 15) (r0_6 : hR h 0 6 = some 3) : zY 146 65 [some (zR (some 0))] [zR (some 10), zR (some 0)] h = zBack zY 146 77 80 [some (zR (some 0))] [zR (some 74), zR (some 0)] (zC 35 [zR (some 74), zR (some 3)] (gc20 h)) := by
  obtain ⟨hN0, U, T, L, R, I, J, F, D⟩ := h
  obtain rfl : hN0 = 74 := hn
  obtain ⟨T, rfl⟩ : ∃ T2 : Nat → Nat, T = zu1 (T2) 0 11 := ⟨T, (by rw [zu1_id (f := T) t0])⟩
  obtain ⟨L, rfl⟩ : ∃ L2 : Nat → Nat, L = zu1 (L2) 0 15 := ⟨L, (by rw [zu1_id (f := L) l0])⟩
  obtain ⟨R, rfl⟩ : ∃ R2 : Nat → Nat → Option Nat, R = zup (R2) 0 6 (some 3) := ⟨R, (by rw [zup_id (f := R) r0_6])⟩
  exact zGo 7 _ _ _ _ _
noncomputable def gc21 (h : zH) : zH := hNew (sR (h) 0 13 (some 74)) 10 7
theorem qc_22 {h : zH} (hn : hN h = 85) (t0 : hT h 0 = 11) (l0 : hL h 0 = 15) (r0_6 : hR h 0 6 = some 3) : zY 146 80 [some (zR (some 0))] [zR (some 74), zR (some 0)] h = zBack zY 146 92 95 [some (zR (some 0))] [zR (some 85), zR (some 0)] (zC 124 [zR (some 85), zR (some 3)] (gc21 h)) := by
  obtain ⟨hN0, U, T, L, R, I, J, F, D⟩ := h
  obtain rfl : hN0 = 85 := hn
  obtain ⟨T, rfl⟩ : ∃ T2 : Nat → Nat, T = zu1 (T2) 0 11 := ⟨T, (by rw [zu1_id (f := T) t0])⟩
  obtain ⟨L, rfl⟩ : ∃ L2 : Nat → Nat, L = zu1 (L2) 0 15 := ⟨L, (by rw [zu1_id (f := L) l0])⟩
  obtain ⟨R, rfl⟩ : ∃ R2 : Nat → Nat → Option Nat, R = zup (R2) 0 6 (some 3) := ⟨R, (by rw [zup_id (f := R) r0_6])⟩
  exact zGo 7 _ _ _ _ _
noncomputable def gc22 (h : zH) : zH := hNew (sR (h) 0 14 (some 85)) 8 16
theorem qc_23 {h : zH} (hn : hN h = 90) (t0 : hT h 0 = 11) (l0 : hL h 0 = 15) (r0_6 : hR h 0 6 = some 3) : zY 146 95 [some (zR (some 0))] [zR (some 85), zR (some 0)] h = zBack zY 146 107 110 [some (zR (some 0))] [zR (some 90), zR (some 0)] (zC 92 [zR (some 90), zR (some 3)] (gc22 h)) := by
  obtain ⟨hN0, U, T, L, R, I, J, F, D⟩ := h
  obtain rfl : hN0 = 90 := hn
  obtain ⟨T, rfl⟩ : ∃ T2 : Nat → Nat, T = zu1 (T2) 0 11 := ⟨T, (by rw [zu1_id (f := T) t0])⟩
  obtain ⟨L, rfl⟩ : ∃ L2 : Nat → Nat, L = zu1 (L2) 0 15 := ⟨L, (by rw [zu1_id (f := L) l0])⟩
  obtain ⟨R, rfl⟩ : ∃ R2 : Nat → Nat → Option Nat, R = zup (R2) 0 6 (some 3) := ⟨R, (by rw [zup_id (f := R) r0_6])⟩
  exact zGo 7 _ _ _ _ _
noncomputable def gc23 (h : zH) : zH := hNew (sR (hNew (sR (hNew (sR (hNew (h) 23 24) 90 2 (some 91)) 23 24) 90 3 (some 92)) 23 24) 90 4 (some 93)) 23 24
theorem qc_24 {h : zH} (hn : hN h = 91) (t90 : hT h 90 = 8) (l90 : hL h 90 = 16) : zC 92 [zR (some 90), zR (some 3)] h = zY 92 33 [some (zR (some 90)), some (zR (some 3)), none, none] [zR (some 94), zR (some 90)] (gc23 h) := by
  obtain ⟨hN0, U, T, L, R, I, J, F, D⟩ := h
  obtain rfl : hN0 = 91 := hn
  obtain ⟨T, rfl⟩ : ∃ T2 : Nat → Nat, T = zu1 (T2) 90 8 := ⟨T, (by rw [zu1_id (f := T) t90])⟩
  obtain ⟨L, rfl⟩ : ∃ L2 : Nat → Nat, L = zu1 (L2) 90 16 := ⟨L, (by rw [zu1_id (f := L) l90])⟩
  exact zGo 17 _ _ _ _ _
noncomputable def gc24 (h : zH) : zH := hNew (sR (hNew (sR (hNew (sR (hNew (sR (h) 90 5 (some 94)) 23 24) 90 6 (some 95)) 22 24) 90 7 (some 96)) 25 24) 90 8 (some 97)) 25 13
theorem qc_25 {h : zH} (hn : hN h = 95) (t90 : hT h 90 = 8) (l90 : hL h 90 = 16) : zY 92 33 [some (zR (some 90)), some (zR (some 3)), none, none] [zR (some 94), zR (some 90)] h = zY 92 67 [some (zR (some 90)), some (zR (some 3)), none, none] [zR (some 98), zR (some 90)] (gc24 h) := by
  obtain ⟨hN0, U, T, L, R, I, J, F, D⟩ := h
  obtain rfl : hN0 = 95 := hn
  obtain ⟨T, rfl⟩ : ∃ T2 : Nat → Nat, T = zu1 (T2) 90 8 := ⟨T, (by rw [zu1_id (f := T) t90])⟩
  obtain ⟨L, rfl⟩ : ∃ L2 : Nat → Nat, L = zu1 (L2) 90 16 := ⟨L, (by rw [zu1_id (f := L) l90])⟩
  exact zGo 16 _ _ _ _ _
noncomputable def gc25 (h : zH) : zH := sR (sR (sR (hNew (sR (hNew (sR (h) 90 10 (some 98)) 23 200) 90 11 (some 99)) 23 200) 90 12 (some 100)) 90 9 (some 3)) 97 0 (some 3)
theorem qc_26 {h : zH} (hn : hN h = 99) (t3 : hT h 3 = 2) (l3 : hL h 3 = 1) (t90 : hT h 90 = 8) (l90 : hL h 90 = 16) (t97 : hT h 97 = 25) (l97 : hL h 97 = 24) (r90_8 : hR h 90 8 = some 97) : zY 92 67 [some (zR (some 90)), some (zR (some 3)), none, none] [zR (some 98), zR (some 90)] h = zY 92 95 [some (zR (some 90)), some (zR (some 3)), some (zI 1), none] [] (gc25 h) := by
  obtain ⟨hN0, U, T, L, R, I, J, F, D⟩ := h
  obtain rfl : hN0 = 99 := hn
  obtain ⟨T, rfl⟩ : ∃ T2 : Nat → Nat, T = zu1 (zu1 (zu1 (T2) 3 2) 90 8) 97 25 := ⟨T, (by rw [zu1_id (f := T) t3, zu1_id (f := T) t90, zu1_id (f := T) t97])⟩
  obtain ⟨L, rfl⟩ : ∃ L2 : Nat → Nat, L = zu1 (zu1 (zu1 (L2) 3 1) 90 16) 97 24 := ⟨L, (by rw [zu1_id (f := L) l3, zu1_id (f := L) l90, zu1_id (f := L) l97])⟩
  obtain ⟨R, rfl⟩ : ∃ R2 : Nat → Nat → Option Nat, R = zup (R2) 90 8 (some 97) := ⟨R, (by rw [zup_id (f := R) r90_8])⟩
  exact zGo 24 _ _ _ _ _
noncomputable def gc26 (h : zH) : zH := sR (sR (h) 97 1 (some 3)) 97 2 (some 3)
theorem qc_27 {h : zH} (hn : hN h = 101) (t3 : hT h 3 = 2) (l3 : hL h 3 = 1) (t90 : hT h 90 = 8) (l90 : hL h 90 = 16) (t97 : hT h 97 = 25) (l97 : hL h 97 = 24) (r90_8 : hR h 90 8 = some 97) : zY 92 95 [some (zR (some 90)), some (zR (some 3)), some (zI 1), none] [] h = zY 92 102 [some (zR (some 90)), some (zR (some 3)), some (zI 3), none] [zR (some 90)] (gc26 h) := by
  obtain ⟨hN0, U, T, L, R, I, J, F, D⟩ := h
  obtain rfl : hN0 = 101 := hn
  obtain ⟨T, rfl⟩ : ∃ T2 : Nat → Nat, T = zu1 (zu1 (zu1 (T2) 3 2) 90 8) 97 25 := ⟨T, (by rw [zu1_id (f := T) t3, zu1_id (f := T) t90, zu1_id (f := T) t97])⟩
  obtain ⟨L, rfl⟩ : ∃ L2 : Nat → Nat, L = zu1 (zu1 (zu1 (L2) 3 1) 90 16) 97 24 := ⟨L, (by rw [zu1_id (f := L) l3, zu1_id (f := L) l90, zu1_id (f := L) l97])⟩
  obtain ⟨R, rfl⟩ : ∃ R2 : Nat → Nat → Option Nat, R = zup (R2) 90 8 (some 97) := ⟨R, (by rw [zup_id (f := R) r90_8])⟩
  exact zGo 24 _ _ _ _ _
noncomputable def gc27 (h : zH) : zH := sR (sR (sR (h) 97 3 (some 3)) 97 4 (some 3)) 97 5 (some 3)
theorem qc_28 {h : zH} (hn : hN h = 101) (t3 : hT h 3 = 2) (l3 : hL h 3 = 1) (t90 : hT h 90 = 8) (l90 : hL h 90 = 16) (t97 : hT h 97 = 25) (l97 : hL h 97 = 24) (r90_8 : hR h 90 8 = some 97) : zY 92 102 [some (zR (some 90)), some (zR (some 3)), some (zI 3), none] [zR (some 90)] h = zY 92 108 [some (zR (some 90)), some (zR (some 3)), some (zI 5), none] [] (gc27 h) := by
  obtain ⟨hN0, U, T, L, R, I, J, F, D⟩ := h
  obtain rfl : hN0 = 101 := hn
  obtain ⟨T, rfl⟩ : ∃ T2 : Nat → Nat, T = zu1 (zu1 (zu1 (T2) 3 2) 90 8) 97 25 := ⟨T, (by rw [zu1_id (f := T) t3, zu1_id (f := T) t90, zu1_id (f := T) t97])⟩
  obtain ⟨L, rfl⟩ : ∃ L2 : Nat → Nat, L = zu1 (zu1 (zu1 (L2) 3 1) 90 16) 97 24 := ⟨L, (by rw [zu1_id (f := L) l3, zu1_id (f := L) l90, zu1_id (f := L) l97])⟩
  obtain ⟨R, rfl⟩ : ∃ R2 : Nat → Nat → Option Nat, R = zup (R2) 90 8 (some 97) := ⟨R, (by rw [zup_id (f := R) r90_8])⟩
  exact zGo 24 _ _ _ _ _
noncomputable def gc28 (h : zH) : zH := sR (sR (h) 97 6 (some 3)) 97 7 (some 3)
theorem qc_29 {h : zH} (hn : hN h = 101) (t3 : hT h 3 = 2) (l3 : hL h 3 = 1) (t90 : hT h 90 = 8) (l90 : hL h 90 = 16) (t97 : hT h 97 = 25) (l97 : hL h 97 = 24) (r90_8 : hR h 90 8 = some 97) : zY 92 108 [some (zR (some 90)), some (zR (some 3)), some (zI 5), none] [] h = zY 92 98 [some (zR (some 90)), some (zR (some 3)), some (zI 8), none] [zI 24, zI 8] (gc28 h) := by
  obtain ⟨hN0, U, T, L, R, I, J, F, D⟩ := h
  obtain rfl : hN0 = 101 := hn
  obtain ⟨T, rfl⟩ : ∃ T2 : Nat → Nat, T = zu1 (zu1 (zu1 (T2) 3 2) 90 8) 97 25 := ⟨T, (by rw [zu1_id (f := T) t3, zu1_id (f := T) t90, zu1_id (f := T) t97])⟩
  obtain ⟨L, rfl⟩ : ∃ L2 : Nat → Nat, L = zu1 (zu1 (zu1 (L2) 3 1) 90 16) 97 24 := ⟨L, (by rw [zu1_id (f := L) l3, zu1_id (f := L) l90, zu1_id (f := L) l97])⟩
  obtain ⟨R, rfl⟩ : ∃ R2 : Nat → Nat → Option Nat, R = zup (R2) 90 8 (some 97) := ⟨R, (by rw [zup_id (f := R) r90_8])⟩
  exact zGo 24 _ _ _ _ _
noncomputable def gc29 (h : zH) : zH := sR (sR (h) 97 8 (some 3)) 97 9 (some 3)
theorem qc_30 {h : zH} (hn : hN h = 101) (t3 : hT h 3 = 2) (l3 : hL h 3 = 1) (t90 : hT h 90 = 8) (l90 : hL h 90 = 16) (t97 : hT h 97 = 25) (l97 : hL h 97 = 24) (r90_8 : hR h 90 8 = some 97) : zY 92 98 [some (zR (some 90)), some (zR (some 3)), some (zI 8), none] [zI 24, zI 8] h = zY 92 106 [some (zR (some 90)), some (zR (some 3)), some (zI 10), none] [zI 10, zR (some 97)] (gc29 h) := by
  obtain ⟨hN0, U, T, L, R, I, J, F, D⟩ := h
  obtain rfl : hN0 = 101 := hn
  obtain ⟨T, rfl⟩ : ∃ T2 : Nat → Nat, T = zu1 (zu1 (zu1 (T2) 3 2) 90 8) 97 25 := ⟨T, (by rw [zu1_id (f := T) t3, zu1_id (f := T) t90, zu1_id (f := T) t97])⟩
  obtain ⟨L, rfl⟩ : ∃ L2 : Nat → Nat, L = zu1 (zu1 (zu1 (L2) 3 1) 90 16) 97 24 := ⟨L, (by rw [zu1_id (f := L) l3, zu1_id (f := L) l90, zu1_id (f := L) l97])⟩
  obtain ⟨R, rfl⟩ : ∃ R2 : Nat → Nat → Option Nat, R = zup (R2) 90 8 (some 97) := ⟨R, (by rw [zup_id (f := R) r90_8])⟩
  exact zGo 24 _ _ _ _ _
noncomputable def gc30 (h : zH) : zH := sR (sR (sR (h) 97 10 (some 3)) 97 11 (some 3)) 97 12 (some 3)
theorem qc_31 {h : zH} (hn : hN h = 101) (t3 : hT h 3 = 2) (l3 : hL h 3 = 1) (t90 : hT h 90 = 8) (l90 : hL h 90 = 16) (t97 : hT h 97 = 25) (l97 : hL h 97 = 24) (r90_8 : hR h 90 8 = some 97) : zY 92 106 [some (zR (some 90)), some (zR (some 3)), some (zI 10), none] [zI 10, zR (some 97)] h = zY 92 95 [some (zR (some 90)), some (zR (some 3)), some (zI 13), none] [] (gc30 h) := by
  obtain ⟨hN0, U, T, L, R, I, J, F, D⟩ := h
  obtain rfl : hN0 = 101 := hn
  obtain ⟨T, rfl⟩ : ∃ T2 : Nat → Nat, T = zu1 (zu1 (zu1 (T2) 3 2) 90 8) 97 25 := ⟨T, (by rw [zu1_id (f := T) t3, zu1_id (f := T) t90, zu1_id (f := T) t97])⟩
  obtain ⟨L, rfl⟩ : ∃ L2 : Nat → Nat, L = zu1 (zu1 (zu1 (L2) 3 1) 90 16) 97 24 := ⟨L, (by rw [zu1_id (f := L) l3, zu1_id (f := L) l90, zu1_id (f := L) l97])⟩
  obtain ⟨R, rfl⟩ : ∃ R2 : Nat → Nat → Option Nat, R = zup (R2) 90 8 (some 97) := ⟨R, (by rw [zup_id (f := R) r90_8])⟩
  exact zGo 24 _ _ _ _ _
noncomputable def gc31 (h : zH) : zH := sR (sR (h) 97 13 (some 3)) 97 14 (some 3)
theorem qc_32 {h : zH} (hn : hN h = 101) (t3 : hT h 3 = 2) (l3 : hL h 3 = 1) (t90 : hT h 90 = 8) (l90 : hL h 90 = 16) (t97 : hT h 97 = 25) (l97 : hL h 97 = 24) (r90_8 : hR h 90 8 = some 97) : zY 92 95 [some (zR (some 90)), some (zR (some 3)), some (zI 13), none] [] h = zY 92 102 [some (zR (some 90)), some (zR (some 3)), some (zI 15), none] [zR (some 90)] (gc31 h) := by
  obtain ⟨hN0, U, T, L, R, I, J, F, D⟩ := h
  obtain rfl : hN0 = 101 := hn
  obtain ⟨T, rfl⟩ : ∃ T2 : Nat → Nat, T = zu1 (zu1 (zu1 (T2) 3 2) 90 8) 97 25 := ⟨T, (by rw [zu1_id (f := T) t3, zu1_id (f := T) t90, zu1_id (f := T) t97])⟩
  obtain ⟨L, rfl⟩ : ∃ L2 : Nat → Nat, L = zu1 (zu1 (zu1 (L2) 3 1) 90 16) 97 24 := ⟨L, (by rw [zu1_id (f := L) l3, zu1_id (f := L) l90, zu1_id (f := L) l97])⟩
  obtain ⟨R, rfl⟩ : ∃ R2 : Nat → Nat → Option Nat, R = zup (R2) 90 8 (some 97) := ⟨R, (by rw [zup_id (f := R) r90_8])⟩
  exact zGo 24 _ _ _ _ _
noncomputable def gc32 (h : zH) : zH := sR (sR (sR (h) 97 15 (some 3)) 97 16 (some 3)) 97 17 (some 3)
theorem qc_33 {h : zH} (hn : hN h = 101) (t3 : hT h 3 = 2) (l3 : hL h 3 = 1) (t90 : hT h 90 = 8) (l90 : hL h 90 = 16) (t97 : hT h 97 = 25) (l97 : hL h 97 = 24) (r90_8 : hR h 90 8 = some 97) : zY 92 102 [some (zR (some 90)), some (zR (some 3)), some (zI 15), none] [zR (some 90)] h = zY 92 108 [some (zR (some 90)), some (zR (some 3)), some (zI 17), none] [] (gc32 h) := by
  obtain ⟨hN0, U, T, L, R, I, J, F, D⟩ := h
  obtain rfl : hN0 = 101 := hn
  obtain ⟨T, rfl⟩ : ∃ T2 : Nat → Nat, T = zu1 (zu1 (zu1 (T2) 3 2) 90 8) 97 25 := ⟨T, (by rw [zu1_id (f := T) t3, zu1_id (f := T) t90, zu1_id (f := T) t97])⟩
  obtain ⟨L, rfl⟩ : ∃ L2 : Nat → Nat, L = zu1 (zu1 (zu1 (L2) 3 1) 90 16) 97 24 := ⟨L, (by rw [zu1_id (f := L) l3, zu1_id (f := L) l90, zu1_id (f := L) l97])⟩
  obtain ⟨R, rfl⟩ : ∃ R2 : Nat → Nat → Option Nat, R = zup (R2) 90 8 (some 97) := ⟨R, (by rw [zup_id (f := R) r90_8])⟩
  exact zGo 24 _ _ _ _ _
noncomputable def gc33 (h : zH) : zH := sR (sR (h) 97 18 (some 3)) 97 19 (some 3)
theorem qc_34 {h : zH} (hn : hN h = 101) (t3 : hT h 3 = 2) (l3 : hL h 3 = 1) (t90 : hT h 90 = 8) (l90 : hL h 90 = 16) (t97 : hT h 97 = 25) (l97 : hL h 97 = 24) (r90_8 : hR h 90 8 = some 97) : zY 92 108 [some (zR (some 90)), some (zR (some 3)), some (zI 17), none] [] h = zY 92 98 [some (zR (some 90)), some (zR (some 3)), some (zI 20), none] [zI 24, zI 20] (gc33 h) := by
  obtain ⟨hN0, U, T, L, R, I, J, F, D⟩ := h
  obtain rfl : hN0 = 101 := hn
  obtain ⟨T, rfl⟩ : ∃ T2 : Nat → Nat, T = zu1 (zu1 (zu1 (T2) 3 2) 90 8) 97 25 := ⟨T, (by rw [zu1_id (f := T) t3, zu1_id (f := T) t90, zu1_id (f := T) t97])⟩
  obtain ⟨L, rfl⟩ : ∃ L2 : Nat → Nat, L = zu1 (zu1 (zu1 (L2) 3 1) 90 16) 97 24 := ⟨L, (by rw [zu1_id (f := L) l3, zu1_id (f := L) l90, zu1_id (f := L) l97])⟩
  obtain ⟨R, rfl⟩ : ∃ R2 : Nat → Nat → Option Nat, R = zup (R2) 90 8 (some 97) := ⟨R, (by rw [zup_id (f := R) r90_8])⟩
  exact zGo 24 _ _ _ _ _
noncomputable def gc34 (h : zH) : zH := sR (sR (h) 97 20 (some 3)) 97 21 (some 3)
theorem qc_35 {h : zH} (hn : hN h = 101) (t3 : hT h 3 = 2) (l3 : hL h 3 = 1) (t90 : hT h 90 = 8) (l90 : hL h 90 = 16) (t97 : hT h 97 = 25) (l97 : hL h 97 = 24) (r90_8 : hR h 90 8 = some 97) : zY 92 98 [some (zR (some 90)), some (zR (some 3)), some (zI 20), none] [zI 24, zI 20] h = zY 92 106 [some (zR (some 90)), some (zR (some 3)), some (zI 22), none] [zI 22, zR (some 97)] (gc34 h) := by
  obtain ⟨hN0, U, T, L, R, I, J, F, D⟩ := h
  obtain rfl : hN0 = 101 := hn
  obtain ⟨T, rfl⟩ : ∃ T2 : Nat → Nat, T = zu1 (zu1 (zu1 (T2) 3 2) 90 8) 97 25 := ⟨T, (by rw [zu1_id (f := T) t3, zu1_id (f := T) t90, zu1_id (f := T) t97])⟩
  obtain ⟨L, rfl⟩ : ∃ L2 : Nat → Nat, L = zu1 (zu1 (zu1 (L2) 3 1) 90 16) 97 24 := ⟨L, (by rw [zu1_id (f := L) l3, zu1_id (f := L) l90, zu1_id (f := L) l97])⟩
  obtain ⟨R, rfl⟩ : ∃ R2 : Nat → Nat → Option Nat, R = zup (R2) 90 8 (some 97) := ⟨R, (by rw [zup_id (f := R) r90_8])⟩
  exact zGo 24 _ _ _ _ _
noncomputable def gc35 (h : zH) : zH := hNew (sR (sR (h) 97 22 (some 3)) 97 23 (some 3)) 21 3
theorem qc_36 {h : zH} (hn : hN h = 101) (t3 : hT h 3 = 2) (l3 : hL h 3 = 1) (t90 : hT h 90 = 8) (l90 : hL h 90 = 16) (t97 : hT h 97 = 25) (l97 : hL h 97 = 24) (r90_8 : hR h 90 8 = some 97) : zY 92 106 [some (zR (some 90)), some (zR (some 3)), some (zI 22), none] [zI 22, zR (some 97)] h = zY 92 123 [some (zR (some 90)), some (zR (some 3)), some (zR (some 101)), some (zI 0)] [zI 13, zI 0] (gc35 h) := by
  obtain ⟨hN0, U, T, L, R, I, J, F, D⟩ := h
  obtain rfl : hN0 = 101 := hn
  obtain ⟨T, rfl⟩ : ∃ T2 : Nat → Nat, T = zu1 (zu1 (zu1 (T2) 3 2) 90 8) 97 25 := ⟨T, (by rw [zu1_id (f := T) t3, zu1_id (f := T) t90, zu1_id (f := T) t97])⟩
  obtain ⟨L, rfl⟩ : ∃ L2 : Nat → Nat, L = zu1 (zu1 (zu1 (L2) 3 1) 90 16) 97 24 := ⟨L, (by rw [zu1_id (f := L) l3, zu1_id (f := L) l90, zu1_id (f := L) l97])⟩
  obtain ⟨R, rfl⟩ : ∃ R2 : Nat → Nat → Option Nat, R = zup (R2) 90 8 (some 97) := ⟨R, (by rw [zup_id (f := R) r90_8])⟩
  exact zGo 24 _ _ _ _ _
noncomputable def gc36 (h : zH) : zH := hNew (h) 2 1
theorem qc_37 {h : zH} (hn : hN h = 102) (t90 : hT h 90 = 8) (l90 : hL h 90 = 16) (r90_10 : hR h 90 10 = some 98) : zY 92 123 [some (zR (some 90)), some (zR (some 3)), some (zR (some 101)), some (zI 0)] [zI 13, zI 0] h = zBack zY 92 138 141 [some (zR (some 90)), some (zR (some 3)), some (zR (some 101)), some (zI 0)] [zR (some 101), zR (some 102), zR (some 102), zI 0, zR (some 98)] (zC 93 [zI 0, zR (some 101)] (gc36 h)) := by
  obtain ⟨hN0, U, T, L, R, I, J, F, D⟩ := h
  obtain rfl : hN0 = 102 := hn
  obtain ⟨T, rfl⟩ : ∃ T2 : Nat → Nat, T = zu1 (T2) 90 8 := ⟨T, (by rw [zu1_id (f := T) t90])⟩
  obtain ⟨L, rfl⟩ : ∃ L2 : Nat → Nat, L = zu1 (L2) 90 16 := ⟨L, (by rw [zu1_id (f := L) l90])⟩
  obtain ⟨R, rfl⟩ : ∃ R2 : Nat → Nat → Option Nat, R = zup (R2) 90 10 (some 98) := ⟨R, (by rw [zup_id (f := R) r90_10])⟩
  exact zGo 10 _ _ _ _ _
noncomputable def gc37 (h : zH) : zH := sI (h) 101 0 0
theorem qc_38 {h : zH} (hn : hN h = 103) (t101 : hT h 101 = 21) (l101 : hL h 101 = 3) : zC 93 [zI 0, zR (some 101)] h = some (.inl (some (zI 1)), (gc37 h)) := by
  obtain ⟨hN0, U, T, L, R, I, J, F, D⟩ := h
  obtain rfl : hN0 = 103 := hn
  obtain ⟨T, rfl⟩ : ∃ T2 : Nat → Nat, T = zu1 (T2) 101 21 := ⟨T, (by rw [zu1_id (f := T) t101])⟩
  obtain ⟨L, rfl⟩ : ∃ L2 : Nat → Nat, L = zu1 (L2) 101 3 := ⟨L, (by rw [zu1_id (f := L) l101])⟩
  exact zGo 14 _ _ _ _ _
theorem qc_39 {h : zH} (hn : hN h = 103) (t102 : hT h 102 = 2) (l102 : hL h 102 = 1) : zY 92 141 [some (zR (some 90)), some (zR (some 3)), some (zR (some 101)), some (zI 0)] [zI 1, zR (some 101), zR (some 102), zR (some 102), zI 0, zR (some 98)] h = zBack zY 92 141 144 [some (zR (some 90)), some (zR (some 3)), some (zR (some 101)), some (zI 0)] [zR (some 102), zI 0, zR (some 98)] (zC 13 [zR (some 102), zR (some 101), zI 1] h) := by
  obtain ⟨hN0, U, T, L, R, I, J, F, D⟩ := h
  obtain rfl : hN0 = 103 := hn
  obtain ⟨T, rfl⟩ : ∃ T2 : Nat → Nat, T = zu1 (T2) 102 2 := ⟨T, (by rw [zu1_id (f := T) t102])⟩
  obtain ⟨L, rfl⟩ : ∃ L2 : Nat → Nat, L = zu1 (L2) 102 1 := ⟨L, (by rw [zu1_id (f := L) l102])⟩
  exact zGo 1 _ _ _ _ _
noncomputable def gc38 (h : zH) : zH := hNew (sR (h) 98 0 (some 102)) 2 1
theorem qc_40 {h : zH} (hn : hN h = 104) (t90 : hT h 90 = 8) (l90 : hL h 90 = 16) (t98 : hT h 98 = 25) (l98 : hL h 98 = 13) (t102 : hT h 102 = 2) (l102 : hL h 102 = 1) (r90_10 : hR h 90 10 = some 98) : zY 92 144 [some (zR (some 90)), some (zR (some 3)), some (zR (some 101)), some (zI 0)] [zR (some 102), zI 0, zR (some 98)] h = zBack zY 92 138 141 [some (zR (some 90)), some (zR (some 3)), some (zR (some 101)), some (zI 1)] [zR (some 101), zR (some 104), zR (some 104), zI 1, zR (some 98)] (zC 93 [zI 1, zR (some 101)] (gc38 h)) := by
  obtain ⟨hN0, U, T, L, R, I, J, F, D⟩ := h
  obtain rfl : hN0 = 104 := hn
  obtain ⟨T, rfl⟩ : ∃ T2 : Nat → Nat, T = zu1 (zu1 (zu1 (T2) 90 8) 98 25) 102 2 := ⟨T, (by rw [zu1_id (f := T) t90, zu1_id (f := T) t98, zu1_id (f := T) t102])⟩
  obtain ⟨L, rfl⟩ : ∃ L2 : Nat → Nat, L = zu1 (zu1 (zu1 (L2) 90 16) 98 13) 102 1 := ⟨L, (by rw [zu1_id (f := L) l90, zu1_id (f := L) l98, zu1_id (f := L) l102])⟩
  obtain ⟨R, rfl⟩ : ∃ R2 : Nat → Nat → Option Nat, R = zup (R2) 90 10 (some 98) := ⟨R, (by rw [zup_id (f := R) r90_10])⟩
  exact zGo 15 _ _ _ _ _
noncomputable def gc39 (h : zH) : zH := sI (h) 101 0 1
theorem qc_41 {h : zH} (hn : hN h = 105) (t101 : hT h 101 = 21) (l101 : hL h 101 = 3) : zC 93 [zI 1, zR (some 101)] h = some (.inl (some (zI 1)), (gc39 h)) := by
  obtain ⟨hN0, U, T, L, R, I, J, F, D⟩ := h
  obtain rfl : hN0 = 105 := hn
  obtain ⟨T, rfl⟩ : ∃ T2 : Nat → Nat, T = zu1 (T2) 101 21 := ⟨T, (by rw [zu1_id (f := T) t101])⟩
  obtain ⟨L, rfl⟩ : ∃ L2 : Nat → Nat, L = zu1 (L2) 101 3 := ⟨L, (by rw [zu1_id (f := L) l101])⟩
  exact zGo 14 _ _ _ _ _
theorem qc_42 {h : zH} (hn : hN h = 105) (t104 : hT h 104 = 2) (l104 : hL h 104 = 1) : zY 92 141 [some (zR (some 90)), some (zR (some 3)), some (zR (some 101)), some (zI 1)] [zI 1, zR (some 101), zR (some 104), zR (some 104), zI 1, zR (some 98)] h = zBack zY 92 141 144 [some (zR (some 90)), some (zR (some 3)), some (zR (some 101)), some (zI 1)] [zR (some 104), zI 1, zR (some 98)] (zC 13 [zR (some 104), zR (some 101), zI 1] h) := by
  obtain ⟨hN0, U, T, L, R, I, J, F, D⟩ := h
  obtain rfl : hN0 = 105 := hn
  obtain ⟨T, rfl⟩ : ∃ T2 : Nat → Nat, T = zu1 (T2) 104 2 := ⟨T, (by rw [zu1_id (f := T) t104])⟩
  obtain ⟨L, rfl⟩ : ∃ L2 : Nat → Nat, L = zu1 (L2) 104 1 := ⟨L, (by rw [zu1_id (f := L) l104])⟩
  exact zGo 1 _ _ _ _ _
noncomputable def gc40 (h : zH) : zH := hNew (sR (h) 98 1 (some 104)) 2 1
theorem qc_43 {h : zH} (hn : hN h = 106) (t90 : hT h 90 = 8) (l90 : hL h 90 = 16) (t98 : hT h 98 = 25) (l98 : hL h 98 = 13) (t104 : hT h 104 = 2) (l104 : hL h 104 = 1) (r90_10 : hR h 90 10 = some 98) : zY 92 144 [some (zR (some 90)), some (zR (some 3)), some (zR (some 101)), some (zI 1)] [zR (some 104), zI 1, zR (some 98)] h = zBack zY 92 138 141 [some (zR (some 90)), some (zR (some 3)), some (zR (some 101)), some (zI 2)] [zR (some 101), zR (some 106), zR (some 106), zI 2, zR (some 98)] (zC 93 [zI 2, zR (some 101)] (gc40 h)) := by
  obtain ⟨hN0, U, T, L, R, I, J, F, D⟩ := h
  obtain rfl : hN0 = 106 := hn
  obtain ⟨T, rfl⟩ : ∃ T2 : Nat → Nat, T = zu1 (zu1 (zu1 (T2) 90 8) 98 25) 104 2 := ⟨T, (by rw [zu1_id (f := T) t90, zu1_id (f := T) t98, zu1_id (f := T) t104])⟩
  obtain ⟨L, rfl⟩ : ∃ L2 : Nat → Nat, L = zu1 (zu1 (zu1 (L2) 90 16) 98 13) 104 1 := ⟨L, (by rw [zu1_id (f := L) l90, zu1_id (f := L) l98, zu1_id (f := L) l104])⟩
  obtain ⟨R, rfl⟩ : ∃ R2 : Nat → Nat → Option Nat, R = zup (R2) 90 10 (some 98) := ⟨R, (by rw [zup_id (f := R) r90_10])⟩
  exact zGo 15 _ _ _ _ _
noncomputable def gc41 (h : zH) : zH := sI (h) 101 0 2
theorem qc_44 {h : zH} (hn : hN h = 107) (t101 : hT h 101 = 21) (l101 : hL h 101 = 3) : zC 93 [zI 2, zR (some 101)] h = some (.inl (some (zI 1)), (gc41 h)) := by
  obtain ⟨hN0, U, T, L, R, I, J, F, D⟩ := h
  obtain rfl : hN0 = 107 := hn
  obtain ⟨T, rfl⟩ : ∃ T2 : Nat → Nat, T = zu1 (T2) 101 21 := ⟨T, (by rw [zu1_id (f := T) t101])⟩
  obtain ⟨L, rfl⟩ : ∃ L2 : Nat → Nat, L = zu1 (L2) 101 3 := ⟨L, (by rw [zu1_id (f := L) l101])⟩
  exact zGo 14 _ _ _ _ _
theorem qc_45 {h : zH} (hn : hN h = 107) (t106 : hT h 106 = 2) (l106 : hL h 106 = 1) : zY 92 141 [some (zR (some 90)), some (zR (some 3)), some (zR (some 101)), some (zI 2)] [zI 1, zR (some 101), zR (some 106), zR (some 106), zI 2, zR (some 98)] h = zBack zY 92 141 144 [some (zR (some 90)), some (zR (some 3)), some (zR (some 101)), some (zI 2)] [zR (some 106), zI 2, zR (some 98)] (zC 13 [zR (some 106), zR (some 101), zI 1] h) := by
  obtain ⟨hN0, U, T, L, R, I, J, F, D⟩ := h
  obtain rfl : hN0 = 107 := hn
  obtain ⟨T, rfl⟩ : ∃ T2 : Nat → Nat, T = zu1 (T2) 106 2 := ⟨T, (by rw [zu1_id (f := T) t106])⟩
  obtain ⟨L, rfl⟩ : ∃ L2 : Nat → Nat, L = zu1 (L2) 106 1 := ⟨L, (by rw [zu1_id (f := L) l106])⟩
  exact zGo 1 _ _ _ _ _
noncomputable def gc42 (h : zH) : zH := hNew (sR (h) 98 2 (some 106)) 2 1
theorem qc_46 {h : zH} (hn : hN h = 108) (t90 : hT h 90 = 8) (l90 : hL h 90 = 16) (t98 : hT h 98 = 25) (l98 : hL h 98 = 13) (t106 : hT h 106 = 2) (l106 : hL h 106 = 1) (r90_10 : hR h 90 10 = some 98) : zY 92 144 [some (zR (some 90)), some (zR (some 3)), some (zR (some 101)), some (zI 2)] [zR (some 106), zI 2, zR (some 98)] h = zBack zY 92 138 141 [some (zR (some 90)), some (zR (some 3)), some (zR (some 101)), some (zI 3)] [zR (some 101), zR (some 108), zR (some 108), zI 3, zR (some 98)] (zC 93 [zI 3, zR (some 101)] (gc42 h)) := by
  obtain ⟨hN0, U, T, L, R, I, J, F, D⟩ := h
  obtain rfl : hN0 = 108 := hn
  obtain ⟨T, rfl⟩ : ∃ T2 : Nat → Nat, T = zu1 (zu1 (zu1 (T2) 90 8) 98 25) 106 2 := ⟨T, (by rw [zu1_id (f := T) t90, zu1_id (f := T) t98, zu1_id (f := T) t106])⟩
  obtain ⟨L, rfl⟩ : ∃ L2 : Nat → Nat, L = zu1 (zu1 (zu1 (L2) 90 16) 98 13) 106 1 := ⟨L, (by rw [zu1_id (f := L) l90, zu1_id (f := L) l98, zu1_id (f := L) l106])⟩
  obtain ⟨R, rfl⟩ : ∃ R2 : Nat → Nat → Option Nat, R = zup (R2) 90 10 (some 98) := ⟨R, (by rw [zup_id (f := R) r90_10])⟩
  exact zGo 15 _ _ _ _ _
noncomputable def gc43 (h : zH) : zH := sI (h) 101 0 3
theorem qc_47 {h : zH} (hn : hN h = 109) (t101 : hT h 101 = 21) (l101 : hL h 101 = 3) : zC 93 [zI 3, zR (some 101)] h = some (.inl (some (zI 1)), (gc43 h)) := by
  obtain ⟨hN0, U, T, L, R, I, J, F, D⟩ := h
  obtain rfl : hN0 = 109 := hn
  obtain ⟨T, rfl⟩ : ∃ T2 : Nat → Nat, T = zu1 (T2) 101 21 := ⟨T, (by rw [zu1_id (f := T) t101])⟩
  obtain ⟨L, rfl⟩ : ∃ L2 : Nat → Nat, L = zu1 (L2) 101 3 := ⟨L, (by rw [zu1_id (f := L) l101])⟩
  exact zGo 14 _ _ _ _ _
theorem qc_48 {h : zH} (hn : hN h = 109) (t108 : hT h 108 = 2) (l108 : hL h 108 = 1) : zY 92 141 [some (zR (some 90)), some (zR (some 3)), some (zR (some 101)), some (zI 3)] [zI 1, zR (some 101), zR (some 108), zR (some 108), zI 3, zR (some 98)] h = zBack zY 92 141 144 [some (zR (some 90)), some (zR (some 3)), some (zR (some 101)), some (zI 3)] [zR (some 108), zI 3, zR (some 98)] (zC 13 [zR (some 108), zR (some 101), zI 1] h) := by
  obtain ⟨hN0, U, T, L, R, I, J, F, D⟩ := h
  obtain rfl : hN0 = 109 := hn
  obtain ⟨T, rfl⟩ : ∃ T2 : Nat → Nat, T = zu1 (T2) 108 2 := ⟨T, (by rw [zu1_id (f := T) t108])⟩
  obtain ⟨L, rfl⟩ : ∃ L2 : Nat → Nat, L = zu1 (L2) 108 1 := ⟨L, (by rw [zu1_id (f := L) l108])⟩
  exact zGo 1 _ _ _ _ _
noncomputable def gc44 (h : zH) : zH := hNew (sR (h) 98 3 (some 108)) 2 1
theorem qc_49 {h : zH} (hn : hN h = 110) (t90 : hT h 90 = 8) (l90 : hL h 90 = 16) (t98 : hT h 98 = 25) (l98 : hL h 98 = 13) (t108 : hT h 108 = 2) (l108 : hL h 108 = 1) (r90_10 : hR h 90 10 = some 98) : zY 92 144 [some (zR (some 90)), some (zR (some 3)), some (zR (some 101)), some (zI 3)] [zR (some 108), zI 3, zR (some 98)] h = zBack zY 92 138 141 [some (zR (some 90)), some (zR (some 3)), some (zR (some 101)), some (zI 4)] [zR (some 101), zR (some 110), zR (some 110), zI 4, zR (some 98)] (zC 93 [zI 4, zR (some 101)] (gc44 h)) := by
  obtain ⟨hN0, U, T, L, R, I, J, F, D⟩ := h
  obtain rfl : hN0 = 110 := hn
  obtain ⟨T, rfl⟩ : ∃ T2 : Nat → Nat, T = zu1 (zu1 (zu1 (T2) 90 8) 98 25) 108 2 := ⟨T, (by rw [zu1_id (f := T) t90, zu1_id (f := T) t98, zu1_id (f := T) t108])⟩
  obtain ⟨L, rfl⟩ : ∃ L2 : Nat → Nat, L = zu1 (zu1 (zu1 (L2) 90 16) 98 13) 108 1 := ⟨L, (by rw [zu1_id (f := L) l90, zu1_id (f := L) l98, zu1_id (f := L) l108])⟩
  obtain ⟨R, rfl⟩ : ∃ R2 : Nat → Nat → Option Nat, R = zup (R2) 90 10 (some 98) := ⟨R, (by rw [zup_id (f := R) r90_10])⟩
  exact zGo 15 _ _ _ _ _
noncomputable def gc45 (h : zH) : zH := sI (h) 101 0 4
theorem qc_50 {h : zH} (hn : hN h = 111) (t101 : hT h 101 = 21) (l101 : hL h 101 = 3) : zC 93 [zI 4, zR (some 101)] h = some (.inl (some (zI 1)), (gc45 h)) := by
  obtain ⟨hN0, U, T, L, R, I, J, F, D⟩ := h
  obtain rfl : hN0 = 111 := hn
  obtain ⟨T, rfl⟩ : ∃ T2 : Nat → Nat, T = zu1 (T2) 101 21 := ⟨T, (by rw [zu1_id (f := T) t101])⟩
  obtain ⟨L, rfl⟩ : ∃ L2 : Nat → Nat, L = zu1 (L2) 101 3 := ⟨L, (by rw [zu1_id (f := L) l101])⟩
  exact zGo 14 _ _ _ _ _
theorem qc_51 {h : zH} (hn : hN h = 111) (t110 : hT h 110 = 2) (l110 : hL h 110 = 1) : zY 92 141 [some (zR (some 90)), some (zR (some 3)), some (zR (some 101)), some (zI 4)] [zI 1, zR (some 101), zR (some 110), zR (some 110), zI 4, zR (some 98)] h = zBack zY 92 141 144 [some (zR (some 90)), some (zR (some 3)), some (zR (some 101)), some (zI 4)] [zR (some 110), zI 4, zR (some 98)] (zC 13 [zR (some 110), zR (some 101), zI 1] h) := by
  obtain ⟨hN0, U, T, L, R, I, J, F, D⟩ := h
  obtain rfl : hN0 = 111 := hn
  obtain ⟨T, rfl⟩ : ∃ T2 : Nat → Nat, T = zu1 (T2) 110 2 := ⟨T, (by rw [zu1_id (f := T) t110])⟩
  obtain ⟨L, rfl⟩ : ∃ L2 : Nat → Nat, L = zu1 (L2) 110 1 := ⟨L, (by rw [zu1_id (f := L) l110])⟩
  exact zGo 1 _ _ _ _ _
noncomputable def gc46 (h : zH) : zH := hNew (sR (h) 98 4 (some 110)) 2 1
theorem qc_52 {h : zH} (hn : hN h = 112) (t90 : hT h 90 = 8) (l90 : hL h 90 = 16) (t98 : hT h 98 = 25) (l98 : hL h 98 = 13) (t110 : hT h 110 = 2) (l110 : hL h 110 = 1) (r90_10 : hR h 90 10 = some 98) : zY 92 144 [some (zR (some 90)), some (zR (some 3)), some (zR (some 101)), some (zI 4)] [zR (some 110), zI 4, zR (some 98)] h = zBack zY 92 138 141 [some (zR (some 90)), some (zR (some 3)), some (zR (some 101)), some (zI 5)] [zR (some 101), zR (some 112), zR (some 112), zI 5, zR (some 98)] (zC 93 [zI 5, zR (some 101)] (gc46 h)) := by
  obtain ⟨hN0, U, T, L, R, I, J, F, D⟩ := h
  obtain rfl : hN0 = 112 := hn
  obtain ⟨T, rfl⟩ : ∃ T2 : Nat → Nat, T = zu1 (zu1 (zu1 (T2) 90 8) 98 25) 110 2 := ⟨T, (by rw [zu1_id (f := T) t90, zu1_id (f := T) t98, zu1_id (f := T) t110])⟩
  obtain ⟨L, rfl⟩ : ∃ L2 : Nat → Nat, L = zu1 (zu1 (zu1 (L2) 90 16) 98 13) 110 1 := ⟨L, (by rw [zu1_id (f := L) l90, zu1_id (f := L) l98, zu1_id (f := L) l110])⟩
  obtain ⟨R, rfl⟩ : ∃ R2 : Nat → Nat → Option Nat, R = zup (R2) 90 10 (some 98) := ⟨R, (by rw [zup_id (f := R) r90_10])⟩
  exact zGo 15 _ _ _ _ _
noncomputable def gc47 (h : zH) : zH := sI (h) 101 0 5
theorem qc_53 {h : zH} (hn : hN h = 113) (t101 : hT h 101 = 21) (l101 : hL h 101 = 3) : zC 93 [zI 5, zR (some 101)] h = some (.inl (some (zI 1)), (gc47 h)) := by
  obtain ⟨hN0, U, T, L, R, I, J, F, D⟩ := h
  obtain rfl : hN0 = 113 := hn
  obtain ⟨T, rfl⟩ : ∃ T2 : Nat → Nat, T = zu1 (T2) 101 21 := ⟨T, (by rw [zu1_id (f := T) t101])⟩
  obtain ⟨L, rfl⟩ : ∃ L2 : Nat → Nat, L = zu1 (L2) 101 3 := ⟨L, (by rw [zu1_id (f := L) l101])⟩
  exact zGo 14 _ _ _ _ _
theorem qc_54 {h : zH} (hn : hN h = 113) (t112 : hT h 112 = 2) (l112 : hL h 112 = 1) : zY 92 141 [some (zR (some 90)), some (zR (some 3)), some (zR (some 101)), some (zI 5)] [zI 1, zR (some 101), zR (some 112), zR (some 112), zI 5, zR (some 98)] h = zBack zY 92 141 144 [some (zR (some 90)), some (zR (some 3)), some (zR (some 101)), some (zI 5)] [zR (some 112), zI 5, zR (some 98)] (zC 13 [zR (some 112), zR (some 101), zI 1] h) := by
  obtain ⟨hN0, U, T, L, R, I, J, F, D⟩ := h
  obtain rfl : hN0 = 113 := hn
  obtain ⟨T, rfl⟩ : ∃ T2 : Nat → Nat, T = zu1 (T2) 112 2 := ⟨T, (by rw [zu1_id (f := T) t112])⟩
  obtain ⟨L, rfl⟩ : ∃ L2 : Nat → Nat, L = zu1 (L2) 112 1 := ⟨L, (by rw [zu1_id (f := L) l112])⟩
  exact zGo 1 _ _ _ _ _
noncomputable def gc48 (h : zH) : zH := hNew (sR (h) 98 5 (some 112)) 2 1
theorem qc_55 {h : zH} (hn : hN h = 114) (t90 : hT h 90 = 8) (l90 : hL h 90 = 16) (t98 : hT h 98 = 25) (l98 : hL h 98 = 13) (t112 : hT h 112 = 2) (l112 : hL h 112 = 1) (r90_10 : hR h 90 10 = some 98) : zY 92 144 [some (zR (some 90)), some (zR (some 3)), some (zR (some 101)), some (zI 5)] [zR (some 112), zI 5, zR (some 98)] h = zBack zY 92 138 141 [some (zR (some 90)), some (zR (some 3)), some (zR (some 101)), some (zI 6)] [zR (some 101), zR (some 114), zR (some 114), zI 6, zR (some 98)] (zC 93 [zI 6, zR (some 101)] (gc48 h)) := by
  obtain ⟨hN0, U, T, L, R, I, J, F, D⟩ := h
  obtain rfl : hN0 = 114 := hn
  obtain ⟨T, rfl⟩ : ∃ T2 : Nat → Nat, T = zu1 (zu1 (zu1 (T2) 90 8) 98 25) 112 2 := ⟨T, (by rw [zu1_id (f := T) t90, zu1_id (f := T) t98, zu1_id (f := T) t112])⟩
  obtain ⟨L, rfl⟩ : ∃ L2 : Nat → Nat, L = zu1 (zu1 (zu1 (L2) 90 16) 98 13) 112 1 := ⟨L, (by rw [zu1_id (f := L) l90, zu1_id (f := L) l98, zu1_id (f := L) l112])⟩
  obtain ⟨R, rfl⟩ : ∃ R2 : Nat → Nat → Option Nat, R = zup (R2) 90 10 (some 98) := ⟨R, (by rw [zup_id (f := R) r90_10])⟩
  exact zGo 15 _ _ _ _ _
noncomputable def gc49 (h : zH) : zH := sI (h) 101 0 6
theorem qc_56 {h : zH} (hn : hN h = 115) (t101 : hT h 101 = 21) (l101 : hL h 101 = 3) : zC 93 [zI 6, zR (some 101)] h = some (.inl (some (zI 1)), (gc49 h)) := by
  obtain ⟨hN0, U, T, L, R, I, J, F, D⟩ := h
  obtain rfl : hN0 = 115 := hn
  obtain ⟨T, rfl⟩ : ∃ T2 : Nat → Nat, T = zu1 (T2) 101 21 := ⟨T, (by rw [zu1_id (f := T) t101])⟩
  obtain ⟨L, rfl⟩ : ∃ L2 : Nat → Nat, L = zu1 (L2) 101 3 := ⟨L, (by rw [zu1_id (f := L) l101])⟩
  exact zGo 14 _ _ _ _ _
theorem qc_57 {h : zH} (hn : hN h = 115) (t114 : hT h 114 = 2) (l114 : hL h 114 = 1) : zY 92 141 [some (zR (some 90)), some (zR (some 3)), some (zR (some 101)), some (zI 6)] [zI 1, zR (some 101), zR (some 114), zR (some 114), zI 6, zR (some 98)] h = zBack zY 92 141 144 [some (zR (some 90)), some (zR (some 3)), some (zR (some 101)), some (zI 6)] [zR (some 114), zI 6, zR (some 98)] (zC 13 [zR (some 114), zR (some 101), zI 1] h) := by
  obtain ⟨hN0, U, T, L, R, I, J, F, D⟩ := h
  obtain rfl : hN0 = 115 := hn
  obtain ⟨T, rfl⟩ : ∃ T2 : Nat → Nat, T = zu1 (T2) 114 2 := ⟨T, (by rw [zu1_id (f := T) t114])⟩
  obtain ⟨L, rfl⟩ : ∃ L2 : Nat → Nat, L = zu1 (L2) 114 1 := ⟨L, (by rw [zu1_id (f := L) l114])⟩
  exact zGo 1 _ _ _ _ _
noncomputable def gc50 (h : zH) : zH := hNew (sR (h) 98 6 (some 114)) 2 1
theorem qc_58 {h : zH} (hn : hN h = 116) (t90 : hT h 90 = 8) (l90 : hL h 90 = 16) (t98 : hT h 98 = 25) (l98 : hL h 98 = 13) (t114 : hT h 114 = 2) (l114 : hL h 114 = 1) (r90_10 : hR h 90 10 = some 98) : zY 92 144 [some (zR (some 90)), some (zR (some 3)), some (zR (some 101)), some (zI 6)] [zR (some 114), zI 6, zR (some 98)] h = zBack zY 92 138 141 [some (zR (some 90)), some (zR (some 3)), some (zR (some 101)), some (zI 7)] [zR (some 101), zR (some 116), zR (some 116), zI 7, zR (some 98)] (zC 93 [zI 7, zR (some 101)] (gc50 h)) := by
  obtain ⟨hN0, U, T, L, R, I, J, F, D⟩ := h
  obtain rfl : hN0 = 116 := hn
  obtain ⟨T, rfl⟩ : ∃ T2 : Nat → Nat, T = zu1 (zu1 (zu1 (T2) 90 8) 98 25) 114 2 := ⟨T, (by rw [zu1_id (f := T) t90, zu1_id (f := T) t98, zu1_id (f := T) t114])⟩
  obtain ⟨L, rfl⟩ : ∃ L2 : Nat → Nat, L = zu1 (zu1 (zu1 (L2) 90 16) 98 13) 114 1 := ⟨L, (by rw [zu1_id (f := L) l90, zu1_id (f := L) l98, zu1_id (f := L) l114])⟩
  obtain ⟨R, rfl⟩ : ∃ R2 : Nat → Nat → Option Nat, R = zup (R2) 90 10 (some 98) := ⟨R, (by rw [zup_id (f := R) r90_10])⟩
  exact zGo 15 _ _ _ _ _
noncomputable def gc51 (h : zH) : zH := sI (h) 101 0 7
theorem qc_59 {h : zH} (hn : hN h = 117) (t101 : hT h 101 = 21) (l101 : hL h 101 = 3) : zC 93 [zI 7, zR (some 101)] h = zY 93 51 [some (zI 7), some (zR (some 101)), some (zI 1)] [zI 4, zI 1, zR (some 101)] (gc51 h) := by
  obtain ⟨hN0, U, T, L, R, I, J, F, D⟩ := h
  obtain rfl : hN0 = 117 := hn
  obtain ⟨T, rfl⟩ : ∃ T2 : Nat → Nat, T = zu1 (T2) 101 21 := ⟨T, (by rw [zu1_id (f := T) t101])⟩
  obtain ⟨L, rfl⟩ : ∃ L2 : Nat → Nat, L = zu1 (L2) 101 3 := ⟨L, (by rw [zu1_id (f := L) l101])⟩
  exact zGo 24 _ _ _ _ _
noncomputable def gc52 (h : zH) : zH := sI (sI (h) 101 1 4) 101 2 1
theorem qc_60 {h : zH} (hn : hN h = 117) (t101 : hT h 101 = 21) (l101 : hL h 101 = 3) : zY 93 51 [some (zI 7), some (zR (some 101)), some (zI 1)] [zI 4, zI 1, zR (some 101)] h = some (.inl (some (zI 3)), (gc52 h)) := by
  obtain ⟨hN0, U, T, L, R, I, J, F, D⟩ := h
  obtain rfl : hN0 = 117 := hn
  obtain ⟨T, rfl⟩ : ∃ T2 : Nat → Nat, T = zu1 (T2) 101 21 := ⟨T, (by rw [zu1_id (f := T) t101])⟩
  obtain ⟨L, rfl⟩ : ∃ L2 : Nat → Nat, L = zu1 (L2) 101 3 := ⟨L, (by rw [zu1_id (f := L) l101])⟩
  exact zGo 15 _ _ _ _ _
theorem qc_61 {h : zH} (hn : hN h = 117) (t116 : hT h 116 = 2) (l116 : hL h 116 = 1) : zY 92 141 [some (zR (some 90)), some (zR (some 3)), some (zR (some 101)), some (zI 7)] [zI 3, zR (some 101), zR (some 116), zR (some 116), zI 7, zR (some 98)] h = zBack zY 92 141 144 [some (zR (some 90)), some (zR (some 3)), some (zR (some 101)), some (zI 7)] [zR (some 116), zI 7, zR (some 98)] (zC 13 [zR (some 116), zR (some 101), zI 3] h) := by
  obtain ⟨hN0, U, T, L, R, I, J, F, D⟩ := h
  obtain rfl : hN0 = 117 := hn
  obtain ⟨T, rfl⟩ : ∃ T2 : Nat → Nat, T = zu1 (T2) 116 2 := ⟨T, (by rw [zu1_id (f := T) t116])⟩
  obtain ⟨L, rfl⟩ : ∃ L2 : Nat → Nat, L = zu1 (L2) 116 1 := ⟨L, (by rw [zu1_id (f := L) l116])⟩
  exact zGo 1 _ _ _ _ _
noncomputable def gc53 (h : zH) : zH := hNew (sR (h) 98 7 (some 116)) 2 1
theorem qc_62 {h : zH} (hn : hN h = 118) (t90 : hT h 90 = 8) (l90 : hL h 90 = 16) (t98 : hT h 98 = 25) (l98 : hL h 98 = 13) (t116 : hT h 116 = 2) (l116 : hL h 116 = 1) (r90_10 : hR h 90 10 = some 98) : zY 92 144 [some (zR (some 90)), some (zR (some 3)), some (zR (some 101)), some (zI 7)] [zR (some 116), zI 7, zR (some 98)] h = zBack zY 92 138 141 [some (zR (some 90)), some (zR (some 3)), some (zR (some 101)), some (zI 8)] [zR (some 101), zR (some 118), zR (some 118), zI 8, zR (some 98)] (zC 93 [zI 8, zR (some 101)] (gc53 h)) := by
  obtain ⟨hN0, U, T, L, R, I, J, F, D⟩ := h
  obtain rfl : hN0 = 118 := hn
  obtain ⟨T, rfl⟩ : ∃ T2 : Nat → Nat, T = zu1 (zu1 (zu1 (T2) 90 8) 98 25) 116 2 := ⟨T, (by rw [zu1_id (f := T) t90, zu1_id (f := T) t98, zu1_id (f := T) t116])⟩
  obtain ⟨L, rfl⟩ : ∃ L2 : Nat → Nat, L = zu1 (zu1 (zu1 (L2) 90 16) 98 13) 116 1 := ⟨L, (by rw [zu1_id (f := L) l90, zu1_id (f := L) l98, zu1_id (f := L) l116])⟩
  obtain ⟨R, rfl⟩ : ∃ R2 : Nat → Nat → Option Nat, R = zup (R2) 90 10 (some 98) := ⟨R, (by rw [zup_id (f := R) r90_10])⟩
  exact zGo 15 _ _ _ _ _
noncomputable def gc54 (h : zH) : zH := sI (h) 101 0 7
theorem qc_63 {h : zH} (hn : hN h = 119) (t101 : hT h 101 = 21) (l101 : hL h 101 = 3) : zC 93 [zI 8, zR (some 101)] h = zY 93 51 [some (zI 8), some (zR (some 101)), some (zI 1)] [zI 4, zI 1, zR (some 101)] (gc54 h) := by
  obtain ⟨hN0, U, T, L, R, I, J, F, D⟩ := h
  obtain rfl : hN0 = 119 := hn
  obtain ⟨T, rfl⟩ : ∃ T2 : Nat → Nat, T = zu1 (T2) 101 21 := ⟨T, (by rw [zu1_id (f := T) t101])⟩
  obtain ⟨L, rfl⟩ : ∃ L2 : Nat → Nat, L = zu1 (L2) 101 3 := ⟨L, (by rw [zu1_id (f := L) l101])⟩
  exact zGo 24 _ _ _ _ _
noncomputable def gc55 (h : zH) : zH := sI (sI (h) 101 1 5) 101 2 1
theorem qc_64 {h : zH} (hn : hN h = 119) (t101 : hT h 101 = 21) (l101 : hL h 101 = 3) : zY 93 51 [some (zI 8), some (zR (some 101)), some (zI 1)] [zI 4, zI 1, zR (some 101)] h = some (.inl (some (zI 3)), (gc55 h)) := by
  obtain ⟨hN0, U, T, L, R, I, J, F, D⟩ := h
  obtain rfl : hN0 = 119 := hn
  obtain ⟨T, rfl⟩ : ∃ T2 : Nat → Nat, T = zu1 (T2) 101 21 := ⟨T, (by rw [zu1_id (f := T) t101])⟩
  obtain ⟨L, rfl⟩ : ∃ L2 : Nat → Nat, L = zu1 (L2) 101 3 := ⟨L, (by rw [zu1_id (f := L) l101])⟩
  exact zGo 15 _ _ _ _ _
theorem qc_65 {h : zH} (hn : hN h = 119) (t118 : hT h 118 = 2) (l118 : hL h 118 = 1) : zY 92 141 [some (zR (some 90)), some (zR (some 3)), some (zR (some 101)), some (zI 8)] [zI 3, zR (some 101), zR (some 118), zR (some 118), zI 8, zR (some 98)] h = zBack zY 92 141 144 [some (zR (some 90)), some (zR (some 3)), some (zR (some 101)), some (zI 8)] [zR (some 118), zI 8, zR (some 98)] (zC 13 [zR (some 118), zR (some 101), zI 3] h) := by
  obtain ⟨hN0, U, T, L, R, I, J, F, D⟩ := h
  obtain rfl : hN0 = 119 := hn
  obtain ⟨T, rfl⟩ : ∃ T2 : Nat → Nat, T = zu1 (T2) 118 2 := ⟨T, (by rw [zu1_id (f := T) t118])⟩
  obtain ⟨L, rfl⟩ : ∃ L2 : Nat → Nat, L = zu1 (L2) 118 1 := ⟨L, (by rw [zu1_id (f := L) l118])⟩
  exact zGo 1 _ _ _ _ _
noncomputable def gc56 (h : zH) : zH := hNew (sR (h) 98 8 (some 118)) 2 1
theorem qc_66 {h : zH} (hn : hN h = 120) (t90 : hT h 90 = 8) (l90 : hL h 90 = 16) (t98 : hT h 98 = 25) (l98 : hL h 98 = 13) (t118 : hT h 118 = 2) (l118 : hL h 118 = 1) (r90_10 : hR h 90 10 = some 98) : zY 92 144 [some (zR (some 90)), some (zR (some 3)), some (zR (some 101)), some (zI 8)] [zR (some 118), zI 8, zR (some 98)] h = zBack zY 92 138 141 [some (zR (some 90)), some (zR (some 3)), some (zR (some 101)), some (zI 9)] [zR (some 101), zR (some 120), zR (some 120), zI 9, zR (some 98)] (zC 93 [zI 9, zR (some 101)] (gc56 h)) := by
  obtain ⟨hN0, U, T, L, R, I, J, F, D⟩ := h
  obtain rfl : hN0 = 120 := hn
  obtain ⟨T, rfl⟩ : ∃ T2 : Nat → Nat, T = zu1 (zu1 (zu1 (T2) 90 8) 98 25) 118 2 := ⟨T, (by rw [zu1_id (f := T) t90, zu1_id (f := T) t98, zu1_id (f := T) t118])⟩
  obtain ⟨L, rfl⟩ : ∃ L2 : Nat → Nat, L = zu1 (zu1 (zu1 (L2) 90 16) 98 13) 118 1 := ⟨L, (by rw [zu1_id (f := L) l90, zu1_id (f := L) l98, zu1_id (f := L) l118])⟩
  obtain ⟨R, rfl⟩ : ∃ R2 : Nat → Nat → Option Nat, R = zup (R2) 90 10 (some 98) := ⟨R, (by rw [zup_id (f := R) r90_10])⟩
  exact zGo 15 _ _ _ _ _
noncomputable def gc57 (h : zH) : zH := sI (h) 101 0 7
theorem qc_67 {h : zH} (hn : hN h = 121) (t101 : hT h 101 = 21) (l101 : hL h 101 = 3) : zC 93 [zI 9, zR (some 101)] h = zY 93 51 [some (zI 9), some (zR (some 101)), some (zI 1)] [zI 4, zI 1, zR (some 101)] (gc57 h) := by
  obtain ⟨hN0, U, T, L, R, I, J, F, D⟩ := h
  obtain rfl : hN0 = 121 := hn
  obtain ⟨T, rfl⟩ : ∃ T2 : Nat → Nat, T = zu1 (T2) 101 21 := ⟨T, (by rw [zu1_id (f := T) t101])⟩
  obtain ⟨L, rfl⟩ : ∃ L2 : Nat → Nat, L = zu1 (L2) 101 3 := ⟨L, (by rw [zu1_id (f := L) l101])⟩
  exact zGo 24 _ _ _ _ _
noncomputable def gc58 (h : zH) : zH := sI (sI (h) 101 1 6) 101 2 1
theorem qc_68 {h : zH} (hn : hN h = 121) (t101 : hT h 101 = 21) (l101 : hL h 101 = 3) : zY 93 51 [some (zI 9), some (zR (some 101)), some (zI 1)] [zI 4, zI 1, zR (some 101)] h = some (.inl (some (zI 3)), (gc58 h)) := by
  obtain ⟨hN0, U, T, L, R, I, J, F, D⟩ := h
  obtain rfl : hN0 = 121 := hn
  obtain ⟨T, rfl⟩ : ∃ T2 : Nat → Nat, T = zu1 (T2) 101 21 := ⟨T, (by rw [zu1_id (f := T) t101])⟩
  obtain ⟨L, rfl⟩ : ∃ L2 : Nat → Nat, L = zu1 (L2) 101 3 := ⟨L, (by rw [zu1_id (f := L) l101])⟩
  exact zGo 15 _ _ _ _ _
theorem qc_69 {h : zH} (hn : hN h = 121) (t120 : hT h 120 = 2) (l120 : hL h 120 = 1) : zY 92 141 [some (zR (some 90)), some (zR (some 3)), some (zR (some 101)), some (zI 9)] [zI 3, zR (some 101), zR (some 120), zR (some 120), zI 9, zR (some 98)] h = zBack zY 92 141 144 [some (zR (some 90)), some (zR (some 3)), some (zR (some 101)), some (zI 9)] [zR (some 120), zI 9, zR (some 98)] (zC 13 [zR (some 120), zR (some 101), zI 3] h) := by
  obtain ⟨hN0, U, T, L, R, I, J, F, D⟩ := h
  obtain rfl : hN0 = 121 := hn
  obtain ⟨T, rfl⟩ : ∃ T2 : Nat → Nat, T = zu1 (T2) 120 2 := ⟨T, (by rw [zu1_id (f := T) t120])⟩
  obtain ⟨L, rfl⟩ : ∃ L2 : Nat → Nat, L = zu1 (L2) 120 1 := ⟨L, (by rw [zu1_id (f := L) l120])⟩
  exact zGo 1 _ _ _ _ _
noncomputable def gc59 (h : zH) : zH := hNew (sR (h) 98 9 (some 120)) 2 1
theorem qc_70 {h : zH} (hn : hN h = 122) (t90 : hT h 90 = 8) (l90 : hL h 90 = 16) (t98 : hT h 98 = 25) (l98 : hL h 98 = 13) (t120 : hT h 120 = 2) (l120 : hL h 120 = 1) (r90_10 : hR h 90 10 = some 98) : zY 92 144 [some (zR (some 90)), some (zR (some 3)), some (zR (some 101)), some (zI 9)] [zR (some 120), zI 9, zR (some 98)] h = zBack zY 92 138 141 [some (zR (some 90)), some (zR (some 3)), some (zR (some 101)), some (zI 10)] [zR (some 101), zR (some 122), zR (some 122), zI 10, zR (some 98)] (zC 93 [zI 10, zR (some 101)] (gc59 h)) := by
  obtain ⟨hN0, U, T, L, R, I, J, F, D⟩ := h
  obtain rfl : hN0 = 122 := hn
  obtain ⟨T, rfl⟩ : ∃ T2 : Nat → Nat, T = zu1 (zu1 (zu1 (T2) 90 8) 98 25) 120 2 := ⟨T, (by rw [zu1_id (f := T) t90, zu1_id (f := T) t98, zu1_id (f := T) t120])⟩
  obtain ⟨L, rfl⟩ : ∃ L2 : Nat → Nat, L = zu1 (zu1 (zu1 (L2) 90 16) 98 13) 120 1 := ⟨L, (by rw [zu1_id (f := L) l90, zu1_id (f := L) l98, zu1_id (f := L) l120])⟩
  obtain ⟨R, rfl⟩ : ∃ R2 : Nat → Nat → Option Nat, R = zup (R2) 90 10 (some 98) := ⟨R, (by rw [zup_id (f := R) r90_10])⟩
  exact zGo 15 _ _ _ _ _
noncomputable def gc60 (h : zH) : zH := sI (h) 101 0 8
theorem qc_71 {h : zH} (hn : hN h = 123) (t101 : hT h 101 = 21) (l101 : hL h 101 = 3) : zC 93 [zI 10, zR (some 101)] h = zY 93 53 [some (zI 10), some (zR (some 101)), some (zI 0)] [zI 14, zI 1, zR (some 101)] (gc60 h) := by
  obtain ⟨hN0, U, T, L, R, I, J, F, D⟩ := h
  obtain rfl : hN0 = 123 := hn
  obtain ⟨T, rfl⟩ : ∃ T2 : Nat → Nat, T = zu1 (T2) 101 21 := ⟨T, (by rw [zu1_id (f := T) t101])⟩
  obtain ⟨L, rfl⟩ : ∃ L2 : Nat → Nat, L = zu1 (L2) 101 3 := ⟨L, (by rw [zu1_id (f := L) l101])⟩
  exact zGo 24 _ _ _ _ _
noncomputable def gc61 (h : zH) : zH := sI (sI (h) 101 1 4) 101 2 1
theorem qc_72 {h : zH} (hn : hN h = 123) (t101 : hT h 101 = 21) (l101 : hL h 101 = 3) : zY 93 53 [some (zI 10), some (zR (some 101)), some (zI 0)] [zI 14, zI 1, zR (some 101)] h = some (.inl (some (zI 3)), (gc61 h)) := by
  obtain ⟨hN0, U, T, L, R, I, J, F, D⟩ := h
  obtain rfl : hN0 = 123 := hn
  obtain ⟨T, rfl⟩ : ∃ T2 : Nat → Nat, T = zu1 (T2) 101 21 := ⟨T, (by rw [zu1_id (f := T) t101])⟩
  obtain ⟨L, rfl⟩ : ∃ L2 : Nat → Nat, L = zu1 (L2) 101 3 := ⟨L, (by rw [zu1_id (f := L) l101])⟩
  exact zGo 12 _ _ _ _ _
theorem qc_73 {h : zH} (hn : hN h = 123) (t122 : hT h 122 = 2) (l122 : hL h 122 = 1) : zY 92 141 [some (zR (some 90)), some (zR (some 3)), some (zR (some 101)), some (zI 10)] [zI 3, zR (some 101), zR (some 122), zR (some 122), zI 10, zR (some 98)] h = zBack zY 92 141 144 [some (zR (some 90)), some (zR (some 3)), some (zR (some 101)), some (zI 10)] [zR (some 122), zI 10, zR (some 98)] (zC 13 [zR (some 122), zR (some 101), zI 3] h) := by
  obtain ⟨hN0, U, T, L, R, I, J, F, D⟩ := h
  obtain rfl : hN0 = 123 := hn
  obtain ⟨T, rfl⟩ : ∃ T2 : Nat → Nat, T = zu1 (T2) 122 2 := ⟨T, (by rw [zu1_id (f := T) t122])⟩
  obtain ⟨L, rfl⟩ : ∃ L2 : Nat → Nat, L = zu1 (L2) 122 1 := ⟨L, (by rw [zu1_id (f := L) l122])⟩
  exact zGo 1 _ _ _ _ _
noncomputable def gc62 (h : zH) : zH := hNew (sR (h) 98 10 (some 122)) 2 1
theorem qc_74 {h : zH} (hn : hN h = 124) (t90 : hT h 90 = 8) (l90 : hL h 90 = 16) (t98 : hT h 98 = 25) (l98 : hL h 98 = 13) (t122 : hT h 122 = 2) (l122 : hL h 122 = 1) (r90_10 : hR h 90 10 = some 98) : zY 92 144 [some (zR (some 90)), some (zR (some 3)), some (zR (some 101)), some (zI 10)] [zR (some 122), zI 10, zR (some 98)] h = zBack zY 92 138 141 [some (zR (some 90)), some (zR (some 3)), some (zR (some 101)), some (zI 11)] [zR (some 101), zR (some 124), zR (some 124), zI 11, zR (some 98)] (zC 93 [zI 11, zR (some 101)] (gc62 h)) := by
  obtain ⟨hN0, U, T, L, R, I, J, F, D⟩ := h
  obtain rfl : hN0 = 124 := hn
  obtain ⟨T, rfl⟩ : ∃ T2 : Nat → Nat, T = zu1 (zu1 (zu1 (T2) 90 8) 98 25) 122 2 := ⟨T, (by rw [zu1_id (f := T) t90, zu1_id (f := T) t98, zu1_id (f := T) t122])⟩
  obtain ⟨L, rfl⟩ : ∃ L2 : Nat → Nat, L = zu1 (zu1 (zu1 (L2) 90 16) 98 13) 122 1 := ⟨L, (by rw [zu1_id (f := L) l90, zu1_id (f := L) l98, zu1_id (f := L) l122])⟩
  obtain ⟨R, rfl⟩ : ∃ R2 : Nat → Nat → Option Nat, R = zup (R2) 90 10 (some 98) := ⟨R, (by rw [zup_id (f := R) r90_10])⟩
  exact zGo 15 _ _ _ _ _
noncomputable def gc63 (h : zH) : zH := sI (h) 101 0 8
theorem qc_75 {h : zH} (hn : hN h = 125) (t101 : hT h 101 = 21) (l101 : hL h 101 = 3) : zC 93 [zI 11, zR (some 101)] h = zY 93 53 [some (zI 11), some (zR (some 101)), some (zI 0)] [zI 15, zI 1, zR (some 101)] (gc63 h) := by
  obtain ⟨hN0, U, T, L, R, I, J, F, D⟩ := h
  obtain rfl : hN0 = 125 := hn
  obtain ⟨T, rfl⟩ : ∃ T2 : Nat → Nat, T = zu1 (T2) 101 21 := ⟨T, (by rw [zu1_id (f := T) t101])⟩
  obtain ⟨L, rfl⟩ : ∃ L2 : Nat → Nat, L = zu1 (L2) 101 3 := ⟨L, (by rw [zu1_id (f := L) l101])⟩
  exact zGo 24 _ _ _ _ _
noncomputable def gc64 (h : zH) : zH := sI (sI (h) 101 1 5) 101 2 1
theorem qc_76 {h : zH} (hn : hN h = 125) (t101 : hT h 101 = 21) (l101 : hL h 101 = 3) : zY 93 53 [some (zI 11), some (zR (some 101)), some (zI 0)] [zI 15, zI 1, zR (some 101)] h = some (.inl (some (zI 3)), (gc64 h)) := by
  obtain ⟨hN0, U, T, L, R, I, J, F, D⟩ := h
  obtain rfl : hN0 = 125 := hn
  obtain ⟨T, rfl⟩ : ∃ T2 : Nat → Nat, T = zu1 (T2) 101 21 := ⟨T, (by rw [zu1_id (f := T) t101])⟩
  obtain ⟨L, rfl⟩ : ∃ L2 : Nat → Nat, L = zu1 (L2) 101 3 := ⟨L, (by rw [zu1_id (f := L) l101])⟩
  exact zGo 12 _ _ _ _ _
theorem qc_77 {h : zH} (hn : hN h = 125) (t124 : hT h 124 = 2) (l124 : hL h 124 = 1) : zY 92 141 [some (zR (some 90)), some (zR (some 3)), some (zR (some 101)), some (zI 11)] [zI 3, zR (some 101), zR (some 124), zR (some 124), zI 11, zR (some 98)] h = zBack zY 92 141 144 [some (zR (some 90)), some (zR (some 3)), some (zR (some 101)), some (zI 11)] [zR (some 124), zI 11, zR (some 98)] (zC 13 [zR (some 124), zR (some 101), zI 3] h) := by
  obtain ⟨hN0, U, T, L, R, I, J, F, D⟩ := h
  obtain rfl : hN0 = 125 := hn
  obtain ⟨T, rfl⟩ : ∃ T2 : Nat → Nat, T = zu1 (T2) 124 2 := ⟨T, (by rw [zu1_id (f := T) t124])⟩
  obtain ⟨L, rfl⟩ : ∃ L2 : Nat → Nat, L = zu1 (L2) 124 1 := ⟨L, (by rw [zu1_id (f := L) l124])⟩
  exact zGo 1 _ _ _ _ _
noncomputable def gc65 (h : zH) : zH := hNew (sR (h) 98 11 (some 124)) 2 1
theorem qc_78 {h : zH} (hn : hN h = 126) (t90 : hT h 90 = 8) (l90 : hL h 90 = 16) (t98 : hT h 98 = 25) (l98 : hL h 98 = 13) (t124 : hT h 124 = 2) (l124 : hL h 124 = 1) (r90_10 : hR h 90 10 = some 98) : zY 92 144 [some (zR (some 90)), some (zR (some 3)), some (zR (some 101)), some (zI 11)] [zR (some 124), zI 11, zR (some 98)] h = zBack zY 92 138 141 [some (zR (some 90)), some (zR (some 3)), some (zR (some 101)), some (zI 12)] [zR (some 101), zR (some 126), zR (some 126), zI 12, zR (some 98)] (zC 93 [zI 12, zR (some 101)] (gc65 h)) := by
  obtain ⟨hN0, U, T, L, R, I, J, F, D⟩ := h
  obtain rfl : hN0 = 126 := hn
  obtain ⟨T, rfl⟩ : ∃ T2 : Nat → Nat, T = zu1 (zu1 (zu1 (T2) 90 8) 98 25) 124 2 := ⟨T, (by rw [zu1_id (f := T) t90, zu1_id (f := T) t98, zu1_id (f := T) t124])⟩
  obtain ⟨L, rfl⟩ : ∃ L2 : Nat → Nat, L = zu1 (zu1 (zu1 (L2) 90 16) 98 13) 124 1 := ⟨L, (by rw [zu1_id (f := L) l90, zu1_id (f := L) l98, zu1_id (f := L) l124])⟩
  obtain ⟨R, rfl⟩ : ∃ R2 : Nat → Nat → Option Nat, R = zup (R2) 90 10 (some 98) := ⟨R, (by rw [zup_id (f := R) r90_10])⟩
  exact zGo 15 _ _ _ _ _
noncomputable def gc66 (h : zH) : zH := sI (h) 101 0 8
theorem qc_79 {h : zH} (hn : hN h = 127) (t101 : hT h 101 = 21) (l101 : hL h 101 = 3) : zC 93 [zI 12, zR (some 101)] h = zY 93 53 [some (zI 12), some (zR (some 101)), some (zI 0)] [zI 16, zI 1, zR (some 101)] (gc66 h) := by
  obtain ⟨hN0, U, T, L, R, I, J, F, D⟩ := h
  obtain rfl : hN0 = 127 := hn
  obtain ⟨T, rfl⟩ : ∃ T2 : Nat → Nat, T = zu1 (T2) 101 21 := ⟨T, (by rw [zu1_id (f := T) t101])⟩
  obtain ⟨L, rfl⟩ : ∃ L2 : Nat → Nat, L = zu1 (L2) 101 3 := ⟨L, (by rw [zu1_id (f := L) l101])⟩
  exact zGo 24 _ _ _ _ _
noncomputable def gc67 (h : zH) : zH := sI (sI (h) 101 1 6) 101 2 1
theorem qc_80 {h : zH} (hn : hN h = 127) (t101 : hT h 101 = 21) (l101 : hL h 101 = 3) : zY 93 53 [some (zI 12), some (zR (some 101)), some (zI 0)] [zI 16, zI 1, zR (some 101)] h = some (.inl (some (zI 3)), (gc67 h)) := by
  obtain ⟨hN0, U, T, L, R, I, J, F, D⟩ := h
  obtain rfl : hN0 = 127 := hn
  obtain ⟨T, rfl⟩ : ∃ T2 : Nat → Nat, T = zu1 (T2) 101 21 := ⟨T, (by rw [zu1_id (f := T) t101])⟩
  obtain ⟨L, rfl⟩ : ∃ L2 : Nat → Nat, L = zu1 (L2) 101 3 := ⟨L, (by rw [zu1_id (f := L) l101])⟩
  exact zGo 12 _ _ _ _ _
theorem qc_81 {h : zH} (hn : hN h = 127) (t126 : hT h 126 = 2) (l126 : hL h 126 = 1) : zY 92 141 [some (zR (some 90)), some (zR (some 3)), some (zR (some 101)), some (zI 12)] [zI 3, zR (some 101), zR (some 126), zR (some 126), zI 12, zR (some 98)] h = zBack zY 92 141 144 [some (zR (some 90)), some (zR (some 3)), some (zR (some 101)), some (zI 12)] [zR (some 126), zI 12, zR (some 98)] (zC 13 [zR (some 126), zR (some 101), zI 3] h) := by
  obtain ⟨hN0, U, T, L, R, I, J, F, D⟩ := h
  obtain rfl : hN0 = 127 := hn
  obtain ⟨T, rfl⟩ : ∃ T2 : Nat → Nat, T = zu1 (T2) 126 2 := ⟨T, (by rw [zu1_id (f := T) t126])⟩
  obtain ⟨L, rfl⟩ : ∃ L2 : Nat → Nat, L = zu1 (L2) 126 1 := ⟨L, (by rw [zu1_id (f := L) l126])⟩
  exact zGo 1 _ _ _ _ _
noncomputable def gc68 (h : zH) : zH := sR (h) 98 12 (some 126)
theorem qc_82 {h : zH} (hn : hN h = 128) (t98 : hT h 98 = 25) (l98 : hL h 98 = 13) (t126 : hT h 126 = 2) (l126 : hL h 126 = 1) : zY 92 144 [some (zR (some 90)), some (zR (some 3)), some (zR (some 101)), some (zI 12)] [zR (some 126), zI 12, zR (some 98)] h = some (.inl none, (gc68 h)) := by
  obtain ⟨hN0, U, T, L, R, I, J, F, D⟩ := h
  obtain rfl : hN0 = 128 := hn
  obtain ⟨T, rfl⟩ : ∃ T2 : Nat → Nat, T = zu1 (zu1 (T2) 98 25) 126 2 := ⟨T, (by rw [zu1_id (f := T) t98, zu1_id (f := T) t126])⟩
  obtain ⟨L, rfl⟩ : ∃ L2 : Nat → Nat, L = zu1 (zu1 (L2) 98 13) 126 1 := ⟨L, (by rw [zu1_id (f := L) l98, zu1_id (f := L) l126])⟩
  exact zGo 7 _ _ _ _ _
noncomputable def gc69 (h : zH) : zH := hNew (sR (h) 0 9 (some 90)) 6 10
theorem qc_83 {h : zH} (hn : hN h = 128) (t0 : hT h 0 = 11) (l0 : hL h 0 = 15) : zY 146 110 [some (zR (some 0))] [zR (some 90), zR (some 0)] h = zBack zY 146 122 125 [some (zR (some 0))] [zR (some 128), zR (some 0)] (zC 57 [zR (some 128), zR (some 90)] (gc69 h)) := by
  obtain ⟨hN0, U, T, L, R, I, J, F, D⟩ := h
  obtain rfl : hN0 = 128 := hn
  obtain ⟨T, rfl⟩ : ∃ T2 : Nat → Nat, T = zu1 (T2) 0 11 := ⟨T, (by rw [zu1_id (f := T) t0])⟩
  obtain ⟨L, rfl⟩ : ∃ L2 : Nat → Nat, L = zu1 (L2) 0 15 := ⟨L, (by rw [zu1_id (f := L) l0])⟩
  exact zGo 7 _ _ _ _ _
noncomputable def gc70 (h : zH) : zH := sR (sR (hNew (sR (hNew (sR (hNew (h) 22 1536) 128 3 (some 129)) 22 64) 128 4 (some 130)) 23 24) 128 5 (some 131)) 128 0 (some 90)
theorem qc_84 {h : zH} (hn : hN h = 129) (t128 : hT h 128 = 6) (l128 : hL h 128 = 10) : zC 57 [zR (some 128), zR (some 90)] h = some (.inl none, (gc70 h)) := by
  obtain ⟨hN0, U, T, L, R, I, J, F, D⟩ := h
  obtain rfl : hN0 = 129 := hn
  obtain ⟨T, rfl⟩ : ∃ T2 : Nat → Nat, T = zu1 (T2) 128 6 := ⟨T, (by rw [zu1_id (f := T) t128])⟩
  obtain ⟨L, rfl⟩ : ∃ L2 : Nat → Nat, L = zu1 (L2) 128 10 := ⟨L, (by rw [zu1_id (f := L) l128])⟩
  exact zGo 18 _ _ _ _ _
noncomputable def gc71 (h : zH) : zH := hNew (sR (h) 0 10 (some 128)) 1 5
theorem qc_85 {h : zH} (hn : hN h = 132) (t0 : hT h 0 = 11) (l0 : hL h 0 = 15) (r0_9 : hR h 0 9 = some 90) : zY 146 125 [some (zR (some 0))] [zR (some 128), zR (some 0)] h = zBack zY 146 141 144 [some (zR (some 0))] [zR (some 132), zR (some 0)] (zC 0 [zR (some 132), zR (some 90), zR (some 128)] (gc71 h)) := by
  obtain ⟨hN0, U, T, L, R, I, J, F, D⟩ := h
  obtain rfl : hN0 = 132 := hn
  obtain ⟨T, rfl⟩ : ∃ T2 : Nat → Nat, T = zu1 (T2) 0 11 := ⟨T, (by rw [zu1_id (f := T) t0])⟩
  obtain ⟨L, rfl⟩ : ∃ L2 : Nat → Nat, L = zu1 (L2) 0 15 := ⟨L, (by rw [zu1_id (f := L) l0])⟩
  obtain ⟨R, rfl⟩ : ∃ R2 : Nat → Nat → Option Nat, R = zup (R2) 0 9 (some 90) := ⟨R, (by rw [zup_id (f := R) r0_9])⟩
  exact zGo 9 _ _ _ _ _
noncomputable def gc72 (h : zH) : zH := sR (sR (sR (hNew (sR (hNew (h) 23 24) 132 3 (some 133)) 23 73) 132 4 (some 134)) 132 0 (some 90)) 132 1 (some 128)
theorem qc_86 {h : zH} (hn : hN h = 133) (t132 : hT h 132 = 1) (l132 : hL h 132 = 5) : zC 0 [zR (some 132), zR (some 90), zR (some 128)] h = some (.inl none, (gc72 h)) := by
  obtain ⟨hN0, U, T, L, R, I, J, F, D⟩ := h
  obtain rfl : hN0 = 133 := hn
  obtain ⟨T, rfl⟩ : ∃ T2 : Nat → Nat, T = zu1 (T2) 132 1 := ⟨T, (by rw [zu1_id (f := T) t132])⟩
  obtain ⟨L, rfl⟩ : ∃ L2 : Nat → Nat, L = zu1 (L2) 132 5 := ⟨L, (by rw [zu1_id (f := L) l132])⟩
  exact zGo 17 _ _ _ _ _
noncomputable def gc73 (h : zH) : zH := hNew (sR (h) 0 11 (some 132)) 9 4
theorem qc_87 {h : zH} (hn : hN h = 135) (t0 : hT h 0 = 11) (l0 : hL h 0 = 15) (r0_9 : hR h 0 9 = some 90) : zY 146 144 [some (zR (some 0))] [zR (some 132), zR (some 0)] h = zBack zY 146 156 159 [some (zR (some 0))] [zR (some 135), zR (some 0)] (zC 113 [zR (some 135), zR (some 90)] (gc73 h)) := by
  obtain ⟨hN0, U, T, L, R, I, J, F, D⟩ := h
  obtain rfl : hN0 = 135 := hn
  obtain ⟨T, rfl⟩ : ∃ T2 : Nat → Nat, T = zu1 (T2) 0 11 := ⟨T, (by rw [zu1_id (f := T) t0])⟩
  obtain ⟨L, rfl⟩ : ∃ L2 : Nat → Nat, L = zu1 (L2) 0 15 := ⟨L, (by rw [zu1_id (f := L) l0])⟩
  obtain ⟨R, rfl⟩ : ∃ R2 : Nat → Nat → Option Nat, R = zup (R2) 0 9 (some 90) := ⟨R, (by rw [zup_id (f := R) r0_9])⟩
  exact zGo 7 _ _ _ _ _
noncomputable def gc74 (h : zH) : zH := sR (sR (hNew (sR (hMul (h) 25 200) 135 2 (some 136)) 22 25) 135 3 (some 162)) 135 0 (some 90)
theorem qc_88 {h : zH} (hn : hN h = 136) (t135 : hT h 135 = 9) (l135 : hL h 135 = 4) : zC 113 [zR (some 135), zR (some 90)] h = some (.inl none, (gc74 h)) := by
  obtain ⟨hN0, U, T, L, R, I, J, F, D⟩ := h
  obtain rfl : hN0 = 136 := hn
  obtain ⟨T, rfl⟩ : ∃ T2 : Nat → Nat, T = zu1 (T2) 135 9 := ⟨T, (by rw [zu1_id (f := T) t135])⟩
  obtain ⟨L, rfl⟩ : ∃ L2 : Nat → Nat, L = zu1 (L2) 135 4 := ⟨L, (by rw [zu1_id (f := L) l135])⟩
  exact zGo 15 _ _ _ _ _
noncomputable def gc75 (h : zH) : zH := sR (h) 0 12 (some 135)
theorem qc_89 {h : zH} (hn : hN h = 163) (t0 : hT h 0 = 11) (l0 : hL h 0 = 15) : zY 146 159 [some (zR (some 0))] [zR (some 135), zR (some 0)] h = zY 146 162 [some (zR (some 0))] [] (gc75 h) := by
  obtain ⟨hN0, U, T, L, R, I, J, F, D⟩ := h
  obtain rfl : hN0 = 163 := hn
  obtain ⟨T, rfl⟩ : ∃ T2 : Nat → Nat, T = zu1 (T2) 0 11 := ⟨T, (by rw [zu1_id (f := T) t0])⟩
  obtain ⟨L, rfl⟩ : ∃ L2 : Nat → Nat, L = zu1 (L2) 0 15 := ⟨L, (by rw [zu1_id (f := L) l0])⟩
  exact zGo 1 _ _ _ _ _
end BINIT


