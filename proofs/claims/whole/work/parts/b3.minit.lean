/-! The start: the reference's constructor. -/
theorem zu1_id {α : Type} {f : Nat → α} {a : Nat} {v : α} (e : f a = v) : zu1 f a v = f := funext fun b => by
  unfold zu1
  by_cases c : b = a
  · rw [if_pos c, c, e]
  · rw [if_neg c]
theorem zup_id {α : Type} {f : Nat → Nat → α} {a k : Nat} {v : α} (e : f a k = v) : zup f a k v = f := funext fun b => funext fun j => by
  unfold zup
  by_cases c : b = a ∧ j = k
  · rw [if_pos c, c.1, c.2, e]
  · rw [if_neg c]
section MINIT
set_option maxRecDepth 1000000
set_option maxHeartbeats 10000000
noncomputable def gm1 (h : zH) : zH := sI (sI (sI (sI (sI (sI (sI (sI (sI (sI (sI (sI (sI (sI (sI (sI (sI (sI (sI (sI (sI (sI (sI (hNew (h) 22 110) 178 0 97) 178 1 0) 178 2 0) 178 3 0) 178 4 0) 178 5 98) 178 6 0) 178 7 0) 178 8 0) 178 9 0) 178 10 99) 178 11 0) 178 12 0) 178 13 0) 178 14 0) 178 15 112) 178 16 108) 178 17 117) 178 18 115) 178 19 0) 178 20 109) 178 21 105) 178 22 110
theorem qm_1 {h : zH} (hn : hN h = 178) (t177 : hT h 177 = 12) (l177 : hL h 177 = 47) : zC 203 [zR (some 177)] h = zY 203 133 [some (zR (some 177)), none] [zI 117, zI 23, zR (some 178), zR (some 178), zR (some 177)] (gm1 h) := by
  obtain ⟨hN0, U, T, L, R, I, J, F, D⟩ := h
  obtain rfl : hN0 = 178 := hn
  obtain ⟨T, rfl⟩ : ∃ T2 : Nat → Nat, T = zu1 (T2) 177 12 := ⟨T, (by rw [zu1_id (f := T) t177])⟩
  obtain ⟨L, rfl⟩ : ∃ L2 : Nat → Nat, L = zu1 (L2) 177 47 := ⟨L, (by rw [zu1_id (f := L) l177])⟩
  exact zGo 100 _ _ _ _ _
noncomputable def gm2 (h : zH) : zH := sI (sI (sI (sI (sI (sI (sI (sI (sI (sI (sI (sI (sI (sI (sI (sI (sI (sI (sI (sI (sI (sI (sI (sI (sI (h) 178 23 117) 178 24 115) 178 25 116) 178 26 105) 178 27 109) 178 28 101) 178 29 115) 178 30 116) 178 31 114) 178 32 117) 178 33 101) 178 34 0) 178 35 102) 178 36 97) 178 37 108) 178 38 115) 178 39 101) 178 40 101) 178 41 113) 178 42 0) 178 43 0) 178 44 0) 178 45 108) 178 46 116) 178 47 0
theorem qm_2 {h : zH} (hn : hN h = 179) (t177 : hT h 177 = 12) (l177 : hL h 177 = 47) (t178 : hT h 178 = 22) (l178 : hL h 178 = 110) : zY 203 133 [some (zR (some 177)), none] [zI 117, zI 23, zR (some 178), zR (some 178), zR (some 177)] h = zY 203 277 [some (zR (some 177)), none] [zI 0, zI 48, zR (some 178), zR (some 178), zR (some 177)] (gm2 h) := by
  obtain ⟨hN0, U, T, L, R, I, J, F, D⟩ := h
  obtain rfl : hN0 = 179 := hn
  obtain ⟨T, rfl⟩ : ∃ T2 : Nat → Nat, T = zu1 (zu1 (T2) 177 12) 178 22 := ⟨T, (by rw [zu1_id (f := T) t177, zu1_id (f := T) t178])⟩
  obtain ⟨L, rfl⟩ : ∃ L2 : Nat → Nat, L = zu1 (zu1 (L2) 177 47) 178 110 := ⟨L, (by rw [zu1_id (f := L) l177, zu1_id (f := L) l178])⟩
  exact zGo 100 _ _ _ _ _
noncomputable def gm3 (h : zH) : zH := sI (sI (sI (sI (sI (sI (sI (sI (sI (sI (sI (sI (sI (sI (sI (sI (sI (sI (sI (sI (sI (sI (sI (sI (sI (h) 178 48 0) 178 49 0) 178 50 110) 178 51 111) 178 52 116) 178 53 0) 178 54 0) 178 55 97) 178 56 110) 178 57 100) 178 58 0) 178 59 0) 178 60 111) 178 61 114) 178 62 0) 178 63 0) 178 64 0) 178 65 112) 178 66 114) 178 67 111) 178 68 111) 178 69 102) 178 70 115) 178 71 101) 178 72 116
theorem qm_3 {h : zH} (hn : hN h = 179) (t177 : hT h 177 = 12) (l177 : hL h 177 = 47) (t178 : hT h 178 = 22) (l178 : hL h 178 = 110) : zY 203 277 [some (zR (some 177)), none] [zI 0, zI 48, zR (some 178), zR (some 178), zR (some 177)] h = zY 203 418 [some (zR (some 177)), none] [zI 0, zI 73, zR (some 178), zR (some 178), zR (some 177)] (gm3 h) := by
  obtain ⟨hN0, U, T, L, R, I, J, F, D⟩ := h
  obtain rfl : hN0 = 179 := hn
  obtain ⟨T, rfl⟩ : ∃ T2 : Nat → Nat, T = zu1 (zu1 (T2) 177 12) 178 22 := ⟨T, (by rw [zu1_id (f := T) t177, zu1_id (f := T) t178])⟩
  obtain ⟨L, rfl⟩ : ∃ L2 : Nat → Nat, L = zu1 (zu1 (L2) 177 47) 178 110 := ⟨L, (by rw [zu1_id (f := L) l177, zu1_id (f := L) l178])⟩
  exact zGo 100 _ _ _ _ _
noncomputable def gm4 (h : zH) : zH := sI (sI (sI (sI (sI (sI (sI (sI (sI (sI (sI (sI (sI (sI (sI (sI (sI (sI (sI (sI (sI (sI (sI (sI (sI (h) 178 73 0) 178 74 0) 178 75 105) 178 76 102) 178 77 0) 178 78 0) 178 79 0) 178 80 101) 178 81 108) 178 82 115) 178 83 101) 178 84 0) 178 85 101) 178 86 110) 178 87 100) 178 88 0) 178 89 0) 178 90 119) 178 91 104) 178 92 105) 178 93 108) 178 94 101) 178 95 107) 178 96 101) 178 97 101
theorem qm_4 {h : zH} (hn : hN h = 179) (t177 : hT h 177 = 12) (l177 : hL h 177 = 47) (t178 : hT h 178 = 22) (l178 : hL h 178 = 110) : zY 203 418 [some (zR (some 177)), none] [zI 0, zI 73, zR (some 178), zR (some 178), zR (some 177)] h = zY 203 561 [some (zR (some 177)), none] [zI 112, zI 98, zR (some 178), zR (some 178), zR (some 177)] (gm4 h) := by
  obtain ⟨hN0, U, T, L, R, I, J, F, D⟩ := h
  obtain rfl : hN0 = 179 := hn
  obtain ⟨T, rfl⟩ : ∃ T2 : Nat → Nat, T = zu1 (zu1 (T2) 177 12) 178 22 := ⟨T, (by rw [zu1_id (f := T) t177, zu1_id (f := T) t178])⟩
  obtain ⟨L, rfl⟩ : ∃ L2 : Nat → Nat, L = zu1 (zu1 (L2) 177 47) 178 110 := ⟨L, (by rw [zu1_id (f := L) l177, zu1_id (f := L) l178])⟩
  exact zGo 100 _ _ _ _ _
noncomputable def gm5 (h : zH) : zH := sR (sI (sI (sI (sI (sI (sI (sI (sI (sI (sI (sI (sI (h) 178 98 112) 178 99 0) 178 100 108) 178 101 101) 178 102 115) 178 103 115) 178 104 0) 178 105 104) 178 106 111) 178 107 108) 178 108 101) 178 109 0) 177 0 (some 178)
theorem qm_5 {h : zH} (hn : hN h = 179) (t177 : hT h 177 = 12) (l177 : hL h 177 = 47) (t178 : hT h 178 = 22) (l178 : hL h 178 = 110) : zY 203 561 [some (zR (some 177)), none] [zI 112, zI 98, zR (some 178), zR (some 178), zR (some 177)] h = zY 203 628 [some (zR (some 177)), none] [] (gm5 h) := by
  obtain ⟨hN0, U, T, L, R, I, J, F, D⟩ := h
  obtain rfl : hN0 = 179 := hn
  obtain ⟨T, rfl⟩ : ∃ T2 : Nat → Nat, T = zu1 (zu1 (T2) 177 12) 178 22 := ⟨T, (by rw [zu1_id (f := T) t177, zu1_id (f := T) t178])⟩
  obtain ⟨L, rfl⟩ : ∃ L2 : Nat → Nat, L = zu1 (zu1 (L2) 177 47) 178 110 := ⟨L, (by rw [zu1_id (f := L) l177, zu1_id (f := L) l178])⟩
  exact zGo 46 _ _ _ _ _
noncomputable def gm6 (h : zH) : zH := sR (hNew (sR (hNew (sR (hNew (sR (hNew (h) 22 2342) 177 2 (some 179)) 22 2342) 177 3 (some 180)) 22 23420) 177 4 (some 181)) 22 4684) 177 6 (some 182)
theorem qm_6 {h : zH} (hn : hN h = 179) (t177 : hT h 177 = 12) (l177 : hL h 177 = 47) : zY 203 628 [some (zR (some 177)), none] [] h = zY 203 664 [some (zR (some 177)), none] [] (gm6 h) := by
  obtain ⟨hN0, U, T, L, R, I, J, F, D⟩ := h
  obtain rfl : hN0 = 179 := hn
  obtain ⟨T, rfl⟩ : ∃ T2 : Nat → Nat, T = zu1 (T2) 177 12 := ⟨T, (by rw [zu1_id (f := T) t177])⟩
  obtain ⟨L, rfl⟩ : ∃ L2 : Nat → Nat, L = zu1 (L2) 177 47 := ⟨L, (by rw [zu1_id (f := L) l177])⟩
  exact zGo 16 _ _ _ _ _
noncomputable def gm7 (h : zH) : zH := sR (hNew (sI (sR (hNew (sR (hNew (h) 22 240) 177 8 (some 183)) 22 240) 177 9 (some 184)) 177 12 (-1)) 21 800) 177 14 (some 185)
theorem qm_7 {h : zH} (hn : hN h = 183) (t177 : hT h 177 = 12) (l177 : hL h 177 = 47) : zY 203 664 [some (zR (some 177)), none] [] h = zY 203 697 [some (zR (some 177)), none] [zR (some 177)] (gm7 h) := by
  obtain ⟨hN0, U, T, L, R, I, J, F, D⟩ := h
  obtain rfl : hN0 = 183 := hn
  obtain ⟨T, rfl⟩ : ∃ T2 : Nat → Nat, T = zu1 (T2) 177 12 := ⟨T, (by rw [zu1_id (f := T) t177])⟩
  obtain ⟨L, rfl⟩ : ∃ L2 : Nat → Nat, L = zu1 (L2) 177 47 := ⟨L, (by rw [zu1_id (f := L) l177])⟩
  exact zGo 16 _ _ _ _ _
noncomputable def gm8 (h : zH) : zH := sR (hNew (sR (hNew (sI (sR (hNew (h) 21 1400) 177 16 (some 186)) 177 19 (-1)) 22 201) 177 20 (some 187)) 23 24) 177 22 (some 188)
theorem qm_8 {h : zH} (hn : hN h = 186) (t177 : hT h 177 = 12) (l177 : hL h 177 = 47) : zY 203 697 [some (zR (some 177)), none] [zR (some 177)] h = zY 203 731 [some (zR (some 177)), none] [zI 4824, zR (some 177)] (gm8 h) := by
  obtain ⟨hN0, U, T, L, R, I, J, F, D⟩ := h
  obtain rfl : hN0 = 186 := hn
  obtain ⟨T, rfl⟩ : ∃ T2 : Nat → Nat, T = zu1 (T2) 177 12 := ⟨T, (by rw [zu1_id (f := T) t177])⟩
  obtain ⟨L, rfl⟩ : ∃ L2 : Nat → Nat, L = zu1 (L2) 177 47 := ⟨L, (by rw [zu1_id (f := L) l177])⟩
  exact zGo 16 _ _ _ _ _
noncomputable def gm9 (h : zH) : zH := sR (hNew (sR (hNew (sR (hNew (sR (hNew (h) 22 4824) 177 23 (some 189)) 22 24) 177 24 (some 190)) 22 201) 177 25 (some 191)) 23 24) 177 32 (some 192)
theorem qm_9 {h : zH} (hn : hN h = 189) (t177 : hT h 177 = 12) (l177 : hL h 177 = 47) : zY 203 731 [some (zR (some 177)), none] [zI 4824, zR (some 177)] h = zY 203 764 [some (zR (some 177)), none] [zI 24, zR (some 177)] (gm9 h) := by
  obtain ⟨hN0, U, T, L, R, I, J, F, D⟩ := h
  obtain rfl : hN0 = 189 := hn
  obtain ⟨T, rfl⟩ : ∃ T2 : Nat → Nat, T = zu1 (T2) 177 12 := ⟨T, (by rw [zu1_id (f := T) t177])⟩
  obtain ⟨L, rfl⟩ : ∃ L2 : Nat → Nat, L = zu1 (L2) 177 47 := ⟨L, (by rw [zu1_id (f := L) l177])⟩
  exact zGo 16 _ _ _ _ _
noncomputable def gm10 (h : zH) : zH := sR (hNew (sR (hNew (sR (hNew (sR (hNew (h) 22 24) 177 33 (some 193)) 22 24) 177 34 (some 194)) 23 24) 177 35 (some 195)) 22 64) 177 43 (some 196)
theorem qm_10 {h : zH} (hn : hN h = 193) (t177 : hT h 177 = 12) (l177 : hL h 177 = 47) : zY 203 764 [some (zR (some 177)), none] [zI 24, zR (some 177)] h = zY 203 793 [some (zR (some 177)), none] [] (gm10 h) := by
  obtain ⟨hN0, U, T, L, R, I, J, F, D⟩ := h
  obtain rfl : hN0 = 193 := hn
  obtain ⟨T, rfl⟩ : ∃ T2 : Nat → Nat, T = zu1 (T2) 177 12 := ⟨T, (by rw [zu1_id (f := T) t177])⟩
  obtain ⟨L, rfl⟩ : ∃ L2 : Nat → Nat, L = zu1 (L2) 177 47 := ⟨L, (by rw [zu1_id (f := L) l177])⟩
  exact zGo 14 _ _ _ _ _
theorem qm_11 {h : zH} (hn : hN h = 197) (t177 : hT h 177 = 12) (l177 : hL h 177 = 47) (t179 : hT h 179 = 22) (l179 : hL h 179 = 2342) (t183 : hT h 183 = 22) (l183 : hL h 183 = 240) (r2 : hR h 177 2 = some 179) (r8 : hR h 177 8 = some 183) : zY 203 793 [some (zR (some 177)), none] [] h = zBack zY 203 799 802 [some (zR (some 177)), none] [] (zC 204 [zR (some 177), zI 0, zI 13, zI 4, zI 3] h) := by
  obtain ⟨hN0, U, T, L, R, I, J, F, D⟩ := h
  obtain rfl : hN0 = 197 := hn
  obtain ⟨T, rfl⟩ : ∃ T2 : Nat → Nat, T = zu1 (zu1 (zu1 (T2) 177 12) 179 22) 183 22 := ⟨T, (by rw [zu1_id (f := T) t177, zu1_id (f := T) t179, zu1_id (f := T) t183])⟩
  obtain ⟨L, rfl⟩ : ∃ L2 : Nat → Nat, L = zu1 (zu1 (zu1 (L2) 177 47) 179 2342) 183 240 := ⟨L, (by rw [zu1_id (f := L) l177, zu1_id (f := L) l179, zu1_id (f := L) l183])⟩
  obtain ⟨R, rfl⟩ : ∃ R2 : Nat → Nat → Option Nat, R = zup (zup (R2) 177 2 (some 179)) 177 8 (some 183) := ⟨R, (by rw [zup_id (f := R) r2, zup_id (f := R) r8])⟩
  exact zGo 6 _ _ _ _ _
noncomputable def gm11 (h : zH) : zH := sI (sI (sI (sI (h) 179 0 3) 179 1 13) 179 2 4) 179 3 3
theorem qm_12 {h : zH} (hn : hN h = 197) (t177 : hT h 177 = 12) (l177 : hL h 177 = 47) (t179 : hT h 179 = 22) (l179 : hL h 179 = 2342) (t183 : hT h 183 = 22) (l183 : hL h 183 = 240) (r2 : hR h 177 2 = some 179) (r8 : hR h 177 8 = some 183) : zC 204 [zR (some 177), zI 0, zI 13, zI 4, zI 3] h = some (.inl none, (gm11 h)) := by
  obtain ⟨hN0, U, T, L, R, I, J, F, D⟩ := h
  obtain rfl : hN0 = 197 := hn
  obtain ⟨T, rfl⟩ : ∃ T2 : Nat → Nat, T = zu1 (zu1 (zu1 (T2) 177 12) 179 22) 183 22 := ⟨T, (by rw [zu1_id (f := T) t177, zu1_id (f := T) t179, zu1_id (f := T) t183])⟩
  obtain ⟨L, rfl⟩ : ∃ L2 : Nat → Nat, L = zu1 (zu1 (zu1 (L2) 177 47) 179 2342) 183 240 := ⟨L, (by rw [zu1_id (f := L) l177, zu1_id (f := L) l179, zu1_id (f := L) l183])⟩
  obtain ⟨R, rfl⟩ : ∃ R2 : Nat → Nat → Option Nat, R = zup (zup (R2) 177 2 (some 179)) 177 8 (some 183) := ⟨R, (by rw [zup_id (f := R) r2, zup_id (f := R) r8])⟩
  exact zGo 35 _ _ _ _ _
noncomputable def gm12 (h : zH) : zH := sI (sI (sI (sI (sI (sI (sI (h) 179 31 7) 179 32 15) 179 33 12) 179 34 4) 179 35 0) 179 36 12) 179 37 5
theorem qm_13 {h : zH} (hn : hN h = 197) (t177 : hT h 177 = 12) (l177 : hL h 177 = 47) (t179 : hT h 179 = 22) (l179 : hL h 179 = 2342) (t183 : hT h 183 = 22) (l183 : hL h 183 = 240) (r2 : hR h 177 2 = some 179) (r8 : hR h 177 8 = some 183) : zY 203 802 [some (zR (some 177)), none] [] h = zY 203 863 [some (zR (some 177)), none] [zR (some 177)] (gm12 h) := by
  obtain ⟨hN0, U, T, L, R, I, J, F, D⟩ := h
  obtain rfl : hN0 = 197 := hn
  obtain ⟨T, rfl⟩ : ∃ T2 : Nat → Nat, T = zu1 (zu1 (zu1 (T2) 177 12) 179 22) 183 22 := ⟨T, (by rw [zu1_id (f := T) t177, zu1_id (f := T) t179, zu1_id (f := T) t183])⟩
  obtain ⟨L, rfl⟩ : ∃ L2 : Nat → Nat, L = zu1 (zu1 (zu1 (L2) 177 47) 179 2342) 183 240 := ⟨L, (by rw [zu1_id (f := L) l177, zu1_id (f := L) l179, zu1_id (f := L) l183])⟩
  obtain ⟨R, rfl⟩ : ∃ R2 : Nat → Nat → Option Nat, R = zup (zup (R2) 177 2 (some 179)) 177 8 (some 183) := ⟨R, (by rw [zup_id (f := R) r2, zup_id (f := R) r8])⟩
  exact zGo 36 _ _ _ _ _
noncomputable def gm13 (h : zH) : zH := sI (sI (sI (h) 179 38 2) 177 44 (-1)) 177 46 (-1)
theorem qm_14 {h : zH} (hn : hN h = 197) (t177 : hT h 177 = 12) (l177 : hL h 177 = 47) (t179 : hT h 179 = 22) (l179 : hL h 179 = 2342) (t183 : hT h 183 = 22) (l183 : hL h 183 = 240) (r2 : hR h 177 2 = some 179) (r8 : hR h 177 8 = some 183) : zY 203 863 [some (zR (some 177)), none] [zR (some 177)] h = zBack zY 203 882 885 [some (zR (some 177)), none] [] (zC 205 [zR (some 177), zI 0] (gm13 h)) := by
  obtain ⟨hN0, U, T, L, R, I, J, F, D⟩ := h
  obtain rfl : hN0 = 197 := hn
  obtain ⟨T, rfl⟩ : ∃ T2 : Nat → Nat, T = zu1 (zu1 (zu1 (T2) 177 12) 179 22) 183 22 := ⟨T, (by rw [zu1_id (f := T) t177, zu1_id (f := T) t179, zu1_id (f := T) t183])⟩
  obtain ⟨L, rfl⟩ : ∃ L2 : Nat → Nat, L = zu1 (zu1 (zu1 (L2) 177 47) 179 2342) 183 240 := ⟨L, (by rw [zu1_id (f := L) l177, zu1_id (f := L) l179, zu1_id (f := L) l183])⟩
  obtain ⟨R, rfl⟩ : ∃ R2 : Nat → Nat → Option Nat, R = zup (zup (R2) 177 2 (some 179)) 177 8 (some 183) := ⟨R, (by rw [zup_id (f := R) r2, zup_id (f := R) r8])⟩
  exact zGo 13 _ _ _ _ _
noncomputable def gm14 (h : zH) : zH := sI (sI (sI (h) 183 7 (-1)) 177 10 1) 183 0 0
theorem qm_15 {h : zH} (hn : hN h = 197) (t177 : hT h 177 = 12) (l177 : hL h 177 = 47) (t179 : hT h 179 = 22) (l179 : hL h 179 = 2342) (t183 : hT h 183 = 22) (l183 : hL h 183 = 240) (r2 : hR h 177 2 = some 179) (r8 : hR h 177 8 = some 183) (i177_10 : hI h 177 10 = 0) : zC 205 [zR (some 177), zI 0] h = zY 205 62 [some (zR (some 177)), some (zI 0), some (zI 0), some (zI 0)] [zI 0, zR (some 183)] (gm14 h) := by
  obtain ⟨hN0, U, T, L, R, I, J, F, D⟩ := h
  obtain rfl : hN0 = 197 := hn
  obtain ⟨T, rfl⟩ : ∃ T2 : Nat → Nat, T = zu1 (zu1 (zu1 (T2) 177 12) 179 22) 183 22 := ⟨T, (by rw [zu1_id (f := T) t177, zu1_id (f := T) t179, zu1_id (f := T) t183])⟩
  obtain ⟨L, rfl⟩ : ∃ L2 : Nat → Nat, L = zu1 (zu1 (zu1 (L2) 177 47) 179 2342) 183 240 := ⟨L, (by rw [zu1_id (f := L) l177, zu1_id (f := L) l179, zu1_id (f := L) l183])⟩
  obtain ⟨R, rfl⟩ : ∃ R2 : Nat → Nat → Option Nat, R = zup (zup (R2) 177 2 (some 179)) 177 8 (some 183) := ⟨R, (by rw [zup_id (f := R) r2, zup_id (f := R) r8])⟩
  obtain ⟨I, rfl⟩ : ∃ I2 : Nat → Nat → Int, I = zup (I2) 177 10 0 := ⟨I, (by rw [zup_id (f := I) i177_10])⟩
  exact zGo 36 _ _ _ _ _
noncomputable def gm15 (h : zH) : zH := sI (sI (sI (sI (h) 183 1 (-1)) 183 2 0) 183 3 (-1)) 183 4 (-1)
theorem qm_16 {h : zH} (hn : hN h = 197) (t177 : hT h 177 = 12) (l177 : hL h 177 = 47) (t179 : hT h 179 = 22) (l179 : hL h 179 = 2342) (t183 : hT h 183 = 22) (l183 : hL h 183 = 240) (r2 : hR h 177 2 = some 179) (r8 : hR h 177 8 = some 183) (i177_44 : hI h 177 44 = (-1)) : zY 205 62 [some (zR (some 177)), some (zI 0), some (zI 0), some (zI 0)] [zI 0, zR (some 183)] h = zY 205 125 [some (zR (some 177)), some (zI 0), some (zI 0), some (zI 0)] [zI 5, zR (some 183)] (gm15 h) := by
  obtain ⟨hN0, U, T, L, R, I, J, F, D⟩ := h
  obtain rfl : hN0 = 197 := hn
  obtain ⟨T, rfl⟩ : ∃ T2 : Nat → Nat, T = zu1 (zu1 (zu1 (T2) 177 12) 179 22) 183 22 := ⟨T, (by rw [zu1_id (f := T) t177, zu1_id (f := T) t179, zu1_id (f := T) t183])⟩
  obtain ⟨L, rfl⟩ : ∃ L2 : Nat → Nat, L = zu1 (zu1 (zu1 (L2) 177 47) 179 2342) 183 240 := ⟨L, (by rw [zu1_id (f := L) l177, zu1_id (f := L) l179, zu1_id (f := L) l183])⟩
  obtain ⟨R, rfl⟩ : ∃ R2 : Nat → Nat → Option Nat, R = zup (zup (R2) 177 2 (some 179)) 177 8 (some 183) := ⟨R, (by rw [zup_id (f := R) r2, zup_id (f := R) r8])⟩
  obtain ⟨I, rfl⟩ : ∃ I2 : Nat → Nat → Int, I = zup (I2) 177 44 (-1) := ⟨I, (by rw [zup_id (f := I) i177_44])⟩
  exact zGo 36 _ _ _ _ _
noncomputable def gm16 (h : zH) : zH := sI (sI (sI (sI (sI (h) 183 5 (-1)) 183 6 (-1)) 183 8 0) 183 9 0) 177 12 0
theorem qm_17 {h : zH} (hn : hN h = 197) (t177 : hT h 177 = 12) (l177 : hL h 177 = 47) (t179 : hT h 179 = 22) (l179 : hL h 179 = 2342) (t183 : hT h 183 = 22) (l183 : hL h 183 = 240) (r2 : hR h 177 2 = some 179) (r8 : hR h 177 8 = some 183) (i177_46 : hI h 177 46 = (-1)) (i177_44 : hI h 177 44 = (-1)) : zY 205 125 [some (zR (some 177)), some (zI 0), some (zI 0), some (zI 0)] [zI 5, zR (some 183)] h = zY 205 227 [some (zR (some 177)), some (zI 0), some (zI 0), some (zI 0)] [zR (some 177)] (gm16 h) := by
  obtain ⟨hN0, U, T, L, R, I, J, F, D⟩ := h
  obtain rfl : hN0 = 197 := hn
  obtain ⟨T, rfl⟩ : ∃ T2 : Nat → Nat, T = zu1 (zu1 (zu1 (T2) 177 12) 179 22) 183 22 := ⟨T, (by rw [zu1_id (f := T) t177, zu1_id (f := T) t179, zu1_id (f := T) t183])⟩
  obtain ⟨L, rfl⟩ : ∃ L2 : Nat → Nat, L = zu1 (zu1 (zu1 (L2) 177 47) 179 2342) 183 240 := ⟨L, (by rw [zu1_id (f := L) l177, zu1_id (f := L) l179, zu1_id (f := L) l183])⟩
  obtain ⟨R, rfl⟩ : ∃ R2 : Nat → Nat → Option Nat, R = zup (zup (R2) 177 2 (some 179)) 177 8 (some 183) := ⟨R, (by rw [zup_id (f := R) r2, zup_id (f := R) r8])⟩
  obtain ⟨I, rfl⟩ : ∃ I2 : Nat → Nat → Int, I = zup (zup (I2) 177 46 (-1)) 177 44 (-1) := ⟨I, (by rw [zup_id (f := I) i177_46, zup_id (f := I) i177_44])⟩
  exact zGo 36 _ _ _ _ _
noncomputable def gm17 (h : zH) : zH := sI (sI (sI (h) 179 2294 (-1)) 179 2318 10) 177 46 0
theorem qm_18 {h : zH} (hn : hN h = 197) (t177 : hT h 177 = 12) (l177 : hL h 177 = 47) (t179 : hT h 179 = 22) (l179 : hL h 179 = 2342) (t183 : hT h 183 = 22) (l183 : hL h 183 = 240) (r2 : hR h 177 2 = some 179) (r8 : hR h 177 8 = some 183) (i177_44 : hI h 177 44 = (-1)) : zY 205 227 [some (zR (some 177)), some (zI 0), some (zI 0), some (zI 0)] [zR (some 177)] h = some (.inl (some (zI 0)), (gm17 h)) := by
  obtain ⟨hN0, U, T, L, R, I, J, F, D⟩ := h
  obtain rfl : hN0 = 197 := hn
  obtain ⟨T, rfl⟩ : ∃ T2 : Nat → Nat, T = zu1 (zu1 (zu1 (T2) 177 12) 179 22) 183 22 := ⟨T, (by rw [zu1_id (f := T) t177, zu1_id (f := T) t179, zu1_id (f := T) t183])⟩
  obtain ⟨L, rfl⟩ : ∃ L2 : Nat → Nat, L = zu1 (zu1 (zu1 (L2) 177 47) 179 2342) 183 240 := ⟨L, (by rw [zu1_id (f := L) l177, zu1_id (f := L) l179, zu1_id (f := L) l183])⟩
  obtain ⟨R, rfl⟩ : ∃ R2 : Nat → Nat → Option Nat, R = zup (zup (R2) 177 2 (some 179)) 177 8 (some 183) := ⟨R, (by rw [zup_id (f := R) r2, zup_id (f := R) r8])⟩
  obtain ⟨I, rfl⟩ : ∃ I2 : Nat → Nat → Int, I = zup (I2) 177 44 (-1) := ⟨I, (by rw [zup_id (f := I) i177_44])⟩
  exact zGo 22 _ _ _ _ _
noncomputable def gm18 (h : zH) : zH := sI (sI (sI (h) 183 1 1) 179 62 1) 179 63 2
theorem qm_19 {h : zH} (hn : hN h = 197) (t177 : hT h 177 = 12) (l177 : hL h 177 = 47) (t179 : hT h 179 = 22) (l179 : hL h 179 = 2342) (t183 : hT h 183 = 22) (l183 : hL h 183 = 240) (r2 : hR h 177 2 = some 179) (r8 : hR h 177 8 = some 183) : zY 203 885 [some (zR (some 177)), none] [zI 0] h = zBack zY 203 911 914 [some (zR (some 177)), some (zI 0)] [] (zC 205 [zR (some 177), zI 2] (gm18 h)) := by
  obtain ⟨hN0, U, T, L, R, I, J, F, D⟩ := h
  obtain rfl : hN0 = 197 := hn
  obtain ⟨T, rfl⟩ : ∃ T2 : Nat → Nat, T = zu1 (zu1 (zu1 (T2) 177 12) 179 22) 183 22 := ⟨T, (by rw [zu1_id (f := T) t177, zu1_id (f := T) t179, zu1_id (f := T) t183])⟩
  obtain ⟨L, rfl⟩ : ∃ L2 : Nat → Nat, L = zu1 (zu1 (zu1 (L2) 177 47) 179 2342) 183 240 := ⟨L, (by rw [zu1_id (f := L) l177, zu1_id (f := L) l179, zu1_id (f := L) l183])⟩
  obtain ⟨R, rfl⟩ : ∃ R2 : Nat → Nat → Option Nat, R = zup (zup (R2) 177 2 (some 179)) 177 8 (some 183) := ⟨R, (by rw [zup_id (f := R) r2, zup_id (f := R) r8])⟩
  exact zGo 19 _ _ _ _ _
theorem qm_20 {h : zH} (hn : hN h = 197) (t177 : hT h 177 = 12) (l177 : hL h 177 = 47) (t179 : hT h 179 = 22) (l179 : hL h 179 = 2342) (t183 : hT h 183 = 22) (l183 : hL h 183 = 240) (r2 : hR h 177 2 = some 179) (r8 : hR h 177 8 = some 183) (i177_10 : hI h 177 10 = 1) : zC 205 [zR (some 177), zI 2] h = zBack zY 205 30 33 [some (zR (some 177)), some (zI 2), some (zI 1), some (zI 10)] [zI 17, zR (some 183)] (zC 206 [zR (some 177), zI 2] h) := by
  obtain ⟨hN0, U, T, L, R, I, J, F, D⟩ := h
  obtain rfl : hN0 = 197 := hn
  obtain ⟨T, rfl⟩ : ∃ T2 : Nat → Nat, T = zu1 (zu1 (zu1 (T2) 177 12) 179 22) 183 22 := ⟨T, (by rw [zu1_id (f := T) t177, zu1_id (f := T) t179, zu1_id (f := T) t183])⟩
  obtain ⟨L, rfl⟩ : ∃ L2 : Nat → Nat, L = zu1 (zu1 (zu1 (L2) 177 47) 179 2342) 183 240 := ⟨L, (by rw [zu1_id (f := L) l177, zu1_id (f := L) l179, zu1_id (f := L) l183])⟩
  obtain ⟨R, rfl⟩ : ∃ R2 : Nat → Nat → Option Nat, R = zup (zup (R2) 177 2 (some 179)) 177 8 (some 183) := ⟨R, (by rw [zup_id (f := R) r2, zup_id (f := R) r8])⟩
  obtain ⟨I, rfl⟩ : ∃ I2 : Nat → Nat → Int, I = zup (I2) 177 10 1 := ⟨I, (by rw [zup_id (f := I) i177_10])⟩
  exact zGo 18 _ _ _ _ _
theorem qm_21 {h : zH} (hn : hN h = 197) (t177 : hT h 177 = 12) (l177 : hL h 177 = 47) (t179 : hT h 179 = 22) (l179 : hL h 179 = 2342) (t183 : hT h 183 = 22) (l183 : hL h 183 = 240) (r2 : hR h 177 2 = some 179) (r8 : hR h 177 8 = some 183) (i177_10 : hI h 177 10 = 1) : zC 206 [zR (some 177), zI 2] h = zBack zY 206 16 19 [some (zR (some 177)), some (zI 2), some (zI 0), some (zI 0)] [zI 0] (zC 207 [zR (some 177), zI 0, zI 0] h) := by
  obtain ⟨hN0, U, T, L, R, I, J, F, D⟩ := h
  obtain rfl : hN0 = 197 := hn
  obtain ⟨T, rfl⟩ : ∃ T2 : Nat → Nat, T = zu1 (zu1 (zu1 (T2) 177 12) 179 22) 183 22 := ⟨T, (by rw [zu1_id (f := T) t177, zu1_id (f := T) t179, zu1_id (f := T) t183])⟩
  obtain ⟨L, rfl⟩ : ∃ L2 : Nat → Nat, L = zu1 (zu1 (zu1 (L2) 177 47) 179 2342) 183 240 := ⟨L, (by rw [zu1_id (f := L) l177, zu1_id (f := L) l179, zu1_id (f := L) l183])⟩
  obtain ⟨R, rfl⟩ : ∃ R2 : Nat → Nat → Option Nat, R = zup (zup (R2) 177 2 (some 179)) 177 8 (some 183) := ⟨R, (by rw [zup_id (f := R) r2, zup_id (f := R) r8])⟩
  obtain ⟨I, rfl⟩ : ∃ I2 : Nat → Nat → Int, I = zup (I2) 177 10 1 := ⟨I, (by rw [zup_id (f := I) i177_10])⟩
  exact zGo 13 _ _ _ _ _
theorem qm_22 {h : zH} (hn : hN h = 197) (t177 : hT h 177 = 12) (l177 : hL h 177 = 47) (t179 : hT h 179 = 22) (l179 : hL h 179 = 2342) (t183 : hT h 183 = 22) (l183 : hL h 183 = 240) (r2 : hR h 177 2 = some 179) (r8 : hR h 177 8 = some 183) (i183_0 : hI h 183 0 = 0) : zC 207 [zR (some 177), zI 0, zI 0] h = some (.inl (some (zI 0)), h) := by
  obtain ⟨hN0, U, T, L, R, I, J, F, D⟩ := h
  obtain rfl : hN0 = 197 := hn
  obtain ⟨T, rfl⟩ : ∃ T2 : Nat → Nat, T = zu1 (zu1 (zu1 (T2) 177 12) 179 22) 183 22 := ⟨T, (by rw [zu1_id (f := T) t177, zu1_id (f := T) t179, zu1_id (f := T) t183])⟩
  obtain ⟨L, rfl⟩ : ∃ L2 : Nat → Nat, L = zu1 (zu1 (zu1 (L2) 177 47) 179 2342) 183 240 := ⟨L, (by rw [zu1_id (f := L) l177, zu1_id (f := L) l179, zu1_id (f := L) l183])⟩
  obtain ⟨R, rfl⟩ : ∃ R2 : Nat → Nat → Option Nat, R = zup (zup (R2) 177 2 (some 179)) 177 8 (some 183) := ⟨R, (by rw [zup_id (f := R) r2, zup_id (f := R) r8])⟩
  obtain ⟨I, rfl⟩ : ∃ I2 : Nat → Nat → Int, I = zup (I2) 183 0 0 := ⟨I, (by rw [zup_id (f := I) i183_0])⟩
  exact zGo 9 _ _ _ _ _
theorem qm_23 {h : zH} (hn : hN h = 197) (t177 : hT h 177 = 12) (l177 : hL h 177 = 47) (t179 : hT h 179 = 22) (l179 : hL h 179 = 2342) (t183 : hT h 183 = 22) (l183 : hL h 183 = 240) (r2 : hR h 177 2 = some 179) (r8 : hR h 177 8 = some 183) (i177_10 : hI h 177 10 = 1) : zY 206 19 [some (zR (some 177)), some (zI 2), some (zI 0), some (zI 0)] [zI 0, zI 0] h = some (.inl (some (zI 0)), h) := by
  obtain ⟨hN0, U, T, L, R, I, J, F, D⟩ := h
  obtain rfl : hN0 = 197 := hn
  obtain ⟨T, rfl⟩ : ∃ T2 : Nat → Nat, T = zu1 (zu1 (zu1 (T2) 177 12) 179 22) 183 22 := ⟨T, (by rw [zu1_id (f := T) t177, zu1_id (f := T) t179, zu1_id (f := T) t183])⟩
  obtain ⟨L, rfl⟩ : ∃ L2 : Nat → Nat, L = zu1 (zu1 (zu1 (L2) 177 47) 179 2342) 183 240 := ⟨L, (by rw [zu1_id (f := L) l177, zu1_id (f := L) l179, zu1_id (f := L) l183])⟩
  obtain ⟨R, rfl⟩ : ∃ R2 : Nat → Nat → Option Nat, R = zup (zup (R2) 177 2 (some 179)) 177 8 (some 183) := ⟨R, (by rw [zup_id (f := R) r2, zup_id (f := R) r8])⟩
  obtain ⟨I, rfl⟩ : ∃ I2 : Nat → Nat → Int, I = zup (I2) 177 10 1 := ⟨I, (by rw [zup_id (f := I) i177_10])⟩
  exact zGo 13 _ _ _ _ _
noncomputable def gm19 (h : zH) : zH := sI (sI (sI (sI (sI (h) 183 17 0) 177 10 2) 183 10 2) 183 11 (-1)) 183 12 0
theorem qm_24 {h : zH} (hn : hN h = 197) (t177 : hT h 177 = 12) (l177 : hL h 177 = 47) (t179 : hT h 179 = 22) (l179 : hL h 179 = 2342) (t183 : hT h 183 = 22) (l183 : hL h 183 = 240) (r2 : hR h 177 2 = some 179) (r8 : hR h 177 8 = some 183) (i177_10 : hI h 177 10 = 1) (i177_44 : hI h 177 44 = (-1)) : zY 205 33 [some (zR (some 177)), some (zI 2), some (zI 1), some (zI 10)] [zI 0, zI 17, zR (some 183)] h = zY 205 101 [some (zR (some 177)), some (zI 2), some (zI 1), some (zI 10)] [zR (some 183)] (gm19 h) := by
  obtain ⟨hN0, U, T, L, R, I, J, F, D⟩ := h
  obtain rfl : hN0 = 197 := hn
  obtain ⟨T, rfl⟩ : ∃ T2 : Nat → Nat, T = zu1 (zu1 (zu1 (T2) 177 12) 179 22) 183 22 := ⟨T, (by rw [zu1_id (f := T) t177, zu1_id (f := T) t179, zu1_id (f := T) t183])⟩
  obtain ⟨L, rfl⟩ : ∃ L2 : Nat → Nat, L = zu1 (zu1 (zu1 (L2) 177 47) 179 2342) 183 240 := ⟨L, (by rw [zu1_id (f := L) l177, zu1_id (f := L) l179, zu1_id (f := L) l183])⟩
  obtain ⟨R, rfl⟩ : ∃ R2 : Nat → Nat → Option Nat, R = zup (zup (R2) 177 2 (some 179)) 177 8 (some 183) := ⟨R, (by rw [zup_id (f := R) r2, zup_id (f := R) r8])⟩
  obtain ⟨I, rfl⟩ : ∃ I2 : Nat → Nat → Int, I = zup (zup (I2) 177 10 1) 177 44 (-1) := ⟨I, (by rw [zup_id (f := I) i177_10, zup_id (f := I) i177_44])⟩
  exact zGo 36 _ _ _ _ _
noncomputable def gm20 (h : zH) : zH := sI (sI (sI (sI (sI (h) 183 13 (-1)) 183 14 (-1)) 183 15 (-1)) 183 16 (-1)) 183 18 0
theorem qm_25 {h : zH} (hn : hN h = 197) (t177 : hT h 177 = 12) (l177 : hL h 177 = 47) (t179 : hT h 179 = 22) (l179 : hL h 179 = 2342) (t183 : hT h 183 = 22) (l183 : hL h 183 = 240) (r2 : hR h 177 2 = some 179) (r8 : hR h 177 8 = some 183) (i177_44 : hI h 177 44 = (-1)) : zY 205 101 [some (zR (some 177)), some (zI 2), some (zI 1), some (zI 10)] [zR (some 183)] h = zY 205 151 [some (zR (some 177)), some (zI 2), some (zI 1), some (zI 10)] [zR (some 183)] (gm20 h) := by
  obtain ⟨hN0, U, T, L, R, I, J, F, D⟩ := h
  obtain rfl : hN0 = 197 := hn
  obtain ⟨T, rfl⟩ : ∃ T2 : Nat → Nat, T = zu1 (zu1 (zu1 (T2) 177 12) 179 22) 183 22 := ⟨T, (by rw [zu1_id (f := T) t177, zu1_id (f := T) t179, zu1_id (f := T) t183])⟩
  obtain ⟨L, rfl⟩ : ∃ L2 : Nat → Nat, L = zu1 (zu1 (zu1 (L2) 177 47) 179 2342) 183 240 := ⟨L, (by rw [zu1_id (f := L) l177, zu1_id (f := L) l179, zu1_id (f := L) l183])⟩
  obtain ⟨R, rfl⟩ : ∃ R2 : Nat → Nat → Option Nat, R = zup (zup (R2) 177 2 (some 179)) 177 8 (some 183) := ⟨R, (by rw [zup_id (f := R) r2, zup_id (f := R) r8])⟩
  obtain ⟨I, rfl⟩ : ∃ I2 : Nat → Nat → Int, I = zup (I2) 177 44 (-1) := ⟨I, (by rw [zup_id (f := I) i177_44])⟩
  exact zGo 36 _ _ _ _ _
noncomputable def gm21 (h : zH) : zH := sI (sI (sI (h) 183 19 0) 183 4 1) 179 2295 (-1)
theorem qm_26 {h : zH} (hn : hN h = 197) (t177 : hT h 177 = 12) (l177 : hL h 177 = 47) (t179 : hT h 179 = 22) (l179 : hL h 179 = 2342) (t183 : hT h 183 = 22) (l183 : hL h 183 = 240) (r2 : hR h 177 2 = some 179) (r8 : hR h 177 8 = some 183) (i177_46 : hI h 177 46 = 0) (i177_44 : hI h 177 44 = (-1)) : zY 205 151 [some (zR (some 177)), some (zI 2), some (zI 1), some (zI 10)] [zR (some 183)] h = zY 205 285 [some (zR (some 177)), some (zI 2), some (zI 1), some (zI 10)] [zI 2319, zR (some 179)] (gm21 h) := by
  obtain ⟨hN0, U, T, L, R, I, J, F, D⟩ := h
  obtain rfl : hN0 = 197 := hn
  obtain ⟨T, rfl⟩ : ∃ T2 : Nat → Nat, T = zu1 (zu1 (zu1 (T2) 177 12) 179 22) 183 22 := ⟨T, (by rw [zu1_id (f := T) t177, zu1_id (f := T) t179, zu1_id (f := T) t183])⟩
  obtain ⟨L, rfl⟩ : ∃ L2 : Nat → Nat, L = zu1 (zu1 (zu1 (L2) 177 47) 179 2342) 183 240 := ⟨L, (by rw [zu1_id (f := L) l177, zu1_id (f := L) l179, zu1_id (f := L) l183])⟩
  obtain ⟨R, rfl⟩ : ∃ R2 : Nat → Nat → Option Nat, R = zup (zup (R2) 177 2 (some 179)) 177 8 (some 183) := ⟨R, (by rw [zup_id (f := R) r2, zup_id (f := R) r8])⟩
  obtain ⟨I, rfl⟩ : ∃ I2 : Nat → Nat → Int, I = zup (zup (I2) 177 46 0) 177 44 (-1) := ⟨I, (by rw [zup_id (f := I) i177_46, zup_id (f := I) i177_44])⟩
  exact zGo 36 _ _ _ _ _
noncomputable def gm22 (h : zH) : zH := sI (sI (h) 179 2319 10) 177 46 1
theorem qm_27 {h : zH} (hn : hN h = 197) (t177 : hT h 177 = 12) (l177 : hL h 177 = 47) (t179 : hT h 179 = 22) (l179 : hL h 179 = 2342) (t183 : hT h 183 = 22) (l183 : hL h 183 = 240) (r2 : hR h 177 2 = some 179) (r8 : hR h 177 8 = some 183) : zY 205 285 [some (zR (some 177)), some (zI 2), some (zI 1), some (zI 10)] [zI 2319, zR (some 179)] h = some (.inl (some (zI 1)), (gm22 h)) := by
  obtain ⟨hN0, U, T, L, R, I, J, F, D⟩ := h
  obtain rfl : hN0 = 197 := hn
  obtain ⟨T, rfl⟩ : ∃ T2 : Nat → Nat, T = zu1 (zu1 (zu1 (T2) 177 12) 179 22) 183 22 := ⟨T, (by rw [zu1_id (f := T) t177, zu1_id (f := T) t179, zu1_id (f := T) t183])⟩
  obtain ⟨L, rfl⟩ : ∃ L2 : Nat → Nat, L = zu1 (zu1 (zu1 (L2) 177 47) 179 2342) 183 240 := ⟨L, (by rw [zu1_id (f := L) l177, zu1_id (f := L) l179, zu1_id (f := L) l183])⟩
  obtain ⟨R, rfl⟩ : ∃ R2 : Nat → Nat → Option Nat, R = zup (zup (R2) 177 2 (some 179)) 177 8 (some 183) := ⟨R, (by rw [zup_id (f := R) r2, zup_id (f := R) r8])⟩
  exact zGo 7 _ _ _ _ _
theorem qm_28 {h : zH} (hn : hN h = 197) (t177 : hT h 177 = 12) (l177 : hL h 177 = 47) (t179 : hT h 179 = 22) (l179 : hL h 179 = 2342) (t183 : hT h 183 = 22) (l183 : hL h 183 = 240) (r2 : hR h 177 2 = some 179) (r8 : hR h 177 8 = some 183) : zY 203 914 [some (zR (some 177)), some (zI 0)] [zI 1] h = zBack zY 203 921 924 [some (zR (some 177)), some (zI 1)] [] (zC 204 [zR (some 177), zI 3, zI 13, zI 0, zI 4] h) := by
  obtain ⟨hN0, U, T, L, R, I, J, F, D⟩ := h
  obtain rfl : hN0 = 197 := hn
  obtain ⟨T, rfl⟩ : ∃ T2 : Nat → Nat, T = zu1 (zu1 (zu1 (T2) 177 12) 179 22) 183 22 := ⟨T, (by rw [zu1_id (f := T) t177, zu1_id (f := T) t179, zu1_id (f := T) t183])⟩
  obtain ⟨L, rfl⟩ : ∃ L2 : Nat → Nat, L = zu1 (zu1 (zu1 (L2) 177 47) 179 2342) 183 240 := ⟨L, (by rw [zu1_id (f := L) l177, zu1_id (f := L) l179, zu1_id (f := L) l183])⟩
  obtain ⟨R, rfl⟩ : ∃ R2 : Nat → Nat → Option Nat, R = zup (zup (R2) 177 2 (some 179)) 177 8 (some 183) := ⟨R, (by rw [zup_id (f := R) r2, zup_id (f := R) r8])⟩
  exact zGo 7 _ _ _ _ _
noncomputable def gm23 (h : zH) : zH := sI (sI (sI (sI (h) 179 93 3) 179 94 13) 179 95 0) 179 96 4
theorem qm_29 {h : zH} (hn : hN h = 197) (t177 : hT h 177 = 12) (l177 : hL h 177 = 47) (t179 : hT h 179 = 22) (l179 : hL h 179 = 2342) (t183 : hT h 183 = 22) (l183 : hL h 183 = 240) (r2 : hR h 177 2 = some 179) (r8 : hR h 177 8 = some 183) : zC 204 [zR (some 177), zI 3, zI 13, zI 0, zI 4] h = some (.inl none, (gm23 h)) := by
  obtain ⟨hN0, U, T, L, R, I, J, F, D⟩ := h
  obtain rfl : hN0 = 197 := hn
  obtain ⟨T, rfl⟩ : ∃ T2 : Nat → Nat, T = zu1 (zu1 (zu1 (T2) 177 12) 179 22) 183 22 := ⟨T, (by rw [zu1_id (f := T) t177, zu1_id (f := T) t179, zu1_id (f := T) t183])⟩
  obtain ⟨L, rfl⟩ : ∃ L2 : Nat → Nat, L = zu1 (zu1 (zu1 (L2) 177 47) 179 2342) 183 240 := ⟨L, (by rw [zu1_id (f := L) l177, zu1_id (f := L) l179, zu1_id (f := L) l183])⟩
  obtain ⟨R, rfl⟩ : ∃ R2 : Nat → Nat → Option Nat, R = zup (zup (R2) 177 2 (some 179)) 177 8 (some 183) := ⟨R, (by rw [zup_id (f := R) r2, zup_id (f := R) r8])⟩
  exact zGo 35 _ _ _ _ _
theorem qm_30 {h : zH} (hn : hN h = 197) (t177 : hT h 177 = 12) (l177 : hL h 177 = 47) (t179 : hT h 179 = 22) (l179 : hL h 179 = 2342) (t183 : hT h 183 = 22) (l183 : hL h 183 = 240) (r2 : hR h 177 2 = some 179) (r8 : hR h 177 8 = some 183) : zY 203 924 [some (zR (some 177)), some (zI 1)] [] h = zBack zY 203 931 934 [some (zR (some 177)), some (zI 1)] [] (zC 204 [zR (some 177), zI 27, zI 12, zI 5, zI 2] h) := by
  obtain ⟨hN0, U, T, L, R, I, J, F, D⟩ := h
  obtain rfl : hN0 = 197 := hn
  obtain ⟨T, rfl⟩ : ∃ T2 : Nat → Nat, T = zu1 (zu1 (zu1 (T2) 177 12) 179 22) 183 22 := ⟨T, (by rw [zu1_id (f := T) t177, zu1_id (f := T) t179, zu1_id (f := T) t183])⟩
  obtain ⟨L, rfl⟩ : ∃ L2 : Nat → Nat, L = zu1 (zu1 (zu1 (L2) 177 47) 179 2342) 183 240 := ⟨L, (by rw [zu1_id (f := L) l177, zu1_id (f := L) l179, zu1_id (f := L) l183])⟩
  obtain ⟨R, rfl⟩ : ∃ R2 : Nat → Nat → Option Nat, R = zup (zup (R2) 177 2 (some 179)) 177 8 (some 183) := ⟨R, (by rw [zup_id (f := R) r2, zup_id (f := R) r8])⟩
  exact zGo 6 _ _ _ _ _
noncomputable def gm24 (h : zH) : zH := sI (sI (sI (sI (h) 179 837 3) 179 838 12) 179 839 5) 179 840 2
theorem qm_31 {h : zH} (hn : hN h = 197) (t177 : hT h 177 = 12) (l177 : hL h 177 = 47) (t179 : hT h 179 = 22) (l179 : hL h 179 = 2342) (t183 : hT h 183 = 22) (l183 : hL h 183 = 240) (r2 : hR h 177 2 = some 179) (r8 : hR h 177 8 = some 183) : zC 204 [zR (some 177), zI 27, zI 12, zI 5, zI 2] h = some (.inl none, (gm24 h)) := by
  obtain ⟨hN0, U, T, L, R, I, J, F, D⟩ := h
  obtain rfl : hN0 = 197 := hn
  obtain ⟨T, rfl⟩ : ∃ T2 : Nat → Nat, T = zu1 (zu1 (zu1 (T2) 177 12) 179 22) 183 22 := ⟨T, (by rw [zu1_id (f := T) t177, zu1_id (f := T) t179, zu1_id (f := T) t183])⟩
  obtain ⟨L, rfl⟩ : ∃ L2 : Nat → Nat, L = zu1 (zu1 (zu1 (L2) 177 47) 179 2342) 183 240 := ⟨L, (by rw [zu1_id (f := L) l177, zu1_id (f := L) l179, zu1_id (f := L) l183])⟩
  obtain ⟨R, rfl⟩ : ∃ R2 : Nat → Nat → Option Nat, R = zup (zup (R2) 177 2 (some 179)) 177 8 (some 183) := ⟨R, (by rw [zup_id (f := R) r2, zup_id (f := R) r8])⟩
  exact zGo 35 _ _ _ _ _
noncomputable def gm25 (h : zH) : zH := sI (sI (sI (sI (h) 179 1581 1) 179 1582 4) 177 44 1) 177 46 (-1)
theorem qm_32 {h : zH} (hn : hN h = 197) (t177 : hT h 177 = 12) (l177 : hL h 177 = 47) (t179 : hT h 179 = 22) (l179 : hL h 179 = 2342) (t183 : hT h 183 = 22) (l183 : hL h 183 = 240) (r2 : hR h 177 2 = some 179) (r8 : hR h 177 8 = some 183) : zY 203 934 [some (zR (some 177)), some (zI 1)] [] h = zBack zY 203 964 967 [some (zR (some 177)), some (zI 1)] [] (zC 205 [zR (some 177), zI 0] (gm25 h)) := by
  obtain ⟨hN0, U, T, L, R, I, J, F, D⟩ := h
  obtain rfl : hN0 = 197 := hn
  obtain ⟨T, rfl⟩ : ∃ T2 : Nat → Nat, T = zu1 (zu1 (zu1 (T2) 177 12) 179 22) 183 22 := ⟨T, (by rw [zu1_id (f := T) t177, zu1_id (f := T) t179, zu1_id (f := T) t183])⟩
  obtain ⟨L, rfl⟩ : ∃ L2 : Nat → Nat, L = zu1 (zu1 (zu1 (L2) 177 47) 179 2342) 183 240 := ⟨L, (by rw [zu1_id (f := L) l177, zu1_id (f := L) l179, zu1_id (f := L) l183])⟩
  obtain ⟨R, rfl⟩ : ∃ R2 : Nat → Nat → Option Nat, R = zup (zup (R2) 177 2 (some 179)) 177 8 (some 183) := ⟨R, (by rw [zup_id (f := R) r2, zup_id (f := R) r8])⟩
  exact zGo 19 _ _ _ _ _
noncomputable def gm26 (h : zH) : zH := sI (sI (sI (h) 183 27 (-1)) 177 10 3) 183 20 0
theorem qm_33 {h : zH} (hn : hN h = 197) (t177 : hT h 177 = 12) (l177 : hL h 177 = 47) (t179 : hT h 179 = 22) (l179 : hL h 179 = 2342) (t183 : hT h 183 = 22) (l183 : hL h 183 = 240) (r2 : hR h 177 2 = some 179) (r8 : hR h 177 8 = some 183) (i177_10 : hI h 177 10 = 2) : zC 205 [zR (some 177), zI 0] h = zY 205 62 [some (zR (some 177)), some (zI 0), some (zI 2), some (zI 20)] [zI 20, zR (some 183)] (gm26 h) := by
  obtain ⟨hN0, U, T, L, R, I, J, F, D⟩ := h
  obtain rfl : hN0 = 197 := hn
  obtain ⟨T, rfl⟩ : ∃ T2 : Nat → Nat, T = zu1 (zu1 (zu1 (T2) 177 12) 179 22) 183 22 := ⟨T, (by rw [zu1_id (f := T) t177, zu1_id (f := T) t179, zu1_id (f := T) t183])⟩
  obtain ⟨L, rfl⟩ : ∃ L2 : Nat → Nat, L = zu1 (zu1 (zu1 (L2) 177 47) 179 2342) 183 240 := ⟨L, (by rw [zu1_id (f := L) l177, zu1_id (f := L) l179, zu1_id (f := L) l183])⟩
  obtain ⟨R, rfl⟩ : ∃ R2 : Nat → Nat → Option Nat, R = zup (zup (R2) 177 2 (some 179)) 177 8 (some 183) := ⟨R, (by rw [zup_id (f := R) r2, zup_id (f := R) r8])⟩
  obtain ⟨I, rfl⟩ : ∃ I2 : Nat → Nat → Int, I = zup (I2) 177 10 2 := ⟨I, (by rw [zup_id (f := I) i177_10])⟩
  exact zGo 36 _ _ _ _ _
noncomputable def gm27 (h : zH) : zH := sI (h) 183 21 (-1)
theorem qm_34 {h : zH} (hn : hN h = 197) (t177 : hT h 177 = 12) (l177 : hL h 177 = 47) (t179 : hT h 179 = 22) (l179 : hL h 179 = 2342) (t183 : hT h 183 = 22) (l183 : hL h 183 = 240) (r2 : hR h 177 2 = some 179) (r8 : hR h 177 8 = some 183) (i177_44 : hI h 177 44 = 1) : zY 205 62 [some (zR (some 177)), some (zI 0), some (zI 2), some (zI 20)] [zI 20, zR (some 183)] h = zBack zY 205 91 94 [some (zR (some 177)), some (zI 0), some (zI 2), some (zI 20)] [zI 22, zR (some 183)] (zC 207 [zR (some 177), zI 1, zI 2] (gm27 h)) := by
  obtain ⟨hN0, U, T, L, R, I, J, F, D⟩ := h
  obtain rfl : hN0 = 197 := hn
  obtain ⟨T, rfl⟩ : ∃ T2 : Nat → Nat, T = zu1 (zu1 (zu1 (T2) 177 12) 179 22) 183 22 := ⟨T, (by rw [zu1_id (f := T) t177, zu1_id (f := T) t179, zu1_id (f := T) t183])⟩
  obtain ⟨L, rfl⟩ : ∃ L2 : Nat → Nat, L = zu1 (zu1 (zu1 (L2) 177 47) 179 2342) 183 240 := ⟨L, (by rw [zu1_id (f := L) l177, zu1_id (f := L) l179, zu1_id (f := L) l183])⟩
  obtain ⟨R, rfl⟩ : ∃ R2 : Nat → Nat → Option Nat, R = zup (zup (R2) 177 2 (some 179)) 177 8 (some 183) := ⟨R, (by rw [zup_id (f := R) r2, zup_id (f := R) r8])⟩
  obtain ⟨I, rfl⟩ : ∃ I2 : Nat → Nat → Int, I = zup (I2) 177 44 1 := ⟨I, (by rw [zup_id (f := I) i177_44])⟩
  exact zGo 18 _ _ _ _ _
theorem qm_35 {h : zH} (hn : hN h = 197) (t177 : hT h 177 = 12) (l177 : hL h 177 = 47) (t179 : hT h 179 = 22) (l179 : hL h 179 = 2342) (t183 : hT h 183 = 22) (l183 : hL h 183 = 240) (r2 : hR h 177 2 = some 179) (r8 : hR h 177 8 = some 183) (i183_12 : hI h 183 12 = 0) : zC 207 [zR (some 177), zI 1, zI 2] h = some (.inl (some (zI 0)), h) := by
  obtain ⟨hN0, U, T, L, R, I, J, F, D⟩ := h
  obtain rfl : hN0 = 197 := hn
  obtain ⟨T, rfl⟩ : ∃ T2 : Nat → Nat, T = zu1 (zu1 (zu1 (T2) 177 12) 179 22) 183 22 := ⟨T, (by rw [zu1_id (f := T) t177, zu1_id (f := T) t179, zu1_id (f := T) t183])⟩
  obtain ⟨L, rfl⟩ : ∃ L2 : Nat → Nat, L = zu1 (zu1 (zu1 (L2) 177 47) 179 2342) 183 240 := ⟨L, (by rw [zu1_id (f := L) l177, zu1_id (f := L) l179, zu1_id (f := L) l183])⟩
  obtain ⟨R, rfl⟩ : ∃ R2 : Nat → Nat → Option Nat, R = zup (zup (R2) 177 2 (some 179)) 177 8 (some 183) := ⟨R, (by rw [zup_id (f := R) r2, zup_id (f := R) r8])⟩
  obtain ⟨I, rfl⟩ : ∃ I2 : Nat → Nat → Int, I = zup (I2) 183 12 0 := ⟨I, (by rw [zup_id (f := I) i183_12])⟩
  exact zGo 9 _ _ _ _ _
noncomputable def gm28 (h : zH) : zH := sI (sI (sI (sI (sI (h) 183 22 1) 183 23 1) 183 24 (-1)) 183 25 (-1)) 183 26 (-1)
theorem qm_36 {h : zH} (hn : hN h = 197) (t177 : hT h 177 = 12) (l177 : hL h 177 = 47) (t179 : hT h 179 = 22) (l179 : hL h 179 = 2342) (t183 : hT h 183 = 22) (l183 : hL h 183 = 240) (r2 : hR h 177 2 = some 179) (r8 : hR h 177 8 = some 183) (i177_44 : hI h 177 44 = 1) : zY 205 94 [some (zR (some 177)), some (zI 0), some (zI 2), some (zI 20)] [zI 0, zI 22, zR (some 183)] h = zY 205 144 [some (zR (some 177)), some (zI 0), some (zI 2), some (zI 20)] [zI 8, zI 20, zR (some 183)] (gm28 h) := by
  obtain ⟨hN0, U, T, L, R, I, J, F, D⟩ := h
  obtain rfl : hN0 = 197 := hn
  obtain ⟨T, rfl⟩ : ∃ T2 : Nat → Nat, T = zu1 (zu1 (zu1 (T2) 177 12) 179 22) 183 22 := ⟨T, (by rw [zu1_id (f := T) t177, zu1_id (f := T) t179, zu1_id (f := T) t183])⟩
  obtain ⟨L, rfl⟩ : ∃ L2 : Nat → Nat, L = zu1 (zu1 (zu1 (L2) 177 47) 179 2342) 183 240 := ⟨L, (by rw [zu1_id (f := L) l177, zu1_id (f := L) l179, zu1_id (f := L) l183])⟩
  obtain ⟨R, rfl⟩ : ∃ R2 : Nat → Nat → Option Nat, R = zup (zup (R2) 177 2 (some 179)) 177 8 (some 183) := ⟨R, (by rw [zup_id (f := R) r2, zup_id (f := R) r8])⟩
  obtain ⟨I, rfl⟩ : ∃ I2 : Nat → Nat → Int, I = zup (I2) 177 44 1 := ⟨I, (by rw [zup_id (f := I) i177_44])⟩
  exact zGo 36 _ _ _ _ _
noncomputable def gm29 (h : zH) : zH := sI (sI (sI (h) 183 28 0) 183 29 0) 183 15 2
theorem qm_37 {h : zH} (hn : hN h = 197) (t177 : hT h 177 = 12) (l177 : hL h 177 = 47) (t179 : hT h 179 = 22) (l179 : hL h 179 = 2342) (t183 : hT h 183 = 22) (l183 : hL h 183 = 240) (r2 : hR h 177 2 = some 179) (r8 : hR h 177 8 = some 183) (i177_46 : hI h 177 46 = (-1)) (i177_44 : hI h 177 44 = 1) (i177_45 : hI h 177 45 = 0) : zY 205 144 [some (zR (some 177)), some (zI 0), some (zI 2), some (zI 20)] [zI 8, zI 20, zR (some 183)] h = zY 205 235 [some (zR (some 177)), some (zI 0), some (zI 2), some (zI 20)] [zR (some 177)] (gm29 h) := by
  obtain ⟨hN0, U, T, L, R, I, J, F, D⟩ := h
  obtain rfl : hN0 = 197 := hn
  obtain ⟨T, rfl⟩ : ∃ T2 : Nat → Nat, T = zu1 (zu1 (zu1 (T2) 177 12) 179 22) 183 22 := ⟨T, (by rw [zu1_id (f := T) t177, zu1_id (f := T) t179, zu1_id (f := T) t183])⟩
  obtain ⟨L, rfl⟩ : ∃ L2 : Nat → Nat, L = zu1 (zu1 (zu1 (L2) 177 47) 179 2342) 183 240 := ⟨L, (by rw [zu1_id (f := L) l177, zu1_id (f := L) l179, zu1_id (f := L) l183])⟩
  obtain ⟨R, rfl⟩ : ∃ R2 : Nat → Nat → Option Nat, R = zup (zup (R2) 177 2 (some 179)) 177 8 (some 183) := ⟨R, (by rw [zup_id (f := R) r2, zup_id (f := R) r8])⟩
  obtain ⟨I, rfl⟩ : ∃ I2 : Nat → Nat → Int, I = zup (zup (zup (I2) 177 46 (-1)) 177 44 1) 177 45 0 := ⟨I, (by rw [zup_id (f := I) i177_46, zup_id (f := I) i177_44, zup_id (f := I) i177_45])⟩
  exact zGo 36 _ _ _ _ _
noncomputable def gm30 (h : zH) : zH := sI (sI (sI (sI (h) 183 18 1) 179 2296 (-1)) 179 2320 10) 177 46 2
theorem qm_38 {h : zH} (hn : hN h = 197) (t177 : hT h 177 = 12) (l177 : hL h 177 = 47) (t179 : hT h 179 = 22) (l179 : hL h 179 = 2342) (t183 : hT h 183 = 22) (l183 : hL h 183 = 240) (r2 : hR h 177 2 = some 179) (r8 : hR h 177 8 = some 183) (i177_44 : hI h 177 44 = 1) (i177_45 : hI h 177 45 = 0) (i183_18 : hI h 183 18 = 0) : zY 205 235 [some (zR (some 177)), some (zI 0), some (zI 2), some (zI 20)] [zR (some 177)] h = some (.inl (some (zI 2)), (gm30 h)) := by
  obtain ⟨hN0, U, T, L, R, I, J, F, D⟩ := h
  obtain rfl : hN0 = 197 := hn
  obtain ⟨T, rfl⟩ : ∃ T2 : Nat → Nat, T = zu1 (zu1 (zu1 (T2) 177 12) 179 22) 183 22 := ⟨T, (by rw [zu1_id (f := T) t177, zu1_id (f := T) t179, zu1_id (f := T) t183])⟩
  obtain ⟨L, rfl⟩ : ∃ L2 : Nat → Nat, L = zu1 (zu1 (zu1 (L2) 177 47) 179 2342) 183 240 := ⟨L, (by rw [zu1_id (f := L) l177, zu1_id (f := L) l179, zu1_id (f := L) l183])⟩
  obtain ⟨R, rfl⟩ : ∃ R2 : Nat → Nat → Option Nat, R = zup (zup (R2) 177 2 (some 179)) 177 8 (some 183) := ⟨R, (by rw [zup_id (f := R) r2, zup_id (f := R) r8])⟩
  obtain ⟨I, rfl⟩ : ∃ I2 : Nat → Nat → Int, I = zup (zup (zup (I2) 177 44 1) 177 45 0) 183 18 0 := ⟨I, (by rw [zup_id (f := I) i177_44, zup_id (f := I) i177_45, zup_id (f := I) i183_18])⟩
  exact zGo 34 _ _ _ _ _
noncomputable def gm31 (h : zH) : zH := sI (h) 183 21 0
theorem qm_39 {h : zH} (hn : hN h = 197) (t177 : hT h 177 = 12) (l177 : hL h 177 = 47) (t179 : hT h 179 = 22) (l179 : hL h 179 = 2342) (t183 : hT h 183 = 22) (l183 : hL h 183 = 240) (r2 : hR h 177 2 = some 179) (r8 : hR h 177 8 = some 183) : zY 203 967 [some (zR (some 177)), some (zI 1)] [zI 2] h = zBack zY 203 986 989 [some (zR (some 177)), some (zI 2)] [] (zC 204 [zR (some 177), zI 4, zI 8, zI 4, zI 1] (gm31 h)) := by
  obtain ⟨hN0, U, T, L, R, I, J, F, D⟩ := h
  obtain rfl : hN0 = 197 := hn
  obtain ⟨T, rfl⟩ : ∃ T2 : Nat → Nat, T = zu1 (zu1 (zu1 (T2) 177 12) 179 22) 183 22 := ⟨T, (by rw [zu1_id (f := T) t177, zu1_id (f := T) t179, zu1_id (f := T) t183])⟩
  obtain ⟨L, rfl⟩ : ∃ L2 : Nat → Nat, L = zu1 (zu1 (zu1 (L2) 177 47) 179 2342) 183 240 := ⟨L, (by rw [zu1_id (f := L) l177, zu1_id (f := L) l179, zu1_id (f := L) l183])⟩
  obtain ⟨R, rfl⟩ : ∃ R2 : Nat → Nat → Option Nat, R = zup (zup (R2) 177 2 (some 179)) 177 8 (some 183) := ⟨R, (by rw [zup_id (f := R) r2, zup_id (f := R) r8])⟩
  exact zGo 16 _ _ _ _ _
noncomputable def gm32 (h : zH) : zH := sI (sI (sI (sI (h) 179 124 3) 179 125 8) 179 126 4) 179 127 1
theorem qm_40 {h : zH} (hn : hN h = 197) (t177 : hT h 177 = 12) (l177 : hL h 177 = 47) (t179 : hT h 179 = 22) (l179 : hL h 179 = 2342) (t183 : hT h 183 = 22) (l183 : hL h 183 = 240) (r2 : hR h 177 2 = some 179) (r8 : hR h 177 8 = some 183) : zC 204 [zR (some 177), zI 4, zI 8, zI 4, zI 1] h = some (.inl none, (gm32 h)) := by
  obtain ⟨hN0, U, T, L, R, I, J, F, D⟩ := h
  obtain rfl : hN0 = 197 := hn
  obtain ⟨T, rfl⟩ : ∃ T2 : Nat → Nat, T = zu1 (zu1 (zu1 (T2) 177 12) 179 22) 183 22 := ⟨T, (by rw [zu1_id (f := T) t177, zu1_id (f := T) t179, zu1_id (f := T) t183])⟩
  obtain ⟨L, rfl⟩ : ∃ L2 : Nat → Nat, L = zu1 (zu1 (zu1 (L2) 177 47) 179 2342) 183 240 := ⟨L, (by rw [zu1_id (f := L) l177, zu1_id (f := L) l179, zu1_id (f := L) l183])⟩
  obtain ⟨R, rfl⟩ : ∃ R2 : Nat → Nat → Option Nat, R = zup (zup (R2) 177 2 (some 179)) 177 8 (some 183) := ⟨R, (by rw [zup_id (f := R) r2, zup_id (f := R) r8])⟩
  exact zGo 35 _ _ _ _ _
noncomputable def gm33 (h : zH) : zH := sI (sI (h) 177 44 (-1)) 177 46 1
theorem qm_41 {h : zH} (hn : hN h = 197) (t177 : hT h 177 = 12) (l177 : hL h 177 = 47) (t179 : hT h 179 = 22) (l179 : hL h 179 = 2342) (t183 : hT h 183 = 22) (l183 : hL h 183 = 240) (r2 : hR h 177 2 = some 179) (r8 : hR h 177 8 = some 183) : zY 203 989 [some (zR (some 177)), some (zI 2)] [] h = zBack zY 203 1001 1004 [some (zR (some 177)), some (zI 2)] [] (zC 205 [zR (some 177), zI 3] (gm33 h)) := by
  obtain ⟨hN0, U, T, L, R, I, J, F, D⟩ := h
  obtain rfl : hN0 = 197 := hn
  obtain ⟨T, rfl⟩ : ∃ T2 : Nat → Nat, T = zu1 (zu1 (zu1 (T2) 177 12) 179 22) 183 22 := ⟨T, (by rw [zu1_id (f := T) t177, zu1_id (f := T) t179, zu1_id (f := T) t183])⟩
  obtain ⟨L, rfl⟩ : ∃ L2 : Nat → Nat, L = zu1 (zu1 (zu1 (L2) 177 47) 179 2342) 183 240 := ⟨L, (by rw [zu1_id (f := L) l177, zu1_id (f := L) l179, zu1_id (f := L) l183])⟩
  obtain ⟨R, rfl⟩ : ∃ R2 : Nat → Nat → Option Nat, R = zup (zup (R2) 177 2 (some 179)) 177 8 (some 183) := ⟨R, (by rw [zup_id (f := R) r2, zup_id (f := R) r8])⟩
  exact zGo 9 _ _ _ _ _
theorem qm_42 {h : zH} (hn : hN h = 197) (t177 : hT h 177 = 12) (l177 : hL h 177 = 47) (t179 : hT h 179 = 22) (l179 : hL h 179 = 2342) (t183 : hT h 183 = 22) (l183 : hL h 183 = 240) (r2 : hR h 177 2 = some 179) (r8 : hR h 177 8 = some 183) (i177_10 : hI h 177 10 = 3) : zC 205 [zR (some 177), zI 3] h = zBack zY 205 30 33 [some (zR (some 177)), some (zI 3), some (zI 3), some (zI 30)] [zI 37, zR (some 183)] (zC 206 [zR (some 177), zI 3] h) := by
  obtain ⟨hN0, U, T, L, R, I, J, F, D⟩ := h
  obtain rfl : hN0 = 197 := hn
  obtain ⟨T, rfl⟩ : ∃ T2 : Nat → Nat, T = zu1 (zu1 (zu1 (T2) 177 12) 179 22) 183 22 := ⟨T, (by rw [zu1_id (f := T) t177, zu1_id (f := T) t179, zu1_id (f := T) t183])⟩
  obtain ⟨L, rfl⟩ : ∃ L2 : Nat → Nat, L = zu1 (zu1 (zu1 (L2) 177 47) 179 2342) 183 240 := ⟨L, (by rw [zu1_id (f := L) l177, zu1_id (f := L) l179, zu1_id (f := L) l183])⟩
  obtain ⟨R, rfl⟩ : ∃ R2 : Nat → Nat → Option Nat, R = zup (zup (R2) 177 2 (some 179)) 177 8 (some 183) := ⟨R, (by rw [zup_id (f := R) r2, zup_id (f := R) r8])⟩
  obtain ⟨I, rfl⟩ : ∃ I2 : Nat → Nat → Int, I = zup (I2) 177 10 3 := ⟨I, (by rw [zup_id (f := I) i177_10])⟩
  exact zGo 21 _ _ _ _ _
theorem qm_43 {h : zH} (hn : hN h = 197) (t177 : hT h 177 = 12) (l177 : hL h 177 = 47) (t179 : hT h 179 = 22) (l179 : hL h 179 = 2342) (t183 : hT h 183 = 22) (l183 : hL h 183 = 240) (r2 : hR h 177 2 = some 179) (r8 : hR h 177 8 = some 183) (i177_10 : hI h 177 10 = 3) : zC 206 [zR (some 177), zI 3] h = zBack zY 206 16 19 [some (zR (some 177)), some (zI 3), some (zI 0), some (zI 0)] [zI 0] (zC 207 [zR (some 177), zI 0, zI 0] h) := by
  obtain ⟨hN0, U, T, L, R, I, J, F, D⟩ := h
  obtain rfl : hN0 = 197 := hn
  obtain ⟨T, rfl⟩ : ∃ T2 : Nat → Nat, T = zu1 (zu1 (zu1 (T2) 177 12) 179 22) 183 22 := ⟨T, (by rw [zu1_id (f := T) t177, zu1_id (f := T) t179, zu1_id (f := T) t183])⟩
  obtain ⟨L, rfl⟩ : ∃ L2 : Nat → Nat, L = zu1 (zu1 (zu1 (L2) 177 47) 179 2342) 183 240 := ⟨L, (by rw [zu1_id (f := L) l177, zu1_id (f := L) l179, zu1_id (f := L) l183])⟩
  obtain ⟨R, rfl⟩ : ∃ R2 : Nat → Nat → Option Nat, R = zup (zup (R2) 177 2 (some 179)) 177 8 (some 183) := ⟨R, (by rw [zup_id (f := R) r2, zup_id (f := R) r8])⟩
  obtain ⟨I, rfl⟩ : ∃ I2 : Nat → Nat → Int, I = zup (I2) 177 10 3 := ⟨I, (by rw [zup_id (f := I) i177_10])⟩
  exact zGo 13 _ _ _ _ _
theorem qm_44 {h : zH} (hn : hN h = 197) (t177 : hT h 177 = 12) (l177 : hL h 177 = 47) (t179 : hT h 179 = 22) (l179 : hL h 179 = 2342) (t183 : hT h 183 = 22) (l183 : hL h 183 = 240) (r2 : hR h 177 2 = some 179) (r8 : hR h 177 8 = some 183) (i183_0 : hI h 183 0 = 0) : zC 207 [zR (some 177), zI 0, zI 0] h = some (.inl (some (zI 0)), h) := by
  obtain ⟨hN0, U, T, L, R, I, J, F, D⟩ := h
  obtain rfl : hN0 = 197 := hn
  obtain ⟨T, rfl⟩ : ∃ T2 : Nat → Nat, T = zu1 (zu1 (zu1 (T2) 177 12) 179 22) 183 22 := ⟨T, (by rw [zu1_id (f := T) t177, zu1_id (f := T) t179, zu1_id (f := T) t183])⟩
  obtain ⟨L, rfl⟩ : ∃ L2 : Nat → Nat, L = zu1 (zu1 (zu1 (L2) 177 47) 179 2342) 183 240 := ⟨L, (by rw [zu1_id (f := L) l177, zu1_id (f := L) l179, zu1_id (f := L) l183])⟩
  obtain ⟨R, rfl⟩ : ∃ R2 : Nat → Nat → Option Nat, R = zup (zup (R2) 177 2 (some 179)) 177 8 (some 183) := ⟨R, (by rw [zup_id (f := R) r2, zup_id (f := R) r8])⟩
  obtain ⟨I, rfl⟩ : ∃ I2 : Nat → Nat → Int, I = zup (I2) 183 0 0 := ⟨I, (by rw [zup_id (f := I) i183_0])⟩
  exact zGo 9 _ _ _ _ _
theorem qm_45 {h : zH} (hn : hN h = 197) (t177 : hT h 177 = 12) (l177 : hL h 177 = 47) (t179 : hT h 179 = 22) (l179 : hL h 179 = 2342) (t183 : hT h 183 = 22) (l183 : hL h 183 = 240) (r2 : hR h 177 2 = some 179) (r8 : hR h 177 8 = some 183) (i177_10 : hI h 177 10 = 3) : zY 206 19 [some (zR (some 177)), some (zI 3), some (zI 0), some (zI 0)] [zI 0, zI 0] h = zBack zY 206 16 19 [some (zR (some 177)), some (zI 3), some (zI 0), some (zI 1)] [zI 0] (zC 207 [zR (some 177), zI 1, zI 0] h) := by
  obtain ⟨hN0, U, T, L, R, I, J, F, D⟩ := h
  obtain rfl : hN0 = 197 := hn
  obtain ⟨T, rfl⟩ : ∃ T2 : Nat → Nat, T = zu1 (zu1 (zu1 (T2) 177 12) 179 22) 183 22 := ⟨T, (by rw [zu1_id (f := T) t177, zu1_id (f := T) t179, zu1_id (f := T) t183])⟩
  obtain ⟨L, rfl⟩ : ∃ L2 : Nat → Nat, L = zu1 (zu1 (zu1 (L2) 177 47) 179 2342) 183 240 := ⟨L, (by rw [zu1_id (f := L) l177, zu1_id (f := L) l179, zu1_id (f := L) l183])⟩
  obtain ⟨R, rfl⟩ : ∃ R2 : Nat → Nat → Option Nat, R = zup (zup (R2) 177 2 (some 179)) 177 8 (some 183) := ⟨R, (by rw [zup_id (f := R) r2, zup_id (f := R) r8])⟩
  obtain ⟨I, rfl⟩ : ∃ I2 : Nat → Nat → Int, I = zup (I2) 177 10 3 := ⟨I, (by rw [zup_id (f := I) i177_10])⟩
  exact zGo 16 _ _ _ _ _
theorem qm_46 {h : zH} (hn : hN h = 197) (t177 : hT h 177 = 12) (l177 : hL h 177 = 47) (t179 : hT h 179 = 22) (l179 : hL h 179 = 2342) (t183 : hT h 183 = 22) (l183 : hL h 183 = 240) (r2 : hR h 177 2 = some 179) (r8 : hR h 177 8 = some 183) (i183_10 : hI h 183 10 = 2) : zC 207 [zR (some 177), zI 1, zI 0] h = some (.inl (some (zI 2)), h) := by
  obtain ⟨hN0, U, T, L, R, I, J, F, D⟩ := h
  obtain rfl : hN0 = 197 := hn
  obtain ⟨T, rfl⟩ : ∃ T2 : Nat → Nat, T = zu1 (zu1 (zu1 (T2) 177 12) 179 22) 183 22 := ⟨T, (by rw [zu1_id (f := T) t177, zu1_id (f := T) t179, zu1_id (f := T) t183])⟩
  obtain ⟨L, rfl⟩ : ∃ L2 : Nat → Nat, L = zu1 (zu1 (zu1 (L2) 177 47) 179 2342) 183 240 := ⟨L, (by rw [zu1_id (f := L) l177, zu1_id (f := L) l179, zu1_id (f := L) l183])⟩
  obtain ⟨R, rfl⟩ : ∃ R2 : Nat → Nat → Option Nat, R = zup (zup (R2) 177 2 (some 179)) 177 8 (some 183) := ⟨R, (by rw [zup_id (f := R) r2, zup_id (f := R) r8])⟩
  obtain ⟨I, rfl⟩ : ∃ I2 : Nat → Nat → Int, I = zup (I2) 183 10 2 := ⟨I, (by rw [zup_id (f := I) i183_10])⟩
  exact zGo 9 _ _ _ _ _
theorem qm_47 {h : zH} (hn : hN h = 197) (t177 : hT h 177 = 12) (l177 : hL h 177 = 47) (t179 : hT h 179 = 22) (l179 : hL h 179 = 2342) (t183 : hT h 183 = 22) (l183 : hL h 183 = 240) (r2 : hR h 177 2 = some 179) (r8 : hR h 177 8 = some 183) (i177_10 : hI h 177 10 = 3) : zY 206 19 [some (zR (some 177)), some (zI 3), some (zI 0), some (zI 1)] [zI 2, zI 0] h = zBack zY 206 16 19 [some (zR (some 177)), some (zI 3), some (zI 0), some (zI 2)] [zI 0] (zC 207 [zR (some 177), zI 2, zI 0] h) := by
  obtain ⟨hN0, U, T, L, R, I, J, F, D⟩ := h
  obtain rfl : hN0 = 197 := hn
  obtain ⟨T, rfl⟩ : ∃ T2 : Nat → Nat, T = zu1 (zu1 (zu1 (T2) 177 12) 179 22) 183 22 := ⟨T, (by rw [zu1_id (f := T) t177, zu1_id (f := T) t179, zu1_id (f := T) t183])⟩
  obtain ⟨L, rfl⟩ : ∃ L2 : Nat → Nat, L = zu1 (zu1 (zu1 (L2) 177 47) 179 2342) 183 240 := ⟨L, (by rw [zu1_id (f := L) l177, zu1_id (f := L) l179, zu1_id (f := L) l183])⟩
  obtain ⟨R, rfl⟩ : ∃ R2 : Nat → Nat → Option Nat, R = zup (zup (R2) 177 2 (some 179)) 177 8 (some 183) := ⟨R, (by rw [zup_id (f := R) r2, zup_id (f := R) r8])⟩
  obtain ⟨I, rfl⟩ : ∃ I2 : Nat → Nat → Int, I = zup (I2) 177 10 3 := ⟨I, (by rw [zup_id (f := I) i177_10])⟩
  exact zGo 16 _ _ _ _ _
theorem qm_48 {h : zH} (hn : hN h = 197) (t177 : hT h 177 = 12) (l177 : hL h 177 = 47) (t179 : hT h 179 = 22) (l179 : hL h 179 = 2342) (t183 : hT h 183 = 22) (l183 : hL h 183 = 240) (r2 : hR h 177 2 = some 179) (r8 : hR h 177 8 = some 183) (i183_20 : hI h 183 20 = 0) : zC 207 [zR (some 177), zI 2, zI 0] h = some (.inl (some (zI 0)), h) := by
  obtain ⟨hN0, U, T, L, R, I, J, F, D⟩ := h
  obtain rfl : hN0 = 197 := hn
  obtain ⟨T, rfl⟩ : ∃ T2 : Nat → Nat, T = zu1 (zu1 (zu1 (T2) 177 12) 179 22) 183 22 := ⟨T, (by rw [zu1_id (f := T) t177, zu1_id (f := T) t179, zu1_id (f := T) t183])⟩
  obtain ⟨L, rfl⟩ : ∃ L2 : Nat → Nat, L = zu1 (zu1 (zu1 (L2) 177 47) 179 2342) 183 240 := ⟨L, (by rw [zu1_id (f := L) l177, zu1_id (f := L) l179, zu1_id (f := L) l183])⟩
  obtain ⟨R, rfl⟩ : ∃ R2 : Nat → Nat → Option Nat, R = zup (zup (R2) 177 2 (some 179)) 177 8 (some 183) := ⟨R, (by rw [zup_id (f := R) r2, zup_id (f := R) r8])⟩
  obtain ⟨I, rfl⟩ : ∃ I2 : Nat → Nat → Int, I = zup (I2) 183 20 0 := ⟨I, (by rw [zup_id (f := I) i183_20])⟩
  exact zGo 9 _ _ _ _ _
theorem qm_49 {h : zH} (hn : hN h = 197) (t177 : hT h 177 = 12) (l177 : hL h 177 = 47) (t179 : hT h 179 = 22) (l179 : hL h 179 = 2342) (t183 : hT h 183 = 22) (l183 : hL h 183 = 240) (r2 : hR h 177 2 = some 179) (r8 : hR h 177 8 = some 183) (i177_10 : hI h 177 10 = 3) : zY 206 19 [some (zR (some 177)), some (zI 3), some (zI 0), some (zI 2)] [zI 0, zI 0] h = some (.inl (some (zI 0)), h) := by
  obtain ⟨hN0, U, T, L, R, I, J, F, D⟩ := h
  obtain rfl : hN0 = 197 := hn
  obtain ⟨T, rfl⟩ : ∃ T2 : Nat → Nat, T = zu1 (zu1 (zu1 (T2) 177 12) 179 22) 183 22 := ⟨T, (by rw [zu1_id (f := T) t177, zu1_id (f := T) t179, zu1_id (f := T) t183])⟩
  obtain ⟨L, rfl⟩ : ∃ L2 : Nat → Nat, L = zu1 (zu1 (zu1 (L2) 177 47) 179 2342) 183 240 := ⟨L, (by rw [zu1_id (f := L) l177, zu1_id (f := L) l179, zu1_id (f := L) l183])⟩
  obtain ⟨R, rfl⟩ : ∃ R2 : Nat → Nat → Option Nat, R = zup (zup (R2) 177 2 (some 179)) 177 8 (some 183) := ⟨R, (by rw [zup_id (f := R) r2, zup_id (f := R) r8])⟩
  obtain ⟨I, rfl⟩ : ∃ I2 : Nat → Nat → Int, I = zup (I2) 177 10 3 := ⟨I, (by rw [zup_id (f := I) i177_10])⟩
  exact zGo 13 _ _ _ _ _
noncomputable def gm34 (h : zH) : zH := sI (sI (sI (sI (sI (h) 183 37 0) 177 10 4) 183 30 3) 183 31 (-1)) 183 32 0
theorem qm_50 {h : zH} (hn : hN h = 197) (t177 : hT h 177 = 12) (l177 : hL h 177 = 47) (t179 : hT h 179 = 22) (l179 : hL h 179 = 2342) (t183 : hT h 183 = 22) (l183 : hL h 183 = 240) (r2 : hR h 177 2 = some 179) (r8 : hR h 177 8 = some 183) (i177_10 : hI h 177 10 = 3) (i177_44 : hI h 177 44 = (-1)) : zY 205 33 [some (zR (some 177)), some (zI 3), some (zI 3), some (zI 30)] [zI 0, zI 37, zR (some 183)] h = zY 205 101 [some (zR (some 177)), some (zI 3), some (zI 3), some (zI 30)] [zR (some 183)] (gm34 h) := by
  obtain ⟨hN0, U, T, L, R, I, J, F, D⟩ := h
  obtain rfl : hN0 = 197 := hn
  obtain ⟨T, rfl⟩ : ∃ T2 : Nat → Nat, T = zu1 (zu1 (zu1 (T2) 177 12) 179 22) 183 22 := ⟨T, (by rw [zu1_id (f := T) t177, zu1_id (f := T) t179, zu1_id (f := T) t183])⟩
  obtain ⟨L, rfl⟩ : ∃ L2 : Nat → Nat, L = zu1 (zu1 (zu1 (L2) 177 47) 179 2342) 183 240 := ⟨L, (by rw [zu1_id (f := L) l177, zu1_id (f := L) l179, zu1_id (f := L) l183])⟩
  obtain ⟨R, rfl⟩ : ∃ R2 : Nat → Nat → Option Nat, R = zup (zup (R2) 177 2 (some 179)) 177 8 (some 183) := ⟨R, (by rw [zup_id (f := R) r2, zup_id (f := R) r8])⟩
  obtain ⟨I, rfl⟩ : ∃ I2 : Nat → Nat → Int, I = zup (zup (I2) 177 10 3) 177 44 (-1) := ⟨I, (by rw [zup_id (f := I) i177_10, zup_id (f := I) i177_44])⟩
  exact zGo 36 _ _ _ _ _
noncomputable def gm35 (h : zH) : zH := sI (sI (sI (sI (sI (h) 183 33 (-1)) 183 34 (-1)) 183 35 (-1)) 183 36 (-1)) 183 38 0
theorem qm_51 {h : zH} (hn : hN h = 197) (t177 : hT h 177 = 12) (l177 : hL h 177 = 47) (t179 : hT h 179 = 22) (l179 : hL h 179 = 2342) (t183 : hT h 183 = 22) (l183 : hL h 183 = 240) (r2 : hR h 177 2 = some 179) (r8 : hR h 177 8 = some 183) (i177_44 : hI h 177 44 = (-1)) : zY 205 101 [some (zR (some 177)), some (zI 3), some (zI 3), some (zI 30)] [zR (some 183)] h = zY 205 151 [some (zR (some 177)), some (zI 3), some (zI 3), some (zI 30)] [zR (some 183)] (gm35 h) := by
  obtain ⟨hN0, U, T, L, R, I, J, F, D⟩ := h
  obtain rfl : hN0 = 197 := hn
  obtain ⟨T, rfl⟩ : ∃ T2 : Nat → Nat, T = zu1 (zu1 (zu1 (T2) 177 12) 179 22) 183 22 := ⟨T, (by rw [zu1_id (f := T) t177, zu1_id (f := T) t179, zu1_id (f := T) t183])⟩
  obtain ⟨L, rfl⟩ : ∃ L2 : Nat → Nat, L = zu1 (zu1 (zu1 (L2) 177 47) 179 2342) 183 240 := ⟨L, (by rw [zu1_id (f := L) l177, zu1_id (f := L) l179, zu1_id (f := L) l183])⟩
  obtain ⟨R, rfl⟩ : ∃ R2 : Nat → Nat → Option Nat, R = zup (zup (R2) 177 2 (some 179)) 177 8 (some 183) := ⟨R, (by rw [zup_id (f := R) r2, zup_id (f := R) r8])⟩
  obtain ⟨I, rfl⟩ : ∃ I2 : Nat → Nat → Int, I = zup (I2) 177 44 (-1) := ⟨I, (by rw [zup_id (f := I) i177_44])⟩
  exact zGo 36 _ _ _ _ _
noncomputable def gm36 (h : zH) : zH := sI (sI (sI (h) 183 39 0) 183 14 3) 179 2297 (-1)
theorem qm_52 {h : zH} (hn : hN h = 197) (t177 : hT h 177 = 12) (l177 : hL h 177 = 47) (t179 : hT h 179 = 22) (l179 : hL h 179 = 2342) (t183 : hT h 183 = 22) (l183 : hL h 183 = 240) (r2 : hR h 177 2 = some 179) (r8 : hR h 177 8 = some 183) (i177_46 : hI h 177 46 = 1) (i177_44 : hI h 177 44 = (-1)) : zY 205 151 [some (zR (some 177)), some (zI 3), some (zI 3), some (zI 30)] [zR (some 183)] h = zY 205 285 [some (zR (some 177)), some (zI 3), some (zI 3), some (zI 30)] [zI 2321, zR (some 179)] (gm36 h) := by
  obtain ⟨hN0, U, T, L, R, I, J, F, D⟩ := h
  obtain rfl : hN0 = 197 := hn
  obtain ⟨T, rfl⟩ : ∃ T2 : Nat → Nat, T = zu1 (zu1 (zu1 (T2) 177 12) 179 22) 183 22 := ⟨T, (by rw [zu1_id (f := T) t177, zu1_id (f := T) t179, zu1_id (f := T) t183])⟩
  obtain ⟨L, rfl⟩ : ∃ L2 : Nat → Nat, L = zu1 (zu1 (zu1 (L2) 177 47) 179 2342) 183 240 := ⟨L, (by rw [zu1_id (f := L) l177, zu1_id (f := L) l179, zu1_id (f := L) l183])⟩
  obtain ⟨R, rfl⟩ : ∃ R2 : Nat → Nat → Option Nat, R = zup (zup (R2) 177 2 (some 179)) 177 8 (some 183) := ⟨R, (by rw [zup_id (f := R) r2, zup_id (f := R) r8])⟩
  obtain ⟨I, rfl⟩ : ∃ I2 : Nat → Nat → Int, I = zup (zup (I2) 177 46 1) 177 44 (-1) := ⟨I, (by rw [zup_id (f := I) i177_46, zup_id (f := I) i177_44])⟩
  exact zGo 36 _ _ _ _ _
noncomputable def gm37 (h : zH) : zH := sI (sI (h) 179 2321 10) 177 46 3
theorem qm_53 {h : zH} (hn : hN h = 197) (t177 : hT h 177 = 12) (l177 : hL h 177 = 47) (t179 : hT h 179 = 22) (l179 : hL h 179 = 2342) (t183 : hT h 183 = 22) (l183 : hL h 183 = 240) (r2 : hR h 177 2 = some 179) (r8 : hR h 177 8 = some 183) : zY 205 285 [some (zR (some 177)), some (zI 3), some (zI 3), some (zI 30)] [zI 2321, zR (some 179)] h = some (.inl (some (zI 3)), (gm37 h)) := by
  obtain ⟨hN0, U, T, L, R, I, J, F, D⟩ := h
  obtain rfl : hN0 = 197 := hn
  obtain ⟨T, rfl⟩ : ∃ T2 : Nat → Nat, T = zu1 (zu1 (zu1 (T2) 177 12) 179 22) 183 22 := ⟨T, (by rw [zu1_id (f := T) t177, zu1_id (f := T) t179, zu1_id (f := T) t183])⟩
  obtain ⟨L, rfl⟩ : ∃ L2 : Nat → Nat, L = zu1 (zu1 (zu1 (L2) 177 47) 179 2342) 183 240 := ⟨L, (by rw [zu1_id (f := L) l177, zu1_id (f := L) l179, zu1_id (f := L) l183])⟩
  obtain ⟨R, rfl⟩ : ∃ R2 : Nat → Nat → Option Nat, R = zup (zup (R2) 177 2 (some 179)) 177 8 (some 183) := ⟨R, (by rw [zup_id (f := R) r2, zup_id (f := R) r8])⟩
  exact zGo 7 _ _ _ _ _
theorem qm_54 {h : zH} (hn : hN h = 197) (t177 : hT h 177 = 12) (l177 : hL h 177 = 47) (t179 : hT h 179 = 22) (l179 : hL h 179 = 2342) (t183 : hT h 183 = 22) (l183 : hL h 183 = 240) (r2 : hR h 177 2 = some 179) (r8 : hR h 177 8 = some 183) : zY 203 1004 [some (zR (some 177)), some (zI 2)] [zI 3] h = some (.inl none, h) := by
  obtain ⟨hN0, U, T, L, R, I, J, F, D⟩ := h
  obtain rfl : hN0 = 197 := hn
  obtain ⟨T, rfl⟩ : ∃ T2 : Nat → Nat, T = zu1 (zu1 (zu1 (T2) 177 12) 179 22) 183 22 := ⟨T, (by rw [zu1_id (f := T) t177, zu1_id (f := T) t179, zu1_id (f := T) t183])⟩
  obtain ⟨L, rfl⟩ : ∃ L2 : Nat → Nat, L = zu1 (zu1 (zu1 (L2) 177 47) 179 2342) 183 240 := ⟨L, (by rw [zu1_id (f := L) l177, zu1_id (f := L) l179, zu1_id (f := L) l183])⟩
  obtain ⟨R, rfl⟩ : ∃ R2 : Nat → Nat → Option Nat, R = zup (zup (R2) 177 2 (some 179)) 177 8 (some 183) := ⟨R, (by rw [zup_id (f := R) r2, zup_id (f := R) r8])⟩
  exact zGo 2 _ _ _ _ _
end MINIT
