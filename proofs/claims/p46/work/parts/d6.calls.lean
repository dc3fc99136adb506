/-! The law's calls of the class that catch what is thrown. -/
section LCB
variable {h h1 h2 : zH} {p v s : Nat} {n top : Int} {R N : Nat → Int} {c : Nat} {Ol : Nat → Nat → Int} {s0 s1 : Option (Nat → Int)} {I : Nat → Int} {m : Int} {O : List Int} {ec ep : Int} {U : List Int} {x1 x2 l9 : Int} {r : (Int × zV) × MSt}
/-- what a call that catches answers: the class's answer, or a number for what was thrown -/
def rv (r : Int × zV) (a b c : Int) : Int := if r.1 = 0 then (match r.2 with | .inl x => x | _ => 0) else if r.1 = 1 then a else if r.1 = 2 then b else c
theorem rv_0 {r : Int × zV} {y a b c : Int} (e : r.1 = 0) (hy : r.2 = zI y) : rv r a b c = y := by
  unfold rv
  rw [if_pos e, hy]
theorem rv_1 {r : Int × zV} {a b c : Int} (e : r.1 = 1) : rv r a b c = a := by
  unfold rv
  rw [if_neg (by omega), if_pos e]
theorem rv_2 {r : Int × zV} {a b c : Int} (e : r.1 = 2) : rv r a b c = b := by
  unfold rv
  rw [if_neg (by omega), if_neg (by omega), if_pos e]
theorem rv_3 {r : Int × zV} {a b c : Int} (e : r.1 = 3) : rv r a b c = c := by
  unfold rv
  rw [if_neg (by omega), if_neg (by omega), if_neg (by omega)]

theorem c_L_undone (K : KC h) (C : CC h 201 [] (t3 1 0 0) r) (ty : tyI 1 r.1) : ∃ h2 p v, zC 210 [zR (some 0)] h = some (.inl (some (zI (rv r.1 (-1) 0 0))), h2) ∧ CJ h2 p v r.2 ∧ Gw Wc 200 4000 h h2 := by
  obtain ⟨h2, p, v, E, J, G⟩ := C
  obtain ⟨⟨y, hy⟩, t0, t1⟩ := ty
  have B := q_L_undone  (PTC K 0 11 rfl rfl) (PNC K 0 rfl)
  rw [E] at B
  refine ⟨h2, p, v, ?_, J, G⟩
  rcases (show r.1.1 = 0 ∨ r.1.1 = 1 by omega) with e | e
  · rw [e, if_pos rfl, hy] at B
    rw [rv_0 e hy]
    exact B.trans q_L_undone_4
  · rw [e, if_neg (by decide)] at B
    rw [rv_1 e]
    exact B.trans q_L_undone_6
theorem c_L_filled (K : KC h) (C : CC h 197 [zI x1, zI x2] (t3 3 0 0) r) (ty : tyI 2 r.1) : ∃ h2 p v, zC 211 [zR (some 0), zI x1, zI x2] h = some (.inl (some (zI (rv r.1 (-5) (-2) 0))), h2) ∧ CJ h2 p v r.2 ∧ Gw Wc 200 4000 h h2 := by
  obtain ⟨h2, p, v, E, J, G⟩ := C
  obtain ⟨⟨y, hy⟩, t0, t1⟩ := ty
  have B := q_L_filled (x1 := x1) (x2 := x2) (PTC K 0 11 rfl rfl) (PNC K 0 rfl)
  rw [E] at B
  refine ⟨h2, p, v, ?_, J, G⟩
  rcases (show r.1.1 = 0 ∨ r.1.1 = 1 ∨ r.1.1 = 2 by omega) with e | e | e
  · rw [e, if_pos rfl, hy] at B
    rw [rv_0 e hy]
    exact B.trans q_L_filled_6
  · rw [e, if_neg (by decide)] at B
    rw [rv_1 e]
    exact B.trans q_L_filled_8
  · rw [e, if_neg (by decide)] at B
    rw [rv_2 e]
    exact B.trans q_L_filled_12
theorem c_L_priced (K : KC h) (C : CC h 198 [zI x1, zI x2] (t3 3 0 0) r) (ty : tyI 2 r.1) : ∃ h2 p v, zC 212 [zR (some 0), zI x1, zI x2] h = some (.inl (some (zI (rv r.1 (-5) (-2) 0))), h2) ∧ CJ h2 p v r.2 ∧ Gw Wc 200 4000 h h2 := by
  obtain ⟨h2, p, v, E, J, G⟩ := C
  obtain ⟨⟨y, hy⟩, t0, t1⟩ := ty
  have B := q_L_priced (x1 := x1) (x2 := x2) (PTC K 0 11 rfl rfl) (PNC K 0 rfl)
  rw [E] at B
  refine ⟨h2, p, v, ?_, J, G⟩
  rcases (show r.1.1 = 0 ∨ r.1.1 = 1 ∨ r.1.1 = 2 by omega) with e | e | e
  · rw [e, if_pos rfl, hy] at B
    rw [rv_0 e hy]
    exact B.trans q_L_priced_6
  · rw [e, if_neg (by decide)] at B
    rw [rv_1 e]
    exact B.trans q_L_priced_8
  · rw [e, if_neg (by decide)] at B
    rw [rv_2 e]
    exact B.trans q_L_priced_12
theorem c_L_load (E1 : zC 209 [zR (some 0), zR (some s)] h = some (.inl (some (zI l9)), h1)) (K : KC h1) (C : CC h1 160 [zI l9] (t3 0 1 0) r) (ty : tyI 2 r.1) : ∃ h2 p v, zC 208 [zR (some 0), zR (some s)] h = some (.inl (some (zI (rv r.1 (-2) (-1) 0))), h2) ∧ CJ h2 p v r.2 ∧ Gw Wc 200 4000 h1 h2 := by
  obtain ⟨h2, p, v, E, J, G⟩ := C
  obtain ⟨⟨y, hy⟩, t0, t1⟩ := ty
  have B := q_L_load (h := h) (a0 := 0)  (a1 := s)
  rw [E1] at B
  have B := B.trans (q_L_load_5 (h := h1) (a0 := 0)  (a1 := s) (y0 := l9) (PTC K 0 11 rfl rfl) (PNC K 0 rfl))
  rw [E] at B
  refine ⟨h2, p, v, ?_, J, G⟩
  rcases (show r.1.1 = 0 ∨ r.1.1 = 1 ∨ r.1.1 = 2 by omega) with e | e | e
  · rw [e, if_pos rfl, hy] at B
    rw [rv_0 e hy]
    exact B.trans q_L_load_11
  · rw [e, if_neg (by decide)] at B
    rw [rv_1 e]
    exact B.trans q_L_load_13
  · rw [e, if_neg (by decide)] at B
    rw [rv_2 e]
    exact B.trans q_L_load_17
theorem c_L_before (E1 : zC 209 [zR (some 0), zR (some s)] h = some (.inl (some (zI l9)), h1)) (K : KC h1) (C : CC h1 192 [zI l9] (t3 0 1 0) r) (ty : tyI 2 r.1) : ∃ h2 p v, zC 213 [zR (some 0), zR (some s)] h = some (.inl (some (zI (rv r.1 (-2) (-3) 0))), h2) ∧ CJ h2 p v r.2 ∧ Gw Wc 200 4000 h1 h2 := by
  obtain ⟨h2, p, v, E, J, G⟩ := C
  obtain ⟨⟨y, hy⟩, t0, t1⟩ := ty
  have B := q_L_before (h := h) (a0 := 0)  (a1 := s)
  rw [E1] at B
  have B := B.trans (q_L_before_5 (h := h1) (a0 := 0)  (a1 := s) (y0 := l9) (PTC K 0 11 rfl rfl) (PNC K 0 rfl))
  rw [E] at B
  refine ⟨h2, p, v, ?_, J, G⟩
  rcases (show r.1.1 = 0 ∨ r.1.1 = 1 ∨ r.1.1 = 2 by omega) with e | e | e
  · rw [e, if_pos rfl, hy] at B
    rw [rv_0 e hy]
    exact B.trans q_L_before_11
  · rw [e, if_neg (by decide)] at B
    rw [rv_1 e]
    exact B.trans q_L_before_13
  · rw [e, if_neg (by decide)] at B
    rw [rv_2 e]
    exact B.trans q_L_before_17
theorem c_L_after (E1 : zC 209 [zR (some 0), zR (some s)] h = some (.inl (some (zI l9)), h1)) (K : KC h1) (C : CC h1 194 [zI l9] (t3 0 1 0) r) (ty : tyI 2 r.1) : ∃ h2 p v, zC 214 [zR (some 0), zR (some s)] h = some (.inl (some (zI (rv r.1 (-2) (-3) 0))), h2) ∧ CJ h2 p v r.2 ∧ Gw Wc 200 4000 h1 h2 := by
  obtain ⟨h2, p, v, E, J, G⟩ := C
  obtain ⟨⟨y, hy⟩, t0, t1⟩ := ty
  have B := q_L_after (h := h) (a0 := 0)  (a1 := s)
  rw [E1] at B
  have B := B.trans (q_L_after_5 (h := h1) (a0 := 0)  (a1 := s) (y0 := l9) (PTC K 0 11 rfl rfl) (PNC K 0 rfl))
  rw [E] at B
  refine ⟨h2, p, v, ?_, J, G⟩
  rcases (show r.1.1 = 0 ∨ r.1.1 = 1 ∨ r.1.1 = 2 by omega) with e | e | e
  · rw [e, if_pos rfl, hy] at B
    rw [rv_0 e hy]
    exact B.trans q_L_after_11
  · rw [e, if_neg (by decide)] at B
    rw [rv_1 e]
    exact B.trans q_L_after_13
  · rw [e, if_neg (by decide)] at B
    rw [rv_2 e]
    exact B.trans q_L_after_17
theorem c_L_keep (E1 : zC 209 [zR (some 0), zR (some s)] h = some (.inl (some (zI l9)), h1)) (K : KC h1) (C : CC h1 195 [zI x1, zI l9] (t3 3 0 1) r) (ty : tyI 3 r.1) : ∃ h2 p v, zC 221 [zR (some 0), zI x1, zR (some s)] h = some (.inl (some (zI (rv r.1 (-5) (-2) (-3)))), h2) ∧ CJ h2 p v r.2 ∧ Gw Wc 200 4000 h1 h2 := by
  obtain ⟨h2, p, v, E, J, G⟩ := C
  obtain ⟨⟨y, hy⟩, t0, t1⟩ := ty
  have B := q_L_keep (h := h) (a0 := 0) (x1 := x1) (a2 := s)
  rw [E1] at B
  have B := B.trans (q_L_keep_5 (h := h1) (a0 := 0) (x1 := x1) (a2 := s) (y0 := l9) (PTC K 0 11 rfl rfl) (PNC K 0 rfl))
  rw [E] at B
  refine ⟨h2, p, v, ?_, J, G⟩
  rcases (show r.1.1 = 0 ∨ r.1.1 = 1 ∨ r.1.1 = 2 ∨ r.1.1 = 3 by omega) with e | e | e | e
  · rw [e, if_pos rfl, hy] at B
    rw [rv_0 e hy]
    exact B.trans q_L_keep_12
  · rw [e, if_neg (by decide)] at B
    rw [rv_1 e]
    exact B.trans q_L_keep_15
  · rw [e, if_neg (by decide)] at B
    rw [rv_2 e]
    exact B.trans q_L_keep_20
  · rw [e, if_neg (by decide)] at B
    rw [rv_3 e]
    exact B.trans q_L_keep_25
theorem c_L_less (E1 : zC 209 [zR (some 0), zR (some s)] h = some (.inl (some (zI l9)), h1)) (K : KC h1) (C : CC h1 196 [zI x1, zI l9] (t3 3 0 1) r) (ty : tyI 3 r.1) : ∃ h2 p v, zC 222 [zR (some 0), zI x1, zR (some s)] h = some (.inl (some (zI (rv r.1 (-5) (-2) (-3)))), h2) ∧ CJ h2 p v r.2 ∧ Gw Wc 200 4000 h1 h2 := by
  obtain ⟨h2, p, v, E, J, G⟩ := C
  obtain ⟨⟨y, hy⟩, t0, t1⟩ := ty
  have B := q_L_less (h := h) (a0 := 0) (x1 := x1) (a2 := s)
  rw [E1] at B
  have B := B.trans (q_L_less_5 (h := h1) (a0 := 0) (x1 := x1) (a2 := s) (y0 := l9) (PTC K 0 11 rfl rfl) (PNC K 0 rfl))
  rw [E] at B
  refine ⟨h2, p, v, ?_, J, G⟩
  rcases (show r.1.1 = 0 ∨ r.1.1 = 1 ∨ r.1.1 = 2 ∨ r.1.1 = 3 by omega) with e | e | e | e
  · rw [e, if_pos rfl, hy] at B
    rw [rv_0 e hy]
    exact B.trans q_L_less_12
  · rw [e, if_neg (by decide)] at B
    rw [rv_1 e]
    exact B.trans q_L_less_15
  · rw [e, if_neg (by decide)] at B
    rw [rv_2 e]
    exact B.trans q_L_less_20
  · rw [e, if_neg (by decide)] at B
    rw [rv_3 e]
    exact B.trans q_L_less_25
end LCB
