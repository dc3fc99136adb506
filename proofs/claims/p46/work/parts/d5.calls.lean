/-! The law's calls of the class that catch what is thrown. -/
section LCA
variable {h h1 h2 : zH} {p v s : Nat} {n top : Int} {R N : Nat → Int} {c : Nat} {Ol : Nat → Nat → Int} {s0 s1 : Option (Nat → Int)} {I : Nat → Int} {m : Int} {O : List Int} {ec ep : Int} {U : List Int} {x1 x2 l9 : Int} {r : (Int × zV) × MSt}
theorem TXa_q {d e : Nat} (X : TXa h s U) (G : Gw Wbd d e h h2) : TXa h2 s U := by
  have g : ∀ b, 163 ≤ b → (b < hN h ∨ zVB ≤ b) → Gs h h2 b := fun b b0 hb' => by
    have w : ∀ k, ¬ Wbd b k := fun k w => by have := Wbd_10 w; omega
    exact ⟨gT G hb', gL G hb', grR G hb' w, grI G hb' w, grJ G hb' w, funext fun k => (G.2.2 b k hb' (w k)).2.2.2.1, funext fun k => (G.2.2 b k hb' (w k)).2.2.2.2⟩
  rcases X with ⟨x0, x1, x2, x3⟩ | ⟨⟨t, n, c, v, rv, tv, nv, lv, cv⟩, s0, v0⟩
  · have q := g s (Nat.le_trans (by decide : 163 ≤ zVB) x0) (Or.inr x0)
    exact Or.inl ⟨x0, q.1.trans x1, q.2.1.trans x2, fun i hi => (congrFun q.2.2.2.1 i).trans (x3 i hi)⟩
  · have q := g s s0 (Or.inl n)
    have qv := g v (v0 v rv) (Or.inl nv)
    have := G.1.1
    exact Or.inr ⟨⟨q.1.trans t, by omega, (congrFun q.2.2.2.1 1).trans c, v, (congrFun q.2.2.1 0).trans rv, qv.1.trans tv, by omega, qv.2.1.trans lv, fun i hi => (congrFun qv.2.2.2.1 i).trans (cv i hi)⟩, s0, fun w hw => v0 w ((congrFun q.2.2.1 0).symm.trans hw)⟩
theorem c_type (J : CJ h p v (n, top, R, N, c, Ol, s0, s1, I, 0, O, ec, ep)) (X : TXa h s U) (A : ascL U) (l : U.length ≤ 780) (hz : hN h + 1 < zVB) : ∃ h2 I2 m2, zC 209 [zR (some 0), zR (some s)] h = some (.inl (some (zI (U.length : Int))), h2) ∧ CJ h2 p v (n, top, R, N, c, Ol, s0, s1, I2, m2, O, ec, ep) ∧ (U.length : Int) ≤ m2 ∧ m2 ≤ 800 ∧ (∀ i, i < U.length → I2 i = tg U i) ∧ Gw Wbd 1 5 h h2 := by
  have K := J_K J
  have k0 := K.1
  have C := J.2.2.2.2.1
  have GN : Gw Wbd 1 5 h (hNew h 22 5) := Gw_new _ h 22 5 (by omega)
  have Y : TY h U (hN h) (hNew h 22 5) 0 I := by
    refine ⟨KC_g K (Gw_new W0 h 22 5 (by omega)) (fun a k _ _ w => w), ⟨?_, fun i hi => absurd hi (by omega)⟩, GN, zu1_b _ _ _, zu1_b _ _ _, Nat.lt_succ_self _, fun i hi => absurd hi (Nat.not_lt_zero _)⟩
    · exact (congrFun (zu1_a _ _ (by omega)) 1).trans C.1
  obtain ⟨g, I2, k2, E, Y2, l2, l3⟩ := ty_out (s := s) (fun g G => TXa_q X G) A rfl k0 (by omega) l 60 0 (hNew h 22 5) I 0 (by omega) (by omega) Y
  obtain ⟨y1, y2, y3, y4, y5, y6, y7⟩ := Y2
  have nfW : nf Wbd h := fun f _ => ⟨fun mb k w => by
    have := Wbd_10 w
    rcases w with ⟨w, _⟩ | w | w
    · subst w; exact absurd mb (by decide)
    · subst w; exact absurd mb (by decide)
    · have : f = 5 ∨ f = 6 ∨ f = 7 ∨ f = 8 ∨ f = 9 := by omega
      rcases this with e | e | e | e | e <;> (subst e; exact absurd mb (by decide)), fun mb k w => by
    have := Wbd_10 w
    generalize f + 1 = f at mb w this
    rcases w with ⟨w, _⟩ | w | w
    · subst w; exact absurd mb (by decide)
    · subst w; exact absurd mb (by decide)
    · have : f = 5 ∨ f = 6 ∨ f = 7 ∨ f = 8 ∨ f = 9 := by omega
      rcases this with e | e | e | e | e <;> (subst e; exact absurd mb (by decide))⟩
  have J2 := CJ_g J y3 y1 (fun a k w => ⟨by have := Wbd_10 w; omega, fun e => by rcases w with ⟨w, w2⟩ | w | w <;> omega⟩) nfW (HO_g J.2.1 K y3 nfW (fun a k q w => by have := Wbd_10 w; omega)) y2 (CO_g J.2.2.2.2.2.1 K y3 (fun w => by rcases w with ⟨w, w2⟩ | w | w <;> omega) (fun k w => by rcases w with ⟨w, w2⟩ | w | w <;> omega))
  have e4 : hI g 0 4 = ec := (gI y3 (Or.inl (by omega)) (fun w => by rcases w with ⟨w, w2⟩ | w | w <;> omega)).trans J.2.2.2.2.2.2.1
  have e5 : hI g 0 5 = ep := (gI y3 (Or.inl (by omega)) (fun w => by rcases w with ⟨w, w2⟩ | w | w <;> omega)).trans J.2.2.2.2.2.2.2
  rw [e4, e5] at J2
  refine ⟨g, I2, (k2 : Int), ?_, J2, by omega, by omega, fun i hi => (y7 i (by omega)).trans (if_pos hi), y3⟩
  exact q_L_type.trans E
/-- what a call that catches answers: the class's answer, or a number for what was thrown -/
def rv (r : Int × zV) (a b c : Int) : Int := if r.1 = 0 then (match r.2 with | .inl x => x | _ => 0) else if r.1 = 1 then a else if r.1 = 2 then b else c
theorem rv_0 {r : Int × zV} {y a b c : Int} (e : r.1 = 0) (hy : r.2 = zI y) : rv r a b c = y := by
  unfold rv
  rw [if_pos e, hy]
theorem rv_1 {r : Int × zV} {a b c : Int} (e : r.1 = 1) : rv r a b c = a := by
  unfold rv
  rw [if_neg (by omega), if_pos e]
theorem rv_2 {r : Int × zV} {a b c : Int} (e : r.1 = 2) : rv r a b c = b := by
  unfold rv
  rw [if_neg (by omega), if_neg (by omega), if_pos e]
theorem rv_3 {r : Int × zV} {a b c : Int} (e : r.1 = 3) : rv r a b c = c := by
  unfold rv
  rw [if_neg (by omega), if_neg (by omega), if_neg (by omega)]

theorem c_L_undone (K : KC h) (C : CC h 201 [] (t3 1 0 0) r) (ty : tyI 1 r.1) : ∃ h2 p v, zC 210 [zR (some 0)] h = some (.inl (some (zI (rv r.1 (-1) 0 0))), h2) ∧ CJ h2 p v r.2 ∧ Gw Wc 200 4000 h h2 := by
  obtain ⟨h2, p, v, E, J, G⟩ := C
  obtain ⟨⟨y, hy⟩, t0, t1⟩ := ty
  have B := q_L_undone  (PTC K 0 11 rfl rfl) (PNC K 0 rfl)
  rw [E] at B
  refine ⟨h2, p, v, ?_, J, G⟩
  rcases (show r.1.1 = 0 ∨ r.1.1 = 1 by omega) with e | e
  · rw [e, if_pos rfl, hy] at B
    rw [rv_0 e hy]
    exact B.trans q_L_undone_4
  · rw [e, if_neg (by decide)] at B
    rw [rv_1 e]
    exact B.trans q_L_undone_6
theorem c_L_filled (K : KC h) (C : CC h 197 [zI x1, zI x2] (t3 3 0 0) r) (ty : tyI 2 r.1) : ∃ h2 p v, zC 211 [zR (some 0), zI x1, zI x2] h = some (.inl (some (zI (rv r.1 (-5) (-2) 0))), h2) ∧ CJ h2 p v r.2 ∧ Gw Wc 200 4000 h h2 := by
  obtain ⟨h2, p, v, E, J, G⟩ := C
  obtain ⟨⟨y, hy⟩, t0, t1⟩ := ty
  have B := q_L_filled (x1 := x1) (x2 := x2) (PTC K 0 11 rfl rfl) (PNC K 0 rfl)
  rw [E] at B
  refine ⟨h2, p, v, ?_, J, G⟩
  rcases (show r.1.1 = 0 ∨ r.1.1 = 1 ∨ r.1.1 = 2 by omega) with e | e | e
  · rw [e, if_pos rfl, hy] at B
    rw [rv_0 e hy]
    exact B.trans q_L_filled_6
  · rw [e, if_neg (by decide)] at B
    rw [rv_1 e]
    exact B.trans q_L_filled_8
  · rw [e, if_neg (by decide)] at B
    rw [rv_2 e]
    exact B.trans q_L_filled_12
theorem c_L_priced (K : KC h) (C : CC h 198 [zI x1, zI x2] (t3 3 0 0) r) (ty : tyI 2 r.1) : ∃ h2 p v, zC 212 [zR (some 0), zI x1, zI x2] h = some (.inl (some (zI (rv r.1 (-5) (-2) 0))), h2) ∧ CJ h2 p v r.2 ∧ Gw Wc 200 4000 h h2 := by
  obtain ⟨h2, p, v, E, J, G⟩ := C
  obtain ⟨⟨y, hy⟩, t0, t1⟩ := ty
  have B := q_L_priced (x1 := x1) (x2 := x2) (PTC K 0 11 rfl rfl) (PNC K 0 rfl)
  rw [E] at B
  refine ⟨h2, p, v, ?_, J, G⟩
  rcases (show r.1.1 = 0 ∨ r.1.1 = 1 ∨ r.1.1 = 2 by omega) with e | e | e
  · rw [e, if_pos rfl, hy] at B
    rw [rv_0 e hy]
    exact B.trans q_L_priced_6
  · rw [e, if_neg (by decide)] at B
    rw [rv_1 e]
    exact B.trans q_L_priced_8
  · rw [e, if_neg (by decide)] at B
    rw [rv_2 e]
    exact B.trans q_L_priced_12
theorem c_L_load (E1 : zC 209 [zR (some 0), zR (some s)] h = some (.inl (some (zI l9)), h1)) (K : KC h1) (C : CC h1 160 [zI l9] (t3 0 1 0) r) (ty : tyI 2 r.1) : ∃ h2 p v, zC 208 [zR (some 0), zR (some s)] h = some (.inl (some (zI (rv r.1 (-2) (-1) 0))), h2) ∧ CJ h2 p v r.2 ∧ Gw Wc 200 4000 h1 h2 := by
  obtain ⟨h2, p, v, E, J, G⟩ := C
  obtain ⟨⟨y, hy⟩, t0, t1⟩ := ty
  have B := q_L_load (h := h) (a0 := 0)  (a1 := s)
  rw [E1] at B
  have B := B.trans (q_L_load_5 (h := h1) (a0 := 0)  (a1 := s) (y0 := l9) (PTC K 0 11 rfl rfl) (PNC K 0 rfl))
  rw [E] at B
  refine ⟨h2, p, v, ?_, J, G⟩
  rcases (show r.1.1 = 0 ∨ r.1.1 = 1 ∨ r.1.1 = 2 by omega) with e | e | e
  · rw [e, if_pos rfl, hy] at B
    rw [rv_0 e hy]
    exact B.trans q_L_load_11
  · rw [e, if_neg (by decide)] at B
    rw [rv_1 e]
    exact B.trans q_L_load_13
  · rw [e, if_neg (by decide)] at B
    rw [rv_2 e]
    exact B.trans q_L_load_17
theorem c_L_before (E1 : zC 209 [zR (some 0), zR (some s)] h = some (.inl (some (zI l9)), h1)) (K : KC h1) (C : CC h1 192 [zI l9] (t3 0 1 0) r) (ty : tyI 2 r.1) : ∃ h2 p v, zC 213 [zR (some 0), zR (some s)] h = some (.inl (some (zI (rv r.1 (-2) (-3) 0))), h2) ∧ CJ h2 p v r.2 ∧ Gw Wc 200 4000 h1 h2 := by
  obtain ⟨h2, p, v, E, J, G⟩ := C
  obtain ⟨⟨y, hy⟩, t0, t1⟩ := ty
  have B := q_L_before (h := h) (a0 := 0)  (a1 := s)
  rw [E1] at B
  have B := B.trans (q_L_before_5 (h := h1) (a0 := 0)  (a1 := s) (y0 := l9) (PTC K 0 11 rfl rfl) (PNC K 0 rfl))
  rw [E] at B
  refine ⟨h2, p, v, ?_, J, G⟩
  rcases (show r.1.1 = 0 ∨ r.1.1 = 1 ∨ r.1.1 = 2 by omega) with e | e | e
  · rw [e, if_pos rfl, hy] at B
    rw [rv_0 e hy]
    exact B.trans q_L_before_11
  · rw [e, if_neg (by decide)] at B
    rw [rv_1 e]
    exact B.trans q_L_before_13
  · rw [e, if_neg (by decide)] at B
    rw [rv_2 e]
    exact B.trans q_L_before_17
theorem c_L_after (E1 : zC 209 [zR (some 0), zR (some s)] h = some (.inl (some (zI l9)), h1)) (K : KC h1) (C : CC h1 194 [zI l9] (t3 0 1 0) r) (ty : tyI 2 r.1) : ∃ h2 p v, zC 214 [zR (some 0), zR (some s)] h = some (.inl (some (zI (rv r.1 (-2) (-3) 0))), h2) ∧ CJ h2 p v r.2 ∧ Gw Wc 200 4000 h1 h2 := by
  obtain ⟨h2, p, v, E, J, G⟩ := C
  obtain ⟨⟨y, hy⟩, t0, t1⟩ := ty
  have B := q_L_after (h := h) (a0 := 0)  (a1 := s)
  rw [E1] at B
  have B := B.trans (q_L_after_5 (h := h1) (a0 := 0)  (a1 := s) (y0 := l9) (PTC K 0 11 rfl rfl) (PNC K 0 rfl))
  rw [E] at B
  refine ⟨h2, p, v, ?_, J, G⟩
  rcases (show r.1.1 = 0 ∨ r.1.1 = 1 ∨ r.1.1 = 2 by omega) with e | e | e
  · rw [e, if_pos rfl, hy] at B
    rw [rv_0 e hy]
    exact B.trans q_L_after_11
  · rw [e, if_neg (by decide)] at B
    rw [rv_1 e]
    exact B.trans q_L_after_13
  · rw [e, if_neg (by decide)] at B
    rw [rv_2 e]
    exact B.trans q_L_after_17
theorem c_L_keep (E1 : zC 209 [zR (some 0), zR (some s)] h = some (.inl (some (zI l9)), h1)) (K : KC h1) (C : CC h1 195 [zI x1, zI l9] (t3 3 0 1) r) (ty : tyI 3 r.1) : ∃ h2 p v, zC 221 [zR (some 0), zI x1, zR (some s)] h = some (.inl (some (zI (rv r.1 (-5) (-2) (-3)))), h2) ∧ CJ h2 p v r.2 ∧ Gw Wc 200 4000 h1 h2 := by
  obtain ⟨h2, p, v, E, J, G⟩ := C
  obtain ⟨⟨y, hy⟩, t0, t1⟩ := ty
  have B := q_L_keep (h := h) (a0 := 0) (x1 := x1) (a2 := s)
  rw [E1] at B
  have B := B.trans (q_L_keep_5 (h := h1) (a0 := 0) (x1 := x1) (a2 := s) (y0 := l9) (PTC K 0 11 rfl rfl) (PNC K 0 rfl))
  rw [E] at B
  refine ⟨h2, p, v, ?_, J, G⟩
  rcases (show r.1.1 = 0 ∨ r.1.1 = 1 ∨ r.1.1 = 2 ∨ r.1.1 = 3 by omega) with e | e | e | e
  · rw [e, if_pos rfl, hy] at B
    rw [rv_0 e hy]
    exact B.trans q_L_keep_12
  · rw [e, if_neg (by decide)] at B
    rw [rv_1 e]
    exact B.trans q_L_keep_15
  · rw [e, if_neg (by decide)] at B
    rw [rv_2 e]
    exact B.trans q_L_keep_20
  · rw [e, if_neg (by decide)] at B
    rw [rv_3 e]
    exact B.trans q_L_keep_25
theorem c_L_less (E1 : zC 209 [zR (some 0), zR (some s)] h = some (.inl (some (zI l9)), h1)) (K : KC h1) (C : CC h1 196 [zI x1, zI l9] (t3 3 0 1) r) (ty : tyI 3 r.1) : ∃ h2 p v, zC 222 [zR (some 0), zI x1, zR (some s)] h = some (.inl (some (zI (rv r.1 (-5) (-2) (-3)))), h2) ∧ CJ h2 p v r.2 ∧ Gw Wc 200 4000 h1 h2 := by
  obtain ⟨h2, p, v, E, J, G⟩ := C
  obtain ⟨⟨y, hy⟩, t0, t1⟩ := ty
  have B := q_L_less (h := h) (a0 := 0) (x1 := x1) (a2 := s)
  rw [E1] at B
  have B := B.trans (q_L_less_5 (h := h1) (a0 := 0) (x1 := x1) (a2 := s) (y0 := l9) (PTC K 0 11 rfl rfl) (PNC K 0 rfl))
  rw [E] at B
  refine ⟨h2, p, v, ?_, J, G⟩
  rcases (show r.1.1 = 0 ∨ r.1.1 = 1 ∨ r.1.1 = 2 ∨ r.1.1 = 3 by omega) with e | e | e | e
  · rw [e, if_pos rfl, hy] at B
    rw [rv_0 e hy]
    exact B.trans q_L_less_12
  · rw [e, if_neg (by decide)] at B
    rw [rv_1 e]
    exact B.trans q_L_less_15
  · rw [e, if_neg (by decide)] at B
    rw [rv_2 e]
    exact B.trans q_L_less_20
  · rw [e, if_neg (by decide)] at B
    rw [rv_3 e]
    exact B.trans q_L_less_25
end LCA
