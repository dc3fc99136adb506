/-! The start: the class's constructor, its objects all made. -/
section CSTART3
variable {h h2 g : zH} {N m nv np nf e : Nat} {h0 : zH}
def chk (m N : Nat) : Bool := (List.range m).all fun q => Nat.blt (rl q).1 N
theorem rl_ok {m N : Nat} (e : chk m N = true) : ∀ q, q < m → (rl q).1 < N := fun q hq => by
  have := List.all_eq_true.1 e q (List.mem_range.2 hq)
  rw [Nat.blt_eq] at this
  exact this
theorem rl_97 {q : Nat} (hq : q < 105) : (rl q).1 ≠ 97 := by
  have key : ∀ q : Fin 105, Nat.beq (rl q.val).1 97 = false := by decide
  intro z
  have := key ⟨q, hq⟩
  rw [z] at this
  exact absurd this (by decide)
theorem hMul_G (h : zH) (n k : Nat) (hz : hN h + 1 + n < zVB) : Gw W0 (1 + n) (n + n * k) h (hMul h n k) ∧ hN (hMul h n k) = hN h + 1 + n ∧ (hT (hMul h n k) (hN h) = 27 ∧ hL (hMul h n k) (hN h) = n) ∧ (∀ a, hN h + 1 ≤ a → a < hN h + 1 + n → hT (hMul h n k) a = 21 ∧ hL (hMul h n k) a = k) ∧ ∀ i, i < n → hR (hMul h n k) (hN h) i = some (hN h + 1 + i) := by
  have n1 : hN (hNew h 27 n) = hN h + 1 := rfl
  have e1 : hT (hNew h 27 n) (hN h) = 27 := zu1_s _ _ _
  have e2 : hL (hNew h 27 n) (hN h) = n := zu1_s _ _ _
  obtain ⟨G2, n2, ts⟩ := Gw_news (hNew h 27 n) 21 k n (by omega)
  have G1 := Gw_t (Gw_new W0 h 27 n (by omega)) G2 (fun _ _ _ z => z)
  unfold hMul
  generalize hNews (hNew h 27 n) 21 k n = w at *
  have q := G2.2.1 (hN h) (Or.inl (by omega))
  refine ⟨⟨G1.1, G1.2.1, fun a j ha z => ?_⟩, by show hN w = _; omega, ⟨q.1.trans e1, q.2.trans e2⟩, fun a x y => ts a (by omega) (by omega), fun i hi => ?_⟩
  · obtain ⟨q1, q2, q3, q4, q5⟩ := G1.2.2 a j ha z
    exact ⟨(congrFun (zu1_n (hR w) _ (by omega)) j).trans q1, q2, q3, q4, q5⟩
  · show zu1 (hR w) (hN h) (fun j => if j < n then some (hN h + 1 + j) else none) (hN h) i = _
    rw [zu1_s, if_pos hi]
theorem BB_M (B : BB 136 m nv np nf e h0 h) {n k : Nat} (hn : n = 25) (hk : k = 200) (hm : ∀ q, q < m → (rl q).1 < 136) (hr : ∀ i, i < 25 → rl (m + i) = (136, i, 137 + i)) : BB 162 (m + 25) nv np nf (e + 5025) h0 (hMul h n k) := by
  have b0 := B.1.1
  have b1 := B.1.2
  have z9 : zVB = 10000000 := rfl
  obtain ⟨G, n2, t1, ts, rs⟩ := hMul_G h n k (by omega)
  rw [b1] at n2 t1 ts rs
  obtain ⟨c2, c3, c4, c5, c6, c7, c8⟩ := BB_old B hm G
  refine ⟨⟨b0, by omega⟩, fun a ha => ?_, fun q hq => ?_, fun a ha z => c4 a (by have := zr_lt z; omega) z, fun i hi => ⟨by have := (c5 i hi).1; omega, (c5 i hi).2⟩, fun z => ⟨by have := (c6 z).1; omega, (c6 z).2⟩, fun i j hi => ⟨by have := (c7 i j hi).1; omega, (c7 i j hi).2⟩, Gw_m c8 (fun _ _ _ z => z) (by omega) (by subst hn hk; omega)⟩
  · by_cases c : a < 136
    · exact c2 a c
    · by_cases c0 : a = 136
      · subst c0
        exact ⟨t1.1, t1.2.trans hn⟩
      · obtain ⟨j, rfl⟩ : ∃ j, a = 137 + j := ⟨a - 137, by omega⟩
        have key : ∀ j : Fin 25, bT (137 + j.val) = 21 ∧ bL (137 + j.val) = 200 := by decide
        have q := ts (137 + j) (by omega) (by omega)
        have k2 := key ⟨j, by omega⟩
        exact ⟨q.1.trans k2.1.symm, q.2.trans (hk.trans k2.2.symm)⟩
  · by_cases c : q < m
    · exact c3 q c
    · obtain ⟨i, rfl⟩ : ∃ i, q = m + i := ⟨q - m, by omega⟩
      rw [hr i (by omega)]
      exact rs i (by omega)
theorem fo1 {F G : Nat → Int} {v : Int} {b : Nat} (hb : b = 3) (f : ∀ j, F j = if j < b ∧ j < 1 then G j else 0) (i0 : G 0 = v) : ∀ j, F j = ([v] : List Int).getD j 0 := fun j => by
  rw [f, hb]
  match j with
  | 0 => exact i0
  | j + 1 => exact if_neg (by omega)
theorem fo3 {F G : Nat → Int} {v w x : Int} {b : Nat} (hb : b = 3) (f : ∀ j, F j = if j < b ∧ j < 3 then G j else 0) (i0 : G 0 = v) (i1 : G 1 = w) (i2 : G 2 = x) : ∀ j, F j = ([v, w, x] : List Int).getD j 0 := fun j => by
  rw [f, hb]
  match j with
  | 0 => exact i0
  | 1 => exact i1
  | 2 => exact i2
  | j + 3 => exact if_neg (by omega)
set_option maxRecDepth 1000000
set_option maxHeartbeats 10000000
theorem sg_1 {h x0 : zH} (B0 : BB 1 0 0 0 0 15 h x0) : ∃ h2, zC 146 [zR (some 0)] x0 = zY 146 50 [some (zR (some 0))] [zR (some 5), zR (some 0)] h2 ∧ BB 10 9 0 0 0 2867 h h2 := by
  have E := (qc_1 (h := x0) B0.1.2 (B0.2.1 0 (by decide)).1 (B0.2.1 0 (by decide)).2)
  have B1 : BB 4 2 0 0 0 2016 h (gc1 x0) := (BB_new (BB_R (BB_new (BB_R (BB_new B0 (t := 21) (n := 800) (rl_ok rfl) (by decide) rfl rfl) (a := 0) (k := 0) (b := 1) (by decide) rfl) (t := 21) (n := 1200) (rl_ok rfl) (by decide) rfl rfl) (a := 0) (k := 2) (b := 2) (by decide) rfl) (t := 2) (n := 1) (rl_ok rfl) (by decide) rfl rfl)
  generalize gc1 x0 = x1 at E B1
  obtain ⟨x2, e2, B2, f2⟩ := BB_F B1 (f := 3) (r := 1) (n := 0) (rl_ok rfl) (by decide) (by decide) rfl (by decide) rfl (by decide) (by decide) rfl rfl rfl
  replace E := E.trans (congrArg (fun r => zBack zY 146 32 35 [some (zR (some 0))] [zR (some 3), zR (some 0)] (r)) (e2))
  have B3 : BB 5 3 0 0 0 2016 h x2 := B2
  replace E := E.trans (qc_2 (h := x2) B3.1.2 (B3.2.1 0 (by decide)).1 (B3.2.1 0 (by decide)).2 (B3.2.2.1 0 (by decide)))
  have B4 : BB 6 4 0 0 0 2024 h (gc2 x2) := (BB_new (BB_R B3 (a := 0) (k := 6) (b := 3) (by decide) rfl) (t := 4) (n := 8) (rl_ok rfl) (by decide) rfl rfl)
  generalize gc2 x2 = x3 at E B4
  replace E := E.trans (congrArg (fun r => zBack zY 146 47 50 [some (zR (some 0))] [zR (some 5), zR (some 0)] (r)) (qc_3 (h := x3) B4.1.2 (B4.2.1 5 (by decide)).1 (B4.2.1 5 (by decide)).2))
  have B5 : BB 8 5 0 0 0 2063 h (gc3 x3) := (BB_new (BB_R (BB_new B4 (t := 21) (n := 30) (rl_ok rfl) (by decide) rfl rfl) (a := 5) (k := 3) (b := 6) (by decide) rfl) (t := 7) (n := 9) (rl_ok rfl) (by decide) rfl rfl)
  generalize gc3 x3 = x4 at E B5
  replace E := E.trans (congrArg (fun r => zBack zY 146 47 50 [some (zR (some 0))] [zR (some 5), zR (some 0)] (zBack zY 23 18 21 [some (zR (some 5)), some (zR (some 1))] [zR (some 7), zR (some 5)] (r))) (qc_4 (h := x4) B5.1.2 (B5.2.1 7 (by decide)).1 (B5.2.1 7 (by decide)).2))
  have B6 : BB 10 8 0 0 0 2867 h (gc4 x4) := (BB_R (BB_R (BB_new (BB_R (BB_new B5 (t := 22) (n := 402) (rl_ok rfl) (by decide) rfl rfl) (a := 7) (k := 5) (b := 8) (by decide) rfl) (t := 22) (n := 402) (rl_ok rfl) (by decide) rfl rfl) (a := 7) (k := 6) (b := 9) (by decide) rfl) (a := 7) (k := 2) (b := 1) (by decide) rfl)
  generalize gc4 x4 = x5 at E B6
  replace E := E.trans (congrArg (fun r => zBack zY 146 47 50 [some (zR (some 0))] [zR (some 5), zR (some 0)] (r)) (qc_5 (h := x5) B6.1.2 (B6.2.1 5 (by decide)).1 (B6.2.1 5 (by decide)).2))
  have B7 : BB 10 9 0 0 0 2867 h (gc5 x5) := (BB_R B6 (a := 5) (k := 2) (b := 7) (by decide) rfl)
  generalize gc5 x5 = x6 at E B7
  exact ⟨_, E, B7⟩
theorem sg_2 {h x0 : zH} (B0 : BB 11 10 0 0 0 2872 h x0) : ∃ h2, zC 15 [zR (some 10), zR (some 3)] x0 = zY 15 49 [some (zR (some 10)), some (zR (some 3)), some (zI 2)] [zR (some 24), zI 2, zR (some 11)] h2 ∧ BB 29 15 3 0 0 3216 h h2 := by
  have E := (qc_7 (h := x0) B0.1.2 (B0.2.1 10 (by decide)).1 (B0.2.1 10 (by decide)).2)
  have Bx : BB 14 13 0 0 0 2886 h (sR (hNew (sR (hNew (sR (hNew x0 26 10) 10 2 (some 11)) 26 2) 10 3 (some 12)) 20 2) 10 4 (some 13)) := (BB_R (BB_new (BB_R (BB_new (BB_R (BB_new B0 (t := 26) (n := 10) (rl_ok rfl) (by decide) rfl rfl) (a := 10) (k := 2) (b := 11) (by decide) rfl) (t := 26) (n := 2) (rl_ok rfl) (by decide) rfl rfl) (a := 10) (k := 3) (b := 12) (by decide) rfl) (t := 20) (n := 2) (rl_ok rfl) (by decide) rfl rfl) (a := 10) (k := 4) (b := 13) (by decide) rfl)
  have B1 : BB 15 13 0 0 0 2893 h (gc7 x0) := (BB_new Bx (t := 10) (n := 7) (rl_ok rfl) (by decide) rfl rfl)
  replace E := E.trans (qc_8 (h := (gc7 x0)) B1.1.2 (B1.2.1 14 (by decide)).1 (B1.2.1 14 (by decide)).2)
  obtain ⟨x1, e1, B2⟩ := BB_V Bx (rl_ok rfl) (by decide) rfl (by decide)
  replace E := E.trans (congrArg (fun r => zBack zY 15 46 49 [some (zR (some 10)), some (zR (some 3)), some (zI 0)] [zR (some 14), zI 0, zR (some 11)] (r)) (e1))
  have B3 : BB 19 13 1 0 0 2996 h x1 := B2
  replace E := E.trans (qc_9 (h := x1) B3.1.2 (B3.2.1 10 (by decide)).1 (B3.2.1 10 (by decide)).2 (B3.2.1 11 (by decide)).1 (B3.2.1 11 (by decide)).2 (B3.2.1 14 (by decide)).1 (B3.2.1 14 (by decide)).2 (B3.2.2.1 10 (by decide)))
  have Bx : BB 19 14 1 0 0 2996 h (sR x1 11 0 (some 14)) := (BB_R B3 (a := 11) (k := 0) (b := 14) (by decide) rfl)
  have B4 : BB 20 14 1 0 0 3003 h (gc8 x1) := (BB_new Bx (t := 10) (n := 7) (rl_ok rfl) (by decide) rfl rfl)
  obtain ⟨x2, e2, B5⟩ := BB_V Bx (rl_ok rfl) (by decide) rfl (by decide)
  replace E := E.trans (congrArg (fun r => zBack zY 15 46 49 [some (zR (some 10)), some (zR (some 3)), some (zI 1)] [zR (some 19), zI 1, zR (some 11)] (r)) (e2))
  have B6 : BB 24 14 2 0 0 3106 h x2 := B5
  replace E := E.trans (qc_10 (h := x2) B6.1.2 (B6.2.1 10 (by decide)).1 (B6.2.1 10 (by decide)).2 (B6.2.1 11 (by decide)).1 (B6.2.1 11 (by decide)).2 (B6.2.1 19 (by decide)).1 (B6.2.1 19 (by decide)).2 (B6.2.2.1 10 (by decide)))
  have Bx : BB 24 15 2 0 0 3106 h (sR x2 11 1 (some 19)) := (BB_R B6 (a := 11) (k := 1) (b := 19) (by decide) rfl)
  have B7 : BB 25 15 2 0 0 3113 h (gc9 x2) := (BB_new Bx (t := 10) (n := 7) (rl_ok rfl) (by decide) rfl rfl)
  obtain ⟨x3, e3, B8⟩ := BB_V Bx (rl_ok rfl) (by decide) rfl (by decide)
  replace E := E.trans (congrArg (fun r => zBack zY 15 46 49 [some (zR (some 10)), some (zR (some 3)), some (zI 2)] [zR (some 24), zI 2, zR (some 11)] (r)) (e3))
  have B9 : BB 29 15 3 0 0 3216 h x3 := B8
  exact ⟨_, E, B9⟩
theorem sg_3 {h x0 : zH} (B0 : BB 29 15 3 0 0 3216 h x0) : ∃ h2, zY 15 49 [some (zR (some 10)), some (zR (some 3)), some (zI 2)] [zR (some 24), zI 2, zR (some 11)] x0 = zY 15 49 [some (zR (some 10)), some (zR (some 3)), some (zI 6)] [zR (some 44), zI 6, zR (some 11)] h2 ∧ BB 49 19 7 0 0 3656 h h2 := by
  have E := (qc_11 (h := x0) B0.1.2 (B0.2.1 10 (by decide)).1 (B0.2.1 10 (by decide)).2 (B0.2.1 11 (by decide)).1 (B0.2.1 11 (by decide)).2 (B0.2.1 24 (by decide)).1 (B0.2.1 24 (by decide)).2 (B0.2.2.1 10 (by decide)))
  have Bx : BB 29 16 3 0 0 3216 h (sR x0 11 2 (some 24)) := (BB_R B0 (a := 11) (k := 2) (b := 24) (by decide) rfl)
  have B1 : BB 30 16 3 0 0 3223 h (gc10 x0) := (BB_new Bx (t := 10) (n := 7) (rl_ok rfl) (by decide) rfl rfl)
  obtain ⟨x1, e1, B2⟩ := BB_V Bx (rl_ok rfl) (by decide) rfl (by decide)
  replace E := E.trans (congrArg (fun r => zBack zY 15 46 49 [some (zR (some 10)), some (zR (some 3)), some (zI 3)] [zR (some 29), zI 3, zR (some 11)] (r)) (e1))
  have B3 : BB 34 16 4 0 0 3326 h x1 := B2
  replace E := E.trans (qc_12 (h := x1) B3.1.2 (B3.2.1 10 (by decide)).1 (B3.2.1 10 (by decide)).2 (B3.2.1 11 (by decide)).1 (B3.2.1 11 (by decide)).2 (B3.2.1 29 (by decide)).1 (B3.2.1 29 (by decide)).2 (B3.2.2.1 10 (by decide)))
  have Bx : BB 34 17 4 0 0 3326 h (sR x1 11 3 (some 29)) := (BB_R B3 (a := 11) (k := 3) (b := 29) (by decide) rfl)
  have B4 : BB 35 17 4 0 0 3333 h (gc11 x1) := (BB_new Bx (t := 10) (n := 7) (rl_ok rfl) (by decide) rfl rfl)
  obtain ⟨x2, e2, B5⟩ := BB_V Bx (rl_ok rfl) (by decide) rfl (by decide)
  replace E := E.trans (congrArg (fun r => zBack zY 15 46 49 [some (zR (some 10)), some (zR (some 3)), some (zI 4)] [zR (some 34), zI 4, zR (some 11)] (r)) (e2))
  have B6 : BB 39 17 5 0 0 3436 h x2 := B5
  replace E := E.trans (qc_13 (h := x2) B6.1.2 (B6.2.1 10 (by decide)).1 (B6.2.1 10 (by decide)).2 (B6.2.1 11 (by decide)).1 (B6.2.1 11 (by decide)).2 (B6.2.1 34 (by decide)).1 (B6.2.1 34 (by decide)).2 (B6.2.2.1 10 (by decide)))
  have Bx : BB 39 18 5 0 0 3436 h (sR x2 11 4 (some 34)) := (BB_R B6 (a := 11) (k := 4) (b := 34) (by decide) rfl)
  have B7 : BB 40 18 5 0 0 3443 h (gc12 x2) := (BB_new Bx (t := 10) (n := 7) (rl_ok rfl) (by decide) rfl rfl)
  obtain ⟨x3, e3, B8⟩ := BB_V Bx (rl_ok rfl) (by decide) rfl (by decide)
  replace E := E.trans (congrArg (fun r => zBack zY 15 46 49 [some (zR (some 10)), some (zR (some 3)), some (zI 5)] [zR (some 39), zI 5, zR (some 11)] (r)) (e3))
  have B9 : BB 44 18 6 0 0 3546 h x3 := B8
  replace E := E.trans (qc_14 (h := x3) B9.1.2 (B9.2.1 10 (by decide)).1 (B9.2.1 10 (by decide)).2 (B9.2.1 11 (by decide)).1 (B9.2.1 11 (by decide)).2 (B9.2.1 39 (by decide)).1 (B9.2.1 39 (by decide)).2 (B9.2.2.1 10 (by decide)))
  have Bx : BB 44 19 6 0 0 3546 h (sR x3 11 5 (some 39)) := (BB_R B9 (a := 11) (k := 5) (b := 39) (by decide) rfl)
  have B10 : BB 45 19 6 0 0 3553 h (gc13 x3) := (BB_new Bx (t := 10) (n := 7) (rl_ok rfl) (by decide) rfl rfl)
  obtain ⟨x4, e4, B11⟩ := BB_V Bx (rl_ok rfl) (by decide) rfl (by decide)
  replace E := E.trans (congrArg (fun r => zBack zY 15 46 49 [some (zR (some 10)), some (zR (some 3)), some (zI 6)] [zR (some 44), zI 6, zR (some 11)] (r)) (e4))
  have B12 : BB 49 19 7 0 0 3656 h x4 := B11
  exact ⟨_, E, B12⟩
theorem sg_4 {h x0 : zH} (B0 : BB 49 19 7 0 0 3656 h x0) : ∃ h2, zY 15 49 [some (zR (some 10)), some (zR (some 3)), some (zI 6)] [zR (some 44), zI 6, zR (some 11)] x0 = zY 15 76 [some (zR (some 10)), some (zR (some 3)), some (zI 0)] [zR (some 64), zI 0, zR (some 12)] h2 ∧ BB 69 23 11 0 0 4096 h h2 := by
  have E := (qc_15 (h := x0) B0.1.2 (B0.2.1 10 (by decide)).1 (B0.2.1 10 (by decide)).2 (B0.2.1 11 (by decide)).1 (B0.2.1 11 (by decide)).2 (B0.2.1 44 (by decide)).1 (B0.2.1 44 (by decide)).2 (B0.2.2.1 10 (by decide)))
  have Bx : BB 49 20 7 0 0 3656 h (sR x0 11 6 (some 44)) := (BB_R B0 (a := 11) (k := 6) (b := 44) (by decide) rfl)
  have B1 : BB 50 20 7 0 0 3663 h (gc14 x0) := (BB_new Bx (t := 10) (n := 7) (rl_ok rfl) (by decide) rfl rfl)
  obtain ⟨x1, e1, B2⟩ := BB_V Bx (rl_ok rfl) (by decide) rfl (by decide)
  replace E := E.trans (congrArg (fun r => zBack zY 15 46 49 [some (zR (some 10)), some (zR (some 3)), some (zI 7)] [zR (some 49), zI 7, zR (some 11)] (r)) (e1))
  have B3 : BB 54 20 8 0 0 3766 h x1 := B2
  replace E := E.trans (qc_16 (h := x1) B3.1.2 (B3.2.1 10 (by decide)).1 (B3.2.1 10 (by decide)).2 (B3.2.1 11 (by decide)).1 (B3.2.1 11 (by decide)).2 (B3.2.1 49 (by decide)).1 (B3.2.1 49 (by decide)).2 (B3.2.2.1 10 (by decide)))
  have Bx : BB 54 21 8 0 0 3766 h (sR x1 11 7 (some 49)) := (BB_R B3 (a := 11) (k := 7) (b := 49) (by decide) rfl)
  have B4 : BB 55 21 8 0 0 3773 h (gc15 x1) := (BB_new Bx (t := 10) (n := 7) (rl_ok rfl) (by decide) rfl rfl)
  obtain ⟨x2, e2, B5⟩ := BB_V Bx (rl_ok rfl) (by decide) rfl (by decide)
  replace E := E.trans (congrArg (fun r => zBack zY 15 46 49 [some (zR (some 10)), some (zR (some 3)), some (zI 8)] [zR (some 54), zI 8, zR (some 11)] (r)) (e2))
  have B6 : BB 59 21 9 0 0 3876 h x2 := B5
  replace E := E.trans (qc_17 (h := x2) B6.1.2 (B6.2.1 10 (by decide)).1 (B6.2.1 10 (by decide)).2 (B6.2.1 11 (by decide)).1 (B6.2.1 11 (by decide)).2 (B6.2.1 54 (by decide)).1 (B6.2.1 54 (by decide)).2 (B6.2.2.1 10 (by decide)))
  have Bx : BB 59 22 9 0 0 3876 h (sR x2 11 8 (some 54)) := (BB_R B6 (a := 11) (k := 8) (b := 54) (by decide) rfl)
  have B7 : BB 60 22 9 0 0 3883 h (gc16 x2) := (BB_new Bx (t := 10) (n := 7) (rl_ok rfl) (by decide) rfl rfl)
  obtain ⟨x3, e3, B8⟩ := BB_V Bx (rl_ok rfl) (by decide) rfl (by decide)
  replace E := E.trans (congrArg (fun r => zBack zY 15 46 49 [some (zR (some 10)), some (zR (some 3)), some (zI 9)] [zR (some 59), zI 9, zR (some 11)] (r)) (e3))
  have B9 : BB 64 22 10 0 0 3986 h x3 := B8
  replace E := E.trans (qc_18 (h := x3) B9.1.2 (B9.2.1 10 (by decide)).1 (B9.2.1 10 (by decide)).2 (B9.2.1 11 (by decide)).1 (B9.2.1 11 (by decide)).2 (B9.2.1 59 (by decide)).1 (B9.2.1 59 (by decide)).2 (B9.2.2.1 11 (by decide)))
  have Bx : BB 64 23 10 0 0 3986 h (sR x3 11 9 (some 59)) := (BB_R B9 (a := 11) (k := 9) (b := 59) (by decide) rfl)
  have B10 : BB 65 23 10 0 0 3993 h (gc17 x3) := (BB_new Bx (t := 10) (n := 7) (rl_ok rfl) (by decide) rfl rfl)
  obtain ⟨x4, e4, B11⟩ := BB_V Bx (rl_ok rfl) (by decide) rfl (by decide)
  replace E := E.trans (congrArg (fun r => zBack zY 15 73 76 [some (zR (some 10)), some (zR (some 3)), some (zI 0)] [zR (some 64), zI 0, zR (some 12)] (r)) (e4))
  have B12 : BB 69 23 11 0 0 4096 h x4 := B11
  exact ⟨_, E, B12⟩
theorem sg_5 {h x0 : zH} (B0 : BB 69 23 11 0 0 4096 h x0) : ∃ h2, zY 15 76 [some (zR (some 10)), some (zR (some 3)), some (zI 0)] [zR (some 64), zI 0, zR (some 12)] x0 = some (.inl none, h2) ∧ BB 74 25 12 0 0 4206 h h2 := by
  have E := (qc_19 (h := x0) B0.1.2 (B0.2.1 10 (by decide)).1 (B0.2.1 10 (by decide)).2 (B0.2.1 12 (by decide)).1 (B0.2.1 12 (by decide)).2 (B0.2.1 64 (by decide)).1 (B0.2.1 64 (by decide)).2 (B0.2.2.1 11 (by decide)))
  have Bx : BB 69 24 11 0 0 4096 h (sR x0 12 0 (some 64)) := (BB_R B0 (a := 12) (k := 0) (b := 64) (by decide) rfl)
  have B1 : BB 70 24 11 0 0 4103 h (gc18 x0) := (BB_new Bx (t := 10) (n := 7) (rl_ok rfl) (by decide) rfl rfl)
  obtain ⟨x1, e1, B2⟩ := BB_V Bx (rl_ok rfl) (by decide) rfl (by decide)
  replace E := E.trans (congrArg (fun r => zBack zY 15 73 76 [some (zR (some 10)), some (zR (some 3)), some (zI 1)] [zR (some 69), zI 1, zR (some 12)] (r)) (e1))
  have B3 : BB 74 24 12 0 0 4206 h x1 := B2
  replace E := E.trans (qc_20 (h := x1) B3.1.2 (B3.2.1 12 (by decide)).1 (B3.2.1 12 (by decide)).2 (B3.2.1 69 (by decide)).1 (B3.2.1 69 (by decide)).2)
  have B4 : BB 74 25 12 0 0 4206 h (gc19 x1) := (BB_R B3 (a := 12) (k := 1) (b := 69) (by decide) rfl)
  generalize gc19 x1 = x2 at E B4
  exact ⟨_, E, B4⟩
theorem sg_6 {h x0 : zH} (B0 : BB 11 10 0 0 0 2872 h x0) : ∃ h2, zC 15 [zR (some 10), zR (some 3)] x0 = some (.inl none, h2) ∧ BB 74 25 12 0 0 4206 h h2 := by
  obtain ⟨y0, e0, b0⟩ := sg_2 B0
  obtain ⟨y1, e1, b1⟩ := sg_3 b0
  obtain ⟨y2, e2, b2⟩ := sg_4 b1
  obtain ⟨y3, e3, b3⟩ := sg_5 b2
  exact ⟨_, (((e0).trans e1).trans e2).trans e3, b3⟩
theorem sg_7 {h x0 : zH} (B0 : BB 10 9 0 0 0 2867 h x0) : ∃ h2, zY 146 50 [some (zR (some 0))] [zR (some 5), zR (some 0)] x0 = zY 146 65 [some (zR (some 0))] [zR (some 10), zR (some 0)] h2 ∧ BB 74 25 12 0 0 4206 h h2 := by
  have E := (qc_6 (h := x0) B0.1.2 (B0.2.1 0 (by decide)).1 (B0.2.1 0 (by decide)).2 (B0.2.2.1 3 (by decide)))
  have B1 : BB 11 10 0 0 0 2872 h (gc6 x0) := (BB_new (BB_R B0 (a := 0) (k := 7) (b := 5) (by decide) rfl) (t := 3) (n := 5) (rl_ok rfl) (by decide) rfl rfl)
  generalize gc6 x0 = x1 at E B1
  obtain ⟨x2, e2, B2⟩ := sg_6 B1
  replace E := E.trans (congrArg (fun r => zBack zY 146 62 65 [some (zR (some 0))] [zR (some 10), zR (some 0)] (r)) (e2))
  exact ⟨_, E, B2⟩
theorem sg_8 {h x0 : zH} (B0 : BB 91 28 13 1 0 4586 h x0) : ∃ h2, zC 92 [zR (some 90), zR (some 3)] x0 = zY 92 106 [some (zR (some 90)), some (zR (some 3)), some (zI 10), none] [zI 10, zR (some 97)] h2 ∧ BB 101 39 13 1 0 5167 h h2 := by
  have E := (qc_24 (h := x0) B0.1.2 (B0.2.1 90 (by decide)).1 (B0.2.1 90 (by decide)).2)
  have B1 : BB 95 31 13 1 0 4682 h (gc23 x0) := (BB_new (BB_R (BB_new (BB_R (BB_new (BB_R (BB_new B0 (t := 23) (n := 24) (rl_ok rfl) (by decide) rfl rfl) (a := 90) (k := 2) (b := 91) (by decide) rfl) (t := 23) (n := 24) (rl_ok rfl) (by decide) rfl rfl) (a := 90) (k := 3) (b := 92) (by decide) rfl) (t := 23) (n := 24) (rl_ok rfl) (by decide) rfl rfl) (a := 90) (k := 4) (b := 93) (by decide) rfl) (t := 23) (n := 24) (rl_ok rfl) (by decide) rfl rfl)
  generalize gc23 x0 = x1 at E B1
  replace E := E.trans (qc_25 (h := x1) B1.1.2 (B1.2.1 90 (by decide)).1 (B1.2.1 90 (by decide)).2)
  have B2 : BB 99 35 13 1 0 4767 h (gc24 x1) := (BB_new (BB_R (BB_new (BB_R (BB_new (BB_R (BB_new (BB_R B1 (a := 90) (k := 5) (b := 94) (by decide) rfl) (t := 23) (n := 24) (rl_ok rfl) (by decide) rfl rfl) (a := 90) (k := 6) (b := 95) (by decide) rfl) (t := 22) (n := 24) (rl_ok rfl) (by decide) rfl rfl) (a := 90) (k := 7) (b := 96) (by decide) rfl) (t := 25) (n := 24) (rl_ok rfl) (by decide) rfl rfl) (a := 90) (k := 8) (b := 97) (by decide) rfl) (t := 25) (n := 13) (rl_ok rfl) (by decide) rfl rfl)
  generalize gc24 x1 = x2 at E B2
  replace E := E.trans (qc_26 (h := x2) B2.1.2 (B2.2.1 3 (by decide)).1 (B2.2.1 3 (by decide)).2 (B2.2.1 90 (by decide)).1 (B2.2.1 90 (by decide)).2 (B2.2.1 97 (by decide)).1 (B2.2.1 97 (by decide)).2 (B2.2.2.1 34 (by decide)))
  have B3 : BB 101 39 13 1 0 5167 h (gc25 x2) := (BB_r0 (BB_R (BB_R (BB_new (BB_R (BB_new (BB_R B2 (a := 90) (k := 10) (b := 98) (by decide) rfl) (t := 23) (n := 200) (rl_ok rfl) (by decide) rfl rfl) (a := 90) (k := 11) (b := 99) (by decide) rfl) (t := 23) (n := 200) (rl_ok rfl) (by decide) rfl rfl) (a := 90) (k := 12) (b := 100) (by decide) rfl) (a := 90) (k := 9) (b := 3) (by decide) rfl) (a := 97) (k := 0) (x := some 3) (by decide) (fun q hq z => rl_97 (by omega) z.1))
  generalize gc25 x2 = x3 at E B3
  replace E := E.trans (qc_27 (h := x3) B3.1.2 (B3.2.1 3 (by decide)).1 (B3.2.1 3 (by decide)).2 (B3.2.1 90 (by decide)).1 (B3.2.1 90 (by decide)).2 (B3.2.1 97 (by decide)).1 (B3.2.1 97 (by decide)).2 (B3.2.2.1 34 (by decide)))
  have B4 : BB 101 39 13 1 0 5167 h (gc26 x3) := (BB_r0 (BB_r0 B3 (a := 97) (k := 1) (x := some 3) (by decide) (fun q hq z => rl_97 (by omega) z.1)) (a := 97) (k := 2) (x := some 3) (by decide) (fun q hq z => rl_97 (by omega) z.1))
  generalize gc26 x3 = x4 at E B4
  replace E := E.trans (qc_28 (h := x4) B4.1.2 (B4.2.1 3 (by decide)).1 (B4.2.1 3 (by decide)).2 (B4.2.1 90 (by decide)).1 (B4.2.1 90 (by decide)).2 (B4.2.1 97 (by decide)).1 (B4.2.1 97 (by decide)).2 (B4.2.2.1 34 (by decide)))
  have B5 : BB 101 39 13 1 0 5167 h (gc27 x4) := (BB_r0 (BB_r0 (BB_r0 B4 (a := 97) (k := 3) (x := some 3) (by decide) (fun q hq z => rl_97 (by omega) z.1)) (a := 97) (k := 4) (x := some 3) (by decide) (fun q hq z => rl_97 (by omega) z.1)) (a := 97) (k := 5) (x := some 3) (by decide) (fun q hq z => rl_97 (by omega) z.1))
  generalize gc27 x4 = x5 at E B5
  replace E := E.trans (qc_29 (h := x5) B5.1.2 (B5.2.1 3 (by decide)).1 (B5.2.1 3 (by decide)).2 (B5.2.1 90 (by decide)).1 (B5.2.1 90 (by decide)).2 (B5.2.1 97 (by decide)).1 (B5.2.1 97 (by decide)).2 (B5.2.2.1 34 (by decide)))
  have B6 : BB 101 39 13 1 0 5167 h (gc28 x5) := (BB_r0 (BB_r0 B5 (a := 97) (k := 6) (x := some 3) (by decide) (fun q hq z => rl_97 (by omega) z.1)) (a := 97) (k := 7) (x := some 3) (by decide) (fun q hq z => rl_97 (by omega) z.1))
  generalize gc28 x5 = x6 at E B6
  replace E := E.trans (qc_30 (h := x6) B6.1.2 (B6.2.1 3 (by decide)).1 (B6.2.1 3 (by decide)).2 (B6.2.1 90 (by decide)).1 (B6.2.1 90 (by decide)).2 (B6.2.1 97 (by decide)).1 (B6.2.1 97 (by decide)).2 (B6.2.2.1 34 (by decide)))
  have B7 : BB 101 39 13 1 0 5167 h (gc29 x6) := (BB_r0 (BB_r0 B6 (a := 97) (k := 8) (x := some 3) (by decide) (fun q hq z => rl_97 (by omega) z.1)) (a := 97) (k := 9) (x := some 3) (by decide) (fun q hq z => rl_97 (by omega) z.1))
  generalize gc29 x6 = x7 at E B7
  exact ⟨_, E, B7⟩
theorem sg_9 {h x0 : zH} (B0 : BB 101 39 13 1 0 5167 h x0) : ∃ h2, zY 92 106 [some (zR (some 90)), some (zR (some 3)), some (zI 10), none] [zI 10, zR (some 97)] x0 = zY 92 144 [some (zR (some 90)), some (zR (some 3)), some (zR (some 101)), some (zI 0)] [zR (some 102), zI 0, zR (some 98)] h2 ∧ BB 104 40 13 1 1 5172 h h2 := by
  have E := (qc_31 (h := x0) B0.1.2 (B0.2.1 3 (by decide)).1 (B0.2.1 3 (by decide)).2 (B0.2.1 90 (by decide)).1 (B0.2.1 90 (by decide)).2 (B0.2.1 97 (by decide)).1 (B0.2.1 97 (by decide)).2 (B0.2.2.1 34 (by decide)))
  have B1 : BB 101 39 13 1 0 5167 h (gc30 x0) := (BB_r0 (BB_r0 (BB_r0 B0 (a := 97) (k := 10) (x := some 3) (by decide) (fun q hq z => rl_97 (by omega) z.1)) (a := 97) (k := 11) (x := some 3) (by decide) (fun q hq z => rl_97 (by omega) z.1)) (a := 97) (k := 12) (x := some 3) (by decide) (fun q hq z => rl_97 (by omega) z.1))
  generalize gc30 x0 = x1 at E B1
  replace E := E.trans (qc_32 (h := x1) B1.1.2 (B1.2.1 3 (by decide)).1 (B1.2.1 3 (by decide)).2 (B1.2.1 90 (by decide)).1 (B1.2.1 90 (by decide)).2 (B1.2.1 97 (by decide)).1 (B1.2.1 97 (by decide)).2 (B1.2.2.1 34 (by decide)))
  have B2 : BB 101 39 13 1 0 5167 h (gc31 x1) := (BB_r0 (BB_r0 B1 (a := 97) (k := 13) (x := some 3) (by decide) (fun q hq z => rl_97 (by omega) z.1)) (a := 97) (k := 14) (x := some 3) (by decide) (fun q hq z => rl_97 (by omega) z.1))
  generalize gc31 x1 = x2 at E B2
  replace E := E.trans (qc_33 (h := x2) B2.1.2 (B2.2.1 3 (by decide)).1 (B2.2.1 3 (by decide)).2 (B2.2.1 90 (by decide)).1 (B2.2.1 90 (by decide)).2 (B2.2.1 97 (by decide)).1 (B2.2.1 97 (by decide)).2 (B2.2.2.1 34 (by decide)))
  have B3 : BB 101 39 13 1 0 5167 h (gc32 x2) := (BB_r0 (BB_r0 (BB_r0 B2 (a := 97) (k := 15) (x := some 3) (by decide) (fun q hq z => rl_97 (by omega) z.1)) (a := 97) (k := 16) (x := some 3) (by decide) (fun q hq z => rl_97 (by omega) z.1)) (a := 97) (k := 17) (x := some 3) (by decide) (fun q hq z => rl_97 (by omega) z.1))
  generalize gc32 x2 = x3 at E B3
  replace E := E.trans (qc_34 (h := x3) B3.1.2 (B3.2.1 3 (by decide)).1 (B3.2.1 3 (by decide)).2 (B3.2.1 90 (by decide)).1 (B3.2.1 90 (by decide)).2 (B3.2.1 97 (by decide)).1 (B3.2.1 97 (by decide)).2 (B3.2.2.1 34 (by decide)))
  have B4 : BB 101 39 13 1 0 5167 h (gc33 x3) := (BB_r0 (BB_r0 B3 (a := 97) (k := 18) (x := some 3) (by decide) (fun q hq z => rl_97 (by omega) z.1)) (a := 97) (k := 19) (x := some 3) (by decide) (fun q hq z => rl_97 (by omega) z.1))
  generalize gc33 x3 = x4 at E B4
  replace E := E.trans (qc_35 (h := x4) B4.1.2 (B4.2.1 3 (by decide)).1 (B4.2.1 3 (by decide)).2 (B4.2.1 90 (by decide)).1 (B4.2.1 90 (by decide)).2 (B4.2.1 97 (by decide)).1 (B4.2.1 97 (by decide)).2 (B4.2.2.1 34 (by decide)))
  have B5 : BB 101 39 13 1 0 5167 h (gc34 x4) := (BB_r0 (BB_r0 B4 (a := 97) (k := 20) (x := some 3) (by decide) (fun q hq z => rl_97 (by omega) z.1)) (a := 97) (k := 21) (x := some 3) (by decide) (fun q hq z => rl_97 (by omega) z.1))
  generalize gc34 x4 = x5 at E B5
  replace E := E.trans (qc_36 (h := x5) B5.1.2 (B5.2.1 3 (by decide)).1 (B5.2.1 3 (by decide)).2 (B5.2.1 90 (by decide)).1 (B5.2.1 90 (by decide)).2 (B5.2.1 97 (by decide)).1 (B5.2.1 97 (by decide)).2 (B5.2.2.1 34 (by decide)))
  have B6 : BB 102 39 13 1 0 5170 h (gc35 x5) := (BB_new (BB_r0 (BB_r0 B5 (a := 97) (k := 22) (x := some 3) (by decide) (fun q hq z => rl_97 (by omega) z.1)) (a := 97) (k := 23) (x := some 3) (by decide) (fun q hq z => rl_97 (by omega) z.1)) (t := 21) (n := 3) (rl_ok rfl) (by decide) rfl rfl)
  generalize gc35 x5 = x6 at E B6
  replace E := E.trans (qc_37 (h := x6) B6.1.2 (B6.2.1 90 (by decide)).1 (B6.2.1 90 (by decide)).2 (B6.2.2.1 35 (by decide)))
  have B7 : BB 103 39 13 1 0 5171 h (gc36 x6) := (BB_new B6 (t := 2) (n := 1) (rl_ok rfl) (by decide) rfl rfl)
  generalize gc36 x6 = x7 at E B7
  replace E := E.trans (congrArg (fun r => zBack zY 92 138 141 [some (zR (some 90)), some (zR (some 3)), some (zR (some 101)), some (zI 0)] [zR (some 101), zR (some 102), zR (some 102), zI 0, zR (some 98)] (r)) (qc_38 (h := x7) B7.1.2 (B7.2.1 101 (by decide)).1 (B7.2.1 101 (by decide)).2))
  have B8 : BB 103 39 13 1 0 5171 h (gc37 x7) := (BB_I B7 (k := 0) (x := 0))
  have j8_0 : hI (gc37 x7) 101 0 = 0 := rfl
  generalize gc37 x7 = x8 at E B8 j8_0
  replace E := E.trans (qc_39 (h := x8) B8.1.2 (B8.2.1 102 (by decide)).1 (B8.2.1 102 (by decide)).2)
  obtain ⟨x9, e9, B9, f9⟩ := BB_F B8 (f := 102) (r := 101) (n := 1) (rl_ok rfl) (by decide) (by decide) rfl (by decide) rfl (by decide) (by decide) rfl rfl rfl
  replace E := E.trans (congrArg (fun r => zBack zY 92 141 144 [some (zR (some 90)), some (zR (some 3)), some (zR (some 101)), some (zI 0)] [zR (some 102), zI 0, zR (some 98)] (r)) (e9))
  have B10 : BB 104 40 13 1 0 5172 h x9 := B9
  have B11 : BB 104 40 13 1 1 5172 h x9 := BB_form B10 (by decide) (fo1 rfl f9 j8_0)
  exact ⟨_, E, B11⟩
theorem sg_10 {h x0 : zH} (B0 : BB 104 40 13 1 1 5172 h x0) : ∃ h2, zY 92 144 [some (zR (some 90)), some (zR (some 3)), some (zR (some 101)), some (zI 0)] [zR (some 102), zI 0, zR (some 98)] x0 = zY 92 144 [some (zR (some 90)), some (zR (some 3)), some (zR (some 101)), some (zI 2)] [zR (some 106), zI 2, zR (some 98)] h2 ∧ BB 108 44 13 1 3 5176 h h2 := by
  have E := (qc_40 (h := x0) B0.1.2 (B0.2.1 90 (by decide)).1 (B0.2.1 90 (by decide)).2 (B0.2.1 98 (by decide)).1 (B0.2.1 98 (by decide)).2 (B0.2.1 102 (by decide)).1 (B0.2.1 102 (by decide)).2 (B0.2.2.1 35 (by decide)))
  have B1 : BB 105 41 13 1 1 5173 h (gc38 x0) := (BB_new (BB_R B0 (a := 98) (k := 0) (b := 102) (by decide) rfl) (t := 2) (n := 1) (rl_ok rfl) (by decide) rfl rfl)
  generalize gc38 x0 = x1 at E B1
  replace E := E.trans (congrArg (fun r => zBack zY 92 138 141 [some (zR (some 90)), some (zR (some 3)), some (zR (some 101)), some (zI 1)] [zR (some 101), zR (some 104), zR (some 104), zI 1, zR (some 98)] (r)) (qc_41 (h := x1) B1.1.2 (B1.2.1 101 (by decide)).1 (B1.2.1 101 (by decide)).2))
  have B2 : BB 105 41 13 1 1 5173 h (gc39 x1) := (BB_I B1 (k := 0) (x := 1))
  have j2_0 : hI (gc39 x1) 101 0 = 1 := rfl
  generalize gc39 x1 = x2 at E B2 j2_0
  replace E := E.trans (qc_42 (h := x2) B2.1.2 (B2.2.1 104 (by decide)).1 (B2.2.1 104 (by decide)).2)
  obtain ⟨x3, e3, B3, f3⟩ := BB_F B2 (f := 104) (r := 101) (n := 1) (rl_ok rfl) (by decide) (by decide) rfl (by decide) rfl (by decide) (by decide) rfl rfl rfl
  replace E := E.trans (congrArg (fun r => zBack zY 92 141 144 [some (zR (some 90)), some (zR (some 3)), some (zR (some 101)), some (zI 1)] [zR (some 104), zI 1, zR (some 98)] (r)) (e3))
  have B4 : BB 106 42 13 1 1 5174 h x3 := B3
  have B5 : BB 106 42 13 1 2 5174 h x3 := BB_form B4 (by decide) (fo1 rfl f3 j2_0)
  replace E := E.trans (qc_43 (h := x3) B5.1.2 (B5.2.1 90 (by decide)).1 (B5.2.1 90 (by decide)).2 (B5.2.1 98 (by decide)).1 (B5.2.1 98 (by decide)).2 (B5.2.1 104 (by decide)).1 (B5.2.1 104 (by decide)).2 (B5.2.2.1 35 (by decide)))
  have B6 : BB 107 43 13 1 2 5175 h (gc40 x3) := (BB_new (BB_R B5 (a := 98) (k := 1) (b := 104) (by decide) rfl) (t := 2) (n := 1) (rl_ok rfl) (by decide) rfl rfl)
  generalize gc40 x3 = x4 at E B6
  replace E := E.trans (congrArg (fun r => zBack zY 92 138 141 [some (zR (some 90)), some (zR (some 3)), some (zR (some 101)), some (zI 2)] [zR (some 101), zR (some 106), zR (some 106), zI 2, zR (some 98)] (r)) (qc_44 (h := x4) B6.1.2 (B6.2.1 101 (by decide)).1 (B6.2.1 101 (by decide)).2))
  have B7 : BB 107 43 13 1 2 5175 h (gc41 x4) := (BB_I B6 (k := 0) (x := 2))
  have j7_0 : hI (gc41 x4) 101 0 = 2 := rfl
  generalize gc41 x4 = x5 at E B7 j7_0
  replace E := E.trans (qc_45 (h := x5) B7.1.2 (B7.2.1 106 (by decide)).1 (B7.2.1 106 (by decide)).2)
  obtain ⟨x6, e6, B8, f6⟩ := BB_F B7 (f := 106) (r := 101) (n := 1) (rl_ok rfl) (by decide) (by decide) rfl (by decide) rfl (by decide) (by decide) rfl rfl rfl
  replace E := E.trans (congrArg (fun r => zBack zY 92 141 144 [some (zR (some 90)), some (zR (some 3)), some (zR (some 101)), some (zI 2)] [zR (some 106), zI 2, zR (some 98)] (r)) (e6))
  have B9 : BB 108 44 13 1 2 5176 h x6 := B8
  have B10 : BB 108 44 13 1 3 5176 h x6 := BB_form B9 (by decide) (fo1 rfl f6 j7_0)
  exact ⟨_, E, B10⟩
theorem sg_11 {h x0 : zH} (B0 : BB 108 44 13 1 3 5176 h x0) : ∃ h2, zY 92 144 [some (zR (some 90)), some (zR (some 3)), some (zR (some 101)), some (zI 2)] [zR (some 106), zI 2, zR (some 98)] x0 = zY 92 144 [some (zR (some 90)), some (zR (some 3)), some (zR (some 101)), some (zI 4)] [zR (some 110), zI 4, zR (some 98)] h2 ∧ BB 112 48 13 1 5 5180 h h2 := by
  have E := (qc_46 (h := x0) B0.1.2 (B0.2.1 90 (by decide)).1 (B0.2.1 90 (by decide)).2 (B0.2.1 98 (by decide)).1 (B0.2.1 98 (by decide)).2 (B0.2.1 106 (by decide)).1 (B0.2.1 106 (by decide)).2 (B0.2.2.1 35 (by decide)))
  have B1 : BB 109 45 13 1 3 5177 h (gc42 x0) := (BB_new (BB_R B0 (a := 98) (k := 2) (b := 106) (by decide) rfl) (t := 2) (n := 1) (rl_ok rfl) (by decide) rfl rfl)
  generalize gc42 x0 = x1 at E B1
  replace E := E.trans (congrArg (fun r => zBack zY 92 138 141 [some (zR (some 90)), some (zR (some 3)), some (zR (some 101)), some (zI 3)] [zR (some 101), zR (some 108), zR (some 108), zI 3, zR (some 98)] (r)) (qc_47 (h := x1) B1.1.2 (B1.2.1 101 (by decide)).1 (B1.2.1 101 (by decide)).2))
  have B2 : BB 109 45 13 1 3 5177 h (gc43 x1) := (BB_I B1 (k := 0) (x := 3))
  have j2_0 : hI (gc43 x1) 101 0 = 3 := rfl
  generalize gc43 x1 = x2 at E B2 j2_0
  replace E := E.trans (qc_48 (h := x2) B2.1.2 (B2.2.1 108 (by decide)).1 (B2.2.1 108 (by decide)).2)
  obtain ⟨x3, e3, B3, f3⟩ := BB_F B2 (f := 108) (r := 101) (n := 1) (rl_ok rfl) (by decide) (by decide) rfl (by decide) rfl (by decide) (by decide) rfl rfl rfl
  replace E := E.trans (congrArg (fun r => zBack zY 92 141 144 [some (zR (some 90)), some (zR (some 3)), some (zR (some 101)), some (zI 3)] [zR (some 108), zI 3, zR (some 98)] (r)) (e3))
  have B4 : BB 110 46 13 1 3 5178 h x3 := B3
  have B5 : BB 110 46 13 1 4 5178 h x3 := BB_form B4 (by decide) (fo1 rfl f3 j2_0)
  replace E := E.trans (qc_49 (h := x3) B5.1.2 (B5.2.1 90 (by decide)).1 (B5.2.1 90 (by decide)).2 (B5.2.1 98 (by decide)).1 (B5.2.1 98 (by decide)).2 (B5.2.1 108 (by decide)).1 (B5.2.1 108 (by decide)).2 (B5.2.2.1 35 (by decide)))
  have B6 : BB 111 47 13 1 4 5179 h (gc44 x3) := (BB_new (BB_R B5 (a := 98) (k := 3) (b := 108) (by decide) rfl) (t := 2) (n := 1) (rl_ok rfl) (by decide) rfl rfl)
  generalize gc44 x3 = x4 at E B6
  replace E := E.trans (congrArg (fun r => zBack zY 92 138 141 [some (zR (some 90)), some (zR (some 3)), some (zR (some 101)), some (zI 4)] [zR (some 101), zR (some 110), zR (some 110), zI 4, zR (some 98)] (r)) (qc_50 (h := x4) B6.1.2 (B6.2.1 101 (by decide)).1 (B6.2.1 101 (by decide)).2))
  have B7 : BB 111 47 13 1 4 5179 h (gc45 x4) := (BB_I B6 (k := 0) (x := 4))
  have j7_0 : hI (gc45 x4) 101 0 = 4 := rfl
  generalize gc45 x4 = x5 at E B7 j7_0
  replace E := E.trans (qc_51 (h := x5) B7.1.2 (B7.2.1 110 (by decide)).1 (B7.2.1 110 (by decide)).2)
  obtain ⟨x6, e6, B8, f6⟩ := BB_F B7 (f := 110) (r := 101) (n := 1) (rl_ok rfl) (by decide) (by decide) rfl (by decide) rfl (by decide) (by decide) rfl rfl rfl
  replace E := E.trans (congrArg (fun r => zBack zY 92 141 144 [some (zR (some 90)), some (zR (some 3)), some (zR (some 101)), some (zI 4)] [zR (some 110), zI 4, zR (some 98)] (r)) (e6))
  have B9 : BB 112 48 13 1 4 5180 h x6 := B8
  have B10 : BB 112 48 13 1 5 5180 h x6 := BB_form B9 (by decide) (fo1 rfl f6 j7_0)
  exact ⟨_, E, B10⟩
theorem sg_12 {h x0 : zH} (B0 : BB 112 48 13 1 5 5180 h x0) : ∃ h2, zY 92 144 [some (zR (some 90)), some (zR (some 3)), some (zR (some 101)), some (zI 4)] [zR (some 110), zI 4, zR (some 98)] x0 = zY 92 144 [some (zR (some 90)), some (zR (some 3)), some (zR (some 101)), some (zI 6)] [zR (some 114), zI 6, zR (some 98)] h2 ∧ BB 116 52 13 1 7 5184 h h2 := by
  have E := (qc_52 (h := x0) B0.1.2 (B0.2.1 90 (by decide)).1 (B0.2.1 90 (by decide)).2 (B0.2.1 98 (by decide)).1 (B0.2.1 98 (by decide)).2 (B0.2.1 110 (by decide)).1 (B0.2.1 110 (by decide)).2 (B0.2.2.1 35 (by decide)))
  have B1 : BB 113 49 13 1 5 5181 h (gc46 x0) := (BB_new (BB_R B0 (a := 98) (k := 4) (b := 110) (by decide) rfl) (t := 2) (n := 1) (rl_ok rfl) (by decide) rfl rfl)
  generalize gc46 x0 = x1 at E B1
  replace E := E.trans (congrArg (fun r => zBack zY 92 138 141 [some (zR (some 90)), some (zR (some 3)), some (zR (some 101)), some (zI 5)] [zR (some 101), zR (some 112), zR (some 112), zI 5, zR (some 98)] (r)) (qc_53 (h := x1) B1.1.2 (B1.2.1 101 (by decide)).1 (B1.2.1 101 (by decide)).2))
  have B2 : BB 113 49 13 1 5 5181 h (gc47 x1) := (BB_I B1 (k := 0) (x := 5))
  have j2_0 : hI (gc47 x1) 101 0 = 5 := rfl
  generalize gc47 x1 = x2 at E B2 j2_0
  replace E := E.trans (qc_54 (h := x2) B2.1.2 (B2.2.1 112 (by decide)).1 (B2.2.1 112 (by decide)).2)
  obtain ⟨x3, e3, B3, f3⟩ := BB_F B2 (f := 112) (r := 101) (n := 1) (rl_ok rfl) (by decide) (by decide) rfl (by decide) rfl (by decide) (by decide) rfl rfl rfl
  replace E := E.trans (congrArg (fun r => zBack zY 92 141 144 [some (zR (some 90)), some (zR (some 3)), some (zR (some 101)), some (zI 5)] [zR (some 112), zI 5, zR (some 98)] (r)) (e3))
  have B4 : BB 114 50 13 1 5 5182 h x3 := B3
  have B5 : BB 114 50 13 1 6 5182 h x3 := BB_form B4 (by decide) (fo1 rfl f3 j2_0)
  replace E := E.trans (qc_55 (h := x3) B5.1.2 (B5.2.1 90 (by decide)).1 (B5.2.1 90 (by decide)).2 (B5.2.1 98 (by decide)).1 (B5.2.1 98 (by decide)).2 (B5.2.1 112 (by decide)).1 (B5.2.1 112 (by decide)).2 (B5.2.2.1 35 (by decide)))
  have B6 : BB 115 51 13 1 6 5183 h (gc48 x3) := (BB_new (BB_R B5 (a := 98) (k := 5) (b := 112) (by decide) rfl) (t := 2) (n := 1) (rl_ok rfl) (by decide) rfl rfl)
  generalize gc48 x3 = x4 at E B6
  replace E := E.trans (congrArg (fun r => zBack zY 92 138 141 [some (zR (some 90)), some (zR (some 3)), some (zR (some 101)), some (zI 6)] [zR (some 101), zR (some 114), zR (some 114), zI 6, zR (some 98)] (r)) (qc_56 (h := x4) B6.1.2 (B6.2.1 101 (by decide)).1 (B6.2.1 101 (by decide)).2))
  have B7 : BB 115 51 13 1 6 5183 h (gc49 x4) := (BB_I B6 (k := 0) (x := 6))
  have j7_0 : hI (gc49 x4) 101 0 = 6 := rfl
  generalize gc49 x4 = x5 at E B7 j7_0
  replace E := E.trans (qc_57 (h := x5) B7.1.2 (B7.2.1 114 (by decide)).1 (B7.2.1 114 (by decide)).2)
  obtain ⟨x6, e6, B8, f6⟩ := BB_F B7 (f := 114) (r := 101) (n := 1) (rl_ok rfl) (by decide) (by decide) rfl (by decide) rfl (by decide) (by decide) rfl rfl rfl
  replace E := E.trans (congrArg (fun r => zBack zY 92 141 144 [some (zR (some 90)), some (zR (some 3)), some (zR (some 101)), some (zI 6)] [zR (some 114), zI 6, zR (some 98)] (r)) (e6))
  have B9 : BB 116 52 13 1 6 5184 h x6 := B8
  have B10 : BB 116 52 13 1 7 5184 h x6 := BB_form B9 (by decide) (fo1 rfl f6 j7_0)
  exact ⟨_, E, B10⟩
theorem sg_13 {h x0 : zH} (B0 : BB 116 52 13 1 7 5184 h x0) : ∃ h2, zY 92 144 [some (zR (some 90)), some (zR (some 3)), some (zR (some 101)), some (zI 6)] [zR (some 114), zI 6, zR (some 98)] x0 = zY 92 144 [some (zR (some 90)), some (zR (some 3)), some (zR (some 101)), some (zI 8)] [zR (some 118), zI 8, zR (some 98)] h2 ∧ BB 120 56 13 1 9 5192 h h2 := by
  have E := (qc_58 (h := x0) B0.1.2 (B0.2.1 90 (by decide)).1 (B0.2.1 90 (by decide)).2 (B0.2.1 98 (by decide)).1 (B0.2.1 98 (by decide)).2 (B0.2.1 114 (by decide)).1 (B0.2.1 114 (by decide)).2 (B0.2.2.1 35 (by decide)))
  have B1 : BB 117 53 13 1 7 5185 h (gc50 x0) := (BB_new (BB_R B0 (a := 98) (k := 6) (b := 114) (by decide) rfl) (t := 2) (n := 1) (rl_ok rfl) (by decide) rfl rfl)
  generalize gc50 x0 = x1 at E B1
  replace E := E.trans (congrArg (fun r => zBack zY 92 138 141 [some (zR (some 90)), some (zR (some 3)), some (zR (some 101)), some (zI 7)] [zR (some 101), zR (some 116), zR (some 116), zI 7, zR (some 98)] (r)) (qc_59 (h := x1) B1.1.2 (B1.2.1 101 (by decide)).1 (B1.2.1 101 (by decide)).2))
  have B2 : BB 117 53 13 1 7 5185 h (gc51 x1) := (BB_I B1 (k := 0) (x := 7))
  have j2_0 : hI (gc51 x1) 101 0 = 7 := rfl
  generalize gc51 x1 = x2 at E B2 j2_0
  replace E := E.trans (congrArg (fun r => zBack zY 92 138 141 [some (zR (some 90)), some (zR (some 3)), some (zR (some 101)), some (zI 7)] [zR (some 101), zR (some 116), zR (some 116), zI 7, zR (some 98)] (r)) (qc_60 (h := x2) B2.1.2 (B2.2.1 101 (by decide)).1 (B2.2.1 101 (by decide)).2))
  have B3 : BB 117 53 13 1 7 5185 h (gc52 x2) := (BB_I (BB_I B2 (k := 1) (x := 4)) (k := 2) (x := 1))
  have j3_1 : hI (gc52 x2) 101 1 = 4 := rfl
  have j3_2 : hI (gc52 x2) 101 2 = 1 := rfl
  have j3_0 : hI (gc52 x2) 101 0 = 7 := by unfold gc52; rw [hI_nk (a := 101) (k := 2) (j := 0) _ _ (by decide), hI_nk (a := 101) (k := 1) (j := 0) _ _ (by decide)]; exact j2_0
  generalize gc52 x2 = x3 at E B3 j3_1 j3_2 j3_0
  replace E := E.trans (qc_61 (h := x3) B3.1.2 (B3.2.1 116 (by decide)).1 (B3.2.1 116 (by decide)).2)
  obtain ⟨x4, e4, B4, f4⟩ := BB_F B3 (f := 116) (r := 101) (n := 3) (rl_ok rfl) (by decide) (by decide) rfl (by decide) rfl (by decide) (by decide) rfl rfl rfl
  replace E := E.trans (congrArg (fun r => zBack zY 92 141 144 [some (zR (some 90)), some (zR (some 3)), some (zR (some 101)), some (zI 7)] [zR (some 116), zI 7, zR (some 98)] (r)) (e4))
  have B5 : BB 118 54 13 1 7 5188 h x4 := B4
  have B6 : BB 118 54 13 1 8 5188 h x4 := BB_form B5 (by decide) (fo3 rfl f4 j3_0 j3_1 j3_2)
  replace E := E.trans (qc_62 (h := x4) B6.1.2 (B6.2.1 90 (by decide)).1 (B6.2.1 90 (by decide)).2 (B6.2.1 98 (by decide)).1 (B6.2.1 98 (by decide)).2 (B6.2.1 116 (by decide)).1 (B6.2.1 116 (by decide)).2 (B6.2.2.1 35 (by decide)))
  have B7 : BB 119 55 13 1 8 5189 h (gc53 x4) := (BB_new (BB_R B6 (a := 98) (k := 7) (b := 116) (by decide) rfl) (t := 2) (n := 1) (rl_ok rfl) (by decide) rfl rfl)
  generalize gc53 x4 = x5 at E B7
  replace E := E.trans (congrArg (fun r => zBack zY 92 138 141 [some (zR (some 90)), some (zR (some 3)), some (zR (some 101)), some (zI 8)] [zR (some 101), zR (some 118), zR (some 118), zI 8, zR (some 98)] (r)) (qc_63 (h := x5) B7.1.2 (B7.2.1 101 (by decide)).1 (B7.2.1 101 (by decide)).2))
  have B8 : BB 119 55 13 1 8 5189 h (gc54 x5) := (BB_I B7 (k := 0) (x := 7))
  have j8_0 : hI (gc54 x5) 101 0 = 7 := rfl
  generalize gc54 x5 = x6 at E B8 j8_0
  replace E := E.trans (congrArg (fun r => zBack zY 92 138 141 [some (zR (some 90)), some (zR (some 3)), some (zR (some 101)), some (zI 8)] [zR (some 101), zR (some 118), zR (some 118), zI 8, zR (some 98)] (r)) (qc_64 (h := x6) B8.1.2 (B8.2.1 101 (by decide)).1 (B8.2.1 101 (by decide)).2))
  have B9 : BB 119 55 13 1 8 5189 h (gc55 x6) := (BB_I (BB_I B8 (k := 1) (x := 5)) (k := 2) (x := 1))
  have j9_1 : hI (gc55 x6) 101 1 = 5 := rfl
  have j9_2 : hI (gc55 x6) 101 2 = 1 := rfl
  have j9_0 : hI (gc55 x6) 101 0 = 7 := by unfold gc55; rw [hI_nk (a := 101) (k := 2) (j := 0) _ _ (by decide), hI_nk (a := 101) (k := 1) (j := 0) _ _ (by decide)]; exact j8_0
  generalize gc55 x6 = x7 at E B9 j9_1 j9_2 j9_0
  replace E := E.trans (qc_65 (h := x7) B9.1.2 (B9.2.1 118 (by decide)).1 (B9.2.1 118 (by decide)).2)
  obtain ⟨x8, e8, B10, f8⟩ := BB_F B9 (f := 118) (r := 101) (n := 3) (rl_ok rfl) (by decide) (by decide) rfl (by decide) rfl (by decide) (by decide) rfl rfl rfl
  replace E := E.trans (congrArg (fun r => zBack zY 92 141 144 [some (zR (some 90)), some (zR (some 3)), some (zR (some 101)), some (zI 8)] [zR (some 118), zI 8, zR (some 98)] (r)) (e8))
  have B11 : BB 120 56 13 1 8 5192 h x8 := B10
  have B12 : BB 120 56 13 1 9 5192 h x8 := BB_form B11 (by decide) (fo3 rfl f8 j9_0 j9_1 j9_2)
  exact ⟨_, E, B12⟩
theorem sg_14 {h x0 : zH} (B0 : BB 120 56 13 1 9 5192 h x0) : ∃ h2, zY 92 144 [some (zR (some 90)), some (zR (some 3)), some (zR (some 101)), some (zI 8)] [zR (some 118), zI 8, zR (some 98)] x0 = zY 92 144 [some (zR (some 90)), some (zR (some 3)), some (zR (some 101)), some (zI 10)] [zR (some 122), zI 10, zR (some 98)] h2 ∧ BB 124 60 13 1 11 5200 h h2 := by
  have E := (qc_66 (h := x0) B0.1.2 (B0.2.1 90 (by decide)).1 (B0.2.1 90 (by decide)).2 (B0.2.1 98 (by decide)).1 (B0.2.1 98 (by decide)).2 (B0.2.1 118 (by decide)).1 (B0.2.1 118 (by decide)).2 (B0.2.2.1 35 (by decide)))
  have B1 : BB 121 57 13 1 9 5193 h (gc56 x0) := (BB_new (BB_R B0 (a := 98) (k := 8) (b := 118) (by decide) rfl) (t := 2) (n := 1) (rl_ok rfl) (by decide) rfl rfl)
  generalize gc56 x0 = x1 at E B1
  replace E := E.trans (congrArg (fun r => zBack zY 92 138 141 [some (zR (some 90)), some (zR (some 3)), some (zR (some 101)), some (zI 9)] [zR (some 101), zR (some 120), zR (some 120), zI 9, zR (some 98)] (r)) (qc_67 (h := x1) B1.1.2 (B1.2.1 101 (by decide)).1 (B1.2.1 101 (by decide)).2))
  have B2 : BB 121 57 13 1 9 5193 h (gc57 x1) := (BB_I B1 (k := 0) (x := 7))
  have j2_0 : hI (gc57 x1) 101 0 = 7 := rfl
  generalize gc57 x1 = x2 at E B2 j2_0
  replace E := E.trans (congrArg (fun r => zBack zY 92 138 141 [some (zR (some 90)), some (zR (some 3)), some (zR (some 101)), some (zI 9)] [zR (some 101), zR (some 120), zR (some 120), zI 9, zR (some 98)] (r)) (qc_68 (h := x2) B2.1.2 (B2.2.1 101 (by decide)).1 (B2.2.1 101 (by decide)).2))
  have B3 : BB 121 57 13 1 9 5193 h (gc58 x2) := (BB_I (BB_I B2 (k := 1) (x := 6)) (k := 2) (x := 1))
  have j3_1 : hI (gc58 x2) 101 1 = 6 := rfl
  have j3_2 : hI (gc58 x2) 101 2 = 1 := rfl
  have j3_0 : hI (gc58 x2) 101 0 = 7 := by unfold gc58; rw [hI_nk (a := 101) (k := 2) (j := 0) _ _ (by decide), hI_nk (a := 101) (k := 1) (j := 0) _ _ (by decide)]; exact j2_0
  generalize gc58 x2 = x3 at E B3 j3_1 j3_2 j3_0
  replace E := E.trans (qc_69 (h := x3) B3.1.2 (B3.2.1 120 (by decide)).1 (B3.2.1 120 (by decide)).2)
  obtain ⟨x4, e4, B4, f4⟩ := BB_F B3 (f := 120) (r := 101) (n := 3) (rl_ok rfl) (by decide) (by decide) rfl (by decide) rfl (by decide) (by decide) rfl rfl rfl
  replace E := E.trans (congrArg (fun r => zBack zY 92 141 144 [some (zR (some 90)), some (zR (some 3)), some (zR (some 101)), some (zI 9)] [zR (some 120), zI 9, zR (some 98)] (r)) (e4))
  have B5 : BB 122 58 13 1 9 5196 h x4 := B4
  have B6 : BB 122 58 13 1 10 5196 h x4 := BB_form B5 (by decide) (fo3 rfl f4 j3_0 j3_1 j3_2)
  replace E := E.trans (qc_70 (h := x4) B6.1.2 (B6.2.1 90 (by decide)).1 (B6.2.1 90 (by decide)).2 (B6.2.1 98 (by decide)).1 (B6.2.1 98 (by decide)).2 (B6.2.1 120 (by decide)).1 (B6.2.1 120 (by decide)).2 (B6.2.2.1 35 (by decide)))
  have B7 : BB 123 59 13 1 10 5197 h (gc59 x4) := (BB_new (BB_R B6 (a := 98) (k := 9) (b := 120) (by decide) rfl) (t := 2) (n := 1) (rl_ok rfl) (by decide) rfl rfl)
  generalize gc59 x4 = x5 at E B7
  replace E := E.trans (congrArg (fun r => zBack zY 92 138 141 [some (zR (some 90)), some (zR (some 3)), some (zR (some 101)), some (zI 10)] [zR (some 101), zR (some 122), zR (some 122), zI 10, zR (some 98)] (r)) (qc_71 (h := x5) B7.1.2 (B7.2.1 101 (by decide)).1 (B7.2.1 101 (by decide)).2))
  have B8 : BB 123 59 13 1 10 5197 h (gc60 x5) := (BB_I B7 (k := 0) (x := 8))
  have j8_0 : hI (gc60 x5) 101 0 = 8 := rfl
  generalize gc60 x5 = x6 at E B8 j8_0
  replace E := E.trans (congrArg (fun r => zBack zY 92 138 141 [some (zR (some 90)), some (zR (some 3)), some (zR (some 101)), some (zI 10)] [zR (some 101), zR (some 122), zR (some 122), zI 10, zR (some 98)] (r)) (qc_72 (h := x6) B8.1.2 (B8.2.1 101 (by decide)).1 (B8.2.1 101 (by decide)).2))
  have B9 : BB 123 59 13 1 10 5197 h (gc61 x6) := (BB_I (BB_I B8 (k := 1) (x := 4)) (k := 2) (x := 1))
  have j9_1 : hI (gc61 x6) 101 1 = 4 := rfl
  have j9_2 : hI (gc61 x6) 101 2 = 1 := rfl
  have j9_0 : hI (gc61 x6) 101 0 = 8 := by unfold gc61; rw [hI_nk (a := 101) (k := 2) (j := 0) _ _ (by decide), hI_nk (a := 101) (k := 1) (j := 0) _ _ (by decide)]; exact j8_0
  generalize gc61 x6 = x7 at E B9 j9_1 j9_2 j9_0
  replace E := E.trans (qc_73 (h := x7) B9.1.2 (B9.2.1 122 (by decide)).1 (B9.2.1 122 (by decide)).2)
  obtain ⟨x8, e8, B10, f8⟩ := BB_F B9 (f := 122) (r := 101) (n := 3) (rl_ok rfl) (by decide) (by decide) rfl (by decide) rfl (by decide) (by decide) rfl rfl rfl
  replace E := E.trans (congrArg (fun r => zBack zY 92 141 144 [some (zR (some 90)), some (zR (some 3)), some (zR (some 101)), some (zI 10)] [zR (some 122), zI 10, zR (some 98)] (r)) (e8))
  have B11 : BB 124 60 13 1 10 5200 h x8 := B10
  have B12 : BB 124 60 13 1 11 5200 h x8 := BB_form B11 (by decide) (fo3 rfl f8 j9_0 j9_1 j9_2)
  exact ⟨_, E, B12⟩
theorem sg_15 {h x0 : zH} (B0 : BB 124 60 13 1 11 5200 h x0) : ∃ h2, zY 92 144 [some (zR (some 90)), some (zR (some 3)), some (zR (some 101)), some (zI 10)] [zR (some 122), zI 10, zR (some 98)] x0 = zY 92 144 [some (zR (some 90)), some (zR (some 3)), some (zR (some 101)), some (zI 12)] [zR (some 126), zI 12, zR (some 98)] h2 ∧ BB 128 64 13 1 13 5208 h h2 := by
  have E := (qc_74 (h := x0) B0.1.2 (B0.2.1 90 (by decide)).1 (B0.2.1 90 (by decide)).2 (B0.2.1 98 (by decide)).1 (B0.2.1 98 (by decide)).2 (B0.2.1 122 (by decide)).1 (B0.2.1 122 (by decide)).2 (B0.2.2.1 35 (by decide)))
  have B1 : BB 125 61 13 1 11 5201 h (gc62 x0) := (BB_new (BB_R B0 (a := 98) (k := 10) (b := 122) (by decide) rfl) (t := 2) (n := 1) (rl_ok rfl) (by decide) rfl rfl)
  generalize gc62 x0 = x1 at E B1
  replace E := E.trans (congrArg (fun r => zBack zY 92 138 141 [some (zR (some 90)), some (zR (some 3)), some (zR (some 101)), some (zI 11)] [zR (some 101), zR (some 124), zR (some 124), zI 11, zR (some 98)] (r)) (qc_75 (h := x1) B1.1.2 (B1.2.1 101 (by decide)).1 (B1.2.1 101 (by decide)).2))
  have B2 : BB 125 61 13 1 11 5201 h (gc63 x1) := (BB_I B1 (k := 0) (x := 8))
  have j2_0 : hI (gc63 x1) 101 0 = 8 := rfl
  generalize gc63 x1 = x2 at E B2 j2_0
  replace E := E.trans (congrArg (fun r => zBack zY 92 138 141 [some (zR (some 90)), some (zR (some 3)), some (zR (some 101)), some (zI 11)] [zR (some 101), zR (some 124), zR (some 124), zI 11, zR (some 98)] (r)) (qc_76 (h := x2) B2.1.2 (B2.2.1 101 (by decide)).1 (B2.2.1 101 (by decide)).2))
  have B3 : BB 125 61 13 1 11 5201 h (gc64 x2) := (BB_I (BB_I B2 (k := 1) (x := 5)) (k := 2) (x := 1))
  have j3_1 : hI (gc64 x2) 101 1 = 5 := rfl
  have j3_2 : hI (gc64 x2) 101 2 = 1 := rfl
  have j3_0 : hI (gc64 x2) 101 0 = 8 := by unfold gc64; rw [hI_nk (a := 101) (k := 2) (j := 0) _ _ (by decide), hI_nk (a := 101) (k := 1) (j := 0) _ _ (by decide)]; exact j2_0
  generalize gc64 x2 = x3 at E B3 j3_1 j3_2 j3_0
  replace E := E.trans (qc_77 (h := x3) B3.1.2 (B3.2.1 124 (by decide)).1 (B3.2.1 124 (by decide)).2)
  obtain ⟨x4, e4, B4, f4⟩ := BB_F B3 (f := 124) (r := 101) (n := 3) (rl_ok rfl) (by decide) (by decide) rfl (by decide) rfl (by decide) (by decide) rfl rfl rfl
  replace E := E.trans (congrArg (fun r => zBack zY 92 141 144 [some (zR (some 90)), some (zR (some 3)), some (zR (some 101)), some (zI 11)] [zR (some 124), zI 11, zR (some 98)] (r)) (e4))
  have B5 : BB 126 62 13 1 11 5204 h x4 := B4
  have B6 : BB 126 62 13 1 12 5204 h x4 := BB_form B5 (by decide) (fo3 rfl f4 j3_0 j3_1 j3_2)
  replace E := E.trans (qc_78 (h := x4) B6.1.2 (B6.2.1 90 (by decide)).1 (B6.2.1 90 (by decide)).2 (B6.2.1 98 (by decide)).1 (B6.2.1 98 (by decide)).2 (B6.2.1 124 (by decide)).1 (B6.2.1 124 (by decide)).2 (B6.2.2.1 35 (by decide)))
  have B7 : BB 127 63 13 1 12 5205 h (gc65 x4) := (BB_new (BB_R B6 (a := 98) (k := 11) (b := 124) (by decide) rfl) (t := 2) (n := 1) (rl_ok rfl) (by decide) rfl rfl)
  generalize gc65 x4 = x5 at E B7
  replace E := E.trans (congrArg (fun r => zBack zY 92 138 141 [some (zR (some 90)), some (zR (some 3)), some (zR (some 101)), some (zI 12)] [zR (some 101), zR (some 126), zR (some 126), zI 12, zR (some 98)] (r)) (qc_79 (h := x5) B7.1.2 (B7.2.1 101 (by decide)).1 (B7.2.1 101 (by decide)).2))
  have B8 : BB 127 63 13 1 12 5205 h (gc66 x5) := (BB_I B7 (k := 0) (x := 8))
  have j8_0 : hI (gc66 x5) 101 0 = 8 := rfl
  generalize gc66 x5 = x6 at E B8 j8_0
  replace E := E.trans (congrArg (fun r => zBack zY 92 138 141 [some (zR (some 90)), some (zR (some 3)), some (zR (some 101)), some (zI 12)] [zR (some 101), zR (some 126), zR (some 126), zI 12, zR (some 98)] (r)) (qc_80 (h := x6) B8.1.2 (B8.2.1 101 (by decide)).1 (B8.2.1 101 (by decide)).2))
  have B9 : BB 127 63 13 1 12 5205 h (gc67 x6) := (BB_I (BB_I B8 (k := 1) (x := 6)) (k := 2) (x := 1))
  have j9_1 : hI (gc67 x6) 101 1 = 6 := rfl
  have j9_2 : hI (gc67 x6) 101 2 = 1 := rfl
  have j9_0 : hI (gc67 x6) 101 0 = 8 := by unfold gc67; rw [hI_nk (a := 101) (k := 2) (j := 0) _ _ (by decide), hI_nk (a := 101) (k := 1) (j := 0) _ _ (by decide)]; exact j8_0
  generalize gc67 x6 = x7 at E B9 j9_1 j9_2 j9_0
  replace E := E.trans (qc_81 (h := x7) B9.1.2 (B9.2.1 126 (by decide)).1 (B9.2.1 126 (by decide)).2)
  obtain ⟨x8, e8, B10, f8⟩ := BB_F B9 (f := 126) (r := 101) (n := 3) (rl_ok rfl) (by decide) (by decide) rfl (by decide) rfl (by decide) (by decide) rfl rfl rfl
  replace E := E.trans (congrArg (fun r => zBack zY 92 141 144 [some (zR (some 90)), some (zR (some 3)), some (zR (some 101)), some (zI 12)] [zR (some 126), zI 12, zR (some 98)] (r)) (e8))
  have B11 : BB 128 64 13 1 12 5208 h x8 := B10
  have B12 : BB 128 64 13 1 13 5208 h x8 := BB_form B11 (by decide) (fo3 rfl f8 j9_0 j9_1 j9_2)
  exact ⟨_, E, B12⟩
theorem sg_16 {h x0 : zH} (B0 : BB 128 64 13 1 13 5208 h x0) : ∃ h2, zY 92 144 [some (zR (some 90)), some (zR (some 3)), some (zR (some 101)), some (zI 12)] [zR (some 126), zI 12, zR (some 98)] x0 = some (.inl none, h2) ∧ BB 128 65 13 1 13 5208 h h2 := by
  have E := (qc_82 (h := x0) B0.1.2 (B0.2.1 98 (by decide)).1 (B0.2.1 98 (by decide)).2 (B0.2.1 126 (by decide)).1 (B0.2.1 126 (by decide)).2)
  have B1 : BB 128 65 13 1 13 5208 h (gc68 x0) := (BB_R B0 (a := 98) (k := 12) (b := 126) (by decide) rfl)
  generalize gc68 x0 = x1 at E B1
  exact ⟨_, E, B1⟩
theorem sg_17 {h x0 : zH} (B0 : BB 91 28 13 1 0 4586 h x0) : ∃ h2, zC 92 [zR (some 90), zR (some 3)] x0 = some (.inl none, h2) ∧ BB 128 65 13 1 13 5208 h h2 := by
  obtain ⟨y0, e0, b0⟩ := sg_8 B0
  obtain ⟨y1, e1, b1⟩ := sg_9 b0
  obtain ⟨y2, e2, b2⟩ := sg_10 b1
  obtain ⟨y3, e3, b3⟩ := sg_11 b2
  obtain ⟨y4, e4, b4⟩ := sg_12 b3
  obtain ⟨y5, e5, b5⟩ := sg_13 b4
  obtain ⟨y6, e6, b6⟩ := sg_14 b5
  obtain ⟨y7, e7, b7⟩ := sg_15 b6
  obtain ⟨y8, e8, b8⟩ := sg_16 b7
  exact ⟨_, ((((((((e0).trans e1).trans e2).trans e3).trans e4).trans e5).trans e6).trans e7).trans e8, b8⟩
theorem sg_18 {h x0 : zH} (B0 : BB 74 25 12 0 0 4206 h x0) : ∃ h2, zY 146 65 [some (zR (some 0))] [zR (some 10), zR (some 0)] x0 = zY 146 110 [some (zR (some 0))] [zR (some 90), zR (some 0)] h2 ∧ BB 128 65 13 1 13 5208 h h2 := by
  have E := (qc_21 (h := x0) B0.1.2 (B0.2.1 0 (by decide)).1 (B0.2.1 0 (by decide)).2 (B0.2.2.1 3 (by decide)))
  have Bx : BB 74 26 12 0 0 4206 h (sR x0 0 8 (some 10)) := (BB_R B0 (a := 0) (k := 8) (b := 10) (by decide) rfl)
  have B1 : BB 75 26 12 0 0 4220 h (gc20 x0) := (BB_new Bx (t := 5) (n := 14) (rl_ok rfl) (by decide) rfl rfl)
  obtain ⟨x1, e1, B2⟩ := BB_P Bx (rl_ok rfl) (by decide)
  replace E := E.trans (congrArg (fun r => zBack zY 146 77 80 [some (zR (some 0))] [zR (some 74), zR (some 0)] (r)) (e1))
  have B3 : BB 85 26 12 1 0 4460 h x1 := B2
  replace E := E.trans (qc_22 (h := x1) B3.1.2 (B3.2.1 0 (by decide)).1 (B3.2.1 0 (by decide)).2 (B3.2.2.1 3 (by decide)))
  have Bx : BB 85 27 12 1 0 4460 h (sR x1 0 13 (some 74)) := (BB_R B3 (a := 0) (k := 13) (b := 74) (by decide) rfl)
  have B4 : BB 86 27 12 1 0 4467 h (gc21 x1) := (BB_new Bx (t := 10) (n := 7) (rl_ok rfl) (by decide) rfl rfl)
  obtain ⟨x2, e2, B5⟩ := BB_V Bx (rl_ok rfl) (by decide) rfl (by decide)
  replace E := E.trans (congrArg (fun r => zBack zY 146 92 95 [some (zR (some 0))] [zR (some 85), zR (some 0)] (r)) (e2))
  have B6 : BB 90 27 13 1 0 4570 h x2 := B5
  replace E := E.trans (qc_23 (h := x2) B6.1.2 (B6.2.1 0 (by decide)).1 (B6.2.1 0 (by decide)).2 (B6.2.2.1 3 (by decide)))
  have B7 : BB 91 28 13 1 0 4586 h (gc22 x2) := (BB_new (BB_R B6 (a := 0) (k := 14) (b := 85) (by decide) rfl) (t := 8) (n := 16) (rl_ok rfl) (by decide) rfl rfl)
  generalize gc22 x2 = x3 at E B7
  obtain ⟨x4, e4, B8⟩ := sg_17 B7
  replace E := E.trans (congrArg (fun r => zBack zY 146 107 110 [some (zR (some 0))] [zR (some 90), zR (some 0)] (r)) (e4))
  exact ⟨_, E, B8⟩
theorem sg_19 {h x0 : zH} (B0 : BB 128 65 13 1 13 5208 h x0) : ∃ h2, zY 146 110 [some (zR (some 0))] [zR (some 90), zR (some 0)] x0 = zY 146 159 [some (zR (some 0))] [zR (some 135), zR (some 0)] h2 ∧ BB 163 104 13 1 13 11998 h h2 := by
  have E := (qc_83 (h := x0) B0.1.2 (B0.2.1 0 (by decide)).1 (B0.2.1 0 (by decide)).2)
  have B1 : BB 129 66 13 1 13 5218 h (gc69 x0) := (BB_new (BB_R B0 (a := 0) (k := 9) (b := 90) (by decide) rfl) (t := 6) (n := 10) (rl_ok rfl) (by decide) rfl rfl)
  generalize gc69 x0 = x1 at E B1
  replace E := E.trans (congrArg (fun r => zBack zY 146 122 125 [some (zR (some 0))] [zR (some 128), zR (some 0)] (r)) (qc_84 (h := x1) B1.1.2 (B1.2.1 128 (by decide)).1 (B1.2.1 128 (by decide)).2))
  have B2 : BB 132 70 13 1 13 6842 h (gc70 x1) := (BB_R (BB_R (BB_new (BB_R (BB_new (BB_R (BB_new B1 (t := 22) (n := 1536) (rl_ok rfl) (by decide) rfl rfl) (a := 128) (k := 3) (b := 129) (by decide) rfl) (t := 22) (n := 64) (rl_ok rfl) (by decide) rfl rfl) (a := 128) (k := 4) (b := 130) (by decide) rfl) (t := 23) (n := 24) (rl_ok rfl) (by decide) rfl rfl) (a := 128) (k := 5) (b := 131) (by decide) rfl) (a := 128) (k := 0) (b := 90) (by decide) rfl)
  generalize gc70 x1 = x2 at E B2
  replace E := E.trans (qc_85 (h := x2) B2.1.2 (B2.2.1 0 (by decide)).1 (B2.2.1 0 (by decide)).2 (B2.2.2.1 65 (by decide)))
  have B3 : BB 133 71 13 1 13 6847 h (gc71 x2) := (BB_new (BB_R B2 (a := 0) (k := 10) (b := 128) (by decide) rfl) (t := 1) (n := 5) (rl_ok rfl) (by decide) rfl rfl)
  generalize gc71 x2 = x3 at E B3
  replace E := E.trans (congrArg (fun r => zBack zY 146 141 144 [some (zR (some 0))] [zR (some 132), zR (some 0)] (r)) (qc_86 (h := x3) B3.1.2 (B3.2.1 132 (by decide)).1 (B3.2.1 132 (by decide)).2))
  have B4 : BB 135 75 13 1 13 6944 h (gc72 x3) := (BB_R (BB_R (BB_R (BB_new (BB_R (BB_new B3 (t := 23) (n := 24) (rl_ok rfl) (by decide) rfl rfl) (a := 132) (k := 3) (b := 133) (by decide) rfl) (t := 23) (n := 73) (rl_ok rfl) (by decide) rfl rfl) (a := 132) (k := 4) (b := 134) (by decide) rfl) (a := 132) (k := 0) (b := 90) (by decide) rfl) (a := 132) (k := 1) (b := 128) (by decide) rfl)
  generalize gc72 x3 = x4 at E B4
  replace E := E.trans (qc_87 (h := x4) B4.1.2 (B4.2.1 0 (by decide)).1 (B4.2.1 0 (by decide)).2 (B4.2.2.1 65 (by decide)))
  have B5 : BB 136 76 13 1 13 6948 h (gc73 x4) := (BB_new (BB_R B4 (a := 0) (k := 11) (b := 132) (by decide) rfl) (t := 9) (n := 4) (rl_ok rfl) (by decide) rfl rfl)
  generalize gc73 x4 = x5 at E B5
  replace E := E.trans (congrArg (fun r => zBack zY 146 156 159 [some (zR (some 0))] [zR (some 135), zR (some 0)] (r)) (qc_88 (h := x5) B5.1.2 (B5.2.1 135 (by decide)).1 (B5.2.1 135 (by decide)).2))
  have B6 : BB 163 104 13 1 13 11998 h (gc74 x5) := (BB_R (BB_R (BB_new (BB_R (BB_M B5 (n := 25) (k := 200) rfl rfl (rl_ok rfl) (by decide)) (a := 135) (k := 2) (b := 136) (by decide) rfl) (t := 22) (n := 25) (rl_ok rfl) (by decide) rfl rfl) (a := 135) (k := 3) (b := 162) (by decide) rfl) (a := 135) (k := 0) (b := 90) (by decide) rfl)
  generalize gc74 x5 = x6 at E B6
  exact ⟨_, E, B6⟩
theorem sg_20 {h x0 : zH} (B0 : BB 163 104 13 1 13 11998 h x0) : ∃ h2, zY 146 159 [some (zR (some 0))] [zR (some 135), zR (some 0)] x0 = zY 146 162 [some (zR (some 0))] [] h2 ∧ BB 163 105 13 1 13 11998 h h2 := by
  have E := (qc_89 (h := x0) B0.1.2 (B0.2.1 0 (by decide)).1 (B0.2.1 0 (by decide)).2)
  have B1 : BB 163 105 13 1 13 11998 h (gc75 x0) := (BB_R B0 (a := 0) (k := 12) (b := 135) (by decide) rfl)
  generalize gc75 x0 = x1 at E B1
  exact ⟨_, E, B1⟩
theorem sg_21 {h x0 : zH} (B0 : BB 1 0 0 0 0 15 h x0) : ∃ h2, zC 146 [zR (some 0)] x0 = zY 146 162 [some (zR (some 0))] [] h2 ∧ BB 163 105 13 1 13 11998 h h2 := by
  obtain ⟨y0, e0, b0⟩ := sg_1 B0
  obtain ⟨y1, e1, b1⟩ := sg_7 b0
  obtain ⟨y2, e2, b2⟩ := sg_18 b1
  obtain ⟨y3, e3, b3⟩ := sg_19 b2
  obtain ⟨y4, e4, b4⟩ := sg_20 b3
  exact ⟨_, ((((e0).trans e1).trans e2).trans e3).trans e4, b4⟩
theorem c_B_alloc {h : zH} (hn : hN h = 0) : ∃ h2, zC 146 [zR (some 0)] (hNew h 11 15) = zY 146 162 [some (zR (some 0))] [] h2 ∧ BB 163 105 13 1 13 11998 h h2 := by
  have Bz : BB 0 0 0 0 0 0 h h := ⟨⟨hn, hn⟩, fun _ z => absurd z (by omega), fun _ z => absurd z (by omega), fun _ z => absurd z (by omega), fun _ z => absurd z (by omega), fun z => absurd z (by decide), fun _ _ z => absurd z (by omega), Gw_r _ _⟩
  exact sg_21 (BB_new Bz (fun q z => absurd z (by omega)) (by decide) rfl rfl)
end CSTART3


