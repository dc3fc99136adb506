/-! The class's reading calls, as the law makes them. -/
abbrev TSt : Type := Int × Int × (Nat → Int) × (Nat → Int) × Nat × (Nat → Nat → Int) × Option (Nat → Int) × Option (Nat → Int) × (Nat → Int) × Int × Int × Int
def wO : TSt → List Int → MSt
  | (n, top, R, N, c, Ol, s0, s1, I, m, ec, ep), O => (n, top, R, N, c, Ol, s0, s1, I, m, O, ec, ep)
/-- the class stands for t, whatever its output is; since hs nothing was made and only the class's own cells were written -/
def LJ (t : TSt) (hs h : zH) : Prop := ∃ p v O, CJ h p v (wO t O) ∧ Gw Wb 0 0 hs h
section LJS
variable {t : TSt} {hs h : zH} {n top : Int} {R N : Nat → Int} {c : Nat} {Ol : Nat → Nat → Int} {s0 s1 : Option (Nat → Int)} {I : Nat → Int} {m : Int} {ec ep : Int}
theorem lj_c {q : Nat} {as : List zV} {tb : Int → Nat} {x : zV} (hz : hN hs < zVB) (L : LJ t hs h) (k : ∀ p v O, CJ h p v (wO t O) → hN h < zVB → ∃ r O2, CW h q as tb (r, wO t O2) ∧ r = (0, x)) : ∃ h2, zC q (zR (some 0) :: as) h = some (.inl (some x), h2) ∧ LJ t hs h2 := by
  obtain ⟨p, v, O, J, G⟩ := L
  have n1 := G.1.2.1
  obtain ⟨r, O2, ⟨h2, p2, v2, E, J2, G2⟩, e⟩ := k p v O J (by omega)
  subst e
  refine ⟨h2, E, p2, v2, O2, J2, ?_⟩
  exact Gw_t (d2 := 0) (e2 := 0) G G2 (fun a k _ w => w)
theorem lj_N (L : LJ t hs h) : hN h = hN hs := by
  obtain ⟨p, v, O, J, G⟩ := L
  have := G.1
  omega
theorem lj_K (L : LJ t hs h) : KC h := by
  obtain ⟨p, v, O, J, G⟩ := L
  obtain ⟨n, top, R, N, c, Ol, s0, s1, I, m, ec, ep⟩ := t
  exact J_K J
theorem lj_T (L : LJ t hs h) : hT h 0 = 11 := PTC (lj_K L) 0 11 rfl rfl
theorem lj_0 (L : LJ t hs h) : 0 < hN h := PNC (lj_K L) 0 rfl
theorem g_before (L : LJ (n, top, R, N, c, Ol, s0, s1, I, m, ec, ep) hs h) (Q : Prg n top R N) (hz : hN hs < zVB)  : ∃ h2, zC 149 [zR (some 0)] h = some (.inl (some (zJ (setL (lst N 0)))), h2) ∧ LJ (n, top, R, N, c, Ol, s0, s1, I, m, ec, ep) hs h2 :=
  lj_c hz L fun p v O J hn => ⟨_, O, k_before J, rfl⟩
theorem g_after (L : LJ (n, top, R, N, c, Ol, s0, s1, I, m, ec, ep) hs h) (Q : Prg n top R N) (hz : hN hs < zVB)  : ∃ h2, zC 150 [zR (some 0)] h = some (.inl (some (zJ (setL (lst N 1)))), h2) ∧ LJ (n, top, R, N, c, Ol, s0, s1, I, m, ec, ep) hs h2 :=
  lj_c hz L fun p v O J hn => ⟨_, O, k_after J, rfl⟩
theorem g_value0 (L : LJ (n, top, R, N, c, Ol, s0, s1, I, m, ec, ep) hs h) (Q : Prg n top R N) (hz : hN hs < zVB)  : ∃ h2, zC 163 [zR (some 0), zI 0] h = some (.inl (some (zI (n))), h2) ∧ LJ (n, top, R, N, c, Ol, s0, s1, I, m, ec, ep) hs h2 :=
  lj_c hz L fun p v O J hn => ⟨_, O, k_value J Q hn 0, rfl⟩
theorem g_value1 (L : LJ (n, top, R, N, c, Ol, s0, s1, I, m, ec, ep) hs h) (Q : Prg n top R N) (hz : hN hs < zVB)  : ∃ h2, zC 163 [zR (some 0), zI 1] h = some (.inl (some (zI (cntK R 2 n.toNat))), h2) ∧ LJ (n, top, R, N, c, Ol, s0, s1, I, m, ec, ep) hs h2 :=
  lj_c hz L fun p v O J hn => ⟨_, O, k_value J Q hn 1, rfl⟩
theorem g_value2 (L : LJ (n, top, R, N, c, Ol, s0, s1, I, m, ec, ep) hs h) (Q : Prg n top R N) (hz : hN hs < zVB)  : ∃ h2, zC 163 [zR (some 0), zI 2] h = some (.inl (some (zI (cntK R 3 n.toNat))), h2) ∧ LJ (n, top, R, N, c, Ol, s0, s1, I, m, ec, ep) hs h2 :=
  lj_c hz L fun p v O J hn => ⟨_, O, k_value J Q hn 2, rfl⟩
theorem g_value4 (L : LJ (n, top, R, N, c, Ol, s0, s1, I, m, ec, ep) hs h) (Q : Prg n top R N) (hz : hN hs < zVB)  : ∃ h2, zC 163 [zR (some 0), zI 4] h = some (.inl (some (zI (dmS n R))), h2) ∧ LJ (n, top, R, N, c, Ol, s0, s1, I, m, ec, ep) hs h2 :=
  lj_c hz L fun p v O J hn => ⟨_, O, k_value J Q hn 4, rfl⟩
theorem g_value5 (L : LJ (n, top, R, N, c, Ol, s0, s1, I, m, ec, ep) hs h) (Q : Prg n top R N) (hz : hN hs < zVB)  : ∃ h2, zC 163 [zR (some 0), zI 5] h = some (.inl (some (zI (nfC n top R N))), h2) ∧ LJ (n, top, R, N, c, Ol, s0, s1, I, m, ec, ep) hs h2 :=
  lj_c hz L fun p v O J hn => ⟨_, O, k_value J Q hn 5, rfl⟩
theorem g_value6 (L : LJ (n, top, R, N, c, Ol, s0, s1, I, m, ec, ep) hs h) (Q : Prg n top R N) (hz : hN hs < zVB)  : ∃ h2, zC 163 [zR (some 0), zI 6] h = some (.inl (some (zI (if nfC n top R N = 0 then 1 else 0))), h2) ∧ LJ (n, top, R, N, c, Ol, s0, s1, I, m, ec, ep) hs h2 :=
  lj_c hz L fun p v O J hn => ⟨_, O, k_value J Q hn 6, rfl⟩
theorem g_st1 (L : LJ (n, top, R, N, c, Ol, s0, s1, I, m, ec, ep) hs h) (Q : Prg n top R N) (hz : hN hs < zVB) (X : RX n R) {s : Int} (s0' : 0 ≤ s) (s1' : s < n) : ∃ h2, zC 164 [zR (some 0), zI s, zI 1] h = some (.inl (some (zI (if sv R s 0 = 3 ∧ ¬ N (2294 + s).toNat = -1 then N (2294 + s).toNat / 13 else sv R s 1))), h2) ∧ LJ (n, top, R, N, c, Ol, s0, s1, I, m, ec, ep) hs h2 :=
  lj_c hz L fun p v O J hn => ⟨_, O, k_statement J Q X hn s 1, if_pos ⟨s0', s1'⟩⟩
theorem g_st5 (L : LJ (n, top, R, N, c, Ol, s0, s1, I, m, ec, ep) hs h) (Q : Prg n top R N) (hz : hN hs < zVB) (X : RX n R) {s : Int} (s0' : 0 ≤ s) (s1' : s < n) : ∃ h2, zC 164 [zR (some 0), zI s, zI 5] h = some (.inl (some (zI (N (2318 + s).toNat))), h2) ∧ LJ (n, top, R, N, c, Ol, s0, s1, I, m, ec, ep) hs h2 :=
  lj_c hz L fun p v O J hn => ⟨_, O, k_statement J Q X hn s 5, if_pos ⟨s0', s1'⟩⟩
theorem g_st7 (L : LJ (n, top, R, N, c, Ol, s0, s1, I, m, ec, ep) hs h) (Q : Prg n top R N) (hz : hN hs < zVB) (X : RX n R) {s : Int} (s0' : 0 ≤ s) (s1' : s < n) : ∃ h2, zC 164 [zR (some 0), zI s, zI 7] h = some (.inl (some (zI (sv R s 7))), h2) ∧ LJ (n, top, R, N, c, Ol, s0, s1, I, m, ec, ep) hs h2 :=
  lj_c hz L fun p v O J hn => ⟨_, O, k_statement J Q X hn s 7, if_pos ⟨s0', s1'⟩⟩
theorem g_keep (L : LJ (n, top, R, N, c, Ol, s0, s1, I, m, ec, ep) hs h) (Q : Prg n top R N) (hz : hN hs < zVB) {l : Int} (hl : lpAt n R 2 l ≠ -1) : ∃ h2, zC 167 [zR (some 0), zI l, zI 1] h = some (.inl (some (zJ (setL (lst N (26 + lpAt n R 2 l))))), h2) ∧ LJ (n, top, R, N, c, Ol, s0, s1, I, m, ec, ep) hs h2 :=
  lj_c hz L fun p v O J hn => ⟨_, O, k_loopSet J Q hn l 1, if_neg hl⟩
theorem g_less (L : LJ (n, top, R, N, c, Ol, s0, s1, I, m, ec, ep) hs h) (Q : Prg n top R N) (hz : hN hs < zVB) {l x : Int} (hl : lpAt n R 2 l ≠ -1) (x0 : 0 ≤ x) (x1 : x < 64) : ∃ h2, zC 169 [zR (some 0), zI l, zI x] h = some (.inl (some (zI (val (lst N (50 + lpAt n R 2 l)) x))), h2) ∧ LJ (n, top, R, N, c, Ol, s0, s1, I, m, ec, ep) hs h2 :=
  lj_c hz L fun p v O J hn => ⟨_, O, k_less J Q hn l x, (if_neg hl).trans (if_pos ⟨x0, x1⟩)⟩
theorem g_need (L : LJ (n, top, R, N, c, Ol, s0, s1, I, m, ec, ep) hs h) (Q : Prg n top R N) (hz : hN hs < zVB) {s : Int} (s0' : 0 ≤ s) (s1' : s < n) : ∃ h2, zC 171 [zR (some 0), zI s] h = some (.inl (some (zJ (NN n R N s))), h2) ∧ LJ (n, top, R, N, c, Ol, s0, s1, I, m, ec, ep) hs h2 :=
  lj_c hz L fun p v O J hn => ⟨_, O, k_need J hn s, if_pos ⟨s0', s1'⟩⟩
theorem g_ahead (L : LJ (n, top, R, N, c, Ol, s0, s1, I, m, ec, ep) hs h) (Q : Prg n top R N) (hz : hN hs < zVB)  : ∃ h2, zC 151 [zR (some 0)] h = some (.inl (some (zJ (ahd N (NN n R N) top))), h2) ∧ LJ (n, top, R, N, c, Ol, s0, s1, I, m, ec, ep) hs h2 :=
  lj_c hz L fun p v O J hn => ⟨_, O, k_needAhead J Q, rfl⟩
theorem g_duty0 (L : LJ (n, top, R, N, c, Ol, s0, s1, I, m, ec, ep) hs h) (Q : Prg n top R N) (hz : hN hs < zVB) {d : Int} (d0 : 0 ≤ d) (d1 : d < dmS n R) : ∃ h2, zC 172 [zR (some 0), zI d, zI 0] h = some (.inl (some (zI (if d = 0 then 0 else 1 + (d - 1) % 3))), h2) ∧ LJ (n, top, R, N, c, Ol, s0, s1, I, m, ec, ep) hs h2 :=
  lj_c hz L fun p v O J hn => ⟨_, O, k_duty J Q hn d 0, if_pos ⟨d0, d1⟩⟩
theorem g_duty1 (L : LJ (n, top, R, N, c, Ol, s0, s1, I, m, ec, ep) hs h) (Q : Prg n top R N) (hz : hN hs < zVB) {d : Int} (d0 : 0 ≤ d) (d1 : d < dmS n R) : ∃ h2, zC 172 [zR (some 0), zI d, zI 1] h = some (.inl (some (zI (if d = 0 then -1 else lpAt n R 2 ((d - 1) / 3)))), h2) ∧ LJ (n, top, R, N, c, Ol, s0, s1, I, m, ec, ep) hs h2 :=
  lj_c hz L fun p v O J hn => ⟨_, O, k_duty J Q hn d 1, if_pos ⟨d0, d1⟩⟩
theorem g_duty2 (L : LJ (n, top, R, N, c, Ol, s0, s1, I, m, ec, ep) hs h) (Q : Prg n top R N) (hz : hN hs < zVB) {d : Int} (d0 : 0 ≤ d) (d1 : d < dmS n R) : ∃ h2, zC 172 [zR (some 0), zI d, zI 2] h = some (.inl (some (zI (f_M_ones (flC n top R N d)))), h2) ∧ LJ (n, top, R, N, c, Ol, s0, s1, I, m, ec, ep) hs h2 :=
  lj_c hz L fun p v O J hn => ⟨_, O, k_duty J Q hn d 2, if_pos ⟨d0, d1⟩⟩
theorem g_duty3 (L : LJ (n, top, R, N, c, Ol, s0, s1, I, m, ec, ep) hs h) (Q : Prg n top R N) (hz : hN hs < zVB) {d : Int} (d0 : 0 ≤ d) (d1 : d < dmS n R) : ∃ h2, zC 172 [zR (some 0), zI d, zI 3] h = some (.inl (some (zI (f_M_leastOf (flC n top R N d)))), h2) ∧ LJ (n, top, R, N, c, Ol, s0, s1, I, m, ec, ep) hs h2 :=
  lj_c hz L fun p v O J hn => ⟨_, O, k_duty J Q hn d 3, if_pos ⟨d0, d1⟩⟩
theorem g_failing (L : LJ (n, top, R, N, c, Ol, s0, s1, I, m, ec, ep) hs h) (Q : Prg n top R N) (hz : hN hs < zVB) {d : Int} (d0 : 0 ≤ d) (d1 : d < dmS n R) : ∃ h2, zC 174 [zR (some 0), zI d] h = some (.inl (some (zJ (flC n top R N d))), h2) ∧ LJ (n, top, R, N, c, Ol, s0, s1, I, m, ec, ep) hs h2 :=
  lj_c hz L fun p v O J hn => ⟨_, O, k_failing J Q hn d, if_pos ⟨d0, d1⟩⟩
theorem g_trouble (L : LJ (n, top, R, N, c, Ol, s0, s1, I, m, ec, ep) hs h) (Q : Prg n top R N) (hz : hN hs < zVB)  : ∃ h2, zC 152 [zR (some 0)] h = some (.inl (some (zI (aTrouble n top R N))), h2) ∧ LJ (n, top, R, N, c, Ol, s0, s1, I, m, ec, ep) hs h2 :=
  lj_c hz L fun p v O J hn => ⟨_, O, k_trouble J Q, rfl⟩
theorem g_run (L : LJ (n, top, R, N, c, Ol, s0, s1, I, m, ec, ep) hs h) (Q : Prg n top R N) (hz : hN hs < zVB) {x : Int} (x0 : 0 ≤ x) (x1 : x < 64) : ∃ h2, zC 175 [zR (some 0), zI x] h = some (.inl (some (zI (EC n top R N x))), h2) ∧ LJ (n, top, R, N, c, Ol, s0, s1, I, m, ec, ep) hs h2 :=
  lj_c hz L fun p v O J hn => ⟨_, O, k_run J Q hn x, if_pos ⟨x0, x1⟩⟩
theorem g_steps (L : LJ (n, top, R, N, c, Ol, s0, s1, I, m, ec, ep) hs h) (Q : Prg n top R N) (hz : hN hs < zVB) {x : Int} (x0 : 0 ≤ x) (x1 : x < 64) : ∃ h2, zC 176 [zR (some 0), zI x] h = some (.inl (some (zI (if EC n top R N x = -1 then -1 else dT R N top x))), h2) ∧ LJ (n, top, R, N, c, Ol, s0, s1, I, m, ec, ep) hs h2 :=
  lj_c hz L fun p v O J hn => ⟨_, O, k_steps J Q hn x, if_pos ⟨x0, x1⟩⟩
theorem g_cost (L : LJ (n, top, R, N, c, Ol, s0, s1, I, m, ec, ep) hs h) (Q : Prg n top R N) (hz : hN hs < zVB) {x : Int} (x0 : 0 ≤ x) (x1 : x < 64) : ∃ h2, zC 177 [zR (some 0), zI x] h = some (.inl (some (zF (cstS n top R N x))), h2) ∧ LJ (n, top, R, N, c, Ol, s0, s1, I, m, ec, ep) hs h2 :=
  lj_c hz L fun p v O J hn => ⟨_, O, k_cost J Q hn x, if_pos ⟨x0, x1⟩⟩
theorem g_costBits (L : LJ (n, top, R, N, c, Ol, s0, s1, I, m, ec, ep) hs h) (Q : Prg n top R N) (hz : hN hs < zVB) {x : Int} (x0 : 0 ≤ x) (x1 : x < 64) : ∃ h2, zC 178 [zR (some 0), zI x] h = some (.inl (some (zI (f_Fl_floatToIntBits (cstS n top R N x)))), h2) ∧ LJ (n, top, R, N, c, Ol, s0, s1, I, m, ec, ep) hs h2 :=
  lj_c hz L fun p v O J hn => ⟨_, O, k_costBits J Q hn x, if_pos ⟨x0, x1⟩⟩
theorem g_met (L : LJ (n, top, R, N, c, Ol, s0, s1, I, m, ec, ep) hs h) (Q : Prg n top R N) (hz : hN hs < zVB) {s : Int} (s0' : 0 ≤ s) (s1' : s < n) : ∃ h2, zC 179 [zR (some 0), zI s] h = some (.inl (some (zJ (mtA n top R N 64 s))), h2) ∧ LJ (n, top, R, N, c, Ol, s0, s1, I, m, ec, ep) hs h2 :=
  lj_c hz L fun p v O J hn => ⟨_, O, k_met J Q hn s, if_pos ⟨s0', s1'⟩⟩
theorem g_wrong (L : LJ (n, top, R, N, c, Ol, s0, s1, I, m, ec, ep) hs h) (Q : Prg n top R N) (hz : hN hs < zVB)  : ∃ h2, zC 153 [zR (some 0)] h = some (.inl (some (zJ (wgC n top R N))), h2) ∧ LJ (n, top, R, N, c, Ol, s0, s1, I, m, ec, ep) hs h2 :=
  lj_c hz L fun p v O J hn => ⟨_, O, k_wrong J Q, rfl⟩
theorem g_dearest (L : LJ (n, top, R, N, c, Ol, s0, s1, I, m, ec, ep) hs h) (Q : Prg n top R N) (hz : hN hs < zVB)  : ∃ h2, zC 154 [zR (some 0)] h = some (.inl (some (zI (drA n top R N 64).1)), h2) ∧ LJ (n, top, R, N, c, Ol, s0, s1, I, m, ec, ep) hs h2 :=
  lj_c hz L fun p v O J hn => ⟨_, O, k_dearest J Q, rfl⟩
theorem g_mean (L : LJ (n, top, R, N, c, Ol, s0, s1, I, m, ec, ep) hs h) (Q : Prg n top R N) (hz : hN hs < zVB)  : ∃ h2, zC 155 [zR (some 0)] h = some (.inl (some (zD (menS n top R N))), h2) ∧ LJ (n, top, R, N, c, Ol, s0, s1, I, m, ec, ep) hs h2 :=
  lj_c hz L fun p v O J hn => ⟨_, O, k_meanCost J Q, rfl⟩
theorem g_meanBits (L : LJ (n, top, R, N, c, Ol, s0, s1, I, m, ec, ep) hs h) (Q : Prg n top R N) (hz : hN hs < zVB)  : ∃ h2, zC 156 [zR (some 0)] h = some (.inl (some (zJ (f_Do_doubleToLongBits (menS n top R N)))), h2) ∧ LJ (n, top, R, N, c, Ol, s0, s1, I, m, ec, ep) hs h2 :=
  lj_c hz L fun p v O J hn => ⟨_, O, k_meanBits J Q, rfl⟩
theorem g_share (L : LJ (n, top, R, N, c, Ol, s0, s1, I, m, ec, ep) hs h) (Q : Prg n top R N) (hz : hN hs < zVB)  : ∃ h2, zC 157 [zR (some 0)] h = some (.inl (some (zF (aShare n top R N))), h2) ∧ LJ (n, top, R, N, c, Ol, s0, s1, I, m, ec, ep) hs h2 :=
  lj_c hz L fun p v O J hn => ⟨_, O, k_share J Q, rfl⟩
theorem g_safe (L : LJ (n, top, R, N, c, Ol, s0, s1, I, m, ec, ep) hs h) (Q : Prg n top R N) (hz : hN hs < zVB) {l : Int} (hl : lpAt n R 2 l ≠ -1) : ∃ h2, zC 185 [zR (some 0), zI l] h = some (.inl (some (zJ (sfS n R N (lpAt n R 2 l)))), h2) ∧ LJ (n, top, R, N, c, Ol, s0, s1, I, m, ec, ep) hs h2 :=
  lj_c hz L fun p v O J hn => ⟨_, O, k_safe J Q hn l, if_neg hl⟩
theorem g_uns (L : LJ (n, top, R, N, c, Ol, s0, s1, I, m, ec, ep) hs h) (Q : Prg n top R N) (hz : hN hs < zVB) {l : Int} (hl : lpAt n R 2 l ≠ -1) : ∃ h2, zC 186 [zR (some 0), zI l] h = some (.inl (some (zJ (setL (lst N (26 + lpAt n R 2 l)) &&& ~~~ sfS n R N (lpAt n R 2 l)))), h2) ∧ LJ (n, top, R, N, c, Ol, s0, s1, I, m, ec, ep) hs h2 :=
  lj_c hz L fun p v O J hn => ⟨_, O, k_unsf J Q hn l, if_neg hl⟩
theorem g_nodes (L : LJ (n, top, R, N, c, Ol, s0, s1, I, m, ec, ep) hs h) (Q : Prg n top R N) (hz : hN hs < zVB) {s : Int} (s0' : 0 ≤ s) (s1' : s < n) : ∃ h2, zC 190 [zR (some 0), zI s] h = some (.inl (some (zI (dLen (WW n R N s)))), h2) ∧ LJ (n, top, R, N, c, Ol, s0, s1, I, m, ec, ep) hs h2 :=
  lj_c hz L fun p v O J hn => ⟨_, O, k_needNodes J Q hn s, if_pos ⟨s0', s1'⟩⟩
theorem g_gap (L : LJ (n, top, R, N, c, Ol, s0, s1, I, m, ec, ep) hs h) (Q : Prg n top R N) (hz : hN hs < zVB) {s : Int} (s0' : 0 ≤ s) (s1' : s < n) : ∃ h2, zC 191 [zR (some 0), zI s] h = some (.inl (some (zI 0)), h2) ∧ LJ (n, top, R, N, c, Ol, s0, s1, I, m, ec, ep) hs h2 :=
  lj_c hz L fun p v O J hn => ⟨_, O, k_gap J Q hn s, (if_pos ⟨s0', s1'⟩).trans (by rw [gap_0 Q s0' s1'])⟩
theorem g_write (L : LJ (n, top, R, N, c, Ol, s0, s1, I, m, ec, ep) hs h) (Q : Prg n top R N) (hz : hN hs < zVB) {s : Int} (s0' : 0 ≤ s) (s1' : s < n) : ∃ y h2, zC 187 [zR (some 0), zI s] h = some (.inl (some (zI y)), h2) ∧ LJ (n, top, R, N, c, Ol, s0, s1, I, m, ec, ep) hs h2 ∧ (y < 0 ↔ dLen (WW n R N s) < 0) := by
  obtain ⟨p, v, O, J, G⟩ := L
  have n1 := G.1.2.1
  obtain ⟨h2, p2, v2, E, J2, G2⟩ := k_writeNeed J Q (by omega) s
  cases e : WW n R N s with
  | none =>
    have ew : aWriteNeed n R N O s = ((0, zI (-1)), O) := by
      unfold aWriteNeed
      rw [if_pos ⟨s0', s1'⟩, e]
    have ew2 : aWN s (n, top, R, N, c, Ol, s0, s1, I, m, O, ec, ep) = ((0, zI (-1)), (n, top, R, N, c, Ol, s0, s1, I, m, O, ec, ep)) := by
      unfold aWN
      simp only [ew]
    rw [ew2] at E J2 G2
    exact ⟨-1, h2, E, ⟨p2, v2, O, J2, Gw_t (d2 := 0) (e2 := 0) G G2 (fun a k _ w => w)⟩, Iff.rfl⟩
  | some l =>
    have ew : aWriteNeed n R N O s = ((0, zI (rwO 0 l).length), rwO 0 l) := by
      unfold aWriteNeed
      rw [if_pos ⟨s0', s1'⟩, e]
    have ew2 : aWN s (n, top, R, N, c, Ol, s0, s1, I, m, O, ec, ep) = ((0, zI (rwO 0 l).length), (n, top, R, N, c, Ol, s0, s1, I, m, rwO 0 l, ec, ep)) := by
      unfold aWN
      simp only [ew]
    rw [ew2] at E J2 G2
    refine ⟨((rwO 0 l).length : Int), h2, E, ⟨p2, v2, rwO 0 l, J2, Gw_t (d2 := 0) (e2 := 0) G G2 (fun a k _ w => w)⟩, ?_⟩
    show ((rwO 0 l).length : Int) < 0 ↔ ((l.length : Nat) : Int) < 0
    omega
end LJS
