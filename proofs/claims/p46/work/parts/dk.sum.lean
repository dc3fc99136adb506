/-! What the law's sum comes to. -/
def stA (R N : Nat → Int) (s : Int) : Int := if sv R s 0 = 3 ∧ ¬ N (2294 + s).toNat = -1 then N (2294 + s).toNat / 13 else sv R s 1
def suA (n : Int) (R N : Nat → Int) (k : Int) (j : BitVec 64) : BitVec 64 := 31#64 * (31#64 * (31#64 * j + zi2l (stA R N k)) + zi2l (N (2318 + k).toNat)) + NN n R N k
def suB (n : Int) (R N : Nat → Int) : Nat → Int → BitVec 64 → BitVec 64
  | 0, _, j => j
  | q + 1, k, j => suB n R N q (k + 1) (suA n R N k j)
def suL (n : Int) (R N : Nat → Int) (k : Int) (j : BitVec 64) : BitVec 64 := 31#64 * (31#64 * j + setL (lst N (26 + lpAt n R 2 k))) + zi2l (zwmul (val (lst N (50 + lpAt n R 2 k)) 27) 4) + zi2l (val (lst N (50 + lpAt n R 2 k)) 9)
def suM (n : Int) (R N : Nat → Int) : Nat → Int → BitVec 64 → BitVec 64
  | 0, _, j => j
  | q + 1, k, j => suM n R N q (k + 1) (suL n R N k j)
def sumV (n : Int) (R N : Nat → Int) : BitVec 64 := suM n R N (cntK R 2 n.toNat).toNat 0 (suB n R N n.toNat 0 (31#64 * setL (lst N 0) + setL (lst N 1)))
/-- the run answers so; the class stands for t still -/
def RS (t : TSt) (hs : zH) (x : zV) (o : zO) : Prop := ∃ h2, o = some (.inl (some x), h2) ∧ LJ t hs h2
section SUM
variable {hs h : zH} {n top : Int} {R N : Nat → Int} {c : Nat} {Ol : Nat → Nat → Int} {s0 s1 : Option (Nat → Int)} {I : Nat → Int} {m : Int} {ec ep : Int}
theorem rs_le {t : TSt} {x : zV} {q pc : Nat} {L L2 : zL} {S : List zV} (e : zle L L2) (H : RS t hs x (zY q pc L S h)) : RS t hs x (zY q pc L2 S h) := by
  obtain ⟨h2, E, H⟩ := H
  exact ⟨h2, zY_le e E, H⟩
theorem lp_ne (Q : Prg n top R N) {l : Int} (h0 : 0 ≤ l) (h1 : l < cntK R 2 n.toNat) : lpAt n R 2 l ≠ -1 := by
  rcases lpAt_c Q (Or.inl rfl) l with ⟨_, a, _⟩ | ⟨a, _⟩
  · omega
  · exact absurd ⟨h0, h1⟩ a
theorem cnt_r (Q : Prg n top R N) (kd : Int) : 0 ≤ cntK R kd n.toNat ∧ cntK R kd n.toNat ≤ 24 := cnt_b Q kd
theorem sm_69 (Q : Prg n top R N) (hz : hN hs < zVB) : ∀ (q : Nat) (k : Int) (j : BitVec 64) (h : zH), 0 ≤ k → k + q = cntK R 2 n.toNat → LJ (n, top, R, N, c, Ol, s0, s1, I, m, ec, ep) hs h → RS (n, top, R, N, c, Ol, s0, s1, I, m, ec, ep) hs (zJ (suM n R N q k j)) (zY 217 69 [some (zR (some 0)), some (zJ j), none, some (zI k)] [] h)
  | 0, k, j, h, k0, e, L => by
    have cn := cnt_r Q 2
    rw [q_L_sum_69 (lj_T L) (lj_0 L)]
    obtain ⟨h1, E1, L1⟩ := g_value1 L Q hz
    rw [E1, zbk, q_L_sum_75, if_neg (by omega), q_L_sum_121]
    exact ⟨h1, rfl, L1⟩
  | q + 1, k, j, h, k0, e, L => by
    have cn := cnt_r Q 2
    have ne := lp_ne Q k0 (show k < cntK R 2 n.toNat by omega)
    rw [q_L_sum_69 (lj_T L) (lj_0 L)]
    obtain ⟨h1, E1, L1⟩ := g_value1 L Q hz
    rw [E1, zbk, q_L_sum_75, if_pos (by omega), q_L_sum_78 (lj_T L1) (lj_0 L1)]
    obtain ⟨h2, E2, L2⟩ := g_keep L1 Q hz ne
    rw [E2, zbk, q_L_sum_92 (lj_T L2) (lj_0 L2)]
    obtain ⟨h3, E3, L3⟩ := g_less L2 Q hz ne (x := 27) (by decide) (by decide)
    rw [E3, zbk, q_L_sum_101 (lj_T L3) (lj_0 L3)]
    obtain ⟨h4, E4, L4⟩ := g_less L3 Q hz ne (x := 9) (by decide) (by decide)
    rw [E4, zbk, q_L_sum_112, gd_t (by omega)]
    exact sm_69 Q hz q (k + 1) _ h4 (by omega) (by omega) L4
theorem sm_16 (Q : Prg n top R N) (X : RX n R) (hz : hN hs < zVB) : ∀ (q : Nat) (k : Int) (j : BitVec 64) (h : zH), 0 ≤ k → k + q = n → LJ (n, top, R, N, c, Ol, s0, s1, I, m, ec, ep) hs h → RS (n, top, R, N, c, Ol, s0, s1, I, m, ec, ep) hs (zJ (suM n R N (cntK R 2 n.toNat).toNat 0 (suB n R N q k j))) (zY 217 16 [some (zR (some 0)), some (zJ j), none, some (zI k)] [] h)
  | 0, k, j, h, k0, e, L => by
    have w0 := Q.1.1
    have cn := cnt_r Q 2
    rw [q_L_sum_16 (lj_T L) (lj_0 L)]
    obtain ⟨h1, E1, L1⟩ := g_value0 L Q hz
    rw [E1, zbk, q_L_sum_22, if_neg (by omega), q_L_sum_67]
    exact sm_69 Q hz _ 0 _ h1 (Int.le_refl _) (by omega) L1
  | q + 1, k, j, h, k0, e, L => by
    have w0 := Q.1.1
    rw [q_L_sum_16 (lj_T L) (lj_0 L)]
    obtain ⟨h1, E1, L1⟩ := g_value0 L Q hz
    rw [E1, zbk, q_L_sum_22, if_pos (by omega), q_L_sum_25 (lj_T L1) (lj_0 L1)]
    obtain ⟨h2, E2, L2⟩ := g_st1 L1 Q hz X (s := k) k0 (by omega)
    rw [E2, zbk, q_L_sum_42 (lj_T L2) (lj_0 L2)]
    obtain ⟨h3, E3, L3⟩ := g_st5 L2 Q hz X (s := k) k0 (by omega)
    rw [E3, zbk, q_L_sum_51 (lj_T L3) (lj_0 L3)]
    obtain ⟨h4, E4, L4⟩ := g_need L3 Q hz (s := k) k0 (by omega)
    rw [E4, zbk, q_L_sum_59, gd_t (by omega)]
    exact sm_16 Q X hz q (k + 1) _ h4 (by omega) (by omega) L4
theorem c_sum (L : LJ (n, top, R, N, c, Ol, s0, s1, I, m, ec, ep) hs h) (Q : Prg n top R N) (X : RX n R) (hz : hN hs < zVB) : RS (n, top, R, N, c, Ol, s0, s1, I, m, ec, ep) hs (zJ (sumV n R N)) (zC 217 [zR (some 0)] h) := by
  have w0 := Q.1.1
  rw [q_L_sum (lj_T L) (lj_0 L)]
  obtain ⟨h1, E1, L1⟩ := g_before L Q hz
  rw [E1, zbk, q_L_sum_7 (lj_T L1) (lj_0 L1)]
  obtain ⟨h2, E2, L2⟩ := g_after L1 Q hz
  rw [E2, zbk, q_L_sum_12]
  exact sm_16 Q X hz n.toNat 0 _ h2 (Int.le_refl _) (by omega) L2
end SUM
