/-! What the law's adds comes to. -/
section ADD
variable {hs h : zH} {n top : Int} {R N : Nat → Int} {c : Nat} {Ol : Nat → Nat → Int} {s0 s1 : Option (Nat → Int)} {I : Nat → Int} {m : Int} {ec ep : Int}
theorem cnt_all {x : BitVec 64} : zC 226 [zJ x] h = some (.inl (some (zI (f_M_ones x))), h) := by
  rw [e_Lo_bitCount, bitc_e]
theorem zl_p {x y : BitVec 64} (e : x = y) : zlcmp x y = 0 := (zlcmp_0 x y).2 e
theorem zl_n {x y : BitVec 64} (e : x ≠ y) : ¬ zlcmp x y = 0 := fun q => e ((zlcmp_0 x y).1 q)
/-- the end of adds -/
theorem ad_735 {x1 x2 x3 : Int} (Q : Prg n top R N) (hz : hN hs < zVB) (L : LJ (n, top, R, N, c, Ol, s0, s1, I, m, ec, ep) hs h) : RS (n, top, R, N, c, Ol, s0, s1, I, m, ec, ep) hs (zI 1) (zY 218 735 [some (zR (some 0)), some (zI x1), some (zI x2), some (zI x3), some (zI 1), some (zD (meA n top R N 64).1), none, some (zI (meA n top R N 64).2), some (zI (drA n top R N 64).1), some (zI 64), none, none, none] [] h) := by
  rw [q_L_adds_735 (lj_T L) (lj_0 L)]
  obtain ⟨h1, E1, L1⟩ := g_dearest L Q hz
  rw [E1, zbk]
  rw [q_L_adds_741, if_pos rfl]
  rw [q_L_adds_744 (lj_T L1) (lj_0 L1)]
  obtain ⟨h2, E2, L2⟩ := g_mean L1 Q hz
  rw [E2, zbk]
  rw [q_L_adds_748]
  have p := men_pos Q
  have fin : ∀ (h : zH), LJ (n, top, R, N, c, Ol, s0, s1, I, m, ec, ep) hs h → RS (n, top, R, N, c, Ol, s0, s1, I, m, ec, ep) hs (zI 1) (zY 218 767 [some (zR (some 0)), some (zI x1), some (zI x2), some (zI x3), some (zI 1), some (zD (meA n top R N 64).1), none, some (zI (meA n top R N 64).2), some (zI (drA n top R N 64).1), some (zI 64), none, none, none] [] h) := fun h L => by
    rw [q_L_adds_767 (lj_T L) (lj_0 L)]
    obtain ⟨h1, E1, L1⟩ := g_meanBits L Q hz
    rw [E1, zbk]
    rw [q_L_adds_771 (lj_T L1) (lj_0 L1)]
    obtain ⟨h2, E2, L2⟩ := g_mean L1 Q hz
    rw [E2, zbk]
    rw [q_L_adds_775, c_dbits, zbk, q_L_adds_778, if_pos (zl_p rfl), q_L_adds_782]
    exact ⟨_, rfl, L2⟩
  have b := meA_b n top R N 64
  by_cases q : (meA n top R N 64).2 = 0
  · rw [if_pos q, q_L_adds_753, if_pos]
    · exact fin h2 L2
    · have e : menS n top R N = FP.dconst0 := by unfold menS; rw [if_pos q]
      rw [e]
      exact dc_self dpos_0
  · have e : menS n top R N = FP.ddiv (meA n top R N 64).1 (FP.i2d (Int32.ofInt (meA n top R N 64).2)) := by unfold menS; rw [if_neg q]
    rw [if_neg q, q_L_adds_757, ← e, gd_t (dpos_zn p), if_pos (dc_self p)]
    exact fin h2 L2
/-- the loop over the states goes on -/
def ADH (t : TSt) (hs : zH) (n top : Int) (R N : Nat → Int) (x1 x2 x3 : Int) (k : Nat) : Prop := ∀ h, LJ t hs h → RS t hs (zI 1) (zY 218 526 [some (zR (some 0)), some (zI x1), some (zI x2), some (zI x3), some (zI 1), some (zD (meA n top R N k).1), none, some (zI (meA n top R N k).2), some (zI (drA n top R N k).1), some (zI (k : Int)), none, none, none] [] h)
theorem ad_670 {x1 x2 x3 : Int} {k : Nat} (Q : Prg n top R N) (hz : hN hs < zVB) (hk : k < 64) (IH : ADH (n, top, R, N, c, Ol, s0, s1, I, m, ec, ep) hs n top R N x1 x2 x3 (k + 1)) (L : LJ (n, top, R, N, c, Ol, s0, s1, I, m, ec, ep) hs h) : RS (n, top, R, N, c, Ol, s0, s1, I, m, ec, ep) hs (zI 1) (zY 218 670 [some (zR (some 0)), some (zI x1), some (zI x2), some (zI x3), some (zI 1), some (zD (meA n top R N k).1), none, some (zI (meA n top R N k).2), some (zI (drA n top R N k).1), some (zI (k : Int)), some (zI (EC n top R N (k : Int))), some (zF (cstS n top R N (k : Int))), some (zI (if bt (setL (lst N 0)) (k : Int) = true then 1 else 0))] [] h) := by
  have er := EC_rr Q (x := (k : Int)) (by omega) (by omega)
  have mb := meA_b n top R N k
  rw [q_L_adds_670]
  have skip : ¬ (bt (setL (lst N 0)) (k : Int) = true ∧ EC n top R N (k : Int) ≠ -1) → RS (n, top, R, N, c, Ol, s0, s1, I, m, ec, ep) hs (zI 1) (zY 218 724 [some (zR (some 0)), some (zI x1), some (zI x2), some (zI x3), some (zI 1), some (zD (meA n top R N k).1), none, some (zI (meA n top R N k).2), some (zI (drA n top R N k).1), some (zI (k : Int)), some (zI (EC n top R N (k : Int))), some (zF (cstS n top R N (k : Int))), some (zI (if bt (setL (lst N 0)) (k : Int) = true then 1 else 0))] [] h) := fun nb => by
    rw [q_L_adds_724, gd_t (by omega)]
    have e1 : meA n top R N (k + 1) = meA n top R N k := by rw [meA, if_neg nb]
    have e2 : drA n top R N (k + 1) = drA n top R N k := by rw [drA, if_neg fun z => nb ⟨z.1, z.2.1⟩]
    unfold ADH at IH
    rw [e1, e2] at IH
    rw [show (k : Int) + 1 = ((k + 1 : Nat) : Int) from by omega]
    exact rs_le (by exact ⟨rfl, rfl, rfl, rfl, rfl, rfl, rfl, rfl, rfl, trivial⟩) (IH h L)
  by_cases cb : bt (setL (lst N 0)) (k : Int) = true
  · rw [if_pos cb, if_neg (by decide), q_L_adds_682]
    by_cases ce : EC n top R N (k : Int) = -1
    · rw [if_pos (by omega)]
      have s := skip fun z => z.2 ce
      rw [if_pos cb] at s
      exact s
    · have cp := co_pos Q (x := (k : Int)) (by omega) (by omega) ce
      have ct := cst_e ce
      have e1 : meA n top R N (k + 1) = (FP.dadd (meA n top R N k).1 (FP.f2d (coC R N top (k : Int))), (meA n top R N k).2 + 1) := by rw [meA, if_pos ⟨cb, ce⟩]
      rw [if_neg (by omega), q_L_adds_687, ct, gd_t (dpos_zn (dpos_f2d cp)), gd_t (dpos_zn (dpos_add (me_pos Q k (by omega)) (dpos_f2d cp))), gd_t (by omega)]
      unfold ADH at IH
      rw [e1] at IH
      rcases dr_inv (n := n) (top := top) (R := R) (N := N) k with q | ⟨q1, q2, q3, q4⟩
      · rw [if_pos (by omega), q_L_adds_715, gd_t (by omega)]
        have e2 : drA n top R N (k + 1) = ((k : Int), coC R N top (k : Int)) := by rw [drA, if_pos ⟨cb, ce, Or.inl q⟩]
        rw [e2] at IH
        rw [show (k : Int) + 1 = ((k + 1 : Nat) : Int) from by omega]
        exact rs_le (by exact ⟨rfl, rfl, rfl, rfl, rfl, rfl, rfl, rfl, rfl, trivial⟩) (IH h L)
      · rw [if_neg (by omega), q_L_adds_703 (lj_T L) (lj_0 L)]
        obtain ⟨h1, E1, L1⟩ := g_cost L Q hz (x := (drA n top R N k).1) q1 (by omega)
        rw [E1, zbk, q_L_adds_711, cst_e q3, ← q4]
        by_cases g : 0 < (Op.cmpValue (FP.fcmp (coC R N top (k : Int)) (drA n top R N k).2) .l).toInt
        · rw [if_pos g, q_L_adds_715, gd_t (by omega)]
          have e2 : drA n top R N (k + 1) = ((k : Int), coC R N top (k : Int)) := by rw [drA, if_pos ⟨cb, ce, Or.inr (decide_eq_true g)⟩]
          rw [e2] at IH
          rw [show (k : Int) + 1 = ((k + 1 : Nat) : Int) from by omega]
          exact rs_le (by exact ⟨rfl, rfl, rfl, rfl, rfl, rfl, rfl, rfl, rfl, trivial⟩) (IH h1 L1)
        · rw [if_neg g, q_L_adds_720, gd_t (by omega)]
          have e2 : drA n top R N (k + 1) = drA n top R N k := by
            rw [drA, if_neg fun z => ?_]
            rcases z.2.2 with z | z
            · omega
            · exact g (of_decide_eq_true z)
          rw [e2] at IH
          rw [show (k : Int) + 1 = ((k + 1 : Nat) : Int) from by omega]
          exact rs_le (by exact ⟨rfl, rfl, rfl, rfl, rfl, rfl, rfl, rfl, rfl, trivial⟩) (IH h1 L1)
  · rw [if_neg cb, if_pos rfl]
    have s := skip fun z => cb z.1
    rw [if_neg cb] at s
    exact s
theorem ad_526 {x1 x2 x3 : Int} (Q : Prg n top R N) (hz : hN hs < zVB) : ∀ (q k : Nat), k + q = 64 → ADH (n, top, R, N, c, Ol, s0, s1, I, m, ec, ep) hs n top R N x1 x2 x3 k
  | 0, k, e => fun h L => by
    have e : k = 64 := e
    subst e
    rw [q_L_adds_526, if_neg (by decide), q_L_adds_730, if_neg (by decide)]
    exact ad_735 Q hz L
  | q + 1, k, e => fun h L => by
    have IH : ADH (n, top, R, N, c, Ol, s0, s1, I, m, ec, ep) hs n top R N x1 x2 x3 (k + 1) := ad_526 Q hz q (k + 1) (by omega)
    have x0 : (0 : Int) ≤ (k : Int) := by omega
    have x64 : (k : Int) < 64 := by omega
    have er := EC_rr Q x0 x64
    rw [q_L_adds_526, if_pos x64, q_L_adds_533, if_neg (by decide)]
    rw [q_L_adds_538 (lj_T L) (lj_0 L)]
    obtain ⟨h1, E1, L1⟩ := g_run L Q hz x0 x64
    rw [E1, zbk]
    rw [q_L_adds_544 (lj_T L1) (lj_0 L1)]
    obtain ⟨h2, E2, L2⟩ := g_cost L1 Q hz x0 x64
    rw [E2, zbk]
    rw [q_L_adds_552 (lj_T L2) (lj_0 L2)]
    obtain ⟨h3, E3, L3⟩ := g_before L2 Q hz
    rw [E3, zbk]
    rw [q_L_adds_558, c_holds x0 x64, zbk, q_L_adds_563]
    have st : ∀ h, LJ (n, top, R, N, c, Ol, s0, s1, I, m, ec, ep) hs h → RS (n, top, R, N, c, Ol, s0, s1, I, m, ec, ep) hs (zI 1) (zY 218 617 [some (zR (some 0)), some (zI x1), some (zI x2), some (zI x3), some (zI 1), some (zD (meA n top R N k).1), none, some (zI (meA n top R N k).2), some (zI (drA n top R N k).1), some (zI (k : Int)), some (zI (EC n top R N (k : Int))), some (zF (cstS n top R N (k : Int))), some (zI (if bt (setL (lst N 0)) (k : Int) = true then 1 else 0))] [] h) := fun h L => by
      rw [q_L_adds_617 (lj_T L) (lj_0 L)]
      obtain ⟨h1, E1, L1⟩ := g_costBits L Q hz x0 x64
      rw [E1, zbk]
      rw [q_L_adds_623, c_fbits, zbk, q_L_adds_628, if_pos rfl]
      rw [q_L_adds_631 (lj_T L1) (lj_0 L1)]
      obtain ⟨h2, E2, L2⟩ := g_wrong L1 Q hz
      rw [E2, zbk]
      rw [q_L_adds_635, c_holds x0 x64, zbk, q_L_adds_640, wg_bt Q x0 x64]
      by_cases cb : bt (setL (lst N 0)) (k : Int) = true
      · rw [cb, if_pos rfl, if_neg (by decide), q_L_adds_645]
        have r := ad_670 (x1 := x1) (x2 := x2) (x3 := x3) Q hz (by omega) IH L2
        rw [if_pos cb] at r
        by_cases ce : EC n top R N (k : Int) = -1
        · rw [if_pos (by omega), q_L_adds_662, if_pos (by rw [decide_eq_false (fun q => q ce)]; rfl)]
          exact r
        · rw [if_neg (by omega)]
          rw [q_L_adds_650 (lj_T L2) (lj_0 L2)]
          obtain ⟨h3, E3, L3⟩ := g_after L2 Q hz
          rw [E3, zbk]
          rw [q_L_adds_654, c_holds (by omega) er.2, zbk, q_L_adds_659]
          have r3 := ad_670 (x1 := x1) (x2 := x2) (x3 := x3) Q hz (by omega) IH L3
          rw [if_pos cb] at r3
          by_cases ca : bt (setL (lst N 1)) (EC n top R N (k : Int)) = true
          · rw [if_pos ca, if_neg (by decide), q_L_adds_666, if_pos (by rw [decide_eq_true ce, ca]; rfl)]
            exact r3
          · rw [if_neg ca, if_pos rfl, q_L_adds_662, if_pos (by rw [decide_eq_true ce, Bool.eq_false_iff.2 ca]; rfl)]
            exact r3
      · have r := ad_670 (x1 := x1) (x2 := x2) (x3 := x3) Q hz (by omega) IH L2
        rw [Bool.eq_false_iff.2 cb] at r ⊢
        rw [if_pos (by rfl), q_L_adds_666, if_pos (by rfl)]
        exact r
    by_cases ce : EC n top R N (k : Int) = -1
    · rw [if_pos (by omega)]
      rw [q_L_adds_570 (lj_T L3) (lj_0 L3)]
      obtain ⟨h4, E4, L4⟩ := g_steps L3 Q hz x0 x64
      rw [E4, zbk]
      rw [q_L_adds_581, if_pos (by rw [if_pos ce]; decide), q_L_adds_584, if_pos rfl, q_L_adds_592, if_pos (by omega), q_L_adds_597, if_pos (by unfold cstS; rw [if_pos ce]; exact fc_m1), q_L_adds_609, if_pos rfl]
      exact st h4 L4
    · rw [if_neg (by omega)]
      rw [q_L_adds_574 (lj_T L3) (lj_0 L3)]
      obtain ⟨h4, E4, L4⟩ := g_steps L3 Q hz x0 x64
      rw [E4, zbk]
      rw [q_L_adds_581, if_neg (by rw [if_neg ce]; omega), q_L_adds_588, if_pos rfl, q_L_adds_592, if_neg (by omega), q_L_adds_601, if_neg (by rw [cst_e ce]; exact fc_0 (co_pos Q x0 x64 ce)), q_L_adds_613, if_pos rfl]
      exact st h4 L4
theorem ad_458 {x1 x2 x3 : Int} (Q : Prg n top R N) (hz : hN hs < zVB) : ∀ (q : Nat) (k : Int) (h : zH), 0 ≤ k → k + q = cntK R 2 n.toNat → LJ (n, top, R, N, c, Ol, s0, s1, I, m, ec, ep) hs h → RS (n, top, R, N, c, Ol, s0, s1, I, m, ec, ep) hs (zI 1) (zY 218 458 [some (zR (some 0)), some (zI x1), some (zI x2), some (zI x3), some (zI 1), some (zI k), none, none, none, none, none, none, none] [] h)
  | 0, k, h, k0, e, L => by
    rw [q_L_adds_458 (lj_T L) (lj_0 L)]
    obtain ⟨h1, E1, L1⟩ := g_value1 L Q hz
    rw [E1, zbk]
    rw [q_L_adds_465, if_neg (by omega), q_L_adds_514]
    exact ad_526 Q hz 64 0 rfl h1 L1
  | q + 1, k, h, k0, e, L => by
    have cn := cnt_r Q 2
    have ne := lp_ne Q k0 (show k < cntK R 2 n.toNat by omega)
    rw [q_L_adds_458 (lj_T L) (lj_0 L)]
    obtain ⟨h1, E1, L1⟩ := g_value1 L Q hz
    rw [E1, zbk]
    rw [q_L_adds_465, if_pos (by omega), q_L_adds_468, if_neg (by decide)]
    rw [q_L_adds_473 (lj_T L1) (lj_0 L1)]
    obtain ⟨h2, E2, L2⟩ := g_uns L1 Q hz ne
    rw [E2, zbk]
    rw [q_L_adds_479 (lj_T L2) (lj_0 L2)]
    obtain ⟨h3, E3, L3⟩ := g_keep L2 Q hz ne
    rw [E3, zbk]
    rw [q_L_adds_486 (lj_T L3) (lj_0 L3)]
    obtain ⟨h4, E4, L4⟩ := g_safe L3 Q hz ne
    rw [E4, zbk]
    rw [q_L_adds_492, if_pos (zl_p (by rw [not_e])), q_L_adds_501, gd_t (by omega)]
    exact ad_458 Q hz q (k + 1) h4 (by omega) (by omega) L4
theorem ad_364 {x1 x2 x3 : Int} (Q : Prg n top R N) (hz : hN hs < zVB) : ∀ (q : Nat) (k : Int) (h : zH), 0 ≤ k → k + q = n → LJ (n, top, R, N, c, Ol, s0, s1, I, m, ec, ep) hs h → RS (n, top, R, N, c, Ol, s0, s1, I, m, ec, ep) hs (zI 1) (zY 218 364 [some (zR (some 0)), some (zI x1), some (zI x2), some (zI x3), some (zI 1), some (zI k), none, none, none, none, none, none, none] [] h)
  | 0, k, h, k0, e, L => by
    have cn := cnt_r Q 2
    rw [q_L_adds_364 (lj_T L) (lj_0 L)]
    obtain ⟨h1, E1, L1⟩ := g_value0 L Q hz
    rw [E1, zbk]
    rw [q_L_adds_371, if_neg (by omega), q_L_adds_455]
    exact ad_458 Q hz (cntK R 2 n.toNat).toNat 0 h1 (Int.le_refl _) (by omega) L1
  | q + 1, k, h, k0, e, L => by
    have w0 := Q.1.1
    rw [q_L_adds_364 (lj_T L) (lj_0 L)]
    obtain ⟨h1, E1, L1⟩ := g_value0 L Q hz
    rw [E1, zbk]
    rw [q_L_adds_371, if_pos (by omega), q_L_adds_374, if_neg (by decide)]
    rw [q_L_adds_379 (lj_T L1) (lj_0 L1)]
    obtain ⟨h2, E2, L2⟩ := g_gap L1 Q hz (s := k) k0 (by omega)
    rw [E2, zbk]
    rw [q_L_adds_385, if_pos rfl]
    rw [q_L_adds_388 (lj_T L2) (lj_0 L2)]
    obtain ⟨h3, E3, L3⟩ := g_nodes L2 Q hz (s := k) k0 (by omega)
    rw [E3, zbk]
    rw [q_L_adds_394]
    have fin : ∀ h, LJ (n, top, R, N, c, Ol, s0, s1, I, m, ec, ep) hs h → RS (n, top, R, N, c, Ol, s0, s1, I, m, ec, ep) hs (zI 1) (zY 218 419 [some (zR (some 0)), some (zI x1), some (zI x2), some (zI x3), some (zI 1), some (zI k), none, none, none, none, none, none, none] [] h) := fun h L => by
      rw [q_L_adds_419]
      by_cases k1 : 0 < k
      · rw [if_pos k1, q_L_adds_442, gd_t (by omega)]
        exact ad_364 Q hz q (k + 1) h (by omega) (by omega) L
      · have kz : k = 0 := by omega
        subst kz
        rw [if_neg k1]
        rw [q_L_adds_424 (lj_T L) (lj_0 L)]
        obtain ⟨h1, E1, L1⟩ := g_met L Q hz (s := 0) (by decide) (by omega)
        rw [E1, zbk]
        rw [q_L_adds_429 (lj_T L1) (lj_0 L1)]
        obtain ⟨h2, E2, L2⟩ := g_before L1 Q hz
        rw [E2, zbk]
        rw [q_L_adds_433 (lj_T L2) (lj_0 L2)]
        obtain ⟨h3, E3, L3⟩ := g_before L2 Q hz
        rw [E3, zbk]
        rw [q_L_adds_438, if_pos (zl_p (met_sub Q (by omega))), q_L_adds_442, gd_t (by decide)]
        exact ad_364 Q hz q (0 + 1) h3 (by omega) (by omega) L3
    by_cases cd : dLen (WW n R N k) < 0
    · rw [if_pos cd, q_L_adds_397 (lj_T L3) (lj_0 L3)]
      obtain ⟨y, h4, E4, L4, yd⟩ := g_write L3 Q hz (s := k) k0 (by omega)
      rw [E4, zbk, q_L_adds_408, if_pos (yd.2 cd), q_L_adds_411, if_pos rfl]
      exact fin h4 L4
    · rw [if_neg cd, q_L_adds_401 (lj_T L3) (lj_0 L3)]
      obtain ⟨y, h4, E4, L4, yd⟩ := g_write L3 Q hz (s := k) k0 (by omega)
      rw [E4, zbk, q_L_adds_408, if_neg (fun z => cd (yd.1 z)), q_L_adds_415, if_pos rfl]
      exact fin h4 L4
theorem ad_250 (Q : Prg n top R N) (hz : hN hs < zVB) (L : LJ (n, top, R, N, c, Ol, s0, s1, I, m, ec, ep) hs h) : RS (n, top, R, N, c, Ol, s0, s1, I, m, ec, ep) hs (zI 1) (zY 218 250 [some (zR (some 0)), some (zI (dmS n R)), some (zI (fA n top R N (dmS n R).toNat)), some (zI (fG n top R N (dmS n R).toNat)), some (zI 1), some (zI (dmS n R)), none, none, none, none, none, none, none] [] h) := by
  have eA : fA n top R N (dmS n R).toNat = nfC n top R N := rfl
  have eF : fG n top R N (dmS n R).toNat = aTrouble n top R N := rfl
  rw [eA, eF]
  rw [q_L_adds_250 (lj_T L) (lj_0 L)]
  obtain ⟨h1, E1, L1⟩ := g_value5 L Q hz
  rw [E1, zbk]
  rw [q_L_adds_256, if_pos rfl]
  rw [q_L_adds_259 (lj_T L1) (lj_0 L1)]
  obtain ⟨h2, E2, L2⟩ := g_trouble L1 Q hz
  rw [E2, zbk]
  rw [q_L_adds_264, if_pos rfl, q_L_adds_267]
  have w0 := Q.1.1
  have fb := fA_b (n := n) (top := top) (R := R) (N := N) (dmS n R).toNat
  rw [eA] at fb
  have go : ∀ h, LJ (n, top, R, N, c, Ol, s0, s1, I, m, ec, ep) hs h → RS (n, top, R, N, c, Ol, s0, s1, I, m, ec, ep) hs (zI 1) (zY 218 307 [some (zR (some 0)), some (zI (dmS n R)), some (zI (nfC n top R N)), some (zI (aTrouble n top R N)), some (zI 1), some (zI (dmS n R)), none, none, none, none, none, none, none] [] h) := fun h L => by
    rw [q_L_adds_307 (lj_T L) (lj_0 L)]
    obtain ⟨h1, E1, L1⟩ := g_share L Q hz
    rw [E1, zbk]
    rw [q_L_adds_311 (lj_T L1) (lj_0 L1)]
    obtain ⟨h2, E2, L2⟩ := g_ahead L1 Q hz
    rw [E2, zbk]
    have sp : fpos (aShare n top R N) := fpos_shr (ones_b _).1 (ones_b _).2
    have fin : ∀ h, LJ (n, top, R, N, c, Ol, s0, s1, I, m, ec, ep) hs h → RS (n, top, R, N, c, Ol, s0, s1, I, m, ec, ep) hs (zI 1) (zY 218 354 [some (zR (some 0)), some (zI (dmS n R)), some (zI (nfC n top R N)), some (zI (aTrouble n top R N)), some (zI 1), some (zI (dmS n R)), none, none, none, none, none, none, none] [] h) := fun h L => by
      rw [q_L_adds_354]
      exact ad_364 Q hz n.toNat 0 h (Int.le_refl _) (by omega) L
    have et : FP.fdiv (FP.i2f (Int32.ofInt (f_M_ones (ahd N (NN n R N) top)))) 1115684864 = aShare n top R N := rfl
    rw [q_L_adds_315, cnt_all, zbk, q_L_adds_318, et, gd_t (fpos_zn sp), if_pos (fc_self sp)]
    rw [q_L_adds_326 (lj_T L2) (lj_0 L2)]
    obtain ⟨h3, E3, L3⟩ := g_ahead L2 Q hz
    rw [E3, zbk]
    rw [q_L_adds_330 (lj_T L3) (lj_0 L3)]
    obtain ⟨h4, E4, L4⟩ := g_value0 L3 Q hz
    rw [E4, zbk]
    rw [q_L_adds_335]
    have ta := ahd_top Q
    by_cases nz : n = 0
    · rw [if_pos nz] at ta
      rw [if_pos nz]
      rw [q_L_adds_338 (lj_T L4) (lj_0 L4)]
      obtain ⟨h5, E5, L5⟩ := g_after L4 Q hz
      rw [E5, zbk]
      rw [q_L_adds_342, if_pos (zl_p ta)]
      exact fin h5 L5
    · rw [if_neg nz] at ta
      rw [if_neg nz]
      rw [q_L_adds_345 (lj_T L4) (lj_0 L4)]
      obtain ⟨h5, E5, L5⟩ := g_need L4 Q hz (s := 0) (by decide) (by omega)
      rw [E5, zbk]
      rw [q_L_adds_350, if_pos (zl_p ta)]
      exact fin h5 L5
  by_cases z : nfC n top R N = 0
  · rw [if_pos z]
    rw [q_L_adds_271 (lj_T L2) (lj_0 L2)]
    obtain ⟨h3, E3, L3⟩ := g_value6 L2 Q hz
    rw [E3, zbk]
    rw [q_L_adds_282, if_pos z, if_pos rfl, q_L_adds_286, if_pos rfl, q_L_adds_294, if_neg (by omega)]
    rw [q_L_adds_298 (lj_T L3) (lj_0 L3)]
    obtain ⟨h4, E4, L4⟩ := g_wrong L3 Q hz
    rw [E4, zbk]
    rw [q_L_adds_302, if_pos (zl_p (sound Q z))]
    exact go h4 L4
  · rw [if_neg z]
    rw [q_L_adds_275 (lj_T L2) (lj_0 L2)]
    obtain ⟨h3, E3, L3⟩ := g_value6 L2 Q hz
    rw [E3, zbk]
    rw [q_L_adds_282, if_neg z, if_neg (by decide), q_L_adds_290, if_pos rfl, q_L_adds_294, if_pos (by omega)]
    exact go h3 L3
theorem zpz_d {k : Int} (k0 : 0 < k) (k1 : k ≤ 100) : zwsub k 1 = k - 1 ∧ zpz (zwsub k 1) 3 = k - 1 := by
  have e : zwsub k 1 = k - 1 := zwsub_e (by omega) (by omega)
  rw [e]
  exact ⟨rfl, if_neg (by omega)⟩
theorem tmod_k {k : Int} (k0 : 0 < k) : Int.tmod (k - 1) 3 = (k - 1) % 3 := Int.tmod_eq_emod_of_nonneg (by omega)
/-- the loop over the duties goes on -/
def ADK (t : TSt) (hs : zH) (n top : Int) (R N : Nat → Int) (k : Nat) : Prop := ∀ h, LJ t hs h → RS t hs (zI 1) (zY 218 33 [some (zR (some 0)), some (zI (dmS n R)), some (zI (fA n top R N k)), some (zI (fG n top R N k)), some (zI 1), some (zI ((k : Nat) : Int)), none, none, none, none, none, none, none] [] h)
theorem ad_109 {k : Nat} {x2 x3 x10 : Int} (Q : Prg n top R N) (X : RX n R) (hz : hN hs < zVB) (hk : (k : Int) < dmS n R) (IH : ADK (n, top, R, N, c, Ol, s0, s1, I, m, ec, ep) hs n top R N (k + 1)) (e2 : x2 = fA n top R N (k + 1)) (e3 : x3 = fG n top R N (k + 1)) (e10 : (k : Int) ≠ 0 → x10 = ((k : Int) - 1) / 3) (L : LJ (n, top, R, N, c, Ol, s0, s1, I, m, ec, ep) hs h) : RS (n, top, R, N, c, Ol, s0, s1, I, m, ec, ep) hs (zI 1) (zY 218 118 [some (zR (some 0)), some (zI (dmS n R)), some (zI x2), some (zI x3), some (zI 1), some (zI (k : Int)), some (zJ (flC n top R N (k : Int))), none, some (zI (if (k : Int) = 0 then 0 else 1 + ((k : Int) - 1) % 3)), some (zI (if (k : Int) = 0 then -1 else lpAt n R 2 (((k : Int) - 1) / 3))), some (zI x10), none, none] [zI (f_M_ones (flC n top R N (k : Int)))] h) := by
  have dl := dmS_le Q
  subst e2 e3
  rw [q_L_adds_118, cnt_all, zbk, q_L_adds_123, if_pos rfl]
  rw [q_L_adds_126 (lj_T L) (lj_0 L)]
  obtain ⟨h1, E1, L1⟩ := g_duty3 L Q hz (d := (k : Int)) (by omega) hk
  rw [E1, zbk]
  rw [q_L_adds_133]
  have fin : ∀ h, LJ (n, top, R, N, c, Ol, s0, s1, I, m, ec, ep) hs h → RS (n, top, R, N, c, Ol, s0, s1, I, m, ec, ep) hs (zI 1) (zY 218 152 [some (zR (some 0)), some (zI (dmS n R)), some (zI (fA n top R N (k + 1))), some (zI (fG n top R N (k + 1))), some (zI 1), some (zI (k : Int)), some (zJ (flC n top R N (k : Int))), none, some (zI (if (k : Int) = 0 then 0 else 1 + ((k : Int) - 1) % 3)), some (zI (if (k : Int) = 0 then -1 else lpAt n R 2 (((k : Int) - 1) / 3))), some (zI x10), none, none] [] h) := fun h L => by
    rw [q_L_adds_152]
    by_cases kz : (k : Int) = 0
    · rw [if_pos kz, q_L_adds_157, if_pos (if_pos kz), q_L_adds_162, if_pos (if_pos kz)]
      rw [q_L_adds_168 (lj_T L) (lj_0 L)]
      obtain ⟨h1, E1, L1⟩ := g_before L Q hz
      rw [E1, zbk]
      have z : flC n top R N (k : Int) &&& ~~~ setL (lst N 0) = 0#64 := by rw [kz]; exact fl_sub0
      rw [q_L_adds_174, if_pos (zl_p (by rw [not_e]; exact z)), q_L_adds_184, gd_t (by omega)]
      exact rs_le (by exact ⟨rfl, rfl, rfl, rfl, rfl, rfl, trivial⟩) (IH h1 L1)
    · obtain ⟨z1, z2⟩ := zpz_d (k := (k : Int)) (by omega) (by omega)
      have ll := dm_lp (k := (k : Int)) (by omega) hk
      have ne := lp_ne Q ll.1 ll.2
      have lr := lpAt_c Q (Or.inl rfl) (((k : Int) - 1) / 3)
      rw [e10 kz]
      rw [if_neg kz, q_L_adds_187, z1, gd_t (by omega), tmod_k (by omega), zwadd_e (by omega) (by omega), if_pos (if_neg kz), if_neg kz, if_neg kz]
      have sr : 0 ≤ lpAt n R 2 (((k : Int) - 1) / 3) ∧ lpAt n R 2 (((k : Int) - 1) / 3) < n := by
        rcases lr with q | q
        · exact q.2.1
        · exact absurd q.2 ne
      rw [q_L_adds_200 (lj_T L) (lj_0 L)]
      obtain ⟨h1, E1, L1⟩ := g_st7 L Q hz X (s := lpAt n R 2 (((k : Int) - 1) / 3)) sr.1 sr.2
      rw [E1, zbk]
      rw [q_L_adds_208, if_pos (lp_num ne)]
      rw [q_L_adds_213 (lj_T L1) (lj_0 L1)]
      obtain ⟨h2, E2, L2⟩ := g_keep L1 Q hz ne
      rw [E2, zbk]
      rw [q_L_adds_222, if_pos (zl_p (by rw [not_e]; exact fl_subk kz)), q_L_adds_232, gd_t (by omega)]
      exact rs_le (by exact ⟨rfl, rfl, rfl, rfl, rfl, rfl, trivial⟩) (IH h2 L2)
  by_cases fz : flC n top R N (k : Int) = 0#64
  · rw [if_pos (zl_p fz), q_L_adds_140, if_pos (by rw [fz]; exact least_0)]
    exact fin h1 L1
  · rw [if_neg (zl_n fz), q_L_adds_144, c_ntz fz, zbk, q_L_adds_149, if_pos rfl]
    exact fin h1 L1
theorem ad_33 (Q : Prg n top R N) (X : RX n R) (hz : hN hs < zVB) : ∀ (q k : Nat), ((k + q : Nat) : Int) = dmS n R → ADK (n, top, R, N, c, Ol, s0, s1, I, m, ec, ep) hs n top R N k
  | 0, k, e => fun h L => by
    have e' : (dmS n R).toNat = k := by omega
    have e2 : ((k : Nat) : Int) = dmS n R := e
    rw [q_L_adds_33, if_neg (by omega), q_L_adds_245, if_neg (by decide), e2]
    have r := ad_250 Q hz L
    rw [e'] at r
    exact r
  | q + 1, k, e => fun h L => by
    have dl := dmS_le Q
    have IH := ad_33 Q X hz q (k + 1) (by omega)
    have k0 : (0 : Int) ≤ (k : Int) := by omega
    have hk : (k : Int) < dmS n R := by omega
    have fb := fA_b (n := n) (top := top) (R := R) (N := N) k
    rw [q_L_adds_33, if_pos hk, q_L_adds_39, if_neg (by decide)]
    rw [q_L_adds_44 (lj_T L) (lj_0 L)]
    obtain ⟨h1, E1, L1⟩ := g_failing L Q hz k0 hk
    rw [E1, zbk]
    rw [q_L_adds_50 (lj_T L1) (lj_0 L1)]
    obtain ⟨h2, E2, L2⟩ := g_duty0 L1 Q hz k0 hk
    rw [E2, zbk]
    rw [q_L_adds_59 (lj_T L2) (lj_0 L2)]
    obtain ⟨h3, E3, L3⟩ := g_duty1 L2 Q hz k0 hk
    rw [E3, zbk]
    have g0 : 0 ≤ zpz (zwsub (k : Int) 1) 3 ∧ (0 : Int) < 3 := by
      by_cases kz : (k : Int) = 0
      · rw [kz]; decide
      · rw [(zpz_d (by omega) (by omega)).2]; omega
    have e10 : (k : Int) ≠ 0 → zpz (zwsub (k : Int) 1) 3 / 3 = ((k : Int) - 1) / 3 := fun kz => by rw [(zpz_d (by omega) (by omega)).2]
    rw [q_L_adds_68, gd_t g0]
    generalize zpz (zwsub (k : Int) 1) 3 / 3 = x10 at e10 ⊢
    by_cases fz : flC n top R N (k : Int) = 0#64
    · rw [if_pos (zl_p fz), q_L_adds_86, if_pos (zl_p fz), zwadd_e (by omega) (by omega), Int.add_zero]
      rw [q_L_adds_109 (lj_T L3) (lj_0 L3)]
      obtain ⟨h4, E4, L4⟩ := g_duty2 L3 Q hz k0 hk
      rw [E4, zbk]
      exact ad_109 Q X hz hk IH (fA_z fz).symm (fF_z fz).symm e10 L4
    · rw [if_neg (zl_n fz), q_L_adds_90, if_neg (zl_n fz), zwadd_e (by omega) (by omega), q_L_adds_100]
      by_cases cf : fG n top R N k < 0
      · rw [if_pos cf]
        rw [q_L_adds_104 (lj_T L3) (lj_0 L3)]
        obtain ⟨h4, E4, L4⟩ := g_duty2 L3 Q hz k0 hk
        rw [E4, zbk]
        exact ad_109 Q X hz hk IH (fA_n fz).symm (by rw [fF_n fz, if_pos cf]) e10 L4
      · rw [if_neg cf]
        rw [q_L_adds_109 (lj_T L3) (lj_0 L3)]
        obtain ⟨h4, E4, L4⟩ := g_duty2 L3 Q hz k0 hk
        rw [E4, zbk]
        exact ad_109 Q X hz hk IH (fA_n fz).symm (by rw [fF_n fz, if_neg cf]) e10 L4
theorem c_adds (L : LJ (n, top, R, N, c, Ol, s0, s1, I, m, ec, ep) hs h) (Q : Prg n top R N) (X : RX n R) (hz : hN hs < zVB) : RS (n, top, R, N, c, Ol, s0, s1, I, m, ec, ep) hs (zI 1) (zC 218 [zR (some 0)] h) := by
  have dl := dmS_le Q
  have cn := cnt_r Q 2
  rw [q_L_adds (lj_T L) (lj_0 L)]
  obtain ⟨h1, E1, L1⟩ := g_value4 L Q hz
  rw [E1, zbk]
  rw [q_L_adds_5 (lj_T L1) (lj_0 L1)]
  obtain ⟨h2, E2, L2⟩ := g_value1 L1 Q hz
  rw [E2, zbk]
  have ez : zwadd 1 (zwmul 3 (cntK R 2 n.toNat)) = dmS n R := by
    have e3 : zwmul 3 (cntK R 2 n.toNat) = 3 * cntK R 2 n.toNat := by
      show (Int32.ofInt 3 * Int32.ofInt (cntK R 2 n.toNat)).toInt = _
      rw [← Int32.ofInt_mul]
      exact zw_in (by omega) (by omega)
    rw [e3, zwadd_e (by omega) (by omega)]
    rfl
  rw [q_L_adds_18, ez, if_pos rfl, q_L_adds_23]
  exact ad_33 Q X hz (dmS n R).toNat 0 (by omega) h2 L2
end ADD
