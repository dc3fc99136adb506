/-! The reference: a text is read. -/
section TEXTS
variable {I : Nat → Int} {len : Int} {h : zH} {s : PSt}
theorem c_opens (P : PM h I len s) (its : Int) : ∃ h2, zC 233 [zR (some 177), zI its] h = some (.inl none, h2) ∧ PM h2 I len (opnP its s) ∧ Fr scrPs h h2 := by
  obtain ⟨t, ⟨f, fa⟩, ⟨n, top, R, N⟩, row, sec, last⟩ := s
  rw [q_M_opens (PM_K P)]
  exact ⟨_, rfl, PM_sl (PM_ss (PM_sr P its) 0) (-1), Fr_I (Fr_I (Fr_I (Fr_r _ _) rfl) rfl) rfl⟩
theorem comP_1 (kd : Int) (s : PSt) : (comP kd s).1 = s.1 ∧ (comP kd s).2.1 = s.2.1 := by
  obtain ⟨t, ⟨f, fa⟩, ⟨n, top, R, N⟩, row, sec, last⟩ := s
  exact ⟨rfl, rfl⟩
theorem advP_f (s : PSt) : (advP I len s).2.1 = s.2.1 := by
  obtain ⟨t, ⟨f, fa⟩, ⟨n, top, R, N⟩, row, sec, last⟩ := s
  rfl
theorem c_comP (P : PM h I len s) (V : INV len s) (h24 : s.2.2.1.1 ≠ 24) {kd : Int} : ∃ h2, zC 205 [zR (some 177), zI kd] h = some (.inl (some (zI s.2.2.1.1)), h2) ∧ PM h2 I len (comP kd s) ∧ Fr scrPs h h2 := by
  obtain ⟨t, ⟨f, fa⟩, ⟨n, top, R, N⟩, row, sec, last⟩ := s
  have w0 := V.1.1.1
  have h24 : n ≠ 24 := h24
  exact c_comes P V.1 (by omega)
theorem c_forF {q what : Int} (P : PM h I len s) (hq : 0 ≤ q) (hq2 : q < 74) (hw : what = 0 ∨ what = 1) {X : zO → zO} {r : zH → zO} (hr : ∀ g, KM g → X (some (.inl none, g)) = r g) : ∃ h2, (if hI h 177 41 = 0 then X (zC 224 [zR (some 177), zI q, zI what] h) else r h) = r h2 ∧ PM h2 I len (forF I len q what s) ∧ Fr scrPs h h2 := by
  unfold forF
  rw [PM_F P]
  by_cases c : s.2.1.1 = 0
  · rw [if_pos c, if_pos c]
    obtain ⟨h2, e2, P2, F2⟩ := c_readsForm P c hq hq2 hw
    rw [e2, hr h2 (PM_K P2)]
    exact ⟨h2, rfl, P2, F2⟩
  · rw [if_neg c, if_neg c]
    exact ⟨h, rfl, P, Fr_r _ _⟩
theorem c_readsSet (P : PM h I len s) (V : INV len s) (h24 : s.2.2.1.1 ≠ 24) (hf : s.2.1.1 = 0) (ht : 0 ≤ s.1.1) : ∃ h2, zC 230 [zR (some 177)] h = some (.inl none, h2) ∧ PM h2 I len (setP I len s) ∧ Fr scrPs h h2 := by
  have hn : 0 ≤ s.2.2.1.1 ∧ s.2.2.1.1 < 24 := by
    obtain ⟨t, ⟨f, fa⟩, ⟨n, top, R, N⟩, row, sec, last⟩ := s
    have w0 := V.1.1.1
    have h24 : n ≠ 24 := h24
    show 0 ≤ n ∧ n < 24
    omega
  obtain ⟨h1, e1, P1, F1⟩ := c_comP P V h24 (kd := 0)
  obtain ⟨h2, e2, P2, F2⟩ := c_advP P1 (by rw [(comP_1 0 s).1]; exact ht)
  have hf2 : (advP I len (comP 0 s)).2.1.1 = 0 := by rw [advP_f, (comP_1 0 s).2]; exact hf
  rw [q_M_readsSet (PM_K P), e1, q_M_readsSet_r5 (PM_K P1), e2, q_M_readsSet_r10 (PM_K P2), c_variableHere (PM_K P2) (PM_T P2), q_M_readsSet_r14 (PM_K P2)]
  unfold setP
  generalize advP I len (comP 0 s) = s2 at *
  generalize s.2.2.1.1 = n at *
  have F12 := Fr_t F1 (Fr_m F2 (B := scrPs) rfl)
  by_cases c : 4 ≤ s2.1.1 ∧ s2.1.1 ≤ 6
  · rw [if_pos c, if_pos c, if_neg (by omega), gd_t (by omega), gd_t (by omega), gd_t (by omega)]
    have P3 : PM (sI h2 183 (10 * n + 1).toNat (s2.1.1 - 4)) I len (varP n (s2.1.1 - 4) s2) := by
      obtain ⟨t, ⟨f, fa⟩, ⟨n2, top, R, N⟩, row, sec, last⟩ := s2
      exact PM_sR P2 _ _
    have F3 : Fr scrPs h (sI h2 183 (10 * n + 1).toNat (s2.1.1 - 4)) := Fr_I F12 rfl
    have hv : (varP n (s2.1.1 - 4) s2).1 = s2.1 ∧ (varP n (s2.1.1 - 4) s2).2.1 = s2.2.1 := by
      obtain ⟨t, ⟨f, fa⟩, ⟨n2, top, R, N⟩, row, sec, last⟩ := s2
      exact ⟨rfl, rfl⟩
    obtain ⟨h4, e4, P4, F4⟩ := c_advP P3 (by rw [hv.1]; omega)
    rw [e4, q_M_readsSet_r42 (PM_K P4), gd_t (by omega)]
    obtain ⟨h5, e5, P5, F5⟩ := c_readsForm P4 (by rw [advP_f, hv.2]; exact hf2) (q := 2 + n) (what := 0) (by omega) (by omega) (Or.inl rfl)
    rw [e5, q_M_readsSet_r50 (PM_K P5)]
    exact ⟨h5, rfl, P5, Fr_t F3 (Fr_t (Fr_m F4 rfl) F5)⟩
  · rw [if_neg c, if_neg c, if_pos rfl]
    obtain ⟨h3, e3, P3, F3⟩ := c_errs P2 1
    rw [e3, q_M_readsSet_r25 (PM_K P3)]
    exact ⟨h3, rfl, P3, Fr_t F12 (Fr_m F3 rfl)⟩
theorem c_readsIf (P : PM h I len s) (V : INV len s) (h24 : s.2.2.1.1 ≠ 24) (hf : s.2.1.1 = 0) (ht : 0 ≤ s.1.1) : ∃ h2, zC 232 [zR (some 177)] h = some (.inl none, h2) ∧ PM h2 I len (iffP I len s) ∧ Fr scrPs h h2 := by
  have hn : 0 ≤ s.2.2.1.1 ∧ s.2.2.1.1 < 24 := by
    obtain ⟨t, ⟨f, fa⟩, ⟨n, top, R, N⟩, row, sec, last⟩ := s
    have w0 := V.1.1.1
    have h24 : n ≠ 24 := h24
    show 0 ≤ n ∧ n < 24
    omega
  obtain ⟨h1, e1, P1, F1⟩ := c_comP P V h24 (kd := 1)
  obtain ⟨h2, e2, P2, F2⟩ := c_advP P1 (by rw [(comP_1 1 s).1]; exact ht)
  obtain ⟨h3, e3, P3, F3⟩ := c_readsForm P2 (by rw [advP_f, (comP_1 1 s).2]; exact hf) (q := 2 + s.2.2.1.1) (what := 1) (by omega) (by omega) (Or.inr rfl)
  obtain ⟨h4, e4, P4, F4⟩ := c_opens P3 s.2.2.1.1
  rw [q_M_readsIf (PM_K P), e1, q_M_readsIf_r5 (PM_K P1), e2, q_M_readsIf_r10 (PM_K P2), gd_t (by omega), e3, q_M_readsIf_r18 (PM_K P3), e4, q_M_readsIf_r23 (PM_K P4)]
  exact ⟨h4, rfl, P4, Fr_t F1 (Fr_t (Fr_m F2 rfl) (Fr_t F3 F4))⟩
theorem c_readsWhile (P : PM h I len s) (V : INV len s) (h24 : s.2.2.1.1 ≠ 24) (hf : s.2.1.1 = 0) (ht : 0 ≤ s.1.1) : ∃ h2, zC 234 [zR (some 177)] h = some (.inl none, h2) ∧ PM h2 I len (whlP I len s) ∧ Fr scrPs h h2 := by
  have hn : 0 ≤ s.2.2.1.1 ∧ s.2.2.1.1 < 24 := by
    obtain ⟨t, ⟨f, fa⟩, ⟨n, top, R, N⟩, row, sec, last⟩ := s
    have w0 := V.1.1.1
    have h24 : n ≠ 24 := h24
    show 0 ≤ n ∧ n < 24
    omega
  obtain ⟨h1, e1, P1, F1⟩ := c_comP P V h24 (kd := 2)
  obtain ⟨h2, e2, P2, F2⟩ := c_advP P1 (by rw [(comP_1 2 s).1]; exact ht)
  obtain ⟨h3, e3, P3, F3⟩ := c_readsForm P2 (by rw [advP_f, (comP_1 2 s).2]; exact hf) (q := 2 + s.2.2.1.1) (what := 1) (by omega) (by omega) (Or.inr rfl)
  obtain ⟨h4, e4, P4, F4⟩ := c_takesKey P3 (k := 19) (w := 23) (by decide) (by decide) (by decide)
  have g26 : ∀ g : zH, gd (-2147483648 ≤ 26 + s.2.2.1.1 ∧ 26 + s.2.2.1.1 < 2147483648) (zBack zY 234 37 40 [some (zR (some 177)), some (zI s.2.2.1.1)] [] (zC 224 [zR (some 177), zI (26 + s.2.2.1.1), zI 1] g)) = zBack zY 234 37 40 [some (zR (some 177)), some (zI s.2.2.1.1)] [] (zC 224 [zR (some 177), zI (26 + s.2.2.1.1), zI 1] g) := fun g => gd_t (by omega) _
  obtain ⟨h5, e5, P5, F5⟩ := c_forF (q := 26 + s.2.2.1.1) (what := 1) P4 (by omega) (by omega) (Or.inr rfl) (X := zBack zY 234 37 40 [some (zR (some 177)), some (zI s.2.2.1.1)] []) (r := fun g => zBack zY 234 43 46 [some (zR (some 177)), some (zI s.2.2.1.1)] [] (zC 221 [zR (some 177), zI 20] g)) (fun g K => q_M_readsWhile_r40 K)
  obtain ⟨h6, e6, P6, F6⟩ := c_takesKey P5 (k := 20) (w := 24) (by decide) (by decide) (by decide)
  have g50 : ∀ g : zH, gd (-2147483648 ≤ 50 + s.2.2.1.1 ∧ 50 + s.2.2.1.1 < 2147483648) (zBack zY 234 59 62 [some (zR (some 177)), some (zI s.2.2.1.1)] [] (zC 224 [zR (some 177), zI (50 + s.2.2.1.1), zI 0] g)) = zBack zY 234 59 62 [some (zR (some 177)), some (zI s.2.2.1.1)] [] (zC 224 [zR (some 177), zI (50 + s.2.2.1.1), zI 0] g) := fun g => gd_t (by omega) _
  obtain ⟨h7, e7, P7, F7⟩ := c_forF (q := 50 + s.2.2.1.1) (what := 0) P6 (by omega) (by omega) (Or.inl rfl) (X := zBack zY 234 59 62 [some (zR (some 177)), some (zI s.2.2.1.1)] []) (r := fun g => zBack zY 234 64 67 [some (zR (some 177)), some (zI s.2.2.1.1)] [] (zC 233 [zR (some 177), zI s.2.2.1.1] g)) (fun g K => q_M_readsWhile_r62 K)
  obtain ⟨h8, e8, P8, F8⟩ := c_opens P7 s.2.2.1.1
  rw [q_M_readsWhile (PM_K P), e1, q_M_readsWhile_r5 (PM_K P1), e2, q_M_readsWhile_r10 (PM_K P2), gd_t (by omega), e3, q_M_readsWhile_r18 (PM_K P3), e4, q_M_readsWhile_r24 (PM_K P4), g26, e5, e6, q_M_readsWhile_r46 (PM_K P6), g50, e7, e8, q_M_readsWhile_r67 (PM_K P8)]
  exact ⟨h8, rfl, P8, Fr_t F1 (Fr_t (Fr_m F2 rfl) (Fr_t F3 (Fr_t F4 (Fr_t F5 (Fr_t F6 (Fr_t F7 F8))))))⟩
theorem c_beginsStatement (P : PM h I len s) : zC 228 [zR (some 177)] h = some (.inl (some (zI (if 17 ≤ s.1.1 ∧ s.1.1 ≤ 20 then 1 else 0))), h) := by
  have K := PM_K P
  have T := PM_T P
  have k17 := c_isKey2 K T (k := 14) 17 (by decide) (by decide) (by decide)
  have k18 := c_isKey2 K T (k := 15) 18 (by decide) (by decide) (by decide)
  have k19 := c_isKey2 K T (k := 18) 19 (by decide) (by decide) (by decide)
  have k20 := c_isKey2 K T (k := 21) 20 (by decide) (by decide) (by decide)
  rw [q_M_beginsStatement K, k17, q_M_beginsStatement_r6 K]
  by_cases c17 : s.1.1 = 17
  · rw [if_pos c17, if_neg (by decide), if_pos (by omega)]
  rw [if_neg c17, if_pos rfl, k18, q_M_beginsStatement_r15 K]
  by_cases c18 : s.1.1 = 18
  · rw [if_pos c18, if_neg (by decide), if_pos (by omega)]
  rw [if_neg c18, if_pos rfl, k19, q_M_beginsStatement_r24 K]
  by_cases c19 : s.1.1 = 19
  · rw [if_pos c19, if_neg (by decide), if_pos (by omega)]
  rw [if_neg c19, if_pos rfl, k20, q_M_beginsStatement_r33 K]
  by_cases c20 : s.1.1 = 20
  · rw [if_pos c20, if_neg (by decide), if_pos (by omega)]
  rw [if_neg c20, if_pos rfl, if_neg (by omega)]
theorem PM_n (P : PM h I len s) : hI h 177 10 = s.2.2.1.1 := by
  obtain ⟨t, ⟨f, fa⟩, ⟨n, top, R, N⟩, row, sec, last⟩ := s
  exact P.2.2.2.2.1.1
theorem c_readsStatement (P : PM h I len s) (V : INV len s) (hf : s.2.1.1 = 0) (ht : 17 ≤ s.1.1 ∧ s.1.1 ≤ 20) : ∃ h2, zC 229 [zR (some 177)] h = some (.inl none, h2) ∧ PM h2 I len (stmP I len s) ∧ Fr scrPs h h2 := by
  have K := PM_K P
  have T := PM_T P
  have k17 := c_isKey2 K T (k := 14) 17 (by decide) (by decide) (by decide)
  have k18 := c_isKey2 K T (k := 15) 18 (by decide) (by decide) (by decide)
  have k19 := c_isKey2 K T (k := 18) 19 (by decide) (by decide) (by decide)
  rw [q_M_readsStatement K, PM_n P]
  unfold stmP
  by_cases c24 : s.2.2.1.1 = 24
  · rw [if_pos c24, if_pos c24]
    obtain ⟨h2, e2, P2, F2⟩ := c_errs P 3
    rw [e2, q_M_readsStatement_r14 (PM_K P2)]
    exact ⟨h2, rfl, P2, Fr_m F2 rfl⟩
  rw [if_neg c24, if_neg c24, k17, q_M_readsStatement_r23 K]
  by_cases c17 : s.1.1 = 17
  · rw [if_pos c17, if_pos c17, if_neg (by decide)]
    obtain ⟨h2, e2, P2, F2⟩ := c_readsSet P V c24 hf (by omega)
    rw [e2, q_M_readsStatement_r30 (PM_K P2)]
    exact ⟨h2, rfl, P2, F2⟩
  rw [if_neg c17, if_neg c17, if_pos rfl, k18, q_M_readsStatement_r39 K]
  by_cases c18 : s.1.1 = 18
  · rw [if_pos c18, if_pos c18, if_neg (by decide)]
    obtain ⟨h2, e2, P2, F2⟩ := c_readsIf P V c24 hf (by omega)
    rw [e2, q_M_readsStatement_r46 (PM_K P2)]
    exact ⟨h2, rfl, P2, F2⟩
  rw [if_neg c18, if_neg c18, if_pos rfl, k19, q_M_readsStatement_r55 K]
  by_cases c19 : s.1.1 = 19
  · rw [if_pos c19, if_pos c19, if_neg (by decide)]
    obtain ⟨h2, e2, P2, F2⟩ := c_readsWhile P V c24 hf (by omega)
    rw [e2, q_M_readsStatement_r62 (PM_K P2)]
    exact ⟨h2, rfl, P2, F2⟩
  rw [if_neg c19, if_neg c19, if_pos rfl]
  obtain ⟨h1, e1, P1, F1⟩ := c_comP P V c24 (kd := 3)
  obtain ⟨h2, e2, P2, F2⟩ := c_advP P1 (by rw [(comP_1 3 s).1]; omega)
  rw [e1, q_M_readsStatement_r70 (PM_K P1), e2, q_M_readsStatement_r75 (PM_K P2)]
  exact ⟨h2, rfl, P2, Fr_t F1 (Fr_m F2 rfl)⟩
theorem l_isInSecond {R : Nat → Int} {n x : Int} (K : KM h) (hR : hI h 183 = R) (w : WS n R) (hx : x ≠ -1) : ∀ (m : Nat) (y : Int), (y = -1 ∨ 0 ≤ y ∧ y < n) → n - y ≤ m → zY 236 13 [some (zR (some 177)), some (zI x), some (zI y)] [] h = some (.inl (some (zI (if inS R x m y = true then 1 else 0))), h)
  | 0, y, hy, hm => by
    have w0 := w.1
    obtain rfl : y = -1 := by omega
    omega
  | m + 1, y, hy, hm => by
    have w0 := w.1
    rw [q_M_isInSecond_13 K, inS]
    by_cases c : y = -1
    · rw [if_pos c, if_pos c, if_neg (by omega), if_neg (by decide)]
    · rw [if_neg c, if_neg c]
      by_cases d : y = x
      · rw [if_pos d, if_pos d, if_pos rfl]
      · have w1 := (w.2.1 y (by omega) (by omega)).2.2.2.1
        have e : f_M_s h y 4 = sv R y 4 := by rw [f_M_s_e, hR]
        rw [if_neg d, if_neg d, e]
        by_cases z : sv R y 4 = -1
        · have e2 : inS R x m (sv R y 4) = false := by
            rw [z]
            cases m with
            | zero => rfl
            | succ m => rw [inS, if_pos rfl]
          rw [e2, z, q_M_isInSecond_13 K, if_pos rfl, if_neg (by omega), if_neg (by decide)]
        · exact l_isInSecond K hR w hx m (sv R y 4) (by omega) (by omega)
theorem c_isInSecond {R : Nat → Int} {n x : Int} (K : KM h) (hR : hI h 183 = R) (w : WS n R) (h0 : 0 ≤ x) (h1 : x < n) (hp : sv R x 3 ≠ -1) : zC 236 [zR (some 177), zI x] h = some (.inl (some (zI (if inS R x 24 (sv R (sv R x 3) 6) = true then 1 else 0))), h) := by
  have w0 := w.1
  have w1 := (w.2.1 x h0 h1).2.2.1
  have w2 := (w.2.1 (sv R x 3) (by omega) (by omega)).2.2.2.2.2
  have e3 : f_M_s h x 3 = sv R x 3 := by rw [f_M_s_e, hR]
  have e6 : f_M_s h (sv R x 3) 6 = sv R (sv R x 3) 6 := by rw [f_M_s_e, hR]
  rw [q_M_isInSecond K (g1 := by rw [e3]; omega), e3, e6]
  by_cases z : sv R (sv R x 3) 6 = -1
  · rw [z, q_M_isInSecond_13 K, if_pos rfl, if_neg (by omega)]
    rfl
  · exact l_isInSecond K hR w (by omega) 24 _ (by omega) (by omega)
theorem c_closes (P : PM h I len s) (V : INV len s) : (clB s = false ∧ zC 235 [zR (some 177)] h = some (.inl (some (zI 0)), h)) ∨ (clB s = true ∧ ∃ h2, zC 235 [zR (some 177)] h = some (.inl (some (zI 1)), h2) ∧ PM h2 I len (advP I len (cltP s)) ∧ Fr scrPs h h2) := by
  obtain ⟨t, ⟨f, fa⟩, ⟨n, top, R, N⟩, row, sec, last⟩ := s
  obtain ⟨K, T, pf, pa, ⟨p1, p2, p3, p4⟩, p5, p6, p7⟩ := id P
  have V1 : IVR n top R row sec last := V.1
  have w := V1.1
  have hrow := V1.2.2.2.1
  have w0 := w.1
  have k16 := c_isKey2 K T (k := 16) 21 (by decide) (by decide) (by decide)
  have k17 := c_isKey2 K T (k := 17) 22 (by decide) (by decide) (by decide)
  have e0 : f_M_s h row 0 = sv R row 0 := by rw [f_M_s_e, p3]
  rw [q_M_closes K (g0 := fun q => by rw [p5] at q ⊢; omega), p5, p6, e0]
  unfold clB
  simp only
  by_cases c1 : row = -1
  · rw [if_pos c1]
    exact Or.inl ⟨by rw [decide_eq_false (fun q => q c1)]; rfl, rfl⟩
  rw [if_neg c1, decide_eq_true c1, Bool.true_and]
  have w1 := (w.2.1 row (by omega) (by omega)).2.2.1
  by_cases c2 : sv R row 0 = 1 ∧ sec = 0
  · rw [if_pos c2.1, if_pos c2.2, if_pos c2, k16, q_M_closes_r46 K]
    by_cases c3 : t.1 = 21
    · rw [if_pos c3, if_neg (by decide)]
      refine Or.inr ⟨decide_eq_true c3, ?_⟩
      have P2 := PM_sl (PM_ss P 1) (-1)
      obtain ⟨h2, e2, P3, F3⟩ := c_advP P2 (show 0 ≤ t.1 by omega)
      rw [e2, q_M_closes_r63 (PM_K P3)]
      refine ⟨h2, rfl, ?_, Fr_t (Fr_I (Fr_I (Fr_r _ _) rfl) rfl) (Fr_m F3 rfl)⟩
      unfold cltP
      simp only
      rw [if_pos c2]
      exact P3
    · rw [if_neg c3, if_pos rfl, if_neg (by decide)]
      exact Or.inl ⟨decide_eq_false c3, rfl⟩
  · rw [if_neg c2]
    have fin : (decide (t.1 = 22) = false ∧ zBack zY 235 72 75 [some (zR (some 177)), some (zI 0)] [] (zC 222 [zR (some 177), zI 17] h) = some (.inl (some (zI 0)), h)) ∨ (decide (t.1 = 22) = true ∧ ∃ h2, zBack zY 235 72 75 [some (zR (some 177)), some (zI 0)] [] (zC 222 [zR (some 177), zI 17] h) = some (.inl (some (zI 1)), h2) ∧ PM h2 I len (advP I len (cltP (t, (f, fa), (n, top, R, N), row, sec, last))) ∧ Fr scrPs h h2) := by
      rw [k17, q_M_closes_r75 K]
      by_cases c3 : t.1 = 22
      · rw [if_pos c3, if_neg (by decide)]
        refine Or.inr ⟨decide_eq_true c3, ?_⟩
        have P2 := PM_sr (PM_sl P row) (sv R row 3)
        have e3 : f_M_s (sI h 177 46 row) row 3 = sv R row 3 := by
          rw [f_M_s_e]
          show sv (hI h 183) row 3 = _
          rw [p3]
        have F2 : Fr scrPs h (sI (sI h 177 46 row) 177 44 (sv R row 3)) := Fr_I (Fr_I (Fr_r _ _) rfl) rfl
        rw [q_M_closes_78 K (g0 := by rw [p5]; omega), p5, e3, q_M_closes_99 (PM_K P2), P2.2.2.2.2.2.1, P2.2.2.2.2.2.2.2]
        have P2R : hI (sI (sI h 177 46 row) 177 44 (sv R row 3)) 183 = R := P2.2.2.2.2.1.2.2.1
        generalize sI (sI h 177 46 row) 177 44 (sv R row 3) = g at *
        unfold cltP
        simp only
        rw [if_neg c2]
        have last1 : ∀ v, secE R row = v → ∃ h2, zBack zY 235 128 131 [some (zR (some 177)), some (zI 0)] [] (zC 218 [zR (some 177)] (sI g 177 45 v)) = some (.inl (some (zI 1)), h2) ∧ PM h2 I len (advP I len (t, (f, fa), (n, top, R, N), sv R row 3, secE R row, row)) ∧ Fr scrPs h h2 := fun v hv => by
          have P3 := PM_ss P2 v
          obtain ⟨h2, e2, P4, F4⟩ := c_advP P3 (show 0 ≤ t.1 by omega)
          rw [e2, q_M_closes_r131 (PM_K P4)]
          refine ⟨h2, rfl, ?_, Fr_t F2 (Fr_t (Fr_I (Fr_r _ _) rfl) (Fr_m F4 rfl))⟩
          rw [hv]
          exact P4
        by_cases c4 : sv R row 3 = -1
        · rw [if_pos c4]
          exact last1 0 (by unfold secE; rw [if_pos c4])
        · rw [if_neg c4, c_isInSecond (PM_K P2) P2R w (by omega) (by omega) c4, q_M_closes_r116 (PM_K P2)]
          by_cases c5 : inS R row 24 (sv R (sv R row 3) 6) = true
          · rw [if_pos c5, if_neg (by decide)]
            exact last1 1 (by unfold secE; rw [if_neg c4, if_pos c5])
          · rw [if_neg c5, if_pos rfl]
            exact last1 0 (by unfold secE; rw [if_neg c4, if_neg c5])
      · rw [if_neg c3, if_pos rfl]
        exact Or.inl ⟨decide_eq_false c3, rfl⟩
    by_cases k1 : sv R row 0 = 1
    · rw [if_pos k1, if_neg (fun q => c2 ⟨k1, q⟩)]
      exact fin
    · rw [if_neg k1]
      exact fin
theorem TKM_end {t : TK} (T : TKM h I len t) : hI h 177 37 = 0 ↔ t.1 = -2 := by
  obtain ⟨t1, t2, t3, t4, t5, t6⟩ := T
  have := wcode_r I t.2.1 t.2.2
  omega
theorem INV_T (V : INV len s) : TV len s.1 := by
  obtain ⟨t, ⟨f, fa⟩, ⟨n, top, R, N⟩, row, sec, last⟩ := s
  exact V.2.2
theorem l_readsText {x : Int} : ∀ (m : Nat) (s : PSt) (h : zH), PM h I len s → (s.2.1.1 = 0 → INV len s) → TV len s.1 → len - s.1.2.1 ≤ m → ∃ h2, zY 216 84 [some (zR (some 177)), some (zI len), some (zI x)] [] h = some (.inl none, h2) ∧ PM h2 I len (finP (runP I len m s)) ∧ Fr scrPs h h2
  | m, s, h, P, V, T, hm => by
    have K := PM_K P
    have fin : ∃ h2, zY 216 127 [some (zR (some 177)), some (zI len), some (zI x)] [] h = some (.inl none, h2) ∧ PM h2 I len (finP s) ∧ Fr scrPs h h2 := by
      rw [q_M_readsText_127 K, PM_F P]
      have hr : hI h 177 44 = s.2.2.2.1 := by
        obtain ⟨t, ⟨f, fa⟩, ⟨n, top, R, N⟩, row, sec, last⟩ := s
        exact P.2.2.2.2.2.1
      rw [hr]
      unfold finP
      by_cases c : s.2.1.1 = 0
      · rw [if_pos c, if_pos c]
        by_cases d : s.2.2.2.1 = -1
        · rw [if_pos d, if_pos d]
          exact ⟨h, rfl, P, Fr_r _ _⟩
        · rw [if_neg d, if_neg d]
          obtain ⟨h2, e2, P2, F2⟩ := c_errs P 1
          rw [e2, q_M_readsText_r147 (PM_K P2)]
          exact ⟨h2, rfl, P2, Fr_m F2 rfl⟩
      · rw [if_neg c, if_neg c]
        exact ⟨h, rfl, P, Fr_r _ _⟩
    rw [q_M_readsText_84 K, PM_F P]
    by_cases c : s.2.1.1 = 0
    · have V1 := V c
      rw [if_pos c]
      by_cases d : s.1.1 = -2
      · rw [if_pos ((TKM_end (PM_T P)).2 d)]
        have er : runP I len m s = s := by
          cases m with
          | zero => rfl
          | succ m => rw [runP, if_pos c, if_pos d]
        rw [er]
        exact fin
      · rw [if_neg (fun q => d ((TKM_end (PM_T P)).1 q)), c_beginsStatement P, q_M_readsText_r102 K]
        cases m with
        | zero => exact absurd (T.2.2.2 (by omega)) d
        | succ m =>
          have hst := stpP_ok (I := I) V1 c
          rw [runP, if_pos c, if_neg d]
          have nx : ∀ g, PM g I len (stpP I len s) → Fr scrPs h g → ∃ h2, zY 216 84 [some (zR (some 177)), some (zI len), some (zI x)] [] g = some (.inl none, h2) ∧ PM h2 I len (finP (runP I len m (stpP I len s))) ∧ Fr scrPs h h2 := fun g Pg Fg => by
            by_cases e : (stpP I len s).2.1.1 = 0
            · obtain ⟨h3, e3, P3, F3⟩ := l_readsText m (stpP I len s) g Pg (fun q => (hst.2 q).1) hst.1 (by have := (hst.2 e).2; omega)
              exact ⟨h3, e3, P3, Fr_t Fg F3⟩
            · have er : runP I len m (stpP I len s) = stpP I len s := by
                cases m with
                | zero => rfl
                | succ m => rw [runP, if_neg e]
              rw [er, q_M_readsText_84 (PM_K Pg), PM_F Pg, if_neg e, q_M_readsText_127 (PM_K Pg), PM_F Pg, if_neg e]
              unfold finP
              rw [if_neg e]
              exact ⟨g, rfl, Pg, Fg⟩
          unfold stpP at nx ⊢
          by_cases b : 17 ≤ s.1.1 ∧ s.1.1 ≤ 20
          · rw [if_pos b] at nx ⊢
            rw [if_pos b, if_neg (by decide)]
            obtain ⟨h2, e2, P2, F2⟩ := c_readsStatement P V1 c b
            rw [e2, q_M_readsText_r109 (PM_K P2)]
            exact nx h2 P2 F2
          · rw [if_neg b] at nx ⊢
            rw [if_neg b, if_pos rfl, q_M_readsText_112 K]
            rcases c_closes P V1 with ⟨z, e2⟩ | ⟨z, h2, e2, P2, F2⟩
            · rw [z, if_neg (by decide)] at nx ⊢
              rw [e2, q_M_readsText_r116 K, if_pos rfl]
              obtain ⟨h3, e3, P3, F3⟩ := c_errs P 1
              rw [e3, q_M_readsText_r124 (PM_K P3)]
              exact nx h3 P3 (Fr_m F3 rfl)
            · rw [z, if_pos rfl] at nx ⊢
              rw [e2, q_M_readsText_r116 (PM_K P2), if_neg (by decide)]
              exact nx h2 P2 F2
    · rw [if_neg c]
      have er : runP I len m s = s := by
        cases m with
        | zero => rfl
        | succ m => rw [runP, if_neg c]
      rw [er]
      exact fin
end TEXTS
