/-! The reference: a statement comes. -/
section COMES
variable {I : Nat → Int} {len : Int} {h : zH} {t : TK} {f fa n top row sec last : Int} {R N : Nat → Int}
theorem PM_sR (P : PM h I len (t, (f, fa), (n, top, R, N), row, sec, last)) (i : Nat) (v : Int) : PM (sI h 183 i v) I len (t, (f, fa), (n, top, upN R i v, N), row, sec, last) := by
  obtain ⟨K, T, pf, pa, ⟨p1, p2, p3, p4⟩, p5, p6, p7⟩ := P
  have F : Fr [(183, none)] h (sI h 183 i v) := Fr_I (Fr_r _ _) rfl
  exact ⟨KM_f K F rfl, TKM_f T F rfl, (fI F 177 41 rfl).trans pf, fun q => (fI F 177 42 rfl).trans (pa q), ⟨(fI F 177 10 rfl).trans p1, (fI F 177 12 rfl).trans p2, by rw [hI_up, p3], (rI F 179 rfl).trans p4⟩, (fI F 177 44 rfl).trans p5, (fI F 177 45 rfl).trans p6, (fI F 177 46 rfl).trans p7⟩
theorem PM_sN (P : PM h I len (t, (f, fa), (n, top, R, N), row, sec, last)) (i : Nat) (v : Int) : PM (sI h 179 i v) I len (t, (f, fa), (n, top, R, upN N i v), row, sec, last) := by
  obtain ⟨K, T, pf, pa, ⟨p1, p2, p3, p4⟩, p5, p6, p7⟩ := P
  have F : Fr [(179, none)] h (sI h 179 i v) := Fr_I (Fr_r _ _) rfl
  exact ⟨KM_f K F rfl, TKM_f T F rfl, (fI F 177 41 rfl).trans pf, fun q => (fI F 177 42 rfl).trans (pa q), ⟨(fI F 177 10 rfl).trans p1, (fI F 177 12 rfl).trans p2, (rI F 183 rfl).trans p3, by rw [hI_up, p4]⟩, (fI F 177 44 rfl).trans p5, (fI F 177 45 rfl).trans p6, (fI F 177 46 rfl).trans p7⟩
theorem PM_sn (P : PM h I len (t, (f, fa), (n, top, R, N), row, sec, last)) (v : Int) : PM (sI h 177 10 v) I len (t, (f, fa), (v, top, R, N), row, sec, last) := by
  obtain ⟨K, T, pf, pa, ⟨p1, p2, p3, p4⟩, p5, p6, p7⟩ := P
  have F : Fr [(177, some 10)] h (sI h 177 10 v) := Fr_I (Fr_r _ _) rfl
  exact ⟨KM_f K F rfl, TKM_f T F rfl, (fI F 177 41 rfl).trans pf, fun q => (fI F 177 42 rfl).trans (pa q), ⟨rfl, (fI F 177 12 rfl).trans p2, (rI F 183 rfl).trans p3, (rI F 179 rfl).trans p4⟩, (fI F 177 44 rfl).trans p5, (fI F 177 45 rfl).trans p6, (fI F 177 46 rfl).trans p7⟩
theorem PM_st (P : PM h I len (t, (f, fa), (n, top, R, N), row, sec, last)) (v : Int) : PM (sI h 177 12 v) I len (t, (f, fa), (n, v, R, N), row, sec, last) := by
  obtain ⟨K, T, pf, pa, ⟨p1, p2, p3, p4⟩, p5, p6, p7⟩ := P
  have F : Fr [(177, some 12)] h (sI h 177 12 v) := Fr_I (Fr_r _ _) rfl
  exact ⟨KM_f K F rfl, TKM_f T F rfl, (fI F 177 41 rfl).trans pf, fun q => (fI F 177 42 rfl).trans (pa q), ⟨(fI F 177 10 rfl).trans p1, rfl, (rI F 183 rfl).trans p3, (rI F 179 rfl).trans p4⟩, (fI F 177 44 rfl).trans p5, (fI F 177 45 rfl).trans p6, (fI F 177 46 rfl).trans p7⟩
theorem PM_sr (P : PM h I len (t, (f, fa), (n, top, R, N), row, sec, last)) (v : Int) : PM (sI h 177 44 v) I len (t, (f, fa), (n, top, R, N), v, sec, last) := by
  obtain ⟨K, T, pf, pa, ⟨p1, p2, p3, p4⟩, p5, p6, p7⟩ := P
  have F : Fr [(177, some 44)] h (sI h 177 44 v) := Fr_I (Fr_r _ _) rfl
  exact ⟨KM_f K F rfl, TKM_f T F rfl, (fI F 177 41 rfl).trans pf, fun q => (fI F 177 42 rfl).trans (pa q), ⟨(fI F 177 10 rfl).trans p1, (fI F 177 12 rfl).trans p2, (rI F 183 rfl).trans p3, (rI F 179 rfl).trans p4⟩, rfl, (fI F 177 45 rfl).trans p6, (fI F 177 46 rfl).trans p7⟩
theorem PM_ss (P : PM h I len (t, (f, fa), (n, top, R, N), row, sec, last)) (v : Int) : PM (sI h 177 45 v) I len (t, (f, fa), (n, top, R, N), row, v, last) := by
  obtain ⟨K, T, pf, pa, ⟨p1, p2, p3, p4⟩, p5, p6, p7⟩ := P
  have F : Fr [(177, some 45)] h (sI h 177 45 v) := Fr_I (Fr_r _ _) rfl
  exact ⟨KM_f K F rfl, TKM_f T F rfl, (fI F 177 41 rfl).trans pf, fun q => (fI F 177 42 rfl).trans (pa q), ⟨(fI F 177 10 rfl).trans p1, (fI F 177 12 rfl).trans p2, (rI F 183 rfl).trans p3, (rI F 179 rfl).trans p4⟩, (fI F 177 44 rfl).trans p5, rfl, (fI F 177 46 rfl).trans p7⟩
theorem PM_sl (P : PM h I len (t, (f, fa), (n, top, R, N), row, sec, last)) (v : Int) : PM (sI h 177 46 v) I len (t, (f, fa), (n, top, R, N), row, sec, v) := by
  obtain ⟨K, T, pf, pa, ⟨p1, p2, p3, p4⟩, p5, p6, p7⟩ := P
  have F : Fr [(177, some 46)] h (sI h 177 46 v) := Fr_I (Fr_r _ _) rfl
  exact ⟨KM_f K F rfl, TKM_f T F rfl, (fI F 177 41 rfl).trans pf, fun q => (fI F 177 42 rfl).trans (pa q), ⟨(fI F 177 10 rfl).trans p1, (fI F 177 12 rfl).trans p2, (rI F 183 rfl).trans p3, (rI F 179 rfl).trans p4⟩, (fI F 177 44 rfl).trans p5, (fI F 177 45 rfl).trans p6, rfl⟩
theorem IVR_b (V : IVR n top R row sec last) {s : Int} (h0 : 0 ≤ s) (h1 : s < n) : (0 ≤ sv R s 2 ∧ sv R s 2 ≤ 24) ∧ (0 ≤ sv R s 8 ∧ sv R s 8 ≤ 24) ∧ (0 ≤ sv R s 9 ∧ sv R s 9 ≤ 24) := by
  obtain ⟨w, u, ht, hrow, hsec, hlast, h6, hop, hdj, hall⟩ := V
  have w0 := w.1
  have hd : ∀ (m : Nat) (s : Int), 0 ≤ s → s < m → s < n → 0 ≤ sv R s 2 ∧ sv R s 2 ≤ s := fun m => by
    induction m with
    | zero => intro s a b c; omega
    | succ m ih =>
      intro s a b c
      have a1 := (hall s a c).1
      have w1 := (w.2.1 s a c).2.2.1
      by_cases z : sv R s 3 = -1
      · rw [if_pos z] at a1; omega
      · rw [if_neg z] at a1
        have := ih (sv R s 3) (by omega) (by omega) (by omega)
        omega
  have h2 := hd (s.toNat + 1) s h0 (by omega) h1
  obtain ⟨_, c5, c6, _⟩ := hall s h0 h1
  have w1 := w.2.1 s h0 h1
  have b5 := CL_24 w (by have := w1.2.2.2.2.1; omega) c5
  have b6 := CL_24 w (by have := w1.2.2.2.2.2; omega) c6
  have := c5.1
  have := c6.1
  omega
theorem c_comes (P : PM h I len (t, (f, fa), (n, top, R, N), row, sec, last)) (V : IVR n top R row sec last) (h24 : n < 24) {kd : Int} : ∃ h2, zC 205 [zR (some 177), zI kd] h = some (.inl (some (zI n)), h2) ∧ PM h2 I len (comP kd (t, (f, fa), (n, top, R, N), row, sec, last)) ∧ Fr scrPs h h2 := by
  have w0 := V.1.1
  have hb := fun s (a : 0 ≤ s) (b : s < n) => IVR_b V a b
  obtain ⟨_, _, _, hrow, hsec, hlast, _⟩ := V
  have hrow2 : row = -1 ∨ 0 ≤ row ∧ row < n := by omega
  have hlast2 : last = -1 ∨ 0 ≤ last ∧ last < n := by omega
  have hsec2 : sec = 0 ∨ sec = 1 := by omega
  have E := comR_new (kd := kd) (R := R) w0.1 hrow2 hlast2 hsec2
  have pn : ∀ {g : zH} {R' N' : Nat → Int} {n' top' last' : Int}, PM g I len (t, (f, fa), (n', top', R', N'), row, sec, last') → hI g 177 10 = n' ∧ hI g 177 44 = row ∧ hI g 177 45 = sec ∧ hI g 177 46 = last' ∧ hI g 183 = R' := fun P => ⟨P.2.2.2.2.1.1, P.2.2.2.2.2.1, P.2.2.2.2.2.2.1, P.2.2.2.2.2.2.2, P.2.2.2.2.1.2.2.1⟩
  have hmo : f_M_manyOf h kd = cntK R kd n.toNat := by
    unfold f_M_manyOf cntK
    rw [(pn P).1]
    simp only [f_M_s_e, (pn P).2.2.2.2]
  have ent : zC 205 [zR (some 177), zI kd] h = zY 205 38 [some (zR (some 177)), some (zI kd), some (zI n), some (zI (10 * n))] [] (sI h 183 (10 * n + 7).toNat (numR kd n R)) := by
    have hq := q_M_comes (h := h) (x1 := kd) (PM_K P) (g0 := fun _ _ _ => by rw [(pn P).1]; omega) (g1 := fun _ _ _ _ => by rw [(pn P).1]; omega)
    rw [hmo, (pn P).1, gd_t (by omega), gd_t (by omega)] at hq
    rw [hq]
    unfold numR
    by_cases c2 : kd = 2
    · rw [if_pos c2, if_pos (Or.inl c2), gd_t (by omega)]
    rw [if_neg c2]
    by_cases c3 : kd = 3
    · rw [if_pos c3, if_pos (Or.inr c3), gd_t (by omega)]
    rw [if_neg c3, if_neg (by omega), gd_t (by omega)]
  rw [ent]
  have P1 := PM_sR P (10 * n + 7).toNat (numR kd n R)
  have P2 := PM_sn P1 (n + 1)
  rw [q_M_comes_38 (PM_K P1), (pn P1).1, gd_t (by omega)]
  have P3 := PM_sR P2 (10 * n + 0).toNat kd
  rw [q_M_comes_48 (PM_K P2), gd_t (by omega), gd_t (by omega)]
  have P4 := PM_sR P3 (10 * n + 1).toNat (-1)
  rw [q_M_comes_57 (PM_K P3), gd_t (by omega), gd_t (by omega)]
  have e4 : upN (upN (upN R (10 * n + 7).toNat (numR kd n R)) (10 * n + 0).toNat kd) (10 * n + 1).toNat (-1) = rw1R kd n R := rfl
  rw [e4] at P4
  have P5 := PM_sR P4 (10 * n + 2).toNat (dpR row (rw1R kd n R))
  have F4 : Fr scrPs h (sI (sI (sI (sI h 183 (10 * n + 7).toNat (numR kd n R)) 177 10 (n + 1)) 183 (10 * n + 0).toNat kd) 183 (10 * n + 1).toNat (-1)) := Fr_I (Fr_I (Fr_I (Fr_I (Fr_r _ _) rfl) rfl) rfl) rfl
  generalize sI (sI (sI (sI h 183 (10 * n + 7).toNat (numR kd n R)) 177 10 (n + 1)) 183 (10 * n + 0).toNat kd) 183 (10 * n + 1).toNat (-1) = h4 at *
  have hd1 : row ≠ -1 → sv (rw1R kd n R) row 2 = sv R row 2 := fun r => by
    unfold rw1R
    rw [sv_up (by omega) (by omega) (by omega) (by omega), if_neg (by omega), sv_up (by omega) (by omega) (by omega) (by omega), if_neg (by omega), sv_up (by omega) (by omega) (by omega) (by omega), if_neg (by omega)]
  have st66 : zY 205 66 [some (zR (some 177)), some (zI kd), some (zI n), some (zI (10 * n))] [] h4 = zY 205 97 [some (zR (some 177)), some (zI kd), some (zI n), some (zI (10 * n))] [] (sI h4 183 (10 * n + 2).toNat (dpR row (rw1R kd n R))) := by
    have g4 := pn P4
    rw [q_M_comes_66 (PM_K P4) (g0 := fun _ r => by rw [g4.2.1] at r ⊢; omega), g4.2.1, gd_t (by omega)]
    unfold dpR
    by_cases r : row = -1
    · rw [if_pos r, if_pos r, gd_t (by omega)]
    · have := (hb row (by omega) (by omega)).1
      have e5 : f_M_s h4 row 2 = sv (rw1R kd n R) row 2 := by rw [f_M_s_e, g4.2.2.2.2]
      rw [if_neg r, if_neg r, e5, gd_t (by rw [hd1 r]; omega), gd_t (by omega)]
  rw [st66]
  have P6 := PM_sR P5 (10 * n + 3).toNat row
  rw [q_M_comes_97 (PM_K P5), (pn P5).2.1, gd_t (by omega), gd_t (by omega)]
  have P7 := PM_sR P6 (10 * n + 4).toNat (-1)
  rw [q_M_comes_109 (PM_K P6), gd_t (by omega), gd_t (by omega)]
  have P8 := PM_sR P7 (10 * n + 5).toNat (-1)
  rw [q_M_comes_118 (PM_K P7), gd_t (by omega), gd_t (by omega)]
  have P9 := PM_sR P8 (10 * n + 6).toNat (-1)
  rw [q_M_comes_127 (PM_K P8), gd_t (by omega), gd_t (by omega)]
  have P10 := PM_sR P9 (10 * n + 8).toNat 0
  rw [q_M_comes_137 (PM_K P9), gd_t (by omega), gd_t (by omega)]
  have P11 := PM_sR P10 (10 * n + 9).toNat 0
  rw [q_M_comes_147 (PM_K P10), gd_t (by omega), gd_t (by omega)]
  have e11 : upN (upN (upN (upN (upN (upN (upN (rw1R kd n R) (10 * n + 2).toNat (dpR row (rw1R kd n R))) (10 * n + 3).toNat row) (10 * n + 4).toNat (-1)) (10 * n + 5).toNat (-1)) (10 * n + 6).toNat (-1)) (10 * n + 8).toNat 0) (10 * n + 9).toNat 0 = rw2R n row (rw1R kd n R) := rfl
  rw [e11] at P11
  have F11 : Fr scrPs h (sI (sI (sI (sI (sI (sI (sI h4 183 (10 * n + 2).toNat (dpR row (rw1R kd n R))) 183 (10 * n + 3).toNat row) 183 (10 * n + 4).toNat (-1)) 183 (10 * n + 5).toNat (-1)) 183 (10 * n + 6).toNat (-1)) 183 (10 * n + 8).toNat 0) 183 (10 * n + 9).toNat 0) := Fr_I (Fr_I (Fr_I (Fr_I (Fr_I (Fr_I (Fr_I F4 rfl) rfl) rfl) rfl) rfl) rfl) rfl
  generalize sI (sI (sI (sI (sI (sI (sI h4 183 (10 * n + 2).toNat (dpR row (rw1R kd n R))) 183 (10 * n + 3).toNat row) 183 (10 * n + 4).toNat (-1)) 183 (10 * n + 5).toNat (-1)) 183 (10 * n + 6).toNat (-1)) 183 (10 * n + 8).toNat 0) 183 (10 * n + 9).toNat 0 = h11 at *
  have st157 : ∃ h12, zY 205 157 [some (zR (some 177)), some (zI kd), some (zI n), some (zI (10 * n))] [] h11 = zY 205 226 [some (zR (some 177)), some (zI kd), some (zI n), some (zI (10 * n))] [] h12 ∧ PM h12 I len (t, (f, fa), (n + 1, if last = -1 ∧ row = -1 then n else top, lnkR n row sec last (rw2R n row (rw1R kd n R)), N), row, sec, last) ∧ Fr scrPs h h12 := by
    have g := pn P11
    rw [q_M_comes_157 (PM_K P11), g.2.1, g.2.2.1, g.2.2.2.1]
    unfold lnkR
    by_cases q1 : last = -1
    · rw [if_pos q1, if_pos q1]
      by_cases q2 : row = -1
      · rw [if_pos q2, if_pos q2, if_pos ⟨q1, q2⟩]
        exact ⟨_, rfl, PM_st P11 n, Fr_I F11 rfl⟩
      · rw [if_neg q2, if_neg q2, if_neg (show ¬ (last = -1 ∧ row = -1) from fun z => q2 z.2), gd_t (by omega)]
        by_cases q3 : sec = 0
        · rw [if_pos q3, if_pos q3, gd_t (by omega), gd_t (by omega)]
          exact ⟨_, rfl, PM_sR P11 _ n, Fr_I F11 rfl⟩
        · rw [if_neg q3, if_neg q3, gd_t (by omega), gd_t (by omega)]
          exact ⟨_, rfl, PM_sR P11 _ n, Fr_I F11 rfl⟩
    · rw [if_neg q1, if_neg q1, if_neg (fun z => q1 z.1), gd_t (by omega), gd_t (by omega), gd_t (by omega)]
      exact ⟨_, rfl, PM_sR P11 _ n, Fr_I F11 rfl⟩
  obtain ⟨h12, e12, P12, F12⟩ := st157
  rw [e12]
  have st226 : ∃ h13, zY 205 226 [some (zR (some 177)), some (zI kd), some (zI n), some (zI (10 * n))] [] h12 = zY 205 265 [some (zR (some 177)), some (zI kd), some (zI n), some (zI (10 * n))] [] h13 ∧ PM h13 I len (t, (f, fa), (n + 1, if last = -1 ∧ row = -1 then n else top, comR kd n row sec last R, N), row, sec, last) ∧ Fr scrPs h h13 := by
    have g := pn P12
    rw [q_M_comes_226 (PM_K P12), g.2.1, g.2.2.1, g.2.2.2.2]
    have E8 : row ≠ -1 → sv (comR kd n row sec last R) row (8 + sec) = sv R row (8 + sec) + 1 := fun q => by
      rw [E.1 row (8 + sec) (by omega) (by omega) (by omega) (by omega), if_neg (fun z => by have := z.2.2; omega), if_neg (fun z => by have := z.2.2.2; omega), if_pos ⟨q, rfl, rfl⟩]
    unfold comR cnuR at E8 ⊢
    generalize lnkR n row sec last (rw2R n row (rw1R kd n R)) = L at *
    by_cases q2 : row = -1
    · rw [if_pos q2, if_pos q2]
      exact ⟨h12, rfl, P12, F12⟩
    · have E9 := E8 q2
      have hbb := hb row (by omega) (by omega)
      rw [if_neg q2] at E9
      rw [if_neg q2, if_neg q2, gd_t (by omega)]
      by_cases q3 : sec = 0
      · rw [if_pos q3, q3, sv_up (by omega) (by omega) (by omega) (by omega), if_pos ⟨rfl, rfl⟩] at E9
        have E10 : sv R row (8 + 0) = sv R row 8 := rfl
        rw [if_pos q3, if_pos q3, gd_t (by omega), gd_t (by omega), gd_t (by omega)]
        exact ⟨_, rfl, PM_sR P12 _ _, Fr_I F12 rfl⟩
      · have q4 : sec = 1 := by omega
        rw [if_neg q3, q4, sv_up (by omega) (by omega) (by omega) (by omega), if_pos ⟨rfl, rfl⟩] at E9
        have E10 : sv R row (8 + 1) = sv R row 9 := rfl
        rw [if_neg q3, if_neg q3, gd_t (by omega), gd_t (by omega), gd_t (by omega)]
        exact ⟨_, rfl, PM_sR P12 _ _, Fr_I F12 rfl⟩
  obtain ⟨h13, e13, P13, F13⟩ := st226
  rw [e13]
  have P14 := PM_sN P13 (2294 + n).toNat (-1)
  have P15 := PM_sN P14 (2318 + n).toNat 10
  have P16 := PM_sl P15 n
  rw [q_M_comes_265 (PM_K P13), gd_t (by omega), gd_t (by omega), q_M_comes_276 (PM_K P14), gd_t (by omega), gd_t (by omega), q_M_comes_288 (PM_K P15)]
  exact ⟨_, rfl, P16, Fr_I (Fr_I (Fr_I F13 rfl) rfl) rfl⟩
end COMES
