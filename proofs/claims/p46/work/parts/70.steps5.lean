/-! The reading of a text, as steps: what stands behind each. -/
section STEPS5
variable {I : Nat → Int} {len : Int}
theorem setP_ok {s : PSt} (V : INV len s) (hf : s.2.1.1 = 0) (hn : s.2.2.1.1 ≠ 24) (ht : 0 ≤ s.1.1) : TV len (setP I len s).1 ∧ ((setP I len s).2.1.1 = 0 → INV len (setP I len s) ∧ s.1.2.1 < (setP I len s).1.2.1) := by
  obtain ⟨t, ⟨f, fa⟩, ⟨n, top, R, N⟩, row, sec, last⟩ := s
  obtain ⟨V1, V2, T⟩ := V
  have hf : f = 0 := hf
  have hn : n ≠ 24 := hn
  have ht : 0 ≤ t.1 := ht
  subst hf
  have w0 := V1.1.1
  have htop := IVR_top V1
  have hrl := V1
  obtain ⟨_, _, _, hrow, hsec, hlast, _⟩ := hrl
  have E := comR_new (kd := 0) (R := R) (n := n) (row := row) (sec := sec) (last := last) w0.1 (by omega) (by omega) (by omega)
  have Ta := tok_TV (I := I) (len := len) (b := true) (e := t.2.2) (by have := T.1; omega) (by have := T.1; omega)
  have hpos := T.2.1 ht
  unfold setP
  simp only [comP, advP, htop]
  generalize hta : tok I len true t.2.2 = ta at *
  by_cases c : 4 ≤ ta.1 ∧ ta.1 ≤ 6
  · rw [if_pos c]
    simp only [varP]
    have Tb := tok_TV (I := I) (len := len) (b := true) (e := ta.2.2) (by have := Ta.1.1; omega) (by have := Ta.1.1; omega)
    have hpa := Ta.1.2.1 (by omega)
    generalize tok I len true ta.2.2 = tb at *
    obtain ⟨k1, k2⟩ := forP_ok (I := I) (len := len) (q := 2 + n) (what := 0) (s := (tb, (0, fa), (n + 1, 0, upN (comR 0 n row sec last R) (10 * n + 1).toNat (ta.1 - 4), comN n N), row, sec, n)) rfl Tb.1
    generalize forP I len (2 + n) 0 (tb, (0, fa), (n + 1, 0, upN (comR 0 n row sec last R) (10 * n + 1).toNat (ta.1 - 4), comN n N), row, sec, n) = s5 at *
    obtain ⟨t5, ⟨f5, fa5⟩, ⟨n5, top5, R5, N5⟩, row5, sec5, last5⟩ := s5
    obtain ⟨c1, c2, c3, c4, c5, c6, c7⟩ := k1
    simp only at c1 c2 c3 c4 c5 c6 c7 k2 ⊢
    refine ⟨c6, fun q => ?_⟩
    have k3 := k2 q
    obtain ⟨rfl, rfl, rfl⟩ : row5 = row ∧ sec5 = sec ∧ last5 = n := by
      have h1 := congrArg Prod.fst c4
      have h2 := congrArg (fun z => z.2.1) c4
      have h3 := congrArg (fun z => z.2.2) c4
      exact ⟨h1, h2, h3⟩
    subst c1 c2 c3
    have E2 := newR_var (v2 := ta.1 - 4) w0.1 E
    refine ⟨⟨IVR_new V1 E2 (by omega) (by omega) (fun _ => by omega), WN_new w0.1 (by omega) (by omega) V2 E2 (by omega) (fun i x _ _ y z => by rw [c5 i x, comN_o y z]) (fun _ => k3) (fun q => absurd q (by decide)) (fun q => absurd q (by decide)) ?_ ?_, c6⟩, by omega⟩
    · rw [c5 _ (by omega)]; exact (comN_f w0.1).1
    · rw [c5 _ (by omega)]; exact (comN_f w0.1).2
  · rw [if_neg c]
    refine ⟨?_, fun q => absurd q (errP_f (by decide) _)⟩
    exact Ta.1
theorem iffP_ok {s : PSt} (V : INV len s) (hf : s.2.1.1 = 0) (hn : s.2.2.1.1 ≠ 24) (ht : 0 ≤ s.1.1) : TV len (iffP I len s).1 ∧ ((iffP I len s).2.1.1 = 0 → INV len (iffP I len s) ∧ s.1.2.1 < (iffP I len s).1.2.1) := by
  obtain ⟨t, ⟨f, fa⟩, ⟨n, top, R, N⟩, row, sec, last⟩ := s
  obtain ⟨V1, V2, T⟩ := V
  have hf : f = 0 := hf
  have hn : n ≠ 24 := hn
  have ht : 0 ≤ t.1 := ht
  subst hf
  have w0 := V1.1.1
  have htop := IVR_top V1
  have hrl := V1
  obtain ⟨_, _, _, hrow, hsec, hlast, _⟩ := hrl
  have E := comR_new (kd := 1) (R := R) (n := n) (row := row) (sec := sec) (last := last) w0.1 (by omega) (by omega) (by omega)
  have Ta := tok_TV (I := I) (len := len) (b := true) (e := t.2.2) (by have := T.1; omega) (by have := T.1; omega)
  have hpos := T.2.1 ht
  unfold iffP
  simp only [comP, advP, htop]
  generalize hta : tok I len true t.2.2 = ta at *
  obtain ⟨k1, k2⟩ := forP_ok (I := I) (len := len) (q := 2 + n) (what := 1) (s := (ta, (0, fa), (n + 1, 0, comR 1 n row sec last R, comN n N), row, sec, n)) rfl Ta.1
  generalize forP I len (2 + n) 1 (ta, (0, fa), (n + 1, 0, comR 1 n row sec last R, comN n N), row, sec, n) = s5 at *
  obtain ⟨t5, ⟨f5, fa5⟩, ⟨n5, top5, R5, N5⟩, row5, sec5, last5⟩ := s5
  obtain ⟨c1, c2, c3, c4, c5, c6, c7⟩ := k1
  simp only [opnP] at c1 c2 c3 c4 c5 c6 c7 k2 ⊢
  refine ⟨c6, fun q => ?_⟩
  have k3 := k2 q
  subst c1 c2 c3
  have V3 := IVR_new V1 E (by omega) (by omega) (fun q => absurd q (by decide))
  refine ⟨⟨IVR_open V3 (by omega) (Or.inl ?_) ?_ ?_, WN_new w0.1 (by omega) (by omega) V2 E (by omega) (fun i x _ _ y z => by rw [c5 i x, comN_o y z]) (fun q => absurd q (by decide)) (fun _ => k3) (fun q => absurd q (by decide)) ?_ ?_, c6⟩, by omega⟩
  · rw [E.2 0 (by omega) (by omega)]; rfl
  · rw [E.2 5 (by omega) (by omega)]; rfl
  · rw [E.2 6 (by omega) (by omega)]; rfl
  · rw [c5 _ (by omega)]; exact (comN_f w0.1).1
  · rw [c5 _ (by omega)]; exact (comN_f w0.1).2
theorem whlP_ok {s : PSt} (V : INV len s) (hf : s.2.1.1 = 0) (hn : s.2.2.1.1 ≠ 24) (ht : 0 ≤ s.1.1) : TV len (whlP I len s).1 ∧ ((whlP I len s).2.1.1 = 0 → INV len (whlP I len s) ∧ s.1.2.1 < (whlP I len s).1.2.1) := by
  obtain ⟨t, ⟨f, fa⟩, ⟨n, top, R, N⟩, row, sec, last⟩ := s
  obtain ⟨V1, V2, T⟩ := V
  have hf : f = 0 := hf
  have hn : n ≠ 24 := hn
  have ht : 0 ≤ t.1 := ht
  subst hf
  have w0 := V1.1.1
  have htop := IVR_top V1
  have hrl := V1
  obtain ⟨_, _, _, hrow, hsec, hlast, _⟩ := hrl
  have E := comR_new (kd := 2) (R := R) (n := n) (row := row) (sec := sec) (last := last) w0.1 (by omega) (by omega) (by omega)
  have Ta := tok_TV (I := I) (len := len) (b := true) (e := t.2.2) (by have := T.1; omega) (by have := T.1; omega)
  have hpos := T.2.1 ht
  unfold whlP
  simp only [comP, advP, htop]
  generalize hta : tok I len true t.2.2 = ta at *
  obtain ⟨k1, k2⟩ := forP_ok (I := I) (len := len) (q := 2 + n) (what := 1) (s := (ta, (0, fa), (n + 1, 0, comR 2 n row sec last R, comN n N), row, sec, n)) rfl Ta.1
  generalize hs3 : forP I len (2 + n) 1 (ta, (0, fa), (n + 1, 0, comR 2 n row sec last R, comN n N), row, sec, n) = s3 at *
  have K4 := kep_tak (I := I) (b := (31 * (26 + n)).toNat) (w := 23) k1.2.2.2.2.2.1
  have K5 := forF_ok (I := I) (q := 26 + n) (what := 1) K4.2.2.2.2.2.1
  have K6 := kep_tak (I := I) (b := (31 * (50 + n)).toNat) (w := 24) K5.1.2.2.2.2.2.1
  have K7 := forF_ok (I := I) (q := 50 + n) (what := 0) K6.2.2.2.2.2.1
  have f4 := fun h => takP_f (I := I) (len := len) (w := 23) (s := s3) h
  have f6 := fun h => takP_f (I := I) (len := len) (w := 24) (s := forF I len (26 + n) 1 (takP I len 23 s3)) h
  have q4 : (takP I len 23 s3).2.2.1.2.2.2 = s3.2.2.1.2.2.2 := by
    have := kep_tak (I := I) (b := 0) (w := 23) (s := s3) k1.2.2.2.2.2.1
    have h2 := kep_tak (I := I) (b := 100) (w := 23) (s := s3) k1.2.2.2.2.2.1
    funext i
    by_cases z : i < 100
    · exact h2.2.2.2.2.1 i (Or.inl z)
    · exact this.2.2.2.2.1 i (Or.inr (by omega))
  have q6 : (takP I len 24 (forF I len (26 + n) 1 (takP I len 23 s3))).2.2.1.2.2.2 = (forF I len (26 + n) 1 (takP I len 23 s3)).2.2.1.2.2.2 := by
    have := kep_tak (I := I) (b := 0) (w := 24) (s := forF I len (26 + n) 1 (takP I len 23 s3)) K5.1.2.2.2.2.2.1
    have h2 := kep_tak (I := I) (b := 100) (w := 24) (s := forF I len (26 + n) 1 (takP I len 23 s3)) K5.1.2.2.2.2.2.1
    funext i
    by_cases z : i < 100
    · exact h2.2.2.2.2.1 i (Or.inl z)
    · exact this.2.2.2.2.1 i (Or.inr (by omega))
  generalize takP I len 23 s3 = s4 at *
  generalize forF I len (26 + n) 1 s4 = s5 at *
  generalize takP I len 24 s5 = s6 at *
  generalize forF I len (50 + n) 0 s6 = s7 at *
  obtain ⟨t7, ⟨f7, fa7⟩, ⟨n7, top7, R7, N7⟩, row7, sec7, last7⟩ := s7
  obtain ⟨a1, a2, a3, a4, a5, a6, a7⟩ := k1
  obtain ⟨b1, b2, b3, b4, b5, b6, b7⟩ := K4
  obtain ⟨⟨c1, c2, c3, c4, c5, c6, c7⟩, c8⟩ := K5
  obtain ⟨d1, d2, d3, d4, d5, d6, d7⟩ := K6
  obtain ⟨⟨e1, e2, e3, e4, e5, e6, e7⟩, e8⟩ := K7
  simp only [opnP] at *
  refine ⟨e6, fun q => ?_⟩
  have e9 := e8 q
  have f6' := f6 e9.1
  have c9 := c8 f6'.1
  have f4' := f4 c9.1
  have k3 := k2 f4'.1
  have hn7 : n7 = n + 1 := by rw [e1, d1, c1, b1, a1]
  have ht7 : top7 = 0 := by rw [e2, d2, c2, b2, a2]
  have hR7 : R7 = comR 2 n row sec last R := by rw [e3, d3, c3, b3, a3]
  subst hn7 ht7 hR7
  have hN : ∀ i : Nat, (i < (31 * (2 + n)).toNat ∨ (31 * (2 + n)).toNat + 31 ≤ i) → (i < (31 * (26 + n)).toNat ∨ (31 * (26 + n)).toNat + 31 ≤ i) → (i < (31 * (50 + n)).toNat ∨ (31 * (50 + n)).toNat + 31 ≤ i) → N7 i = comN n N i := fun i x y z => by
    rw [e5 i z, q6, c5 i y, q4, a5 i x]
  have V3 := IVR_new V1 E (by omega) (by omega) (fun q => absurd q (by decide))
  have m1 : fmOk N7 (2 + n) true := fmOk_congr (fun i x y => by rw [e5 i (by omega), q6, c5 i (by omega), q4]) k3
  have m2 : fmOk N7 (26 + n) true := fmOk_congr (fun i x y => by rw [e5 i (by omega), q6]) c9.2
  refine ⟨⟨IVR_open V3 (by omega) (Or.inr ?_) ?_ ?_, WN_new w0.1 (by omega) (by omega) V2 E (by omega) (fun i x x2 x3 y z => by rw [hN i x x2 x3, comN_o y z]) (fun q => absurd q (by decide)) (fun q => absurd q (by decide)) (fun _ => ⟨m1, m2, e9.2⟩) ?_ ?_, e6⟩, by omega⟩
  · rw [E.2 0 (by omega) (by omega)]; rfl
  · rw [E.2 5 (by omega) (by omega)]; rfl
  · rw [E.2 6 (by omega) (by omega)]; rfl
  · rw [hN _ (by omega) (by omega) (by omega)]; exact (comN_f w0.1).1
  · rw [hN _ (by omega) (by omega) (by omega)]; exact (comN_f w0.1).2
theorem holP_ok {s : PSt} (V : INV len s) (hf : s.2.1.1 = 0) (hn : s.2.2.1.1 ≠ 24) (ht : 0 ≤ s.1.1) : INV len (advP I len (comP 3 s)) ∧ s.1.2.1 < (advP I len (comP 3 s)).1.2.1 := by
  obtain ⟨t, ⟨f, fa⟩, ⟨n, top, R, N⟩, row, sec, last⟩ := s
  obtain ⟨V1, V2, T⟩ := V
  have hf : f = 0 := hf
  have hn : n ≠ 24 := hn
  have ht : 0 ≤ t.1 := ht
  subst hf
  have w0 := V1.1.1
  have htop := IVR_top V1
  have hrl := V1
  obtain ⟨_, _, _, hrow, hsec, hlast, _⟩ := hrl
  have E := comR_new (kd := 3) (R := R) (n := n) (row := row) (sec := sec) (last := last) w0.1 (by omega) (by omega) (by omega)
  have Ta := tok_TV (I := I) (len := len) (b := true) (e := t.2.2) (by have := T.1; omega) (by have := T.1; omega)
  have hpos := T.2.1 ht
  simp only [comP, advP, htop]
  generalize hta : tok I len true t.2.2 = ta at *
  exact ⟨⟨IVR_new V1 E (by omega) (by omega) (fun q => absurd q (by decide)), WN_new w0.1 (by omega) (by omega) V2 E (by omega) (fun i _ _ _ y z => comN_o y z) (fun q => absurd q (by decide)) (fun q => absurd q (by decide)) (fun q => absurd q (by decide)) (comN_f w0.1).1 (comN_f w0.1).2, Ta.1⟩, by omega⟩
theorem TV_err {s : PSt} (T : TV len s.1) (c : Int) : TV len (errP c s).1 := (kep_err (b := 0) T c).2.2.2.2.2.1
/-- one step more of a text without error so far -/
theorem stpP_ok {s : PSt} (V : INV len s) (hf : s.2.1.1 = 0) : TV len (stpP I len s).1 ∧ ((stpP I len s).2.1.1 = 0 → INV len (stpP I len s) ∧ s.1.2.1 < (stpP I len s).1.2.1) := by
  have T : TV len s.1 := by
    obtain ⟨t, ⟨f, fa⟩, ⟨n, top, R, N⟩, row, sec, last⟩ := s
    exact V.2.2
  unfold stpP
  by_cases c : 17 ≤ s.1.1 ∧ s.1.1 ≤ 20
  · rw [if_pos c]
    unfold stmP
    by_cases h24 : s.2.2.1.1 = 24
    · rw [if_pos h24]
      exact ⟨TV_err T 3, fun q => absurd q (errP_f (by decide) _)⟩
    rw [if_neg h24]
    by_cases c17 : s.1.1 = 17
    · rw [if_pos c17]; exact setP_ok V hf h24 (by omega)
    rw [if_neg c17]
    by_cases c18 : s.1.1 = 18
    · rw [if_pos c18]; exact iffP_ok V hf h24 (by omega)
    rw [if_neg c18]
    by_cases c19 : s.1.1 = 19
    · rw [if_pos c19]; exact whlP_ok V hf h24 (by omega)
    rw [if_neg c19]
    have h := holP_ok (I := I) V hf h24 (by omega)
    refine ⟨?_, fun _ => h⟩
    have h2 := h.1
    generalize advP I len (comP 3 s) = s2 at *
    obtain ⟨t, ⟨f, fa⟩, ⟨n, top, R, N⟩, row, sec, last⟩ := s2
    exact h2.2.2
  · rw [if_neg c]
    by_cases d : clB s = true
    · rw [if_pos d]
      obtain ⟨t, ⟨f, fa⟩, ⟨n, top, R, N⟩, row, sec, last⟩ := s
      obtain ⟨V1, V2, T2⟩ := V
      have T9 : TV len t := T2
      have hf : f = 0 := hf
      subst hf
      simp only [clB, Bool.and_eq_true, decide_eq_true_eq] at d
      obtain ⟨d1, d2⟩ := d
      have ht : 0 ≤ t.1 := by
        by_cases z : sv R row 0 = 1 ∧ sec = 0
        · rw [if_pos z, decide_eq_true_eq] at d2; omega
        · rw [if_neg z, decide_eq_true_eq] at d2; omega
      have Ta := tok_TV (I := I) (len := len) (b := true) (e := t.2.2) (by have := T9.1; omega) (by have := T9.1; omega)
      have hpos := T9.2.1 ht
      simp only [cltP]
      by_cases z : sv R row 0 = 1 ∧ sec = 0
      · rw [if_pos z]
        exact ⟨Ta.1, fun _ => ⟨⟨IVR_else V1 d1 z.1 z.2, V2, Ta.1⟩, (by simp only [advP]; omega)⟩⟩
      · rw [if_neg z]
        exact ⟨Ta.1, fun _ => ⟨⟨IVR_end V1 d1, V2, Ta.1⟩, (by simp only [advP]; omega)⟩⟩
    · rw [if_neg d]
      exact ⟨TV_err T 1, fun q => absurd q (errP_f (by decide) _)⟩
/-- the end is reached in as many steps as there are bytes -/
theorem runP_ok : ∀ (m : Nat) (s : PSt), (s.2.1.1 = 0 → INV len s) → TV len s.1 → len - s.1.2.1 ≤ m → ((runP I len m s).2.1.1 = 0 → INV len (runP I len m s) ∧ (runP I len m s).1.1 = -2)
  | 0, s, V, T, hm => fun q => ⟨V q, T.2.2.2 (by omega)⟩
  | m + 1, s, V, T, hm => by
    rw [runP]
    by_cases c : s.2.1.1 = 0
    · rw [if_pos c]
      by_cases d : s.1.1 = -2
      · rw [if_pos d]
        exact fun q => ⟨V c, d⟩
      · rw [if_neg d]
        have h := stpP_ok (I := I) (V c) c
        by_cases g : (stpP I len s).2.1.1 = 0
        · have h2 := h.2 g
          exact runP_ok m _ (fun _ => h2.1) h.1 (by omega)
        · intro q
          exfalso
          cases m with
          | zero => exact g q
          | succ m =>
            rw [runP, if_neg g] at q
            exact g q
    · rw [if_neg c]
      exact fun q => absurd q c
end STEPS5

