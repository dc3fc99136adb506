/-! The class: words of rows. -/
section CROW
variable {I : Nat → Int} {len : Int} {h h2 : zH} {p v lo : Nat} {n top row sec last : Int} {R N : Nat → Int}
theorem CRo_kind (C : CRo h p v n R) {s : Int} (h0 : 0 ≤ s) (h1 : s < n) : f_P_kindOf h p s = sv R s 0 := by
  unfold f_P_kindOf
  rw [if_pos ((CRo_has C s).2 ⟨h0, h1⟩)]
  exact (C.2.2.2.2.1 s h0 h1).1.1
theorem CRo_kind_no (C : CRo h p v n R) {s : Int} (h0 : ¬ (0 ≤ s ∧ s < n)) : f_P_kindOf h p s = -1 := by
  unfold f_P_kindOf
  rw [if_neg (fun z => h0 ((CRo_has C s).1 z))]
theorem CRo_parent (C : CRo h p v n R) {s : Int} (h0 : 0 ≤ s) (h1 : s < n) : f_P_parentOf h p s = sv R s 3 := by
  unfold f_P_parentOf
  rw [if_pos ((CRo_has C s).2 ⟨h0, h1⟩)]
  exact (C.2.2.2.2.1 s h0 h1).1.2.2.1
theorem CRo_second (C : CRo h p v n R) {s : Int} (h0 : 0 ≤ s) (h1 : s < n) : f_P_secondOf h p s = sv R s 6 := by
  unfold f_P_secondOf
  rw [if_pos ((CRo_has C s).2 ⟨h0, h1⟩)]
  exact (C.2.2.2.2.1 s h0 h1).1.2.2.2.2.2.2
theorem CRo_second_no (C : CRo h p v n R) {s : Int} (h0 : ¬ (0 ≤ s ∧ s < n)) : f_P_secondOf h p s = -1 := by
  unfold f_P_secondOf
  rw [if_neg (fun z => h0 ((CRo_has C s).1 z))]
theorem CRo_next (C : CRo h p v n R) {s : Int} (h0 : 0 ≤ s) (h1 : s < n) : f_P_nextOf h p s = sv R s 4 := by
  unfold f_P_nextOf
  rw [if_pos ((CRo_has C s).2 ⟨h0, h1⟩)]
  exact (C.2.2.2.2.1 s h0 h1).1.2.2.2.2.1
abbrev scrOp : FA := [(5, some 6), (5, some 7)]
theorem l_close {x1 x2 : Int} (w : WS n R) (o : okpv p v lo) : ∀ (m : Nat) (i y : Int) (h : zH), KC h → CWk h p v lo → CRo h p v n R → hI h 5 6 = row → (hI h 5 7 = 0 ∨ hI h 5 7 = 1) → i + m = 24 → 0 ≤ i → (y = -1 ∨ 0 ≤ y ∧ y < n) → ∃ h2, zY 33 31 [some (zR (some 5)), some (zI x1), some (zI x2), some (zI i), some (zI y)] [] h = some (.inl none, h2) ∧ hI h2 5 6 = x1 ∧ hI h2 5 7 = (if hI h 5 7 = 1 ∨ inS R row m y = true then 1 else 0) ∧ Fr scrOp h h2
  | m, i, y, h, K, C, CR, h6, h7, hm, i0, hy => by
    have fin : ∃ h2, (some (.inl none, sI h 5 6 x1) : zO) = some (.inl none, h2) ∧ hI h2 5 6 = x1 ∧ hI h2 5 7 = hI h 5 7 ∧ Fr scrOp h h2 := ⟨_, rfl, rfl, rfl, Fr_I (Fr_r _ _) rfl⟩
    rw [q_Pa_closeStatement_31 K C.2.2.1 C.1, h6]
    cases m with
    | zero =>
      rw [if_neg (by omega)]
      obtain ⟨h2, e2, a, b, F⟩ := fin
      refine ⟨h2, e2, a, ?_, F⟩
      rw [b]
      rcases h7 with z | z
      · rw [z, if_neg]
        intro q
        rcases q with q | q
        · omega
        · cases q
      · rw [z, if_pos (Or.inl rfl)]
    | succ m =>
      rw [if_pos (by omega)]
      by_cases c : y = -1
      · rw [if_pos c]
        obtain ⟨h2, e2, a, b, F⟩ := fin
        refine ⟨h2, e2, a, ?_, F⟩
        rw [b, inS, if_pos c]
        rcases h7 with z | z
        · rw [z, if_neg]
          intro q
          rcases q with q | q
          · omega
          · cases q
        · rw [z, if_pos (Or.inl rfl)]
      · have hy1 : 0 ≤ y ∧ y < n := by omega
        have w4 := (w.2.1 y hy1.1 hy1.2).2.2.2.1
        rw [if_neg c, inS, if_neg c]
        by_cases d : y = row
        · have F1 : Fr scrOp h (sI h 5 7 1) := Fr_I (Fr_r _ _) rfl
          have G1 : Gw (WA scrOp) 0 0 h (sI h 5 7 1) := Gw_of F1 (fun _ _ z => z)
          have CR1 := CRo_A CR G1 rfl o
          have q7 : hI (sI h 5 7 1) 5 7 = 1 := rfl
          have q6 : hI (sI h 5 7 1) 5 6 = row := h6
          have C1 := CWk_A C G1 rfl o
          have K1 := KC_f K F1 rfl
          rw [if_pos d, gd_t (by omega), CRo_next CR1 hy1.1 hy1.2]
          generalize sI h 5 7 1 = g at *
          obtain ⟨h2, e2, a, b, F⟩ := l_close w o m (i + 1) (sv R y 4) g K1 C1 CR1 q6 (Or.inr q7) (by omega) (by omega) (by omega)
          refine ⟨h2, e2, a, ?_, Fr_t F1 F⟩
          rw [b, if_pos (Or.inl q7), if_pos (Or.inr (by rw [if_pos d]))]
        · rw [if_neg d, gd_t (by omega), CRo_next CR hy1.1 hy1.2, if_neg d]
          exact l_close w o m (i + 1) (sv R y 4) h K C CR h6 h7 (by omega) (by omega) (by omega)
theorem c_close (w : WS n R) (o : okpv p v lo) (K : KC h) (C : CWk h p v lo) (CR : CRo h p v n R) (h6 : hI h 5 6 = row) (r0 : 0 ≤ row ∧ row < n) : ∃ h2, zC 33 [zR (some 5)] h = some (.inl none, h2) ∧ hI h2 5 6 = sv R row 3 ∧ hI h2 5 7 = secE R row ∧ Fr scrOp h h2 := by
  have F1 : Fr scrOp h (sI h 5 7 0) := Fr_I (Fr_r _ _) rfl
  have G1 : Gw (WA scrOp) 0 0 h (sI h 5 7 0) := Gw_of F1 (fun _ _ z => z)
  have CR1 := CRo_A CR G1 rfl o
  have C1 := CWk_A C G1 rfl o
  have K1 := KC_f K F1 rfl
  have q7 : hI (sI h 5 7 0) 5 7 = 0 := rfl
  have q6 : hI (sI h 5 7 0) 5 6 = row := h6
  have w3 := (w.2.1 row r0.1 r0.2).2.2.1
  rw [q_Pa_closeStatement K C.2.2.1 C.1, h6, CRo_parent CR r0.1 r0.2]
  generalize sI h 5 7 0 = g at *
  have hd : f_P_secondOf h p (sv R row 3) = -1 ∨ 0 ≤ f_P_secondOf h p (sv R row 3) ∧ f_P_secondOf h p (sv R row 3) < n := by
    by_cases c : sv R row 3 = -1
    · rw [CRo_second_no CR (by omega)]; exact Or.inl rfl
    · have : 0 ≤ sv R row 3 ∧ sv R row 3 < n := by omega
      have w6 := (w.2.1 _ this.1 this.2).2.2.2.2.2
      rw [CRo_second CR this.1 this.2]
      omega
  obtain ⟨h2, e2, a, b, F⟩ := l_close (x1 := sv R row 3) (x2 := f_P_secondOf h p (sv R row 3)) w o 24 0 (f_P_secondOf h p (sv R row 3)) g K1 C1 CR1 q6 (Or.inl q7) (by decide) (by decide) hd
  refine ⟨h2, e2, a, ?_, Fr_t F1 F⟩
  rw [b, q7]
  unfold secE
  by_cases c : sv R row 3 = -1
  · rw [if_pos c, CRo_second_no CR (by omega), if_neg]
    intro z
    rcases z with z | z
    · omega
    · rw [inS, if_pos rfl] at z; cases z
  · have : 0 ≤ sv R row 3 ∧ sv R row 3 < n := by omega
    rw [if_neg c, CRo_second CR this.1 this.2]
    by_cases z : inS R row 24 (sv R (sv R row 3) 6) = true
    · rw [if_pos (Or.inr z), if_pos z]
    · rw [if_neg (fun q => q.elim (fun y => absurd y (by decide)) z), if_neg z]
/-- one step of a text -/
theorem c_stpC {s : PSt} (S : CPS h I len p v lo s) (V : INV len s) (hf : s.2.1.1 = 0) (o : okpv p v lo) (hz : lo + 160 ≤ zVB) : ∃ h2, zC 30 [zR (some 5)] h = some (.inl none, h2) ∧ CPS h2 I len p v lo (stpP I len s) ∧ Gw (WPX p v) 6 0 h h2 := by
  obtain ⟨P, C, nb, M⟩ := id S
  obtain ⟨c1, c2, c3, c4, c5⟩ := M hf
  have tt := CPe_t P hf
  have vv : IVR s.2.2.1.1 s.2.2.1.2.1 s.2.2.1.2.2.1 s.2.2.2.1 s.2.2.2.2.1 s.2.2.2.2.2 := by
    obtain ⟨t, ⟨f, fa⟩, ⟨n, top, R, N⟩, row, sec, last⟩ := s
    exact V.1
  have hrow := vv.2.2.2.1
  have hsec := vv.2.2.2.2.1
  have er : ∀ x1 x2 : Int, stpP I len s = errP 1 s → ∃ h2, zBack zY 30 120 123 [some (zR (some 5)), some (zI x1), some (zI x2)] [] (zC 27 [zR (some 5), zI 1] h) = some (.inl none, h2) ∧ CPS h2 I len p v lo (stpP I len s) ∧ Gw (WPX p v) 6 0 h h2 := fun x1 x2 e => by
    obtain ⟨h2, e2, P2, F2⟩ := c_errC P (c := 1) (by decide)
    have G2 : Gw (WA scrPx) 0 0 h h2 := Gw_of (Fr_m F2 (B := scrPx) rfl) (fun _ _ z => z)
    rw [e2, q_Pa_parseRowWord_r123 P2.1, e]
    exact ⟨h2, rfl, ⟨P2, CWk_A C G2 rfl o, by have := F2.1; omega, fun z => absurd z (errP_f (by decide) _)⟩, Gw_m G2 (fun a k _ z => Or.inl z) (by omega) (by omega)⟩
  have st : 17 ≤ s.1.1 ∧ s.1.1 ≤ 20 → ∀ x2 : Int, ∃ h2, zBack zY 30 41 44 [some (zR (some 5)), some (zI s.1.1), some (zI x2)] [] (zC 31 [zR (some 5), zI (s.1.1 - 17)] h) = some (.inl none, h2) ∧ CPS h2 I len p v lo (stpP I len s) ∧ Gw (WPX p v) 6 0 h h2 := fun ht x2 => by
    obtain ⟨h2, e2, S2, G2⟩ := c_stmC S V hf ht o hz
    rw [e2, q_Pa_parseRowWord_r44 S2.1.1]
    unfold stpP
    rw [if_pos ht]
    exact ⟨h2, rfl, S2, G2⟩
  -- the words that end rows
  have cl : ∀ (g : zH) (a b : Int), 0 ≤ s.1.1 → Fr scrOp h g → hI g 5 6 = a → hI g 5 7 = b → (cltP s).2.2.2.1 = a → (cltP s).2.2.2.2.1 = b → stpP I len s = advP I len (cltP s) → ∃ h2, zC 91 [zR (some 7)] g = some (.inl none, h2) ∧ CPS h2 I len p v lo (stpP I len s) ∧ Gw (WPX p v) 6 0 h h2 := fun g a b t0 F ga gb ca cb e => by
    have ec : (cltP s).1 = s.1 ∧ (cltP s).2.1 = s.2.1 ∧ (cltP s).2.2.1 = s.2.2.1 := by
      obtain ⟨t, fl, ⟨n, top, R, N⟩, row, sec, last⟩ := s
      unfold cltP
      simp only
      split <;> exact ⟨rfl, rfl, rfl⟩
    have Pg : CPe g I len (cltP s) := CPe_eq (CPe_f P F rfl) ec.1 ec.2.1
    obtain ⟨h2, e2, P2, F2⟩ := c_advE Pg (by rw [ec.2.1]; exact hf) (by rw [ec.1]; exact t0)
    have G2 : Gw (WA scrPx) 0 0 h h2 := Gw_of (Fr_t (Fr_m F (B := scrPx) rfl) (Fr_m F2 rfl)) (fun _ _ z => z)
    have ea : (advP I len (cltP s)).2.1 = s.2.1 ∧ (advP I len (cltP s)).2.2.1 = s.2.2.1 ∧ (advP I len (cltP s)).2.2.2 = (cltP s).2.2.2 := by
      have : ∀ x : PSt, (advP I len x).2 = x.2 := fun x => by
        obtain ⟨t, r⟩ := x; rfl
      rw [this]
      exact ⟨ec.2.1, ec.2.2, rfl⟩
    rw [e2, e]
    refine ⟨h2, rfl, ⟨P2, CWk_A C G2 rfl o, by have := F.1; have := F2.1; omega, fun _ => ?_⟩, Gw_m G2 (fun a k _ z => Or.inl z) (by omega) (by omega)⟩
    rw [ea.2.1, ea.2.2, ca, cb]
    exact ⟨CRo_A c1 G2 rfl o, QF_A c2 C G2 rfl o, (fI F2 5 6 rfl).trans ga, (fI F2 5 7 rfl).trans gb, by have := F.1; have := F2.1; omega⟩
  have en : ∀ x2 : Int, s.1.1 = 22 → s.2.2.2.1 ≠ -1 → ¬ (sv s.2.2.1.2.2.1 s.2.2.2.1 0 = 1 ∧ s.2.2.2.2.1 = 0) → ∃ h2, zBack zY 30 105 108 [some (zR (some 5)), some (zI s.1.1), some (zI x2)] [] (zC 33 [zR (some 5)] h) = some (.inl none, h2) ∧ CPS h2 I len p v lo (stpP I len s) ∧ Gw (WPX p v) 6 0 h h2 := fun x2 t22 r1 k1 => by
    obtain ⟨g, eg, ga, gb, F⟩ := c_close vv.1 o P.1 C c1 c3 (by omega)
    have Kg := KC_f P.1 F rfl
    have ecl : (cltP s).2.2.2.1 = sv s.2.2.1.2.2.1 s.2.2.2.1 3 ∧ (cltP s).2.2.2.2.1 = secE s.2.2.1.2.2.1 s.2.2.2.1 ∧ clB s = true := by
      obtain ⟨t, fl, ⟨n, top, R, N⟩, row, sec, last⟩ := s
      have k1 : ¬ (sv R row 0 = 1 ∧ sec = 0) := k1
      have r1 : row ≠ -1 := r1
      have t22 : t.1 = 22 := t22
      unfold cltP clB
      simp only
      rw [if_neg k1, if_neg k1, decide_eq_true r1, decide_eq_true t22]
      exact ⟨rfl, rfl, rfl⟩
    obtain ⟨h2, e2, S2, G2⟩ := cl g _ _ (by omega) F ga gb ecl.1 ecl.2.1 (by unfold stpP; rw [if_neg (by omega), if_pos ecl.2.2])
    rw [eg, q_Pa_parseRowWord_r108 Kg, e2, q_Pa_parseRowWord_r115 S2.1.1]
    exact ⟨h2, rfl, S2, G2⟩
  have el : ∀ x2 : Int, s.1.1 = 21 → s.2.2.2.1 ≠ -1 → (sv s.2.2.1.2.2.1 s.2.2.2.1 0 = 1 ∧ s.2.2.2.2.1 = 0) → ∃ h2, zBack zY 30 73 76 [some (zR (some 5)), some (zI s.1.1), some (zI x2)] [] (zC 91 [zR (some 7)] (sI h 5 7 1)) = some (.inl none, h2) ∧ CPS h2 I len p v lo (stpP I len s) ∧ Gw (WPX p v) 6 0 h h2 := fun x2 t21 r1 k1 => by
    have F : Fr scrOp h (sI h 5 7 1) := Fr_I (Fr_r _ _) rfl
    have ecl : (cltP s).2.2.2.1 = s.2.2.2.1 ∧ (cltP s).2.2.2.2.1 = 1 ∧ clB s = true := by
      obtain ⟨t, fl, ⟨n, top, R, N⟩, row, sec, last⟩ := s
      have k1 : sv R row 0 = 1 ∧ sec = 0 := k1
      have r1 : row ≠ -1 := r1
      have t21 : t.1 = 21 := t21
      unfold cltP clB
      simp only
      rw [if_pos k1, if_pos k1, decide_eq_true r1, decide_eq_true t21]
      exact ⟨rfl, rfl, rfl⟩
    obtain ⟨h2, e2, S2, G2⟩ := cl _ _ _ (by omega) F (show hI (sI h 5 7 1) 5 6 = s.2.2.2.1 from c3) (show hI (sI h 5 7 1) 5 7 = 1 from rfl) ecl.1 ecl.2.1 (by unfold stpP; rw [if_neg (by omega), if_pos ecl.2.2])
    rw [e2, q_Pa_parseRowWord_r76 S2.1.1]
    exact ⟨h2, rfl, S2, G2⟩
  have no : (¬ (17 ≤ s.1.1 ∧ s.1.1 ≤ 20)) → (s.2.2.2.1 = -1 ∨ (s.2.2.2.1 ≠ -1 ∧ ((sv s.2.2.1.2.2.1 s.2.2.2.1 0 = 1 ∧ s.2.2.2.2.1 = 0 ∧ s.1.1 ≠ 21) ∨ (¬ (sv s.2.2.1.2.2.1 s.2.2.2.1 0 = 1 ∧ s.2.2.2.2.1 = 0) ∧ s.1.1 ≠ 22)))) → stpP I len s = errP 1 s := fun nt hh => by
    unfold stpP
    rw [if_neg nt, if_neg]
    obtain ⟨t, fl, ⟨n, top, R, N⟩, row, sec, last⟩ := s
    unfold clB
    simp only at hh ⊢
    rcases hh with z | ⟨z, y⟩
    · simp [z]
    · rcases y with ⟨a, b, c⟩ | ⟨a, c⟩
      · rw [if_pos ⟨a, b⟩]; simp [c]
      · rw [if_neg a]; simp [c]
  rw [q_Pa_parseRowWord P.1 C.2.2.1 C.1, tt, c3, c4]
  unfold b_W_isStatement
  by_cases r1 : s.2.2.2.1 = -1
  · rw [CRo_kind_no c1 (by omega), if_neg (by decide)]
    by_cases ht : 17 ≤ s.1.1 ∧ s.1.1 ≤ 20
    · rw [if_pos ht, gd_t (by omega)]; exact st ht _
    · rw [if_neg ht]
      have e := no ht (Or.inl r1)
      by_cases t21 : s.1.1 = 21
      · rw [if_pos t21, if_neg (by omega)]; exact er _ _ e
      · rw [if_neg t21]
        by_cases t22 : s.1.1 = 22
        · rw [if_pos t22, if_pos r1]; exact er _ _ e
        · rw [if_neg t22]; exact er _ _ e
  · rw [CRo_kind c1 (by omega) (by omega)]
    by_cases k1 : sv s.2.2.1.2.2.1 s.2.2.2.1 0 = 1
    · rw [if_pos k1]
      by_cases ht : 17 ≤ s.1.1 ∧ s.1.1 ≤ 20
      · rw [if_pos ht, gd_t (by omega)]; exact st ht _
      · rw [if_neg ht]
        by_cases t21 : s.1.1 = 21
        · rw [if_pos t21]
          by_cases s0 : s.2.2.2.2.1 = 0
          · rw [if_pos s0]; exact el _ t21 r1 ⟨k1, s0⟩
          · rw [if_neg s0, if_neg (by omega)]
            exact er _ _ (no ht (Or.inr ⟨r1, Or.inr ⟨fun z => s0 z.2, by omega⟩⟩))
        · rw [if_neg t21]
          by_cases t22 : s.1.1 = 22
          · rw [if_pos t22, if_neg r1]
            by_cases s0 : s.2.2.2.2.1 = 0
            · rw [if_pos s0]; exact er _ _ (no ht (Or.inr ⟨r1, Or.inl ⟨k1, s0, t21⟩⟩))
            · rw [if_neg s0]; exact en _ t22 r1 (fun z => s0 z.2)
          · rw [if_neg t22]
            refine er _ _ (no ht (Or.inr ⟨r1, ?_⟩))
            by_cases s0 : s.2.2.2.2.1 = 0
            · exact Or.inl ⟨k1, s0, t21⟩
            · exact Or.inr ⟨fun z => s0 z.2, t22⟩
    · rw [if_neg k1]
      by_cases ht : 17 ≤ s.1.1 ∧ s.1.1 ≤ 20
      · rw [if_pos ht, gd_t (by omega)]; exact st ht _
      · rw [if_neg ht]
        by_cases t21 : s.1.1 = 21
        · rw [if_pos t21, if_neg (by omega)]
          exact er _ _ (no ht (Or.inr ⟨r1, Or.inr ⟨fun z => k1 z.1, by omega⟩⟩))
        · rw [if_neg t21]
          by_cases t22 : s.1.1 = 22
          · rw [if_pos t22, if_neg r1]; exact en _ t22 r1 (fun z => k1 z.1)
          · rw [if_neg t22]
            exact er _ _ (no ht (Or.inr ⟨r1, Or.inr ⟨fun z => k1 z.1, t22⟩⟩))
end CROW

