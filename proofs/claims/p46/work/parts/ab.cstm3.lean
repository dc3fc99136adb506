/-! The class: the reading of one statement. -/
section CSTM3
variable {I : Nat → Int} {len : Int} {h h2 : zH} {p v lo : Nat}
theorem add_E {s : PSt} (V : INV len s) (h24 : s.2.2.1.1 ≠ 24) {kd : Int} : newR kd (-1) s.2.2.1.1 s.2.2.2.1 s.2.2.2.2.1 s.2.2.2.2.2 s.2.2.1.2.2.1 (advP I len (comP kd s)).2.2.1.2.2.1 ∧ (0 ≤ s.2.2.1.1 ∧ s.2.2.1.1 < 24) ∧ (s.2.2.2.2.1 = 0 ∨ s.2.2.2.2.1 = 1) ∧ WU s.2.2.1.1 s.2.2.1.2.2.1 ∧ (advP I len (comP kd s)).2.2.1.1 = s.2.2.1.1 + 1 ∧ (advP I len (comP kd s)).2.2.2.1 = s.2.2.2.1 ∧ (advP I len (comP kd s)).2.2.2.2.1 = s.2.2.2.2.1 ∧ TV len (advP I len (comP kd s)).1 := by
  obtain ⟨t, ⟨f, fa⟩, ⟨n, top, R, N⟩, row, sec, last⟩ := s
  obtain ⟨V1, V2, T⟩ := V
  have h24 : n ≠ 24 := h24
  have w0 := V1.1.1
  have hrl := V1
  obtain ⟨_, _, _, hrow, hsec, hlast, _⟩ := hrl
  have hs : sec = 0 ∨ sec = 1 := by omega
  exact ⟨comR_new (kd := kd) (R := R) (n := n) (row := row) (sec := sec) (last := last) w0.1 (by omega) (by omega) hs, ⟨w0.1, show n < 24 by omega⟩, hs, V1.2.1, rfl, rfl, rfl, (tok_TV (by have := T.1; omega) T.1.2.2).1⟩
theorem UN_new {n row sec last : Int} {R R2 : Nat → Int} (n0 : 0 ≤ n ∧ n < 24) (u : WU n R) (hs : sec = 0 ∨ sec = 1) (e : newR 2 (-1) n row sec last R R2) : UN n R2 := by
  have kn : sv R2 n 0 = 2 := by rw [e.2 0 (by decide) (by decide), if_pos rfl]
  have n7 : sv R2 n 7 = cntK R 2 n.toNat := (e.2 7 (by decide) (by decide)).trans rfl
  have cb := cntK_b R 2 n.toNat
  refine ⟨kn, by omega, fun s s0 s1 k2 => ?_⟩
  rw [new_o e hs s0 s1 (by decide) (by decide) (by decide) (by omega)] at k2 ⊢
  have us := (u s s0 s1).1 (Or.inl k2)
  rw [k2] at us
  have lt := cntK_m R 2 (s.toNat + 1) (n.toNat - (s.toNat + 1))
  rw [show s.toNat + 1 + (n.toNat - (s.toNat + 1)) = n.toNat by omega, cntK_s, show ((s.toNat : Nat) : Int) = s by omega, if_pos k2] at lt
  have u0 := cntK_b R 2 s.toNat
  omega
theorem forF_k {q what : Int} {s : PSt} (T : TV len s.1) : (forF I len q what s).2.2.1.1 = s.2.2.1.1 ∧ (forF I len q what s).2.2.1.2.2.1 = s.2.2.1.2.2.1 ∧ (forF I len q what s).2.2.2 = s.2.2.2 ∧ TV len (forF I len q what s).1 := by
  have k := (forF_ok (I := I) (q := q) (what := what) T).1
  exact ⟨k.1, k.2.2.1, k.2.2.2.1, k.2.2.2.2.2.1⟩
theorem takP_k {w : Int} {s : PSt} (T : TV len s.1) : (takP I len w s).2.2.1.1 = s.2.2.1.1 ∧ (takP I len w s).2.2.1.2.2.1 = s.2.2.1.2.2.1 ∧ (takP I len w s).2.2.2 = s.2.2.2 ∧ TV len (takP I len w s).1 ∧ ((takP I len w s).2.1.1 = 0 → s.2.1.1 = 0 ∧ (takP I len w s).2.2.1.2.2.2 = s.2.2.1.2.2.2) := by
  have k := kep_tak (I := I) (b := 0) (w := w) (s := s) T
  refine ⟨k.1, k.2.2.1, k.2.2.2.1, k.2.2.2.2.2.1, fun z => ?_⟩
  obtain ⟨a, b, c⟩ := takP_f z
  refine ⟨a, ?_⟩
  rw [c]
  obtain ⟨t, ⟨f, fa⟩, ⟨n, top, R, N⟩, row, sec, last⟩ := s
  rfl
/-- a word is taken in the middle of a statement -/
theorem c_midTake {w n : Int} {st : Nat} {R : Nat → Int} {s : PSt} (P : CPe h I len s) (C : CWk h p v lo) (o : okpv p v lo) (w0 : 0 ≤ w) (T : TV len s.1) (M : s.2.1.1 = 0 → MID h p v lo n st R s.2.2.1.2.2.2) : ∃ h2, zC 26 [zR (some 5), zI w] h = some (.inl none, h2) ∧ CPe h2 I len (takP I len w s) ∧ CWk h2 p v lo ∧ ((takP I len w s).2.1.1 = 0 → MID h2 p v lo n st R (takP I len w s).2.2.1.2.2.2) ∧ hN h2 = hN h ∧ Gw (WPP p v) 0 0 h h2 := by
  obtain ⟨h2, e2, P2, F2⟩ := c_takC P w0
  have G2 : Gw (WA scrPf) 0 0 h h2 := Gw_of (Fr_m F2 (B := scrPf) rfl) (fun _ _ z => z)
  refine ⟨h2, e2, P2, CWk_A C G2 rfl o, fun z => ?_, F2.1, Gw_m G2 (fun a k _ z => Or.inl z) (Nat.le_refl _) (Nat.le_refl _)⟩
  obtain ⟨a, b⟩ := (takP_k T).2.2.2.2 z
  rw [b]
  exact MID_A (M a) C G2 rfl o
/-- keep or less: the formula, then its place -/
theorem c_rowC {what n : Int} {R : Nat → Int} {s : PSt} {a b c c2 r : Nat} {q : Int} {L : zL} (hb : (a = 109 ∧ b = 112 ∧ c = 112 ∧ c2 = 115 ∧ r = 1 ∧ q = 26 + n) ∨ (a = 135 ∧ b = 138 ∧ c = 138 ∧ c2 = 141 ∧ r = 2 ∧ q = 50 + n)) {x1 num : Int} (hL : L = [some (zR (some 5)), some (zI x1), some (zI n)]) (P : CPe h I len s) (C : CWk h p v lo) (o : okpv p v lo) (hz : hN h + 2 ≤ zVB) (hw : what = 0 ∨ what = 1) (T : TV len s.1) (n0 : 0 ≤ n ∧ n < 24) (U : UN n R) (M : s.2.1.1 = 0 → num = sv R n 7 ∧ MID h p v lo n r R s.2.2.1.2.2.2) : ∃ h2, zBack zY 31 a b L [zI num, zR (some v)] (zC 28 [zR (some 5), zI what] h) = zBack zY 31 c c2 L [] (some (.inl none, h2)) ∧ CPe h2 I len (forF I len q what s) ∧ CWk h2 p v lo ∧ ((forF I len q what s).2.1.1 = 0 → MID h2 p v lo n (r + 1) R (forF I len q what s).2.2.1.2.2.2) ∧ hN h2 = hN h + 2 ∧ Gw (WPP p v) 2 0 h h2 := by
  obtain ⟨g, f, eg, Pg, Cg, Fg, lf, fl, Mg, ng, Gg⟩ := c_midForm (q := q) (st := r) P C o hz hw T (by omega) n0 (fun z => (M z).2)
  have ff := (forF_ok (I := I) (q := q) (what := what) T).2
  obtain ⟨h2, e2, P2, C2, M2, n2, G2⟩ := c_putRow (r := r) (mq := if r = 1 then 125 else 127) (num := num) Pg Cg o Fg lf n0.1 (by omega) (by rcases hb with ⟨_, _, _, _, q5, q6⟩ | ⟨_, _, _, _, q5, q6⟩ <;> subst q5 <;> simp [q6]) U (fun z => ⟨(M (ff z).1).1, Mg z⟩)
  refine ⟨h2, ?_, P2, C2, M2, n2.trans ng, Gw_m (Gw_t (Gw_m Gg (fun a k _ z => (Or.inl z : WPP p v a k)) (Nat.le_refl _) (Nat.le_refl _)) G2 (fun _ _ _ z => z)) (fun _ _ _ z => z) (by omega) (by omega)⟩
  rw [eg, ← e2, hL]
  rcases hb with ⟨q1, q2, q3, q4, q5, q6⟩ | ⟨q1, q2, q3, q4, q5, q6⟩
  · subst q1 q2 q3 q4 q5
    exact q_Pa_parseStatement_r112 Pg.1 Cg.2.1 Fg
  · subst q1 q2 q3 q4 q5
    exact q_Pa_parseStatement_r138 Pg.1 Cg.2.1 Fg
/-- the statement's rows are open now -/
theorem c_opnC {n m : Int} {s : PSt} {R N : Nat → Int} (P : CPe h I len s) (C : CWk h p v lo) (o : okpv p v lo) (nb : hN h ≤ lo + 148) (M : s.2.1.1 = 0 → CRo h p v s.2.2.1.1 s.2.2.1.2.2.1 ∧ QF h p v lo s.2.2.1.1 s.2.2.1.1 s.2.2.1.2.2.1 s.2.2.1.2.2.2 ∧ hN h = lo + mkd s.2.2.1.2.2.1 s.2.2.1.1) : CPS (sI (sI h 5 6 n) 5 7 0) I len p v lo (opnP n s) ∧ Gw (WA scrPx) 0 0 h (sI (sI h 5 6 n) 5 7 0) := by
  have F : Fr [(5, some 6), (5, some 7)] h (sI (sI h 5 6 n) 5 7 0) := Fr_I (Fr_I (Fr_r _ _) rfl) rfl
  have G : Gw (WA scrPx) 0 0 h (sI (sI h 5 6 n) 5 7 0) := Gw_of (Fr_m F (B := scrPx) rfl) (fun _ _ z => z)
  have e : (opnP n s).1 = s.1 ∧ (opnP n s).2.1 = s.2.1 ∧ (opnP n s).2.2.1 = s.2.2.1 ∧ (opnP n s).2.2.2.1 = n ∧ (opnP n s).2.2.2.2.1 = 0 := by
    obtain ⟨t, fl, pp, w⟩ := s
    exact ⟨rfl, rfl, rfl, rfl, rfl⟩
  refine ⟨⟨CPe_eq (CPe_f P F rfl) e.1 e.2.1, CWk_A C G rfl o, nb, fun z => ?_⟩, G⟩
  rw [e.2.1] at z
  obtain ⟨a, b, c⟩ := M z
  rw [e.2.2.1, e.2.2.2.1, e.2.2.2.2]
  exact ⟨CRo_A a G rfl o, QF_A b C G rfl o, rfl, rfl, c⟩
theorem c_stmC {s : PSt} (S : CPS h I len p v lo s) (V : INV len s) (hf : s.2.1.1 = 0) (ht : 17 ≤ s.1.1 ∧ s.1.1 ≤ 20) (o : okpv p v lo) (hz : lo + 160 ≤ zVB) : ∃ h2, zC 31 [zR (some 5), zI (s.1.1 - 17)] h = some (.inl none, h2) ∧ CPS h2 I len p v lo (stmP I len s) ∧ Gw (WPX p v) 6 0 h h2 := by
  obtain ⟨P, C, nb, M⟩ := id S
  obtain ⟨c1, c2, c3, c4, c5⟩ := M hf
  have hn := c1.2.2.2.1.1
  have hb := c1.2.2.1
  unfold stmP
  rw [q_Pa_parseStatement P.1 C.2.2.1 C.1, hn]
  by_cases h24 : s.2.2.1.1 = 24
  · obtain ⟨h2, e2, P2, F2⟩ := c_errC P (c := 3) (by decide)
    have G2 : Gw (WA scrPx) 0 0 h h2 := Gw_of (Fr_m F2 (B := scrPx) rfl) (fun _ _ z => z)
    rw [if_pos h24, if_neg (by omega), e2, q_Pa_parseStatement_r17 P2.1]
    exact ⟨h2, rfl, ⟨P2, CWk_A C G2 rfl o, by have := F2.1; omega, fun z => absurd z (errP_f (by decide) _)⟩, Gw_m G2 (fun a k _ z => Or.inl z) (by omega) (by omega)⟩
  rw [if_neg h24, if_pos (by omega), c3, c4]
  obtain ⟨g0, g, eg0, K0, eg, P1, C1, M1, q6, q7, n1, G1⟩ := c_addAdv (kd := s.1.1 - 17) S V hf (by omega) h24 o hz (by omega)
  obtain ⟨E, n0, hs, u, k1, k2, k3, T1⟩ := add_E (I := I) V h24 (kd := s.1.1 - 17)
  have f1 : (advP I len (comP (s.1.1 - 17) s)).2.1.1 = 0 := by rw [advP_f, (comP_1 _ s).2]; exact hf
  have mk := mkd_n n0.1 hs E
  have mb := mkd_b s.2.2.1.2.2.1 s.2.2.1.1
  have kn : sv (advP I len (comP (s.1.1 - 17) s)).2.2.1.2.2.1 s.2.2.1.1 0 = s.1.1 - 17 := by rw [E.2 0 (by decide) (by decide), if_pos rfl]
  have GX : ∀ {d e : Nat} {x y : zH}, Gw (WPP p v) d e x y → Gw (WPX p v) d e x y := fun G => Gw_m G (fun a k _ z => WPP_X z) (Nat.le_refl _) (Nat.le_refl _)
  rw [eg0, q_Pa_parseStatement_r34 K0, eg, q_Pa_parseStatement_r42 P1.1 C1.2.2.1 C1.1]
  by_cases t20 : s.1.1 = 20
  · -- a hole
    rw [if_pos (show s.1.1 - 17 = 3 by omega), if_neg (show ¬ s.1.1 = 17 by omega), if_neg (show ¬ s.1.1 = 18 by omega), if_neg (show ¬ s.1.1 = 19 by omega)]
    rw [t20] at P1 M1 k1 k2 k3 mk kn E
    have D := MID_done M1 n0.1 n0.2 (Or.inr (Or.inr ⟨rfl, kn⟩)) P1.1
    rw [if_neg (by decide), if_neg (by decide)] at mk
    refine ⟨g, rfl, ⟨P1, C1, by omega, fun _ => ?_⟩, Gw_m (GX G1) (fun _ _ _ z => z) (by omega) (by omega)⟩
    rw [show (3 : Int) = 20 - 17 from rfl, k1, k2, k3]
    exact ⟨D.1, D.2, q6, q7, by omega⟩
  rw [if_neg (by omega)]
  by_cases t17 : s.1.1 = 17
  · -- a set
    rw [if_pos t17, if_pos (by omega), setP_e hf]
    rw [t17] at P1 M1 k1 k2 k3 mk kn E f1 T1
    rw [show (0 : Int) = 17 - 17 from rfl]
    rw [if_neg (by decide), if_pos (by decide)] at mk
    generalize advP I len (comP (17 - 17) s) = s1 at *
    obtain ⟨g2, e2, P2, C2, M2, n2, G2⟩ := c_varC P1 f1 C1 o (by omega) n0 kn M1
    have hv : (vrs I len s.2.2.1.1 s1).2.2.1.1 = s1.2.2.1.1 ∧ (vrs I len s.2.2.1.1 s1).2.2.2 = s1.2.2.2 ∧ TV len (vrs I len s.2.2.1.1 s1).1 ∧ sv (vrs I len s.2.2.1.1 s1).2.2.1.2.2.1 s.2.2.1.1 0 = 0 ∧ ∀ m, mkd (vrs I len s.2.2.1.1 s1).2.2.1.2.2.1 m = mkd s1.2.2.1.2.2.1 m := by
      obtain ⟨t, ⟨f, fa⟩, ⟨n, top, R, N⟩, w⟩ := s1
      unfold vrs
      by_cases c : 4 ≤ t.1 ∧ t.1 ≤ 6
      · rw [if_pos c]
        refine ⟨rfl, rfl, (tok_TV (by have := T1.1; omega) T1.1.2.2).1, ?_, fun m => cntR_var n0.1 m⟩
        show sv (upN R (10 * s.2.2.1.1 + 1).toNat (t.1 - 4)) s.2.2.1.1 0 = 0
        rw [sv_up n0.1 (by decide) n0.1 (by decide), if_neg (by omega)]
        exact kn
      · have f0 : f = 0 := f1
        rw [if_neg c]
        unfold errP
        simp only
        rw [if_pos f0]
        exact ⟨rfl, rfl, T1, kn, fun _ => rfl⟩
    generalize vrs I len s.2.2.1.1 s1 = s2 at *
    rw [e2, q_Pa_parseStatement_r57 P2.1 C2.2.2.1 C2.1]
    obtain ⟨g3, e3, P3, C3, M3, n3, G3⟩ := c_partC (R := s2.2.2.1.2.2.1) (Or.inl ⟨rfl, rfl, rfl, rfl⟩) (x1 := s.1.1 - 17) rfl P2 C2 o (by omega) (Or.inl rfl) hv.2.2.1 n0 M2
    obtain ⟨l1, l2, l3, l4⟩ := forF_k (I := I) (q := 2 + s.2.2.1.1) (what := 0) hv.2.2.1
    rw [show (17 : Int) - 17 = 0 from rfl, e3, q_Pa_parseStatement_r70 P3.1]
    refine ⟨g3, rfl, ⟨P3, C3, by omega, fun z => ?_⟩, Gw_m (Gw_t (Gw_t (GX G1) (GX G2) (fun _ _ _ z => z)) (GX G3) (fun _ _ _ z => z)) (fun _ _ _ z => z) (by omega) (by omega)⟩
    have D := MID_done (M3 z) n0.1 n0.2 (Or.inl ⟨rfl, Or.inl hv.2.2.2.1⟩) P3.1
    rw [l1, l2, l3, hv.1, hv.2.1, k1, k2, k3, hv.2.2.2.2]
    refine ⟨D.1, D.2, ?_, ?_, by omega⟩
    · rw [gI G3 (Or.inl (by have := P2.1.1; omega)) (WPP_56 o (Or.inl rfl)), gI G2 (Or.inl (by have := P1.1.1; omega)) (WPP_56 o (Or.inl rfl))]; exact q6
    · rw [gI G3 (Or.inl (by have := P2.1.1; omega)) (WPP_56 o (Or.inr rfl)), gI G2 (Or.inl (by have := P1.1.1; omega)) (WPP_56 o (Or.inr rfl))]; exact q7
  rw [if_neg t17, if_neg (by omega)]
  -- the condition of an if or a while
  obtain ⟨g3, e3, P3, C3, M3, n3, G3⟩ := c_partC (what := 1) (R := (advP I len (comP (s.1.1 - 17) s)).2.2.1.2.2.1) (Or.inr ⟨rfl, rfl, rfl, rfl⟩) (x1 := s.1.1 - 17) rfl P1 C1 o (by omega) (Or.inr rfl) T1 n0 (fun _ => M1)
  obtain ⟨l1, l2, l3, l4⟩ := forF_k (I := I) (q := 2 + s.2.2.1.1) (what := 1) T1
  rw [e3, q_Pa_parseStatement_r84 P3.1]
  by_cases t18 : s.1.1 = 18
  · -- an if
    rw [if_pos t18, if_neg (by omega), iffP_e hf]
    rw [t18] at P3 M3 k1 k2 k3 mk kn l1 l2 l3 l4
    rw [if_neg (by decide), if_pos (by decide)] at mk
    rw [show (1 : Int) = 18 - 17 from rfl]
    obtain ⟨S4, G4⟩ := c_opnC (n := s.2.2.1.1) (m := 0) (R := s.2.2.1.2.2.1) (N := s.2.2.1.2.2.2) P3 C3 o (by omega) (fun z => by
      have D := MID_done (M3 z) n0.1 n0.2 (Or.inl ⟨rfl, Or.inr kn⟩) P3.1
      rw [l1, l2, k1]
      exact ⟨D.1, D.2, by omega⟩)
    exact ⟨_, rfl, S4, Gw_m (Gw_t (Gw_t (GX G1) (GX G3) (fun _ _ _ z => z)) G4 (fun a k _ z => Or.inl z)) (fun _ _ _ z => z) (by omega) (by omega)⟩
  · -- a while
    rw [if_neg t18, if_pos (by omega), whlP_e hf]
    have t19 : s.1.1 = 19 := by omega
    rw [t19] at P3 M3 k1 k2 k3 mk kn l1 l2 l3 l4 E
    rw [if_pos (by decide)] at mk
    rw [show comP 2 s = comP (19 - 17) s from rfl]
    have U := UN_new n0 u hs E
    generalize forF I len (2 + s.2.2.1.1) 1 (advP I len (comP (19 - 17) s)) = s3 at *
    generalize hs1 : advP I len (comP (19 - 17) s) = s1 at *
    obtain ⟨g4, e4, P4, C4, M4, n4, G4⟩ := c_midTake (w := 23) P3 C3 o (by decide) l4 M3
    obtain ⟨a1, a2, a3, a4, a5⟩ := takP_k (I := I) (w := 23) l4
    generalize takP I len 23 s3 = s4 at *
    rw [e4, q_Pa_parseStatement_r95 P4.1 C4.2.2.2.1 C4.2.1 C4.2.2.1 C4.1]
    obtain ⟨g5, e5, P5, C5, M5, n5, G5⟩ := c_rowC (what := 1) (R := s1.2.2.1.2.2.1) (Or.inl ⟨rfl, rfl, rfl, rfl, rfl, rfl⟩) (x1 := s.1.1 - 17) (num := f_P_numberOf g4 p s.2.2.1.1) rfl P4 C4 o (by omega) (Or.inr rfl) a4 n0 U (fun z => ⟨CRo_num (M4 z).1 n0.1 (by omega), M4 z⟩)
    obtain ⟨b1, b2, b3, b4⟩ := forF_k (I := I) (q := 26 + s.2.2.1.1) (what := 1) a4
    generalize forF I len (26 + s.2.2.1.1) 1 s4 = s5 at *
    rw [e5, q_Pa_parseStatement_r115 P5.1]
    obtain ⟨g6, e6, P6, C6, M6, n6, G6⟩ := c_midTake (w := 24) P5 C5 o (by decide) b4 M5
    obtain ⟨d1, d2, d3, d4, d5⟩ := takP_k (I := I) (w := 24) b4
    generalize takP I len 24 s5 = s6 at *
    rw [e6, q_Pa_parseStatement_r121 P6.1 C6.2.2.2.1 C6.2.1 C6.2.2.1 C6.1]
    obtain ⟨g7, e7, P7, C7, M7, n7, G7⟩ := c_rowC (what := 0) (R := s1.2.2.1.2.2.1) (Or.inr ⟨rfl, rfl, rfl, rfl, rfl, rfl⟩) (x1 := s.1.1 - 17) (num := f_P_numberOf g6 p s.2.2.1.1) rfl P6 C6 o (by omega) (Or.inl rfl) d4 n0 U (fun z => ⟨CRo_num (M6 z).1 n0.1 (by omega), M6 z⟩)
    obtain ⟨j1, j2, j3, j4⟩ := forF_k (I := I) (q := 50 + s.2.2.1.1) (what := 0) d4
    rw [e7, q_Pa_parseStatement_r141 P7.1, if_pos t19]
    obtain ⟨S8, G8⟩ := c_opnC (n := s.2.2.1.1) (m := 0) (R := s.2.2.1.2.2.1) (N := s.2.2.1.2.2.2) P7 C7 o (by omega) (fun z => by
      have D := MID_done (M7 z) n0.1 n0.2 (Or.inr (Or.inl ⟨rfl, kn⟩)) P7.1
      rw [j1, j2, d1, d2, b1, b2, a1, a2, l1, l2, k1]
      exact ⟨D.1, D.2, by omega⟩)
    exact ⟨_, rfl, S8, Gw_m (Gw_t (Gw_t (Gw_t (Gw_t (Gw_t (Gw_t (GX G1) (GX G3) (fun _ _ _ z => z)) (GX G4) (fun _ _ _ z => z)) (GX G5) (fun _ _ _ z => z)) (GX G6) (fun _ _ _ z => z)) (GX G7) (fun _ _ _ z => z)) G8 (fun a k _ z => Or.inl z)) (fun _ _ _ z => z) (by omega) (by omega)⟩
end CSTM3

