/-! The class: a description read. -/
section CDESC3
variable {I : Nat → Int} {len : Int} {h h2 : zH} {p v lo : Nat} {n top row sec last : Int} {R N : Nat → Int}
abbrev scrPy : FA := [(5, some 0), (5, some 1), (5, some 4), (5, some 5), (5, some 6), (5, some 7), (6, none), (7, some 0), (7, some 1), (7, some 8)]
def WPY (p v : Nat) : Nat → Nat → Prop := fun a k => WA scrPy a k ∨ Wp p a k ∨ Wv v a k
theorem WPX_Y {a k : Nat} (w : WPX p v a k) : WPY p v a k := w.elim (fun z => Or.inl (WA_m rfl z)) Or.inr
theorem WAy {a j : Nat} (w : WA scrPy a j) : 5 ≤ a ∧ a ≤ 7 := by
  simp only [WA, inA, List.any_cons, List.any_nil, inB, Bool.or_eq_true, Bool.and_eq_true, Nat.beq_eq, Bool.or_false, and_true] at w
  omega
/-- a formula of the description is put: before (j is 0) or after (j is 1) -/
theorem c_putBA {g : zH} {s : PSt} {j f : Nat} (P : CPe g I len s) (C : CWk g p v lo) (o : okpv p v lo) (hz : hN g ≤ zVB) (hj : j ≤ 1) : CPe (sR g v j (some f)) I len s ∧ CWk (sR g v j (some f)) p v lo ∧ Gw (fun b i => b = v ∧ i = j) 0 0 g (sR g v j (some f)) := by
  have G : Gw (fun b i => b = v ∧ i = j) 0 0 g (sR g v j (some f)) := Gw_sR (Gw_r _ _) _ (fun _ => ⟨rfl, rfl⟩)
  have o' := id o
  unfold okpv at o'
  have z9 : zVB = 10000000 := rfl
  have lh := C.2.2.2.2
  have hv := C.2.1.2.1
  exact ⟨CPe_g P G (fun b k z => by omega) (fun b k hb hk z => kc_o o (a := b) (Or.inr (by omega)) hb hk) (fun k => by omega) (by omega), CWk_g C G (fun k _ z => by omega) (fun k _ z => by omega) (fun k _ z => by omega) o'.2.2.1, G⟩
/-- a fresh program and version -/
def FRS (h : zH) (p v : Nat) : Prop := PS h p ∧ VS h v ∧ (∀ j, j ≤ 2 → hI h p j = 0) ∧ (∀ i, i < 24 → hR h (p + 10) i = some 3) ∧ ∀ k, k < 24 → hR h (v + 1) k = some 3 ∧ hR h (v + 2) k = some 3 ∧ hI h (v + 3) k = -1 ∧ hI h (v + 4) k = 10
theorem FRS_g {W : Nat → Nat → Prop} {d e : Nat} (S : FRS h p v) (G : Gw W d e h h2) (wp : ∀ j k, j ≤ 10 → ¬ W (p + j) k) (wv : ∀ j k, 0 < j → j ≤ 4 → ¬ W (v + j) k) (wv0 : ∀ k, 2 ≤ k → ¬ W v k) : FRS h2 p v := by
  obtain ⟨a, b, c, x, y⟩ := S
  have hp := a.2.1
  have hv := b.2.1
  refine ⟨PS_g a G (fun k _ => wp 0 k (by decide)), VS_g b G wv0, fun j hj => ?_, fun i hi => ?_, fun k hk => ?_⟩
  · rw [gI G (by omega) (show ¬ W p j from wp 0 j (by decide))]; exact c j hj
  · rw [gR G (by omega) (wp 10 i (by decide))]; exact x i hi
  · obtain ⟨y1, y2, y3, y4⟩ := y k hk
    rw [gR G (a := v + 1) (by omega) (wv 1 k (by decide) (by decide)), gR G (a := v + 2) (by omega) (wv 2 k (by decide) (by decide)), gI G (a := v + 3) (by omega) (wv 3 k (by decide) (by decide)), gI G (a := v + 4) (by omega) (wv 4 k (by decide) (by decide))]
    exact ⟨y1, y2, y3, y4⟩
theorem FRS_A {A : FA} {d e : Nat} (S : FRS h p v) (G : Gw (WA A) d e h h2) (s : subA A scrPy = true) (o : okpv p v lo) : FRS h2 p v := by
  unfold okpv at o
  exact FRS_g S G (fun j k _ z => by have := WAy (WA_m s z); omega) (fun j k _ _ z => by have := WAy (WA_m s z); omega) (fun k _ z => by have := WAy (WA_m s z); omega)
theorem c_descC (P : CPe h I len (begS I len 0 R)) (S : FRS h p v) (o : okpv p v (hN h)) (hz : hN h + 160 ≤ zVB) (l0 : 0 ≤ len) (l8 : len ≤ 800) {T : PSt} (hT : txtP I len (begS I len 0 R) = T) : ∃ h2, zC 25 [zR (some 5), zR (some p), zR (some v)] h = some (.inl none, h2) ∧ (KC h2 ∧ KS h2) ∧ hI h2 5 0 = T.2.1.1 ∧ hI h2 5 1 = (if T.2.1.1 = 0 then -1 else T.2.1.2) ∧ (T.2.1.1 = 0 → hN h2 = hN h + mkd T.2.2.1.2.2.1 T.2.2.1.1 ∧ ((∀ a, p ≤ a → a < hN h2 → mutB a = false) → PO h2 p T.2.2.1.1 T.2.2.1.2.2.1 ∧ PA h2 p T.2.2.1.1 T.2.2.1.2.2.1 T.2.2.1.2.2.2 ∧ VO h2 v T.2.2.1.1 T.2.2.1.2.2.1 T.2.2.1.2.2.2)) ∧ hN h2 ≤ hN h + 148 ∧ Gw (WPY p v) 5000 0 h h2 := by
  have o' := id o
  unfold okpv at o'
  have z9 : zVB = 10000000 := rfl
  generalize hlo : hN h = lo at *
  -- the parser's fields
  have F0 : Fr [(5, some 4), (5, some 5), (5, some 6), (5, some 7)] h (sI (sI (sR (sR h 5 4 (some p)) 5 5 (some v)) 5 6 (-1)) 5 7 0) := Fr_I (Fr_I (Fr_R (Fr_R (Fr_r _ _) rfl) rfl) rfl) rfl
  have G0 : Gw (WPY p v) 0 0 h (sI (sI (sR (sR h 5 4 (some p)) 5 5 (some v)) 5 6 (-1)) 5 7 0) := Gw_of (Fr_m F0 (B := scrPy) rfl) (fun _ _ z => Or.inl z)
  have S0 : FRS (sI (sI (sR (sR h 5 4 (some p)) 5 5 (some v)) 5 6 (-1)) 5 7 0) p v := FRS_A S (Gw_of (Fr_m F0 (B := scrPy) rfl) (fun _ _ z => z)) rfl o
  have P0 := CPe_f P F0 rfl
  have C0 : CWk (sI (sI (sR (sR h 5 4 (some p)) 5 5 (some v)) 5 6 (-1)) 5 7 0) p v lo := ⟨S0.1, S0.2.1, rfl, rfl, Nat.le_of_eq hlo.symm⟩
  have q6 : hI (sI (sI (sR (sR h 5 4 (some p)) 5 5 (some v)) 5 6 (-1)) 5 7 0) 5 6 = -1 := rfl
  have q7 : hI (sI (sI (sR (sR h 5 4 (some p)) 5 5 (some v)) 5 6 (-1)) 5 7 0) 5 7 = 0 := rfl
  have n0 : hN (sI (sI (sR (sR h 5 4 (some p)) 5 5 (some v)) 5 6 (-1)) 5 7 0) = lo := hlo
  rw [q_Pa_parseDescription P.1 S.1 S.2.1]
  generalize sI (sI (sR (sR h 5 4 (some p)) 5 5 (some v)) 5 6 (-1)) 5 7 0 = g0 at *
  -- proof
  have T0 : TV len (begS I len 0 R).1 := (tok_TV (Int.le_refl 0) l0).1
  have V3 := txt_V3 (I := I) (len := len) (fa := 0) (R := R) l0
  obtain ⟨g1, e1, P1, F1⟩ := c_takC P0 (w := 25) (by decide)
  have G1 : Gw (WA scrPf) 0 0 g0 g1 := Gw_of (Fr_m F1 (B := scrPf) rfl) (fun _ _ z => z)
  have C1 := CWk_A C0 G1 rfl o
  have S1 := FRS_A S0 G1 rfl o
  obtain ⟨a1, a2, a3, a4, a5⟩ := takP_k (I := I) (w := 25) T0
  have sn : (begS I len 0 R).2.2.1.1 = 0 ∧ (begS I len 0 R).2.2.1.2.2.1 = R ∧ (begS I len 0 R).2.2.2 = (-1, 0, -1) ∧ (begS I len 0 R).2.2.1.2.1 = -1 := ⟨rfl, rfl, rfl, rfl⟩
  have atop : (takP I len 25 (begS I len 0 R)).2.2.1.2.1 = -1 := (kep_tak (I := I) (b := 0) (w := 25) T0).2.1
  have n1 : hN g1 = lo := F1.1.trans n0
  unfold txtP at hT
  generalize takP I len 25 (begS I len 0 R) = s1 at *
  -- before
  obtain ⟨g2, e2, P2, S2f, L2, n2, G2⟩ := c_formC (q := 0) P1 (by omega) (Or.inr rfl)
  have ff2 := forF_ok (I := I) (q := 0) (what := 1) a4
  obtain ⟨b1, b2, b3, b4⟩ := forF_k (I := I) (q := 0) (what := 1) a4
  have btop := ff2.1.2.1
  have C2 := CWk_A C1 G2 rfl o
  have S2 := FRS_A S1 G2 rfl o
  generalize forF I len 0 1 s1 = s2 at *
  rw [e1, q_Pa_parseDescription_r26 P1.1 C1.1 C1.2.1 C1.2.2.2.1 C1.2.1, e2, q_Pa_parseDescription_r35 P2.1 C2.1 C2.2.1 C2.2.1 S2f]
  obtain ⟨P3, C3, G3⟩ := c_putBA (j := 0) (f := hN g1) P2 C2 o (by omega) (by decide)
  have S3 := FRS_g S2 G3 (fun j k _ z => by omega) (fun j k _ _ z => by omega) (fun k _ z => by omega)
  have n3 : hN (sR g2 v 0 (some (hN g1))) = lo + 2 := by show hN g2 = _; omega
  have r30 : hR (sR g2 v 0 (some (hN g1))) v 0 = some (hN g1) := zup_s _ _ _ _
  generalize sR g2 v 0 (some (hN g1)) = g3 at *
  rw [q_Pa_parseDescription_38 P3.1 C3.1 C3.2.1 C3.2.2.2.1 C3.2.1]
  -- after
  obtain ⟨g4, e4, P4, S4f, L4, n4, G4⟩ := c_formC (q := 1) P3 (by omega) (Or.inr rfl)
  have ff4 := forF_ok (I := I) (q := 1) (what := 1) b4
  obtain ⟨d1, d2, d3, d4⟩ := forF_k (I := I) (q := 1) (what := 1) b4
  have dtop := ff4.1.2.1
  have C4 := CWk_A C3 G4 rfl o
  have S4 := FRS_A S3 G4 rfl o
  generalize forF I len 1 1 s2 = s3 at *
  rw [e4, q_Pa_parseDescription_r47 P4.1 C4.1 C4.2.1 C4.2.1 S4f]
  obtain ⟨P5, C5, G5⟩ := c_putBA (j := 1) (f := hN g3) P4 C4 o (by omega) (by decide)
  have S5 := FRS_g S4 G5 (fun j k _ z => by omega) (fun j k _ _ z => by omega) (fun k _ z => by omega)
  have n5 : hN (sR g4 v 1 (some (hN g3))) = lo + 4 := by show hN g4 = _; omega
  have r51 : hR (sR g4 v 1 (some (hN g3))) v 1 = some (hN g3) := zup_s _ _ _ _
  generalize sR g4 v 1 (some (hN g3)) = g5 at *
  rw [q_Pa_parseDescription_50 P5.1 C5.1 C5.2.1]
  -- the statements
  have len30 : ∀ {N : Nat → Int} {q : Int} {b : Bool}, fmOk N q b → (lst N q).length ≤ 30 := fun H => by
    unfold fmOk at H
    unfold lst
    rw [upto_len]
    simp only [List.length_nil]
    omega
  have hlo3 : lo ≤ hN g1 ∧ lo ≤ hN g3 := by omega
  have CP : CPS g5 I len p v lo s3 := by
    refine ⟨P5, C5, by omega, fun f3 => ?_⟩
    have f2 := (ff4.2 f3).1
    rw [d1, d2, d3, b1, b2, b3, a1, a2, a3, sn.1, sn.2.1, sn.2.2.1]
    have c0 : ∀ k, cntK R k (0 : Int).toNat = 0 := fun k => by have := cntK_b R k 0; show cntK R k 0 = 0; omega
    have X2 : FX g3 lo v 0 (lst s2.2.2.1.2.2.2 0) := ⟨hN g1, r30, FO0_g (L2 f2) G3 (fun k z => by omega) (fun k z => by omega), Or.inr hlo3.1, len30 (ff2.2 f2).2⟩
    have X3 : FX g5 lo v 0 (lst s3.2.2.1.2.2.2 0) := FX_l (FX_g (FX_g X2 G4 (nfx_A rfl o'.2.2.1) (by have := C3.2.1.2.1; omega) (fun z => by have := WAx (A := scrPf) rfl z; omega)) G5 (fun f hf k z => by omega) (by have := C4.2.1.2.1; omega) (fun z => by omega)) (fun i i0 i1 => ff4.1.2.2.2.2.1 i (Or.inl (by omega)))
    have X5 : FX g5 lo v 1 (lst s3.2.2.1.2.2.2 1) := ⟨hN g3, r51, FO0_g (L4 f3) G5 (fun k z => by omega) (fun k z => by omega), Or.inr hlo3.2, len30 (ff4.2 f3).2⟩
    have F3 := FS_lit P5.1 3 rfl
    refine ⟨⟨S5.1, S5.2.1, by decide, ⟨S5.2.2.1 0 (by decide), ?_, ?_⟩, fun s z0 z1 => by omega, fun i hi => ⟨(S5.2.2.2.2 i hi).2.2.1, (S5.2.2.2.2 i hi).2.2.2⟩⟩, ⟨fun s z0 z1 => by omega, fun i hi => ⟨⟨3, (S5.2.2.2.2 i hi).1, F3, Or.inl rfl⟩, ⟨3, (S5.2.2.2.2 i hi).2.1, F3, Or.inl rfl⟩⟩, fun i i0 i1 => S5.2.2.2.1 _ (by omega), X3, X5⟩, ?_, ?_, ?_⟩
    · rw [c0]; exact S5.2.2.1 1 (by decide)
    · rw [c0]; exact S5.2.2.1 2 (by decide)
    · show hI g5 5 6 = -1
      rw [gI G5 (by omega) (by omega), gI G4 (by omega) (WA_n rfl), gI G3 (by omega) (by omega), gI G2 (by omega) (WA_n rfl), gI G1 (by omega) (WA_n rfl)]
      exact q6
    · show hI g5 5 7 = 0
      rw [gI G5 (by omega) (by omega), gI G4 (by omega) (WA_n rfl), gI G3 (by omega) (by omega), gI G2 (by omega) (WA_n rfl), gI G1 (by omega) (WA_n rfl)]
      exact q7
    · unfold mkd
      rw [c0, c0, c0]; omega
  obtain ⟨g6, x3, e6, S6, G6⟩ := l_runC o (by omega) 800 s3 g5 0 CP V3 d4 (by have := d4.1; omega) (by decide) (by decide)
  have ok6 := runP_ok (I := I) 800 s3 V3 d4 (by have := d4.1; omega)
  have fin6 : (finP (runP I len 800 s3)).2.1.1 = 0 → INV len (finP (runP I len 800 s3)) := fun z => by
    unfold finP at z ⊢
    by_cases f : (runP I len 800 s3).2.1.1 = 0
    · rw [if_pos f] at z ⊢
      by_cases r : (runP I len 800 s3).2.2.2.1 = -1
      · rw [if_pos r]; exact (ok6 f).1
      · rw [if_neg r] at z; exact absurd z (errP_f (by decide) _)
    · rw [if_neg f] at z; exact absurd z f
  rw [e6]
  rw [hT] at S6 fin6
  obtain ⟨P6, C6, nb6, M6⟩ := S6
  have nb : lo ≤ hN g6 := C6.2.2.2.2
  have Gall : Gw (WPY p v) (0 + 0 + 2 + 0 + 2 + 0 + 6 * 800) 0 h g6 := Gw_m (Gw_t (Gw_t (Gw_t (Gw_t (Gw_t (Gw_t G0 G1 (fun a k _ z => Or.inl (WA_m rfl z))) G2 (fun a k _ z => Or.inl (WA_m rfl z))) G3 (fun a k _ z => Or.inr (Or.inr (Or.inl (by omega))))) G4 (fun a k _ z => Or.inl (WA_m rfl z))) G5 (fun a k _ z => Or.inr (Or.inr (Or.inl (by omega))))) G6 (fun a k _ z => WPX_Y z)) (fun _ _ _ z => z) (Nat.le_refl _) (Nat.le_refl _)
  have con : ∃ h2, zC 49 [zR (some p)] g6 = some (.inl none, h2) ∧ (T.2.1.1 = 0 → ∀ s, 0 ≤ s → s < T.2.2.1.1 → hI h2 (p + 8) s.toNat = thn T.2.2.1.2.2.1 s) ∧ Gw (fun a _ => a = p + 8) 0 0 g6 h2 := by
    by_cases f : T.2.1.1 = 0
    · have w : WS T.2.2.1.1 T.2.2.1.2.2.1 := by
        have := fin6 f
        obtain ⟨t, ⟨f, fa⟩, ⟨n, top, R', N'⟩, row, sec, last⟩ := T
        exact this.1.1
      obtain ⟨h2, e2, A, G⟩ := c_connect C6 (M6 f).1 w o
      exact ⟨h2, e2, fun _ => A, G⟩
    · obtain ⟨h2, e2, _, G⟩ := l_connect (p := p) (by omega) 24 0 g6 none C6.1 (by decide) (by decide)
      exact ⟨h2, by rw [q_P_connect C6.1]; exact e2, fun z => absurd z f, G⟩
  obtain ⟨h2, e8, A8, G8⟩ := con
  have n8 : hN h2 = hN g6 := by have := G8.1; omega
  have r5 : ∀ k, hI h2 5 k = hI g6 5 k := fun k => gI G8 (by omega) (by omega)
  have K8 := KC_g P6.1 G8 (fun b k hb hk z => kc_o o (a := b) (Or.inl (by omega)) hb hk)
  have Ks8 := KS_g P6.2.1 G8 (fun b k z => by omega)
  have P8 := PS_g C6.1 G8 (fun k _ z => by omega)
  have V8 := VS_g C6.2.1 G8 (fun k _ z => by omega)
  rw [e8, q_Pa_parseDescription_r108 K8 P8 V8]
  refine ⟨h2, rfl, ⟨K8, Ks8⟩, (r5 0).trans P6.2.2.1, ?_, fun f => ⟨?_, fun mb => ?_⟩, by omega, Gw_m (Gw_t Gall G8 (fun a k _ z => Or.inr (Or.inl (Or.inr (by omega))))) (fun _ _ _ z => z) (by omega) (by omega)⟩
  · rw [r5]
    by_cases f : T.2.1.1 = 0
    · rw [if_pos f]; exact (P6.2.2.2.2 f).1
    · rw [if_neg f]; exact P6.2.2.2.1 f
  · rw [n8]; exact (M6 f).2.2.2.2
  · have w := fin6 f
    have m6 := M6 f
    have A8 := A8 f
    obtain ⟨t, ⟨f, fa⟩, ⟨n, top, R', N'⟩, row, sec, last⟩ := T
    exact desc_done C6 m6.1 m6.2.1 w.1.1 w.1.2.1 o G8 A8 (fun a a0 a1 => mb a a0 (by omega))
end CDESC3

