/-! The reference: texts loaded, and changes. -/
section LOAD
variable {I : Nat → Int} {len : Int}
def NZ (N : Nat → Int) : Prop := ∀ k : Nat, 2342 ≤ k → N k = 0
def RZ (R : Nat → Int) : Prop := ∀ k : Nat, 240 ≤ k → R k = 0
theorem NZ_up {N : Nat → Int} {i : Nat} {v : Int} (H : NZ N) (h : i < 2342) : NZ (upN N i v) := fun k hk => by rw [upN_n _ _ (by omega)]; exact H k hk
theorem RZ_up {R : Nat → Int} {i : Nat} {v : Int} (H : RZ R) (h : i < 240) : RZ (upN R i v) := fun k hk => by rw [upN_n _ _ (by omega)]; exact H k hk
def ZP : PSt → Prop
  | (_, _, (_, _, R, N), _) => RZ R ∧ NZ N
theorem ZP_kep {b : Nat} {s s2 : PSt} (H : kepP len b s s2) (hb : b ≤ 2311) (Z : ZP s) : ZP s2 := by
  obtain ⟨t, ⟨f, fa⟩, ⟨n, top, R, N⟩, row, sec, last⟩ := s
  obtain ⟨t2, ⟨f2, fa2⟩, ⟨n2, top2, R2, N2⟩, row2, sec2, last2⟩ := s2
  obtain ⟨_, _, c3, _, c5, _⟩ := H
  have c3 : R2 = R := c3
  obtain ⟨z1, z2⟩ := Z
  refine ⟨by rw [c3]; exact z1, fun k hk => ?_⟩
  exact (c5 k (Or.inr (by omega))).trans (z2 k hk)
theorem ZP_adv {s : PSt} (Z : ZP s) : ZP (advP I len s) := by
  obtain ⟨t, ⟨f, fa⟩, ⟨n, top, R, N⟩, row, sec, last⟩ := s
  exact Z
theorem ZP_err {s : PSt} (Z : ZP s) (c : Int) : ZP (errP c s) := by
  obtain ⟨t, ⟨f, fa⟩, ⟨n, top, R, N⟩, row, sec, last⟩ := s
  unfold errP
  simp only
  split <;> exact Z
theorem ZP_tak {s : PSt} (Z : ZP s) (w : Int) : ZP (takP I len w s) := by
  unfold takP
  split
  · split
    · exact ZP_adv Z
    · exact ZP_err Z 1
  · exact Z
theorem ZP_opn {s : PSt} (Z : ZP s) (its : Int) : ZP (opnP its s) := by
  obtain ⟨t, ⟨f, fa⟩, ⟨n, top, R, N⟩, row, sec, last⟩ := s
  exact Z
theorem ZP_var {s : PSt} (Z : ZP s) {i v : Int} (h0 : 0 ≤ i) (h1 : i < 24) : ZP (varP i v s) := by
  obtain ⟨t, ⟨f, fa⟩, ⟨n, top, R, N⟩, row, sec, last⟩ := s
  exact ⟨RZ_up Z.1 (by omega), Z.2⟩
theorem ZP_com {s : PSt} (Z : ZP s) (V : INV len s) (h24 : s.2.2.1.1 ≠ 24) (kd : Int) : ZP (comP kd s) := by
  obtain ⟨t, ⟨f, fa⟩, ⟨n, top, R, N⟩, row, sec, last⟩ := s
  obtain ⟨z1, z2⟩ := Z
  have V1 : IVR n top R row sec last := V.1
  have w0 := V1.1.1
  have hrow := V1.2.2.2.1
  have hlast := V1.2.2.2.2.2.1
  have h24 : n ≠ 24 := h24
  refine ⟨?_, NZ_up (NZ_up z2 (by omega)) (by omega)⟩
  have a1 : RZ (rw2R n row (rw1R kd n R)) := RZ_up (RZ_up (RZ_up (RZ_up (RZ_up (RZ_up (RZ_up (RZ_up (RZ_up (RZ_up z1 (by omega)) (by omega)) (by omega)) (by omega)) (by omega)) (by omega)) (by omega)) (by omega)) (by omega)) (by omega)
  have a2 : RZ (lnkR n row sec last (rw2R n row (rw1R kd n R))) := by
    unfold lnkR
    split
    · split
      · exact a1
      · split
        · exact RZ_up a1 (by omega)
        · exact RZ_up a1 (by omega)
    · exact RZ_up a1 (by omega)
  unfold comR cnuR
  split
  · exact a2
  · split
    · exact RZ_up a2 (by omega)
    · exact RZ_up a2 (by omega)
theorem kep_com {s : PSt} (V : INV len s) (kd : Int) : TV len (comP kd s).1 := by
  obtain ⟨t, ⟨f, fa⟩, ⟨n, top, R, N⟩, row, sec, last⟩ := s
  exact V.2.2
theorem INV_n {s : PSt} (V : INV len s) : 0 ≤ s.2.2.1.1 ∧ s.2.2.1.1 ≤ 24 := by
  obtain ⟨t, ⟨f, fa⟩, ⟨n, top, R, N⟩, row, sec, last⟩ := s
  exact V.1.1.1
theorem var_1 (i v : Int) (s : PSt) : (varP i v s).1 = s.1 ∧ (varP i v s).2.1 = s.2.1 := by
  obtain ⟨t, ⟨f, fa⟩, ⟨n, top, R, N⟩, row, sec, last⟩ := s
  exact ⟨rfl, rfl⟩
theorem ZP_for {s : PSt} (Z : ZP s) (T : TV len s.1) (hf : s.2.1.1 = 0) {q w : Int} (h0 : 0 ≤ q) (h1 : q < 74) : ZP (forP I len q w s) := ZP_kep (forP_ok hf T).1 (by omega) Z
theorem ZP_forF {s : PSt} (Z : ZP s) (T : TV len s.1) {q w : Int} (h0 : 0 ≤ q) (h1 : q < 74) : ZP (forF I len q w s) := ZP_kep (forF_ok T).1 (by omega) Z
theorem adv_T {s : PSt} (T : TV len s.1) : TV len (advP I len s).1 := (kep_adv (b := 0) T).2.2.2.2.2.1
theorem tak_T {s : PSt} {w : Int} (T : TV len s.1) : TV len (takP I len w s).1 := (kep_tak (b := 0) T).2.2.2.2.2.1
theorem ZP_stp {s : PSt} (Z : ZP s) (V : INV len s) (hf : s.2.1.1 = 0) : ZP (stpP I len s) := by
  have hn := INV_n V
  unfold stpP
  by_cases c : 17 ≤ s.1.1 ∧ s.1.1 ≤ 20
  · rw [if_pos c]
    unfold stmP
    by_cases h24 : s.2.2.1.1 = 24
    · rw [if_pos h24]; exact ZP_err Z 3
    rw [if_neg h24]
    have Tc := fun kd => kep_com V kd
    have Ta := fun kd => adv_T (I := I) (Tc kd)
    have fa := fun kd => (advP_f (I := I) (len := len) (comP kd s)).trans (comP_1 kd s).2
    by_cases c17 : s.1.1 = 17
    · rw [if_pos c17]
      unfold setP
      split
      · refine ZP_for (ZP_adv (ZP_var (ZP_adv (ZP_com Z V h24 0)) (by omega) (by omega))) (adv_T ?_) ?_ (by omega) (by omega)
        · rw [(var_1 _ _ _).1]; exact Ta 0
        · rw [advP_f, (var_1 _ _ _).2, fa]; exact hf
      · exact ZP_err (ZP_adv (ZP_com Z V h24 0)) 1
    rw [if_neg c17]
    by_cases c18 : s.1.1 = 18
    · rw [if_pos c18]
      unfold iffP
      exact ZP_opn (ZP_for (ZP_adv (ZP_com Z V h24 1)) (Ta 1) (by rw [fa]; exact hf) (by omega) (by omega)) _
    rw [if_neg c18]
    by_cases c19 : s.1.1 = 19
    · rw [if_pos c19]
      unfold whlP
      have z3 := ZP_for (I := I) (q := 2 + s.2.2.1.1) (w := 1) (ZP_adv (I := I) (ZP_com Z V h24 2)) (Ta 2) (by rw [fa]; exact hf) (by omega) (by omega)
      have t3 := (forP_ok (I := I) (q := 2 + s.2.2.1.1) (what := 1) (s := advP I len (comP 2 s)) (by rw [fa]; exact hf) (Ta 2)).1.2.2.2.2.2.1
      have z4 := ZP_tak (I := I) (len := len) z3 23
      have t4 := tak_T (I := I) (w := 23) t3
      have z5 := ZP_forF (I := I) (q := 26 + s.2.2.1.1) (w := 1) z4 t4 (by omega) (by omega)
      have t5 := (forF_ok (I := I) (q := 26 + s.2.2.1.1) (what := 1) t4).1.2.2.2.2.2.1
      have z6 := ZP_tak (I := I) (len := len) z5 24
      have t6 := tak_T (I := I) (w := 24) t5
      exact ZP_opn (ZP_forF z6 t6 (by omega) (by omega)) _
    rw [if_neg c19]
    exact ZP_adv (ZP_com Z V h24 3)
  · rw [if_neg c]
    split
    · refine ZP_adv ?_
      obtain ⟨t, ⟨f, fa⟩, ⟨n, top, R, N⟩, row, sec, last⟩ := s
      unfold cltP
      simp only
      split <;> exact Z
    · exact ZP_err Z 1
theorem ZP_run : ∀ (m : Nat) (s : PSt), ZP s → (s.2.1.1 = 0 → INV len s) → ZP (runP I len m s)
  | 0, s, Z, V => Z
  | m + 1, s, Z, V => by
    rw [runP]
    by_cases c : s.2.1.1 = 0
    · rw [if_pos c]
      by_cases d : s.1.1 = -2
      · rw [if_pos d]; exact Z
      · rw [if_neg d]
        exact ZP_run m _ (ZP_stp Z (V c) c) (fun q => ((stpP_ok (V c) c).2 q).1)
    · rw [if_neg c]; exact Z
/-- the reading of a text begins so -/
def begS (I : Nat → Int) (len fa : Int) (R : Nat → Int) : PSt := (tok I len false 0, (0, fa), (0, -1, R, fun _ => 0), -1, 0, -1)
theorem IVR_0 (R : Nat → Int) : IVR 0 (-1) R (-1) 0 (-1) := by
  refine ⟨⟨by decide, fun s a b => by omega, fun s k a b => by omega⟩, fun s a b => by omega, Or.inl ⟨rfl, rfl⟩, Or.inl rfl, Or.inl rfl, Or.inl ⟨rfl, rfl⟩, fun q => absurd rfl q, fun k q => ?_, fun s a b => by omega, fun s a b => by omega⟩
  exfalso
  have e : ∀ k, up R k (-1) = -1 := fun k => by
    induction k with
    | zero => rfl
    | succ k ih => rw [up, ih, if_pos rfl]
  exact q (e k)
theorem txt_V3 {fa : Int} {R : Nat → Int} (h0 : 0 ≤ len) : (forF I len 1 1 (forF I len 0 1 (takP I len 25 (begS I len fa R)))).2.1.1 = 0 → INV len (forF I len 1 1 (forF I len 0 1 (takP I len 25 (begS I len fa R)))) := fun q => by
  have T0 := (tok_TV (I := I) (len := len) (b := false) (e := 0) (Int.le_refl _) h0).1
  have T0 : TV len (begS I len fa R).1 := T0
  have K1 := kep_tak (I := I) (b := 0) (w := 25) T0
  have K2 := forF_ok (I := I) (q := 0) (what := 1) K1.2.2.2.2.2.1
  have K3 := forF_ok (I := I) (q := 1) (what := 1) K2.1.2.2.2.2.2.1
  obtain ⟨f2, m1⟩ := K3.2 q
  obtain ⟨f1, m0⟩ := K2.2 f2
  have m0 : fmOk (forF I len 1 1 (forF I len 0 1 (takP I len 25 (begS I len fa R)))).2.2.1.2.2.2 0 true := fmOk_congr (fun i x y => K3.1.2.2.2.2.1 i (Or.inl (by simp at y ⊢; omega))) m0
  obtain ⟨a1, a2, a3, a4, a5, a6, a7⟩ := K1
  obtain ⟨⟨b1, b2, b3, b4, b5, b6, b7⟩, b8⟩ := K2
  obtain ⟨⟨c1, c2, c3, c4, c5, c6, c7⟩, c8⟩ := K3
  generalize forF I len 1 1 (forF I len 0 1 (takP I len 25 (begS I len fa R))) = s3 at *
  generalize forF I len 0 1 (takP I len 25 (begS I len fa R)) = s2 at *
  generalize takP I len 25 (begS I len fa R) = s1 at *
  obtain ⟨t, ⟨f, fa2⟩, ⟨n, top, R2, N⟩, w⟩ := s3
  simp only at *
  have hn : n = 0 := by rw [c1, b1, a1]; rfl
  have ht : top = -1 := by rw [c2, b2, a2]; rfl
  have hw : w = (-1, 0, -1) := by rw [c4, b4, a4]; rfl
  subst hn ht hw
  exact ⟨IVR_0 R2, ⟨m0, m1, fun s x y => by omega⟩, c6⟩
/-- what a whole text gives -/
theorem txtP_ok {fa : Int} {R : Nat → Int} (h0 : 0 ≤ len) (h8 : len ≤ 800) (hR : RZ R) : ZP (txtP I len (begS I len fa R)) ∧ ((txtP I len (begS I len fa R)).2.1.1 = 0 → INV len (txtP I len (begS I len fa R)) ∧ (txtP I len (begS I len fa R)).2.2.2.1 = -1 ∧ Prg (txtP I len (begS I len fa R)).2.2.1.1 (txtP I len (begS I len fa R)).2.2.1.2.1 (txtP I len (begS I len fa R)).2.2.1.2.2.1 (txtP I len (begS I len fa R)).2.2.1.2.2.2) := by
  have T0 := (tok_TV (I := I) (len := len) (b := false) (e := 0) (Int.le_refl _) h0).1
  have Z0 : ZP (begS I len fa R) := ⟨hR, fun _ _ => rfl⟩
  have T0 : TV len (begS I len fa R).1 := T0
  have K1 := kep_tak (I := I) (b := 0) (w := 25) T0
  have Z1 := ZP_tak (I := I) (len := len) Z0 25
  have q1 : (takP I len 25 (begS I len fa R)).2.2.1.2.2.2 = (begS I len fa R).2.2.1.2.2.2 := by
    have h2 := kep_tak (I := I) (b := 100) (w := 25) T0
    funext i
    by_cases z : i < 100
    · exact h2.2.2.2.2.1 i (Or.inl z)
    · exact K1.2.2.2.2.1 i (Or.inr (by omega))
  have K2 := forF_ok (I := I) (q := 0) (what := 1) K1.2.2.2.2.2.1
  have Z2 := ZP_forF (I := I) (q := 0) (w := 1) Z1 K1.2.2.2.2.2.1 (by decide) (by decide)
  have K3 := forF_ok (I := I) (q := 1) (what := 1) K2.1.2.2.2.2.2.1
  have Z3 := ZP_forF (I := I) (q := 1) (w := 1) Z2 K2.1.2.2.2.2.2.1 (by decide) (by decide)
  have V3 := txt_V3 (I := I) (fa := fa) (R := R) h0
  have Z4 := ZP_run (I := I) 800 _ Z3 V3
  have R4 := runP_ok (I := I) 800 _ V3 K3.1.2.2.2.2.2.1 (by have := K3.1.2.2.2.2.2.1.1; omega)
  unfold txtP
  generalize runP I len 800 (forF I len 1 1 (forF I len 0 1 (takP I len 25 (begS I len fa R)))) = s4 at *
  unfold finP
  by_cases c : s4.2.1.1 = 0
  · rw [if_pos c]
    by_cases d : s4.2.2.2.1 = -1
    · rw [if_pos d]
      refine ⟨Z4, fun _ => ⟨(R4 c).1, d, ?_⟩⟩
      obtain ⟨t, ⟨f, fa2⟩, ⟨n, top, R2, N⟩, row, sec, last⟩ := s4
      obtain ⟨v1, v2, _⟩ := (R4 c).1
      exact ⟨v1.1, v2, v1.2.1, v1.2.2.1⟩
    · rw [if_neg d]
      exact ⟨ZP_err Z4 1, fun q => absurd q (errP_f (by decide) s4)⟩
  · rw [if_neg c]
    exact ⟨Z4, fun q => absurd q c⟩
end LOAD

