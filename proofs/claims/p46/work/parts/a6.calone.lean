/-! The class: a text that is one formula. -/
section CALONE
variable {I : Nat → Int} {len : Int} {h h2 : zH}
abbrev scrPb : FA := [(5, some 0), (5, some 1), (7, some 0), (7, some 1), (7, some 3), (7, some 4), (7, some 7), (7, some 8), (8, none), (9, none)]
theorem c_beginC (K : KC h) (Ks : KS h) (hI1 : hI h 1 = I) (l0 : 0 ≤ len) (l1 : len ≤ 800) {p : Int × Int × (Nat → Int) × (Nat → Int)} {w : Int × Int × Int} : ∃ h2, zC 24 [zR (some 5), zI len] h = some (.inl none, h2) ∧ CPe h2 I len (tok I len false 0, (0, 0), p, w) ∧ Fr scrPb h h2 := by
  rw [q_Pa_begin K]
  have F1 : Fr [(5, some 0), (5, some 1)] h (sI (sI h 5 0 0) 5 1 (-1)) := Fr_I (Fr_I (Fr_r _ _) rfl) rfl
  have e0 : hI (sI (sI h 5 0 0) 5 1 (-1)) 5 0 = 0 := rfl
  have e1 : hI (sI (sI h 5 0 0) 5 1 (-1)) 5 1 = -1 := rfl
  generalize sI (sI h 5 0 0) 5 1 (-1) = g at *
  obtain ⟨h2, e2, T, F2⟩ := c_begin (KC_f K F1 rfl) (KS_f Ks F1 rfl) ((rI F1 1 rfl).trans hI1) l0 l1
  have K2 := T.1.1
  rw [e2, q_Pa_begin_r18 K2]
  exact ⟨h2, rfl, ⟨K2, T.1.2.1, (fI F2 5 0 rfl).trans e0, fun z => absurd rfl z, fun _ => ⟨(fI F2 5 1 rfl).trans e1, T⟩⟩, Fr_t (Fr_m F1 rfl) (Fr_m F2 rfl)⟩
theorem WA_big {A : FA} (o : (A.all fun x => Nat.blt x.1 163) = true) {a : Nat} (ha : 163 ≤ a) (k : Nat) : ¬ WA A a k := fun z => by
  simp only [WA, inA, List.any_eq_true, List.all_eq_true] at *
  obtain ⟨x, hx, e1⟩ := z
  have := o x hx
  simp only [inB, Bool.and_eq_true] at e1
  have e2 := Nat.eq_of_beq_eq_true e1.1
  rw [Nat.blt_eq] at this
  omega
theorem FO0_g {W : Nat → Nat → Prop} {d e f : Nat} {l : List Int} (S : FO0 h f l) (G : Gw W d e h h2) (w0 : ∀ k, ¬ W f k) (w1 : ∀ k, ¬ W (f + 1) k) : FO0 h2 f l := by
  obtain ⟨a, x, y⟩ := S
  have := a.2.2.2
  exact ⟨FS_g a G (w0 0), by rw [gL G (by omega)]; exact x, by rw [grI G (by omega) w1]; exact y⟩
theorem c_aloneC {n top : Int} {R N : Nat → Int} {w : Int × Int × Int} {q what : Int} (P : CPe h I len (tok I len false 0, (0, 0), (n, top, R, N), w)) (hz : hN h + 2 ≤ zVB) (hw : what = 0 ∨ what = 1) : ∃ h2, zC 34 [zR (some 5), zI what] h = some (.inl (some (zR (some (hN h)))), h2) ∧ hI h2 5 0 = alE I len q what N ∧ hI h2 5 1 = (if alE I len q what N = 0 then -1 else alA I len q what N) ∧ FS h2 (hN h) ∧ (alE I len q what N = 0 → FO0 h2 (hN h) (lst (alN I len q what N) q)) ∧ hN h2 = hN h + 2 ∧ Gw (WA scrPf) 2 0 h h2 := by
  obtain ⟨g, eg, C, S, L, nN, G⟩ := c_formC (q := q) P hz hw
  have ef : forF I len q what (tok I len false 0, (0, 0), (n, top, R, N), w) = inj n top R w (forT I len q what N) := by
    unfold forF
    rw [if_pos rfl]
    exact forP_T
  rw [ef] at C L
  rw [q_Pa_parseAlone P.1, eg, q_Pa_parseAlone_r5 C.1 S]
  unfold alE alA alN lst
  generalize forT I len q what N = x at *
  obtain ⟨t, ⟨f, fa⟩, M⟩ := x
  have L : f = 0 → FO0 g (hN h) (upto M ((31 * q).toNat + 1) (M (31 * q).toNat).toNat []) := L
  have c0 : hI g 5 0 = f := C.2.2.1
  simp only
  by_cases h0 : f = 0
  · subst h0
    have tt : hI g 7 0 = t.1 := CPe_t C rfl
    have c1 := (C.2.2.2.2 rfl).1
    rw [tt, if_pos rfl, if_pos rfl]
    by_cases c2 : t.1 = -2
    · rw [if_pos c2, if_pos c2, if_pos rfl]
      exact ⟨g, rfl, c0, c1, S, fun _ => L rfl, nN, G⟩
    · obtain ⟨h2, e2, P2, F2⟩ := c_errC C (c := 1) (by decide)
      have nk : 163 ≤ hN h := P.1.1
      have G2 : Gw (WA scrPf) 0 0 g h2 := Gw_of (Fr_m F2 (B := scrPf) rfl) (fun _ _ z => z)
      rw [if_neg c2, if_neg c2, if_neg (by decide), e2, q_Pa_parseAlone_r23 P2.1 (FS_g S G2 (WA_big rfl nk 0))]
      exact ⟨h2, rfl, P2.2.2.1, P2.2.2.2.1 (errP_f (by decide) _), FS_g S G2 (WA_big rfl nk 0), fun z => absurd z (by decide), F2.1.trans nN, Gw_m (Gw_t G G2 (fun _ _ _ z => z)) (fun _ _ _ z => z) (by omega) (by omega)⟩
  · rw [if_neg h0, if_neg h0, if_neg h0]
    have c1 := C.2.2.2.1 h0
    by_cases c2 : hI g 7 0 = -2
    · rw [if_pos c2]
      exact ⟨g, rfl, c0, c1, S, fun z => absurd z h0, nN, G⟩
    · obtain ⟨h2, e2, P2, F2⟩ := c_errC C (c := 1) (by decide)
      have nk : 163 ≤ hN h := P.1.1
      have G2 : Gw (WA scrPf) 0 0 g h2 := Gw_of (Fr_m F2 (B := scrPf) rfl) (fun _ _ z => z)
      have ex : errP 1 (inj n top R w (t, (f, fa), M)) = inj n top R w (t, (f, fa), M) := by
        unfold errP inj
        simp only
        rw [if_neg h0]
      rw [ex] at P2
      rw [if_neg c2, e2, q_Pa_parseAlone_r23 P2.1 (FS_g S G2 (WA_big rfl nk 0))]
      exact ⟨h2, rfl, P2.2.2.1, P2.2.2.2.1 h0, FS_g S G2 (WA_big rfl nk 0), fun z => absurd z h0, F2.1.trans nN, Gw_m (Gw_t G G2 (fun _ _ _ z => z)) (fun _ _ _ z => z) (by omega) (by omega)⟩
end CALONE

