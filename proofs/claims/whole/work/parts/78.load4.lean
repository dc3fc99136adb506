/-! The reference: formulas set, undo, slots, input. -/
section LOAD4
variable {I : Nat → Int} {len : Int}
/-- a text that is one formula -/
def alnP (I : Nat → Int) (len q what : Int) (n top : Int) (R N : Nat → Int) (row sec last : Int) : PSt :=
  if (forP I len q what (tok I len false 0, (0, 0), (n, top, R, N), row, sec, last)).2.1.1 = 0 ∧ (forP I len q what (tok I len false 0, (0, 0), (n, top, R, N), row, sec, last)).1.1 ≠ -2 then errP 1 (forP I len q what (tok I len false 0, (0, 0), (n, top, R, N), row, sec, last)) else forP I len q what (tok I len false 0, (0, 0), (n, top, R, N), row, sec, last)
/-- the token, the error, the formulas: all that the reading of a formula changes -/
def fmT (I : Nat → Int) (len : Int) (b : Nat) : Nat → Nat → Nat → TK × (Int × Int) × (Nat → Int) → TK × (Int × Int) × (Nat → Int)
  | 0, _, _, s => s
  | m + 1, e, c, (t, (f, fa), N) => if e + c = 0 then (t, (f, fa), N) else if fmE t.1 e (N b) = 0 then fmT I len b m (e - (if 0 < e then 1 else 0) + exB t.1) (c - (if 0 < e then 0 else 1) + cdB t.1) (tok I len true t.2.2, (f, fa), upN (upN N b (N b + 1)) (b + (N b + 1).toNat) t.1) else (t, (if f = 0 then (fmE t.1 e (N b), t.2.1) else (f, fa)), N)
def inj (n top : Int) (R : Nat → Int) (w : Int × Int × Int) (x : TK × (Int × Int) × (Nat → Int)) : PSt := (x.1, x.2.1, (n, top, R, x.2.2), w)
theorem fmS_T {n top : Int} {R : Nat → Int} {w : Int × Int × Int} {b : Nat} : ∀ (m e c : Nat) (x : TK × (Int × Int) × (Nat → Int)), fmS I len b m e c (inj n top R w x) = inj n top R w (fmT I len b m e c x)
  | 0, _, _, _ => rfl
  | m + 1, e, c, (t, (f, fa), N) => by
    rw [fmS, fmT]
    by_cases h1 : e + c = 0
    · rw [if_pos h1, if_pos h1]
    · rw [if_neg h1, if_neg h1]
      show (if fmE t.1 e (N b) = 0 then fmS I len b m _ _ (inj n top R w (tok I len true t.2.2, (f, fa), upN (upN N b (N b + 1)) (b + (N b + 1).toNat) t.1)) else errP (fmE t.1 e (N b)) (t, (f, fa), (n, top, R, N), w)) = _
      by_cases h2 : fmE t.1 e (N b) = 0
      · rw [if_pos h2, if_pos h2, fmS_T m]
        rfl
      · rw [if_neg h2, if_neg h2]
        unfold errP inj
        by_cases h3 : f = 0
        · rw [if_pos h3]; exact if_pos h3
        · rw [if_neg h3]; exact if_neg h3
/-- a formula alone: token, error, formulas -/
def forT (I : Nat → Int) (len : Int) (q what : Int) (N : Nat → Int) : TK × (Int × Int) × (Nat → Int) := fmT I len (31 * q).toNat 32 (if what = 0 then 1 else 0) (if what = 0 then 0 else 1) (tok I len false 0, (0, 0), upN N (31 * q).toNat 0)
theorem forP_T {n top : Int} {R N : Nat → Int} {w : Int × Int × Int} {q what : Int} : forP I len q what (tok I len false 0, (0, 0), (n, top, R, N), w) = inj n top R w (forT I len q what N) := by
  unfold forP forT
  rw [← fmS_T]
  rfl
/-- the error of a text that shall be one formula; its place -/
def alE (I : Nat → Int) (len : Int) (q what : Int) (N : Nat → Int) : Int := if (forT I len q what N).2.1.1 = 0 then (if (forT I len q what N).1.1 = -2 then 0 else 1) else (forT I len q what N).2.1.1
def alA (I : Nat → Int) (len : Int) (q what : Int) (N : Nat → Int) : Int := if (forT I len q what N).2.1.1 = 0 then (forT I len q what N).1.2.1 else (forT I len q what N).2.1.2
def alN (I : Nat → Int) (len : Int) (q what : Int) (N : Nat → Int) : Nat → Int := (forT I len q what N).2.2
theorem alT_ok {N : Nat → Int} {q what : Int} (h0 : 0 ≤ len) : (∀ i, i < (31 * q).toNat ∨ (31 * q).toNat + 31 ≤ i → alN I len q what N i = N i) ∧ (alE I len q what N = 0 → fmOk (alN I len q what N) q (decide (what ≠ 0))) := by
  have T0 := (tok_TV (I := I) (len := len) (b := false) (e := 0) (Int.le_refl _) h0).1
  have H := forP_ok (I := I) (len := len) (q := q) (what := what) (s := (tok I len false 0, (0, 0), (0, 0, N, N), 0, 0, 0)) rfl T0
  rw [forP_T] at H
  refine ⟨H.1.2.2.2.2.1, fun e => H.2 ?_⟩
  unfold alE at e
  show (forT I len q what N).2.1.1 = 0
  by_cases c : (forT I len q what N).2.1.1 = 0
  · exact c
  · rw [if_neg c] at e; exact absurd e c
/-- what stands behind a formula's text -/
def frmS (q what len : Int) : MSt → MSt
  | (n, top, R, N, c, Ol, s0, s1, I, _, O, _, _) => if alE I len q what N = 0 then (n, top, R, alN I len q what N, psc c, psh N Ol, s0, s1, I, 0, O, 0, -1) else (n, top, R, N, c, Ol, s0, s1, I, 0, O, alE I len q what N, alA I len q what N)
theorem c_setsForm {h : zH} {σ : MSt} (M : MM h σ) (S : SS σ) {q what len : Int} (hl : 0 ≤ len ∧ len ≤ σ.2.2.2.2.2.2.2.2.2.1) (hq : 0 ≤ q) (hq2 : q < 74) (hw : what = 0 ∨ what = 1) : ∃ h2, zC 340 [zR (some 177), zI q, zI what, zI len] h = some (.inl (some (zI (if alE σ.2.2.2.2.2.2.2.2.1 len q what σ.2.2.2.1 = 0 then 1 else 0))), h2) ∧ MM h2 (frmS q what len σ) ∧ Fr scrA h h2 := by
  obtain ⟨n, top, R, N, c, Ol, s0, s1, I, m, O, ec, ep⟩ := σ
  obtain ⟨⟨K, m1, m2, m3, m4⟩, ⟨m5, m6⟩, ⟨m7, m8, m9⟩, ⟨m10, m11⟩, m12, m13, m14⟩ := id M
  obtain ⟨P, rz, nz, hc10, _, _, hm⟩ := id S
  have hl : 0 ≤ len ∧ len ≤ m := hl
  obtain ⟨h1, e1, A1, B1, x11, x13, F1⟩ := c_putsAside K
  have K1 := KM_f K F1 rfl
  obtain ⟨h2, e2, T2, f2, F2⟩ := c_begins (I := I) (len := len) K1 ((rI F1 185 rfl).trans m10) hl.1 (by omega)
  have K2 := KM_f K1 F2 rfl
  have P2 : PM h2 I len (tok I len false 0, (0, 0), (n, top, R, N), hI h2 177 44, hI h2 177 45, hI h2 177 46) := ⟨K2, T2, f2, fun q => absurd rfl q, ⟨(fI F2 177 10 rfl).trans ((fI F1 177 10 rfl).trans m1), (fI F2 177 12 rfl).trans ((fI F1 177 12 rfl).trans m2), (rI F2 183 rfl).trans ((rI F1 183 rfl).trans m3), (rI F2 179 rfl).trans ((rI F1 179 rfl).trans m4)⟩, rfl, rfl, rfl⟩
  obtain ⟨h3, e3, P3, F3⟩ := c_readsForm P2 rfl (q := q) (what := what) hq hq2 hw
  rw [forP_T] at P3
  have ok := alT_ok (I := I) (len := len) (N := N) (q := q) (what := what) hl.1
  unfold alN at ok
  have F13 : Fr scrA h h3 := Fr_t (Fr_m F1 rfl) (Fr_t (Fr_m F2 rfl) (Fr_m F3 rfl))
  -- the error, reported
  have err : ∃ h4, zBack zY 340 12 15 [some (zR (some 177)), some (zI q), some (zI what), some (zI len), none] [] (some (.inl none, h3)) = zBack zY 340 35 38 [some (zR (some 177)), some (zI q), some (zI what), some (zI len), none] [] (zC 237 [zR (some 177)] h4) ∧ KM h4 ∧ hI h4 177 41 = alE I len q what N ∧ (alE I len q what N ≠ 0 → hI h4 177 42 = alA I len q what N) ∧ hI h4 179 = (forT I len q what N).2.2 ∧ Fr [(177, some 41), (177, some 42)] h3 h4 := by
    have K3 := PM_K P3
    have f3 : hI h3 177 41 = (forT I len q what N).2.1.1 := PM_F P3
    have t3 := TKM_end (PM_T P3)
    have a3 : (forT I len q what N).2.1.1 ≠ 0 → hI h3 177 42 = (forT I len q what N).2.1.2 := P3.2.2.2.1
    rw [q_M_setsForm_r15 K3, f3]
    unfold alE alA
    by_cases c1 : (forT I len q what N).2.1.1 = 0
    · rw [if_pos c1, if_pos c1, if_pos c1]
      by_cases c2 : (forT I len q what N).1.1 = -2
      · rw [if_pos (t3.2 c2), if_pos c2]
        exact ⟨h3, rfl, K3, f3.trans c1, fun q => absurd rfl q, PM_N P3, Fr_r _ _⟩
      · rw [if_neg (fun e => c2 (t3.1 e)), if_neg c2]
        obtain ⟨h4, e4, P4, F4⟩ := c_errs P3 1
        have n4 : hI h4 179 = (forT I len q what N).2.2 := (rI F4 179 rfl).trans (PM_N P3)
        rw [e4, q_M_setsForm_r34 (PM_K P4)]
        have ee : errP 1 (inj n top R (hI h2 177 44, hI h2 177 45, hI h2 177 46) (forT I len q what N)) = inj n top R (hI h2 177 44, hI h2 177 45, hI h2 177 46) ((forT I len q what N).1, (1, (forT I len q what N).1.2.1), (forT I len q what N).2.2) := by
          generalize forT I len q what N = x at *
          obtain ⟨t, ⟨f, fa⟩, N2⟩ := x
          unfold inj errP
          have c1 : f = 0 := c1
          simp only
          rw [if_pos c1]
        rw [ee] at P4
        exact ⟨h4, rfl, PM_K P4, PM_F P4, fun _ => P4.2.2.2.1 (by show (1 : Int) ≠ 0; decide), n4, F4⟩
    · rw [if_neg c1, if_neg c1, if_neg c1]
      exact ⟨h3, rfl, K3, f3, a3, PM_N P3, Fr_r _ _⟩
  obtain ⟨h4, e4, K4, f4, a4, n4, F4⟩ := err
  obtain ⟨h5, e5, x15, x18, x19, F5⟩ := c_reports K4 f4 a4
  have K5 := KM_f K4 F5 rfl
  obtain ⟨h6, e6, A6, F6⟩ := l_q_M_setsForm_41 (q := q) (w := what) (l := len) hq hq2 31 0 h5 K5 (by omega) (by omega)
  have K6 := KM_f K5 F6 rfl
  obtain ⟨h7, e7, A7, B7, y10, y12, F7⟩ := c_putsBack K6
  have K7 := KM_f K6 F7 rfl
  have F46 : Fr [(177, some 41), (177, some 42), (177, some 15), (177, some 18), (177, some 19), (191, none)] h3 h6 := Fr_t (Fr_m F4 rfl) (Fr_t (Fr_m F5 rfl) (Fr_m F6 rfl))
  have F16 : Fr (scrPs ++ [(177, some 15), (177, some 18), (177, some 19), (191, none)]) h1 h6 := Fr_t (Fr_m F2 rfl) (Fr_t (Fr_m F3 rfl) (Fr_m F46 rfl))
  have F06 : Fr scrA h h6 := Fr_t (Fr_m F1 rfl) (Fr_m F16 rfl)
  have F07 : Fr scrA h h7 := Fr_t F06 (Fr_m F7 rfl)
  have n6 : hI h6 179 = (forT I len q what N).2.2 := (rI F6 179 rfl).trans ((rI F5 179 rfl).trans n4)
  have nz6 : ∀ k, 2342 ≤ k → hI h6 179 k = 0 := fun k hk => by rw [n6, ok.1 k (by omega)]; exact nz k hk
  have r6 : hI h6 183 = R := (rI F46 183 rfl).trans (P3.2.2.2.2.1.2.2.1)
  have M7 : MM h7 (n, top, R, N, c, Ol, s0, s1, I, 0, O, alE I len q what N, if alE I len q what N = 0 then -1 else alA I len q what N) := by
    refine ⟨⟨K7, ?_, ?_, ?_, ?_⟩, ⟨?_, ?_⟩, ⟨?_, ?_, ?_⟩, ⟨?_, ?_⟩, ?_, ?_, ?_⟩
    · rw [y10, fI F16 177 11 rfl, x11, m1]
    · rw [y12, fI F16 177 13 rfl, x13, m2]
    · funext k
      rw [B7]
      by_cases d : k < 240
      · rw [if_pos d, rI F16 184 rfl, B1 k d, m3]
      · rw [if_neg d, r6]
    · funext k
      rw [A7]
      by_cases d : k < 2342
      · rw [if_pos d, rI F16 180 rfl, A1 k d, m4]
      · rw [if_neg d, nz6 k (by omega), nz k (by omega)]
    · rw [fI F7 177 5 rfl, fI F16 177 5 rfl, fI F1 177 5 rfl, m5]
    · rw [rI F7 181 rfl, rI F16 181 rfl, rI F1 181 rfl]; exact m6
    · rw [fI F7 177 7 rfl, fI F16 177 7 rfl, fI F1 177 7 rfl, m7]
    · unfold svB; rw [rI F7 182 rfl, rI F16 182 rfl, rI F1 182 rfl]; exact m8
    · unfold svB; rw [rI F7 182 rfl, rI F16 182 rfl, rI F1 182 rfl]; exact m9
    · rw [rI F7 185 rfl, rI F16 185 rfl, rI F1 185 rfl]; exact m10
    · rw [fI F7 177 15 rfl, fI F6 177 15 rfl]; exact x15
    · exact OU_f (OU_f (OU_f m12 F1 rfl rfl) F16 rfl rfl) F7 rfl rfl
    · rw [fI F7 177 18 rfl, fI F6 177 18 rfl]; exact x18
    · rw [fI F7 177 19 rfl, fI F6 177 19 rfl]; exact x19
  have f7 : hI h7 177 41 = alE I len q what N := (fI F7 177 41 rfl).trans ((fI F6 177 41 rfl).trans ((fI F5 177 41 rfl).trans f4))
  rw [q_M_setsForm K, e1, q_M_setsForm_r4 K1, e2, q_M_setsForm_r9 K2, e3, e4, e5, q_M_setsForm_r38 K5, e6, e7, q_M_setsForm_r77 K7, f7]
  show ∃ h2 : zH, (_ : zO) = some (Sum.inl (some (zI (if alE I len q what N = 0 then 1 else 0))), h2) ∧ MM h2 (if alE I len q what N = 0 then (n, top, R, alN I len q what N, psc c, psh N Ol, s0, s1, I, 0, O, 0, -1) else (n, top, R, N, c, Ol, s0, s1, I, 0, O, alE I len q what N, alA I len q what N)) ∧ Fr scrA h h2
  by_cases ce : alE I len q what N = 0
  · rw [if_pos ce, if_pos ce, if_pos ce]
    rw [if_pos ce, ce] at M7
    have S7 : SS (n, top, R, N, c, Ol, s0, s1, I, 0, O, 0, -1) := ⟨P, rz, nz, hc10, S.2.2.2.2.1, S.2.2.2.2.2.1, by decide⟩
    obtain ⟨h8, e8, z5, zO, F8⟩ := c_remembers M7 S7
    have K8 := KM_f K7 F8 rfl
    obtain ⟨h9, e9, A9, F9⟩ := l_q_M_setsForm_93 (q := q) (w := what) (l := len) hq hq2 31 0 h8 K8 (by omega) (by omega)
    rw [e8, q_M_setsForm_r90 K8, e9]
    refine ⟨h9, rfl, ?_, Fr_t F07 (Fr_t (Fr_m F8 rfl) (Fr_m F9 rfl))⟩
    refine MM_chg M7 z5 zO F8 ?_ F9 rfl
    funext k
    rw [A9]
    unfold alN
    by_cases d : 31 * q + 0 ≤ (k : Int) ∧ (k : Int) < 31 * q + 31
    · rw [if_pos d, rI F8 191 rfl, rI F7 191 rfl, A6, if_pos (by omega), rI F5 179 rfl, n4]
      exact congrArg (forT I len q what N).2.2 (by omega)
    · rw [if_neg d, rI F8 179 rfl, M7.1.2.2.2.2, ok.1 k (by omega)]
  · rw [if_neg ce, if_neg ce, if_neg ce]
    rw [if_neg ce] at M7
    exact ⟨h7, rfl, M7, F07⟩
end LOAD4
