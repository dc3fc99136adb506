/-! The reference: its other calls. -/
section MREST
theorem hI_s (h : zH) (a k : Nat) (x : Int) : hI (sI h a k x) a k = x := zup_s _ _ _ _
theorem MM_K {h : zH} {σ : MSt} (M : MM h σ) : KM h := (MM_P M).1
theorem isL_e {h : zH} {len m : Int} (hm : hI h 177 15 = m) : b_M_isLength h len ↔ 0 ≤ len ∧ len ≤ m := by
  unfold b_M_isLength b_M_in
  rw [hm]
def aSetB (q len : Int) : MSt → (Int × zV) × MSt
  | (n, top, R, N, c, Ol, s0, s1, I, m, O, ec, ep) => if 0 ≤ len ∧ len ≤ m then
      (if alE I len q 1 N = 0 then ((0, zI (f_M_ones (setL (lst (alN I len q 1 N) q)))), frmS q 1 len (n, top, R, N, c, Ol, s0, s1, I, m, O, ec, ep)) else ((2, zI 0), frmS q 1 len (n, top, R, N, c, Ol, s0, s1, I, m, O, ec, ep)))
    else ((1, zI 0), (n, top, R, N, c, Ol, s0, s1, I, m, O, ec, ep))
def aSetK (l len : Int) : MSt → (Int × zV) × MSt
  | (n, top, R, N, c, Ol, s0, s1, I, m, O, ec, ep) => if lpAt n R 2 l = -1 then ((1, zI 0), (n, top, R, N, c, Ol, s0, s1, I, m, O, ec, ep)) else if 0 ≤ len ∧ len ≤ m then
      (if alE I len (26 + lpAt n R 2 l) 1 N = 0 then ((0, zI (f_M_ones (setL (lst (alN I len (26 + lpAt n R 2 l) 1 N) (26 + lpAt n R 2 l))))), frmS (26 + lpAt n R 2 l) 1 len (n, top, R, N, c, Ol, s0, s1, I, m, O, ec, ep)) else ((3, zI 0), frmS (26 + lpAt n R 2 l) 1 len (n, top, R, N, c, Ol, s0, s1, I, m, O, ec, ep)))
    else ((2, zI 0), (n, top, R, N, c, Ol, s0, s1, I, m, O, ec, ep))
/-- the greatest LESS in the first k states of KEEP -/
def grA (N : Nat → Int) (s : Int) : Nat → Int
  | 0 => -1
  | k + 1 => if val (lst N (26 + s)) k = 1 ∧ grA N s k < val (lst N (50 + s)) k then val (lst N (50 + s)) k else grA N s k
def aSetL (l len : Int) : MSt → (Int × zV) × MSt
  | (n, top, R, N, c, Ol, s0, s1, I, m, O, ec, ep) => if lpAt n R 2 l = -1 then ((1, zI 0), (n, top, R, N, c, Ol, s0, s1, I, m, O, ec, ep)) else if 0 ≤ len ∧ len ≤ m then
      (if alE I len (50 + lpAt n R 2 l) 0 N = 0 then ((0, zI (grA (alN I len (50 + lpAt n R 2 l) 0 N) (lpAt n R 2 l) 64)), frmS (50 + lpAt n R 2 l) 0 len (n, top, R, N, c, Ol, s0, s1, I, m, O, ec, ep)) else ((3, zI 0), frmS (50 + lpAt n R 2 l) 0 len (n, top, R, N, c, Ol, s0, s1, I, m, O, ec, ep)))
    else ((2, zI 0), (n, top, R, N, c, Ol, s0, s1, I, m, O, ec, ep))
theorem frm_N {h : zH} {q what len : Int} {n top : Int} {R N : Nat → Int} {c : Nat} {Ol : Nat → Nat → Int} {s0 s1 : Option (Nat → Int)} {I : Nat → Int} {m : Int} {O : List Int} {ec ep : Int} (M : MM h (frmS q what len (n, top, R, N, c, Ol, s0, s1, I, m, O, ec, ep))) (ce : alE I len q what N = 0) : hI h 179 = alN I len q what N := by
  unfold frmS at M
  simp only at M
  rw [if_pos ce] at M
  exact M.1.2.2.2.2
theorem MC_told {h h1 : zH} {σ σ1 : MSt} {q : Nat} {as : List zV} {k : Int} {v : zV} (M1 : MM h1 σ1) (F1 : Fr scrA h h1) (e : zC q (zR (some 177) :: as) h = some (.inl (some v), sI h1 177 1 k)) : MC h q as ((k, v), σ1) :=
  ⟨_, e, rfl, MM_f M1 (Fr_I (Fr_r [(177, some 1)] _) rfl) rfl, Fr_t F1 (Fr_I (Fr_r _ _) rfl)⟩

theorem m_setBefore {h : zH} {σ : MSt} (M : MM h σ) (S : SS σ) (len : Int) : MC h 338 [zI len] (aSetB 0 len σ) := by
  obtain ⟨n, top, R, N, c, Ol, s0, s1, I, m, O, ec, ep⟩ := σ
  have K := MM_K M
  have m11 : hI h 177 15 = m := M.2.2.2.1.2
  have hq := q_M_setBefore (h := h) (x1 := len) K
  unfold aSetB
  simp only
  by_cases cl : 0 ≤ len ∧ len ≤ m
  · rw [if_pos cl]
    rw [if_pos ((isL_e m11).2 cl)] at hq
    obtain ⟨h1, e1, M1, F1⟩ := c_setsForm M S (q := 0) (what := 1) (len := len) cl (by omega) (by omega) (Or.inr rfl)
    have e1 : zC 340 [zR (some 177), zI 0, zI 1, zI len] h = some (.inl (some (zI (if alE I len 0 1 N = 0 then 1 else 0))), h1) := e1
    have K1 := MM_K M1
    rw [e1, q_M_setBefore_r21 K1] at hq
    by_cases ce : alE I len 0 1 N = 0
    · rw [if_pos ce]
      rw [if_pos ce, if_neg (by decide)] at hq
      have fm := (alT_ok (I := I) (len := len) (N := N) (q := 0) (what := 1) cl.1).2 ce
      obtain ⟨h2, e2, F2⟩ := c_setOf K1 (frm_N M1 ce) (q := 0) (by omega) (by omega) fm
      have M2 := MM_f M1 F2 rfl
      rw [e2, q_M_setBefore_r36 (MM_K M2)] at hq
      exact MC_told (σ := (n, top, R, N, c, Ol, s0, s1, I, m, O, ec, ep)) M2 (Fr_t F1 (Fr_m F2 rfl)) hq
    · rw [if_neg ce]
      rw [if_neg ce, if_pos rfl] at hq
      exact MC_told (σ := (n, top, R, N, c, Ol, s0, s1, I, m, O, ec, ep)) M1 F1 hq
  · rw [if_neg cl]
    rw [if_neg (fun e => cl ((isL_e m11).1 e))] at hq
    exact MC_refuse M hq
theorem m_setAfter {h : zH} {σ : MSt} (M : MM h σ) (S : SS σ) (len : Int) : MC h 342 [zI len] (aSetB 1 len σ) := by
  obtain ⟨n, top, R, N, c, Ol, s0, s1, I, m, O, ec, ep⟩ := σ
  have K := MM_K M
  have m11 : hI h 177 15 = m := M.2.2.2.1.2
  have hq := q_M_setAfter (h := h) (x1 := len) K
  unfold aSetB
  simp only
  by_cases cl : 0 ≤ len ∧ len ≤ m
  · rw [if_pos cl]
    rw [if_pos ((isL_e m11).2 cl)] at hq
    obtain ⟨h1, e1, M1, F1⟩ := c_setsForm M S (q := 1) (what := 1) (len := len) cl (by omega) (by omega) (Or.inr rfl)
    have e1 : zC 340 [zR (some 177), zI 1, zI 1, zI len] h = some (.inl (some (zI (if alE I len 1 1 N = 0 then 1 else 0))), h1) := e1
    have K1 := MM_K M1
    rw [e1, q_M_setAfter_r21 K1] at hq
    by_cases ce : alE I len 1 1 N = 0
    · rw [if_pos ce]
      rw [if_pos ce, if_neg (by decide)] at hq
      have fm := (alT_ok (I := I) (len := len) (N := N) (q := 1) (what := 1) cl.1).2 ce
      obtain ⟨h2, e2, F2⟩ := c_setOf K1 (frm_N M1 ce) (q := 1) (by omega) (by omega) fm
      have M2 := MM_f M1 F2 rfl
      rw [e2, q_M_setAfter_r36 (MM_K M2)] at hq
      exact MC_told (σ := (n, top, R, N, c, Ol, s0, s1, I, m, O, ec, ep)) M2 (Fr_t F1 (Fr_m F2 rfl)) hq
    · rw [if_neg ce]
      rw [if_neg ce, if_pos rfl] at hq
      exact MC_told (σ := (n, top, R, N, c, Ol, s0, s1, I, m, O, ec, ep)) M1 F1 hq
  · rw [if_neg cl]
    rw [if_neg (fun e => cl ((isL_e m11).1 e))] at hq
    exact MC_refuse M hq
theorem m_setKeep {h : zH} {σ : MSt} (M : MM h σ) (S : SS σ) (l len : Int) : MC h 343 [zI l, zI len] (aSetK l len σ) := by
  obtain ⟨n, top, R, N, c, Ol, s0, s1, I, m, O, ec, ep⟩ := σ
  have K := MM_K M
  have P : Prg n top R N := SS_P S
  have B : MB n top R N h := MM_P M
  have w0 := P.1.1
  have el := f_M_loopAt_e B P.2.2.1 w0.1 l
  have b1 := B.2.1
  have m11 : hI h 177 15 = m := M.2.2.2.1.2
  have hq := q_M_setKeep (h := h) (x1 := l) (x2 := len) K
  rw [el] at hq
  unfold aSetK
  simp only
  rcases lpAt_c P (Or.inl rfl) l with ⟨_, ⟨l0, l1⟩, lk⟩ | ⟨_, ln⟩
  · rw [if_neg (by omega)] at hq ⊢
    generalize lpAt n R 2 l = s at *
    by_cases cl : 0 ≤ len ∧ len ≤ m
    · rw [if_pos cl]
      rw [if_pos ((isL_e m11).2 cl), gd_t (by omega)] at hq
      obtain ⟨h1, e1, M1, F1⟩ := c_setsForm M S (q := 26 + s) (what := 1) (len := len) cl (by omega) (by omega) (Or.inr rfl)
      have e1 : zC 340 [zR (some 177), zI (26 + s), zI 1, zI len] h = some (.inl (some (zI (if alE I len (26 + s) 1 N = 0 then 1 else 0))), h1) := e1
      have K1 := MM_K M1
      rw [e1, q_M_setKeep_r41 K1] at hq
      by_cases ce : alE I len (26 + s) 1 N = 0
      · rw [if_pos ce]
        rw [if_pos ce, if_neg (by decide), gd_t (by omega)] at hq
        have fm := (alT_ok (I := I) (len := len) (N := N) (q := 26 + s) (what := 1) cl.1).2 ce
        obtain ⟨h2, e2, F2⟩ := c_setOf K1 (frm_N M1 ce) (q := 26 + s) (by omega) (by omega) fm
        have M2 := MM_f M1 F2 rfl
        rw [e2, q_M_setKeep_r59 (MM_K M2)] at hq
        exact MC_told (σ := (n, top, R, N, c, Ol, s0, s1, I, m, O, ec, ep)) M2 (Fr_t F1 (Fr_m F2 rfl)) hq
      · rw [if_neg ce]
        rw [if_neg ce, if_pos rfl] at hq
        exact MC_told (σ := (n, top, R, N, c, Ol, s0, s1, I, m, O, ec, ep)) M1 F1 hq
    · rw [if_neg cl]
      rw [if_neg (fun e => cl ((isL_e m11).1 e))] at hq
      exact MC_refuse M hq
  · rw [if_pos ln] at hq ⊢
    exact MC_refuse M hq
theorem grA_b (N : Nat → Int) (s : Int) (hv : ∀ k : Nat, k < 64 → 0 ≤ val (lst N (50 + s)) k ∧ val (lst N (50 + s)) k < 4) : ∀ (k : Nat), k ≤ 64 → -1 ≤ grA N s k ∧ grA N s k < 4
  | 0, _ => by unfold grA; omega
  | k + 1, h => by
    have := grA_b N s hv k (by omega)
    have := hv k (by omega)
    unfold grA
    split <;> omega
theorem l_setLessM {N : Nat → Int} {l x s : Int} (h0 : 0 ≤ s) (h1 : s < 24) (f1 : fmOk N (26 + s) true) (f2 : fmOk N (50 + s) false) : ∀ (m k : Nat) (h : zH), KM h → hI h 179 = N → k + m = 64 → ∃ h2, zY 344 56 [some (zR (some 177)), some (zI l), some (zI x), some (zI s), some (zI (grA N s k)), some (zI k), none] [] h = some (.inl (some (zI (grA N s 64))), sI h2 177 1 0) ∧ Fr scrE h h2
  | 0, k, h, K, hN, hm => by
    have : k = 64 := by omega
    subst this
    rw [q_M_setLess_56 K, if_neg (by omega)]
    exact ⟨h, rfl, Fr_r _ _⟩
  | m + 1, k, h, K, hN, hm => by
    have hv : ∀ k : Nat, k < 64 → 0 ≤ val (lst N (50 + s)) k ∧ val (lst N (50 + s)) k < 4 := fun k hk => lOk_v (lst_ok f2) (by omega) (by omega)
    have g := grA_b N s hv k (by omega)
    rw [q_M_setLess_56 K, if_pos (by omega), gd_t (by omega)]
    obtain ⟨h2, e2, F2⟩ := c_valueOf K (q := 26 + s) (st := k) (b := true) (by omega) (by omega) (by omega) (by omega) (by rw [hN]; exact f1)
    have K2 := KM_f K F2 rfl
    have N2 : hI h2 179 = N := (rI F2 179 rfl).trans hN
    rw [hN] at e2
    rw [e2, q_M_setLess_r73 K2]
    by_cases c1 : val (lst N (26 + s)) k = 1
    · rw [if_pos c1, gd_t (by omega)]
      obtain ⟨h3, e3, F3⟩ := c_valueOf K2 (q := 50 + s) (st := k) (b := false) (by omega) (by omega) (by omega) (by omega) (by rw [N2]; exact f2)
      have K3 := KM_f K2 F3 rfl
      have N3 : hI h3 179 = N := (rI F3 179 rfl).trans N2
      rw [N2] at e3
      rw [e3, q_M_setLess_r87 K3]
      obtain ⟨h4, e4, F4⟩ := l_setLessM h0 h1 f1 f2 m (k + 1) h3 K3 N3 (by omega)
      refine ⟨h4, ?_, Fr_t F2 (Fr_t F3 F4)⟩
      have ek : ((k + 1 : Nat) : Int) = (k : Int) + 1 := rfl
      by_cases c2 : grA N s k < val (lst N (50 + s)) k
      · rw [if_pos c2, gd_t (by omega)]
        have eg : grA N s (k + 1) = val (lst N (50 + s)) k := if_pos ⟨c1, c2⟩
        rw [eg] at e4
        exact zY_le (by exact ⟨rfl, rfl, rfl, rfl, rfl, rfl, trivial⟩) e4
      · rw [if_neg c2, gd_t (by omega)]
        have eg : grA N s (k + 1) = grA N s k := if_neg (fun e => c2 e.2)
        rw [eg] at e4
        exact zY_le (by exact ⟨rfl, rfl, rfl, rfl, rfl, rfl, trivial⟩) e4
    · rw [if_neg c1, if_neg (by omega), gd_t (by omega)]
      obtain ⟨h4, e4, F4⟩ := l_setLessM h0 h1 f1 f2 m (k + 1) h2 K2 N2 (by omega)
      refine ⟨h4, ?_, Fr_t F2 F4⟩
      have eg : grA N s (k + 1) = grA N s k := if_neg (fun e => c1 e.1)
      rw [eg] at e4
      exact zY_le (by exact ⟨rfl, rfl, rfl, rfl, rfl, rfl, trivial⟩) e4
theorem m_setLess {h : zH} {σ : MSt} (M : MM h σ) (S : SS σ) (l len : Int) : MC h 344 [zI l, zI len] (aSetL l len σ) := by
  obtain ⟨n, top, R, N, c, Ol, s0, s1, I, m, O, ec, ep⟩ := σ
  have K := MM_K M
  have P : Prg n top R N := SS_P S
  have B : MB n top R N h := MM_P M
  have w0 := P.1.1
  have el := f_M_loopAt_e B P.2.2.1 w0.1 l
  have b1 := B.2.1
  have m11 : hI h 177 15 = m := M.2.2.2.1.2
  have hq := q_M_setLess (h := h) (x1 := l) (x2 := len) K
  rw [el] at hq
  unfold aSetL
  simp only
  rcases lpAt_c P (Or.inl rfl) l with ⟨_, ⟨l0, l1⟩, lk⟩ | ⟨_, ln⟩
  · rw [if_neg (by omega)] at hq ⊢
    generalize lpAt n R 2 l = s at *
    by_cases cl : 0 ≤ len ∧ len ≤ m
    · rw [if_pos cl]
      rw [if_pos ((isL_e m11).2 cl), gd_t (by omega)] at hq
      obtain ⟨h1, e1, M1, F1⟩ := c_setsForm M S (q := 50 + s) (what := 0) (len := len) cl (by omega) (by omega) (Or.inl rfl)
      have e1 : zC 340 [zR (some 177), zI (50 + s), zI 0, zI len] h = some (.inl (some (zI (if alE I len (50 + s) 0 N = 0 then 1 else 0))), h1) := e1
      have K1 := MM_K M1
      rw [e1, q_M_setLess_r41 K1] at hq
      by_cases ce : alE I len (50 + s) 0 N = 0
      · rw [if_pos ce]
        rw [if_pos ce, if_neg (by decide)] at hq
        have ok := alT_ok (I := I) (len := len) (N := N) (q := 50 + s) (what := 0) cl.1
        have fm := ok.2 ce
        have f26 : fmOk (alN I len (50 + s) 0 N) (26 + s) true := fmOk_congr (fun i i0 i1 => ok.1 i (by omega)) ((P.2.1.2.2 s l0 l1).2.2.1 lk).2.1
        obtain ⟨h2, e2, F2⟩ := l_setLessM (l := l) (x := len) l0 (by omega) f26 fm 64 0 h1 K1 (frm_N M1 ce) rfl
        have M2 := MM_f M1 F2 rfl
        have e2 : zY 344 56 [some (zR (some 177)), some (zI l), some (zI len), some (zI s), some (zI (-1)), some (zI 0), none] [] h1 = some (.inl (some (zI (grA (alN I len (50 + s) 0 N) s 64))), sI h2 177 1 0) := e2
        rw [e2] at hq
        exact MC_told (σ := (n, top, R, N, c, Ol, s0, s1, I, m, O, ec, ep)) M2 (Fr_t F1 (Fr_m F2 rfl)) hq
      · rw [if_neg ce]
        rw [if_neg ce, if_pos rfl] at hq
        exact MC_told (σ := (n, top, R, N, c, Ol, s0, s1, I, m, O, ec, ep)) M1 F1 hq
    · rw [if_neg cl]
      rw [if_neg (fun e => cl ((isL_e m11).1 e))] at hq
      exact MC_refuse M hq
  · rw [if_pos ln] at hq ⊢
    exact MC_refuse M hq
def aUndo : MSt → (Int × zV) × MSt
  | (n, top, R, N, c, Ol, s0, s1, I, m, O, ec, ep) => if c = 0 then ((1, zI 0), (n, top, R, N, c, Ol, s0, s1, I, m, O, ec, ep)) else ((0, zI ((c : Int) - 1)), (n, top, R, Ol 0, c - 1, fun i => Ol (i + 1), s0, s1, I, m, O, ec, ep))
theorem m_undo {h : zH} {σ : MSt} (M : MM h σ) (S : SS σ) : MC h 348 [] (aUndo σ) := by
  obtain ⟨n, top, R, N, c, Ol, s0, s1, I, m, O, ec, ep⟩ := σ
  obtain ⟨⟨K, m1, m2, m3, m4⟩, ⟨m5, m6⟩, ⟨m7, m8, m9⟩, ⟨m10, m11⟩, m12, m13, m14⟩ := id M
  obtain ⟨P, rz, nz, ⟨hc10, hO⟩, _, _, hm⟩ := id S
  have hq := q_M_undo (h := h) K
  unfold aUndo
  simp only
  by_cases cc : c = 0
  · rw [if_pos cc]
    rw [if_pos (by omega)] at hq
    exact MC_refuse M hq
  · rw [if_neg cc]
    rw [if_neg (by omega), gd_t (by omega), m5] at hq
    have F1 : Fr [(177, some 5)] h (sI h 177 5 ((c : Int) - 1)) := Fr_I (Fr_r _ _) rfl
    have K1 := KM_f K F1 rfl
    obtain ⟨h2, e2, A2, F2⟩ := l_q_M_undo_25 (o := (c : Int) - 1) (by omega) (by omega) 2342 0 _ K1 rfl (by omega) (by omega)
    rw [e2] at hq
    have F3 : Fr [(177, some 1), (177, some 5), (179, none)] h (sI h2 177 1 0) := Fr_I (Fr_t (Fr_m F1 rfl) (Fr_m F2 rfl)) rfl
    have n3 : hI (sI h2 177 1 0) 179 = Ol 0 := by
      rw [show hI (sI h2 177 1 0) 179 = hI h2 179 from rI (Fr_I (Fr_r [(177, some 1)] _) rfl) 179 rfl]
      funext k
      rw [A2]
      have b := m6 0 (by omega)
      by_cases d : k < 2342
      · rw [if_pos (by omega), rI F1 181 rfl, ← b k d]
        congr 1
        omega
      · rw [if_neg (by omega), rI F1 179 rfl, m4, nz k (by omega), (hO 0 (by omega)).2 k (by omega)]
    have c5 : hI (sI h2 177 1 0) 177 5 = ((c - 1 : Nat) : Int) := by
      rw [show hI (sI h2 177 1 0) 177 5 = hI h2 177 5 from fI (Fr_I (Fr_r [(177, some 1)] _) rfl) 177 5 rfl, fI F2 177 5 rfl]
      show ((c : Int) - 1) = _
      omega
    refine ⟨_, hq, rfl, ⟨⟨KM_f K F3 rfl, (fI F3 177 10 rfl).trans m1, (fI F3 177 12 rfl).trans m2, (rI F3 183 rfl).trans m3, n3⟩, ⟨c5, fun i hi => ?_⟩, ⟨(fI F3 177 7 rfl).trans m7, ?_, ?_⟩, ⟨(rI F3 185 rfl).trans m10, (fI F3 177 15 rfl).trans m11⟩, OU_f m12 F3 rfl rfl, (fI F3 177 18 rfl).trans m13, (fI F3 177 19 rfl).trans m14⟩, Fr_m F3 rfl⟩
    · rw [rI F3 181 rfl, show c - 1 - 1 - i = c - 1 - (i + 1) by omega]
      exact m6 (i + 1) (by omega)
    · unfold svB; rw [rI F3 182 rfl]; exact m8
    · unfold svB; rw [rI F3 182 rfl]; exact m9
theorem SS_undo {σ : MSt} (S : SS σ) : SS (aUndo σ).2 := by
  obtain ⟨n, top, R, N, c, Ol, s0, s1, I, m, O, ec, ep⟩ := σ
  obtain ⟨P, rz, nz, ⟨hc10, hO⟩, h5, h6, hm⟩ := id S
  unfold aUndo
  simp only
  by_cases cc : c = 0
  · rw [if_pos cc]; exact S
  · rw [if_neg cc]
    exact ⟨(hO 0 (by omega)).1, rz, (hO 0 (by omega)).2, ⟨by omega, fun i hi => hO (i + 1) (by omega)⟩, h5, h6, hm⟩
def slt (x : Int) (s0 s1 : Option (Nat → Int)) : Option (Nat → Int) := if x = 0 then s0 else s1
def aRestore (x : Int) : MSt → (Int × zV) × MSt
  | (n, top, R, N, c, Ol, s0, s1, I, m, O, ec, ep) => if 0 ≤ x ∧ x ≤ 1 then (match slt x s0 s1 with
      | none => ((2, zI 0), (n, top, R, N, c, Ol, s0, s1, I, m, O, ec, ep))
      | some N2 => ((0, zI (nfC n top R N2)), chg N2 (n, top, R, N, c, Ol, s0, s1, I, m, O, ec, ep)))
    else ((1, zI 0), (n, top, R, N, c, Ol, s0, s1, I, m, O, ec, ep))
theorem sb_k : ((zand (zshr 0 0) 1 = 0 ∧ zand (zshr 0 1) 1 = 0) ∧ (zand (zshr 1 0) 1 = 1 ∧ zand (zshr 1 1) 1 = 0)) ∧ (zand (zshr 2 0) 1 = 0 ∧ zand (zshr 2 1) 1 = 1) ∧ (zand (zshr 3 0) 1 = 1 ∧ zand (zshr 3 1) 1 = 1) := by decide
theorem sbit_00 : sbit none none = 0 := rfl
theorem sbit_10 (a : Nat → Int) : sbit (some a) none = 1 := rfl
theorem sbit_01 (a : Nat → Int) : sbit none (some a) = 2 := rfl
theorem sbit_11 (a b : Nat → Int) : sbit (some a) (some b) = 3 := rfl
theorem slt_0 (a b : Option (Nat → Int)) : slt 0 a b = a := rfl
theorem slt_1 (a b : Option (Nat → Int)) : slt 1 a b = b := rfl
theorem iS_1 (a : Nat → Int) : (if (some a).isSome = true then (1 : Int) else 0) = 1 := rfl
theorem iS_0 : (if (none : Option (Nat → Int)).isSome = true then (1 : Int) else 0) = 0 := rfl
theorem sbit_x {s0 s1 : Option (Nat → Int)} {x : Int} (hx : x = 0 ∨ x = 1) : zand (zshr (sbit s0 s1) x) 1 = if (slt x s0 s1).isSome = true then 1 else 0 := by
  rcases hx with rfl | rfl
  · rw [slt_0]
    cases s0 with
    | none => cases s1 with
      | none => rw [sbit_00, iS_0]; exact sb_k.1.1.1
      | some b => rw [sbit_01, iS_0]; exact sb_k.2.1.1
    | some a => cases s1 with
      | none => rw [sbit_10, iS_1]; exact sb_k.1.2.1
      | some b => rw [sbit_11, iS_1]; exact sb_k.2.2.1
  · rw [slt_1]
    cases s0 with
    | none => cases s1 with
      | none => rw [sbit_00, iS_0]; exact sb_k.1.1.2
      | some b => rw [sbit_01, iS_1]; exact sb_k.2.1.2
    | some a => cases s1 with
      | none => rw [sbit_10, iS_0]; exact sb_k.1.2.2
      | some b => rw [sbit_11, iS_1]; exact sb_k.2.2.2
theorem slt_ok {n top : Int} {R N : Nat → Int} {c : Nat} {Ol : Nat → Nat → Int} {s0 s1 : Option (Nat → Int)} {I : Nat → Int} {m : Int} {O : List Int} {ec ep : Int} (S : SS (n, top, R, N, c, Ol, s0, s1, I, m, O, ec, ep)) {x : Int} {N2 : Nat → Int} (e : slt x s0 s1 = some N2) : Prg n top R N2 ∧ NZ N2 := by
  obtain ⟨P, rz, nz, _, h5, h6, hm⟩ := id S
  unfold slt at e
  split at e
  · exact h5 N2 e
  · exact h6 N2 e
theorem m_restore {h : zH} {σ : MSt} (M : MM h σ) (S : SS σ) (x : Int) : MC h 347 [zI x] (aRestore x σ) := by
  obtain ⟨n, top, R, N, c, Ol, s0, s1, I, m, O, ec, ep⟩ := σ
  obtain ⟨⟨K, m1, m2, m3, m4⟩, ⟨m5, m6⟩, ⟨m7, m8, m9⟩, ⟨m10, m11⟩, m12, m13, m14⟩ := id M
  have hq := q_M_restore (h := h) (x1 := x) K
  unfold aRestore
  simp only
  by_cases cx : 0 ≤ x ∧ x ≤ 1
  · rw [if_pos cx]
    have hx : x = 0 ∨ x = 1 := by omega
    rw [if_pos (show b_M_in x 0 1 by unfold b_M_in; omega), m7, sbit_x hx] at hq
    cases es : slt x s0 s1 with
    | none =>
      rw [es, iS_0, if_pos rfl] at hq
      exact MC_refuse M hq
    | some N2 =>
      rw [es, iS_1, if_neg (by decide)] at hq
      obtain ⟨P2, nz2⟩ := slt_ok S es
      obtain ⟨h1, e1, x5, xO, F1⟩ := c_remembers M S
      have K1 := KM_f K F1 rfl
      obtain ⟨h2, e2, A2, F2⟩ := l_q_M_restore_38 hx 2342 0 h1 K1 (by omega) (by omega)
      have K2 := KM_f K1 F2 rfl
      have n2 : hI h2 179 = N2 := by
        funext k
        rw [A2]
        by_cases d : k < 2342
        · rw [if_pos (by omega), rI F1 182 rfl]
          have b : ∀ k : Nat, k < 2342 → hI h 182 ((x * 2342).toNat + k) = N2 k := by
            unfold slt at es
            rcases hx with rfl | rfl
            · rw [if_pos rfl] at es; exact fun k hk => (by have := m8 N2 es k hk; rw [← this]; congr 1)
            · rw [if_neg (by decide)] at es; exact fun k hk => (by have := m9 N2 es k hk; rw [← this]; congr 1)
          rw [← b k d]
          congr 1
          omega
        · rw [if_neg (by omega), rI F1 179 rfl, m4, S.2.2.1 k (by omega), nz2 k (by omega)]
      have B2 : MB n top R N2 h2 := ⟨K2, (fI F2 177 10 rfl).trans ((fI F1 177 10 rfl).trans m1), (fI F2 177 12 rfl).trans ((fI F1 177 12 rfl).trans m2), (rI F2 183 rfl).trans ((rI F1 183 rfl).trans m3), n2⟩
      obtain ⟨h3, e3, F3⟩ := c_failsNow B2 (Prg_S P2)
      have B3 := MB_f B2 F3 rfl
      rw [e1, q_M_restore_r36 K1, e2, e3, q_M_restore_r74 B3.1] at hq
      have F4 : Fr ((177, some 1) :: (179, none) :: scrF) h1 (sI h3 177 1 0) := Fr_I (Fr_t (Fr_m F2 rfl) (Fr_m F3 rfl)) rfl
      exact ⟨_, hq, rfl, MM_chg M x5 xO F1 B3.2.2.2.2 F4 rfl, Fr_t (Fr_m F1 rfl) (Fr_m F4 rfl)⟩
  · rw [if_neg cx]
    rw [if_neg (show ¬ b_M_in x 0 1 by unfold b_M_in; omega)] at hq
    exact MC_refuse M hq
theorem SS_restore {σ : MSt} (S : SS σ) (x : Int) : SS (aRestore x σ).2 := by
  obtain ⟨n, top, R, N, c, Ol, s0, s1, I, m, O, ec, ep⟩ := σ
  unfold aRestore
  simp only
  by_cases cx : 0 ≤ x ∧ x ≤ 1
  · rw [if_pos cx]
    cases es : slt x s0 s1 with
    | none => exact S
    | some N2 => exact SS_chg S (slt_ok S es).1 (slt_ok S es).2
  · rw [if_neg cx]; exact S
def aSave (x : Int) : MSt → (Int × zV) × MSt
  | (n, top, R, N, c, Ol, s0, s1, I, m, O, ec, ep) => if 0 ≤ x ∧ x ≤ 1 then
      ((0, zI ((if (slS x N s0 0).isSome = true then 1 else 0) + (if (slS x N s1 1).isSome = true then 1 else 0))), (n, top, R, N, c, Ol, slS x N s0 0, slS x N s1 1, I, m, O, ec, ep))
    else ((1, zI 0), (n, top, R, N, c, Ol, s0, s1, I, m, O, ec, ep))
theorem sb_s : ((zor 0 (zshl 1 0) = 1 ∧ zor 1 (zshl 1 0) = 1 ∧ zor 2 (zshl 1 0) = 3 ∧ zor 3 (zshl 1 0) = 3) ∧ (zor 0 (zshl 1 1) = 2 ∧ zor 1 (zshl 1 1) = 3 ∧ zor 2 (zshl 1 1) = 2 ∧ zor 3 (zshl 1 1) = 3)) ∧ (zand 0 1 + zshr 0 1 = 0 ∧ zand 1 1 + zshr 1 1 = 1 ∧ zand 2 1 + zshr 2 1 = 1 ∧ zand 3 1 + zshr 3 1 = 2) := by decide
theorem slS_00 (N : Nat → Int) (s : Option (Nat → Int)) : slS 0 N s 0 = some N := rfl
theorem slS_01 (N : Nat → Int) (s : Option (Nat → Int)) : slS 0 N s 1 = s := rfl
theorem slS_10 (N : Nat → Int) (s : Option (Nat → Int)) : slS 1 N s 0 = s := rfl
theorem slS_11 (N : Nat → Int) (s : Option (Nat → Int)) : slS 1 N s 1 = some N := rfl
theorem sbit_s1 {s0 s1 : Option (Nat → Int)} {N : Nat → Int} {x : Int} (hx : x = 0 ∨ x = 1) : zor (sbit s0 s1) (zshl 1 x) = sbit (slS x N s0 0) (slS x N s1 1) := by
  rcases hx with rfl | rfl
  · rw [slS_00, slS_01]
    cases s0 with
    | none => cases s1 with
      | none => rw [sbit_00, sbit_10]; exact sb_s.1.1.1
      | some b => rw [sbit_01, sbit_11]; exact sb_s.1.1.2.2.1
    | some a => cases s1 with
      | none => rw [sbit_10, sbit_10]; exact sb_s.1.1.2.1
      | some b => rw [sbit_11, sbit_11]; exact sb_s.1.1.2.2.2
  · rw [slS_10, slS_11]
    cases s0 with
    | none => cases s1 with
      | none => rw [sbit_00, sbit_01]; exact sb_s.1.2.1
      | some b => rw [sbit_01, sbit_01]; exact sb_s.1.2.2.2.1
    | some a => cases s1 with
      | none => rw [sbit_10, sbit_11]; exact sb_s.1.2.2.1
      | some b => rw [sbit_11, sbit_11]; exact sb_s.1.2.2.2.2
theorem sbit_s2 (s0 s1 : Option (Nat → Int)) : zand (sbit s0 s1) 1 + zshr (sbit s0 s1) 1 = (if s0.isSome = true then 1 else 0) + (if s1.isSome = true then 1 else 0) := by
  cases s0 with
  | none => cases s1 with
    | none => rw [sbit_00, iS_0]; exact sb_s.2.1
    | some b => rw [sbit_01, iS_0, iS_1]; exact sb_s.2.2.2.1
  | some a => cases s1 with
    | none => rw [sbit_10, iS_0, iS_1]; exact sb_s.2.2.1
    | some b => rw [sbit_11, iS_1, iS_1]; exact sb_s.2.2.2.2
theorem sbit_s {s0 s1 : Option (Nat → Int)} {N : Nat → Int} {x : Int} (hx : x = 0 ∨ x = 1) : zor (sbit s0 s1) (zshl 1 x) = sbit (slS x N s0 0) (slS x N s1 1) ∧ zand (sbit (slS x N s0 0) (slS x N s1 1)) 1 + zshr (sbit (slS x N s0 0) (slS x N s1 1)) 1 = (if (slS x N s0 0).isSome = true then 1 else 0) + (if (slS x N s1 1).isSome = true then 1 else 0) := ⟨sbit_s1 hx, sbit_s2 _ _⟩
theorem cnt2 (s0 s1 : Option (Nat → Int)) : 0 ≤ ((if s0.isSome = true then 1 else 0) + (if s1.isSome = true then 1 else 0) : Int) ∧ ((if s0.isSome = true then 1 else 0) + (if s1.isSome = true then 1 else 0) : Int) ≤ 2 := by
  cases s0 with
  | none => cases s1 with
    | none => rw [iS_0]; decide
    | some b => rw [iS_0, iS_1]; decide
  | some a => cases s1 with
    | none => rw [iS_0, iS_1]; decide
    | some b => rw [iS_1, iS_1]; decide
theorem m_save {h : zH} {σ : MSt} (M : MM h σ) (S : SS σ) (x : Int) : MC h 349 [zI x] (aSave x σ) := by
  obtain ⟨n, top, R, N, c, Ol, s0, s1, I, m, O, ec, ep⟩ := σ
  obtain ⟨⟨K, m1, m2, m3, m4⟩, ⟨m5, m6⟩, ⟨m7, m8, m9⟩, ⟨m10, m11⟩, m12, m13, m14⟩ := id M
  have hq := q_M_save (h := h) (x1 := x) K
  unfold aSave
  simp only
  by_cases cx : 0 ≤ x ∧ x ≤ 1
  · rw [if_pos cx]
    have hx : x = 0 ∨ x = 1 := by omega
    rw [if_pos (show b_M_in x 0 1 by unfold b_M_in; omega)] at hq
    obtain ⟨h2, e2, A2, F2⟩ := l_q_M_save_17 hx 2342 0 h K (by omega) (by omega)
    have K2 := KM_f K F2 rfl
    have m72 : hI h2 177 7 = sbit s0 s1 := (fI F2 177 7 rfl).trans m7
    have sb := sbit_s (s0 := s0) (s1 := s1) (N := N) hx
    have cb := cnt2 (slS x N s0 0) (slS x N s1 1)
    rw [e2, q_M_save_17 K2, if_neg (by omega), m72, sb.1, sb.2, gd_t (by omega)] at hq
    have F3 : Fr [(177, some 1), (177, some 7), (182, none)] h (sI (sI h2 177 7 (sbit (slS x N s0 0) (slS x N s1 1))) 177 1 0) := Fr_I (Fr_I (Fr_m F2 rfl) rfl) rfl
    have r3 : hI (sI (sI h2 177 7 (sbit (slS x N s0 0) (slS x N s1 1))) 177 1 0) 182 = hI h2 182 := rI (Fr_I (Fr_I (Fr_r [(177, some 1), (177, some 7)] _) rfl) rfl) 182 rfl
    refine ⟨_, hq, rfl, ⟨⟨KM_f K F3 rfl, (fI F3 177 10 rfl).trans m1, (fI F3 177 12 rfl).trans m2, (rI F3 183 rfl).trans m3, (rI F3 179 rfl).trans m4⟩, ⟨(fI F3 177 5 rfl).trans m5, ?_⟩, ⟨?_, ?_, ?_⟩, ⟨(rI F3 185 rfl).trans m10, (fI F3 177 15 rfl).trans m11⟩, OU_f m12 F3 rfl rfl, (fI F3 177 18 rfl).trans m13, (fI F3 177 19 rfl).trans m14⟩, Fr_m F3 rfl⟩
    · rw [rI F3 181 rfl]; exact m6
    · rw [show hI (sI (sI h2 177 7 (sbit (slS x N s0 0) (slS x N s1 1))) 177 1 0) 177 7 = hI (sI h2 177 7 (sbit (slS x N s0 0) (slS x N s1 1))) 177 7 from fI (Fr_I (Fr_r [(177, some 1)] _) rfl) 177 7 rfl]
      exact hI_s _ _ _ _
    · intro N2 e k hk
      rw [r3, A2]
      unfold slS at e
      rcases hx with rfl | rfl
      · rw [if_pos rfl] at e
        cases e
        rw [if_pos (by omega), m4]
        congr 1
        omega
      · rw [if_neg (by decide)] at e
        rw [if_neg (by omega)]
        exact m8 N2 e k hk
    · intro N2 e k hk
      rw [r3, A2]
      unfold slS at e
      rcases hx with rfl | rfl
      · rw [if_neg (by decide)] at e
        rw [if_neg (by omega)]
        exact m9 N2 e k hk
      · rw [if_pos rfl] at e
        cases e
        rw [if_pos (by omega), m4]
        congr 1
        omega
  · rw [if_neg cx]
    rw [if_neg (show ¬ b_M_in x 0 1 by unfold b_M_in; omega)] at hq
    exact MC_refuse M hq
theorem SS_save {σ : MSt} (S : SS σ) (x : Int) : SS (aSave x σ).2 := by
  obtain ⟨n, top, R, N, c, Ol, s0, s1, I, m, O, ec, ep⟩ := σ
  obtain ⟨P, rz, nz, hO, h5, h6, hm⟩ := id S
  unfold aSave
  simp only
  by_cases cx : 0 ≤ x ∧ x ≤ 1
  · rw [if_pos cx]
    refine ⟨P, rz, nz, hO, fun N2 e => ?_, fun N2 e => ?_, hm⟩
    · unfold slS at e
      split at e
      · cases e; exact ⟨P, nz⟩
      · exact h5 N2 e
    · unfold slS at e
      split at e
      · cases e; exact ⟨P, nz⟩
      · exact h6 N2 e
  · rw [if_neg cx]; exact S
/-- four bytes more -/
def fd4 (x : Int) (s : (Nat → Int) × Int) : (Nat → Int) × Int := (upN (upN (upN (upN s.1 s.2.toNat (zi2b (zshr x 24))) (s.2 + 1).toNat (zi2b (zshr x 16))) (s.2 + 2).toNat (zi2b (zshr x 8))) (s.2 + 3).toNat (zi2b x), s.2 + 4)
def fd5 (a b c d e : Int) (s : (Nat → Int) × Int) : (Nat → Int) × Int := fd4 e (fd4 d (fd4 c (fd4 b (fd4 a s))))
def aFeed (a b c d e : Int) : MSt → (Int × zV) × MSt
  | (n, top, R, N, ch, Ol, s0, s1, I, m, O, ec, ep) => if 780 < m then ((1, zI 0), (n, top, R, N, ch, Ol, s0, s1, I, m, O, ec, ep)) else ((0, zI (m + 20)), (n, top, R, N, ch, Ol, s0, s1, (fd5 a b c d e (I, m)).1, m + 20, O, ec, ep))
abbrev scrI : FA := [(185, none), (177, some 15)]
theorem c_feeds {h : zH} (K : KM h) {s : (Nat → Int) × Int} (hs : hI h 185 = s.1 ∧ hI h 177 15 = s.2) (h0 : 0 ≤ s.2) (h1 : s.2 + 4 ≤ 800) (x : Int) : ∃ h2, zC 211 [zR (some 177), zI x] h = some (.inl none, h2) ∧ (hI h2 185 = (fd4 x s).1 ∧ hI h2 177 15 = (fd4 x s).2) ∧ Fr scrI h h2 := by
  obtain ⟨I, m⟩ := s
  have e1 : hI h 185 = I := hs.1
  have e2 : hI h 177 15 = m := hs.2
  have h0 : 0 ≤ m := h0
  have h1 : m + 4 ≤ 800 := h1
  rw [q_M_feeds K, e2]
  rw [gd_t (by omega), gd_t (by omega), gd_t (by omega), gd_t (by omega), gd_t (by omega), gd_t (by omega), gd_t (by omega), gd_t (by omega)]
  have r4 : ∀ g : zH, hI (sI g 177 15 (m + 4)) 185 = hI g 185 := fun g => rI (Fr_I (Fr_r [(177, some 15)] _) rfl) 185 rfl
  refine ⟨_, rfl, ⟨?_, ?_⟩, Fr_I (Fr_I (Fr_I (Fr_I (Fr_I (Fr_r _ _) rfl) rfl) rfl) rfl) rfl⟩
  · rw [r4, hI_up, hI_up, hI_up, hI_up, e1]
    rfl
  · exact hI_s _ _ _ _
theorem m_feed {h : zH} {σ : MSt} (M : MM h σ) (S : SS σ) (a b c d e : Int) : MC h 209 [zI a, zI b, zI c, zI d, zI e] (aFeed a b c d e σ) := by
  obtain ⟨n, top, R, N, ch, Ol, s0, s1, I, m, O, ec, ep⟩ := σ
  obtain ⟨⟨K, m1, m2, m3, m4⟩, ⟨m5, m6⟩, ⟨m7, m8, m9⟩, ⟨m10, m11⟩, m12, m13, m14⟩ := id M
  have hm : 0 ≤ m ∧ m ≤ 800 := S.2.2.2.2.2.2
  have hq := q_M_feed (h := h) (x1 := a) (x2 := b) (x3 := c) (x4 := d) (x5 := e) K
  rw [m11] at hq
  unfold aFeed
  simp only
  by_cases cm : 780 < m
  · rw [if_pos cm] at hq ⊢
    exact MC_refuse M hq
  · rw [if_neg cm] at hq ⊢
    obtain ⟨g1, e1, i1, F1⟩ := c_feeds K (s := (I, m)) ⟨m10, m11⟩ hm.1 (show m + 4 ≤ 800 by omega) a
    have K1 := KM_f K F1 rfl
    obtain ⟨g2, e2, i2, F2⟩ := c_feeds K1 (s := fd4 a (I, m)) i1 (show 0 ≤ m + 4 by omega) (show m + 4 + 4 ≤ 800 by omega) b
    have K2 := KM_f K1 F2 rfl
    obtain ⟨g3, e3, i3, F3⟩ := c_feeds K2 (s := fd4 b (fd4 a (I, m))) i2 (show 0 ≤ m + 4 + 4 by omega) (show m + 4 + 4 + 4 ≤ 800 by omega) c
    have K3 := KM_f K2 F3 rfl
    obtain ⟨g4, e4, i4, F4⟩ := c_feeds K3 (s := fd4 c (fd4 b (fd4 a (I, m)))) i3 (show 0 ≤ m + 4 + 4 + 4 by omega) (show m + 4 + 4 + 4 + 4 ≤ 800 by omega) d
    have K4 := KM_f K3 F4 rfl
    obtain ⟨g5, e5, i5, F5⟩ := c_feeds K4 (s := fd4 d (fd4 c (fd4 b (fd4 a (I, m))))) i4 (show 0 ≤ m + 4 + 4 + 4 + 4 by omega) (show m + 4 + 4 + 4 + 4 + 4 ≤ 800 by omega) e
    have K5 := KM_f K4 F5 rfl
    have F05 : Fr scrI h g5 := Fr_t F1 (Fr_t F2 (Fr_t F3 (Fr_t F4 F5)))
    have j5 : hI g5 177 15 = m + 20 := i5.2.trans (show m + 4 + 4 + 4 + 4 + 4 = m + 20 by omega)
    rw [e1, q_M_feed_r21 K1, e2, q_M_feed_r26 K2, e3, q_M_feed_r31 K3, e4, q_M_feed_r37 K4, e5, q_M_feed_r43 K5, j5] at hq
    refine MC_told (σ := (n, top, R, N, ch, Ol, s0, s1, I, m, O, ec, ep)) ?_ (Fr_m F05 rfl) hq
    refine ⟨⟨K5, (fI F05 177 10 rfl).trans m1, (fI F05 177 12 rfl).trans m2, (rI F05 183 rfl).trans m3, (rI F05 179 rfl).trans m4⟩, ⟨(fI F05 177 5 rfl).trans m5, ?_⟩, ⟨(fI F05 177 7 rfl).trans m7, ?_, ?_⟩, ⟨i5.1, j5⟩, OU_f m12 F05 rfl rfl, (fI F05 177 18 rfl).trans m13, (fI F05 177 19 rfl).trans m14⟩
    · rw [rI F05 181 rfl]; exact m6
    · unfold svB; rw [rI F05 182 rfl]; exact m8
    · unfold svB; rw [rI F05 182 rfl]; exact m9
theorem SS_feed {σ : MSt} (S : SS σ) (a b c d e : Int) : SS (aFeed a b c d e σ).2 := by
  obtain ⟨n, top, R, N, ch, Ol, s0, s1, I, m, O, ec, ep⟩ := σ
  have hm : 0 ≤ m ∧ m ≤ 800 := S.2.2.2.2.2.2
  obtain ⟨P, rz, nz, hO, h5, h6, _⟩ := id S
  unfold aFeed
  simp only
  by_cases cm : 780 < m
  · rw [if_pos cm]; exact S
  · rw [if_neg cm]; exact ⟨P, rz, nz, hO, h5, h6, by omega⟩
/-- other formulas at one number -/
theorem SS_frm {n top : Int} {R N : Nat → Int} {c : Nat} {Ol : Nat → Nat → Int} {s0 s1 : Option (Nat → Int)} {I : Nat → Int} {m : Int} {O : List Int} {ec ep : Int} (S : SS (n, top, R, N, c, Ol, s0, s1, I, m, O, ec, ep)) {q what len : Int} (l0 : 0 ≤ len) (hP : ∀ N2, (∀ i, i < (31 * q).toNat ∨ (31 * q).toNat + 31 ≤ i → N2 i = N i) → fmOk N2 q (decide (what ≠ 0)) → Prg n top R N2) (h0 : 0 ≤ q) (h1 : q < 74) : SS (frmS q what len (n, top, R, N, c, Ol, s0, s1, I, m, O, ec, ep)) := by
  obtain ⟨P, rz, nz, hO, h5, h6, hm⟩ := id S
  have ok := alT_ok (I := I) (len := len) (N := N) (q := q) (what := what) l0
  unfold frmS
  simp only
  by_cases ce : alE I len q what N = 0
  · rw [if_pos ce]
    have S0 : SS (n, top, R, N, c, Ol, s0, s1, I, 0, O, 0, -1) := ⟨P, rz, nz, hO, h5, h6, by decide⟩
    exact SS_chg S0 (N2 := alN I len q what N) (hP _ ok.1 (ok.2 ce)) (fun k hk => by rw [ok.1 k (by omega)]; exact nz k hk)
  · rw [if_neg ce]
    exact ⟨P, rz, nz, hO, h5, h6, by decide⟩
theorem Prg_frm {n top : Int} {R N N2 : Nat → Int} (P : Prg n top R N) {q : Int} (o : ∀ i, i < (31 * q).toNat ∨ (31 * q).toNat + 31 ≤ i → N2 i = N i) (f0 : q = 0 → fmOk N2 0 true) (f1 : q = 1 → fmOk N2 1 true) (fk : ∀ s, 0 ≤ s → s < n → q = 26 + s → fmOk N2 (26 + s) true) (fl : ∀ s, 0 ≤ s → s < n → q = 50 + s → fmOk N2 (50 + s) false) (h0 : 0 ≤ q) (h1 : q < 2 ∨ 26 ≤ q) (h2 : q < 74) : Prg n top R N2 := by
  obtain ⟨w, v, u, t⟩ := P
  have w0 := w.1
  have ex : ∀ r b, 0 ≤ r → r ≠ q → fmOk N r b → fmOk N2 r b := fun r b r0 r1 f => fmOk_congr (fun i i0 i1 => o i (by omega)) f
  refine ⟨w, ⟨?_, ?_, fun c c0 c1 => ?_⟩, u, t⟩
  · by_cases e : q = 0
    · exact f0 e
    · exact ex 0 true (by omega) (by omega) v.1
  · by_cases e : q = 1
    · exact f1 e
    · exact ex 1 true (by omega) (by omega) v.2.1
  · have vc := v.2.2 c c0 c1
    refine ⟨fun k => ex _ _ (by omega) (by omega) (vc.1 k), fun k => ex _ _ (by omega) (by omega) (vc.2.1 k), fun k => ⟨ex _ _ (by omega) (by omega) (vc.2.2.1 k).1, ?_, ?_⟩, fun k => ?_, ?_⟩
    · by_cases e : q = 26 + c
      · exact fk c c0 c1 e
      · exact ex _ _ (by omega) (by omega) (vc.2.2.1 k).2.1
    · by_cases e : q = 50 + c
      · exact fl c c0 c1 e
      · exact ex _ _ (by omega) (by omega) (vc.2.2.1 k).2.2
    · rw [o _ (by omega)]; exact vc.2.2.2.1 k
    · rw [o _ (by omega)]; exact vc.2.2.2.2
theorem SS_setB {σ : MSt} (S : SS σ) {q : Int} (hq : q = 0 ∨ q = 1) (len : Int) : SS (aSetB q len σ).2 := by
  obtain ⟨n, top, R, N, c, Ol, s0, s1, I, m, O, ec, ep⟩ := σ
  have P : Prg n top R N := SS_P S
  have w0 := P.1.1
  unfold aSetB
  simp only
  by_cases cl : 0 ≤ len ∧ len ≤ m
  · rw [if_pos cl]
    have H := SS_frm S (q := q) (what := 1) cl.1 (fun N2 o f => Prg_frm P o (fun e => by subst e; exact f) (fun e => by subst e; exact f) (fun s _ _ e => by omega) (fun s _ _ e => by omega) (by omega) (by omega) (by omega)) (by omega) (by omega)
    split <;> exact H
  · rw [if_neg cl]; exact S
theorem SS_setK {σ : MSt} (S : SS σ) (l len : Int) : SS (aSetK l len σ).2 := by
  obtain ⟨n, top, R, N, c, Ol, s0, s1, I, m, O, ec, ep⟩ := σ
  have P : Prg n top R N := SS_P S
  have w0 := P.1.1
  unfold aSetK
  simp only
  rcases lpAt_c P (Or.inl rfl) l with ⟨_, ⟨l0, l1⟩, lk⟩ | ⟨_, ln⟩
  · rw [if_neg (by omega)]
    by_cases cl : 0 ≤ len ∧ len ≤ m
    · rw [if_pos cl]
      have H := SS_frm S (q := 26 + lpAt n R 2 l) (what := 1) cl.1 (fun N2 o f => Prg_frm P o (fun e => by omega) (fun e => by omega) (fun s _ _ e => by rw [← e]; exact f) (fun s _ _ e => by omega) (by omega) (by omega) (by omega)) (by omega) (by omega)
      split <;> exact H
    · rw [if_neg cl]; exact S
  · rw [if_pos ln]; exact S
theorem SS_setL {σ : MSt} (S : SS σ) (l len : Int) : SS (aSetL l len σ).2 := by
  obtain ⟨n, top, R, N, c, Ol, s0, s1, I, m, O, ec, ep⟩ := σ
  have P : Prg n top R N := SS_P S
  have w0 := P.1.1
  unfold aSetL
  simp only
  rcases lpAt_c P (Or.inl rfl) l with ⟨_, ⟨l0, l1⟩, lk⟩ | ⟨_, ln⟩
  · rw [if_neg (by omega)]
    by_cases cl : 0 ≤ len ∧ len ≤ m
    · rw [if_pos cl]
      have H := SS_frm S (q := 50 + lpAt n R 2 l) (what := 0) cl.1 (fun N2 o f => Prg_frm P o (fun e => by omega) (fun e => by omega) (fun s _ _ e => by omega) (fun s _ _ e => by rw [← e]; exact f) (by omega) (by omega) (by omega)) (by omega) (by omega)
      split <;> exact H
    · rw [if_neg cl]; exact S
  · rw [if_pos ln]; exact S
/-- the answer and the output -/
def aWN (s : Int) : MSt → (Int × zV) × MSt
  | (n, top, R, N, c, Ol, s0, s1, I, m, O, ec, ep) => ((aWriteNeed n R N O s).1, (n, top, R, N, c, Ol, s0, s1, I, m, (aWriteNeed n R N O s).2, ec, ep))
theorem m_WN {h : zH} {σ : MSt} (M : MM h σ) (S : SS σ) (s : Int) : MC h 319 [zI s] (aWN s σ) := by
  obtain ⟨n, top, R, N, c, Ol, s0, s1, I, m, O, ec, ep⟩ := σ
  obtain ⟨⟨K, m1, m2, m3, m4⟩, ⟨m5, m6⟩, ⟨m7, m8, m9⟩, ⟨m10, m11⟩, m12, m13, m14⟩ := id M
  obtain ⟨h2, e2, t2, O2, F2⟩ := m_writeNeed M.1 (SS_P S) m12 s
  refine ⟨h2, e2, t2, ⟨MB_f M.1 F2 rfl, ⟨(fI F2 177 5 rfl).trans m5, ?_⟩, ⟨(fI F2 177 7 rfl).trans m7, ?_, ?_⟩, ⟨(rI F2 185 rfl).trans m10, (fI F2 177 15 rfl).trans m11⟩, O2, (fI F2 177 18 rfl).trans m13, (fI F2 177 19 rfl).trans m14⟩, Fr_m F2 rfl⟩
  · rw [rI F2 181 rfl]; exact m6
  · unfold svB; rw [rI F2 182 rfl]; exact m8
  · unfold svB; rw [rI F2 182 rfl]; exact m9
theorem SS_WN {σ : MSt} (S : SS σ) (s : Int) : SS (aWN s σ).2 := by
  obtain ⟨n, top, R, N, c, Ol, s0, s1, I, m, O, ec, ep⟩ := σ
  exact S
end MREST
