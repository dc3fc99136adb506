/-! The reference: changes. -/
section LOAD3
variable {I : Nat → Int} {len : Int}
/-- one more change -/
def psh (N : Nat → Int) (Ol : Nat → Nat → Int) : Nat → Nat → Int
  | 0 => N
  | i + 1 => Ol i
def psc (c : Nat) : Nat := if c = 10 then 10 else c + 1
theorem l_q_M_remembers_13 : ∀ (m : Nat) (j : Int) (h : zH), KM h → 2342 ≤ j → j + m = 23420 → 1 ≤ hI h 177 5 → hI h 177 5 ≤ 10 → ∃ h2, zY 341 13 [some (zR (some 177)), some (zI j)] [] h = zY 341 54 [some (zR (some 177)), some (zI 0)] [] (sI h2 177 5 (hI h 177 5 - 1)) ∧ (∀ k : Nat, hI h2 181 k = if j - 2342 ≤ (k : Int) ∧ (k : Int) < 21078 then hI h 181 (k + 2342) else hI h 181 k) ∧ Fr [(181, none)] h h2
  | 0, j, h, K, h0, hm, hc, hc2 => by
    rw [q_M_remembers_13 K, if_neg (by omega), gd_t (by omega)]
    exact ⟨h, rfl, fun k => by rw [if_neg (by omega)], Fr_r _ _⟩
  | m + 1, j, h, K, h0, hm, hc, hc2 => by
    have F : Fr [(181, none)] h (sI h 181 (j - 2342).toNat (hI h 181 (j).toNat)) := Fr_I (Fr_r _ _) rfl
    obtain ⟨h2, e2, A, F2⟩ := l_q_M_remembers_13 m (j + 1) _ (KM_f K F rfl) (by omega) (by omega) (by rw [fI F 177 5 rfl]; exact hc) (by rw [fI F 177 5 rfl]; exact hc2)
    rw [fI F 177 5 rfl] at e2
    rw [q_M_remembers_13 K, if_pos (by omega), gd_t (by omega), gd_t (by omega), gd_t (by omega), gd_t (by omega)]
    refine ⟨h2, e2, fun k => ?_, Fr_t F F2⟩
    rw [A, hI_up]
    unfold upN
    by_cases c : (k : Int) = j - 2342
    · rw [if_neg (by omega), if_pos (by omega), if_pos (by omega), show (j).toNat = k + 2342 by omega]
    · skip
      by_cases c2 : j - 2342 ≤ (k : Int) ∧ (k : Int) < 21078
      · rw [if_pos (by omega), if_neg (by omega), if_pos c2]
      · rw [if_neg (by omega), if_neg (by omega), if_neg c2]
theorem c_remembers {h : zH} {σ : MSt} (M : MM h σ) (S : SS σ) : ∃ h2, zC 341 [zR (some 177)] h = some (.inl none, h2) ∧ hI h2 177 5 = psc σ.2.2.2.2.1 ∧ (∀ i, i < psc σ.2.2.2.2.1 → blk (hI h2 181) (2342 * (psc σ.2.2.2.2.1 - 1 - i)) (psh σ.2.2.2.1 σ.2.2.2.2.2.1 i)) ∧ Fr [(181, none), (177, some 5)] h h2 := by
  obtain ⟨n, top, R, N, c, Ol, s0, s1, I, m, O, ec, ep⟩ := σ
  obtain ⟨⟨K, m1, m2, m3, m4⟩, ⟨m5, m6⟩, _⟩ := M
  obtain ⟨_, _, _, ⟨h10, _⟩, _⟩ := S
  show ∃ h2, zC 341 [zR (some 177)] h = some (.inl none, h2) ∧ hI h2 177 5 = psc c ∧ (∀ i, i < psc c → blk (hI h2 181) (2342 * (psc c - 1 - i)) (psh N Ol i)) ∧ Fr [(181, none), (177, some 5)] h h2
  rw [q_M_remembers K, m5]
  by_cases cc : c = 10
  · subst cc
    rw [if_pos (by omega)]
    obtain ⟨h1, e1, A1, F1⟩ := l_q_M_remembers_13 21078 2342 h K (by omega) (by omega) (by omega) (by omega)
    rw [m5] at e1
    have F2 : Fr [(177, some 5)] h1 (sI h1 177 5 ((10 : Nat) - 1 : Int)) := Fr_I (Fr_r _ _) rfl
    have K2 := KM_f (KM_f K F1 rfl) F2 rfl
    obtain ⟨h3, e3, A3, F3⟩ := l_q_M_remembers_54 (o := 9) (by omega) (by omega) 2342 0 _ K2 rfl (by omega) (by omega)
    rw [e1, e3]
    refine ⟨_, rfl, rfl, fun i hi k hk => ?_, Fr_t (Fr_m F1 rfl) (Fr_t (Fr_m F2 rfl) (Fr_I (Fr_m F3 rfl) rfl))⟩
    have hi : i < 10 := hi
    show hI h3 181 _ = _
    rw [A3]
    have ep : (psc 10 : Nat) = 10 := rfl
    rw [ep]
    cases i with
    | zero =>
      rw [if_pos (by omega), rI F2 179 rfl, rI F1 179 rfl, m4]
      show N _ = N k
      congr 1
      omega
    | succ i =>
      rw [if_neg (by omega), rI F2 181 rfl, A1, if_pos (by omega)]
      have := m6 i (by omega) k hk
      show _ = Ol i k
      rw [← this]
      congr 1
      omega
  · rw [if_neg (by omega)]
    obtain ⟨h3, e3, A3, F3⟩ := l_q_M_remembers_54 (o := c) (by omega) (by omega) 2342 0 _ K m5 (by omega) (by omega)
    rw [e3]
    have ep : psc c = c + 1 := if_neg cc
    rw [ep]
    refine ⟨_, rfl, rfl, fun i hi k hk => ?_, Fr_I (Fr_m F3 rfl) rfl⟩
    show hI h3 181 _ = _
    rw [A3]
    cases i with
    | zero =>
      rw [if_pos (by omega), m4]
      show N _ = N k
      congr 1
      omega
    | succ i =>
      rw [if_neg (by omega)]
      have := m6 i (by omega) k hk
      show _ = Ol i k
      rw [← this]
      congr 1
      omega
/-- a change of the formulas is remembered; the new ones stand -/
def chg (N2 : Nat → Int) : MSt → MSt
  | (n, top, R, N, c, Ol, s0, s1, I, m, O, ec, ep) => (n, top, R, N2, psc c, psh N Ol, s0, s1, I, m, O, ec, ep)
theorem SS_chg {σ : MSt} (S : SS σ) {N2 : Nat → Int} (P2 : Prg σ.1 σ.2.1 σ.2.2.1 N2) (nz2 : NZ N2) : SS (chg N2 σ) := by
  obtain ⟨n, top, R, N, c, Ol, s0, s1, I, m, O, ec, ep⟩ := σ
  obtain ⟨P, rz, nz, h4, h5, h6, hm⟩ := id S
  refine ⟨P2, rz, nz2, ⟨?_, fun i hi => ?_⟩, h5, h6, hm⟩
  · unfold psc; split <;> omega
  · cases i with
    | zero => exact ⟨P, nz⟩
    | succ i => exact h4.2 i (by unfold psc at hi; split at hi <;> omega)
/-- a remembered state, when the formulas are written behind it -/
theorem MM_chg {h h2 h3 : zH} {σ : MSt} (M : MM h σ) (e5 : hI h2 177 5 = psc σ.2.2.2.2.1) (eO : ∀ i, i < psc σ.2.2.2.2.1 → blk (hI h2 181) (2342 * (psc σ.2.2.2.2.1 - 1 - i)) (psh σ.2.2.2.1 σ.2.2.2.2.2.1 i)) (F : Fr [(181, none), (177, some 5)] h h2) {N2 : Nat → Int} (hN : hI h3 179 = N2) {A : FA} (F3 : Fr A h2 h3) (e : (okM A && rowA A 183 && rowA A 181 && rowA A 182 && rowA A 185 && rowA A 186 && !inA A 177 5 && !inA A 177 7 && !inA A 177 10 && !inA A 177 12 && !inA A 177 15 && !inA A 177 17 && !inA A 177 18 && !inA A 177 19) = true) : MM h3 (chg N2 σ) := by
  obtain ⟨n, top, R, N, c, Ol, s0, s1, I, m, O, ec, ep⟩ := σ
  obtain ⟨⟨K, m1, m2, m3, m4⟩, ⟨m5, m6⟩, ⟨m7, m8, m9⟩, ⟨m10, m11⟩, m12, m13, m14⟩ := M
  simp only [Bool.and_eq_true, Bool.not_eq_true'] at e
  obtain ⟨⟨⟨⟨⟨⟨⟨⟨⟨⟨⟨⟨⟨a0, a183⟩, a181⟩, a182⟩, a185⟩, a186⟩, a5⟩, a7⟩, a10⟩, a12⟩, a15⟩, a17⟩, a18⟩, a19⟩ := e
  refine ⟨⟨KM_f (KM_f K F rfl) F3 a0, ((fI F3 177 10 a10).trans (fI F 177 10 rfl)).trans m1, ((fI F3 177 12 a12).trans (fI F 177 12 rfl)).trans m2, ((rI F3 183 a183).trans (rI F 183 rfl)).trans m3, hN⟩, ⟨(fI F3 177 5 a5).trans e5, ?_⟩, ⟨((fI F3 177 7 a7).trans (fI F 177 7 rfl)).trans m7, ?_, ?_⟩, ⟨((rI F3 185 a185).trans (rI F 185 rfl)).trans m10, ((fI F3 177 15 a15).trans (fI F 177 15 rfl)).trans m11⟩, OU_f (OU_f m12 F rfl rfl) F3 a186 a17, ((fI F3 177 18 a18).trans (fI F 177 18 rfl)).trans m13, ((fI F3 177 19 a19).trans (fI F 177 19 rfl)).trans m14⟩
  · rw [rI F3 181 a181]; exact eO
  · unfold svB; rw [rI F3 182 a182, rI F 182 rfl]; exact m8
  · unfold svB; rw [rI F3 182 a182, rI F 182 rfl]; exact m9
def nfC (n top : Int) (R N : Nat → Int) : Int := nfS n top R N (TT n R N) (NN n R N)
def aFill (l f : Int) (σ : MSt) : (Int × zV) × MSt :=
  if lpAt σ.1 σ.2.2.1 3 l = -1 then ((1, zI 0), σ) else if -1 ≤ f ∧ f ≤ 38 then ((0, zI (nfC σ.1 σ.2.1 σ.2.2.1 (upN σ.2.2.2.1 (2294 + lpAt σ.1 σ.2.2.1 3 l).toNat f))), chg (upN σ.2.2.2.1 (2294 + lpAt σ.1 σ.2.2.1 3 l).toNat f) σ) else ((2, zI 0), σ)
theorem MM_P {h : zH} {σ : MSt} (M : MM h σ) : MB σ.1 σ.2.1 σ.2.2.1 σ.2.2.2.1 h := by
  obtain ⟨n, top, R, N, c, Ol, s0, s1, I, m, O, ec, ep⟩ := σ
  exact M.1
theorem SS_P {σ : MSt} (S : SS σ) : Prg σ.1 σ.2.1 σ.2.2.1 σ.2.2.2.1 := by
  obtain ⟨n, top, R, N, c, Ol, s0, s1, I, m, O, ec, ep⟩ := σ
  exact S.1
theorem SS_Z {σ : MSt} (S : SS σ) : NZ σ.2.2.2.1 := by
  obtain ⟨n, top, R, N, c, Ol, s0, s1, I, m, O, ec, ep⟩ := σ
  exact S.2.2.1
theorem MC_refuse {h : zH} {σ : MSt} {q : Nat} {as : List zV} {k : Int} {v : zV} (M : MM h σ) (e : zC q (zR (some 177) :: as) h = some (.inl (some v), sI h 177 1 k)) : MC h q as ((k, v), σ) :=
  ⟨_, e, rfl, MM_f M (Fr_I (Fr_r [(177, some 1)] _) rfl) rfl, Fr_I (Fr_r _ _) rfl⟩
/-- behind a change: the answer needs a reckoning that leaves all else -/
theorem m_fill {h : zH} {σ : MSt} (M : MM h σ) (S : SS σ) (l f : Int) : MC h 345 [zI l, zI f] (aFill l f σ) := by
  have P := SS_P S
  have B := MM_P M
  have w0 := P.1.1
  have el := f_M_holeAt_e B P.2.2.1 w0.1 l
  have b1 := B.2.1
  have hq := q_M_fill (h := h) (x1 := l) (x2 := f) B.1
  rw [el] at hq
  unfold aFill
  rcases lpAt_c P (Or.inr rfl) l with ⟨_, ⟨l0, l1⟩, lk⟩ | ⟨_, ln⟩
  · rw [if_neg (by omega)] at hq ⊢
    by_cases cf : -1 ≤ f ∧ f ≤ 38
    · rw [if_pos cf]
      rw [if_pos (show b_M_in f (-1) 38 by unfold b_M_in; omega)] at hq
      obtain ⟨h1, e1, x5, xO, F1⟩ := c_remembers M S
      have B1 : MB σ.1 σ.2.1 σ.2.2.1 σ.2.2.2.1 h1 := MB_f B F1 rfl
      have B2 := MB_up B1 (2294 + lpAt σ.1 σ.2.2.1 3 l).toNat f
      have P2 := Prg_fill P l0 l1 lk cf.1 cf.2
      obtain ⟨h3, e3, F3⟩ := c_failsNow B2 (Prg_S P2)
      have B3 := MB_f B2 F3 rfl
      rw [MC, hq, e1, q_M_fill_r37 B1.1, gd_t (by omega), gd_t (by omega), e3, q_M_fill_r53 B3.1]
      have F2 : Fr scrA h1 (sI h1 179 (2294 + lpAt σ.1 σ.2.2.1 3 l).toNat f) := Fr_I (Fr_r _ _) rfl
      have F4 : Fr ((177, some 1) :: (179, none) :: scrF) h1 (sI h3 177 1 0) := Fr_I (Fr_t (Fr_I (Fr_r _ _) rfl) (Fr_m F3 rfl)) rfl
      exact ⟨_, rfl, rfl, MM_chg M x5 xO F1 B3.2.2.2.2 F4 rfl, Fr_t (Fr_m F1 rfl) (Fr_m F4 rfl)⟩
    · rw [if_neg cf]
      rw [if_neg (show ¬ b_M_in f (-1) 38 by unfold b_M_in; omega)] at hq
      exact MC_refuse M hq
  · rw [if_pos ln] at hq ⊢
    exact MC_refuse M hq
theorem NZ_up2 {N : Nat → Int} (H : NZ N) {i v : Int} (h : i < 2342) (h0 : 0 ≤ i) : NZ (upN N i.toNat v) := NZ_up H (by omega)
theorem SS_fill {σ : MSt} (S : SS σ) (l f : Int) : SS (aFill l f σ).2 := by
  have P := SS_P S
  have w0 := P.1.1
  unfold aFill
  rcases lpAt_c P (Or.inr rfl) l with ⟨_, ⟨l0, l1⟩, lk⟩ | ⟨_, ln⟩
  · rw [if_neg (by omega)]
    by_cases cf : -1 ≤ f ∧ f ≤ 38
    · rw [if_pos cf]
      exact SS_chg S (Prg_fill P l0 l1 lk cf.1 cf.2) (NZ_up2 (SS_Z S) (by omega) (by omega))
    · rw [if_neg cf]; exact S
  · rw [if_pos ln]; exact S
/-- another price -/
theorem Prg_price {n top : Int} {R N : Nat → Int} (P : Prg n top R N) {s x : Int} (h0 : 0 ≤ s) (h1 : s < n) (hx : 0 ≤ x) (hx2 : x ≤ 99) : Prg n top R (upN N (2318 + s).toNat x) := by
  obtain ⟨w, v, u, t⟩ := P
  have w0 := w.1
  refine ⟨w, ⟨fmOk_up (by omega) (by omega) v.1, fmOk_up (by omega) (by omega) v.2.1, fun c c0 c1 => ?_⟩, u, t⟩
  have vc := v.2.2 c c0 c1
  refine ⟨fun k => fmOk_up (by omega) (by omega) (vc.1 k), fun k => fmOk_up (by omega) (by omega) (vc.2.1 k), fun k => ⟨fmOk_up (by omega) (by omega) (vc.2.2.1 k).1, fmOk_up (by omega) (by omega) (vc.2.2.1 k).2.1, fmOk_up (by omega) (by omega) (vc.2.2.1 k).2.2⟩, fun k => ?_, ?_⟩
  · rw [upN_n _ _ (by omega)]; exact vc.2.2.2.1 k
  · by_cases e : c = s
    · subst e; rw [upN_s]; exact ⟨hx, hx2⟩
    · rw [upN_n _ _ (by omega)]; exact vc.2.2.2.2
def aSetPrice (s x : Int) (σ : MSt) : (Int × zV) × MSt :=
  if 0 ≤ s ∧ s < σ.1 then (if 0 ≤ x ∧ x ≤ 99 then ((0, zI (σ.2.2.2.1 (2318 + s).toNat)), chg (upN σ.2.2.2.1 (2318 + s).toNat x) σ) else ((2, zI 0), σ)) else ((1, zI 0), σ)
theorem m_setPrice {h : zH} {σ : MSt} (M : MM h σ) (S : SS σ) (s x : Int) : MC h 346 [zI s, zI x] (aSetPrice s x σ) := by
  have P := SS_P S
  have B := MM_P M
  have w0 := P.1.1
  have b1 := B.2.1
  have hq := q_M_setPrice (h := h) (x1 := s) (x2 := x) B.1
  unfold aSetPrice
  by_cases cs : 0 ≤ s ∧ s < σ.1
  · rw [if_pos cs]
    rw [if_pos ((isSt_e B s).2 cs)] at hq
    by_cases cx : 0 ≤ x ∧ x ≤ 99
    · rw [if_pos cx]
      rw [if_pos (show b_M_in x 0 99 by unfold b_M_in; omega)] at hq
      obtain ⟨h1, e1, x5, xO, F1⟩ := c_remembers M S
      have B1 : MB σ.1 σ.2.1 σ.2.2.1 σ.2.2.2.1 h1 := MB_f B F1 rfl
      rw [MC, hq, e1, q_M_setPrice_r34 B1.1, gd_t (by omega), gd_t (by omega), B1.2.2.2.2]
      have F4 : Fr [(177, some 1), (179, none)] h1 (sI (sI h1 179 (2318 + s).toNat x) 177 1 0) := Fr_I (Fr_I (Fr_r _ _) rfl) rfl
      refine ⟨_, rfl, rfl, MM_chg M x5 xO F1 ?_ F4 rfl, Fr_t (Fr_m F1 rfl) (Fr_m F4 rfl)⟩
      rw [show hI (sI (sI h1 179 (2318 + s).toNat x) 177 1 0) 179 = hI (sI h1 179 (2318 + s).toNat x) 179 from rI (Fr_I (Fr_r [(177, some 1)] _) rfl) 179 rfl, hI_up, B1.2.2.2.2]
    · rw [if_neg cx]
      rw [if_neg (show ¬ b_M_in x 0 99 by unfold b_M_in; omega)] at hq
      exact MC_refuse M hq
  · rw [if_neg cs]
    rw [if_neg (fun e => cs ((isSt_e B s).1 e))] at hq
    exact MC_refuse M hq
theorem SS_setPrice {σ : MSt} (S : SS σ) (s x : Int) : SS (aSetPrice s x σ).2 := by
  have P := SS_P S
  have w0 := P.1.1
  unfold aSetPrice
  by_cases cs : 0 ≤ s ∧ s < σ.1
  · rw [if_pos cs]
    by_cases cx : 0 ≤ x ∧ x ≤ 99
    · rw [if_pos cx]
      exact SS_chg S (Prg_price P cs.1 cs.2 cx.1 cx.2) (NZ_up2 (SS_Z S) (by omega) (by omega))
    · rw [if_neg cx]; exact S
  · rw [if_neg cs]; exact S
end LOAD3
