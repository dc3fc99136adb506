/-! The reference: what is met, rounds, the dearest, the mean; what would be. -/
section API4
variable {n top : Int} {R N : Nat → Int}
def sfS (n : Int) (R N : Nat → Int) (s : Int) : BitVec 64 := bset fun st => decide (TT n R N s st ≠ -1) && bt (ahd N (NN n R N) (thn R s)) (TT n R N s st)
theorem l_safeNow (P : Prg n top R N) {s : Int} (h0 : 0 ≤ s) (h1 : s < n) (hk : sv R s 0 = 2) : ∀ (m k : Nat) (h : zH), MB n top R N h → k + m = 64 → ∃ h2, zY 316 16 [some (zR (some 177)), some (zI s), some (zJ (ahd N (NN n R N) (thn R s))), none, some (zJ (bor (fun st => decide (TT n R N s st ≠ -1) && bt (ahd N (NN n R N) (thn R s)) (TT n R N s st)) k)), none, some (zI k)] [] h = some (.inl (some (zJ (sfS n R N s))), h2) ∧ Fr scrR h h2
  | 0, k, h, M, hm => by
    obtain rfl : k = 64 := by omega
    rw [q_M_safeNow_16 M.1, if_neg (by omega)]
    exact ⟨h, rfl, Fr_r _ _⟩
  | m + 1, k, h, M, hm => by
    have S := Prg_S P
    have e : ((k : Int) + 1) = ((k + 1 : Nat) : Int) := by omega
    obtain ⟨D, hD⟩ := runD_loop P.1 P.2.1 (isET_t P.1 P.2.1) (isTS_t P.1 (-1)) (st := k) h0 h1 (by omega) (by omega) (by omega) hk
    obtain ⟨h2, e2, hs, F2⟩ := c_runsLoop M P.1 P.2.1 (isTS_t P.1 (-1)) (isCL_t P.1 (-1)) h0 h1 (by omega) (by omega) hD
    have M2 := MB_f M F2 rfl
    have hr := isET_r2 P.1 P.2.1 (isET_t P.1 P.2.1) h0 h1 (st := k) (by omega) (by omega)
    obtain ⟨h3, e3, F3⟩ := l_safeNow P h0 h1 hk m (k + 1) h2 M2 (by omega)
    rw [q_M_safeNow_16 M.1, if_pos (by omega), e2, q_M_safeNow_r32 M2.1]
    rw [bor] at e3
    by_cases c : TT n R N s k = -1
    · rw [if_pos c, if_pos rfl, gd_t (by omega), e]
      rw [if_neg (by simp [c])] at e3
      exact ⟨h3, e3, Fr_t F2 F3⟩
    · rw [if_neg c, if_neg (by decide), hs c]
      by_cases g : bt (ahd N (NN n R N) (thn R s)) (TT n R N s k) = true
      · rw [if_pos ((holds_e _ (by omega) hr.2).2 g), gd_t (by omega), e]
        rw [if_pos (by simp [c, g])] at e3
        exact ⟨h3, e3, Fr_t F2 F3⟩
      · rw [if_neg (fun q => g ((holds_e _ (by omega) hr.2).1 q)), gd_t (by omega), e]
        rw [if_neg (by simp [g])] at e3
        exact ⟨h3, e3, Fr_t F2 F3⟩
theorem c_safeNow {h : zH} (M : MB n top R N h) (P : Prg n top R N) {s : Int} (h0 : 0 ≤ s) (h1 : s < n) (hk : sv R s 0 = 2) : ∃ h2, zC 316 [zR (some 177), zI s] h = some (.inl (some (zJ (sfS n R N s))), h2) ∧ Fr scrQ h h2 := by
  obtain ⟨g, e, A, F⟩ := c_lays M P
  have M1 := MB_f M F rfl
  obtain ⟨g2, e2, F2⟩ := c_needBehind M1 P.1 P.2.1 (isTH_t P.1) (isND_w (isND_t P.1)) h0 h1 (fun t a b => A t (by omega) b)
  have M2 := MB_f M1 F2 rfl
  obtain ⟨g3, e3, F3⟩ := l_safeNow P h0 h1 hk 64 0 g2 M2 rfl
  rw [q_M_safeNow M.1, e, q_M_safeNow_r4 M1.1, e2, q_M_safeNow_r9 M2.1]
  exact ⟨g3, e3, Fr_t F (Fr_t (Fr_m F2 rfl) (Fr_m F3 rfl))⟩
def aSafe (n : Int) (R N : Nat → Int) (l : Int) : Int × zV := if lpAt n R 2 l = -1 then (1, zJ 0#64) else (0, zJ (sfS n R N (lpAt n R 2 l)))
theorem m_safe {h : zH} (M : MB n top R N h) (P : Prg n top R N) (l : Int) : MA h 315 [zI l] (aSafe n R N l) := by
  have w0 := P.1.1
  have m1 := M.2.1
  have hq := q_M_safe (h := h) (x1 := l) M.1
  rw [f_M_loopAt_e M P.2.2.1 w0.1] at hq
  unfold aSafe
  rcases lpAt_c P (Or.inl rfl) l with ⟨_, ⟨l0, l1⟩, lk⟩ | ⟨_, ln⟩
  · obtain ⟨g, e, F⟩ := c_safeNow M P l0 l1 lk
    rw [if_neg (by omega), e, q_M_safe_r22 (KM_f M.1 F rfl)] at hq
    rw [if_neg (by omega)]
    exact MA_i F hq
  · rw [if_pos ln] at hq ⊢
    exact MA_i (Fr_r _ _) hq
def aUnsf (n : Int) (R N : Nat → Int) (l : Int) : Int × zV := if lpAt n R 2 l = -1 then (1, zJ 0#64) else (0, zJ (setL (lst N (26 + lpAt n R 2 l)) &&& ~~~ sfS n R N (lpAt n R 2 l)))
theorem m_unsf {h : zH} (M : MB n top R N h) (P : Prg n top R N) (l : Int) : MA h 318 [zI l] (aUnsf n R N l) := by
  have w0 := P.1.1
  have m1 := M.2.1
  have hq := q_M_unsf (h := h) (x1 := l) M.1
  rw [f_M_loopAt_e M P.2.2.1 w0.1] at hq
  unfold aUnsf
  rcases lpAt_c P (Or.inl rfl) l with ⟨_, ⟨l0, l1⟩, lk⟩ | ⟨_, ln⟩
  · have v1 := (P.2.1.2.2 _ l0 l1).2.2.1 lk
    obtain ⟨g, e, F⟩ := c_setOf M.1 M.2.2.2.2 (q := 26 + lpAt n R 2 l) (by omega) (by omega) v1.2.1
    have M1 := MB_f M F rfl
    obtain ⟨g2, e2, F2⟩ := c_safeNow M1 P l0 l1 lk
    rw [if_neg (by omega), gd_t (by omega), e, q_M_unsf_r25 M1.1, e2, q_M_unsf_r30 (KM_f M1.1 F2 rfl), not_e] at hq
    rw [if_neg (by omega)]
    exact MA_i (Fr_t (Fr_m F rfl) F2) hq
  · rw [if_pos ln] at hq ⊢
    exact MA_i (Fr_r _ _) hq
theorem c_befQ {h : zH} (M : MB n top R N h) (P : Prg n top R N) {st : Int} (h0 : 0 ≤ st) (h1 : st < 64) : ∃ h2, zC 302 [zR (some 177), zI st] h = some (.inl (some (zI (if bt (setL (lst N 0)) st = true then 1 else 0))), h2) ∧ Fr scrE h h2 := c_isBefore M.1 M.2.2.2.2 h0 h1 P.2.1.1
theorem mtT_c {th : Int → Int} {al : Int} {p : Int × Int} {m0 m1 : Int → BitVec 64} {l : Int} (h : m0 l = m1 l) : ∀ (k : Nat), mtT R N th al p m0 k l = mtT R N th al p m1 k l
  | 0 => h
  | k + 1 => by
    simp only [mtT, mtS]
    rw [mtT_c h k]
/-- what has been met behind the runs from the first k states -/
def mtA (n top : Int) (R N : Nat → Int) : Nat → Int → BitVec 64
  | 0 => fun _ => 0#64
  | k + 1 => if bt (setL (lst N 0)) k = true then mtT R N (thn R) (-1) (top, k) (mtA n top R N k) (dT R N top k + if EC n top R N k = -1 then 1 else 0) else mtA n top R N k
theorem l_forgetsMet : ∀ (m : Nat) (x : Int) (h : zH), KM h → 0 ≤ x → 24 - x = m → (∀ l : Int, 0 ≤ l → l < x → hJ h 195 l.toNat = 0#64) → ∃ h2, zY 301 2 [some (zR (some 177)), some (zI x)] [] h = some (.inl none, h2) ∧ (∀ l : Int, 0 ≤ l → l < 24 → hJ h2 195 l.toNat = 0#64) ∧ Fr [(195, none)] h h2
  | 0, x, h, K, h0, hm, hz => by
    rw [q_M_forgetsMet_2 K, if_neg (by omega)]
    exact ⟨h, rfl, fun l q0 q1 => hz l q0 (by omega), Fr_r _ _⟩
  | m + 1, x, h, K, h0, hm, hz => by
    rw [q_M_forgetsMet_2 K, if_pos (by omega), gd_t (by omega), gd_t (by omega)]
    have F1 : Fr [(195, none)] h (sJ h 195 x.toNat 0#64) := Fr_J (Fr_r _ _) rfl
    obtain ⟨h2, e2, z2, F2⟩ := l_forgetsMet m (x + 1) _ (KM_f K F1 rfl) (by omega) (by omega) (fun l q0 q1 => by
      rw [hJ_sJ, zup]
      by_cases c : l = x
      · subst c; rw [if_pos ⟨rfl, rfl⟩]
      · rw [if_neg (by omega)]; exact hz l q0 (by omega))
    exact ⟨h2, e2, z2, Fr_t F1 F2⟩
theorem l_met (P : Prg n top R N) {s : Int} (h0 : 0 ≤ s) (h1 : s < n) : ∀ (m k : Nat) (h : zH), MB n top R N h → k + m = 64 → (∀ l : Int, 0 ≤ l → l < 24 → hJ h 195 l.toNat = mtA n top R N k l) → ∃ h2, zY 300 19 [some (zR (some 177)), some (zI s), some (zI k), none] [] h = some (.inl (some (zJ (mtA n top R N 64 s))), sI h2 177 1 0) ∧ Fr scrQ h h2
  | 0, k, h, M, hm, hA => by
    have w0 := P.1.1
    obtain rfl : k = 64 := by omega
    rw [q_M_met_19 M.1, if_neg (by omega), gd_t (by omega), hA s h0 (by omega)]
    exact ⟨h, rfl, Fr_r _ _⟩
  | m + 1, k, h, M, hm, hA => by
    have e : ((k : Int) + 1) = ((k + 1 : Nat) : Int) := by omega
    obtain ⟨g, e1, F1⟩ := c_befQ M P (st := k) (by omega) (by omega)
    have M1 := MB_f M F1 rfl
    have hA1 : ∀ l : Int, 0 ≤ l → l < 24 → hJ g 195 l.toNat = mtA n top R N k l := fun l a b => by rw [rJ F1 195 rfl]; exact hA l a b
    rw [q_M_met_19 M.1, if_pos (by omega), e1, q_M_met_r30 M1.1]
    by_cases c : bt (setL (lst N 0)) k = true
    · obtain ⟨g2, e2, E2, _, F2, _⟩ := c_runQ M1 P (st := k) (by omega) (by omega)
      have M2 := MB_f M1 F2 rfl
      have hA2 : ∀ l : Int, 0 ≤ l → l < 24 → hJ g2 195 l.toNat = mtA n top R N (k + 1) l := fun l a b => by
        rw [(E2.2.2.2.2 l a b).2.2.2, mtA, if_pos c]
        exact mtT_c (hA1 l a b) _
      obtain ⟨g3, e3, F3⟩ := l_met P h0 h1 m (k + 1) g2 M2 (by omega) hA2
      rw [if_pos c, if_neg (by decide), e2, q_M_met_r38 M2.1]
      refine ⟨g3, ?_, Fr_t (Fr_m F1 rfl) (Fr_t F2 F3)⟩
      by_cases z : EC n top R N k = -1
      · rw [if_pos z, if_pos rfl, gd_t (by omega), e]
        exact zY_le (by exact ⟨rfl, rfl, rfl, trivial⟩) e3
      · rw [if_neg z, if_neg (by decide), gd_t (by omega), e]
        exact zY_le (by exact ⟨rfl, rfl, rfl, trivial⟩) e3
    · obtain ⟨g3, e3, F3⟩ := l_met P h0 h1 m (k + 1) g M1 (by omega) (fun l a b => by rw [hA1 l a b, mtA, if_neg c])
      rw [if_neg c, if_pos rfl, gd_t (by omega), e]
      exact ⟨g3, zY_le (by exact ⟨rfl, rfl, rfl, trivial⟩) e3, Fr_t (Fr_m F1 rfl) F3⟩
def aMet (n top : Int) (R N : Nat → Int) (s : Int) : Int × zV := if 0 ≤ s ∧ s < n then (0, zJ (mtA n top R N 64 s)) else (1, zJ 0#64)
theorem m_met {h : zH} (M : MB n top R N h) (P : Prg n top R N) (s : Int) : MA h 300 [zI s] (aMet n top R N s) := by
  have w0 := P.1.1
  have m1 := M.2.1
  have hq := q_M_met (h := h) (x1 := s) M.1
  unfold aMet
  by_cases c : 0 ≤ s ∧ s < n
  · obtain ⟨g, e, z, F⟩ := l_forgetsMet 24 0 h M.1 (by omega) (by omega) (fun l a b => by omega)
    have M1 := MB_f M F rfl
    obtain ⟨g2, e2, F2⟩ := l_met P c.1 c.2 64 0 g M1 rfl z
    rw [if_pos ((isSt_e M s).2 c), q_M_forgetsMet M.1, e, q_M_met_r17 M1.1] at hq
    rw [if_pos c]
    exact MA_i (Fr_t (Fr_m F rfl) F2) (hq.trans e2)
  · rw [if_neg (fun q => c ((isSt_e M s).1 q))] at hq
    rw [if_neg c]
    exact MA_i (Fr_r _ _) hq
abbrev msC (R N : Nat → Int) (top st l : Int) : Int := msT R N (thn R) (clS R (-1)) (-1) (top, st) (dT R N top st) l
/-- the most rounds of a loop in runs from the first k states -/
def rdA (n top : Int) (R N : Nat → Int) (l : Int) : Nat → Int
  | 0 => 0
  | k + 1 => if bt (setL (lst N 0)) k = true ∧ EC n top R N k ≠ -1 ∧ rdA n top R N l k < msC R N top k l then msC R N top k l else rdA n top R N l k
theorem l_rounds (P : Prg n top R N) {l s : Int} (h0 : 0 ≤ s) (h1 : s < n) : ∀ (m k : Nat) (h : zH), MB n top R N h → k + m = 64 → ∃ h2, zY 303 22 [some (zR (some 177)), some (zI l), some (zI s), some (zI (rdA n top R N s k)), some (zI k)] [] h = some (.inl (some (zI (rdA n top R N s 64))), sI h2 177 1 0) ∧ Fr scrQ h h2
  | 0, k, h, M, hm => by
    obtain rfl : k = 64 := by omega
    rw [q_M_rounds_22 M.1, if_neg (by omega)]
    exact ⟨h, rfl, Fr_r _ _⟩
  | m + 1, k, h, M, hm => by
    have w0 := P.1.1
    have e : ((k : Int) + 1) = ((k + 1 : Nat) : Int) := by omega
    obtain ⟨g, e1, F1⟩ := c_befQ M P (st := k) (by omega) (by omega)
    have M1 := MB_f M F1 rfl
    rw [q_M_rounds_22 M.1, if_pos (by omega), e1, q_M_rounds_r35 M1.1]
    by_cases c : bt (setL (lst N 0)) k = true
    · obtain ⟨g2, e2, E2, _, F2, _⟩ := c_runQ M1 P (st := k) (by omega) (by omega)
      have M2 := MB_f M1 F2 rfl
      obtain ⟨g3, e3, F3⟩ := l_rounds P (l := l) h0 h1 m (k + 1) g2 M2 (by omega)
      rw [if_pos c, if_neg (by decide), e2, q_M_rounds_r44 M2.1]
      refine ⟨g3, ?_, Fr_t (Fr_m F1 rfl) (Fr_t F2 F3)⟩
      rw [rdA] at e3
      by_cases z : EC n top R N k = -1
      · rw [if_pos z, if_pos rfl, gd_t (by omega), e]
        rw [if_neg (fun q => q.2.1 z)] at e3
        exact e3
      · have hm2 : hI g2 194 s.toNat = msC R N top k s := (E2.2.2.2.2 s h0 (by omega)).2.2.1
        rw [if_neg z, if_neg (by decide), gd_t (by omega), hm2]
        by_cases y : rdA n top R N s k < msC R N top k s
        · rw [if_pos y, gd_t (by omega), e]
          rw [if_pos ⟨c, z, y⟩] at e3
          exact e3
        · rw [if_neg y, gd_t (by omega), e]
          rw [if_neg (fun q => y q.2.2)] at e3
          exact e3
    · obtain ⟨g3, e3, F3⟩ := l_rounds P (l := l) h0 h1 m (k + 1) g M1 (by omega)
      rw [if_neg c, if_pos rfl, gd_t (by omega), e]
      rw [rdA, if_neg (fun q => c q.1)] at e3
      exact ⟨g3, e3, Fr_t (Fr_m F1 rfl) F3⟩
def aRounds (n top : Int) (R N : Nat → Int) (l : Int) : Int × zV := if lpAt n R 2 l = -1 then (1, zI 0) else (0, zI (rdA n top R N (lpAt n R 2 l) 64))
theorem m_rounds {h : zH} (M : MB n top R N h) (P : Prg n top R N) (l : Int) : MA h 303 [zI l] (aRounds n top R N l) := by
  have w0 := P.1.1
  have m1 := M.2.1
  have hq := q_M_rounds (h := h) (x1 := l) M.1
  rw [f_M_loopAt_e M P.2.2.1 w0.1] at hq
  unfold aRounds
  rcases lpAt_c P (Or.inl rfl) l with ⟨_, ⟨l0, l1⟩, lk⟩ | ⟨_, ln⟩
  · obtain ⟨g, e, F⟩ := l_rounds P (l := l) l0 l1 64 0 h M rfl
    rw [if_neg (by omega)] at hq ⊢
    exact MA_i F (hq.trans e)
  · rw [if_pos ln] at hq ⊢
    exact MA_i (Fr_r _ _) hq
def fgt (x y : UInt32) : Bool := decide (0 < (Op.cmpValue (FP.fcmp x y) .l).toInt)
/-- the dearest state so far, and its cost -/
def drA (n top : Int) (R N : Nat → Int) : Nat → Int × UInt32
  | 0 => (-1, FP.fconst0)
  | k + 1 => if bt (setL (lst N 0)) k = true ∧ EC n top R N k ≠ -1 ∧ ((drA n top R N k).1 = -1 ∨ fgt (coC R N top k) (drA n top R N k).2 = true) then (k, coC R N top k) else drA n top R N k
theorem l_dearest (P : Prg n top R N) : ∀ (m k : Nat) (h : zH), MB n top R N h → k + m = 64 → ∃ h2, zY 307 6 [some (zR (some 177)), some (zI (drA n top R N k).1), some (zF (drA n top R N k).2), some (zI k)] [] h = some (.inl (some (zI (drA n top R N 64).1)), sI h2 177 1 0) ∧ Fr scrQ h h2
  | 0, k, h, M, hm => by
    obtain rfl : k = 64 := by omega
    rw [q_M_dearest_6 M.1, if_neg (by omega)]
    exact ⟨h, rfl, Fr_r _ _⟩
  | m + 1, k, h, M, hm => by
    have e : ((k : Int) + 1) = ((k + 1 : Nat) : Int) := by omega
    obtain ⟨g, e1, F1⟩ := c_befQ M P (st := k) (by omega) (by omega)
    have M1 := MB_f M F1 rfl
    rw [q_M_dearest_6 M.1, if_pos (by omega), e1, q_M_dearest_r17 M1.1]
    by_cases c : bt (setL (lst N 0)) k = true
    · obtain ⟨g2, e2, E2, _, F2, _⟩ := c_runQ M1 P (st := k) (by omega) (by omega)
      have M2 := MB_f M1 F2 rfl
      obtain ⟨g3, e3, F3⟩ := l_dearest P m (k + 1) g2 M2 (by omega)
      rw [if_pos c, if_neg (by decide), e2, q_M_dearest_r25 M2.1]
      refine ⟨g3, ?_, Fr_t (Fr_m F1 rfl) (Fr_t F2 F3)⟩
      rw [drA] at e3
      by_cases z : EC n top R N k = -1
      · rw [if_pos z, if_pos rfl, gd_t (by omega), e]
        rw [if_neg (fun q => q.2.1 z)] at e3
        exact e3
      · have hc : hF g2 177 31 = coC R N top k := E2.2.2.2.1
        rw [if_neg z, if_neg (by decide), hc]
        by_cases y : (drA n top R N k).1 = -1
        · rw [if_pos y, gd_t (by omega), e]
          rw [if_pos ⟨c, z, Or.inl y⟩] at e3
          exact e3
        · rw [if_neg y]
          by_cases y2 : fgt (coC R N top k) (drA n top R N k).2 = true
          · rw [if_pos (of_decide_eq_true y2), gd_t (by omega), e]
            rw [if_pos ⟨c, z, Or.inr y2⟩] at e3
            exact e3
          · rw [if_neg (fun q => y2 (decide_eq_true q)), gd_t (by omega), e]
            rw [if_neg (fun q => q.2.2.elim y y2)] at e3
            exact e3
    · obtain ⟨g3, e3, F3⟩ := l_dearest P m (k + 1) g M1 (by omega)
      rw [if_neg c, if_pos rfl, gd_t (by omega), e]
      rw [drA] at e3
      rw [if_neg (fun q => c q.1)] at e3
      exact ⟨g3, e3, Fr_t (Fr_m F1 rfl) F3⟩
theorem m_dearest {h : zH} (M : MB n top R N h) (P : Prg n top R N) : MA h 307 [] (0, zI (drA n top R N 64).1) := by
  obtain ⟨g, e, F⟩ := l_dearest P 64 0 h M rfl
  exact MA_i F ((q_M_dearest (h := h) M.1).trans e)
/-- the costs together, and how many they are -/
def meA (n top : Int) (R N : Nat → Int) : Nat → UInt64 × Int
  | 0 => (FP.dconst0, 0)
  | k + 1 => if bt (setL (lst N 0)) k = true ∧ EC n top R N k ≠ -1 then (FP.dadd (meA n top R N k).1 (FP.f2d (coC R N top k)), (meA n top R N k).2 + 1) else meA n top R N k
def menS (n top : Int) (R N : Nat → Int) : UInt64 := if (meA n top R N 64).2 = 0 then FP.dconst0 else FP.ddiv (meA n top R N 64).1 (FP.i2d (Int32.ofInt (meA n top R N 64).2))
theorem meA_b (n top : Int) (R N : Nat → Int) : ∀ (k : Nat), 0 ≤ (meA n top R N k).2 ∧ (meA n top R N k).2 ≤ k
  | 0 => ⟨Int.le_refl _, Int.le_refl _⟩
  | k + 1 => by
    have := meA_b n top R N k
    rw [meA]
    by_cases c : bt (setL (lst N 0)) k = true ∧ EC n top R N k ≠ -1
    · rw [if_pos c]
      show 0 ≤ (meA n top R N k).2 + 1 ∧ (meA n top R N k).2 + 1 ≤ ((k + 1 : Nat) : Int)
      omega
    · rw [if_neg c]
      omega
theorem coC_p (P : Prg n top R N) {st : Int} (h2 : 0 ≤ st) (h3 : st < 64) (hE : EC n top R N st ≠ -1) (hD : RunD R N (thn R) (-1) (top, st) (dT R N top st) (EC n top R N st)) : fpos (coC R N top st) := by
  by_cases ht : top = -1
  · have h0 : dT R N top st = 0 := by
      obtain ⟨D, hD2, h4⟩ := runD_top (Prg_S P) h2 h3
      rw [← dT_e hD2]
      exact (h4 ht).1
    show fpos (coT R N (thn R) (-1) (top, st) (dT R N top st))
    rw [h0]
    exact fpos_0
  · obtain ⟨⟨d1, d2, d3⟩, d4, d5⟩ := hD
    have hnn : ∀ i, i < dT R N top st → (orb R N (thn R) (-1) (top, st) i).1 ≠ -1 := fun i hi e => d3 i hi (Or.inl e)
    have hp : pv n (top, st) := ⟨(Sem_top (Prg_S P)).resolve_left ht, h2, h3⟩
    exact coT_b P.1 P.2.1 _ _ fun i hi => ((orb_v (al := -1) P.1 P.2.1 (isTS_thR P.1 (isTS_t P.1 (-1))) hp i fun j hj => hnn j (by omega)).1.resolve_left (hnn i hi))
theorem l_meanNow (P : Prg n top R N) : ∀ (m k : Nat) (h : zH), MB n top R N h → k + m = 64 → dpos (meA n top R N k).1 → ∃ h2, zY 309 7 [some (zR (some 177)), some (zD (meA n top R N k).1), none, some (zI (meA n top R N k).2), some (zI k)] [] h = some (.inl (some (zD (menS n top R N))), h2) ∧ Fr scrR h h2 ∧ dpos (meA n top R N 64).1
  | 0, k, h, M, hm, hd => by
    obtain rfl : k = 64 := by omega
    have hb := meA_b n top R N 64
    rw [q_M_meanNow_7 M.1, if_neg (by omega)]
    unfold menS
    by_cases z : (meA n top R N 64).2 = 0
    · rw [if_pos z, if_pos z]
      exact ⟨h, rfl, Fr_r _ _, hd⟩
    · rw [if_neg z, if_neg z, gd_t (dpos_zn (dpos_div hd (by omega) (by omega)))]
      exact ⟨h, rfl, Fr_r _ _, hd⟩
  | m + 1, k, h, M, hm, hd => by
    have e : ((k : Int) + 1) = ((k + 1 : Nat) : Int) := by omega
    have hb := meA_b n top R N k
    obtain ⟨g, e1, F1⟩ := c_befQ M P (st := k) (by omega) (by omega)
    have M1 := MB_f M F1 rfl
    rw [q_M_meanNow_7 M.1, if_pos (by omega), e1, q_M_meanNow_r20 M1.1]
    by_cases c : bt (setL (lst N 0)) k = true
    · obtain ⟨D, g2, e2, hD, E2, _, F2⟩ := c_runsFrom2 M1 (Prg_S P) (st := k) (by omega) (by omega)
      have hdt := dT_e hD
      subst hdt
      have M2 := MB_f M1 F2 rfl
      rw [if_pos c, if_neg (by decide), e2, q_M_meanNow_r29 M2.1]
      by_cases z : EC n top R N k = -1
      · have hm0 : meA n top R N (k + 1) = meA n top R N k := by rw [meA, if_neg (fun q => q.2 z)]
        obtain ⟨g3, e3, F3, d3⟩ := l_meanNow P m (k + 1) g2 M2 (by omega) (by rw [hm0]; exact hd)
        rw [hm0] at e3
        rw [if_pos z, if_pos rfl, gd_t (by omega), e]
        exact ⟨g3, e3, Fr_t (Fr_m F1 rfl) (Fr_t F2 F3), d3⟩
      · have hc : hF g2 177 31 = coC R N top k := E2.2.2.2.1
        have hp := coC_p P (st := k) (by omega) (by omega) z hD
        have hm0 : meA n top R N (k + 1) = (FP.dadd (meA n top R N k).1 (FP.f2d (coC R N top k)), (meA n top R N k).2 + 1) := by rw [meA, if_pos ⟨c, z⟩]
        have hd2 := dpos_add hd (dpos_f2d hp)
        obtain ⟨g3, e3, F3, d3⟩ := l_meanNow P m (k + 1) g2 M2 (by omega) (by rw [hm0]; exact hd2)
        rw [hm0] at e3
        rw [if_neg z, if_neg (by decide), hc, gd_t (dpos_zn (dpos_f2d hp)), gd_t (dpos_zn hd2), gd_t (by omega), gd_t (by omega), e]
        exact ⟨g3, e3, Fr_t (Fr_m F1 rfl) (Fr_t F2 F3), d3⟩
    · have hm0 : meA n top R N (k + 1) = meA n top R N k := by rw [meA, if_neg (fun q => c q.1)]
      obtain ⟨g3, e3, F3, d3⟩ := l_meanNow P m (k + 1) g M1 (by omega) (by rw [hm0]; exact hd)
      rw [hm0] at e3
      rw [if_neg c, if_pos rfl, gd_t (by omega), e]
      exact ⟨g3, e3, Fr_t (Fr_m F1 rfl) F3, d3⟩
theorem c_meanNow {h : zH} (M : MB n top R N h) (P : Prg n top R N) : ∃ h2, zC 309 [zR (some 177)] h = some (.inl (some (zD (menS n top R N))), h2) ∧ Fr scrR h h2 := by
  obtain ⟨g, e, F, _⟩ := l_meanNow P 64 0 h M rfl dpos_0
  exact ⟨g, (q_M_meanNow (h := h) M.1).trans e, F⟩
theorem m_meanCost {h : zH} (M : MB n top R N h) (P : Prg n top R N) : MA h 308 [] (0, zD (menS n top R N)) := by
  have F0 : Fr scrQ h (sI h 177 1 0) := Fr_I (Fr_r _ _) rfl
  have M0 := MB_f M F0 rfl
  obtain ⟨g, e, F⟩ := c_meanNow M0 P
  have hq := q_M_meanCost (h := h) M.1
  rw [e, q_M_meanCost_r9 (KM_f M0.1 F rfl)] at hq
  refine MA_0 ?_ (Fr_t F0 (Fr_m F rfl)) hq
  rw [fI F 177 1 rfl]
  rfl
theorem m_meanBits {h : zH} (M : MB n top R N h) (P : Prg n top R N) : MA h 310 [] (0, zJ (f_Do_doubleToLongBits (menS n top R N))) := by
  obtain ⟨g, e, F⟩ := c_meanNow M P
  have hq := q_M_meanBits (h := h) M.1
  rw [e, q_M_meanBits_r5 (KM_f M.1 F rfl)] at hq
  exact MA_i (Fr_m F rfl) hq
end API4
