/-! The reference: what lessens, which duties fail, which states are wrong. -/
section DUT2
variable {n top : Int} {R N : Nat → Int} {T : Int → Int → Int} {ND : Int → BitVec 64}
def cntK (R : Nat → Int) (kd : Int) (m : Nat) : Int := zsum (fun j => if sv R j 0 = kd then 1 else 0) 0 m
/-- the statement of a kind that has the number l -/
def lpAt (n : Int) (R : Nat → Int) (kd l : Int) : Int := zfind (fun k => sv R k 0 = kd ∧ sv R k 7 = l) 0 n.toNat
/-- loops and holes are numbered in their order -/
def WU (n : Int) (R : Nat → Int) : Prop := ∀ s, 0 ≤ s → s < n → (sv R s 0 = 2 ∨ sv R s 0 = 3 → sv R s 7 = cntK R (sv R s 0) s.toNat) ∧ (sv R s 0 = 0 ∨ sv R s 0 = 1 → sv R s 7 = -1)
theorem cntK_s (R : Nat → Int) (kd : Int) (m : Nat) : cntK R kd (m + 1) = cntK R kd m + if sv R m 0 = kd then 1 else 0 := by
  unfold cntK
  rw [zsum_last, Int.zero_add]
theorem cntK_b (R : Nat → Int) (kd : Int) : ∀ (m : Nat), 0 ≤ cntK R kd m ∧ cntK R kd m ≤ m
  | 0 => ⟨Int.le_refl _, Int.le_refl _⟩
  | m + 1 => by
    have := cntK_b R kd m
    rw [cntK_s]
    split <;> omega
theorem cntK_m (R : Nat → Int) (kd : Int) (m : Nat) : ∀ (d : Nat), cntK R kd m ≤ cntK R kd (m + d)
  | 0 => Int.le_refl _
  | d + 1 => by
    have := cntK_m R kd m d
    rw [← Nat.add_assoc, cntK_s]
    split <;> omega
theorem cntK_ex (R : Nat → Int) (kd : Int) : ∀ (m : Nat) (l : Int), 0 ≤ l → l < cntK R kd m → ∃ s : Nat, s < m ∧ sv R s 0 = kd ∧ cntK R kd s = l
  | 0, l, h0, h1 => by
    have : cntK R kd 0 = 0 := rfl
    omega
  | m + 1, l, h0, h1 => by
    rw [cntK_s] at h1
    by_cases c : l < cntK R kd m
    · obtain ⟨s, g1, g2, g3⟩ := cntK_ex R kd m l h0 c
      exact ⟨s, by omega, g2, g3⟩
    · by_cases g : sv R m 0 = kd
      · rw [if_pos g] at h1
        exact ⟨m, by omega, g, by omega⟩
      · rw [if_neg g] at h1
        omega
theorem lpAt_ok (hu : WU n R) (hn : 0 ≤ n) {kd : Int} (hk : kd = 2 ∨ kd = 3) {l : Int} (h0 : 0 ≤ l) (h1 : l < cntK R kd n.toNat) : (0 ≤ lpAt n R kd l ∧ lpAt n R kd l < n) ∧ sv R (lpAt n R kd l) 0 = kd ∧ sv R (lpAt n R kd l) 7 = l := by
  obtain ⟨s, g1, g2, g3⟩ := cntK_ex R kd n.toNat l h0 h1
  have g4 := (hu s (by omega) (by omega)).1 (by omega)
  rw [g2, Int.toNat_natCast, g3] at g4
  have g5 := zfind_least (p := fun k => sv R k 0 = kd ∧ sv R k 7 = l) n.toNat 0 s (by omega) (by omega) ⟨g2, g4⟩
  rcases zfind_r (p := fun k => sv R k 0 = kd ∧ sv R k 7 = l) n.toNat 0 with h | ⟨q1, q2, q3⟩
  · omega
  · exact ⟨⟨q1, by unfold lpAt; omega⟩, q3⟩
theorem lpAt_no (hu : WU n R) (hn : 0 ≤ n) {kd : Int} (hk : kd = 2 ∨ kd = 3) {l : Int} (h : l < 0 ∨ cntK R kd n.toNat ≤ l) : lpAt n R kd l = -1 := by
  rcases zfind_r (p := fun k => sv R k 0 = kd ∧ sv R k 7 = l) n.toNat 0 with q | ⟨q1, q2, q3, q4⟩
  · exact q
  · exfalso
    have g4 := (hu _ q1 (by omega)).1 (by rw [q3]; omega)
    rw [q3, q4] at g4
    generalize zfind (fun k => sv R k 0 = kd ∧ sv R k 7 = l) 0 n.toNat = s at *
    have g5 := cntK_b R kd s.toNat
    have g6 := cntK_m R kd (s.toNat + 1) (n.toNat - (s.toNat + 1))
    rw [show s.toNat + 1 + (n.toNat - (s.toNat + 1)) = n.toNat by omega, cntK_s, show ((s.toNat : Nat) : Int) = s by omega, if_pos q3] at g6
    omega
/-- a program's meaning: the ends and the needs -/
def Sem (n top : Int) (R N : Nat → Int) (T : Int → Int → Int) (ND : Int → BitVec 64) : Prop := WS n R ∧ WN n R N ∧ WU n R ∧ isET n R N T ∧ isND n R N (thn R) ND ∧ ((n = 0 ∧ top = -1) ∨ (0 < n ∧ top = 0))
theorem Sem_top (S : Sem n top R N T ND) : top = -1 ∨ 0 ≤ top ∧ top < n := by have := S.2.2.2.2.2; omega
theorem par_0 (w : WS n R) (h : 0 < n) : sv R 0 3 = -1 := by have := (w.2.1 0 (by omega) h).2.2.1; omega
def E0 (R : Nat → Int) (T : Int → Int → Int) (top st : Int) : Int := rowE T R top st
theorem runD_top (S : Sem n top R N T ND) {st : Int} (h2 : 0 ≤ st) (h3 : st < 64) : ∃ D, RunD R N (thn R) (-1) (top, st) D (E0 R T top st) ∧ (top = -1 → D = 0 ∧ E0 R T top st = st) := by
  obtain ⟨w, v, hu, hE, hN, ht⟩ := S
  rcases ht with ⟨t1, t2⟩ | ⟨t1, t2⟩
  · have e : E0 R T top st = st := by rw [E0, t2, rowE_n]
    refine ⟨0, ?_, fun _ => ⟨rfl, e⟩⟩
    rw [e, t2]
    exact runD_0 st (by omega)
  · obtain ⟨D, hD⟩ := runD_row (c := top) w v hE (isTS_t w (-1)) (by omega) (by omega) h2 h3 (by omega) (by rw [t2, par_0 w t1, tl, if_pos (Or.inl rfl)])
    exact ⟨D, hD, fun e => by omega⟩
theorem c_runsFrom2 {h : zH} (M : MB n top R N h) (S : Sem n top R N T ND) {st : Int} (h2 : 0 ≤ st) (h3 : st < 64) : ∃ (D : Nat) (h2 : zH), zC 296 [zR (some 177), zI st] h = some (.inl (some (zI (if E0 R T top st = -1 then 0 else 1))), h2) ∧ RunD R N (thn R) (-1) (top, st) D (E0 R T top st) ∧ RunE R N (thn R) (clS R (-1)) (-1) (top, st) D (E0 R T top st) (fun l => hJ h 195 l.toNat) h2 ∧ (E0 R T top st ≠ -1 → hI h2 177 28 = E0 R T top st) ∧ Fr scrR h h2 := by
  obtain ⟨D, hD, h0⟩ := runD_top S h2 h3
  obtain ⟨g, e, E, F⟩ := c_runsFrom M S.1 S.2.1 (isTS_t S.1 (-1)) (isCL_t S.1 (-1)) h2 h3 (Sem_top S) hD h0
  refine ⟨D, g, e, hD, E, fun hE => ?_, F⟩
  rw [E.2.1, (hD.2.2 hE).1]
/-- in a loop's row from a state LESS is less at the end -/
def lsS (R N : Nat → Int) (T : Int → Int → Int) (s st : Int) : Bool := decide (rowE T R (sv R s 5) st ≠ -1 ∧ val (lst N (50 + s)) (rowE T R (sv R s 5) st) < val (lst N (50 + s)) st)
def unS (R N : Nat → Int) (T : Int → Int → Int) (s : Int) (among : BitVec 64) : BitVec 64 := bset fun st => bt among st && !lsS R N T s st
theorem rowE_f (S : Sem n top R N T ND) {s st : Int} (h0 : 0 ≤ s) (h1 : s < n) (h2 : 0 ≤ st) (h3 : st < 64) : -1 ≤ rowE T R (sv R s 5) st ∧ rowE T R (sv R s 5) st < 64 := by
  have w1 := (S.1.2.1 s h0 h1).2.2.2.2.1
  exact rowE_r S.1 S.2.1 S.2.2.2.1 (by omega) (by omega) h3
theorem c_lessens {h : zH} (M : MB n top R N h) (S : Sem n top R N T ND) {s st : Int} (h0 : 0 ≤ s) (h1 : s < n) (hk : sv R s 0 = 2) (h2 : 0 ≤ st) (h3 : st < 64) : ∃ h2, zC 266 [zR (some 177), zI s, zI st] h = some (.inl (some (zI (if lsS R N T s st = true then 1 else 0))), h2) ∧ Fr scrR h h2 := by
  have w0 := S.1.1
  have w1 := (S.1.2.1 s h0 h1).2.2.2.2.1
  have v1 := (S.2.1.2.2 s h0 h1).2.2.1 hk
  have hr := rowE_f S h0 h1 h2 h3
  obtain ⟨g1, e1, F1⟩ := c_valueOf M.1 (q := 50 + s) (by omega) (by omega) h2 h3 (M.2.2.2.2 ▸ v1.2.2)
  have M1 := MB_f M F1 rfl
  have hD : ∃ D, RunD R N (thS R s) (-1) (sv R s 5, st) D (rowE T R (sv R s 5) st) ∧ (sv R s 5 = -1 → D = 0 ∧ rowE T R (sv R s 5) st = st) := by
    by_cases c : sv R s 5 = -1
    · refine ⟨0, ?_, fun _ => ⟨rfl, by rw [c, rowE_n]⟩⟩
      rw [c, rowE_n]
      exact runD_0 st (by omega)
    · obtain ⟨D, hD⟩ := runD_row (c := sv R s 5) S.1 S.2.1 S.2.2.2.1 (isTS_t S.1 s) (by omega) (by omega) h2 h3 (by omega) (by rw [tl, if_pos (by omega)])
      exact ⟨D, hD, fun e => absurd e c⟩
  obtain ⟨D, hD, hD0⟩ := hD
  obtain ⟨g2, e2, hst, F2⟩ := c_runsRow M1 S.1 S.2.1 (isTS_t S.1 s) (isCL_t S.1 s) h0 h1 h2 h3 hD hD0
  have M2 := MB_f M1 F2 rfl
  rw [q_M_lessens M.1, gd_t (by omega), e1, q_M_lessens_r9 M1.1, e2, q_M_lessens_r16 M2.1, M.2.2.2.2]
  unfold lsS
  by_cases c : rowE T R (sv R s 5) st = -1
  · rw [if_pos c, if_pos rfl, if_neg (by simp [c])]
    exact ⟨g2, rfl, Fr_t (Fr_m F1 rfl) F2⟩
  · obtain ⟨g3, e3, F3⟩ := c_valueOf M2.1 (q := 50 + s) (st := rowE T R (sv R s 5) st) (by omega) (by omega) (by omega) hr.2 (M2.2.2.2.2 ▸ v1.2.2)
    rw [if_neg c, if_neg (by decide), gd_t (by omega), hst c, e3, q_M_lessens_r31 (KM_f M2.1 F3 rfl), M2.2.2.2.2]
    by_cases g : val (lst N (50 + s)) (rowE T R (sv R s 5) st) < val (lst N (50 + s)) st
    · rw [if_pos g, if_pos (decide_eq_true ⟨c, g⟩)]
      exact ⟨g3, rfl, Fr_t (Fr_m F1 rfl) (Fr_t F2 (Fr_m F3 rfl))⟩
    · rw [if_neg g, if_neg (by simp [g])]
      exact ⟨g3, rfl, Fr_t (Fr_m F1 rfl) (Fr_t F2 (Fr_m F3 rfl))⟩
theorem l_unlessened (S : Sem n top R N T ND) {s : Int} {among : BitVec 64} (h0 : 0 ≤ s) (h1 : s < n) (hk : sv R s 0 = 2) : ∀ (m k : Nat) (h : zH), MB n top R N h → k + m = 64 → ∃ h2, zY 265 6 [some (zR (some 177)), some (zI s), some (zJ among), none, some (zJ (bor (fun st => bt among st && !lsS R N T s st) k)), none, some (zI k)] [] h = some (.inl (some (zJ (unS R N T s among))), h2) ∧ Fr scrR h h2
  | 0, k, h, M, hm => by
    obtain rfl : k = 64 := by omega
    rw [q_M_unlessened_6 M.1, if_neg (by omega)]
    exact ⟨h, rfl, Fr_r _ _⟩
  | m + 1, k, h, M, hm => by
    have e : ((k : Int) + 1) = ((k + 1 : Nat) : Int) := by omega
    rw [q_M_unlessened_6 M.1, if_pos (by omega)]
    by_cases c : bt among k = true
    · obtain ⟨h2, e2, F2⟩ := c_lessens M S h0 h1 hk (st := k) (by omega) (by omega)
      have M2 := MB_f M F2 rfl
      obtain ⟨h3, e3, F3⟩ := l_unlessened S h0 h1 hk m (k + 1) h2 M2 (by omega)
      rw [if_pos ((holds_e _ (by omega) (by omega)).2 c), e2, q_M_unlessened_r31 M2.1]
      rw [bor] at e3
      by_cases g : lsS R N T s k = true
      · rw [if_pos g, if_neg (by decide), gd_t (by omega), e]
        rw [if_neg (by simp [g])] at e3
        exact ⟨h3, e3, Fr_t F2 F3⟩
      · rw [if_neg g, if_pos rfl, gd_t (by omega), e]
        rw [if_pos (by simp [g, c])] at e3
        exact ⟨h3, e3, Fr_t F2 F3⟩
    · obtain ⟨h3, e3, F3⟩ := l_unlessened S h0 h1 hk m (k + 1) h M (by omega)
      rw [if_neg (fun q => c ((holds_e _ (by omega) (by omega)).1 q)), gd_t (by omega), e]
      rw [bor, if_neg (by simp only [Bool.and_eq_true]; exact fun q => c q.1)] at e3
      exact ⟨h3, e3, F3⟩
/-- the states for which a duty fails -/
def flS (n top : Int) (R N : Nat → Int) (T : Int → Int → Int) (ND : Int → BitVec 64) (d : Int) : BitVec 64 :=
  if d = 0 then setL (lst N 0) &&& ~~~ ahd N ND top
  else if (d - 1) % 3 = 0 then (setL (lst N (26 + lpAt n R 2 ((d - 1) / 3))) &&& setL (lst N (2 + lpAt n R 2 ((d - 1) / 3)))) &&& ~~~ rwN ND (sv R (lpAt n R 2 ((d - 1) / 3)) 5) (setL (lst N (26 + lpAt n R 2 ((d - 1) / 3))))
  else if (d - 1) % 3 = 1 then (setL (lst N (26 + lpAt n R 2 ((d - 1) / 3))) &&& ~~~ setL (lst N (2 + lpAt n R 2 ((d - 1) / 3)))) &&& ~~~ ahd N ND (thn R (lpAt n R 2 ((d - 1) / 3)))
  else unS R N T (lpAt n R 2 ((d - 1) / 3)) (setL (lst N (26 + lpAt n R 2 ((d - 1) / 3))) &&& setL (lst N (2 + lpAt n R 2 ((d - 1) / 3))))
def dmS (n : Int) (R : Nat → Int) : Int := 1 + 3 * cntK R 2 n.toNat
theorem f_M_dutyMany_e {h : zH} (M : MB n top R N h) : f_M_dutyMany h = dmS n R := by
  unfold f_M_dutyMany f_M_manyOf dmS cntK
  rw [M.2.1]
  simp only [f_M_s_e, M.2.2.2.1]
theorem f_M_loopAt_e {h : zH} (M : MB n top R N h) (hu : WU n R) (hn : 0 ≤ n) (l : Int) : f_M_loopAt h l = lpAt n R 2 l := by
  unfold f_M_loopAt
  by_cases c : l < 0
  · rw [if_pos c, lpAt_no hu hn (Or.inl rfl) (Or.inl c)]
  · rw [if_neg c]
    unfold f_M_numbered lpAt
    rw [M.2.1]
    simp only [f_M_s_e, M.2.2.2.1]
theorem f_M_holeAt_e {h : zH} (M : MB n top R N h) (hu : WU n R) (hn : 0 ≤ n) (l : Int) : f_M_holeAt h l = lpAt n R 3 l := by
  unfold f_M_holeAt
  by_cases c : l < 0
  · rw [if_pos c, lpAt_no hu hn (Or.inr rfl) (Or.inl c)]
  · rw [if_neg c]
    unfold f_M_numbered lpAt
    rw [M.2.1]
    simp only [f_M_s_e, M.2.2.2.1]
def ndA (n : Int) (ND : Int → BitVec 64) (h : zH) : Prop := ∀ t : Int, 0 ≤ t → t < n → hJ h 188 t.toNat = ND t
theorem dmS_b (S : Sem n top R N T ND) : 1 ≤ dmS n R ∧ dmS n R ≤ 73 := by
  have := S.1.1
  have := cntK_b R 2 n.toNat
  unfold dmS
  omega
theorem c_failingNow {h : zH} (M : MB n top R N h) (S : Sem n top R N T ND) (hA : ndA n ND h) {d : Int} (h0 : 0 ≤ d) (h1 : d < dmS n R) : ∃ h2, zC 261 [zR (some 177), zI d] h = some (.inl (some (zJ (flS n top R N T ND d))), h2) ∧ Fr scrR h h2 := by
  have w0 := S.1.1
  obtain ⟨w, v, hu, hE, hN, ht⟩ := id S
  have hm := M.2.1
  have hb := dmS_b S
  by_cases c0 : d = 0
  · obtain ⟨g1, e1, F1⟩ := c_setOf M.1 M.2.2.2.2 (q := 0) (by omega) (by omega) v.1
    have M1 := MB_f M F1 rfl
    obtain ⟨g2, e2, F2⟩ := c_needAheadNow (ND := ND) M1 w v (Sem_top S) (fun t a b => by rw [rJ F1 188 rfl]; exact hA t a b)
    rw [q_M_failingNow M.1, if_pos c0, e1, q_M_failingNow_r9 M1.1, e2, q_M_failingNow_r13 (KM_f M1.1 F2 rfl), not_e, flS, if_pos c0]
    exact ⟨g2, rfl, Fr_t (Fr_m F1 rfl) (Fr_m F2 rfl)⟩
  · have hl : 0 ≤ (d - 1) / 3 ∧ (d - 1) / 3 < cntK R 2 n.toNat := by unfold dmS at h1; omega
    obtain ⟨⟨l0, l1⟩, lk, ln⟩ := lpAt_ok hu w0.1 (Or.inl rfl) hl.1 hl.2
    have el := f_M_loopAt_e M hu w0.1 ((d - 1) / 3)
    have v1 := (v.2.2 _ l0 l1).2.2.1 lk
    have w1 := w.2.1 _ l0 l1
    rw [flS, if_neg c0]
    generalize hs : lpAt n R 2 ((d - 1) / 3) = s at *
    obtain ⟨g1, e1, F1⟩ := c_setOf M.1 M.2.2.2.2 (q := 26 + s) (by omega) (by omega) v1.2.1
    have M1 := MB_f M F1 rfl
    obtain ⟨g2, e2, F2⟩ := c_setOf M1.1 M1.2.2.2.2 (q := 2 + s) (by omega) (by omega) v1.1
    have M2 := MB_f M1 F2 rfl
    have e5 : f_M_s g2 s 5 = sv R s 5 := by rw [f_M_s_e, M2.2.2.2.1]
    have hJ2 : hJ g2 188 = hJ h 188 := (rJ F2 188 rfl).trans (rJ F1 188 rfl)
    have et : Int.tmod (d - 1) 3 = (d - 1) % 3 := Int.tmod_eq_emod_of_nonneg (by omega)
    rw [q_M_failingNow M.1, if_neg c0, gd_t (by omega), gd_t (by omega), el, gd_t (by omega), e1, q_M_failingNow_r37 M1.1, gd_t (by omega), e2, q_M_failingNow_r45 M2.1, gd_t (by omega), gd_t (by omega), et, e5]
    have F12 : Fr scrR h g2 := Fr_m (Fr_t F1 F2) rfl
    by_cases c1 : (d - 1) % 3 = 0
    · rw [if_pos c1, if_pos c1, not_e]
      refine ⟨g2, ?_, F12⟩
      have : f_M_rowNeed g2 (sv R s 5) (setL (lst N (26 + s))) = rwN ND (sv R s 5) (setL (lst N (26 + s))) := by
        unfold f_M_rowNeed rwN
        by_cases c : sv R s 5 = -1
        · rw [if_pos c, if_pos c]
        · rw [if_neg c, if_neg c, hJ2, hA _ (by omega) (by omega)]
      rw [this]
    · rw [if_neg c1, if_neg c1]
      by_cases c2 : (d - 1) % 3 = 1
      · obtain ⟨g3, e3, F3⟩ := c_needBehind M2 w v (isTH_t w) (isND_w hN) l0 l1 (fun t a b => by rw [hJ2]; exact hA t (by omega) b)
        rw [if_pos c2, if_pos c2, e3, q_M_failingNow_r114 (KM_f M2.1 F3 rfl), not_e, not_e]
        exact ⟨g3, rfl, Fr_t F12 (Fr_m F3 rfl)⟩
      · obtain ⟨g3, e3, F3⟩ := l_unlessened S l0 l1 lk (among := setL (lst N (26 + s)) &&& setL (lst N (2 + s))) 64 0 g2 M2 rfl
        rw [if_neg c2, if_neg c2, q_M_unlessened M2.1]
        rw [show bor (fun st => bt (setL (lst N (26 + s)) &&& setL (lst N (2 + s))) st && !lsS R N T s st) 0 = 0#64 from rfl] at e3
        rw [show zY 265 6 [some (zR (some 177)), some (zI s), some (zJ (setL (lst N (26 + s)) &&& setL (lst N (2 + s)))), none, some (zJ 0#64), none, some (zI 0)] [] g2 = _ from e3, q_M_failingNow_r129 (KM_f M2.1 F3 rfl)]
        exact ⟨g3, rfl, Fr_t F12 F3⟩
abbrev scrF : FA := [(187, none), (177, some 21), (177, some 27), (177, some 28), (177, some 29), (177, some 30), (177, some 31), (192, none), (193, none), (194, none), (195, none), (188, none)]
theorem ndA_f {A : FA} {h h2 : zH} (hA : ndA n ND h) (F : Fr A h h2) (e : rowA A 188 = true) : ndA n ND h2 := fun t a b => by rw [rJ F 188 e]; exact hA t a b
def nfS (n top : Int) (R N : Nat → Int) (T : Int → Int → Int) (ND : Int → BitVec 64) : Int := zsum (fun d => if flS n top R N T ND d = 0#64 then 0 else 1) 0 (dmS n R).toNat
theorem l_failsNow (S : Sem n top R N T ND) : ∀ (m : Nat) (x d : Int) (h : zH), MB n top R N h → ndA n ND h → 0 ≤ d → dmS n R - d = m → 0 ≤ x → x ≤ d → ∃ h2, zY 245 8 [some (zR (some 177)), some (zI x), some (zI d)] [] h = some (.inl (some (zI (x + zsum (fun d => if flS n top R N T ND d = 0#64 then 0 else 1) d m))), h2) ∧ Fr scrR h h2
  | 0, x, d, h, M, hA, h0, hm, hx, hx2 => by
    have := S.1.1
    have := M.2.1
    rw [q_M_failsNow_8 M.1, f_M_dutyMany_e M, if_neg (by omega), zsum, Int.add_zero]
    exact ⟨h, rfl, Fr_r _ _⟩
  | m + 1, x, d, h, M, hA, h0, hm, hx, hx2 => by
    have := S.1.1
    have := M.2.1
    have hb := dmS_b S
    obtain ⟨h2, e2, F2⟩ := c_failingNow M S hA h0 (by omega)
    have M2 := MB_f M F2 rfl
    rw [q_M_failsNow_8 M.1, f_M_dutyMany_e M, if_pos (by omega), e2, q_M_failsNow_r22 M2.1, zsum]
    by_cases c : flS n top R N T ND d = 0#64
    · obtain ⟨h3, e3, F3⟩ := l_failsNow S m (x + 0) (d + 1) h2 M2 (ndA_f hA F2 rfl) (by omega) (by omega) (by omega) (by omega)
      rw [if_pos c, if_pos c, gd_t (by omega), gd_t (by omega), e3, Int.add_assoc]
      exact ⟨h3, rfl, Fr_t F2 F3⟩
    · obtain ⟨h3, e3, F3⟩ := l_failsNow S m (x + 1) (d + 1) h2 M2 (ndA_f hA F2 rfl) (by omega) (by omega) (by omega) (by omega)
      rw [if_neg c, if_neg c, gd_t (by omega), gd_t (by omega), e3, Int.add_assoc]
      exact ⟨h3, rfl, Fr_t F2 F3⟩
theorem c_failsNow {h : zH} (M : MB n top R N h) (S : Sem n top R N T ND) : ∃ h2, zC 245 [zR (some 177)] h = some (.inl (some (zI (nfS n top R N T ND))), h2) ∧ Fr scrF h h2 := by
  obtain ⟨g1, e1, A1, F1⟩ := c_laysNeeds M S.1 S.2.1 (isTH_t S.1) S.2.2.2.2.1
  have M1 := MB_f M F1 rfl
  have hb := dmS_b S
  obtain ⟨g2, e2, F2⟩ := l_failsNow S (dmS n R).toNat 0 0 g1 M1 A1 (by omega) (by omega) (by omega) (by omega)
  rw [q_M_failsNow M.1, e1, q_M_failsNow_r4 M1.1, e2, Int.zero_add]
  exact ⟨g2, rfl, Fr_t (Fr_m F1 rfl) (Fr_m F2 rfl)⟩
theorem l_isProven (S : Sem n top R N T ND) : ∀ (m : Nat) (d : Int) (h : zH), MB n top R N h → ndA n ND h → 0 ≤ d → dmS n R - d = m → ∃ h2, zY 275 6 [some (zR (some 177)), some (zI d)] [] h = some (.inl (some (zI (if zsum (fun d => if flS n top R N T ND d = 0#64 then 0 else 1) d m = 0 then 1 else 0))), h2) ∧ Fr scrR h h2
  | 0, d, h, M, hA, h0, hm => by
    have := S.1.1
    have := M.2.1
    rw [q_M_isProven_6 M.1, f_M_dutyMany_e M, if_neg (by omega), zsum]
    exact ⟨h, rfl, Fr_r _ _⟩
  | m + 1, d, h, M, hA, h0, hm => by
    have := S.1.1
    have := M.2.1
    have hb := dmS_b S
    obtain ⟨h2, e2, F2⟩ := c_failingNow M S hA h0 (by omega)
    have M2 := MB_f M F2 rfl
    rw [q_M_isProven_6 M.1, f_M_dutyMany_e M, if_pos (by omega), e2, q_M_isProven_r19 M2.1, zsum]
    by_cases c : flS n top R N T ND d = 0#64
    · obtain ⟨h3, e3, F3⟩ := l_isProven S m (d + 1) h2 M2 (ndA_f hA F2 rfl) (by omega) (by omega)
      rw [if_pos c, if_pos c, gd_t (by omega), e3, Int.zero_add]
      exact ⟨h3, rfl, Fr_t F2 F3⟩
    · have hz := zsum_b (f := fun d => if flS n top R N T ND d = 0#64 then 0 else 1) (u := 1) (fun k => by split <;> omega) m (d + 1)
      rw [if_neg c, if_neg c, if_neg (by omega)]
      exact ⟨h2, rfl, F2⟩
theorem c_isProven {h : zH} (M : MB n top R N h) (S : Sem n top R N T ND) : ∃ h2, zC 275 [zR (some 177)] h = some (.inl (some (zI (if nfS n top R N T ND = 0 then 1 else 0))), h2) ∧ Fr scrF h h2 := by
  obtain ⟨g1, e1, A1, F1⟩ := c_laysNeeds M S.1 S.2.1 (isTH_t S.1) S.2.2.2.2.1
  have M1 := MB_f M F1 rfl
  have hb := dmS_b S
  obtain ⟨g2, e2, F2⟩ := l_isProven S (dmS n R).toNat 0 g1 M1 A1 (by omega) (by omega)
  rw [q_M_isProven M.1, e1, q_M_isProven_r4 M1.1, e2]
  exact ⟨g2, rfl, Fr_t (Fr_m F1 rfl) (Fr_m F2 rfl)⟩
/-- the states of BEFORE that come to no end in AFTER -/
def wgS (R N : Nat → Int) (T : Int → Int → Int) (top : Int) : BitVec 64 := bset fun st => bt (setL (lst N 0)) st && !(decide (E0 R T top st ≠ -1) && bt (setL (lst N 1)) (E0 R T top st))
theorem E0_r (S : Sem n top R N T ND) {st : Int} (h2 : 0 ≤ st) (h3 : st < 64) : -1 ≤ E0 R T top st ∧ E0 R T top st < 64 := rowE_r S.1 S.2.1 S.2.2.2.1 (Sem_top S) (by omega) h3
theorem c_isWrong {h : zH} (M : MB n top R N h) (S : Sem n top R N T ND) {st : Int} (h2 : 0 ≤ st) (h3 : st < 64) : ∃ h2, zC 306 [zR (some 177), zI st] h = some (.inl (some (zI (if bt (wgS R N T top) st = true then 1 else 0))), h2) ∧ Fr scrR h h2 := by
  obtain ⟨w, v, hu, hE, hN, ht⟩ := id S
  obtain ⟨g1, e1, F1⟩ := c_isBefore M.1 M.2.2.2.2 h2 h3 v.1
  have M1 := MB_f M F1 rfl
  have hr := E0_r S h2 h3
  rw [q_M_isWrong M.1, e1, q_M_isWrong_r5 M1.1, wgS, bt_set _ h2 h3]
  by_cases c : bt (setL (lst N 0)) st = true
  · obtain ⟨D, g2, e2, _, _, hst, F2⟩ := c_runsFrom2 M1 S h2 h3
    have M2 := MB_f M1 F2 rfl
    rw [if_pos c, if_neg (by decide), e2, q_M_isWrong_r13 M2.1, c]
    by_cases ce : E0 R T top st = -1
    · rw [if_pos ce, if_pos rfl, if_pos (by simp [ce])]
      exact ⟨g2, rfl, Fr_t (Fr_m F1 rfl) F2⟩
    · obtain ⟨g3, e3, F3⟩ := c_valueOf M2.1 (q := 1) (st := E0 R T top st) (by omega) (by omega) (by omega) hr.2 (M2.2.2.2.2 ▸ v.2.1)
      rw [if_neg ce, if_neg (by decide), hst ce, e3, q_M_isWrong_r25 (KM_f M2.1 F3 rfl), M2.2.2.2.2, bt_setL _ (by omega) hr.2]
      refine ⟨g3, ?_, Fr_t (Fr_m F1 rfl) (Fr_t F2 (Fr_m F3 rfl))⟩
      by_cases cv : val (lst N 1) (E0 R T top st) = 1
      · rw [if_pos cv, if_neg (by simp [ce, cv])]
      · rw [if_neg cv, if_pos (by simp [ce, cv])]
  · rw [if_neg c, if_pos rfl, if_neg (by simp [c])]
    exact ⟨g1, rfl, Fr_m F1 rfl⟩
theorem l_wrongNow (S : Sem n top R N T ND) : ∀ (m k : Nat) (h : zH), MB n top R N h → k + m = 64 → ∃ h2, zY 305 4 [some (zR (some 177)), some (zJ (bor (bt (wgS R N T top)) k)), none, some (zI k)] [] h = some (.inl (some (zJ (wgS R N T top))), h2) ∧ Fr scrR h h2
  | 0, k, h, M, hm => by
    obtain rfl : k = 64 := by omega
    rw [q_M_wrongNow_4 M.1, if_neg (by omega), show bor (bt (wgS R N T top)) 64 = wgS R N T top from bset_bt _]
    exact ⟨h, rfl, Fr_r _ _⟩
  | m + 1, k, h, M, hm => by
    have e : ((k : Int) + 1) = ((k + 1 : Nat) : Int) := by omega
    obtain ⟨h2, e2, F2⟩ := c_isWrong M S (st := k) (by omega) (by omega)
    have M2 := MB_f M F2 rfl
    obtain ⟨h3, e3, F3⟩ := l_wrongNow S m (k + 1) h2 M2 (by omega)
    rw [q_M_wrongNow_4 M.1, if_pos (by omega), e2, q_M_wrongNow_r16 M2.1]
    rw [bor] at e3
    by_cases c : bt (wgS R N T top) k = true
    · rw [if_pos c, if_neg (by decide), gd_t (by omega), e]
      rw [if_pos c] at e3
      exact ⟨h3, e3, Fr_t F2 F3⟩
    · rw [if_neg c, if_pos rfl, gd_t (by omega), e]
      rw [if_neg c] at e3
      exact ⟨h3, e3, Fr_t F2 F3⟩
theorem c_wrongNow {h : zH} (M : MB n top R N h) (S : Sem n top R N T ND) : ∃ h2, zC 305 [zR (some 177)] h = some (.inl (some (zJ (wgS R N T top))), h2) ∧ Fr scrR h h2 := by
  rw [q_M_wrongNow M.1]
  exact l_wrongNow S 64 0 h M rfl
end DUT2
