/-! The reference: sets, needs, duties, single runs, as they are asked. -/
section API3
variable {n top : Int} {R N : Nat → Int}
theorem m_errorCode {h : zH} (K : KM h) : MA h 239 [] (0, zI (hI h 177 18)) := MA_i (Fr_r _ _) (q_M_errorCode K)
theorem m_errorPosition {h : zH} (K : KM h) : MA h 240 [] (0, zI (hI h 177 19)) := MA_i (Fr_r _ _) (q_M_errorPosition K)
theorem m_before {h : zH} (M : MB n top R N h) (P : Prg n top R N) : MA h 280 [] (0, zJ (setL (lst N 0))) := by
  obtain ⟨g, e, F⟩ := c_setOf M.1 M.2.2.2.2 (q := 0) (by omega) (by omega) P.2.1.1
  have hq := q_M_before (h := h) M.1
  rw [e, q_M_before_r6 (KM_f M.1 F rfl)] at hq
  exact MA_i (Fr_m F rfl) hq
theorem m_after {h : zH} (M : MB n top R N h) (P : Prg n top R N) : MA h 282 [] (0, zJ (setL (lst N 1))) := by
  obtain ⟨g, e, F⟩ := c_setOf M.1 M.2.2.2.2 (q := 1) (by omega) (by omega) P.2.1.2.1
  have hq := q_M_after (h := h) M.1
  rw [e, q_M_after_r6 (KM_f M.1 F rfl)] at hq
  exact MA_i (Fr_m F rfl) hq
def lpOk (n : Int) (R : Nat → Int) (kd l : Int) : Prop := 0 ≤ l ∧ l < cntK R kd n.toNat
theorem lpAt_c (P : Prg n top R N) {kd : Int} (hk : kd = 2 ∨ kd = 3) (l : Int) : (lpOk n R kd l ∧ (0 ≤ lpAt n R kd l ∧ lpAt n R kd l < n) ∧ sv R (lpAt n R kd l) 0 = kd) ∨ (¬ lpOk n R kd l ∧ lpAt n R kd l = -1) := by
  by_cases c : lpOk n R kd l
  · have := lpAt_ok P.2.2.1 P.1.1.1 hk c.1 c.2
    exact Or.inl ⟨c, this.1, this.2.1⟩
  · exact Or.inr ⟨c, lpAt_no P.2.2.1 P.1.1.1 hk (by unfold lpOk at c; omega)⟩
def aLoopSet (n : Int) (R N : Nat → Int) (l x : Int) : Int × zV := if lpAt n R 2 l = -1 then (1, zJ 0#64) else if x = 0 then (0, zJ (setL (lst N (2 + lpAt n R 2 l)))) else if x = 1 then (0, zJ (setL (lst N (26 + lpAt n R 2 l)))) else (2, zJ 0#64)
theorem m_loopSet {h : zH} (M : MB n top R N h) (P : Prg n top R N) (l x : Int) : MA h 283 [zI l, zI x] (aLoopSet n R N l x) := by
  have w0 := P.1.1
  have m1 := M.2.1
  have hq := q_M_loopSet (h := h) (x1 := l) (x2 := x) M.1
  rw [f_M_loopAt_e M P.2.2.1 w0.1] at hq
  unfold aLoopSet
  rcases lpAt_c P (Or.inl rfl) l with ⟨_, ⟨l0, l1⟩, lk⟩ | ⟨_, ln⟩
  · have v1 := (P.2.1.2.2 _ l0 l1).2.2.1 lk
    rw [if_neg (by omega)] at hq ⊢
    by_cases x0 : x = 0
    · obtain ⟨g, e, F⟩ := c_setOf M.1 M.2.2.2.2 (q := 2 + lpAt n R 2 l) (by omega) (by omega) v1.1
      rw [if_pos (show b_M_in x 0 1 by omega), if_pos x0, gd_t (by omega), e, q_M_loopSet_r51 (KM_f M.1 F rfl)] at hq
      rw [if_pos x0]
      exact MA_i (Fr_m F rfl) hq
    rw [if_neg x0]
    by_cases x1 : x = 1
    · obtain ⟨g, e, F⟩ := c_setOf M.1 M.2.2.2.2 (q := 26 + lpAt n R 2 l) (by omega) (by omega) v1.2.1
      rw [if_pos (show b_M_in x 0 1 by omega), if_neg x0, gd_t (by omega), e, q_M_loopSet_r51 (KM_f M.1 F rfl)] at hq
      rw [if_pos x1]
      exact MA_i (Fr_m F rfl) hq
    rw [if_neg x1]
    rw [if_neg (show ¬ b_M_in x 0 1 by omega)] at hq
    exact MA_i (Fr_r _ _) hq
  · rw [if_pos ln] at hq ⊢
    exact MA_i (Fr_r _ _) hq
def aLess (n : Int) (R N : Nat → Int) (l x : Int) : Int × zV := if lpAt n R 2 l = -1 then (1, zI 0) else if 0 ≤ x ∧ x < 64 then (0, zI (val (lst N (50 + lpAt n R 2 l)) x)) else (2, zI 0)
theorem m_less {h : zH} (M : MB n top R N h) (P : Prg n top R N) (l x : Int) : MA h 285 [zI l, zI x] (aLess n R N l x) := by
  have w0 := P.1.1
  have m1 := M.2.1
  have hq := q_M_less (h := h) (x1 := l) (x2 := x) M.1
  rw [f_M_loopAt_e M P.2.2.1 w0.1] at hq
  unfold aLess
  rcases lpAt_c P (Or.inl rfl) l with ⟨_, ⟨l0, l1⟩, lk⟩ | ⟨_, ln⟩
  · have v1 := (P.2.1.2.2 _ l0 l1).2.2.1 lk
    rw [if_neg (by omega)] at hq ⊢
    by_cases x0 : 0 ≤ x ∧ x < 64
    · obtain ⟨g, e, F⟩ := c_valueOf M.1 (q := 50 + lpAt n R 2 l) (by omega) (by omega) x0.1 x0.2 (M.2.2.2.2 ▸ v1.2.2)
      rw [M.2.2.2.2] at e
      rw [if_pos (show b_M_isState x by show 0 ≤ x ∧ x ≤ 63; omega), gd_t (by omega), e, q_M_less_r40 (KM_f M.1 F rfl)] at hq
      rw [if_pos x0]
      exact MA_i (Fr_m F rfl) hq
    · rw [if_neg (show ¬ b_M_isState x by show ¬ (0 ≤ x ∧ x ≤ 63); omega)] at hq
      rw [if_neg x0]
      exact MA_i (Fr_r _ _) hq
  · rw [if_pos ln] at hq ⊢
    exact MA_i (Fr_r _ _) hq
theorem c_lays {h : zH} (M : MB n top R N h) (P : Prg n top R N) : ∃ h2, zC 246 [zR (some 177)] h = some (.inl none, h2) ∧ ndA n (NN n R N) h2 ∧ Fr scrQ h h2 := by
  obtain ⟨g, e, A, F⟩ := c_laysNeeds M P.1 P.2.1 (isTH_t P.1) (isND_t P.1)
  exact ⟨g, e, A, Fr_m F rfl⟩
def aNeed (n : Int) (R N : Nat → Int) (s : Int) : Int × zV := if 0 ≤ s ∧ s < n then (0, zJ (NN n R N s)) else (1, zJ 0#64)
theorem m_need {h : zH} (M : MB n top R N h) (P : Prg n top R N) (s : Int) : MA h 287 [zI s] (aNeed n R N s) := by
  have w0 := P.1.1
  have m1 := M.2.1
  have hq := q_M_need (h := h) (x1 := s) M.1
  unfold aNeed
  by_cases c : 0 ≤ s ∧ s < n
  · obtain ⟨g, e, A, F⟩ := c_lays M P
    rw [if_pos ((isSt_e M s).2 c), e, q_M_need_r17 (KM_f M.1 F rfl), gd_t (by omega), A s c.1 c.2] at hq
    rw [if_pos c]
    exact MA_i F hq
  · rw [if_neg (fun q => c ((isSt_e M s).1 q))] at hq
    rw [if_neg c]
    exact MA_i (Fr_r _ _) hq
theorem m_needAhead {h : zH} (M : MB n top R N h) (P : Prg n top R N) : MA h 288 [] (0, zJ (ahd N (NN n R N) top)) := by
  obtain ⟨g, e, A, F⟩ := c_lays M P
  have M1 := MB_f M F rfl
  obtain ⟨g2, e2, F2⟩ := c_needAheadNow (ND := NN n R N) M1 P.1 P.2.1 (Sem_top (Prg_S P)) A
  have hq := q_M_needAhead (h := h) M.1
  rw [e, q_M_needAhead_r4 M1.1, e2, q_M_needAhead_r9 (KM_f M1.1 F2 rfl)] at hq
  exact MA_i (Fr_t F (Fr_m F2 rfl)) hq
abbrev flC (n top : Int) (R N : Nat → Int) (d : Int) : BitVec 64 := flS n top R N (TT n R N) (NN n R N) d
theorem isDu_e {h : zH} (M : MB n top R N h) (d : Int) : b_M_isDuty h d ↔ 0 ≤ d ∧ d < dmS n R := by
  show 0 ≤ d ∧ d ≤ f_M_dutyMany h - 1 ↔ _
  rw [f_M_dutyMany_e M]
  omega
theorem c_failQ {h : zH} (M : MB n top R N h) (P : Prg n top R N) (A : ndA n (NN n R N) h) {d : Int} (h0 : 0 ≤ d) (h1 : d < dmS n R) : ∃ h2, zC 261 [zR (some 177), zI d] h = some (.inl (some (zJ (flC n top R N d))), h2) ∧ Fr scrQ h h2 := by
  obtain ⟨g, e, F⟩ := c_failingNow M (Prg_S P) A h0 h1
  exact ⟨g, e, Fr_m F rfl⟩
def aDuty (n top : Int) (R N : Nat → Int) (d x : Int) : Int × zV := if 0 ≤ d ∧ d < dmS n R then (if 0 ≤ x ∧ x ≤ 3 then (0, zI (if x = 0 then (if d = 0 then 0 else 1 + (d - 1) % 3) else if x = 1 then (if d = 0 then -1 else lpAt n R 2 ((d - 1) / 3)) else if x = 2 then f_M_ones (flC n top R N d) else f_M_leastOf (flC n top R N d))) else (2, zI 0)) else (1, zI 0)
theorem m_duty {h : zH} (M : MB n top R N h) (P : Prg n top R N) (d x : Int) : MA h 289 [zI d, zI x] (aDuty n top R N d x) := by
  have w0 := P.1.1
  have m1 := M.2.1
  have hb := dmS_b (Prg_S P)
  have hd := f_M_dutyMany_e M
  have hq := q_M_duty (h := h) (x1 := d) (x2 := x) M.1
  unfold aDuty
  by_cases c : 0 ≤ d ∧ d < dmS n R
  · rw [if_pos ((isDu_e M d).2 c)] at hq
    rw [if_pos c]
    by_cases c1 : 0 ≤ x ∧ x ≤ 3
    · rw [if_pos (show b_M_in x 0 3 from c1)] at hq
      rw [if_pos c1]
      by_cases x0 : x = 0
      · rw [if_pos x0] at hq ⊢
        by_cases d0 : d = 0
        · rw [if_pos d0] at hq ⊢
          exact MA_i (Fr_r _ _) hq
        · have et : Int.tmod (d - 1) 3 = (d - 1) % 3 := Int.tmod_eq_emod_of_nonneg (by omega)
          rw [if_neg d0] at hq ⊢
          rw [gd_t (by omega), gd_t (by omega), et, gd_t (by omega)] at hq
          exact MA_i (Fr_r _ _) hq
      rw [if_neg x0] at hq ⊢
      by_cases x1 : x = 1
      · rw [if_pos x1] at hq ⊢
        by_cases d0 : d = 0
        · rw [if_pos d0] at hq ⊢
          exact MA_i (Fr_r _ _) hq
        · rw [if_neg d0] at hq ⊢
          rw [gd_t (by omega), gd_t (by omega), f_M_loopAt_e M P.2.2.1 w0.1] at hq
          exact MA_i (Fr_r _ _) hq
      rw [if_neg x1] at hq ⊢
      obtain ⟨g, e, A, F⟩ := c_lays M P
      have M1 := MB_f M F rfl
      obtain ⟨g2, e2, F2⟩ := c_failQ M1 P A c.1 c.2
      rw [e, q_M_duty_r84 M1.1, e2, q_M_duty_r89 (KM_f M1.1 F2 rfl)] at hq
      by_cases x2 : x = 2
      · rw [if_pos x2] at hq ⊢
        exact MA_i (Fr_t F F2) hq
      · rw [if_neg x2] at hq ⊢
        exact MA_i (Fr_t F F2) hq
    · rw [if_neg (show ¬ b_M_in x 0 3 from c1)] at hq
      rw [if_neg c1]
      exact MA_i (Fr_r _ _) hq
  · rw [if_neg (fun q => c ((isDu_e M d).1 q))] at hq
    rw [if_neg c]
    exact MA_i (Fr_r _ _) hq
def aFailing (n top : Int) (R N : Nat → Int) (d : Int) : Int × zV := if 0 ≤ d ∧ d < dmS n R then (0, zJ (flC n top R N d)) else (1, zJ 0#64)
theorem m_failing {h : zH} (M : MB n top R N h) (P : Prg n top R N) (d : Int) : MA h 293 [zI d] (aFailing n top R N d) := by
  have w0 := P.1.1
  have m1 := M.2.1
  have hb := dmS_b (Prg_S P)
  have hd := f_M_dutyMany_e M
  have hq := q_M_failing (h := h) (x1 := d) M.1
  unfold aFailing
  by_cases c : 0 ≤ d ∧ d < dmS n R
  · obtain ⟨g, e, A, F⟩ := c_lays M P
    have M1 := MB_f M F rfl
    obtain ⟨g2, e2, F2⟩ := c_failQ M1 P A c.1 c.2
    rw [if_pos ((isDu_e M d).2 c), e, q_M_failing_r17 M1.1, e2, q_M_failing_r23 (KM_f M1.1 F2 rfl)] at hq
    rw [if_pos c]
    exact MA_i (Fr_t F F2) hq
  · rw [if_neg (fun q => c ((isDu_e M d).1 q))] at hq
    rw [if_neg c]
    exact MA_i (Fr_r _ _) hq
def aTrouble (n top : Int) (R N : Nat → Int) : Int := zfind (fun d => ¬ flC n top R N d = 0#64) 0 (dmS n R).toNat
theorem l_trouble (P : Prg n top R N) : ∀ (m : Nat) (d : Int) (h : zH), MB n top R N h → ndA n (NN n R N) h → 0 ≤ d → dmS n R - d = m → ∃ h2, zY 294 6 [some (zR (some 177)), some (zI d)] [] h = some (.inl (some (zI (zfind (fun d => ¬ flC n top R N d = 0#64) d m))), sI h2 177 1 0) ∧ Fr scrQ h h2
  | 0, d, h, M, A, h0, hm => by
    have := P.1.1
    have := M.2.1
    rw [q_M_trouble_6 M.1, f_M_dutyMany_e M, if_neg (by omega), zfind]
    exact ⟨h, rfl, Fr_r _ _⟩
  | m + 1, d, h, M, A, h0, hm => by
    have := P.1.1
    have := M.2.1
    have hb := dmS_b (Prg_S P)
    obtain ⟨h2, e2, F2⟩ := c_failQ M P A h0 (by omega)
    have M2 := MB_f M F2 rfl
    have A2 : ndA n (NN n R N) h2 → True := fun _ => trivial
    rw [q_M_trouble_6 M.1, f_M_dutyMany_e M, if_pos (by omega), e2, q_M_trouble_r19 M2.1, zfind]
    by_cases c : flC n top R N d = 0#64
    · obtain ⟨g, e, F⟩ := c_failingNow M (Prg_S P) A h0 (show d < dmS n R by omega)
      have hg : g = h2 := by
        rw [e] at e2
        exact congrArg Prod.snd (Option.some.inj e2)
      obtain ⟨h3, e3, F3⟩ := l_trouble P m (d + 1) h2 M2 (hg ▸ ndA_f A F rfl) (by omega) (by omega)
      rw [if_pos c, if_neg (fun q => q c), gd_t (by omega), e3]
      exact ⟨h3, rfl, Fr_t F2 F3⟩
    · rw [if_neg c, if_pos c]
      exact ⟨h2, rfl, F2⟩
theorem m_trouble {h : zH} (M : MB n top R N h) (P : Prg n top R N) : MA h 294 [] (0, zI (aTrouble n top R N)) := by
  have hb := dmS_b (Prg_S P)
  obtain ⟨g, e, A, F⟩ := c_lays M P
  have M1 := MB_f M F rfl
  obtain ⟨g2, e2, F2⟩ := l_trouble P (dmS n R).toNat 0 g M1 A (by omega) (by omega)
  have hq := q_M_trouble (h := h) M.1
  rw [e, q_M_trouble_r4 M1.1, e2] at hq
  exact MA_i (Fr_t F F2) hq
abbrev EC (n top : Int) (R N : Nat → Int) (st : Int) : Int := E0 R (TT n R N) top st
/-- the time at which a run of the program stops -/
def fstN (p : Nat → Bool) : Nat → Nat → Nat
  | 0, a => a
  | k + 1, a => if p a = true then a else fstN p k (a + 1)
theorem fstN_e {p : Nat → Bool} {D : Nat} (hD : p D = true) : ∀ (k a : Nat), a ≤ D → D < a + k → (∀ t, a ≤ t → t < D → p t = false) → fstN p k a = D
  | 0, a, h1, h2, h3 => by omega
  | k + 1, a, h1, h2, h3 => by
    rw [fstN]
    by_cases c : a = D
    · rw [c, if_pos hD]
    · rw [h3 a (Nat.le_refl _) (by omega), if_neg (by decide)]
      exact fstN_e hD k (a + 1) (by omega) (by omega) (fun t q1 q2 => h3 t (by omega) q2)
def stopB (R N : Nat → Int) (th : Int → Int) (al : Int) (p : Int × Int) (k : Nat) : Bool := decide ((orb R N th al p k).1 = -1) || (decide (sv R (orb R N th al p k).1 0 = 2) && bt (lkT R N th al p k (orb R N th al p k).1) (orb R N th al p k).2)
theorem stopB_e {th : Int → Int} {al : Int} {p : Int × Int} (k : Nat) : stopB R N th al p k = true ↔ stopT R N th al p k := by
  unfold stopB stopT
  simp only [Bool.or_eq_true, Bool.and_eq_true, decide_eq_true_eq]
def dT (R N : Nat → Int) (top st : Int) : Nat := fstN (stopB R N (thn R) (-1) (top, st)) 3073 0
theorem dT_e {st : Int} {D : Nat} {E : Int} (h : RunD R N (thn R) (-1) (top, st) D E) : D = dT R N top st := by
  obtain ⟨⟨h1, h2, h3⟩, _, _⟩ := h
  refine (fstN_e ((stopB_e D).2 h2) 3073 0 (by omega) (by omega) fun t _ ht => ?_).symm
  cases g : stopB R N (thn R) (-1) (top, st) t with
  | false => rfl
  | true => exact absurd ((stopB_e t).1 g) (h3 t ht)
abbrev coC (R N : Nat → Int) (top st : Int) : UInt32 := coT R N (thn R) (-1) (top, st) (dT R N top st)
theorem c_runQ {h : zH} (M : MB n top R N h) (P : Prg n top R N) {st : Int} (h2 : 0 ≤ st) (h3 : st < 64) : ∃ h2, zC 296 [zR (some 177), zI st] h = some (.inl (some (zI (if EC n top R N st = -1 then 0 else 1))), h2) ∧ RunE R N (thn R) (clS R (-1)) (-1) (top, st) (dT R N top st) (EC n top R N st) (fun l => hJ h 195 l.toNat) h2 ∧ (EC n top R N st ≠ -1 → hI h2 177 28 = EC n top R N st) ∧ Fr scrQ h h2 ∧ RunD R N (thn R) (-1) (top, st) (dT R N top st) (EC n top R N st) := by
  obtain ⟨D, g, e, hD, E, hs, F⟩ := c_runsFrom2 M (Prg_S P) h2 h3
  have hd := dT_e hD
  subst hd
  exact ⟨g, e, E, hs, Fr_m F rfl, hD⟩
def aRun (n top : Int) (R N : Nat → Int) (st : Int) : Int × zV := if 0 ≤ st ∧ st < 64 then (0, zI (EC n top R N st)) else (1, zI 0)
theorem isS_e (x : Int) : b_M_isState x ↔ 0 ≤ x ∧ x < 64 := by
  show 0 ≤ x ∧ x ≤ 63 ↔ _
  omega
theorem m_run {h : zH} (M : MB n top R N h) (P : Prg n top R N) (st : Int) : MA h 295 [zI st] (aRun n top R N st) := by
  have hq := q_M_run (h := h) (x1 := st) M.1
  unfold aRun
  by_cases c : 0 ≤ st ∧ st < 64
  · obtain ⟨g, e, E, hs, F, _⟩ := c_runQ M P c.1 c.2
    rw [if_pos ((isS_e st).2 c), e, q_M_run_r19 (KM_f M.1 F rfl)] at hq
    rw [if_pos c]
    by_cases z : EC n top R N st = -1
    · rw [if_pos z, if_pos rfl] at hq
      rw [z]
      exact MA_i F hq
    · rw [if_neg z, if_neg (by decide), hs z] at hq
      exact MA_i F hq
  · rw [if_neg (fun q => c ((isS_e st).1 q))] at hq
    rw [if_neg c]
    exact MA_i (Fr_r _ _) hq
def aSteps (n top : Int) (R N : Nat → Int) (st : Int) : Int × zV := if 0 ≤ st ∧ st < 64 then (0, zI (if EC n top R N st = -1 then -1 else dT R N top st)) else (1, zI 0)
theorem m_steps {h : zH} (M : MB n top R N h) (P : Prg n top R N) (st : Int) : MA h 297 [zI st] (aSteps n top R N st) := by
  have hq := q_M_steps (h := h) (x1 := st) M.1
  unfold aSteps
  by_cases c : 0 ≤ st ∧ st < 64
  · obtain ⟨g, e, E, hs, F, _⟩ := c_runQ M P c.1 c.2
    rw [if_pos ((isS_e st).2 c), e, q_M_steps_r19 (KM_f M.1 F rfl)] at hq
    rw [if_pos c]
    by_cases z : EC n top R N st = -1
    · rw [if_pos z, if_pos rfl] at hq
      rw [if_pos z]
      exact MA_i F hq
    · rw [if_neg z, if_neg (by decide), E.2.2.1] at hq
      rw [if_neg z]
      exact MA_i F hq
  · rw [if_neg (fun q => c ((isS_e st).1 q))] at hq
    rw [if_neg c]
    exact MA_i (Fr_r _ _) hq
def cstS (n top : Int) (R N : Nat → Int) (st : Int) : UInt32 := if EC n top R N st = -1 then 3212836864 else coC R N top st
def aCost (n top : Int) (R N : Nat → Int) (st : Int) : Int × zV := if 0 ≤ st ∧ st < 64 then (0, zF (cstS n top R N st)) else (1, zF FP.fconst0)
theorem MA_0 {h g : zH} {q : Nat} {as : List zV} {k : Int} {v : zV} (hk : hI g 177 1 = k) (F : Fr scrQ h g) (e : zC q (zR (some 177) :: as) h = some (.inl (some v), g)) : MA h q as (k, v) := ⟨_, e, hk, F⟩
abbrev scrU : FA := [(187, none), (177, some 21), (177, some 27), (177, some 28), (177, some 29), (177, some 30), (177, some 31), (192, none), (193, none), (194, none), (195, none), (188, none)]
theorem m_cost {h : zH} (M : MB n top R N h) (P : Prg n top R N) (st : Int) : MA h 298 [zI st] (aCost n top R N st) := by
  have hq := q_M_cost (h := h) (x1 := st) M.1
  unfold aCost cstS
  by_cases c : 0 ≤ st ∧ st < 64
  · have F0 : Fr scrQ h (sI h 177 1 0) := Fr_I (Fr_r _ _) rfl
    have M0 := MB_f M F0 rfl
    obtain ⟨D, g, e, hD, E, hs, F⟩ := c_runsFrom2 M0 (Prg_S P) c.1 c.2
    have hd := dT_e hD
    subst hd
    have ht : hI g 177 1 = 0 := by rw [fI F 177 1 rfl]; rfl
    rw [if_pos ((isS_e st).2 c), e, q_M_cost_r24 (KM_f M0.1 F rfl)] at hq
    rw [if_pos c]
    by_cases z : EC n top R N st = -1
    · rw [if_pos z, if_pos rfl] at hq
      rw [if_pos z]
      exact MA_0 ht (Fr_t F0 (Fr_m F rfl)) hq
    · rw [if_neg z, if_neg (by decide), E.2.2.2.1] at hq
      rw [if_neg z]
      exact MA_0 ht (Fr_t F0 (Fr_m F rfl)) hq
  · rw [if_neg (fun q => c ((isS_e st).1 q))] at hq
    rw [if_neg c]
    exact MA_i (Fr_r _ _) hq
def aCostBits (n top : Int) (R N : Nat → Int) (st : Int) : Int × zV := if 0 ≤ st ∧ st < 64 then (0, zI (f_Fl_floatToIntBits (cstS n top R N st))) else (1, zI 0)
theorem m_costBits {h : zH} (M : MB n top R N h) (P : Prg n top R N) (st : Int) : MA h 299 [zI st] (aCostBits n top R N st) := by
  have hq := q_M_costBits (h := h) (x1 := st) M.1
  unfold aCostBits cstS
  by_cases c : 0 ≤ st ∧ st < 64
  · obtain ⟨g, e, E, hs, F, _⟩ := c_runQ M P c.1 c.2
    rw [if_pos ((isS_e st).2 c), e, q_M_costBits_r19 (KM_f M.1 F rfl)] at hq
    rw [if_pos c]
    by_cases z : EC n top R N st = -1
    · rw [if_pos z, if_pos rfl] at hq
      rw [if_pos z]
      exact MA_i F hq
    · rw [if_neg z, if_neg (by decide), E.2.2.2.1] at hq
      rw [if_neg z]
      exact MA_i F hq
  · rw [if_neg (fun q => c ((isS_e st).1 q))] at hq
    rw [if_neg c]
    exact MA_i (Fr_r _ _) hq
abbrev wgC (n top : Int) (R N : Nat → Int) : BitVec 64 := wgS R N (TT n R N) top
theorem m_wrong {h : zH} (M : MB n top R N h) (P : Prg n top R N) : MA h 304 [] (0, zJ (wgC n top R N)) := by
  obtain ⟨g, e, F⟩ := c_wrongNow M (Prg_S P)
  have hq := q_M_wrong (h := h) M.1
  rw [e, q_M_wrong_r5 (KM_f M.1 F rfl)] at hq
  exact MA_i (Fr_m F rfl) hq
def aShare (n top : Int) (R N : Nat → Int) : UInt32 := FP.fdiv (FP.i2f (Int32.ofInt (f_M_ones (ahd N (NN n R N) top)))) 1115684864
theorem ones_b (x : BitVec 64) : 0 ≤ f_M_ones x ∧ f_M_ones x ≤ 64 := by
  have := zsum_b (f := fun k => if b_M_holds x k then 1 else 0) (u := 1) (fun k => by split <;> omega) 64 0
  unfold f_M_ones
  omega
theorem m_share {h : zH} (M : MB n top R N h) (P : Prg n top R N) : MA h 311 [] (0, zF (aShare n top R N)) := by
  have F0 : Fr scrQ h (sI h 177 1 0) := Fr_I (Fr_r _ _) rfl
  have M0 := MB_f M F0 rfl
  obtain ⟨g, e, A, F⟩ := c_laysNeeds M0 P.1 P.2.1 (isTH_t P.1) (isND_t P.1)
  have M1 := MB_f M0 F rfl
  obtain ⟨g2, e2, F2⟩ := c_needAheadNow (ND := NN n R N) M1 P.1 P.2.1 (Sem_top (Prg_S P)) A
  have ho := ones_b (ahd N (NN n R N) top)
  have hq := q_M_share (h := h) M.1
  rw [e, q_M_share_r9 M1.1, e2, q_M_share_r13 (KM_f M1.1 F2 rfl), gd_t (fpos_zn (fpos_shr ho.1 ho.2))] at hq
  refine MA_0 ?_ (Fr_t F0 (Fr_t (Fr_m F rfl) (Fr_m F2 rfl))) hq
  rw [fI F2 177 1 rfl, fI F 177 1 rfl]
  rfl
end API3
