/-! The reading of texts, as steps on a state; the reference takes them. -/
section PARSE
variable {I : Nat → Int} {len : Int}
/-- token, error and its place, statements (count, first, rows, formulas), open statement, whether in its second row, last statement of the row -/
abbrev PSt : Type := TK × (Int × Int) × (Int × Int × (Nat → Int) × (Nat → Int)) × (Int × Int × Int)
def errP (c : Int) : PSt → PSt
  | (t, (f, fa), p, w) => if f = 0 then (t, (c, t.2.1), p, w) else (t, (f, fa), p, w)
def advP (I : Nat → Int) (len : Int) : PSt → PSt
  | (t, fl, p, w) => (tok I len true t.2.2, fl, p, w)
def takP (I : Nat → Int) (len : Int) (w : Int) (s : PSt) : PSt := if s.2.1.1 = 0 then (if s.1.1 = w then advP I len s else errP 1 s) else s
def exB (x : Int) : Nat := if (7 ≤ x ∧ x ≤ 9) ∨ x = 12 ∨ x = 13 then 2 else 0
def cdB (x : Int) : Nat := if x = 15 ∨ x = 16 then 2 else if x = 14 then 1 else 0
/-- the error that a token is where expressions (else conditions) are due, with k nodes before it -/
def fmE (x : Int) (e : Nat) (k : Int) : Int := if 0 < e ∧ x = -4 then 2 else if (0 < e ∧ 0 ≤ x ∧ x ≤ 9) ∨ (e = 0 ∧ 10 ≤ x ∧ x ≤ 16) then (if k = 30 then 4 else 0) else 1
def putP (b : Nat) : PSt → PSt
  | (t, fl, (n, top, R, N), w) => (t, fl, (n, top, R, upN (upN N b (N b + 1)) (b + (N b + 1).toNat) t.1), w)
def fmS (I : Nat → Int) (len : Int) (b : Nat) : Nat → Nat → Nat → PSt → PSt
  | 0, _, _, s => s
  | m + 1, e, c, s => if e + c = 0 then s else if fmE s.1.1 e (s.2.2.1.2.2.2 b) = 0 then fmS I len b m (e - (if 0 < e then 1 else 0) + exB s.1.1) (c - (if 0 < e then 0 else 1) + cdB s.1.1) (advP I len (putP b s)) else errP (fmE s.1.1 e (s.2.2.1.2.2.2 b)) s
def zerP (b : Nat) : PSt → PSt
  | (t, fl, (n, top, R, N), w) => (t, fl, (n, top, R, upN N b 0), w)
def forP (I : Nat → Int) (len : Int) (q what : Int) (s : PSt) : PSt := fmS I len (31 * q).toNat 32 (if what = 0 then 1 else 0) (if what = 0 then 0 else 1) (zerP (31 * q).toNat s)
def PM (h : zH) (I : Nat → Int) (len : Int) : PSt → Prop
  | (t, (f, fa), (n, top, R, N), row, sec, last) => KM h ∧ TKM h I len t ∧ hI h 177 41 = f ∧ (f ≠ 0 → hI h 177 42 = fa) ∧ (hI h 177 10 = n ∧ hI h 177 12 = top ∧ hI h 183 = R ∧ hI h 179 = N) ∧ hI h 177 44 = row ∧ hI h 177 45 = sec ∧ hI h 177 46 = last
theorem PM_K {h : zH} {s : PSt} (P : PM h I len s) : KM h := by
  obtain ⟨t, ⟨f, fa⟩, ⟨n, top, R, N⟩, row, sec, last⟩ := s
  exact P.1
theorem PM_T {h : zH} {s : PSt} (P : PM h I len s) : TKM h I len s.1 := by
  obtain ⟨t, ⟨f, fa⟩, ⟨n, top, R, N⟩, row, sec, last⟩ := s
  exact P.2.1
theorem PM_F {h : zH} {s : PSt} (P : PM h I len s) : hI h 177 41 = s.2.1.1 := by
  obtain ⟨t, ⟨f, fa⟩, ⟨n, top, R, N⟩, row, sec, last⟩ := s
  exact P.2.2.1
theorem PM_N {h : zH} {s : PSt} (P : PM h I len s) : hI h 179 = s.2.2.1.2.2.2 := by
  obtain ⟨t, ⟨f, fa⟩, ⟨n, top, R, N⟩, row, sec, last⟩ := s
  exact P.2.2.2.2.1.2.2.2
abbrev scrPs : FA := [(177, some 36), (177, some 37), (177, some 38), (177, some 39), (177, some 40), (177, some 41), (177, some 42), (177, some 44), (177, some 45), (177, some 46), (177, some 10), (177, some 12), (179, none), (183, none), (196, none)]
theorem c_errs {h : zH} {s : PSt} (P : PM h I len s) (c : Int) : ∃ h2, zC 223 [zR (some 177), zI c] h = some (.inl none, h2) ∧ PM h2 I len (errP c s) ∧ Fr [(177, some 41), (177, some 42)] h h2 := by
  obtain ⟨t, ⟨f, fa⟩, ⟨n, top, R, N⟩, row, sec, last⟩ := s
  obtain ⟨K, T, pf, pa, ⟨p1, p2, p3, p4⟩, p5, p6, p7⟩ := id P
  rw [q_M_errs K, pf]
  unfold errP
  simp only
  by_cases h0 : f = 0
  · rw [if_pos h0, if_pos h0]
    have F : Fr [(177, some 41), (177, some 42)] h (sI (sI h 177 41 c) 177 42 (hI h 177 38)) := Fr_I (Fr_I (Fr_r _ _) rfl) rfl
    exact ⟨_, rfl, ⟨KM_f K F rfl, TKM_f T F rfl, rfl, fun _ => T.2.2.2.1, ⟨(fI F 177 10 rfl).trans p1, (fI F 177 12 rfl).trans p2, (rI F 183 rfl).trans p3, (rI F 179 rfl).trans p4⟩, (fI F 177 44 rfl).trans p5, (fI F 177 45 rfl).trans p6, (fI F 177 46 rfl).trans p7⟩, F⟩
  · rw [if_neg h0, if_neg h0]
    exact ⟨h, rfl, P, Fr_r _ _⟩
theorem c_advP {h : zH} {s : PSt} (P : PM h I len s) (h0 : 0 ≤ s.1.1) : ∃ h2, zC 218 [zR (some 177)] h = some (.inl none, h2) ∧ PM h2 I len (advP I len s) ∧ Fr scrT h h2 := by
  obtain ⟨t, ⟨f, fa⟩, ⟨n, top, R, N⟩, row, sec, last⟩ := s
  obtain ⟨K, T, pf, pa, ⟨p1, p2, p3, p4⟩, p5, p6, p7⟩ := id P
  obtain ⟨t1, t2, t3, t4, t5, t6⟩ := T
  have h0 : 0 ≤ t.1 := h0
  obtain ⟨h2, e2, T2, F⟩ := c_advances (b := true) (e := t.2.2) K t1 t2 t3.1 t3.2 (by omega) (by omega) (by omega) (by simp only [iff_true]; omega)
  exact ⟨h2, e2, ⟨KM_f K F rfl, T2, (fI F 177 41 rfl).trans pf, fun q => (fI F 177 42 rfl).trans (pa q), ⟨(fI F 177 10 rfl).trans p1, (fI F 177 12 rfl).trans p2, (rI F 183 rfl).trans p3, (rI F 179 rfl).trans p4⟩, (fI F 177 44 rfl).trans p5, (fI F 177 45 rfl).trans p6, (fI F 177 46 rfl).trans p7⟩, F⟩
theorem l_isKey {h : zH} {s e k : Int} {x : Option zV} (K : KM h) (hI1 : hI h 185 = I) (h38 : hI h 177 38 = s) (h39 : hI h 177 39 = e) (hs : 0 ≤ s) (he : e ≤ 800) (hse : s ≤ e) (k0 : 0 ≤ k) (k1 : k < 22) : ∀ (m : Nat) (j : Int), 0 ≤ j → j + m = 5 → zY 222 25 [some (zR (some 177)), some (zI k), some (zI j), none] [] h = some (.inl (some (zI (if keyF I s e k m j = true then 1 else 0))), h)
  | 0, j, h0, h1 => by
    rw [q_M_isKey_25 K, if_neg (by omega)]
    rfl
  | m + 1, j, h0, h1 => by
    have ih := l_isKey (x := x) K hI1 h38 h39 hs he hse k0 k1 m (j + 1) (by omega) (by omega)
    rw [q_M_isKey_25 K, h38, h39, hI1, K.2.2.2, if_pos (by omega), gd_t (by omega)]
    unfold keyF keyJ
    by_cases c : j < e - s
    · rw [if_pos c, if_pos c, gd_t (by omega), gd_t (by omega), gd_t (by omega), gd_t (by omega), gd_t (by omega)]
      by_cases d : I (s + j).toNat = mKeys.getD (5 * k + j).toNat 0
      · rw [if_pos d, gd_t (by omega), decide_eq_true d, Bool.true_and]
        exact zY_le (by exact ⟨rfl, rfl, rfl, trivial⟩) ih
      · rw [if_neg d, decide_eq_false d, Bool.false_and]
        rfl
    · rw [if_neg c, if_neg c, gd_t (by omega), gd_t (by omega), gd_t (by omega)]
      by_cases d : 0 = mKeys.getD (5 * k + j).toNat 0
      · rw [if_pos d, gd_t (by omega), decide_eq_true d, Bool.true_and]
        exact zY_le (by exact ⟨rfl, rfl, rfl, trivial⟩) ih
      · rw [if_neg d, decide_eq_false d, Bool.false_and]
        rfl
theorem c_isKey {h : zH} {t : TK} (K : KM h) (T : TKM h I len t) {w : Int} (w0 : 4 ≤ w) (w1 : w ≤ 25) : zC 222 [zR (some 177), zI (kOf w)] h = some (.inl (some (zI (if t.1 = w then 1 else 0))), h) := by
  obtain ⟨t1, t2, t3, t4, t5, t6⟩ := T
  have hk := kOf_r w0 w1
  rw [q_M_isKey K]
  by_cases c : hI h 177 37 = 1
  · have tw : t.1 = wcode I t.2.1 t.2.2 ∧ hI h 177 39 = t.2.2 := by
      rcases t6 with q | q | q | q | q
      · omega
      · omega
      · omega
      · omega
      · exact ⟨q.1, q.2.2⟩
    rw [if_pos c, gd_t (by omega), tw.2, t4]
    have hw := wcode_key (I := I) (s := t.2.1) (e := t.2.2) w0 w1
    rw [← tw.1] at hw
    by_cases d : 5 < t.2.2 - t.2.1
    · rw [if_pos d, if_neg (fun q => by
        have h2 := hw.2 q
        simp only [keyB, Bool.and_eq_true, decide_eq_true_eq] at h2
        omega)]
    · rw [if_neg d, l_isKey (x := none) K t1 t4 tw.2 t5.1 (by omega) t5.2.1 hk.1 hk.2 5 0 (by omega) (by omega)]
      have hb : keyB I t.2.1 t.2.2 (kOf w) = keyF I t.2.1 t.2.2 (kOf w) 5 0 := by
        unfold keyB
        rw [decide_eq_true (by omega), Bool.true_and]
      rw [hb] at hw
      by_cases g : t.1 = w
      · rw [if_pos g, if_pos (hw.2 g)]
      · rw [if_neg g, if_neg (fun q => g (hw.1 q))]
  · rw [if_neg c, if_neg]
    intro q
    rcases t6 with r | r | r | r | r <;> omega
theorem c_isKey2 {h : zH} {t : TK} (K : KM h) (T : TKM h I len t) {k : Int} (w : Int) (w0 : 4 ≤ w) (w1 : w ≤ 25) (e : k = kOf w) : zC 222 [zR (some 177), zI k] h = some (.inl (some (zI (if t.1 = w then 1 else 0))), h) := by
  rw [e]; exact c_isKey K T w0 w1
theorem c_takesKey {h : zH} {s : PSt} (P : PM h I len s) {k w : Int} (w0 : 4 ≤ w) (w1 : w ≤ 25) (e : k = kOf w) : ∃ h2, zC 221 [zR (some 177), zI k] h = some (.inl none, h2) ∧ PM h2 I len (takP I len w s) ∧ Fr scrPs h h2 := by
  have K := PM_K P
  have pf := PM_F P
  unfold takP
  rw [q_M_takesKey K, pf]
  by_cases c : s.2.1.1 = 0
  · rw [if_pos c, if_pos c, c_isKey2 K (PM_T P) w w0 w1 e, q_M_takesKey_r12 K, pf]
    by_cases d : s.1.1 = w
    · rw [if_pos d, if_pos d, if_neg (by decide), if_pos c]
      obtain ⟨h2, e2, P2, F2⟩ := c_advP P (by omega)
      rw [e2, q_M_takesKey_r31 (PM_K P2)]
      exact ⟨h2, rfl, P2, Fr_m F2 rfl⟩
    · rw [if_neg d, if_neg d, if_pos rfl]
      obtain ⟨h2, e2, P2, F2⟩ := c_errs P 1
      rw [e2, q_M_takesKey_r20 (PM_K P2), PM_F P2, if_neg]
      · exact ⟨h2, rfl, P2, Fr_m F2 rfl⟩
      · obtain ⟨t, ⟨f, fa⟩, p, w⟩ := s
        have c : f = 0 := c
        unfold errP
        simp only
        rw [if_pos c]
        exact (show ¬ (1 : Int) = 0 by decide)
  · rw [if_neg c, if_neg c]
    exact ⟨h, rfl, P, Fr_r _ _⟩
/-- what the reference makes of a token as a node -/
def ndv (h : zH) (x : Int) : Int := if x = -4 then hI h 177 40 else if 0 ≤ x ∧ x ≤ 16 then x else -1
theorem l_nodeHere {h : zH} {t : TK} (K : KM h) (T : TKM h I len t) (hk : ¬ hI h 177 37 = 2) (ht : t.1 = -2 ∨ t.1 = -3 ∨ 4 ≤ t.1) : ∀ (m : Nat) (k : Int), 0 ≤ k → k + m = 13 → (t.1 < 4 ∨ k + 4 ≤ t.1) → zY 225 15 [some (zR (some 177)), some (zI k)] [] h = some (.inl (some (zI (ndv h t.1))), h)
  | 0, k, h0, h1, h2 => by
    rw [q_M_nodeHere_15 K, if_neg (by omega)]
    unfold ndv
    rw [if_neg (by omega), if_neg (by omega)]
  | m + 1, k, h0, h1, h2 => by
    have e : k = kOf (k + 4) := by unfold kOf; rw [if_pos (by omega)]; omega
    rw [q_M_nodeHere_15 K, if_pos (by omega), c_isKey2 K T (k + 4) (by omega) (by omega) e, q_M_nodeHere_r26 K]
    by_cases c : t.1 = k + 4
    · rw [if_pos c, if_neg (by decide), gd_t (by omega)]
      unfold ndv
      rw [if_neg (by omega), if_pos (by omega), c, Int.add_comm]
    · rw [if_neg c, if_pos rfl, gd_t (by omega)]
      exact l_nodeHere K T hk ht m (k + 1) (by omega) (by omega) (by omega)
theorem c_nodeHere {h : zH} {t : TK} (K : KM h) (T : TKM h I len t) : zC 225 [zR (some 177)] h = some (.inl (some (zI (ndv h t.1))), h) := by
  obtain ⟨t1, t2, t3, t4, t5, t6⟩ := id T
  have hw := wcode_r I t.2.1 t.2.2
  rw [q_M_nodeHere K]
  by_cases c : hI h 177 37 = 2
  · rw [if_pos c]
    unfold ndv
    rcases t6 with q | q | q | q | q
    · omega
    · omega
    · rw [if_pos q.1]
    · rw [if_neg (by omega), if_pos (by omega), q.2.2.2.1]
    · omega
  · rw [if_neg c]
    exact l_nodeHere K T c (by omega) 13 0 (by omega) (by omega) (by omega)
theorem l_variableHere {h : zH} {t : TK} (K : KM h) (T : TKM h I len t) : ∀ (m : Nat) (k : Int), 0 ≤ k → k + m = 3 → (t.1 < 4 ∨ k + 4 ≤ t.1) → zY 231 2 [some (zR (some 177)), some (zI k)] [] h = some (.inl (some (zI (if 4 ≤ t.1 ∧ t.1 ≤ 6 then t.1 - 4 else -1))), h)
  | 0, k, h0, h1, h2 => by
    rw [q_M_variableHere_2 K, if_neg (by omega), if_neg (by omega)]
  | m + 1, k, h0, h1, h2 => by
    have e : k = kOf (k + 4) := by unfold kOf; rw [if_pos (by omega)]; omega
    rw [q_M_variableHere_2 K, if_pos (by omega), c_isKey2 K T (k + 4) (by omega) (by omega) e, q_M_variableHere_r12 K]
    by_cases c : t.1 = k + 4
    · rw [if_pos c, if_neg (by decide), if_pos (by omega), show t.1 - 4 = k by omega]
    · rw [if_neg c, if_pos rfl, gd_t (by omega)]
      exact l_variableHere K T m (k + 1) (by omega) (by omega) (by omega)
theorem c_variableHere {h : zH} {t : TK} (K : KM h) (T : TKM h I len t) : zC 231 [zR (some 177)] h = some (.inl (some (zI (if 4 ≤ t.1 ∧ t.1 ≤ 6 then t.1 - 4 else -1))), h) := by
  rw [q_M_variableHere K]
  exact l_variableHere K T 3 0 (by omega) (by omega) (by omega)
/-- the reference's row of what is due: conditions below, expressions above -/
def DUE (h : zH) (e c : Nat) : Prop := (∀ i : Nat, i < c → hI h 196 i = 1) ∧ (∀ i : Nat, c ≤ i → i < c + e → hI h 196 i = 0)
theorem arity_e {x : Int} (h0 : 0 ≤ x) (h1 : x ≤ 16) : f_M_arity x = exB x + cdB x ∧ (¬ exB x = 0 → cdB x = 0) ∧ (exB x + cdB x ≤ 2) ∧ (¬ cdB x = 0 ↔ (x = 14 ∨ x = 15 ∨ x = 16)) := by
  have H := (show ∀ x : Fin 17, f_M_arity x.val = exB x.val + cdB x.val ∧ (¬ exB x.val = 0 → cdB x.val = 0) ∧ (exB x.val + cdB x.val ≤ 2) ∧ (¬ cdB x.val = 0 ↔ ((x.val : Int) = 14 ∨ (x.val : Int) = 15 ∨ (x.val : Int) = 16)) by decide +kernel) ⟨x.toNat, by omega⟩
  simp only at H
  rw [show ((x.toNat : Nat) : Int) = x by omega] at H
  exact H
theorem l_due {h : zH} {q what b x : Int} {v : Int} (hv : v = if x = 14 ∨ x = 15 ∨ x = 16 then 1 else 0) {a : Int} (ha : a ≤ 2) : ∀ (m : Nat) (d k : Int) (h : zH), KM h → 0 ≤ k → k + m = a → 0 ≤ d → d + m ≤ 60 → ∃ h2, zY 224 160 [some (zR (some 177)), some (zI q), some (zI what), some (zI b), some (zI d), some (zI x), some (zI a), some (zI k)] [] h = zBack zY 224 210 213 [some (zR (some 177)), some (zI q), some (zI what), some (zI b), some (zI (d + m)), some (zI x), some (zI a), some (zI a)] [] (zC 218 [zR (some 177)] h2) ∧ (∀ i : Nat, hI h2 196 i = if d ≤ i ∧ (i : Int) < d + m then v else hI h 196 i) ∧ Fr [(196, none)] h h2
  | 0, d, k, h, K, h0, h1, h2, h3 => by
    rw [q_M_readsForm_160 K, if_neg (by omega), show d + ((0 : Nat) : Int) = d by omega, show a = k by omega]
    exact ⟨h, rfl, fun i => by rw [if_neg (by omega)], Fr_r _ _⟩
  | m + 1, d, k, h, K, h0, h1, h2, h3 => by
    have F : Fr [(196, none)] h (sI h 196 d.toNat v) := Fr_I (Fr_r _ _) rfl
    obtain ⟨g, e, A, F2⟩ := l_due (h := h) (q := q) (what := what) (b := b) hv ha m (d + 1) (k + 1) _ (KM_f K F rfl) (by omega) (by omega) (by omega) (by omega)
    rw [q_M_readsForm_160 K, if_pos (by omega), show d + ((m + 1 : Nat) : Int) = d + 1 + m by omega]
    refine ⟨g, ?_, fun i => ?_, Fr_t F F2⟩
    · rw [← e]
      by_cases c1 : x = 14
      · rw [if_pos c1, gd_t (by omega), gd_t (by omega), gd_t (by omega), hv, if_pos (by omega)]
      rw [if_neg c1]
      by_cases c2 : x = 15
      · rw [if_pos c2, gd_t (by omega), gd_t (by omega), gd_t (by omega), hv, if_pos (by omega)]
      rw [if_neg c2]
      by_cases c3 : x = 16
      · rw [if_pos c3, gd_t (by omega), gd_t (by omega), gd_t (by omega), hv, if_pos (by omega)]
      rw [if_neg c3, gd_t (by omega), gd_t (by omega), gd_t (by omega), hv, if_neg (by omega)]
    · rw [A, hI_up]
      unfold upN
      by_cases c : i = d.toNat
      · rw [if_neg (by omega), if_pos c, if_pos (by omega)]
      · rw [if_neg c]
        by_cases c2 : d + 1 ≤ (i : Int) ∧ (i : Int) < d + 1 + m
        · rw [if_pos c2, if_pos (by omega)]
        · rw [if_neg c2, if_neg (by omega)]
theorem fmE_0 {x : Int} {e : Nat} {k : Int} (h : fmE x e k = 0) : ((0 < e ∧ 0 ≤ x ∧ x ≤ 9) ∨ (e = 0 ∧ 10 ≤ x ∧ x ≤ 16)) ∧ ¬ k = 30 := by
  unfold fmE at h
  split at h
  · cases h
  · split at h
    · rename_i c
      split at h
      · cases h
      · rename_i d
        exact ⟨c, d⟩
    · cases h
theorem l_readsForm {q what : Int} (hq : 0 ≤ q) (hq2 : q < 74) : ∀ (m e c : Nat) (h : zH) (s : PSt), PM h I len s → s.2.1.1 = 0 → DUE h e c → s.2.2.1.2.2.2 (31 * q).toNat + m = 32 → 0 ≤ s.2.2.1.2.2.2 (31 * q).toNat → s.2.2.1.2.2.2 (31 * q).toNat ≤ 30 → (e + c : Nat) ≤ s.2.2.1.2.2.2 (31 * q).toNat + 1 → ∃ h2, zY 224 22 [some (zR (some 177)), some (zI q), some (zI what), some (zI (31 * q)), some (zI (e + c)), none, none, none] [] h = some (.inl none, h2) ∧ PM h2 I len (fmS I len (31 * q).toNat m e c s) ∧ Fr scrPs h h2
  | 0, e, c, h, s, P, hf, D, hm, n0, n1, hec => by omega
  | m + 1, e, c, h, s, P, hf, D, hm, n0, n1, hec => by
    have K := PM_K P
    have T := PM_T P
    have pf := PM_F P
    have hN := PM_N P
    rw [q_M_readsForm_22 K, pf, fmS]
    by_cases z : e + c = 0
    · rw [if_pos z, if_neg (by omega)]
      exact ⟨h, rfl, P, Fr_r _ _⟩
    rw [if_neg z, if_pos (by omega), if_pos hf, gd_t (by omega), c_nodeHere K T]
    have D1 : (0 < e → hI h 196 ((e : Int) + c + -1).toNat = 0) ∧ (e = 0 → hI h 196 ((e : Int) + c + -1).toNat = 1) := by
      constructor
      · intro he; exact D.2 _ (by omega) (by omega)
      · intro he; exact D.1 _ (by omega)
    have dd : (e : Int) + c + -1 = ((e + c - 1 : Nat) : Int) := by omega
    rw [dd] at D1 ⊢
    rw [Int.toNat_natCast] at D1
    generalize hd : e + c - 1 = d at *
    have hd2 : d < 31 := by omega
    obtain ⟨t1, t2, t3, t4, t5, t6⟩ := id T
    have hw := wcode_r I s.1.2.1 s.1.2.2
    have stop : ∀ (g : zH) (x4 x5 : Int), KM g → ¬ hI g 177 41 = 0 → zY 224 22 [some (zR (some 177)), some (zI q), some (zI what), some (zI (31 * q)), some (zI x4), some (zI x5), none, none] [] g = some (.inl none, g) := fun g x4 x5 Kg hg => by
      refine zY_le (L := [some (zR (some 177)), some (zI q), some (zI what), some (zI (31 * q)), some (zI x4), none, none, none]) (by exact ⟨rfl, rfl, rfl, rfl, rfl, trivial⟩) ?_
      rw [q_M_readsForm_22 Kg]
      by_cases c0 : 0 < x4
      · rw [if_pos c0, if_neg hg]
      · rw [if_neg c0]
    have er : ∀ code : Int, code ≠ 0 → ∃ h2, zC 223 [zR (some 177), zI code] h = some (.inl none, h2) ∧ KM h2 ∧ ¬ hI h2 177 41 = 0 ∧ PM h2 I len (errP code s) ∧ Fr scrPs h h2 := fun code hc => by
      obtain ⟨h2, e2, P2, F2⟩ := c_errs P code
      refine ⟨h2, e2, PM_K P2, ?_, P2, Fr_m F2 rfl⟩
      rw [PM_F P2]
      obtain ⟨t, ⟨f, fa⟩, p, w⟩ := s
      have hf : f = 0 := hf
      unfold errP
      simp only
      rw [if_pos hf]
      exact hc
    by_cases z1 : fmE s.1.1 e (s.2.2.1.2.2.2 (31 * q).toNat) = 0
    · obtain ⟨hx, h30⟩ := fmE_0 z1
      have hy : ndv h s.1.1 = s.1.1 := by unfold ndv; rw [if_neg (by omega), if_pos (by omega)]
      have ha := arity_e (x := s.1.1) (by omega) (by omega)
      have hkind : hI h 177 37 = 2 → s.1.1 ≤ 3 ∧ hI h 177 40 = s.1.1 := fun q => by omega
      have hkind2 : s.1.1 ≤ 3 → hI h 177 37 = 2 := fun q => by omega
      rw [if_pos z1, hy, q_M_readsForm_r41 K, if_neg (by omega), gd_t (by omega), Int.toNat_natCast]
      have via : (zY 224 82 [some (zR (some 177)), some (zI q), some (zI what), some (zI (31 * q)), some (zI d), some (zI s.1.1), none, none] [] h : zO) = zY 224 135 [some (zR (some 177)), some (zI q), some (zI what), some (zI (31 * q)), some (zI d), some (zI s.1.1), none, none] [] (sI h 179 (31 * q).toNat (hI h 179 (31 * q).toNat + 1)) := by
        have v2 : (zY 224 106 [some (zR (some 177)), some (zI q), some (zI what), some (zI (31 * q)), some (zI d), some (zI s.1.1), none, none] [] h : zO) = zY 224 135 [some (zR (some 177)), some (zI q), some (zI what), some (zI (31 * q)), some (zI d), some (zI s.1.1), none, none] [] (sI h 179 (31 * q).toNat (hI h 179 (31 * q).toNat + 1)) := by
          rw [q_M_readsForm_106 K, gd_t (by omega), hN, if_neg h30, q_M_readsForm_125 K, gd_t (by omega), hN, gd_t (by omega)]
        rw [q_M_readsForm_82 K]
        by_cases k2 : hI h 177 37 = 2
        · have k3 := hkind k2
          rw [if_pos k2, if_pos (by omega), v2]
        · rw [if_neg k2, v2]
      have ent : (if hI h 196 d = 1 then if (if b_M_isCondition h s.1.1 then (1 : Int) else 0) = 1 then zY 224 82 [some (zR (some 177)), some (zI q), some (zI what), some (zI (31 * q)), some (zI d), some (zI s.1.1), none, none] [] h else zBack zY 224 76 79 [some (zR (some 177)), some (zI q), some (zI what), some (zI (31 * q)), some (zI d), some (zI s.1.1), none, none] [] (zC 223 [zR (some 177), zI 1] h) else if b_M_isCondition h s.1.1 then zBack zY 224 76 79 [some (zR (some 177)), some (zI q), some (zI what), some (zI (31 * q)), some (zI d), some (zI s.1.1), none, none] [] (zC 223 [zR (some 177), zI 1] h) else zY 224 82 [some (zR (some 177)), some (zI q), some (zI what), some (zI (31 * q)), some (zI d), some (zI s.1.1), none, none] [] h : zO) = zY 224 82 [some (zR (some 177)), some (zI q), some (zI what), some (zI (31 * q)), some (zI d), some (zI s.1.1), none, none] [] h := by
        rcases hx with ⟨a1, a2, a3⟩ | ⟨a1, a2, a3⟩
        · rw [if_neg (by rw [D1.1 a1]; decide), if_neg]
          intro qq
          exact absurd qq.2 (by omega)
        · have hc : b_M_isCondition h s.1.1 := ⟨fun qq => by have := hkind qq; omega, a2⟩
          rw [if_pos (D1.2 a1), if_pos (by rw [if_pos hc])]
      rw [ent, via]
      have F1 : Fr scrPs h (sI h 179 (31 * q).toNat (hI h 179 (31 * q).toNat + 1)) := Fr_I (Fr_r _ _) rfl
      have K1 := KM_f K F1 rfl
      have e1 : hI (sI h 179 (31 * q).toNat (hI h 179 (31 * q).toNat + 1)) 179 = upN (s.2.2.1.2.2.2) (31 * q).toNat (s.2.2.1.2.2.2 (31 * q).toNat + 1) := by rw [hI_up, hN]
      rw [q_M_readsForm_135 K1, e1, upN_s, gd_t (by omega), gd_t (by omega), gd_t (by omega)]
      have F2 : Fr scrPs h (sI (sI h 179 (31 * q).toNat (hI h 179 (31 * q).toNat + 1)) 179 (31 * q + (s.2.2.1.2.2.2 (31 * q).toNat + 1)).toNat s.1.1) := Fr_I F1 rfl
      have K2 := KM_f K F2 rfl
      have P2 : PM (sI (sI h 179 (31 * q).toNat (hI h 179 (31 * q).toNat + 1)) 179 (31 * q + (s.2.2.1.2.2.2 (31 * q).toNat + 1)).toNat s.1.1) I len (putP (31 * q).toNat s) := by
        have F : Fr [(179, none)] h (sI (sI h 179 (31 * q).toNat (hI h 179 (31 * q).toNat + 1)) 179 (31 * q + (s.2.2.1.2.2.2 (31 * q).toNat + 1)).toNat s.1.1) := Fr_I (Fr_I (Fr_r _ _) rfl) rfl
        obtain ⟨t, ⟨f, fa⟩, ⟨n, top, R, N⟩, row, sec, last⟩ := s
        obtain ⟨_, _, pf, pa, ⟨p1, p2, p3, p4⟩, p5, p6, p7⟩ := id P
        refine ⟨K2, TKM_f T F rfl, (fI F 177 41 rfl).trans pf, fun q => (fI F 177 42 rfl).trans (pa q), ⟨(fI F 177 10 rfl).trans p1, (fI F 177 12 rfl).trans p2, (rI F 183 rfl).trans p3, ?_⟩, (fI F 177 44 rfl).trans p5, (fI F 177 45 rfl).trans p6, (fI F 177 46 rfl).trans p7⟩
        rw [hI_up, hI_up, p4]
        show upN (upN N (31 * q).toNat (N (31 * q).toNat + 1)) (31 * q + (N (31 * q).toNat + 1)).toNat t.1 = upN (upN N (31 * q).toNat (N (31 * q).toNat + 1)) ((31 * q).toNat + (N (31 * q).toNat + 1).toNat) t.1
        have n0' : 0 ≤ N (31 * q).toNat := n0
        rw [show (31 * q + (N (31 * q).toNat + 1)).toNat = (31 * q).toNat + (N (31 * q).toNat + 1).toNat by omega]
      have hDg : ∀ i : Nat, hI (sI (sI h 179 (31 * q).toNat (hI h 179 (31 * q).toNat + 1)) 179 (31 * q + (s.2.2.1.2.2.2 (31 * q).toNat + 1)).toNat s.1.1) 196 i = hI h 196 i := fun i => rfl
      generalize sI (sI h 179 (31 * q).toNat (hI h 179 (31 * q).toNat + 1)) 179 (31 * q + (s.2.2.1.2.2.2 (31 * q).toNat + 1)).toNat s.1.1 = h2 at *
      obtain ⟨h3, e3, A3, F3⟩ := l_due (h := h2) (q := q) (what := what) (b := 31 * q) (x := s.1.1) rfl (a := f_M_arity s.1.1) (by omega) (exB s.1.1 + cdB s.1.1) d 0 h2 K2 (by omega) (by omega) (by omega) (by omega)
      rw [e3]
      have K3 := KM_f K2 F3 rfl
      have P3 : PM h3 I len (putP (31 * q).toNat s) := by
        obtain ⟨t, ⟨f, fa⟩, ⟨n, top, R, N⟩, row, sec, last⟩ := s
        obtain ⟨_, T2, pf, pa, ⟨p1, p2, p3, p4⟩, p5, p6, p7⟩ := id P2
        exact ⟨K3, TKM_f T2 F3 rfl, (fI F3 177 41 rfl).trans pf, fun q => (fI F3 177 42 rfl).trans (pa q), ⟨(fI F3 177 10 rfl).trans p1, (fI F3 177 12 rfl).trans p2, (rI F3 183 rfl).trans p3, (rI F3 179 rfl).trans p4⟩, (fI F3 177 44 rfl).trans p5, (fI F3 177 45 rfl).trans p6, (fI F3 177 46 rfl).trans p7⟩
      have hp1 : (putP (31 * q).toNat s).1 = s.1 := by
        obtain ⟨t, ⟨f, fa⟩, ⟨n, top, R, N⟩, row, sec, last⟩ := s
        rfl
      obtain ⟨h4, e4, P4, F4⟩ := c_advP P3 (by rw [hp1]; omega)
      have K4 := PM_K P4
      rw [e4, q_M_readsForm_r213 K4]
      have hN4 : (advP I len (putP (31 * q).toNat s)).2.2.1.2.2.2 (31 * q).toNat = s.2.2.1.2.2.2 (31 * q).toNat + 1 := by
        obtain ⟨t, ⟨f, fa⟩, ⟨n, top, R, N⟩, row, sec, last⟩ := s
        have n0' : 0 ≤ N (31 * q).toNat := n0
        show upN (upN N (31 * q).toNat (N (31 * q).toNat + 1)) ((31 * q).toNat + (N (31 * q).toNat + 1).toNat) t.1 (31 * q).toNat = N (31 * q).toNat + 1
        rw [upN_n _ _ (by omega), upN_s]
      have hf4 : (advP I len (putP (31 * q).toNat s)).2.1.1 = 0 := by
        obtain ⟨t, ⟨f, fa⟩, ⟨n, top, R, N⟩, row, sec, last⟩ := s
        exact hf
      obtain ⟨h5, e5, P5, F5⟩ := l_readsForm (what := what) hq hq2 m (e - (if 0 < e then 1 else 0) + exB s.1.1) (c - (if 0 < e then 0 else 1) + cdB s.1.1) h4 _ P4 hf4 (by
        have g4 : ∀ i : Nat, hI h4 196 i = if d ≤ (i : Int) ∧ (i : Int) < d + ((exB s.1.1 + cdB s.1.1 : Nat) : Int) then (if s.1.1 = 14 ∨ s.1.1 = 15 ∨ s.1.1 = 16 then 1 else 0) else hI h 196 i := fun i => by
          rw [fI F4 196 i rfl, A3 i, hDg]
        constructor
        · intro i hi
          rw [g4]
          rcases hx with ⟨a1, a2, a3⟩ | ⟨a1, a2, a3⟩
          · have : cdB s.1.1 = 0 := by by_cases qq : cdB s.1.1 = 0; exact qq; have := ha.2.2.2.1 qq; omega
            simp only [if_pos a1] at hi
            rw [if_neg (by omega)]
            exact D.1 i (by omega)
          · simp only [if_neg (show ¬ 0 < e by omega)] at hi
            by_cases cc : d ≤ (i : Int) ∧ (i : Int) < d + ((exB s.1.1 + cdB s.1.1 : Nat) : Int)
            · have h7 : ¬ cdB s.1.1 = 0 := by omega
              rw [if_pos cc, if_pos (ha.2.2.2.1 h7)]
            · rw [if_neg cc]
              exact D.1 i (by omega)
        · intro i hi hi2
          rw [g4]
          rcases hx with ⟨a1, a2, a3⟩ | ⟨a1, a2, a3⟩
          · have h7 : cdB s.1.1 = 0 := by by_cases qq : cdB s.1.1 = 0; exact qq; have := ha.2.2.2.1 qq; omega
            simp only [if_pos a1] at hi hi2
            by_cases cc : d ≤ (i : Int) ∧ (i : Int) < d + ((exB s.1.1 + cdB s.1.1 : Nat) : Int)
            · rw [if_pos cc, if_neg (by omega)]
            · rw [if_neg cc]
              exact D.2 i (by omega) (by omega)
          · simp only [if_neg (show ¬ 0 < e by omega)] at hi hi2
            have h8 : ¬ exB s.1.1 = 0 := by omega
            have h9 := ha.2.1 h8
            have h10 : ¬ (s.1.1 = 14 ∨ s.1.1 = 15 ∨ s.1.1 = 16) := fun qq => (ha.2.2.2.2 qq) h9
            rw [if_pos (by omega), if_neg h10]) (by rw [hN4]; omega) (by rw [hN4]; omega) (by rw [hN4]; omega) (by rw [hN4]; split <;> omega)
      have h11 : (((e - (if 0 < e then 1 else 0) + exB s.1.1 : Nat) : Int) + ((c - (if 0 < e then 0 else 1) + cdB s.1.1 : Nat) : Int)) = (d : Int) + ((exB s.1.1 + cdB s.1.1 : Nat) : Int) := by
        by_cases a1 : 0 < e
        · simp only [if_pos a1]; omega
        · simp only [if_neg a1]; omega
      rw [h11] at e5
      exact ⟨h5, zY_le (by exact ⟨rfl, rfl, rfl, rfl, rfl, trivial⟩) e5, P5, Fr_t F2 (Fr_t (Fr_m F3 rfl) (Fr_t (Fr_m F4 rfl) F5))⟩
    · rw [if_neg z1]
      -- the error's number
      have e1 : fmE s.1.1 e (s.2.2.1.2.2.2 (31 * q).toNat) = 1 → ∃ h2, (zBack zY 224 76 79 [some (zR (some 177)), some (zI q), some (zI what), some (zI (31 * q)), some (zI d), some (zI (ndv h s.1.1)), none, none] [] (zC 223 [zR (some 177), zI 1] h) : zO) = some (.inl none, h2) ∧ PM h2 I len (errP (fmE s.1.1 e (s.2.2.1.2.2.2 (31 * q).toNat)) s) ∧ Fr scrPs h h2 := fun hE => by
        obtain ⟨h2, e2, K2, f2, P2, F2⟩ := er 1 (by decide)
        rw [hE, e2, q_M_readsForm_r79 K2, stop h2 _ _ K2 f2]
        exact ⟨h2, rfl, P2, F2⟩
      rw [q_M_readsForm_r41 K]
      unfold fmE at z1 e1 ⊢
      by_cases x4 : 0 < e ∧ s.1.1 = -4
      · rw [if_pos x4] at z1 e1 ⊢
        have hk : hI h 177 37 = 2 ∧ 4 ≤ hI h 177 40 := by omega
        have hy : ndv h s.1.1 = hI h 177 40 := by unfold ndv; rw [if_pos x4.2]
        obtain ⟨h2, e2, K2, f2, P2, F2⟩ := er 2 (by decide)
        rw [hy, if_neg (by omega), gd_t (by omega), Int.toNat_natCast, if_neg (by rw [D1.1 x4.1]; decide), if_neg (fun qq => qq.1 hk.1), q_M_readsForm_82 K, if_pos hk.1, if_neg (by omega), e2, q_M_readsForm_r103 K2, stop h2 _ _ K2 f2]
        exact ⟨h2, rfl, P2, F2⟩
      rw [if_neg x4] at z1 e1 ⊢
      by_cases x9 : (0 < e ∧ 0 ≤ s.1.1 ∧ s.1.1 ≤ 9) ∨ (e = 0 ∧ 10 ≤ s.1.1 ∧ s.1.1 ≤ 16)
      · rw [if_pos x9] at z1 e1 ⊢
        have h30 : s.2.2.1.2.2.2 (31 * q).toNat = 30 := by
          by_cases qq : s.2.2.1.2.2.2 (31 * q).toNat = 30
          · exact qq
          · rw [if_neg qq] at z1; exact absurd rfl z1
        rw [if_pos h30]
        have hy : ndv h s.1.1 = s.1.1 := by unfold ndv; rw [if_neg (by omega), if_pos (by omega)]
        obtain ⟨h2, e2, K2, f2, P2, F2⟩ := er 4 (by decide)
        have v2 : (zY 224 106 [some (zR (some 177)), some (zI q), some (zI what), some (zI (31 * q)), some (zI d), some (zI s.1.1), none, none] [] h : zO) = some (.inl none, h2) := by
          rw [q_M_readsForm_106 K, gd_t (by omega), hN, if_pos h30, e2, q_M_readsForm_r122 K2, stop h2 _ _ K2 f2]
        have v3 : (zY 224 82 [some (zR (some 177)), some (zI q), some (zI what), some (zI (31 * q)), some (zI d), some (zI s.1.1), none, none] [] h : zO) = some (.inl none, h2) := by
          rw [q_M_readsForm_82 K]
          by_cases k2 : hI h 177 37 = 2
          · rw [if_pos k2, if_pos (by omega), v2]
          · rw [if_neg k2, v2]
        rw [hy, if_neg (by omega), gd_t (by omega), Int.toNat_natCast]
        rcases x9 with ⟨a1, a2, a3⟩ | ⟨a1, a2, a3⟩
        · rw [if_neg (by rw [D1.1 a1]; decide), if_neg (fun qq => by have := qq.2; omega), v3]
          exact ⟨h2, rfl, P2, F2⟩
        · have hc : b_M_isCondition h s.1.1 := ⟨fun qq => by omega, a2⟩
          rw [if_pos (D1.2 a1), if_pos (by rw [if_pos hc]), v3]
          exact ⟨h2, rfl, P2, F2⟩
      rw [if_neg x9] at z1 e1 ⊢
      by_cases hy : ndv h s.1.1 = -1
      · rw [if_pos hy]
        exact e1 rfl
      rw [if_neg hy, gd_t (by omega), Int.toNat_natCast]
      have hc : b_M_isCondition h (ndv h s.1.1) ↔ (10 ≤ s.1.1 ∧ s.1.1 ≤ 16) := by
        unfold ndv at hy ⊢
        by_cases m4 : s.1.1 = -4
        · rw [if_pos m4] at hy ⊢
          exact ⟨fun qq => absurd (show hI h 177 37 = 2 by omega) qq.1, fun qq => by omega⟩
        · rw [if_neg m4] at hy ⊢
          by_cases m16 : 0 ≤ s.1.1 ∧ s.1.1 ≤ 16
          · rw [if_pos m16] at hy ⊢
            exact ⟨fun qq => ⟨qq.2, m16.2⟩, fun qq => ⟨fun rr => by omega, qq.1⟩⟩
          · rw [if_neg m16] at hy
            exact absurd rfl hy
      by_cases he : 0 < e
      · rw [if_neg (by rw [D1.1 he]; decide)]
        have hcc : b_M_isCondition h (ndv h s.1.1) := by
          rw [hc]
          unfold ndv at hy
          by_cases m4 : s.1.1 = -4
          · exact absurd ⟨he, m4⟩ x4
          · rw [if_neg m4] at hy
            by_cases m16 : 0 ≤ s.1.1 ∧ s.1.1 ≤ 16
            · omega
            · rw [if_neg m16] at hy; exact absurd rfl hy
        rw [if_pos hcc]
        exact e1 rfl
      · rw [if_pos (D1.2 (by omega)), if_neg]
        · exact e1 rfl
        · intro qq
          have hcc : b_M_isCondition h (ndv h s.1.1) := by
            by_cases rr : b_M_isCondition h (ndv h s.1.1)
            · exact rr
            · rw [if_neg rr] at qq; exact absurd qq (by decide)
          have := hc.1 hcc
          omega
theorem c_readsForm {h : zH} {s : PSt} {q what : Int} (P : PM h I len s) (hf : s.2.1.1 = 0) (hq : 0 ≤ q) (hq2 : q < 74) (hw : what = 0 ∨ what = 1) : ∃ h2, zC 224 [zR (some 177), zI q, zI what] h = some (.inl none, h2) ∧ PM h2 I len (forP I len q what s) ∧ Fr scrPs h h2 := by
  have K := PM_K P
  have hN := PM_N P
  rw [q_M_readsForm K, gd_t (by omega), gd_t (by omega)]
  have F : Fr [(179, none), (196, none)] h (sI (sI h 179 (31 * q).toNat 0) 196 0 what) := Fr_I (Fr_I (Fr_r _ _) rfl) rfl
  have P2 : PM (sI (sI h 179 (31 * q).toNat 0) 196 0 what) I len (zerP (31 * q).toNat s) := by
    obtain ⟨t, ⟨f, fa⟩, ⟨n, top, R, N⟩, row, sec, last⟩ := s
    obtain ⟨_, T, pf, pa, ⟨p1, p2, p3, p4⟩, p5, p6, p7⟩ := id P
    refine ⟨KM_f K F rfl, TKM_f T F rfl, (fI F 177 41 rfl).trans pf, fun q => (fI F 177 42 rfl).trans (pa q), ⟨(fI F 177 10 rfl).trans p1, (fI F 177 12 rfl).trans p2, (rI F 183 rfl).trans p3, ?_⟩, (fI F 177 44 rfl).trans p5, (fI F 177 45 rfl).trans p6, (fI F 177 46 rfl).trans p7⟩
    show hI (sI h 179 (31 * q).toNat 0) 179 = _
    rw [hI_up, p4]
  have hz : (zerP (31 * q).toNat s).2.2.1.2.2.2 (31 * q).toNat = 0 := by
    obtain ⟨t, ⟨f, fa⟩, ⟨n, top, R, N⟩, row, sec, last⟩ := s
    exact upN_s _ _ _
  have hzf : (zerP (31 * q).toNat s).2.1.1 = 0 := by
    obtain ⟨t, ⟨f, fa⟩, ⟨n, top, R, N⟩, row, sec, last⟩ := s
    exact hf
  have hd : hI (sI (sI h 179 (31 * q).toNat 0) 196 0 what) 196 0 = what := rfl
  obtain ⟨h2, e2, P3, F2⟩ := l_readsForm (what := what) hq hq2 32 (if what = 0 then 1 else 0) (if what = 0 then 0 else 1) _ _ P2 hzf (by
    constructor
    · intro i hi
      by_cases c : what = 0
      · rw [if_pos c] at hi; omega
      · rw [if_neg c] at hi
        obtain rfl : i = 0 := by omega
        rw [hd]; omega
    · intro i hi hi2
      by_cases c : what = 0
      · rw [if_pos c, if_pos c] at hi2
        obtain rfl : i = 0 := by omega
        rw [hd, c]
      · rw [if_neg c] at hi
        rw [if_neg c, if_neg c] at hi2
        omega) (by rw [hz]; rfl) (by rw [hz]; decide) (by rw [hz]; decide) (by rw [hz]; split <;> decide)
  have e3 : (((if what = 0 then 1 else 0 : Nat) : Int) + ((if what = 0 then 0 else 1 : Nat) : Int)) = 1 := by split <;> rfl
  rw [e3] at e2
  exact ⟨h2, e2, P3, Fr_t (Fr_m F rfl) F2⟩
end PARSE
