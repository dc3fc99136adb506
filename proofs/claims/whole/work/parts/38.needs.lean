/-! The reference: sets, and the needs ahead of the statements. -/
def sv (R : Nat → Int) (s k : Int) : Int := R ((10 * s) + k).toNat
theorem f_M_s_e (h : zH) (s k : Int) : f_M_s h s k = sv (hI h 183) s k := rfl
def up (R : Nat → Int) : Nat → Int → Int
  | 0, s => s
  | k + 1, s => if up R k s = -1 then -1 else sv R (up R k s) 3
/-- rows of statements that hang together as a text's do -/
def WS (n : Int) (R : Nat → Int) : Prop := (0 ≤ n ∧ n ≤ 24) ∧ (∀ s, 0 ≤ s → s < n → (0 ≤ sv R s 0 ∧ sv R s 0 ≤ 3) ∧ (sv R s 0 = 0 → 0 ≤ sv R s 1 ∧ sv R s 1 ≤ 2) ∧ (sv R s 3 = -1 ∨ 0 ≤ sv R s 3 ∧ sv R s 3 < s ∧ (sv R (sv R s 3) 0 = 1 ∨ sv R (sv R s 3) 0 = 2)) ∧ (sv R s 4 = -1 ∨ s < sv R s 4 ∧ sv R s 4 < n ∧ sv R (sv R s 4) 3 = sv R s 3) ∧ (sv R s 5 = -1 ∨ s < sv R s 5 ∧ sv R s 5 < n ∧ sv R (sv R s 5) 3 = s ∧ (sv R s 0 = 1 ∨ sv R s 0 = 2)) ∧ (sv R s 6 = -1 ∨ s < sv R s 6 ∧ sv R s 6 < n ∧ sv R (sv R s 6) 3 = s ∧ sv R s 0 = 1)) ∧ (∀ s k, 0 ≤ s → s < n → ¬ up R k s = -1 → sv R (up R k s) 4 = -1 ∨ s < sv R (up R k s) 4)
/-- the formulas, the fillings and the prices of the statements -/
def WN (n : Int) (R N : Nat → Int) : Prop := fmOk N 0 true ∧ fmOk N 1 true ∧ ∀ s, 0 ≤ s → s < n → (sv R s 0 = 0 → fmOk N (2 + s) false) ∧ (sv R s 0 = 1 → fmOk N (2 + s) true) ∧ (sv R s 0 = 2 → fmOk N (2 + s) true ∧ fmOk N (26 + s) true ∧ fmOk N (50 + s) false) ∧ (sv R s 0 = 3 → -1 ≤ N (2294 + s).toNat ∧ N (2294 + s).toNat ≤ 38) ∧ (0 ≤ N (2318 + s).toNat ∧ N (2318 + s).toNat ≤ 99)
/-- where a run goes on behind a statement -/
def isTH (n : Int) (R : Nat → Int) (th : Int → Int) : Prop := ∀ s, 0 ≤ s → s < n → th s = if sv R s 4 = -1 then (if sv R s 3 = -1 then -1 else if sv R (sv R s 3) 0 = 2 then sv R s 3 else th (sv R s 3)) else sv R s 4
def MB (n top : Int) (R N : Nat → Int) (h : zH) : Prop := KM h ∧ hI h 177 10 = n ∧ hI h 177 12 = top ∧ hI h 183 = R ∧ hI h 179 = N
def okMB (A : FA) : Bool := okM A && rowA A 183 && rowA A 179 && !inA A 177 10 && !inA A 177 12
theorem MB_f {n top : Int} {R N : Nat → Int} {A : FA} {h h2 : zH} (M : MB n top R N h) (F : Fr A h h2) (e : okMB A = true) : MB n top R N h2 := by
  simp only [okMB, Bool.and_eq_true, Bool.not_eq_true'] at e
  obtain ⟨⟨⟨⟨e1, e2⟩, e3⟩, e4⟩, e5⟩ := e
  obtain ⟨m1, m2, m3, m4, m5⟩ := M
  exact ⟨KM_f m1 F e1, (fI F 177 10 e4).trans m2, (fI F 177 12 e5).trans m3, (rI F 183 e2).trans m4, (rI F 179 e3).trans m5⟩
/-- the state behind a set or a hole -/
def bhS (R N : Nat → Int) (s st : Int) : Int := if sv R s 0 = 0 then f_M_changed st (sv R s 1) (val (lst N (2 + s)) st) else if N (2294 + s).toNat = -1 then st else f_M_changed st (N (2294 + s).toNat / 13) (flv (N (2294 + s).toNat) st)
theorem bhS_r {n : Int} {R N : Nat → Int} (w : WS n R) (v : WN n R N) {s st : Int} (h0 : 0 ≤ s) (h1 : s < n) (hk : sv R s 0 = 0 ∨ sv R s 0 = 3) (h2 : 0 ≤ st) (h3 : st < 64) : 0 ≤ bhS R N s st ∧ bhS R N s st < 64 := by
  have w1 := w.2.1 s h0 h1
  have v1 := v.2.2 s h0 h1
  unfold bhS
  by_cases c : sv R s 0 = 0
  · have hv := val_ok (v1.1 c).2.2 h2 h3
    have hr := w1.2.1 c
    rw [if_pos c]
    exact (changed_r h2 h3 hr.1 (by omega) hv.2.1 hv.2.2.1).1
  · have hf := v1.2.2.2.1 (by omega)
    rw [if_neg c]
    by_cases c2 : N (2294 + s).toNat = -1
    · rw [if_pos c2]; exact ⟨h2, h3⟩
    · have hl := flv_r (f := N (2294 + s).toNat) (by omega) h2 h3
      rw [if_neg c2]
      exact (changed_r h2 h3 (by omega) (by omega) hl.1 hl.2).1
def ahd (N : Nat → Int) (ND : Int → BitVec 64) (t : Int) : BitVec 64 := if t = -1 then setL (lst N 1) else ND t
def rwN (ND : Int → BitVec 64) (f : Int) (b : BitVec 64) : BitVec 64 := if f = -1 then b else ND f
def ndS (R N : Nat → Int) (th : Int → Int) (ND : Int → BitVec 64) (s : Int) : BitVec 64 := if sv R s 0 = 2 then setL (lst N (26 + s)) else if sv R s 0 = 1 then (setL (lst N (2 + s)) &&& rwN ND (sv R s 5) (ahd N ND (th s))) ||| ((~~~ setL (lst N (2 + s))) &&& rwN ND (sv R s 6) (ahd N ND (th s))) else bset fun st => bt (ahd N ND (th s)) (bhS R N s st)
/-- a row of needs, each as section 3 finds it -/
def isND (n : Int) (R N : Nat → Int) (th : Int → Int) (ND : Int → BitVec 64) : Prop := ∀ s, 0 ≤ s → s < n → ND s = ndS R N th ND s
theorem l_setOf {q : Int} {N : Nat → Int} (hq : 0 ≤ q) (hq2 : q < 74) (hf : fmOk N q true) : ∀ (m k : Nat) (h : zH), KM h → hI h 179 = N → k + m = 64 → ∃ h2, zY 248 5 [some (zR (some 177)), some (zI q), some (zJ (bor (fun s => decide (val (lst N q) s = 1)) k)), none, some (zI k)] [] h = some (.inl (some (zJ (setL (lst N q)))), h2) ∧ Fr scrE h h2
  | 0, k, h, K, hN, hk => by
    obtain rfl : k = 64 := by omega
    rw [q_M_setOf_5 K, if_neg (by omega)]
    exact ⟨h, rfl, Fr_r _ _⟩
  | m + 1, k, h, K, hN, hk => by
    rw [q_M_setOf_5 K, if_pos (by omega)]
    obtain ⟨h2, e2, F2⟩ := c_valueOf K hq hq2 (st := k) (by omega) (by omega) (hN ▸ hf)
    have K2 := KM_f K F2 rfl
    have hN2 : hI h2 179 = N := (rI F2 179 rfl).trans hN
    rw [hN] at e2
    have hv := val_ok hf.2.2 (st := k) (by omega) (by omega)
    rw [e2, q_M_setOf_r20 K2, gd_t (by omega)]
    have hb : (bor (fun s => decide (val (lst N q) s = 1)) k ||| zlshl (zi2l (val (lst N q) k)) k) = bor (fun s => decide (val (lst N q) s = 1)) (k + 1) := by
      rw [zi2l_1 hv.2.1 (hv.2.2.2 rfl), zlshl_0 (by omega) (by omega), bor]
      simp only [decide_eq_true_eq]
    rw [hb, show ((k : Int) + 1) = ((k + 1 : Nat) : Int) by omega]
    obtain ⟨h3, e3, F3⟩ := l_setOf hq hq2 hf m (k + 1) h2 K2 hN2 (by omega)
    exact ⟨h3, e3, Fr_t F2 F3⟩
theorem c_setOf {h : zH} (K : KM h) {q : Int} {N : Nat → Int} (hN : hI h 179 = N) (hq : 0 ≤ q) (hq2 : q < 74) (hf : fmOk N q true) : ∃ h2, zC 248 [zR (some 177), zI q] h = some (.inl (some (zJ (setL (lst N q)))), h2) ∧ Fr scrE h h2 := by
  rw [q_M_setOf K]
  exact l_setOf hq hq2 hf 64 0 h K hN rfl
theorem c_isBefore {h : zH} (K : KM h) {st : Int} {N : Nat → Int} (hN : hI h 179 = N) (h0 : 0 ≤ st) (h1 : st < 64) (hf : fmOk N 0 true) : ∃ h2, zC 302 [zR (some 177), zI st] h = some (.inl (some (zI (if bt (setL (lst N 0)) st = true then 1 else 0))), h2) ∧ Fr scrE h h2 := by
  obtain ⟨h2, e2, F2⟩ := c_valueOf K (q := 0) (by omega) (by omega) h0 h1 (hN ▸ hf)
  rw [q_M_isBefore K, e2, q_M_isBefore_r6 (KM_f K F2 rfl), hN]
  refine ⟨h2, ?_, F2⟩
  rw [bt_setL _ h0 h1]
  by_cases c : val (lst N 0) st = 1
  · rw [if_pos c, if_pos (decide_eq_true c)]
  · rw [if_neg c, if_neg (by simp [c])]
theorem c_behindIt {h : zH} {n top : Int} {R N : Nat → Int} (M : MB n top R N h) (w : WS n R) (v : WN n R N) {s st : Int} (h0 : 0 ≤ s) (h1 : s < n) (hk : sv R s 0 = 0 ∨ sv R s 0 = 3) (h2 : 0 ≤ st) (h3 : st < 64) : ∃ h2, zC 256 [zR (some 177), zI s, zI st] h = some (.inl (some (zI (bhS R N s st))), h2) ∧ Fr scrE h h2 := by
  obtain ⟨K, m1, m2, m3, m4⟩ := M
  have w0 := w.1
  have w1 := w.2.1 s h0 h1
  have v1 := v.2.2 s h0 h1
  have e1 : f_M_s h s 0 = sv R s 0 := by rw [f_M_s_e, m3]
  have e2 : f_M_s h s 1 = sv R s 1 := by rw [f_M_s_e, m3]
  have e3 : f_M_filling h s = N (2294 + s).toNat := by unfold f_M_filling; rw [m4]
  unfold bhS
  by_cases c : sv R s 0 = 0
  · have hv := val_ok (v1.1 c).2.2 h2 h3
    have hr := w1.2.1 c
    have hc := changed_r h2 h3 hr.1 (by omega) hv.2.1 hv.2.2.1
    obtain ⟨h4, e4, F4⟩ := c_valueOf K (q := 2 + s) (by omega) (by omega) h2 h3 (m4 ▸ v1.1 c)
    rw [m4] at e4
    rw [q_M_behindIt K, if_pos (by omega), gd_t (by omega), e4, e2, q_M_behindIt_r24 (KM_f K F4 rfl), if_pos c]
    exact ⟨h4, rfl, F4⟩
  · have hf := v1.2.2.2.1 (by omega)
    rw [if_neg c]
    by_cases c2 : N (2294 + s).toNat = -1
    · rw [q_M_behindIt K, if_neg (by omega), if_pos (by omega), if_pos c2]
      exact ⟨h, rfl, Fr_r _ _⟩
    · have hl := flv_r (f := N (2294 + s).toNat) (by omega) h2 h3
      have e5 : f_M_fillVariable h s = N (2294 + s).toNat / 13 := by unfold f_M_fillVariable; rw [e3]
      rw [← e3] at hl
      rw [q_M_behindIt K, if_neg (by omega), if_neg (by omega), if_neg c2, e3, e5]
      exact ⟨h, rfl, Fr_r _ _⟩

