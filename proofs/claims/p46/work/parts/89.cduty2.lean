/-! The class: needs and duties, made anew; all three tables. -/
section CDUTY
variable {n top : Int} {R N : Nat → Int} {T : Int → Int → Int} {ND : Int → BitVec 64} {h : zH} {p v : Nat}
theorem endOf_e {s st : Int} (t : RT h n T 0) (w : WS n R) (h0 : 0 ≤ s) (h1 : s < n) (h2 : 0 ≤ st) (h3 : st < 64) : f_R_endOf h s st = T s st := by
  have w0 := w.1
  unfold f_R_endOf
  rw [if_neg (by omega), if_neg (by omega), if_pos (by omega)]
  exact (t s st h0 h1 h2 h3).1
/-- the states from which a statement ends in a set -/
def enS (T : Int → Int → Int) (s : Int) (b : BitVec 64) : BitVec 64 := bset fun st => decide (T s st ≠ -1) && bt b (T s st)
theorem l_endingIn (K : KC h) (w : WS n R) (t : RT h n T 0) {s : Int} {b : BitVec 64} (h0 : 0 ≤ s) (h1 : s < n) : ∀ (m k : Nat) (y : Option zV), k + m = 64 → zY 6 6 [some (zR (some 132)), some (zI s), some (zJ b), none, some (zJ (bor (fun st => decide (T s st ≠ -1) && bt b (T s st)) k)), none, some (zI k), y] [] h = some (.inl (some (zJ (enS T s b))), h)
  | m, k, y, hm => by
    refine zY_le (L := [some (zR (some 132)), some (zI s), some (zJ b), none, some (zJ (bor (fun st => decide (T s st ≠ -1) && bt b (T s st)) k)), none, some (zI k), none]) (by exact ⟨rfl, rfl, rfl, rfl, rfl, trivial⟩) ?_
    have w0 := w.1
    cases m with
    | zero =>
      obtain rfl : k = 64 := by omega
      rw [q_D_endingIn_6 K, if_neg (by decide)]
      rfl
    | succ m =>
      have e : ((k : Int) + 1) = ((k + 1 : Nat) : Int) := by omega
      have et := endOf_e t w h0 h1 (st := k) (by omega) (by omega)
      have tr := (t s k h0 h1 (by omega) (by omega)).2
      have ih := fun y => l_endingIn K w t (b := b) h0 h1 m (k + 1) y (by omega)
      rw [q_D_endingIn_6 K, if_pos (by omega), et]
      simp only [bor] at ih
      by_cases c : T s k = -1
      · rw [if_pos c, gd_t (by omega), e]
        have ih := ih (some (zI (T s k)))
        rw [if_neg (by simp [c]), BitVec.or_zero] at ih
        exact ih
      · rw [if_neg c]
        by_cases d : bt b (T s k) = true
        · rw [if_pos ((has_e b (by omega) tr.2).2 d), gd_t (by omega), e]
          have ih := ih (some (zI (T s k)))
          rw [if_pos (by simp [c, d])] at ih
          exact ih
        · rw [if_neg (fun q => d ((has_e b (by omega) tr.2).1 q)), gd_t (by omega), e]
          have ih := ih (some (zI (T s k)))
          rw [if_neg (by simp [d]), BitVec.or_zero] at ih
          exact ih
theorem c_endingIn (K : KC h) (w : WS n R) (t : RT h n T 0) {s : Int} {b : BitVec 64} (h0 : 0 ≤ s) (h1 : s < n) : zC 6 [zR (some 132), zI s, zJ b] h = some (.inl (some (zJ (enS T s b))), h) := by
  rw [q_D_endingIn K]
  exact l_endingIn K w t h0 h1 64 0 none rfl
theorem put_n (K : KC h) {s : Int} {x : BitVec 64} (h0 : 0 ≤ s) (h1 : s < 24) : zC 3 [zR (some 132), zI s, zJ x] h = some (.inl none, sJ h 133 s.toNat x) := by
  rw [q_D_putNeed K, if_neg (by omega), if_pos (by omega)]
theorem hJ_up (h : zH) (a i : Nat) (x : BitVec 64) (j : Nat) : hJ (sJ h a i x) a j = if j = i then x else hJ h a j := by
  rw [hJ_sJ, zup]
  by_cases c : j = i
  · rw [if_pos ⟨rfl, c⟩, if_pos c]
  · rw [if_neg (fun e => c e.2), if_neg c]
/-- the class's program stands with its sets and ends -/
def CR (h : zH) (p v : Nat) (n : Int) (R N : Nat → Int) (T : Int → Int → Int) : Prop := CE h p v n R N ∧ RT h n T 0 ∧ hR h 132 2 = some p
theorem CR_f {A : FA} {h2 : zH} (S : CR h p v n R N T) (F : Fr A h h2) (e : (okCB A && rowA A 91 && rowA A 92 && rowA A 93 && rowA A 94 && rowA A 95 && rowA A 96 && rowA A 97 && !inA A 90 0 && !inA A 90 1 && !inA A 128 1 && !inA A 128 2 && rowA A 129 && !inA A 132 2) = true) : CR h2 p v n R N T := by
  simp only [Bool.and_eq_true, Bool.not_eq_true'] at e
  obtain ⟨⟨⟨⟨⟨⟨⟨⟨⟨⟨⟨⟨⟨e0, e1⟩, e2⟩, e3⟩, e4⟩, e5⟩, e6⟩, e7⟩, e8⟩, e9⟩, e10⟩, e11⟩, e12⟩, e13⟩ := e
  exact ⟨CE_f S.1 F (by simp only [e0, e1, e2, e3, e4, e5, e6, e7, e8, e9, e10, e11, Bool.and_self, Bool.not_false]), fun a b c d f g => by rw [rI F 129 e12]; exact S.2.1 a b c d f g, (fR F 132 2 e13).trans S.2.2⟩
theorem keepOf_e (P : Prg n top R N) (S : SC h n R N) {s : Int} (h0 : 0 ≤ s) (h1 : s < n) (k : sv R s 0 = 2) : f_S_keepOf h (sv R s 7) = setL (lst N (26 + s)) := by
  have hr := num_r P h0 h1 (Or.inl k)
  unfold f_S_keepOf
  rw [if_neg (by omega), if_pos hr.2]
  exact (S.2.2.2 s h0 h1 k).1
theorem condOf_e (P : Prg n top R N) (S : SC h n R N) {s : Int} (h0 : 0 ≤ s) (h1 : s < n) (k : sv R s 0 = 1 ∨ sv R s 0 = 2) : f_S_conditionOf h s = setL (lst N (2 + s)) := by
  have w0 := P.1.1
  have v1 := P.2.1.2.2 s h0 h1
  have hf : fmOk N (2 + s) true := by
    rcases k with k | k
    · exact v1.2.1 k
    · exact (v1.2.2.1 k).1
  unfold f_S_conditionOf
  rw [if_neg (by omega), if_pos (by omega), (S.2.2.1 s h0 h1).2.2.1]
  unfold cfL
  rw [if_neg (by omega), low_set hf.2.2]
theorem lessOf_e (P : Prg n top R N) (S : SC h n R N) {s st : Int} (h0 : 0 ≤ s) (h1 : s < n) (k : sv R s 0 = 2) (h2 : 0 ≤ st) (h3 : st < 64) : f_S_lessOf h (sv R s 7) st = val (lst N (50 + s)) st := by
  have hr := num_r P h0 h1 (Or.inl k)
  have hf := ((P.2.1.2.2 s h0 h1).2.2.1 k).2.2
  have S1 := S.2.2.2 s h0 h1 k
  unfold f_S_lessOf
  rw [if_neg (by omega), if_pos hr.2, S1.2.1, S1.2.2]
  exact num_val h2 h3 (lOk_v (lst_ok hf) h2 h3)
theorem ahead_e (S : SC h n R N) {t : Int} (ht : t = -1 ∨ 0 ≤ t ∧ t < 24 ∧ hJ h 133 t.toNat = ND t) : f_D_ahead h t = ahd N ND t := by
  unfold f_D_ahead ahd
  rcases ht with rfl | ⟨a, b, c⟩
  · rw [if_pos (by decide), if_pos rfl]; exact S.2.1
  · rw [if_neg (by omega), if_pos b, if_neg (by omega)]; exact c
theorem l_need1 (P : Prg n top R N) : ∀ (m : Nat) (l : Int) (h : zH), CR h p v n R N T → 0 ≤ l → l + m = cntK R 2 n.toNat → (∀ t, 0 ≤ t → t < n → sv R t 0 = 2 → sv R t 7 < l → hJ h 133 t.toNat = setL (lst N (26 + t))) → ∃ h2, zY 2 2 [some (zR (some 132)), some (zI l), none, none] [] h = zY 2 49 [some (zR (some 132)), some (zI (n - 1)), none, none] [] h2 ∧ (∀ t, 0 ≤ t → t < n → sv R t 0 = 2 → hJ h2 133 t.toNat = setL (lst N (26 + t))) ∧ Fr [(133, none)] h h2
  | 0, l, h, C, h0, hm, H => by
    obtain ⟨⟨B, S, r1, r2⟩, t, r3⟩ := id C
    have w0 := P.1.1
    rw [q_D_lookAtNeeds_2 B.1 r3 B.2.2.1.1, PO_l B.2.2.1, PO_n B.2.2.1, if_neg (by omega), gd_t (by omega)]
    refine ⟨h, rfl, fun t a b k => H t a b k ?_, Fr_r _ _⟩
    have h1 := (P.2.2.1 t a b).1 (Or.inl k)
    have h2 := cntK_m R 2 (t.toNat + 1) (n.toNat - (t.toNat + 1))
    rw [show t.toNat + 1 + (n.toNat - (t.toNat + 1)) = n.toNat by omega, cntK_s, show ((t.toNat : Nat) : Int) = t by omega, if_pos k] at h2
    rw [k] at h1
    omega
  | m + 1, l, h, C, h0, hm, H => by
    obtain ⟨⟨B, S, r1, r2⟩, t, r3⟩ := id C
    have w0 := P.1.1
    obtain ⟨⟨l0, l1⟩, lk, ln⟩ := lpAt_ok P.2.2.1 w0.1 (Or.inl rfl) h0 (show l < cntK R 2 n.toNat by omega)
    have ek := keepOf_e P S l0 l1 lk
    rw [ln] at ek
    have F1 : ∀ x, Fr [(133, none)] h (sJ h 133 (lpAt n R 2 l).toNat x) := fun x => Fr_J (Fr_r _ _) rfl
    have cb := cntK_b R 2 n.toNat
    rw [q_D_lookAtNeeds_2 B.1 r3 B.2.2.1.1, PO_l B.2.2.1, if_pos (by omega), PO_loopAt B.2.2.1 P.2.2.1, ek, put_n B.1 l0 (by omega), q_D_lookAtNeeds_r33 (KC_f B.1 (F1 _) rfl), gd_t (by omega)]
    obtain ⟨h3, e3, H3, F3⟩ := l_need1 P m (l + 1) _ (CR_f C (F1 (setL (lst N (26 + lpAt n R 2 l)))) rfl) (by omega) (by omega) (fun t a b k q => by
      rw [hJ_up]
      by_cases c : t.toNat = (lpAt n R 2 l).toNat
      · rw [if_pos c, show t = lpAt n R 2 l by omega]
      · rw [if_neg c]
        refine H t a b k ?_
        by_cases d : sv R t 7 = l
        · exact absurd (num_inj P a b l0 l1 (Or.inl k) (by rw [k, lk]) (by rw [d, ln])) (fun e => c (by rw [e]))
        · omega)
    exact ⟨h3, e3, H3, Fr_t (F1 _) F3⟩
theorem l_need2 (P : Prg n top R N) (hE : isET n R N T) (hN : isND n R N (thn R) ND) : ∀ (m : Nat) (h : zH) (y : Option zV), CR h p v n R N T → (m : Int) ≤ n → (∀ t, 0 ≤ t → t < n → (m : Int) ≤ t ∨ sv R t 0 = 2 → hJ h 133 t.toNat = ND t) → ∃ h2, zY 2 49 [some (zR (some 132)), some (zI ((m : Int) - 1)), y, none] [] h = some (.inl none, h2) ∧ (∀ t, 0 ≤ t → t < n → hJ h2 133 t.toNat = ND t) ∧ Fr [(133, none)] h h2
  | m, h, y, C, hm, H => by
    suffices hs : ∃ h2, zY 2 49 [some (zR (some 132)), some (zI ((m : Int) - 1)), none, none] [] h = some (.inl none, h2) ∧ (∀ t, 0 ≤ t → t < n → hJ h2 133 t.toNat = ND t) ∧ Fr [(133, none)] h h2 by
      obtain ⟨h2, e2, q⟩ := hs
      exact ⟨h2, zY_le (by exact ⟨rfl, rfl, trivial⟩) e2, q⟩
    obtain ⟨⟨B, S, r1, r2⟩, t, r3⟩ := id C
    have w0 := P.1.1
    cases m with
    | zero =>
      rw [q_D_lookAtNeeds_49 B.1 r3 B.2.2.1.1, if_pos (by omega)]
      exact ⟨h, rfl, fun t a b => H t a b (Or.inl (by omega)), Fr_r _ _⟩
    | succ m =>
      have e0 : ((m + 1 : Nat) : Int) - 1 = (m : Int) := by omega
      have e1 : (m : Int) + (-1) = (m : Int) - 1 := by omega
      have h0 : (0 : Int) ≤ m := by omega
      have h1 : (m : Int) < n := by omega
      have hNs := hN m h0 h1
      have w1 := P.1.2.1 m h0 h1
      have thr := thn_r P.1 h0 h1
      have hah : ∀ x : Int, (x = -1 ∨ (m < x ∧ x < n) ∨ (0 ≤ x ∧ x < n ∧ sv R x 0 = 2)) → f_D_ahead h x = ahd N ND x := fun x hx => ahead_e S (by
        rcases hx with hx | hx | hx
        · exact Or.inl hx
        · exact Or.inr ⟨by omega, by omega, H x (by omega) hx.2 (Or.inl (by omega))⟩
        · exact Or.inr ⟨hx.1, by omega, H x hx.1 hx.2.1 (Or.inr hx.2.2)⟩)
      have nx : ∀ x (y : Option zV), x = ND m → ∃ h2, zY 2 49 [some (zR (some 132)), some (zI ((m : Int) - 1)), y, none] [] (sJ h 133 (m : Int).toNat x) = some (.inl none, h2) ∧ (∀ t, 0 ≤ t → t < n → hJ h2 133 t.toNat = ND t) ∧ Fr [(133, none)] h h2 := fun x y hx => by
        have F1 : Fr [(133, none)] h (sJ h 133 (m : Int).toNat x) := Fr_J (Fr_r _ _) rfl
        obtain ⟨h3, e3, H3, F3⟩ := l_need2 P hE hN m _ y (CR_f C F1 rfl) (by omega) (fun t a b k => by
          rw [hJ_up]
          by_cases c : t.toNat = (m : Int).toNat
          · rw [if_pos c, hx, show t = m by omega]
          · rw [if_neg c]; exact H t a b (by omega))
        exact ⟨h3, e3, H3, Fr_t F1 F3⟩
      have kc : ∀ x, KC (sJ h 133 (m : Int).toNat x) := fun x => KC_f B.1 (Fr_J (Fr_r [(133, none)] _) rfl) rfl
      rw [e0, q_D_lookAtNeeds_49 B.1 r3 B.2.2.1.1, if_neg (by omega), PO_kindOf B.2.2.1 h0 h1]
      rw [ndS] at hNs
      by_cases k1 : sv R m 0 = 1
      · have ec := condOf_e P S h0 h1 (Or.inl k1)
        have en1 : f_P_entry h p m 1 = _ := PO_entry B.2.2.1 P.1 h0 h1 true
        have en0 : f_P_entry h p m 0 = _ := PO_entry B.2.2.1 P.1 h0 h1 false
        rw [if_neg (by omega), if_pos rfl] at en1
        rw [if_neg (by omega)] at en0
        simp only [Bool.false_eq_true, if_false] at en0
        rw [if_pos k1, ec, en1, en0, put_n B.1 h0 (by omega), q_D_lookAtNeeds_r114 (kc _), gd_t (by omega), e1]
        rw [if_neg (by omega), if_pos k1] at hNs
        refine nx _ _ ?_
        rw [hNs, not_e]
        unfold rwN
        congr 2
        · by_cases c : sv R m 5 = -1
          · rw [if_pos c, if_pos c, hah _ thr]
          · rw [if_neg c, if_neg c, hah _ (by omega), ahd, if_neg c]
        · by_cases c : sv R m 6 = -1
          · rw [if_pos c, if_pos c, hah _ thr]
          · rw [if_neg c, if_neg c, hah _ (by omega), ahd, if_neg c]
      · rw [if_neg k1]
        by_cases k2 : sv R m 0 = 2
        · rw [if_pos k2, gd_t (by omega), e1]
          exact l_need2 P hE hN m h none C (by omega) (fun t a b k => H t a b (by
            by_cases c : t = m
            · rw [c]; exact Or.inr k2
            · omega))
        · have eb : f_D_behind h m p = ahd N ND (thn R m) := by
            unfold f_D_behind
            rw [PO_thenOf B.2.2.1 h0 h1, hah _ thr]
          rw [if_neg k2, eb, c_endingIn B.1 P.1 t h0 h1, q_D_lookAtNeeds_r141 B.1, put_n B.1 h0 (by omega), q_D_lookAtNeeds_r144 (kc _), gd_t (by omega), e1]
          rw [if_neg k2, if_neg k1] at hNs
          refine nx _ _ ?_
          rw [hNs]
          refine bset_congr fun st a b => ?_
          have hst := hE m st h0 h1 a b
          rw [etS, if_neg k2, if_neg k1] at hst
          have hr := bhS_r P.1 P.2.1 h0 h1 (by omega) a b
          rw [hst, decide_eq_true (by omega : bhS R N m st ≠ -1), Bool.true_and]
theorem c_lookAtNeeds (C : CR h p v n R N T) (P : Prg n top R N) (hE : isET n R N T) (hN : isND n R N (thn R) ND) : ∃ h2, zC 2 [zR (some 132)] h = some (.inl none, h2) ∧ (∀ t, 0 ≤ t → t < n → hJ h2 133 t.toNat = ND t) ∧ Fr [(133, none)] h h2 := by
  have w0 := P.1.1
  have cb := cntK_b R 2 n.toNat
  obtain ⟨g, eg, H, F⟩ := l_need1 P (cntK R 2 n.toNat).toNat 0 h C (by omega) (by omega) (fun t a b k q => by
    have := num_r P a b (Or.inl k)
    omega)
  obtain ⟨g2, e2, H2, F2⟩ := l_need2 P hE hN n.toNat g none (CR_f C F rfl) (by omega) (fun t a b k => by
    have k2 : sv R t 0 = 2 := by rcases k with k | k <;> omega
    rw [H t a b k2, hN t a b, ndS, if_pos k2])
  rw [q_D_lookAtNeeds C.1.1.1, eg]
  rw [show ((n.toNat : Nat) : Int) = n by omega] at e2
  exact ⟨g2, e2, H2, Fr_t F F2⟩
/-- the states from which a loop's row ends with a lesser LESS -/
def lgS (R N : Nat → Int) (T : Int → Int → Int) (s : Int) : BitVec 64 := bset fun st => lsS R N T s st
theorem l_lessening (P : Prg n top R N) (hE : isET n R N T) {s : Int} (h0 : 0 ≤ s) (h1 : s < n) (k2 : sv R s 0 = 2) (C : CR h p v n R N T) : ∀ (m k : Nat) (y : Option zV), k + m = 64 → zY 8 5 [some (zR (some 132)), some (zI (sv R s 7)), some (zI (sv R s 5)), some (zJ (bor (fun st => lsS R N T s st) k)), none, some (zI k), y] [] h = some (.inl (some (zJ (lgS R N T s))), h)
  | m, k, y, hm => by
    refine zY_le (L := [some (zR (some 132)), some (zI (sv R s 7)), some (zI (sv R s 5)), some (zJ (bor (fun st => lsS R N T s st) k)), none, some (zI k), none]) (by exact ⟨rfl, rfl, rfl, rfl, rfl, trivial⟩) ?_
    obtain ⟨⟨B, S, r1, r2⟩, t, r3⟩ := id C
    have w0 := P.1.1
    have w5 := (P.1.2.1 s h0 h1).2.2.2.2.1
    cases m with
    | zero =>
      obtain rfl : k = 64 := by omega
      rw [q_D_lessening_5 B.1, if_neg (by decide)]
      rfl
    | succ m =>
      have e : ((k : Int) + 1) = ((k + 1 : Nat) : Int) := by omega
      have ih := fun y => l_lessening P hE h0 h1 k2 C m (k + 1) y (by omega)
      have rr := rowE_r P.1 P.2.1 hE (s := sv R s 5) (st := k) (by omega) (by omega) (by omega)
      rw [q_D_lessening_5 B.1, if_pos (by omega), c_endOfRow B.1 r1 B.2.2.1 P.1 (lo := 0) (by omega) t (by omega) (by omega) (by omega), q_D_lessening_r22 B.1]
      simp only [bor] at ih
      by_cases c : rowE T R (sv R s 5) k = -1
      · rw [if_pos c, gd_t (by omega), e]
        have ih := ih (some (zI (rowE T R (sv R s 5) k)))
        rw [if_neg (by unfold lsS; simp [c]), BitVec.or_zero] at ih
        exact ih
      · rw [if_neg c, lessOf_e P S h0 h1 k2 (by omega) rr.2, lessOf_e P S h0 h1 k2 (by omega) (by omega)]
        by_cases d : val (lst N (50 + s)) (rowE T R (sv R s 5) k) < val (lst N (50 + s)) k
        · rw [if_pos d, gd_t (by omega), e]
          have ih := ih (some (zI (rowE T R (sv R s 5) k)))
          rw [if_pos (by unfold lsS; exact decide_eq_true ⟨c, d⟩)] at ih
          exact ih
        · rw [if_neg d, gd_t (by omega), e]
          have ih := ih (some (zI (rowE T R (sv R s 5) k)))
          rw [if_neg (by unfold lsS; simp [d]), BitVec.or_zero] at ih
          exact ih
theorem l_fill (ta : hT h 134 = 23) : ∀ (m : Nat) (x : Int) (h : zH), KC h → 0 ≤ x → x + m = 73 → (∀ d : Int, 0 ≤ d → d < x → hJ h 134 d.toNat = 0#64) → ∃ h2, zY 228 6 [some (zR (some 134)), some (zJ 0#64), none, some (zI x), some (zI 73)] [] h = some (.inl none, h2) ∧ (∀ d : Int, 0 ≤ d → d < 73 → hJ h2 134 d.toNat = 0#64) ∧ Fr [(134, none)] h h2
  | 0, x, h, K, hx, hm, H => by
    rw [q_Ar_fill_aJJ_6 (PTC K 134 23 rfl rfl) (PNC K 134 rfl), if_neg (by omega)]
    exact ⟨h, rfl, fun d a b => H d a (by omega), Fr_r _ _⟩
  | m + 1, x, h, K, hx, hm, H => by
    have F1 : Fr [(134, none)] h (sJ h 134 x.toNat 0#64) := Fr_J (Fr_r _ _) rfl
    rw [q_Ar_fill_aJJ_6 (PTC K 134 23 rfl rfl) (PNC K 134 rfl), if_pos (by omega), gd_t (by rw [PLC K 134 73 rfl rfl]; omega), gd_t (by omega)]
    obtain ⟨h3, e3, H3, F3⟩ := l_fill ta m (x + 1) _ (KC_f K F1 rfl) (by omega) (by omega) (fun d a b => by
      rw [hJ_up]
      by_cases c : d.toNat = x.toNat
      · rw [if_pos c]
      · rw [if_neg c]; exact H d a (by omega))
    exact ⟨h3, e3, H3, Fr_t F1 F3⟩
theorem c_fill134 (K : KC h) : ∃ h2, zC 228 [zR (some 134), zJ 0#64] h = some (.inl none, h2) ∧ (∀ d : Int, 0 ≤ d → d < 73 → hJ h2 134 d.toNat = 0#64) ∧ Fr [(134, none)] h h2 := by
  rw [q_Ar_fill_aJJ (PTC K 134 23 rfl rfl) (PNC K 134 rfl), PLC K 134 73 rfl rfl]
  exact l_fill (PTC K 134 23 rfl rfl) 73 0 h K (by omega) (by omega) (fun d a b => by omega)
/-- .. and its needs -/
def CN (h : zH) (p v : Nat) (n : Int) (R N : Nat → Int) (T : Int → Int → Int) (ND : Int → BitVec 64) : Prop := CR h p v n R N T ∧ ∀ t, 0 ≤ t → t < n → hJ h 133 t.toNat = ND t
theorem CN_134 {h2 : zH} (C : CN h p v n R N T ND) (F : Fr [(134, none)] h h2) : CN h2 p v n R N T ND := ⟨CR_f C.1 F rfl, fun t a b => by rw [rJ F 133 rfl]; exact C.2 t a b⟩
theorem c_D_lookAtLoop (P : Prg n top R N) (hE : isET n R N T) (hN : isND n R N (thn R) ND) {s : Int} (h0 : 0 ≤ s) (h1 : s < n) (k2 : sv R s 0 = 2) (C : CN h p v n R N T ND) : ∃ h2, zC 7 [zR (some 132), zI (sv R s 7), zI s] h = some (.inl none, h2) ∧ (∀ d : Int, 0 ≤ d → hJ h2 134 d.toNat = if d = 1 + 3 * sv R s 7 ∨ d = 1 + 3 * sv R s 7 + 1 ∨ d = 1 + 3 * sv R s 7 + 2 then flS n top R N T ND d else hJ h 134 d.toNat) ∧ Fr [(134, none)] h h2 := by
  obtain ⟨⟨⟨B, S, r1, r2⟩, t, r3⟩, H⟩ := id C
  have w0 := P.1.1
  have hr := num_r P h0 h1 (Or.inl k2)
  have w5 := (P.1.2.1 s h0 h1).2.2.2.2.1
  have thr := thn_r P.1 h0 h1
  have hcn := (P.2.2.1 s h0 h1).1 (Or.inl k2)
  rw [k2] at hcn
  have hcm := cntK_m R 2 (s.toNat + 1) (n.toNat - (s.toNat + 1))
  rw [show s.toNat + 1 + (n.toNat - (s.toNat + 1)) = n.toNat by omega, cntK_s, show ((s.toNat : Nat) : Int) = s by omega, if_pos k2] at hcm
  have hlp : lpAt n R 2 (sv R s 7) = s := by
    obtain ⟨⟨l0, l1⟩, lk, ln⟩ := lpAt_ok P.2.2.1 w0.1 (Or.inl rfl) hr.1 (show sv R s 7 < cntK R 2 n.toNat by omega)
    exact num_inj P l0 l1 h0 h1 (Or.inl lk) (by rw [lk, k2]) ln
  have ek := keepOf_e P S h0 h1 k2
  have ec := condOf_e P S h0 h1 (Or.inr k2)
  have en1 : f_P_entry h p s 1 = _ := PO_entry B.2.2.1 P.1 h0 h1 true
  rw [if_pos k2, if_pos rfl] at en1
  have hNs := hN s h0 h1
  rw [ndS, if_pos k2] at hNs
  have ea1 : f_D_ahead h (f_P_entry h p s 1) = rwN ND (sv R s 5) (setL (lst N (26 + s))) := by
    rw [en1]
    unfold rwN
    by_cases c : sv R s 5 = -1
    · rw [if_pos c, if_pos c, ahead_e S (Or.inr ⟨h0, by omega, H s h0 h1⟩), ahd, if_neg (by omega), hNs]
    · rw [if_neg c, if_neg c, ahead_e S (Or.inr ⟨by omega, by omega, H _ (by omega) (by omega)⟩), ahd, if_neg c]
  have F1 : ∀ x, Fr [(134, none)] h (sJ h 134 (1 + (3 * sv R s 7)).toNat x) := fun x => Fr_J (Fr_r _ _) rfl
  have eb : ∀ x, f_D_behind (sJ h 134 (1 + (3 * sv R s 7)).toNat x) s p = ahd N ND (thn R s) := fun x => by
    have C1 := CN_134 C (F1 x)
    unfold f_D_behind
    rw [PO_thenOf C1.1.1.1.2.2.1 h0 h1]
    refine ahead_e C1.1.1.2.1 ?_
    rcases thr with q | q | q
    · exact Or.inl q
    · exact Or.inr ⟨by omega, by omega, C1.2 _ (by omega) q.2⟩
    · exact Or.inr ⟨q.1, by omega, C1.2 _ q.1 q.2.1⟩
  have q := q_D_lookAtLoop (h := h) (x1 := sv R s 7) (x2 := s) (p := p) B.1 r3 B.2.2.1.1
  rw [gd_t (by omega), gd_t (by omega), if_neg (by omega), gd_t (by omega), if_pos (by omega), gd_t (by omega), gd_t (by omega), gd_t (by omega), ek, ec, ea1, eb, not_e, not_e, not_e] at q
  generalize hX1 : (setL (lst N (26 + s)) &&& setL (lst N (2 + s))) &&& ~~~ rwN ND (sv R s 5) (setL (lst N (26 + s))) = X1 at *
  generalize hX2 : (setL (lst N (26 + s)) &&& ~~~ setL (lst N (2 + s))) &&& ~~~ ahd N ND (thn R s) = X2 at *
  have F2 : Fr [(134, none)] h (sJ (sJ h 134 (1 + (3 * sv R s 7)).toNat X1) 134 ((1 + (3 * sv R s 7)) + 1).toNat X2) := Fr_J (Fr_J (Fr_r _ _) rfl) rfl
  have C2 := CN_134 C F2
  have a2 : ∀ j : Nat, hJ (sJ (sJ h 134 (1 + (3 * sv R s 7)).toNat X1) 134 ((1 + (3 * sv R s 7)) + 1).toNat X2) 134 j = if j = ((1 + (3 * sv R s 7)) + 1).toNat then X2 else if j = (1 + (3 * sv R s 7)).toNat then X1 else hJ h 134 j := fun j => by rw [hJ_up, hJ_up]
  generalize sJ (sJ h 134 (1 + (3 * sv R s 7)).toNat X1) 134 ((1 + (3 * sv R s 7)) + 1).toNat X2 = g at *
  have el := l_lessening P hE h0 h1 k2 C2.1 64 0 none rfl
  have K2 := C2.1.1.1.1
  rw [PO_firstOf C2.1.1.1.2.2.1 h0 h1, q_D_lessening K2] at q
  have el' : zY 8 5 [some (zR (some 132)), some (zI (sv R s 7)), some (zI (sv R s 5)), some (zJ 0#64), none, some (zI 0), none] [] g = some (.inl (some (zJ (lgS R N T s))), g) := el
  rw [el', q_D_lookAtLoop_r123 K2, gd_t (by omega), not_e] at q
  refine ⟨_, q, fun d hd => ?_, Fr_t F2 (Fr_J (Fr_r _ _) rfl)⟩
  rw [hJ_up, a2]
  by_cases c3 : d = 1 + 3 * sv R s 7 + 2
  · rw [if_pos (by omega), if_pos (by omega), flS, if_neg (by omega), if_neg (by omega), if_neg (by omega), show (d - 1) / 3 = sv R s 7 by omega, hlp]
    unfold unS lgS
    refine bt_ext fun st a b => ?_
    rw [bt_and, bt_not _ a b, bt_set _ a b, bt_set _ a b]
  · rw [if_neg (by omega)]
    by_cases c2 : d = 1 + 3 * sv R s 7 + 1
    · rw [if_pos (by omega), if_pos (by omega), flS, if_neg (by omega), if_neg (by omega), if_pos (by omega), show (d - 1) / 3 = sv R s 7 by omega, hlp, ← hX2]
    · rw [if_neg (by omega)]
      by_cases c1 : d = 1 + 3 * sv R s 7
      · rw [if_pos (by omega), if_pos (by omega), flS, if_neg (by omega), if_pos (by omega), show (d - 1) / 3 = sv R s 7 by omega, hlp, ← hX1]
      · rw [if_neg (by omega), if_neg (by omega)]
theorem l_D_look (P : Prg n top R N) (hE : isET n R N T) (hN : isND n R N (thn R) ND) : ∀ (m : Nat) (l : Int) (h : zH), CN h p v n R N T ND → 0 ≤ l → l + m = cntK R 2 n.toNat → (∀ d : Int, 0 ≤ d → d < 73 → hJ h 134 d.toNat = if d < 1 + 3 * l then flS n top R N T ND d else 0#64) → ∃ h2, zY 1 72 [some (zR (some 132)), some (zR (some p)), some (zR (some v)), some (zI l)] [] h = some (.inl none, h2) ∧ (∀ d : Int, 0 ≤ d → d < 73 → hJ h2 134 d.toNat = if d < dmS n R then flS n top R N T ND d else 0#64) ∧ Fr [(134, none)] h h2
  | 0, l, h, C, h0, hm, H => by
    obtain ⟨⟨⟨B, S, r1, r2⟩, t, r3⟩, _⟩ := id C
    rw [q_D_look_72 B.1 B.2.2.1.1 B.2.2.2.2.1 r3 B.2.2.1.1, PO_l B.2.2.1, if_neg (by omega)]
    refine ⟨h, rfl, fun d a b => ?_, Fr_r _ _⟩
    rw [H d a b, dmS, show l = cntK R 2 n.toNat by omega]
  | m + 1, l, h, C, h0, hm, H => by
    obtain ⟨⟨⟨B, S, r1, r2⟩, t, r3⟩, _⟩ := id C
    have w0 := P.1.1
    have cb := cntK_b R 2 n.toNat
    obtain ⟨⟨l0, l1⟩, lk, ln⟩ := lpAt_ok P.2.2.1 w0.1 (Or.inl rfl) h0 (show l < cntK R 2 n.toNat by omega)
    obtain ⟨g, eg, Hg, F⟩ := c_D_lookAtLoop P hE hN l0 l1 lk C
    rw [ln] at eg Hg
    have Cg := CN_134 C F
    rw [q_D_look_72 B.1 B.2.2.1.1 B.2.2.2.2.1 r3 B.2.2.1.1, PO_l B.2.2.1, if_pos (by omega), PO_loopAt B.2.2.1 P.2.2.1, eg, q_D_look_r96 Cg.1.1.1.1 Cg.1.1.1.2.2.1.1 Cg.1.1.1.2.2.2.2.1, gd_t (by omega)]
    obtain ⟨h3, e3, H3, F3⟩ := l_D_look P hE hN m (l + 1) g Cg (by omega) (by omega) (fun d a b => by
      rw [Hg d a]
      by_cases c : d = 1 + 3 * l ∨ d = 1 + 3 * l + 1 ∨ d = 1 + 3 * l + 2
      · rw [if_pos c, if_pos (by omega)]
      · rw [if_neg c, H d a b]
        by_cases e : d < 1 + 3 * l
        · rw [if_pos e, if_pos (by omega)]
        · rw [if_neg e, if_neg (by omega)])
    exact ⟨h3, e3, H3, Fr_t F F3⟩
abbrev scrL : FA := [(96, none), (97, none), (94, none), (95, none), (91, none), (92, none), (93, none), (99, none), (100, none), (90, some 13), (90, some 0), (90, some 1), (90, some 14), (90, some 15), (129, none), (130, none), (128, some 1), (128, some 2), (132, some 2), (133, none), (134, none)]
/-- the class's three tables stand -/
def CA (h : zH) (p v : Nat) (n top : Int) (R N : Nat → Int) : Prop := CN h p v n R N (TT n R N) (NN n R N) ∧ ∀ d : Int, 0 ≤ d → d < 73 → hJ h 134 d.toNat = if d < dmS n R then flC n top R N d else 0#64
theorem c_D_look (B : CB h p v n R N) (P : Prg n top R N) : ∃ h2, zC 1 [zR (some 132), zR (some p), zR (some v)] h = some (.inl none, h2) ∧ CA h2 p v n top R N ∧ Fr scrL h h2 := by
  have w0 := P.1.1
  have hE := isET_t P.1 P.2.1
  have hN := isND_t (n := n) (N := N) P.1
  have F0 : Fr [(132, some 2)] h (sR h 132 2 (some p)) := Fr_R (Fr_r _ _) rfl
  have B0 := CB_f B F0 rfl
  have q0 : hR (sR h 132 2 (some p)) 132 2 = some p := rfl
  rw [q_D_look (p2 := p) B.1 B.2.2.1.1 B.2.2.2.2.1 rfl B0.2.2.1.1]
  generalize sR h 132 2 (some p) = g0 at *
  obtain ⟨g1, e1, S1, r14, r15, F1⟩ := c_S_look B0 P
  have B1 := CB_f B0 F1 rfl
  have q1 := (fR F1 132 2 rfl).trans q0
  obtain ⟨g2, e2, C2, t2, F2⟩ := c_R_look B1 S1 P hE
  have B2 := C2.1
  have q2 := (fR F2 132 2 rfl).trans q1
  have R2 : CR g2 p v n R N (TT n R N) := ⟨C2, t2, q2⟩
  obtain ⟨g3, e3, H3, F3⟩ := c_lookAtNeeds R2 P hE hN
  have R3 := CR_f R2 F3 rfl
  have B3 := R3.1.1
  obtain ⟨g4, e4, H4, F4⟩ := c_fill134 B3.1
  have C4 : CN g4 p v n R N (TT n R N) (NN n R N) := CN_134 ⟨R3, H3⟩ F4
  obtain ⟨⟨⟨B4, S4, _, _⟩, _, q4⟩, N4⟩ := id C4
  rw [e1, q_D_look_r17 (p2 := p) B1.1 B1.2.2.1.1 B1.2.2.2.2.1 q1 B1.2.2.1.1, e2, q_D_look_r29 B2.1 B2.2.2.1.1 B2.2.2.2.2.1, e3, q_D_look_r33 B3.1 B3.2.2.1.1 B3.2.2.2.2.1, e4, q_D_look_r41 (p2 := p) B4.1 B4.2.2.1.1 B4.2.2.2.2.1 q4 B4.2.2.1.1, PO_start B4.2.2.1 P.2.2.2, S4.1, not_e]
  have ea : f_D_ahead g4 top = ahd N (NN n R N) top := ahead_e S4 (by
    rcases P.2.2.2 with ⟨a, b⟩ | ⟨a, b⟩
    · exact Or.inl b
    · exact Or.inr ⟨by omega, by omega, N4 top (by omega) (by omega)⟩)
  rw [ea]
  have F5 : ∀ x, Fr [(134, none)] g4 (sJ g4 134 0 x) := fun x => Fr_J (Fr_r _ _) rfl
  have cb := cntK_b R 2 n.toNat
  obtain ⟨g6, e6, H6, F6⟩ := l_D_look P hE hN (cntK R 2 n.toNat).toNat 0 _ (CN_134 C4 (F5 (setL (lst N 0) &&& ~~~ ahd N (NN n R N) top))) (by omega) (by omega) (fun d a b => by
    rw [hJ_up]
    by_cases c : d = 0
    · rw [if_pos (by omega), if_pos (by omega), c, flS, if_pos rfl]
    · rw [if_neg (by omega), if_neg (by omega)]; exact H4 d a b)
  exact ⟨g6, e6, ⟨CN_134 (CN_134 C4 (F5 _)) F6, H6⟩, Fr_t (Fr_m F0 rfl) (Fr_t (Fr_m F1 rfl) (Fr_t (Fr_m F2 rfl) (Fr_t (Fr_m F3 rfl) (Fr_t (Fr_m F4 rfl) (Fr_t (Fr_m (F5 _) rfl) (Fr_m F6 rfl))))))⟩
end CDUTY

