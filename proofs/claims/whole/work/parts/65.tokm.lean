/-! The reference: tokens. -/
section TOKM
variable {I : Nat → Int} {len : Int}
/-- what the reference knows of a token -/
def TKM (h : zH) (I : Nat → Int) (len : Int) (t : TK) : Prop := hI h 185 = I ∧ hI h 177 36 = len ∧ (0 ≤ len ∧ len ≤ 800) ∧ hI h 177 38 = t.2.1 ∧ (0 ≤ t.2.1 ∧ t.2.1 ≤ t.2.2 ∧ t.2.2 ≤ len) ∧ ((t.1 = -2 ∧ hI h 177 37 = 0) ∨ (t.1 = -3 ∧ hI h 177 37 = 4) ∨ (t.1 = -4 ∧ hI h 177 37 = 2 ∧ 4 ≤ hI h 177 40 ∧ hI h 177 39 = t.2.2) ∨ (0 ≤ t.1 ∧ t.1 ≤ 3 ∧ hI h 177 37 = 2 ∧ hI h 177 40 = t.1 ∧ hI h 177 39 = t.2.2) ∨ (t.1 = wcode I t.2.1 t.2.2 ∧ hI h 177 37 = 1 ∧ hI h 177 39 = t.2.2))
abbrev scrT : FA := [(177, some 37), (177, some 38), (177, some 39), (177, some 40)]
theorem TKM_f {A : FA} {h h2 : zH} {t : TK} (T : TKM h I len t) (F : Fr A h h2) (e : (rowA A 185 && !inA A 177 36 && !inA A 177 37 && !inA A 177 38 && !inA A 177 39 && !inA A 177 40) = true) : TKM h2 I len t := by
  simp only [Bool.and_eq_true, Bool.not_eq_true'] at e
  obtain ⟨⟨⟨⟨⟨e1, e2⟩, e3⟩, e4⟩, e5⟩, e6⟩ := e
  unfold TKM
  rw [rI F 185 e1, fI F 177 36 e2, fI F 177 37 e3, fI F 177 38 e4, fI F 177 39 e5, fI F 177 40 e6]
  exact T
theorem l_adv_blanks {x : Int} (hl : len ≤ 800) : ∀ (m : Nat) (h : zH), KM h → hI h 185 = I → hI h 177 36 = len → 0 ≤ hI h 177 38 → hI h 177 38 ≤ len → len - hI h 177 38 ≤ m → ∃ h2, zY 218 30 [some (zR (some 177)), some (zI x), none] [] h = zY 218 82 [some (zR (some 177)), some (zI x), none] [] h2 ∧ hI h2 177 38 = skp blB I len m (hI h 177 38) ∧ Fr [(177, some 38)] h h2
  | 0, h, K, hI1, hL, h0, h1, hm => by
    rw [q_M_advances_30 K, if_neg (by omega)]
    exact ⟨h, rfl, rfl, Fr_r _ _⟩
  | m + 1, h, K, hI1, hL, h0, h1, hm => by
    rw [q_M_advances_30 K, hL, hI1]
    by_cases c : hI h 177 38 < len
    · rw [if_pos c, gd_t (by omega), skp, chr_in h0 c]
      have F : Fr [(177, some 38)] h (sI h 177 38 (hI h 177 38 + 1)) := Fr_I (Fr_r _ _) rfl
      have e1 : hI (sI h 177 38 (hI h 177 38 + 1)) 177 38 = hI h 177 38 + 1 := rfl
      have K2 := KM_f K F rfl
      have go : gd (-2147483648 ≤ hI h 177 38 + 1 ∧ hI h 177 38 + 1 < 2147483648) (zY 218 30 [some (zR (some 177)), some (zI x), none] [] (sI h 177 38 (hI h 177 38 + 1))) = zY 218 30 [some (zR (some 177)), some (zI x), none] [] (sI h 177 38 (hI h 177 38 + 1)) := gd_t (by omega) _
      by_cases b : blB (I (hI h 177 38).toNat) = true
      · rw [if_pos b]
        obtain ⟨h2, e2, s2, F2⟩ := l_adv_blanks (x := x) hl m _ K2 ((rI F 185 rfl).trans hI1) ((fI F 177 36 rfl).trans hL) (by rw [e1]; omega) (by rw [e1]; omega) (by rw [e1]; omega)
        rw [e1] at s2
        refine ⟨h2, ?_, s2, Fr_t F F2⟩
        simp only [blB, Bool.or_eq_true, decide_eq_true_eq] at b
        by_cases b1 : I (hI h 177 38).toNat = 32
        · rw [if_pos b1, go, e2]
        · rw [if_neg b1, if_pos (b.resolve_left b1), go, e2]
      · rw [if_neg b]
        simp only [blB, Bool.or_eq_true, decide_eq_true_eq, not_or] at b
        rw [if_neg b.1, if_neg b.2]
        exact ⟨h, rfl, rfl, Fr_r _ _⟩
    · rw [if_neg c, skp_step (by decide) h0 hm, chr_out (by omega), if_neg (by decide)]
      exact ⟨h, rfl, rfl, Fr_r _ _⟩
theorem l_adv_letters {x y : Int} (hl : len ≤ 800) : ∀ (m : Nat) (h : zH), KM h → hI h 185 = I → hI h 177 36 = len → 0 ≤ hI h 177 39 → hI h 177 39 ≤ len → len - hI h 177 39 ≤ m → ∃ h2, zY 218 145 [some (zR (some 177)), some (zI x), some (zI y)] [] h = some (.inl none, h2) ∧ hI h2 177 39 = skp leB I len m (hI h 177 39) ∧ hI h2 177 37 = (if y = 0 then 1 else 4) ∧ Fr [(177, some 37), (177, some 39)] h h2
  | 0, h, K, hI1, hL, h0, h1, hm => by
    rw [q_M_advances_145 K, if_neg (by omega)]
    by_cases c : y = 0
    · rw [if_pos c, if_pos c]; exact ⟨_, rfl, rfl, rfl, Fr_I (Fr_r _ _) rfl⟩
    · rw [if_neg c, if_neg c]; exact ⟨_, rfl, rfl, rfl, Fr_I (Fr_r _ _) rfl⟩
  | m + 1, h, K, hI1, hL, h0, h1, hm => by
    have fin : ∃ h2, (if y = 0 then some (.inl none, sI h 177 37 1) else some (.inl none, sI h 177 37 4) : zO) = some (.inl none, h2) ∧ hI h2 177 39 = hI h 177 39 ∧ hI h2 177 37 = (if y = 0 then 1 else 4) ∧ Fr [(177, some 37), (177, some 39)] h h2 := by
      by_cases c : y = 0
      · rw [if_pos c, if_pos c]; exact ⟨_, rfl, rfl, rfl, Fr_I (Fr_r _ _) rfl⟩
      · rw [if_neg c, if_neg c]; exact ⟨_, rfl, rfl, rfl, Fr_I (Fr_r _ _) rfl⟩
    rw [q_M_advances_145 K, hL, hI1]
    by_cases c : hI h 177 39 < len
    · rw [if_pos c, gd_t (by omega), skp, chr_in h0 c]
      have F : Fr [(177, some 37), (177, some 39)] h (sI h 177 39 (hI h 177 39 + 1)) := Fr_I (Fr_r _ _) rfl
      have e1 : hI (sI h 177 39 (hI h 177 39 + 1)) 177 39 = hI h 177 39 + 1 := rfl
      have K2 := KM_f K F rfl
      by_cases b : leB (I (hI h 177 39).toNat) = true
      · rw [if_pos ((isLetter_e _).2 b), if_pos b, gd_t (by omega)]
        obtain ⟨h2, e2, s2, k2, F2⟩ := l_adv_letters (x := x) (y := y) hl m _ K2 ((rI F 185 rfl).trans hI1) ((fI F 177 36 rfl).trans hL) (by rw [e1]; omega) (by rw [e1]; omega) (by rw [e1]; omega)
        rw [e1] at s2
        exact ⟨h2, e2, s2, k2, Fr_t F F2⟩
      · rw [if_neg (fun q => b ((isLetter_e _).1 q)), if_neg b]
        exact fin
    · rw [if_neg c, skp_step (by decide) h0 hm, chr_out (by omega), if_neg (show ¬ leB (-1) = true by decide)]
      exact fin
theorem l_adv_digits {x y s : Int} (hl : len ≤ 800) (hs : 0 ≤ s) : ∀ (m : Nat) (p : Int) (h : zH), KM h → hI h 185 = I → hI h 177 36 = len → hI h 177 38 = s → hI h 177 39 = p → s ≤ p → p ≤ len → len - p ≤ m → (∀ q, s ≤ q → q < p → diB (chr I len q) = true) → hI h 177 40 = numv I s (if p - s < 3 then (p - s).toNat else 3) → ∃ h2, zY 218 220 [some (zR (some 177)), some (zI x), some (zI y)] [] h = some (.inl none, h2) ∧ hI h2 177 39 = skp diB I len m p ∧ hI h2 177 37 = (if y = 0 then (if 3 < skp diB I len m p - s then 4 else 2) else 4) ∧ hI h2 177 40 = numv I s (if skp diB I len m p - s < 3 then (skp diB I len m p - s).toNat else 3) ∧ Fr [(177, some 37), (177, some 39), (177, some 40)] h h2
  | m, p, h, K, hI1, hL, hS, hP, h0, h1, hm, hd, hv => by
    have hnb : ∀ m : Nat, m ≤ 3 → (m : Int) ≤ p - s → 0 ≤ numv I s m ∧ numv I s m ≤ 10 ^ m := fun m => by
      induction m with
      | zero => intro _ _; exact ⟨Int.le_refl _, (show (0 : Int) ≤ 10 ^ 0 by decide)⟩
      | succ m ih =>
        intro hm3 hm
        have h3 := hd (s + m) (by omega) (by omega)
        rw [chr_in (by omega) (by omega)] at h3
        simp only [diB, decide_eq_true_eq] at h3
        have h4 := ih (by omega) (by omega)
        have h5 : (10 : Int) ^ (m + 1) = 10 * 10 ^ m := by rw [Int.pow_succ]; omega
        show 0 ≤ 10 * numv I s m + I (s + m).toNat - 48 ∧ 10 * numv I s m + I (s + m).toNat - 48 ≤ 10 ^ (m + 1)
        rw [h5]
        have h6 : numv I s m + 1 ≤ 10 ^ m := by
          have hb : ∀ m : Nat, (∀ q, s ≤ q → q < s + m → diB (chr I len q) = true) → s + m ≤ len → numv I s m + 1 ≤ 10 ^ m := fun m => by
            induction m with
            | zero => intro _ _; exact Int.le_refl _
            | succ m ih2 =>
              intro hq hle
              have h3 := hq (s + m) (by omega) (by omega)
              rw [chr_in (by omega) (by omega)] at h3
              simp only [diB, decide_eq_true_eq] at h3
              have h4 := ih2 (fun q a b => hq q a (by omega)) (by omega)
              have h5 : (10 : Int) ^ (m + 1) = 10 * 10 ^ m := by rw [Int.pow_succ]; omega
              rw [h5]
              show 10 * numv I s m + I (s + m).toNat - 48 + 1 ≤ _
              omega
          exact hb m (fun q a b => hd q a (by omega)) (by omega)
        omega
    have fin : ∃ h2, (if y = 0 then gd (-2147483648 ≤ hI h 177 39 - hI h 177 38 ∧ hI h 177 39 - hI h 177 38 < 2147483648) (if 3 < hI h 177 39 - hI h 177 38 then some (.inl none, sI h 177 37 4) else some (.inl none, sI h 177 37 2)) else some (.inl none, sI h 177 37 4) : zO) = some (.inl none, h2) ∧ hI h2 177 39 = p ∧ hI h2 177 37 = (if y = 0 then (if 3 < p - s then 4 else 2) else 4) ∧ hI h2 177 40 = numv I s (if p - s < 3 then (p - s).toNat else 3) ∧ Fr [(177, some 37), (177, some 39), (177, some 40)] h h2 := by
      rw [hS, hP, gd_t (by omega)]
      by_cases c : y = 0
      · rw [if_pos c, if_pos c]
        by_cases d : 3 < p - s
        · rw [if_pos d, if_pos d]; exact ⟨_, rfl, hP, rfl, hv, Fr_I (Fr_r _ _) rfl⟩
        · rw [if_neg d, if_neg d]; exact ⟨_, rfl, hP, rfl, hv, Fr_I (Fr_r _ _) rfl⟩
      · rw [if_neg c, if_neg c]; exact ⟨_, rfl, hP, rfl, hv, Fr_I (Fr_r _ _) rfl⟩
    rw [skp_step (by decide) (by omega) hm]
    rw [q_M_advances_220 K, hL, hI1]
    cases m with
    | zero =>
      rw [if_neg (by omega), chr_out (by omega), if_neg (show ¬ diB (-1) = true by decide)]
      exact fin
    | succ m =>
      by_cases c : p < len
      · rw [if_pos (by omega), gd_t (by omega), chr_in (by omega) c]
        by_cases b : diB (I p.toNat) = true
        · rw [if_pos b, if_pos ((isDigit_e _).2 (by rw [hP]; exact b))]
          have b2 : 48 ≤ I p.toNat ∧ I p.toNat ≤ 57 := by simpa only [diB, decide_eq_true_eq] using b
          have hd2 : ∀ q, s ≤ q → q < p + 1 → diB (chr I len q) = true := fun q a a2 => by
            by_cases e : q = p
            · rw [e, chr_in (by omega) c]; exact b
            · exact hd q a (by omega)
          have hsk : skp diB I len (m + 1) (p + 1) = skp diB I len m (p + 1) := skp_fix (by decide) _ _ _ (by omega) (by omega) (by omega)
          rw [hsk, gd_t (by omega)]
          by_cases d : hI h 177 39 - hI h 177 38 < 3
          · have hv2 : hI h 177 40 = numv I s (p - s).toNat := by rw [hv, if_pos (by omega)]
            have hb := hnb (p - s).toNat (by omega) (by omega)
            have hb2 : numv I s (p - s).toNat ≤ 1000 := by
              have h3 : (p - s).toNat = 0 ∨ (p - s).toNat = 1 ∨ (p - s).toNat = 2 := by omega
              rcases h3 with h3 | h3 | h3 <;> rw [h3] at hb ⊢ <;> omega
            rw [hP] at *
            rw [if_pos d, gd_t (by omega), gd_t (by omega), gd_t (by omega), gd_t (by omega)]
            have F : Fr [(177, some 37), (177, some 39), (177, some 40)] h (sI (sI h 177 40 (10 * hI h 177 40 + I p.toNat - 48)) 177 39 (p + 1)) := Fr_I (Fr_I (Fr_r _ _) rfl) rfl
            obtain ⟨h2, e2, s2, k2, v2, F2⟩ := l_adv_digits (x := x) (y := y) hl hs m (p + 1) _ (KM_f K F rfl) ((rI F 185 rfl).trans hI1) ((fI F 177 36 rfl).trans hL) ((fI F 177 38 rfl).trans hS) rfl (by omega) (by omega) (by omega) hd2 (by
              show 10 * hI h 177 40 + I p.toNat - 48 = _
              rw [hv2]
              have e3 : (if p + 1 - s < 3 then (p + 1 - s).toNat else 3) = (p - s).toNat + 1 := by
                split <;> omega
              rw [e3]
              show _ = 10 * numv I s (p - s).toNat + I (s + ((p - s).toNat : Nat)).toNat - 48
              rw [show (s + (((p - s).toNat : Nat) : Int)).toNat = p.toNat by omega])
            exact ⟨h2, e2, s2, k2, v2, Fr_t F F2⟩
          · rw [if_neg d, gd_t (by omega), hP]
            have F : Fr [(177, some 37), (177, some 39), (177, some 40)] h (sI h 177 39 (p + 1)) := Fr_I (Fr_r _ _) rfl
            obtain ⟨h2, e2, s2, k2, v2, F2⟩ := l_adv_digits (x := x) (y := y) hl hs m (p + 1) _ (KM_f K F rfl) ((rI F 185 rfl).trans hI1) ((fI F 177 36 rfl).trans hL) ((fI F 177 38 rfl).trans hS) rfl (by omega) (by omega) (by omega) hd2 (by
              show hI h 177 40 = _
              rw [hv, if_neg (by omega), if_neg (by omega)])
            exact ⟨h2, e2, s2, k2, v2, Fr_t F F2⟩
        · rw [if_neg b, if_neg (fun q => b (by rw [← hP]; exact (isDigit_e _).1 q))]
          exact fin
      · rw [if_neg (by omega), chr_out (by omega), if_neg (show ¬ diB (-1) = true by decide)]
        exact fin
theorem numv_0 {s : Int} : ∀ {m : Nat}, (∀ q, s ≤ q → q < s + m → 48 ≤ I q.toNat) → 0 ≤ numv I s m
  | 0, _ => Int.le_refl _
  | m + 1, h => by
    have h1 := h (s + m) (by omega) (by omega)
    have h2 := numv_0 (m := m) (fun q a b => h q a (by omega))
    show 0 ≤ 10 * numv I s m + I (s + m).toNat - 48
    omega
theorem c_advances {h : zH} {e : Int} {b : Bool} (K : KM h) (hI1 : hI h 185 = I) (hL : hI h 177 36 = len) (hl0 : 0 ≤ len) (hl : len ≤ 800) (hE : hI h 177 39 = e) (h0 : 0 ≤ e) (h1 : e ≤ len) (hk : (hI h 177 37 = 1 ∨ hI h 177 37 = 2) ↔ b = true) : ∃ h2, zC 218 [zR (some 177)] h = some (.inl none, h2) ∧ TKM h2 I len (tok I len b e) ∧ Fr scrT h h2 := by
  have F1 : Fr scrT h (sI h 177 38 e) := Fr_I (Fr_r _ _) rfl
  have K1 := KM_f K F1 rfl
  have ent : zC 218 [zR (some 177)] h = zY 218 30 [some (zR (some 177)), some (zI (if b = true then 1 else 0)), none] [] (sI h 177 38 e) := by
    rw [q_M_advances K, hE]
    by_cases c1 : hI h 177 37 = 1
    · rw [if_pos c1, if_pos (hk.1 (Or.inl c1))]
    · rw [if_neg c1]
      by_cases c2 : hI h 177 37 = 2
      · rw [if_pos c2, if_pos (hk.1 (Or.inr c2))]
      · rw [if_neg c2, if_neg (fun q => (hk.2 q).elim c1 c2)]
  obtain ⟨h2, e2, s2, F2⟩ := l_adv_blanks (I := I) (x := if b = true then 1 else 0) hl 800 _ K1 ((rI F1 185 rfl).trans hI1) ((fI F1 177 36 rfl).trans hL) (show 0 ≤ e from h0) (show e ≤ len from h1) (show len - e ≤ ((800 : Nat) : Int) by omega)
  have e2 := ent.trans e2
  have K2 := KM_f K1 F2 rfl
  have s2 : hI h2 177 38 = skp blB I len 800 e := s2
  have i2 : hI h2 185 = I := (rI F2 185 rfl).trans ((rI F1 185 rfl).trans hI1)
  have l2 : hI h2 177 36 = len := (fI F2 177 36 rfl).trans ((fI F1 177 36 rfl).trans hL)
  have t2 : hI h2 177 39 = e := (fI F2 177 39 rfl).trans (show hI h 177 39 = e from hE)
  have F02 : Fr scrT h h2 := Fr_t F1 (Fr_m F2 rfl)
  have hs0 := skp_ge (I := I) (len := len) blB 800 e
  have hs1 := skp_le (I := I) (P := blB) (by decide) 800 e h0 h1
  rw [e2]
  unfold tok
  generalize skp blB I len 800 e = s at *
  have glu : zY 218 82 [some (zR (some 177)), some (zI (if b = true then 1 else 0)), none] [] h2 = zY 218 103 [some (zR (some 177)), some (zI (if b = true then 1 else 0)), some (zI (if (b && decide (s = e)) = true then 1 else 0))] [] h2 := by
    rw [q_M_advances_82 K2, s2, t2]
    cases b with
    | false => rw [if_pos (show (if false = true then (1 : Int) else 0) = 0 from rfl), Bool.false_and]; rfl
    | true =>
      rw [if_neg (show ¬ (if true = true then (1 : Int) else 0) = 0 by decide), Bool.true_and]
      by_cases c : s = e
      · rw [if_pos c, if_pos (decide_eq_true c)]
      · rw [if_neg c, if_neg (show ¬ decide (s = e) = true by simp [c])]
  rw [glu]
  generalize (if b = true then (1 : Int) else 0) = x
  generalize (b && decide (s = e)) = g
  have hl0' := skp_ge (I := I) (len := len) leB 800 s
  have hl1' := skp_le (I := I) (P := leB) (by decide) 800 s (by omega) hs1
  have hd0' := skp_ge (I := I) (len := len) diB 800 s
  have hd1' := skp_le (I := I) (P := diB) (by decide) 800 s (by omega) hs1
  have tk : ∀ {h3 : zH} {t : TK}, Fr [(177, some 37), (177, some 39), (177, some 40)] h2 h3 → t.2.1 = s → s ≤ t.2.2 → t.2.2 ≤ len → ((t.1 = -2 ∧ hI h3 177 37 = 0) ∨ (t.1 = -3 ∧ hI h3 177 37 = 4) ∨ (t.1 = -4 ∧ hI h3 177 37 = 2 ∧ 4 ≤ hI h3 177 40 ∧ hI h3 177 39 = t.2.2) ∨ (0 ≤ t.1 ∧ t.1 ≤ 3 ∧ hI h3 177 37 = 2 ∧ hI h3 177 40 = t.1 ∧ hI h3 177 39 = t.2.2) ∨ (t.1 = wcode I t.2.1 t.2.2 ∧ hI h3 177 37 = 1 ∧ hI h3 177 39 = t.2.2)) → TKM h3 I len t ∧ Fr scrT h h3 := fun F3 a1 a2 a3 a4 => ⟨⟨(rI F3 185 rfl).trans i2, (fI F3 177 36 rfl).trans l2, ⟨hl0, hl⟩, ((fI F3 177 38 rfl).trans s2).trans a1.symm, ⟨by omega, by omega, a3⟩, a4⟩, Fr_t F02 (Fr_m F3 rfl)⟩
  rw [q_M_advances_103 K2, s2, l2, i2]
  unfold tkw
  by_cases c1 : len ≤ s
  · rw [if_pos (by omega), if_pos c1]
    exact ⟨_, rfl, tk (Fr_I (Fr_I (Fr_r _ _) rfl) rfl) rfl (Int.le_refl _) hs1 (Or.inl ⟨rfl, rfl⟩)⟩
  rw [if_neg (by omega), if_neg c1, gd_t (by omega), chr_in (by omega) (by omega)]
  have Fs : Fr [(177, some 37), (177, some 39), (177, some 40)] h2 (sI h2 177 39 s) := Fr_I (Fr_r _ _) rfl
  have Fz : Fr [(177, some 37), (177, some 39), (177, some 40)] h2 (sI (sI h2 177 39 s) 177 40 0) := Fr_I Fs rfl
  have Ks := KM_f K2 Fs rfl
  have Kz := KM_f K2 Fz rfl
  by_cases c3 : leB (I s.toNat) = true
  · rw [if_pos ((isLetter_e _).2 c3), if_pos c3]
    obtain ⟨h3, e3, s3, k3, F3⟩ := l_adv_letters (I := I) (x := x) (y := if g = true then 1 else 0) hl 800 _ Ks ((rI Fs 185 rfl).trans i2) ((fI Fs 177 36 rfl).trans l2) (show 0 ≤ s by omega) (show s ≤ len by omega) (show len - s ≤ ((800 : Nat) : Int) by omega)
    have F03 := Fr_t Fs (Fr_m F3 rfl)
    by_cases c2 : g = true
    · rw [if_pos c2] at e3 k3 ⊢
      rw [if_pos c2]
      exact ⟨h3, e3, tk F03 rfl (Int.le_refl _) hs1 (Or.inr (Or.inl ⟨rfl, k3⟩))⟩
    · rw [if_neg c2] at e3 k3 ⊢
      rw [if_neg c2]
      exact ⟨h3, e3, tk F03 rfl hl0' hl1' (Or.inr (Or.inr (Or.inr (Or.inr ⟨rfl, k3, s3⟩))))⟩
  rw [if_neg (fun q => c3 ((isLetter_e _).1 q)), if_neg c3]
  by_cases c4 : diB (I s.toNat) = true
  · rw [if_pos ((isDigit_e _).2 c4), if_pos c4]
    obtain ⟨h3, e3, s3, k3, v3, F3⟩ := l_adv_digits (I := I) (x := x) (y := if g = true then 1 else 0) hl (show 0 ≤ s by omega) 800 s _ Kz ((rI Fz 185 rfl).trans i2) ((fI Fz 177 36 rfl).trans l2) ((fI Fz 177 38 rfl).trans s2) rfl (Int.le_refl _) hs1 (by omega) (fun q a b => by omega) (by
      show (0 : Int) = numv I s (if s - s < 3 then (s - s).toNat else 3)
      rw [show s - s = 0 by omega, if_pos (by decide)]
      rfl)
    have F03 := Fr_t Fz F3
    by_cases c2 : g = true
    · rw [if_pos c2] at e3 k3 ⊢
      rw [if_pos c2]
      exact ⟨h3, e3, tk F03 rfl (Int.le_refl _) hs1 (Or.inr (Or.inl ⟨rfl, k3⟩))⟩
    · rw [if_neg c2] at e3 k3 ⊢
      rw [if_neg c2]
      refine ⟨h3, e3, tk F03 rfl hd0' hd1' ?_⟩
      rw [if_pos rfl] at k3
      unfold ncode
      simp only
      have hdi : ∀ p, s ≤ p → p < skp diB I len 800 s → 48 ≤ I p.toNat := fun p a b => by
        have h6 := skp_in (I := I) (len := len) (P := diB) 800 s p a b
        rw [chr_in (by omega) (by omega)] at h6
        simp only [diB, decide_eq_true_eq] at h6
        exact h6.1
      generalize skp diB I len 800 s = q at *
      by_cases d : 3 < q - s
      · rw [if_pos d] at k3 ⊢
        exact Or.inr (Or.inl ⟨rfl, k3⟩)
      · rw [if_neg d] at k3 ⊢
        have hq : (if q - s < 3 then (q - s).toNat else 3) = (q - s).toNat := by split <;> omega
        rw [hq] at v3
        have hnn : 0 ≤ numv I s (q - s).toNat := numv_0 (fun p a b => hdi p a (by omega))
        by_cases d2 : 3 < numv I s (q - s).toNat
        · rw [if_pos d2]
          exact Or.inr (Or.inr (Or.inl ⟨rfl, k3, by omega, s3⟩))
        · rw [if_neg d2]
          exact Or.inr (Or.inr (Or.inr (Or.inl ⟨hnn, by omega, k3, v3, s3⟩)))
  rw [if_neg (fun q => c4 ((isDigit_e _).1 q)), if_neg c4, gd_t (by omega)]
  have F03 : Fr [(177, some 37), (177, some 39), (177, some 40)] h2 (sI (sI (sI h2 177 39 s) 177 39 (s + 1)) 177 37 4) := Fr_I (Fr_I Fs rfl) rfl
  have e5 : (if g = true then ((-3, s, s) : TK) else (-3, s, s)) = (-3, s, s) := by split <;> rfl
  rw [e5]
  exact ⟨_, rfl, tk F03 rfl (Int.le_refl _) hs1 (Or.inr (Or.inl ⟨rfl, rfl⟩))⟩
end TOKM
