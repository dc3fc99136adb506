/-! The class: tokens. -/
section CTOK
variable {I : Nat → Int} {len : Int} {h : zH}
theorem text_e {w : Int} (h0 : 0 ≤ w) (h1 : w < 26) : f_W_text w = some (zVB + (4 + w.toNat)) :=
  finN (P := fun w => f_W_text w = some (zVB + (4 + w.toNat))) (n := 26) (by decide +kernel) h0 h1
def wl (w : Int) : Nat := hL (zH0 0 (fun _ => 0)) (zVB + (4 + w.toNat))
theorem word_f : ∀ w : Fin 22, (1 ≤ wl (w.val + 4) ∧ wl (w.val + 4) ≤ 5) ∧ ∀ j : Fin 5, (if j.val < wl (w.val + 4) then hI (zH0 0 (fun _ => 0)) (zVB + (4 + ((w.val : Int) + 4).toNat)) j.val else 0) = mKeys.getD (5 * kOf (w.val + 4) + j.val).toNat 0 ∧ (j.val < wl (w.val + 4) → 97 ≤ mKeys.getD (5 * kOf (w.val + 4) + j.val).toNat 0) := by decide +kernel
theorem word_l {w : Int} (h0 : 4 ≤ w) (h1 : w < 26) : (1 ≤ wl w ∧ wl w ≤ 5) ∧ ∀ j : Int, 0 ≤ j → j < 5 → (if j < wl w then hI (zH0 0 (fun _ => 0)) (zVB + (4 + w.toNat)) j.toNat else 0) = mKeys.getD (5 * kOf w + j).toNat 0 ∧ (j < wl w → 97 ≤ mKeys.getD (5 * kOf w + j).toNat 0) := by
  have e := word_f ⟨(w - 4).toNat, by omega⟩
  have ew : (((w - 4).toNat : Nat) : Int) + 4 = w := by omega
  simp only [ew] at e
  refine ⟨e.1, fun j a b => ?_⟩
  have ej := e.2 ⟨j.toNat, by omega⟩
  have e2 : ((j.toNat : Nat) : Int) = j := by omega
  simp only [e2] at ej
  refine ⟨?_, fun q => ej.2 (by omega)⟩
  rw [← ej.1]
  by_cases c : j < wl w
  · rw [if_pos c, if_pos (by omega)]
  · rw [if_neg c, if_neg (by omega)]
theorem text_len (Ks : KS h) {w : Int} : hL h (zVB + (4 + w.toNat)) = wl w := (Ks _ (Nat.lt_add_of_pos_right (by omega))).2.1
theorem text_chr (Ks : KS h) {w : Int} (j : Nat) : hI h (zVB + (4 + w.toNat)) j = hI (zH0 0 (fun _ => 0)) (zVB + (4 + w.toNat)) j := congrFun (Ks _ (Nat.lt_add_of_pos_right (by omega))).2.2.1 j
theorem text_t (Ks : KS h) {w : Int} (h1 : w < 26) : hT h (zVB + (4 + w.toNat)) = 40 := by
  have := KS_s Ks (w.toNat + 1) (by omega)
  rw [show 3 + (w.toNat + 1) = 4 + w.toNat by omega] at this
  exact this
theorem keyF_tail {s e w : Int} (w0 : 4 ≤ w) (w1 : w < 26) (hl : e - s = wl w) : ∀ (m : Nat) (j : Int), wl w ≤ j → j + m = 5 → keyF I s e (kOf w) m j = true
  | 0, _, _, _ => rfl
  | m + 1, j, hj, hm => by
    have hw := word_l w0 w1
    have h1 := (hw.2 j (by omega) (by omega)).1
    rw [if_neg (by omega)] at h1
    rw [keyF, keyF_tail w0 w1 hl m (j + 1) (by omega) (by omega), Bool.and_true]
    unfold keyJ
    rw [if_neg (by omega)]
    exact decide_eq_true h1
theorem l_stands (K : KC h) (Ks : KS h) (hI1 : hI h 1 = I) {s e w : Int} (w0 : 4 ≤ w) (w1 : w < 26) (s0 : 0 ≤ s) (e1 : e ≤ 800) (hl : e - s = wl w) : ∀ (m : Nat) (j : Int), 0 ≤ j → j + m = wl w → zY 139 25 [some (zR (some (zVB + (4 + w.toNat)))), some (zR (some 1)), some (zI s), some (zI e), some (zI j)] [] h = some (.inl (some (zI (if keyF I s e (kOf w) (5 - j.toNat) j = true then 1 else 0))), h)
  | 0, j, hj, hm => by
    have hw := (word_l w0 w1).1
    rw [q_W_stands_25 (text_t Ks w1) (PTC K 1 21 rfl rfl) (PNC K 1 rfl), text_len Ks, if_neg (by omega), keyF_tail w0 w1 hl _ j (by omega) (by omega), if_pos rfl]
  | m + 1, j, hj, hm => by
    have hw := word_l w0 w1
    have h1 := (hw.2 j hj (by omega)).1
    rw [if_pos (by omega)] at h1
    rw [q_W_stands_25 (text_t Ks w1) (PTC K 1 21 rfl rfl) (PNC K 1 rfl), text_len Ks, if_pos (by omega), gd_t (by omega), gd_t (by rw [PLC K 1 800 rfl rfl]; omega), gd_t (by omega), hI1, text_chr Ks, h1, show 5 - j.toNat = (5 - (j + 1).toNat) + 1 by omega, keyF]
    have ek : keyJ I s e (kOf w) j = decide (I (s + j).toNat = mKeys.getD (5 * kOf w + j).toNat 0) := by
      unfold keyJ; rw [if_pos (by omega)]
    rw [ek]
    by_cases c : I (s + j).toNat = mKeys.getD (5 * kOf w + j).toNat 0
    · rw [if_pos c, gd_t (by omega), l_stands K Ks hI1 w0 w1 s0 e1 hl m (j + 1) (by omega) (by omega), decide_eq_true c, Bool.true_and]
    · rw [if_neg c, decide_eq_false c, Bool.false_and, if_neg (by decide)]
theorem c_stands (K : KC h) (Ks : KS h) (hI1 : hI h 1 = I) {s e w : Int} (w0 : 4 ≤ w) (w1 : w < 26) (s0 : 0 ≤ s) (se : s ≤ e) (e1 : e ≤ 800) (hle : ∀ q, s ≤ q → q < e → I q.toNat ≠ 0) : zC 139 [zR (some (zVB + (4 + w.toNat))), zR (some 1), zI s, zI e] h = some (.inl (some (zI (if keyB I s e (kOf w) = true then 1 else 0))), h) := by
  have hw := word_l w0 w1
  rw [q_W_stands (text_t Ks w1) (PTC K 1 21 rfl rfl) (PNC K 1 rfl), if_neg (by omega), if_neg (by rw [PLC K 1 800 rfl rfl]; omega), gd_t (by omega), text_len Ks]
  unfold keyB
  by_cases hl : e - s = wl w
  · rw [if_pos hl, l_stands K Ks hI1 w0 w1 s0 e1 hl (wl w) 0 (by omega) (by omega), decide_eq_true (by omega : e - s ≤ 5), Bool.true_and]
    rfl
  · rw [if_neg hl]
    have hf : ¬ (decide (e - s ≤ 5) && keyF I s e (kOf w) 5 0) = true := fun q => by
      simp only [Bool.and_eq_true, decide_eq_true_eq] at q
      have all := keyF_all 5 0 q.2
      by_cases c : e - s < wl w
      · have a := all (e - s) (by omega) (by omega)
        have b := (hw.2 (e - s) (by omega) (by omega)).2 c
        unfold keyJ at a
        rw [if_neg (by omega)] at a
        have a := of_decide_eq_true a
        omega
      · have a := all (wl w) (by omega) (by omega)
        have b := (hw.2 (wl w) (by omega) (by omega)).1
        rw [if_neg (by omega)] at b
        unfold keyJ at a
        rw [if_pos (by omega)] at a
        have a := of_decide_eq_true a
        exact hle (s + wl w) (by omega) (by omega) (a.trans b.symm)
    rw [if_neg hf]
theorem l_find (K : KC h) (Ks : KS h) (hI1 : hI h 1 = I) {s e : Int} (s0 : 0 ≤ s) (se : s ≤ e) (e1 : e ≤ 800) (hle : ∀ q, s ≤ q → q < e → I q.toNat ≠ 0) : ∀ (m : Nat) (w : Int), 4 ≤ w → w + m = 26 → zY 137 2 [some (zR (some 1)), some (zI s), some (zI e), some (zI w)] [] h = some (.inl (some (zI (if zfind (fun w => keyB I s e (kOf w) = true) w m = -1 then 26 else zfind (fun w => keyB I s e (kOf w) = true) w m))), h)
  | 0, w, hw, hm => by
    have hb := text_t Ks (w := 0) (by decide)
    have e26 : ∃ t, f_W_text w = some t ∧ hT h t = 40 := by
      obtain rfl : w = 26 := by omega
      refine ⟨zVB + 30, by decide +kernel, ?_⟩
      have := KS_s Ks 27 (by decide)
      exact this
    obtain ⟨t, rt, tt⟩ := e26
    rw [q_W_find_2 (PTC K 1 21 rfl rfl) (PNC K 1 rfl) rt tt, if_neg (by omega), zfind, if_pos rfl]
  | m + 1, w, hw, hm => by
    rw [q_W_find_2 (PTC K 1 21 rfl rfl) (PNC K 1 rfl) (text_e (by omega) (by omega)) (text_t Ks (by omega)), if_pos (by omega), c_stands K Ks hI1 (by omega) (by omega) s0 se e1 hle, q_W_find_r18 (PTC K 1 21 rfl rfl) (PNC K 1 rfl), zfind]
    by_cases c : keyB I s e (kOf w) = true
    · rw [if_pos c, if_neg (by decide), if_pos c, if_neg (by omega)]
    · rw [if_neg c, if_pos rfl, gd_t (by omega), l_find K Ks hI1 s0 se e1 hle m (w + 1) (by omega) (by omega), if_neg c]
theorem c_find (K : KC h) (Ks : KS h) (hI1 : hI h 1 = I) {s e : Int} (s0 : 0 ≤ s) (se : s ≤ e) (e1 : e ≤ 800) (hle : ∀ q, s ≤ q → q < e → I q.toNat ≠ 0) : zC 137 [zR (some 1), zI s, zI e] h = some (.inl (some (zI (wcode I s e))), h) := by
  rw [q_W_find (PTC K 1 21 rfl rfl) (PNC K 1 rfl)]
  exact l_find K Ks hI1 s0 se e1 hle 22 4 (by omega) (by omega)
/-- the scanner's text -/
def SCT (h : zH) (I : Nat → Int) (len : Int) : Prop := KC h ∧ KS h ∧ hI h 1 = I ∧ hI h 7 3 = len ∧ (0 ≤ len ∧ len ≤ 800)
theorem byte_e (S : SCT h I len) (p : Int) : f_Sc_byteAt h p = chr I len p := by
  obtain ⟨K, Ks, a, b, c⟩ := S
  unfold f_Sc_byteAt chr
  rw [a, b]
  by_cases c0 : p < 0
  · rw [if_pos c0, if_neg (by omega)]
  · rw [if_neg c0]
    by_cases c1 : p < len
    · rw [if_pos c1, if_pos (by omega), if_pos (by omega)]
    · rw [if_neg c1, if_neg (by omega)]
theorem chr_lt {p c : Int} (h : chr I len p = c) (hc : c ≠ -1) : 0 ≤ p ∧ p < len := by
  unfold chr at h
  by_cases q : 0 ≤ p ∧ p < len
  · exact q
  · rw [if_neg q] at h; omega
theorem l_blanks (S : SCT h I len) {x : Int} : ∀ (m : Nat) (p i : Int), 0 ≤ i → i + m = 800 → zY 84 4 [some (zR (some 7)), some (zI x), some (zI p), some (zI i)] [] h = some (.inl (some (zI (skp blB I len m p))), h)
  | 0, p, i, hi, hm => by
    rw [q_Sc_behindBlanks_4 S.1, if_neg (by omega)]
    rfl
  | m + 1, p, i, hi, hm => by
    have hs := S.2.2.2.2
    have e : skp blB I len (m + 1) p = if blB (chr I len p) = true then skp blB I len m (p + 1) else p := rfl
    rw [q_Sc_behindBlanks_4 S.1, if_pos (by omega), byte_e S, e]
    have eb : blB (chr I len p) = (decide (chr I len p = 32) || decide (chr I len p = 10)) := rfl
    rw [eb]
    by_cases c : chr I len p = 32
    · have := chr_lt c (by decide)
      rw [if_pos c, gd_t (by omega), gd_t (by omega), l_blanks S m (p + 1) (i + 1) (by omega) (by omega), if_pos (by simp [c])]
    · rw [if_neg c]
      by_cases d : chr I len p = 10
      · have := chr_lt d (by decide)
        rw [if_pos d, gd_t (by omega), gd_t (by omega), l_blanks S m (p + 1) (i + 1) (by omega) (by omega), if_pos (by simp [d])]
      · rw [if_neg d, if_neg (by simp [c, d])]
theorem l_letters (S : SCT h I len) {x : Int} : ∀ (m : Nat) (p i : Int), 0 ≤ i → i + m = 800 → zY 87 4 [some (zR (some 7)), some (zI x), some (zI p), some (zI i)] [] h = some (.inl (some (zI (skp leB I len m p))), h)
  | 0, p, i, hi, hm => by
    rw [q_Sc_behindLetters_4 S.1, if_neg (by omega)]
    rfl
  | m + 1, p, i, hi, hm => by
    have hs := S.2.2.2.2
    have e : skp leB I len (m + 1) p = if leB (chr I len p) = true then skp leB I len m (p + 1) else p := rfl
    rw [q_Sc_behindLetters_4 S.1, if_pos (by omega), byte_e S, e]
    by_cases c : 97 ≤ chr I len p ∧ chr I len p ≤ 122
    · have := chr_lt (c := chr I len p) rfl (by omega)
      rw [if_pos (show b_Sc_isLetter (chr I len p) from c), gd_t (by omega), gd_t (by omega), l_letters S m (p + 1) (i + 1) (by omega) (by omega), if_pos (show leB (chr I len p) = true from decide_eq_true c)]
    · rw [if_neg (show ¬ b_Sc_isLetter (chr I len p) from c), if_neg (by unfold leB; rw [decide_eq_false c]; decide)]
theorem l_digits (S : SCT h I len) {x : Int} : ∀ (m : Nat) (p i : Int), 0 ≤ i → i + m = 800 → zY 89 4 [some (zR (some 7)), some (zI x), some (zI p), some (zI i)] [] h = some (.inl (some (zI (skp diB I len m p))), h)
  | 0, p, i, hi, hm => by
    rw [q_Sc_behindDigits_4 S.1, if_neg (by omega)]
    rfl
  | m + 1, p, i, hi, hm => by
    have hs := S.2.2.2.2
    have e : skp diB I len (m + 1) p = if diB (chr I len p) = true then skp diB I len m (p + 1) else p := rfl
    rw [q_Sc_behindDigits_4 S.1, if_pos (by omega), byte_e S, e]
    by_cases c : 48 ≤ chr I len p ∧ chr I len p ≤ 57
    · have := chr_lt (c := chr I len p) rfl (by omega)
      rw [if_pos (show b_Sc_isDigit (chr I len p) from c), gd_t (by omega), gd_t (by omega), l_digits S m (p + 1) (i + 1) (by omega) (by omega), if_pos (show diB (chr I len p) = true from decide_eq_true c)]
    · rw [if_neg (show ¬ b_Sc_isDigit (chr I len p) from c), if_neg (by unfold diB; rw [decide_eq_false c]; decide)]
theorem SCT_f {A : FA} {h2 : zH} (S : SCT h I len) (F : Fr A h h2) (e : (okC A && (A.all fun x => Nat.blt x.1 9000000) && rowA A 1 && !inA A 7 3) = true) : SCT h2 I len := by
  simp only [Bool.and_eq_true, Bool.not_eq_true'] at e
  obtain ⟨a, b, c, d, g⟩ := S
  exact ⟨KC_f a F e.1.1.1, KS_f b F e.1.1.2, (rI F 1 e.1.2).trans c, (fI F 7 3 e.2).trans d, g⟩
theorem numv_b {s : Int} : ∀ (m : Nat), m ≤ 3 → (∀ q, s ≤ q → q < s + m → 48 ≤ I q.toNat ∧ I q.toNat ≤ 57) → 0 ≤ numv I s m ∧ numv I s m ≤ 999 := fun m hm hd => by
  have h1 : ∀ k : Nat, k < m → 48 ≤ I (s + k).toNat ∧ I (s + k).toNat ≤ 57 := fun k hk => hd (s + k) (by omega) (by omega)
  have e0 : numv I s 0 = 0 := rfl
  have e1 : numv I s 1 = 10 * numv I s 0 + I (s + (0 : Nat)).toNat - 48 := rfl
  have e2 : numv I s 2 = 10 * numv I s 1 + I (s + (1 : Nat)).toNat - 48 := rfl
  have e3 : numv I s 3 = 10 * numv I s 2 + I (s + (2 : Nat)).toNat - 48 := rfl
  match m, hm with
  | 0, _ => rw [e0]; decide
  | 1, _ => have := h1 0 (by omega); omega
  | 2, _ => have := h1 0 (by omega); have := h1 1 (by omega); omega
  | 3, _ => have := h1 0 (by omega); have := h1 1 (by omega); have := h1 2 (by omega); omega
theorem l_number (S : SCT h I len) {s e : Int} (s0 : 0 ≤ s) (he : e ≤ len) (h4 : hI h 7 4 = e) (h3 : e - s ≤ 3) (hd : ∀ q, s ≤ q → q < e → 48 ≤ I q.toNat ∧ I q.toNat ≤ 57) : ∀ (m k : Nat), k + m = (e - s).toNat → s ≤ e → zY 90 23 [some (zR (some 7)), some (zI (numv I s k)), some (zI (s + k))] [] h = some (.inl (some (zI (if 3 < numv I s (e - s).toNat then -4 else numv I s (e - s).toNat))), h)
  | 0, k, hm, hse => by
    rw [q_Sc_numberToken_23 S.1, h4, if_neg (by omega), show k = (e - s).toNat by omega]
    split <;> rfl
  | m + 1, k, hm, hse => by
    have hb := numv_b (I := I) (s := s) k (by omega) (fun q a b => hd q a (by omega))
    have hdk := hd (s + k) (by omega) (by omega)
    have ec : chr I len (s + k) = I (s + k).toNat := chr_in (by omega) (by omega)
    rw [q_Sc_numberToken_23 S.1, h4, if_pos (by omega), byte_e S, ec, gd_t (by omega), gd_t (by omega), gd_t (by omega), gd_t (by have := S.2.2.2.2; omega)]
    have := l_number S s0 he h4 h3 hd m (k + 1) (by omega) hse
    rw [show s + ((k + 1 : Nat) : Int) = s + k + 1 by omega] at this
    exact this
theorem c_numberToken (S : SCT h I len) {s e : Int} (s0 : 0 ≤ s) (hse : s ≤ e) (he : e ≤ len) (h1 : hI h 7 1 = s) (h4 : hI h 7 4 = e) (hd : ∀ q, s ≤ q → q < e → 48 ≤ I q.toNat ∧ I q.toNat ≤ 57) : zC 90 [zR (some 7)] h = some (.inl (some (zI (ncode I s e))), h) := by
  have hs := S.2.2.2.2
  rw [q_Sc_numberToken S.1, h1, h4, gd_t (by omega)]
  unfold ncode
  by_cases c : 3 < e - s
  · rw [if_pos c, if_pos c]
  · rw [if_neg c, if_neg c]
    have := l_number S s0 he h4 (by omega) hd (e - s).toNat 0 (by omega) hse
    rw [show s + ((0 : Nat) : Int) = s by omega] at this
    exact this
abbrev scrSc : FA := [(7, some 0), (7, some 1), (7, some 4)]
theorem c_scan (S : SCT h I len) {e c : Int} (h4 : hI h 7 4 = e) (h7 : hI h 7 7 = c) (e0 : 0 ≤ e) (e1 : e ≤ len) : ∃ h2, zC 83 [zR (some 7)] h = some (.inl none, h2) ∧ hI h2 7 0 = (tok I len (decide (0 < c)) e).1 ∧ hI h2 7 1 = (tok I len (decide (0 < c)) e).2.1 ∧ ((tok I len (decide (0 < c)) e).1 ≠ -2 → (tok I len (decide (0 < c)) e).1 ≠ -3 → hI h2 7 4 = (tok I len (decide (0 < c)) e).2.2) ∧ Fr scrSc h h2 := by
  have hs := S.2.2.2.2
  have h3 := S.2.2.2.1
  have sl := skp_le (P := blB) (I := I) (len := len) (by decide) 800 e e0 e1
  have sg := skp_ge blB (I := I) (len := len) 800 e
  have bl : zC 84 [zR (some 7), zI e] h = some (.inl (some (zI (skp blB I len 800 e))), h) := by
    rw [q_Sc_behindBlanks S.1]; exact l_blanks S 800 e 0 (by omega) (by omega)
  rw [q_Sc_scan S.1, h4, bl, q_Sc_scan_r11 S.1, h3, h7]
  unfold tok tkw
  generalize skp blB I len 800 e = s at *
  by_cases c1 : s < len
  · rw [if_pos c1, if_neg (show ¬ len ≤ s by omega)]
    have F1 : Fr scrSc h (sI h 7 1 s) := Fr_I (Fr_r _ _) rfl
    have S1 := SCT_f S F1 rfl
    have q1 : hI (sI h 7 1 s) 7 1 = s := rfl
    have body : ∃ h2, (if b_Sc_isLetter (f_Sc_byteAt (sI h 7 1 s) s) then zBack zY 83 78 81 [some (zR (some 7)), some (zI e)] [zR (some 7)] (zC 87 [zR (some 7), zI s] (sI h 7 1 s)) else if b_Sc_isDigit (f_Sc_byteAt (sI h 7 1 s) s) then zBack zY 83 126 129 [some (zR (some 7)), some (zI e)] [zR (some 7)] (zC 89 [zR (some 7), zI s] (sI h 7 1 s)) else some (.inl none, sI (sI h 7 1 s) 7 0 (-3))) = some (.inl none, h2) ∧ (∀ t : TK, t = (if leB (chr I len s) = true then (wcode I s (skp leB I len 800 s), s, skp leB I len 800 s) else if diB (chr I len s) = true then (ncode I s (skp diB I len 800 s), s, skp diB I len 800 s) else (-3, s, s)) → hI h2 7 0 = t.1 ∧ hI h2 7 1 = t.2.1 ∧ (t.1 ≠ -2 → t.1 ≠ -3 → hI h2 7 4 = t.2.2)) ∧ Fr scrSc h h2 := by
      rw [byte_e S1]
      generalize sI h 7 1 s = g at *
      by_cases cl : leB (chr I len s) = true
      · have hl := of_decide_eq_true cl
        have ll := skp_le (P := leB) (I := I) (len := len) (by decide) 800 s (by omega) (by omega)
        have lg := skp_ge leB (I := I) (len := len) 800 s
        have hin : ∀ q, s ≤ q → q < skp leB I len 800 s → I q.toNat ≠ 0 := fun q a b => by
          have := of_decide_eq_true (skp_in (P := leB) (I := I) (len := len) 800 s q a b)
          rw [chr_in (by omega) (by omega)] at this
          omega
        have el : zC 87 [zR (some 7), zI s] g = some (.inl (some (zI (skp leB I len 800 s))), g) := by
          rw [q_Sc_behindLetters S1.1]; exact l_letters S1 800 s 0 (by omega) (by omega)
        rw [if_pos (show b_Sc_isLetter (chr I len s) from hl), if_pos cl, el, q_Sc_scan_r81 S1.1, q1]
        generalize skp leB I len 800 s = x at *
        have F2 : Fr scrSc g (sI g 7 4 x) := Fr_I (Fr_r _ _) rfl
        have S2 := SCT_f S1 F2 rfl
        rw [c_find S2.1 S2.2.1 S2.2.2.1 (by omega) lg (by omega) hin, q_Sc_scan_r100 S2.1]
        refine ⟨_, rfl, fun t ht => ?_, Fr_t F1 (Fr_I F2 rfl)⟩
        subst ht
        exact ⟨rfl, q1, fun _ _ => rfl⟩
      · have hl : ¬ (97 ≤ chr I len s ∧ chr I len s ≤ 122) := fun q => cl (decide_eq_true q)
        rw [if_neg (show ¬ b_Sc_isLetter (chr I len s) from hl), if_neg cl]
        by_cases cd : diB (chr I len s) = true
        · have hd := of_decide_eq_true cd
          have ll := skp_le (P := diB) (I := I) (len := len) (by decide) 800 s (by omega) (by omega)
          have lg := skp_ge diB (I := I) (len := len) 800 s
          have hin : ∀ q, s ≤ q → q < skp diB I len 800 s → 48 ≤ I q.toNat ∧ I q.toNat ≤ 57 := fun q a b => by
            have := of_decide_eq_true (skp_in (P := diB) (I := I) (len := len) 800 s q a b)
            rw [chr_in (by omega) (by omega)] at this
            exact this
          have el : zC 89 [zR (some 7), zI s] g = some (.inl (some (zI (skp diB I len 800 s))), g) := by
            rw [q_Sc_behindDigits S1.1]; exact l_digits S1 800 s 0 (by omega) (by omega)
          rw [if_pos (show b_Sc_isDigit (chr I len s) from hd), if_pos cd, el, q_Sc_scan_r129 S1.1]
          generalize skp diB I len 800 s = x at *
          have F2 : Fr scrSc g (sI g 7 4 x) := Fr_I (Fr_r _ _) rfl
          have S2 := SCT_f S1 F2 rfl
          rw [c_numberToken S2 (s := s) (e := x) (by omega) lg ll q1 rfl hin, q_Sc_scan_r137 S2.1]
          refine ⟨_, rfl, fun t ht => ?_, Fr_t F1 (Fr_I F2 rfl)⟩
          subst ht
          exact ⟨rfl, q1, fun _ _ => rfl⟩
        · have hd : ¬ (48 ≤ chr I len s ∧ chr I len s ≤ 57) := fun q => cd (decide_eq_true q)
          rw [if_neg (show ¬ b_Sc_isDigit (chr I len s) from hd), if_neg cd]
          refine ⟨_, rfl, fun t ht => ?_, Fr_I F1 rfl⟩
          subst ht
          exact ⟨rfl, q1, fun _ z => absurd rfl z⟩
    obtain ⟨g2, e2, H2, F2⟩ := body
    by_cases c2 : s = e
    · rw [if_pos c2, decide_eq_true c2, Bool.and_true]
      by_cases c3 : 0 < c
      · rw [if_pos c3, if_pos (decide_eq_true c3)]
        exact ⟨_, rfl, rfl, rfl, fun _ z => absurd rfl z, Fr_I F1 rfl⟩
      · rw [if_neg c3, if_neg (show ¬ decide (0 < c) = true from fun z => c3 (of_decide_eq_true z))]
        obtain ⟨z1, z2, z3⟩ := H2 _ rfl
        exact ⟨g2, e2, z1, z2, z3, F2⟩
    · rw [if_neg c2, decide_eq_false c2, Bool.and_false, if_neg (show ¬ false = true by decide)]
      obtain ⟨z1, z2, z3⟩ := H2 _ rfl
      exact ⟨g2, e2, z1, z2, z3, F2⟩
  · rw [if_neg c1, if_pos (by omega)]
    exact ⟨_, rfl, rfl, rfl, fun z => absurd rfl z, Fr_I (Fr_I (Fr_r _ _) rfl) rfl⟩
end CTOK

