/-! The reference: rows of numbers, copied. -/
section COPIES
theorem l_q_M_putsAside_2  : ∀ (m : Nat) (j : Int) (h : zH), KM h → 0 ≤ j → j + m = 2342 → ∃ h2, zY 215 2 [some (zR (some 177)), some (zI j)] [] h = zY 215 29 [some (zR (some 177)), some (zI 0)] [] h2 ∧ (∀ k : Nat, hI h2 180 k = if j ≤ (k : Int) ∧ (k : Int) < 2342 then hI h 179 ((k : Int) - (0) + (0)).toNat else hI h 180 k) ∧ Fr [(180, none)] h h2
  | 0, j, h, K, h0, hm => by
    rw [q_M_putsAside_2 K, if_neg (by omega)]
    exact ⟨h, rfl, fun k => by rw [if_neg (by omega)], Fr_r _ _⟩
  | m + 1, j, h, K, h0, hm => by
    have F : Fr [(180, none)] h (sI h 180 (j).toNat (hI h 179 (j).toNat)) := Fr_I (Fr_r _ _) rfl
    obtain ⟨h2, e2, A, F2⟩ := l_q_M_putsAside_2 m (j + 1) _ (KM_f K F rfl) (by omega) (by omega)
    rw [q_M_putsAside_2 K, if_pos (by omega), gd_t (by omega), gd_t (by omega)]
    refine ⟨h2, e2, fun k => ?_, Fr_t F F2⟩
    rw [A, hI_up, rI F 179 rfl]
    unfold upN
    by_cases c : (k : Int) = j
    · rw [if_neg (by omega), if_pos (by omega), if_pos (by omega), show (j).toNat = ((k : Int) - (0) + (0)).toNat by omega]
    · rw [if_neg (show ¬ k = (j).toNat by omega)]
      by_cases c2 : j ≤ (k : Int) ∧ (k : Int) < 2342
      · rw [if_pos (by omega), if_pos c2]
      · rw [if_neg (by omega), if_neg c2]
theorem l_q_M_putsAside_29  : ∀ (m : Nat) (j : Int) (h : zH), KM h → 0 ≤ j → j + m = 240 → ∃ h2, zY 215 29 [some (zR (some 177)), some (zI j)] [] h = some (.inl none, sI (sI h2 177 11 (hI h2 177 10)) 177 13 (hI h2 177 12)) ∧ (∀ k : Nat, hI h2 184 k = if j ≤ (k : Int) ∧ (k : Int) < 240 then hI h 183 ((k : Int) - (0) + (0)).toNat else hI h 184 k) ∧ Fr [(184, none)] h h2
  | 0, j, h, K, h0, hm => by
    rw [q_M_putsAside_29 K, if_neg (by omega)]
    exact ⟨h, rfl, fun k => by rw [if_neg (by omega)], Fr_r _ _⟩
  | m + 1, j, h, K, h0, hm => by
    have F : Fr [(184, none)] h (sI h 184 (j).toNat (hI h 183 (j).toNat)) := Fr_I (Fr_r _ _) rfl
    obtain ⟨h2, e2, A, F2⟩ := l_q_M_putsAside_29 m (j + 1) _ (KM_f K F rfl) (by omega) (by omega)
    rw [q_M_putsAside_29 K, if_pos (by omega), gd_t (by omega), gd_t (by omega)]
    refine ⟨h2, e2, fun k => ?_, Fr_t F F2⟩
    rw [A, hI_up, rI F 183 rfl]
    unfold upN
    by_cases c : (k : Int) = j
    · rw [if_neg (by omega), if_pos (by omega), if_pos (by omega), show (j).toNat = ((k : Int) - (0) + (0)).toNat by omega]
    · rw [if_neg (show ¬ k = (j).toNat by omega)]
      by_cases c2 : j ≤ (k : Int) ∧ (k : Int) < 240
      · rw [if_pos (by omega), if_pos c2]
      · rw [if_neg (by omega), if_neg c2]
theorem l_q_M_putsBack_2  : ∀ (m : Nat) (j : Int) (h : zH), KM h → 0 ≤ j → j + m = 2342 → ∃ h2, zY 238 2 [some (zR (some 177)), some (zI j)] [] h = zY 238 29 [some (zR (some 177)), some (zI 0)] [] h2 ∧ (∀ k : Nat, hI h2 179 k = if j ≤ (k : Int) ∧ (k : Int) < 2342 then hI h 180 ((k : Int) - (0) + (0)).toNat else hI h 179 k) ∧ Fr [(179, none)] h h2
  | 0, j, h, K, h0, hm => by
    rw [q_M_putsBack_2 K, if_neg (by omega)]
    exact ⟨h, rfl, fun k => by rw [if_neg (by omega)], Fr_r _ _⟩
  | m + 1, j, h, K, h0, hm => by
    have F : Fr [(179, none)] h (sI h 179 (j).toNat (hI h 180 (j).toNat)) := Fr_I (Fr_r _ _) rfl
    obtain ⟨h2, e2, A, F2⟩ := l_q_M_putsBack_2 m (j + 1) _ (KM_f K F rfl) (by omega) (by omega)
    rw [q_M_putsBack_2 K, if_pos (by omega), gd_t (by omega), gd_t (by omega)]
    refine ⟨h2, e2, fun k => ?_, Fr_t F F2⟩
    rw [A, hI_up, rI F 180 rfl]
    unfold upN
    by_cases c : (k : Int) = j
    · rw [if_neg (by omega), if_pos (by omega), if_pos (by omega), show (j).toNat = ((k : Int) - (0) + (0)).toNat by omega]
    · rw [if_neg (show ¬ k = (j).toNat by omega)]
      by_cases c2 : j ≤ (k : Int) ∧ (k : Int) < 2342
      · rw [if_pos (by omega), if_pos c2]
      · rw [if_neg (by omega), if_neg c2]
theorem l_q_M_putsBack_29  : ∀ (m : Nat) (j : Int) (h : zH), KM h → 0 ≤ j → j + m = 240 → ∃ h2, zY 238 29 [some (zR (some 177)), some (zI j)] [] h = some (.inl none, sI (sI h2 177 10 (hI h2 177 11)) 177 12 (hI h2 177 13)) ∧ (∀ k : Nat, hI h2 183 k = if j ≤ (k : Int) ∧ (k : Int) < 240 then hI h 184 ((k : Int) - (0) + (0)).toNat else hI h 183 k) ∧ Fr [(183, none)] h h2
  | 0, j, h, K, h0, hm => by
    rw [q_M_putsBack_29 K, if_neg (by omega)]
    exact ⟨h, rfl, fun k => by rw [if_neg (by omega)], Fr_r _ _⟩
  | m + 1, j, h, K, h0, hm => by
    have F : Fr [(183, none)] h (sI h 183 (j).toNat (hI h 184 (j).toNat)) := Fr_I (Fr_r _ _) rfl
    obtain ⟨h2, e2, A, F2⟩ := l_q_M_putsBack_29 m (j + 1) _ (KM_f K F rfl) (by omega) (by omega)
    rw [q_M_putsBack_29 K, if_pos (by omega), gd_t (by omega), gd_t (by omega)]
    refine ⟨h2, e2, fun k => ?_, Fr_t F F2⟩
    rw [A, hI_up, rI F 184 rfl]
    unfold upN
    by_cases c : (k : Int) = j
    · rw [if_neg (by omega), if_pos (by omega), if_pos (by omega), show (j).toNat = ((k : Int) - (0) + (0)).toNat by omega]
    · rw [if_neg (show ¬ k = (j).toNat by omega)]
      by_cases c2 : j ≤ (k : Int) ∧ (k : Int) < 240
      · rw [if_pos (by omega), if_pos c2]
      · rw [if_neg (by omega), if_neg c2]
theorem l_q_M_readsText_2 {x : Int} : ∀ (m : Nat) (j : Int) (h : zH), KM h → 0 ≤ j → j + m = 2342 → ∃ h2, zY 216 2 [some (zR (some 177)), some (zI x), some (zI j)] [] h = zBack zY 216 49 52 [some (zR (some 177)), some (zI x), some (zI 2342)] [] (zC 217 [zR (some 177), zI x] (sI (sI (sI (sI (sI h2 177 10 0) 177 12 (-1)) 177 44 (-1)) 177 45 0) 177 46 (-1))) ∧ (∀ k : Nat, hI h2 179 k = if j ≤ (k : Int) ∧ (k : Int) < 2342 then 0 else hI h 179 k) ∧ Fr [(179, none)] h h2
  | 0, j, h, K, h0, hm => by
    rw [q_M_readsText_2 K, if_neg (by omega), show j = 2342 by omega]
    exact ⟨h, rfl, fun k => by rw [if_neg (by omega)], Fr_r _ _⟩
  | m + 1, j, h, K, h0, hm => by
    have F : Fr [(179, none)] h (sI h 179 (j).toNat (0)) := Fr_I (Fr_r _ _) rfl
    obtain ⟨h2, e2, A, F2⟩ := l_q_M_readsText_2 m (j + 1) _ (KM_f K F rfl) (by omega) (by omega)
    rw [q_M_readsText_2 K, if_pos (by omega), gd_t (by omega), gd_t (by omega)]
    refine ⟨h2, e2, fun k => ?_, Fr_t F F2⟩
    rw [A, hI_up]
    unfold upN
    by_cases c : (k : Int) = j
    · rw [if_neg (by omega), if_pos (by omega), if_pos (by omega)]
    · rw [if_neg (show ¬ k = (j).toNat by omega)]
      by_cases c2 : j ≤ (k : Int) ∧ (k : Int) < 2342
      · rw [if_pos (by omega), if_pos c2]
      · rw [if_neg (by omega), if_neg c2]
theorem l_q_M_setsForm_41 {q w l : Int} (hq : 0 ≤ q) (hq2 : q < 74) : ∀ (m : Nat) (j : Int) (h : zH), KM h → 0 ≤ j → j + m = 31 → ∃ h2, zY 340 41 [some (zR (some 177)), some (zI q), some (zI w), some (zI l), some (zI j)] [] h = zBack zY 340 74 77 [some (zR (some 177)), some (zI q), some (zI w), some (zI l), some (zI 31)] [] (zC 238 [zR (some 177)] h2) ∧ (∀ k : Nat, hI h2 191 k = if j ≤ (k : Int) ∧ (k : Int) < 31 then hI h 179 ((k : Int) - (0) + (31 * q + 0)).toNat else hI h 191 k) ∧ Fr [(191, none)] h h2
  | 0, j, h, K, h0, hm => by
    rw [q_M_setsForm_41 K, if_neg (by omega), show j = 31 by omega]
    exact ⟨h, rfl, fun k => by rw [if_neg (by omega)], Fr_r _ _⟩
  | m + 1, j, h, K, h0, hm => by
    have F : Fr [(191, none)] h (sI h 191 (j).toNat (hI h 179 (31 * q + j).toNat)) := Fr_I (Fr_r _ _) rfl
    obtain ⟨h2, e2, A, F2⟩ := l_q_M_setsForm_41 hq hq2 m (j + 1) _ (KM_f K F rfl) (by omega) (by omega)
    rw [q_M_setsForm_41 K, if_pos (by omega), gd_t (by omega), gd_t (by omega), gd_t (by omega), gd_t (by omega), gd_t (by omega)]
    refine ⟨h2, e2, fun k => ?_, Fr_t F F2⟩
    rw [A, hI_up, rI F 179 rfl]
    unfold upN
    by_cases c : (k : Int) = j
    · rw [if_neg (by omega), if_pos (by omega), if_pos (by omega), show (31 * q + j).toNat = ((k : Int) - (0) + (31 * q + 0)).toNat by omega]
    · rw [if_neg (show ¬ k = (j).toNat by omega)]
      by_cases c2 : j ≤ (k : Int) ∧ (k : Int) < 31
      · rw [if_pos (by omega), if_pos c2]
      · rw [if_neg (by omega), if_neg c2]
theorem l_q_M_setsForm_93 {q w l : Int} (hq : 0 ≤ q) (hq2 : q < 74) : ∀ (m : Nat) (j : Int) (h : zH), KM h → 0 ≤ j → j + m = 31 → ∃ h2, zY 340 93 [some (zR (some 177)), some (zI q), some (zI w), some (zI l), some (zI j)] [] h = some (.inl (some (zI 1)), h2) ∧ (∀ k : Nat, hI h2 179 k = if 31 * q + j ≤ (k : Int) ∧ (k : Int) < 31 * q + 31 then hI h 191 ((k : Int) - (31 * q + 0) + (0)).toNat else hI h 179 k) ∧ Fr [(179, none)] h h2
  | 0, j, h, K, h0, hm => by
    rw [q_M_setsForm_93 K, if_neg (by omega)]
    exact ⟨h, rfl, fun k => by rw [if_neg (by omega)], Fr_r _ _⟩
  | m + 1, j, h, K, h0, hm => by
    have F : Fr [(179, none)] h (sI h 179 (31 * q + j).toNat (hI h 191 (j).toNat)) := Fr_I (Fr_r _ _) rfl
    obtain ⟨h2, e2, A, F2⟩ := l_q_M_setsForm_93 hq hq2 m (j + 1) _ (KM_f K F rfl) (by omega) (by omega)
    rw [q_M_setsForm_93 K, if_pos (by omega), gd_t (by omega), gd_t (by omega), gd_t (by omega), gd_t (by omega), gd_t (by omega)]
    refine ⟨h2, e2, fun k => ?_, Fr_t F F2⟩
    rw [A, hI_up, rI F 191 rfl]
    unfold upN
    by_cases c : (k : Int) = 31 * q + j
    · rw [if_neg (by omega), if_pos (by omega), if_pos (by omega), show (j).toNat = ((k : Int) - (31 * q + 0) + (0)).toNat by omega]
    · rw [if_neg (show ¬ k = (31 * q + j).toNat by omega)]
      by_cases c2 : 31 * q + j ≤ (k : Int) ∧ (k : Int) < 31 * q + 31
      · rw [if_pos (by omega), if_pos c2]
      · rw [if_neg (by omega), if_neg c2]
theorem l_q_M_restore_38 {x : Int} (hx : x = 0 ∨ x = 1) : ∀ (m : Nat) (j : Int) (h : zH), KM h → 0 ≤ j → j + m = 2342 → ∃ h2, zY 347 38 [some (zR (some 177)), some (zI x), some (zI j)] [] h = zBack zY 347 71 74 [some (zR (some 177)), some (zI x), some (zI 2342)] [zR (some 177)] (zC 245 [zR (some 177)] h2) ∧ (∀ k : Nat, hI h2 179 k = if j ≤ (k : Int) ∧ (k : Int) < 2342 then hI h 182 ((k : Int) - (0) + (x * 2342 + 0)).toNat else hI h 179 k) ∧ Fr [(179, none)] h h2
  | 0, j, h, K, h0, hm => by
    rw [q_M_restore_38 K, if_neg (by omega), show j = 2342 by omega]
    exact ⟨h, rfl, fun k => by rw [if_neg (by omega)], Fr_r _ _⟩
  | m + 1, j, h, K, h0, hm => by
    have F : Fr [(179, none)] h (sI h 179 (j).toNat (hI h 182 (x * 2342 + j).toNat)) := Fr_I (Fr_r _ _) rfl
    obtain ⟨h2, e2, A, F2⟩ := l_q_M_restore_38 hx m (j + 1) _ (KM_f K F rfl) (by omega) (by omega)
    rw [q_M_restore_38 K, if_pos (by omega), gd_t (by omega), gd_t (by omega), gd_t (by omega), gd_t (by omega), gd_t (by omega)]
    refine ⟨h2, e2, fun k => ?_, Fr_t F F2⟩
    rw [A, hI_up, rI F 182 rfl]
    unfold upN
    by_cases c : (k : Int) = j
    · rw [if_neg (by omega), if_pos (by omega), if_pos (by omega), show (x * 2342 + j).toNat = ((k : Int) - (0) + (x * 2342 + 0)).toNat by omega]
    · rw [if_neg (show ¬ k = (j).toNat by omega)]
      by_cases c2 : j ≤ (k : Int) ∧ (k : Int) < 2342
      · rw [if_pos (by omega), if_pos c2]
      · rw [if_neg (by omega), if_neg c2]
theorem l_q_M_save_17 {x : Int} (hx : x = 0 ∨ x = 1) : ∀ (m : Nat) (j : Int) (h : zH), KM h → 0 ≤ j → j + m = 2342 → ∃ h2, zY 349 17 [some (zR (some 177)), some (zI x), some (zI j)] [] h = zY 349 17 [some (zR (some 177)), some (zI x), some (zI 2342)] [] h2 ∧ (∀ k : Nat, hI h2 182 k = if x * 2342 + j ≤ (k : Int) ∧ (k : Int) < x * 2342 + 2342 then hI h 179 ((k : Int) - (x * 2342 + 0) + (0)).toNat else hI h 182 k) ∧ Fr [(182, none)] h h2
  | 0, j, h, K, h0, hm => by
    obtain rfl : j = 2342 := by omega
    exact ⟨h, rfl, fun k => by rw [if_neg (by omega)], Fr_r _ _⟩
  | m + 1, j, h, K, h0, hm => by
    have F : Fr [(182, none)] h (sI h 182 (x * 2342 + j).toNat (hI h 179 (j).toNat)) := Fr_I (Fr_r _ _) rfl
    obtain ⟨h2, e2, A, F2⟩ := l_q_M_save_17 hx m (j + 1) _ (KM_f K F rfl) (by omega) (by omega)
    rw [q_M_save_17 K, if_pos (by omega), gd_t (by omega), gd_t (by omega), gd_t (by omega), gd_t (by omega), gd_t (by omega)]
    refine ⟨h2, e2, fun k => ?_, Fr_t F F2⟩
    rw [A, hI_up, rI F 179 rfl]
    unfold upN
    by_cases c : (k : Int) = x * 2342 + j
    · rw [if_neg (by omega), if_pos (by omega), if_pos (by omega), show (j).toNat = ((k : Int) - (x * 2342 + 0) + (0)).toNat by omega]
    · rw [if_neg (show ¬ k = (x * 2342 + j).toNat by omega)]
      by_cases c2 : x * 2342 + j ≤ (k : Int) ∧ (k : Int) < x * 2342 + 2342
      · rw [if_pos (by omega), if_pos c2]
      · rw [if_neg (by omega), if_neg c2]
theorem l_q_M_undo_25 {o : Int} (ho : 0 ≤ o) (ho2 : o < 10) : ∀ (m : Nat) (j : Int) (h : zH), KM h → hI h 177 5 = o → 0 ≤ j → j + m = 2342 → ∃ h2, zY 348 25 [some (zR (some 177)), some (zI j)] [] h = some (.inl (some (zI o)), sI h2 177 1 0) ∧ (∀ k : Nat, hI h2 179 k = if j ≤ (k : Int) ∧ (k : Int) < 2342 then hI h 181 ((k : Int) - (0) + (o * 2342 + 0)).toNat else hI h 179 k) ∧ Fr [(179, none)] h h2
  | 0, j, h, K, H, h0, hm => by
    rw [q_M_undo_25 K, H, if_neg (by omega)]
    exact ⟨h, rfl, fun k => by rw [if_neg (by omega)], Fr_r _ _⟩
  | m + 1, j, h, K, H, h0, hm => by
    have F : Fr [(179, none)] h (sI h 179 (j).toNat (hI h 181 (o * 2342 + j).toNat)) := Fr_I (Fr_r _ _) rfl
    obtain ⟨h2, e2, A, F2⟩ := l_q_M_undo_25 ho ho2 m (j + 1) _ (KM_f K F rfl) (by exact (fI F 177 5 rfl).trans H) (by omega) (by omega)
    rw [q_M_undo_25 K, H, if_pos (by omega), gd_t (by omega), gd_t (by omega), gd_t (by omega), gd_t (by omega), gd_t (by omega)]
    refine ⟨h2, e2, fun k => ?_, Fr_t F F2⟩
    rw [A, hI_up, rI F 181 rfl]
    unfold upN
    by_cases c : (k : Int) = j
    · rw [if_neg (by omega), if_pos (by omega), if_pos (by omega), show (o * 2342 + j).toNat = ((k : Int) - (0) + (o * 2342 + 0)).toNat by omega]
    · rw [if_neg (show ¬ k = (j).toNat by omega)]
      by_cases c2 : j ≤ (k : Int) ∧ (k : Int) < 2342
      · rw [if_pos (by omega), if_pos c2]
      · rw [if_neg (by omega), if_neg c2]
theorem l_q_M_remembers_54 {o : Int} (ho : 0 ≤ o) (ho2 : o < 10) : ∀ (m : Nat) (j : Int) (h : zH), KM h → hI h 177 5 = o → 0 ≤ j → j + m = 2342 → ∃ h2, zY 341 54 [some (zR (some 177)), some (zI j)] [] h = some (.inl none, sI h2 177 5 (o + 1)) ∧ (∀ k : Nat, hI h2 181 k = if o * 2342 + j ≤ (k : Int) ∧ (k : Int) < o * 2342 + 2342 then hI h 179 ((k : Int) - (o * 2342 + 0) + (0)).toNat else hI h 181 k) ∧ Fr [(181, none)] h h2
  | 0, j, h, K, H, h0, hm => by
    rw [q_M_remembers_54 K, H, if_neg (by omega), gd_t (by omega)]
    exact ⟨h, rfl, fun k => by rw [if_neg (by omega)], Fr_r _ _⟩
  | m + 1, j, h, K, H, h0, hm => by
    have F : Fr [(181, none)] h (sI h 181 (o * 2342 + j).toNat (hI h 179 (j).toNat)) := Fr_I (Fr_r _ _) rfl
    obtain ⟨h2, e2, A, F2⟩ := l_q_M_remembers_54 ho ho2 m (j + 1) _ (KM_f K F rfl) (by exact (fI F 177 5 rfl).trans H) (by omega) (by omega)
    rw [q_M_remembers_54 K, H, if_pos (by omega), gd_t (by omega), gd_t (by omega), gd_t (by omega), gd_t (by omega), gd_t (by omega)]
    refine ⟨h2, e2, fun k => ?_, Fr_t F F2⟩
    rw [A, hI_up, rI F 179 rfl]
    unfold upN
    by_cases c : (k : Int) = o * 2342 + j
    · rw [if_neg (by omega), if_pos (by omega), if_pos (by omega), show (j).toNat = ((k : Int) - (o * 2342 + 0) + (0)).toNat by omega]
    · rw [if_neg (show ¬ k = (o * 2342 + j).toNat by omega)]
      by_cases c2 : o * 2342 + j ≤ (k : Int) ∧ (k : Int) < o * 2342 + 2342
      · rw [if_pos (by omega), if_pos c2]
      · rw [if_neg (by omega), if_neg c2]
end COPIES
