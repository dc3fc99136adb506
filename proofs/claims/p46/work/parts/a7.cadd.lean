/-! The class: a new statement. -/
section CADD
variable {n top : Int} {R R2 N : Nat → Int} {h h2 : zH} {p v : Nat} {row sec last : Int}
theorem hI_ne (h : zH) {a b k : Nat} (x : Int) (c : b ≠ a) : hI (sI h a k x) b = hI h b := funext fun j => zup_n _ _ _ _ _ _ (fun z => c z.1)
theorem hI_nk (h : zH) {a k j : Nat} (x : Int) (c : j ≠ k) : hI (sI h a k x) a j = hI h a j := zup_n _ _ _ _ _ _ (fun z => c z.2)
/-- a program's rows of numbers -/
def Wr (p a k : Nat) : Prop := (a = p ∧ k ≤ 2) ∨ (p < a ∧ a < p + 10)
/-- the rows that hold the statements so far -/
def CRo (h : zH) (p v : Nat) (n : Int) (R : Nat → Int) : Prop := PS h p ∧ VS h v ∧ (0 ≤ n ∧ n ≤ 24) ∧ (hI h p 0 = n ∧ hI h p 1 = cntK R 2 n.toNat ∧ hI h p 2 = cntK R 3 n.toNat) ∧ (∀ s, 0 ≤ s → s < n → (hI h (p + 1) s.toNat = sv R s 0 ∧ hI h (p + 2) s.toNat = sv R s 1 ∧ hI h (p + 3) s.toNat = sv R s 3 ∧ hI h (p + 4) s.toNat = sv R s 7 ∧ hI h (p + 5) s.toNat = sv R s 4 ∧ hI h (p + 6) s.toNat = sv R s 5 ∧ hI h (p + 7) s.toNat = sv R s 6) ∧ (sv R s 0 = 3 → sv R s 1 = -1) ∧ (sv R s 0 = 2 → hI h (p + 9) (sv R s 7).toNat = s)) ∧ (∀ i, i < 24 → hI h (v + 3) i = -1 ∧ hI h (v + 4) i = 10)
theorem CRo_has (C : CRo h p v n R) (s : Int) : b_P_has h p s ↔ 0 ≤ s ∧ s < n := by
  obtain ⟨_, _, c, d, _⟩ := C
  have := d.1
  unfold b_P_has
  omega
theorem CRo_g {W : Nat → Nat → Prop} {d e : Nat} (C : CRo h p v n R) (G : Gw W d e h h2) (wp : ∀ j k, j < 10 → ¬ W (p + j) k) (wv : ∀ j k, j = 3 ∨ j = 4 → ¬ W (v + j) k) (w3 : ∀ k, 2 ≤ k → ¬ W v k) : CRo h2 p v n R := by
  obtain ⟨a, b, c, x, y, z⟩ := C
  have ha := a.2.1
  have hb := b.2.1
  have r : ∀ j, j < 10 → hI h2 (p + j) = hI h (p + j) := fun j hj => grI G (by omega) (fun k => wp j k hj)
  refine ⟨PS_g a G (fun k _ => wp 0 k (by decide)), VS_g b G w3, c, ?_, ?_, ?_⟩
  · rw [show hI h2 p = hI h p from r 0 (by decide)]; exact x
  · rw [r 1 (by decide), r 2 (by decide), r 3 (by decide), r 4 (by decide), r 5 (by decide), r 6 (by decide), r 7 (by decide), r 9 (by decide)]; exact y
  · rw [grI G (a := v + 3) (by omega) (fun k => wv 3 k (Or.inl rfl)), grI G (a := v + 4) (by omega) (fun k => wv 4 k (Or.inr rfl))]; exact z
theorem CRo_hd (C : CRo h p v n R) (V : IVR n top R row sec last) : (if row = -1 then f_P_start h p else if sec = 0 then f_P_firstOf h p row else f_P_secondOf h p row) = hdP n R row sec := by
  obtain ⟨a, b, c, x, y, z⟩ := id C
  have v4 := V.2.2.2.1
  have v5 := V.2.2.2.2.1
  unfold hdP
  by_cases r : row = -1
  · rw [if_pos r, if_pos r]
    unfold f_P_start
    rw [x.1]
    by_cases q : 0 < n
    · rw [if_pos q, if_neg (by omega)]
    · rw [if_neg q, if_pos (by omega)]
  · rw [if_neg r, if_neg r]
    have hr : 0 ≤ row ∧ row < n := by omega
    have yr := (y row hr.1 hr.2).1
    by_cases s : sec = 0
    · rw [if_pos s, s]
      unfold f_P_firstOf
      rw [if_pos ((CRo_has C row).2 hr), yr.2.2.2.2.2.1]
      rfl
    · rw [if_neg s, show sec = 1 by omega]
      unfold f_P_secondOf
      rw [if_pos ((CRo_has C row).2 hr), yr.2.2.2.2.2.2]
      rfl
theorem l_lastOfRow (C : CRo h p v n R) (w : WS n R) {x1 : Int} (hl : sv R last 4 = -1) (l0 : 0 ≤ last) (l1 : last < n) : ∀ (m : Nat) (y x2 i : Int), n - y ≤ m → 0 ≤ y → y < n → i + m ≤ 24 → 0 ≤ i → (∃ k, nx R k y = last) → zY 42 7 [some (zR (some p)), some (zI x1), some (zI x2), some (zI y), some (zI i)] [] h = some (.inl (some (zI last)), h)
  | 0, y, x2, i, h0, h1, h2, h3, h4, h5 => by omega
  | m + 1, y, x2, i, h0, h1, h2, h3, h4, h5 => by
    obtain ⟨a, b, c, x, yy, z⟩ := id C
    obtain ⟨k, hk⟩ := h5
    have e5 := (yy y h1 h2).1.2.2.2.2.1
    rw [q_P_lastOfRow_7 a, if_pos (by omega), if_neg (by omega), if_pos (by omega), gd_t (by omega), e5]
    by_cases q : y = last
    · subst q
      rw [hl]
      have fin : ∀ j : Int, zY 42 7 [some (zR (some p)), some (zI x1), some (zI y), some (zI (-1)), some (zI j)] [] h = some (.inl (some (zI y)), h) := fun j => by
        rw [q_P_lastOfRow_7 a]
        by_cases c : j < 24
        · rw [if_pos c, if_pos (by decide)]
        · rw [if_neg c]
      exact fin _
    · obtain ⟨k, rfl⟩ : ∃ k', k = k' + 1 := by
        cases k with
        | zero => exact absurd hk q
        | succ k => exact ⟨k, rfl⟩
      rw [show k + 1 = 1 + k by omega, nx_add] at hk
      have e1 : nx R 1 y = sv R y 4 := by rw [nx, nx, if_neg (by omega)]
      rw [e1] at hk
      have hy : sv R y 4 ≠ -1 := fun z => by rw [z, nx_neg] at hk; omega
      have := (w.2.1 y h1 h2).2.2.2.1
      exact l_lastOfRow C w hl l0 l1 m (sv R y 4) y (i + 1) (by omega) (by omega) (by omega) (by omega) (by omega) ⟨k, hk⟩
theorem c_lastOfRow (C : CRo h p v n R) (V : IVR n top R row sec last) : zC 42 [zR (some p), zI (hdP n R row sec)] h = some (.inl (some (zI last)), h) := by
  have a := C.1
  rw [q_P_lastOfRow a]
  rcases V.2.2.2.2.2.1 with ⟨z, e⟩ | ⟨l0, l1, l2, l3, k, l4⟩
  · rw [e, q_P_lastOfRow_7 a, if_pos (by decide), if_pos (by decide), z]
  · have hh : hdP n R row sec = -1 ∨ 0 ≤ hdP n R row sec ∧ hdP n R row sec < n := by
      have v4 := V.2.2.2.1
      have v5 := V.2.2.2.2.1
      unfold hdP
      by_cases r : row = -1
      · rw [if_pos r]; split <;> omega
      · rw [if_neg r]
        have w1 := V.1.2.1 row (by omega) (by omega)
        rcases v5 with s | s
        · rw [s, show (5 : Int) + 0 = 5 from rfl]; have := w1.2.2.2.2.1; omega
        · rw [s.1, show (5 : Int) + 1 = 6 from rfl]; have := w1.2.2.2.2.2; omega
    rcases hh with z | z
    · rw [z, nx_neg] at l4; omega
    · have nb := C.2.2.1
      exact l_lastOfRow C V.1 l3 l0 l1 24 _ _ 0 (by omega) z.1 z.2 (by decide) (by decide) ⟨k, l4⟩
/-- numbers for loops and holes -/
theorem c_takeNumber (P : PS h p) {kd m L H : Int} (hL : hI h p 1 = L) (hH : hI h p 2 = H) (L0 : 0 ≤ L ∧ L < 24) (H0 : 0 ≤ H ∧ H < 24) : ∃ h2, zC 43 [zR (some p), zI kd, zI m] h = some (.inl (some (zI (if kd = 2 then L else if kd = 3 then H else -1))), h2) ∧ hI h2 p 0 = hI h p 0 ∧ hI h2 p 1 = (if kd = 2 then L + 1 else L) ∧ hI h2 p 2 = (if kd = 3 then H + 1 else H) ∧ hI h2 (p + 9) = (if kd = 2 then upN (hI h (p + 9)) L.toNat m else hI h (p + 9)) ∧ (∀ j, 0 < j → j < 9 → hI h2 (p + j) = hI h (p + j)) ∧ Gw (Wr p) 0 0 h h2 := by
  have s1 : ∀ (g : zH) (x : Int), hI (sI g p 1 x) p 1 = x := fun g x => zup_s _ _ _ _
  have s2 : ∀ (g : zH) (x : Int), hI (sI g p 2 x) p 2 = x := fun g x => zup_s _ _ _ _
  have G1 : ∀ (x : Int) (k : Nat), k ≤ 2 → Gw (Wr p) 0 0 h (sI h p k x) := fun x k hk => Gw_sI (Gw_r _ _) _ (fun _ => Or.inl ⟨rfl, hk⟩)
  have hole : kd = 3 → kd ≠ 2 → ∃ h2, gd (-2147483648 ≤ (hI h p 2) + 1 ∧ (hI h p 2) + 1 < 2147483648) (gd (-2147483648 ≤ (hI (sI h p 2 ((hI h p 2) + 1)) p 2) - 1 ∧ (hI (sI h p 2 ((hI h p 2) + 1)) p 2) - 1 < 2147483648) (some (.inl (some (zI ((hI (sI h p 2 ((hI h p 2) + 1)) p 2) - 1))), (sI h p 2 ((hI h p 2) + 1))))) = (some (.inl (some (zI (if kd = 2 then L else if kd = 3 then H else -1))), h2) : zO) ∧ hI h2 p 0 = hI h p 0 ∧ hI h2 p 1 = (if kd = 2 then L + 1 else L) ∧ hI h2 p 2 = (if kd = 3 then H + 1 else H) ∧ hI h2 (p + 9) = (if kd = 2 then upN (hI h (p + 9)) L.toNat m else hI h (p + 9)) ∧ (∀ j, 0 < j → j < 9 → hI h2 (p + j) = hI h (p + j)) ∧ Gw (Wr p) 0 0 h h2 := fun k3 k2 => by
    rw [hH, gd_t (by omega), s2, gd_t (by omega), if_neg k2, if_pos k3, if_neg k2, if_pos k3, if_neg k2, show H + 1 - 1 = H by omega]
    exact ⟨_, rfl, hI_nk _ _ (by decide), (hI_nk _ _ (by decide)).trans hL, zup_s _ _ _ _, hI_ne _ _ (by omega), fun j j0 j1 => hI_ne _ _ (by omega), G1 _ 2 (by decide)⟩
  have none_ : kd ≠ 3 → kd ≠ 2 → ∃ h2, (some (.inl (some (zI (-1))), h) : zO) = some (.inl (some (zI (if kd = 2 then L else if kd = 3 then H else -1))), h2) ∧ hI h2 p 0 = hI h p 0 ∧ hI h2 p 1 = (if kd = 2 then L + 1 else L) ∧ hI h2 p 2 = (if kd = 3 then H + 1 else H) ∧ hI h2 (p + 9) = (if kd = 2 then upN (hI h (p + 9)) L.toNat m else hI h (p + 9)) ∧ (∀ j, 0 < j → j < 9 → hI h2 (p + j) = hI h (p + j)) ∧ Gw (Wr p) 0 0 h h2 := fun k3 k2 => by
    rw [if_neg k2, if_neg k3, if_neg k2, if_neg k3, if_neg k2]
    exact ⟨h, rfl, rfl, hL, hH, rfl, fun _ _ _ => rfl, Gw_r _ _⟩
  rw [q_P_takeNumber P]
  by_cases k2 : kd = 2
  · have e9 : hI (sI h (p + 9) (hI h p 1).toNat m) p 1 = L := (congrFun (hI_ne _ _ (by omega)) 1).trans hL
    rw [if_pos k2, if_neg (by omega), if_pos (by omega), e9, gd_t (by omega), s1, gd_t (by omega), if_pos k2, if_pos k2, if_pos k2, if_neg (by omega), show L + 1 - 1 = L by omega, hL]
    refine ⟨_, rfl, ?_, zup_s _ _ _ _, ?_, ?_, fun j j0 j1 => ?_, Gw_sI (Gw_sI (Gw_r _ _) _ (fun _ => Or.inr ⟨by omega, by omega⟩)) _ (fun _ => Or.inl ⟨rfl, by decide⟩)⟩
    · exact (hI_nk _ _ (by decide)).trans (congrFun (hI_ne _ _ (by omega)) 0)
    · exact (hI_nk _ _ (by decide)).trans ((congrFun (hI_ne _ _ (by omega)) 2).trans hH)
    · exact (hI_ne _ _ (by omega)).trans (hI_up _ _ _ _)
    · exact (hI_ne _ _ (by omega)).trans (hI_ne _ _ (by omega))
  · rw [if_neg k2]
    by_cases k3 : kd = 3
    · rw [if_pos k3]; exact hole k3 k2
    · rw [if_neg k3]; exact none_ k3 k2
/-- behind the link of a new statement -/
theorem c_addTail {g : zH} (P : PS g p) {kd m ar is y : Int} (m0 : 0 ≤ m ∧ m < 24) {L H : Int} (hl1 : hI g p 1 = L) (hH : hI g p 2 = H) (L0 : 0 ≤ L ∧ L < 24) (H0 : 0 ≤ H ∧ H < 24) (hn : hI g p 0 = m) : ∃ h2, zBack zY 38 153 156 [some (zR (some p)), some (zI kd), some (zI ar), some (zI is), some (zI m), some (zI y)] [zI m, zR (some (p + 4))] (zC 43 [zR (some p), zI kd, zI m] (sI (sI (sI g (p + 1) m.toNat kd) (p + 2) m.toNat (-1)) (p + 3) m.toNat ar)) = some (.inl (some (zI m)), h2) ∧ (hI h2 p 0 = m + 1 ∧ hI h2 p 1 = (if kd = 2 then L + 1 else L) ∧ hI h2 p 2 = (if kd = 3 then H + 1 else H)) ∧ (hI h2 (p + 1) = upN (hI g (p + 1)) m.toNat kd ∧ hI h2 (p + 2) = upN (hI g (p + 2)) m.toNat (-1) ∧ hI h2 (p + 3) = upN (hI g (p + 3)) m.toNat ar ∧ hI h2 (p + 4) = upN (hI g (p + 4)) m.toNat (if kd = 2 then L else if kd = 3 then H else -1) ∧ hI h2 (p + 5) = upN (hI g (p + 5)) m.toNat (-1) ∧ hI h2 (p + 6) = upN (hI g (p + 6)) m.toNat (-1) ∧ hI h2 (p + 7) = upN (hI g (p + 7)) m.toNat (-1) ∧ hI h2 (p + 9) = (if kd = 2 then upN (hI g (p + 9)) L.toNat m else hI g (p + 9))) ∧ Gw (Wr p) 0 0 g h2 := by
  have G1 : Gw (Wr p) 0 0 g (sI (sI (sI g (p + 1) m.toNat kd) (p + 2) m.toNat (-1)) (p + 3) m.toNat ar) := Gw_sI (Gw_sI (Gw_sI (Gw_r _ _) _ (fun _ => Or.inr ⟨by omega, by omega⟩)) _ (fun _ => Or.inr ⟨by omega, by omega⟩)) _ (fun _ => Or.inr ⟨by omega, by omega⟩)
  have b0 : ∀ k, hI (sI (sI (sI g (p + 1) m.toNat kd) (p + 2) m.toNat (-1)) (p + 3) m.toNat ar) p k = hI g p k := fun k => congrFun ((hI_ne _ _ (by omega)).trans ((hI_ne _ _ (by omega)).trans (hI_ne _ _ (by omega)))) k
  have b1 : hI (sI (sI (sI g (p + 1) m.toNat kd) (p + 2) m.toNat (-1)) (p + 3) m.toNat ar) (p + 1) = upN (hI g (p + 1)) m.toNat kd := (hI_ne _ _ (by omega)).trans ((hI_ne _ _ (by omega)).trans (hI_up _ _ _ _))
  have b2 : hI (sI (sI (sI g (p + 1) m.toNat kd) (p + 2) m.toNat (-1)) (p + 3) m.toNat ar) (p + 2) = upN (hI g (p + 2)) m.toNat (-1) := (hI_ne _ _ (by omega)).trans ((hI_up _ _ _ _).trans (by rw [hI_ne _ _ (by omega)]))
  have b3 : hI (sI (sI (sI g (p + 1) m.toNat kd) (p + 2) m.toNat (-1)) (p + 3) m.toNat ar) (p + 3) = upN (hI g (p + 3)) m.toNat ar := (hI_up _ _ _ _).trans (by rw [hI_ne _ _ (by omega), hI_ne _ _ (by omega)])
  have b4 : ∀ j, 4 ≤ j → hI (sI (sI (sI g (p + 1) m.toNat kd) (p + 2) m.toNat (-1)) (p + 3) m.toNat ar) (p + j) = hI g (p + j) := fun j hj => (hI_ne _ _ (by omega)).trans ((hI_ne _ _ (by omega)).trans (hI_ne _ _ (by omega)))
  have wr3 : ∀ k, 3 ≤ k → ¬ Wr p p k := fun k hk z => by unfold Wr at z; omega
  have P1 := PS_g P G1 wr3
  generalize sI (sI (sI g (p + 1) m.toNat kd) (p + 2) m.toNat (-1)) (p + 3) m.toNat ar = a at *
  obtain ⟨c, ec, c0, c1, c2, c9, cj, Gc⟩ := c_takeNumber P1 (kd := kd) (m := m) ((b0 1).trans hl1) ((b0 2).trans hH) L0 H0
  have P2 := PS_g P1 Gc wr3
  have t4 : hT c (p + 4) = 22 := PS_t P2 4 22 rfl rfl
  have l4 : ((hL c (p + 4) : Nat) : Int) = 24 := PS_l P2 4 rfl
  rw [ec, q_P_add_r156 P2 t4 (PS_ni P2 4 rfl), gd_t (by rw [l4]; exact m0), gd_t m0]
  generalize hq : (if kd = 2 then L else if kd = 3 then H else -1) = q at *
  have d0 : ∀ k, hI (sI (sI (sI (sI (sI c (p + 4) m.toNat q) (p + 5) m.toNat (-1)) (p + 6) m.toNat (-1)) (p + 7) m.toNat (-1)) (p + 8) m.toNat (-1)) p k = hI c p k := fun k => congrFun ((hI_ne _ _ (by omega)).trans ((hI_ne _ _ (by omega)).trans ((hI_ne _ _ (by omega)).trans ((hI_ne _ _ (by omega)).trans (hI_ne _ _ (by omega)))))) k
  have e0 : hI c p 0 = m := c0.trans ((b0 0).trans hn)
  rw [d0 0, e0, gd_t (by omega)]
  have nn : ∀ {j i : Nat}, j ≠ i → p + j ≠ p + i := fun z => by omega
  have np : ∀ {j : Nat}, 0 < j → p + j ≠ p := fun z => by omega
  refine ⟨_, rfl, ⟨zup_s _ _ _ _, ?_, ?_⟩, ⟨?_, ?_, ?_, ?_, ?_, ?_, ?_, ?_⟩, ?_⟩
  · exact (hI_nk _ _ (by decide)).trans ((d0 1).trans c1)
  · exact (hI_nk _ _ (by decide)).trans ((d0 2).trans c2)
  · rw [hI_ne _ _ (np (by decide)), hI_ne _ _ (nn (by decide)), hI_ne _ _ (nn (by decide)), hI_ne _ _ (nn (by decide)), hI_ne _ _ (nn (by decide)), hI_ne _ _ (nn (by decide)), cj 1 (by decide) (by decide), b1]
  · rw [hI_ne _ _ (np (by decide)), hI_ne _ _ (nn (by decide)), hI_ne _ _ (nn (by decide)), hI_ne _ _ (nn (by decide)), hI_ne _ _ (nn (by decide)), hI_ne _ _ (nn (by decide)), cj 2 (by decide) (by decide), b2]
  · rw [hI_ne _ _ (np (by decide)), hI_ne _ _ (nn (by decide)), hI_ne _ _ (nn (by decide)), hI_ne _ _ (nn (by decide)), hI_ne _ _ (nn (by decide)), hI_ne _ _ (nn (by decide)), cj 3 (by decide) (by decide), b3]
  · rw [hI_ne _ _ (np (by decide)), hI_ne _ _ (nn (by decide)), hI_ne _ _ (nn (by decide)), hI_ne _ _ (nn (by decide)), hI_ne _ _ (nn (by decide)), hI_up, cj 4 (by decide) (by decide), b4 4 (by decide)]
  · rw [hI_ne _ _ (np (by decide)), hI_ne _ _ (nn (by decide)), hI_ne _ _ (nn (by decide)), hI_ne _ _ (nn (by decide)), hI_up, hI_ne _ _ (nn (by decide)), cj 5 (by decide) (by decide), b4 5 (by decide)]
  · rw [hI_ne _ _ (np (by decide)), hI_ne _ _ (nn (by decide)), hI_ne _ _ (nn (by decide)), hI_up, hI_ne _ _ (nn (by decide)), hI_ne _ _ (nn (by decide)), cj 6 (by decide) (by decide), b4 6 (by decide)]
  · rw [hI_ne _ _ (np (by decide)), hI_ne _ _ (nn (by decide)), hI_up, hI_ne _ _ (nn (by decide)), hI_ne _ _ (nn (by decide)), hI_ne _ _ (nn (by decide)), cj 7 (by decide) (by decide), b4 7 (by decide)]
  · rw [hI_ne _ _ (np (by decide)), hI_ne _ _ (nn (by decide)), hI_ne _ _ (nn (by decide)), hI_ne _ _ (nn (by decide)), hI_ne _ _ (nn (by decide)), hI_ne _ _ (nn (by decide)), c9, b4 9 (by decide)]
  · have wj : ∀ j, 0 < j → j < 10 → ∀ k, Wr p (p + j) k := fun j j0 j1 k => Or.inr ⟨by omega, by omega⟩
    exact Gw_sI (Gw_sI (Gw_sI (Gw_sI (Gw_sI (Gw_sI (Gw_t G1 Gc (fun _ _ _ z => z)) _ (fun _ => wj 4 (by decide) (by decide) _)) _ (fun _ => wj 5 (by decide) (by decide) _)) _ (fun _ => wj 6 (by decide) (by decide) _)) _ (fun _ => wj 7 (by decide) (by decide) _)) _ (fun _ => wj 8 (by decide) (by decide) _)) _ (fun _ => Or.inl ⟨rfl, by decide⟩)
/-- a new statement behind all others -/
theorem c_addC {kd : Int} (C : CRo h p v n R) (V : IVR n top R row sec last) (h24 : n < 24) (e : newR kd (-1) n row sec last R R2) (hv : p + 10 < v) : ∃ h2, zC 38 [zR (some p), zI kd, zI row, zI sec] h = some (.inl (some (zI n)), h2) ∧ CRo h2 p v (n + 1) R2 ∧ Gw (Wr p) 0 0 h h2 := by
  obtain ⟨P, Vv, c, ⟨x0, x1, x2⟩, y, z⟩ := id C
  have v4 := V.2.2.2.1
  have v5 := V.2.2.2.2.1
  have v6 := V.2.2.2.2.2.1
  have hs : sec = 0 ∨ sec = 1 := by omega
  have cb1 := cntK_b R 2 n.toNat
  have cb2 := cntK_b R 3 n.toNat
  have wr3 : ∀ k, 3 ≤ k → ¬ Wr p p k := fun k hk z => by unfold Wr at z; omega
  -- the three links, and what they leave
  have tail : ∀ (g : zH) (y1 : Int), (hI g p = hI h p ∧ (∀ j, j = 1 ∨ j = 2 ∨ j = 3 ∨ j = 4 ∨ j = 9 → hI g (p + j) = hI h (p + j))) → (∀ s, 0 ≤ s → s < n → hI g (p + 5) s.toNat = sv R2 s 4 ∧ hI g (p + 6) s.toNat = sv R2 s 5 ∧ hI g (p + 7) s.toNat = sv R2 s 6) → Gw (Wr p) 0 0 h g → ∃ h2, zBack zY 38 153 156 [some (zR (some p)), some (zI kd), some (zI row), some (zI sec), some (zI n), some (zI y1)] [zI n, zR (some (p + 4))] (zC 43 [zR (some p), zI kd, zI n] (sI (sI (sI g (p + 1) n.toNat kd) (p + 2) n.toNat (-1)) (p + 3) n.toNat row)) = some (.inl (some (zI n)), h2) ∧ CRo h2 p v (n + 1) R2 ∧ Gw (Wr p) 0 0 h h2 := fun g y1 ⟨gp, gj⟩ g5 Gg => by
    obtain ⟨h2, e2, ⟨d0, d1, d2⟩, ⟨r1, r2, r3, r4, r5, r6, r7, r9⟩, G2⟩ := c_addTail (PS_g P Gg wr3) (kd := kd) (m := n) (ar := row) (is := sec) (y := y1) (by omega) ((congrFun gp 1).trans x1) ((congrFun gp 2).trans x2) (by omega) (by omega) ((congrFun gp 0).trans x0)
    rw [gj 1 (by omega)] at r1
    rw [gj 2 (by omega)] at r2
    rw [gj 3 (by omega)] at r3
    rw [gj 4 (by omega)] at r4
    rw [gj 9 (by omega)] at r9
    have G3 : Gw (Wr p) 0 0 h h2 := Gw_m (Gw_t Gg G2 (fun _ _ _ q => q)) (fun _ _ _ q => q) (by omega) (by omega)
    have e1 : (n + 1).toNat = n.toNat + 1 := by omega
    have kn : sv R2 n 0 = kd := by rw [e.2 0 (by decide) (by decide), if_pos rfl]
    have c2 : ∀ k, cntK R2 k n.toNat = cntK R k n.toNat := fun k => cntK_congr (fun s a b => new_o e hs a (by omega) (by decide) (by decide) (by decide) (by omega))
    have e3 : ((n.toNat : Nat) : Int) = n := by omega
    have o : ∀ s k, 0 ≤ s → s < n → 0 ≤ k → k < 8 → k ≠ 4 → k ≠ 5 → k ≠ 6 → sv R2 s k = sv R s k := fun s k a b a1 a2 a3 a4 a5 => new_o e hs a b a1 a2 a3 (by omega)
    have n7 : sv R2 n 7 = (if kd = 2 ∨ kd = 3 then cntK R kd n.toNat else -1) := (e.2 7 (by decide) (by decide)).trans rfl
    have nr : ∀ k, 0 ≤ k → k < 10 → sv R2 n k = if k = 0 then kd else if k = 1 then -1 else if k = 2 then (if row = -1 then 0 else sv R row 2 + 1) else if k = 3 then row else if k = 7 then (if kd = 2 ∨ kd = 3 then cntK R kd n.toNat else -1) else if k = 8 ∨ k = 9 then 0 else -1 := fun k a b => e.2 k a b
    have vg : ∀ j k, ¬ Wr p (v + j) k := fun j k q => by unfold Wr at q; omega
    have vg0 : ∀ k, ¬ Wr p v k := fun k q => by unfold Wr at q; omega
    have hvn := Vv.2.1
    refine ⟨h2, e2, ⟨PS_g P G3 wr3, VS_g Vv G3 (fun k _ => vg0 k), by omega, ⟨d0, ?_, ?_⟩, fun s s0 s1 => ?_, fun i hi => ?_⟩, G3⟩
    · rw [d1, e1, cntK_s, c2, e3, kn]
      by_cases q : kd = 2
      · rw [if_pos q, if_pos q]
      · rw [if_neg q, if_neg q]; omega
    · rw [d2, e1, cntK_s, c2, e3, kn]
      by_cases q : kd = 3
      · rw [if_pos q, if_pos q]
      · rw [if_neg q, if_neg q]; omega
    · by_cases q : s = n
      · subst q
        rw [r1, r2, r3, r4, r5, r6, r7, upN_s, upN_s, upN_s, upN_s, upN_s, upN_s, upN_s]
        refine ⟨⟨kn.symm, ?_, ?_, ?_, ?_, ?_, ?_⟩, fun _ => ?_, fun k2 => ?_⟩
        · rw [nr 1 (by decide) (by decide)]; rfl
        · rw [nr 3 (by decide) (by decide)]; rfl
        · rw [n7]
          by_cases q2 : kd = 2
          · rw [if_pos q2, if_pos (Or.inl q2), q2]
          · by_cases q3 : kd = 3
            · rw [if_neg q2, if_pos q3, if_pos (Or.inr q3), q3]
            · rw [if_neg q2, if_neg q3, if_neg (by omega)]
        · rw [nr 4 (by decide) (by decide)]; rfl
        · rw [nr 5 (by decide) (by decide)]; rfl
        · rw [nr 6 (by decide) (by decide)]; rfl
        · rw [nr 1 (by decide) (by decide)]; rfl
        · rw [kn] at k2
          rw [n7, if_pos (Or.inl k2), r9, if_pos k2, k2, upN_s]
      · have s2 : s < n := by omega
        have sn : s.toNat ≠ n.toNat := by omega
        obtain ⟨⟨a1, a2, a3, a4, _, _, _⟩, a8, a9⟩ := y s s0 s2
        obtain ⟨b5, b6, b7⟩ := g5 s s0 s2
        rw [r1, r2, r3, r4, r5, r6, r7, upN_n _ _ sn, upN_n _ _ sn, upN_n _ _ sn, upN_n _ _ sn, upN_n _ _ sn, upN_n _ _ sn, upN_n _ _ sn, a1, a2, a3, a4, b5, b6, b7, o s 0 s0 s2 (by decide) (by decide) (by decide) (by decide) (by decide), o s 1 s0 s2 (by decide) (by decide) (by decide) (by decide) (by decide), o s 3 s0 s2 (by decide) (by decide) (by decide) (by decide) (by decide), o s 7 s0 s2 (by decide) (by decide) (by decide) (by decide) (by decide)]
        refine ⟨⟨rfl, rfl, rfl, rfl, rfl, rfl, rfl⟩, a8, fun k2 => ?_⟩
        have u := (V.2.1 s s0 s2).1 (Or.inl k2)
        rw [k2] at u
        have lt := cntK_m R 2 (s.toNat + 1) (n.toNat - (s.toNat + 1))
        rw [show s.toNat + 1 + (n.toNat - (s.toNat + 1)) = n.toNat by omega, cntK_s, show ((s.toNat : Nat) : Int) = s by omega, if_pos k2] at lt
        have u0 := cntK_b R 2 s.toNat
        rw [r9]
        by_cases q2 : kd = 2
        · rw [if_pos q2, upN_n _ _ (by omega)]; exact a9 k2
        · rw [if_neg q2]; exact a9 k2
    · rw [grI G3 (a := v + 3) (by omega) (vg 3), grI G3 (a := v + 4) (by omega) (vg 4)]
      exact z i hi
  have hlast : b_P_has h p last ↔ last ≠ -1 := by
    rw [CRo_has C]; omega
  have hrow : b_P_has h p row ↔ row ≠ -1 := by
    rw [CRo_has C]; omega
  have bk : ∀ (X : zO), X = some (.inl (some (zI last)), h) → ∃ h2, zBack zY 38 54 57 [some (zR (some p)), some (zI kd), some (zI row), some (zI sec), some (zI n), none] [] X = some (.inl (some (zI n)), h2) ∧ CRo h2 p v (n + 1) R2 ∧ Gw (Wr p) 0 0 h h2 := fun X hX => by
    rw [hX, q_P_add_r57 P]
    have same : ∀ s, 0 ≤ s → s < n → hI h (p + 5) s.toNat = sv R s 4 ∧ hI h (p + 6) s.toNat = sv R s 5 ∧ hI h (p + 7) s.toNat = sv R s 6 := fun s s0 s1 => ⟨(y s s0 s1).1.2.2.2.2.1, (y s s0 s1).1.2.2.2.2.2.1, (y s s0 s1).1.2.2.2.2.2.2⟩
    by_cases q : last = -1
    · rw [if_neg (fun c => (hlast.1 c) q)]
      by_cases q2 : row = -1
      · rw [if_neg (fun c => (hrow.1 c) q2), gd_t (by omega)]
        refine tail h last ⟨rfl, fun _ _ => rfl⟩ (fun s s0 s1 => ?_) (Gw_r _ _)
        obtain ⟨a, b, c⟩ := same s s0 s1
        rw [a, b, c, new_4 e hs s0 s1 (by omega), new_h e hs s0 s1 (Or.inl rfl) (by omega), new_h e hs s0 s1 (Or.inr rfl) (by omega)]
        exact ⟨rfl, rfl, rfl⟩
      · rw [if_pos (hrow.2 q2)]
        by_cases q3 : sec = 0
        · rw [if_pos q3, gd_t (by omega)]
          refine tail _ last ⟨hI_ne _ _ (by omega), fun j hj => hI_ne _ _ (by omega)⟩ (fun s s0 s1 => ?_) (Gw_sI (Gw_r _ _) _ (fun _ => Or.inr ⟨by omega, by omega⟩))
          obtain ⟨a, b, c⟩ := same s s0 s1
          rw [(hI_ne _ _ (by omega) : hI (sI h (p + 6) row.toNat n) (p + 5) = _), (hI_ne _ _ (by omega) : hI (sI h (p + 6) row.toNat n) (p + 7) = _), hI_up, a, c, new_4 e hs s0 s1 (by omega), new_h e hs s0 s1 (Or.inr rfl) (by omega)]
          refine ⟨rfl, ?_, rfl⟩
          by_cases q4 : s = row
          · rw [q4, upN_s, e.1 row 5 (by omega) (by omega) (by decide) (by decide), if_neg (by omega), if_pos ⟨q, q2, rfl, by omega⟩]
          · rw [upN_n _ _ (by omega), b, new_h e hs s0 s1 (Or.inl rfl) (by omega)]
        · rw [if_neg q3, gd_t (by omega)]
          refine tail _ last ⟨hI_ne _ _ (by omega), fun j hj => hI_ne _ _ (by omega)⟩ (fun s s0 s1 => ?_) (Gw_sI (Gw_r _ _) _ (fun _ => Or.inr ⟨by omega, by omega⟩))
          obtain ⟨a, b, c⟩ := same s s0 s1
          rw [(hI_ne _ _ (by omega) : hI (sI h (p + 7) row.toNat n) (p + 5) = _), (hI_ne _ _ (by omega) : hI (sI h (p + 7) row.toNat n) (p + 6) = _), hI_up, a, b, new_4 e hs s0 s1 (by omega), new_h e hs s0 s1 (Or.inl rfl) (by omega)]
          refine ⟨rfl, rfl, ?_⟩
          by_cases q4 : s = row
          · rw [q4, upN_s, e.1 row 6 (by omega) (by omega) (by decide) (by decide), if_neg (by omega), if_pos ⟨q, q2, rfl, by omega⟩]
          · rw [upN_n _ _ (by omega), c, new_h e hs s0 s1 (Or.inr rfl) (by omega)]
    · rw [if_pos (hlast.2 q), gd_t (by omega)]
      refine tail _ last ⟨hI_ne _ _ (by omega), fun j hj => hI_ne _ _ (by omega)⟩ (fun s s0 s1 => ?_) (Gw_sI (Gw_r _ _) _ (fun _ => Or.inr ⟨by omega, by omega⟩))
      obtain ⟨a, b, c⟩ := same s s0 s1
      rw [(hI_ne _ _ (by omega) : hI (sI h (p + 5) last.toNat n) (p + 6) = _), (hI_ne _ _ (by omega) : hI (sI h (p + 5) last.toNat n) (p + 7) = _), hI_up, b, c, new_h e hs s0 s1 (Or.inl rfl) (by omega), new_h e hs s0 s1 (Or.inr rfl) (by omega)]
      refine ⟨?_, rfl, rfl⟩
      by_cases q4 : s = last
      · rw [q4, upN_s, e.1 last 4 (by omega) (by omega) (by decide) (by decide), if_pos ⟨q, rfl, rfl⟩]
      · rw [upN_n _ _ (by omega), a, new_4 e hs s0 s1 q4]
  have hh := CRo_hd C V
  have cl := c_lastOfRow C V
  rw [q_P_add P, x0, if_neg (by omega), if_pos (by omega)]
  by_cases q2 : row = -1
  · rw [if_pos q2] at hh
    rw [if_pos q2, hh]; exact bk _ cl
  · rw [if_neg q2] at hh
    rw [if_neg q2]
    by_cases q3 : sec = 0
    · rw [if_pos q3] at hh
      rw [if_pos q3, hh]; exact bk _ cl
    · rw [if_neg q3] at hh
      rw [if_neg q3, hh]; exact bk _ cl
end CADD

