/-! The reference: what is asked, answered. -/
section API2
variable {n top : Int} {R N : Nat → Int}
abbrev scrQ : FA := [(187, none), (177, some 21), (177, some 27), (177, some 28), (177, some 29), (177, some 30), (177, some 31), (192, none), (193, none), (194, none), (195, none), (188, none), (189, none), (190, none), (191, none), (177, some 26), (177, some 1)]
/-- the reference's call q answers v and shows k as what was thrown -/
def MA (h : zH) (q : Nat) (as : List zV) (a : Int × zV) : Prop := ∃ h2, zC q (zR (some 177) :: as) h = some (.inl (some a.2), h2) ∧ hI h2 177 1 = a.1 ∧ Fr scrQ h h2
theorem MA_i {h g : zH} {q : Nat} {as : List zV} {k : Int} {v : zV} (F : Fr scrQ h g) (e : zC q (zR (some 177) :: as) h = some (.inl (some v), sI g 177 1 k)) : MA h q as (k, v) := ⟨_, e, rfl, Fr_I F rfl⟩
def fhS (n : Int) (R N : Nat → Int) : Int := zsum (fun k => if sv R k 0 = 3 ∧ ¬ N (2294 + k).toNat = -1 then 1 else 0) 0 n.toNat
theorem f_M_filledHoles_e {h : zH} (M : MB n top R N h) : f_M_filledHoles h = fhS n R N := by
  unfold f_M_filledHoles fhS f_M_filling
  rw [M.2.1]
  simp only [f_M_s_e, M.2.2.2.1, M.2.2.2.2]
def aValue (c n top : Int) (R N : Nat → Int) (x : Int) : Int × zV :=
  if 0 ≤ x ∧ x ≤ 7 then (0, zI (if x = 0 then n else if x = 1 then cntK R 2 n.toNat else if x = 2 then cntK R 3 n.toNat else if x = 3 then fhS n R N else if x = 4 then dmS n R else if x = 5 then nfS n top R N (TT n R N) (NN n R N) else if x = 6 then (if nfS n top R N (TT n R N) (NN n R N) = 0 then 1 else 0) else c))
  else (1, zI 0)
theorem f_M_manyOf_e {h : zH} (M : MB n top R N h) (kd : Int) : f_M_manyOf h kd = cntK R kd n.toNat := by
  unfold f_M_manyOf cntK
  rw [M.2.1]
  simp only [f_M_s_e, M.2.2.2.1]
theorem m_value {h : zH} (M : MB n top R N h) (P : Prg n top R N) {c : Int} (hc : hI h 177 5 = c) (x : Int) : MA h 241 [zI x] (aValue c n top R N x) := by
  have S := Prg_S P
  have w0 := P.1.1
  have m1 := M.2.1
  unfold aValue
  have hq := q_M_value (h := h) (x1 := x) M.1
  by_cases c0 : 0 ≤ x ∧ x ≤ 7
  · rw [if_pos c0] at hq ⊢
    by_cases x0 : x = 0
    · rw [if_pos x0] at hq ⊢
      rw [m1] at hq
      exact MA_i (Fr_r _ _) hq
    rw [if_neg x0] at hq ⊢
    by_cases x1 : x = 1
    · rw [if_pos x1] at hq ⊢
      rw [f_M_manyOf_e M] at hq
      exact MA_i (Fr_r _ _) hq
    rw [if_neg x1] at hq ⊢
    by_cases x2 : x = 2
    · rw [if_pos x2] at hq ⊢
      rw [f_M_manyOf_e M] at hq
      exact MA_i (Fr_r _ _) hq
    rw [if_neg x2] at hq ⊢
    by_cases x3 : x = 3
    · rw [if_pos x3] at hq ⊢
      rw [f_M_filledHoles_e M] at hq
      exact MA_i (Fr_r _ _) hq
    rw [if_neg x3] at hq ⊢
    by_cases x4 : x = 4
    · rw [if_pos x4] at hq ⊢
      rw [f_M_dutyMany_e M] at hq
      exact MA_i (Fr_r _ _) hq
    rw [if_neg x4] at hq ⊢
    by_cases x5 : x = 5
    · rw [if_pos x5] at hq ⊢
      obtain ⟨g, e, F⟩ := c_failsNow M S
      rw [e, q_M_value_r112 (KM_f M.1 F rfl)] at hq
      exact MA_i (Fr_m F rfl) hq
    rw [if_neg x5] at hq ⊢
    by_cases x6 : x = 6
    · rw [if_pos x6] at hq ⊢
      obtain ⟨g, e, F⟩ := c_isProven M S
      rw [e, q_M_value_r121 (KM_f M.1 F rfl)] at hq
      by_cases z : nfS n top R N (TT n R N) (NN n R N) = 0
      · rw [if_pos z, if_neg (by decide)] at hq
        rw [if_pos z]
        exact MA_i (Fr_m F rfl) hq
      · rw [if_neg z, if_pos rfl] at hq
        rw [if_neg z]
        exact MA_i (Fr_m F rfl) hq
    rw [if_neg x6] at hq ⊢
    rw [hc] at hq
    exact MA_i (Fr_r _ _) hq
  · rw [if_neg c0] at hq ⊢
    exact MA_i (Fr_r _ _) hq
def aStatement (n : Int) (R N : Nat → Int) (s x : Int) : Int × zV :=
  if 0 ≤ s ∧ s < n then
    (if x = 0 then (0, zI (sv R s 0)) else if x = 1 then (0, zI (if sv R s 0 = 3 ∧ ¬ N (2294 + s).toNat = -1 then N (2294 + s).toNat / 13 else sv R s 1)) else if x = 2 then (0, zI (sv R s 2)) else if x = 3 then (0, zI (sv R s 8)) else if x = 4 then (0, zI (sv R s 9)) else if x = 5 then (0, zI (N (2318 + s).toNat)) else if x = 6 then (0, zI (if sv R s 0 = 3 then 0 else if sv R s 0 = 2 then N (31 * (2 + s)).toNat + (N (31 * (26 + s)).toNat + N (31 * (50 + s)).toNat) else N (31 * (2 + s)).toNat)) else if x = 7 then (0, zI (sv R s 7)) else (2, zI 0))
  else (1, zI 0)
theorem isSt_e {h : zH} (M : MB n top R N h) (s : Int) : b_M_isStatement h s ↔ 0 ≤ s ∧ s < n := by
  show 0 ≤ s ∧ s ≤ hI h 177 10 - 1 ↔ _
  rw [M.2.1]
  omega
theorem m_statement {h : zH} (M : MB n top R N h) (P : Prg n top R N) (s x : Int) : MA h 276 [zI s, zI x] (aStatement n R N s x) := by
  have w0 := P.1.1
  have m1 := M.2.1
  have es : ∀ k, f_M_s h s k = sv R s k := fun k => by rw [f_M_s_e, M.2.2.2.1]
  have ef : f_M_filling h s = N (2294 + s).toNat := by unfold f_M_filling; rw [M.2.2.2.2]
  have hN := M.2.2.2.2
  unfold aStatement
  by_cases c0 : 0 ≤ s ∧ s < n
  · have v1 := P.2.1.2.2 s c0.1 c0.2
    have f1 : ∀ q, 0 ≤ q → q < 74 → fmOk N q true ∨ fmOk N q false → 0 ≤ hI h 179 (31 * q).toNat ∧ hI h 179 (31 * q).toNat ≤ 30 := fun q _ _ hf => by
      rw [hN]; rcases hf with hf | hf <;> exact ⟨hf.1, hf.2.1⟩
    have n1 : sv R s 0 = 3 ∨ (0 ≤ hI h 179 (31 * (2 + s)).toNat ∧ hI h 179 (31 * (2 + s)).toNat ≤ 30) := by
      by_cases k3 : sv R s 0 = 3
      · exact Or.inl k3
      · refine Or.inr (f1 _ (by omega) (by omega) ?_)
        have hk := (P.1.2.1 s c0.1 c0.2).1
        by_cases k0 : sv R s 0 = 0
        · exact Or.inr (v1.1 k0)
        · by_cases k1 : sv R s 0 = 1
          · exact Or.inl (v1.2.1 k1)
          · exact Or.inl (v1.2.2.1 (by omega)).1
    have n2 : sv R s 0 = 2 → (0 ≤ hI h 179 (31 * (26 + s)).toNat ∧ hI h 179 (31 * (26 + s)).toNat ≤ 30) ∧ (0 ≤ hI h 179 (31 * (50 + s)).toNat ∧ hI h 179 (31 * (50 + s)).toNat ≤ 30) := fun k2 => ⟨f1 _ (by omega) (by omega) (Or.inl (v1.2.2.1 k2).2.1), f1 _ (by omega) (by omega) (Or.inr (v1.2.2.1 k2).2.2)⟩
    have e0 := es 0
    have v3 := v1.2.2.2.1
    have hq := q_M_statement (h := h) (x1 := s) (x2 := x) M.1
    rw [if_pos ((isSt_e M s).2 c0)] at hq
    rw [if_pos c0]
    by_cases x0 : x = 0
    · subst x0
      rw [if_pos rfl, es] at hq
      exact MA_i (Fr_r _ _) hq
    rw [if_neg x0] at hq ⊢
    by_cases x1 : x = 1
    · rw [if_pos x1] at hq ⊢
      have ev : f_M_variableOf h s = if sv R s 0 = 3 ∧ ¬ N (2294 + s).toNat = -1 then N (2294 + s).toNat / 13 else sv R s 1 := by
        unfold f_M_variableOf f_M_fillVariable
        rw [es, es, ef]
        by_cases k3 : sv R s 0 = 3
        · by_cases kf : N (2294 + s).toNat = -1
          · rw [if_pos k3, if_pos kf, if_neg (fun q => q.2 kf)]
          · rw [if_pos k3, if_neg kf, if_pos ⟨k3, kf⟩]
        · rw [if_neg k3, if_neg (fun q => k3 q.1)]
      rw [ev] at hq
      exact MA_i (Fr_r _ _) hq
    rw [if_neg x1] at hq ⊢
    by_cases x2 : x = 2
    · subst x2
      rw [if_pos rfl, es] at hq
      exact MA_i (Fr_r _ _) hq
    rw [if_neg x2] at hq ⊢
    by_cases x3 : x = 3
    · rw [if_pos x3] at hq ⊢
      rw [es] at hq
      exact MA_i (Fr_r _ _) hq
    rw [if_neg x3] at hq ⊢
    by_cases x4 : x = 4
    · rw [if_pos x4] at hq ⊢
      rw [es] at hq
      exact MA_i (Fr_r _ _) hq
    rw [if_neg x4] at hq ⊢
    by_cases x5 : x = 5
    · rw [if_pos x5] at hq ⊢
      rw [gd_t (by omega), gd_t (by omega), hN] at hq
      exact MA_i (Fr_r _ _) hq
    rw [if_neg x5] at hq ⊢
    by_cases x6 : x = 6
    · rw [if_pos x6] at hq ⊢
      have ev : f_M_nodesOf h s = if sv R s 0 = 3 then 0 else if sv R s 0 = 2 then N (31 * (2 + s)).toNat + (N (31 * (26 + s)).toNat + N (31 * (50 + s)).toNat) else N (31 * (2 + s)).toNat := by
        unfold f_M_nodesOf
        rw [es, hN, Int.add_zero]
      rw [ev] at hq
      exact MA_i (Fr_r _ _) hq
    rw [if_neg x6] at hq ⊢
    by_cases x7 : x = 7
    · rw [if_pos x7] at hq ⊢
      rw [es] at hq
      exact MA_i (Fr_r _ _) hq
    rw [if_neg x7] at hq ⊢
    exact MA_i (Fr_r _ _) hq
  · have hs := isSt_e M s
    have hq := q_M_statement (h := h) (x1 := s) (x2 := x) M.1 (g0 := by omega) (g1 := fun q => absurd (hs.1 q) c0) (g2 := fun q => absurd (hs.1 q) c0) (g3 := fun q => absurd (hs.1 q) c0) (g4 := fun q => absurd (hs.1 q) c0) (g5 := fun q => absurd (hs.1 q) c0) (g6 := fun q => absurd (hs.1 q) c0) (g7 := fun q => absurd (hs.1 q) c0) (g8 := fun q => absurd (hs.1 q) c0) (g9 := fun q => absurd (hs.1 q) c0) (g10 := fun q => absurd (hs.1 q) c0)
    rw [if_neg (fun q => c0 (hs.1 q))] at hq
    rw [if_neg c0]
    exact MA_i (Fr_r _ _) hq
end API2
