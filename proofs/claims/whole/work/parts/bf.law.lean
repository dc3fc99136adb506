/-! The law's beginning, and its run. -/
section BFL
set_option maxRecDepth 1000000
theorem ql_0 {h : zH} (hn : hN h = 0) : zY 392 0 (zini [zR (some zVB)] 10) [] h = zBack zY 392 4 7 [some (zR (some zVB)), none, none, none, none, none, none, none, none, none] [zR (some 0)] (zC 146 [zR (some 0)] (hNew h 11 15)) := by
  obtain ⟨hN0, U, T, L, R, I, J, F, D⟩ := h
  obtain rfl : hN0 = 0 := hn
  exact zGo 3 _ _ _ _ _
theorem ql_7 {h : zH} (hn : hN h = 177) : zY 392 7 [some (zR (some zVB)), none, none, none, none, none, none, none, none, none] [zR (some 0)] h = zBack zY 392 12 15 [some (zR (some zVB)), some (zR (some 0)), none, none, none, none, none, none, none, none] [zR (some 177)] (zC 203 [zR (some 177)] (hNew h 12 47)) := by
  obtain ⟨hN0, U, T, L, R, I, J, F, D⟩ := h
  obtain rfl : hN0 = 177 := hn
  exact zGo 4 _ _ _ _ _
theorem ql_15 {h : zH} (hn : hN h = 197) : zY 392 15 [some (zR (some zVB)), some (zR (some 0)), none, none, none, none, none, none, none, none] [zR (some 177)] h = zY 392 28 (bl 0) [] (hNew (hNew h 23 1) 24 1) := by
  obtain ⟨hN0, U, T, L, R, I, J, F, D⟩ := h
  obtain rfl : hN0 = 197 := hn
  exact zGo 9 _ _ _ _ _
theorem l_start (L : Nat) (xs : Nat → Int32) : ∃ h, zY 392 0 (zini [zR (some zVB)] 10) [] (zH0 L xs) = zY 392 28 (bl 0) [] h ∧ JX h L (fun j => (xs j).toInt) (fpS 0 (-1)) ∧ hN h = 199 ∧ hU h ≤ 70000 := by
  have z9 : zVB = 10000000 := rfl
  have n0 : hN (zH0 L xs) = 0 := rfl
  have u0 : hU (zH0 L xs) = 0 := rfl
  have s1 : hT (zH0 L xs) zVB = 22 := by rw [hT_0, if_pos rfl]
  have s2 : hL (zH0 L xs) zVB = L := by rw [hL_0, if_pos rfl]
  have s3 : hI (zH0 L xs) zVB = fun j => (xs j).toInt := funext fun j => by rw [hI_0, if_pos rfl]
  have Ks := KS_z L xs
  generalize zH0 L xs = h0 at *
  obtain ⟨h1, e1, n1, J1, G1⟩ := c_newB n0 Ks
  obtain ⟨h2, e2, n2, K2, m177, m179, m183, m181, m182, m185, m186, G2⟩ := c_newM n1
  have J2 := CJ_0 J1 G2
  obtain ⟨_, ⟨zR0, zN0⟩, P, X⟩ := fp_all
  have M2 : MM h2 (fpS 0 (-1)) := ⟨⟨K2, by rw [m177]; rfl, by rw [m177]; rfl, m183, m179⟩, ⟨by rw [m177]; rfl, fun i hi => absurd hi (Nat.not_lt_zero _)⟩, ⟨by rw [m177]; rfl, (fun N q => by cases q), (fun N q => by cases q)⟩, ⟨m185, by rw [m177]; rfl⟩, ⟨by rw [m177]; rfl, by decide, rfl⟩, by rw [m177]; rfl, by rw [m177]; rfl⟩
  have Ga := Gw_new W0 h2 23 1 (by omega)
  have na : hN (hNew h2 23 1) = 198 := by show hN h2 + 1 = 198; omega
  have Gb := Gw_new W0 (hNew h2 23 1) 24 1 (by omega)
  have G3 := Gw_t Ga Gb (fun _ _ _ z => z)
  have ta : hT (hNew h2 23 1) 197 = 23 ∧ hL (hNew h2 23 1) 197 = 1 := by
    rw [← n2]
    exact ⟨zu1_s _ _ _, zu1_s _ _ _⟩
  have tb : hT (hNew (hNew h2 23 1) 24 1) 198 = 24 ∧ hL (hNew (hNew h2 23 1) 24 1) 198 = 1 := by
    rw [← na]
    exact ⟨zu1_s _ _ _, zu1_s _ _ _⟩
  have tc := Gb.2.1 197 (Or.inl (by omega))
  have nb : hN (hNew (hNew h2 23 1) 24 1) = 199 := by show hN (hNew h2 23 1) + 1 = 199; omega
  have q := ql_15 n2
  generalize hNew (hNew h2 23 1) 24 1 = h3 at *
  have G03 : Gw W0 _ _ h0 h3 := Gw_t (Gw_t G1 G2 (fun _ _ _ z => z)) G3 (fun _ _ _ z => z)
  have v := Or.inr (a := zVB < hN h0) (Nat.le_refl zVB)
  refine ⟨h3, ?_, ⟨⟨74, 85, CJ_0 J2 G3⟩, MM_g M2 G3 cl_0, ⟨⟨P, zR0, zN0, ⟨by decide, fun i hi => absurd hi (Nat.not_lt_zero _)⟩, (fun N q => by cases q), (fun N q => by cases q), by decide, by decide⟩, ⟨X, fun i hi => absurd hi (Nat.not_lt_zero _), (fun N q => by cases q), (fun N q => by cases q)⟩⟩, ⟨⟨tc.1.trans ta.1, tc.2.trans ta.2⟩, tb, by omega⟩, ⟨(gT G03 v).trans s1, (gL G03 v).trans s2, (grI G03 v (fun _ z => z)).trans s3⟩⟩, nb, ?_⟩
  · refine (ql_0 n0).trans ((congrArg (fun r => zBack zY 392 4 7 [some (zR (some zVB)), none, none, none, none, none, none, none, none, none] [zR (some 0)] r) e1).trans ?_)
    refine (ql_7 n1).trans ((congrArg (fun r => zBack zY 392 12 15 [some (zR (some zVB)), some (zR (some 0)), none, none, none, none, none, none, none, none] [zR (some 177)] r) e2).trans q)
  · have u := G03.1.2.2
    omega
end BFL
