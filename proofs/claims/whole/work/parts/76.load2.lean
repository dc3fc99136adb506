/-! The reference: load, undo, slots, and all other changes. -/
section LOAD2
variable {I : Nat → Int} {len : Int}
theorem c_putsAside {h : zH} (K : KM h) : ∃ h2, zC 215 [zR (some 177)] h = some (.inl none, h2) ∧ (∀ k : Nat, k < 2342 → hI h2 180 k = hI h 179 k) ∧ (∀ k : Nat, k < 240 → hI h2 184 k = hI h 183 k) ∧ hI h2 177 11 = hI h 177 10 ∧ hI h2 177 13 = hI h 177 12 ∧ Fr [(180, none), (184, none), (177, some 11), (177, some 13)] h h2 := by
  obtain ⟨h1, e1, A1, F1⟩ := l_q_M_putsAside_2 2342 0 h K (by omega) (by omega)
  obtain ⟨h2, e2, A2, F2⟩ := l_q_M_putsAside_29 240 0 h1 (KM_f K F1 rfl) (by omega) (by omega)
  have F12 : Fr [(180, none), (184, none), (177, some 11), (177, some 13)] h h2 := Fr_t (Fr_m F1 rfl) (Fr_m F2 rfl)
  rw [q_M_putsAside K, e1, e2]
  refine ⟨_, rfl, fun k hk => ?_, fun k hk => ?_, ?_, ?_, Fr_I (Fr_I F12 rfl) rfl⟩
  · show hI h2 180 k = _
    rw [rI F2 180 rfl, A1, if_pos (by omega)]
    congr 1
  · show hI h2 184 k = _
    rw [A2, if_pos (by omega), rI F1 183 rfl]
    congr 1
  · exact fI F12 177 10 rfl
  · exact fI F12 177 12 rfl
theorem c_putsBack {h : zH} (K : KM h) : ∃ h2, zC 238 [zR (some 177)] h = some (.inl none, h2) ∧ (∀ k : Nat, hI h2 179 k = if k < 2342 then hI h 180 k else hI h 179 k) ∧ (∀ k : Nat, hI h2 183 k = if k < 240 then hI h 184 k else hI h 183 k) ∧ hI h2 177 10 = hI h 177 11 ∧ hI h2 177 12 = hI h 177 13 ∧ Fr [(179, none), (183, none), (177, some 10), (177, some 12)] h h2 := by
  obtain ⟨h1, e1, A1, F1⟩ := l_q_M_putsBack_2 2342 0 h K (by omega) (by omega)
  obtain ⟨h2, e2, A2, F2⟩ := l_q_M_putsBack_29 240 0 h1 (KM_f K F1 rfl) (by omega) (by omega)
  have F12 : Fr [(179, none), (183, none), (177, some 10), (177, some 12)] h h2 := Fr_t (Fr_m F1 rfl) (Fr_m F2 rfl)
  rw [q_M_putsBack K, e1, e2]
  refine ⟨_, rfl, fun k => ?_, fun k => ?_, ?_, ?_, Fr_I (Fr_I F12 rfl) rfl⟩
  · show hI h2 179 k = _
    rw [rI F2 179 rfl, A1]
    by_cases c : k < 2342
    · rw [if_pos (by omega), if_pos c]; congr 1
    · rw [if_neg (by omega), if_neg c]
  · show hI h2 183 k = _
    rw [A2]
    by_cases c : k < 240
    · rw [if_pos (by omega), if_pos c, rI F1 184 rfl]; congr 1
    · rw [if_neg (by omega), if_neg c, rI F1 183 rfl]
  · exact fI F12 177 11 rfl
  · exact fI F12 177 13 rfl
theorem c_reports {h : zH} (K : KM h) {f fa : Int} (hf : hI h 177 41 = f) (ha : f ≠ 0 → hI h 177 42 = fa) : ∃ h2, zC 237 [zR (some 177)] h = some (.inl none, h2) ∧ hI h2 177 15 = 0 ∧ hI h2 177 18 = f ∧ hI h2 177 19 = (if f = 0 then -1 else fa) ∧ Fr [(177, some 15), (177, some 18), (177, some 19)] h h2 := by
  rw [q_M_reports K, hf]
  by_cases c : f = 0
  · rw [if_pos c, if_pos c]
    exact ⟨_, rfl, rfl, rfl, rfl, Fr_I (Fr_I (Fr_I (Fr_r _ _) rfl) rfl) rfl⟩
  · rw [if_neg c, if_neg c, ha c]
    exact ⟨_, rfl, rfl, rfl, rfl, Fr_I (Fr_I (Fr_I (Fr_r _ _) rfl) rfl) rfl⟩
/-- the answer of load, and what stands then -/
def aLoad (len : Int) : MSt → (Int × zV) × MSt
  | (n, top, R, N, c, Ol, s0, s1, I, m, O, ec, ep) => if 0 ≤ len ∧ len ≤ m then
      (if (txtP I len (begS I len 0 R)).2.1.1 = 0 then ((0, zI (txtP I len (begS I len 0 R)).2.2.1.1), ((txtP I len (begS I len 0 R)).2.2.1.1, (txtP I len (begS I len 0 R)).2.2.1.2.1, (txtP I len (begS I len 0 R)).2.2.1.2.2.1, (txtP I len (begS I len 0 R)).2.2.1.2.2.2, 0, Ol, none, none, I, 0, O, 0, -1))
       else ((2, zI 0), (n, top, R, N, c, Ol, s0, s1, I, 0, O, (txtP I len (begS I len 0 R)).2.1.1, (txtP I len (begS I len 0 R)).2.1.2)))
    else ((1, zI 0), (n, top, R, N, c, Ol, s0, s1, I, m, O, ec, ep))
theorem m_load {h : zH} {σ : MSt} (M : MM h σ) (S : SS σ) (len : Int) : MC h 213 [zI len] (aLoad len σ) := by
  obtain ⟨n, top, R, N, c, Ol, s0, s1, I, m, O, ec, ep⟩ := σ
  have M0 := M
  obtain ⟨⟨K, m1, m2, m3, m4⟩, ⟨m5, m6⟩, ⟨m7, m8, m9⟩, ⟨m10, m11⟩, m12, m13, m14⟩ := M
  obtain ⟨P, rz, nz, _, _, _, hm⟩ := S
  unfold aLoad
  simp only
  by_cases cl : 0 ≤ len ∧ len ≤ m
  · rw [if_pos cl]
    obtain ⟨h1, e1, A1, B1, x11, x13, F1⟩ := c_putsAside K
    have K1 := KM_f K F1 rfl
    have N1 : hI h1 179 = N := (rI F1 179 rfl).trans m4
    obtain ⟨h2, e2, P2, F2⟩ := c_readsText (I := I) (len := len) (R := R) K1 ((rI F1 185 rfl).trans m10) ((rI F1 183 rfl).trans m3) (by rw [N1]; exact nz) rz cl.1 (by omega)
    have ok := txtP_ok (I := I) (len := len) (fa := 0) (R := R) cl.1 (by omega) rz
    generalize txtP I len (begS I len 0 R) = s at *
    obtain ⟨t, ⟨f, fa⟩, ⟨n2, top2, R2, N2⟩, row, sec, last⟩ := s
    obtain ⟨K2, T2, p41, p42, ⟨p10, p12, p183, p179⟩, _⟩ := id P2
    obtain ⟨⟨rz2, nz2⟩, ok2⟩ := ok
    obtain ⟨h3, e3, x15, x18, x19, F3⟩ := c_reports K2 p41 p42
    have K3 := KM_f K2 F3 rfl
    have F13 : Fr scrA h h3 := Fr_t (Fr_m F1 rfl) (Fr_t (Fr_m F2 rfl) (Fr_m F3 rfl))
    have f41 : hI h3 177 41 = f := (fI F3 177 41 rfl).trans p41
    have O3 : OU h3 O := OU_f (OU_f (OU_f m12 F1 rfl rfl) F2 rfl rfl) F3 rfl rfl
    have I3 : hI h3 185 = I := (rI F3 185 rfl).trans ((rI F2 185 rfl).trans ((rI F1 185 rfl).trans m10))
    have hq : b_M_in len 0 (hI h 177 15) := by rw [m11]; unfold b_M_in; omega
    rw [MC, q_M_load K, if_pos hq, e1, q_M_load_r22 K1, e2, q_M_load_r27 K2, e3, q_M_load_r31 K3, f41]
    by_cases cf : f = 0
    · rw [if_pos cf] at x19 ⊢
      rw [if_pos (show (t, ((f, fa) : Int × Int), ((n2, top2, R2, N2) : Int × Int × (Nat → Int) × (Nat → Int)), row, sec, last).2.1.1 = 0 from cf)]
      have F4 : Fr scrA h3 (sI (sI (sI h3 177 5 0) 177 7 0) 177 1 0) := Fr_I (Fr_I (Fr_I (Fr_r _ _) rfl) rfl) rfl
      have g10 : hI h3 177 10 = n2 := (fI F3 177 10 rfl).trans p10
      refine ⟨_, by rw [g10], rfl, ?_, Fr_t F13 F4⟩
      refine ⟨⟨KM_f K3 F4 rfl, g10, (fI F3 177 12 rfl).trans p12, (rI F3 183 rfl).trans p183, (rI F3 179 rfl).trans p179⟩, ⟨rfl, fun i hi => absurd hi (Nat.not_lt_zero _)⟩, ⟨rfl, (fun N e => by cases e), (fun N e => by cases e)⟩, ⟨I3, x15⟩, ?_, x18.trans cf, x19⟩
      exact O3
    · rw [if_neg cf] at x19 ⊢
      rw [if_neg (show ¬ (t, ((f, fa) : Int × Int), ((n2, top2, R2, N2) : Int × Int × (Nat → Int) × (Nat → Int)), row, sec, last).2.1.1 = 0 from cf)]
      obtain ⟨h4, e4, A4, B4, y10, y12, F4⟩ := c_putsBack K3
      have K4 := KM_f K3 F4 rfl
      rw [e4, q_M_load_r42 K4]
      have F5 : Fr scrA h4 (sI h4 177 1 2) := Fr_I (Fr_r _ _) rfl
      have F04 : Fr scrA h h4 := Fr_t F13 (Fr_m F4 rfl)
      refine ⟨_, rfl, rfl, ?_, Fr_t F04 F5⟩
      have z180 : hI h3 180 = hI h1 180 := (rI F3 180 rfl).trans (rI F2 180 rfl)
      have z184 : hI h3 184 = hI h1 184 := (rI F3 184 rfl).trans (rI F2 184 rfl)
      have r181 : hI h4 181 = hI h 181 := (rI F4 181 rfl).trans ((rI F3 181 rfl).trans ((rI F2 181 rfl).trans (rI F1 181 rfl)))
      have r182 : hI h4 182 = hI h 182 := (rI F4 182 rfl).trans ((rI F3 182 rfl).trans ((rI F2 182 rfl).trans (rI F1 182 rfl)))
      have q5 : hI h4 177 5 = hI h 177 5 := (fI F4 177 5 rfl).trans ((fI F3 177 5 rfl).trans ((fI F2 177 5 rfl).trans (fI F1 177 5 rfl)))
      have q7 : hI h4 177 7 = hI h 177 7 := (fI F4 177 7 rfl).trans ((fI F3 177 7 rfl).trans ((fI F2 177 7 rfl).trans (fI F1 177 7 rfl)))
      refine ⟨⟨KM_f K4 F5 rfl, ?_, ?_, ?_, ?_⟩, ⟨q5.trans m5, ?_⟩, ⟨q7.trans m7, ?_, ?_⟩, ⟨(rI F4 185 rfl).trans I3, (fI F4 177 15 rfl).trans x15⟩, ?_, (fI F4 177 18 rfl).trans x18, (fI F4 177 19 rfl).trans x19⟩
      · show hI h4 177 10 = n
        rw [y10, fI F3 177 11 rfl, fI F2 177 11 rfl, x11, m1]
      · show hI h4 177 12 = top
        rw [y12, fI F3 177 13 rfl, fI F2 177 13 rfl, x13, m2]
      · show hI h4 183 = R
        funext k
        rw [B4, z184]
        by_cases d : k < 240
        · rw [if_pos d, B1 k d, m3]
        · rw [if_neg d, rI F3 183 rfl, p183, rz2 k (by omega), rz k (by omega)]
      · show hI h4 179 = N
        funext k
        rw [A4, z180]
        by_cases d : k < 2342
        · rw [if_pos d, A1 k d, m4]
        · rw [if_neg d, rI F3 179 rfl, p179, nz2 k (by omega), nz k (by omega)]
      · show ∀ i, i < c → blk (hI h4 181) _ _
        rw [r181]; exact m6
      · show ∀ N, s0 = some N → blk (hI h4 182) _ N
        rw [r182]; exact m8
      · show ∀ N, s1 = some N → blk (hI h4 182) _ N
        rw [r182]; exact m9
      · exact OU_f (OU_f O3 F4 rfl rfl) (Fr_I (Fr_r [(177, some 1)] _) rfl) rfl rfl
  · rw [if_neg cl]
    have hq : ¬ b_M_in len 0 (hI h 177 15) := by rw [m11]; unfold b_M_in; omega
    rw [MC, q_M_load K, if_neg hq]
    exact ⟨_, rfl, rfl, MM_f M0 (Fr_I (Fr_r [(177, some 1)] _) rfl) rfl, Fr_I (Fr_r _ _) rfl⟩
theorem SS_load {σ : MSt} (S : SS σ) (len : Int) : SS (aLoad len σ).2 := by
  obtain ⟨n, top, R, N, c, Ol, s0, s1, I, m, O, ec, ep⟩ := σ
  obtain ⟨P, rz, nz, h4, h5, h6, hm⟩ := id S
  unfold aLoad
  simp only
  by_cases cl : 0 ≤ len ∧ len ≤ m
  · rw [if_pos cl]
    have ok := txtP_ok (I := I) (len := len) (fa := 0) (R := R) cl.1 (by omega) rz
    by_cases cf : (txtP I len (begS I len 0 R)).2.1.1 = 0
    · rw [if_pos cf]
      obtain ⟨z, ok2⟩ := ok
      generalize txtP I len (begS I len 0 R) = s at *
      obtain ⟨t, ⟨f, fa⟩, ⟨n2, top2, R2, N2⟩, row, sec, last⟩ := s
      exact ⟨(ok2 cf).2.2, z.1, z.2, ⟨by decide, fun i hi => absurd hi (Nat.not_lt_zero _)⟩, (fun N e => by cases e), (fun N e => by cases e), by decide⟩
    · rw [if_neg cf]
      exact ⟨P, rz, nz, h4, h5, h6, by decide⟩
  · rw [if_neg cl]
    exact S
end LOAD2
