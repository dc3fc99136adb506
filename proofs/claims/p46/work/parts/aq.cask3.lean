/-! The class: needs written. -/
section CASK3
variable {h h2 : zH} {p v : Nat} {n top : Int} {R N : Nat → Int} {c : Nat} {Ol : Nat → Nat → Int} {s0 s1 : Option (Nat → Int)} {I : Nat → Int} {m : Int} {O : List Int} {ec ep : Int}
/-- another output -/
theorem CJ_o (J : CJ h p v (n, top, R, N, c, Ol, s0, s1, I, m, O, ec, ep)) {A : FA} (F : Fr A h h2) (e : (okCR A && rowA A 133 && rowA A 134 && rowA A 13 && !inA A 10 0 && !inA A 10 1 && rowA A 1 && !inA A 0 1 && !inA A 0 4 && !inA A 0 5 && !inA A 0 13 && !inA A 0 14) = true) {O2 : List Int} (C : CO h2 O2) : CJ h2 p v (n, top, R, N, c, Ol, s0, s1, I, m, O2, ec, ep) := by
  simp only [Bool.and_eq_true, Bool.not_eq_true'] at e
  obtain ⟨⟨⟨⟨⟨⟨⟨⟨⟨⟨⟨e1, e133⟩, e134⟩, e13⟩, e100⟩, e101⟩, er1⟩, e01⟩, e04⟩, e05⟩, e013⟩, e014⟩ := e
  obtain ⟨j1, j2, ⟨j3, j4⟩, j5, ⟨j6, j7⟩, _, j11, j12⟩ := J
  have e1' := e1
  unfold okCR okCB at e1'
  simp only [Bool.and_eq_true] at e1'
  have eo : okO A = true := e1'.1.1.1.1.1.1.1.1.1.1.1.1.1.2
  refine ⟨CA_f j1 F (by rw [e1, e133, e134]; rfl), HO_f j2 (CA_K j1) F (by rw [eo, e13, e100, e101]; rfl), ⟨(fR F 0 13 e013).trans j3, (fR F 0 14 e014).trans j4⟩, j5, ⟨(fI F 0 1 e01).trans j6, ?_⟩, C, (fI F 0 4 e04).trans j11, (fI F 0 5 e05).trans j12⟩
  rw [rI F 1 er1]; exact j7
theorem CC_reto {q : Nat} {as : List zV} {tb : Int → Nat} {x : zV} {O2 : List Int} {A : FA} (J : CJ h2 p v (n, top, R, N, c, Ol, s0, s1, I, m, O2, ec, ep)) (F : Fr A h h2) (eq : zC q (zR (some 0) :: as) h = some (.inl (some x), h2)) (w : (A.all fun x => Nat.blt x.1 163) = true) : CW h q as tb ((0, x), (n, top, R, N, c, Ol, s0, s1, I, m, O2, ec, ep)) := CW_fr J F eq w
theorem upto_put {f : Nat → Int} {k : Nat} (v : Int) : upto (upN f k v) 0 k [] = upto f 0 k [] := upto_congr k [] (fun i hi => by rw [Nat.zero_add, upN_n _ _ (by omega)])
theorem out_put {g : zH} {O : List Int} (H : O = upto (hI g 2) 0 O.length []) (x : Int) : O ++ [x] = upto (hI (sI g 2 O.length x) 2) 0 (O ++ [x]).length [] := by
  rw [hI_up, List.length_append, List.length_singleton, upto_snoc, upto_put, ← H, Nat.zero_add, upN_s]
theorem l_spell {x : Int} {t : Nat} {A : Nat → Int} (hA : ∀ k, 0 ≤ A k ∧ A k < 128) (ht2 : t ≠ 2) : ∀ (k j : Nat) (h : zH) (O : List Int), KC h → hT h t = 40 → hL h t = j + k → (∀ i, i < j + k → hI h t i = A i) → O = upto (hI h 2) 0 O.length [] → O.length + k ≤ 1200 → j + k ≤ 1200 → ∃ h2, zY 136 9 [some (zR (some t)), some (zR (some 2)), some (zI x), some (zI O.length), some (zI j)] [] h = some (.inl (some (zI (O ++ upto A j k []).length)), h2) ∧ O ++ upto A j k [] = upto (hI h2 2) 0 (O ++ upto A j k []).length [] ∧ Fr [(2, none)] h h2
  | 0, j, h, O, K, tt, tl, tA, hO, hl, hj2 => by
    rw [q_W_spell_9 tt (PTC K 2 _ rfl rfl) (PNC K 2 rfl), if_neg (by rw [tl]; omega)]
    refine ⟨h, by rw [show upto A j 0 [] = [] from rfl, List.append_nil], ?_, Fr_r _ _⟩
    rw [show upto A j 0 [] = [] from rfl, List.append_nil]
    exact hO
  | k + 1, j, h, O, K, tt, tl, tA, hO, hl, hj2 => by
    have l2 := PLC K 2 1200 rfl rfl
    have hj := tA j (by omega)
    have aj := hA j
    rw [q_W_spell_9 tt (PTC K 2 _ rfl rfl) (PNC K 2 rfl), if_pos (by rw [tl]; omega), l2, if_pos (by omega), gd_t (by rw [tl]; omega), gd_t (by omega), gd_t (by omega), gd_t (by omega)]
    rw [show ((j : Int)).toNat = j by omega, show ((O.length : Int)).toNat = O.length by omega, hj, zi2b_v aj.1 aj.2]
    have F : Fr [(2, none)] h (sI h 2 O.length (A j)) := Fr_I (Fr_r _ _) rfl
    have nt : ∀ i, hI (sI h 2 O.length (A j)) t i = hI h t i := fun i => congrFun (hI_ne h _ ht2) i
    obtain ⟨h2, e2, o2, F2⟩ := l_spell hA ht2 k (j + 1) _ (O ++ [A j]) (KC_f K F rfl) tt (by show hL h t = _; omega) (fun i hi => (nt i).trans (tA i (by omega))) (out_put hO (A j)) (by rw [List.length_append, List.length_singleton]; omega) (by omega)
    have el : O ++ [A j] ++ upto A (j + 1) k [] = O ++ upto A j (k + 1) [] := by rw [List.append_assoc, upto_cons]; rfl
    rw [el] at e2 o2
    refine ⟨h2, ?_, o2, Fr_t F F2⟩
    rw [← e2, List.length_append, List.length_singleton]
    rfl
theorem c_spell (K : KC h) {t : Nat} {A : Nat → Int} {L : Nat} (hA : ∀ k, 0 ≤ A k ∧ A k < 128) (ht2 : t ≠ 2) (tt : hT h t = 40) (tl : hL h t = L) (tA : ∀ i, i < L → hI h t i = A i) (hO : O = upto (hI h 2) 0 O.length []) (hl : O.length + L ≤ 1200) : ∃ h2, zC 136 [zR (some t), zR (some 2), zI O.length] h = some (.inl (some (zI (O ++ upto A 0 L []).length)), h2) ∧ O ++ upto A 0 L [] = upto (hI h2 2) 0 (O ++ upto A 0 L []).length [] ∧ Fr [(2, none)] h h2 := by
  have mx : f_Ma_max (O.length : Int) 0 = O.length := by unfold f_Ma_max; split <;> omega
  rw [q_W_spell tt (PTC K 2 _ rfl rfl) (PNC K 2 rfl), mx]
  exact l_spell (x := O.length) hA ht2 L 0 h O K tt (by omega) (fun i hi => tA i (by omega)) hO hl (by omega)
/-- a node's word -/
def wch (w : Nat) (j : Nat) : Int := if j < 5 then hI (zH0 0 (fun _ => 0)) (zVB + (4 + w)) j else 0
theorem wch_f : ∀ w : Fin 17, hL (zH0 0 (fun _ => 0)) (zVB + (4 + w.val)) ≤ 5 ∧ (∀ j : Fin 5, 0 ≤ hI (zH0 0 (fun _ => 0)) (zVB + (4 + w.val)) j.val ∧ hI (zH0 0 (fun _ => 0)) (zVB + (4 + w.val)) j.val < 128) ∧ upto (wch w.val) 0 (hL (zH0 0 (fun _ => 0)) (zVB + (4 + w.val))) [] = nodeW w.val := by decide
theorem wch_b {w : Nat} (hw : w < 17) (j : Nat) : 0 ≤ wch w j ∧ wch w j < 128 := by
  unfold wch
  by_cases hj : j < 5
  · rw [if_pos hj]; exact (wch_f ⟨w, hw⟩).2.1 ⟨j, hj⟩
  · rw [if_neg hj]; omega
theorem c_spellW (K : KC h) (Ks : KS h) {w : Int} (w0 : 0 ≤ w) (w1 : w ≤ 16) (hO : O = upto (hI h 2) 0 O.length []) (hl : O.length + 5 ≤ 1200) : ∃ h2, zC 136 [zR (some (zVB + (4 + w.toNat))), zR (some 2), zI O.length] h = some (.inl (some (zI (O ++ nodeW w).length)), h2) ∧ O ++ nodeW w = upto (hI h2 2) 0 (O ++ nodeW w).length [] ∧ Fr [(2, none)] h h2 := by
  have f := wch_f ⟨w.toNat, by omega⟩
  have tl : hL h (zVB + (4 + w.toNat)) = hL (zH0 0 (fun _ => 0)) (zVB + (4 + w.toNat)) := (Ks _ (by omega)).2.1
  have f1 : hL (zH0 0 (fun _ => 0)) (zVB + (4 + w.toNat)) ≤ 5 := f.1
  have en : upto (wch w.toNat) 0 (hL (zH0 0 (fun _ => 0)) (zVB + (4 + w.toNat))) [] = nodeW w := by rw [f.2.2]; congr 1; show ((w.toNat : Nat) : Int) = w; omega
  rw [← en]
  exact c_spell K (wch_b (by omega)) (by omega) (text_t Ks (by omega)) tl (fun i hi => by unfold wch; rw [if_pos (by omega)]; exact text_chr Ks i) hO (by omega)
theorem sp_f : hL (zH0 0 (fun _ => 0)) (zVB + 31) = 1 ∧ hI (zH0 0 (fun _ => 0)) (zVB + 31) 0 = 32 := by decide
theorem c_spellS (K : KC h) (Ks : KS h) (hO : O = upto (hI h 2) 0 O.length []) (hl : O.length + 1 ≤ 1200) : ∃ h2, zC 136 [zR (some (zVB + 31)), zR (some 2), zI O.length] h = some (.inl (some (zI (O ++ [32]).length)), h2) ∧ O ++ [32] = upto (hI h2 2) 0 (O ++ [32]).length [] ∧ Fr [(2, none)] h h2 := by
  have tl : hL h (zVB + 31) = 1 := (Ks _ (by omega)).2.1.trans sp_f.1
  have tc : ∀ i, i < 1 → hI h (zVB + 31) i = 32 := fun i hi => by
    rw [show i = 0 by omega]
    exact (congrFun (Ks _ (by omega)).2.2.1 0).trans sp_f.2
  exact c_spell (A := fun _ => 32) (L := 1) K (fun _ => by omega) (by omega) (KS_s Ks 28 (by decide)) tl tc hO hl
abbrev scrWw : FA := [(0, some 3), (2, none)]
theorem text_any (x : Int) : ∃ k, k < 29 ∧ f_W_text x = some (zVB + (3 + k)) := by
  by_cases c : 0 ≤ x ∧ x < 26
  · exact ⟨1 + x.toNat, by omega, by rw [text_e c.1 c.2]; congr 2; omega⟩
  · unfold f_W_text
    repeat rw [if_neg (by omega)]
    exact ⟨27, by decide, rfl⟩
theorem fr2 {a : Nat} (F : Fr [(2, none)] h h2) (ha : a ≠ 2) : hI h2 a = hI h a := funext fun k => (F.2.2.2.2 a k (by
  have : Nat.beq 2 a = false := by
    cases hb : Nat.beq 2 a with
    | false => rfl
    | true => exact absurd (Nat.eq_of_beq_eq_true hb) (fun e => ha e.symm)
  show (Nat.beq 2 a && true || false) = false
  rw [this]
  rfl)).2.1
theorem l_writeW {a : Nat} {A : Nat → Int} {size : Nat} (hs : size ≤ 200) (ha : a ≠ 2) (ha0 : a ≠ 0) (hA : ∀ k, k < size → 0 ≤ A k ∧ A k ≤ 16) : ∀ (k i : Nat) (h : zH) (O : List Int), KC h → KS h → hT h a = 21 → a < hN h → hL h a = 200 → hI h a = A → i + k = size → hI h 0 3 = O.length → O = upto (hI h 2) 0 O.length [] → O.length ≤ 6 * i → ∃ h2, zY 188 7 [some (zR (some 0)), some (zR (some a)), some (zI size), some (zI i)] [] h = some (.inl none, h2) ∧ (hI h2 0 3 = (O ++ rwO i (upto A i k [])).length ∧ O ++ rwO i (upto A i k []) = upto (hI h2 2) 0 (O ++ rwO i (upto A i k [])).length []) ∧ Fr scrWw h h2
  | 0, i, h, O, K, Ks, ta, na, la, hI1, hm, h3, hO, hl => by
    obtain ⟨k, hk, ek⟩ := text_any (hI h a ((i : Int)).toNat)
    rw [q_B_writeWords_7 K ta na ek (KS_s Ks k hk), if_neg (by omega)]
    refine ⟨h, rfl, ?_, Fr_r _ _⟩
    have : rwO i (upto A i 0 []) = [] := by cases i <;> rfl
    rw [this, List.append_nil]
    exact ⟨h3, hO⟩
  | k + 1, i, h, O, K, Ks, ta, na, la, hI1, hm, h3, hO, hl => by
    have ai := hA i (by omega)
    have ei : hI h a ((i : Int)).toNat = A i := by rw [hI1]; congr 1
    have te := text_e ai.1 (show A i < 26 by omega)
    have nl := nodeW_len (A i)
    rw [q_B_writeWords_7 K ta na (by rw [ei]; exact te) (text_t Ks (by omega)), if_pos (by omega), if_pos (by rw [la]; omega), h3]
    -- behind a word
    have fin : ∀ (g : zH) (O1 : List Int), KC g → KS g → hT g a = 21 → a < hN g → hL g a = 200 → hI g a = A → O1 = upto (hI g 2) 0 O1.length [] → O1.length ≤ 6 * i + 1 → Fr scrWw h g → (∃ h2, zBack zY 188 55 58 [some (zR (some 0)), some (zR (some a)), some (zI size), some (zI i)] [zR (some 0)] (zC 136 [zR (some (zVB + (4 + (A i).toNat))), zR (some 2), zI O1.length] g) = some (.inl none, h2) ∧ (hI h2 0 3 = (O1 ++ (nodeW (A i) ++ rwO (i + 1) (upto A (i + 1) k []))).length ∧ O1 ++ (nodeW (A i) ++ rwO (i + 1) (upto A (i + 1) k [])) = upto (hI h2 2) 0 (O1 ++ (nodeW (A i) ++ rwO (i + 1) (upto A (i + 1) k []))).length []) ∧ Fr scrWw h h2) := by
      intro g O1 Kg Kgs tg ng lg hg hO1 hl1 Fg
      obtain ⟨g1, e1, o1, F1⟩ := c_spellW Kg Kgs ai.1 ai.2 hO1 (by omega)
      have K1 := KC_f Kg F1 rfl
      rw [e1, q_B_writeWords_r58 K1 ((congrFun F1.2.2.1 a).trans tg) (by rw [F1.1]; exact ng), gd_t (by omega)]
      have F2 : Fr [(0, some 3)] g1 (sI g1 0 3 ((O1 ++ nodeW (A i)).length : Nat)) := Fr_I (Fr_r _ _) rfl
      obtain ⟨h3, e3, o3, F3⟩ := l_writeW hs ha ha0 hA k (i + 1) _ (O1 ++ nodeW (A i)) (KC_f K1 F2 rfl) (KS_f (KS_f Kgs F1 rfl) F2 rfl) ((congrFun F1.2.2.1 a).trans tg) (by show a < hN g1; rw [F1.1]; exact ng) ((congrFun F1.2.2.2.1 a).trans lg) ((hI_ne g1 _ ha0).trans ((fr2 F1 ha).trans hg)) (by omega) (hI_s _ _ _ _) (by rw [rI F2 2 rfl]; exact o1) (by rw [List.length_append]; omega)
      rw [List.append_assoc] at o3
      exact ⟨h3, e3, o3, Fr_t Fg (Fr_t (Fr_m F1 rfl) (Fr_t (Fr_m F2 rfl) F3))⟩
    by_cases i0 : i = 0
    · subst i0
      rw [if_neg (by omega), gd_t (by rw [la]; omega)]
      have r := fin h O K Ks ta na la hI1 hO (by omega) (Fr_r _ _)
      rw [upto_cons]
      exact r
    · rw [if_pos (by omega)]
      obtain ⟨g1, e1, o1, F1⟩ := c_spellS K Ks hO (by omega)
      have K1 := KC_f K F1 rfl
      have Ks1 := KS_f Ks F1 rfl
      have F2 : Fr [(0, some 3)] g1 (sI g1 0 3 ((O ++ [32]).length : Nat)) := Fr_I (Fr_r _ _) rfl
      have ta1 := (congrFun F1.2.2.1 a).trans ta
      have na1 : a < hN g1 := by rw [F1.1]; exact na
      have r1 : hI (sI g1 0 3 ((O ++ [32]).length : Nat)) a = A := (hI_ne g1 _ ha0).trans ((fr2 F1 ha).trans hI1)
      rw [e1, q_B_writeWords_r37 (t := zVB + (4 + (A i).toNat)) K1 ta1 na1 (by rw [r1, show ((i : Int)).toNat = i by omega]; exact te) (text_t Ks1 (by omega)), gd_t (by rw [show hL g1 a = hL h a from congrFun F1.2.2.2.1 a, la]; omega)]
      obtain ⟨h2, e2, o2, Fz⟩ := fin (sI g1 0 3 ((O ++ [32]).length : Nat)) (O ++ [32]) (KC_f K1 F2 rfl) (KS_f Ks1 F2 rfl) ta1 na1 ((congrFun F1.2.2.2.1 a).trans la) r1 (by rw [rI F2 2 rfl]; exact o1) (by rw [List.length_append, List.length_singleton]; omega) (Fr_t (Fr_m F1 rfl) (Fr_m F2 rfl))
      refine ⟨h2, e2, ?_, Fz⟩
      have er : O ++ rwO i (upto A i (k + 1) []) = O ++ [32] ++ (nodeW (A i) ++ rwO (i + 1) (upto A (i + 1) k [])) := by
        rw [upto_cons, List.append_assoc]
        obtain ⟨j, rfl⟩ : ∃ j, i = j + 1 := ⟨i - 1, by omega⟩
        rfl
      rw [er]
      exact o2
theorem J_sheet (J : CJ h p v (n, top, R, N, c, Ol, s0, s1, I, m, O, ec, ep)) (Q : Prg n top R N) : ∃ h2, zC 114 [zR (some 135), zR (some p), zR (some v)] h = some (.inl none, h2) ∧ (∀ t, 0 ≤ t → t < n → SW h2 (WW n R N t) t.toNat) ∧ CJ h2 p v (n, top, R, N, c, Ol, s0, s1, I, m, O, ec, ep) ∧ Fr scrSw h h2 := by
  obtain ⟨h2, e2, w2, F2⟩ := c_Sh_write (CA_C J.1) Q
  exact ⟨h2, e2, w2, CJ_f J F2 rfl, F2⟩
theorem J_row (J : CJ h p v (n, top, R, N, c, Ol, s0, s1, I, m, O, ec, ep)) {s : Int} (h0 : 0 ≤ s) (h1 : s < n) : f_Sh_rowOf h s = some (137 + s.toNat) ∧ hT h (137 + s.toNat) = 21 ∧ 137 + s.toNat < hN h ∧ hL h (137 + s.toNat) = 200 ∧ f_Sh_sizeOf h s = hI h 162 s.toNat := by
  have b := PO_b (J_P J)
  obtain ⟨a1, a2, a3, a4⟩ := row_t (J_K J) (r := s.toNat) (by omega)
  refine ⟨?_, a2, a3, a4, size_e h0 (by omega)⟩
  unfold f_Sh_rowOf
  rw [if_neg (by omega), if_pos (by omega)]
  exact a1
theorem k_needNodes (J : CJ h p v (n, top, R, N, c, Ol, s0, s1, I, m, O, ec, ep)) (Q : Prg n top R N) (hz : hN h < zVB) (s : Int) : CW h 190 [zI s] (t3 3 0 0) (aNeedNodes n R N s, (n, top, R, N, c, Ol, s0, s1, I, m, O, ec, ep)) := by
  have hq := q_B_needNodes (h := h) (x1 := s) (J_K J)
  rw [rq_statement (J_K J) (J_rp J) (J_P J) s] at hq
  unfold aNeedNodes
  by_cases cs : 0 ≤ s ∧ s < n
  · rw [if_pos cs] at hq ⊢
    obtain ⟨h2, e2, w2, J2, F2⟩ := J_sheet J Q
    have W := w2 s cs.1 cs.2
    have ze : hI h2 162 s.toNat = dLen (WW n R N s) := by
      unfold SW at W
      cases cw : WW n R N s with
      | none => rw [cw] at W; exact W
      | some l => rw [cw] at W; exact isR_len W
    rw [q_B_needNodes_r5 (J_K J) (J_rp J) (J_ps J) (J_rv J) (J_vs J), e2, q_B_needNodes_r20 (J_K J2), (J_row J2 cs.1 cs.2).2.2.2.2, ze] at hq
    exact CW_ret J F2 hq rfl rfl
  · rw [if_neg cs] at hq ⊢
    exact CW_thr J hz (by decide) (hq.trans rfl)
theorem k_gap (J : CJ h p v (n, top, R, N, c, Ol, s0, s1, I, m, O, ec, ep)) (Q : Prg n top R N) (hz : hN h < zVB) (s : Int) : CW h 191 [zI s] (t3 3 0 0) (aGap n R N s, (n, top, R, N, c, Ol, s0, s1, I, m, O, ec, ep)) := by
  have hq := q_B_gap (h := h) (x1 := s) (J_K J)
  rw [rq_statement (J_K J) (J_rp J) (J_P J) s] at hq
  unfold aGap
  by_cases cs : 0 ≤ s ∧ s < n
  · rw [if_pos cs] at hq ⊢
    obtain ⟨h2, e2, w2, J2, F2⟩ := J_sheet J Q
    have W := w2 s cs.1 cs.2
    obtain ⟨r1, r2, r3, r4, r5⟩ := J_row J2 cs.1 cs.2
    rw [q_B_gap_r5 (J_K J) (J_rp J) (J_ps J) (J_rv J) (J_vs J), e2, q_B_gap_r20 (J_K J2) r1 r2 r3, r5] at hq
    unfold SW at W
    have ok := WW_ok2 Q cs.1 cs.2
    cases cw : WW n R N s with
    | none =>
      rw [cw] at W
      have W : hI h2 162 s.toNat = -1 := W
      rw [if_pos W] at hq
      exact CW_ret J F2 hq rfl rfl
    | some l =>
      rw [cw] at W
      obtain ⟨ot, ol⟩ := ok l cw
      have el := isR_len W
      rw [el, if_neg (by omega)] at hq
      have hl : l = upto (hI h2 (137 + s.toNat)) 0 l.length [] := by
        have := W.2.2
        rw [el] at this
        exact this
      obtain ⟨h3, e3, v3, _, F3⟩ := c_evaluate (J_K J2) (CA_B J2.1).2.1 r2 r3 hl (by omega) ⟨Or.inr ⟨true, ot⟩, ol⟩
      have J3 := CJ_f J2 F3 rfl
      have ha := J_ahd J3 (Or.inr cs)
      unfold ahd at ha
      rw [if_neg (by omega)] at ha
      rw [e3, q_B_gap_r52 (J_K J3), ha, bitc_e] at hq
      unfold f_S_holding at hq
      have eg : f_M_ones ((hJ h3 99 0) ^^^ NN n R N s) = gpS (some l) (NN n R N s) := by
        rw [v3, low_set ot, ones_e]
        refine zsum_congr _ _ (fun k k0 k1 => ?_)
        have k1 : k < 64 := by omega
        rw [bt_xor, bt_setL l k0 k1]
        unfold gpF
        cases bt (NN n R N s) k <;> by_cases cv : val l k = 1 <;> simp [cv]
      rw [eg] at hq
      exact CW_ret J (Fr_t (Fr_m F2 rfl) (Fr_m F3 rfl)) hq (A := scrV ++ scrSw) rfl rfl
  · rw [if_neg cs] at hq ⊢
    exact CW_thr J hz (by decide) (hq.trans rfl)
theorem k_writeNeed (J : CJ h p v (n, top, R, N, c, Ol, s0, s1, I, m, O, ec, ep)) (Q : Prg n top R N) (hz : hN h < zVB) (s : Int) : CW h 187 [zI s] (t3 3 0 0) (aWN s (n, top, R, N, c, Ol, s0, s1, I, m, O, ec, ep)) := by
  have hq := q_B_writeNeed (h := h) (x1 := s) (J_K J)
  rw [rq_statement (J_K J) (J_rp J) (J_P J) s] at hq
  unfold aWN aWriteNeed
  simp only
  by_cases cs : 0 ≤ s ∧ s < n
  · rw [if_pos cs] at hq ⊢
    obtain ⟨h2, e2, w2, J2, F2⟩ := J_sheet J Q
    have W := w2 s cs.1 cs.2
    obtain ⟨r1, r2, r3, r4, r5⟩ := J_row J2 cs.1 cs.2
    rw [q_B_writeNeed_r5 (J_K J) (J_rp J) (J_ps J) (J_rv J) (J_vs J), e2, q_B_writeNeed_r20 (J_K J2) r1 r2 r3, r5] at hq
    unfold SW at W
    have ok := WW_ok2 Q cs.1 cs.2
    cases cw : WW n R N s with
    | none =>
      rw [cw] at W
      have W : hI h2 162 s.toNat = -1 := W
      rw [if_pos W] at hq
      exact CW_ret J F2 hq rfl rfl
    | some l =>
      rw [cw] at W
      obtain ⟨ot, ol⟩ := ok l cw
      have el := isR_len W
      rw [el, if_neg (by omega)] at hq
      have hl : l = upto (hI h2 (137 + s.toNat)) 0 l.length [] := by
        have := W.2.2
        rw [el] at this
        exact this
      have F3 : Fr [(0, some 3)] h2 (sI h2 0 3 0) := Fr_I (Fr_r _ _) rfl
      have K3 := KC_f (J_K J2) F3 rfl
      have Ks3 := KS_f (CA_B J2.1).2.1 F3 rfl
      obtain ⟨h4, e4, o4, F4⟩ := l_writeW (a := 137 + s.toNat) (A := hI h2 (137 + s.toNat)) ol (by omega) (by omega) (nodes_b ot hl) l.length 0 (sI h2 0 3 0) [] K3 Ks3 r2 r3 r4 (hI_ne h2 _ (by omega)) (by omega) (hI_s _ _ _ _) rfl (by decide)
      rw [← hl, List.nil_append] at o4
      have K4 := KC_f K3 F4 rfl
      have e4 : zY 188 7 [some (zR (some 0)), some (zR (some (137 + s.toNat))), some (zI (l.length : Nat)), some (zI 0)] [] (sI h2 0 3 0) = some (.inl none, h4) := e4
      rw [q_B_writeWords (J_K J2) r2 r3, e4, q_B_writeNeed_r49 K4, o4.1] at hq
      have F24 : Fr scrWw h2 h4 := Fr_t (Fr_m F3 rfl) F4
      have bl := rwO_len l 0
      have lo : (rwO 0 l).length ≤ 1200 := by omega
      exact CC_reto (CJ_o J2 F24 rfl ⟨o4.1, lo, o4.2⟩) (Fr_t (Fr_m F2 rfl) (Fr_m F24 rfl)) hq (A := scrWw ++ scrSw) rfl
  · rw [if_neg cs] at hq ⊢
    exact CW_thr J hz (by decide) (hq.trans rfl)
end CASK3

