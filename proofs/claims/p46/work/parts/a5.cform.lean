/-! The class: the reading of formulas. -/
section CFORM
variable {I : Nat → Int} {len : Int} {h h2 : zH}
theorem exB_c {x : Int} (h0 : 0 ≤ x) (h1 : x ≤ 16) : f_W_expressionsBehind x = exB x ∧ f_W_conditionsBehind x = cdB x := finN (P := fun x => f_W_expressionsBehind x = exB x ∧ f_W_conditionsBehind x = cdB x) (n := 17) (by decide +kernel) h0 (by omega)
/-- the token and the error, as the class has them -/
def CPe (h : zH) (I : Nat → Int) (len : Int) (s : PSt) : Prop := KC h ∧ KS h ∧ hI h 5 0 = s.2.1.1 ∧ (s.2.1.1 ≠ 0 → hI h 5 1 = s.2.1.2) ∧ (s.2.1.1 = 0 → hI h 5 1 = -1 ∧ TKC h I len s.1)
abbrev scrPe : FA := [(5, some 0), (5, some 1), (7, some 0), (7, some 1), (7, some 8)]
abbrev scrPf : FA := [(5, some 0), (5, some 1), (7, some 0), (7, some 1), (7, some 8), (6, none)]
def WA (A : FA) : Nat → Nat → Prop := fun a k => inA A a k = true
theorem WA_m {A B : FA} (e : subA A B = true) {a k : Nat} (w : WA A a k) : WA B a k := subA_in e w
theorem WA_n {A : FA} {a k : Nat} (e : inA A a k = false) : ¬ WA A a k := fun z => by rw [WA, e] at z; cases z
theorem c_errC {s : PSt} (P : CPe h I len s) {c : Int} (hc : c ≠ 0) : ∃ h2, zC 27 [zR (some 5), zI c] h = some (.inl none, h2) ∧ CPe h2 I len (errP c s) ∧ Fr [(5, some 0), (5, some 1)] h h2 := by
  obtain ⟨t, ⟨f, fa⟩, p, w⟩ := s
  obtain ⟨K, Ks, e0, e1, e2⟩ := id P
  have e0 : hI h 5 0 = f := e0
  rw [q_Pa_refuse K, e0]
  unfold errP
  simp only
  by_cases h0 : f = 0
  · rw [if_pos h0, if_pos h0]
    have T := (e2 h0).2
    obtain ⟨S, i, cc, a1, a2, a3, a4, a5, a6, a7, a8, a9⟩ := T
    have F : Fr [(5, some 0), (5, some 1)] h (sI (sI h 5 0 c) 5 1 (hI h 7 1)) := Fr_I (Fr_I (Fr_r _ _) rfl) rfl
    exact ⟨_, rfl, ⟨KC_f K F rfl, KS_f Ks F rfl, rfl, fun _ => a7, fun z => absurd z hc⟩, F⟩
  · rw [if_neg h0, if_neg h0]
    exact ⟨h, rfl, P, Fr_r _ _⟩
theorem c_advE {s : PSt} (P : CPe h I len s) (hf : s.2.1.1 = 0) (h0 : 0 ≤ s.1.1) : ∃ h2, zC 91 [zR (some 7)] h = some (.inl none, h2) ∧ CPe h2 I len (advP I len s) ∧ Fr scrAd h h2 := by
  obtain ⟨t, ⟨f, fa⟩, p, w⟩ := s
  obtain ⟨K, Ks, e0, e1, e2⟩ := id P
  obtain ⟨h2, e, T2, F⟩ := c_advC (e2 hf).2 (show t.1 ≠ -2 by have : 0 ≤ t.1 := h0; omega) (show t.1 ≠ -3 by have : 0 ≤ t.1 := h0; omega)
  exact ⟨h2, e, ⟨KC_f K F rfl, KS_f Ks F rfl, (fI F 5 0 rfl).trans e0, fun z => absurd hf z, fun _ => ⟨(fI F 5 1 rfl).trans (e2 hf).1, T2⟩⟩, F⟩
theorem CPe_t {s : PSt} (P : CPe h I len s) (hf : s.2.1.1 = 0) : hI h 7 0 = s.1.1 := by
  obtain ⟨S, i, cc, a1, a2, a3, a4, a5, a6, a7, a8, a9⟩ := (P.2.2.2.2 hf).2
  exact a6
theorem CPe_f {A : FA} {s : PSt} (P : CPe h I len s) (F : Fr A h h2) (e : (okTK A && !inA A 5 0 && !inA A 5 1) = true) : CPe h2 I len s := by
  simp only [Bool.and_eq_true, Bool.not_eq_true'] at e
  obtain ⟨K, Ks, e0, e1, e2⟩ := P
  have e' := e.1.1
  simp only [okTK, Bool.and_eq_true] at e'
  exact ⟨KC_f K F e'.1.1.1.1.1, KS_f Ks F e'.1.1.1.1.2, (fI F 5 0 e.1.2).trans e0, fun z => (fI F 5 1 e.2).trans (e1 z), fun z => ⟨(fI F 5 1 e.2).trans (e2 z).1, TKC_f (e2 z).2 F e.1.1⟩⟩
/-- the same token and error in another state -/
theorem CPe_eq {s s2 : PSt} (P : CPe h I len s) (e1 : s2.1 = s.1) (e2 : s2.2.1 = s.2.1) : CPe h I len s2 := by
  unfold CPe
  rw [e1, e2]
  exact P
theorem TKC_g {W : Nat → Nat → Prop} {d e : Nat} {t : TK} (T : TKC h I len t) (G : Gw W d e h h2) (c : clW W) (k : ∀ a k, a < 163 → kcB a k = true → ¬ W a k) (w : ∀ k, ¬ W 1 k ∧ ¬ W 7 k ∧ ¬ W 8 k ∧ ¬ W 9 k) : TKC h2 I len t := by
  obtain ⟨S, i, cc, a1, a2, a3, a4, a5, a6, a7, a8, a9⟩ := T
  obtain ⟨K, Ks, s1, s2, s3⟩ := S
  have k0 := K.1
  have e7 := grI G (a := 7) (Or.inl (by omega)) (fun k => (w k).2.1)
  refine ⟨⟨KC_g K G k, KS_g Ks G c, (grI G (a := 1) (Or.inl (by omega)) (fun k => (w k).1)).trans s1, by rw [e7]; exact s2, s3⟩, i, cc, a1, ?_, ?_, a4, a5, ?_, ?_, fun j hj => ?_, a9⟩
  · rw [e7]; exact a2
  · rw [e7]; exact a3
  · rw [e7]; exact a6
  · rw [e7]; exact a7
  · rw [grI G (a := 8) (Or.inl (by omega)) (fun k => (w k).2.2.1), grI G (a := 9) (Or.inl (by omega)) (fun k => (w k).2.2.2)]; exact a8 j hj
theorem CPe_g {W : Nat → Nat → Prop} {d e : Nat} {s : PSt} (P : CPe h I len s) (G : Gw W d e h h2) (c : clW W) (k : ∀ a k, a < 163 → kcB a k = true → ¬ W a k) (w : ∀ k, ¬ W 1 k ∧ ¬ W 7 k ∧ ¬ W 8 k ∧ ¬ W 9 k) (w5 : ¬ W 5 0 ∧ ¬ W 5 1) : CPe h2 I len s := by
  obtain ⟨K, Ks, e0, e1, e2⟩ := P
  have k0 := K.1
  have f0 := gI G (a := 5) (k := 0) (Or.inl (by omega)) w5.1
  have f1 := gI G (a := 5) (k := 1) (Or.inl (by omega)) w5.2
  exact ⟨KC_g K G k, KS_g Ks G c, f0.trans e0, fun z => f1.trans (e1 z), fun z => ⟨f1.trans (e2 z).1, TKC_g (e2 z).2 G c k w⟩⟩
theorem c_takC {s : PSt} (P : CPe h I len s) {w : Int} (h0 : 0 ≤ w) : ∃ h2, zC 26 [zR (some 5), zI w] h = some (.inl none, h2) ∧ CPe h2 I len (takP I len w s) ∧ Fr scrPe h h2 := by
  unfold takP
  rw [q_Pa_take P.1, P.2.2.1]
  by_cases c : s.2.1.1 = 0
  · rw [if_pos c, if_pos c, CPe_t P c]
    by_cases d : s.1.1 = w
    · rw [if_pos d, if_pos d]
      obtain ⟨h2, e2, P2, F2⟩ := c_advE P c (by omega)
      rw [e2, q_Pa_take_r26 P2.1]
      exact ⟨h2, rfl, P2, Fr_m F2 rfl⟩
    · rw [if_neg d, if_neg d]
      obtain ⟨h2, e2, P2, F2⟩ := c_errC P (c := 1) (by decide)
      rw [e2, q_Pa_take_r34 P2.1]
      exact ⟨h2, rfl, P2, Fr_m F2 rfl⟩
  · rw [if_neg c, if_neg c]
    exact ⟨h, rfl, P, Fr_r _ _⟩
/-- whether a node may stand here -/
theorem c_checkNode {s : PSt} (P : CPe h I len s) (hf : s.2.1.1 = 0) {e : Nat} {k x1 : Int} (hx : x1 = if 0 < e then 1 else 0) (k1 : k ≤ 30) : ∃ h2, zC 29 [zR (some 5), zI x1, zI k] h = some (.inl (some (zI (if fmE s.1.1 e k = 0 then 1 else 0))), h2) ∧ (fmE s.1.1 e k = 0 → h2 = h) ∧ (fmE s.1.1 e k ≠ 0 → CPe h2 I len (errP (fmE s.1.1 e k) s)) ∧ Fr [(5, some 0), (5, some 1)] h h2 := by
  have er : ∀ c : Int, c ≠ 0 → ∃ h2, zC 27 [zR (some 5), zI c] h = some (.inl none, h2) ∧ CPe h2 I len (errP c s) ∧ KC h2 ∧ ¬ hI h2 5 0 = 0 ∧ Fr [(5, some 0), (5, some 1)] h h2 := fun c hc => by
    obtain ⟨h2, e2, P2, F2⟩ := c_errC P hc
    refine ⟨h2, e2, P2, P2.1, ?_, F2⟩
    rw [P2.2.2.1]
    exact errP_f hc s
  have fin : ∀ c : Int, fmE s.1.1 e k = c → c ≠ 0 → ∀ X : zO → zO, (∀ g, KC g → ¬ hI g 5 0 = 0 → X (some (.inl none, g)) = some (.inl (some (zI 0)), g)) → ∃ h2, X (zC 27 [zR (some 5), zI c] h) = some (.inl (some (zI (if fmE s.1.1 e k = 0 then 1 else 0))), h2) ∧ (fmE s.1.1 e k = 0 → h2 = h) ∧ (fmE s.1.1 e k ≠ 0 → CPe h2 I len (errP (fmE s.1.1 e k) s)) ∧ Fr [(5, some 0), (5, some 1)] h h2 := fun c hc c0 X hX => by
    obtain ⟨h2, e2, P2, K2, z2, F2⟩ := er c c0
    rw [e2, hX h2 K2 z2, hc, if_neg c0]
    exact ⟨h2, rfl, fun z => absurd z c0, fun _ => P2, F2⟩
  have good : fmE s.1.1 e k = 0 → ∃ h2, (some (.inl (some (zI 1)), h) : zO) = some (.inl (some (zI (if fmE s.1.1 e k = 0 then 1 else 0))), h2) ∧ (fmE s.1.1 e k = 0 → h2 = h) ∧ (fmE s.1.1 e k ≠ 0 → CPe h2 I len (errP (fmE s.1.1 e k) s)) ∧ Fr [(5, some 0), (5, some 1)] h h2 := fun hc => by
    rw [hc, if_pos rfl]
    exact ⟨h, rfl, fun _ => rfl, fun z => absurd rfl z, Fr_r _ _⟩
  rw [q_Pa_checkNode P.1, CPe_t P hf, P.2.2.1]
  unfold b_W_isOfConditions b_W_isOfExpressions
  by_cases he : 0 < e
  · rw [if_pos he] at hx
    rw [if_neg (show ¬ x1 = 0 by omega)]
    by_cases c4 : s.1.1 = -4
    · rw [if_pos c4]
      exact fin 2 (by unfold fmE; rw [if_pos ⟨he, c4⟩]) (by decide) _ (fun g Kg zg => by rw [q_Pa_checkNode_r23 Kg, if_neg zg])
    · have n4 : ¬ (0 < e ∧ s.1.1 = -4) := fun z => c4 z.2
      rw [if_neg c4]
      by_cases c9 : 0 ≤ s.1.1 ∧ s.1.1 ≤ 9
      · have y9 : (0 < e ∧ 0 ≤ s.1.1 ∧ s.1.1 ≤ 9) ∨ (e = 0 ∧ 10 ≤ s.1.1 ∧ s.1.1 ≤ 16) := Or.inl ⟨he, c9.1, c9.2⟩
        rw [if_pos c9]
        by_cases c30 : k < 30
        · rw [if_pos c30, if_pos hf]
          exact good (by unfold fmE; rw [if_neg n4, if_pos y9, if_neg (show ¬ k = 30 by omega)])
        · rw [if_neg c30]
          exact fin 4 (by unfold fmE; rw [if_neg n4, if_pos y9, if_pos (show k = 30 by omega)]) (by decide) _ (fun g Kg zg => by rw [q_Pa_checkNode_r66 Kg, if_neg zg])
      · rw [if_neg c9]
        exact fin 1 (by unfold fmE; rw [if_neg n4, if_neg (by omega)]) (by decide) _ (fun g Kg zg => by rw [q_Pa_checkNode_r52 Kg, if_neg zg])
  · rw [if_neg he] at hx
    have n4 : ¬ (0 < e ∧ s.1.1 = -4) := fun z => he z.1
    rw [if_pos hx]
    by_cases c9 : 10 ≤ s.1.1 ∧ s.1.1 ≤ 16
    · have y9 : (0 < e ∧ 0 ≤ s.1.1 ∧ s.1.1 ≤ 9) ∨ (e = 0 ∧ 10 ≤ s.1.1 ∧ s.1.1 ≤ 16) := Or.inr ⟨by omega, c9.1, c9.2⟩
      rw [if_pos c9]
      by_cases c30 : k < 30
      · rw [if_pos c30, if_pos hf]
        exact good (by unfold fmE; rw [if_neg n4, if_pos y9, if_neg (show ¬ k = 30 by omega)])
      · rw [if_neg c30]
        exact fin 4 (by unfold fmE; rw [if_neg n4, if_pos y9, if_pos (show k = 30 by omega)]) (by decide) _ (fun g Kg zg => by rw [q_Pa_checkNode_r66 Kg, if_neg zg])
    · rw [if_neg c9]
      exact fin 1 (by unfold fmE; rw [if_neg n4, if_neg (by omega)]) (by decide) _ (fun g Kg zg => by rw [q_Pa_checkNode_r52 Kg, if_neg zg])
/-- what a call makes that reads a formula -/
def FRes (h h2 : zH) (I : Nat → Int) (len : Int) (b : Nat) (s2 : PSt) : Prop := CPe h2 I len s2 ∧ FS h2 (hN h) ∧ (s2.2.1.1 = 0 → FO0 h2 (hN h) (upto s2.2.2.1.2.2.2 (b + 1) (s2.2.2.1.2.2.2 b).toNat [])) ∧ hN h2 = hN h + 2 ∧ Gw (WA scrPf) 2 0 h h2
theorem l_formEnd {b : Nat} {s : PSt} {x1 x2 x3 k x5 : Int} (P : CPe h I len s) (hz : hN h + 2 ≤ zVB) (k0 : 0 ≤ k) (k1 : k ≤ 30) (hk : s.2.1.1 = 0 → s.2.2.1.2.2.2 b = k ∧ ∀ j : Nat, j < k → hI h 6 j = s.2.2.1.2.2.2 (b + 1 + j)) : ∃ h2, zY 28 148 [some (zR (some 5)), some (zI x1), some (zI x2), some (zI x3), some (zI k), some (zI x5), none, none] [] h = some (.inl (some (zR (some (hN h)))), h2) ∧ FRes h h2 I len b s := by
  obtain ⟨h2, e2, F2, n2, G2⟩ := c_formulaEnd P.1 hz (x1 := x1) (x2 := x2) (x3 := x3) (x5 := x5) k0 k1
  refine ⟨h2, e2, CPe_g P G2 cl_0 (fun _ _ _ _ z => z) (fun _ => ⟨fun z => z, fun z => z, fun z => z, fun z => z⟩) ⟨fun z => z, fun z => z⟩, F2.1, fun hf => ?_, n2, Gw_m G2 (fun _ _ _ z => z.elim) (by omega) (by omega)⟩
  obtain ⟨q1, q2⟩ := hk hf
  have e : upto s.2.2.1.2.2.2 (b + 1) (s.2.2.1.2.2.2 b).toNat [] = upto (hI h 6) 0 k.toNat [] := by
    rw [q1]
    refine upto_congr k.toNat [] (fun i hi => ?_)
    rw [Nat.zero_add, q2 i (by omega)]
  rw [e]
  exact F2
theorem l_formC {b : Nat} {x1 : Int} : ∀ (m e c : Nat) (h : zH) (s : PSt) (k : Int), CPe h I len s → hN h + 2 ≤ zVB → s.2.1.1 = 0 → s.2.2.1.2.2.2 b = k → k + m = 32 → 0 ≤ k → k ≤ 30 → (e + c : Nat) ≤ k + 1 → (∀ j : Nat, j < k → hI h 6 j = s.2.2.1.2.2.2 (b + 1 + j)) → ∃ h2, zY 28 26 [some (zR (some 5)), some (zI x1), some (zI c), some (zI e), some (zI k), some (zI k), none, none] [] h = some (.inl (some (zR (some (hN h)))), h2) ∧ FRes h h2 I len b (fmS I len b m e c s)
  | 0, e, c, h, s, k, P, hz, hf, hk, hm, k0, k1, hec, hr => by omega
  | m + 1, e, c, h, s, k, P, hz, hf, hk, hm, k0, k1, hec, hr => by
    rw [q_Pa_parseFormula_26 P.1, if_neg (by omega), if_pos (P.2.2.1.trans hf), gd_t (by omega), fmS, hk]
    by_cases z : e + c = 0
    · rw [if_pos z, if_neg (by omega)]
      exact l_formEnd P hz k0 k1 (fun _ => ⟨hk, hr⟩)
    rw [if_neg z, if_pos (by omega)]
    have go : ∀ x6 : Int, x6 = (if 0 < e then 1 else 0) → ∃ h2, zBack zY 28 62 65 [some (zR (some 5)), some (zI x1), some (zI c), some (zI e), some (zI k), some (zI k), some (zI x6), none] [] (zC 29 [zR (some 5), zI x6, zI k] h) = some (.inl (some (zR (some (hN h)))), h2) ∧ FRes h h2 I len b (if fmE s.1.1 e k = 0 then fmS I len b m (e - (if 0 < e then 1 else 0) + exB s.1.1) (c - (if 0 < e then 0 else 1) + cdB s.1.1) (advP I len (putP b s)) else errP (fmE s.1.1 e k) s) := fun x6 h6 => by
      obtain ⟨g, eg, Hg, Eg, Fg⟩ := c_checkNode P hf h6 k1
      rw [eg]
      by_cases z1 : fmE s.1.1 e k = 0
      · have := Hg z1
        subst this
        obtain ⟨hx, h30⟩ := fmE_0 z1
        have ha := arity_e (x := s.1.1) (by omega) (by omega)
        obtain ⟨ex1, ex2⟩ := exB_c (x := s.1.1) (by omega) (by omega)
        rw [if_pos z1, if_pos z1, q_Pa_parseFormula_r65 P.1, if_neg (by decide), if_pos (by omega), gd_t (by omega), gd_t (by omega), CPe_t P hf, ex1, ex2, zi2b_v (by omega) (by omega)]
        have F1 : Fr [(6, none)] g (sI g 6 k.toNat s.1.1) := Fr_I (Fr_r _ _) rfl
        have hp1 : (putP b s).1 = s.1 ∧ (putP b s).2.1 = s.2.1 := by
          obtain ⟨t, ⟨f, fa⟩, ⟨n, top, R, N⟩, row, sec, last⟩ := s
          exact ⟨rfl, rfl⟩
        have P1 : CPe (sI g 6 k.toNat s.1.1) I len (putP b s) := CPe_eq (CPe_f P F1 rfl) hp1.1 hp1.2
        have r6 : hI (sI g 6 k.toNat s.1.1) 6 = upN (hI g 6) k.toNat s.1.1 := hI_up ..
        have n1 : hN (sI g 6 k.toNat s.1.1) = hN g := rfl
        generalize sI g 6 k.toNat s.1.1 = g1 at *
        obtain ⟨g2, e2, P2, F2⟩ := c_advE P1 (by rw [hp1.2]; exact hf) (by rw [hp1.1]; omega)
        have n2 : hN g2 = hN g := F2.1.trans n1
        have hk2 : (advP I len (putP b s)).2.2.1.2.2.2 b = k + 1 := by
          obtain ⟨t, ⟨f, fa⟩, ⟨n, top, R, N⟩, row, sec, last⟩ := s
          have hk' : N b = k := hk
          show upN (upN N b (N b + 1)) (b + (N b + 1).toNat) t.1 b = k + 1
          rw [upN_n _ _ (by omega), upN_s, hk']
        have hr2 : ∀ j : Nat, (j : Int) < k + 1 → hI g2 6 j = (advP I len (putP b s)).2.2.1.2.2.2 (b + 1 + j) := fun j hj => by
          rw [rI F2 6 rfl, r6]
          obtain ⟨t, ⟨f, fa⟩, ⟨n, top, R, N⟩, row, sec, last⟩ := s
          have hk' : N b = k := hk
          show upN (hI g 6) k.toNat t.1 j = upN (upN N b (N b + 1)) (b + (N b + 1).toNat) t.1 (b + 1 + j)
          rw [hk']
          by_cases cj : j = k.toNat
          · rw [cj, upN_s, show b + (k + 1).toNat = b + 1 + k.toNat by omega, upN_s]
          · rw [upN_n _ _ cj, upN_n _ _ (by omega), upN_n _ _ (by omega)]
            exact hr j (by omega)
        have hf2 : (advP I len (putP b s)).2.1.1 = 0 := by
          obtain ⟨t, ⟨f, fa⟩, ⟨n, top, R, N⟩, row, sec, last⟩ := s
          exact hf
        obtain ⟨h2, e3, C3, S3, L3, n3, G3⟩ := l_formC (x1 := x1) m (e - (if 0 < e then 1 else 0) + exB s.1.1) (c - (if 0 < e then 0 else 1) + cdB s.1.1) g2 _ (k + 1) P2 (by omega) hf2 hk2 (by omega) (by omega) (by omega) (by by_cases a : 0 < e <;> simp only [a, if_true, if_false] <;> omega) hr2
        have Ga : Gw (WA scrPf) 0 0 g g2 := Gw_of (Fr_t (Fr_m F1 (B := scrPf) rfl) (Fr_m F2 rfl)) (fun _ _ z => z)
        have res : FRes g h2 I len b (fmS I len b m (e - (if 0 < e then 1 else 0) + exB s.1.1) (c - (if 0 < e then 0 else 1) + cdB s.1.1) (advP I len (putP b s))) := by
          refine ⟨C3, by rw [← n2]; exact S3, by rw [← n2]; exact L3, by rw [← n2]; exact n3, Gw_m (Gw_t Ga G3 (fun _ _ _ z => z)) (fun _ _ _ z => z) (by omega) (by omega)⟩
        rw [n2] at e3
        by_cases he : 0 < e
        · rw [if_pos he] at h6
          simp only [if_pos he] at e3
          rw [if_neg (by omega), gd_t (by omega), gd_t (by omega), gd_t (by omega), gd_t (by omega), e2, q_Pa_parseFormula_r142 P2.1, gd_t (by omega)]
          refine ⟨h2, ?_, res⟩
          have q1 : (c : Int) + ((cdB s.1.1 : Int) - 0) = ((c - 0 + cdB s.1.1 : Nat) : Int) := by omega
          have q2 : (e : Int) + ((exB s.1.1 : Int) - 1) = ((e - 1 + exB s.1.1 : Nat) : Int) := by omega
          rw [q1, q2]
          exact zY_le (by exact ⟨rfl, rfl, rfl, rfl, rfl, rfl, trivial⟩) e3
        · rw [if_neg he] at h6
          simp only [if_neg he] at e3
          rw [if_pos h6, gd_t (by omega), gd_t (by omega), gd_t (by omega), gd_t (by omega), e2, q_Pa_parseFormula_r142 P2.1, gd_t (by omega)]
          refine ⟨h2, ?_, res⟩
          have q1 : (c : Int) + ((cdB s.1.1 : Int) - 1) = ((c - 1 + cdB s.1.1 : Nat) : Int) := by omega
          have q2 : (e : Int) + ((exB s.1.1 : Int) - 0) = ((e - 0 + exB s.1.1 : Nat) : Int) := by omega
          rw [q1, q2]
          exact zY_le (by exact ⟨rfl, rfl, rfl, rfl, rfl, rfl, trivial⟩) e3
      · have P2 := Eg z1
        rw [if_neg z1, if_neg z1, q_Pa_parseFormula_r65 P2.1, if_pos rfl, gd_t (by omega)]
        have ng : hN g = hN h := Fg.1
        obtain ⟨h2, e3, C3, S3, L3, n3, G3⟩ := l_formEnd (b := b) (s := errP (fmE s.1.1 e k) s) (x1 := x1) (x2 := c) (x3 := e) (k := k) (x5 := k + 1) P2 (by omega) k0 k1 (fun z => absurd z (errP_f z1 s))
        have Ga : Gw (WA scrPf) 0 0 h g := Gw_of (Fr_m Fg (B := scrPf) rfl) (fun _ _ z => z)
        refine ⟨h2, ?_, C3, by rw [← ng]; exact S3, by rw [← ng]; exact L3, by rw [← ng]; exact n3, Gw_m (Gw_t Ga G3 (fun _ _ _ z => z)) (fun _ _ _ z => z) (by omega) (by omega)⟩
        rw [ng] at e3
        refine zY_le (L := [some (zR (some 5)), some (zI x1), some (zI c), some (zI e), some (zI k), some (zI (k + 1)), none, none]) (by exact ⟨rfl, rfl, rfl, rfl, rfl, rfl, trivial⟩) ?_
        rw [q_Pa_parseFormula_26 P2.1]
        by_cases c30 : 30 < k + 1
        · rw [if_pos c30]; exact e3
        · rw [if_neg c30, if_neg (by rw [P2.2.2.1]; exact errP_f z1 s)]; exact e3
    by_cases he : 0 < e
    · rw [if_pos (by omega)]
      exact go 1 (by rw [if_pos he])
    · rw [if_neg (by omega)]
      exact go 0 (by rw [if_neg he])
/-- a formula where one may stand: the reference's forF -/
theorem c_formC {s : PSt} {q what : Int} (P : CPe h I len s) (hz : hN h + 2 ≤ zVB) (hw : what = 0 ∨ what = 1) : ∃ h2, zC 28 [zR (some 5), zI what] h = some (.inl (some (zR (some (hN h)))), h2) ∧ FRes h h2 I len (31 * q).toNat (forF I len q what s) := by
  rw [q_Pa_parseFormula P.1]
  unfold forF
  by_cases hf : s.2.1.1 = 0
  · rw [if_pos hf]
    unfold forP
    have hp1 : (zerP (31 * q).toNat s).1 = s.1 ∧ (zerP (31 * q).toNat s).2.1 = s.2.1 ∧ (zerP (31 * q).toNat s).2.2.1.2.2.2 (31 * q).toNat = 0 := by
      obtain ⟨t, ⟨f, fa⟩, ⟨n, top, R, N⟩, row, sec, last⟩ := s
      exact ⟨rfl, rfl, upN_s _ _ _⟩
    have P1 := CPe_eq P hp1.1 hp1.2.1
    have hf1 : (zerP (31 * q).toNat s).2.1.1 = 0 := by rw [hp1.2.1]; exact hf
    rcases hw with z | z
    · subst z
      exact l_formC 32 1 0 h _ 0 P1 hz hf1 hp1.2.2 rfl (by decide) (by decide) (by decide) (fun j hj => by omega)
    · subst z
      exact l_formC 32 0 1 h _ 0 P1 hz hf1 hp1.2.2 rfl (by decide) (by decide) (by decide) (fun j hj => by omega)
  · rw [if_neg hf]
    have fin : ∀ x2 x3 : Int, ∃ h2, zY 28 26 [some (zR (some 5)), some (zI what), some (zI x2), some (zI x3), some (zI 0), some (zI 0), none, none] [] h = some (.inl (some (zR (some (hN h)))), h2) ∧ FRes h h2 I len (31 * q).toNat s := fun x2 x3 => by
      rw [q_Pa_parseFormula_26 P.1, if_neg (by decide), if_neg (by rw [P.2.2.1]; exact hf)]
      exact l_formEnd P hz (by decide) (by decide) (fun z => absurd z hf)
    by_cases z : what = 0
    · rw [if_pos z]; exact fin 0 1
    · rw [if_neg z]; exact fin 1 0
end CFORM

