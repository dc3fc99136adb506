/-! The class: the reading of a whole text. -/
section CDESC
variable {I : Nat → Int} {len : Int} {h h2 : zH} {p v lo : Nat} {n top row sec last : Int} {R N : Nat → Int}
theorem WPX_t {d e d2 e2 d3 e3 : Nat} {a b c : zH} (F : Gw (WPX p v) d e a b) (G : Gw (WPX p v) d2 e2 b c) (hd : d + d2 ≤ d3) (he : e + e2 ≤ e3) : Gw (WPX p v) d3 e3 a c := Gw_m (Gw_t F G (fun _ _ _ z => z)) (fun _ _ _ z => z) hd he
/-- the error at a text's end -/
theorem c_finC {s : PSt} (S : CPS h I len p v lo s) (o : okpv p v lo) (hx : s.2.1.1 = 0 → hI h 5 6 = s.2.2.2.1) {x3 : Int} : ∃ h2, (if hI h 5 6 = -1 then zBack zY 25 105 108 [some (zR (some 5)), some (zR (some p)), some (zR (some v)), some (zI x3)] [] (zC 49 [zR (some p)] h) else zBack zY 25 98 101 [some (zR (some 5)), some (zR (some p)), some (zR (some v)), some (zI x3)] [] (zC 27 [zR (some 5), zI 1] h) : zO) = zBack zY 25 105 108 [some (zR (some 5)), some (zR (some p)), some (zR (some v)), some (zI x3)] [] (zC 49 [zR (some p)] h2) ∧ CPS h2 I len p v lo (finP s) ∧ Gw (WPX p v) 0 0 h h2 := by
  obtain ⟨P, C, nb, M⟩ := id S
  by_cases c : hI h 5 6 = -1
  · rw [if_pos c]
    have e : finP s = s := by
      unfold finP
      by_cases f : s.2.1.1 = 0
      · rw [if_pos f, if_pos ((hx f).symm.trans c)]
      · rw [if_neg f]
    rw [e]
    exact ⟨h, rfl, S, Gw_r _ _⟩
  · obtain ⟨h2, e2, P2, F2⟩ := c_errC P (c := 1) (by decide)
    have e : finP s = errP 1 s := by
      unfold finP
      by_cases f : s.2.1.1 = 0
      · rw [if_pos f, if_neg (fun z => c ((hx f).trans z))]
      · rw [if_neg f]
        obtain ⟨t, ⟨f', fa⟩, pp, w⟩ := s
        unfold errP
        simp only
        rw [if_neg f]
    have G2 : Gw (WA scrPx) 0 0 h h2 := Gw_of (Fr_m F2 (B := scrPx) rfl) (fun _ _ z => z)
    have C2 := CWk_A C G2 rfl o
    rw [if_neg c, e2, q_Pa_parseDescription_r101 P2.1 C2.1 C2.2.1 C2.2.2.1 C2.1, e]
    exact ⟨h2, rfl, ⟨P2, C2, by have := F2.1; omega, fun z => absurd z (errP_f (by decide) _)⟩, Gw_m G2 (fun a k _ z => Or.inl z) (Nat.le_refl _) (Nat.le_refl _)⟩
theorem l_runC (o : okpv p v lo) (hz : lo + 160 ≤ zVB) : ∀ (m : Nat) (s : PSt) (h : zH) (i : Int), CPS h I len p v lo s → (s.2.1.1 = 0 → INV len s) → TV len s.1 → len - s.1.2.1 ≤ m → i + m ≤ 800 → 0 ≤ i → ∃ h2 x3, zY 25 52 [some (zR (some 5)), some (zR (some p)), some (zR (some v)), some (zI i)] [] h = zBack zY 25 105 108 [some (zR (some 5)), some (zR (some p)), some (zR (some v)), some (zI x3)] [] (zC 49 [zR (some p)] h2) ∧ CPS h2 I len p v lo (finP (runP I len m s)) ∧ Gw (WPX p v) (6 * m) 0 h h2
  | m, s, h, i, S, V, T, hm, hi, i0 => by
    obtain ⟨P, C, nb, M⟩ := id S
    have hx : s.2.1.1 = 0 → hI h 5 6 = s.2.2.2.1 := fun z => (M z).2.2.1
    have fin := c_finC S o hx (x3 := i)
    have stop : runP I len m s = s → ∃ h2 x3, (if hI h 5 6 = -1 then zBack zY 25 105 108 [some (zR (some 5)), some (zR (some p)), some (zR (some v)), some (zI i)] [] (zC 49 [zR (some p)] h) else zBack zY 25 98 101 [some (zR (some 5)), some (zR (some p)), some (zR (some v)), some (zI i)] [] (zC 27 [zR (some 5), zI 1] h) : zO) = zBack zY 25 105 108 [some (zR (some 5)), some (zR (some p)), some (zR (some v)), some (zI x3)] [] (zC 49 [zR (some p)] h2) ∧ CPS h2 I len p v lo (finP (runP I len m s)) ∧ Gw (WPX p v) (6 * m) 0 h h2 := fun e => by
      obtain ⟨h2, e2, S2, G2⟩ := fin
      rw [e]
      exact ⟨h2, i, e2, S2, Gw_m G2 (fun _ _ _ z => z) (by omega) (by omega)⟩
    rw [q_Pa_parseDescription_52 P.1 C.1 C.2.1 C.2.2.1 C.1, P.2.2.1]
    cases m with
    | zero =>
      by_cases c8 : i < 800
      · rw [if_pos c8]
        by_cases f : s.2.1.1 = 0
        · have t2 := T.2.2.2 (by omega)
          rw [if_pos f, CPe_t P f, if_pos t2]
          exact stop rfl
        · rw [if_neg f]
          exact stop rfl
      · rw [if_neg c8]; exact stop rfl
    | succ m =>
      rw [if_pos (by omega)]
      by_cases f : s.2.1.1 = 0
      · rw [if_pos f, CPe_t P f]
        by_cases t2 : s.1.1 = -2
        · rw [if_pos t2]; exact stop (by rw [runP, if_pos f, if_pos t2])
        · obtain ⟨g, eg, Sg, Gg⟩ := c_stpC S (V f) f o hz
          have ok := stpP_ok (I := I) (V f) f
          have Cg := Sg.2.1
          rw [if_neg t2, eg, q_Pa_parseDescription_r82 Sg.1.1 Cg.1 Cg.2.1, gd_t (by omega)]
          have er : runP I len (m + 1) s = runP I len m (stpP I len s) := by rw [runP, if_pos f, if_neg t2]
          rw [er]
          by_cases f2 : (stpP I len s).2.1.1 = 0
          · obtain ⟨h2, x3, e2, S2, G2⟩ := l_runC o hz m (stpP I len s) g (i + 1) Sg (fun z => (ok.2 z).1) ok.1 (by have := (ok.2 f2).2; omega) (by omega) (by omega)
            exact ⟨h2, x3, e2, S2, WPX_t Gg G2 (by omega) (by omega)⟩
          · have er2 : runP I len m (stpP I len s) = stpP I len s := by
              cases m with
              | zero => rfl
              | succ m => rw [runP, if_neg f2]
            obtain ⟨h2, e2, S2, G2⟩ := c_finC Sg o (fun z => absurd z f2) (x3 := i + 1)
            rw [er2, q_Pa_parseDescription_52 Sg.1.1 Cg.1 Cg.2.1 Cg.2.2.1 Cg.1, Sg.1.2.2.1]
            refine ⟨h2, i + 1, ?_, S2, WPX_t Gg G2 (by omega) (by omega)⟩
            rw [← e2]
            by_cases c8 : i + 1 < 800
            · rw [if_pos c8, if_neg f2]
            · rw [if_neg c8]
      · rw [if_neg f]
        exact stop (by rw [runP, if_neg f])
/-- where a run goes on behind each statement -/
theorem l_connect (hp0 : 3 < p) : ∀ (m : Nat) (i : Int) (h : zH) (x2 : Option zV), PS h p → i + m = 24 → 0 ≤ i → ∃ h2, zY 49 2 [some (zR (some p)), some (zI i), x2] [] h = some (.inl none, h2) ∧ (∀ th : Int → Int, ∀ n : Int, hI h p 0 = n → n ≤ 24 → (∀ s, 0 ≤ s → s < n → (hI h (p + 5) s.toNat = -1 → f_P_kindOf h p (f_P_parentOf h p s) = 2 → th s = f_P_parentOf h p s) ∧ (hI h (p + 5) s.toNat = -1 → f_P_kindOf h p (f_P_parentOf h p s) ≠ 2 → ((f_P_parentOf h p s = -1 ∧ th s = -1) ∨ (0 ≤ f_P_parentOf h p s ∧ f_P_parentOf h p s < s ∧ th s = th (f_P_parentOf h p s)))) ∧ (hI h (p + 5) s.toNat ≠ -1 → th s = hI h (p + 5) s.toNat)) → (∀ s, 0 ≤ s → s < i → s < n → hI h (p + 8) s.toNat = th s) → ∀ s, 0 ≤ s → s < n → hI h2 (p + 8) s.toNat = th s) ∧ Gw (fun a _ => a = p + 8) 0 0 h h2
  | m, i, h, x2, P, hm, i0 => by
    refine (?_ : ∃ h2, zY 49 2 [some (zR (some p)), some (zI i), x2] [] h = some (.inl none, h2) ∧ _ ∧ _)
    have hp := P.2.1
    have body : ∃ h2, zY 49 2 [some (zR (some p)), some (zI i), none] [] h = some (.inl none, h2) ∧ (∀ th : Int → Int, ∀ n : Int, hI h p 0 = n → n ≤ 24 → (∀ s, 0 ≤ s → s < n → (hI h (p + 5) s.toNat = -1 → f_P_kindOf h p (f_P_parentOf h p s) = 2 → th s = f_P_parentOf h p s) ∧ (hI h (p + 5) s.toNat = -1 → f_P_kindOf h p (f_P_parentOf h p s) ≠ 2 → ((f_P_parentOf h p s = -1 ∧ th s = -1) ∨ (0 ≤ f_P_parentOf h p s ∧ f_P_parentOf h p s < s ∧ th s = th (f_P_parentOf h p s)))) ∧ (hI h (p + 5) s.toNat ≠ -1 → th s = hI h (p + 5) s.toNat)) → (∀ s, 0 ≤ s → s < i → s < n → hI h (p + 8) s.toNat = th s) → ∀ s, 0 ≤ s → s < n → hI h2 (p + 8) s.toNat = th s) ∧ Gw (fun a _ => a = p + 8) 0 0 h h2 := by
      rw [q_P_connect_2 P]
      have out : (¬ i < hI h p 0 ∨ ¬ i < 24) → ∃ h2, (some (.inl none, h) : zO) = some (.inl none, h2) ∧ (∀ th : Int → Int, ∀ n : Int, hI h p 0 = n → n ≤ 24 → (∀ s, 0 ≤ s → s < n → (hI h (p + 5) s.toNat = -1 → f_P_kindOf h p (f_P_parentOf h p s) = 2 → th s = f_P_parentOf h p s) ∧ (hI h (p + 5) s.toNat = -1 → f_P_kindOf h p (f_P_parentOf h p s) ≠ 2 → ((f_P_parentOf h p s = -1 ∧ th s = -1) ∨ (0 ≤ f_P_parentOf h p s ∧ f_P_parentOf h p s < s ∧ th s = th (f_P_parentOf h p s)))) ∧ (hI h (p + 5) s.toNat ≠ -1 → th s = hI h (p + 5) s.toNat)) → (∀ s, 0 ≤ s → s < i → s < n → hI h (p + 8) s.toNat = th s) → ∀ s, 0 ≤ s → s < n → hI h2 (p + 8) s.toNat = th s) ∧ Gw (fun a _ => a = p + 8) 0 0 h h2 := fun hq => ⟨h, rfl, fun th n e1 e2 e3 e4 s s0 s1 => e4 s s0 (by omega) s1, Gw_r _ _⟩
      by_cases c1 : i < hI h p 0
      · rw [if_pos c1]
        by_cases c2 : i < 24
        · rw [if_pos c2, gd_t (by omega)]
          obtain ⟨m', rfl⟩ : ∃ m', m = m' + 1 := ⟨m - 1, by omega⟩
          have go : ∀ x : Int, (∀ th : Int → Int, ((hI h (p + 5) i.toNat = -1 → f_P_kindOf h p (f_P_parentOf h p i) = 2 → th i = f_P_parentOf h p i) ∧ (hI h (p + 5) i.toNat = -1 → f_P_kindOf h p (f_P_parentOf h p i) ≠ 2 → ((f_P_parentOf h p i = -1 ∧ th i = -1) ∨ (0 ≤ f_P_parentOf h p i ∧ f_P_parentOf h p i < i ∧ th i = th (f_P_parentOf h p i)))) ∧ (hI h (p + 5) i.toNat ≠ -1 → th i = hI h (p + 5) i.toNat)) → (∀ s, 0 ≤ s → s < i → s < hI h p 0 → hI h (p + 8) s.toNat = th s) → x = th i) → ∃ h2, zY 49 2 [some (zR (some p)), some (zI (i + 1)), some (zI (f_P_parentOf h p i))] [] (sI h (p + 8) i.toNat x) = some (.inl none, h2) ∧ (∀ th : Int → Int, ∀ n : Int, hI h p 0 = n → n ≤ 24 → (∀ s, 0 ≤ s → s < n → (hI h (p + 5) s.toNat = -1 → f_P_kindOf h p (f_P_parentOf h p s) = 2 → th s = f_P_parentOf h p s) ∧ (hI h (p + 5) s.toNat = -1 → f_P_kindOf h p (f_P_parentOf h p s) ≠ 2 → ((f_P_parentOf h p s = -1 ∧ th s = -1) ∨ (0 ≤ f_P_parentOf h p s ∧ f_P_parentOf h p s < s ∧ th s = th (f_P_parentOf h p s)))) ∧ (hI h (p + 5) s.toNat ≠ -1 → th s = hI h (p + 5) s.toNat)) → (∀ s, 0 ≤ s → s < i → s < n → hI h (p + 8) s.toNat = th s) → ∀ s, 0 ≤ s → s < n → hI h2 (p + 8) s.toNat = th s) ∧ Gw (fun a _ => a = p + 8) 0 0 h h2 := fun x hx => by
            have G1 : Gw (fun a _ => a = p + 8) 0 0 h (sI h (p + 8) i.toNat x) := Gw_sI (Gw_r _ _) _ (fun _ => rfl)
            have P1 := PS_g P G1 (fun k _ z => by omega)
            have r0 : hI (sI h (p + 8) i.toNat x) p = hI h p := hI_ne _ _ (by omega)
            have r5 : hI (sI h (p + 8) i.toNat x) (p + 5) = hI h (p + 5) := hI_ne _ _ (by omega)
            have r3 : hI (sI h (p + 8) i.toNat x) (p + 3) = hI h (p + 3) := hI_ne _ _ (by omega)
            have r1 : hI (sI h (p + 8) i.toNat x) (p + 1) = hI h (p + 1) := hI_ne _ _ (by omega)
            have r8 : hI (sI h (p + 8) i.toNat x) (p + 8) = upN (hI h (p + 8)) i.toNat x := hI_up _ _ _ _
            have rp : ∀ s, f_P_parentOf (sI h (p + 8) i.toNat x) p s = f_P_parentOf h p s := fun s => by unfold f_P_parentOf b_P_has; rw [r0, r3]
            have rk : ∀ s, f_P_kindOf (sI h (p + 8) i.toNat x) p s = f_P_kindOf h p s := fun s => by unfold f_P_kindOf b_P_has; rw [r0, r1]
            generalize sI h (p + 8) i.toNat x = g at *
            obtain ⟨h2, e2, A2, G2⟩ := l_connect hp0 m' (i + 1) g (some (zI (f_P_parentOf h p i))) P1 (by omega) (by omega)
            refine ⟨h2, e2, fun th n e1 e3 e4 e5 => A2 th n (by rw [r0]; exact e1) e3 (fun s s0 s1 => by rw [r5, rp, rk]; exact e4 s s0 s1) (fun s s0 s1 s2 => ?_), Gw_m (Gw_t G1 G2 (fun _ _ _ z => z)) (fun _ _ _ z => z) (by omega) (by omega)⟩
            rw [r8]
            by_cases q : s = i
            · rw [q, upN_s]
              exact hx th (e4 i i0 (by omega)) (fun s a b c => e5 s a b (by omega))
            · rw [upN_n _ _ (by omega)]
              exact e5 s s0 (by omega) s2
          by_cases c3 : hI h (p + 5) i.toNat = -1
          · rw [if_pos c3]
            by_cases c4 : f_P_kindOf h p (f_P_parentOf h p i) = 2
            · rw [if_pos c4, gd_t (by omega)]
              exact go _ (fun th a _ => (a.1 c3 c4).symm)
            · rw [if_neg c4, gd_t (by omega)]
              refine go _ (fun th a b => ?_)
              rcases a.2.1 c3 c4 with ⟨z, y⟩ | ⟨z0, z1, y⟩
              · rw [z, y]
                unfold f_P_thenOf
                rw [if_neg]
                unfold b_P_has
                omega
              · rw [y]
                unfold f_P_thenOf
                rw [if_pos (by unfold b_P_has; omega)]
                exact b _ z0 z1 (by omega)
          · rw [if_neg c3, gd_t (by omega)]
            exact go _ (fun th a _ => (a.2.2 c3).symm)
        · rw [if_neg c2]; exact out (Or.inr c2)
      · rw [if_neg c1]; exact out (Or.inl c1)
    obtain ⟨h2, e2, r⟩ := body
    exact ⟨h2, zY_le (by exact ⟨rfl, rfl, trivial⟩) e2, r⟩
end CDESC

