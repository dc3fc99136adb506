/-! The class: all tokens of a text. -/
section CBEGIN
variable {I : Nat → Int} {len : Int} {h h2 : zH}
def tkS (I : Nat → Int) (len : Int) : Nat → TK
  | 0 => tok I len false 0
  | i + 1 => tok I len true (tkS I len i).2.2
theorem tkS_TV (h0 : 0 ≤ len) : ∀ i, TV len (tkS I len i)
  | 0 => (tok_TV (Int.le_refl 0) h0).1
  | i + 1 => by
    have t := (tkS_TV h0 i).1
    exact (tok_TV (by omega) t.2.2).1
theorem tok_gr {b : Bool} {e : Int} (h0 : 0 ≤ e) (h1 : e ≤ len) (n2 : (tok I len b e).1 ≠ -2) (n3 : (tok I len b e).1 ≠ -3) : (e + (if b = true then 1 else 0)) < (tok I len b e).2.2 := by
  have hs0 := skp_ge (I := I) (len := len) blB 800 e
  unfold tok at n2 n3 ⊢
  generalize skp blB I len 800 e = s at *
  unfold tkw at n2 n3 ⊢
  by_cases c1 : len ≤ s
  · rw [if_pos c1] at n2; exact absurd rfl n2
  rw [if_neg c1] at n3 ⊢
  by_cases c2 : (b && decide (s = e)) = true
  · rw [if_pos c2] at n3; exact absurd rfl n3
  rw [if_neg c2] at n3 ⊢
  have c5 : e + (if b = true then 1 else 0) ≤ s := by
    by_cases c6 : b = true
    · rw [if_pos c6]
      rw [c6, Bool.true_and] at c2
      have : s ≠ e := fun z => c2 (decide_eq_true z)
      omega
    · rw [if_neg c6]; omega
  by_cases c3 : leB (chr I len s) = true
  · rw [if_pos c3] at n3 ⊢
    show _ < skp leB I len 800 s
    have := skp_ge (I := I) (len := len) leB 799 (s + 1)
    show _ < (if leB (chr I len s) = true then skp leB I len 799 (s + 1) else s)
    rw [if_pos c3]; omega
  rw [if_neg c3] at n3 ⊢
  by_cases c4 : diB (chr I len s) = true
  · rw [if_pos c4] at n3 ⊢
    show _ < skp diB I len 800 s
    have := skp_ge (I := I) (len := len) diB 799 (s + 1)
    show _ < (if diB (chr I len s) = true then skp diB I len 799 (s + 1) else s)
    rw [if_pos c4]; omega
  rw [if_neg c4] at n3
  exact absurd rfl n3
theorem tkS_gr (h0 : 0 ≤ len) : ∀ i, (∀ j, j ≤ i → (tkS I len j).1 ≠ -2 ∧ (tkS I len j).1 ≠ -3) → 2 * (i : Int) + 1 ≤ (tkS I len i).2.2
  | 0, H => by
    have := tok_gr (I := I) (b := false) (Int.le_refl 0) h0 (H 0 (Nat.le_refl 0)).1 (H 0 (Nat.le_refl 0)).2
    rw [if_neg (by decide)] at this
    show 2 * ((0 : Nat) : Int) + 1 ≤ (tok I len false 0).2.2
    omega
  | i + 1, H => by
    have ih := tkS_gr h0 i (fun j hj => H j (by omega))
    have t := (tkS_TV (I := I) h0 i).1
    have := tok_gr (I := I) (b := true) (e := (tkS I len i).2.2) (by omega) t.2.2 (H (i + 1) (Nat.le_refl _)).1 (H (i + 1) (Nat.le_refl _)).2
    rw [if_pos rfl] at this
    show 2 * ((i + 1 : Nat) : Int) + 1 ≤ (tok I len true (tkS I len i).2.2).2.2
    omega
/-- the scanner stands at a token -/
def TKC (h : zH) (I : Nat → Int) (len : Int) (t : TK) : Prop := SCT h I len ∧ ∃ i c : Nat, t = tkS I len i ∧ hI h 7 7 = c ∧ hI h 7 8 = i + 1 ∧ i < c ∧ c ≤ 402 ∧ hI h 7 0 = t.1 ∧ hI h 7 1 = t.2.1 ∧ (∀ j : Nat, j < c → hI h 8 j = (tkS I len j).1 ∧ hI h 9 j = (tkS I len j).2.1) ∧ ((tkS I len (c - 1)).1 = -2 ∨ (tkS I len (c - 1)).1 = -3)
def okTK (A : FA) : Bool := okC A && (A.all fun x => Nat.blt x.1 9000000) && rowA A 1 && rowA A 7 && rowA A 8 && rowA A 9
theorem TKC_f {A : FA} {t : TK} (T : TKC h I len t) (F : Fr A h h2) (e : okTK A = true) : TKC h2 I len t := by
  simp only [okTK, Bool.and_eq_true] at e
  obtain ⟨S, i, c, a1, a2, a3, a4, a5, a6, a7, a8, a9⟩ := T
  obtain ⟨K, Ks, s1, s2, s3⟩ := S
  have e7 := rI F 7 e.1.1.2
  refine ⟨⟨KC_f K F e.1.1.1.1.1, KS_f Ks F e.1.1.1.1.2, (rI F 1 e.1.1.1.2).trans s1, by rw [e7]; exact s2, s3⟩, i, c, a1, ?_, ?_, a4, a5, ?_, ?_, fun j hj => ?_, a9⟩
  · rw [e7]; exact a2
  · rw [e7]; exact a3
  · rw [e7]; exact a6
  · rw [e7]; exact a7
  · rw [rI F 8 e.1.2, rI F 9 e.2]; exact a8 j hj
abbrev scrAd : FA := [(7, some 0), (7, some 1), (7, some 8)]
theorem c_advC {t : TK} (T : TKC h I len t) (h0 : t.1 ≠ -2) (h1 : t.1 ≠ -3) : ∃ h2, zC 91 [zR (some 7)] h = some (.inl none, h2) ∧ TKC h2 I len (tok I len true t.2.2) ∧ Fr scrAd h h2 := by
  obtain ⟨S, i, c, a1, a2, a3, a4, a5, a6, a7, a8, a9⟩ := T
  obtain ⟨K, Ks, s1, s2, s3⟩ := S
  have hc : i + 1 < c := by
    by_cases q : i + 1 < c
    · exact q
    · have : c - 1 = i := by omega
      rw [this, ← a1] at a9
      rcases a9 with z | z
      · exact absurd z h0
      · exact absurd z h1
  have hi : ((i : Int) + 1).toNat = i + 1 := by omega
  rw [q_Sc_advance K, a3, a2, if_neg (by omega), if_pos (by omega), if_pos (by omega), gd_t (by omega), hi]
  have F : Fr scrAd h (sI (sI (sI h 7 0 (hI h 8 (i + 1))) 7 1 (hI h 9 (i + 1))) 7 8 ((i : Int) + 1 + 1)) := Fr_I (Fr_I (Fr_I (Fr_r _ _) rfl) rfl) rfl
  refine ⟨_, rfl, ⟨⟨KC_f K F rfl, KS_f Ks F rfl, (rI F 1 rfl).trans s1, (fI F 7 3 rfl).trans s2, s3⟩, i + 1, c, ?_, (fI F 7 7 rfl).trans a2, ?_, hc, a5, ?_, ?_, fun j hj => ?_, a9⟩, F⟩
  · rw [a1]; rfl
  · show (i : Int) + 1 + 1 = ((i + 1 : Nat) : Int) + 1
    omega
  · show hI h 8 (i + 1) = _
    rw [(a8 (i + 1) hc).1, a1]; rfl
  · show hI h 9 (i + 1) = _
    rw [(a8 (i + 1) hc).2, a1]; rfl
  · rw [rI F 8 rfl, rI F 9 rfl]; exact a8 j hj
abbrev scrBe : FA := [(7, some 0), (7, some 1), (7, some 3), (7, some 4), (7, some 7), (7, some 8), (8, none), (9, none)]
def BI (h : zH) (I : Nat → Int) (len : Int) (i : Nat) : Prop := SCT h I len ∧ hI h 7 7 = i ∧ (∀ j : Nat, j < i → hI h 8 j = (tkS I len j).1 ∧ hI h 9 j = (tkS I len j).2.1) ∧ (i = 0 → hI h 7 0 = -1 ∧ hI h 7 4 = 0) ∧ (0 < i → hI h 7 0 = (tkS I len (i - 1)).1 ∧ ((tkS I len (i - 1)).1 ≠ -2 → (tkS I len (i - 1)).1 ≠ -3 → hI h 7 4 = (tkS I len (i - 1)).2.2)) ∧ (∀ j : Nat, j + 1 < i → (tkS I len j).1 ≠ -2 ∧ (tkS I len j).1 ≠ -3)
theorem BI_next {g : zH} {i : Nat} (S : SCT g I len) (g0 : hI g 7 0 = (tkS I len i).1) (g1 : hI g 7 1 = (tkS I len i).2.1) (g4 : (tkS I len i).1 ≠ -2 → (tkS I len i).1 ≠ -3 → hI g 7 4 = (tkS I len i).2.2) (b2 : ∀ j : Nat, j < i → hI g 8 j = (tkS I len j).1 ∧ hI g 9 j = (tkS I len j).2.1) (b5 : ∀ j : Nat, j < i → (tkS I len j).1 ≠ -2 ∧ (tkS I len j).1 ≠ -3) : BI (sI (sI (sI g 8 i (hI g 7 0)) 9 i (hI g 7 1)) 7 7 ((i : Int) + 1)) I len (i + 1) := by
  have F1 : Fr [(8, none)] g (sI g 8 i (hI g 7 0)) := Fr_I (Fr_r _ _) rfl
  have u1 : hI (sI g 8 i (hI g 7 0)) 8 = upN (hI g 8) i (hI g 7 0) := hI_up ..
  generalize sI g 8 i (hI g 7 0) = a at *
  have F2 : Fr [(9, none)] a (sI a 9 i (hI g 7 1)) := Fr_I (Fr_r _ _) rfl
  have u2 : hI (sI a 9 i (hI g 7 1)) 9 = upN (hI a 9) i (hI g 7 1) := hI_up ..
  generalize sI a 9 i (hI g 7 1) = b at *
  have F3 : Fr [(7, some 7)] b (sI b 7 7 ((i : Int) + 1)) := Fr_I (Fr_r _ _) rfl
  have u3 : hI (sI b 7 7 ((i : Int) + 1)) 7 7 = ((i : Int) + 1) := rfl
  generalize sI b 7 7 ((i : Int) + 1) = c at *
  have F : Fr [(7, some 7), (8, none), (9, none)] g c := Fr_t (Fr_m F1 rfl) (Fr_t (Fr_m F2 rfl) (Fr_m F3 rfl))
  have v8 : hI c 8 = upN (hI g 8) i (hI g 7 0) := (rI F3 8 rfl).trans ((rI F2 8 rfl).trans u1)
  have v9 : hI c 9 = upN (hI g 9) i (hI g 7 1) := (rI F3 9 rfl).trans (u2.trans (by rw [rI F1 9 rfl]))
  have v0 : hI c 7 0 = hI g 7 0 := fI F 7 0 rfl
  have v4 : hI c 7 4 = hI g 7 4 := fI F 7 4 rfl
  refine ⟨SCT_f S F rfl, u3.trans (by omega), fun j hj => ?_, fun z => absurd z (by omega), fun _ => ⟨?_, fun n2 n3 => ?_⟩, fun j hj => b5 j (by omega)⟩
  · rw [v8, v9]
    by_cases q : j = i
    · subst q
      rw [upN_s, upN_s]
      exact ⟨g0, g1⟩
    · rw [upN_n _ _ q, upN_n _ _ q]
      exact b2 j (by omega)
  · rw [v0]; exact g0
  · rw [v4]; exact g4 n2 n3
theorem l_begin_st {x : Int} {i : Nat} {h : zH} (B : BI h I len i) (hm : i ≤ 402) (ih : i < 402 → ∀ g, BI g I len (i + 1) → ∃ h2, zY 82 30 [some (zR (some 7)), some (zI x), some (zI ((i + 1 : Nat) : Int))] [] g = some (.inl none, h2) ∧ TKC h2 I len (tkS I len 0) ∧ Fr scrBe g h2) : ∃ h2, zY 82 30 [some (zR (some 7)), some (zI x), some (zI i)] [] h = some (.inl none, h2) ∧ TKC h2 I len (tkS I len 0) ∧ Fr scrBe h h2 := by
    obtain ⟨S, b1, b2, b3, b4, b5⟩ := B
    obtain ⟨K, Ks, s1, s2, s3⟩ := id S
    have fin : 0 < i → ((tkS I len (i - 1)).1 = -2 ∨ (tkS I len (i - 1)).1 = -3) → ∃ h2, zBack zY 82 101 104 [some (zR (some 7)), some (zI x), some (zI i)] [] (zC 91 [zR (some 7)] (sI h 7 8 0)) = some (.inl none, h2) ∧ TKC h2 I len (tkS I len 0) ∧ Fr scrBe h h2 := fun i0 tr => by
      have F1 : Fr scrBe h (sI h 7 8 0) := Fr_I (Fr_r _ _) rfl
      have K1 := KC_f K F1 rfl
      have e8 : hI (sI h 7 8 0) 7 8 = 0 := rfl
      have e7 : hI (sI h 7 8 0) 7 7 = i := b1
      rw [q_Sc_advance K1, e8, e7, if_neg (by decide), if_pos (by omega), if_pos (by decide), gd_t (by decide)]
      have F : Fr scrBe h (sI (sI (sI (sI h 7 8 0) 7 0 (hI (sI h 7 8 0) 8 (0 : Int).toNat)) 7 1 (hI (sI h 7 8 0) 9 (0 : Int).toNat)) 7 8 (0 + 1)) := Fr_I (Fr_I (Fr_I F1 rfl) rfl) rfl
      have K2 := KC_f K F rfl
      rw [q_Sc_begin_r104 K2]
      refine ⟨_, rfl, ⟨⟨K2, KS_f Ks F rfl, (rI F 1 rfl).trans s1, s2, s3⟩, 0, i, rfl, b1, rfl, i0, by omega, ?_, ?_, fun j hj => b2 j hj, tr⟩, F⟩
      · exact (b2 0 i0).1
      · exact (b2 0 i0).2
    rw [q_Sc_begin_30 K]
    by_cases c : (i : Int) < 402
    · rw [if_pos c]
      have go : ((i = 0 ∧ hI h 7 0 = -1) ∨ (0 < i ∧ (tkS I len (i - 1)).1 ≠ -2 ∧ (tkS I len (i - 1)).1 ≠ -3)) → ∃ h2, zBack zY 82 56 59 [some (zR (some 7)), some (zI x), some (zI i)] [] (zC 83 [zR (some 7)] h) = some (.inl none, h2) ∧ TKC h2 I len (tkS I len 0) ∧ Fr scrBe h h2 := fun cc => by
        have pre : ∃ e, hI h 7 4 = e ∧ 0 ≤ e ∧ e ≤ len ∧ tok I len (decide (0 < (i : Int))) e = tkS I len i := by
          rcases cc with ⟨z, _⟩ | ⟨z, n2, n3⟩
          · subst z
            exact ⟨0, (b3 rfl).2, Int.le_refl _, s3.1, rfl⟩
          · have t := (tkS_TV (I := I) s3.1 (i - 1)).1
            refine ⟨_, (b4 z).2 n2 n3, by omega, t.2.2, ?_⟩
            obtain ⟨k, rfl⟩ : ∃ k, i = k + 1 := ⟨i - 1, by omega⟩
            rw [decide_eq_true (by omega)]
            rfl
        obtain ⟨e, e4, p0, p1, pt⟩ := pre
        obtain ⟨g, eg, g0, g1, g4, Fg⟩ := c_scan S e4 b1 p0 p1
        rw [pt] at g0 g1 g4
        have Fg2 : Fr scrBe h g := Fr_m Fg rfl
        have Sg := SCT_f S Fg rfl
        have e7 : hI g 7 7 = i := (fI Fg 7 7 rfl).trans b1
        rw [eg, q_Sc_begin_r59 Sg.1, e7, gd_t (by omega), gd_t (by omega), gd_t (by omega), Int.toNat_natCast]
        have F2 : Fr [(7, some 7), (8, none), (9, none)] g (sI (sI (sI g 8 i (hI g 7 0)) 9 i (hI g 7 1)) 7 7 ((i : Int) + 1)) := Fr_I (Fr_I (Fr_I (Fr_r _ _) rfl) rfl) rfl
        have B2 := BI_next Sg g0 g1 g4 (fun j hj => by rw [rI Fg 8 rfl, rI Fg 9 rfl]; exact b2 j hj) (fun j hj => by
          by_cases q : j + 1 < i
          · exact b5 j q
          · rcases cc with ⟨z, _⟩ | ⟨z, n2, n3⟩
            · omega
            · have : j = i - 1 := by omega
              subst this
              exact ⟨n2, n3⟩)
        have e1 : ((i : Int) + 1) = ((i + 1 : Nat) : Int) := by omega
        obtain ⟨h2, e2, T2, F3⟩ := ih (by omega) _ B2
        rw [← e1] at e2
        exact ⟨h2, e2, T2, Fr_t Fg2 (Fr_t (Fr_m F2 rfl) F3)⟩
      by_cases i0 : i = 0
      · have q := (b3 i0).1
        rw [q, if_neg (by decide), if_neg (by decide)]
        exact go (Or.inl ⟨i0, q⟩)
      · have q := (b4 (by omega)).1
        rw [q]
        by_cases c2 : (tkS I len (i - 1)).1 = -2
        · rw [if_pos c2]
          exact fin (by omega) (Or.inl c2)
        · rw [if_neg c2]
          by_cases c3 : (tkS I len (i - 1)).1 = -3
          · rw [if_pos c3]
            exact fin (by omega) (Or.inr c3)
          · rw [if_neg c3]
            exact go (Or.inr ⟨by omega, c2, c3⟩)
    · rw [if_neg c]
      refine fin (by omega) ?_
      by_cases c2 : (tkS I len (i - 1)).1 = -2
      · exact Or.inl c2
      · by_cases c3 : (tkS I len (i - 1)).1 = -3
        · exact Or.inr c3
        · have := tkS_gr (I := I) s3.1 (i - 1) (fun j hj => by
            by_cases z : j + 1 < i
            · exact b5 j z
            · have : j = i - 1 := by omega
              subst this
              exact ⟨c2, c3⟩)
          have t := (tkS_TV (I := I) s3.1 (i - 1)).1
          omega
theorem l_begin {x : Int} : ∀ (m i : Nat) (h : zH), BI h I len i → i + m = 402 → ∃ h2, zY 82 30 [some (zR (some 7)), some (zI x), some (zI i)] [] h = some (.inl none, h2) ∧ TKC h2 I len (tkS I len 0) ∧ Fr scrBe h h2
  | 0, i, h, B, hm => l_begin_st B (by omega) (fun q => by omega)
  | m + 1, i, h, B, hm => l_begin_st B (by omega) (fun q g Bg => l_begin m (i + 1) g Bg (by omega))
theorem c_begin (K : KC h) (Ks : KS h) (hI1 : hI h 1 = I) (l0 : 0 ≤ len) (l1 : len ≤ 800) : ∃ h2, zC 82 [zR (some 7), zI len] h = some (.inl none, h2) ∧ TKC h2 I len (tok I len false 0) ∧ Fr scrBe h h2 := by
  have em : f_Ma_min len 800 = len := by
    unfold f_Ma_min
    split <;> omega
  have F1 : Fr scrBe h (sI h 7 3 len) := Fr_I (Fr_r _ _) rfl
  have K1 := KC_f K F1 rfl
  have Ks1 := KS_f Ks F1 rfl
  have i1 : hI (sI h 7 3 len) 1 = I := (rI F1 1 rfl).trans hI1
  have i3 : hI (sI h 7 3 len) 7 3 = len := rfl
  rw [q_Sc_begin K, em]
  generalize sI h 7 3 len = g at *
  have F2 : Fr scrBe g (sI (sI (sI g 7 0 (-1)) 7 4 0) 7 7 0) := Fr_I (Fr_I (Fr_I (Fr_r _ _) rfl) rfl) rfl
  have j3 : hI (sI (sI (sI g 7 0 (-1)) 7 4 0) 7 7 0) 7 3 = len := i3
  rw [q_Sc_begin_13 K1]
  obtain ⟨h2, e2, T2, F3⟩ := l_begin (I := I) (len := len) (x := len) 402 0 _ (⟨⟨KC_f K1 F2 rfl, KS_f Ks1 F2 rfl, (rI F2 1 rfl).trans i1, j3, ⟨l0, l1⟩⟩, rfl, fun j hj => absurd hj (by omega), fun _ => ⟨rfl, rfl⟩, fun z => absurd z (by omega), fun j hj => absurd hj (by omega)⟩ : BI _ I len 0) rfl
  exact ⟨h2, e2, T2, Fr_t F1 (Fr_t F2 F3)⟩
end CBEGIN

