/-! The law: one call after another. -/
section LAWS
variable {h h2 : zH} {L : Nat} {xs : Nat → Int} {σ : MSt} {i : Int} {r : (Int × zV) × MSt}
theorem q_M_thrown {h : zH} (KM : KM h) : zC 208 [zR (some 177)] h =
    some (.inl (some (zI (hI h 177 1))), h) := by
  refine (show zC 208 [zR (some 177)] h = gd (zob h (some 177) 12) (gd (([] : List zV).isEmpty = true ∧ (zrk 208 = 1 ∨ zrk 208 = 6 ∧ (((hI h 177 1) : Int) = 0 ∨ ((hI h 177 1) : Int) = 1))) (some (.inl (some (zI (hI h 177 1))), h))) from zGo 3 208 0 _ _ _).trans ?_
  refine (gd_t (⟨rfl, (PTM KM 177 _ rfl rfl), (PNM KM 177 rfl)⟩) _).trans ?_
  refine (gd_t (⟨rfl, Or.inl rfl⟩) _).trans ?_
  rfl
/-- the law's script -/
def SCR (h : zH) (L : Nat) (xs : Nat → Int) : Prop := hT h zVB = 22 ∧ hL h zVB = L ∧ hI h zVB = xs
/-- class and reference stand alike -/
def JX (h : zH) (L : Nat) (xs : Nat → Int) (σ : MSt) : Prop := (∃ p v, CJ h p v σ) ∧ MM h σ ∧ (SS σ ∧ XS σ) ∧ OC h ∧ SCR h L xs
theorem SCR_s (S : SCR h L xs) (T : STP h h2) : SCR h2 L xs := by
  have t := T.2.1 zVB (Or.inr (Or.inr (Nat.le_refl _)))
  exact ⟨t.1.trans S.1, t.2.trans S.2.1, T.2.2.trans S.2.2⟩
def bl (i : Int) : zL := [some (zR (some zVB)), some (zR (some 0)), some (zR (some 177)), some (zR (some 197)), some (zR (some 198)), some (zI i), none, none, none, none]
/-- from a call's place the law comes to its loop's end, both alike again -/
def LST (h : zH) (L : Nat) (xs : Nat → Int) (i : Int) (pc : Nat) : Prop := ∃ h2 σ2, (∀ r, zY 392 2378 (bl i) [] h2 = some r → zY 392 pc (bl i) [] h = some r) ∧ JX h2 L xs σ2 ∧ STP h h2
/-- what stands for a piece of the law -/
def LPc (h : zH) (L : Nat) (xs : Nat → Int) : Prop := (hT h zVB = 22 ∧ KC h ∧ KM h ∧ hT h 197 = 23 ∧ 197 < hN h ∧ hT h 198 = 24 ∧ 198 < hN h) ∧ hL h zVB = L ∧ hI h zVB = xs ∧ hL h 197 = 1 ∧ hL h 198 = 1
theorem LPc_mk (K : KC h) (M : KM h) (ok : OC h) (sc : SCR h L xs) : LPc h L xs := ⟨⟨sc.1, K, M, ok.1.1, Nat.lt_of_lt_of_le (by decide) ok.2.2, ok.2.1.1, Nat.lt_of_lt_of_le (by decide) ok.2.2⟩, sc.2.1, sc.2.2, ok.1.2, ok.2.1.2⟩
theorem two {w q2 : Nat} {as as2 : List zV} (J : JX h L xs σ) (W : WRL h w as r) (M : ∀ g, MM g σ → MC g q2 as2 r) (S2 : SS r.2 ∧ XS r.2) : ∃ h1 h2, LPc h L xs ∧ zC w as h = some (.inl (some (zI r.1.1)), h1) ∧ LPc h1 L xs ∧ zC q2 (zR (some 177) :: as2) h1 = some (.inl (some r.1.2), h2) ∧ LPc h2 L xs ∧ zC 208 [zR (some 177)] h2 = some (.inl (some (zI r.1.1)), h2) ∧ (r.1.1 = 0 → outs h2 r.1.2) ∧ JX h2 L xs r.2 ∧ STP h h2 := by
  obtain ⟨⟨p0, v0, C⟩, M0, _, ok, sc⟩ := J
  obtain ⟨h1, p, v, e1, J1, o1, mm, S1⟩ := W
  have M1 := mm σ M0
  have ok1 := OC_s ok S1
  have sc1 := SCR_s sc S1
  obtain ⟨h2, e2, t2, M2, F2⟩ := M h1 M1
  have J2 := CJ_f J1 F2 rfl
  have S2' := STP_f S1 F2 rfl
  have ok2 := OC_s ok S2'
  have sc2 := SCR_s sc S2'
  refine ⟨h1, h2, LPc_mk (CJ_K C) (MM_K M0) ok sc, e1, LPc_mk (CJ_K J1) (MM_K M1) ok1 sc1, e2, LPc_mk (CJ_K J2) (MM_K M2) ok2 sc2, by rw [q_M_thrown (MM_K M2), t2], fun k0 => ?_, ⟨⟨p, v, J2⟩, M2, S2, ok2, sc2⟩, S2'⟩
  have o1 := o1 k0
  have f1 : hJ h2 197 = hJ h1 197 := rJ F2 197 rfl
  have f2 : hD h2 198 0 = hD h1 198 0 := fD F2 198 0 rfl
  unfold outs at o1 ⊢
  rw [f1, f2]
  exact o1
theorem two0 {q q2 : Nat} {tb : Int → Nat} {x : zV} (J : JX h L xs σ) (C : CC h q [] tb ((0, x), σ)) (M : ∀ g, MM g σ → MC g q2 [] ((0, x), σ)) : ∃ h1 h2, LPc h L xs ∧ zC q [zR (some 0)] h = some (.inl (some x), h1) ∧ LPc h1 L xs ∧ zC q2 [zR (some 177)] h1 = some (.inl (some x), h2) ∧ LPc h2 L xs ∧ JX h2 L xs σ ∧ STP h h2 := by
  obtain ⟨⟨p0, v0, C0⟩, M0, SX, ok, sc⟩ := J
  obtain ⟨h1, p, v, e1, J1, G⟩ := C
  have M1 := MM_g M0 G cl_c
  have S1 := STP_g ok G
  have ok1 := OC_s ok S1
  have sc1 := SCR_s sc S1
  obtain ⟨h2, e2, t2, M2, F2⟩ := M h1 M1
  have J2 := CJ_f J1 F2 rfl
  have S2' := STP_f S1 F2 rfl
  have ok2 := OC_s ok S2'
  have sc2 := SCR_s sc S2'
  exact ⟨h1, h2, LPc_mk (CJ_K C0) (MM_K M0) ok sc, e1, LPc_mk (CJ_K J1) (MM_K M1) ok1 sc1, e2, LPc_mk (CJ_K J2) (MM_K M2) ok2 sc2, ⟨⟨p, v, J2⟩, M2, SX, ok2, sc2⟩, S2'⟩
theorem zn_cmp {x : UInt32} (hx : zn64 (FP.f2d x) = true) : (Op.cmpValue (FP.dcmp (FP.f2d x) (FP.f2d x)) .l).toInt = 0 := by
  have n : FP.Core.val64 (FP.f2d x) ≠ .nan := (FP.Core.ne_nan _).2 (by
    have a : FP.f2d x &&& 0x7fffffffffffffff ≤ 0x7ff0000000000000 := of_decide_eq_true hx
    rw [UInt64.le_iff_toNat_le, UInt64.toNat_and] at a
    have b : (FP.f2d x).toNat % 2 ^ 63 = (FP.f2d x).toNat &&& (0x7fffffffffffffff : UInt64).toNat := (Nat.and_two_pow_sub_one_eq_mod _ 63).symm
    rw [b]
    exact a)
  rw [show FP.dcmp (FP.f2d x) (FP.f2d x) = some .eq from FP.Core.dcmp_self n]
  rfl
theorem cst_zn {n top : Int} {R N : Nat → Int} (Q : Prg n top R N) {st : Int} (h0 : 0 ≤ st) (h1 : st < 64) : zn64 (FP.f2d (cstS n top R N st)) = true := by
  unfold cstS
  by_cases c : EC n top R N st = -1
  · rw [if_pos c]; decide
  · rw [if_neg c]
    exact dpos_zn (dpos_f2d (coC_p Q h0 h1 c (runD_C Q h0 h1)))

theorem st_0 (J : JX h L xs σ) (hi : 0 ≤ i) (hi6 : i + 6 ≤ L) (hL : L ≤ 3072) (hz : hN h + 400 ≤ zVB) : LST h L xs i 232 := by
  obtain ⟨n, top, R, N, c, Ol, s0, s1, I, m, O, ec, ep⟩ := σ
  obtain ⟨⟨p, v, C⟩, M, ⟨S, X⟩, ok, sc⟩ := id J
  have Q : Prg n top R N := SS_P S
  have hm : 0 ≤ m ∧ m ≤ 800 := S.2.2.2.2.2.2
  have hz2 : hN h < zVB := by omega
  have W := wr_350 (r := (aFeed (xs (i + 1).toNat) (xs (i + 2).toNat) (xs (i + 3).toNat) (xs (i + 4).toNat) (xs (i + 5).toNat) (n, top, R, N, c, Ol, s0, s1, I, m, O, ec, ep))) (J_K C) ok (k_feed C hm hz2 (xs (i + 1).toNat) (xs (i + 2).toNat) (xs (i + 3).toNat) (xs (i + 4).toNat) (xs (i + 5).toNat)) (ty_aFeed _ _ _ _ _ _)
  obtain ⟨h1, h2, l, e1, l1, e2, l2, e3, ou, J2, ST⟩ := two J W (fun g Mg => m_feed Mg S (xs (i + 1).toNat) (xs (i + 2).toNat) (xs (i + 3).toNat) (xs (i + 4).toNat) (xs (i + 5).toNat)) ⟨SS_feed S (xs (i + 1).toNat) (xs (i + 2).toNat) (xs (i + 3).toNat) (xs (i + 4).toNat) (xs (i + 5).toNat), XS_feed X (xs (i + 1).toNat) (xs (i + 2).toNat) (xs (i + 3).toNat) (xs (i + 4).toNat) (xs (i + 5).toNat)⟩
  refine ⟨h2, _, fun r hr => ?_, J2, ST⟩
  clear J2 W
  have T : tyI 1 (aFeed (xs (i + 1).toNat) (xs (i + 2).toNat) (xs (i + 3).toNat) (xs (i + 4).toNat) (xs (i + 5).toNat) (n, top, R, N, c, Ol, s0, s1, I, m, O, ec, ep)).1 := ty_aFeed _ _ _ _ _ _
  generalize (aFeed (xs (i + 1).toNat) (xs (i + 2).toNat) (xs (i + 3).toNat) (xs (i + 4).toNat) (xs (i + 5).toNat) (n, top, R, N, c, Ol, s0, s1, I, m, O, ec, ep)) = z at *
  obtain ⟨⟨y, hy⟩, _⟩ := T
  rw [hy] at e2
  show zY 392 232 [some (zR (some zVB)), some (zR (some 0)), some (zR (some 177)), some (zR (some 197)), some (zR (some 198)), some (zI i), none, none, none, none] [] h = some r
  rw [q_lw0_0 l.1.1 l.1.2.1 l.1.2.2.1 l.1.2.2.2.1 l.1.2.2.2.2.1 l.1.2.2.2.2.2.1 l.1.2.2.2.2.2.2, gd_t (by omega), gd_t (by rw [l.2.1]; omega), gd_t (by omega), gd_t (by rw [l.2.1]; omega), gd_t (by omega), gd_t (by rw [l.2.1]; omega), gd_t (by omega), gd_t (by rw [l.2.1]; omega), gd_t (by omega), gd_t (by rw [l.2.1]; omega), l.2.2.1, e1, q_lw0_1 l1.1.1 l1.1.2.1 l1.1.2.2.1 l1.1.2.2.2.1 l1.1.2.2.2.2.1 l1.1.2.2.2.2.2.1 l1.1.2.2.2.2.2.2, gd_t (by omega), gd_t (by rw [l1.2.1]; omega), gd_t (by omega), gd_t (by rw [l1.2.1]; omega), gd_t (by omega), gd_t (by rw [l1.2.1]; omega), gd_t (by omega), gd_t (by rw [l1.2.1]; omega), gd_t (by omega), gd_t (by rw [l1.2.1]; omega), l1.2.2.1, e2, q_lw0_2 l2.1.1 l2.1.2.1 l2.1.2.2.1 l2.1.2.2.2.1 l2.1.2.2.2.2.1 l2.1.2.2.2.2.2.1 l2.1.2.2.2.2.2.2, e3, q_lw0_3 l2.1.1 l2.1.2.1 l2.1.2.2.1 l2.1.2.2.2.1 l2.1.2.2.2.2.1 l2.1.2.2.2.2.2.1 l2.1.2.2.2.2.2.2, if_pos rfl]
  by_cases k0 : z.1.1 = 0
  · have ou := ou k0
    rw [hy] at ou
    have ou : hJ h2 197 0 = zi2l y := ou
    rw [if_pos k0, gd_t (by rw [l2.2.2.2.1]; decide), if_pos ou]
    exact zY_le (by exact ⟨rfl, rfl, rfl, rfl, rfl, rfl, trivial⟩) hr
  · rw [if_neg k0]
    exact zY_le (by exact ⟨rfl, rfl, rfl, rfl, rfl, rfl, trivial⟩) hr

theorem st_1 (J : JX h L xs σ) (hi : 0 ≤ i) (hi6 : i + 6 ≤ L) (hL : L ≤ 3072) (hz : hN h + 400 ≤ zVB) : LST h L xs i 336 := by
  obtain ⟨n, top, R, N, c, Ol, s0, s1, I, m, O, ec, ep⟩ := σ
  obtain ⟨⟨p, v, C⟩, M, ⟨S, X⟩, ok, sc⟩ := id J
  have Q : Prg n top R N := SS_P S
  have hm : 0 ≤ m ∧ m ≤ 800 := S.2.2.2.2.2.2
  have hz2 : hN h < zVB := by omega
  have W := wr_351 (r := (aLoad (xs (i + 1).toNat) (n, top, R, N, c, Ol, s0, s1, I, m, O, ec, ep))) (J_K C) ok (k_load C hm S.2.1 ok.2.2 hz (xs (i + 1).toNat)) (ty_aLoad _ _)
  obtain ⟨h1, h2, l, e1, l1, e2, l2, e3, ou, J2, ST⟩ := two J W (fun g Mg => m_load Mg S (xs (i + 1).toNat)) ⟨SS_load S (xs (i + 1).toNat), XS_load X S.2.1 hm.2 (xs (i + 1).toNat)⟩
  refine ⟨h2, _, fun r hr => ?_, J2, ST⟩
  clear J2 W
  have T : tyI 2 (aLoad (xs (i + 1).toNat) (n, top, R, N, c, Ol, s0, s1, I, m, O, ec, ep)).1 := ty_aLoad _ _
  generalize (aLoad (xs (i + 1).toNat) (n, top, R, N, c, Ol, s0, s1, I, m, O, ec, ep)) = z at *
  obtain ⟨⟨y, hy⟩, _⟩ := T
  rw [hy] at e2
  show zY 392 336 [some (zR (some zVB)), some (zR (some 0)), some (zR (some 177)), some (zR (some 197)), some (zR (some 198)), some (zI i), none, none, none, none] [] h = some r
  rw [q_lw1_0 l.1.1 l.1.2.1 l.1.2.2.1 l.1.2.2.2.1 l.1.2.2.2.2.1 l.1.2.2.2.2.2.1 l.1.2.2.2.2.2.2, gd_t (by omega), gd_t (by rw [l.2.1]; omega), l.2.2.1, e1, q_lw1_1 l1.1.1 l1.1.2.1 l1.1.2.2.1 l1.1.2.2.2.1 l1.1.2.2.2.2.1 l1.1.2.2.2.2.2.1 l1.1.2.2.2.2.2.2, gd_t (by omega), gd_t (by rw [l1.2.1]; omega), l1.2.2.1, e2, q_lw1_2 l2.1.1 l2.1.2.1 l2.1.2.2.1 l2.1.2.2.2.1 l2.1.2.2.2.2.1 l2.1.2.2.2.2.2.1 l2.1.2.2.2.2.2.2, e3, q_lw1_3 l2.1.1 l2.1.2.1 l2.1.2.2.1 l2.1.2.2.2.1 l2.1.2.2.2.2.1 l2.1.2.2.2.2.2.1 l2.1.2.2.2.2.2.2, if_pos rfl]
  by_cases k0 : z.1.1 = 0
  · have ou := ou k0
    rw [hy] at ou
    have ou : hJ h2 197 0 = zi2l y := ou
    rw [if_pos k0, gd_t (by rw [l2.2.2.2.1]; decide), if_pos ou]
    exact zY_le (by exact ⟨rfl, rfl, rfl, rfl, rfl, rfl, trivial⟩) hr
  · rw [if_neg k0]
    exact zY_le (by exact ⟨rfl, rfl, rfl, rfl, rfl, rfl, trivial⟩) hr

theorem st_2 (J : JX h L xs σ) (hi : 0 ≤ i) (hi6 : i + 6 ≤ L) (hL : L ≤ 3072) (hz : hN h + 400 ≤ zVB) : LST h L xs i 392 := by
  obtain ⟨n, top, R, N, c, Ol, s0, s1, I, m, O, ec, ep⟩ := σ
  obtain ⟨⟨p, v, C⟩, M, ⟨S, X⟩, ok, sc⟩ := id J
  have Q : Prg n top R N := SS_P S
  have hm : 0 ≤ m ∧ m ≤ 800 := S.2.2.2.2.2.2
  have hz2 : hN h < zVB := by omega
  obtain ⟨h1, h2, l, e1, l1, e2, l2, J2, ST⟩ := two0 (x := zI ec) J (k_errorCode C) (fun g Mg => MC_of (show MA g 239 [] (0, zI ec) from by have z := m_errorCode (MM_K Mg); rw [Mg.2.2.2.2.2.1] at z; exact z) Mg)
  refine ⟨h2, _, fun r hr => ?_, J2, ST⟩
  show zY 392 392 [some (zR (some zVB)), some (zR (some 0)), some (zR (some 177)), some (zR (some 197)), some (zR (some 198)), some (zI i), none, none, none, none] [] h = some r
  rw [q_lw2_0 l.1.1 l.1.2.1 l.1.2.2.1 l.1.2.2.2.1 l.1.2.2.2.2.1 l.1.2.2.2.2.2.1 l.1.2.2.2.2.2.2, e1, q_lw2_1 l1.1.1 l1.1.2.1 l1.1.2.2.1 l1.1.2.2.2.1 l1.1.2.2.2.2.1 l1.1.2.2.2.2.2.1 l1.1.2.2.2.2.2.2, e2, q_lw2_2 l2.1.1 l2.1.2.1 l2.1.2.2.1 l2.1.2.2.2.1 l2.1.2.2.2.2.1 l2.1.2.2.2.2.2.1 l2.1.2.2.2.2.2.2, if_pos rfl]
  exact zY_le (by exact ⟨rfl, rfl, rfl, rfl, rfl, rfl, trivial⟩) hr

theorem st_3 (J : JX h L xs σ) (hi : 0 ≤ i) (hi6 : i + 6 ≤ L) (hL : L ≤ 3072) (hz : hN h + 400 ≤ zVB) : LST h L xs i 405 := by
  obtain ⟨n, top, R, N, c, Ol, s0, s1, I, m, O, ec, ep⟩ := σ
  obtain ⟨⟨p, v, C⟩, M, ⟨S, X⟩, ok, sc⟩ := id J
  have Q : Prg n top R N := SS_P S
  have hm : 0 ≤ m ∧ m ≤ 800 := S.2.2.2.2.2.2
  have hz2 : hN h < zVB := by omega
  obtain ⟨h1, h2, l, e1, l1, e2, l2, J2, ST⟩ := two0 (x := zI ep) J (k_errorPosition C) (fun g Mg => MC_of (show MA g 240 [] (0, zI ep) from by have z := m_errorPosition (MM_K Mg); rw [Mg.2.2.2.2.2.2] at z; exact z) Mg)
  refine ⟨h2, _, fun r hr => ?_, J2, ST⟩
  show zY 392 405 [some (zR (some zVB)), some (zR (some 0)), some (zR (some 177)), some (zR (some 197)), some (zR (some 198)), some (zI i), none, none, none, none] [] h = some r
  rw [q_lw3_0 l.1.1 l.1.2.1 l.1.2.2.1 l.1.2.2.2.1 l.1.2.2.2.2.1 l.1.2.2.2.2.2.1 l.1.2.2.2.2.2.2, e1, q_lw3_1 l1.1.1 l1.1.2.1 l1.1.2.2.1 l1.1.2.2.2.1 l1.1.2.2.2.2.1 l1.1.2.2.2.2.2.1 l1.1.2.2.2.2.2.2, e2, q_lw3_2 l2.1.1 l2.1.2.1 l2.1.2.2.1 l2.1.2.2.2.1 l2.1.2.2.2.2.1 l2.1.2.2.2.2.2.1 l2.1.2.2.2.2.2.2, if_pos rfl]
  exact zY_le (by exact ⟨rfl, rfl, rfl, rfl, rfl, rfl, trivial⟩) hr

theorem st_4 (J : JX h L xs σ) (hi : 0 ≤ i) (hi6 : i + 6 ≤ L) (hL : L ≤ 3072) (hz : hN h + 400 ≤ zVB) : LST h L xs i 418 := by
  obtain ⟨n, top, R, N, c, Ol, s0, s1, I, m, O, ec, ep⟩ := σ
  obtain ⟨⟨p, v, C⟩, M, ⟨S, X⟩, ok, sc⟩ := id J
  have Q : Prg n top R N := SS_P S
  have hm : 0 ≤ m ∧ m ≤ 800 := S.2.2.2.2.2.2
  have hz2 : hN h < zVB := by omega
  have W := wr_352 (r := (aValue c n top R N (xs (i + 1).toNat), (n, top, R, N, c, Ol, s0, s1, I, m, O, ec, ep))) (J_K C) ok (k_value C Q hz2 (xs (i + 1).toNat)) (ty_aValue _ _ _ _ _ _)
  obtain ⟨h1, h2, l, e1, l1, e2, l2, e3, ou, J2, ST⟩ := two J W (fun g Mg => MC_of (m_value Mg.1 Q Mg.2.1.1 (xs (i + 1).toNat)) Mg) ⟨S, X⟩
  refine ⟨h2, _, fun r hr => ?_, J2, ST⟩
  clear J2 W
  have T : tyI 1 (aValue c n top R N (xs (i + 1).toNat), (n, top, R, N, c, Ol, s0, s1, I, m, O, ec, ep)).1 := ty_aValue _ _ _ _ _ _
  generalize (aValue c n top R N (xs (i + 1).toNat), (n, top, R, N, c, Ol, s0, s1, I, m, O, ec, ep)) = z at *
  obtain ⟨⟨y, hy⟩, _⟩ := T
  rw [hy] at e2
  show zY 392 418 [some (zR (some zVB)), some (zR (some 0)), some (zR (some 177)), some (zR (some 197)), some (zR (some 198)), some (zI i), none, none, none, none] [] h = some r
  rw [q_lw4_0 l.1.1 l.1.2.1 l.1.2.2.1 l.1.2.2.2.1 l.1.2.2.2.2.1 l.1.2.2.2.2.2.1 l.1.2.2.2.2.2.2, gd_t (by omega), gd_t (by rw [l.2.1]; omega), l.2.2.1, e1, q_lw4_1 l1.1.1 l1.1.2.1 l1.1.2.2.1 l1.1.2.2.2.1 l1.1.2.2.2.2.1 l1.1.2.2.2.2.2.1 l1.1.2.2.2.2.2.2, gd_t (by omega), gd_t (by rw [l1.2.1]; omega), l1.2.2.1, e2, q_lw4_2 l2.1.1 l2.1.2.1 l2.1.2.2.1 l2.1.2.2.2.1 l2.1.2.2.2.2.1 l2.1.2.2.2.2.2.1 l2.1.2.2.2.2.2.2, e3, q_lw4_3 l2.1.1 l2.1.2.1 l2.1.2.2.1 l2.1.2.2.2.1 l2.1.2.2.2.2.1 l2.1.2.2.2.2.2.1 l2.1.2.2.2.2.2.2, if_pos rfl]
  by_cases k0 : z.1.1 = 0
  · have ou := ou k0
    rw [hy] at ou
    have ou : hJ h2 197 0 = zi2l y := ou
    rw [if_pos k0, gd_t (by rw [l2.2.2.2.1]; decide), if_pos ou]
    exact zY_le (by exact ⟨rfl, rfl, rfl, rfl, rfl, rfl, trivial⟩) hr
  · rw [if_neg k0]
    exact zY_le (by exact ⟨rfl, rfl, rfl, rfl, rfl, rfl, trivial⟩) hr

theorem st_5 (J : JX h L xs σ) (hi : 0 ≤ i) (hi6 : i + 6 ≤ L) (hL : L ≤ 3072) (hz : hN h + 400 ≤ zVB) : LST h L xs i 474 := by
  obtain ⟨n, top, R, N, c, Ol, s0, s1, I, m, O, ec, ep⟩ := σ
  obtain ⟨⟨p, v, C⟩, M, ⟨S, X⟩, ok, sc⟩ := id J
  have Q : Prg n top R N := SS_P S
  have hm : 0 ≤ m ∧ m ≤ 800 := S.2.2.2.2.2.2
  have hz2 : hN h < zVB := by omega
  have W := wr_353 (r := (aStatement n R N (xs (i + 1).toNat) (xs (i + 2).toNat), (n, top, R, N, c, Ol, s0, s1, I, m, O, ec, ep))) (J_K C) ok (k_statement C Q X.1 hz2 (xs (i + 1).toNat) (xs (i + 2).toNat)) (ty_aStatement _ _ _ _ _)
  obtain ⟨h1, h2, l, e1, l1, e2, l2, e3, ou, J2, ST⟩ := two J W (fun g Mg => MC_of (m_statement Mg.1 Q (xs (i + 1).toNat) (xs (i + 2).toNat)) Mg) ⟨S, X⟩
  refine ⟨h2, _, fun r hr => ?_, J2, ST⟩
  clear J2 W
  have T : tyI 2 (aStatement n R N (xs (i + 1).toNat) (xs (i + 2).toNat), (n, top, R, N, c, Ol, s0, s1, I, m, O, ec, ep)).1 := ty_aStatement _ _ _ _ _
  generalize (aStatement n R N (xs (i + 1).toNat) (xs (i + 2).toNat), (n, top, R, N, c, Ol, s0, s1, I, m, O, ec, ep)) = z at *
  obtain ⟨⟨y, hy⟩, _⟩ := T
  rw [hy] at e2
  show zY 392 474 [some (zR (some zVB)), some (zR (some 0)), some (zR (some 177)), some (zR (some 197)), some (zR (some 198)), some (zI i), none, none, none, none] [] h = some r
  rw [q_lw5_0 l.1.1 l.1.2.1 l.1.2.2.1 l.1.2.2.2.1 l.1.2.2.2.2.1 l.1.2.2.2.2.2.1 l.1.2.2.2.2.2.2, gd_t (by omega), gd_t (by rw [l.2.1]; omega), gd_t (by omega), gd_t (by rw [l.2.1]; omega), l.2.2.1, e1, q_lw5_1 l1.1.1 l1.1.2.1 l1.1.2.2.1 l1.1.2.2.2.1 l1.1.2.2.2.2.1 l1.1.2.2.2.2.2.1 l1.1.2.2.2.2.2.2, gd_t (by omega), gd_t (by rw [l1.2.1]; omega), gd_t (by omega), gd_t (by rw [l1.2.1]; omega), l1.2.2.1, e2, q_lw5_2 l2.1.1 l2.1.2.1 l2.1.2.2.1 l2.1.2.2.2.1 l2.1.2.2.2.2.1 l2.1.2.2.2.2.2.1 l2.1.2.2.2.2.2.2, e3, q_lw5_3 l2.1.1 l2.1.2.1 l2.1.2.2.1 l2.1.2.2.2.1 l2.1.2.2.2.2.1 l2.1.2.2.2.2.2.1 l2.1.2.2.2.2.2.2, if_pos rfl]
  by_cases k0 : z.1.1 = 0
  · have ou := ou k0
    rw [hy] at ou
    have ou : hJ h2 197 0 = zi2l y := ou
    rw [if_pos k0, gd_t (by rw [l2.2.2.2.1]; decide), if_pos ou]
    exact zY_le (by exact ⟨rfl, rfl, rfl, rfl, rfl, rfl, trivial⟩) hr
  · rw [if_neg k0]
    exact zY_le (by exact ⟨rfl, rfl, rfl, rfl, rfl, rfl, trivial⟩) hr

theorem st_6 (J : JX h L xs σ) (hi : 0 ≤ i) (hi6 : i + 6 ≤ L) (hL : L ≤ 3072) (hz : hN h + 400 ≤ zVB) : LST h L xs i 542 := by
  obtain ⟨n, top, R, N, c, Ol, s0, s1, I, m, O, ec, ep⟩ := σ
  obtain ⟨⟨p, v, C⟩, M, ⟨S, X⟩, ok, sc⟩ := id J
  have Q : Prg n top R N := SS_P S
  have hm : 0 ≤ m ∧ m ≤ 800 := S.2.2.2.2.2.2
  have hz2 : hN h < zVB := by omega
  obtain ⟨h1, h2, l, e1, l1, e2, l2, J2, ST⟩ := two0 (x := zJ (setL (lst N 0))) J (k_before C) (fun g Mg => MC_of (m_before Mg.1 Q) Mg)
  refine ⟨h2, _, fun r hr => ?_, J2, ST⟩
  show zY 392 542 [some (zR (some zVB)), some (zR (some 0)), some (zR (some 177)), some (zR (some 197)), some (zR (some 198)), some (zI i), none, none, none, none] [] h = some r
  rw [q_lw6_0 l.1.1 l.1.2.1 l.1.2.2.1 l.1.2.2.2.1 l.1.2.2.2.2.1 l.1.2.2.2.2.2.1 l.1.2.2.2.2.2.2, e1, q_lw6_1 l1.1.1 l1.1.2.1 l1.1.2.2.1 l1.1.2.2.2.1 l1.1.2.2.2.2.1 l1.1.2.2.2.2.2.1 l1.1.2.2.2.2.2.2, e2, q_lw6_2 l2.1.1 l2.1.2.1 l2.1.2.2.1 l2.1.2.2.2.1 l2.1.2.2.2.2.1 l2.1.2.2.2.2.2.1 l2.1.2.2.2.2.2.2, if_pos rfl]
  exact zY_le (by exact ⟨rfl, rfl, rfl, rfl, rfl, rfl, trivial⟩) hr

theorem st_7 (J : JX h L xs σ) (hi : 0 ≤ i) (hi6 : i + 6 ≤ L) (hL : L ≤ 3072) (hz : hN h + 400 ≤ zVB) : LST h L xs i 556 := by
  obtain ⟨n, top, R, N, c, Ol, s0, s1, I, m, O, ec, ep⟩ := σ
  obtain ⟨⟨p, v, C⟩, M, ⟨S, X⟩, ok, sc⟩ := id J
  have Q : Prg n top R N := SS_P S
  have hm : 0 ≤ m ∧ m ≤ 800 := S.2.2.2.2.2.2
  have hz2 : hN h < zVB := by omega
  obtain ⟨h1, h2, l, e1, l1, e2, l2, J2, ST⟩ := two0 (x := zJ (setL (lst N 1))) J (k_after C) (fun g Mg => MC_of (m_after Mg.1 Q) Mg)
  refine ⟨h2, _, fun r hr => ?_, J2, ST⟩
  show zY 392 556 [some (zR (some zVB)), some (zR (some 0)), some (zR (some 177)), some (zR (some 197)), some (zR (some 198)), some (zI i), none, none, none, none] [] h = some r
  rw [q_lw7_0 l.1.1 l.1.2.1 l.1.2.2.1 l.1.2.2.2.1 l.1.2.2.2.2.1 l.1.2.2.2.2.2.1 l.1.2.2.2.2.2.2, e1, q_lw7_1 l1.1.1 l1.1.2.1 l1.1.2.2.1 l1.1.2.2.2.1 l1.1.2.2.2.2.1 l1.1.2.2.2.2.2.1 l1.1.2.2.2.2.2.2, e2, q_lw7_2 l2.1.1 l2.1.2.1 l2.1.2.2.1 l2.1.2.2.2.1 l2.1.2.2.2.2.1 l2.1.2.2.2.2.2.1 l2.1.2.2.2.2.2.2, if_pos rfl]
  exact zY_le (by exact ⟨rfl, rfl, rfl, rfl, rfl, rfl, trivial⟩) hr

theorem st_8 (J : JX h L xs σ) (hi : 0 ≤ i) (hi6 : i + 6 ≤ L) (hL : L ≤ 3072) (hz : hN h + 400 ≤ zVB) : LST h L xs i 570 := by
  obtain ⟨n, top, R, N, c, Ol, s0, s1, I, m, O, ec, ep⟩ := σ
  obtain ⟨⟨p, v, C⟩, M, ⟨S, X⟩, ok, sc⟩ := id J
  have Q : Prg n top R N := SS_P S
  have hm : 0 ≤ m ∧ m ≤ 800 := S.2.2.2.2.2.2
  have hz2 : hN h < zVB := by omega
  have W := wr_354 (r := (aLoopSet n R N (xs (i + 1).toNat) (xs (i + 2).toNat), (n, top, R, N, c, Ol, s0, s1, I, m, O, ec, ep))) (J_K C) ok (k_loopSet C Q hz2 (xs (i + 1).toNat) (xs (i + 2).toNat)) (ty_aLoopSet _ _ _ _ _)
  obtain ⟨h1, h2, l, e1, l1, e2, l2, e3, ou, J2, ST⟩ := two J W (fun g Mg => MC_of (m_loopSet Mg.1 Q (xs (i + 1).toNat) (xs (i + 2).toNat)) Mg) ⟨S, X⟩
  refine ⟨h2, _, fun r hr => ?_, J2, ST⟩
  clear J2 W
  have T : tyJ 2 (aLoopSet n R N (xs (i + 1).toNat) (xs (i + 2).toNat), (n, top, R, N, c, Ol, s0, s1, I, m, O, ec, ep)).1 := ty_aLoopSet _ _ _ _ _
  generalize (aLoopSet n R N (xs (i + 1).toNat) (xs (i + 2).toNat), (n, top, R, N, c, Ol, s0, s1, I, m, O, ec, ep)) = z at *
  obtain ⟨⟨y, hy⟩, _⟩ := T
  rw [hy] at e2
  show zY 392 570 [some (zR (some zVB)), some (zR (some 0)), some (zR (some 177)), some (zR (some 197)), some (zR (some 198)), some (zI i), none, none, none, none] [] h = some r
  rw [q_lw8_0 l.1.1 l.1.2.1 l.1.2.2.1 l.1.2.2.2.1 l.1.2.2.2.2.1 l.1.2.2.2.2.2.1 l.1.2.2.2.2.2.2, gd_t (by omega), gd_t (by rw [l.2.1]; omega), gd_t (by omega), gd_t (by rw [l.2.1]; omega), l.2.2.1, e1, q_lw8_1 l1.1.1 l1.1.2.1 l1.1.2.2.1 l1.1.2.2.2.1 l1.1.2.2.2.2.1 l1.1.2.2.2.2.2.1 l1.1.2.2.2.2.2.2, gd_t (by omega), gd_t (by rw [l1.2.1]; omega), gd_t (by omega), gd_t (by rw [l1.2.1]; omega), l1.2.2.1, e2, q_lw8_2 l2.1.1 l2.1.2.1 l2.1.2.2.1 l2.1.2.2.2.1 l2.1.2.2.2.2.1 l2.1.2.2.2.2.2.1 l2.1.2.2.2.2.2.2, e3, q_lw8_3 l2.1.1 l2.1.2.1 l2.1.2.2.1 l2.1.2.2.2.1 l2.1.2.2.2.2.1 l2.1.2.2.2.2.2.1 l2.1.2.2.2.2.2.2, if_pos rfl]
  by_cases k0 : z.1.1 = 0
  · have ou := ou k0
    rw [hy] at ou
    have ou : hJ h2 197 0 = y := ou
    rw [if_pos k0, gd_t (by rw [l2.2.2.2.1]; decide), if_pos ou]
    exact zY_le (by exact ⟨rfl, rfl, rfl, rfl, rfl, rfl, trivial⟩) hr
  · rw [if_neg k0]
    exact zY_le (by exact ⟨rfl, rfl, rfl, rfl, rfl, rfl, trivial⟩) hr

theorem st_9 (J : JX h L xs σ) (hi : 0 ≤ i) (hi6 : i + 6 ≤ L) (hL : L ≤ 3072) (hz : hN h + 400 ≤ zVB) : LST h L xs i 637 := by
  obtain ⟨n, top, R, N, c, Ol, s0, s1, I, m, O, ec, ep⟩ := σ
  obtain ⟨⟨p, v, C⟩, M, ⟨S, X⟩, ok, sc⟩ := id J
  have Q : Prg n top R N := SS_P S
  have hm : 0 ≤ m ∧ m ≤ 800 := S.2.2.2.2.2.2
  have hz2 : hN h < zVB := by omega
  have W := wr_355 (r := (aLess n R N (xs (i + 1).toNat) (xs (i + 2).toNat), (n, top, R, N, c, Ol, s0, s1, I, m, O, ec, ep))) (J_K C) ok (k_less C Q hz2 (xs (i + 1).toNat) (xs (i + 2).toNat)) (ty_aLess _ _ _ _ _)
  obtain ⟨h1, h2, l, e1, l1, e2, l2, e3, ou, J2, ST⟩ := two J W (fun g Mg => MC_of (m_less Mg.1 Q (xs (i + 1).toNat) (xs (i + 2).toNat)) Mg) ⟨S, X⟩
  refine ⟨h2, _, fun r hr => ?_, J2, ST⟩
  clear J2 W
  have T : tyI 2 (aLess n R N (xs (i + 1).toNat) (xs (i + 2).toNat), (n, top, R, N, c, Ol, s0, s1, I, m, O, ec, ep)).1 := ty_aLess _ _ _ _ _
  generalize (aLess n R N (xs (i + 1).toNat) (xs (i + 2).toNat), (n, top, R, N, c, Ol, s0, s1, I, m, O, ec, ep)) = z at *
  obtain ⟨⟨y, hy⟩, _⟩ := T
  rw [hy] at e2
  show zY 392 637 [some (zR (some zVB)), some (zR (some 0)), some (zR (some 177)), some (zR (some 197)), some (zR (some 198)), some (zI i), none, none, none, none] [] h = some r
  rw [q_lw9_0 l.1.1 l.1.2.1 l.1.2.2.1 l.1.2.2.2.1 l.1.2.2.2.2.1 l.1.2.2.2.2.2.1 l.1.2.2.2.2.2.2, gd_t (by omega), gd_t (by rw [l.2.1]; omega), gd_t (by omega), gd_t (by rw [l.2.1]; omega), l.2.2.1, e1, q_lw9_1 l1.1.1 l1.1.2.1 l1.1.2.2.1 l1.1.2.2.2.1 l1.1.2.2.2.2.1 l1.1.2.2.2.2.2.1 l1.1.2.2.2.2.2.2, gd_t (by omega), gd_t (by rw [l1.2.1]; omega), gd_t (by omega), gd_t (by rw [l1.2.1]; omega), l1.2.2.1, e2, q_lw9_2 l2.1.1 l2.1.2.1 l2.1.2.2.1 l2.1.2.2.2.1 l2.1.2.2.2.2.1 l2.1.2.2.2.2.2.1 l2.1.2.2.2.2.2.2, e3, q_lw9_3 l2.1.1 l2.1.2.1 l2.1.2.2.1 l2.1.2.2.2.1 l2.1.2.2.2.2.1 l2.1.2.2.2.2.2.1 l2.1.2.2.2.2.2.2, if_pos rfl]
  by_cases k0 : z.1.1 = 0
  · have ou := ou k0
    rw [hy] at ou
    have ou : hJ h2 197 0 = zi2l y := ou
    rw [if_pos k0, gd_t (by rw [l2.2.2.2.1]; decide), if_pos ou]
    exact zY_le (by exact ⟨rfl, rfl, rfl, rfl, rfl, rfl, trivial⟩) hr
  · rw [if_neg k0]
    exact zY_le (by exact ⟨rfl, rfl, rfl, rfl, rfl, rfl, trivial⟩) hr

theorem st_10 (J : JX h L xs σ) (hi : 0 ≤ i) (hi6 : i + 6 ≤ L) (hL : L ≤ 3072) (hz : hN h + 400 ≤ zVB) : LST h L xs i 705 := by
  obtain ⟨n, top, R, N, c, Ol, s0, s1, I, m, O, ec, ep⟩ := σ
  obtain ⟨⟨p, v, C⟩, M, ⟨S, X⟩, ok, sc⟩ := id J
  have Q : Prg n top R N := SS_P S
  have hm : 0 ≤ m ∧ m ≤ 800 := S.2.2.2.2.2.2
  have hz2 : hN h < zVB := by omega
  have W := wr_356 (r := (aNeed n R N (xs (i + 1).toNat), (n, top, R, N, c, Ol, s0, s1, I, m, O, ec, ep))) (J_K C) ok (k_need C hz2 (xs (i + 1).toNat)) (ty_aNeed _ _ _ _)
  obtain ⟨h1, h2, l, e1, l1, e2, l2, e3, ou, J2, ST⟩ := two J W (fun g Mg => MC_of (m_need Mg.1 Q (xs (i + 1).toNat)) Mg) ⟨S, X⟩
  refine ⟨h2, _, fun r hr => ?_, J2, ST⟩
  clear J2 W
  have T : tyJ 1 (aNeed n R N (xs (i + 1).toNat), (n, top, R, N, c, Ol, s0, s1, I, m, O, ec, ep)).1 := ty_aNeed _ _ _ _
  generalize (aNeed n R N (xs (i + 1).toNat), (n, top, R, N, c, Ol, s0, s1, I, m, O, ec, ep)) = z at *
  obtain ⟨⟨y, hy⟩, _⟩ := T
  rw [hy] at e2
  show zY 392 705 [some (zR (some zVB)), some (zR (some 0)), some (zR (some 177)), some (zR (some 197)), some (zR (some 198)), some (zI i), none, none, none, none] [] h = some r
  rw [q_lw10_0 l.1.1 l.1.2.1 l.1.2.2.1 l.1.2.2.2.1 l.1.2.2.2.2.1 l.1.2.2.2.2.2.1 l.1.2.2.2.2.2.2, gd_t (by omega), gd_t (by rw [l.2.1]; omega), l.2.2.1, e1, q_lw10_1 l1.1.1 l1.1.2.1 l1.1.2.2.1 l1.1.2.2.2.1 l1.1.2.2.2.2.1 l1.1.2.2.2.2.2.1 l1.1.2.2.2.2.2.2, gd_t (by omega), gd_t (by rw [l1.2.1]; omega), l1.2.2.1, e2, q_lw10_2 l2.1.1 l2.1.2.1 l2.1.2.2.1 l2.1.2.2.2.1 l2.1.2.2.2.2.1 l2.1.2.2.2.2.2.1 l2.1.2.2.2.2.2.2, e3, q_lw10_3 l2.1.1 l2.1.2.1 l2.1.2.2.1 l2.1.2.2.2.1 l2.1.2.2.2.2.1 l2.1.2.2.2.2.2.1 l2.1.2.2.2.2.2.2, if_pos rfl]
  by_cases k0 : z.1.1 = 0
  · have ou := ou k0
    rw [hy] at ou
    have ou : hJ h2 197 0 = y := ou
    rw [if_pos k0, gd_t (by rw [l2.2.2.2.1]; decide), if_pos ou]
    exact zY_le (by exact ⟨rfl, rfl, rfl, rfl, rfl, rfl, trivial⟩) hr
  · rw [if_neg k0]
    exact zY_le (by exact ⟨rfl, rfl, rfl, rfl, rfl, rfl, trivial⟩) hr

theorem st_11 (J : JX h L xs σ) (hi : 0 ≤ i) (hi6 : i + 6 ≤ L) (hL : L ≤ 3072) (hz : hN h + 400 ≤ zVB) : LST h L xs i 760 := by
  obtain ⟨n, top, R, N, c, Ol, s0, s1, I, m, O, ec, ep⟩ := σ
  obtain ⟨⟨p, v, C⟩, M, ⟨S, X⟩, ok, sc⟩ := id J
  have Q : Prg n top R N := SS_P S
  have hm : 0 ≤ m ∧ m ≤ 800 := S.2.2.2.2.2.2
  have hz2 : hN h < zVB := by omega
  obtain ⟨h1, h2, l, e1, l1, e2, l2, J2, ST⟩ := two0 (x := zJ (ahd N (NN n R N) top)) J (k_needAhead C Q) (fun g Mg => MC_of (m_needAhead Mg.1 Q) Mg)
  refine ⟨h2, _, fun r hr => ?_, J2, ST⟩
  show zY 392 760 [some (zR (some zVB)), some (zR (some 0)), some (zR (some 177)), some (zR (some 197)), some (zR (some 198)), some (zI i), none, none, none, none] [] h = some r
  rw [q_lw11_0 l.1.1 l.1.2.1 l.1.2.2.1 l.1.2.2.2.1 l.1.2.2.2.2.1 l.1.2.2.2.2.2.1 l.1.2.2.2.2.2.2, e1, q_lw11_1 l1.1.1 l1.1.2.1 l1.1.2.2.1 l1.1.2.2.2.1 l1.1.2.2.2.2.1 l1.1.2.2.2.2.2.1 l1.1.2.2.2.2.2.2, e2, q_lw11_2 l2.1.1 l2.1.2.1 l2.1.2.2.1 l2.1.2.2.2.1 l2.1.2.2.2.2.1 l2.1.2.2.2.2.2.1 l2.1.2.2.2.2.2.2, if_pos rfl]
  exact zY_le (by exact ⟨rfl, rfl, rfl, rfl, rfl, rfl, trivial⟩) hr

theorem st_12 (J : JX h L xs σ) (hi : 0 ≤ i) (hi6 : i + 6 ≤ L) (hL : L ≤ 3072) (hz : hN h + 400 ≤ zVB) : LST h L xs i 774 := by
  obtain ⟨n, top, R, N, c, Ol, s0, s1, I, m, O, ec, ep⟩ := σ
  obtain ⟨⟨p, v, C⟩, M, ⟨S, X⟩, ok, sc⟩ := id J
  have Q : Prg n top R N := SS_P S
  have hm : 0 ≤ m ∧ m ≤ 800 := S.2.2.2.2.2.2
  have hz2 : hN h < zVB := by omega
  have W := wr_357 (r := (aDuty n top R N (xs (i + 1).toNat) (xs (i + 2).toNat), (n, top, R, N, c, Ol, s0, s1, I, m, O, ec, ep))) (J_K C) ok (k_duty C Q hz2 (xs (i + 1).toNat) (xs (i + 2).toNat)) (ty_aDuty _ _ _ _ _ _)
  obtain ⟨h1, h2, l, e1, l1, e2, l2, e3, ou, J2, ST⟩ := two J W (fun g Mg => MC_of (m_duty Mg.1 Q (xs (i + 1).toNat) (xs (i + 2).toNat)) Mg) ⟨S, X⟩
  refine ⟨h2, _, fun r hr => ?_, J2, ST⟩
  clear J2 W
  have T : tyI 2 (aDuty n top R N (xs (i + 1).toNat) (xs (i + 2).toNat), (n, top, R, N, c, Ol, s0, s1, I, m, O, ec, ep)).1 := ty_aDuty _ _ _ _ _ _
  generalize (aDuty n top R N (xs (i + 1).toNat) (xs (i + 2).toNat), (n, top, R, N, c, Ol, s0, s1, I, m, O, ec, ep)) = z at *
  obtain ⟨⟨y, hy⟩, _⟩ := T
  rw [hy] at e2
  show zY 392 774 [some (zR (some zVB)), some (zR (some 0)), some (zR (some 177)), some (zR (some 197)), some (zR (some 198)), some (zI i), none, none, none, none] [] h = some r
  rw [q_lw12_0 l.1.1 l.1.2.1 l.1.2.2.1 l.1.2.2.2.1 l.1.2.2.2.2.1 l.1.2.2.2.2.2.1 l.1.2.2.2.2.2.2, gd_t (by omega), gd_t (by rw [l.2.1]; omega), gd_t (by omega), gd_t (by rw [l.2.1]; omega), l.2.2.1, e1, q_lw12_1 l1.1.1 l1.1.2.1 l1.1.2.2.1 l1.1.2.2.2.1 l1.1.2.2.2.2.1 l1.1.2.2.2.2.2.1 l1.1.2.2.2.2.2.2, gd_t (by omega), gd_t (by rw [l1.2.1]; omega), gd_t (by omega), gd_t (by rw [l1.2.1]; omega), l1.2.2.1, e2, q_lw12_2 l2.1.1 l2.1.2.1 l2.1.2.2.1 l2.1.2.2.2.1 l2.1.2.2.2.2.1 l2.1.2.2.2.2.2.1 l2.1.2.2.2.2.2.2, e3, q_lw12_3 l2.1.1 l2.1.2.1 l2.1.2.2.1 l2.1.2.2.2.1 l2.1.2.2.2.2.1 l2.1.2.2.2.2.2.1 l2.1.2.2.2.2.2.2, if_pos rfl]
  by_cases k0 : z.1.1 = 0
  · have ou := ou k0
    rw [hy] at ou
    have ou : hJ h2 197 0 = zi2l y := ou
    rw [if_pos k0, gd_t (by rw [l2.2.2.2.1]; decide), if_pos ou]
    exact zY_le (by exact ⟨rfl, rfl, rfl, rfl, rfl, rfl, trivial⟩) hr
  · rw [if_neg k0]
    exact zY_le (by exact ⟨rfl, rfl, rfl, rfl, rfl, rfl, trivial⟩) hr

theorem st_13 (J : JX h L xs σ) (hi : 0 ≤ i) (hi6 : i + 6 ≤ L) (hL : L ≤ 3072) (hz : hN h + 400 ≤ zVB) : LST h L xs i 842 := by
  obtain ⟨n, top, R, N, c, Ol, s0, s1, I, m, O, ec, ep⟩ := σ
  obtain ⟨⟨p, v, C⟩, M, ⟨S, X⟩, ok, sc⟩ := id J
  have Q : Prg n top R N := SS_P S
  have hm : 0 ≤ m ∧ m ≤ 800 := S.2.2.2.2.2.2
  have hz2 : hN h < zVB := by omega
  have W := wr_358 (r := (aFailing n top R N (xs (i + 1).toNat), (n, top, R, N, c, Ol, s0, s1, I, m, O, ec, ep))) (J_K C) ok (k_failing C Q hz2 (xs (i + 1).toNat)) (ty_aFailing _ _ _ _ _)
  obtain ⟨h1, h2, l, e1, l1, e2, l2, e3, ou, J2, ST⟩ := two J W (fun g Mg => MC_of (m_failing Mg.1 Q (xs (i + 1).toNat)) Mg) ⟨S, X⟩
  refine ⟨h2, _, fun r hr => ?_, J2, ST⟩
  clear J2 W
  have T : tyJ 1 (aFailing n top R N (xs (i + 1).toNat), (n, top, R, N, c, Ol, s0, s1, I, m, O, ec, ep)).1 := ty_aFailing _ _ _ _ _
  generalize (aFailing n top R N (xs (i + 1).toNat), (n, top, R, N, c, Ol, s0, s1, I, m, O, ec, ep)) = z at *
  obtain ⟨⟨y, hy⟩, _⟩ := T
  rw [hy] at e2
  show zY 392 842 [some (zR (some zVB)), some (zR (some 0)), some (zR (some 177)), some (zR (some 197)), some (zR (some 198)), some (zI i), none, none, none, none] [] h = some r
  rw [q_lw13_0 l.1.1 l.1.2.1 l.1.2.2.1 l.1.2.2.2.1 l.1.2.2.2.2.1 l.1.2.2.2.2.2.1 l.1.2.2.2.2.2.2, gd_t (by omega), gd_t (by rw [l.2.1]; omega), l.2.2.1, e1, q_lw13_1 l1.1.1 l1.1.2.1 l1.1.2.2.1 l1.1.2.2.2.1 l1.1.2.2.2.2.1 l1.1.2.2.2.2.2.1 l1.1.2.2.2.2.2.2, gd_t (by omega), gd_t (by rw [l1.2.1]; omega), l1.2.2.1, e2, q_lw13_2 l2.1.1 l2.1.2.1 l2.1.2.2.1 l2.1.2.2.2.1 l2.1.2.2.2.2.1 l2.1.2.2.2.2.2.1 l2.1.2.2.2.2.2.2, e3, q_lw13_3 l2.1.1 l2.1.2.1 l2.1.2.2.1 l2.1.2.2.2.1 l2.1.2.2.2.2.1 l2.1.2.2.2.2.2.1 l2.1.2.2.2.2.2.2, if_pos rfl]
  by_cases k0 : z.1.1 = 0
  · have ou := ou k0
    rw [hy] at ou
    have ou : hJ h2 197 0 = y := ou
    rw [if_pos k0, gd_t (by rw [l2.2.2.2.1]; decide), if_pos ou]
    exact zY_le (by exact ⟨rfl, rfl, rfl, rfl, rfl, rfl, trivial⟩) hr
  · rw [if_neg k0]
    exact zY_le (by exact ⟨rfl, rfl, rfl, rfl, rfl, rfl, trivial⟩) hr

theorem st_14 (J : JX h L xs σ) (hi : 0 ≤ i) (hi6 : i + 6 ≤ L) (hL : L ≤ 3072) (hz : hN h + 400 ≤ zVB) : LST h L xs i 897 := by
  obtain ⟨n, top, R, N, c, Ol, s0, s1, I, m, O, ec, ep⟩ := σ
  obtain ⟨⟨p, v, C⟩, M, ⟨S, X⟩, ok, sc⟩ := id J
  have Q : Prg n top R N := SS_P S
  have hm : 0 ≤ m ∧ m ≤ 800 := S.2.2.2.2.2.2
  have hz2 : hN h < zVB := by omega
  obtain ⟨h1, h2, l, e1, l1, e2, l2, J2, ST⟩ := two0 (x := zI (aTrouble n top R N)) J (k_trouble C Q) (fun g Mg => MC_of (m_trouble Mg.1 Q) Mg)
  refine ⟨h2, _, fun r hr => ?_, J2, ST⟩
  show zY 392 897 [some (zR (some zVB)), some (zR (some 0)), some (zR (some 177)), some (zR (some 197)), some (zR (some 198)), some (zI i), none, none, none, none] [] h = some r
  rw [q_lw14_0 l.1.1 l.1.2.1 l.1.2.2.1 l.1.2.2.2.1 l.1.2.2.2.2.1 l.1.2.2.2.2.2.1 l.1.2.2.2.2.2.2, e1, q_lw14_1 l1.1.1 l1.1.2.1 l1.1.2.2.1 l1.1.2.2.2.1 l1.1.2.2.2.2.1 l1.1.2.2.2.2.2.1 l1.1.2.2.2.2.2.2, e2, q_lw14_2 l2.1.1 l2.1.2.1 l2.1.2.2.1 l2.1.2.2.2.1 l2.1.2.2.2.2.1 l2.1.2.2.2.2.2.1 l2.1.2.2.2.2.2.2, if_pos rfl]
  exact zY_le (by exact ⟨rfl, rfl, rfl, rfl, rfl, rfl, trivial⟩) hr

theorem st_15 (J : JX h L xs σ) (hi : 0 ≤ i) (hi6 : i + 6 ≤ L) (hL : L ≤ 3072) (hz : hN h + 400 ≤ zVB) : LST h L xs i 910 := by
  obtain ⟨n, top, R, N, c, Ol, s0, s1, I, m, O, ec, ep⟩ := σ
  obtain ⟨⟨p, v, C⟩, M, ⟨S, X⟩, ok, sc⟩ := id J
  have Q : Prg n top R N := SS_P S
  have hm : 0 ≤ m ∧ m ≤ 800 := S.2.2.2.2.2.2
  have hz2 : hN h < zVB := by omega
  have W := wr_359 (r := (aRun n top R N (xs (i + 1).toNat), (n, top, R, N, c, Ol, s0, s1, I, m, O, ec, ep))) (J_K C) ok (k_run C Q hz2 (xs (i + 1).toNat)) (ty_aRun _ _ _ _ _)
  obtain ⟨h1, h2, l, e1, l1, e2, l2, e3, ou, J2, ST⟩ := two J W (fun g Mg => MC_of (m_run Mg.1 Q (xs (i + 1).toNat)) Mg) ⟨S, X⟩
  refine ⟨h2, _, fun r hr => ?_, J2, ST⟩
  clear J2 W
  have T : tyI 1 (aRun n top R N (xs (i + 1).toNat), (n, top, R, N, c, Ol, s0, s1, I, m, O, ec, ep)).1 := ty_aRun _ _ _ _ _
  generalize (aRun n top R N (xs (i + 1).toNat), (n, top, R, N, c, Ol, s0, s1, I, m, O, ec, ep)) = z at *
  obtain ⟨⟨y, hy⟩, _⟩ := T
  rw [hy] at e2
  show zY 392 910 [some (zR (some zVB)), some (zR (some 0)), some (zR (some 177)), some (zR (some 197)), some (zR (some 198)), some (zI i), none, none, none, none] [] h = some r
  rw [q_lw15_0 l.1.1 l.1.2.1 l.1.2.2.1 l.1.2.2.2.1 l.1.2.2.2.2.1 l.1.2.2.2.2.2.1 l.1.2.2.2.2.2.2, gd_t (by omega), gd_t (by rw [l.2.1]; omega), l.2.2.1, e1, q_lw15_1 l1.1.1 l1.1.2.1 l1.1.2.2.1 l1.1.2.2.2.1 l1.1.2.2.2.2.1 l1.1.2.2.2.2.2.1 l1.1.2.2.2.2.2.2, gd_t (by omega), gd_t (by rw [l1.2.1]; omega), l1.2.2.1, e2, q_lw15_2 l2.1.1 l2.1.2.1 l2.1.2.2.1 l2.1.2.2.2.1 l2.1.2.2.2.2.1 l2.1.2.2.2.2.2.1 l2.1.2.2.2.2.2.2, e3, q_lw15_3 l2.1.1 l2.1.2.1 l2.1.2.2.1 l2.1.2.2.2.1 l2.1.2.2.2.2.1 l2.1.2.2.2.2.2.1 l2.1.2.2.2.2.2.2, if_pos rfl]
  by_cases k0 : z.1.1 = 0
  · have ou := ou k0
    rw [hy] at ou
    have ou : hJ h2 197 0 = zi2l y := ou
    rw [if_pos k0, gd_t (by rw [l2.2.2.2.1]; decide), if_pos ou]
    exact zY_le (by exact ⟨rfl, rfl, rfl, rfl, rfl, rfl, trivial⟩) hr
  · rw [if_neg k0]
    exact zY_le (by exact ⟨rfl, rfl, rfl, rfl, rfl, rfl, trivial⟩) hr

theorem st_16 (J : JX h L xs σ) (hi : 0 ≤ i) (hi6 : i + 6 ≤ L) (hL : L ≤ 3072) (hz : hN h + 400 ≤ zVB) : LST h L xs i 966 := by
  obtain ⟨n, top, R, N, c, Ol, s0, s1, I, m, O, ec, ep⟩ := σ
  obtain ⟨⟨p, v, C⟩, M, ⟨S, X⟩, ok, sc⟩ := id J
  have Q : Prg n top R N := SS_P S
  have hm : 0 ≤ m ∧ m ≤ 800 := S.2.2.2.2.2.2
  have hz2 : hN h < zVB := by omega
  have W := wr_360 (r := (aSteps n top R N (xs (i + 1).toNat), (n, top, R, N, c, Ol, s0, s1, I, m, O, ec, ep))) (J_K C) ok (k_steps C Q hz2 (xs (i + 1).toNat)) (ty_aSteps _ _ _ _ _)
  obtain ⟨h1, h2, l, e1, l1, e2, l2, e3, ou, J2, ST⟩ := two J W (fun g Mg => MC_of (m_steps Mg.1 Q (xs (i + 1).toNat)) Mg) ⟨S, X⟩
  refine ⟨h2, _, fun r hr => ?_, J2, ST⟩
  clear J2 W
  have T : tyI 1 (aSteps n top R N (xs (i + 1).toNat), (n, top, R, N, c, Ol, s0, s1, I, m, O, ec, ep)).1 := ty_aSteps _ _ _ _ _
  generalize (aSteps n top R N (xs (i + 1).toNat), (n, top, R, N, c, Ol, s0, s1, I, m, O, ec, ep)) = z at *
  obtain ⟨⟨y, hy⟩, _⟩ := T
  rw [hy] at e2
  show zY 392 966 [some (zR (some zVB)), some (zR (some 0)), some (zR (some 177)), some (zR (some 197)), some (zR (some 198)), some (zI i), none, none, none, none] [] h = some r
  rw [q_lw16_0 l.1.1 l.1.2.1 l.1.2.2.1 l.1.2.2.2.1 l.1.2.2.2.2.1 l.1.2.2.2.2.2.1 l.1.2.2.2.2.2.2, gd_t (by omega), gd_t (by rw [l.2.1]; omega), l.2.2.1, e1, q_lw16_1 l1.1.1 l1.1.2.1 l1.1.2.2.1 l1.1.2.2.2.1 l1.1.2.2.2.2.1 l1.1.2.2.2.2.2.1 l1.1.2.2.2.2.2.2, gd_t (by omega), gd_t (by rw [l1.2.1]; omega), l1.2.2.1, e2, q_lw16_2 l2.1.1 l2.1.2.1 l2.1.2.2.1 l2.1.2.2.2.1 l2.1.2.2.2.2.1 l2.1.2.2.2.2.2.1 l2.1.2.2.2.2.2.2, e3, q_lw16_3 l2.1.1 l2.1.2.1 l2.1.2.2.1 l2.1.2.2.2.1 l2.1.2.2.2.2.1 l2.1.2.2.2.2.2.1 l2.1.2.2.2.2.2.2, if_pos rfl]
  by_cases k0 : z.1.1 = 0
  · have ou := ou k0
    rw [hy] at ou
    have ou : hJ h2 197 0 = zi2l y := ou
    rw [if_pos k0, gd_t (by rw [l2.2.2.2.1]; decide), if_pos ou]
    exact zY_le (by exact ⟨rfl, rfl, rfl, rfl, rfl, rfl, trivial⟩) hr
  · rw [if_neg k0]
    exact zY_le (by exact ⟨rfl, rfl, rfl, rfl, rfl, rfl, trivial⟩) hr

theorem st_17 (J : JX h L xs σ) (hi : 0 ≤ i) (hi6 : i + 6 ≤ L) (hL : L ≤ 3072) (hz : hN h + 400 ≤ zVB) : LST h L xs i 1022 := by
  obtain ⟨n, top, R, N, c, Ol, s0, s1, I, m, O, ec, ep⟩ := σ
  obtain ⟨⟨p, v, C⟩, M, ⟨S, X⟩, ok, sc⟩ := id J
  have Q : Prg n top R N := SS_P S
  have hm : 0 ≤ m ∧ m ≤ 800 := S.2.2.2.2.2.2
  have hz2 : hN h < zVB := by omega
  have tyc : ((∃ y, (aCost n top R N (xs (i + 1).toNat)).2 = zF y ∧ zn64 (FP.f2d y) = true) ∧ 0 ≤ (aCost n top R N (xs (i + 1).toNat)).1 ∧ (aCost n top R N (xs (i + 1).toNat)).1 ≤ 1) := by
    unfold aCost
    by_cases cx : 0 ≤ xs (i + 1).toNat ∧ xs (i + 1).toNat < 64
    · rw [if_pos cx]; exact ⟨⟨_, rfl, cst_zn Q cx.1 cx.2⟩, Int.le_refl 0, (show (0 : Int) ≤ 1 by decide)⟩
    · rw [if_neg cx]; exact ⟨⟨_, rfl, by decide⟩, by decide, by decide⟩
  have W := wr_361 (r := (aCost n top R N (xs (i + 1).toNat), (n, top, R, N, c, Ol, s0, s1, I, m, O, ec, ep))) (J_K C) ok (k_cost C Q hz2 (xs (i + 1).toNat)) tyc
  obtain ⟨h1, h2, l, e1, l1, e2, l2, e3, ou, J2, ST⟩ := two J W (fun g Mg => MC_of (m_cost Mg.1 Q (xs (i + 1).toNat)) Mg) ⟨S, X⟩
  refine ⟨h2, _, fun r hr => ?_, J2, ST⟩
  clear J2 W
  have T : (∃ y, (aCost n top R N (xs (i + 1).toNat), (n, top, R, N, c, Ol, s0, s1, I, m, O, ec, ep)).1.2 = zF y ∧ zn64 (FP.f2d y) = true) := tyc.1
  clear tyc
  generalize (aCost n top R N (xs (i + 1).toNat), (n, top, R, N, c, Ol, s0, s1, I, m, O, ec, ep)) = z at *
  obtain ⟨y, hy, hy2⟩ := T
  rw [hy] at e2
  show zY 392 1022 [some (zR (some zVB)), some (zR (some 0)), some (zR (some 177)), some (zR (some 197)), some (zR (some 198)), some (zI i), none, none, none, none] [] h = some r
  rw [q_lw17_0 l.1.1 l.1.2.1 l.1.2.2.1 l.1.2.2.2.1 l.1.2.2.2.2.1 l.1.2.2.2.2.2.1 l.1.2.2.2.2.2.2, gd_t (by omega), gd_t (by rw [l.2.1]; omega), l.2.2.1, e1, q_lw17_1 l1.1.1 l1.1.2.1 l1.1.2.2.1 l1.1.2.2.2.1 l1.1.2.2.2.2.1 l1.1.2.2.2.2.2.1 l1.1.2.2.2.2.2.2, gd_t (by omega), gd_t (by rw [l1.2.1]; omega), l1.2.2.1, e2, q_lw17_2 l2.1.1 l2.1.2.1 l2.1.2.2.1 l2.1.2.2.2.1 l2.1.2.2.2.2.1 l2.1.2.2.2.2.2.1 l2.1.2.2.2.2.2.2, e3, q_lw17_3 l2.1.1 l2.1.2.1 l2.1.2.2.1 l2.1.2.2.2.1 l2.1.2.2.2.2.1 l2.1.2.2.2.2.2.1 l2.1.2.2.2.2.2.2, if_pos rfl]
  by_cases k0 : z.1.1 = 0
  · have ou := ou k0
    rw [hy] at ou
    have ou : hD h2 198 0 = FP.f2d y := ou
    rw [if_pos k0, gd_t (by rw [l2.2.2.2.2]; decide), gd_t hy2, ou, if_pos (zn_cmp hy2)]
    exact zY_le (by exact ⟨rfl, rfl, rfl, rfl, rfl, rfl, trivial⟩) hr
  · rw [if_neg k0]
    exact zY_le (by exact ⟨rfl, rfl, rfl, rfl, rfl, rfl, trivial⟩) hr

theorem st_18 (J : JX h L xs σ) (hi : 0 ≤ i) (hi6 : i + 6 ≤ L) (hL : L ≤ 3072) (hz : hN h + 400 ≤ zVB) : LST h L xs i 1100 := by
  obtain ⟨n, top, R, N, c, Ol, s0, s1, I, m, O, ec, ep⟩ := σ
  obtain ⟨⟨p, v, C⟩, M, ⟨S, X⟩, ok, sc⟩ := id J
  have Q : Prg n top R N := SS_P S
  have hm : 0 ≤ m ∧ m ≤ 800 := S.2.2.2.2.2.2
  have hz2 : hN h < zVB := by omega
  have W := wr_362 (r := (aCostBits n top R N (xs (i + 1).toNat), (n, top, R, N, c, Ol, s0, s1, I, m, O, ec, ep))) (J_K C) ok (k_costBits C Q hz2 (xs (i + 1).toNat)) (ty_aCostBits _ _ _ _ _)
  obtain ⟨h1, h2, l, e1, l1, e2, l2, e3, ou, J2, ST⟩ := two J W (fun g Mg => MC_of (m_costBits Mg.1 Q (xs (i + 1).toNat)) Mg) ⟨S, X⟩
  refine ⟨h2, _, fun r hr => ?_, J2, ST⟩
  clear J2 W
  have T : tyI 1 (aCostBits n top R N (xs (i + 1).toNat), (n, top, R, N, c, Ol, s0, s1, I, m, O, ec, ep)).1 := ty_aCostBits _ _ _ _ _
  generalize (aCostBits n top R N (xs (i + 1).toNat), (n, top, R, N, c, Ol, s0, s1, I, m, O, ec, ep)) = z at *
  obtain ⟨⟨y, hy⟩, _⟩ := T
  rw [hy] at e2
  show zY 392 1100 [some (zR (some zVB)), some (zR (some 0)), some (zR (some 177)), some (zR (some 197)), some (zR (some 198)), some (zI i), none, none, none, none] [] h = some r
  rw [q_lw18_0 l.1.1 l.1.2.1 l.1.2.2.1 l.1.2.2.2.1 l.1.2.2.2.2.1 l.1.2.2.2.2.2.1 l.1.2.2.2.2.2.2, gd_t (by omega), gd_t (by rw [l.2.1]; omega), l.2.2.1, e1, q_lw18_1 l1.1.1 l1.1.2.1 l1.1.2.2.1 l1.1.2.2.2.1 l1.1.2.2.2.2.1 l1.1.2.2.2.2.2.1 l1.1.2.2.2.2.2.2, gd_t (by omega), gd_t (by rw [l1.2.1]; omega), l1.2.2.1, e2, q_lw18_2 l2.1.1 l2.1.2.1 l2.1.2.2.1 l2.1.2.2.2.1 l2.1.2.2.2.2.1 l2.1.2.2.2.2.2.1 l2.1.2.2.2.2.2.2, e3, q_lw18_3 l2.1.1 l2.1.2.1 l2.1.2.2.1 l2.1.2.2.2.1 l2.1.2.2.2.2.1 l2.1.2.2.2.2.2.1 l2.1.2.2.2.2.2.2, if_pos rfl]
  by_cases k0 : z.1.1 = 0
  · have ou := ou k0
    rw [hy] at ou
    have ou : hJ h2 197 0 = zi2l y := ou
    rw [if_pos k0, gd_t (by rw [l2.2.2.2.1]; decide), if_pos ou]
    exact zY_le (by exact ⟨rfl, rfl, rfl, rfl, rfl, rfl, trivial⟩) hr
  · rw [if_neg k0]
    exact zY_le (by exact ⟨rfl, rfl, rfl, rfl, rfl, rfl, trivial⟩) hr

theorem st_19 (J : JX h L xs σ) (hi : 0 ≤ i) (hi6 : i + 6 ≤ L) (hL : L ≤ 3072) (hz : hN h + 400 ≤ zVB) : LST h L xs i 1156 := by
  obtain ⟨n, top, R, N, c, Ol, s0, s1, I, m, O, ec, ep⟩ := σ
  obtain ⟨⟨p, v, C⟩, M, ⟨S, X⟩, ok, sc⟩ := id J
  have Q : Prg n top R N := SS_P S
  have hm : 0 ≤ m ∧ m ≤ 800 := S.2.2.2.2.2.2
  have hz2 : hN h < zVB := by omega
  have W := wr_363 (r := (aMet n top R N (xs (i + 1).toNat), (n, top, R, N, c, Ol, s0, s1, I, m, O, ec, ep))) (J_K C) ok (k_met C Q hz2 (xs (i + 1).toNat)) (ty_aMet _ _ _ _ _)
  obtain ⟨h1, h2, l, e1, l1, e2, l2, e3, ou, J2, ST⟩ := two J W (fun g Mg => MC_of (m_met Mg.1 Q (xs (i + 1).toNat)) Mg) ⟨S, X⟩
  refine ⟨h2, _, fun r hr => ?_, J2, ST⟩
  clear J2 W
  have T : tyJ 1 (aMet n top R N (xs (i + 1).toNat), (n, top, R, N, c, Ol, s0, s1, I, m, O, ec, ep)).1 := ty_aMet _ _ _ _ _
  generalize (aMet n top R N (xs (i + 1).toNat), (n, top, R, N, c, Ol, s0, s1, I, m, O, ec, ep)) = z at *
  obtain ⟨⟨y, hy⟩, _⟩ := T
  rw [hy] at e2
  show zY 392 1156 [some (zR (some zVB)), some (zR (some 0)), some (zR (some 177)), some (zR (some 197)), some (zR (some 198)), some (zI i), none, none, none, none] [] h = some r
  rw [q_lw19_0 l.1.1 l.1.2.1 l.1.2.2.1 l.1.2.2.2.1 l.1.2.2.2.2.1 l.1.2.2.2.2.2.1 l.1.2.2.2.2.2.2, gd_t (by omega), gd_t (by rw [l.2.1]; omega), l.2.2.1, e1, q_lw19_1 l1.1.1 l1.1.2.1 l1.1.2.2.1 l1.1.2.2.2.1 l1.1.2.2.2.2.1 l1.1.2.2.2.2.2.1 l1.1.2.2.2.2.2.2, gd_t (by omega), gd_t (by rw [l1.2.1]; omega), l1.2.2.1, e2, q_lw19_2 l2.1.1 l2.1.2.1 l2.1.2.2.1 l2.1.2.2.2.1 l2.1.2.2.2.2.1 l2.1.2.2.2.2.2.1 l2.1.2.2.2.2.2.2, e3, q_lw19_3 l2.1.1 l2.1.2.1 l2.1.2.2.1 l2.1.2.2.2.1 l2.1.2.2.2.2.1 l2.1.2.2.2.2.2.1 l2.1.2.2.2.2.2.2, if_pos rfl]
  by_cases k0 : z.1.1 = 0
  · have ou := ou k0
    rw [hy] at ou
    have ou : hJ h2 197 0 = y := ou
    rw [if_pos k0, gd_t (by rw [l2.2.2.2.1]; decide), if_pos ou]
    exact zY_le (by exact ⟨rfl, rfl, rfl, rfl, rfl, rfl, trivial⟩) hr
  · rw [if_neg k0]
    exact zY_le (by exact ⟨rfl, rfl, rfl, rfl, rfl, rfl, trivial⟩) hr

theorem st_20 (J : JX h L xs σ) (hi : 0 ≤ i) (hi6 : i + 6 ≤ L) (hL : L ≤ 3072) (hz : hN h + 400 ≤ zVB) : LST h L xs i 1211 := by
  obtain ⟨n, top, R, N, c, Ol, s0, s1, I, m, O, ec, ep⟩ := σ
  obtain ⟨⟨p, v, C⟩, M, ⟨S, X⟩, ok, sc⟩ := id J
  have Q : Prg n top R N := SS_P S
  have hm : 0 ≤ m ∧ m ≤ 800 := S.2.2.2.2.2.2
  have hz2 : hN h < zVB := by omega
  have W := wr_364 (r := (aRounds n top R N (xs (i + 1).toNat), (n, top, R, N, c, Ol, s0, s1, I, m, O, ec, ep))) (J_K C) ok (k_rounds C Q hz2 (xs (i + 1).toNat)) (ty_aRounds _ _ _ _ _)
  obtain ⟨h1, h2, l, e1, l1, e2, l2, e3, ou, J2, ST⟩ := two J W (fun g Mg => MC_of (m_rounds Mg.1 Q (xs (i + 1).toNat)) Mg) ⟨S, X⟩
  refine ⟨h2, _, fun r hr => ?_, J2, ST⟩
  clear J2 W
  have T : tyI 1 (aRounds n top R N (xs (i + 1).toNat), (n, top, R, N, c, Ol, s0, s1, I, m, O, ec, ep)).1 := ty_aRounds _ _ _ _ _
  generalize (aRounds n top R N (xs (i + 1).toNat), (n, top, R, N, c, Ol, s0, s1, I, m, O, ec, ep)) = z at *
  obtain ⟨⟨y, hy⟩, _⟩ := T
  rw [hy] at e2
  show zY 392 1211 [some (zR (some zVB)), some (zR (some 0)), some (zR (some 177)), some (zR (some 197)), some (zR (some 198)), some (zI i), none, none, none, none] [] h = some r
  rw [q_lw20_0 l.1.1 l.1.2.1 l.1.2.2.1 l.1.2.2.2.1 l.1.2.2.2.2.1 l.1.2.2.2.2.2.1 l.1.2.2.2.2.2.2, gd_t (by omega), gd_t (by rw [l.2.1]; omega), l.2.2.1, e1, q_lw20_1 l1.1.1 l1.1.2.1 l1.1.2.2.1 l1.1.2.2.2.1 l1.1.2.2.2.2.1 l1.1.2.2.2.2.2.1 l1.1.2.2.2.2.2.2, gd_t (by omega), gd_t (by rw [l1.2.1]; omega), l1.2.2.1, e2, q_lw20_2 l2.1.1 l2.1.2.1 l2.1.2.2.1 l2.1.2.2.2.1 l2.1.2.2.2.2.1 l2.1.2.2.2.2.2.1 l2.1.2.2.2.2.2.2, e3, q_lw20_3 l2.1.1 l2.1.2.1 l2.1.2.2.1 l2.1.2.2.2.1 l2.1.2.2.2.2.1 l2.1.2.2.2.2.2.1 l2.1.2.2.2.2.2.2, if_pos rfl]
  by_cases k0 : z.1.1 = 0
  · have ou := ou k0
    rw [hy] at ou
    have ou : hJ h2 197 0 = zi2l y := ou
    rw [if_pos k0, gd_t (by rw [l2.2.2.2.1]; decide), if_pos ou]
    exact zY_le (by exact ⟨rfl, rfl, rfl, rfl, rfl, rfl, trivial⟩) hr
  · rw [if_neg k0]
    exact zY_le (by exact ⟨rfl, rfl, rfl, rfl, rfl, rfl, trivial⟩) hr

theorem st_21 (J : JX h L xs σ) (hi : 0 ≤ i) (hi6 : i + 6 ≤ L) (hL : L ≤ 3072) (hz : hN h + 400 ≤ zVB) : LST h L xs i 1267 := by
  obtain ⟨n, top, R, N, c, Ol, s0, s1, I, m, O, ec, ep⟩ := σ
  obtain ⟨⟨p, v, C⟩, M, ⟨S, X⟩, ok, sc⟩ := id J
  have Q : Prg n top R N := SS_P S
  have hm : 0 ≤ m ∧ m ≤ 800 := S.2.2.2.2.2.2
  have hz2 : hN h < zVB := by omega
  obtain ⟨h1, h2, l, e1, l1, e2, l2, J2, ST⟩ := two0 (x := zJ (wgC n top R N)) J (k_wrong C Q) (fun g Mg => MC_of (m_wrong Mg.1 Q) Mg)
  refine ⟨h2, _, fun r hr => ?_, J2, ST⟩
  show zY 392 1267 [some (zR (some zVB)), some (zR (some 0)), some (zR (some 177)), some (zR (some 197)), some (zR (some 198)), some (zI i), none, none, none, none] [] h = some r
  rw [q_lw21_0 l.1.1 l.1.2.1 l.1.2.2.1 l.1.2.2.2.1 l.1.2.2.2.2.1 l.1.2.2.2.2.2.1 l.1.2.2.2.2.2.2, e1, q_lw21_1 l1.1.1 l1.1.2.1 l1.1.2.2.1 l1.1.2.2.2.1 l1.1.2.2.2.2.1 l1.1.2.2.2.2.2.1 l1.1.2.2.2.2.2.2, e2, q_lw21_2 l2.1.1 l2.1.2.1 l2.1.2.2.1 l2.1.2.2.2.1 l2.1.2.2.2.2.1 l2.1.2.2.2.2.2.1 l2.1.2.2.2.2.2.2, if_pos rfl]
  exact zY_le (by exact ⟨rfl, rfl, rfl, rfl, rfl, rfl, trivial⟩) hr

theorem st_22 (J : JX h L xs σ) (hi : 0 ≤ i) (hi6 : i + 6 ≤ L) (hL : L ≤ 3072) (hz : hN h + 400 ≤ zVB) : LST h L xs i 1281 := by
  obtain ⟨n, top, R, N, c, Ol, s0, s1, I, m, O, ec, ep⟩ := σ
  obtain ⟨⟨p, v, C⟩, M, ⟨S, X⟩, ok, sc⟩ := id J
  have Q : Prg n top R N := SS_P S
  have hm : 0 ≤ m ∧ m ≤ 800 := S.2.2.2.2.2.2
  have hz2 : hN h < zVB := by omega
  obtain ⟨h1, h2, l, e1, l1, e2, l2, J2, ST⟩ := two0 (x := zI (drA n top R N 64).1) J (k_dearest C Q) (fun g Mg => MC_of (m_dearest Mg.1 Q) Mg)
  refine ⟨h2, _, fun r hr => ?_, J2, ST⟩
  show zY 392 1281 [some (zR (some zVB)), some (zR (some 0)), some (zR (some 177)), some (zR (some 197)), some (zR (some 198)), some (zI i), none, none, none, none] [] h = some r
  rw [q_lw22_0 l.1.1 l.1.2.1 l.1.2.2.1 l.1.2.2.2.1 l.1.2.2.2.2.1 l.1.2.2.2.2.2.1 l.1.2.2.2.2.2.2, e1, q_lw22_1 l1.1.1 l1.1.2.1 l1.1.2.2.1 l1.1.2.2.2.1 l1.1.2.2.2.2.1 l1.1.2.2.2.2.2.1 l1.1.2.2.2.2.2.2, e2, q_lw22_2 l2.1.1 l2.1.2.1 l2.1.2.2.1 l2.1.2.2.2.1 l2.1.2.2.2.2.1 l2.1.2.2.2.2.2.1 l2.1.2.2.2.2.2.2, if_pos rfl]
  exact zY_le (by exact ⟨rfl, rfl, rfl, rfl, rfl, rfl, trivial⟩) hr

theorem st_23 (J : JX h L xs σ) (hi : 0 ≤ i) (hi6 : i + 6 ≤ L) (hL : L ≤ 3072) (hz : hN h + 400 ≤ zVB) : LST h L xs i 1294 := by
  obtain ⟨n, top, R, N, c, Ol, s0, s1, I, m, O, ec, ep⟩ := σ
  obtain ⟨⟨p, v, C⟩, M, ⟨S, X⟩, ok, sc⟩ := id J
  have Q : Prg n top R N := SS_P S
  have hm : 0 ≤ m ∧ m ≤ 800 := S.2.2.2.2.2.2
  have hz2 : hN h < zVB := by omega
  obtain ⟨h1, h2, l, e1, l1, e2, l2, J2, ST⟩ := two0 (x := zD (menS n top R N)) J (k_meanCost C Q) (fun g Mg => MC_of (m_meanCost Mg.1 Q) Mg)
  refine ⟨h2, _, fun r hr => ?_, J2, ST⟩
  show zY 392 1294 [some (zR (some zVB)), some (zR (some 0)), some (zR (some 177)), some (zR (some 197)), some (zR (some 198)), some (zI i), none, none, none, none] [] h = some r
  rw [q_lw23_0 l.1.1 l.1.2.1 l.1.2.2.1 l.1.2.2.2.1 l.1.2.2.2.2.1 l.1.2.2.2.2.2.1 l.1.2.2.2.2.2.2, e1, q_lw23_1 l1.1.1 l1.1.2.1 l1.1.2.2.1 l1.1.2.2.2.1 l1.1.2.2.2.2.1 l1.1.2.2.2.2.2.1 l1.1.2.2.2.2.2.2, e2, q_lw23_2 l2.1.1 l2.1.2.1 l2.1.2.2.1 l2.1.2.2.2.1 l2.1.2.2.2.2.1 l2.1.2.2.2.2.2.1 l2.1.2.2.2.2.2.2]
  by_cases k0 : (Op.cmpValue (FP.dcmp (menS n top R N) (menS n top R N)) .l).toInt = 0
  · rw [if_pos k0]
    exact zY_le (by exact ⟨rfl, rfl, rfl, rfl, rfl, rfl, trivial⟩) hr
  · rw [if_neg k0, if_neg k0, if_neg k0]
    exact zY_le (by exact ⟨rfl, rfl, rfl, rfl, rfl, rfl, trivial⟩) hr

theorem st_24 (J : JX h L xs σ) (hi : 0 ≤ i) (hi6 : i + 6 ≤ L) (hL : L ≤ 3072) (hz : hN h + 400 ≤ zVB) : LST h L xs i 1335 := by
  obtain ⟨n, top, R, N, c, Ol, s0, s1, I, m, O, ec, ep⟩ := σ
  obtain ⟨⟨p, v, C⟩, M, ⟨S, X⟩, ok, sc⟩ := id J
  have Q : Prg n top R N := SS_P S
  have hm : 0 ≤ m ∧ m ≤ 800 := S.2.2.2.2.2.2
  have hz2 : hN h < zVB := by omega
  obtain ⟨h1, h2, l, e1, l1, e2, l2, J2, ST⟩ := two0 (x := zJ (f_Do_doubleToLongBits (menS n top R N))) J (k_meanBits C Q) (fun g Mg => MC_of (m_meanBits Mg.1 Q) Mg)
  refine ⟨h2, _, fun r hr => ?_, J2, ST⟩
  show zY 392 1335 [some (zR (some zVB)), some (zR (some 0)), some (zR (some 177)), some (zR (some 197)), some (zR (some 198)), some (zI i), none, none, none, none] [] h = some r
  rw [q_lw24_0 l.1.1 l.1.2.1 l.1.2.2.1 l.1.2.2.2.1 l.1.2.2.2.2.1 l.1.2.2.2.2.2.1 l.1.2.2.2.2.2.2, e1, q_lw24_1 l1.1.1 l1.1.2.1 l1.1.2.2.1 l1.1.2.2.2.1 l1.1.2.2.2.2.1 l1.1.2.2.2.2.2.1 l1.1.2.2.2.2.2.2, e2, q_lw24_2 l2.1.1 l2.1.2.1 l2.1.2.2.1 l2.1.2.2.2.1 l2.1.2.2.2.2.1 l2.1.2.2.2.2.2.1 l2.1.2.2.2.2.2.2, if_pos rfl]
  exact zY_le (by exact ⟨rfl, rfl, rfl, rfl, rfl, rfl, trivial⟩) hr

theorem st_25 (J : JX h L xs σ) (hi : 0 ≤ i) (hi6 : i + 6 ≤ L) (hL : L ≤ 3072) (hz : hN h + 400 ≤ zVB) : LST h L xs i 1349 := by
  obtain ⟨n, top, R, N, c, Ol, s0, s1, I, m, O, ec, ep⟩ := σ
  obtain ⟨⟨p, v, C⟩, M, ⟨S, X⟩, ok, sc⟩ := id J
  have Q : Prg n top R N := SS_P S
  have hm : 0 ≤ m ∧ m ≤ 800 := S.2.2.2.2.2.2
  have hz2 : hN h < zVB := by omega
  obtain ⟨h1, h2, l, e1, l1, e2, l2, J2, ST⟩ := two0 (x := zF (aShare n top R N)) J (k_share C Q) (fun g Mg => MC_of (m_share Mg.1 Q) Mg)
  refine ⟨h2, _, fun r hr => ?_, J2, ST⟩
  show zY 392 1349 [some (zR (some zVB)), some (zR (some 0)), some (zR (some 177)), some (zR (some 197)), some (zR (some 198)), some (zI i), none, none, none, none] [] h = some r
  have zz : zn64 (FP.f2d (aShare n top R N)) = true := by
    have b := ones_b (ahd N (NN n R N) top)
    exact dpos_zn (dpos_f2d (fpos_shr b.1 b.2))
  rw [q_lw25_0 l.1.1 l.1.2.1 l.1.2.2.1 l.1.2.2.2.1 l.1.2.2.2.2.1 l.1.2.2.2.2.2.1 l.1.2.2.2.2.2.2, e1, q_lw25_1 l1.1.1 l1.1.2.1 l1.1.2.2.1 l1.1.2.2.2.1 l1.1.2.2.2.2.1 l1.1.2.2.2.2.2.1 l1.1.2.2.2.2.2.2, gd_t zz, e2, q_lw25_2 l2.1.1 l2.1.2.1 l2.1.2.2.1 l2.1.2.2.2.1 l2.1.2.2.2.2.1 l2.1.2.2.2.2.2.1 l2.1.2.2.2.2.2.2, gd_t zz]
  by_cases k0 : (Op.cmpValue (FP.dcmp (FP.f2d (aShare n top R N)) (FP.f2d (aShare n top R N))) .l).toInt = 0
  · rw [if_pos k0]
    exact zY_le (by exact ⟨rfl, rfl, rfl, rfl, rfl, rfl, trivial⟩) hr
  · rw [if_neg k0, if_neg k0, if_neg k0]
    exact zY_le (by exact ⟨rfl, rfl, rfl, rfl, rfl, rfl, trivial⟩) hr

theorem st_26 (J : JX h L xs σ) (hi : 0 ≤ i) (hi6 : i + 6 ≤ L) (hL : L ≤ 3072) (hz : hN h + 400 ≤ zVB) : LST h L xs i 1392 := by
  obtain ⟨n, top, R, N, c, Ol, s0, s1, I, m, O, ec, ep⟩ := σ
  obtain ⟨⟨p, v, C⟩, M, ⟨S, X⟩, ok, sc⟩ := id J
  have Q : Prg n top R N := SS_P S
  have hm : 0 ≤ m ∧ m ≤ 800 := S.2.2.2.2.2.2
  have hz2 : hN h < zVB := by omega
  have W := wr_365 (r := (aProves n top R N (xs (i + 1).toNat), (n, top, R, N, c, Ol, s0, s1, I, m, O, ec, ep))) (J_K C) ok (k_proves C Q hz2 (xs (i + 1).toNat)) (ty_aProves _ _ _ _ _)
  obtain ⟨h1, h2, l, e1, l1, e2, l2, e3, ou, J2, ST⟩ := two J W (fun g Mg => MC_of (m_proves Mg.1 Q (xs (i + 1).toNat)) Mg) ⟨S, X⟩
  refine ⟨h2, _, fun r hr => ?_, J2, ST⟩
  clear J2 W
  have T : tyI 1 (aProves n top R N (xs (i + 1).toNat), (n, top, R, N, c, Ol, s0, s1, I, m, O, ec, ep)).1 := ty_aProves _ _ _ _ _
  generalize (aProves n top R N (xs (i + 1).toNat), (n, top, R, N, c, Ol, s0, s1, I, m, O, ec, ep)) = z at *
  obtain ⟨⟨y, hy⟩, _⟩ := T
  rw [hy] at e2
  show zY 392 1392 [some (zR (some zVB)), some (zR (some 0)), some (zR (some 177)), some (zR (some 197)), some (zR (some 198)), some (zI i), none, none, none, none] [] h = some r
  rw [q_lw26_0 l.1.1 l.1.2.1 l.1.2.2.1 l.1.2.2.2.1 l.1.2.2.2.2.1 l.1.2.2.2.2.2.1 l.1.2.2.2.2.2.2, gd_t (by omega), gd_t (by rw [l.2.1]; omega), l.2.2.1, e1, q_lw26_1 l1.1.1 l1.1.2.1 l1.1.2.2.1 l1.1.2.2.2.1 l1.1.2.2.2.2.1 l1.1.2.2.2.2.2.1 l1.1.2.2.2.2.2.2, gd_t (by omega), gd_t (by rw [l1.2.1]; omega), l1.2.2.1, e2, q_lw26_2 l2.1.1 l2.1.2.1 l2.1.2.2.1 l2.1.2.2.2.1 l2.1.2.2.2.2.1 l2.1.2.2.2.2.2.1 l2.1.2.2.2.2.2.2, e3, q_lw26_3 l2.1.1 l2.1.2.1 l2.1.2.2.1 l2.1.2.2.2.1 l2.1.2.2.2.2.1 l2.1.2.2.2.2.2.1 l2.1.2.2.2.2.2.2, if_pos rfl]
  by_cases k0 : z.1.1 = 0
  · have ou := ou k0
    rw [hy] at ou
    have ou : hJ h2 197 0 = zi2l y := ou
    rw [if_pos k0, gd_t (by rw [l2.2.2.2.1]; decide), if_pos ou]
    exact zY_le (by exact ⟨rfl, rfl, rfl, rfl, rfl, rfl, trivial⟩) hr
  · rw [if_neg k0]
    exact zY_le (by exact ⟨rfl, rfl, rfl, rfl, rfl, rfl, trivial⟩) hr

theorem st_27 (J : JX h L xs σ) (hi : 0 ≤ i) (hi6 : i + 6 ≤ L) (hL : L ≤ 3072) (hz : hN h + 400 ≤ zVB) : LST h L xs i 1448 := by
  obtain ⟨n, top, R, N, c, Ol, s0, s1, I, m, O, ec, ep⟩ := σ
  obtain ⟨⟨p, v, C⟩, M, ⟨S, X⟩, ok, sc⟩ := id J
  have Q : Prg n top R N := SS_P S
  have hm : 0 ≤ m ∧ m ≤ 800 := S.2.2.2.2.2.2
  have hz2 : hN h < zVB := by omega
  have W := wr_366 (r := (aRights n top R N (xs (i + 1).toNat), (n, top, R, N, c, Ol, s0, s1, I, m, O, ec, ep))) (J_K C) ok (k_rights C Q hz2 (xs (i + 1).toNat)) (ty_aRights _ _ _ _ _)
  obtain ⟨h1, h2, l, e1, l1, e2, l2, e3, ou, J2, ST⟩ := two J W (fun g Mg => MC_of (m_rights Mg.1 Q (xs (i + 1).toNat)) Mg) ⟨S, X⟩
  refine ⟨h2, _, fun r hr => ?_, J2, ST⟩
  clear J2 W
  have T : tyI 1 (aRights n top R N (xs (i + 1).toNat), (n, top, R, N, c, Ol, s0, s1, I, m, O, ec, ep)).1 := ty_aRights _ _ _ _ _
  generalize (aRights n top R N (xs (i + 1).toNat), (n, top, R, N, c, Ol, s0, s1, I, m, O, ec, ep)) = z at *
  obtain ⟨⟨y, hy⟩, _⟩ := T
  rw [hy] at e2
  show zY 392 1448 [some (zR (some zVB)), some (zR (some 0)), some (zR (some 177)), some (zR (some 197)), some (zR (some 198)), some (zI i), none, none, none, none] [] h = some r
  rw [q_lw27_0 l.1.1 l.1.2.1 l.1.2.2.1 l.1.2.2.2.1 l.1.2.2.2.2.1 l.1.2.2.2.2.2.1 l.1.2.2.2.2.2.2, gd_t (by omega), gd_t (by rw [l.2.1]; omega), l.2.2.1, e1, q_lw27_1 l1.1.1 l1.1.2.1 l1.1.2.2.1 l1.1.2.2.2.1 l1.1.2.2.2.2.1 l1.1.2.2.2.2.2.1 l1.1.2.2.2.2.2.2, gd_t (by omega), gd_t (by rw [l1.2.1]; omega), l1.2.2.1, e2, q_lw27_2 l2.1.1 l2.1.2.1 l2.1.2.2.1 l2.1.2.2.2.1 l2.1.2.2.2.2.1 l2.1.2.2.2.2.2.1 l2.1.2.2.2.2.2.2, e3, q_lw27_3 l2.1.1 l2.1.2.1 l2.1.2.2.1 l2.1.2.2.2.1 l2.1.2.2.2.2.1 l2.1.2.2.2.2.2.1 l2.1.2.2.2.2.2.2, if_pos rfl]
  by_cases k0 : z.1.1 = 0
  · have ou := ou k0
    rw [hy] at ou
    have ou : hJ h2 197 0 = zi2l y := ou
    rw [if_pos k0, gd_t (by rw [l2.2.2.2.1]; decide), if_pos ou]
    exact zY_le (by exact ⟨rfl, rfl, rfl, rfl, rfl, rfl, trivial⟩) hr
  · rw [if_neg k0]
    exact zY_le (by exact ⟨rfl, rfl, rfl, rfl, rfl, rfl, trivial⟩) hr

theorem st_28 (J : JX h L xs σ) (hi : 0 ≤ i) (hi6 : i + 6 ≤ L) (hL : L ≤ 3072) (hz : hN h + 400 ≤ zVB) : LST h L xs i 1504 := by
  obtain ⟨n, top, R, N, c, Ol, s0, s1, I, m, O, ec, ep⟩ := σ
  obtain ⟨⟨p, v, C⟩, M, ⟨S, X⟩, ok, sc⟩ := id J
  have Q : Prg n top R N := SS_P S
  have hm : 0 ≤ m ∧ m ≤ 800 := S.2.2.2.2.2.2
  have hz2 : hN h < zVB := by omega
  have W := wr_367 (r := (aSafe n R N (xs (i + 1).toNat), (n, top, R, N, c, Ol, s0, s1, I, m, O, ec, ep))) (J_K C) ok (k_safe C Q hz2 (xs (i + 1).toNat)) (ty_aSafe _ _ _ _)
  obtain ⟨h1, h2, l, e1, l1, e2, l2, e3, ou, J2, ST⟩ := two J W (fun g Mg => MC_of (m_safe Mg.1 Q (xs (i + 1).toNat)) Mg) ⟨S, X⟩
  refine ⟨h2, _, fun r hr => ?_, J2, ST⟩
  clear J2 W
  have T : tyJ 1 (aSafe n R N (xs (i + 1).toNat), (n, top, R, N, c, Ol, s0, s1, I, m, O, ec, ep)).1 := ty_aSafe _ _ _ _
  generalize (aSafe n R N (xs (i + 1).toNat), (n, top, R, N, c, Ol, s0, s1, I, m, O, ec, ep)) = z at *
  obtain ⟨⟨y, hy⟩, _⟩ := T
  rw [hy] at e2
  show zY 392 1504 [some (zR (some zVB)), some (zR (some 0)), some (zR (some 177)), some (zR (some 197)), some (zR (some 198)), some (zI i), none, none, none, none] [] h = some r
  rw [q_lw28_0 l.1.1 l.1.2.1 l.1.2.2.1 l.1.2.2.2.1 l.1.2.2.2.2.1 l.1.2.2.2.2.2.1 l.1.2.2.2.2.2.2, gd_t (by omega), gd_t (by rw [l.2.1]; omega), l.2.2.1, e1, q_lw28_1 l1.1.1 l1.1.2.1 l1.1.2.2.1 l1.1.2.2.2.1 l1.1.2.2.2.2.1 l1.1.2.2.2.2.2.1 l1.1.2.2.2.2.2.2, gd_t (by omega), gd_t (by rw [l1.2.1]; omega), l1.2.2.1, e2, q_lw28_2 l2.1.1 l2.1.2.1 l2.1.2.2.1 l2.1.2.2.2.1 l2.1.2.2.2.2.1 l2.1.2.2.2.2.2.1 l2.1.2.2.2.2.2.2, e3, q_lw28_3 l2.1.1 l2.1.2.1 l2.1.2.2.1 l2.1.2.2.2.1 l2.1.2.2.2.2.1 l2.1.2.2.2.2.2.1 l2.1.2.2.2.2.2.2, if_pos rfl]
  by_cases k0 : z.1.1 = 0
  · have ou := ou k0
    rw [hy] at ou
    have ou : hJ h2 197 0 = y := ou
    rw [if_pos k0, gd_t (by rw [l2.2.2.2.1]; decide), if_pos ou]
    exact zY_le (by exact ⟨rfl, rfl, rfl, rfl, rfl, rfl, trivial⟩) hr
  · rw [if_neg k0]
    exact zY_le (by exact ⟨rfl, rfl, rfl, rfl, rfl, rfl, trivial⟩) hr

theorem st_29 (J : JX h L xs σ) (hi : 0 ≤ i) (hi6 : i + 6 ≤ L) (hL : L ≤ 3072) (hz : hN h + 400 ≤ zVB) : LST h L xs i 1559 := by
  obtain ⟨n, top, R, N, c, Ol, s0, s1, I, m, O, ec, ep⟩ := σ
  obtain ⟨⟨p, v, C⟩, M, ⟨S, X⟩, ok, sc⟩ := id J
  have Q : Prg n top R N := SS_P S
  have hm : 0 ≤ m ∧ m ≤ 800 := S.2.2.2.2.2.2
  have hz2 : hN h < zVB := by omega
  have W := wr_368 (r := (aUnsf n R N (xs (i + 1).toNat), (n, top, R, N, c, Ol, s0, s1, I, m, O, ec, ep))) (J_K C) ok (k_unsf C Q hz2 (xs (i + 1).toNat)) (ty_aUnsf _ _ _ _)
  obtain ⟨h1, h2, l, e1, l1, e2, l2, e3, ou, J2, ST⟩ := two J W (fun g Mg => MC_of (m_unsf Mg.1 Q (xs (i + 1).toNat)) Mg) ⟨S, X⟩
  refine ⟨h2, _, fun r hr => ?_, J2, ST⟩
  clear J2 W
  have T : tyJ 1 (aUnsf n R N (xs (i + 1).toNat), (n, top, R, N, c, Ol, s0, s1, I, m, O, ec, ep)).1 := ty_aUnsf _ _ _ _
  generalize (aUnsf n R N (xs (i + 1).toNat), (n, top, R, N, c, Ol, s0, s1, I, m, O, ec, ep)) = z at *
  obtain ⟨⟨y, hy⟩, _⟩ := T
  rw [hy] at e2
  show zY 392 1559 [some (zR (some zVB)), some (zR (some 0)), some (zR (some 177)), some (zR (some 197)), some (zR (some 198)), some (zI i), none, none, none, none] [] h = some r
  rw [q_lw29_0 l.1.1 l.1.2.1 l.1.2.2.1 l.1.2.2.2.1 l.1.2.2.2.2.1 l.1.2.2.2.2.2.1 l.1.2.2.2.2.2.2, gd_t (by omega), gd_t (by rw [l.2.1]; omega), l.2.2.1, e1, q_lw29_1 l1.1.1 l1.1.2.1 l1.1.2.2.1 l1.1.2.2.2.1 l1.1.2.2.2.2.1 l1.1.2.2.2.2.2.1 l1.1.2.2.2.2.2.2, gd_t (by omega), gd_t (by rw [l1.2.1]; omega), l1.2.2.1, e2, q_lw29_2 l2.1.1 l2.1.2.1 l2.1.2.2.1 l2.1.2.2.2.1 l2.1.2.2.2.2.1 l2.1.2.2.2.2.2.1 l2.1.2.2.2.2.2.2, e3, q_lw29_3 l2.1.1 l2.1.2.1 l2.1.2.2.1 l2.1.2.2.2.1 l2.1.2.2.2.2.1 l2.1.2.2.2.2.2.1 l2.1.2.2.2.2.2.2, if_pos rfl]
  by_cases k0 : z.1.1 = 0
  · have ou := ou k0
    rw [hy] at ou
    have ou : hJ h2 197 0 = y := ou
    rw [if_pos k0, gd_t (by rw [l2.2.2.2.1]; decide), if_pos ou]
    exact zY_le (by exact ⟨rfl, rfl, rfl, rfl, rfl, rfl, trivial⟩) hr
  · rw [if_neg k0]
    exact zY_le (by exact ⟨rfl, rfl, rfl, rfl, rfl, rfl, trivial⟩) hr

theorem st_30 (J : JX h L xs σ) (hi : 0 ≤ i) (hi6 : i + 6 ≤ L) (hL : L ≤ 3072) (hz : hN h + 400 ≤ zVB) : LST h L xs i 1614 := by
  obtain ⟨n, top, R, N, c, Ol, s0, s1, I, m, O, ec, ep⟩ := σ
  obtain ⟨⟨p, v, C⟩, M, ⟨S, X⟩, ok, sc⟩ := id J
  have Q : Prg n top R N := SS_P S
  have hm : 0 ≤ m ∧ m ≤ 800 := S.2.2.2.2.2.2
  have hz2 : hN h < zVB := by omega
  have W := wr_369 (r := (aWN (xs (i + 1).toNat) (n, top, R, N, c, Ol, s0, s1, I, m, O, ec, ep))) (J_K C) ok (k_writeNeed C Q hz2 (xs (i + 1).toNat)) (ty_aWN _ _)
  obtain ⟨h1, h2, l, e1, l1, e2, l2, e3, ou, J2, ST⟩ := two J W (fun g Mg => m_WN Mg S (xs (i + 1).toNat)) ⟨SS_WN S (xs (i + 1).toNat), XS_io X⟩
  refine ⟨h2, _, fun r hr => ?_, J2, ST⟩
  clear J2 W
  have T : tyI 1 (aWN (xs (i + 1).toNat) (n, top, R, N, c, Ol, s0, s1, I, m, O, ec, ep)).1 := ty_aWN _ _
  generalize (aWN (xs (i + 1).toNat) (n, top, R, N, c, Ol, s0, s1, I, m, O, ec, ep)) = z at *
  obtain ⟨⟨y, hy⟩, _⟩ := T
  rw [hy] at e2
  show zY 392 1614 [some (zR (some zVB)), some (zR (some 0)), some (zR (some 177)), some (zR (some 197)), some (zR (some 198)), some (zI i), none, none, none, none] [] h = some r
  rw [q_lw30_0 l.1.1 l.1.2.1 l.1.2.2.1 l.1.2.2.2.1 l.1.2.2.2.2.1 l.1.2.2.2.2.2.1 l.1.2.2.2.2.2.2, gd_t (by omega), gd_t (by rw [l.2.1]; omega), l.2.2.1, e1, q_lw30_1 l1.1.1 l1.1.2.1 l1.1.2.2.1 l1.1.2.2.2.1 l1.1.2.2.2.2.1 l1.1.2.2.2.2.2.1 l1.1.2.2.2.2.2.2, gd_t (by omega), gd_t (by rw [l1.2.1]; omega), l1.2.2.1, e2, q_lw30_2 l2.1.1 l2.1.2.1 l2.1.2.2.1 l2.1.2.2.2.1 l2.1.2.2.2.2.1 l2.1.2.2.2.2.2.1 l2.1.2.2.2.2.2.2, e3, q_lw30_3 l2.1.1 l2.1.2.1 l2.1.2.2.1 l2.1.2.2.2.1 l2.1.2.2.2.2.1 l2.1.2.2.2.2.2.1 l2.1.2.2.2.2.2.2, if_pos rfl]
  by_cases k0 : z.1.1 = 0
  · have ou := ou k0
    rw [hy] at ou
    have ou : hJ h2 197 0 = zi2l y := ou
    rw [if_pos k0, gd_t (by rw [l2.2.2.2.1]; decide), if_pos ou]
    exact zY_le (by exact ⟨rfl, rfl, rfl, rfl, rfl, rfl, trivial⟩) hr
  · rw [if_neg k0]
    exact zY_le (by exact ⟨rfl, rfl, rfl, rfl, rfl, rfl, trivial⟩) hr

theorem st_31 (J : JX h L xs σ) (hi : 0 ≤ i) (hi6 : i + 6 ≤ L) (hL : L ≤ 3072) (hz : hN h + 400 ≤ zVB) : LST h L xs i 1670 := by
  obtain ⟨n, top, R, N, c, Ol, s0, s1, I, m, O, ec, ep⟩ := σ
  obtain ⟨⟨p, v, C⟩, M, ⟨S, X⟩, ok, sc⟩ := id J
  have Q : Prg n top R N := SS_P S
  have hm : 0 ≤ m ∧ m ≤ 800 := S.2.2.2.2.2.2
  have hz2 : hN h < zVB := by omega
  have W := wr_370 (r := (aOutputByte O (xs (i + 1).toNat), (n, top, R, N, c, Ol, s0, s1, I, m, O, ec, ep))) (J_K C) ok (k_outputByte C hz2 (xs (i + 1).toNat)) (ty_aOutputByte _ _)
  obtain ⟨h1, h2, l, e1, l1, e2, l2, e3, ou, J2, ST⟩ := two J W (fun g Mg => MC_of (m_outputByte Mg.1 Mg.2.2.2.2.1 (xs (i + 1).toNat)) Mg) ⟨S, X⟩
  refine ⟨h2, _, fun r hr => ?_, J2, ST⟩
  clear J2 W
  have T : tyI 1 (aOutputByte O (xs (i + 1).toNat), (n, top, R, N, c, Ol, s0, s1, I, m, O, ec, ep)).1 := ty_aOutputByte _ _
  generalize (aOutputByte O (xs (i + 1).toNat), (n, top, R, N, c, Ol, s0, s1, I, m, O, ec, ep)) = z at *
  obtain ⟨⟨y, hy⟩, _⟩ := T
  rw [hy] at e2
  show zY 392 1670 [some (zR (some zVB)), some (zR (some 0)), some (zR (some 177)), some (zR (some 197)), some (zR (some 198)), some (zI i), none, none, none, none] [] h = some r
  rw [q_lw31_0 l.1.1 l.1.2.1 l.1.2.2.1 l.1.2.2.2.1 l.1.2.2.2.2.1 l.1.2.2.2.2.2.1 l.1.2.2.2.2.2.2, gd_t (by omega), gd_t (by rw [l.2.1]; omega), l.2.2.1, e1, q_lw31_1 l1.1.1 l1.1.2.1 l1.1.2.2.1 l1.1.2.2.2.1 l1.1.2.2.2.2.1 l1.1.2.2.2.2.2.1 l1.1.2.2.2.2.2.2, gd_t (by omega), gd_t (by rw [l1.2.1]; omega), l1.2.2.1, e2, q_lw31_2 l2.1.1 l2.1.2.1 l2.1.2.2.1 l2.1.2.2.2.1 l2.1.2.2.2.2.1 l2.1.2.2.2.2.2.1 l2.1.2.2.2.2.2.2, e3, q_lw31_3 l2.1.1 l2.1.2.1 l2.1.2.2.1 l2.1.2.2.2.1 l2.1.2.2.2.2.1 l2.1.2.2.2.2.2.1 l2.1.2.2.2.2.2.2, if_pos rfl]
  by_cases k0 : z.1.1 = 0
  · have ou := ou k0
    rw [hy] at ou
    have ou : hJ h2 197 0 = zi2l y := ou
    rw [if_pos k0, gd_t (by rw [l2.2.2.2.1]; decide), if_pos ou]
    exact zY_le (by exact ⟨rfl, rfl, rfl, rfl, rfl, rfl, trivial⟩) hr
  · rw [if_neg k0]
    exact zY_le (by exact ⟨rfl, rfl, rfl, rfl, rfl, rfl, trivial⟩) hr

theorem st_32 (J : JX h L xs σ) (hi : 0 ≤ i) (hi6 : i + 6 ≤ L) (hL : L ≤ 3072) (hz : hN h + 400 ≤ zVB) : LST h L xs i 1726 := by
  obtain ⟨n, top, R, N, c, Ol, s0, s1, I, m, O, ec, ep⟩ := σ
  obtain ⟨⟨p, v, C⟩, M, ⟨S, X⟩, ok, sc⟩ := id J
  have Q : Prg n top R N := SS_P S
  have hm : 0 ≤ m ∧ m ≤ 800 := S.2.2.2.2.2.2
  have hz2 : hN h < zVB := by omega
  have W := wr_371 (r := (aNeedNodes n R N (xs (i + 1).toNat), (n, top, R, N, c, Ol, s0, s1, I, m, O, ec, ep))) (J_K C) ok (k_needNodes C Q hz2 (xs (i + 1).toNat)) (ty_aNeedNodes _ _ _ _)
  obtain ⟨h1, h2, l, e1, l1, e2, l2, e3, ou, J2, ST⟩ := two J W (fun g Mg => MC_of (m_needNodes Mg.1 Q (xs (i + 1).toNat)) Mg) ⟨S, X⟩
  refine ⟨h2, _, fun r hr => ?_, J2, ST⟩
  clear J2 W
  have T : tyI 1 (aNeedNodes n R N (xs (i + 1).toNat), (n, top, R, N, c, Ol, s0, s1, I, m, O, ec, ep)).1 := ty_aNeedNodes _ _ _ _
  generalize (aNeedNodes n R N (xs (i + 1).toNat), (n, top, R, N, c, Ol, s0, s1, I, m, O, ec, ep)) = z at *
  obtain ⟨⟨y, hy⟩, _⟩ := T
  rw [hy] at e2
  show zY 392 1726 [some (zR (some zVB)), some (zR (some 0)), some (zR (some 177)), some (zR (some 197)), some (zR (some 198)), some (zI i), none, none, none, none] [] h = some r
  rw [q_lw32_0 l.1.1 l.1.2.1 l.1.2.2.1 l.1.2.2.2.1 l.1.2.2.2.2.1 l.1.2.2.2.2.2.1 l.1.2.2.2.2.2.2, gd_t (by omega), gd_t (by rw [l.2.1]; omega), l.2.2.1, e1, q_lw32_1 l1.1.1 l1.1.2.1 l1.1.2.2.1 l1.1.2.2.2.1 l1.1.2.2.2.2.1 l1.1.2.2.2.2.2.1 l1.1.2.2.2.2.2.2, gd_t (by omega), gd_t (by rw [l1.2.1]; omega), l1.2.2.1, e2, q_lw32_2 l2.1.1 l2.1.2.1 l2.1.2.2.1 l2.1.2.2.2.1 l2.1.2.2.2.2.1 l2.1.2.2.2.2.2.1 l2.1.2.2.2.2.2.2, e3, q_lw32_3 l2.1.1 l2.1.2.1 l2.1.2.2.1 l2.1.2.2.2.1 l2.1.2.2.2.2.1 l2.1.2.2.2.2.2.1 l2.1.2.2.2.2.2.2, if_pos rfl]
  by_cases k0 : z.1.1 = 0
  · have ou := ou k0
    rw [hy] at ou
    have ou : hJ h2 197 0 = zi2l y := ou
    rw [if_pos k0, gd_t (by rw [l2.2.2.2.1]; decide), if_pos ou]
    exact zY_le (by exact ⟨rfl, rfl, rfl, rfl, rfl, rfl, trivial⟩) hr
  · rw [if_neg k0]
    exact zY_le (by exact ⟨rfl, rfl, rfl, rfl, rfl, rfl, trivial⟩) hr

theorem st_33 (J : JX h L xs σ) (hi : 0 ≤ i) (hi6 : i + 6 ≤ L) (hL : L ≤ 3072) (hz : hN h + 400 ≤ zVB) : LST h L xs i 1782 := by
  obtain ⟨n, top, R, N, c, Ol, s0, s1, I, m, O, ec, ep⟩ := σ
  obtain ⟨⟨p, v, C⟩, M, ⟨S, X⟩, ok, sc⟩ := id J
  have Q : Prg n top R N := SS_P S
  have hm : 0 ≤ m ∧ m ≤ 800 := S.2.2.2.2.2.2
  have hz2 : hN h < zVB := by omega
  have W := wr_372 (r := (aGap n R N (xs (i + 1).toNat), (n, top, R, N, c, Ol, s0, s1, I, m, O, ec, ep))) (J_K C) ok (k_gap C Q hz2 (xs (i + 1).toNat)) (ty_aGap _ _ _ _)
  obtain ⟨h1, h2, l, e1, l1, e2, l2, e3, ou, J2, ST⟩ := two J W (fun g Mg => MC_of (m_gap Mg.1 Q (xs (i + 1).toNat)) Mg) ⟨S, X⟩
  refine ⟨h2, _, fun r hr => ?_, J2, ST⟩
  clear J2 W
  have T : tyI 1 (aGap n R N (xs (i + 1).toNat), (n, top, R, N, c, Ol, s0, s1, I, m, O, ec, ep)).1 := ty_aGap _ _ _ _
  generalize (aGap n R N (xs (i + 1).toNat), (n, top, R, N, c, Ol, s0, s1, I, m, O, ec, ep)) = z at *
  obtain ⟨⟨y, hy⟩, _⟩ := T
  rw [hy] at e2
  show zY 392 1782 [some (zR (some zVB)), some (zR (some 0)), some (zR (some 177)), some (zR (some 197)), some (zR (some 198)), some (zI i), none, none, none, none] [] h = some r
  rw [q_lw33_0 l.1.1 l.1.2.1 l.1.2.2.1 l.1.2.2.2.1 l.1.2.2.2.2.1 l.1.2.2.2.2.2.1 l.1.2.2.2.2.2.2, gd_t (by omega), gd_t (by rw [l.2.1]; omega), l.2.2.1, e1, q_lw33_1 l1.1.1 l1.1.2.1 l1.1.2.2.1 l1.1.2.2.2.1 l1.1.2.2.2.2.1 l1.1.2.2.2.2.2.1 l1.1.2.2.2.2.2.2, gd_t (by omega), gd_t (by rw [l1.2.1]; omega), l1.2.2.1, e2, q_lw33_2 l2.1.1 l2.1.2.1 l2.1.2.2.1 l2.1.2.2.2.1 l2.1.2.2.2.2.1 l2.1.2.2.2.2.2.1 l2.1.2.2.2.2.2.2, e3, q_lw33_3 l2.1.1 l2.1.2.1 l2.1.2.2.1 l2.1.2.2.2.1 l2.1.2.2.2.2.1 l2.1.2.2.2.2.2.1 l2.1.2.2.2.2.2.2, if_pos rfl]
  by_cases k0 : z.1.1 = 0
  · have ou := ou k0
    rw [hy] at ou
    have ou : hJ h2 197 0 = zi2l y := ou
    rw [if_pos k0, gd_t (by rw [l2.2.2.2.1]; decide), if_pos ou]
    exact zY_le (by exact ⟨rfl, rfl, rfl, rfl, rfl, rfl, trivial⟩) hr
  · rw [if_neg k0]
    exact zY_le (by exact ⟨rfl, rfl, rfl, rfl, rfl, rfl, trivial⟩) hr

theorem st_34 (J : JX h L xs σ) (hi : 0 ≤ i) (hi6 : i + 6 ≤ L) (hL : L ≤ 3072) (hz : hN h + 400 ≤ zVB) : LST h L xs i 1838 := by
  obtain ⟨n, top, R, N, c, Ol, s0, s1, I, m, O, ec, ep⟩ := σ
  obtain ⟨⟨p, v, C⟩, M, ⟨S, X⟩, ok, sc⟩ := id J
  have Q : Prg n top R N := SS_P S
  have hm : 0 ≤ m ∧ m ≤ 800 := S.2.2.2.2.2.2
  have hz2 : hN h < zVB := by omega
  have W := wr_373 (r := (aSetB 0 (xs (i + 1).toNat) (n, top, R, N, c, Ol, s0, s1, I, m, O, ec, ep))) (J_K C) ok (k_setBefore C Q hm ok.2.2 hz (xs (i + 1).toNat)) (ty_aSetB _ _ _)
  obtain ⟨h1, h2, l, e1, l1, e2, l2, e3, ou, J2, ST⟩ := two J W (fun g Mg => m_setBefore Mg S (xs (i + 1).toNat)) ⟨SS_setB S (Or.inl rfl) (xs (i + 1).toNat), XS_setB X Q (Or.inl rfl) (xs (i + 1).toNat)⟩
  refine ⟨h2, _, fun r hr => ?_, J2, ST⟩
  clear J2 W
  have T : tyI 2 (aSetB 0 (xs (i + 1).toNat) (n, top, R, N, c, Ol, s0, s1, I, m, O, ec, ep)).1 := ty_aSetB _ _ _
  generalize (aSetB 0 (xs (i + 1).toNat) (n, top, R, N, c, Ol, s0, s1, I, m, O, ec, ep)) = z at *
  obtain ⟨⟨y, hy⟩, _⟩ := T
  rw [hy] at e2
  show zY 392 1838 [some (zR (some zVB)), some (zR (some 0)), some (zR (some 177)), some (zR (some 197)), some (zR (some 198)), some (zI i), none, none, none, none] [] h = some r
  rw [q_lw34_0 l.1.1 l.1.2.1 l.1.2.2.1 l.1.2.2.2.1 l.1.2.2.2.2.1 l.1.2.2.2.2.2.1 l.1.2.2.2.2.2.2, gd_t (by omega), gd_t (by rw [l.2.1]; omega), l.2.2.1, e1, q_lw34_1 l1.1.1 l1.1.2.1 l1.1.2.2.1 l1.1.2.2.2.1 l1.1.2.2.2.2.1 l1.1.2.2.2.2.2.1 l1.1.2.2.2.2.2.2, gd_t (by omega), gd_t (by rw [l1.2.1]; omega), l1.2.2.1, e2, q_lw34_2 l2.1.1 l2.1.2.1 l2.1.2.2.1 l2.1.2.2.2.1 l2.1.2.2.2.2.1 l2.1.2.2.2.2.2.1 l2.1.2.2.2.2.2.2, e3, q_lw34_3 l2.1.1 l2.1.2.1 l2.1.2.2.1 l2.1.2.2.2.1 l2.1.2.2.2.2.1 l2.1.2.2.2.2.2.1 l2.1.2.2.2.2.2.2, if_pos rfl]
  by_cases k0 : z.1.1 = 0
  · have ou := ou k0
    rw [hy] at ou
    have ou : hJ h2 197 0 = zi2l y := ou
    rw [if_pos k0, gd_t (by rw [l2.2.2.2.1]; decide), if_pos ou]
    exact zY_le (by exact ⟨rfl, rfl, rfl, rfl, rfl, rfl, trivial⟩) hr
  · rw [if_neg k0]
    exact zY_le (by exact ⟨rfl, rfl, rfl, rfl, rfl, rfl, trivial⟩) hr

theorem st_35 (J : JX h L xs σ) (hi : 0 ≤ i) (hi6 : i + 6 ≤ L) (hL : L ≤ 3072) (hz : hN h + 400 ≤ zVB) : LST h L xs i 1894 := by
  obtain ⟨n, top, R, N, c, Ol, s0, s1, I, m, O, ec, ep⟩ := σ
  obtain ⟨⟨p, v, C⟩, M, ⟨S, X⟩, ok, sc⟩ := id J
  have Q : Prg n top R N := SS_P S
  have hm : 0 ≤ m ∧ m ≤ 800 := S.2.2.2.2.2.2
  have hz2 : hN h < zVB := by omega
  have W := wr_374 (r := (aSetB 1 (xs (i + 1).toNat) (n, top, R, N, c, Ol, s0, s1, I, m, O, ec, ep))) (J_K C) ok (k_setAfter C Q hm ok.2.2 hz (xs (i + 1).toNat)) (ty_aSetB _ _ _)
  obtain ⟨h1, h2, l, e1, l1, e2, l2, e3, ou, J2, ST⟩ := two J W (fun g Mg => m_setAfter Mg S (xs (i + 1).toNat)) ⟨SS_setB S (Or.inr rfl) (xs (i + 1).toNat), XS_setB X Q (Or.inr rfl) (xs (i + 1).toNat)⟩
  refine ⟨h2, _, fun r hr => ?_, J2, ST⟩
  clear J2 W
  have T : tyI 2 (aSetB 1 (xs (i + 1).toNat) (n, top, R, N, c, Ol, s0, s1, I, m, O, ec, ep)).1 := ty_aSetB _ _ _
  generalize (aSetB 1 (xs (i + 1).toNat) (n, top, R, N, c, Ol, s0, s1, I, m, O, ec, ep)) = z at *
  obtain ⟨⟨y, hy⟩, _⟩ := T
  rw [hy] at e2
  show zY 392 1894 [some (zR (some zVB)), some (zR (some 0)), some (zR (some 177)), some (zR (some 197)), some (zR (some 198)), some (zI i), none, none, none, none] [] h = some r
  rw [q_lw35_0 l.1.1 l.1.2.1 l.1.2.2.1 l.1.2.2.2.1 l.1.2.2.2.2.1 l.1.2.2.2.2.2.1 l.1.2.2.2.2.2.2, gd_t (by omega), gd_t (by rw [l.2.1]; omega), l.2.2.1, e1, q_lw35_1 l1.1.1 l1.1.2.1 l1.1.2.2.1 l1.1.2.2.2.1 l1.1.2.2.2.2.1 l1.1.2.2.2.2.2.1 l1.1.2.2.2.2.2.2, gd_t (by omega), gd_t (by rw [l1.2.1]; omega), l1.2.2.1, e2, q_lw35_2 l2.1.1 l2.1.2.1 l2.1.2.2.1 l2.1.2.2.2.1 l2.1.2.2.2.2.1 l2.1.2.2.2.2.2.1 l2.1.2.2.2.2.2.2, e3, q_lw35_3 l2.1.1 l2.1.2.1 l2.1.2.2.1 l2.1.2.2.2.1 l2.1.2.2.2.2.1 l2.1.2.2.2.2.2.1 l2.1.2.2.2.2.2.2, if_pos rfl]
  by_cases k0 : z.1.1 = 0
  · have ou := ou k0
    rw [hy] at ou
    have ou : hJ h2 197 0 = zi2l y := ou
    rw [if_pos k0, gd_t (by rw [l2.2.2.2.1]; decide), if_pos ou]
    exact zY_le (by exact ⟨rfl, rfl, rfl, rfl, rfl, rfl, trivial⟩) hr
  · rw [if_neg k0]
    exact zY_le (by exact ⟨rfl, rfl, rfl, rfl, rfl, rfl, trivial⟩) hr

theorem st_36 (J : JX h L xs σ) (hi : 0 ≤ i) (hi6 : i + 6 ≤ L) (hL : L ≤ 3072) (hz : hN h + 400 ≤ zVB) : LST h L xs i 1950 := by
  obtain ⟨n, top, R, N, c, Ol, s0, s1, I, m, O, ec, ep⟩ := σ
  obtain ⟨⟨p, v, C⟩, M, ⟨S, X⟩, ok, sc⟩ := id J
  have Q : Prg n top R N := SS_P S
  have hm : 0 ≤ m ∧ m ≤ 800 := S.2.2.2.2.2.2
  have hz2 : hN h < zVB := by omega
  have W := wr_375 (r := (aSetK (xs (i + 1).toNat) (xs (i + 2).toNat) (n, top, R, N, c, Ol, s0, s1, I, m, O, ec, ep))) (J_K C) ok (k_setKeep C Q hm ok.2.2 hz (xs (i + 1).toNat) (xs (i + 2).toNat)) (ty_aSetK _ _ _)
  obtain ⟨h1, h2, l, e1, l1, e2, l2, e3, ou, J2, ST⟩ := two J W (fun g Mg => m_setKeep Mg S (xs (i + 1).toNat) (xs (i + 2).toNat)) ⟨SS_setK S (xs (i + 1).toNat) (xs (i + 2).toNat), XS_setK X Q (xs (i + 1).toNat) (xs (i + 2).toNat)⟩
  refine ⟨h2, _, fun r hr => ?_, J2, ST⟩
  clear J2 W
  have T : tyI 3 (aSetK (xs (i + 1).toNat) (xs (i + 2).toNat) (n, top, R, N, c, Ol, s0, s1, I, m, O, ec, ep)).1 := ty_aSetK _ _ _
  generalize (aSetK (xs (i + 1).toNat) (xs (i + 2).toNat) (n, top, R, N, c, Ol, s0, s1, I, m, O, ec, ep)) = z at *
  obtain ⟨⟨y, hy⟩, _⟩ := T
  rw [hy] at e2
  show zY 392 1950 [some (zR (some zVB)), some (zR (some 0)), some (zR (some 177)), some (zR (some 197)), some (zR (some 198)), some (zI i), none, none, none, none] [] h = some r
  rw [q_lw36_0 l.1.1 l.1.2.1 l.1.2.2.1 l.1.2.2.2.1 l.1.2.2.2.2.1 l.1.2.2.2.2.2.1 l.1.2.2.2.2.2.2, gd_t (by omega), gd_t (by rw [l.2.1]; omega), gd_t (by omega), gd_t (by rw [l.2.1]; omega), l.2.2.1, e1, q_lw36_1 l1.1.1 l1.1.2.1 l1.1.2.2.1 l1.1.2.2.2.1 l1.1.2.2.2.2.1 l1.1.2.2.2.2.2.1 l1.1.2.2.2.2.2.2, gd_t (by omega), gd_t (by rw [l1.2.1]; omega), gd_t (by omega), gd_t (by rw [l1.2.1]; omega), l1.2.2.1, e2, q_lw36_2 l2.1.1 l2.1.2.1 l2.1.2.2.1 l2.1.2.2.2.1 l2.1.2.2.2.2.1 l2.1.2.2.2.2.2.1 l2.1.2.2.2.2.2.2, e3, q_lw36_3 l2.1.1 l2.1.2.1 l2.1.2.2.1 l2.1.2.2.2.1 l2.1.2.2.2.2.1 l2.1.2.2.2.2.2.1 l2.1.2.2.2.2.2.2, if_pos rfl]
  by_cases k0 : z.1.1 = 0
  · have ou := ou k0
    rw [hy] at ou
    have ou : hJ h2 197 0 = zi2l y := ou
    rw [if_pos k0, gd_t (by rw [l2.2.2.2.1]; decide), if_pos ou]
    exact zY_le (by exact ⟨rfl, rfl, rfl, rfl, rfl, rfl, trivial⟩) hr
  · rw [if_neg k0]
    exact zY_le (by exact ⟨rfl, rfl, rfl, rfl, rfl, rfl, trivial⟩) hr

theorem st_37 (J : JX h L xs σ) (hi : 0 ≤ i) (hi6 : i + 6 ≤ L) (hL : L ≤ 3072) (hz : hN h + 400 ≤ zVB) : LST h L xs i 2018 := by
  obtain ⟨n, top, R, N, c, Ol, s0, s1, I, m, O, ec, ep⟩ := σ
  obtain ⟨⟨p, v, C⟩, M, ⟨S, X⟩, ok, sc⟩ := id J
  have Q : Prg n top R N := SS_P S
  have hm : 0 ≤ m ∧ m ≤ 800 := S.2.2.2.2.2.2
  have hz2 : hN h < zVB := by omega
  have W := wr_376 (r := (aSetL (xs (i + 1).toNat) (xs (i + 2).toNat) (n, top, R, N, c, Ol, s0, s1, I, m, O, ec, ep))) (J_K C) ok (k_setLess C Q hm ok.2.2 hz (xs (i + 1).toNat) (xs (i + 2).toNat)) (ty_aSetL _ _ _)
  obtain ⟨h1, h2, l, e1, l1, e2, l2, e3, ou, J2, ST⟩ := two J W (fun g Mg => m_setLess Mg S (xs (i + 1).toNat) (xs (i + 2).toNat)) ⟨SS_setL S (xs (i + 1).toNat) (xs (i + 2).toNat), XS_setL X Q (xs (i + 1).toNat) (xs (i + 2).toNat)⟩
  refine ⟨h2, _, fun r hr => ?_, J2, ST⟩
  clear J2 W
  have T : tyI 3 (aSetL (xs (i + 1).toNat) (xs (i + 2).toNat) (n, top, R, N, c, Ol, s0, s1, I, m, O, ec, ep)).1 := ty_aSetL _ _ _
  generalize (aSetL (xs (i + 1).toNat) (xs (i + 2).toNat) (n, top, R, N, c, Ol, s0, s1, I, m, O, ec, ep)) = z at *
  obtain ⟨⟨y, hy⟩, _⟩ := T
  rw [hy] at e2
  show zY 392 2018 [some (zR (some zVB)), some (zR (some 0)), some (zR (some 177)), some (zR (some 197)), some (zR (some 198)), some (zI i), none, none, none, none] [] h = some r
  rw [q_lw37_0 l.1.1 l.1.2.1 l.1.2.2.1 l.1.2.2.2.1 l.1.2.2.2.2.1 l.1.2.2.2.2.2.1 l.1.2.2.2.2.2.2, gd_t (by omega), gd_t (by rw [l.2.1]; omega), gd_t (by omega), gd_t (by rw [l.2.1]; omega), l.2.2.1, e1, q_lw37_1 l1.1.1 l1.1.2.1 l1.1.2.2.1 l1.1.2.2.2.1 l1.1.2.2.2.2.1 l1.1.2.2.2.2.2.1 l1.1.2.2.2.2.2.2, gd_t (by omega), gd_t (by rw [l1.2.1]; omega), gd_t (by omega), gd_t (by rw [l1.2.1]; omega), l1.2.2.1, e2, q_lw37_2 l2.1.1 l2.1.2.1 l2.1.2.2.1 l2.1.2.2.2.1 l2.1.2.2.2.2.1 l2.1.2.2.2.2.2.1 l2.1.2.2.2.2.2.2, e3, q_lw37_3 l2.1.1 l2.1.2.1 l2.1.2.2.1 l2.1.2.2.2.1 l2.1.2.2.2.2.1 l2.1.2.2.2.2.2.1 l2.1.2.2.2.2.2.2, if_pos rfl]
  by_cases k0 : z.1.1 = 0
  · have ou := ou k0
    rw [hy] at ou
    have ou : hJ h2 197 0 = zi2l y := ou
    rw [if_pos k0, gd_t (by rw [l2.2.2.2.1]; decide), if_pos ou]
    exact zY_le (by exact ⟨rfl, rfl, rfl, rfl, rfl, rfl, trivial⟩) hr
  · rw [if_neg k0]
    exact zY_le (by exact ⟨rfl, rfl, rfl, rfl, rfl, rfl, trivial⟩) hr

theorem st_38 (J : JX h L xs σ) (hi : 0 ≤ i) (hi6 : i + 6 ≤ L) (hL : L ≤ 3072) (hz : hN h + 400 ≤ zVB) : LST h L xs i 2086 := by
  obtain ⟨n, top, R, N, c, Ol, s0, s1, I, m, O, ec, ep⟩ := σ
  obtain ⟨⟨p, v, C⟩, M, ⟨S, X⟩, ok, sc⟩ := id J
  have Q : Prg n top R N := SS_P S
  have hm : 0 ≤ m ∧ m ≤ 800 := S.2.2.2.2.2.2
  have hz2 : hN h < zVB := by omega
  have W := wr_377 (r := (aFill (xs (i + 1).toNat) (xs (i + 2).toNat) (n, top, R, N, c, Ol, s0, s1, I, m, O, ec, ep))) (J_K C) ok (k_fill C Q hz2 (xs (i + 1).toNat) (xs (i + 2).toNat)) (ty_aFill _ _ _)
  obtain ⟨h1, h2, l, e1, l1, e2, l2, e3, ou, J2, ST⟩ := two J W (fun g Mg => m_fill Mg S (xs (i + 1).toNat) (xs (i + 2).toNat)) ⟨SS_fill S (xs (i + 1).toNat) (xs (i + 2).toNat), XS_fill X Q (xs (i + 1).toNat) (xs (i + 2).toNat)⟩
  refine ⟨h2, _, fun r hr => ?_, J2, ST⟩
  clear J2 W
  have T : tyI 2 (aFill (xs (i + 1).toNat) (xs (i + 2).toNat) (n, top, R, N, c, Ol, s0, s1, I, m, O, ec, ep)).1 := ty_aFill _ _ _
  generalize (aFill (xs (i + 1).toNat) (xs (i + 2).toNat) (n, top, R, N, c, Ol, s0, s1, I, m, O, ec, ep)) = z at *
  obtain ⟨⟨y, hy⟩, _⟩ := T
  rw [hy] at e2
  show zY 392 2086 [some (zR (some zVB)), some (zR (some 0)), some (zR (some 177)), some (zR (some 197)), some (zR (some 198)), some (zI i), none, none, none, none] [] h = some r
  rw [q_lw38_0 l.1.1 l.1.2.1 l.1.2.2.1 l.1.2.2.2.1 l.1.2.2.2.2.1 l.1.2.2.2.2.2.1 l.1.2.2.2.2.2.2, gd_t (by omega), gd_t (by rw [l.2.1]; omega), gd_t (by omega), gd_t (by rw [l.2.1]; omega), l.2.2.1, e1, q_lw38_1 l1.1.1 l1.1.2.1 l1.1.2.2.1 l1.1.2.2.2.1 l1.1.2.2.2.2.1 l1.1.2.2.2.2.2.1 l1.1.2.2.2.2.2.2, gd_t (by omega), gd_t (by rw [l1.2.1]; omega), gd_t (by omega), gd_t (by rw [l1.2.1]; omega), l1.2.2.1, e2, q_lw38_2 l2.1.1 l2.1.2.1 l2.1.2.2.1 l2.1.2.2.2.1 l2.1.2.2.2.2.1 l2.1.2.2.2.2.2.1 l2.1.2.2.2.2.2.2, e3, q_lw38_3 l2.1.1 l2.1.2.1 l2.1.2.2.1 l2.1.2.2.2.1 l2.1.2.2.2.2.1 l2.1.2.2.2.2.2.1 l2.1.2.2.2.2.2.2, if_pos rfl]
  by_cases k0 : z.1.1 = 0
  · have ou := ou k0
    rw [hy] at ou
    have ou : hJ h2 197 0 = zi2l y := ou
    rw [if_pos k0, gd_t (by rw [l2.2.2.2.1]; decide), if_pos ou]
    exact zY_le (by exact ⟨rfl, rfl, rfl, rfl, rfl, rfl, trivial⟩) hr
  · rw [if_neg k0]
    exact zY_le (by exact ⟨rfl, rfl, rfl, rfl, rfl, rfl, trivial⟩) hr

theorem st_39 (J : JX h L xs σ) (hi : 0 ≤ i) (hi6 : i + 6 ≤ L) (hL : L ≤ 3072) (hz : hN h + 400 ≤ zVB) : LST h L xs i 2154 := by
  obtain ⟨n, top, R, N, c, Ol, s0, s1, I, m, O, ec, ep⟩ := σ
  obtain ⟨⟨p, v, C⟩, M, ⟨S, X⟩, ok, sc⟩ := id J
  have Q : Prg n top R N := SS_P S
  have hm : 0 ≤ m ∧ m ≤ 800 := S.2.2.2.2.2.2
  have hz2 : hN h < zVB := by omega
  have W := wr_378 (r := (aSetPrice (xs (i + 1).toNat) (xs (i + 2).toNat) (n, top, R, N, c, Ol, s0, s1, I, m, O, ec, ep))) (J_K C) ok (k_setPrice C Q hz2 (xs (i + 1).toNat) (xs (i + 2).toNat)) (ty_aSetPrice _ _ _)
  obtain ⟨h1, h2, l, e1, l1, e2, l2, e3, ou, J2, ST⟩ := two J W (fun g Mg => m_setPrice Mg S (xs (i + 1).toNat) (xs (i + 2).toNat)) ⟨SS_setPrice S (xs (i + 1).toNat) (xs (i + 2).toNat), XS_setPrice X Q (xs (i + 1).toNat) (xs (i + 2).toNat)⟩
  refine ⟨h2, _, fun r hr => ?_, J2, ST⟩
  clear J2 W
  have T : tyI 2 (aSetPrice (xs (i + 1).toNat) (xs (i + 2).toNat) (n, top, R, N, c, Ol, s0, s1, I, m, O, ec, ep)).1 := ty_aSetPrice _ _ _
  generalize (aSetPrice (xs (i + 1).toNat) (xs (i + 2).toNat) (n, top, R, N, c, Ol, s0, s1, I, m, O, ec, ep)) = z at *
  obtain ⟨⟨y, hy⟩, _⟩ := T
  rw [hy] at e2
  show zY 392 2154 [some (zR (some zVB)), some (zR (some 0)), some (zR (some 177)), some (zR (some 197)), some (zR (some 198)), some (zI i), none, none, none, none] [] h = some r
  rw [q_lw39_0 l.1.1 l.1.2.1 l.1.2.2.1 l.1.2.2.2.1 l.1.2.2.2.2.1 l.1.2.2.2.2.2.1 l.1.2.2.2.2.2.2, gd_t (by omega), gd_t (by rw [l.2.1]; omega), gd_t (by omega), gd_t (by rw [l.2.1]; omega), l.2.2.1, e1, q_lw39_1 l1.1.1 l1.1.2.1 l1.1.2.2.1 l1.1.2.2.2.1 l1.1.2.2.2.2.1 l1.1.2.2.2.2.2.1 l1.1.2.2.2.2.2.2, gd_t (by omega), gd_t (by rw [l1.2.1]; omega), gd_t (by omega), gd_t (by rw [l1.2.1]; omega), l1.2.2.1, e2, q_lw39_2 l2.1.1 l2.1.2.1 l2.1.2.2.1 l2.1.2.2.2.1 l2.1.2.2.2.2.1 l2.1.2.2.2.2.2.1 l2.1.2.2.2.2.2.2, e3, q_lw39_3 l2.1.1 l2.1.2.1 l2.1.2.2.1 l2.1.2.2.2.1 l2.1.2.2.2.2.1 l2.1.2.2.2.2.2.1 l2.1.2.2.2.2.2.2, if_pos rfl]
  by_cases k0 : z.1.1 = 0
  · have ou := ou k0
    rw [hy] at ou
    have ou : hJ h2 197 0 = zi2l y := ou
    rw [if_pos k0, gd_t (by rw [l2.2.2.2.1]; decide), if_pos ou]
    exact zY_le (by exact ⟨rfl, rfl, rfl, rfl, rfl, rfl, trivial⟩) hr
  · rw [if_neg k0]
    exact zY_le (by exact ⟨rfl, rfl, rfl, rfl, rfl, rfl, trivial⟩) hr

theorem st_40 (J : JX h L xs σ) (hi : 0 ≤ i) (hi6 : i + 6 ≤ L) (hL : L ≤ 3072) (hz : hN h + 400 ≤ zVB) : LST h L xs i 2222 := by
  obtain ⟨n, top, R, N, c, Ol, s0, s1, I, m, O, ec, ep⟩ := σ
  obtain ⟨⟨p, v, C⟩, M, ⟨S, X⟩, ok, sc⟩ := id J
  have Q : Prg n top R N := SS_P S
  have hm : 0 ≤ m ∧ m ≤ 800 := S.2.2.2.2.2.2
  have hz2 : hN h < zVB := by omega
  have qs : ∀ x N2, slt x s0 s1 = some N2 → Prg n top R N2 ∧ smP n R N N2 := fun x N2 e => by
    refine ⟨(slt_ok S e).1, ?_⟩
    unfold slt at e
    split at e
    · exact X.2.2.1 N2 e
    · exact X.2.2.2 N2 e
  have W := wr_379 (r := (aRestore (xs (i + 1).toNat) (n, top, R, N, c, Ol, s0, s1, I, m, O, ec, ep))) (J_K C) ok (k_restore C Q qs hz2 (xs (i + 1).toNat)) (ty_aRestore _ _)
  obtain ⟨h1, h2, l, e1, l1, e2, l2, e3, ou, J2, ST⟩ := two J W (fun g Mg => m_restore Mg S (xs (i + 1).toNat)) ⟨SS_restore S (xs (i + 1).toNat), XS_restore X (xs (i + 1).toNat)⟩
  refine ⟨h2, _, fun r hr => ?_, J2, ST⟩
  clear J2 W
  have T : tyI 2 (aRestore (xs (i + 1).toNat) (n, top, R, N, c, Ol, s0, s1, I, m, O, ec, ep)).1 := ty_aRestore _ _
  generalize (aRestore (xs (i + 1).toNat) (n, top, R, N, c, Ol, s0, s1, I, m, O, ec, ep)) = z at *
  obtain ⟨⟨y, hy⟩, _⟩ := T
  rw [hy] at e2
  show zY 392 2222 [some (zR (some zVB)), some (zR (some 0)), some (zR (some 177)), some (zR (some 197)), some (zR (some 198)), some (zI i), none, none, none, none] [] h = some r
  rw [q_lw40_0 l.1.1 l.1.2.1 l.1.2.2.1 l.1.2.2.2.1 l.1.2.2.2.2.1 l.1.2.2.2.2.2.1 l.1.2.2.2.2.2.2, gd_t (by omega), gd_t (by rw [l.2.1]; omega), l.2.2.1, e1, q_lw40_1 l1.1.1 l1.1.2.1 l1.1.2.2.1 l1.1.2.2.2.1 l1.1.2.2.2.2.1 l1.1.2.2.2.2.2.1 l1.1.2.2.2.2.2.2, gd_t (by omega), gd_t (by rw [l1.2.1]; omega), l1.2.2.1, e2, q_lw40_2 l2.1.1 l2.1.2.1 l2.1.2.2.1 l2.1.2.2.2.1 l2.1.2.2.2.2.1 l2.1.2.2.2.2.2.1 l2.1.2.2.2.2.2.2, e3, q_lw40_3 l2.1.1 l2.1.2.1 l2.1.2.2.1 l2.1.2.2.2.1 l2.1.2.2.2.2.1 l2.1.2.2.2.2.2.1 l2.1.2.2.2.2.2.2, if_pos rfl]
  by_cases k0 : z.1.1 = 0
  · have ou := ou k0
    rw [hy] at ou
    have ou : hJ h2 197 0 = zi2l y := ou
    rw [if_pos k0, gd_t (by rw [l2.2.2.2.1]; decide), if_pos ou]
    exact zY_le (by exact ⟨rfl, rfl, rfl, rfl, rfl, rfl, trivial⟩) hr
  · rw [if_neg k0]
    exact zY_le (by exact ⟨rfl, rfl, rfl, rfl, rfl, rfl, trivial⟩) hr

theorem st_41 (J : JX h L xs σ) (hi : 0 ≤ i) (hi6 : i + 6 ≤ L) (hL : L ≤ 3072) (hz : hN h + 400 ≤ zVB) : LST h L xs i 2278 := by
  obtain ⟨n, top, R, N, c, Ol, s0, s1, I, m, O, ec, ep⟩ := σ
  obtain ⟨⟨p, v, C⟩, M, ⟨S, X⟩, ok, sc⟩ := id J
  have Q : Prg n top R N := SS_P S
  have hm : 0 ≤ m ∧ m ≤ 800 := S.2.2.2.2.2.2
  have hz2 : hN h < zVB := by omega
  have W := wr_380 (r := (aUndo (n, top, R, N, c, Ol, s0, s1, I, m, O, ec, ep))) (J_K C) ok (k_undo C Q (fun i hi => (S.2.2.2.1.2 i hi).1) X.2.1 hz2) (ty_aUndo _)
  obtain ⟨h1, h2, l, e1, l1, e2, l2, e3, ou, J2, ST⟩ := two J W (fun g Mg => m_undo Mg S) ⟨SS_undo S, XS_undo X⟩
  refine ⟨h2, _, fun r hr => ?_, J2, ST⟩
  clear J2 W
  have T : tyI 1 (aUndo (n, top, R, N, c, Ol, s0, s1, I, m, O, ec, ep)).1 := ty_aUndo _
  generalize (aUndo (n, top, R, N, c, Ol, s0, s1, I, m, O, ec, ep)) = z at *
  obtain ⟨⟨y, hy⟩, _⟩ := T
  rw [hy] at e2
  show zY 392 2278 [some (zR (some zVB)), some (zR (some 0)), some (zR (some 177)), some (zR (some 197)), some (zR (some 198)), some (zI i), none, none, none, none] [] h = some r
  rw [q_lw41_0 l.1.1 l.1.2.1 l.1.2.2.1 l.1.2.2.2.1 l.1.2.2.2.2.1 l.1.2.2.2.2.2.1 l.1.2.2.2.2.2.2, e1, q_lw41_1 l1.1.1 l1.1.2.1 l1.1.2.2.1 l1.1.2.2.2.1 l1.1.2.2.2.2.1 l1.1.2.2.2.2.2.1 l1.1.2.2.2.2.2.2, e2, q_lw41_2 l2.1.1 l2.1.2.1 l2.1.2.2.1 l2.1.2.2.2.1 l2.1.2.2.2.2.1 l2.1.2.2.2.2.2.1 l2.1.2.2.2.2.2.2, e3, q_lw41_3 l2.1.1 l2.1.2.1 l2.1.2.2.1 l2.1.2.2.2.1 l2.1.2.2.2.2.1 l2.1.2.2.2.2.2.1 l2.1.2.2.2.2.2.2, if_pos rfl]
  by_cases k0 : z.1.1 = 0
  · have ou := ou k0
    rw [hy] at ou
    have ou : hJ h2 197 0 = zi2l y := ou
    rw [if_pos k0, gd_t (by rw [l2.2.2.2.1]; decide), if_pos ou]
    exact zY_le (by exact ⟨rfl, rfl, rfl, rfl, rfl, rfl, trivial⟩) hr
  · rw [if_neg k0]
    exact zY_le (by exact ⟨rfl, rfl, rfl, rfl, rfl, rfl, trivial⟩) hr

theorem st_42 (J : JX h L xs σ) (hi : 0 ≤ i) (hi6 : i + 6 ≤ L) (hL : L ≤ 3072) (hz : hN h + 400 ≤ zVB) : LST h L xs i 2322 := by
  obtain ⟨n, top, R, N, c, Ol, s0, s1, I, m, O, ec, ep⟩ := σ
  obtain ⟨⟨p, v, C⟩, M, ⟨S, X⟩, ok, sc⟩ := id J
  have Q : Prg n top R N := SS_P S
  have hm : 0 ≤ m ∧ m ≤ 800 := S.2.2.2.2.2.2
  have hz2 : hN h < zVB := by omega
  have W := wr_381 (r := (aSave (xs (i + 1).toNat) (n, top, R, N, c, Ol, s0, s1, I, m, O, ec, ep))) (J_K C) ok (k_save C Q hz2 (xs (i + 1).toNat)) (ty_aSave _ _)
  obtain ⟨h1, h2, l, e1, l1, e2, l2, e3, ou, J2, ST⟩ := two J W (fun g Mg => m_save Mg S (xs (i + 1).toNat)) ⟨SS_save S (xs (i + 1).toNat), XS_save X (xs (i + 1).toNat)⟩
  refine ⟨h2, _, fun r hr => ?_, J2, ST⟩
  clear J2 W
  have T : tyI 1 (aSave (xs (i + 1).toNat) (n, top, R, N, c, Ol, s0, s1, I, m, O, ec, ep)).1 := ty_aSave _ _
  generalize (aSave (xs (i + 1).toNat) (n, top, R, N, c, Ol, s0, s1, I, m, O, ec, ep)) = z at *
  obtain ⟨⟨y, hy⟩, _⟩ := T
  rw [hy] at e2
  show zY 392 2322 [some (zR (some zVB)), some (zR (some 0)), some (zR (some 177)), some (zR (some 197)), some (zR (some 198)), some (zI i), none, none, none, none] [] h = some r
  rw [q_lw42_0 l.1.1 l.1.2.1 l.1.2.2.1 l.1.2.2.2.1 l.1.2.2.2.2.1 l.1.2.2.2.2.2.1 l.1.2.2.2.2.2.2, gd_t (by omega), gd_t (by rw [l.2.1]; omega), l.2.2.1, e1, q_lw42_1 l1.1.1 l1.1.2.1 l1.1.2.2.1 l1.1.2.2.2.1 l1.1.2.2.2.2.1 l1.1.2.2.2.2.2.1 l1.1.2.2.2.2.2.2, gd_t (by omega), gd_t (by rw [l1.2.1]; omega), l1.2.2.1, e2, q_lw42_2 l2.1.1 l2.1.2.1 l2.1.2.2.1 l2.1.2.2.2.1 l2.1.2.2.2.2.1 l2.1.2.2.2.2.2.1 l2.1.2.2.2.2.2.2, e3, q_lw42_3 l2.1.1 l2.1.2.1 l2.1.2.2.1 l2.1.2.2.2.1 l2.1.2.2.2.2.1 l2.1.2.2.2.2.2.1 l2.1.2.2.2.2.2.2, if_pos rfl]
  by_cases k0 : z.1.1 = 0
  · have ou := ou k0
    rw [hy] at ou
    have ou : hJ h2 197 0 = zi2l y := ou
    rw [if_pos k0, gd_t (by rw [l2.2.2.2.1]; decide), if_pos ou]
    exact zY_le (by exact ⟨rfl, rfl, rfl, rfl, rfl, rfl, trivial⟩) hr
  · rw [if_neg k0]
    exact zY_le (by exact ⟨rfl, rfl, rfl, rfl, rfl, rfl, trivial⟩) hr

end LAWS
