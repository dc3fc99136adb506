/-! What the law comes to. -/
def FIN (o : zO) : Prop := ∃ h2, o = some (.inl (some (zI 1)), h2) ∧ hN h2 ≤ 600086 ∧ hU h2 ≤ 7301442
section LAWS
variable {L b : Nat} {t : TSt} {h h2 : zH} {n top : Int} {R N : Nat → Int} {c : Nat} {Ol : Nat → Nat → Int} {s0 s1 : Option (Nat → Int)} {I : Nat → Int} {m : Int} {ec ep : Int}
theorem fin_le {m pc : Nat} {M M2 : zL} {S : List zV} (q : zle M M2) (H : FIN (zY m pc M S h)) : FIN (zY m pc M2 S h) := by
  obtain ⟨h2, h1, H⟩ := H
  exact ⟨h2, zY_le q h1, H⟩
/-- the next program -/
def QH (L q bq : Nat) : Prop := ∀ (t : TSt) (b : Nat) (h : zH), LW L t b h → b ≤ bq → FIN (zY 261 34 [some (zR (some zVB)), some (zR (some 0)), some (zR (some 177)), some (zI 1), some (zI (q : Int)), none, none, none, none, none, none, none] [] h)
theorem eq_a {I2 : Nat → Int} (hI : ∀ i, i < ([101, 113, 32, 97] : List Int).length → I2 i = tg [101, 113, 32, 97] i) : ¬ alE I2 ((([101, 113, 32, 97] : List Int).length : Nat) : Int) 0 1 N = 0 :=
  al_12 (tks_spl (U := [101, 113, 32, 97]) hI rfl (by decide) (w := 12) (ws := [4]) (wok_c (by decide) (by decide) (wok_1 (by decide) (by decide))) (by decide))
theorem not_a {I2 : Nat → Int} (hI : ∀ i, i < ([110, 111, 116, 32, 97] : List Int).length → I2 i = tg [110, 111, 116, 32, 97] i) : ¬ alE I2 ((([110, 111, 116, 32, 97] : List Int).length : Nat) : Int) 1 1 N = 0 :=
  al_14 (tks_spl (U := [110, 111, 116, 32, 97]) hI rfl (by decide) (w := 14) (ws := [4]) (wok_c (by decide) (by decide) (wok_1 (by decide) (by decide))) (by decide))
theorem asc_d {V : List Int} (e : ∀ i, i < V.length → 0 ≤ tg V i ∧ tg V i < 128) : ascL V := e
/-- behind the three changes -/
theorem lw_270 {q : Nat} {N0 : Nat → Int} {x9 : Int} (hq : q < 2) (IH : QH L (q + 1) (b + 1)) (hb : b ≤ 900) (U : LW L (n, top, R, N, c, Ol, s0, s1, I, m, ec, ep) b h) (es : slt (q : Int) s0 s1 = some N0) : FIN (zY 261 270 [some (zR (some zVB)), some (zR (some 0)), some (zR (some 177)), some (zI 1), some (zI (q : Int)), some (zI n), some (zJ (sumV n R N0)), none, some (zI (nfC n top R N0)), some (zI x9), none, none] [] h) := by
  have h310 : ∀ (t2 : TSt) (b2 : Nat) (h : zH), LW L t2 b2 h → b2 ≤ b + 1 → FIN (zY 261 310 [some (zR (some zVB)), some (zR (some 0)), some (zR (some 177)), some (zI 1), some (zI (q : Int)), some (zI n), some (zJ (sumV n R N0)), none, some (zI (nfC n top R N0)), some (zI x9), none, none] [] h) := fun t2 b2 h U hb2 => by
    rw [q_L_law_310, gd_t (by omega)]
    exact fin_le (by exact ⟨rfl, rfl, rfl, rfl, rfl, trivial⟩) (IH t2 b2 h U hb2)
  rw [q_L_law_270, if_neg (by decide), q_L_law_274]
  obtain ⟨x, h1, E1, xr, U1⟩ := lz_next U
  rw [E1, zbk, q_L_law_278, gd_t (by omega)]
  by_cases cx : Int.tmod x 2 = 0
  · have J1 := lz_L U1
    rw [if_pos cx, q_L_law_283 (lj_T J1) (lj_0 J1)]
    obtain ⟨h2, E2, U2⟩ := v_restore U1 (by omega) (x := (q : Int)) (by omega) es
    obtain ⟨Q2, X2⟩ := lz_P U2
    have z2 := lz_z U2 (by omega)
    rw [E2, zbk, q_L_law_289, if_pos rfl, q_L_law_294]
    obtain ⟨h3, E3, J3⟩ := c_sum (lz_L U2) Q2 X2 (by omega)
    rw [E3, zbk, q_L_law_298, if_pos (zl_p rfl), q_L_law_304, gd_t (by omega)]
    exact fin_le (by exact ⟨rfl, rfl, rfl, rfl, rfl, trivial⟩) (IH _ _ h3 (lz_J U2 J3) (Nat.le_refl _))
  · rw [if_neg cx]
    exact h310 _ _ h1 U1 (by omega)
theorem lw_112 {q : Nat} {N0 : Nat → Int} (hq : q < 2) (hn : 0 < n) : ∀ (r u : Nat) (b bq : Nat) (N : Nat → Int) (c : Nat) (Ol : Nat → Nat → Int) (I : Nat → Int) (m ec ep : Int) (h : zH), r + u = 3 → QH L (q + 1) bq → b + 38 * r + 1 ≤ bq → bq ≤ 700 → slt (q : Int) s0 s1 = some N0 → LW L (n, top, R, N, c, Ol, s0, s1, I, m, ec, ep) b h → FIN (zY 261 112 [some (zR (some zVB)), some (zR (some 0)), some (zR (some 177)), some (zI 1), some (zI (q : Int)), some (zI n), some (zJ (sumV n R N0)), none, some (zI (nfC n top R N0)), some (zI (u : Int)), none, none] [] h)
  | 0, u, b, bq, N, c, Ol, I, m, ec, ep, h, e, IH, hb, hbq, es, U => by
    have e : u = 3 := by omega
    subst e
    rw [q_L_law_112, if_neg (by decide)]
    exact lw_270 hq (fun t b2 h U hb2 => IH t b2 h U (by omega)) (by omega) U es
  | r + 1, u, b, bq, N, c, Ol, I, m, ec, ep, h, e, IH, hb, hbq, es, U => by
    obtain ⟨Q, X⟩ := lz_P U
    have z := lz_z U (by omega)
    rw [q_L_law_112, if_pos (by omega), q_L_law_118, if_neg (by decide), q_L_law_122]
    obtain ⟨h1, E1, J1⟩ := c_sum (lz_L U) Q X (by omega)
    have U1 := lz_J U J1
    rw [E1, zbk, q_L_law_126]
    obtain ⟨h2, E2, U2⟩ := w_fill0 U1 (by omega) (l := -1) (f := 0) (lp_no Q (Or.inr rfl) (by omega))
    rw [E2, zbk, q_L_law_134, if_pos rfl, q_L_law_139]
    obtain ⟨h3, E3, U3⟩ := w_price0 U2 (by omega) (s := n) (x := 0) (by omega)
    rw [E3, zbk, q_L_law_146, if_pos rfl, q_L_law_151]
    obtain ⟨h4, E4, U4⟩ := w_price1 U3 (by omega) (s := 0) (x := 100) ⟨Int.le_refl _, hn⟩ (by decide)
    rw [E4, zbk, q_L_law_158, if_pos rfl, q_L_law_163]
    obtain ⟨h5, I5, ec5, ep5, E5, U5⟩ := w_before0 U4 (by omega) (Or.inl (tx_54 U4.2.2.2.1.1)) (asc_d (by decide)) (by decide) (fun I2 hI => eq_a hI)
    rw [E5, zbk, q_L_law_170, if_pos rfl, q_L_law_175]
    obtain ⟨h6, I6, ec6, ep6, E6, U6⟩ := w_after0 U5 (by omega) (Or.inl (tx_55 U5.2.2.2.1.1)) (asc_d (by decide)) (by decide) (fun I2 hI => not_a hI)
    have z6 := lz_z U6 (by omega)
    rw [E6, zbk, q_L_law_182, if_pos rfl, q_L_law_187]
    obtain ⟨h7, E7, J7⟩ := c_sum (lz_L U6) Q X (by omega)
    have U7 := lz_J U6 J7
    rw [E7, zbk, q_L_law_191, if_pos (zl_p rfl), q_L_law_197]
    obtain ⟨h8, N8, c8, Ol8, I8, m8, ec8, ep8, E8, U8, c0, o0⟩ := c_act U7 (by omega) hn
    obtain ⟨Q8, X8⟩ := lz_P U8
    have z8 := lz_z U8 (by omega)
    have J8 := lz_L U8
    rw [E8, zbk, q_L_law_212, if_neg (by decide), q_L_law_215]
    obtain ⟨h9, E9, J9⟩ := c_adds J8 Q8 X8 (by omega)
    have U9 := lz_J U8 J9
    rw [E9, zbk, q_L_law_219, if_neg (by decide), q_L_law_222]
    obtain ⟨x, h10, E10, xr, U10⟩ := lz_next U9
    rw [E10, zbk, q_L_law_236, gd_t (by omega)]
    by_cases cx : Int.tmod x 4 = 0
    · rw [if_pos cx, q_L_law_241]
      obtain ⟨h11, E11, U11⟩ := w_undo U10 (by omega) c0
      obtain ⟨Q11, X11⟩ := lz_P U11
      have z11 := lz_z U11 (by omega)
      rw [E11, zbk, q_L_law_245, if_neg (by omega), q_L_law_248]
      obtain ⟨h12, E12, J12⟩ := c_sum (lz_L U11) Q11 X11 (by omega)
      rw [E12, zbk, q_L_law_252, if_pos (zl_p (by rw [o0])), q_L_law_258, gd_t (by omega)]
      exact fin_le (by exact ⟨rfl, rfl, rfl, rfl, rfl, rfl, rfl, rfl, rfl, trivial⟩) (lw_112 hq hn r (u + 1) _ bq _ _ _ _ _ _ _ h12 (by omega) IH (by omega) hbq es (lz_J U11 J12))
    · rw [if_neg cx, q_L_law_264, gd_t (by omega)]
      exact fin_le (by exact ⟨rfl, rfl, rfl, rfl, rfl, rfl, rfl, rfl, rfl, trivial⟩) (lw_112 hq hn r (u + 1) _ bq _ _ _ _ _ _ _ h10 (by omega) IH (by omega) hbq es U10)
/-- behind the seed's change: a program is drawn -/
theorem lw_215 {q : Nat} (hq : q < 2) (IH : QH L (q + 1) (b + 290)) (hb : b ≤ 400) (U : LW L t b h) : FIN (zBack zY 261 67 70 [some (zR (some zVB)), some (zR (some 0)), some (zR (some 177)), some (zI 1), some (zI (q : Int)), none, none, none, none, none, none, none] [zR (some 0)] (zC 215 [zR (some 177)] h)) := by
  have st := U.2.2.2.1
  have n7 := lz_n U
  have z := lz_z U (by omega)
  have u8 := U.2.2.2.2.1
  obtain ⟨h1, s, V, cnt, E1, X1, P1, c0, c1, w1, ne1, l1, F1, t1, s1', v1⟩ := c_proof st.1 st.2.2.1 n7 st.2.2.2 (by omega)
  have U1 : LW L t (b + 167) h1 := lz_R U F1 t1.1 t1.2 (by decide) (by decide)
  rw [E1, zbk, q_L_law_70]
  obtain ⟨n, top, R, N, c, Ol, s0, s1, I, m, ec, ep⟩ := t
  obtain ⟨h2, top2, R2, N2, I2, E2, U2⟩ := w_load U1 (by omega) (Or.inr ⟨X1, by omega, fun v hv => by have := v1 v hv; omega⟩) w1 ne1 l1 P1
  have J2 := lz_L U2
  rw [E2, zbk, q_L_law_73, if_pos c0, q_L_law_80 (lj_T J2) (lj_0 J2)]
  obtain ⟨h3, E3, U3⟩ := v_save U2 (by omega) (x := (q : Int)) (by omega)
  obtain ⟨Q3, X3⟩ := lz_P U3
  have z3 := lz_z U3 (by omega)
  rw [E3, zbk, q_L_law_86, if_pos rfl, q_L_law_90]
  obtain ⟨h4, E4, J4⟩ := c_sum (lz_L U3) Q3 X3 (by omega)
  rw [E4, zbk, q_L_law_100 (lj_T J4) (lj_0 J4)]
  obtain ⟨h5, E5, J5⟩ := g_value5 J4 Q3 (by omega)
  have U5 := lz_J U3 J5
  rw [E5, zbk, q_L_law_107]
  refine lw_112 hq c0 3 0 _ (b + 290) _ _ _ _ _ _ _ h5 rfl IH (by omega) (by omega) ?_ U5
  unfold slt
  by_cases q0 : (q : Int) = 0
  · rw [if_pos q0, if_pos q0]
  · rw [if_neg q0, if_pos (by omega)]
theorem lw_34 : ∀ (r q bq : Nat), r + q = 2 → bq + 300 * r ≤ 600 → QH L q bq
  | 0, q, bq, e, hb => fun t b h U hbq => by
    have e : q = 2 := by omega
    subst e
    rw [q_L_law_34, if_neg (by decide), q_L_law_316, gd_t ⟨rfl, Or.inr ⟨rfl, Or.inr rfl⟩⟩]
    have u := U.2.2.2.2
    exact ⟨h, rfl, by have := u.2.1; omega, by have := u.2.2; omega⟩
  | r + 1, q, bq, e, hb => fun t b h U hbq => by
    have IH : QH L (q + 1) (b + 290) := lw_34 r (q + 1) (b + 290) (by omega) (by omega)
    have st := U.2.2.2.1
    have n7 := lz_n U
    rw [q_L_law_34, if_pos (by omega), q_L_law_40, if_neg (by decide), q_L_law_44 st.2.2.1 st.2.1.1, st.2.2.2, st.2.1.2, gd_t (by decide)]
    have go : ∀ v : Int, FIN (zBack zY 261 67 70 [some (zR (some zVB)), some (zR (some 0)), some (zR (some 177)), some (zI 1), some (zI (q : Int)), none, none, none, none, none, none, none] [zR (some 0)] (zC 215 [zR (some 177)] (sI h 177 0 v))) := fun v => by
      refine lw_215 (t := t) (by omega) IH (by omega) ?_
      exact lz_R (k := 0) (q := 0) U ⟨⟨Nat.le_refl _, Nat.le_refl _, Nat.le_refl _⟩, fun a _ e => Gs_sI h _ _ e⟩ st.2.2.1 st.2.2.2 (Nat.le_refl _) (Nat.le_refl _)
    by_cases cl : (q : Int) < (L : Int)
    · rw [if_pos cl, q_L_law_55 st.2.1.1 st.2.2.1 n7, st.2.1.2, st.2.2.2, gd_t (by omega), gd_t (by decide)]
      exact go _
    · rw [if_neg cl, q_L_law_62 st.2.2.1 n7, st.2.2.2, gd_t (by decide)]
      exact go _
theorem c_law (L : Nat) (xs : Nat → Int32) (hL' : L ≤ 260) : FIN (zC 261 [zR (some zVB)] (zH0 L xs)) := by
  have n0 : hN (zH0 L xs) = 0 := rfl
  rw [q_L_law, n0]
  have Ks := KS_z L xs
  obtain ⟨h1, E1, n1, J1, G1⟩ := c_newB n0 Ks
  rw [E1, zbk0]
  have tz : hT h1 zVB = 22 := (gT G1 (Or.inr (Nat.le_refl _))).trans rfl
  have lz : hL h1 zVB = L := (gL G1 (Or.inr (Nat.le_refl _))).trans rfl
  have Ks1 : KS h1 := KS_w Ks G1 (fun a k z => z.elim)
  have zv := zVB_v
  have gz := Gs_new h1 22 1 (show zVB ≠ hN h1 by omega)
  have t7 : hT (hNew h1 22 1) 177 = 22 := by
    show zu1 (hT h1) (hN h1) 22 177 = 22
    rw [n1]; exact zu1_b _ _ _
  have l7 : hL (hNew h1 22 1) 177 = 1 := by
    show zu1 (hL h1) (hN h1) 1 177 = 1
    rw [n1]; exact zu1_b _ _ _
  have n7 : 177 < hN (hNew h1 22 1) := by show 177 < hN h1 + 1; omega
  have St : ST L (hNew h1 22 1) := ⟨KS_w Ks1 (Gw_new (fun _ _ => False) h1 22 1 (by omega)) (fun a k z => z.elim), ⟨gz.1.trans tz, gz.2.1.trans lz⟩, t7, l7⟩
  have J2 := CJ_0 J1 (Gw_new W0 h1 22 1 (by omega))
  have U : ∀ v : Int, LW L (4, 0, upL (fun _ => 0) mRls, upL (fun _ => 0) mNls, 0, (fun _ _ => 0), none, none, (fun _ => 0), 0, 0, -1) 0 (sI (hNew h1 22 1) 177 0 v) := fun v => by
    have U0 : LW L (4, 0, upL (fun _ => 0) mRls, upL (fun _ => 0) mNls, 0, (fun _ _ => 0), none, none, (fun _ => 0), 0, 0, -1) 0 (hNew h1 22 1) := by
      refine ⟨⟨74, 85, [], J2⟩, ⟨⟨fp_all.2.2.1, fp_all.2.1.1, fp_all.2.1.2, ⟨by decide, fun i hi => absurd hi (Nat.not_lt_zero _)⟩, (fun N e => by cases e), (fun N e => by cases e), by decide⟩, ⟨fp_all.2.2.2, (fun i hi => absurd hi (Nat.not_lt_zero _)), (fun N e => by cases e), (fun N e => by cases e)⟩⟩, rfl, St, ?_⟩
      have g := G1.1.2.2
      have u0 : hU (zH0 L xs) = 0 := rfl
      refine ⟨?_, ?_, ?_⟩
      · show 178 ≤ hN h1 + 1; omega
      · show hN h1 + 1 ≤ _; omega
      · show hU h1 + 1 ≤ _
        omega
    exact lz_R (k := 0) (q := 0) U0 ⟨⟨Nat.le_refl _, Nat.le_refl _, Nat.le_refl _⟩, fun a _ e => Gs_sI _ _ _ e⟩ t7 l7 (Nat.le_refl _) (Nat.le_refl _)
  have fin : ∀ v : Int, FIN (zY 261 34 [some (zR (some zVB)), some (zR (some 0)), some (zR (some 177)), some (zI 1), some (zI 0), none, none, none, none, none, none, none] [] (sI (hNew h1 22 1) 177 0 v)) := fun v => lw_34 2 0 0 rfl (by decide) _ 0 _ (U v) (Nat.le_refl _)
  rw [q_L_law_7, gd_t (al (gz.1.trans tz) (by decide) (by decide)), gz.2.1, lz, n1]
  by_cases c : (L : Int) = 0
  · rw [if_pos c, q_L_law_18 t7 n7, l7, gd_t (by decide)]
    exact fin _
  · rw [if_neg c, q_L_law_24 (gz.1.trans tz) t7 n7, gz.2.1, lz, l7, gd_t (by omega), gd_t (by decide)]
    exact fin _
end LAWS
