/-! What the law's act comes to. -/
section ACTS
variable {L b bd d : Nat} {t : TSt} {h h0 h2 : zH} {n top : Int} {R N : Nat → Int} {c : Nat} {Ol : Nat → Nat → Int} {s0 s1 : Option (Nat → Int)} {I : Nat → Int} {m : Int} {ec ep : Int}
theorem lp_nk (Q : Prg n top R N) {kd l : Int} (hk : kd = 2 ∨ kd = 3) (h0 : 0 ≤ l) (h1 : l < cntK R kd n.toNat) : lpAt n R kd l ≠ -1 := by
  rcases lpAt_c Q hk l with ⟨_, a, _⟩ | ⟨a, _⟩
  · omega
  · exact absurd ⟨h0, h1⟩ a
theorem lp_no (Q : Prg n top R N) {kd l : Int} (hk : kd = 2 ∨ kd = 3) (h1 : ¬ (0 ≤ l ∧ l < cntK R kd n.toNat)) : lpAt n R kd l = -1 := by
  rcases lpAt_c Q hk l with ⟨a, _, _⟩ | ⟨_, a⟩
  · exact absurd a h1
  · exact a
theorem pr_spec {l x : Int} (ne : lpAt n R 3 l ≠ -1) (e : aProves n top R N l = (0, zI x)) : x = -1 ∨ (0 ≤ x ∧ x < 39 ∧ pvF n top R N (lpAt n R 3 l) x) := by
  let i : DecidablePred (pvF n top R N (lpAt n R 3 l)) := fun _ => inferInstanceAs (Decidable (_ = _))
  have e1 : aProves n top R N l = (0, zI (@zfind _ i 0 39)) := by
    unfold aProves
    exact if_neg ne
  have e3 : @zfind _ i 0 39 = x := Sum.inl.inj (Prod.mk.inj (e1.symm.trans e)).2
  rcases @zfind_r _ i 39 0 with q | ⟨q1, q2, q3⟩
  · exact Or.inl (e3.symm.trans q)
  · rw [e3] at q1 q2 q3
    exact Or.inr ⟨q1, by omega, q3⟩
theorem rg_spec {l x : Int} (ne : lpAt n R 3 l ≠ -1) (e : aRights n top R N l = (0, zI x)) : (x = -1 ∨ (0 ≤ x ∧ x < 39 ∧ rgF n top R N (lpAt n R 3 l) x)) ∧ ∀ f, 0 ≤ f → f < 39 → rgF n top R N (lpAt n R 3 l) f → 0 ≤ x ∧ x ≤ f := by
  let i : DecidablePred (rgF n top R N (lpAt n R 3 l)) := fun _ => inferInstanceAs (Decidable (_ = _))
  have e1 : aRights n top R N l = (0, zI (@zfind _ i 0 39)) := by
    unfold aRights
    exact if_neg ne
  have e3 : @zfind _ i 0 39 = x := Sum.inl.inj (Prod.mk.inj (e1.symm.trans e)).2
  refine ⟨?_, fun f f0 f1 hf => ?_⟩
  · rcases @zfind_r _ i 39 0 with q | ⟨q1, q2, q3⟩
    · exact Or.inl (e3.symm.trans q)
    · rw [e3] at q1 q2 q3
      exact Or.inr ⟨q1, by omega, q3⟩
  · have q := @zfind_least _ i 39 0 f f0 (by omega) hf
    rw [e3] at q
    exact q
/-- act answers so; one change was made over N -/
def AO (L : Nat) (n top : Int) (R N : Nat → Int) (s0 s1 : Option (Nat → Int)) (b : Nat) (o : zO) : Prop := ∃ h2 N2 c2 Ol2 I2 m2 ec2 ep2, o = some (.inl (some (zI 1)), h2) ∧ LW L (n, top, R, N2, c2, Ol2, s0, s1, I2, m2, ec2, ep2) b h2 ∧ 0 < c2 ∧ Ol2 0 = N
theorem psc_0 (c : Nat) : 0 < psc c := by unfold psc; split <;> omega
theorem ao_c {N2 : Nat → Int} {o : zO} {I2 : Nat → Int} {m2 ec2 ep2 : Int} (E : o = some (.inl (some (zI 1)), h)) (U : LW L (n, top, R, N2, psc c, psh N Ol, s0, s1, I2, m2, ec2, ep2) b h) {q : Nat} (hq : b ≤ q) : AO L n top R N s0 s1 q o :=
  ⟨h, N2, psc c, psh N Ol, I2, m2, ec2, ep2, E, LW_m U hq, psc_0 c, rfl⟩
theorem prc_0 (Q : Prg n top R N) {s : Int} (e : 0 ≤ s ∧ s < n) : 0 ≤ N (2318 + s).toNat := ((Q.2.1.2.2 s e.1 e.2).2.2.2.2).1
/-- a new builder, one number of the seed: what stands then -/
def BN (bd d k : Nat) (h0 h : zH) (T : List Int) : Prop := BD 780 bd h T d ∧ RF 177 k h0 h ∧ hN h0 ≤ bd ∧ (hT h 177 = 22 ∧ hL h 177 = 1) ∧ KS h
theorem bn_next {k : Nat} {T : List Int} (n7 : 177 < hN h0) (H : BN bd d k h0 h T) : ∃ x h1, zC 207 [zR (some 177)] h = some (.inl (some (zI x)), h1) ∧ (0 ≤ x ∧ x < 8388608) ∧ BN bd d k h0 h1 T := by
  obtain ⟨S, F, hb, ⟨t, l⟩, K⟩ := H
  have z := S.2.2.1
  have f1 := F.1.1
  exact ⟨_, _, c_next t (by omega) (by omega), yV_r _, BD_s S t, ⟨F.1, fun a ha e => Gs_t (F.2 a ha e) (Gs_sI h _ _ e)⟩, hb, ⟨t, l⟩, KS_B S (by omega) K (BF_s (r := 177) S)⟩
/-- a formula is written, and is a text -/
theorem bn_form {x1 : Int} (U : LW L t b h0) (hb : b ≤ 900) (H : BN bd d 9 h0 h []) (hx : x1 = 0 ∨ x1 = 1) : ∃ codes h1 h2 s, zC 216 [zR (some bd), zI x1, zI 2, zR (some 177)] h = some (.inl none, h1) ∧ (hT h1 bd = 12 ∧ bd < hN h1) ∧ zC 204 [zR (some bd)] h1 = some (.inl (some (zR (some s))), h2) ∧ accF codes (if x1 = 0 then 1 else 0) (if x1 = 0 then 0 else 1) ∧ codes.length ≤ 11 ∧ wok codes ∧ TXa h2 s (ctx codes) ∧ LW L t (b + 12) h2 := by
  have hC : 780 ≤ 900 := by decide
  have n7 := lz_n U
  have z0 := lz_z U (by omega)
  obtain ⟨S, F, hbd, ⟨t7, l7⟩, K⟩ := H
  have z := S.2.2.1
  have f1 := F.1.1
  have f2 := F.1.2.1
  obtain ⟨h1, d1, codes, E1, A, l1, w, S1, F1, K1, t1, g1⟩ := c_form hC S K t7 (by omega) l7 (deep := 2) (Nat.le_refl _) hx (by rw [List.length_nil]; split <;> decide) (by omega)
  have bd1 := S.1
  have d1' := S.2.1
  have R1 : RF 177 39 h0 h1 := RF_B F F1 hbd (by omega) (by omega) (by omega)
  have m1 := R1.1.2.1
  have m0 := R1.1.1
  have m2 := R1.1.2.2
  obtain ⟨h2, E2, X, G, n2, u2, V⟩ := x_toStr hC S1 (by omega)
  rw [List.nil_append] at X
  have n71 : 177 < hN h1 := by omega
  have g7 := G 177 (Or.inl n71)
  have R2 : RF 177 41 h0 h2 := ⟨⟨by omega, by omega, by omega⟩, fun a ha e => Gs_t (R1.2 a ha e) (G a (by omega))⟩
  refine ⟨codes, h1, h2, hN h1, E1, ⟨S1.2.2.2.1, BD_nb S1⟩, E2, A, ?_, w, Or.inr ⟨X, by omega, fun v hv => by have := V v hv; omega⟩, lz_R U R2 (g7.1.trans t1) (g7.2.1.trans g1) (by decide) (by decide)⟩
  split at l1 <;> omega
theorem ctx_780 {codes : List Int} (w : wok codes) (l : codes.length ≤ 11) : (ctx codes).length ≤ 780 := by
  have := (ctx_len codes w).2
  omega
theorem tk_f {codes : List Int} (w : wok codes) (l : codes.length ≤ 11) {I2 : Nat → Int} (hI : ∀ i, i < (ctx codes).length → I2 i = tg (ctx codes) i) : TKs I2 ((ctx codes).length : Int) codes (tok I2 ((ctx codes).length : Int) false 0) := tks_ctx (len := ((ctx codes).length : Int)) hI rfl (ctx_780 w l) codes [] false w rfl
/-- most: the greatest LESS, as the law finds it -/
theorem ac_416 {x12 : Int} {N2 : Nat → Int} {c2 : Nat} {Ol2 : Nat → Nat → Int} {I2 : Nat → Int} {m2 ec2 ep2 : Int} (Q : Prg n top R N2) (hz : hN h0 < zVB) (ne : lpAt n R 2 x12 ≠ -1) : ∀ (q k : Nat) (h : zH), k + q = 64 → LJ (n, top, R, N2, c2, Ol2, s0, s1, I2, m2, ec2, ep2) h0 h → RS (n, top, R, N2, c2, Ol2, s0, s1, I2, m2, ec2, ep2) h0 (zI 1) (zY 220 416 [some (zR (some 0)), some (zR (some 177)), some (zI (cntK R 3 n.toNat)), some (zI (cntK R 2 n.toNat)), some (zR (some bd)), none, none, none, none, none, none, none, some (zI x12), some (zI (grA N2 (lpAt n R 2 x12) 64)), some (zI (grA N2 (lpAt n R 2 x12) k)), some (zI (k : Int)), none] [] h)
  | 0, k, h, e, L => by
    have e : k = 64 := e
    subst e
    rw [q_L_act_416, if_neg (by decide), q_L_act_464, if_pos rfl, q_L_act_471]
    exact ⟨h, rfl, L⟩
  | q + 1, k, h, e, L => by
    have k0 : (0 : Int) ≤ (k : Int) := by omega
    have k64 : (k : Int) < 64 := by omega
    rw [q_L_act_416, if_pos k64, q_L_act_423 (lj_T L) (lj_0 L)]
    obtain ⟨h1, E1, L1⟩ := g_keep L Q hz ne
    rw [E1, zbk, q_L_act_430, c_holds k0 k64, zbk, q_L_act_435, bt_setL _ k0 k64]
    by_cases cb : val (lst N2 (26 + lpAt n R 2 x12)) (k : Int) = 1
    · rw [decide_eq_true cb, if_pos rfl, if_neg (by decide), q_L_act_438 (lj_T L1) (lj_0 L1)]
      obtain ⟨h2, E2, L2⟩ := g_less L1 Q hz ne k0 k64
      rw [E2, zbk, q_L_act_448, c_max, zbk, q_L_act_451, gd_t (by omega)]
      have eg : grA N2 (lpAt n R 2 x12) (k + 1) = if grA N2 (lpAt n R 2 x12) k < val (lst N2 (50 + lpAt n R 2 x12)) (k : Int) then val (lst N2 (50 + lpAt n R 2 x12)) (k : Int) else grA N2 (lpAt n R 2 x12) k := by
        rw [grA]
        by_cases g : grA N2 (lpAt n R 2 x12) k < val (lst N2 (50 + lpAt n R 2 x12)) (k : Int)
        · rw [if_pos ⟨cb, g⟩, if_pos g]
        · rw [if_neg fun z => g z.2, if_neg g]
      have r := ac_416 Q hz ne q (k + 1) h2 (by omega) L2
      rw [eg] at r
      exact r
    · rw [decide_eq_false cb, if_pos (by rfl), q_L_act_454, gd_t (by omega)]
      have eg : grA N2 (lpAt n R 2 x12) (k + 1) = grA N2 (lpAt n R 2 x12) k := by rw [grA, if_neg fun z => cb z.1]
      have r := ac_416 Q hz ne q (k + 1) h1 (by omega) L1
      rw [eg] at r
      exact r
theorem rs_ao {N2 : Nat → Int} {o : zO} {I2 : Nat → Int} {m2 ec2 ep2 : Int} (U : LW L (n, top, R, N2, psc c, psh N Ol, s0, s1, I2, m2, ec2, ep2) b h) (H : RS (n, top, R, N2, psc c, psh N Ol, s0, s1, I2, m2, ec2, ep2) h (zI 1) o) {q : Nat} (hq : b ≤ q) : AO L n top R N s0 s1 q o := by
  obtain ⟨h2, E, J⟩ := H
  exact ao_c E (lz_J U J) hq
/-- the cases -/
theorem ac_68 (U : LW L (n, top, R, N, c, Ol, s0, s1, I, m, ec, ep) b h) (hb : b ≤ 800) (hn : 0 < n) : AO L n top R N s0 s1 (b + 20) (zY 220 68 [some (zR (some 0)), some (zR (some 177)), some (zI (cntK R 3 n.toNat)), some (zI (cntK R 2 n.toNat)), some (zR (some bd)), none, none, none, none, none, none, none, none, none, none, none, none] [] h) := by
  obtain ⟨Q, X⟩ := lz_P U
  have hz : ∀ {b h t}, LW L t b h → b ≤ 1000 → hN h < zVB := fun U hb => by have := lz_z U hb; omega
  have cn := cnt_r Q 3
  have J := lz_L U
  rw [q_L_act_68]
  by_cases c0 : cntK R 3 n.toNat = 0
  · rw [if_pos c0, q_L_act_72]
    obtain ⟨h1, E1, U1⟩ := w_fill0 U (by omega) (l := 0) (f := 0) (lp_no Q (Or.inr rfl) (by omega))
    have J1 := lz_L U1
    rw [E1, zbk, q_L_act_78, if_pos rfl, q_L_act_83 (lj_T J1) (lj_0 J1)]
    obtain ⟨h2, E2, U2⟩ := v_price U1 (by omega) (s := 0) (x := 7) ⟨Int.le_refl _, hn⟩ (by decide)
    have p0 := prc_0 Q (s := 0) ⟨Int.le_refl _, hn⟩
    rw [E2, zbk, q_L_act_90, if_neg (by omega), q_L_act_93]
    exact ao_c rfl U2 (by omega)
  · rw [if_neg c0, q_L_act_99]
    obtain ⟨x, h1, E1, xr, U1⟩ := lz_next U
    have xm := tmd (k := cntK R 3 n.toNat) xr.1 (by omega)
    have J1 := lz_L U1
    rw [E1, zbk, q_L_act_103 (lj_T J1) (lj_0 J1), gd_t (by omega)]
    generalize Int.tmod x (cntK R 3 n.toNat) = l at xm ⊢
    have ne := lp_nk Q (kd := 3) (Or.inr rfl) xm.1 xm.2
    obtain ⟨x6, h2, E2, U2, e6⟩ := v_proves U1 (by omega) ne
    have J2 := lz_L U2
    rw [E2, zbk, q_L_act_113 (lj_T J2) (lj_0 J2)]
    obtain ⟨x7, h3, E3, U3, e7⟩ := v_rights U2 (by omega) ne
    rw [E3, zbk, q_L_act_121]
    have p6 := pr_spec ne e6
    obtain ⟨p7, q7⟩ := rg_spec ne e7
    have ls : 0 ≤ lpAt n R 3 l ∧ lpAt n R 3 l < n ∧ sv R (lpAt n R 3 l) 0 = 3 := by
      rcases lpAt_c Q (Or.inr rfl) l with ⟨_, a, a2⟩ | ⟨_, a⟩
      · exact ⟨a.1, a.2, a2⟩
      · exact absurd a ne
    -- behind the filling
    have fin : ∀ (x8 : Int) (h : zH) (b3 : Nat), LW L (n, top, R, N, c, Ol, s0, s1, I, m, ec, ep) b3 h → b3 ≤ b + 3 → 0 ≤ x8 → x8 < 39 → (x6 < 0 ∨ x8 = x6) → (¬ x6 < 0 ∨ x7 < 0 ∨ x8 = x7) → AO L n top R N s0 s1 (b + 20) (zBack zY 220 157 160 [some (zR (some 0)), some (zR (some 177)), some (zI (cntK R 3 n.toNat)), some (zI (cntK R 2 n.toNat)), some (zR (some bd)), some (zI l), some (zI x6), some (zI x7), some (zI x8), none, none, none, none, none, none, none, none] [] (zC 211 [zR (some 0), zI l, zI x8] h)) := fun x8 h b3 U hb3 a0 a1 w6 w7 => by
      obtain ⟨h4, E4, U4⟩ := w_fill U (by omega) ne (f := x8) (by omega) (by omega)
      have Q4 := (lz_P U4).1
      have J4 := lz_L U4
      rw [E4, zbk, q_L_act_160 (lj_T J4) (lj_0 J4)]
      obtain ⟨h5, E5, J5⟩ := g_value5 J4 Q4 (hz U4 (by omega))
      have U5 := lz_J U4 J5
      rw [E5, zbk, q_L_act_169, if_pos rfl, q_L_act_172]
      by_cases c6 : x6 < 0
      · rw [if_pos c6, q_L_act_194, if_pos c6, q_L_act_199]
        by_cases c7 : x7 < 0
        · rw [if_pos c7, q_L_act_213]
          exact ao_c rfl U5 (by omega)
        · have J5' := lz_L U5
          rw [if_neg c7, q_L_act_204 (lj_T J5') (lj_0 J5')]
          obtain ⟨h6, E6, J6⟩ := g_wrong J5' Q4 (hz U5 (by omega))
          have U6 := lz_J U5 J6
          have e8 : x8 = x7 := by omega
          have g7 : rgF n top R N (lpAt n R 3 l) x7 := by
            rcases p7 with q | q
            · omega
            · exact q.2.2
          rw [E6, zbk, q_L_act_208, if_pos (zl_p (by rw [e8]; exact g7)), q_L_act_213]
          exact ao_c rfl U6 (by omega)
      · have e8 : x8 = x6 := by omega
        have g6 : pvF n top R N (lpAt n R 3 l) x6 := by
          rcases p6 with q | q
          · omega
          · exact q.2.2
        have r6 : rgF n top R N (lpAt n R 3 l) x6 := sound (Prg_fill Q ls.1 ls.2.1 ls.2.2 (by omega) (by omega)) g6
        have q := q7 x6 (by omega) (by omega) r6
        rw [if_neg c6, q_L_act_177, if_pos (by rw [e8]; exact g6), q_L_act_182, if_neg (by omega), q_L_act_187, if_neg (by omega), q_L_act_194, if_neg c6, q_L_act_213]
        exact ao_c rfl U5 (by omega)
    by_cases c6 : x6 < 0
    · rw [if_pos c6, q_L_act_133]
      by_cases c7 : x7 < 0
      · rw [if_pos c7, q_L_act_143]
        obtain ⟨y, h4, E4, yr, U4⟩ := lz_next U3
        have ym := tmd (k := 39) yr.1 (by decide)
        rw [E4, zbk, q_L_act_147, gd_t (by omega)]
        exact fin _ h4 _ U4 (by omega) ym.1 ym.2 (Or.inl c6) (Or.inr (Or.inl c7))
      · rw [if_neg c7, q_L_act_138]
        exact fin x7 h3 _ U3 (by omega) (by omega) (by omega) (Or.inl c6) (Or.inr (Or.inr rfl))
    · rw [if_neg c6, q_L_act_128]
      exact fin x6 h3 _ U3 (by omega) (by omega) (by omega) (Or.inr rfl) (Or.inl c6)
theorem ac_219 (U : LW L (n, top, R, N, c, Ol, s0, s1, I, m, ec, ep) b h0) (hb : b ≤ 800) (H : BN bd d 9 h0 h []) : AO L n top R N s0 s1 (b + 20) (zY 220 219 [some (zR (some 0)), some (zR (some 177)), some (zI (cntK R 3 n.toNat)), some (zI (cntK R 2 n.toNat)), some (zR (some bd)), none, none, none, none, none, none, none, none, none, none, none, none] [] h) := by
  obtain ⟨codes, h1, h2, s, E1, nb, E2, A, l, w, X, U2⟩ := bn_form U (by omega) H (x1 := 1) (Or.inr rfl)
  rw [q_L_act_219, E1, zbk0, q_L_act_227 nb.1 nb.2, E2, zbk, q_L_act_233]
  obtain ⟨h3, I2, N2, E3, U3⟩ := w_before U2 (by omega) X (asc_ctx codes w) (ctx_780 w l) (fun I2 hI => al_run A (by omega) (tk_f w l hI))
  obtain ⟨Q3, _⟩ := lz_P U3
  have hz := lz_z U3 (by omega)
  have J3 := lz_L U3
  rw [E3, zbk, q_L_act_236 (lj_T J3) (lj_0 J3)]
  obtain ⟨h4, E4, J4⟩ := g_before J3 Q3 (by omega)
  rw [E4, zbk, q_L_act_244, cnt_all, zbk, q_L_act_247, if_pos rfl, q_L_act_250 (lj_T J4) (lj_0 J4)]
  obtain ⟨h5, E5, J5⟩ := lj_c (q := 147) (as := []) (tb := t3 0 0 0) (x := zI 0) (by omega) J4 fun p v O J _ => ⟨_, O, k_errorCode J, rfl⟩
  rw [E5, zbk, q_L_act_254, if_pos rfl, q_L_act_257]
  exact ao_c rfl (lz_J U3 J5) (by omega)
theorem ac_263 (U : LW L (n, top, R, N, c, Ol, s0, s1, I, m, ec, ep) b h0) (hb : b ≤ 800) (H : BN bd d 9 h0 h []) : AO L n top R N s0 s1 (b + 20) (zY 220 263 [some (zR (some 0)), some (zR (some 177)), some (zI (cntK R 3 n.toNat)), some (zI (cntK R 2 n.toNat)), some (zR (some bd)), none, none, none, none, none, none, none, none, none, none, none, none] [] h) := by
  obtain ⟨codes, h1, h2, s, E1, nb, E2, A, l, w, X, U2⟩ := bn_form U (by omega) H (x1 := 1) (Or.inr rfl)
  rw [q_L_act_263, E1, zbk0, q_L_act_271 nb.1 nb.2, E2, zbk, q_L_act_277]
  obtain ⟨h3, I2, N2, E3, U3⟩ := w_after U2 (by omega) X (asc_ctx codes w) (ctx_780 w l) (fun I2 hI => al_run A (by omega) (tk_f w l hI))
  obtain ⟨Q3, _⟩ := lz_P U3
  have hz := lz_z U3 (by omega)
  have J3 := lz_L U3
  rw [E3, zbk, q_L_act_280 (lj_T J3) (lj_0 J3)]
  obtain ⟨h4, E4, J4⟩ := g_after J3 Q3 (by omega)
  rw [E4, zbk, q_L_act_284, cnt_all, zbk, q_L_act_287, if_pos rfl, q_L_act_290]
  exact ao_c rfl (lz_J U3 J4) (by omega)
/-- a price, where there is no loop -/
theorem ac_pr (U : LW L (n, top, R, N, c, Ol, s0, s1, I, m, ec, ep) b h) (hb : b ≤ 900) (hn : 0 < n) {x : Int} (ex : 0 ≤ x ∧ x ≤ 99) : ∃ h2, zC 198 [zR (some 0), zI 0, zI x] h = some (.inl (some (zI (N (2318 + 0 : Int).toNat))), h2) ∧ LW L (chT (upN N (2318 + 0 : Int).toNat x) (n, top, R, N, c, Ol, s0, s1, I, m, ec, ep)) (b + 1) h2 ∧ ¬ N (2318 + 0 : Int).toNat < 0 := by
  obtain ⟨h2, E2, U2⟩ := v_price U (by omega) (s := 0) (x := x) ⟨Int.le_refl _, hn⟩ ex
  have p0 := prc_0 (lz_P U).1 (s := 0) ⟨Int.le_refl _, hn⟩
  exact ⟨h2, E2, U2, by omega⟩
theorem bn_U (U : LW L t b h0) (H : BN bd d 9 h0 h []) : LW L t (b + 3) h := lz_R U H.2.1 H.2.2.2.1.1 H.2.2.2.1.2 (by decide) (by decide)
theorem ac_296 (U : LW L (n, top, R, N, c, Ol, s0, s1, I, m, ec, ep) b h0) (hb : b ≤ 800) (hn : 0 < n) (H : BN bd d 9 h0 h []) : AO L n top R N s0 s1 (b + 20) (zY 220 296 [some (zR (some 0)), some (zR (some 177)), some (zI (cntK R 3 n.toNat)), some (zI (cntK R 2 n.toNat)), some (zR (some bd)), none, none, none, none, none, none, none, none, none, none, none, none] [] h) := by
  have cn := cnt_r (lz_P U).1 2
  rw [q_L_act_296]
  by_cases c0 : cntK R 2 n.toNat = 0
  · have U1 := bn_U U H
    have J1 := lz_L U1
    rw [if_pos c0, q_L_act_300 (lj_T J1) (lj_0 J1)]
    obtain ⟨h2, E2, U2, p⟩ := ac_pr U1 (by omega) hn (x := 12) (by decide)
    rw [E2, zbk, q_L_act_307, if_neg p, q_L_act_310]
    exact ao_c rfl U2 (by omega)
  · rw [if_neg c0, q_L_act_316]
    obtain ⟨x, h0', E0, xr, H0⟩ := bn_next (lz_n U) H
    have xm := tmd (k := cntK R 2 n.toNat) xr.1 (by omega)
    rw [E0, zbk, q_L_act_320, gd_t (by omega)]
    generalize Int.tmod x (cntK R 2 n.toNat) = l at xm ⊢
    have ne := lp_nk (lz_P U).1 (kd := 2) (Or.inl rfl) xm.1 xm.2
    obtain ⟨codes, h1, h2, s, E1, nb, E2, A, lc, w, X, U2⟩ := bn_form U (by omega) H0 (x1 := 1) (Or.inr rfl)
    rw [E1, zbk0, q_L_act_332 nb.1 nb.2, E2, zbk, q_L_act_340]
    obtain ⟨h3, I2, N2, E3, U3⟩ := w_keep U2 (by omega) ne X (asc_ctx codes w) (ctx_780 w lc) (fun I2 hI => al_run A (by omega) (tk_f w lc hI))
    obtain ⟨Q3, _⟩ := lz_P U3
    have hz := lz_z U3 (by omega)
    have J3 := lz_L U3
    rw [E3, zbk, q_L_act_343 (lj_T J3) (lj_0 J3)]
    obtain ⟨h4, E4, J4⟩ := g_keep J3 Q3 (by omega) ne
    rw [E4, zbk, q_L_act_350, cnt_all, zbk, q_L_act_353, if_pos rfl, q_L_act_356]
    exact ao_c rfl (lz_J U3 J4) (by omega)
theorem ac_362 (U : LW L (n, top, R, N, c, Ol, s0, s1, I, m, ec, ep) b h0) (hb : b ≤ 800) (hn : 0 < n) (H : BN bd d 9 h0 h []) : AO L n top R N s0 s1 (b + 20) (zY 220 362 [some (zR (some 0)), some (zR (some 177)), some (zI (cntK R 3 n.toNat)), some (zI (cntK R 2 n.toNat)), some (zR (some bd)), none, none, none, none, none, none, none, none, none, none, none, none] [] h) := by
  have cn := cnt_r (lz_P U).1 2
  rw [q_L_act_362]
  by_cases c0 : cntK R 2 n.toNat = 0
  · have U1 := bn_U U H
    have J1 := lz_L U1
    rw [if_pos c0, q_L_act_366 (lj_T J1) (lj_0 J1)]
    obtain ⟨h2, E2, U2, p⟩ := ac_pr U1 (by omega) hn (x := 3) (by decide)
    rw [E2, zbk, q_L_act_372, if_neg p, q_L_act_375]
    exact ao_c rfl U2 (by omega)
  · rw [if_neg c0, q_L_act_381]
    obtain ⟨x, h0', E0, xr, H0⟩ := bn_next (lz_n U) H
    have xm := tmd (k := cntK R 2 n.toNat) xr.1 (by omega)
    rw [E0, zbk, q_L_act_385, gd_t (by omega)]
    generalize Int.tmod x (cntK R 2 n.toNat) = l at xm ⊢
    have ne := lp_nk (lz_P U).1 (kd := 2) (Or.inl rfl) xm.1 xm.2
    obtain ⟨codes, h1, h2, s, E1, nb, E2, A, lc, w, X, U2⟩ := bn_form U (by omega) H0 (x1 := 0) (Or.inl rfl)
    rw [E1, zbk0, q_L_act_397 nb.1 nb.2, E2, zbk, q_L_act_405]
    obtain ⟨h3, I2, N2, E3, U3⟩ := w_less U2 (by omega) ne X (asc_ctx codes w) (ctx_780 w lc) (fun I2 hI => al_run A (by omega) (tk_f w lc hI))
    obtain ⟨Q3, _⟩ := lz_P U3
    have hz := lz_z U3 (by omega)
    rw [E3, zbk, q_L_act_408]
    exact rs_ao U3 (ac_416 (bd := bd) Q3 (by omega) ne 64 0 h3 rfl (lz_L U3)) (by omega)
theorem ac_477 (U : LW L (n, top, R, N, c, Ol, s0, s1, I, m, ec, ep) b h) (hb : b ≤ 800) (hn : 0 < n) : AO L n top R N s0 s1 (b + 20) (zY 220 477 [some (zR (some 0)), some (zR (some 177)), some (zI (cntK R 3 n.toNat)), some (zI (cntK R 2 n.toNat)), some (zR (some bd)), none, none, none, none, none, none, none, none, none, none, none, none] [] h) := by
  obtain ⟨Q, X⟩ := lz_P U
  have w0 := Q.1.1
  rw [q_L_act_477]
  obtain ⟨x, h1, E1, xr, U1⟩ := lz_next U
  have xm := tmd (k := n) xr.1 hn
  have J1 := lz_L U1
  have hz := lz_z U1 (by omega)
  rw [E1, zbk, q_L_act_481 (lj_T J1) (lj_0 J1)]
  obtain ⟨h2, E2, J2⟩ := g_value0 J1 Q (by omega)
  rw [E2, zbk, q_L_act_486 (lj_T J2) (lj_0 J2), gd_t (by omega)]
  generalize Int.tmod x n = s at xm ⊢
  obtain ⟨h3, E3, J3⟩ := g_st5 J2 Q (by omega) X (s := s) xm.1 xm.2
  have U3 := lz_J U1 J3
  rw [E3, zbk, q_L_act_496]
  obtain ⟨y, h4, E4, yr, U4⟩ := lz_next U3
  have ym := tmd (k := 100) yr.1 (by decide)
  rw [E4, zbk, q_L_act_505, gd_t (by omega)]
  obtain ⟨h5, E5, U5⟩ := w_price U4 (by omega) (s := s) (x := Int.tmod y 100) xm ⟨ym.1, by omega⟩
  rw [E5, zbk, q_L_act_511, if_pos rfl, q_L_act_516]
  exact ao_c rfl U5 (by omega)
theorem c_act (U : LW L (n, top, R, N, c, Ol, s0, s1, I, m, ec, ep) b h) (hb : b ≤ 700) (hn : 0 < n) : AO L n top R N s0 s1 (b + 30) (zC 220 [zR (some 0), zR (some 177)] h) := by
  obtain ⟨Q, X⟩ := lz_P U
  have hz := lz_z U (by omega)
  have J := lz_L U
  rw [q_L_act (lj_T J) (lj_0 J)]
  obtain ⟨h1, E1, J1⟩ := g_value2 J Q (by omega)
  rw [E1, zbk, q_L_act_5 (lj_T J1) (lj_0 J1)]
  obtain ⟨h2, E2, J2⟩ := g_value1 J1 Q (by omega)
  have U2 := lz_J U J2
  have hz2 := lz_z U2 (by omega)
  rw [E2, zbk, q_L_act_11]
  have n72 := lz_n U2
  have s2 := U2.2.2.2.1
  obtain ⟨h3, E3, S3⟩ := c_init (C := 780) (h0 := h2) (by omega)
  obtain ⟨fr, r0, r1, r2⟩ := SB_room S3 (by decide)
  obtain ⟨d, B3⟩ := BD_of S3
  have g7 := fr 177 (Or.inl n72)
  have H3 : BN (hN h2) d 9 h2 h3 [] := ⟨B3, ⟨⟨r0, r1, by omega⟩, fun a ha _ => fr a ha⟩, Nat.le_refl _, ⟨g7.1.trans s2.2.2.1, g7.2.1.trans s2.2.2.2⟩, KS_F s2.1 fr⟩
  rw [E3, zbk0, q_L_act_19]
  obtain ⟨x, h4, E4, xr, H4⟩ := bn_next n72 H3
  have xm := tmd (k := 7) xr.1 (by decide)
  have U4 := bn_U U2 H4
  rw [E4, zbk, q_L_act_25, gd_t (by omega)]
  generalize Int.tmod x 7 = y at xm ⊢
  have up : ∀ {o : zO}, AO L n top R N s0 s1 (b + 20) o → AO L n top R N s0 s1 (b + 30) o := fun ⟨h2, N2, c2, Ol2, I2, m2, ec2, ep2, E, U, r⟩ => ⟨h2, N2, c2, Ol2, I2, m2, ec2, ep2, E, LW_m U (by omega), r⟩
  have up3 : ∀ {o : zO}, AO L n top R N s0 s1 (b + 3 + 20) o → AO L n top R N s0 s1 (b + 30) o := fun ⟨h2, N2, c2, Ol2, I2, m2, ec2, ep2, E, U, r⟩ => ⟨h2, N2, c2, Ol2, I2, m2, ec2, ep2, E, LW_m U (by omega), r⟩
  by_cases y0 : y = 0
  · rw [if_pos y0]; exact up3 (ac_68 U4 (by omega) hn)
  rw [if_neg y0]
  by_cases y1 : y = 1
  · rw [if_pos y1]; exact up3 (ac_68 U4 (by omega) hn)
  rw [if_neg y1]
  by_cases y2 : y = 2
  · rw [if_pos y2]; exact up (ac_219 U2 (by omega) H4)
  rw [if_neg y2]
  by_cases y3 : y = 3
  · rw [if_pos y3]; exact up (ac_263 U2 (by omega) H4)
  rw [if_neg y3]
  by_cases y4 : y = 4
  · rw [if_pos y4]; exact up (ac_296 U2 (by omega) hn H4)
  rw [if_neg y4]
  by_cases y5 : y = 5
  · rw [if_pos y5]; exact up (ac_362 U2 (by omega) hn H4)
  rw [if_neg y5]
  exact up3 (ac_477 U4 (by omega) hn)
end ACTS
