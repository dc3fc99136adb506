/-! The class: the reading of statements, each kind. -/
section CSTM2
variable {I : Nat → Int} {len : Int} {h h2 : zH} {p v lo : Nat}
/-- the same, the open row too -/
def WPX (p v : Nat) : Nat → Nat → Prop := fun a k => WA scrPx a k ∨ Wp p a k ∨ Wv v a k
theorem WPP_X {a k : Nat} (w : WPP p v a k) : WPX p v a k := w.elim (fun z => Or.inl (WA_m rfl z)) Or.inr
theorem WPP_56 (o : okpv p v lo) {k : Nat} (hk : k = 6 ∨ k = 7) : ¬ WPP p v 5 k := fun z => by
  unfold okpv at o
  rcases z with z | z | z
  · simp only [WA, inA, List.any_cons, List.any_nil, inB, Bool.or_eq_true, Bool.and_eq_true, Nat.beq_eq, Bool.or_false, and_true] at z
    omega
  · unfold Wp at z; omega
  · unfold Wv at z; omega
theorem Wr_P {a k : Nat} (w : Wr p a k) : Wp p a k := by unfold Wr at w; unfold Wp; omega
theorem mkd_n {n kd row sec last : Int} {R R2 : Nat → Int} (n0 : 0 ≤ n) (hs : sec = 0 ∨ sec = 1) (e : newR kd (-1) n row sec last R R2) : mkd R2 (n + 1) = mkd R n + (if kd = 2 then 6 else if kd = 0 ∨ kd = 1 then 2 else 0) := by
  have kn : sv R2 n 0 = kd := by rw [e.2 0 (by decide) (by decide), if_pos rfl]
  have c2 : ∀ k, cntK R2 k n.toNat = cntK R k n.toNat := fun k => cntK_congr (fun s a b => new_o e hs a (by omega) (by decide) (by decide) (by decide) (by omega))
  unfold mkd
  rw [show (n + 1).toNat = n.toNat + 1 by omega, cntK_s, cntK_s, cntK_s, c2, c2, c2, show ((n.toNat : Nat) : Int) = n by omega, kn]
  by_cases a : kd = 2
  · rw [if_pos a, if_pos a, if_neg (by omega), if_neg (by omega)]; omega
  · by_cases b : kd = 0
    · rw [if_neg a, if_pos b, if_neg (by omega), if_neg a, if_pos (Or.inl b)]; omega
    · by_cases c : kd = 1
      · rw [if_neg b, if_pos c, if_neg a, if_neg a, if_pos (Or.inr c)]; omega
      · rw [if_neg b, if_neg c, if_neg a, if_neg a, if_neg (by omega)]; omega
theorem cntR_var {R : Nat → Int} {n x : Int} (n0 : 0 ≤ n) (m : Int) : mkd (upN R (10 * n + 1).toNat x) m = mkd R m := by
  have c : ∀ k, cntK (upN R (10 * n + 1).toNat x) k m.toNat = cntK R k m.toNat := fun k => cntK_congr (fun s a b => by rw [sv_up a (by decide) n0 (by decide), if_neg (by omega)])
  unfold mkd
  rw [c, c, c]
/-- a new statement and the next token -/
theorem c_addAdv {kd : Int} {s : PSt} (S : CPS h I len p v lo s) (V : INV len s) (hf : s.2.1.1 = 0) (ht : 0 ≤ s.1.1) (h24 : s.2.2.1.1 ≠ 24) (o : okpv p v lo) (hz : lo + 160 ≤ zVB) (hk : 0 ≤ kd ∧ kd ≤ 3) : ∃ g0 g, zC 38 [zR (some p), zI kd, zI s.2.2.2.1, zI s.2.2.2.2.1] h = some (.inl (some (zI s.2.2.1.1)), g0) ∧ KC g0 ∧ zC 91 [zR (some 7)] g0 = some (.inl none, g) ∧ CPe g I len (advP I len (comP kd s)) ∧ CWk g p v lo ∧ MID g p v lo s.2.2.1.1 0 (advP I len (comP kd s)).2.2.1.2.2.1 (advP I len (comP kd s)).2.2.1.2.2.2 ∧ hI g 5 6 = s.2.2.2.1 ∧ hI g 5 7 = s.2.2.2.2.1 ∧ hN g = hN h ∧ Gw (WPP p v) 0 0 h g := by
  obtain ⟨P, C, nb, M⟩ := S
  have e12 := comP_1 kd s
  obtain ⟨c1, c2, c3, c4, c5⟩ := M hf
  obtain ⟨t, ⟨f, fa⟩, ⟨n, top, R, N⟩, row, sec, last⟩ := s
  obtain ⟨V1, V2, T⟩ := V
  have hf : f = 0 := hf
  have h24 : n ≠ 24 := h24
  have c1 : CRo h p v n R := c1
  have c2 : QF h p v lo n n R N := c2
  have w0 := V1.1.1
  have z9 : zVB = 10000000 := rfl
  have lh := C.2.2.2.2
  have hp := C.1.2.1
  have hv := C.2.1.2.1
  have o' := id o
  unfold okpv at o'
  have hrl := V1
  obtain ⟨_, _, _, hrow, hsec, hlast, _⟩ := hrl
  have hs : sec = 0 ∨ sec = 1 := by omega
  have E := comR_new (kd := kd) (R := R) (n := n) (row := row) (sec := sec) (last := last) w0.1 (by omega) (by omega) hs
  obtain ⟨g0, eg0, CR, G0⟩ := c_addC c1 V1 (by omega) E o'.1
  have kc : ∀ a k, a < 163 → kcB a k = true → ¬ Wr p a k := fun a k ha hk z => kc_o o (a := a) (Or.inl (by unfold Wr at z; omega)) ha hk
  have P0 : CPe g0 I len (comP kd (t, (f, fa), (n, top, R, N), row, sec, last)) := CPe_eq (CPe_g P G0 (fun a k z => by unfold Wr at z; omega) kc (fun k => by unfold Wr; omega) (by unfold Wr; omega)) rfl rfl
  have C0 : CWk g0 p v lo := CWk_g C G0 (fun k _ z => by unfold Wr at z; omega) (fun k _ z => by unfold Wr at z; omega) (fun k _ z => by unfold Wr at z; omega) o'.2.2.1
  have Q0 : QF g0 p v lo n n (comR kd n row sec last R) (comN n N) := QF_N (QF_g c2 C.1 C.2.1 G0 (WR_lo o) (fun j z => by unfold Wr at z; omega) (fun i j _ z => by unfold Wr at z; omega)) w0.1 (by omega) (fun s a b => ⟨new_o E hs a b (by decide) (by decide) (by decide) (by omega), new_o E hs a b (by decide) (by decide) (by decide) (by omega)⟩) (fun i hi => by have := hi n (Int.le_refl _) (by omega); exact comN_o this.2.2.2.1 this.2.2.2.2)
  have M0 : MID g0 p v lo n 0 (comR kd n row sec last R) (comN n N) := ⟨CR, by rw [if_pos rfl]; exact Q0, fun z => absurd z (by decide), fun z => absurd z (by decide), fun z => absurd z (by decide), comN_f w0.1⟩
  have n0 : hN g0 = hN h := by have := G0.1; omega
  obtain ⟨g, eg, P1, F1⟩ := c_advE P0 hf ht
  have G1 : Gw (WA scrPf) 0 0 g0 g := Gw_of (Fr_m F1 (B := scrPf) rfl) (fun _ _ z => z)
  refine ⟨g0, g, eg0, P0.1, eg, P1, CWk_A C0 G1 rfl o, MID_A M0 C0 G1 rfl o, ?_, ?_, F1.1.trans n0, Gw_m (Gw_t (Gw_m G0 (fun a k _ z => (Or.inr (Or.inl (Wr_P z)) : WPP p v a k)) (Nat.le_refl _) (Nat.le_refl _)) G1 (fun a k _ z => Or.inl z)) (fun _ _ _ z => z) (by omega) (by omega)⟩
  · rw [fI F1 5 6 rfl, gI G0 (by omega) (by unfold Wr; omega)]; exact c3
  · rw [fI F1 5 7 rfl, gI G0 (by omega) (by unfold Wr; omega)]; exact c4
/-- all of a statement's formulas stand -/
theorem MID_done {n : Int} {st : Nat} {R N : Nat → Int} (M : MID h p v lo n st R N) (n0 : 0 ≤ n) (n1 : n < 24) (hk : (st = 1 ∧ (sv R n 0 = 0 ∨ sv R n 0 = 1)) ∨ (st = 3 ∧ sv R n 0 = 2) ∨ (st = 0 ∧ sv R n 0 = 3)) (K : KC h) : CRo h p v (n + 1) R ∧ QF h p v lo (n + 1) (n + 1) R N := by
  obtain ⟨a, b, c, x, y, w⟩ := M
  refine ⟨a, ?_⟩
  rcases hk with ⟨q, k⟩ | ⟨q, k⟩ | ⟨q, k⟩
  · subst q
    exact QF_next b (by unfold prtL; rw [if_neg (by omega)]; exact c (by decide)) (fun z => by omega) w (by rw [if_neg (by decide)]; omega)
  · subst q
    exact QF_next b (by unfold prtL; rw [if_neg (by omega)]; exact c (by decide)) (fun z => ⟨x (by decide), y (by decide)⟩) w (by rw [if_neg (by decide)]; omega)
  · subst q
    rw [if_pos rfl] at b
    refine QF_next b ?_ (fun z => by omega) w (by omega)
    unfold prtL
    rw [if_pos k]
    exact ⟨3, b.2.2.1 n (Int.le_refl _) n1, ⟨(FO_none K).1, (FO_none K).2.2.2⟩, Or.inl rfl, by decide⟩
/-- a formula is read and put as a statement's part -/
theorem c_partC {what n : Int} {R : Nat → Int} {s : PSt} {a b c c2 : Nat} {L : zL} (hb : (a = 64 ∧ b = 67 ∧ c = 67 ∧ c2 = 70) ∨ (a = 78 ∧ b = 81 ∧ c = 81 ∧ c2 = 84)) {x1 : Int} (hL : L = [some (zR (some 5)), some (zI x1), some (zI n)]) (P : CPe h I len s) (C : CWk h p v lo) (o : okpv p v lo) (hz : hN h + 2 ≤ zVB) (hw : what = 0 ∨ what = 1) (T : TV len s.1) (n0 : 0 ≤ n ∧ n < 24) (M : s.2.1.1 = 0 → MID h p v lo n 0 R s.2.2.1.2.2.2) : ∃ h2, zBack zY 31 a b L [zI n, zR (some p)] (zC 28 [zR (some 5), zI what] h) = zBack zY 31 c c2 L [] (some (.inl none, h2)) ∧ CPe h2 I len (forF I len (2 + n) what s) ∧ CWk h2 p v lo ∧ ((forF I len (2 + n) what s).2.1.1 = 0 → MID h2 p v lo n 1 R (forF I len (2 + n) what s).2.2.1.2.2.2) ∧ hN h2 = hN h + 2 ∧ Gw (WPP p v) 2 0 h h2 := by
  obtain ⟨g, f, eg, Pg, Cg, Fg, lf, fl, Mg, ng, Gg⟩ := c_midForm P C o hz hw T (Or.inl ⟨rfl, rfl⟩) n0 M
  obtain ⟨h2, e2, P2, C2, M2, n2, G2⟩ := c_putPart Pg Cg o Fg lf n0.1 (by omega) Mg
  refine ⟨h2, ?_, P2, C2, M2, n2.trans ng, Gw_m (Gw_t (Gw_m Gg (fun a k _ z => (Or.inl z : WPP p v a k)) (Nat.le_refl _) (Nat.le_refl _)) G2 (fun _ _ _ z => z)) (fun _ _ _ z => z) (by omega) (by omega)⟩
  rw [eg, ← e2, hL]
  rcases hb with ⟨q1, q2, q3, q4⟩ | ⟨q1, q2, q3, q4⟩
  · subst q1 q2 q3 q4
    exact q_Pa_parseStatement_r67 Pg.1 Cg.1 Fg
  · subst q1 q2 q3 q4
    exact q_Pa_parseStatement_r81 Pg.1 Cg.1 Fg
/-- a set's variable -/
def vrs (I : Nat → Int) (len n : Int) (s : PSt) : PSt := if 4 ≤ s.1.1 ∧ s.1.1 ≤ 6 then advP I len (varP n (s.1.1 - 4) s) else errP 1 s
theorem setP_e {s : PSt} (hf : s.2.1.1 = 0) : setP I len s = forF I len (2 + s.2.2.1.1) 0 (vrs I len s.2.2.1.1 (advP I len (comP 0 s))) := by
  unfold setP vrs forF
  have e1 : (advP I len (comP 0 s)).2.1 = s.2.1 := (advP_f _).trans (comP_1 0 s).2
  by_cases c : 4 ≤ (advP I len (comP 0 s)).1.1 ∧ (advP I len (comP 0 s)).1.1 ≤ 6
  · have e2 : (advP I len (varP s.2.2.1.1 ((advP I len (comP 0 s)).1.1 - 4) (advP I len (comP 0 s)))).2.1.1 = 0 := by
      rw [advP_f]
      have : (varP s.2.2.1.1 ((advP I len (comP 0 s)).1.1 - 4) (advP I len (comP 0 s))).2.1 = (advP I len (comP 0 s)).2.1 := by
        obtain ⟨t, fl, ⟨n, top, R, N⟩, w⟩ := advP I len (comP 0 s)
        rfl
      rw [this, e1]; exact hf
    rw [if_pos c, if_pos c, if_pos e2]
  · rw [if_neg c, if_neg c, if_neg (errP_f (by decide) _)]
theorem iffP_e {s : PSt} (hf : s.2.1.1 = 0) : iffP I len s = opnP s.2.2.1.1 (forF I len (2 + s.2.2.1.1) 1 (advP I len (comP 1 s))) := by
  unfold iffP forF
  rw [if_pos (by rw [advP_f, (comP_1 1 s).2]; exact hf)]
theorem whlP_e {s : PSt} (hf : s.2.1.1 = 0) : whlP I len s = opnP s.2.2.1.1 (forF I len (50 + s.2.2.1.1) 0 (takP I len 24 (forF I len (26 + s.2.2.1.1) 1 (takP I len 23 (forF I len (2 + s.2.2.1.1) 1 (advP I len (comP 2 s))))))) := by
  unfold whlP
  have : forF I len (2 + s.2.2.1.1) 1 (advP I len (comP 2 s)) = forP I len (2 + s.2.2.1.1) 1 (advP I len (comP 2 s)) := by
    unfold forF
    rw [if_pos (by rw [advP_f, (comP_1 2 s).2]; exact hf)]
  rw [this]
theorem CRo_var {n x : Int} {R : Nat → Int} {G0 : zH} (C : CRo h p v (n + 1) R) (n0 : 0 ≤ n) (k0 : sv R n 0 = 0) (hv : p + 10 < v) : CRo (sI h (p + 2) n.toNat x) p v (n + 1) (upN R (10 * n + 1).toNat x) := by
  obtain ⟨P, V, c, y, z, u⟩ := C
  have G : Gw (fun b i => b = p + 2 ∧ i = n.toNat) 0 0 h (sI h (p + 2) n.toNat x) := Gw_sI (Gw_r _ _) _ (fun _ => ⟨rfl, rfl⟩)
  have cc : ∀ k, cntK (upN R (10 * n + 1).toNat x) k (n + 1).toNat = cntK R k (n + 1).toNat := fun k => cntK_congr (fun s a b => by rw [sv_up a (by decide) n0 (by decide), if_neg (by omega)])
  have rn : ∀ j, j ≠ 2 → hI (sI h (p + 2) n.toNat x) (p + j) = hI h (p + j) := fun j hj => hI_ne _ _ (by omega)
  have o : ∀ s k, 0 ≤ s → 0 ≤ k → k < 10 → k ≠ 1 → sv (upN R (10 * n + 1).toNat x) s k = sv R s k := fun s k a b d e => by rw [sv_up a ⟨b, d⟩ n0 (by decide), if_neg (by omega)]
  refine ⟨PS_g P G (fun k _ z => by omega), VS_g V G (fun k _ z => by omega), c, ⟨?_, ?_, ?_⟩, fun s s0 s1 => ?_, fun i hi => ?_⟩
  · exact (congrFun (rn 0 (by decide)) 0).trans y.1
  · rw [cc]; exact (congrFun (rn 0 (by decide)) 1).trans y.2.1
  · rw [cc]; exact (congrFun (rn 0 (by decide)) 2).trans y.2.2
  · obtain ⟨⟨a1, a2, a3, a4, a5, a6, a7⟩, a8, a9⟩ := z s s0 s1
    rw [rn 1 (by decide), rn 3 (by decide), rn 4 (by decide), rn 5 (by decide), rn 6 (by decide), rn 7 (by decide), rn 9 (by decide), hI_up, o s 0 s0 (by decide) (by decide) (by decide), o s 3 s0 (by decide) (by decide) (by decide), o s 7 s0 (by decide) (by decide) (by decide), o s 4 s0 (by decide) (by decide) (by decide), o s 5 s0 (by decide) (by decide) (by decide), o s 6 s0 (by decide) (by decide) (by decide), sv_up s0 (by decide) n0 (by decide)]
    by_cases q : s = n
    · subst q
      rw [upN_s, if_pos ⟨rfl, rfl⟩]
      exact ⟨⟨a1, rfl, a3, a4, a5, a6, a7⟩, fun z => by omega, a9⟩
    · rw [upN_n _ _ (by omega), if_neg (by omega)]
      exact ⟨⟨a1, a2, a3, a4, a5, a6, a7⟩, a8, a9⟩
  · rw [hI_ne _ _ (by omega), hI_ne _ _ (by omega)]
    exact u i hi
theorem c_varC {n : Int} {s : PSt} (P : CPe h I len s) (hf : s.2.1.1 = 0) (C : CWk h p v lo) (o : okpv p v lo) (hz : hN h ≤ zVB) (n0 : 0 ≤ n ∧ n < 24) (k0 : sv s.2.2.1.2.2.1 n 0 = 0) (M : MID h p v lo n 0 s.2.2.1.2.2.1 s.2.2.1.2.2.2) : ∃ h2, zC 32 [zR (some 5), zI n] h = some (.inl none, h2) ∧ CPe h2 I len (vrs I len n s) ∧ CWk h2 p v lo ∧ ((vrs I len n s).2.1.1 = 0 → MID h2 p v lo n 0 (vrs I len n s).2.2.1.2.2.1 (vrs I len n s).2.2.1.2.2.2) ∧ hN h2 = hN h ∧ Gw (WPP p v) 0 0 h h2 := by
  have tt := CPe_t P hf
  have o' := id o
  unfold okpv at o'
  have hp := C.1.2.1
  have hv := C.2.1.2.1
  unfold vrs
  rw [q_Pa_parseVariable P.1 C.2.2.1 C.1, tt]
  by_cases c : 4 ≤ s.1.1 ∧ s.1.1 ≤ 6
  · rw [if_pos (show b_W_isVariable s.1.1 from c), if_pos c, gd_t (by omega), q_P_putVariable C.1, if_pos ((CRo_has M.1 n).2 (by omega)), q_Pa_parseVariable_r30]
    · have G : Gw (fun b i => b = p + 2 ∧ i = n.toNat) 0 0 h (sI h (p + 2) n.toNat (s.1.1 - 4)) := Gw_sI (Gw_r _ _) _ (fun _ => ⟨rfl, rfl⟩)
      obtain ⟨r1, r2⟩ := row_keeps P C o hz (Or.inl (by omega)) (fun _ _ => Iff.rfl) G
      have cr := CRo_var (x := s.1.1 - 4) (G0 := h) M.1 n0.1 k0 o'.1
      have nx : nfx lo (fun b i => b = p + 2 ∧ i = n.toNat) := fun f hf k z => by omega
      have nN : hN (sI h (p + 2) n.toNat (s.1.1 - 4)) = hN h := rfl
      obtain ⟨t, ⟨f, fa⟩, ⟨n', top, R, N⟩, row, sec, last⟩ := s
      have M' : MID (sI h (p + 2) n.toNat (t.1 - 4)) p v lo n 0 (upN R (10 * n + 1).toNat (t.1 - 4)) N := by
        obtain ⟨m1, m2, m3, m4, m5, m6⟩ := M
        exact ⟨cr, QF_N (QF_g m2 C.1 C.2.1 G nx (fun j z => by omega) (fun i j _ z => by omega)) n0.1 (by omega) (fun s a b => ⟨by rw [sv_up a (by decide) n0.1 (by decide), if_neg (by omega)], by rw [sv_up a (by decide) n0.1 (by decide), if_neg (by omega)]⟩) (fun i _ => rfl), fun z => absurd z (by decide), fun z => absurd z (by decide), fun z => absurd z (by decide), m6⟩
      have P1 : CPe (sI h (p + 2) n.toNat (t.1 - 4)) I len (varP n (t.1 - 4) (t, (f, fa), (n', top, R, N), row, sec, last)) := CPe_eq r1 rfl rfl
      have c : 4 ≤ t.1 ∧ t.1 ≤ 6 := c
      simp only
      generalize sI h (p + 2) n.toNat (t.1 - 4) = g at *
      obtain ⟨h2, e2, P2, F2⟩ := c_advE P1 hf (show 0 ≤ t.1 by omega)
      have G2 : Gw (WA scrPf) 0 0 g h2 := Gw_of (Fr_m F2 (B := scrPf) rfl) (fun _ _ z => z)
      rw [e2, q_Pa_parseVariable_r37 P2.1]
      exact ⟨h2, rfl, P2, CWk_A r2 G2 rfl o, fun _ => MID_A M' r2 G2 rfl o, F2.1.trans nN, Gw_m (Gw_t (Gw_m G (fun a k _ z => (Or.inr (Or.inl (Or.inr (by omega))) : WPP p v a k)) (Nat.le_refl _) (Nat.le_refl _)) G2 (fun a k _ z => Or.inl z)) (fun _ _ _ z => z) (by omega) (by omega)⟩
    · have G : Gw (fun b i => b = p + 2 ∧ i = n.toNat) 0 0 h (sI h (p + 2) n.toNat (s.1.1 - 4)) := Gw_sI (Gw_r _ _) _ (fun _ => ⟨rfl, rfl⟩)
      exact (row_keeps P C o hz (Or.inl (by omega)) (fun _ _ => Iff.rfl) G).1.1
  · rw [if_neg (show ¬ b_W_isVariable s.1.1 from c), if_neg c]
    obtain ⟨h2, e2, P2, F2⟩ := c_errC P (c := 1) (by decide)
    have G2 : Gw (WA scrPf) 0 0 h h2 := Gw_of (Fr_m F2 (B := scrPf) rfl) (fun _ _ z => z)
    rw [e2, q_Pa_parseVariable_r45 P2.1]
    exact ⟨h2, rfl, P2, CWk_A C G2 rfl o, fun z => absurd z (errP_f (by decide) _), F2.1, Gw_m G2 (fun a k _ z => Or.inl z) (by omega) (by omega)⟩
end CSTM2

