/-! The class: formulas set. -/
section CSETF
variable {h h2 : zH} {p v : Nat} {n top : Int} {R N N2 : Nat → Int} {c c2 : Nat} {Ol Ol2 : Nat → Nat → Int} {s0 s1 s2 s3 : Option (Nat → Int)} {I I2 : Nat → Int} {m m2 : Int} {O O2 : List Int} {ec ep : Int} {W : Nat → Nat → Prop} {d e : Nat} {A : FA}
/-- the input is used up, the error told -/
theorem CJ_e (J : CJ h p v (n, top, R, N, c, Ol, s0, s1, I, m, O, ec, ep)) (F : Fr [(0, some 1), (0, some 4), (0, some 5)] h h2) (e1 : hI h2 0 1 = 0) : CJ h2 p v (n, top, R, N, c, Ol, s0, s1, I, 0, O, (hI h2 0 4), (hI h2 0 5)) := by
  obtain ⟨j1, j2, ⟨j3, j4⟩, j5, _, ⟨j8, j9, j10⟩, j11, j12⟩ := J
  refine ⟨CA_f j1 F rfl, HO_f j2 (CA_K j1) F rfl, ⟨(fR F 0 13 rfl).trans j3, (fR F 0 14 rfl).trans j4⟩, j5, ⟨e1, fun k hk => by omega⟩, ⟨(fI F 0 3 rfl).trans j8, j9, ?_⟩, rfl, rfl⟩
  rw [rI F 2 rfl]; exact j10
theorem c_closeI (J : CJ h p v (n, top, R, N, c, Ol, s0, s1, I, m, O, ec, ep)) {f fa : Int} (hf : hI h 5 0 = f) (ha : hI h 5 1 = fa) : ∃ h2, zC 162 [zR (some 0)] h = (if f = 0 then some (.inl none, h2) else some (.inr 1, hNew h2 0 6)) ∧ CJ h2 p v (n, top, R, N, c, Ol, s0, s1, I, 0, O, f, fa) ∧ Fr [(0, some 1), (0, some 4), (0, some 5)] h h2 := by
  have K := J_K J
  have F1 : Fr [(0, some 1), (0, some 4), (0, some 5)] h (sI h 0 1 0) := Fr_I (Fr_r _ _) rfl
  have K1 := KC_f K F1 rfl
  have g0 : hI (sI h 0 1 0) 5 0 = f := (congrFun (hI_ne h 0 (show (5 : Nat) ≠ 0 by decide)) 0).trans hf
  have F2 : Fr [(0, some 1), (0, some 4), (0, some 5)] (sI h 0 1 0) (sI (sI h 0 1 0) 0 4 f) := Fr_I (Fr_r _ _) rfl
  have K2 := KC_f K1 F2 rfl
  have g1 : hI (sI (sI h 0 1 0) 0 4 f) 5 1 = fa := (congrFun ((hI_ne _ f (show (5 : Nat) ≠ 0 by decide)).trans (hI_ne h 0 (show (5 : Nat) ≠ 0 by decide))) 1).trans ha
  have F3 : Fr [(0, some 1), (0, some 4), (0, some 5)] (sI (sI h 0 1 0) 0 4 f) (sI (sI (sI h 0 1 0) 0 4 f) 0 5 fa) := Fr_I (Fr_r _ _) rfl
  have K3 := KC_f K2 F3 rfl
  have F := Fr_t F1 (Fr_t F2 F3)
  have z4 : hI (sI (sI (sI h 0 1 0) 0 4 f) 0 5 fa) 0 4 = f := by
    rw [hI_up, upN_n _ _ (by decide), hI_up, upN_s]
  have z5 : hI (sI (sI (sI h 0 1 0) 0 4 f) 0 5 fa) 0 5 = fa := by
    rw [hI_up, upN_s]
  have z1 : hI (sI (sI (sI h 0 1 0) 0 4 f) 0 5 fa) 0 1 = 0 := by
    rw [hI_up, upN_n _ _ (by decide), hI_up, upN_n _ _ (by decide), hI_up, upN_s]
  have r := CJ_e J F z1
  rw [z4, z5] at r
  refine ⟨_, ?_, r, F⟩
  rw [q_B_closeInput K, q_B_closeInput_5 K1, g0, q_B_closeInput_16 K2, g1, q_B_closeInput_27 K3, z4]
theorem fr0 (F : Fr [(0, some 1), (0, some 4), (0, some 5)] h h2) {a : Nat} (ha : a ≠ 0) : hI h2 a = hI h a ∧ hR h2 a = hR h a := by
  have t : Nat.beq 0 a = false := by
    cases hb : Nat.beq 0 a with
    | false => rfl
    | true => exact absurd (Nat.eq_of_beq_eq_true hb) (fun z => ha z.symm)
  have r : rowA [(0, some 1), (0, some 4), (0, some 5)] a = true := by
    show (!Nat.beq 0 a && (!Nat.beq 0 a && (!Nat.beq 0 a && true))) = true
    rw [t]; rfl
  exact ⟨rI F a r, rR F a r⟩
theorem Wf_w {a k : Nat} (w : WA scrPf a k) : 5 ≤ a ∧ a ≤ 7 := by
  have := WAx (A := scrPf) rfl w
  exact ⟨this.1, this.2.1⟩
theorem c_parseJ (J : CJ h p v (n, top, R, N, c, Ol, s0, s1, I, m, O, ec, ep)) (Q : Prg n top R N) (hm : m ≤ 800) (hz : hN h + 300 ≤ zVB) {q what len : Int} (hl : 0 ≤ len ∧ len ≤ m) (hw : what = 0 ∨ what = 1) : ∃ h2, zC 193 [zR (some 0), zI len, zI what] h = (if alE I len q what N = 0 then some (.inl (some (zR (some (hN h)))), h2) else some (.inr 1, hNew h2 0 6)) ∧ CJ h2 p v (n, top, R, N, c, Ol, s0, s1, I, 0, O, (alE I len q what N), (if alE I len q what N = 0 then -1 else alA I len q what N)) ∧ FS h2 (hN h) ∧ (alE I len q what N = 0 → FO0 h2 (hN h) (lst (alN I len q what N) q)) ∧ hN h2 = hN h + 2 ∧ Gw Wc 2 0 h h2 := by
  have K := J_K J
  have k0 := K.1
  have Ci := J.2.2.2.2.1
  have cg : ∀ k : Nat, (k : Int) < len → hI h 1 k = I k := fun k hk => Ci.2 k (by omega)
  obtain ⟨h1, e1, P1, F1⟩ := c_beginC K (CA_B J.1).2.1 rfl hl.1 (show len ≤ 800 by omega) (p := (n, top, R, N)) (w := (0, 0, 0))
  have J1 := CJ_f J F1 rfl
  have K1 := J_K J1
  obtain ⟨h2, e2, f2, a2, S2, O2, n2, G2⟩ := c_aloneC (q := q) P1 (by rw [F1.1]; omega) hw
  rw [alE_c cg] at f2 a2 O2
  rw [alA_c cg] at a2
  rw [alN_c cg] at O2
  rw [F1.1] at S2 O2 n2 e2
  have w1 : ∀ a k, WA scrPf a k → a < 74 ∧ ¬ (a = 0 ∧ 6 ≤ k) := fun a k z => by have := Wf_w z; omega
  have nfx : nf (WA scrPf) h1 := nf_A (A := scrPf) rfl h1
  have K2 : KC h2 := KC_g K1 G2 (fun a k _ b z => by
    have z : inA scrPf a k = true := z
    rw [okC_kc rfl b] at z
    exact absurd z (by decide))
  have J2 := CJ_g J1 G2 K2 w1 nfx (HO_g J1.2.1 K1 G2 nfx (fun a k hw z => by have := Wf_w z; omega)) (CI_g J1.2.2.2.2.1 K1 G2 (fun z => by have := Wf_w z; omega) (fun k z => by have := Wf_w z; omega)) (CO_g J1.2.2.2.2.2.1 K1 G2 (fun z => by have := Wf_w z; omega) (fun k z => by have := Wf_w z; omega))
  obtain ⟨h3, e3, J3, F3⟩ := c_closeI J2 f2 a2
  have K3 := J_K J3
  have nz : 163 ≤ hN h := k0
  have S3 : FS h3 (hN h) := by
    obtain ⟨x1, x2, x3, x4⟩ := S2
    exact ⟨(congrFun F3.2.2.1 _).trans x1, (congrFun (fr0 F3 (by omega)).2 0).trans x2, (congrFun F3.2.2.1 _).trans x3, by rw [F3.1]; exact x4⟩
  have O3 : alE I len q what N = 0 → FO0 h3 (hN h) (lst (alN I len q what N) q) := fun ce => by
    obtain ⟨x1, x2, x3⟩ := O2 ce
    have er : hI h3 (hN h + 1) = hI h2 (hN h + 1) := (fr0 F3 (by omega)).1
    exact ⟨S3, (congrFun F3.2.2.2.1 _).trans x2, by rw [er]; exact x3⟩
  refine ⟨h3, ?_, J3, S3, O3, by rw [F3.1]; exact n2, ?_⟩
  · rw [q_B_parseAlone K, e1, q_B_parseAlone_r8 K1, e2, q_B_parseAlone_r16 K2 S2, e3]
    by_cases ce : alE I len q what N = 0
    · rw [if_pos ce, if_pos ce, q_B_parseAlone_r21 K3 S3]
    · rw [if_neg ce, if_neg ce]
      rfl
  · exact Gw_m (Gc_t (Gc_f F1 rfl) (Gc_t (Gw_m G2 (fun a k _ z => (Or.inl (by have := Wf_w z; omega) : Wc a k)) (Nat.le_refl _) (Nat.le_refl _)) (Gc_f F3 rfl))) (fun _ _ _ z => z) (by decide) (by decide)
theorem CC_thr2 {q : Nat} {as : List zV} {tb : Int → Nat} {x : zV} {k : Int} {σ : MSt} {g : zH} {d e : Nat} (J : CJ g p v σ) (G : Gw Wc d e h g) (hd : d ≤ 199) (he : e ≤ 3000) (hz : hN g < zVB) (hk : k ≠ 0) (eq : zC q (zR (some 0) :: as) h = some (.inr (tb k), hNew g 0 6)) : CC h q as tb ((k, x), σ) :=
  ⟨_, p, v, by rw [eq, if_neg hk], CJ_0 J (Gw_new W0 g 0 6 hz), Gw_m (Gc_t G (Gw_new Wc g 0 6 hz)) (fun _ _ _ w => w) (by omega) (by omega)⟩
theorem mutB_hi {f : Nat} (hf : 178 ≤ f) : mutB f = false := by
  have b1 : ∀ k, k ≤ f → Nat.blt f k = false := fun k hk => by
    cases c : Nat.blt f k with
    | false => rfl
    | true => exact absurd (Nat.le_of_ble_eq_true c) (by omega)
  have b2 : ∀ k, k < 178 → Nat.beq f k = false := fun k hk => by
    cases c : Nat.beq f k with
    | false => rfl
    | true => exact absurd (Nat.eq_of_beq_eq_true c) (by omega)
  unfold mutB
  rw [b1 3 (by omega), b1 11 (by omega), b2 13 (by omega), b1 98 (by omega), b2 99 (by omega), b2 100 (by omega), b1 136 (by omega), b1 163 (by omega), b1 178 (by omega)]
  simp only [Bool.and_false, Bool.or_false]
section SR
variable {a k : Nat} {x : Option Nat}
theorem FO_sR {f : Nat} {l : List Int} (F : FO h f l) (ta : hT h a ≠ 2) : FO (sR h a k x) f l := by
  obtain ⟨⟨b1, b2, b3, b4⟩, c1, c2, c3, c4⟩ := F
  refine ⟨⟨b1, (zup_n _ _ _ _ _ _ (fun z => ta ?_)).trans b2, b3, b4⟩, c1, c2, c3, c4⟩
  rw [← z.1]; exact b1
theorem FS_sR {f : Nat} (F : FS h f) (ta : hT h a ≠ 2) : FS (sR h a k x) f := by
  obtain ⟨b1, b2, b3, b4⟩ := F
  refine ⟨b1, (zup_n _ _ _ _ _ _ (fun z => ta ?_)).trans b2, b3, b4⟩
  rw [← z.1]; exact b1
theorem FAt_sRn {b j : Nat} {l : List Int} (F : FAt h b j l) (ta : hT h a ≠ 2) (hn : ¬ (b = a ∧ j = k)) : FAt (sR h a k x) b j l := by
  obtain ⟨f, r, o⟩ := F
  exact ⟨f, (zup_n _ _ _ _ _ _ hn).trans r, FO_sR o ta⟩
theorem FAt_sRs {f : Nat} {l : List Int} (F : FO h f l) (ta : hT h a ≠ 2) : FAt (sR h a k (some f)) a k l := ⟨f, zup_s _ _ _ _, FO_sR F ta⟩
theorem FSAt_sR {b j f : Nat} {l : List Int} (S : FSAt h b j) (F : FO h f l) (ta : hT h a ≠ 2) : FSAt (sR h a k (some f)) b j := by
  by_cases c : b = a ∧ j = k
  · obtain ⟨rfl, rfl⟩ := c
    exact ⟨f, zup_s _ _ _ _, FS_sR F.1 ta, F.2.1⟩
  · obtain ⟨g, r, s, mb⟩ := S
    exact ⟨g, (zup_n _ _ _ _ _ _ c).trans r, FS_sR s ta, mb⟩
end SR
/-- other formulas at one number -/
def blO (N N2 : Nat → Int) (q : Int) : Prop := ∀ i : Nat, i < (31 * q).toNat ∨ (31 * q).toNat + 31 ≤ i → N2 i = N i
theorem lst_bl {q r : Int} (o : blO N N2 q) (h0 : 0 ≤ q) (h1 : 0 ≤ r) (hn : r ≠ q) (hl : (lst N r).length ≤ 30) : lst N2 r = lst N r := lst_c hl (fun i i0 i1 => o i (by omega))
theorem Gw_vR (V : VS h v) {j i : Nat} (hj : j = 0 ∧ i ≤ 1 ∨ 0 < j ∧ j < 5) (x : Option Nat) : Gw (Wv v) 0 0 h (sR h (v + j) i x) := Gw_sR (Gw_r _ h) x (fun _ => by unfold Wv; omega)
theorem tg_v (V : VS h v) {j : Nat} (hj : j ≤ 2) : hT h (v + j) ≠ 2 := by
  have : j = 0 ∨ j = 1 ∨ j = 2 := by omega
  rcases this with rfl | rfl | rfl
  · rw [Nat.add_zero, V.1]; decide
  · rw [VS_t V 1 25 rfl rfl]; decide
  · rw [VS_t V 2 25 rfl rfl]; decide
theorem VO_new (X : VO h v n R N) {j i f : Nat} {l : List Int} (hj : j ≤ 2) (hj0 : j = 0 → i ≤ 1) (F : FO h f l) (a0 : FAt (sR h (v + j) i (some f)) v 0 (lst N2 0)) (a1 : FAt (sR h (v + j) i (some f)) v 1 (lst N2 1)) (ak : ∀ s, 0 ≤ s → s < n → sv R s 0 = 2 → FAt (sR h (v + j) i (some f)) (v + 1) (sv R s 7).toNat (lst N2 (26 + s)) ∧ FAt (sR h (v + j) i (some f)) (v + 2) (sv R s 7).toNat (lst N2 (50 + s))) (en : ∀ s, 0 ≤ s → s < n → N2 (2294 + s).toNat = N (2294 + s).toNat ∧ N2 (2318 + s).toNat = N (2318 + s).toNat) : VO (sR h (v + j) i (some f)) v n R N2 := by
  obtain ⟨a, b, c, d, g, y⟩ := X
  have ta := tg_v a hj
  refine ⟨VS_sR a (fun e => ?_), b, a0, a1, fun s h0 h1 => ⟨ak s h0 h1, fun k3 => ?_, ?_⟩, fun k hk => ⟨FSAt_sR (y k hk).1 F ta, FSAt_sR (y k hk).2 F ta⟩⟩
  · exact hj0 (by omega)
  · rw [(en s h0 h1).1]; exact (g s h0 h1).2.1 k3
  · rw [(en s h0 h1).2]; exact (g s h0 h1).2.2
theorem bl_en (Q : Prg n top R N) {q : Int} (o : blO N N2 q) (h0 : 0 ≤ q) (h1 : q < 74) : (∀ s, 0 ≤ s → s < n → N2 (2294 + s).toNat = N (2294 + s).toNat ∧ N2 (2318 + s).toNat = N (2318 + s).toNat) := fun s s0 s1 => ⟨o _ (by omega), o _ (by omega)⟩
theorem bl_sm (Q : Prg n top R N) {q : Int} (o : blO N N2 q) (h0 : 0 ≤ q) (hq : q < 2 ∨ 26 ≤ q) : smP n R N N2 := fun s s0 s1 => by
  have k := (Q.1.2.1 s s0 s1).1
  have vs := Q.2.1.2.2 s s0 s1
  have w := Q.1.1
  unfold prtL
  by_cases k3 : sv R s 0 = 3
  · rw [if_pos k3, if_pos k3]
  · rw [if_neg k3, if_neg k3]
    refine lst_bl o h0 (by omega) (by omega) ?_
    have : sv R s 0 = 0 ∨ sv R s 0 = 1 ∨ sv R s 0 = 2 := by omega
    rcases this with a | a | a
    · exact fmOk_len (vs.1 a)
    · exact fmOk_len (vs.2.1 a)
    · exact fmOk_len (vs.2.2.1 a).1
/-- BEFORE or AFTER is put -/
theorem VO_bef (X : VO h v n R N) (Q : Prg n top R N) {q : Int} (hq : q = 0 ∨ q = 1) {f : Nat} (o : blO N N2 q) (F : FO h f (lst N2 q)) : VO (sR h (v + 0) q.toNat (some f)) v n R N2 := by
  have w := Q.1.1
  have ta := tg_v X.1 (j := 0) (by decide)
  have tv : hT h (v + 0) ≠ 2 := ta
  have e0 : ∀ r, r ≠ q → 0 ≤ r → (lst N r).length ≤ 30 → lst N2 r = lst N r := fun r hn h1 hl => lst_bl o (by omega) h1 hn hl
  refine VO_new X (by decide) (fun _ => by omega) F ?_ ?_ (fun s s0 s1 k2 => ?_) (bl_en Q o (by omega) (by omega))
  · rcases hq with rfl | rfl
    · exact FAt_sRs F ta
    · rw [e0 0 (by decide) (by decide) (fmOk_len Q.2.1.1)]
      exact FAt_sRn X.2.2.1 ta (fun z => absurd z.2 (by decide))
  · rcases hq with rfl | rfl
    · rw [e0 1 (by decide) (by decide) (fmOk_len Q.2.1.2.1)]
      exact FAt_sRn X.2.2.2.1 ta (fun z => absurd z.2 (by decide))
    · exact FAt_sRs F ta
  · have fk := (Q.2.1.2.2 s s0 s1).2.2.1 k2
    rw [e0 (26 + s) (by omega) (by omega) (fmOk_len fk.2.1), e0 (50 + s) (by omega) (by omega) (fmOk_len fk.2.2)]
    obtain ⟨x1, x2⟩ := (X.2.2.2.2.1 s s0 s1).1 k2
    exact ⟨FAt_sRn x1 ta (fun z => by omega), FAt_sRn x2 ta (fun z => by omega)⟩
/-- KEEP (r is 1) or LESS (r is 2) of a loop is put -/
theorem VO_kl (X : VO h v n R N) (Q : Prg n top R N) {r : Nat} (hr : r = 1 ∨ r = 2) {s : Int} (s0 : 0 ≤ s) (s1 : s < n) (k2 : sv R s 0 = 2) {q : Int} (hq : q = if r = 1 then 26 + s else 50 + s) {f : Nat} (o : blO N N2 q) (F : FO h f (lst N2 q)) : VO (sR h (v + r) (sv R s 7).toNat (some f)) v n R N2 := by
  have w := Q.1.1
  have ta := tg_v X.1 (j := r) (by omega)
  have q26 : 26 ≤ q ∧ q < 74 ∧ ((r = 1 ∧ q = 26 + s) ∨ (r = 2 ∧ q = 50 + s)) := by
    rcases hr with rfl | rfl
    · rw [if_pos rfl] at hq; omega
    · rw [if_neg (by decide)] at hq; omega
  have e0 : ∀ t, t ≠ q → 0 ≤ t → (lst N t).length ≤ 30 → lst N2 t = lst N t := fun t hn h1 hl => lst_bl o (by omega) h1 hn hl
  refine VO_new X (by omega) (fun z => by omega) F ?_ ?_ (fun t t0 t1 kt => ?_) (bl_en Q o (by omega) (by omega))
  · rw [e0 0 (by omega) (by decide) (fmOk_len Q.2.1.1)]
    exact FAt_sRn X.2.2.1 ta (fun z => by omega)
  · rw [e0 1 (by omega) (by decide) (fmOk_len Q.2.1.2.1)]
    exact FAt_sRn X.2.2.2.1 ta (fun z => by omega)
  · have fk := (Q.2.1.2.2 t t0 t1).2.2.1 kt
    obtain ⟨x1, x2⟩ := (X.2.2.2.2.1 t t0 t1).1 kt
    have nr := num_r Q t0 t1 (Or.inl kt)
    have ns := num_r Q s0 s1 (Or.inl k2)
    by_cases ets : t = s
    · subst ets
      rcases q26.2.2 with ⟨rfl, hq2⟩ | ⟨rfl, hq2⟩
      · rw [e0 (50 + t) (by omega) (by omega) (fmOk_len fk.2.2), ← hq2]
        exact ⟨FAt_sRs F ta, FAt_sRn x2 ta (fun z => by omega)⟩
      · rw [e0 (26 + t) (by omega) (by omega) (fmOk_len fk.2.1), ← hq2]
        exact ⟨FAt_sRn x1 ta (fun z => by omega), FAt_sRs F ta⟩
    · have ne : sv R t 7 ≠ sv R s 7 := fun z => ets (num_inj Q t0 t1 s0 s1 (Or.inl kt) (kt.trans k2.symm) z)
      rw [e0 (26 + t) (by omega) (by omega) (fmOk_len fk.2.1), e0 (50 + t) (by omega) (by omega) (fmOk_len fk.2.2)]
      exact ⟨FAt_sRn x1 ta (fun z => by omega), FAt_sRn x2 ta (fun z => by omega)⟩
theorem FO0_wh {f : Nat} {l : List Int} (F : FO0 h f l) (hf : 178 ≤ f) (G : Gw Wh d e h h2) : FO h2 f l := FO_0 (FO0_g F G (fun k z => by unfold Wh at z; omega) (fun k z => by unfold Wh at z; omega)) (mutB_hi hf) (mutB_hi (by omega))

theorem k_setBefore (J : CJ h p v (n, top, R, N, c, Ol, s0, s1, I, m, O, ec, ep)) (Q : Prg n top R N) (hm : 0 ≤ m ∧ m ≤ 800) (h99 : 178 ≤ hN h) (hz : hN h + 400 ≤ zVB) (len : Int) : CC h 192 [zI len] (t3 0 1 0) (aSetB 0 len (n, top, R, N, c, Ol, s0, s1, I, m, O, ec, ep)) := by
  have hq := q_B_setBefore (h := h) (x1 := len) (J_K J)
  rw [rq_length (J_K J) J.2.2.2.2.1.1 len] at hq
  unfold aSetB frmS
  simp only
  by_cases cl : 0 ≤ len ∧ len ≤ m
  · rw [if_pos cl] at hq ⊢
    obtain ⟨h1, e1, J1, S1, O1, n1, G1⟩ := c_parseJ J Q hm.2 (by omega) (q := 0) (what := 1) cl (Or.inr rfl)
    rw [q_B_setBefore_r5 (J_K J), e1] at hq
    by_cases ce : alE I len 0 1 N = 0
    · rw [if_pos ce] at hq
      rw [if_pos ce, if_pos ce]
      rw [if_pos ce, ce] at J1
      have ok := alT_ok (I := I) (len := len) (N := N) (q := 0) (what := 1) cl.1
      have bo : blO N (alN I len 0 1 N) 0 := ok.1
      have Q2 : Prg n top R (alN I len 0 1 N) := Prg_frm Q ok.1 (fun z => by first | exact ok.2 ce | omega) (fun z => by first | exact ok.2 ce | omega) (fun s _ _ z => by omega) (fun s _ _ z => by omega) (by decide) (by decide) (by decide)
      obtain ⟨h2, e2, J2, n2, G2⟩ := J_rem J1 Q
      have F2 := FO0_wh (O1 ce) h99 G2
      have V2 := J_V J2
      have X3 := VO_bef V2 Q (q := 0) (by decide) bo F2
      have G3 := Gw_vR V2.1 (j := 0) (i := (0 : Int).toNat) (Or.inl ⟨rfl, by decide⟩) (some (hN h))
      have B3 := Jb_v2 (J_b J2) (by omega) G3 X3 (bl_sm Q bo (by decide) (by decide))
      obtain ⟨h4, e4, J4, F4⟩ := J_look B3 Q2
      have B3 : Jb (sR h2 v 0 (some (hN h))) p v (n, top, R, (alN I len 0 1 N), psc c, psh N Ol, s0, s1, I, 0, O, 0, -1) := B3
      have FS3 : FS (sR h2 v 0 (some (hN h))) (hN h) := FS_sR F2.1 (tg_v V2.1 (j := 0) (by decide))
      have FS4 : FS h4 (hN h) := (FO_f (FO_sR F2 (tg_v V2.1 (j := 0) (by decide))) F4 rfl).1
      rw [q_B_setBefore_r11 (J_K J1) S1 (J_rv J1) (J_vs J1), e2, q_B_setBefore_r23 (J_K J2) F2.1 (J_rv J2) (J_vs J2), q_B_setBefore_31 B3.1.1 FS3 B3.2.2.1.1 (PO_S B3.1.2.2.1) B3.2.2.1.2 B3.1.2.2.2.2.1] at hq
      have e4 : zC 1 [zR (some 132), zR (some p), zR (some v)] (sR h2 v 0 (some (hN h))) = some (.inl none, h4) := e4
      rw [e4, q_B_setBefore_r46 (J_K J4) FS4, (J_S J4).1, bitc_e] at hq
      have Gv : Gw Wc 0 0 h2 (sR h2 (v + 0) (0 : Int).toNat (some (hN h))) := Gw_m G3 (fun a k _ => Wv_c (J_vs J2) J2.2.2.2.1 (by omega) a k) (Nat.le_refl _) (Nat.le_refl _)
      exact CC_chg J4 (Gc_t G1 (Gc_t (Gh_c G2) (Gc_t Gv (Gc_f F4 rfl)))) (by decide) (by decide) hq
    · rw [if_neg ce] at hq J1
      rw [if_neg ce, if_neg ce]
      exact CC_thr2 J1 G1 (by decide) (by decide) (by omega) (by decide) (hq.trans rfl)
  · rw [if_neg cl] at hq ⊢
    exact CC_thr J (by omega) (by decide) (hq.trans rfl)

theorem k_setAfter (J : CJ h p v (n, top, R, N, c, Ol, s0, s1, I, m, O, ec, ep)) (Q : Prg n top R N) (hm : 0 ≤ m ∧ m ≤ 800) (h99 : 178 ≤ hN h) (hz : hN h + 400 ≤ zVB) (len : Int) : CC h 194 [zI len] (t3 0 1 0) (aSetB 1 len (n, top, R, N, c, Ol, s0, s1, I, m, O, ec, ep)) := by
  have hq := q_B_setAfter (h := h) (x1 := len) (J_K J)
  rw [rq_length (J_K J) J.2.2.2.2.1.1 len] at hq
  unfold aSetB frmS
  simp only
  by_cases cl : 0 ≤ len ∧ len ≤ m
  · rw [if_pos cl] at hq ⊢
    obtain ⟨h1, e1, J1, S1, O1, n1, G1⟩ := c_parseJ J Q hm.2 (by omega) (q := 1) (what := 1) cl (Or.inr rfl)
    rw [q_B_setAfter_r5 (J_K J), e1] at hq
    by_cases ce : alE I len 1 1 N = 0
    · rw [if_pos ce] at hq
      rw [if_pos ce, if_pos ce]
      rw [if_pos ce, ce] at J1
      have ok := alT_ok (I := I) (len := len) (N := N) (q := 1) (what := 1) cl.1
      have bo : blO N (alN I len 1 1 N) 1 := ok.1
      have Q2 : Prg n top R (alN I len 1 1 N) := Prg_frm Q ok.1 (fun z => by first | exact ok.2 ce | omega) (fun z => by first | exact ok.2 ce | omega) (fun s _ _ z => by omega) (fun s _ _ z => by omega) (by decide) (by decide) (by decide)
      obtain ⟨h2, e2, J2, n2, G2⟩ := J_rem J1 Q
      have F2 := FO0_wh (O1 ce) h99 G2
      have V2 := J_V J2
      have X3 := VO_bef V2 Q (q := 1) (by decide) bo F2
      have G3 := Gw_vR V2.1 (j := 0) (i := (1 : Int).toNat) (Or.inl ⟨rfl, by decide⟩) (some (hN h))
      have B3 := Jb_v2 (J_b J2) (by omega) G3 X3 (bl_sm Q bo (by decide) (by decide))
      obtain ⟨h4, e4, J4, F4⟩ := J_look B3 Q2
      have B3 : Jb (sR h2 v 1 (some (hN h))) p v (n, top, R, (alN I len 1 1 N), psc c, psh N Ol, s0, s1, I, 0, O, 0, -1) := B3
      have FS3 : FS (sR h2 v 1 (some (hN h))) (hN h) := FS_sR F2.1 (tg_v V2.1 (j := 0) (by decide))
      have FS4 : FS h4 (hN h) := (FO_f (FO_sR F2 (tg_v V2.1 (j := 0) (by decide))) F4 rfl).1
      rw [q_B_setAfter_r11 (J_K J1) S1 (J_rv J1) (J_vs J1), e2, q_B_setAfter_r23 (J_K J2) F2.1 (J_rv J2) (J_vs J2), q_B_setAfter_31 B3.1.1 FS3 B3.2.2.1.1 (PO_S B3.1.2.2.1) B3.2.2.1.2 B3.1.2.2.2.2.1] at hq
      have e4 : zC 1 [zR (some 132), zR (some p), zR (some v)] (sR h2 v 1 (some (hN h))) = some (.inl none, h4) := e4
      rw [e4, q_B_setAfter_r46 (J_K J4) FS4, (J_S J4).2.1, bitc_e] at hq
      have Gv : Gw Wc 0 0 h2 (sR h2 (v + 0) (1 : Int).toNat (some (hN h))) := Gw_m G3 (fun a k _ => Wv_c (J_vs J2) J2.2.2.2.1 (by omega) a k) (Nat.le_refl _) (Nat.le_refl _)
      exact CC_chg J4 (Gc_t G1 (Gc_t (Gh_c G2) (Gc_t Gv (Gc_f F4 rfl)))) (by decide) (by decide) hq
    · rw [if_neg ce] at hq J1
      rw [if_neg ce, if_neg ce]
      exact CC_thr2 J1 G1 (by decide) (by decide) (by omega) (by decide) (hq.trans rfl)
  · rw [if_neg cl] at hq ⊢
    exact CC_thr J (by omega) (by decide) (hq.trans rfl)

theorem l_great {l s : Int} (J : CJ h p v (n, top, R, N, c, Ol, s0, s1, I, m, O, ec, ep)) (Q : Prg n top R N) (h0 : 0 ≤ s) (h1 : s < n) (k2 : sv R s 0 = 2) (nu : sv R s 7 = l) : ∀ (k i : Nat), i + k = 64 → zY 112 4 [some (zR (some 90)), some (zI l), some (zI (grA N s i)), some (zI i)] [] h = some (.inl (some (zI (grA N s 64))), h)
  | 0, i, hk => by
    have : i = 64 := by omega
    subst this
    rw [q_S_greatestLess_4 (J_K J), if_neg (by omega)]
  | k + 1, i, hk => by
    have f2 := ((Q.2.1.2.2 s h0 h1).2.2.1 k2).2.2
    have hv : ∀ k : Nat, k < 64 → 0 ≤ val (lst N (50 + s)) k ∧ val (lst N (50 + s)) k < 4 := fun k hk => lOk_v (lst_ok f2) (by omega) (by omega)
    have g := grA_b N s hv i (by omega)
    have ke := keepOf_e Q (J_S J) h0 h1 k2
    have le := lessOf_e Q (J_S J) h0 h1 k2 (st := (i : Int)) (by omega) (by omega)
    rw [nu] at ke le
    have hb := (has_e (setL (lst N (26 + s))) (y := (i : Int)) (by omega) (by omega))
    rw [bt_setL _ (by omega) (by omega)] at hb
    rw [q_S_greatestLess_4 (J_K J), if_pos (by omega), ke]
    have nx := l_great J Q h0 h1 k2 nu k (i + 1) (by omega)
    by_cases c1 : val (lst N (26 + s)) i = 1
    · rw [if_pos (hb.2 (decide_eq_true c1)), gd_t (by omega), le]
      have em : f_Ma_max (grA N s i) (val (lst N (50 + s)) i) = grA N s (i + 1) := by
        by_cases c2 : grA N s i < val (lst N (50 + s)) i
        · have eg : grA N s (i + 1) = val (lst N (50 + s)) i := if_pos ⟨c1, c2⟩
          rw [eg]; unfold f_Ma_max; split <;> omega
        · have eg : grA N s (i + 1) = grA N s i := if_neg (fun z => c2 z.2)
          rw [eg]; unfold f_Ma_max; split <;> omega
      rw [em]
      exact nx
    · rw [if_neg (fun z => c1 (of_decide_eq_true (hb.1 z))), gd_t (by omega)]
      have eg : grA N s (i + 1) = grA N s i := if_neg (fun z => c1 z.1)
      rw [eg] at nx
      exact nx

theorem k_setKeep (J : CJ h p v (n, top, R, N, c, Ol, s0, s1, I, m, O, ec, ep)) (Q : Prg n top R N) (hm : 0 ≤ m ∧ m ≤ 800) (h99 : 178 ≤ hN h) (hz : hN h + 400 ≤ zVB) (l len : Int) : CC h 195 [zI l, zI len] (t3 3 0 1) (aSetK l len (n, top, R, N, c, Ol, s0, s1, I, m, O, ec, ep)) := by
  have hq := q_B_setKeep (h := h) (x1 := l) (x2 := len) (J_K J)
  rw [rq_loop (J_K J) (J_rp J) (J_P J) Q l] at hq
  unfold aSetK frmS
  simp only
  rcases lpAt_c Q (Or.inl rfl) l with ⟨lo, ⟨l0, l1⟩, lk⟩ | ⟨_, ln⟩
  · have ne : lpAt n R 2 l ≠ -1 := by omega
    have w := Q.1.1
    rw [if_neg ne] at hq ⊢
    have nu := lp_num ne
    generalize lpAt n R 2 l = s at *
    rw [q_B_setKeep_r5 (J_K J), rq_length (J_K J) J.2.2.2.2.1.1 len] at hq
    by_cases cl : 0 ≤ len ∧ len ≤ m
    · rw [if_pos cl] at hq ⊢
      obtain ⟨h1, e1, J1, S1, O1, n1, G1⟩ := c_parseJ J Q hm.2 (by omega) (q := 26 + s) (what := 1) cl (Or.inr rfl)
      rw [q_B_setKeep_r10 (J_K J), e1] at hq
      by_cases ce : alE I len (26 + s) 1 N = 0
      · rw [if_pos ce] at hq
        rw [if_pos ce, if_pos ce]
        rw [if_pos ce, ce] at J1
        have ok := alT_ok (I := I) (len := len) (N := N) (q := 26 + s) (what := 1) cl.1
        have bo : blO N (alN I len (26 + s) 1 N) (26 + s) := ok.1
        have Q2 : Prg n top R (alN I len (26 + s) 1 N) := Prg_frm Q ok.1 (fun z => by omega) (fun z => by omega) (fun t _ _ z => by first | omega | (rw [← z]; exact ok.2 ce)) (fun t _ _ z => by first | omega | (rw [← z]; exact ok.2 ce)) (by omega) (by omega) (by omega)
        obtain ⟨h2, e2, J2, n2, G2⟩ := J_rem J1 Q
        have F2 := FO0_wh (O1 ce) h99 G2
        have V2 := J_V J2
        have X3 := VO_kl V2 Q (r := 1) (by decide) l0 l1 lk (q := 26 + s) (by rfl) bo F2
        rw [nu] at X3
        have nr := num_r Q l0 l1 (Or.inl lk)
        rw [nu] at nr
        have G3 := Gw_vR V2.1 (j := 1) (i := l.toNat) (Or.inr (by decide)) (some (hN h))
        have B3 := Jb_v2 (J_b J2) (by omega) G3 X3 (bl_sm Q bo (by omega) (by omega))
        obtain ⟨h4, e4, J4, F4⟩ := J_look B3 Q2
        have FS3 : FS (sR h2 (v + 1) l.toNat (some (hN h))) (hN h) := FS_sR F2.1 (tg_v V2.1 (j := 1) (by decide))
        have FS4 : FS h4 (hN h) := (FO_f (FO_sR F2 (tg_v V2.1 (j := 1) (by decide))) F4 rfl).1
        rw [q_B_setKeep_r16 (J_K J1) S1 (J_rv J1) (J_vs J1), e2, q_B_setKeep_r28 (J_K J2) F2.1 (J_rv J2) (J_vs J2), q_V_putKeep V2.1 F2.1, if_pos (show b_V_fits l from nr), q_B_setKeep_r37 B3.1.1 FS3 B3.2.2.1.1 (PO_S B3.1.2.2.1) B3.2.2.1.2 B3.1.2.2.2.2.1, e4] at hq
        have ke := keepOf_e Q2 (J_S J4) l0 l1 lk
        rw [nu] at ke
        rw [q_B_setKeep_r52 (J_K J4) FS4, ke, bitc_e] at hq
        have Gv : Gw Wc 0 0 h2 (sR h2 (v + 1) l.toNat (some (hN h))) := Gw_m G3 (fun a k _ => Wv_c (J_vs J2) J2.2.2.2.1 (by omega) a k) (Nat.le_refl _) (Nat.le_refl _)
        exact CC_chg J4 (Gc_t G1 (Gc_t (Gh_c G2) (Gc_t Gv (Gc_f F4 rfl)))) (by decide) (by decide) hq
      · rw [if_neg ce] at hq J1
        rw [if_neg ce, if_neg ce]
        exact CC_thr2 J1 G1 (by decide) (by decide) (by omega) (by decide) (hq.trans rfl)
    · rw [if_neg cl] at hq ⊢
      exact CC_thr J (by omega) (by decide) (hq.trans rfl)
  · rw [if_pos ln] at hq ⊢
    exact CC_thr J (by omega) (by decide) (hq.trans rfl)

theorem k_setLess (J : CJ h p v (n, top, R, N, c, Ol, s0, s1, I, m, O, ec, ep)) (Q : Prg n top R N) (hm : 0 ≤ m ∧ m ≤ 800) (h99 : 178 ≤ hN h) (hz : hN h + 400 ≤ zVB) (l len : Int) : CC h 196 [zI l, zI len] (t3 3 0 1) (aSetL l len (n, top, R, N, c, Ol, s0, s1, I, m, O, ec, ep)) := by
  have hq := q_B_setLess (h := h) (x1 := l) (x2 := len) (J_K J)
  rw [rq_loop (J_K J) (J_rp J) (J_P J) Q l] at hq
  unfold aSetL frmS
  simp only
  rcases lpAt_c Q (Or.inl rfl) l with ⟨lo, ⟨l0, l1⟩, lk⟩ | ⟨_, ln⟩
  · have ne : lpAt n R 2 l ≠ -1 := by omega
    have w := Q.1.1
    rw [if_neg ne] at hq ⊢
    have nu := lp_num ne
    generalize lpAt n R 2 l = s at *
    rw [q_B_setLess_r5 (J_K J), rq_length (J_K J) J.2.2.2.2.1.1 len] at hq
    by_cases cl : 0 ≤ len ∧ len ≤ m
    · rw [if_pos cl] at hq ⊢
      obtain ⟨h1, e1, J1, S1, O1, n1, G1⟩ := c_parseJ J Q hm.2 (by omega) (q := 50 + s) (what := 0) cl (Or.inl rfl)
      rw [q_B_setLess_r10 (J_K J), e1] at hq
      by_cases ce : alE I len (50 + s) 0 N = 0
      · rw [if_pos ce] at hq
        rw [if_pos ce, if_pos ce]
        rw [if_pos ce, ce] at J1
        have ok := alT_ok (I := I) (len := len) (N := N) (q := 50 + s) (what := 0) cl.1
        have bo : blO N (alN I len (50 + s) 0 N) (50 + s) := ok.1
        have Q2 : Prg n top R (alN I len (50 + s) 0 N) := Prg_frm Q ok.1 (fun z => by omega) (fun z => by omega) (fun t _ _ z => by first | omega | (rw [← z]; exact ok.2 ce)) (fun t _ _ z => by first | omega | (rw [← z]; exact ok.2 ce)) (by omega) (by omega) (by omega)
        obtain ⟨h2, e2, J2, n2, G2⟩ := J_rem J1 Q
        have F2 := FO0_wh (O1 ce) h99 G2
        have V2 := J_V J2
        have X3 := VO_kl V2 Q (r := 2) (by decide) l0 l1 lk (q := 50 + s) (by rfl) bo F2
        rw [nu] at X3
        have nr := num_r Q l0 l1 (Or.inl lk)
        rw [nu] at nr
        have G3 := Gw_vR V2.1 (j := 2) (i := l.toNat) (Or.inr (by decide)) (some (hN h))
        have B3 := Jb_v2 (J_b J2) (by omega) G3 X3 (bl_sm Q bo (by omega) (by omega))
        obtain ⟨h4, e4, J4, F4⟩ := J_look B3 Q2
        have FS3 : FS (sR h2 (v + 2) l.toNat (some (hN h))) (hN h) := FS_sR F2.1 (tg_v V2.1 (j := 2) (by decide))
        have FS4 : FS h4 (hN h) := (FO_f (FO_sR F2 (tg_v V2.1 (j := 2) (by decide))) F4 rfl).1
        rw [q_B_setLess_r16 (J_K J1) S1 (J_rv J1) (J_vs J1), e2, q_B_setLess_r28 (J_K J2) F2.1 (J_rv J2) (J_vs J2), q_V_putLess V2.1 F2.1, if_pos (show b_V_fits l from nr), q_B_setLess_r37 B3.1.1 FS3 B3.2.2.1.1 (PO_S B3.1.2.2.1) B3.2.2.1.2 B3.1.2.2.2.2.1, e4] at hq
        have gl := l_great J4 Q2 l0 l1 lk nu 64 0 rfl
        rw [q_B_setLess_r52 (J_K J4) FS4, q_S_greatestLess (J_K J4)] at hq
        have gl : zY 112 4 [some (zR (some 90)), some (zI l), some (zI (-1)), some (zI 0)] [] h4 = some (.inl (some (zI (grA (alN I len (50 + s) 0 N) s 64))), h4) := gl
        rw [gl, q_B_setLess_r60 (J_K J4) FS4] at hq
        have Gv : Gw Wc 0 0 h2 (sR h2 (v + 2) l.toNat (some (hN h))) := Gw_m G3 (fun a k _ => Wv_c (J_vs J2) J2.2.2.2.1 (by omega) a k) (Nat.le_refl _) (Nat.le_refl _)
        exact CC_chg J4 (Gc_t G1 (Gc_t (Gh_c G2) (Gc_t Gv (Gc_f F4 rfl)))) (by decide) (by decide) hq
      · rw [if_neg ce] at hq J1
        rw [if_neg ce, if_neg ce]
        exact CC_thr2 J1 G1 (by decide) (by decide) (by omega) (by decide) (hq.trans rfl)
    · rw [if_neg cl] at hq ⊢
      exact CC_thr J (by omega) (by decide) (hq.trans rfl)
  · rw [if_pos ln] at hq ⊢
    exact CC_thr J (by omega) (by decide) (hq.trans rfl)

end CSETF

