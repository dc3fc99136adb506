/-! The reference: its whole state; texts loaded. -/
section STATE
variable {I : Nat → Int} {len : Int}
/-- the reference's cells that change -/
abbrev scrA : FA := [(177, some 1), (177, some 5), (177, some 7), (177, some 10), (177, some 11), (177, some 12), (177, some 13), (177, some 15), (177, some 17), (177, some 18), (177, some 19), (177, some 21), (177, some 26), (177, some 27), (177, some 28), (177, some 29), (177, some 30), (177, some 31), (177, some 36), (177, some 37), (177, some 38), (177, some 39), (177, some 40), (177, some 41), (177, some 42), (177, some 44), (177, some 45), (177, some 46), (179, none), (180, none), (181, none), (182, none), (183, none), (184, none), (185, none), (186, none), (187, none), (188, none), (189, none), (190, none), (191, none), (192, none), (193, none), (194, none), (195, none), (196, none)]
/-- statements (count, first, rows, formulas), changes (count, formulas), slots, input (bytes, count), output, error and its place -/
abbrev MSt : Type := Int × Int × (Nat → Int) × (Nat → Int) × Nat × (Nat → Nat → Int) × Option (Nat → Int) × Option (Nat → Int) × (Nat → Int) × Int × List Int × Int × Int
def blk (A : Nat → Int) (b : Nat) (N : Nat → Int) : Prop := ∀ k : Nat, k < 2342 → A (b + k) = N k
def svB (h : zH) (x : Nat) (s : Option (Nat → Int)) : Prop := ∀ N, s = some N → blk (hI h 182) (2342 * x) N
def sbit (s0 s1 : Option (Nat → Int)) : Int := (if s0.isSome = true then 1 else 0) + (if s1.isSome = true then 2 else 0)
def MM (h : zH) : MSt → Prop
  | (n, top, R, N, c, Ol, s0, s1, I, m, O, ec, ep) => MB n top R N h ∧ (hI h 177 5 = c ∧ ∀ i, i < c → blk (hI h 181) (2342 * (c - 1 - i)) (Ol i)) ∧ (hI h 177 7 = sbit s0 s1 ∧ svB h 0 s0 ∧ svB h 1 s1) ∧ (hI h 185 = I ∧ hI h 177 15 = m) ∧ OU h O ∧ hI h 177 18 = ec ∧ hI h 177 19 = ep
def SS : MSt → Prop
  | (n, top, R, N, c, Ol, s0, s1, _, m, _, _, _) => Prg n top R N ∧ RZ R ∧ NZ N ∧ (c ≤ 10 ∧ ∀ i, i < c → Prg n top R (Ol i) ∧ NZ (Ol i)) ∧ (∀ N2, s0 = some N2 → Prg n top R N2 ∧ NZ N2) ∧ (∀ N2, s1 = some N2 → Prg n top R N2 ∧ NZ N2) ∧ (0 ≤ m ∧ m ≤ 800)
def okMM (A : FA) : Bool := okMB A && rowA A 181 && rowA A 182 && rowA A 185 && rowA A 186 && !inA A 177 5 && !inA A 177 7 && !inA A 177 15 && !inA A 177 17 && !inA A 177 18 && !inA A 177 19
theorem MM_f {σ : MSt} {A : FA} {h h2 : zH} (M : MM h σ) (F : Fr A h h2) (e : okMM A = true) : MM h2 σ := by
  obtain ⟨n, top, R, N, c, Ol, s0, s1, I, m, O, ec, ep⟩ := σ
  simp only [okMM, Bool.and_eq_true, Bool.not_eq_true'] at e
  obtain ⟨⟨⟨⟨⟨⟨⟨⟨⟨⟨e1, e2⟩, e3⟩, e4⟩, e5⟩, e6⟩, e7⟩, e8⟩, e9⟩, e10⟩, e11⟩ := e
  obtain ⟨m1, ⟨m2, m3⟩, ⟨m4, m5, m6⟩, ⟨m7, m8⟩, m9, m10, m11⟩ := M
  refine ⟨MB_f m1 F e1, ⟨(fI F 177 5 e6).trans m2, ?_⟩, ⟨(fI F 177 7 e7).trans m4, ?_, ?_⟩, ⟨(rI F 185 e4).trans m7, (fI F 177 15 e8).trans m8⟩, OU_f m9 F e5 e9, (fI F 177 18 e10).trans m10, (fI F 177 19 e11).trans m11⟩
  · rw [rI F 181 e2]; exact m3
  · unfold svB; rw [rI F 182 e3]; exact m5
  · unfold svB; rw [rI F 182 e3]; exact m6
/-- the reference's call q answers so, and stands so behind it -/
def MC (h : zH) (q : Nat) (as : List zV) (r : (Int × zV) × MSt) : Prop := ∃ h2, zC q (zR (some 177) :: as) h = some (.inl (some r.1.2), h2) ∧ hI h2 177 1 = r.1.1 ∧ MM h2 r.2 ∧ Fr scrA h h2
theorem MC_of {h : zH} {q : Nat} {as : List zV} {a : Int × zV} {σ : MSt} (H : MA h q as a) (M : MM h σ) : MC h q as (a, σ) := by
  obtain ⟨h2, e, k, F⟩ := H
  exact ⟨h2, e, k, MM_f M F rfl, Fr_m F rfl⟩
theorem c_begins {h : zH} (K : KM h) (hI1 : hI h 185 = I) (h0 : 0 ≤ len) (h8 : len ≤ 800) : ∃ h2, zC 217 [zR (some 177), zI len] h = some (.inl none, h2) ∧ TKM h2 I len (tok I len false 0) ∧ hI h2 177 41 = 0 ∧ Fr [(177, some 36), (177, some 37), (177, some 38), (177, some 39), (177, some 40), (177, some 41)] h h2 := by
  have F : Fr [(177, some 36), (177, some 37), (177, some 38), (177, some 39), (177, some 40), (177, some 41)] h (sI (sI (sI (sI h 177 36 len) 177 41 0) 177 37 0) 177 39 0) := Fr_I (Fr_I (Fr_I (Fr_I (Fr_r _ _) rfl) rfl) rfl) rfl
  obtain ⟨h2, e2, T2, F2⟩ := c_advances (I := I) (len := len) (e := 0) (b := false) (KM_f K F rfl) ((rI F 185 rfl).trans hI1) rfl h0 h8 rfl (Int.le_refl _) h0 (by
    rw [show hI (sI (sI (sI (sI h 177 36 len) 177 41 0) 177 37 0) 177 39 0) 177 37 = 0 from rfl]
    decide)
  rw [q_M_begins K, e2, q_M_begins_r24 (KM_f (KM_f K F rfl) F2 rfl)]
  exact ⟨h2, rfl, T2, (fI F2 177 41 rfl).trans rfl, Fr_t F (Fr_m F2 rfl)⟩
theorem c_readsText {h : zH} {R : Nat → Int} (K : KM h) (hI1 : hI h 185 = I) (hR : hI h 183 = R) (hZ : NZ (hI h 179)) (hRZ : RZ R) (h0 : 0 ≤ len) (h8 : len ≤ 800) : ∃ h2, zC 216 [zR (some 177), zI len] h = some (.inl none, h2) ∧ PM h2 I len (txtP I len (begS I len 0 R)) ∧ Fr scrPs h h2 := by
  obtain ⟨h1, e1, A, F1⟩ := l_q_M_readsText_2 (x := len) 2342 0 h K (by omega) (by omega)
  have F2 : Fr scrPs h1 (sI (sI (sI (sI (sI h1 177 10 0) 177 12 (-1)) 177 44 (-1)) 177 45 0) 177 46 (-1)) := Fr_I (Fr_I (Fr_I (Fr_I (Fr_I (Fr_r _ _) rfl) rfl) rfl) rfl) rfl
  have F12 := Fr_t (Fr_m (B := scrPs) F1 rfl) F2
  have hN1 : hI h1 179 = fun _ => 0 := funext fun k => by
    rw [A]
    by_cases c : k < 2342
    · rw [if_pos (by omega)]
    · rw [if_neg (by omega)]; exact hZ k (by omega)
  generalize hg : sI (sI (sI (sI (sI h1 177 10 0) 177 12 (-1)) 177 44 (-1)) 177 45 0) 177 46 (-1) = g at *
  have gN : hI g 179 = fun _ => 0 := by rw [← hg]; exact hN1
  have g10 : hI g 177 10 = 0 := by rw [← hg]; rfl
  have g12 : hI g 177 12 = -1 := by rw [← hg]; rfl
  have g44 : hI g 177 44 = -1 := by rw [← hg]; rfl
  have g45 : hI g 177 45 = 0 := by rw [← hg]; rfl
  have g46 : hI g 177 46 = -1 := by rw [← hg]; rfl
  have gR : hI g 183 = R := by rw [← hg]; exact (rI F1 183 rfl).trans hR
  have gI : hI g 185 = I := (rI F12 185 rfl).trans hI1
  have K1 := KM_f K F12 rfl
  obtain ⟨h3, e3, T3, f3, F3⟩ := c_begins K1 gI h0 h8
  have K3 := KM_f K1 F3 rfl
  have P3 : PM h3 I len (begS I len 0 R) := ⟨K3, T3, f3, fun q => absurd rfl q, ⟨(fI F3 177 10 rfl).trans g10, (fI F3 177 12 rfl).trans g12, (rI F3 183 rfl).trans gR, (rI F3 179 rfl).trans gN⟩, (fI F3 177 44 rfl).trans g44, (fI F3 177 45 rfl).trans g45, (fI F3 177 46 rfl).trans g46⟩
  obtain ⟨h4, e4, P4, F4⟩ := c_takesKey P3 (k := 13) (w := 25) (by decide) (by decide) (by decide)
  obtain ⟨h5, e5, P5, F5⟩ := c_forF (q := 0) (what := 1) P4 (by omega) (by omega) (Or.inr rfl) (X := zBack zY 216 68 71 [some (zR (some 177)), some (zI len), some (zI 2342)] []) (r := fun g => zY 216 71 [some (zR (some 177)), some (zI len), some (zI 2342)] [] g) (fun g K => q_M_readsText_r71 K)
  obtain ⟨h6, e6, P6, F6⟩ := c_forF (q := 1) (what := 1) P5 (by omega) (by omega) (Or.inr rfl) (X := zBack zY 216 81 84 [some (zR (some 177)), some (zI len), some (zI 2342)] []) (r := fun g => zY 216 84 [some (zR (some 177)), some (zI len), some (zI 2342)] [] g) (fun g K => q_M_readsText_r84 K)
  rw [q_M_readsText K, e1, e3, q_M_readsText_r52 K3, e4, q_M_readsText_r58 (PM_K P4), q_M_readsText_58 (PM_K P4), e5, q_M_readsText_71 (PM_K P5), e6]
  have T0 := (tok_TV (I := I) (len := len) (b := false) (e := 0) (Int.le_refl _) h0).1
  have T0 : TV len (begS I len 0 R).1 := T0
  have K1 := kep_tak (I := I) (b := 0) (w := 25) T0
  have K2 := forF_ok (I := I) (q := 0) (what := 1) K1.2.2.2.2.2.1
  have K3 := forF_ok (I := I) (q := 1) (what := 1) K2.1.2.2.2.2.2.1
  have V3 : (forF I len 1 1 (forF I len 0 1 (takP I len 25 (begS I len 0 R)))).2.1.1 = 0 → INV len (forF I len 1 1 (forF I len 0 1 (takP I len 25 (begS I len 0 R)))) := txt_V3 h0
  obtain ⟨h7, e7, P7, F7⟩ := l_readsText (x := 2342) 800 _ h6 P6 V3 K3.1.2.2.2.2.2.1 (by have := K3.1.2.2.2.2.2.1.1; omega)
  exact ⟨h7, e7, P7, Fr_t F12 (Fr_t (Fr_m F3 rfl) (Fr_t F4 (Fr_t F5 (Fr_t F6 F7))))⟩
end STATE
