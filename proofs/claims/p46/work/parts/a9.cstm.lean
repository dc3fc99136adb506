/-! The class: the reading of statements. -/
section CSTM
variable {I : Nat → Int} {len : Int} {h h2 : zH} {p v lo : Nat}
/-- cells made so far -/
def mkd (R : Nat → Int) (n : Int) : Int := 4 + 2 * cntK R 0 n.toNat + 2 * cntK R 1 n.toNat + 6 * cntK R 2 n.toNat
/-- the class where the reference stands so -/
def CPS (h : zH) (I : Nat → Int) (len : Int) (p v lo : Nat) (s : PSt) : Prop := CPe h I len s ∧ CWk h p v lo ∧ hN h ≤ lo + 148 ∧ (s.2.1.1 = 0 → CRo h p v s.2.2.1.1 s.2.2.1.2.2.1 ∧ QF h p v lo s.2.2.1.1 s.2.2.1.1 s.2.2.1.2.2.1 s.2.2.1.2.2.2 ∧ hI h 5 6 = s.2.2.2.1 ∧ hI h 5 7 = s.2.2.2.2.1 ∧ hN h = lo + mkd s.2.2.1.2.2.1 s.2.2.1.1)
/-- what a reading writes -/
def WPP (p v : Nat) : Nat → Nat → Prop := fun a k => WA scrPf a k ∨ Wp p a k ∨ Wv v a k
theorem cnt4 (R : Nat → Int) : ∀ (m : Nat), cntK R 0 m + cntK R 1 m + cntK R 2 m ≤ m
  | 0 => by
    have := (cntK_b R 0 0).2
    have := (cntK_b R 1 0).2
    have := (cntK_b R 2 0).2
    omega
  | m + 1 => by
    have ih := cnt4 R m
    rw [cntK_s, cntK_s, cntK_s]
    by_cases c0 : sv R m 0 = 0
    · rw [if_pos c0, if_neg (by omega), if_neg (by omega)]; omega
    · by_cases c1 : sv R m 0 = 1
      · rw [if_neg c0, if_pos c1, if_neg (by omega)]; omega
      · by_cases c2 : sv R m 0 = 2
        · rw [if_neg c0, if_neg c1, if_pos c2]; omega
        · rw [if_neg c0, if_neg c1, if_neg c2]; omega
theorem mkd_b (R : Nat → Int) (n : Int) : 4 ≤ mkd R n ∧ mkd R n ≤ 4 + 6 * n.toNat := by
  have a := cnt4 R n.toNat
  have := (cntK_b R 0 n.toNat).1
  have := (cntK_b R 1 n.toNat).1
  have := (cntK_b R 2 n.toNat).1
  unfold mkd
  omega
/-- in the middle of the n-th statement: rows stand; its part, keep, less stand from stage 1, 2, 3 on -/
def MID (h : zH) (p v lo : Nat) (n : Int) (st : Nat) (R N : Nat → Int) : Prop := CRo h p v (n + 1) R ∧ QF h p v lo n (if st = 0 then n else n + 1) R N ∧ (1 ≤ st → FX h lo (p + 10) n.toNat (lst N (2 + n))) ∧ (2 ≤ st → FX h lo (v + 1) (sv R n 7).toNat (lst N (26 + n))) ∧ (3 ≤ st → FX h lo (v + 2) (sv R n 7).toNat (lst N (50 + n))) ∧ N (2294 + n).toNat = -1 ∧ N (2318 + n).toNat = 10
theorem MID_A {A : FA} {n : Int} {st : Nat} {R N : Nat → Int} {d e : Nat} (M : MID h p v lo n st R N) (C : CWk h p v lo) (G : Gw (WA A) d e h h2) (s : subA A scrPx = true) (o : okpv p v lo) : MID h2 p v lo n st R N := by
  obtain ⟨a, b, c, x, y, w⟩ := M
  have hp := C.1.2.1
  have hv := C.2.1.2.1
  have o' := id o
  unfold okpv at o'
  have nx := nfx_A s o'.2.2.1 (lo := lo)
  exact ⟨CRo_A a G s o, QF_A b C G s o, fun z => FX_g (c z) G nx hp (fun z => by have := WAx s z; omega), fun z => FX_g (x z) G nx (by omega) (fun z => by have := WAx s z; omega), fun z => FX_g (y z) G nx (by omega) (fun z => by have := WAx s z; omega), w⟩
/-- a formula is read in the middle of a statement -/
theorem c_midForm {q what n : Int} {st : Nat} {R : Nat → Int} {s : PSt} (P : CPe h I len s) (C : CWk h p v lo) (o : okpv p v lo) (hz : hN h + 2 ≤ zVB) (hw : what = 0 ∨ what = 1) (T : TV len s.1) (hq : (q = 2 + n ∧ st = 0) ∨ (q = 26 + n ∧ st = 1) ∨ (q = 50 + n ∧ st = 2)) (n0 : 0 ≤ n ∧ n < 24) (M : s.2.1.1 = 0 → MID h p v lo n st R s.2.2.1.2.2.2) : ∃ h2 f, zC 28 [zR (some 5), zI what] h = some (.inl (some (zR (some f))), h2) ∧ CPe h2 I len (forF I len q what s) ∧ CWk h2 p v lo ∧ FS h2 f ∧ lo ≤ f ∧ f + 1 < hN h2 ∧ ((forF I len q what s).2.1.1 = 0 → MID h2 p v lo n st R (forF I len q what s).2.2.1.2.2.2 ∧ FO0 h2 f (lst (forF I len q what s).2.2.1.2.2.2 q) ∧ (lst (forF I len q what s).2.2.1.2.2.2 q).length ≤ 30) ∧ hN h2 = hN h + 2 ∧ Gw (WA scrPf) 2 0 h h2 := by
  obtain ⟨h2, e2, C2, S2, L2, n2, G2⟩ := c_formC (q := q) P hz hw
  have ff := forF_ok (I := I) (q := q) (what := what) T
  refine ⟨h2, hN h, e2, C2, CWk_A C G2 rfl o, S2, C.2.2.2.2, by omega, fun z => ?_, n2, G2⟩
  have z2 := ff.2 z
  have kp := ff.1.2.2.2.2.1
  refine ⟨?_, L2 z, ?_⟩
  · obtain ⟨a, b, c, x, y, w1, w2⟩ := MID_A (M z2.1) C G2 rfl o
    refine ⟨a, QF_N b n0.1 (by omega) (fun _ _ _ => ⟨rfl, rfl⟩) (fun i hi => kp i (by have := hi n (Int.le_refl _) n0.2; rcases hq with z | z | z <;> rw [z.1] <;> omega)), fun z => FX_l (c z) (fun i i0 i1 => kp i (by rcases hq with q | q | q <;> rw [q.1] <;> omega)), fun z => FX_l (x z) (fun i i0 i1 => kp i (by rcases hq with q | q | q <;> rw [q.1] <;> omega)), fun z => FX_l (y z) (fun i i0 i1 => kp i (by rcases hq with q | q | q <;> rw [q.1] <;> omega)), (kp _ (by rcases hq with q | q | q <;> rw [q.1] <;> omega)).trans w1, (kp _ (by rcases hq with q | q | q <;> rw [q.1] <;> omega)).trans w2⟩
  · have := z2.2
    unfold fmOk at this
    unfold lst
    rw [upto_len]
    simp only [List.length_nil]
    omega
theorem kc_o (o : okpv p v lo) {a k : Nat} (hr : (p ≤ a ∧ a < p + 11) ∨ (v ≤ a ∧ a < v + 5)) (ha : a < 163) (hk : kcB a k = true) : False := by
  have H := (show ∀ a : Fin 90, 74 ≤ a.val → ∀ k : Fin 16, (cR a.val k.val).isNone = true ∧ cSp a.val = false by decide +kernel)
  unfold okpv at o
  unfold kcB at hk
  simp only [Bool.or_eq_true] at hk
  rcases o.2.2.2 with y | y
  · rcases hk with hk | hk
    · obtain ⟨x, hx⟩ := Option.isSome_iff_exists.1 hk
      have := (H ⟨a, by omega⟩ (by show 74 ≤ a; omega) ⟨k, cR_k hx⟩).1
      simp only at this
      rw [hx] at this
      cases this
    · have := (H ⟨a, by omega⟩ (by show 74 ≤ a; omega) 0).2
      simp only at this
      rw [hk] at this
      cases this
  · omega
/-- what stands through a write into a program's or version's row -/
theorem row_keeps {s : PSt} {a j : Nat} {W : Nat → Nat → Prop} (P : CPe h I len s) (C : CWk h p v lo) (o : okpv p v lo) (hz : hN h ≤ zVB) (hr : (p < a ∧ a < p + 11) ∨ (v < a ∧ a < v + 5)) (hW : ∀ b i, W b i ↔ (b = a ∧ i = j)) {h2 : zH} {d e : Nat} (G : Gw W d e h h2) : CPe h2 I len s ∧ CWk h2 p v lo := by
  have z9 : zVB = 10000000 := rfl
  have lh := C.2.2.2.2
  have hp := C.1.2.1
  have hv := C.2.1.2.1
  have o' := id o
  unfold okpv at o'
  refine ⟨CPe_g P G (fun b k z => by rw [hW] at z; omega) (fun b k hb hk z => by rw [hW] at z; exact kc_o o (a := b) (by omega) hb hk) (fun k => by rw [hW, hW, hW, hW]; omega) (by rw [hW, hW]; omega), CWk_g C G (fun k _ z => by rw [hW] at z; omega) (fun k _ z => by rw [hW] at z; omega) (fun k _ z => by rw [hW] at z; omega) o'.2.2.1⟩
/-- what follows when the part of a statement is put, error or not -/
theorem c_putPart {n : Int} {R N : Nat → Int} {f : Nat} {s : PSt} (P : CPe h I len s) (C : CWk h p v lo) (o : okpv p v lo) (F : FS h f) (hf : lo ≤ f) (n0 : 0 ≤ n) (hz : hN h ≤ zVB) (M : s.2.1.1 = 0 → MID h p v lo n 0 R N ∧ FO0 h f (lst N (2 + n)) ∧ (lst N (2 + n)).length ≤ 30) : ∃ h2, zC 45 [zR (some p), zI n, zR (some f)] h = some (.inl none, h2) ∧ CPe h2 I len s ∧ CWk h2 p v lo ∧ (s.2.1.1 = 0 → MID h2 p v lo n 1 R N) ∧ hN h2 = hN h ∧ Gw (WPP p v) 0 0 h h2 := by
  have o' := id o
  unfold okpv at o'
  rw [q_P_putPart C.1 F]
  by_cases c : b_P_has h p n
  · rw [if_pos c]
    have G : Gw (fun b i => b = p + 10 ∧ i = n.toNat) 0 0 h (sR h (p + 10) n.toNat (some f)) := Gw_sR (Gw_r _ _) _ (fun _ => ⟨rfl, rfl⟩)
    obtain ⟨r1, r2⟩ := row_keeps P C o hz (Or.inl (by omega)) (fun _ _ => Iff.rfl) G
    refine ⟨_, rfl, r1, r2, fun z => ?_, rfl, Gw_m G (fun a k _ z => Or.inr (Or.inl (Or.inr (by omega)))) (by omega) (by omega)⟩
    obtain ⟨⟨m1, m2, _, _, _, mw⟩, m3, m4⟩ := M z
    exact ⟨CRo_g m1 G (fun j k hj z => by omega) (fun j k hj z => by omega) (fun k hk z => by omega), QF_put m2 C.1 C.2.1 o (by omega) (by rw [if_pos rfl]; omega) n0, fun _ => ⟨f, zup_s _ _ _ _, FO0_g m3 G (fun k z => by omega) (fun k z => by omega), Or.inr hf, m4⟩, fun z => absurd z (by decide), fun z => absurd z (by decide), mw⟩
  · rw [if_neg c]
    refine ⟨h, rfl, P, C, fun z => absurd ((CRo_has (M z).1.1 n).2 (by omega)) c, rfl, Gw_m (Gw_r _ _) (fun _ _ _ z => z) (by omega) (by omega)⟩
/-- the numbers of loops differ -/
def UN (n : Int) (R : Nat → Int) : Prop := sv R n 0 = 2 ∧ (0 ≤ sv R n 7 ∧ sv R n 7 < 24) ∧ ∀ s, 0 ≤ s → s < n → sv R s 0 = 2 → sv R s 7 ≠ sv R n 7 ∧ 0 ≤ sv R s 7
theorem CRo_num {n m : Int} {R : Nat → Int} (C : CRo h p v m R) (n0 : 0 ≤ n) (n1 : n < m) : f_P_numberOf h p n = sv R n 7 := by
  unfold f_P_numberOf
  rw [if_pos ((CRo_has C n).2 ⟨n0, n1⟩)]
  exact (C.2.2.2.2.1 n n0 n1).1.2.2.2.1
/-- keep (r is 1) or less (r is 2) is put -/
theorem c_putRow {n : Int} {R N : Nat → Int} {f r mq : Nat} {s : PSt} {q num : Int} (P : CPe h I len s) (C : CWk h p v lo) (o : okpv p v lo) (F : FS h f) (hf : lo ≤ f) (n0 : 0 ≤ n) (hz : hN h ≤ zVB) (hr : (r = 1 ∧ mq = 125 ∧ q = 26 + n) ∨ (r = 2 ∧ mq = 127 ∧ q = 50 + n)) (U : UN n R) (M : s.2.1.1 = 0 → num = sv R n 7 ∧ MID h p v lo n r R N ∧ FO0 h f (lst N q) ∧ (lst N q).length ≤ 30) : ∃ h2, zC mq [zR (some v), zI num, zR (some f)] h = some (.inl none, h2) ∧ CPe h2 I len s ∧ CWk h2 p v lo ∧ (s.2.1.1 = 0 → MID h2 p v lo n (r + 1) R N) ∧ hN h2 = hN h ∧ Gw (WPP p v) 0 0 h h2 := by
  have o' := id o
  unfold okpv at o'
  have hp := C.1.2.1
  have hv := C.2.1.2.1
  have e : zC mq [zR (some v), zI num, zR (some f)] h = (if b_V_fits num then some (.inl none, sR h (v + r) num.toNat (some f)) else some (.inl none, h) : zO) := by
    rcases hr with ⟨a, b, _⟩ | ⟨a, b, _⟩
    · subst a b; exact q_V_putKeep C.2.1 F
    · subst a b; exact q_V_putLess C.2.1 F
  rw [e]
  by_cases c : b_V_fits num
  · rw [if_pos c]
    have G : Gw (fun b i => b = v + r ∧ i = num.toNat) 0 0 h (sR h (v + r) num.toNat (some f)) := Gw_sR (Gw_r _ _) _ (fun _ => ⟨rfl, rfl⟩)
    obtain ⟨r1, r2⟩ := row_keeps P C o hz (Or.inr (by omega)) (fun _ _ => Iff.rfl) G
    refine ⟨_, rfl, r1, r2, fun z => ?_, rfl, Gw_m G (fun a k _ z => Or.inr (Or.inr (Or.inr (by omega)))) (by omega) (by omega)⟩
    obtain ⟨en, ⟨m1, m2, m5, m6, m7, mw⟩, m3, m4⟩ := M z
    subst en
    have nx : nfx lo (fun b i => b = v + r ∧ i = (sv R n 7).toNat) := fun g hg k z => by omega
    have own : FX (sR h (v + r) (sv R n 7).toNat (some f)) lo (v + r) (sv R n 7).toNat (lst N q) := ⟨f, zup_s _ _ _ _, FO0_g m3 G (fun k z => by omega) (fun k z => by omega), Or.inr hf, m4⟩
    have q2 := QF_row m2 C.1 C.2.1 o (r := r) (num := (sv R n 7).toNat) (by omega) (fun s s0 s1 k2 => by have := U.2.2 s s0 s1 k2; have := U.2.1; omega) F (Or.inr hf)
    rw [if_neg (by omega)] at q2
    refine ⟨CRo_g m1 G (fun j k hj z => by omega) (fun j k hj z => by omega) (fun k hk z => by omega), by rw [if_neg (by omega)]; exact q2, fun _ => FX_g (m5 (by omega)) G nx hp (by omega), fun _ => ?_, fun h3 => ?_, mw⟩
    · rcases hr with ⟨a, b, b2⟩ | ⟨a, b, b2⟩
      · subst a; rw [← b2]; exact own
      · exact FX_g (m6 (by omega)) G nx (by omega) (by omega)
    · rcases hr with ⟨a, b, b2⟩ | ⟨a, b, b2⟩
      · omega
      · subst a; rw [← b2]; exact own
  · rw [if_neg c]
    refine ⟨h, rfl, P, C, fun z => absurd ?_ c, rfl, Gw_m (Gw_r _ _) (fun _ _ _ z => z) (by omega) (by omega)⟩
    have := (M z).1
    have := U.2.1
    unfold b_V_fits
    omega
end CSTM

