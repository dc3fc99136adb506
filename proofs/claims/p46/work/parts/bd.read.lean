/-! The start: the class reads its first text. -/
section BREAD
variable {h h2 : zH} {A : FA}
/-- what is written before the text is read -/
def Wbd (a k : Nat) : Prop := (a = 0 ∧ k = 1) ∨ a = 1 ∨ (5 ≤ a ∧ a < 10)
def bdok (A : FA) : Bool := A.all fun x => Nat.beq x.1 1 || (Nat.ble 5 x.1 && Nat.blt x.1 10) || (Nat.beq x.1 0 && (match x.2 with | some s => Nat.beq s 1 | none => false))
theorem Gw_lt (F : Fr A h h2) (w : bdok A = true) : Gw Wbd 0 0 h h2 :=
  Gw_of (W := Wbd) F (fun a k i => by
    obtain ⟨⟨b, o⟩, hy, i⟩ := List.any_eq_true.1 i
    have q := List.all_eq_true.1 w _ hy
    unfold inB at i
    simp only [Bool.and_eq_true, Bool.or_eq_true, Nat.beq_eq, Nat.ble_eq, Nat.blt_eq] at i q
    obtain ⟨i1, i2⟩ := i
    unfold Wbd
    rcases q with (q | q) | ⟨q1, q2⟩
    · omega
    · omega
    · cases o with
      | none => exact absurd q2 (by decide)
      | some s =>
        have i2 : s = k := Nat.eq_of_beq_eq_true i2
        have q2 : s = 1 := Nat.eq_of_beq_eq_true q2
        omega)
theorem Wbd_lt {a k : Nat} (z : Wbd a k) : a < 10 := by unfold Wbd at z; omega
theorem FRS_lt (S : FRS h 74 85) (F : Fr A h h2) (w : bdok A = true) : FRS h2 74 85 :=
  FRS_g S (Gw_lt F w) (fun j k _ z => by have := Wbd_lt z; omega) (fun j k _ _ z => by have := Wbd_lt z; omega) (fun k _ z => by have := Wbd_lt z; omega)
theorem c_B_read (K : KC h) (Ks : KS h) (S : FRS h 74 85) (hn : hN h = 163) (r13 : hR h 0 13 = some 74) (r14 : hR h 0 14 = some 85) : ∃ h2 h1, zY 146 162 [some (zR (some 0))] [] h = zY 146 202 [some (zR (some 0))] [] h2 ∧ (KC h2 ∧ KS h2) ∧ KC h1 ∧ Gw Wbd 0 0 h h1 ∧ Gw (WPY 74 85) 5000 0 h1 h2 ∧ (hN h2 = hN h1 + mkd fpT.2.2.1.2.2.1 fpT.2.2.1.1) ∧ ((∀ a, (74 ≤ a ∧ a < 85 + 5) ∨ (hN h1 ≤ a ∧ a < hN h2) → mutB a = false) → PO h2 74 fpT.2.2.1.1 fpT.2.2.1.2.2.1 ∧ PA h2 74 fpT.2.2.1.1 fpT.2.2.1.2.2.1 fpT.2.2.1.2.2.2 ∧ VO h2 85 fpT.2.2.1.1 fpT.2.2.1.2.2.1 fpT.2.2.1.2.2.2) := by
  have z9 : zVB = 10000000 := rfl
  have Q1 := qc_90 (h := h) hn (PTC K 0 11 rfl rfl) (K.2.1 0 rfl).2 (PRC K 0 0 1 rfl)
  obtain ⟨h1, e1, i1, F1⟩ := c_fp K Ks
  have n1 : hN h1 = 163 := F1.1.trans hn
  have K1 := KC_f K F1 rfl
  have Ks1 := KS_f Ks F1 rfl
  have S1 := FRS_lt S F1 rfl
  have q13 : hR h1 0 13 = some 74 := (fR F1 0 13 rfl).trans r13
  have q14 : hR h1 0 14 = some 85 := (fR F1 0 14 rfl).trans r14
  have Q2 := qc_91 (h := h1) n1 (PTC K1 0 11 rfl rfl) (K1.2.1 0 rfl).2 (PTC K1 5 4 rfl rfl) (K1.2.1 5 rfl).2 (PRC K1 0 7 5 rfl)
  have F2 : Fr [(0, some 1)] h1 (gc76 h1) := Fr_I (Fr_r _ _) rfl
  have i2 : ∀ k : Nat, (k : Int) < 95 → hI (gc76 h1) 1 k = fpI k := fun k hk => (congrFun (rI F2 1 rfl) k).trans (i1 k hk)
  have K2 := KC_f K1 F2 rfl
  have Ks2 := KS_f Ks1 F2 rfl
  have S2 := FRS_lt S1 F2 rfl
  have m13 : hR (gc76 h1) 0 13 = some 74 := (fR F2 0 13 rfl).trans q13
  have m14 : hR (gc76 h1) 0 14 = some 85 := (fR F2 0 14 rfl).trans q14
  have n2 : hN (gc76 h1) = 163 := F2.1.trans n1
  generalize gc76 h1 = g2 at *
  obtain ⟨h3, e3, P3, F3⟩ := c_beginC K2 Ks2 (I := hI g2 1) (len := 95) rfl (by omega) (by omega) (p := (0, -1, fun _ => 0, fun _ => 0)) (w := (-1, 0, -1))
  have K3 := KC_f K2 F3 rfl
  have S3 := FRS_lt S2 F3 rfl
  have n3 : hN h3 = 163 := F3.1.trans n2
  have Q3 := qc_92 (h := h3) n3 (PTC K3 0 11 rfl rfl) (K3.2.1 0 rfl).2 (PTC K3 5 4 rfl rfl) (K3.2.1 5 rfl).2 (PRC K3 0 7 5 rfl) ((fR F3 0 13 rfl).trans m13) ((fR F3 0 14 rfl).trans m14)
  obtain ⟨h4, e4, KK, f4, a4, o4, b4, G4⟩ := c_descC2 (I := hI g2 1) (R := fun _ => 0) P3 S3 (by rw [n3]; exact ⟨by decide, by decide, by decide, Or.inl ⟨by decide, by decide⟩⟩) (by omega) (by omega) (by omega) (fp_run i2 _ rfl)
  obtain ⟨o5, o6⟩ := o4 fp_err.1
  refine ⟨h4, h3, ?_, KK, K3, ?_, G4, o5, o6⟩
  · refine Q1.trans ((congrArg (fun r => zBack zY 146 170 173 [some (zR (some 0))] [zR (some 0)] r) e1).trans (Q2.trans ?_))
    refine (congrArg (fun r => zBack zY 146 184 187 [some (zR (some 0))] [] r) e3).trans (Q3.trans ?_)
    exact congrArg (fun r => zBack zY 146 199 202 [some (zR (some 0))] [] r) e4
  · have G := Gw_t (Gw_t (Gw_lt F1 rfl) (Gw_lt F2 rfl) (fun _ _ _ z => z)) (Gw_lt F3 rfl) (fun _ _ _ z => z)
    exact Gw_m G (fun _ _ _ z => z) (by omega) (by omega)
end BREAD

