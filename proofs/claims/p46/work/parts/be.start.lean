/-! The start: the class stands for the first text. -/
section BEX
variable {h h1 h2 g : zH} {e : Nat} {h0 : zH} {p v : Nat} {n top : Int} {R N : Nat → Int}
theorem KS_z (L : Nat) (xs : Nat → Int32) : KS (zH0 L xs) := fun a ha => by
  have n : ¬ a = zVB := by omega
  refine ⟨(hT_0 a).trans (hT_0 a).symm, ?_, ?_, funext fun j => (hJ_0 a j).trans (hJ_0 a j).symm⟩
  · rw [hL_0, hL_0, if_neg n, if_neg n]
  · funext j
    rw [hI_0, hI_0, if_neg n, if_neg n]
theorem BB_VF (B : BB 163 105 13 1 13 e h0 h) {i : Nat} (hi : i < 13) : VF h (vad i) := by
  have V := BB_vs B hi
  have f3 : FS h 3 := BB_3 B (by decide) (by decide)
  have r := (B.2.2.2.2.1 i hi).2
  have at3 : ∀ {a k : Nat}, hR h a k = some 3 → FSAt h a k := fun q => ⟨3, q, f3, rfl⟩
  exact ⟨V, at3 r.2.1.1, at3 r.2.1.2.1, fun j hj => ⟨at3 (r.2.2 j hj).1, at3 (r.2.2 j hj).2.1⟩⟩
theorem BB_HO (B : BB 163 105 13 1 13 e h0 h) (n : Int) (R : Nat → Int) (Ol : Nat → Nat → Int) : HO h n R 0 Ol none none := by
  have z10 := B.2.2.2.1 10 (by decide) rfl
  have z13 := B.2.2.2.1 13 (by decide) rfl
  refine ⟨⟨by rw [z10]; rfl, by decide⟩, ⟨0, by decide, by rw [z10]; rfl, fun i hi => ?_, fun i hi => absurd hi (by omega)⟩, fun x hx => ?_, ⟨by rw [z13]; rfl, fun N q => by cases q⟩, ⟨by rw [z13]; rfl, fun N q => by cases q⟩⟩
  · have q := BB_VF B (i := i) (by omega)
    unfold vad at q
    rw [if_pos (by omega)] at q
    exact q
  · have q := BB_VF B (i := 10 + x) (by omega)
    unfold vad at q
    rw [if_pos (by omega), show 14 + 5 * (10 + x) = 64 + 5 * x by omega] at q
    exact q
theorem bd_mut {a k : Nat} (z : Wbd a k) : mutB a = true := by
  unfold Wbd at z
  have : a = 0 ∨ a = 1 ∨ a = 5 ∨ a = 6 ∨ a = 7 ∨ a = 8 ∨ a = 9 := by omega
  rcases this with rfl | rfl | rfl | rfl | rfl | rfl | rfl <;> rfl
theorem nf_bd (h : zH) : nf Wbd h := fun f _ => ⟨fun m k z => absurd (bd_mut z) (by rw [m]; decide), fun m k z => absurd (bd_mut z) (by rw [m]; decide)⟩
theorem nf_py (P : PS h p) (V : VS h v) : nf (WPY p v) h := nf_or (nf_A (A := scrPy) rfl h) (nf_or (nf_p P) (nf_v V))
theorem WPY_c {a k : Nat} (z : WPY 74 85 a k) : (5 ≤ a ∧ a ≤ 9) ∨ (74 ≤ a ∧ a < 90) := by
  rcases z with z | z | z
  · exact Or.inl (Wld (WA_m rfl z))
  · unfold Wp at z; omega
  · unfold Wv at z; omega
/-- the first text's program -/
theorem fp_all : (fpT.2.2.1.2.2.1 = upL (fun _ => 0) mRls ∧ fpT.2.2.1.2.2.2 = upL (fun _ => 0) mNls) ∧ (RZ (upL (fun _ => 0) mRls) ∧ NZ (upL (fun _ => 0) mNls)) ∧ Prg 4 0 (upL (fun _ => 0) mRls) (upL (fun _ => 0) mNls) ∧ RX 4 (upL (fun _ => 0) mRls) := by
  have ok : ZP fpT ∧ (fpT.2.1.1 = 0 → INV 95 fpT ∧ fpT.2.2.2.1 = -1 ∧ Prg fpT.2.2.1.1 fpT.2.2.1.2.1 fpT.2.2.1.2.2.1 fpT.2.2.1.2.2.2) := txtP_ok (I := fpI) (len := 95) (fa := 0) (R := fun _ => 0) (by decide) (by decide) (fun _ _ => rfl)
  have fe := fp_err
  have fR := fp_R
  have fN := fp_N
  have zRr : ∀ x, x ∈ mRls → x.1 < 240 := by decide +kernel
  have zNn : ∀ x, x ∈ mNls → x.1 < 2342 := by decide +kernel
  generalize fpT = T at *
  obtain ⟨t, ⟨f, fa⟩, ⟨n', top', R', N'⟩, row, sec, last⟩ := T
  obtain ⟨e1, e2, e3⟩ := fe
  have e1 : f = 0 := e1
  have e2 : n' = 4 := e2
  have e3 : top' = 0 := e3
  subst e1 e2 e3
  have z : RZ R' ∧ NZ N' := ok.1
  have gR : R' = upL (fun _ => 0) mRls := funext fun k => by
    by_cases c : k < 240
    · exact fR ⟨k, c⟩
    · rw [upL_o (m := 240) (by omega) _ _ zRr]
      exact z.1 k (by omega)
  have gN : N' = upL (fun _ => 0) mNls := funext fun k => by
    by_cases c : k < 2342
    · exact fN ⟨k, c⟩
    · rw [upL_o (m := 2342) (by omega) _ _ zNn]
      exact z.2 k (by omega)
  obtain ⟨i1, _, i3⟩ := ok.2 rfl
  have V : IVR 4 0 R' row sec last := i1.1
  have P : Prg 4 0 R' N' := i3
  refine ⟨⟨gR, gN⟩, ?_⟩
  rw [← gR, ← gN]
  exact ⟨z, P, fun s h0 h1 => by
    have q := V.2.2.2.2.2.2.2.2.2 s h0 h1
    exact ⟨q.1, q.2.1, q.2.2.1⟩⟩
def fpS (ec ep : Int) : MSt := (4, 0, upL (fun _ => 0) mRls, upL (fun _ => 0) mNls, 0, (fun _ _ => 0), none, none, (fun _ => 0), 0, [], ec, ep)
theorem fp_mk : mkd fpT.2.2.1.2.2.1 fpT.2.2.1.1 = 14 := by decide +kernel
theorem Gw_F {A : FA} (F : Fr A h h2) (w : (A.all fun x => Nat.blt x.1 9000000) = true) : Gw (fun a _ => a < 9000000) 0 0 h h2 :=
  Gw_of (W := fun a _ => a < 9000000) F (fun a k i => by
    obtain ⟨y, hy, i⟩ := List.any_eq_true.1 i
    have := List.all_eq_true.1 w y hy
    have : y.1 < 9000000 := Nat.le_of_ble_eq_true this
    unfold inB at i
    simp only [Bool.and_eq_true] at i
    have : y.1 = a := Nat.eq_of_beq_eq_true i.1
    show a < 9000000
    omega)
/-- a new class's object -/
theorem c_newB (hn : hN h = 0) (Ks0 : KS h) : ∃ h2, zC 146 [zR (some 0)] (hNew h 11 15) = some (.inl none, h2) ∧ hN h2 = 177 ∧ CJ h2 74 85 (fpS 0 (-1)) ∧ Gw W0 177 20000 h h2 := by
  have z9 : zVB = 10000000 := rfl
  obtain ⟨h1, e1, B⟩ := c_B_alloc hn
  have b1 := B.1.2
  have G1 : Gw W0 163 11998 h h1 := B.2.2.2.2.2.2.2
  have K1 := BB_K B
  have Ks1 := KS_g Ks0 G1 cl_0
  have S1 := BB_frs B
  have H1 := BB_HO B 4 (upL (fun _ => 0) mRls) (fun _ _ => 0)
  have z0 := B.2.2.2.1 0 (by decide) rfl
  have r13 : hR h1 0 13 = some 74 := BB_h B rfl
  have r14 : hR h1 0 14 = some 85 := BB_h B rfl
  obtain ⟨h3, h2, e2, ⟨K3, Ks3⟩, K2, G2, G3, n3, o3⟩ := c_B_read K1 Ks1 S1 b1 r13 r14
  obtain ⟨⟨gR0, gN0⟩, _, P, X⟩ := fp_all
  rw [fp_mk] at n3
  rw [gR0, gN0, fp_err.2.1] at o3
  have n2 : hN h2 = 163 := by have := G2.1; omega
  have n3 : hN h3 = 177 := by omega
  have S2 : FRS h2 74 85 := FRS_g S1 G2 (fun j k _ z => by have := Wbd_lt z; omega) (fun j k _ _ z => by have := Wbd_lt z; omega) (fun k _ z => by have := Wbd_lt z; omega)
  have H2 := HO_g H1 K1 G2 (nf_bd h1) (fun a k w z => by have := Wbd_lt z; omega)
  have H3 := HO_g H2 K2 G3 (nf_py S2.1 S2.2.1) (fun a k w z => by have := WPY_c z; omega)
  have w0 : ∀ k, ¬ WPY 74 85 0 k := fun k z => by have := WPY_c z; omega
  have i0 : ∀ k, k ≠ 1 → hI h3 0 k = 0 := fun k hk => by
    rw [gI G3 (by omega) (w0 k), gI G2 (by omega) (fun z => by unfold Wbd at z; omega), z0]
  have mm : ∀ a, (74 ≤ a ∧ a < 85 + 5) ∨ (hN h2 ≤ a ∧ a < hN h3) → mutB a = false := fun a ha => by
    have key : ∀ a : Fin 177, (74 ≤ a.val ∧ a.val < 85 + 5) ∨ (163 ≤ a.val ∧ a.val < 177) → mutB a.val = false := by decide +kernel
    rw [n2, n3] at ha
    exact key ⟨a, by omega⟩ ha
  obtain ⟨PO3, PA3, VO3⟩ := o3 mm
  have q13 : hR h3 0 13 = some 74 := (gR G3 (by omega) (w0 13)).trans ((gR G2 (by omega) (fun z => by unfold Wbd at z; omega)).trans r13)
  have q14 : hR h3 0 14 = some 85 := (gR G3 (by omega) (w0 14)).trans ((gR G2 (by omega) (fun z => by unfold Wbd at z; omega)).trans r14)
  have F4 : Fr [(0, some 1), (0, some 5)] h3 (gc77 h3) := Fr_I (Fr_I (Fr_r _ _) rfl) rfl
  have Q3 := qc_93 (h := h3) n3 (PTC K3 0 11 rfl rfl) (K3.2.1 0 rfl).2 (PTC K3 132 1 rfl rfl) (K3.2.1 132 rfl).2 (PRC K3 0 11 132 rfl) q13 q14
  have f1 : hI (gc77 h3) 0 1 = 0 := rfl
  have f5 : hI (gc77 h3) 0 5 = -1 := rfl
  have B4 : Jb (gc77 h3) 74 85 (fpS 0 (-1)) := ⟨CB_f ⟨K3, Ks3, PO3, PA3, VO3⟩ F4 rfl, HO_f H3 K3 F4 rfl, ⟨(fR F4 0 13 rfl).trans q13, (fR F4 0 14 rfl).trans q14⟩, Or.inl rfl, ⟨f1, fun k hk => absurd hk (by omega)⟩, ⟨(fI F4 0 3 rfl).trans (i0 3 (by decide)), by decide, rfl⟩, (fI F4 0 4 rfl).trans (i0 4 (by decide)), f5⟩
  have n4 : hN (gc77 h3) = 177 := F4.1.trans n3
  have G4 := Gw_F F4 rfl
  generalize gc77 h3 = h4 at *
  obtain ⟨h5, e5, J5, F5⟩ := J_look B4 P
  have n5 : hN h5 = 177 := F5.1.trans n4
  refine ⟨h5, ?_, n5, J5, ?_⟩
  · exact e1.trans (e2.trans (Q3.trans ((congrArg (fun r => zBack zY 146 224 227 [some (zR (some 0))] [] r) e5).trans (qc_94 n5))))
  · have w9 : ∀ a, (a < hN h ∨ zVB ≤ a) → 9000000 ≤ a := fun a ha => by omega
    have Ga : Gw W0 _ _ h h2 := Gw_t G1 G2 (fun a k ha z => by have := w9 a ha; have := Wbd_lt z; omega)
    have Gb : Gw W0 _ _ h h3 := Gw_t Ga (Gw_d (d2 := 14) G3 (by omega)) (fun a k ha z => by have := w9 a ha; have := WPY_c z; omega)
    have Gc : Gw W0 _ _ h h4 := Gw_t Gb G4 (fun a k ha z => by have := w9 a ha; have z : a < 9000000 := z; omega)
    have Gd : Gw W0 _ _ h h5 := Gw_t Gc (Gw_F F5 rfl) (fun a k ha z => by have := w9 a ha; have z : a < 9000000 := z; omega)
    exact Gw_m Gd (fun _ _ _ z => z) (by decide) (by decide)
end BEX

