/-! The class: a text loaded. -/
section CLOAD
variable {h h2 : zH} {p v : Nat} {n top : Int} {R N N2 : Nat → Int} {c c2 : Nat} {Ol Ol2 : Nat → Nat → Int} {s0 s1 s2 s3 : Option (Nat → Int)} {I I2 : Nat → Int} {m m2 : Int} {O O2 : List Int} {ec ep : Int} {W : Nat → Nat → Prop} {d e : Nat} {A : FA}
theorem hR_s (h : zH) (a k : Nat) (x : Option Nat) : hR (sR h a k x) a k = x := zup_s _ _ _ _
theorem hR_n (h : zH) {a k b j : Nat} (x : Option Nat) (z : ¬ (b = a ∧ j = k)) : hR (sR h a k x) b j = hR h b j := zup_n _ _ _ _ _ _ z
theorem Gw_d {d2 : Nat} (G : Gw W d e h h2) (b : hN h2 ≤ hN h + d2) : Gw W d2 e h h2 := ⟨⟨G.1.1, b, G.1.2.2⟩, G.2⟩
abbrev scrLd : FA := scrPb ++ scrPy
theorem Wld {a k : Nat} (w : WA scrLd a k) : 5 ≤ a ∧ a ≤ 9 := by
  have w : inA scrLd a k = true := w
  obtain ⟨y, hy, i⟩ := List.any_eq_true.1 w
  have := (show (scrLd.all fun x => decide (5 ≤ x.1 ∧ x.1 ≤ 9)) = true by decide)
  have := of_decide_eq_true (List.all_eq_true.1 this y hy)
  unfold inB at i
  simp only [Bool.and_eq_true] at i
  have : y.1 = a := Nat.eq_of_beq_eq_true i.1
  omega
theorem WPY_ld {P V a k : Nat} (hP : hN h ≤ P) (hV : hN h ≤ V) (hz : V + 5 ≤ zVB) (hz2 : P + 11 ≤ zVB) (ha : a < hN h ∨ zVB ≤ a) (w : WPY P V a k) : WA scrLd a k := by
  rcases w with w | w | w
  · exact WA_m rfl w
  · unfold Wp at w; omega
  · unfold Wv at w; omega
/-- what a program's new cells hold stands for the class -/
theorem k_load (J : CJ h p v (n, top, R, N, c, Ol, s0, s1, I, m, O, ec, ep)) (hm : 0 ≤ m ∧ m ≤ 800) (hRz : RZ R) (h99 : 178 ≤ hN h) (hz : hN h + 400 ≤ zVB) (len : Int) : CC h 160 [zI len] (t3 0 1 0) (aLoad len (n, top, R, N, c, Ol, s0, s1, I, m, O, ec, ep)) := by
  have K := J_K J
  have hq := q_B_load (h := h) (x1 := len) K
  rw [rq_length K J.2.2.2.2.1.1 len] at hq
  unfold aLoad
  simp only
  by_cases cl : 0 ≤ len ∧ len ≤ m
  · rw [if_pos cl] at hq ⊢
    have len8 : len ≤ 800 := by omega
    have ok := txtP_ok (I := I) (len := len) (fa := 0) (R := R) cl.1 len8 hRz
    -- the new program and version
    obtain ⟨h1, e1, P1, z1, r1, n1, G1⟩ := c_newP K (by omega)
    have K1 := KC_0 K G1
    obtain ⟨h2, e2, V2, v2, w2, n2, G2⟩ := c_newV K1 (by omega)
    have K2 := KC_0 K1 G2
    have P2 : PS h2 (hN h) := PS_g P1 G2 (fun _ _ => id)
    have J2 := CJ_0 (CJ_0 J G1) G2
    have Ks2 := (CA_B J2.1).2.1
    have F2 : FRS h2 (hN h) (hN h1) := ⟨P2, V2, fun j hj => (congrFun (grI G2 (Or.inl (by omega)) (fun _ => id)) j).trans (by have := z1 0 (by decide) j; exact this), fun i hi => (congrFun (grR G2 (Or.inl (by omega)) (fun _ => id)) i).trans (r1 i hi), w2⟩
    obtain ⟨h3, e3, P3, F3⟩ := c_beginC K2 Ks2 rfl cl.1 len8 (p := (0, -1, R, fun _ => 0)) (w := (-1, 0, -1))
    have cg : ∀ k : Nat, (k : Int) < len → hI h2 1 k = I k := fun k hk => J2.2.2.2.2.1.2 k (by omega)
    have n3 : hN h3 = hN h + 16 := by rw [F3.1]; omega
    have G3 : Gw (WA scrPb) 0 0 h2 h3 := Gw_of F3 (fun _ _ z => z)
    have big : ∀ a k, 163 ≤ a → ¬ WA scrPb a k := fun a k ha => WA_big (A := scrPb) rfl ha k
    have F3r : FRS h3 (hN h) (hN h1) := FRS_g F2 G3 (fun j k _ => big _ k (by omega)) (fun j k _ _ => big _ k (by omega)) (fun k _ => big _ k (by omega))
    have ov : okpv (hN h) (hN h1) (hN h3) := by unfold okpv; omega
    obtain ⟨h4, e4, ⟨K4, Ks4⟩, f4, a4, o4, b4, G4⟩ := c_descC (I := hI h2 1) (R := R) P3 F3r ov (by omega) cl.1 len8 rfl
    have tc : txtP (hI h2 1) len (begS (hI h2 1) len 0 R) = txtP I len (begS I len 0 R) := txt_c cg 0 R
    rw [tc] at f4 a4 o4
    -- all in one
    have G04 : Gw (WA scrLd) 164 400 h h4 := by
      have Ga : Gw (WA scrLd) 11 254 h h1 := Gw_m G1 (fun _ _ _ z => False.elim z) (Nat.le_refl _) (Nat.le_refl _)
      have Gb : Gw (WA scrLd) _ _ h h2 := Gw_t Ga G2 (fun _ _ _ z => False.elim z)
      have Gc : Gw (WA scrLd) _ _ h h3 := Gw_t Gb G3 (fun _ _ _ z => WA_m rfl z)
      have Gd : Gw (WA scrLd) _ _ h h4 := Gw_t Gc G4 (fun a k ha z => WPY_ld (Nat.le_refl _) (by omega) (by omega) (by omega) ha z)
      exact Gw_m (Gw_d (d2 := 164) Gd (by omega)) (fun _ _ _ z => z) (Nat.le_refl _) (by decide)
    have nfx : nf (WA scrLd) h := nf_A (A := scrLd) rfl h
    have J4 := CJ_g J G04 K4 (fun a k z => by have := Wld z; omega) nfx (HO_g J.2.1 K G04 nfx (fun a k hw z => by have := Wld z; omega)) (CI_g J.2.2.2.2.1 K G04 (fun z => by have := Wld z; omega) (fun k z => by have := Wld z; omega)) (CO_g J.2.2.2.2.2.1 K G04 (fun z => by have := Wld z; omega) (fun k z => by have := Wld z; omega))
    have P4 : PS h4 (hN h) := PS_g F3r.1 G4 (fun k hk z => by
      rcases z with z | z | z
      · have := WAy z; omega
      · unfold Wp at z; omega
      · unfold Wv at z; omega)
    have V4 : VS h4 (hN h1) := VS_g F3r.2.1 G4 (fun k hk z => by
      rcases z with z | z | z
      · have := WAy z; omega
      · unfold Wp at z; omega
      · unfold Wv at z; omega)
    obtain ⟨h5, e5, J5, F5⟩ := c_closeI J4 f4 a4
    have K5 := J_K J5
    have P5 : PS h5 (hN h) := PS_f P4 F5 rfl (mutB_hi h99)
    have V5 : VS h5 (hN h1) := VS_f V4 F5 rfl (mutB_hi (by omega))
    have G04c : Gw Wc 164 400 h h4 := Gw_m G04 (fun a k _ z => (Or.inl (by have := Wld z; omega) : Wc a k)) (Nat.le_refl _) (Nat.le_refl _)
    have G05 : Gw Wc 164 400 h h5 := Gw_m (Gc_t G04c (Gc_f F5 rfl)) (fun _ _ _ z => z) (Nat.le_refl _) (Nat.le_refl _)
    have n5 : hN h5 ≤ hN h + 164 := G05.1.2.1
    rw [q_B_load_r5 K, q_B_load_5 K (by omega), e1, q_B_load_r16 K1 P1, q_B_load_17 K1 (by omega) P1, e2, q_B_load_r28 K2 P2 V2, e3, q_B_load_r37 (KC_f K2 F3 rfl) F3r.1 F3r.2.1, e4, q_B_load_r46 K4 P4 V4, e5] at hq
    generalize txtP I len (begS I len 0 R) = T at *
    obtain ⟨t, ⟨f, fa⟩, ⟨n', top', R', N'⟩, row, sec, last⟩ := T
    have f4 : hI h4 5 0 = f := f4
    have o4 : f = 0 → hN h4 = hN h3 + mkd R' n' ∧ ((∀ a, hN h ≤ a → a < hN h4 → mutB a = false) → PO h4 (hN h) n' R' ∧ PA h4 (hN h) n' R' N' ∧ VO h4 (hN h1) n' R' N') := o4
    have ok : ZP (t, ((f, fa) : Int × Int), ((n', top', R', N') : Int × Int × (Nat → Int) × (Nat → Int)), row, sec, last) ∧ (f = 0 → INV len (t, ((f, fa) : Int × Int), ((n', top', R', N') : Int × Int × (Nat → Int) × (Nat → Int)), row, sec, last) ∧ row = -1 ∧ Prg n' top' R' N') := ok
    have J5 : CJ h5 p v (n, top, R, N, c, Ol, s0, s1, I, 0, O, f, (if f = 0 then -1 else fa)) := J5
    have hq : zC 160 [zR (some 0), zI len] h = zBack zY 160 47 50 [some (zR (some 0)), some (zI len), some (zR (some (hN h))), some (zR (some (hN h1)))] [] (if f = 0 then some (.inl none, h5) else some (.inr 1, hNew h5 0 6)) := hq
    show CC h 160 [zI len] (t3 0 1 0) (if f = 0 then ((0, zI n'), (n', top', R', N', 0, Ol, none, none, I, 0, O, 0, -1)) else ((2, zI 0), (n, top, R, N, c, Ol, s0, s1, I, 0, O, f, fa)))
    by_cases cf : f = 0
    · rw [if_pos cf] at hq ⊢
      rw [if_pos cf, cf] at J5
      obtain ⟨_, _, Q'⟩ := ok.2 cf
      obtain ⟨_, o4b⟩ := o4 cf
      obtain ⟨PO4, PA4, VO4⟩ := o4b (fun a ha _ => mutB_hi (by omega))
      -- the fields, the history
      have F6 : Fr [(0, some 13), (0, some 14)] h5 (sR (sR h5 0 13 (some (hN h))) 0 14 (some (hN h1))) := Fr_R (Fr_R (Fr_r _ _) rfl) rfl
      have rp6 : hR (sR (sR h5 0 13 (some (hN h))) 0 14 (some (hN h1))) 0 13 = some (hN h) := by
        rw [hR_n _ _ (by decide)]
        exact hR_s _ _ _ _
      have rv6 : hR (sR (sR h5 0 13 (some (hN h))) 0 14 (some (hN h1))) 0 14 = some (hN h1) := hR_s _ _ _ _
      rw [q_B_load_r50 K5 P5 V5] at hq
      generalize sR (sR h5 0 13 (some (hN h))) 0 14 (some (hN h1)) = h6 at *
      have K6 := KC_f K5 F6 rfl
      obtain ⟨h7, e7, H7, F7⟩ := c_forget (n2 := n') (R2 := R') (Ol2 := Ol) K6 (HO_f J5.2.1 K5 F6 rfl)
      have K7 := KC_f K6 F7 rfl
      have F57 : Fr [(0, some 13), (0, some 14), (10, some 0), (13, none)] h5 h7 := Fr_t (Fr_m F6 rfl) (Fr_m F7 rfl)
      have F47 : Fr [(0, some 13), (0, some 14), (10, some 0), (13, none), (0, some 1), (0, some 4), (0, some 5)] h4 h7 := Fr_t (Fr_m F5 rfl) (Fr_m F57 rfl)
      have PO7 := PO_f PO4 F47 rfl
      have VO7 := VO_f VO4 F47 rfl
      have PA7 := PA_f PA4 PO4.2.1 F47 rfl
      have Ks7 := KS_f Ks4 F47 rfl
      have B7 : Jb h7 (hN h) (hN h1) (n', top', R', N', 0, Ol, none, none, I, 0, O, 0, -1) := by
        refine ⟨⟨K7, Ks7, PO7, PA7, VO7⟩, H7, ⟨(fR F7 0 13 rfl).trans rp6, (fR F7 0 14 rfl).trans rv6⟩, Or.inr (by omega), ⟨(fI F57 0 1 rfl).trans J5.2.2.2.2.1.1, fun k hk => by omega⟩, ⟨(fI F57 0 3 rfl).trans J5.2.2.2.2.2.1.1, J5.2.2.2.2.2.1.2.1, ?_⟩, (fI F57 0 4 rfl).trans J5.2.2.2.2.2.2.1, (fI F57 0 5 rfl).trans J5.2.2.2.2.2.2.2⟩
        rw [rI F57 2 rfl]; exact J5.2.2.2.2.2.1.2.2
      obtain ⟨h8, e8, J8, F8⟩ := J_look B7 Q'
      have PO8 := PO_f PO7 F8 rfl
      have V8 := VS_f VO7.1 F8 rfl (mutB_hi (by omega))
      rw [e7, q_B_load_r67 K7 PO7.1 VO7.1 B7.2.2.1.1 PO7.1 B7.2.2.1.2 VO7.1, e8, q_B_load_r82 (J_K J8) PO8.1 V8 (J_rp J8) PO8.1, PO_n PO8] at hq
      exact CC_chg J8 (Gc_t G05 (Gc_t (Gc_f F57 rfl) (Gc_f F8 rfl))) (by decide) (by decide) hq
    · rw [if_neg cf] at hq J5
      rw [if_neg cf]
      exact CC_thr2 J5 G05 (by decide) (by decide) (by omega) (by decide) (hq.trans rfl)
  · rw [if_neg cl] at hq ⊢
    exact CC_thr J (by omega) (by decide) (hq.trans rfl)
end CLOAD


