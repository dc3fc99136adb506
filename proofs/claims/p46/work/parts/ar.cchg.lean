/-! The class: what stands through its changes. -/
section CCHG
variable {h h2 : zH} {p v : Nat} {n top : Int} {R N N2 : Nat → Int} {c c2 : Nat} {Ol Ol2 : Nat → Nat → Int} {s0 s1 s2 s3 : Option (Nat → Int)} {I I2 : Nat → Int} {m m2 : Int} {O O2 : List Int} {ec ep : Int} {W : Nat → Nat → Prop} {d e : Nat} {A : FA}
theorem PS_74 (K : KC h) (P : PS h p) : 74 ≤ p := by
  by_cases c : p < 74
  · have H := (show ∀ a : Fin 74, cI a.val = true ∧ cT a.val ≠ 5 by decide) ⟨p, c⟩
    exact absurd ((K.2.1 p H.1).1.symm.trans P.1) H.2
  · omega
/-- the fixed cells, when the history is written -/
theorem KC_wh (K : KC h) (G : Gw Wh d e h h2) (H : HO h2 n R c Ol s0 s1) : KC h2 := by
  obtain ⟨k1, k2, k3, k4, k5, k6, k7, k8⟩ := K
  have cIn : ∀ a, cI a = true → a < 163 := fun a ha => by
    simp only [cI, Bool.or_eq_true, Bool.and_eq_true, Nat.blt_eq, Nat.ble_eq] at ha
    omega
  have cRn : ∀ a k b, cR a k = some b → a < 163 := fun a k b hb => by
    unfold cR at hb
    cases hc : (Nat.blt a 163 && Nat.blt k 16) with
    | false => rw [hc] at hb; cases hb
    | true => simp only [Bool.and_eq_true, Nat.blt_eq] at hc; exact hc.1
  have tb := (show ∀ a : Fin 74, ∀ k : Fin 16, (a.val = 10 ∧ k.val ≤ 1) ∨ 13 ≤ a.val → ∀ b, cR a.val k.val = some b → 14 ≤ a.val ∧ a.val % 5 = 4 ∧ ((k.val = 2 ∧ b = 3) ∨ (3 ≤ k.val ∧ k.val ≤ 6 ∧ b = a.val + (k.val - 2))) by
    intro a k hk b hb
    have := (show ∀ a : Fin 74, ∀ k : Fin 16, (a.val = 10 ∧ k.val ≤ 1) ∨ 13 ≤ a.val → (match cR a.val k.val with | none => true | some b => decide (14 ≤ a.val ∧ a.val % 5 = 4 ∧ ((k.val = 2 ∧ b = 3) ∨ (3 ≤ k.val ∧ k.val ≤ 6 ∧ b = a.val + (k.val - 2))))) = true by decide +kernel) a k hk
    rw [hb] at this
    exact of_decide_eq_true this)
  have VV : ∀ a, 14 ≤ a → a < 74 → a % 5 = 4 → VS h2 a := fun a a0 a1 a2 => by
    by_cases c : a < 64
    · have := (H.2.1.choose_spec.2.2.1 ((a - 14) / 5) (by omega)).1
      rwa [show 14 + 5 * ((a - 14) / 5) = a by omega] at this
    · have := (H.2.2.1 ((a - 64) / 5) (by omega)).1
      rwa [show 64 + 5 * ((a - 64) / 5) = a by omega] at this
  refine ⟨Nat.le_trans k1 G.1.1, fun a ha => ?_, fun a k b hb => ?_, fun i hi => ?_, fun i hi => ?_, fun i hi => ?_, fun i hi => ?_, fun i j hi => ?_⟩
  · have := cIn a ha
    rw [gT G (by omega), gL G (by omega)]; exact k2 a ha
  · have ha := cRn a k b hb
    by_cases w : Wh a k
    · have kb := cR_k hb
      have w' : (a = 10 ∧ k ≤ 1) ∨ 13 ≤ a := by rcases w with w | w <;> omega
      have a74 : a < 74 := by rcases w with w | w <;> omega
      obtain ⟨t0, t1, t2⟩ := tb ⟨a, a74⟩ ⟨k, kb⟩ w' b hb
      have V := VV a t0 a74 t1
      rcases t2 with ⟨e1, e2⟩ | ⟨e1, e2, e3⟩
      · have e1 : k = 2 := e1
        rw [e1, e2]; exact VS_o V
      · have e1 : 3 ≤ k := e1
        have e2 : k ≤ 6 := e2
        have e3 : b = a + (k - 2) := e3
        rw [e3]
        exact VS_r V k (by rw [Bool.and_eq_true]; exact ⟨Nat.ble_eq_true_of_le e1, Nat.ble_eq_true_of_le e2⟩)
    · rw [gR G (by omega) w]; exact k3 a k b hb
  · rw [gR G (by omega) (by unfold Wh; omega)]; exact k4 i hi
  · rw [gR G (by omega) (by unfold Wh; omega)]; exact k5 i hi
  · rw [gR G (by omega) (by unfold Wh; omega)]; exact k6 i hi
  · rw [gR G (by omega) (by unfold Wh; omega)]; exact k7 i hi
  · rw [gI G (by omega) (by unfold Wh; omega)]; exact k8 i j hi
theorem nf_h (K : KC h) : nf Wh h := fun f F => by
  have tb := (show ∀ a : Fin 74, 13 ≤ a.val → cI a.val = true ∧ cT a.val ≠ 2 ∧ cT a.val ≠ 21 by decide)
  refine ⟨fun mm k w => ?_, fun mm k w => ?_⟩
  · rcases w with ⟨w, _⟩ | ⟨w, w2⟩
    · subst w; exact absurd mm (by decide)
    · have H := tb ⟨f, w2⟩ w
      exact H.2.1 ((K.2.1 f H.1).1.symm.trans F.1)
  · rcases w with ⟨w, _⟩ | ⟨w, w2⟩
    · rw [w] at mm; exact absurd mm (by decide)
    · have H := tb ⟨f + 1, w2⟩ w
      exact H.2.2 ((K.2.1 (f + 1) H.1).1.symm.trans F.2.2.1)
/-- the tables through runs that write neither them nor what they rest on -/
theorem CA_g (C : CA h p v n top R N) (hv : v = 85 ∨ 179 ≤ v) (G : Gw W d e h h2) (K2 : KC h2) (w : ∀ a k, W a k → a < 74) (x : nf W h) : CA h2 p v n top R N := by
  have K := CA_K C
  obtain ⟨⟨⟨⟨⟨B1, B2, B3, B4, B5⟩, S, r1, r2⟩, t, q⟩, C2⟩, C3⟩ := C
  have k0 := K.1
  have p74 := PS_74 K (PO_S B3)
  have nw : ∀ a k, 74 ≤ a → ¬ W a k := fun a k ha z => by have := w a k z; omega
  have sI : ∀ a, 74 ≤ a → a < 163 → hI h2 a = hI h a := fun a a0 a1 => grI G (Or.inl (by omega)) (fun k => nw a k a0)
  have sJ : ∀ a, 74 ≤ a → a < 163 → hJ h2 a = hJ h a := fun a a0 a1 => grJ G (Or.inl (by omega)) (fun k => nw a k a0)
  have sR : ∀ a, 74 ≤ a → a < 163 → hR h2 a = hR h a := fun a a0 a1 => grR G (Or.inl (by omega)) (fun k => nw a k a0)
  refine ⟨⟨⟨⟨⟨K2, KS_g B2 G (fun a k z => Or.inl (by have := w a k z; omega)), PO_g B3 G (fun j k _ => nw _ k (by omega)), PA_g B4 B3.1 G (fun k => nw _ k (by omega)) x, VO_g B5 G (fun j k _ => nw _ k (by omega)) x⟩, ?_, ?_, ?_⟩, ?_, ?_⟩, ?_⟩, ?_⟩
  · obtain ⟨a1, a2, a3, a4⟩ := S
    refine ⟨by rw [sJ 90 (by decide) (by decide)]; exact a1, by rw [sJ 90 (by decide) (by decide)]; exact a2, fun s q0 q1 => ?_, fun s q0 q1 k => ?_⟩
    · obtain ⟨b1, b2, b3, b4⟩ := a3 s q0 q1
      exact ⟨by rw [sI 96 (by decide) (by decide)]; exact b1, FAt_g b2 G x (by omega) (nw _ _ (by decide)), by rw [sJ 94 (by decide) (by decide)]; exact b3, by rw [sJ 95 (by decide) (by decide)]; exact b4⟩
    · obtain ⟨b1, b2, b3⟩ := a4 s q0 q1 k
      exact ⟨by rw [sJ 91 (by decide) (by decide)]; exact b1, by rw [sJ 92 (by decide) (by decide)]; exact b2, by rw [sJ 93 (by decide) (by decide)]; exact b3⟩
  · rw [sR 128 (by decide) (by decide)]; exact r1
  · rw [sR 128 (by decide) (by decide)]; exact r2
  · unfold RT; rw [sI 129 (by decide) (by decide)]; exact t
  · rw [sR 132 (by decide) (by decide)]; exact q
  · rw [sJ 133 (by decide) (by decide)]; exact C2
  · rw [sJ 134 (by decide) (by decide)]; exact C3
theorem CI_g (C : CI h I m) (K : KC h) (G : Gw W d e h h2) (w0 : ¬ W 0 1) (w1 : ∀ k, ¬ W 1 k) : CI h2 I m := by
  have k0 := K.1
  refine ⟨by rw [gI G (by omega) w0]; exact C.1, ?_⟩
  rw [grI G (by omega) w1]; exact C.2
theorem CO_g (C : CO h O) (K : KC h) (G : Gw W d e h h2) (w0 : ¬ W 0 3) (w1 : ∀ k, ¬ W 2 k) : CO h2 O := by
  have k0 := K.1
  refine ⟨by rw [gI G (by omega) w0]; exact C.1, C.2.1, ?_⟩
  rw [grI G (by omega) w1]; exact C.2.2
theorem CJ_g (J : CJ h p v (n, top, R, N, c, Ol, s0, s1, I, m, O, ec, ep)) (G : Gw W d e h h2) (K2 : KC h2) (w : ∀ a k, W a k → a < 74 ∧ ¬ (a = 0 ∧ 6 ≤ k)) (x : nf W h) (H2 : HO h2 n R c2 Ol2 s2 s3) (i2 : CI h2 I2 m2) (o2 : CO h2 O2) : CJ h2 p v (n, top, R, N, c2, Ol2, s2, s3, I2, m2, O2, hI h2 0 4, hI h2 0 5) := by
  have k0 := (J_K J).1
  refine ⟨CA_g J.1 J.2.2.2.1 G K2 (fun a k z => (w a k z).1) x, H2, ⟨?_, ?_⟩, J.2.2.2.1, i2, o2, rfl, rfl⟩
  · rw [gR G (by omega) (fun z => (w 0 13 z).2 ⟨rfl, by decide⟩)]; exact J_rp J
  · rw [gR G (by omega) (fun z => (w 0 14 z).2 ⟨rfl, by decide⟩)]; exact J_rv J
theorem Wh_w (a k : Nat) (z : Wh a k) : a < 74 ∧ ¬ (a = 0 ∧ 6 ≤ k) := by unfold Wh at z; omega
/-- through a run that writes the history alone -/
theorem CJ_h (J : CJ h p v (n, top, R, N, c, Ol, s0, s1, I, m, O, ec, ep)) (G : Gw Wh d e h h2) (H2 : HO h2 n R c2 Ol2 s2 s3) : CJ h2 p v (n, top, R, N, c2, Ol2, s2, s3, I, m, O, ec, ep) := by
  have K := J_K J
  have k0 := K.1
  have r := CJ_g J G (KC_wh K G H2) Wh_w (nf_h K) H2 (CI_g J.2.2.2.2.1 K G (by unfold Wh; omega) (fun k => by unfold Wh; omega)) (CO_g J.2.2.2.2.2.1 K G (by unfold Wh; omega) (fun k => by unfold Wh; omega))
  rw [gI G (a := 0) (k := 4) (by omega) (by unfold Wh; omega), gI G (a := 0) (k := 5) (by omega) (by unfold Wh; omega), J.2.2.2.2.2.2.1, J.2.2.2.2.2.2.2] at r
  exact r
theorem Wh_c (a k : Nat) (z : Wh a k) : Wc a k := by unfold Wh at z; unfold Wc; omega
/-- a change is remembered -/
theorem J_rem (J : CJ h p v (n, top, R, N, c, Ol, s0, s1, I, m, O, ec, ep)) (Q : Prg n top R N) : ∃ h2, zC 17 [zR (some 10), zR (some v)] h = some (.inl none, h2) ∧ CJ h2 p v (n, top, R, N, psc c, psh N Ol, s0, s1, I, m, O, ec, ep) ∧ hN h2 = hN h ∧ Gw Wh 0 0 h h2 := by
  have hv := J.2.2.2.1
  obtain ⟨h2, e2, H2, _, n2, G⟩ := c_remember (J_K J) J.2.1 (J_V J) Q.2.2.1 Q.1.1.2 (by omega)
  exact ⟨h2, e2, CJ_h J G H2, n2, G⟩
theorem Gh_c (G : Gw Wh d e h h2) : Gw Wc d e h h2 := Gw_m G (fun a k _ => Wh_c a k) (Nat.le_refl _) (Nat.le_refl _)
/-- what stands of the class beside its tables -/
def Jb (h : zH) (p v : Nat) : MSt → Prop
  | (n, top, R, N, c, Ol, s0, s1, I, m, O, ec, ep) => CB h p v n R N ∧ HO h n R c Ol s0 s1 ∧ (hR h 0 13 = some p ∧ hR h 0 14 = some v) ∧ (v = 85 ∨ 179 ≤ v) ∧ CI h I m ∧ CO h O ∧ hI h 0 4 = ec ∧ hI h 0 5 = ep
theorem J_b (J : CJ h p v (n, top, R, N, c, Ol, s0, s1, I, m, O, ec, ep)) : Jb h p v (n, top, R, N, c, Ol, s0, s1, I, m, O, ec, ep) := ⟨CA_B J.1, J.2⟩
theorem J_look (B : Jb h p v (n, top, R, N, c, Ol, s0, s1, I, m, O, ec, ep)) (Q : Prg n top R N) : ∃ h2, zC 1 [zR (some 132), zR (some p), zR (some v)] h = some (.inl none, h2) ∧ CJ h2 p v (n, top, R, N, c, Ol, s0, s1, I, m, O, ec, ep) ∧ Fr scrL h h2 := by
  obtain ⟨b1, b2, ⟨b3, b4⟩, b5, ⟨b6, b7⟩, ⟨b8, b9, b10⟩, b11, b12⟩ := B
  obtain ⟨h2, e2, C2, F⟩ := c_D_look b1 Q
  refine ⟨h2, e2, ⟨C2, HO_f b2 b1.1 F rfl, ⟨(fR F 0 13 rfl).trans b3, (fR F 0 14 rfl).trans b4⟩, b5, ⟨(fI F 0 1 rfl).trans b6, ?_⟩, ⟨(fI F 0 3 rfl).trans b8, b9, ?_⟩, (fI F 0 4 rfl).trans b11, (fI F 0 5 rfl).trans b12⟩, F⟩
  · rw [rI F 1 rfl]; exact b7
  · rw [rI F 2 rfl]; exact b10
theorem clW_v (V : VS h v) (hv : v = 85 ∨ 179 ≤ v) (hz : hN h ≤ zVB) : clW (Wv v) := fun a k z => by
  have := V.2.1
  unfold Wv at z
  omega
/-- the programs that two formulas' rows stand for have the same parts -/
def smP (n : Int) (R N N2 : Nat → Int) : Prop := ∀ s, 0 ≤ s → s < n → prtL R N2 s = prtL R N s
theorem smP_r (N : Nat → Int) : smP n R N N := fun _ _ _ => rfl
theorem smP_s (S : smP n R N N2) : smP n R N2 N := fun s h0 h1 => (S s h0 h1).symm
theorem smP_t {N3 : Nat → Int} (S : smP n R N N2) (S2 : smP n R N2 N3) : smP n R N N3 := fun s h0 h1 => (S2 s h0 h1).trans (S s h0 h1)
theorem PA_sm (P : PA h p n R N) (S : smP n R N N2) : PA h p n R N2 := fun s h0 h1 => by rw [S s h0 h1]; exact P s h0 h1
/-- through a run that writes the version, and where the history's count stands -/
theorem Jb_v (B : Jb h p v (n, top, R, N, c, Ol, s0, s1, I, m, O, ec, ep)) (hz : hN h ≤ zVB) (G : Gw (fun a k => Wv v a k ∨ (a = 10 ∧ k ≤ 1)) d e h h2) (X : VO h2 v n R N2) (S : smP n R N N2) (H2 : HO h2 n R c2 Ol2 s2 s3) : Jb h2 p v (n, top, R, N2, c2, Ol2, s2, s3, I, m, O, ec, ep) := by
  obtain ⟨⟨K, Ks, P, PAo, V⟩, b2, ⟨b3, b4⟩, b5, ⟨b6, b7⟩, ⟨b8, b9, b10⟩, b11, b12⟩ := B
  have k0 := K.1
  have p74 := PS_74 K (PO_S P)
  have dj := PV_dj (PO_S P) V.1
  have kv := VS_kc K V.1
  have nw : ∀ a k, a < 10 → ¬ (Wv v a k ∨ (a = 10 ∧ k ≤ 1)) := fun a k ha z => by unfold Wv at z; omega
  have nfx : nf (fun a k => Wv v a k ∨ (a = 10 ∧ k ≤ 1)) h := nf_or (nf_v V.1) (fun f F => ⟨fun mm k z => absurd mm (by rw [z.1]; decide), fun mm k z => absurd mm (by rw [z.1]; decide)⟩)
  have np : ∀ j k, j ≤ 10 → ¬ (Wv v (p + j) k ∨ (p + j = 10 ∧ k ≤ 1)) := fun j k hj z => by unfold Wv at z; omega
  refine ⟨⟨KC_g K G (fun a k ha hk z => ?_), KS_g Ks G (fun a k z => ?_), PO_g P G np, PA_sm (PA_g PAo P.1 G (fun k => np 10 k (Nat.le_refl _)) nfx) S, X⟩, H2, ⟨?_, ?_⟩, b5, ⟨?_, ?_⟩, ⟨?_, b9, ?_⟩, ?_, ?_⟩
  · rcases z with z | z
    · exact kv a k ha hk z
    · have := (show ∀ k : Fin 2, kcB 10 k.val = false by decide) ⟨k, by omega⟩
      rw [z.1, this] at hk
      exact absurd hk (by decide)
  · rcases z with z | z
    · exact clW_v V.1 b5 hz a k z
    · omega
  · rw [gR G (by omega) (nw _ _ (by decide))]; exact b3
  · rw [gR G (by omega) (nw _ _ (by decide))]; exact b4
  · rw [gI G (by omega) (nw _ _ (by decide))]; exact b6
  · rw [grI G (by omega) (fun k => nw _ k (by decide))]; exact b7
  · rw [gI G (by omega) (nw _ _ (by decide))]; exact b8
  · rw [grI G (by omega) (fun k => nw _ k (by decide))]; exact b10
  · rw [gI G (by omega) (nw _ _ (by decide))]; exact b11
  · rw [gI G (by omega) (nw _ _ (by decide))]; exact b12
theorem Jb_v2 (B : Jb h p v (n, top, R, N, c, Ol, s0, s1, I, m, O, ec, ep)) (hz : hN h ≤ zVB) (G : Gw (Wv v) d e h h2) (X : VO h2 v n R N2) (S : smP n R N N2) : Jb h2 p v (n, top, R, N2, c, Ol, s0, s1, I, m, O, ec, ep) := by
  have b5 := B.2.2.2.1
  have G2 : Gw (fun a k => Wv v a k ∨ (a = 10 ∧ k ≤ 1)) d e h h2 := Gw_m G (fun a k _ z => Or.inl z) (Nat.le_refl _) (Nat.le_refl _)
  refine Jb_v B hz G2 X S (HO_g B.2.1 B.1.1 G (nf_v B.1.2.2.2.2.1) (fun a k hw z => ?_))
  unfold Wv at z
  omega
theorem Wv_c (V : VS h v) (hv : v = 85 ∨ 179 ≤ v) (hz : hN h ≤ zVB) (a k : Nat) (z : Wv v a k) : Wc a k := clW_v V hv hz a k z
/-- an answer behind a change -/
theorem CC_chg {h3 : zH} {q : Nat} {as : List zV} {tb : Int → Nat} {x : zV} {σ : MSt} {d e : Nat} (J : CJ h3 p v σ) (G : Gw Wc d e h h3) (hd : d ≤ 200) (he : e ≤ 4000) (eq : zC q (zR (some 0) :: as) h = some (.inl (some x), h3)) : CC h q as tb ((0, x), σ) :=
  ⟨h3, p, v, eq, J, Gw_m G (fun _ _ _ w => w) hd he⟩
theorem Wc_A {A : FA} (w : (A.all fun x => Nat.blt x.1 163) = true) (a k : Nat) (i : inA A a k = true) : Wc a k := Or.inl (by
    obtain ⟨y, hy, i⟩ := List.any_eq_true.1 i
    have := List.all_eq_true.1 w y hy
    have : y.1 < 163 := Nat.le_of_ble_eq_true this
    unfold inB at i
    simp only [Bool.and_eq_true] at i
    have : y.1 = a := Nat.eq_of_beq_eq_true i.1
    omega)
theorem Gc_f {A : FA} (F : Fr A h h2) (w : (A.all fun x => Nat.blt x.1 163) = true) : Gw Wc 0 0 h h2 := Gw_of F (Wc_A w)
theorem Gc_t {h3 : zH} {d2 e2 : Nat} (F : Gw Wc d e h h2) (G : Gw Wc d2 e2 h2 h3) : Gw Wc (d + d2) (e + e2) h h3 := Gw_t F G (fun _ _ _ w => w)
end CCHG

