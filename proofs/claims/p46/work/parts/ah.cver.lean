/-! The class: versions copied. -/
section CVER
variable {h h2 : zH} {v w : Nat} {n : Int} {R N : Nat → Int}
theorem q_V_copy_end : zY 134 18 [some (zR (some v)), some (zR (some w)), some (zI 24)] [] h = some (.inl none, h) := by
  refine (show zY 134 18 [some (zR (some v)), some (zR (some w)), some (zI 24)] [] h = gd (-128 ≤ (24 : Int) ∧ (24 : Int) < 128) (if (24 : Int) < 24 then zY 134 24 [some (zR (some v)), some (zR (some w)), some (zI 24)] [] h else zY 134 78 [some (zR (some v)), some (zR (some w)), some (zI 24)] [] h) from zGo 3 134 18 _ _ _).trans ?_
  refine (gd_t (by decide) _).trans ?_
  rw [if_neg (by decide)]
  refine (show zY 134 78 [some (zR (some v)), some (zR (some w)), some (zI 24)] [] h = gd (([] : List zV).isEmpty = true ∧ zrk 134 = 0) (some (.inl (none), h)) from zGo 1 134 78 _ _ _).trans ?_
  exact gd_t ⟨rfl, rfl⟩ _
/-- the version w with formulas in all its places -/
def VF (h : zH) (w : Nat) : Prop := VS h w ∧ FSAt h w 0 ∧ FSAt h w 1 ∧ ∀ i, i < 24 → FSAt h (w + 1) i ∧ FSAt h (w + 2) i
/-- what is written into v's rows -/
def Wq (v a k : Nat) : Prop := v < a ∧ a < v + 5
theorem Wq_v {a k : Nat} (z : Wq v a k) : Wv v a k := Or.inr z
theorem VF_g {W : Nat → Nat → Prop} {d e : Nat} (S : VF h w) (G : Gw W d e h h2) (x : nf W h) (ww : ∀ j k, j ≤ 4 → ¬ W (w + j) k) : VF h2 w := by
  obtain ⟨a, b, c, y⟩ := S
  have hv := a.2.1
  exact ⟨VS_g a G (fun k _ => ww 0 k (by decide)), FSAt_g b G x (by omega) (ww 0 _ (by decide)), FSAt_g c G x (by omega) (ww 0 _ (by decide)), fun i hi => ⟨FSAt_g (y i hi).1 G x (by omega) (ww 1 _ (by decide)), FSAt_g (y i hi).2 G x (by omega) (ww 2 _ (by decide))⟩⟩
/-- v's rows are w's, up to i -/
def RW (h : zH) (v w i : Nat) : Prop := ∀ k, k < i → hR h (v + 1) k = hR h (w + 1) k ∧ hR h (v + 2) k = hR h (w + 2) k ∧ hI h (v + 3) k = hI h (w + 3) k ∧ hI h (v + 4) k = hI h (w + 4) k
/-- what is written at i into v's rows -/
def Wi (v i a j : Nat) : Prop := v < a ∧ a < v + 5 ∧ j = i
theorem l_V_copy (hd : v + 4 < w ∨ w + 4 < v) : ∀ (m i : Nat) (h : zH), i + m = 24 → VS h v → VF h w → RW h v w i → ∃ h2, zY 134 18 [some (zR (some v)), some (zR (some w)), some (zI i)] [] h = some (.inl none, h2) ∧ RW h2 v w 24 ∧ hN h2 = hN h ∧ Gw (Wq v) 0 0 h h2
  | 0, i, h, hm, V, X, H => by
    obtain rfl : i = 24 := by omega
    exact ⟨h, q_V_copy_end, H, rfl, Gw_r _ _⟩
  | m + 1, i, h, hm, V, X, H => by
    have e : ((i : Int) + 1) = ((i + 1 : Nat) : Int) := by omega
    have dj : ∀ j k, j ≤ 4 → ¬ Wi v i (w + j) k := fun j k hj z => by unfold Wi at z; omega
    have dv : ∀ k, ¬ Wi v i v k := fun k z => by unfold Wi at z; omega
    have qi : ∀ {x : zH}, VS x v → nf (Wi v i) x := fun V f F => ⟨fun m k z => ((nf_v V) f F).1 m k (Or.inr ⟨z.1, z.2.1⟩), fun m k z => ((nf_v V) f F).2 m k (Or.inr ⟨z.1, z.2.1⟩)⟩
    have hvn := V.2.1
    have hwn := X.1.2.1
    obtain ⟨f1, r1, F1, m1⟩ := (X.2.2.2 i (by omega)).1
    have G1 : Gw (Wi v i) 0 0 h (sR h (v + 1) i (some f1)) := Gw_sR (Gw_r _ _) _ (fun _ => ⟨by omega, by omega, rfl⟩)
    rw [q_V_copy_18 V X.1 (by rw [Int.toNat_natCast]; exact r1) F1, if_pos (by omega), gd_t (by omega), Int.toNat_natCast]
    have V1 := VS_g V G1 (fun k _ => dv k)
    have X1 := VF_g X G1 (qi V) dj
    have a1 : hR (sR h (v + 1) i (some f1)) (v + 1) i = hR h (w + 1) i := (zup_s _ _ _ _).trans r1.symm
    have nN1 : hN (sR h (v + 1) i (some f1)) = hN h := rfl
    generalize sR h (v + 1) i (some f1) = g1 at *
    obtain ⟨f2, r2, F2, m2⟩ := (X1.2.2.2 i (by omega)).2
    have G2 : Gw (Wi v i) 0 0 g1 (sR g1 (v + 2) i (some f2)) := Gw_sR (Gw_r _ _) _ (fun _ => ⟨by omega, by omega, rfl⟩)
    rw [q_V_copy_36 V1 X1.1 (by rw [Int.toNat_natCast]; exact r2) F2, gd_t (by omega), Int.toNat_natCast]
    have V2 := VS_g V1 G2 (fun k _ => dv k)
    have X2 := VF_g X1 G2 (qi V1) dj
    have b1 : hR (sR g1 (v + 2) i (some f2)) (v + 1) i = hR g1 (v + 1) i := zup_n _ _ _ _ _ _ (fun z => by omega)
    have b2 : hR (sR g1 (v + 2) i (some f2)) (v + 2) i = hR g1 (w + 2) i := (zup_s _ _ _ _).trans r2.symm
    have nN2 : hN (sR g1 (v + 2) i (some f2)) = hN g1 := rfl
    generalize sR g1 (v + 2) i (some f2) = g2 at *
    have G3 : Gw (Wi v i) 0 0 g2 (sI (sI g2 (v + 3) i (hI g2 (w + 3) i)) (v + 4) i (hI (sI g2 (v + 3) i (hI g2 (w + 3) i)) (w + 4) i)) := Gw_sI (Gw_sI (Gw_r _ _) _ (fun _ => ⟨by omega, by omega, rfl⟩)) _ (fun _ => ⟨by omega, by omega, rfl⟩)
    rw [q_V_copy_48 V2 X2.1, gd_t (by omega), gd_t (by omega), Int.toNat_natCast, e]
    have V3 := VS_g V2 G3 (fun k _ => dv k)
    have X3 := VF_g X2 G3 (qi V2) dj
    have c3 : hI (sI (sI g2 (v + 3) i (hI g2 (w + 3) i)) (v + 4) i (hI (sI g2 (v + 3) i (hI g2 (w + 3) i)) (w + 4) i)) (v + 3) i = hI g2 (w + 3) i := (zup_n _ _ _ _ _ _ (fun z => by omega)).trans (zup_s _ _ _ _)
    have c4 : hI (sI (sI g2 (v + 3) i (hI g2 (w + 3) i)) (v + 4) i (hI (sI g2 (v + 3) i (hI g2 (w + 3) i)) (w + 4) i)) (v + 4) i = hI g2 (w + 4) i := (zup_s _ _ _ _).trans (congrFun (hI_ne _ _ (by omega)) i)
    have r3 : ∀ a k, hR (sI (sI g2 (v + 3) i (hI g2 (w + 3) i)) (v + 4) i (hI (sI g2 (v + 3) i (hI g2 (w + 3) i)) (w + 4) i)) a k = hR g2 a k := fun a k => rfl
    have nN3 : hN (sI (sI g2 (v + 3) i (hI g2 (w + 3) i)) (v + 4) i (hI (sI g2 (v + 3) i (hI g2 (w + 3) i)) (w + 4) i)) = hN g2 := rfl
    generalize sI (sI g2 (v + 3) i (hI g2 (w + 3) i)) (v + 4) i (hI (sI g2 (v + 3) i (hI g2 (w + 3) i)) (w + 4) i) = g3 at *
    have G12 := Gw_t G1 G2 (fun _ _ _ z => z)
    have G := Gw_t G12 G3 (fun _ _ _ z => z)
    have wR : ∀ j k, j ≤ 4 → hR g3 (w + j) k = hR h (w + j) k := fun j k hj => gR G (Or.inl (by omega)) (dj j k hj)
    have wI : ∀ j k, j ≤ 4 → hI g3 (w + j) k = hI h (w + j) k := fun j k hj => gI G (Or.inl (by omega)) (dj j k hj)
    have H3 : RW g3 v w (i + 1) := fun k hk => by
      rw [wR 1 k (by decide), wR 2 k (by decide), wI 3 k (by decide), wI 4 k (by decide)]
      by_cases c : k = i
      · subst c
        rw [r3, r3, b1, a1, b2, c3, c4, gR G1 (a := w + 2) (Or.inl (by omega)) (dj 2 k (by decide)), gI G12 (a := w + 3) (Or.inl (by omega)) (dj 3 k (by decide)), gI G12 (a := w + 4) (Or.inl (by omega)) (dj 4 k (by decide))]
        exact ⟨rfl, rfl, rfl, rfl⟩
      · obtain ⟨h1, h2, h3, h4⟩ := H k (by omega)
        rw [gR G (a := v + 1) (Or.inl (by omega)) (fun z => c z.2.2), gR G (a := v + 2) (Or.inl (by omega)) (fun z => c z.2.2), gI G (a := v + 3) (Or.inl (by omega)) (fun z => c z.2.2), gI G (a := v + 4) (Or.inl (by omega)) (fun z => c z.2.2)]
        exact ⟨h1, h2, h3, h4⟩
    obtain ⟨h2, e2, R2, n2, GG⟩ := l_V_copy hd m (i + 1) g3 (by omega) V3 X3 H3
    exact ⟨h2, e2, R2, by omega, Gw_m (Gw_t (Gw_m G (fun a k _ z => (⟨z.1, z.2.1⟩ : Wq v a k)) (Nat.le_refl _) (Nat.le_refl _)) GG (fun _ _ _ z => z)) (fun _ _ _ z => z) (by omega) (by omega)⟩
/-- a version's formulas, fillings and prices as another's -/
theorem c_V_copy (V : VS h v) (X : VF h w) (hd : v + 4 < w ∨ w + 4 < v) : ∃ h2, zC 134 [zR (some v), zR (some w)] h = some (.inl none, h2) ∧ (hR h2 v 0 = hR h w 0 ∧ hR h2 v 1 = hR h w 1) ∧ RW h2 v w 24 ∧ hN h2 = hN h ∧ Gw (Wv v) 0 0 h h2 := by
  have hvn := V.2.1
  have hwn := X.1.2.1
  have dj : ∀ j k, j ≤ 4 → ¬ Wv v (w + j) k := fun j k hj z => by unfold Wv at z; omega
  have dv : ∀ k, 2 ≤ k → ¬ Wv v v k := fun k hk z => by unfold Wv at z; omega
  obtain ⟨f1, r1, F1, m1⟩ := X.2.1
  have G1 : Gw (Wv v) 0 0 h (sR h v 0 (some f1)) := Gw_sR (Gw_r _ _) _ (fun _ => Or.inl ⟨rfl, by decide⟩)
  rw [q_V_copy V X.1 r1 F1]
  have V1 := VS_g V G1 dv
  have X1 := VF_g X G1 (nf_v V) dj
  have a0 : hR (sR h v 0 (some f1)) v 0 = hR h w 0 := (zup_s _ _ _ _).trans r1.symm
  have nN1 : hN (sR h v 0 (some f1)) = hN h := rfl
  generalize sR h v 0 (some f1) = g1 at *
  obtain ⟨f2, r2, F2, m2⟩ := X1.2.2.1
  have G2 : Gw (Wv v) 0 0 g1 (sR g1 v 1 (some f2)) := Gw_sR (Gw_r _ _) _ (fun _ => Or.inl ⟨rfl, by decide⟩)
  rw [q_V_copy_8 V1 X1.1 r2 F2]
  have V2 := VS_g V1 G2 dv
  have X2 := VF_g X1 G2 (nf_v V1) dj
  have b0 : hR (sR g1 v 1 (some f2)) v 0 = hR g1 v 0 := zup_n _ _ _ _ _ _ (fun z => by omega)
  have b1 : hR (sR g1 v 1 (some f2)) v 1 = hR g1 w 1 := (zup_s _ _ _ _).trans r2.symm
  have nN2 : hN (sR g1 v 1 (some f2)) = hN g1 := rfl
  generalize sR g1 v 1 (some f2) = g2 at *
  rw [q_V_copy_16 V2 X2.1]
  obtain ⟨h2, e2, R2, n2, G3⟩ := l_V_copy hd 24 0 g2 rfl V2 X2 (fun k hk => absurd hk (by omega))
  have nq : ∀ k, ¬ Wq v v k := fun k z => by unfold Wq at z; omega
  refine ⟨h2, e2, ⟨?_, ?_⟩, R2, by omega, Gw_m (Gw_t (Gw_t G1 G2 (fun _ _ _ z => z)) G3 (fun a k _ z => Wq_v z)) (fun _ _ _ z => z) (by omega) (by omega)⟩
  · rw [gR G3 (Or.inl (by omega)) (nq 0), b0, a0]
  · rw [gR G3 (Or.inl (by omega)) (nq 1), b1]
    exact gR G1 (Or.inl (by omega)) (dj 0 1 (by decide))
/-- the copy stands for the same -/
theorem VO_copy (X : VO h w n R N) (u : WU n R) (hn : n ≤ 24) (V : VS h v) (hd : v + 4 < w ∨ w + 4 < v) (ov : obj v 4) : ∃ h2, zC 134 [zR (some v), zR (some w)] h = some (.inl none, h2) ∧ VO h2 v n R N ∧ VO h2 w n R N ∧ hN h2 = hN h ∧ Gw (Wv v) 0 0 h h2 := by
  have F : VF h w := by
    obtain ⟨a, b, c, x, g, i⟩ := X
    obtain ⟨f1, c1, c2⟩ := c
    obtain ⟨f2, x1, x2⟩ := x
    exact ⟨a, ⟨f1, c1, c2.1, c2.2.1⟩, ⟨f2, x1, x2.1, x2.2.1⟩, i⟩
  obtain ⟨h2, e2, ⟨q0, q1⟩, RW2, n2, G⟩ := c_V_copy V F hd
  have dj : ∀ j k, j ≤ 4 → ¬ Wv v (w + j) k := fun j k hj z => by unfold Wv at z; omega
  have X2 := VO_g X G dj (nf_v V)
  have hw := F.1.2.1
  have V2 := VS_g V G (fun k hk z => by unfold Wv at z; omega)
  refine ⟨h2, e2, ?_, X2, n2, G⟩
  obtain ⟨a, b, ⟨f1, c1, c2⟩, ⟨f2, x1, x2⟩, g, i⟩ := X2
  have w0 : hR h2 w 0 = hR h w 0 := gR G (Or.inl (by omega)) (dj 0 0 (by decide))
  have w1 : hR h2 w 1 = hR h w 1 := gR G (Or.inl (by omega)) (dj 0 1 (by decide))
  have num : ∀ s, 0 ≤ s → s < n → (sv R s 0 = 2 ∨ sv R s 0 = 3) → (sv R s 7).toNat < 24 := fun s s0 s1 k => by
    have us := (u s s0 s1).1 k
    have cb := cntK_b R (sv R s 0) s.toNat
    omega
  have fa : ∀ {j k : Nat} {l : List Int}, hR h2 (v + j) k = hR h2 (w + j) k → FAt h2 (w + j) k l → FAt h2 (v + j) k l := fun e ⟨f, y, z⟩ => ⟨f, e.trans y, z⟩
  have fs : ∀ {j k : Nat}, hR h2 (v + j) k = hR h2 (w + j) k → FSAt h2 (w + j) k → FSAt h2 (v + j) k := fun e ⟨f, y, z⟩ => ⟨f, e.trans y, z⟩
  refine ⟨V2, ov, ⟨f1, q0.trans (w0.symm.trans c1), c2⟩, ⟨f2, q1.trans (w1.symm.trans x1), x2⟩, fun s s0 s1 => ⟨fun k => ?_, fun k => ?_, ?_⟩, fun k hk => ⟨fs (RW2 k hk).1 (i k hk).1, fs (RW2 k hk).2.1 (i k hk).2⟩⟩
  · have r := RW2 _ (num s s0 s1 (Or.inl k))
    exact ⟨fa r.1 ((g s s0 s1).1 k).1, fa r.2.1 ((g s s0 s1).1 k).2⟩
  · rw [(RW2 _ (num s s0 s1 (Or.inr k))).2.2.1]; exact (g s s0 s1).2.1 k
  · rw [(RW2 s.toNat (by omega)).2.2.2]; exact (g s s0 s1).2.2
end CVER

