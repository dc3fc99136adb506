/-! The class: its history. -/
section CHIST
variable {h h2 : zH} {v : Nat} {n : Int} {R N : Nat → Int} {c : Nat} {Ol : Nat → Nat → Int} {s0 s1 : Option (Nat → Int)}
/-- where the i-th latest of the versions lies, the newest at nw -/
def plc (nw i : Nat) : Nat := (nw + 10 - i) % 10
/-- the class's history -/
def HO (h : zH) (n : Int) (R : Nat → Int) (c : Nat) (Ol : Nat → Nat → Int) (s0 s1 : Option (Nat → Int)) : Prop := (hI h 10 0 = c ∧ c ≤ 10) ∧ (∃ nw : Nat, nw < 10 ∧ hI h 10 1 = nw ∧ (∀ i, i < 10 → VF h (14 + 5 * i)) ∧ ∀ i, i < c → VO h (14 + 5 * plc nw i) n R (Ol i)) ∧ (∀ x, x < 2 → VF h (64 + 5 * x)) ∧ (hI h 13 0 = (if s0.isSome = true then 1 else 0) ∧ ∀ N, s0 = some N → VO h 64 n R N) ∧ (hI h 13 1 = (if s1.isSome = true then 1 else 0) ∧ ∀ N, s1 = some N → VO h 69 n R N)
theorem HO_g {W : Nat → Nat → Prop} {d e : Nat} (H : HO h n R c Ol s0 s1) (K : KC h) (G : Gw W d e h h2) (x : nf W h) (w : ∀ a k, (a = 10 ∧ k ≤ 1) ∨ (13 ≤ a ∧ a < 74) → ¬ W a k) : HO h2 n R c Ol s0 s1 := by
  obtain ⟨⟨a1, a2⟩, ⟨nw, b1, b2, b3, b4⟩, s, ⟨t1, t2⟩, ⟨t3, t4⟩⟩ := H
  have k0 := K.1
  have pl : ∀ i, plc nw i < 10 := fun i => Nat.mod_lt _ (by decide)
  refine ⟨⟨by rw [gI G (by omega) (w 10 0 (by omega))]; exact a1, a2⟩, ⟨nw, b1, by rw [gI G (by omega) (w 10 1 (by omega))]; exact b2, fun i hi => VF_g (b3 i hi) G x (fun j k hj => w _ k (by omega)), fun i hi => VO_g (b4 i hi) G (fun j k hj => w _ k (by have := pl i; omega)) x⟩, fun i hi => VF_g (s i hi) G x (fun j k hj => w _ k (by omega)), ⟨by rw [gI G (by omega) (w 13 0 (by omega))]; exact t1, fun N q => VO_g (t2 N q) G (fun j k hj => w _ k (by omega)) x⟩, ⟨by rw [gI G (by omega) (w 13 1 (by omega))]; exact t3, fun N q => VO_g (t4 N q) G (fun j k hj => w _ k (by omega)) x⟩⟩
theorem VO_VF (X : VO h v n R N) : VF h v := by
  obtain ⟨a, b, c, x, g, i⟩ := X
  obtain ⟨f1, c1, c2⟩ := c
  obtain ⟨f2, x1, x2⟩ := x
  exact ⟨a, ⟨f1, c1, c2.1, c2.2.1⟩, ⟨f2, x1, x2.1, x2.2.1⟩, i⟩
/-- what the history writes -/
def Wh (a k : Nat) : Prop := (a = 10 ∧ k ≤ 1) ∨ (13 ≤ a ∧ a < 74)
theorem pl_new {nw i : Nat} (h0 : nw < 10) (hi : i < 9) : plc ((nw + 1) % 10) (i + 1) = plc nw i := by unfold plc; omega
theorem pl_0 {nw : Nat} (h0 : nw < 10) : plc nw 0 = nw := by unfold plc; omega
theorem pl_ne {nw i : Nat} (h0 : nw < 10) (hi : i < 9) : plc nw i ≠ (nw + 1) % 10 := by unfold plc; omega
theorem nf_10 (h : zH) (j : Nat) : nf (fun a k => a = 10 ∧ k = j) h := fun f F => ⟨fun mm k z => absurd mm (by rw [z.1]; decide), fun mm k z => absurd mm (by rw [z.1]; decide)⟩
theorem c_remember (K : KC h) (H : HO h n R c Ol s0 s1) (X : VO h v n R N) (u : WU n R) (hn : n ≤ 24) (hv : 74 ≤ v) : ∃ h2, zC 17 [zR (some 10), zR (some v)] h = some (.inl none, h2) ∧ HO h2 n R (psc c) (psh N Ol) s0 s1 ∧ VO h2 v n R N ∧ hN h2 = hN h ∧ Gw Wh 0 0 h h2 := by
  obtain ⟨⟨a1, a2⟩, ⟨nw, b1, b2, b3, b4⟩, s, t, t'⟩ := id H
  have k0 := K.1
  have hvn := X.1.2.1
  have fl : flm10 ((hI h 10 1) + 1) = (((nw + 1) % 10 : Nat) : Int) := by
    rw [b2]
    unfold flm10
    by_cases c9 : nw = 9
    · subst c9; rfl
    · rw [if_neg (by omega), if_neg (by omega)]; omega
  have m10 : (nw + 1) % 10 < 10 := Nat.mod_lt _ (by decide)
  generalize hm : (nw + 1) % 10 = m at *
  have F1 : Fr [(10, some 1)] h (sI h 10 1 m) := Fr_I (Fr_r _ _) rfl
  have G1 : Gw (fun a k => a = 10 ∧ k = 1) 0 0 h (sI h 10 1 m) := Gw_sI (Gw_r _ _) _ (fun _ => ⟨rfl, rfl⟩)
  have nf1 : nf (fun a k => a = 10 ∧ k = 1) h := nf_10 _ _
  have K1 := KC_f K F1 rfl
  have X1 := VO_g X G1 (fun j k hj z => by omega) nf1
  have H1 : ∀ i, i < 10 → VF (sI h 10 1 m) (14 + 5 * i) := fun i hi => VF_g (b3 i hi) G1 nf1 (fun j k hj z => by omega)
  have H2 : ∀ i, i < c → VO (sI h 10 1 m) (14 + 5 * plc nw i) n R (Ol i) := fun i hi => VO_g (b4 i hi) G1 (fun j k hj z => by omega) nf1
  have H3 : ∀ x, x < 2 → VF (sI h 10 1 m) (64 + 5 * x) := fun i hi => VF_g (s i hi) G1 nf1 (fun j k hj z => by omega)
  have H4 : ∀ N, s0 = some N → VO (sI h 10 1 m) 64 n R N := fun N q => VO_g (t.2 N q) G1 (fun j k hj z => by omega) nf1
  have H5 : ∀ N, s1 = some N → VO (sI h 10 1 m) 69 n R N := fun N q => VO_g (t'.2 N q) G1 (fun j k hj z => by omega) nf1
  have e0 : hI (sI h 10 1 m) 10 0 = c := a1
  have e1 : hI (sI h 10 1 m) 10 1 = m := rfl
  have e13 : hI (sI h 10 1 m) 13 = hI h 13 := rI F1 13 rfl
  have n1 : hN (sI h 10 1 m) = hN h := rfl
  rw [q_H_remember (v2 := 14 + 5 * m) K X.1 (by omega) (by rw [fl, Int.toNat_natCast]; exact K.2.2.2.1 m m10) (b3 m m10).1, gd_t (by omega), gd_t (by rw [fl]; omega), fl]
  generalize sI h 10 1 m = g at *
  obtain ⟨g2, e2, Y2, X2, n2, G2⟩ := VO_copy X1 u hn (H1 m m10).1 (by omega) (fun j hj => by
    have q := (show ∀ i : Fin 10, ∀ j : Fin 5, mutB (14 + 5 * i.val + j.val) = false by decide) ⟨m, m10⟩ ⟨j, by omega⟩
    exact q)
  have nf2 := nf_v (H1 m m10).1
  have dj : ∀ a k, (a < 14 + 5 * m ∨ 14 + 5 * m + 5 ≤ a) → ¬ Wv (14 + 5 * m) a k := fun a k ha z => by unfold Wv at z; omega
  have K2 : KC g2 := KC_g K1 G2 (VS_kc K1 (H1 m m10).1)
  have c0 : hI g2 10 0 = c := by rw [gI G2 (by have := K1.1; omega) (dj 10 0 (by omega))]; exact e0
  have c1 : hI g2 10 1 = m := by rw [gI G2 (by have := K1.1; omega) (dj 10 1 (by omega))]; exact e1
  have c13 : hI g2 13 = hI h 13 := by rw [grI G2 (by have := K1.1; omega) (fun k => dj 13 k (by omega))]; exact e13
  have V2 := X2.1
  have em : f_Ma_min ((c : Int) + 1) 10 = (psc c : Int) := by
    unfold f_Ma_min psc
    by_cases c10 : c = 10
    · subst c10; rfl
    · rw [if_neg c10]; split <;> omega
  rw [e2, q_H_remember_r28 K2 V2, c0, gd_t (by omega), em]
  have F3 : Fr [(10, some 0)] g2 (sI g2 10 0 (psc c)) := Fr_I (Fr_r _ _) rfl
  have G3 : Gw (fun a k => a = 10 ∧ k = 0) 0 0 g2 (sI g2 10 0 (psc c)) := Gw_sI (Gw_r _ _) _ (fun _ => ⟨rfl, rfl⟩)
  have nf3 : nf (fun a k => a = 10 ∧ k = 0) g2 := nf_10 _ _
  have pn : psc c ≤ 10 := by unfold psc; split <;> omega
  refine ⟨_, rfl, ⟨⟨rfl, pn⟩, ⟨m, m10, c1, fun i hi => ?_, fun i hi => ?_⟩, fun x hx => ?_, ⟨?_, fun N q => ?_⟩, ⟨?_, fun N q => ?_⟩⟩, VO_g X2 G3 (fun j k hj z => by omega) nf3, by show hN g2 = _; omega, ?_⟩
  · by_cases q : i = m
    · subst q; exact VF_g (VO_VF Y2) G3 nf3 (fun j k hj z => by omega)
    · exact VF_g (VF_g (H1 i hi) G2 nf2 (fun j k hj => dj _ k (by omega))) G3 nf3 (fun j k hj z => by omega)
  · cases i with
    | zero =>
      rw [pl_0 m10]
      exact VO_g Y2 G3 (fun j k hj z => by omega) nf3
    | succ i =>
      have hi9 : i < 9 ∧ i < c := by unfold psc at hi; split at hi <;> omega
      have ep : plc m (i + 1) = plc nw i := by rw [← hm]; exact pl_new b1 hi9.1
      have en : plc nw i ≠ m := by rw [← hm]; exact pl_ne b1 hi9.1
      rw [ep]
      exact VO_g (VO_g (H2 i hi9.2) G2 (fun j k hj => dj _ k (by omega)) nf2) G3 (fun j k hj z => by omega) nf3
  · exact VF_g (VF_g (H3 x hx) G2 nf2 (fun j k hj => dj _ k (by omega))) G3 nf3 (fun j k hj z => by omega)
  · rw [rI F3 13 rfl, c13]; exact t.1
  · exact VO_g (VO_g (H4 N q) G2 (fun j k hj => dj _ k (by omega)) nf2) G3 (fun j k hj z => by omega) nf3
  · rw [rI F3 13 rfl, c13]; exact t'.1
  · exact VO_g (VO_g (H5 N q) G2 (fun j k hj => dj _ k (by omega)) nf2) G3 (fun j k hj z => by omega) nf3
  · exact Gw_m (Gw_t (Gw_t (Gw_m G1 (fun a k _ z => (Or.inl ⟨z.1, by omega⟩ : Wh a k)) (Nat.le_refl _) (Nat.le_refl _)) G2 (fun a k _ z => Or.inr (by unfold Wv at z; omega))) G3 (fun a k _ z => Or.inl ⟨z.1, by omega⟩)) (fun _ _ _ z => z) (by omega) (by omega)
theorem pl_back {nw i : Nat} (h0 : nw < 10) (hi : i < 9) : plc ((nw + 9) % 10) i = plc nw (i + 1) := by unfold plc; omega
theorem c_takeBack (K : KC h) (H : HO h n R (c + 1) Ol s0 s1) (X : VO h v n R N) (u : WU n R) (hn : n ≤ 24) (hv : 74 ≤ v) (kv : ∀ a k, a < 163 → kcB a k = true → ¬ Wv v a k) : ∃ h2, zC 20 [zR (some 10), zR (some v)] h = some (.inl none, h2) ∧ HO h2 n R c (fun i => Ol (i + 1)) s0 s1 ∧ VO h2 v n R (Ol 0) ∧ hN h2 = hN h ∧ Gw (fun a k => Wv v a k ∨ (a = 10 ∧ k ≤ 1)) 0 0 h h2 := by
  obtain ⟨⟨a1, a2⟩, ⟨nw, b1, b2, b3, b4⟩, s, t, t'⟩ := id H
  have k0 := K.1
  have hvn := X.1.2.1
  have ov := X.2.1
  have fl : flm10 (hI h 10 1) = (nw : Int) := by
    rw [b2]
    unfold flm10
    rw [if_neg (by omega), if_neg (by omega)]
  have Y := b4 0 (by omega)
  rw [pl_0 b1] at Y
  rw [q_H_takeBack (v2 := 14 + 5 * nw) K X.1 (by omega) (by rw [fl, Int.toNat_natCast]; exact K.2.2.2.1 nw b1) Y.1, gd_t (by rw [fl]; omega)]
  obtain ⟨g, eg, X2, Y2, n2, G⟩ := VO_copy Y u hn X.1 (by omega) ov
  have nf2 := nf_v X.1
  have dj : ∀ a k, a < 74 → ¬ Wv v a k := fun a k ha z => by unfold Wv at z; omega
  have K2 : KC g := KC_g K G kv
  have c0 : hI g 10 0 = ((c + 1 : Nat) : Int) := by rw [gI G (by omega) (dj 10 0 (by omega))]; exact a1
  have c1 : hI g 10 1 = nw := by rw [gI G (by omega) (dj 10 1 (by omega))]; exact b2
  have H1 := HO_g H K G nf2 (fun a k ha => dj a k (by omega))
  have fl2 : flm10 ((nw : Int) - 1) = (((nw + 9) % 10 : Nat) : Int) := by
    unfold flm10
    by_cases q : nw = 0
    · subst q; rfl
    · rw [if_neg (by omega), if_neg (by omega)]; omega
  have m10 : (nw + 9) % 10 < 10 := Nat.mod_lt _ (by decide)
  rw [eg, q_H_takeBack_r18 K2 X2.1 (by omega), c1, gd_t (by omega), c0, gd_t (by omega), fl2]
  generalize hm : (nw + 9) % 10 = m at *
  obtain ⟨⟨p1, p2⟩, ⟨nw', p3, p4, p5, p6⟩, p7, p8, p9⟩ := H1
  have en : nw' = nw := by omega
  subst en
  have F3 : Fr [(10, some 0), (10, some 1)] g (sI (sI g 10 1 m) 10 0 (((c + 1 : Nat) : Int) - 1)) := Fr_I (Fr_I (Fr_r _ _) rfl) rfl
  have G3 : Gw (fun a k => a = 10 ∧ k ≤ 1) 0 0 g (sI (sI g 10 1 m) 10 0 (((c + 1 : Nat) : Int) - 1)) := Gw_sI (Gw_sI (Gw_r _ _) _ (fun _ => ⟨rfl, by decide⟩)) _ (fun _ => ⟨rfl, by decide⟩)
  have nf3 : nf (fun a k => a = 10 ∧ k ≤ 1) g := fun f F => ⟨fun mm k z => absurd mm (by rw [z.1]; decide), fun mm k z => absurd mm (by rw [z.1]; decide)⟩
  have d0 : hI (sI (sI g 10 1 m) 10 0 (((c + 1 : Nat) : Int) - 1)) 10 0 = ((c + 1 : Nat) : Int) - 1 := rfl
  have d1 : hI (sI (sI g 10 1 m) 10 0 (((c + 1 : Nat) : Int) - 1)) 10 1 = m := rfl
  have n3 : hN (sI (sI g 10 1 m) 10 0 (((c + 1 : Nat) : Int) - 1)) = hN g := rfl
  have d13 : hI (sI (sI g 10 1 m) 10 0 (((c + 1 : Nat) : Int) - 1)) 13 = hI g 13 := rI F3 13 rfl
  generalize sI (sI g 10 1 m) 10 0 (((c + 1 : Nat) : Int) - 1) = g3 at *
  refine ⟨g3, rfl, ⟨⟨by rw [d0]; omega, by omega⟩, ⟨m, m10, d1, fun i hi => VF_g (p5 i hi) G3 nf3 (fun j k hj z => by omega), fun i hi => ?_⟩, fun x hx => VF_g (p7 x hx) G3 nf3 (fun j k hj z => by omega), ⟨by rw [d13]; exact p8.1, fun N q => VO_g (p8.2 N q) G3 (fun j k hj z => by omega) nf3⟩, ⟨by rw [d13]; exact p9.1, fun N q => VO_g (p9.2 N q) G3 (fun j k hj z => by omega) nf3⟩⟩, VO_g X2 G3 (fun j k hj z => by omega) nf3, by omega, Gw_m (Gw_t (Gw_m G (fun a k _ z => (Or.inl z : Wv v a k ∨ (a = 10 ∧ k ≤ 1))) (Nat.le_refl _) (Nat.le_refl _)) G3 (fun a k _ z => Or.inr z)) (fun _ _ _ z => z) (by omega) (by omega)⟩
  have := p6 (i + 1) (by omega)
  rw [← pl_back p3 (by omega), hm] at this
  exact VO_g this G3 (fun j k hj z => by omega) nf3
end CHIST

