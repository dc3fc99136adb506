/-! The class: new objects. -/
section CNEW
variable {h h2 : zH}
abbrev W0 : Nat → Nat → Prop := fun _ _ => False
theorem KC_0 {d e : Nat} (K : KC h) (G : Gw W0 d e h h2) : KC h2 := KC_g K G (fun _ _ _ _ z => z)
theorem nf_0 (h : zH) : nf W0 h := fun _ _ => ⟨fun _ _ z => z, fun _ _ z => z⟩
theorem cl_0 : clW W0 := fun _ _ z => z.elim
/-- an object that gets its rows one after the other -/
def CH (c : Nat) (tg : Nat → Nat) (p m : Nat) (h0 h : zH) : Prop := hN h0 = p ∧ hN h = p + 1 + m ∧ hT h p = c ∧ (∀ j, 0 < j → j ≤ m → hT h (p + j) = tg j ∧ hL h (p + j) = 24 ∧ ∀ i, hI h (p + j) i = 0) ∧ (∀ k, 3 ≤ k → k < 3 + m → hR h p k = some (p + (k - 2))) ∧ (∀ i, hI h p i = 0) ∧ Gw W0 (1 + m) (14 + 24 * m) h0 h
theorem CH_0 (c : Nat) (tg : Nat → Nat) (h : zH) (nf : Nat) (hf : nf ≤ 14) (hz : hN h < zVB) : CH c tg (hN h) 0 h (hNew h c nf) := by
  refine ⟨rfl, rfl, zu1_s _ _ _, fun j a b => by omega, fun k a b => by omega, fun i => congrFun (zu1_s (hI h) (hN h) _) i, Gw_m (Gw_new W0 h c nf hz) (fun _ _ _ z => z) (by omega) (by omega)⟩
theorem CH_s {c : Nat} {tg : Nat → Nat} {p m : Nat} {h0 h : zH} (C : CH c tg p m h0 h) (hz : p + 1 + m < zVB) {t k : Nat} (ht : t = tg (m + 1)) (hk : k = 3 + m) : CH c tg p (m + 1) h0 (sR (hNew h t 24) p k (some (hN h))) := by
  obtain ⟨a1, a2, a3, a4, a5, a6, a7⟩ := C
  subst hk
  have np : p ≠ hN h := by omega
  have G := Gw_sR (a := p) (k := 3 + m) (Gw_t a7 (Gw_new W0 h t 24 (by omega)) (fun _ _ _ z => z)) (some (hN h)) (fun z => by have z9 : zVB = 10000000 := rfl; omega)
  refine ⟨a1, by show hN h + 1 = _; omega, (zu1_n _ _ np).trans a3, fun j j0 j1 => ?_, fun q q0 q1 => ?_, fun i => (congrFun (zu1_n _ _ np) i).trans (a6 i), Gw_m G (fun _ _ _ z => z) (by omega) (by omega)⟩
  · by_cases c : j = m + 1
    · subst c
      have e : p + (m + 1) = hN h := by omega
      rw [e]
      exact ⟨(zu1_s _ _ _).trans ht, zu1_s _ _ _, fun i => congrFun (zu1_s (hI h) (hN h) _) i⟩
    · have nj : p + j ≠ hN h := by omega
      obtain ⟨b1, b2, b3⟩ := a4 j j0 (by omega)
      exact ⟨(zu1_n _ _ nj).trans b1, (zu1_n _ _ nj).trans b2, fun i => (congrFun (zu1_n _ _ nj) i).trans (b3 i)⟩
  · by_cases c : q = 3 + m
    · subst c
      rw [show p + (3 + m - 2) = hN h by omega]
      exact zup_s _ _ _ _
    · refine (zup_n _ _ _ _ _ _ (fun z => c z.2)).trans ((congrFun (zu1_n _ _ np) q).trans ?_)
      exact a5 q q0 (by omega)
theorem l_P_init {p : Nat} : ∀ (m i : Nat) (h : zH), i + m = 24 → PS h p → FS h 3 → (∀ k, k < i → hR h (p + 10) k = some 3) → 3 < p → ∃ h2, zY 35 92 [some (zR (some p)), some (zR (some 3)), some (zI i)] [] h = some (.inl none, h2) ∧ PS h2 p ∧ (∀ k, k < 24 → hR h2 (p + 10) k = some 3) ∧ (∀ a k, hI h2 a k = hI h a k) ∧ hN h2 = hN h ∧ Gw (fun a _ => a = p + 10) 0 0 h h2
  | 0, i, h, hm, P, F, H, h3 => by
    rw [q_P_init_92 P F, if_neg (by omega)]
    exact ⟨h, rfl, P, fun k hk => H k (by omega), fun _ _ => rfl, rfl, Gw_r _ _⟩
  | m + 1, i, h, hm, P, F, H, h3 => by
    have e : ((i : Int) + 1) = ((i + 1 : Nat) : Int) := by omega
    have G : Gw (fun a _ => a = p + 10) 0 0 h (sR h (p + 10) i (some 3)) := Gw_sR (Gw_r _ _) _ (fun _ => rfl)
    have t1 : hT h (p + 10) = 25 := (P.2.2.1 10 rfl).1
    obtain ⟨h2, e2, P2, H2, I2, n2, G2⟩ := l_P_init m (i + 1) (sR h (p + 10) i (some 3)) (by omega) (PS_g P G (fun k _ => by omega)) (FS_g F G (by omega)) (fun k hk => by
      by_cases c : k = i
      · subst c; exact zup_s _ _ _ _
      · exact (zup_n _ _ _ _ _ _ (fun z => c z.2)).trans (H k (by omega))) h3
    rw [q_P_init_92 P F, if_pos (by omega), gd_t (by omega), gd_t (by omega), e, Int.toNat_natCast]
    exact ⟨h2, e2, P2, H2, I2, n2, Gw_m (Gw_t G G2 (fun _ _ _ z => z)) (fun _ _ _ z => z) (by omega) (by omega)⟩
theorem c_newP (K : KC h) (hz : hN h + 12 ≤ zVB) : ∃ h2, zC 35 [zR (some (hN h)), zR (some 3)] (hNew h 5 14) = some (.inl none, h2) ∧ PS h2 (hN h) ∧ (∀ j, j ≤ 10 → ∀ i, hI h2 (hN h + j) i = 0) ∧ (∀ i, i < 24 → hR h2 (hN h + 10) i = some 3) ∧ hN h2 = hN h + 11 ∧ Gw W0 11 254 h h2 := by
  have k0 := K.1
  have C0 := CH_0 5 pst h 14 (by omega) (by omega)
  generalize hNew h 5 14 = g0 at *
  generalize hp : hN h = p at *
  have nx : ∀ {m : Nat} {g : zH}, CH 5 pst p m h g → p < hN g := fun C => by have := C.2.1; omega
  have C1 := CH_s C0 (by omega) (t := 22) (k := 3) rfl rfl
  rw [q_P_init C0.2.2.1 (nx C0)]
  generalize sR (hNew g0 22 24) p 3 (some (hN g0)) = g1 at *
  have C2 := CH_s C1 (by omega) (t := 22) (k := 4) rfl rfl
  rw [q_P_init_12 C1.2.2.1 (nx C1)]
  generalize sR (hNew g1 22 24) p 4 (some (hN g1)) = g2 at *
  have C3 := CH_s C2 (by omega) (t := 22) (k := 5) rfl rfl
  rw [q_P_init_20 C2.2.2.1 (nx C2)]
  generalize sR (hNew g2 22 24) p 5 (some (hN g2)) = g3 at *
  have C4 := CH_s C3 (by omega) (t := 22) (k := 6) rfl rfl
  rw [q_P_init_28 C3.2.2.1 (nx C3)]
  generalize sR (hNew g3 22 24) p 6 (some (hN g3)) = g4 at *
  have C5 := CH_s C4 (by omega) (t := 22) (k := 7) rfl rfl
  rw [q_P_init_36 C4.2.2.1 (nx C4)]
  generalize sR (hNew g4 22 24) p 7 (some (hN g4)) = g5 at *
  have C6 := CH_s C5 (by omega) (t := 22) (k := 8) rfl rfl
  rw [q_P_init_44 C5.2.2.1 (nx C5)]
  generalize sR (hNew g5 22 24) p 8 (some (hN g5)) = g6 at *
  have C7 := CH_s C6 (by omega) (t := 22) (k := 9) rfl rfl
  rw [q_P_init_52 C6.2.2.1 (nx C6)]
  generalize sR (hNew g6 22 24) p 9 (some (hN g6)) = g7 at *
  have C8 := CH_s C7 (by omega) (t := 22) (k := 10) rfl rfl
  rw [q_P_init_60 C7.2.2.1 (nx C7)]
  generalize sR (hNew g7 22 24) p 10 (some (hN g7)) = g8 at *
  have C9 := CH_s C8 (by omega) (t := 22) (k := 11) rfl rfl
  rw [q_P_init_68 C8.2.2.1 (nx C8)]
  generalize sR (hNew g8 22 24) p 11 (some (hN g8)) = g9 at *
  have CA := CH_s C9 (by omega) (t := 25) (k := 12) rfl rfl
  rw [q_P_init_76 C9.2.2.1 (nx C9)]
  generalize sR (hNew g9 25 24) p 12 (some (hN g9)) = ga at *
  rw [q_P_init_85 CA.2.2.1 (nx CA)]
  obtain ⟨a1, a2, a3, a4, a5, a6, a7⟩ := CA
  have Gb : Gw W0 11 254 h (sR ga p 13 (some 3)) := Gw_sR a7 _ (fun z => by have z9 : zVB = 10000000 := rfl; omega)
  have Kb := KC_0 K Gb
  have Pb : PS (sR ga p 13 (some 3)) p := by
    refine ⟨a3, by show p + 10 < hN ga; omega, fun j hj => ?_, fun k hk => ?_, zup_s _ _ _ _⟩
    · simp only [Bool.and_eq_true, Nat.blt_eq, Nat.ble_eq] at hj
      exact ⟨(a4 j hj.1 hj.2).1, (a4 j hj.1 hj.2).2.1⟩
    · simp only [Bool.and_eq_true, Nat.ble_eq] at hk
      exact (zup_n _ _ _ _ _ _ (fun z => by omega)).trans (a5 k hk.1 (by omega))
  have Ib : ∀ j, j ≤ 10 → ∀ i, hI (sR ga p 13 (some 3)) (p + j) i = 0 := fun j hj i => by
    by_cases c : j = 0
    · subst c; exact a6 i
    · exact (a4 j (by omega) hj).2.2 i
  have nb : hN (sR ga p 13 (some 3)) = p + 11 := a2
  generalize sR ga p 13 (some 3) = gb at *
  obtain ⟨h2, e2, P2, H2, I2, n2, G2⟩ := l_P_init 24 0 gb rfl Pb (FS_lit Kb 3 rfl) (fun k hk => absurd hk (by omega)) (by omega)
  refine ⟨h2, e2, P2, fun j hj i => (I2 _ _).trans (Ib j hj i), H2, n2.trans nb, Gw_m (Gw_t Gb G2 (fun a k ha z => ?_)) (fun _ _ _ z => z) (by omega) (by omega)⟩
  have z9 : zVB = 10000000 := rfl
  omega
theorem l_V_init {v : Nat} : ∀ (m i : Nat) (h : zH), i + m = 24 → VS h v → FS h 3 → (∀ k, k < i → hR h (v + 1) k = some 3 ∧ hR h (v + 2) k = some 3 ∧ hI h (v + 3) k = -1 ∧ hI h (v + 4) k = 10) → 3 < v → ∃ h2, zY 124 55 [some (zR (some v)), some (zR (some 3)), some (zI i)] [] h = some (.inl none, h2) ∧ VS h2 v ∧ (∀ k, k < 24 → hR h2 (v + 1) k = some 3 ∧ hR h2 (v + 2) k = some 3 ∧ hI h2 (v + 3) k = -1 ∧ hI h2 (v + 4) k = 10) ∧ hN h2 = hN h ∧ (hR h2 v 0 = hR h v 0 ∧ hR h2 v 1 = hR h v 1) ∧ Gw (fun a _ => v < a ∧ a < v + 5) 0 0 h h2
  | 0, i, h, hm, V, F, H, h3 => by
    rw [q_V_init_55 V F, if_neg (by omega)]
    exact ⟨h, rfl, V, fun k hk => H k (by omega), rfl, ⟨rfl, rfl⟩, Gw_r _ _⟩
  | m + 1, i, h, hm, V, F, H, h3 => by
    have e : ((i : Int) + 1) = ((i + 1 : Nat) : Int) := by omega
    have G1 : Gw (fun a _ => v < a ∧ a < v + 5) 0 0 h (sR h (v + 1) i (some 3)) := Gw_sR (Gw_r _ _) _ (fun _ => by omega)
    have V1 := VS_g V G1 (fun k _ => by omega)
    have F1 := FS_g F G1 (by omega)
    have G2 : Gw (fun a _ => v < a ∧ a < v + 5) 0 0 h (sR (sR h (v + 1) i (some 3)) (v + 2) i (some 3)) := Gw_sR G1 _ (fun _ => by omega)
    have V2 := VS_g V G2 (fun k _ => by omega)
    have F2 := FS_g F G2 (by omega)
    have G4 : Gw (fun a _ => v < a ∧ a < v + 5) 0 0 h (sI (sI (sR (sR h (v + 1) i (some 3)) (v + 2) i (some 3)) (v + 3) i (-1)) (v + 4) i 10) := Gw_sI (Gw_sI G2 _ (fun _ => by omega)) _ (fun _ => by omega)
    have V4 := VS_g V G4 (fun k _ => by omega)
    have F4 := FS_g F G4 (by omega)
    rw [q_V_init_55 V F, if_pos (by omega), gd_t (by omega), Int.toNat_natCast, q_V_init_68 V1 F1, gd_t (by omega), Int.toNat_natCast, q_V_init_75 V2 F2, gd_t (by omega), gd_t (by omega), Int.toNat_natCast, e]
    have H4 : ∀ k, k < i + 1 → hR (sI (sI (sR (sR h (v + 1) i (some 3)) (v + 2) i (some 3)) (v + 3) i (-1)) (v + 4) i 10) (v + 1) k = some 3 ∧ hR (sI (sI (sR (sR h (v + 1) i (some 3)) (v + 2) i (some 3)) (v + 3) i (-1)) (v + 4) i 10) (v + 2) k = some 3 ∧ hI (sI (sI (sR (sR h (v + 1) i (some 3)) (v + 2) i (some 3)) (v + 3) i (-1)) (v + 4) i 10) (v + 3) k = -1 ∧ hI (sI (sI (sR (sR h (v + 1) i (some 3)) (v + 2) i (some 3)) (v + 3) i (-1)) (v + 4) i 10) (v + 4) k = 10 := fun k hk => by
      have ne1 : ∀ {a b : Nat}, a ≠ b → v + a ≠ v + b := fun q => by omega
      by_cases c : k = i
      · subst c
        refine ⟨?_, zup_s _ _ _ _, ?_, zup_s _ _ _ _⟩
        · exact (zup_n _ _ _ _ _ _ (fun z => by omega)).trans (zup_s _ _ _ _)
        · exact (zup_n _ _ _ _ _ _ (fun z => by omega)).trans (zup_s _ _ _ _)
      · obtain ⟨b1, b2, b3, b4⟩ := H k (by omega)
        refine ⟨?_, ?_, ?_, ?_⟩
        · exact (zup_n _ _ _ _ _ _ (fun z => c z.2)).trans ((zup_n _ _ _ _ _ _ (fun z => c z.2)).trans b1)
        · exact (zup_n _ _ _ _ _ _ (fun z => c z.2)).trans ((zup_n _ _ _ _ _ _ (fun z => c z.2)).trans b2)
        · exact (zup_n _ _ _ _ _ _ (fun z => c z.2)).trans ((zup_n _ _ _ _ _ _ (fun z => c z.2)).trans b3)
        · exact (zup_n _ _ _ _ _ _ (fun z => c z.2)).trans ((zup_n _ _ _ _ _ _ (fun z => c z.2)).trans b4)
    have n4 : hN (sI (sI (sR (sR h (v + 1) i (some 3)) (v + 2) i (some 3)) (v + 3) i (-1)) (v + 4) i 10) = hN h := rfl
    have r4 : ∀ k, hR (sI (sI (sR (sR h (v + 1) i (some 3)) (v + 2) i (some 3)) (v + 3) i (-1)) (v + 4) i 10) v k = hR h v k := fun k => (zup_n _ _ _ _ _ _ (fun z => by omega)).trans (zup_n _ _ _ _ _ _ (fun z => by omega))
    generalize sI (sI (sR (sR h (v + 1) i (some 3)) (v + 2) i (some 3)) (v + 3) i (-1)) (v + 4) i 10 = g at *
    obtain ⟨h2, e2, V5, H5, n5, ⟨r5, r6⟩, G5⟩ := l_V_init m (i + 1) g (by omega) V4 F4 H4 h3
    exact ⟨h2, e2, V5, H5, n5.trans n4, ⟨r5.trans (r4 0), r6.trans (r4 1)⟩, Gw_m (Gw_t G4 G5 (fun _ _ _ z => z)) (fun _ _ _ z => z) (by omega) (by omega)⟩
theorem c_newV (K : KC h) (hz : hN h + 6 ≤ zVB) : ∃ h2, zC 124 [zR (some (hN h)), zR (some 3)] (hNew h 10 7) = some (.inl none, h2) ∧ VS h2 (hN h) ∧ (hR h2 (hN h) 0 = some 3 ∧ hR h2 (hN h) 1 = some 3) ∧ (∀ k, k < 24 → hR h2 (hN h + 1) k = some 3 ∧ hR h2 (hN h + 2) k = some 3 ∧ hI h2 (hN h + 3) k = -1 ∧ hI h2 (hN h + 4) k = 10) ∧ hN h2 = hN h + 5 ∧ Gw W0 5 110 h h2 := by
  have k0 := K.1
  have C0 := CH_0 10 vst h 7 (by omega) (by omega)
  generalize hNew h 10 7 = g0 at *
  generalize hp : hN h = p at *
  have nx : ∀ {m : Nat} {g : zH}, CH 10 vst p m h g → p < hN g := fun C => by have := C.2.1; omega
  have C1 := CH_s C0 (by omega) (t := 25) (k := 3) rfl rfl
  rw [q_V_init C0.2.2.1 (nx C0)]
  generalize sR (hNew g0 25 24) p 3 (some (hN g0)) = g1 at *
  have C2 := CH_s C1 (by omega) (t := 25) (k := 4) rfl rfl
  rw [q_V_init_13 C1.2.2.1 (nx C1)]
  generalize sR (hNew g1 25 24) p 4 (some (hN g1)) = g2 at *
  have C3 := CH_s C2 (by omega) (t := 22) (k := 5) rfl rfl
  rw [q_V_init_22 C2.2.2.1 (nx C2)]
  generalize sR (hNew g2 22 24) p 5 (some (hN g2)) = g3 at *
  have C4 := CH_s C3 (by omega) (t := 22) (k := 6) rfl rfl
  rw [q_V_init_30 C3.2.2.1 (nx C3)]
  generalize sR (hNew g3 22 24) p 6 (some (hN g3)) = ga at *
  rw [q_V_init_38 C4.2.2.1 (nx C4)]
  obtain ⟨a1, a2, a3, a4, a5, a6, a7⟩ := C4
  have z9 : zVB = 10000000 := rfl
  have Gb : Gw W0 5 110 h (sR (sR (sR ga p 2 (some 3)) p 0 (some 3)) p 1 (some 3)) := Gw_sR (Gw_sR (Gw_sR a7 _ (fun z => by omega)) _ (fun z => by omega)) _ (fun z => by omega)
  have Kb := KC_0 K Gb
  have Pb : VS (sR (sR (sR ga p 2 (some 3)) p 0 (some 3)) p 1 (some 3)) p := by
    refine ⟨a3, by show p + 4 < hN ga; omega, fun j hj => ?_, fun k hk => ?_, ?_⟩
    · simp only [Bool.and_eq_true, Nat.blt_eq, Nat.ble_eq] at hj
      exact ⟨(a4 j hj.1 hj.2).1, (a4 j hj.1 hj.2).2.1⟩
    · simp only [Bool.and_eq_true, Nat.ble_eq] at hk
      exact (zup_n _ _ _ _ _ _ (fun z => by omega)).trans ((zup_n _ _ _ _ _ _ (fun z => by omega)).trans ((zup_n _ _ _ _ _ _ (fun z => by omega)).trans (a5 k hk.1 (by omega))))
    · exact (zup_n _ _ _ _ _ _ (fun z => by omega)).trans ((zup_n _ _ _ _ _ _ (fun z => by omega)).trans (zup_s _ _ _ _))
  have nb : hN (sR (sR (sR ga p 2 (some 3)) p 0 (some 3)) p 1 (some 3)) = p + 5 := a2
  have r0 : hR (sR (sR (sR ga p 2 (some 3)) p 0 (some 3)) p 1 (some 3)) p 0 = some 3 := (zup_n _ _ _ _ _ _ (fun z => by omega)).trans (zup_s _ _ _ _)
  have r1 : hR (sR (sR (sR ga p 2 (some 3)) p 0 (some 3)) p 1 (some 3)) p 1 = some 3 := zup_s _ _ _ _
  generalize sR (sR (sR ga p 2 (some 3)) p 0 (some 3)) p 1 (some 3) = gb at *
  obtain ⟨h2, e2, P2, H2, n2, ⟨r2, r3⟩, G2⟩ := l_V_init 24 0 gb rfl Pb (FS_lit Kb 3 rfl) (fun k hk => absurd hk (by omega)) (by omega)
  exact ⟨h2, e2, P2, ⟨r2.trans r0, r3.trans r1⟩, H2, n2.trans nb, Gw_m (Gw_t Gb G2 (fun a k ha z => by omega)) (fun _ _ _ z => z) (by omega) (by omega)⟩
/-- a copy of a row's first bytes -/
def hCp (g : zH) (r n : Nat) : zH := (hN (hNew g 21 n), hU (hNew g 21 n), hT (hNew g 21 n), hL (hNew g 21 n), hR (hNew g 21 n), zu1 (hI g) (hN g) (fun j => if j < hL g r ∧ j < n then hI g r j else 0), hJ (hNew g 21 n), hF (hNew g 21 n), hD (hNew g 21 n))
theorem q_Fo_init {g : zH} {f r : Nat} {n : Int} (n0 : 0 ≤ n) (n1 : n < 65536) (tf : hT g f = 2) (nf : f < hN g) (tr : hT g r = 21) (nr : r < hN g) : zC 13 [zR (some f), zR (some r), zI n] g = some (.inl none, sR (hCp g r n.toNat) f 0 (some (hN g))) := by
  refine (show zC 13 [zR (some f), zR (some r), zI n] g = gd (zctor 13 = true ∧ true = true) (gd ((some f).isSome = true ∧ zcs [] ≤ 8 ∧ zrm 13 1 20 = true) (gd (inR (0)) (gd (false = zctor 223 ∧ zcs [zR (some r), zR (some f)] ≤ 8 ∧ zrm 13 (zrf 223 + 1) (8 + (zmaxl 223 + 11) + zrl 223) = true ∧ zcs [zI n, zI 0] ≤ zmaxl 223) (zBack zY 13 8 11 [some (zR (some f)), some (zR (some r)), some (zI n)] [zR (some r), zR (some f)] (zC 223 [zI n, zI 0] g))))) from zGo 7 13 0 _ _ _).trans ?_
  refine (gd_t (⟨rfl, rfl⟩) _).trans ?_
  refine (gd_t (⟨rfl, Nat.le_of_ble_eq_true rfl, rfl⟩) _).trans ?_
  refine (gd_t (by decide) _).trans ?_
  refine (gd_t (⟨rfl, Nat.le_of_ble_eq_true rfl, rfl, Nat.le_of_ble_eq_true rfl⟩) _).trans ?_
  refine (congrArg (zBack zY 13 8 11 [some (zR (some f)), some (zR (some r)), some (zI n)] [zR (some r), zR (some f)]) (e_Ma_max)).trans ?_
  have em : f_Ma_max n 0 = n := by unfold f_Ma_max; rw [if_neg (by omega)]
  rw [em]
  refine (show zBack zY 13 8 11 [some (zR (some f)), some (zR (some r)), some (zI n)] [zR (some r), zR (some f)] (some (.inl (some (zI n)), g)) = gd (zob g (some r) 21 ∧ 0 ≤ n ∧ n < 65536 ∧ zcs [zR (some f)] ≤ 8 ∧ zrm 13 3 80 = true) (gd (zob (hCp g r n.toNat) (some f) 2) (gd (([] : List zV).isEmpty = true ∧ zrk 13 = 0) (some (.inl none, sR (hCp g r n.toNat) f 0 (some (hN g)))))) from zGo 3 13 11 _ _ _).trans ?_
  refine (gd_t ⟨⟨rfl, tr, nr⟩, n0, n1, Nat.le_of_ble_eq_true rfl, rfl⟩ _).trans ?_
  refine (gd_t ⟨rfl, (if_neg (Nat.ne_of_lt nf)).trans tf, Nat.lt_succ_of_lt nf⟩ _).trans ?_
  exact gd_t ⟨rfl, rfl⟩ _
/-- a formula's nodes, wherever it lies -/
def FO0 (h : zH) (f : Nat) (l : List Int) : Prop := FS h f ∧ hL h (f + 1) = l.length ∧ l = upto (hI h (f + 1)) 0 l.length []
theorem FO_0 {f : Nat} {l : List Int} (F : FO0 h f l) (a : mutB f = false) (b : mutB (f + 1) = false) : FO h f l := ⟨F.1, a, b, F.2⟩
/-- a new formula of a row's first bytes -/
theorem c_newFo (hz : hN h + 2 ≤ zVB) {r : Nat} {n : Int} (n0 : 0 ≤ n) (n1 : n ≤ 60000) (tr : hT h r = 21) (nr : r < hN h) (lr : n ≤ hL h r) : ∃ h2, zC 13 [zR (some (hN h)), zR (some r), zI n] (hNew h 2 1) = some (.inl none, h2) ∧ FO0 h2 (hN h) (upto (hI h r) 0 n.toNat []) ∧ hN h2 = hN h + 2 ∧ Gw W0 2 (n.toNat - 30) h h2 := by
  have z9 : zVB = 10000000 := rfl
  have nr1 : r ≠ hN h := by omega
  have t1 : hT (hNew h 2 1) (hN h) = 2 := zu1_s _ _ _
  have t2 : hT (hNew h 2 1) r = 21 := (zu1_n _ _ nr1).trans tr
  have l2 : hL (hNew h 2 1) r = hL h r := zu1_n _ _ nr1
  have i2 : hI (hNew h 2 1) r = hI h r := zu1_n _ _ nr1
  have n2 : hN (hNew h 2 1) = hN h + 1 := rfl
  have u2 : hU (hNew h 2 1) = hU h + 1 := rfl
  have G1 := Gw_new W0 h 2 1 (by omega)
  rw [q_Fo_init n0 (by omega) t1 (by omega) t2 (by omega)]
  generalize hNew h 2 1 = g at *
  have G2 : Gw W0 1 n.toNat g (hCp g r n.toNat) := by
    obtain ⟨a, b, c⟩ := Gw_new W0 g 21 n.toNat (by omega)
    refine ⟨a, b, fun x k hx hw => ?_⟩
    obtain ⟨c1, c2, c3, c4, c5⟩ := c x k hx hw
    exact ⟨c1, congrFun (zu1_n _ _ (by omega)) k, c3, c4, c5⟩
  have G : Gw W0 (1 + 1) (n.toNat - 30) h (sR (hCp g r n.toNat) (hN h) 0 (some (hN g))) := by
    obtain ⟨⟨ga, gb, _⟩, gc⟩ := Gw_sR (a := hN h) (k := 0) (Gw_t G1 G2 (fun _ _ _ z => z)) (some (hN g)) (fun z => by omega)
    exact ⟨⟨ga, gb, by show hU g + n.toNat + 16 * hN h ≤ hU h + 16 * (hN g + 1) + (n.toNat - 30); omega⟩, gc⟩
  have F : FO0 (sR (hCp g r n.toNat) (hN h) 0 (some (hN g))) (hN h) (upto (hI h r) 0 n.toNat []) := by
    have len : (upto (hI h r) 0 n.toNat []).length = n.toNat := by rw [upto_len]; rfl
    refine ⟨⟨(zu1_n _ _ (show hN h ≠ hN g by omega)).trans t1, ?_, ?_, ?_⟩, ?_, ?_⟩
    · refine (zup_s _ _ _ _).trans ?_
      rw [n2]
    · rw [← n2]; exact zu1_s _ _ _
    · show hN h + 1 < hN g + 1
      omega
    · rw [len, ← n2]; exact zu1_s _ _ _
    · rw [len]
      refine upto_congr n.toNat [] (fun i hi => ?_)
      rw [Nat.zero_add]
      have e : hI (sR (hCp g r n.toNat) (hN h) 0 (some (hN g))) (hN h + 1) = (fun j => if j < hL g r ∧ j < n.toNat then hI g r j else 0) := by
        rw [← n2]; exact zu1_s _ _ _
      rw [e]
      show hI h r i = if i < hL g r ∧ i < n.toNat then hI g r i else 0
      rw [if_pos ⟨by omega, hi⟩, i2]
  exact ⟨_, rfl, F, by show hN g + 1 = _; omega, G⟩
theorem c_formulaEnd (K : KC h) (hz : hN h + 2 ≤ zVB) {x1 x2 x3 x4 x5 : Int} (n0 : 0 ≤ x4) (n1 : x4 ≤ 30) : ∃ h2, zY 28 148 [some (zR (some 5)), some (zI x1), some (zI x2), some (zI x3), some (zI x4), some (zI x5), none, none] [] h = some (.inl (some (zR (some (hN h)))), h2) ∧ FO0 h2 (hN h) (upto (hI h 6) 0 x4.toNat []) ∧ hN h2 = hN h + 2 ∧ Gw W0 2 0 h h2 := by
  have G1 := Gw_new W0 h 2 1 (by omega)
  have K1 := KC_0 K G1
  obtain ⟨h2, e2, F2, n2, G2⟩ := c_newFo hz n0 (by omega) (PTC K 6 21 rfl rfl) (PNC K 6 rfl) (by rw [PLC K 6 30 rfl rfl]; exact n1)
  refine ⟨h2, ?_, F2, n2, Gw_m G2 (fun _ _ _ z => z) (by omega) (by omega)⟩
  refine (show zY 28 148 [some (zR (some 5)), some (zI x1), some (zI x2), some (zI x3), some (zI x4), some (zI x5), none, none] [] h = gd (zob (hNew h 2 1) (some 5) 4) (zY 28 156 [some (zR (some 5)), some (zI x1), some (zI x2), some (zI x3), some (zI x4), some (zI x5), none, none] [zR (hR (hNew h 2 1) 5 3), zR (some (hN h)), zR (some (hN h))] (hNew h 2 1)) from zGo 4 28 148 _ _ _).trans ?_
  refine (gd_t (⟨rfl, (PTC K1 5 _ rfl rfl), (PNC K1 5 rfl)⟩) _).trans ?_
  refine (congrArg (fun rz => zY 28 156 [some (zR (some 5)), some (zI x1), some (zI x2), some (zI x3), some (zI x4), some (zI x5), none, none] (zR rz :: zR (some (hN h)) :: zR (some (hN h)) :: []) (hNew h 2 1)) (PRC K1 5 3 _ rfl)).trans ?_
  refine (show zY 28 156 [some (zR (some 5)), some (zI x1), some (zI x2), some (zI x3), some (zI x4), some (zI x5), none, none] [zR (some 6), zR (some (hN h)), zR (some (hN h))] (hNew h 2 1) = gd (true = zctor 13 ∧ zcs [zR (some (hN h))] ≤ 8 ∧ zrm 28 (zrf 13 + 1) (8 + (zmaxl 13 + 11) + zrl 13) = true ∧ zcs [zR (some (hN h)), zR (some 6), zI x4] ≤ zmaxl 13) (gd (zob (hNew h 2 1) (some (hN h)) 2) (zBack zY 28 158 161 [some (zR (some 5)), some (zI x1), some (zI x2), some (zI x3), some (zI x4), some (zI x5), none, none] [zR (some (hN h))] (zC 13 [zR (some (hN h)), zR (some 6), zI x4] (hNew h 2 1)))) from zGo 2 28 156 _ _ _).trans ?_
  refine (gd_t (⟨rfl, Nat.le_of_ble_eq_true rfl, rfl, Nat.le_of_ble_eq_true rfl⟩) _).trans ?_
  refine (gd_t (⟨rfl, if_pos rfl, Nat.lt_succ_self _⟩) _).trans ?_
  rw [e2]
  exact q_Pa_parseFormula_r161 (KC_0 K G2) F2.1
end CNEW

