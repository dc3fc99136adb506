/-! The start: what stands while the class is made. -/
section CSTART
variable {h h2 : zH}
theorem c_newP2 (F3 : FS h 3) (h3 : 90 ≤ hN h ∨ 4 < hN h) (hz : hN h + 12 ≤ zVB) : ∃ h2, zC 35 [zR (some (hN h)), zR (some 3)] (hNew h 5 14) = some (.inl none, h2) ∧ PS h2 (hN h) ∧ hL h2 (hN h) = 14 ∧ (∀ j, j ≤ 10 → ∀ i, hI h2 (hN h + j) i = 0) ∧ (∀ i, i < 24 → hR h2 (hN h + 10) i = some 3) ∧ hN h2 = hN h + 11 ∧ Gw W0 11 254 h h2 := by
  have C0 := CH_0 5 pst h 14 (by omega) (by omega)
  have l0 : hL (hNew h 5 14) (hN h) = 14 := zu1_s _ _ _
  generalize hNew h 5 14 = g0 at *
  generalize hp : hN h = p at *
  have nx : ∀ {m : Nat} {g : zH}, CH 5 pst p m h g → p < hN g := fun C => by have := C.2.1; omega
  have C1 := CH_s C0 (by omega) (t := 22) (k := 3) rfl rfl
  rw [q_P_init C0.2.2.1 (nx C0)]
  have l1 : hL (sR (hNew g0 22 24) p 3 (some (hN g0))) p = 14 := (zu1_n _ _ (Nat.ne_of_lt (nx C0))).trans l0
  generalize sR (hNew g0 22 24) p 3 (some (hN g0)) = g1 at *
  have C2 := CH_s C1 (by omega) (t := 22) (k := 4) rfl rfl
  rw [q_P_init_12 C1.2.2.1 (nx C1)]
  have l2 : hL (sR (hNew g1 22 24) p 4 (some (hN g1))) p = 14 := (zu1_n _ _ (Nat.ne_of_lt (nx C1))).trans l1
  generalize sR (hNew g1 22 24) p 4 (some (hN g1)) = g2 at *
  have C3 := CH_s C2 (by omega) (t := 22) (k := 5) rfl rfl
  rw [q_P_init_20 C2.2.2.1 (nx C2)]
  have l3 : hL (sR (hNew g2 22 24) p 5 (some (hN g2))) p = 14 := (zu1_n _ _ (Nat.ne_of_lt (nx C2))).trans l2
  generalize sR (hNew g2 22 24) p 5 (some (hN g2)) = g3 at *
  have C4 := CH_s C3 (by omega) (t := 22) (k := 6) rfl rfl
  rw [q_P_init_28 C3.2.2.1 (nx C3)]
  have l4 : hL (sR (hNew g3 22 24) p 6 (some (hN g3))) p = 14 := (zu1_n _ _ (Nat.ne_of_lt (nx C3))).trans l3
  generalize sR (hNew g3 22 24) p 6 (some (hN g3)) = g4 at *
  have C5 := CH_s C4 (by omega) (t := 22) (k := 7) rfl rfl
  rw [q_P_init_36 C4.2.2.1 (nx C4)]
  have l5 : hL (sR (hNew g4 22 24) p 7 (some (hN g4))) p = 14 := (zu1_n _ _ (Nat.ne_of_lt (nx C4))).trans l4
  generalize sR (hNew g4 22 24) p 7 (some (hN g4)) = g5 at *
  have C6 := CH_s C5 (by omega) (t := 22) (k := 8) rfl rfl
  rw [q_P_init_44 C5.2.2.1 (nx C5)]
  have l6 : hL (sR (hNew g5 22 24) p 8 (some (hN g5))) p = 14 := (zu1_n _ _ (Nat.ne_of_lt (nx C5))).trans l5
  generalize sR (hNew g5 22 24) p 8 (some (hN g5)) = g6 at *
  have C7 := CH_s C6 (by omega) (t := 22) (k := 9) rfl rfl
  rw [q_P_init_52 C6.2.2.1 (nx C6)]
  have l7 : hL (sR (hNew g6 22 24) p 9 (some (hN g6))) p = 14 := (zu1_n _ _ (Nat.ne_of_lt (nx C6))).trans l6
  generalize sR (hNew g6 22 24) p 9 (some (hN g6)) = g7 at *
  have C8 := CH_s C7 (by omega) (t := 22) (k := 10) rfl rfl
  rw [q_P_init_60 C7.2.2.1 (nx C7)]
  have l8 : hL (sR (hNew g7 22 24) p 10 (some (hN g7))) p = 14 := (zu1_n _ _ (Nat.ne_of_lt (nx C7))).trans l7
  generalize sR (hNew g7 22 24) p 10 (some (hN g7)) = g8 at *
  have C9 := CH_s C8 (by omega) (t := 22) (k := 11) rfl rfl
  rw [q_P_init_68 C8.2.2.1 (nx C8)]
  have l9 : hL (sR (hNew g8 22 24) p 11 (some (hN g8))) p = 14 := (zu1_n _ _ (Nat.ne_of_lt (nx C8))).trans l8
  generalize sR (hNew g8 22 24) p 11 (some (hN g8)) = g9 at *
  have CA := CH_s C9 (by omega) (t := 25) (k := 12) rfl rfl
  rw [q_P_init_76 C9.2.2.1 (nx C9)]
  have l10 : hL (sR (hNew g9 25 24) p 12 (some (hN g9))) p = 14 := (zu1_n _ _ (Nat.ne_of_lt (nx C9))).trans l9
  generalize sR (hNew g9 25 24) p 12 (some (hN g9)) = ga at *
  rw [q_P_init_85 CA.2.2.1 (nx CA)]
  obtain ⟨a1, a2, a3, a4, a5, a6, a7⟩ := CA
  have Gb : Gw W0 11 254 h (sR ga p 13 (some 3)) := Gw_sR a7 _ (fun z => by have z9 : zVB = 10000000 := rfl; omega)
  have F3b := FS_g F3 Gb (fun z => z)
  have Pb : PS (sR ga p 13 (some 3)) p := by
    refine ⟨a3, by show p + 10 < hN ga; omega, fun j hj => ?_, fun k hk => ?_, zup_s _ _ _ _⟩
    · simp only [Bool.and_eq_true, Nat.blt_eq, Nat.ble_eq] at hj
      exact ⟨(a4 j hj.1 hj.2).1, (a4 j hj.1 hj.2).2.1⟩
    · simp only [Bool.and_eq_true, Nat.ble_eq] at hk
      exact (zup_n _ _ _ _ _ _ (fun z => by omega)).trans (a5 k hk.1 (by omega))
  have Ib : ∀ j, j ≤ 10 → ∀ i, hI (sR ga p 13 (some 3)) (p + j) i = 0 := fun j hj i => by
    by_cases c : j = 0
    · subst c; exact a6 i
    · exact (a4 j (by omega) hj).2.2 i
  have nb : hN (sR ga p 13 (some 3)) = p + 11 := a2
  have lb : hL (sR ga p 13 (some 3)) p = 14 := l10
  generalize sR ga p 13 (some 3) = gb at *
  obtain ⟨h2, e2, P2, H2, I2, n2, G2⟩ := l_P_init 24 0 gb rfl Pb (F3b) (fun k hk => absurd hk (by omega)) (by omega)
  refine ⟨h2, e2, P2, (G2.2.1 p (Or.inl (by omega))).2.trans lb, fun j hj i => (I2 _ _).trans (Ib j hj i), H2, n2.trans nb, Gw_m (Gw_t Gb G2 (fun a k ha z => ?_)) (fun _ _ _ z => z) (by omega) (by omega)⟩
  have z9 : zVB = 10000000 := rfl
  omega
theorem c_newV2 (F3 : FS h 3) (h3 : 90 ≤ hN h ∨ 4 < hN h) (hz : hN h + 6 ≤ zVB) : ∃ h2, zC 124 [zR (some (hN h)), zR (some 3)] (hNew h 10 7) = some (.inl none, h2) ∧ VS h2 (hN h) ∧ hL h2 (hN h) = 7 ∧ (hR h2 (hN h) 0 = some 3 ∧ hR h2 (hN h) 1 = some 3) ∧ (∀ k, k < 24 → hR h2 (hN h + 1) k = some 3 ∧ hR h2 (hN h + 2) k = some 3 ∧ hI h2 (hN h + 3) k = -1 ∧ hI h2 (hN h + 4) k = 10) ∧ hN h2 = hN h + 5 ∧ Gw W0 5 110 h h2 := by
  have C0 := CH_0 10 vst h 7 (by omega) (by omega)
  have l0 : hL (hNew h 10 7) (hN h) = 7 := zu1_s _ _ _
  generalize hNew h 10 7 = g0 at *
  generalize hp : hN h = p at *
  have nx : ∀ {m : Nat} {g : zH}, CH 10 vst p m h g → p < hN g := fun C => by have := C.2.1; omega
  have C1 := CH_s C0 (by omega) (t := 25) (k := 3) rfl rfl
  rw [q_V_init C0.2.2.1 (nx C0)]
  have l1 : hL (sR (hNew g0 25 24) p 3 (some (hN g0))) p = 7 := (zu1_n _ _ (Nat.ne_of_lt (nx C0))).trans l0
  generalize sR (hNew g0 25 24) p 3 (some (hN g0)) = g1 at *
  have C2 := CH_s C1 (by omega) (t := 25) (k := 4) rfl rfl
  rw [q_V_init_13 C1.2.2.1 (nx C1)]
  have l2 : hL (sR (hNew g1 25 24) p 4 (some (hN g1))) p = 7 := (zu1_n _ _ (Nat.ne_of_lt (nx C1))).trans l1
  generalize sR (hNew g1 25 24) p 4 (some (hN g1)) = g2 at *
  have C3 := CH_s C2 (by omega) (t := 22) (k := 5) rfl rfl
  rw [q_V_init_22 C2.2.2.1 (nx C2)]
  have l3 : hL (sR (hNew g2 22 24) p 5 (some (hN g2))) p = 7 := (zu1_n _ _ (Nat.ne_of_lt (nx C2))).trans l2
  generalize sR (hNew g2 22 24) p 5 (some (hN g2)) = g3 at *
  have C4 := CH_s C3 (by omega) (t := 22) (k := 6) rfl rfl
  rw [q_V_init_30 C3.2.2.1 (nx C3)]
  have l4 : hL (sR (hNew g3 22 24) p 6 (some (hN g3))) p = 7 := (zu1_n _ _ (Nat.ne_of_lt (nx C3))).trans l3
  generalize sR (hNew g3 22 24) p 6 (some (hN g3)) = ga at *
  rw [q_V_init_38 C4.2.2.1 (nx C4)]
  obtain ⟨a1, a2, a3, a4, a5, a6, a7⟩ := C4
  have z9 : zVB = 10000000 := rfl
  have Gb : Gw W0 5 110 h (sR (sR (sR ga p 2 (some 3)) p 0 (some 3)) p 1 (some 3)) := Gw_sR (Gw_sR (Gw_sR a7 _ (fun z => by omega)) _ (fun z => by omega)) _ (fun z => by omega)
  have F3b := FS_g F3 Gb (fun z => z)
  have Pb : VS (sR (sR (sR ga p 2 (some 3)) p 0 (some 3)) p 1 (some 3)) p := by
    refine ⟨a3, by show p + 4 < hN ga; omega, fun j hj => ?_, fun k hk => ?_, ?_⟩
    · simp only [Bool.and_eq_true, Nat.blt_eq, Nat.ble_eq] at hj
      exact ⟨(a4 j hj.1 hj.2).1, (a4 j hj.1 hj.2).2.1⟩
    · simp only [Bool.and_eq_true, Nat.ble_eq] at hk
      exact (zup_n _ _ _ _ _ _ (fun z => by omega)).trans ((zup_n _ _ _ _ _ _ (fun z => by omega)).trans ((zup_n _ _ _ _ _ _ (fun z => by omega)).trans (a5 k hk.1 (by omega))))
    · exact (zup_n _ _ _ _ _ _ (fun z => by omega)).trans ((zup_n _ _ _ _ _ _ (fun z => by omega)).trans (zup_s _ _ _ _))
  have nb : hN (sR (sR (sR ga p 2 (some 3)) p 0 (some 3)) p 1 (some 3)) = p + 5 := a2
  have lb : hL (sR (sR (sR ga p 2 (some 3)) p 0 (some 3)) p 1 (some 3)) p = 7 := l4
  have r0 : hR (sR (sR (sR ga p 2 (some 3)) p 0 (some 3)) p 1 (some 3)) p 0 = some 3 := (zup_n _ _ _ _ _ _ (fun z => by omega)).trans (zup_s _ _ _ _)
  have r1 : hR (sR (sR (sR ga p 2 (some 3)) p 0 (some 3)) p 1 (some 3)) p 1 = some 3 := zup_s _ _ _ _
  generalize sR (sR (sR ga p 2 (some 3)) p 0 (some 3)) p 1 (some 3) = gb at *
  obtain ⟨h2, e2, P2, H2, n2, ⟨r2, r3⟩, G2⟩ := l_V_init 24 0 gb rfl Pb (F3b) (fun k hk => absurd hk (by omega)) (by omega)
  exact ⟨h2, e2, P2, (G2.2.1 p (Or.inl (by omega))).2.trans lb, ⟨r2.trans r0, r3.trans r1⟩, H2, n2.trans nb, Gw_m (Gw_t Gb G2 (fun a k ha z => by omega)) (fun _ _ _ z => z) (by omega) (by omega)⟩
def bT (a : Nat) : Nat := (bif Nat.blt a 81 then (bif Nat.blt a 40 then (bif Nat.blt a 20 then (bif Nat.blt a 10 then (bif Nat.blt a 5 then (bif Nat.blt a 2 then (bif Nat.blt a 1 then 11 else
 21) else
 (bif Nat.blt a 3 then 21 else
 (bif Nat.blt a 4 then 2 else
 21))) else
 (bif Nat.blt a 7 then (bif Nat.blt a 6 then 4 else
 21) else
 (bif Nat.blt a 8 then 7 else
 (bif Nat.blt a 9 then 22 else
 22)))) else
 (bif Nat.blt a 15 then (bif Nat.blt a 12 then (bif Nat.blt a 11 then 3 else
 26) else
 (bif Nat.blt a 13 then 26 else
 (bif Nat.blt a 14 then 20 else
 10))) else
 (bif Nat.blt a 17 then (bif Nat.blt a 16 then 25 else
 25) else
 (bif Nat.blt a 18 then 22 else
 (bif Nat.blt a 19 then 22 else
 10))))) else
 (bif Nat.blt a 30 then (bif Nat.blt a 25 then (bif Nat.blt a 22 then (bif Nat.blt a 21 then 25 else
 25) else
 (bif Nat.blt a 23 then 22 else
 (bif Nat.blt a 24 then 22 else
 10))) else
 (bif Nat.blt a 27 then (bif Nat.blt a 26 then 25 else
 25) else
 (bif Nat.blt a 28 then 22 else
 (bif Nat.blt a 29 then 22 else
 10)))) else
 (bif Nat.blt a 35 then (bif Nat.blt a 32 then (bif Nat.blt a 31 then 25 else
 25) else
 (bif Nat.blt a 33 then 22 else
 (bif Nat.blt a 34 then 22 else
 10))) else
 (bif Nat.blt a 37 then (bif Nat.blt a 36 then 25 else
 25) else
 (bif Nat.blt a 38 then 22 else
 (bif Nat.blt a 39 then 22 else
 10)))))) else
 (bif Nat.blt a 60 then (bif Nat.blt a 50 then (bif Nat.blt a 45 then (bif Nat.blt a 42 then (bif Nat.blt a 41 then 25 else
 25) else
 (bif Nat.blt a 43 then 22 else
 (bif Nat.blt a 44 then 22 else
 10))) else
 (bif Nat.blt a 47 then (bif Nat.blt a 46 then 25 else
 25) else
 (bif Nat.blt a 48 then 22 else
 (bif Nat.blt a 49 then 22 else
 10)))) else
 (bif Nat.blt a 55 then (bif Nat.blt a 52 then (bif Nat.blt a 51 then 25 else
 25) else
 (bif Nat.blt a 53 then 22 else
 (bif Nat.blt a 54 then 22 else
 10))) else
 (bif Nat.blt a 57 then (bif Nat.blt a 56 then 25 else
 25) else
 (bif Nat.blt a 58 then 22 else
 (bif Nat.blt a 59 then 22 else
 10))))) else
 (bif Nat.blt a 70 then (bif Nat.blt a 65 then (bif Nat.blt a 62 then (bif Nat.blt a 61 then 25 else
 25) else
 (bif Nat.blt a 63 then 22 else
 (bif Nat.blt a 64 then 22 else
 10))) else
 (bif Nat.blt a 67 then (bif Nat.blt a 66 then 25 else
 25) else
 (bif Nat.blt a 68 then 22 else
 (bif Nat.blt a 69 then 22 else
 10)))) else
 (bif Nat.blt a 75 then (bif Nat.blt a 72 then (bif Nat.blt a 71 then 25 else
 25) else
 (bif Nat.blt a 73 then 22 else
 (bif Nat.blt a 74 then 22 else
 5))) else
 (bif Nat.blt a 78 then (bif Nat.blt a 76 then 22 else
 (bif Nat.blt a 77 then 22 else
 22)) else
 (bif Nat.blt a 79 then 22 else
 (bif Nat.blt a 80 then 22 else
 22))))))) else
 (bif Nat.blt a 122 then (bif Nat.blt a 101 then (bif Nat.blt a 91 then (bif Nat.blt a 86 then (bif Nat.blt a 83 then (bif Nat.blt a 82 then 22 else
 22) else
 (bif Nat.blt a 84 then 22 else
 (bif Nat.blt a 85 then 25 else
 10))) else
 (bif Nat.blt a 88 then (bif Nat.blt a 87 then 25 else
 25) else
 (bif Nat.blt a 89 then 22 else
 (bif Nat.blt a 90 then 22 else
 8)))) else
 (bif Nat.blt a 96 then (bif Nat.blt a 93 then (bif Nat.blt a 92 then 23 else
 23) else
 (bif Nat.blt a 94 then 23 else
 (bif Nat.blt a 95 then 23 else
 23))) else
 (bif Nat.blt a 98 then (bif Nat.blt a 97 then 22 else
 25) else
 (bif Nat.blt a 99 then 25 else
 (bif Nat.blt a 100 then 23 else
 23))))) else
 (bif Nat.blt a 111 then (bif Nat.blt a 106 then (bif Nat.blt a 103 then (bif Nat.blt a 102 then 21 else
 2) else
 (bif Nat.blt a 104 then 21 else
 (bif Nat.blt a 105 then 2 else
 21))) else
 (bif Nat.blt a 108 then (bif Nat.blt a 107 then 2 else
 21) else
 (bif Nat.blt a 109 then 2 else
 (bif Nat.blt a 110 then 21 else
 2)))) else
 (bif Nat.blt a 116 then (bif Nat.blt a 113 then (bif Nat.blt a 112 then 21 else
 2) else
 (bif Nat.blt a 114 then 21 else
 (bif Nat.blt a 115 then 2 else
 21))) else
 (bif Nat.blt a 119 then (bif Nat.blt a 117 then 2 else
 (bif Nat.blt a 118 then 21 else
 2)) else
 (bif Nat.blt a 120 then 21 else
 (bif Nat.blt a 121 then 2 else
 21)))))) else
 (bif Nat.blt a 142 then (bif Nat.blt a 132 then (bif Nat.blt a 127 then (bif Nat.blt a 124 then (bif Nat.blt a 123 then 2 else
 21) else
 (bif Nat.blt a 125 then 2 else
 (bif Nat.blt a 126 then 21 else
 2))) else
 (bif Nat.blt a 129 then (bif Nat.blt a 128 then 21 else
 6) else
 (bif Nat.blt a 130 then 22 else
 (bif Nat.blt a 131 then 22 else
 23)))) else
 (bif Nat.blt a 137 then (bif Nat.blt a 134 then (bif Nat.blt a 133 then 1 else
 23) else
 (bif Nat.blt a 135 then 23 else
 (bif Nat.blt a 136 then 9 else
 27))) else
 (bif Nat.blt a 139 then (bif Nat.blt a 138 then 21 else
 21) else
 (bif Nat.blt a 140 then 21 else
 (bif Nat.blt a 141 then 21 else
 21))))) else
 (bif Nat.blt a 152 then (bif Nat.blt a 147 then (bif Nat.blt a 144 then (bif Nat.blt a 143 then 21 else
 21) else
 (bif Nat.blt a 145 then 21 else
 (bif Nat.blt a 146 then 21 else
 21))) else
 (bif Nat.blt a 149 then (bif Nat.blt a 148 then 21 else
 21) else
 (bif Nat.blt a 150 then 21 else
 (bif Nat.blt a 151 then 21 else
 21)))) else
 (bif Nat.blt a 157 then (bif Nat.blt a 154 then (bif Nat.blt a 153 then 21 else
 21) else
 (bif Nat.blt a 155 then 21 else
 (bif Nat.blt a 156 then 21 else
 21))) else
 (bif Nat.blt a 160 then (bif Nat.blt a 158 then 21 else
 (bif Nat.blt a 159 then 21 else
 21)) else
 (bif Nat.blt a 161 then 21 else
 (bif Nat.blt a 162 then 21 else
 22))))))))
def bL (a : Nat) : Nat := (bif Nat.blt a 81 then (bif Nat.blt a 40 then (bif Nat.blt a 20 then (bif Nat.blt a 10 then (bif Nat.blt a 5 then (bif Nat.blt a 2 then (bif Nat.blt a 1 then 15 else
 800) else
 (bif Nat.blt a 3 then 1200 else
 (bif Nat.blt a 4 then 1 else
 0))) else
 (bif Nat.blt a 7 then (bif Nat.blt a 6 then 8 else
 30) else
 (bif Nat.blt a 8 then 9 else
 (bif Nat.blt a 9 then 402 else
 402)))) else
 (bif Nat.blt a 15 then (bif Nat.blt a 12 then (bif Nat.blt a 11 then 5 else
 10) else
 (bif Nat.blt a 13 then 2 else
 (bif Nat.blt a 14 then 2 else
 7))) else
 (bif Nat.blt a 17 then (bif Nat.blt a 16 then 24 else
 24) else
 (bif Nat.blt a 18 then 24 else
 (bif Nat.blt a 19 then 24 else
 7))))) else
 (bif Nat.blt a 30 then (bif Nat.blt a 25 then (bif Nat.blt a 22 then (bif Nat.blt a 21 then 24 else
 24) else
 (bif Nat.blt a 23 then 24 else
 (bif Nat.blt a 24 then 24 else
 7))) else
 (bif Nat.blt a 27 then (bif Nat.blt a 26 then 24 else
 24) else
 (bif Nat.blt a 28 then 24 else
 (bif Nat.blt a 29 then 24 else
 7)))) else
 (bif Nat.blt a 35 then (bif Nat.blt a 32 then (bif Nat.blt a 31 then 24 else
 24) else
 (bif Nat.blt a 33 then 24 else
 (bif Nat.blt a 34 then 24 else
 7))) else
 (bif Nat.blt a 37 then (bif Nat.blt a 36 then 24 else
 24) else
 (bif Nat.blt a 38 then 24 else
 (bif Nat.blt a 39 then 24 else
 7)))))) else
 (bif Nat.blt a 60 then (bif Nat.blt a 50 then (bif Nat.blt a 45 then (bif Nat.blt a 42 then (bif Nat.blt a 41 then 24 else
 24) else
 (bif Nat.blt a 43 then 24 else
 (bif Nat.blt a 44 then 24 else
 7))) else
 (bif Nat.blt a 47 then (bif Nat.blt a 46 then 24 else
 24) else
 (bif Nat.blt a 48 then 24 else
 (bif Nat.blt a 49 then 24 else
 7)))) else
 (bif Nat.blt a 55 then (bif Nat.blt a 52 then (bif Nat.blt a 51 then 24 else
 24) else
 (bif Nat.blt a 53 then 24 else
 (bif Nat.blt a 54 then 24 else
 7))) else
 (bif Nat.blt a 57 then (bif Nat.blt a 56 then 24 else
 24) else
 (bif Nat.blt a 58 then 24 else
 (bif Nat.blt a 59 then 24 else
 7))))) else
 (bif Nat.blt a 70 then (bif Nat.blt a 65 then (bif Nat.blt a 62 then (bif Nat.blt a 61 then 24 else
 24) else
 (bif Nat.blt a 63 then 24 else
 (bif Nat.blt a 64 then 24 else
 7))) else
 (bif Nat.blt a 67 then (bif Nat.blt a 66 then 24 else
 24) else
 (bif Nat.blt a 68 then 24 else
 (bif Nat.blt a 69 then 24 else
 7)))) else
 (bif Nat.blt a 75 then (bif Nat.blt a 72 then (bif Nat.blt a 71 then 24 else
 24) else
 (bif Nat.blt a 73 then 24 else
 (bif Nat.blt a 74 then 24 else
 14))) else
 (bif Nat.blt a 78 then (bif Nat.blt a 76 then 24 else
 (bif Nat.blt a 77 then 24 else
 24)) else
 (bif Nat.blt a 79 then 24 else
 (bif Nat.blt a 80 then 24 else
 24))))))) else
 (bif Nat.blt a 122 then (bif Nat.blt a 101 then (bif Nat.blt a 91 then (bif Nat.blt a 86 then (bif Nat.blt a 83 then (bif Nat.blt a 82 then 24 else
 24) else
 (bif Nat.blt a 84 then 24 else
 (bif Nat.blt a 85 then 24 else
 7))) else
 (bif Nat.blt a 88 then (bif Nat.blt a 87 then 24 else
 24) else
 (bif Nat.blt a 89 then 24 else
 (bif Nat.blt a 90 then 24 else
 16)))) else
 (bif Nat.blt a 96 then (bif Nat.blt a 93 then (bif Nat.blt a 92 then 24 else
 24) else
 (bif Nat.blt a 94 then 24 else
 (bif Nat.blt a 95 then 24 else
 24))) else
 (bif Nat.blt a 98 then (bif Nat.blt a 97 then 24 else
 24) else
 (bif Nat.blt a 99 then 13 else
 (bif Nat.blt a 100 then 200 else
 200))))) else
 (bif Nat.blt a 111 then (bif Nat.blt a 106 then (bif Nat.blt a 103 then (bif Nat.blt a 102 then 3 else
 1) else
 (bif Nat.blt a 104 then 1 else
 (bif Nat.blt a 105 then 1 else
 1))) else
 (bif Nat.blt a 108 then (bif Nat.blt a 107 then 1 else
 1) else
 (bif Nat.blt a 109 then 1 else
 (bif Nat.blt a 110 then 1 else
 1)))) else
 (bif Nat.blt a 116 then (bif Nat.blt a 113 then (bif Nat.blt a 112 then 1 else
 1) else
 (bif Nat.blt a 114 then 1 else
 (bif Nat.blt a 115 then 1 else
 1))) else
 (bif Nat.blt a 119 then (bif Nat.blt a 117 then 1 else
 (bif Nat.blt a 118 then 3 else
 1)) else
 (bif Nat.blt a 120 then 3 else
 (bif Nat.blt a 121 then 1 else
 3)))))) else
 (bif Nat.blt a 142 then (bif Nat.blt a 132 then (bif Nat.blt a 127 then (bif Nat.blt a 124 then (bif Nat.blt a 123 then 1 else
 3) else
 (bif Nat.blt a 125 then 1 else
 (bif Nat.blt a 126 then 3 else
 1))) else
 (bif Nat.blt a 129 then (bif Nat.blt a 128 then 3 else
 10) else
 (bif Nat.blt a 130 then 1536 else
 (bif Nat.blt a 131 then 64 else
 24)))) else
 (bif Nat.blt a 137 then (bif Nat.blt a 134 then (bif Nat.blt a 133 then 5 else
 24) else
 (bif Nat.blt a 135 then 73 else
 (bif Nat.blt a 136 then 4 else
 25))) else
 (bif Nat.blt a 139 then (bif Nat.blt a 138 then 200 else
 200) else
 (bif Nat.blt a 140 then 200 else
 (bif Nat.blt a 141 then 200 else
 200))))) else
 (bif Nat.blt a 152 then (bif Nat.blt a 147 then (bif Nat.blt a 144 then (bif Nat.blt a 143 then 200 else
 200) else
 (bif Nat.blt a 145 then 200 else
 (bif Nat.blt a 146 then 200 else
 200))) else
 (bif Nat.blt a 149 then (bif Nat.blt a 148 then 200 else
 200) else
 (bif Nat.blt a 150 then 200 else
 (bif Nat.blt a 151 then 200 else
 200)))) else
 (bif Nat.blt a 157 then (bif Nat.blt a 154 then (bif Nat.blt a 153 then 200 else
 200) else
 (bif Nat.blt a 155 then 200 else
 (bif Nat.blt a 156 then 200 else
 200))) else
 (bif Nat.blt a 160 then (bif Nat.blt a 158 then 200 else
 (bif Nat.blt a 159 then 200 else
 200)) else
 (bif Nat.blt a 161 then 200 else
 (bif Nat.blt a 162 then 200 else
 25))))))))
def rl (q : Nat) : Nat × Nat × Nat := (bif Nat.blt q 52 then (bif Nat.blt q 26 then (bif Nat.blt q 13 then (bif Nat.blt q 6 then (bif Nat.blt q 3 then (bif Nat.blt q 1 then (0, 0, 1) else
 (bif Nat.blt q 2 then (0, 2, 2) else
 (3, 0, 4))) else
 (bif Nat.blt q 4 then (0, 6, 3) else
 (bif Nat.blt q 5 then (5, 3, 6) else
 (7, 5, 8)))) else
 (bif Nat.blt q 9 then (bif Nat.blt q 7 then (7, 6, 9) else
 (bif Nat.blt q 8 then (7, 2, 1) else
 (5, 2, 7))) else
 (bif Nat.blt q 11 then (bif Nat.blt q 10 then (0, 7, 5) else
 (10, 2, 11)) else
 (bif Nat.blt q 12 then (10, 3, 12) else
 (10, 4, 13))))) else
 (bif Nat.blt q 19 then (bif Nat.blt q 16 then (bif Nat.blt q 14 then (11, 0, 14) else
 (bif Nat.blt q 15 then (11, 1, 19) else
 (11, 2, 24))) else
 (bif Nat.blt q 17 then (11, 3, 29) else
 (bif Nat.blt q 18 then (11, 4, 34) else
 (11, 5, 39)))) else
 (bif Nat.blt q 22 then (bif Nat.blt q 20 then (11, 6, 44) else
 (bif Nat.blt q 21 then (11, 7, 49) else
 (11, 8, 54))) else
 (bif Nat.blt q 24 then (bif Nat.blt q 23 then (11, 9, 59) else
 (12, 0, 64)) else
 (bif Nat.blt q 25 then (12, 1, 69) else
 (0, 8, 10)))))) else
 (bif Nat.blt q 39 then (bif Nat.blt q 32 then (bif Nat.blt q 29 then (bif Nat.blt q 27 then (0, 13, 74) else
 (bif Nat.blt q 28 then (0, 14, 85) else
 (90, 2, 91))) else
 (bif Nat.blt q 30 then (90, 3, 92) else
 (bif Nat.blt q 31 then (90, 4, 93) else
 (90, 5, 94)))) else
 (bif Nat.blt q 35 then (bif Nat.blt q 33 then (90, 6, 95) else
 (bif Nat.blt q 34 then (90, 7, 96) else
 (90, 8, 97))) else
 (bif Nat.blt q 37 then (bif Nat.blt q 36 then (90, 10, 98) else
 (90, 11, 99)) else
 (bif Nat.blt q 38 then (90, 12, 100) else
 (90, 9, 3))))) else
 (bif Nat.blt q 45 then (bif Nat.blt q 42 then (bif Nat.blt q 40 then (102, 0, 103) else
 (bif Nat.blt q 41 then (98, 0, 102) else
 (104, 0, 105))) else
 (bif Nat.blt q 43 then (98, 1, 104) else
 (bif Nat.blt q 44 then (106, 0, 107) else
 (98, 2, 106)))) else
 (bif Nat.blt q 48 then (bif Nat.blt q 46 then (108, 0, 109) else
 (bif Nat.blt q 47 then (98, 3, 108) else
 (110, 0, 111))) else
 (bif Nat.blt q 50 then (bif Nat.blt q 49 then (98, 4, 110) else
 (112, 0, 113)) else
 (bif Nat.blt q 51 then (98, 5, 112) else
 (114, 0, 115))))))) else
 (bif Nat.blt q 78 then (bif Nat.blt q 65 then (bif Nat.blt q 58 then (bif Nat.blt q 55 then (bif Nat.blt q 53 then (98, 6, 114) else
 (bif Nat.blt q 54 then (116, 0, 117) else
 (98, 7, 116))) else
 (bif Nat.blt q 56 then (118, 0, 119) else
 (bif Nat.blt q 57 then (98, 8, 118) else
 (120, 0, 121)))) else
 (bif Nat.blt q 61 then (bif Nat.blt q 59 then (98, 9, 120) else
 (bif Nat.blt q 60 then (122, 0, 123) else
 (98, 10, 122))) else
 (bif Nat.blt q 63 then (bif Nat.blt q 62 then (124, 0, 125) else
 (98, 11, 124)) else
 (bif Nat.blt q 64 then (126, 0, 127) else
 (98, 12, 126))))) else
 (bif Nat.blt q 71 then (bif Nat.blt q 68 then (bif Nat.blt q 66 then (0, 9, 90) else
 (bif Nat.blt q 67 then (128, 3, 129) else
 (128, 4, 130))) else
 (bif Nat.blt q 69 then (128, 5, 131) else
 (bif Nat.blt q 70 then (128, 0, 90) else
 (0, 10, 128)))) else
 (bif Nat.blt q 74 then (bif Nat.blt q 72 then (132, 3, 133) else
 (bif Nat.blt q 73 then (132, 4, 134) else
 (132, 0, 90))) else
 (bif Nat.blt q 76 then (bif Nat.blt q 75 then (132, 1, 128) else
 (0, 11, 132)) else
 (bif Nat.blt q 77 then (136, 0, 137) else
 (136, 1, 138)))))) else
 (bif Nat.blt q 91 then (bif Nat.blt q 84 then (bif Nat.blt q 81 then (bif Nat.blt q 79 then (136, 2, 139) else
 (bif Nat.blt q 80 then (136, 3, 140) else
 (136, 4, 141))) else
 (bif Nat.blt q 82 then (136, 5, 142) else
 (bif Nat.blt q 83 then (136, 6, 143) else
 (136, 7, 144)))) else
 (bif Nat.blt q 87 then (bif Nat.blt q 85 then (136, 8, 145) else
 (bif Nat.blt q 86 then (136, 9, 146) else
 (136, 10, 147))) else
 (bif Nat.blt q 89 then (bif Nat.blt q 88 then (136, 11, 148) else
 (136, 12, 149)) else
 (bif Nat.blt q 90 then (136, 13, 150) else
 (136, 14, 151))))) else
 (bif Nat.blt q 98 then (bif Nat.blt q 94 then (bif Nat.blt q 92 then (136, 15, 152) else
 (bif Nat.blt q 93 then (136, 16, 153) else
 (136, 17, 154))) else
 (bif Nat.blt q 96 then (bif Nat.blt q 95 then (136, 18, 155) else
 (136, 19, 156)) else
 (bif Nat.blt q 97 then (136, 20, 157) else
 (136, 21, 158)))) else
 (bif Nat.blt q 101 then (bif Nat.blt q 99 then (136, 22, 159) else
 (bif Nat.blt q 100 then (136, 23, 160) else
 (136, 24, 161))) else
 (bif Nat.blt q 103 then (bif Nat.blt q 102 then (135, 2, 136) else
 (135, 3, 162)) else
 (bif Nat.blt q 104 then (135, 0, 90) else
 (0, 12, 135))))))))
theorem rl_ne {q m : Nat} (hm : m < 105) (hq : q < m) : ¬ ((rl q).1 = (rl m).1 ∧ (rl q).2.1 = (rl m).2.1) := by
  have key : ∀ (m : Fin 105) (q : Fin 105), q.val < m.val → (Nat.beq (rl q.val).1 (rl m.val).1 && Nat.beq (rl q.val).2.1 (rl m.val).2.1) = false := by decide +kernel
  have := key ⟨m, hm⟩ ⟨q, by omega⟩ hq
  intro z
  rw [z.1, z.2, Nat.beq_refl, Nat.beq_refl] at this
  exact absurd this (by decide)
theorem rl_lt {m : Nat} (hm : m < 105) : (rl m).1 < 14 ∨ 90 ≤ (rl m).1 ∧ (rl m).1 < 163 := by
  have key : ∀ (m : Fin 105), (Nat.blt (rl m.val).1 14 || (Nat.ble 90 (rl m.val).1 && Nat.blt (rl m.val).1 163)) = true := by decide +kernel
  have := key ⟨m, hm⟩
  simp only [Bool.or_eq_true, Bool.and_eq_true, Nat.blt_eq, Nat.ble_eq] at this
  exact this
def zr (a : Nat) : Bool := Nat.beq a 0 || (Nat.beq a 2 || (Nat.beq a 10 || Nat.beq a 13))
theorem zr_lt {a : Nat} (e : zr a = true) : a < 14 := by
  simp only [zr, Bool.or_eq_true, Nat.beq_eq] at e
  omega
def vad (i : Nat) : Nat := if i < 12 then 14 + 5 * i else 85
theorem vad_b (i : Nat) : 14 ≤ vad i ∧ vad i + 5 ≤ 90 := by unfold vad; split <;> omega
/-- a new version's fields and rows; a new program's -/
def VR (h : zH) (w : Nat) : Prop := (∀ k, (Nat.ble 3 k && Nat.ble k 6) = true → hR h w k = some (w + (k - 2))) ∧ (hR h w 0 = some 3 ∧ hR h w 1 = some 3 ∧ hR h w 2 = some 3) ∧ ∀ k, k < 24 → hR h (w + 1) k = some 3 ∧ hR h (w + 2) k = some 3 ∧ hI h (w + 3) k = -1 ∧ hI h (w + 4) k = 10
def PR (h : zH) (p : Nat) : Prop := (∀ k, (Nat.ble 3 k && Nat.ble k 12) = true → hR h p k = some (p + (k - 2))) ∧ hR h p 13 = some 3 ∧ (∀ j, j ≤ 10 → ∀ i, hI h (p + j) i = 0) ∧ ∀ i, i < 24 → hR h (p + 10) i = some 3
theorem VR_e {w : Nat} (V : VR h w) (e : ∀ j, j ≤ 4 → hR h2 (w + j) = hR h (w + j) ∧ hI h2 (w + j) = hI h (w + j)) : VR h2 w := by
  have e0 := (e 0 (by omega)).1
  rw [Nat.add_zero] at e0
  unfold VR
  rw [e0, (e 1 (by omega)).1, (e 2 (by omega)).1, (e 3 (by omega)).2, (e 4 (by omega)).2]
  exact V
theorem PR_e {p : Nat} (V : PR h p) (e : ∀ j, j ≤ 10 → hR h2 (p + j) = hR h (p + j) ∧ hI h2 (p + j) = hI h (p + j)) : PR h2 p := by
  have e0 := (e 0 (by omega)).1
  rw [Nat.add_zero] at e0
  obtain ⟨a, b, c, d⟩ := V
  refine ⟨by rw [e0]; exact a, by rw [e0]; exact b, fun j hj i => by rw [(e j hj).2]; exact c j hj i, by rw [(e 10 (by omega)).1]; exact d⟩
/-- the class, with N of its cells made, m of its references set, nv versions, np programs, nf formulas of forms -/
def BB (N m nv np nf e : Nat) (h0 h : zH) : Prop := (hN h0 = 0 ∧ hN h = N) ∧ (∀ a, a < N → hT h a = bT a ∧ hL h a = bL a) ∧ (∀ q, q < m → hR h (rl q).1 (rl q).2.1 = some (rl q).2.2) ∧ (∀ a, a < N → zr a = true → hI h a = fun _ => 0) ∧ (∀ i, i < nv → vad i + 5 ≤ N ∧ VR h (vad i)) ∧ (np = 1 → 85 ≤ N ∧ PR h 74) ∧ (∀ i j, i < nf → 103 + 2 * i < N ∧ hI h (103 + 2 * i) j = (cForm.getD i []).getD j 0) ∧ Gw W0 N e h0 h
section BBS
variable {N m nv np nf e : Nat} {h0 : zH}
theorem BB_new (B : BB N m nv np nf e h0 h) {t n : Nat} (hm : ∀ q, q < m → (rl q).1 < N) (hz : N < 163) (ht : t = bT N) (hl : n = bL N) : BB (N + 1) m nv np nf (e + n) h0 (hNew h t n) := by
  obtain ⟨⟨b0, b1⟩, b2, b3, b4, b5, b6, b7, b8⟩ := B
  have z9 : zVB = 10000000 := rfl
  have rn : ∀ a, a < N → hR (hNew h t n) a = hR h a := fun a ha => zu1_n _ _ (by omega)
  have en : ∀ a, a < N → hI (hNew h t n) a = hI h a := fun a ha => zu1_n _ _ (by omega)
  refine ⟨⟨b0, by show hN h + 1 = _; omega⟩, fun a ha => ?_, fun q hq => ?_, fun a ha z => ?_, fun i hi => ⟨by have := (b5 i hi).1; omega, VR_e (b5 i hi).2 fun j hj => ⟨rn _ (by have := (b5 i hi).1; omega), en _ (by have := (b5 i hi).1; omega)⟩⟩, fun z => ⟨by have := (b6 z).1; omega, PR_e (b6 z).2 fun j hj => ⟨rn _ (by have := (b6 z).1; omega), en _ (by have := (b6 z).1; omega)⟩⟩, fun i j hi => ⟨by have := (b7 i j hi).1; omega, by rw [en _ (b7 i j hi).1]; exact (b7 i j hi).2⟩, Gw_m (Gw_t b8 (Gw_new W0 h t n (by omega)) (fun _ _ _ z => z)) (fun _ _ _ z => z) (by omega) (by omega)⟩
  · by_cases c : a = N
    · subst c
      rw [← b1]
      exact ⟨(zu1_s _ _ _).trans (by rw [ht, b1]), (zu1_s _ _ _).trans (by rw [hl, b1])⟩
    · have c2 : a ≠ hN h := by omega
      exact ⟨(zu1_n _ _ c2).trans (b2 a (by omega)).1, (zu1_n _ _ c2).trans (b2 a (by omega)).2⟩
  · rw [rn _ (hm q hq)]; exact b3 q hq
  · by_cases c : a = N
    · rw [← b1] at c
      rw [c]
      exact zu1_s (hI h) _ _
    · rw [en a (by omega)]; exact b4 a (by omega) z
/-- a reference set elsewhere than at the versions and the program -/
theorem BB_r0 (B : BB N m nv np nf e h0 h) {a k : Nat} {x : Option Nat} (ha : a < 14 ∨ 90 ≤ a ∧ a < 163) (hm : ∀ q, q < m → ¬ ((rl q).1 = a ∧ (rl q).2.1 = k)) : BB N m nv np nf e h0 (sR h a k x) := by
  obtain ⟨⟨b0, b1⟩, b2, b3, b4, b5, b6, b7, b8⟩ := B
  have z9 : zVB = 10000000 := rfl
  have rn : ∀ b, 14 ≤ b → b < 90 → hR (sR h a k x) b = hR h b := fun b p q => funext fun j => zup_n _ _ _ _ _ _ (fun z => by omega)
  exact ⟨⟨b0, b1⟩, b2, fun q hq => (zup_n _ _ _ _ _ _ (hm q hq)).trans (b3 q hq), b4, fun i hi => ⟨(b5 i hi).1, VR_e (b5 i hi).2 fun j hj => ⟨rn _ (by have := vad_b i; omega) (by have := vad_b i; omega), rfl⟩⟩, fun z => ⟨(b6 z).1, PR_e (b6 z).2 fun j hj => ⟨rn _ (by omega) (by omega), rfl⟩⟩, b7, Gw_sR b8 _ (fun z => by omega)⟩
theorem BB_R (B : BB N m nv np nf e h0 h) {a k b : Nat} (hm : m < 105) (hr : rl m = (a, k, b)) : BB N (m + 1) nv np nf e h0 (sR h a k (some b)) := by
  have e1 : (rl m).1 = a := by rw [hr]
  have e2 : (rl m).2.1 = k := by rw [hr]
  have e3 : (rl m).2.2 = b := by rw [hr]
  have B2 := BB_r0 B (a := a) (k := k) (x := some b) (by rw [← e1]; exact rl_lt hm) (fun q hq z => rl_ne hm hq (by rw [e1, e2]; exact z))
  obtain ⟨b1, b2, b3, b4, b5, b6, b7, b8⟩ := B2
  refine ⟨b1, b2, fun q hq => ?_, b4, b5, b6, b7, b8⟩
  by_cases c : q = m
  · subst c
    rw [e1, e2, e3]
    exact zup_s _ _ _ _
  · exact b3 q (by omega)
theorem BB_I (B : BB N m nv np nf e h0 h) {k : Nat} {x : Int} : BB N m nv np nf e h0 (sI h 101 k x) := by
  obtain ⟨⟨b0, b1⟩, b2, b3, b4, b5, b6, b7, b8⟩ := B
  have z9 : zVB = 10000000 := rfl
  have en : ∀ b, b ≠ 101 → hI (sI h 101 k x) b = hI h b := fun b p => hI_ne h x p
  exact ⟨⟨b0, b1⟩, b2, b3, fun a ha z => by rw [en a (by have := zr_lt z; omega)]; exact b4 a ha z, fun i hi => ⟨(b5 i hi).1, VR_e (b5 i hi).2 fun j hj => ⟨rfl, en _ (by have := vad_b i; omega)⟩⟩, fun z => ⟨(b6 z).1, PR_e (b6 z).2 fun j hj => ⟨rfl, en _ (by omega)⟩⟩, fun i j hi => ⟨(b7 i j hi).1, by rw [en _ (by omega)]; exact (b7 i j hi).2⟩, Gw_sI b8 _ (fun z => by omega)⟩
end BBS
end CSTART


