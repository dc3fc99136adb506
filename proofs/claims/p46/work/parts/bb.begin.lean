/-! The start: the first text, read. -/
section CBEG
variable {h h2 : zH} {O : List Int}
theorem out_put1 {g : zH} {O : List Int} (H : O = upto (hI g 1) 0 O.length []) (x : Int) : O ++ [x] = upto (hI (sI g 1 O.length x) 1) 0 (O ++ [x]).length [] := by
  rw [hI_up, List.length_append, List.length_singleton, upto_snoc, upto_put, ← H, Nat.zero_add, upN_s]
theorem l_spell1 {x : Int} {t : Nat} {A : Nat → Int} (hA : ∀ k, 0 ≤ A k ∧ A k < 128) (ht1 : t ≠ 1) : ∀ (k j : Nat) (h : zH) (O : List Int), KC h → hT h t = 40 → hL h t = j + k → (∀ i, i < j + k → hI h t i = A i) → O = upto (hI h 1) 0 O.length [] → O.length + k ≤ 800 → j + k ≤ 800 → ∃ h2, zY 136 9 [some (zR (some t)), some (zR (some 1)), some (zI x), some (zI O.length), some (zI j)] [] h = some (.inl (some (zI (O ++ upto A j k []).length)), h2) ∧ O ++ upto A j k [] = upto (hI h2 1) 0 (O ++ upto A j k []).length [] ∧ Fr [(1, none)] h h2
  | 0, j, h, O, K, tt, tl, tA, hO, hl, hj2 => by
    rw [q_W_spell_9 tt (PTC K 1 _ rfl rfl) (PNC K 1 rfl), if_neg (by rw [tl]; omega)]
    refine ⟨h, by rw [show upto A j 0 [] = [] from rfl, List.append_nil], ?_, Fr_r _ _⟩
    rw [show upto A j 0 [] = [] from rfl, List.append_nil]
    exact hO
  | k + 1, j, h, O, K, tt, tl, tA, hO, hl, hj2 => by
    have l2 := PLC K 1 800 rfl rfl
    have hj := tA j (by omega)
    have aj := hA j
    rw [q_W_spell_9 tt (PTC K 1 _ rfl rfl) (PNC K 1 rfl), if_pos (by rw [tl]; omega), l2, if_pos (by omega), gd_t (by rw [tl]; omega), gd_t (by omega), gd_t (by omega), gd_t (by omega)]
    rw [show ((j : Int)).toNat = j by omega, show ((O.length : Int)).toNat = O.length by omega, hj, zi2b_v aj.1 aj.2]
    have F : Fr [(1, none)] h (sI h 1 O.length (A j)) := Fr_I (Fr_r _ _) rfl
    have nt : ∀ i, hI (sI h 1 O.length (A j)) t i = hI h t i := fun i => congrFun (hI_ne h _ ht1) i
    obtain ⟨h2, e2, o2, F2⟩ := l_spell1 hA ht1 k (j + 1) _ (O ++ [A j]) (KC_f K F rfl) tt (by show hL h t = _; omega) (fun i hi => (nt i).trans (tA i (by omega))) (out_put1 hO (A j)) (by rw [List.length_append, List.length_singleton]; omega) (by omega)
    have el : O ++ [A j] ++ upto A (j + 1) k [] = O ++ upto A j (k + 1) [] := by rw [List.append_assoc, upto_cons]; rfl
    rw [el] at e2 o2
    refine ⟨h2, ?_, o2, Fr_t F F2⟩
    rw [← e2, List.length_append, List.length_singleton]
    rfl
theorem c_spell1 (K : KC h) {t : Nat} {A : Nat → Int} {L : Nat} (hA : ∀ k, 0 ≤ A k ∧ A k < 128) (ht1 : t ≠ 1) (tt : hT h t = 40) (tl : hL h t = L) (tA : ∀ i, i < L → hI h t i = A i) (hO : O = upto (hI h 1) 0 O.length []) (hl : O.length + L ≤ 800) : ∃ h2, zC 136 [zR (some t), zR (some 1), zI O.length] h = some (.inl (some (zI (O ++ upto A 0 L []).length)), h2) ∧ O ++ upto A 0 L [] = upto (hI h2 1) 0 (O ++ upto A 0 L []).length [] ∧ Fr [(1, none)] h h2 := by
  have mx : f_Ma_max (O.length : Int) 0 = O.length := by unfold f_Ma_max; split <;> omega
  rw [q_W_spell tt (PTC K 1 _ rfl rfl) (PNC K 1 rfl), mx]
  exact l_spell1 (x := O.length) hA ht1 L 0 h O K tt (by omega) (fun i hi => tA i (by omega)) hO hl (by omega)

def fpC (j : Nat) : Int := if j < 95 then hI (zH0 0 (fun _ => 0)) (zVB + 3) j else 0
theorem fp_f : hL (zH0 0 (fun _ => 0)) (zVB + 3) = 95 ∧ (∀ j : Fin 95, 0 ≤ hI (zH0 0 (fun _ => 0)) (zVB + 3) j.val ∧ hI (zH0 0 (fun _ => 0)) (zVB + 3) j.val < 128) ∧ upto fpC 0 95 [] = fpL := by decide +kernel
theorem fpC_b (j : Nat) : 0 ≤ fpC j ∧ fpC j < 128 := by
  unfold fpC
  by_cases hj : j < 95
  · rw [if_pos hj]; exact fp_f.2.1 ⟨j, hj⟩
  · rw [if_neg hj]; omega
/-- the first text, spelled into the input -/
theorem c_fp (K : KC h) (Ks : KS h) : ∃ h2, zC 136 [zR (some (zVB + 3)), zR (some 1), zI 0] h = some (.inl (some (zI 95)), h2) ∧ (∀ k : Nat, (k : Int) < 95 → hI h2 1 k = fpI k) ∧ Fr [(1, none)] h h2 := by
  have tt : hT h (zVB + 3) = 40 := KS_s Ks 0 (by decide)
  have tl : hL h (zVB + 3) = 95 := (Ks (zVB + 3) (by omega)).2.1.trans fp_f.1
  have tA : ∀ i, i < 95 → hI h (zVB + 3) i = fpC i := fun i hi => by
    unfold fpC
    rw [if_pos hi]
    exact congrFun (Ks (zVB + 3) (by omega)).2.2.1 i
  obtain ⟨h2, e2, o2, F2⟩ := c_spell1 (O := []) K fpC_b (by omega) tt tl tA rfl (by show 0 + 95 ≤ 800; omega)
  rw [List.nil_append, fp_f.2.2] at e2 o2
  rw [fp_len] at e2 o2
  refine ⟨h2, e2, fun k hk => ?_, F2⟩
  unfold fpI
  rw [o2, upto_at (by omega)]
/-- the reference's first program is the first text's -/
theorem fp_run {I : Nat → Int} (H : ∀ k : Nat, (k : Int) < 95 → I k = fpI k) (R : Nat → Int) (hR : R = fun _ => 0) : txtP I 95 (begS I 95 0 R) = fpT := by
  rw [hR]
  exact txt_c H 0 _
end CBEG


