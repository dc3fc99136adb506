/-! Java's builder: numbers, the beginning and the end; texts that were made. -/
theorem zwneg_e {x : Int} (h0 : -2147483648 ≤ -x) (h1 : -x < 2147483648) : zwneg x = -x := by
  show (-(Int32.ofInt x)).toInt = -x
  rw [← Int32.ofInt_neg]; exact zw_in h0 h1
section SBT
variable {C : Nat} {h0 h : zH} {T : List Int} {d : Nat}
theorem KS_F {h h2 : zH} (K : KS h) (F : Gf h h2) : KS h2 := fun a ha => by
  have f := F a (Or.inr (by omega))
  have k := K a ha
  exact ⟨f.1.trans k.1, f.2.1.trans k.2.1, f.2.2.2.1.trans k.2.2.1, f.2.2.2.2.1.trans k.2.2.2⟩
theorem KS_dig (K : KS h) {v : Int} (v0 : 0 ≤ v) (v1 : v < 10) : (zok h (some (zVB + 56)) 21 v ∧ zVB ≤ zdr (some (zVB + 56))) ∧ hI h (zVB + 56) v.toNat = 48 + v := by
  have k := K (zVB + 56) (by omega)
  have t : hT h (zVB + 56) = 21 := k.1.trans rfl
  have l : hL h (zVB + 56) = 100 := k.2.1.trans rfl
  refine ⟨⟨⟨rfl, t, v0, by show v < (hL h (zVB + 56) : Int); omega⟩, by show zVB ≤ zVB + 56; omega⟩, ?_⟩
  rw [k.2.2.1]
  have : v = 0 ∨ v = 1 ∨ v = 2 ∨ v = 3 ∨ v = 4 ∨ v = 5 ∨ v = 6 ∨ v = 7 ∨ v = 8 ∨ v = 9 := by omega
  rcases this with e | e | e | e | e | e | e | e | e | e <;> (subst e; rfl)
theorem c_size {v : Int} (v0 : 0 ≤ v) (v1 : v < 10) : zC 255 [zI v] h = some (.inl (some (zI 1)), h) := by
  refine q_In_stringSize.trans ?_
  rw [if_neg (by omega)]
  refine q_In_stringSize_6.trans ?_
  refine q_In_stringSize_16.trans ?_
  rw [if_pos (by decide)]
  refine q_In_stringSize_22.trans ?_
  rw [zwneg_e (by omega) (by omega), if_pos (by omega)]
  refine q_In_stringSize_27.trans ?_
  rw [zwadd_e (by decide) (by decide)]
  rfl
theorem c_chars (K : KS h) {v n : Int} (v0 : 0 ≤ v) (v1 : v < 10) (td : hT h d = 21) (nd : d < hN h) (n0 : 0 < n) (n1 : n ≤ (hL h d : Int)) (n2 : n < 10000) : zC 256 [zI v, zI n, zR (some d)] h = some (.inl (some (zI (n + (-1)))), sI h d (n + (-1)).toNat (48 + v)) := by
  refine q_In_getChars.trans ?_
  rw [if_neg (by omega)]
  refine q_In_getChars_11.trans ?_
  rw [zwneg_e (by omega) (by omega)]
  refine q_In_getChars_22.trans ?_
  rw [if_pos (by omega)]
  refine (q_In_getChars_72 td nd).trans ?_
  rw [zwneg_e (by omega) (by omega), show - -v = v from by omega]
  obtain ⟨k1, k2⟩ := KS_dig K v0 v1
  rw [k2, gd_t (show inR (n + (-1)) by omega), gd_t k1, gd_t ⟨by omega, by omega⟩, gd_t ⟨by omega, by omega, fun e => absurd (e.symm.trans td) (by decide)⟩, if_neg (by omega)]
  refine q_In_getChars_104.trans ?_
  rw [if_pos rfl]
  exact q_In_getChars_118
theorem c_appI (hC : C ≤ 900) (K0 : KS h0) (S : SB C h0 h T) {v : Int} (v0 : 0 ≤ v) (v1 : v < 10) (c : T.length + 1 ≤ C) (hz : hN h + 1 < zVB) : ∃ h2, zC 203 [zR (some (hN h0)), zI v] h = some (.inl (some (zR (some (hN h0)))), h2) ∧ SB C h0 h2 (T ++ [48 + v]) := by
  obtain ⟨d, S⟩ := S
  have nb : hN h0 < hN h := by have := S.1; have := S.2.1; omega
  have E := q_As_append_I (x1 := v) S.2.2.2.1 nb
  rw [S.2.2.2.2.2.2.1, c_size v0 v1] at E
  have E1 := E.trans (q_As_append_I_10 (x1 := v) (x2 := (T.length : Int)) (y0 := (T.length : Int)) (y1 := 1) S.2.2.2.1 nb)
  rw [zwadd_e (by omega) (by omega)] at E1
  obtain ⟨h2, d2, E2, S2, l2⟩ := c_ens hC S (n := (T.length : Int) + 1) (by omega) (by omega) hz
  rw [E2] at E1
  have nb2 : hN h0 < hN h2 := by have := S2.1; have := S2.2.1; omega
  have E3 := E1.trans (q_As_append_I_17 (x1 := v) (x2 := (T.length : Int)) (x3 := (T.length : Int) + 1) S2.2.2.2.1 nb2)
  rw [c_lat S2] at E3
  have E4 := E3.trans (q_As_append_I_21 (x1 := v) (x2 := (T.length : Int)) (x3 := (T.length : Int) + 1))
  rw [if_neg (by decide)] at E4
  have E5 := E4.trans (q_As_append_I_24 (x1 := v) (x2 := (T.length : Int)) (x3 := (T.length : Int) + 1) S2.2.2.2.1 nb2 S2.2.2.2.2.1)
  have K2 := KS_F K0 S2.2.2.2.2.2.2.2.2.2.2.2.2.2
  rw [c_chars K2 v0 v1 S2.2.2.2.2.2.2.2.1 S2.2.1 (by omega) l2 (by omega)] at E5
  have E6 := E5.trans (q_As_append_I_33 (h := sI h2 d2 ((T.length : Int) + 1 + (-1)).toNat (48 + v)) (x1 := v) (x2 := (T.length : Int)) (x3 := (T.length : Int) + 1) S2.2.2.2.1 nb2)
  rw [show ((T.length : Int) + 1 + (-1)).toNat = T.length from by omega] at E6
  refine ⟨_, ?_, (SB_one S2 (x := 48 + v) (by omega)).2⟩
  refine (q_Sb_append_I S.2.2.2.1 nb).trans ?_
  rw [E6]
  exact q_Sb_append_I_5
theorem SB_new (hz : hN h0 + 2 < zVB) (n : Nat) (n0 : 16 ≤ n) (n1 : n ≤ 2 * C + 36) {g : zH} (hg : g = hNew (hNew h0 12 4) 21 n) : SB C h0 (sR (sI g (hN h0) 1 0) (hN h0) 0 (some (hN h0 + 1))) [] := by
  subst hg
  have e1 : hN h0 ≠ hN (hNew h0 12 4) := by show hN h0 ≠ hN h0 + 1; omega
  refine ⟨hN h0 + 1, Nat.lt_succ_self _, Nat.lt_succ_self _, hz, ?_, zup_s _ _ _ _, ?_, ?_, zu1_b _ _ _, Nat.zero_le _, ?_, fun i hi => absurd hi (Nat.not_lt_zero _), ?_, ⟨Nat.le_refl _, ?_⟩, ?_⟩
  · exact (zu1_a _ _ e1).trans (zu1_b _ _ _)
  · exact zup_s _ _ _ _
  · refine (zup_n _ _ _ _ _ _ (by omega)).trans ?_
    refine (congrFun (zu1_a _ _ e1) 3).trans ?_
    exact congrFun (zu1_b _ _ _) 3
  · show zu1 (hL (hNew h0 12 4)) (hN h0 + 1) n (hN h0 + 1) ≤ 2 * C + 36
    rw [zu1_b]; exact n1
  · show hU h0 + 4 + n ≤ hU h0 + 4 + 2 * zu1 (hL (hNew h0 12 4)) (hN h0 + 1) n (hN h0 + 1)
    rw [zu1_b]; omega
  · show 16 * 2 ^ (hN h0 + 1 + 1 - (hN h0 + 2)) ≤ zu1 (hL (hNew h0 12 4)) (hN h0 + 1) n (hN h0 + 1)
    rw [zu1_b, Nat.sub_self]; omega
  · exact Gf_s (Gf_s (Gf_s (Gf_s (Gf_r h0) fun a ha => Gs_new _ 12 4 (by omega)) fun a ha => Gs_new _ 21 n (by show a ≠ hN h0 + 1; omega)) fun a ha => Gs_sI _ 1 0 (by omega)) fun a ha => Gs_sR _ 0 _ (by omega)
theorem sIR (h : zH) (a k : Nat) (v : Int) (b j : Nat) (w : Option Nat) : sI (sR h b j w) a k v = sR (sI h a k v) b j w := rfl
theorem hNew_sI (h : zH) {a : Nat} (k : Nat) (v : Int) (t n : Nat) (e : a ≠ hN h) : hNew (sI h a k v) t n = sI (hNew h t n) a k v := by
  have q : zu1 (zup (hI h) a k v) (hN h) (fun _ => 0) = zup (zu1 (hI h) (hN h) (fun _ => 0)) a k v := by
    funext b j
    show (if b = hN h then (fun _ => (0 : Int)) else (fun j => if b = a ∧ j = k then v else hI h b j)) j = (if b = a ∧ j = k then v else (if b = hN h then (fun _ => (0 : Int)) else hI h b) j)
    by_cases c : b = hN h
    · rw [if_pos c, if_neg (by omega), if_pos c]
    · rw [if_neg c, if_neg c]
  show (hN h + 1, hU h + n, zu1 (hT h) (hN h) t, zu1 (hL h) (hN h) n, zu1 (hR h) (hN h) (fun _ => none), zu1 (zup (hI h) a k v) (hN h) (fun _ => 0), zu1 (hJ h) (hN h) (fun _ => 0#64), zu1 (hF h) (hN h) (fun _ => 0), zu1 (hD h) (hN h) (fun _ => 0)) = _
  rw [q]
  rfl
theorem c_init (hz : hN h0 + 2 < zVB) : ∃ h2, zC 206 [zR (some (hN h0))] (hNew h0 12 4) = some (.inl none, h2) ∧ SB C h0 h2 [] := by
  have tb : hT (hNew h0 12 4) (hN h0) = 12 := zu1_b _ _ _
  have nb : hN h0 < hN (hNew h0 12 4) := Nat.lt_succ_self _
  have e1 : hN h0 ≠ hN (hNew h0 12 4) := by show hN h0 ≠ hN h0 + 1; omega
  refine ⟨_, ?_, SB_new (C := C) hz 16 (by omega) (by omega) rfl⟩
  refine (q_Sb_init_ tb nb).trans ?_
  have E := q_As_init_I (h := hNew h0 12 4) (a0 := hN h0) (x1 := 16)
  have t2 : hT (hNew (hNew h0 12 4) 21 16) (hN h0) = 12 := (zu1_a _ _ e1).trans tb
  rw [gd_t ⟨by decide, by decide⟩, gd_t ⟨rfl, t2, Nat.lt_succ_of_lt nb⟩, gd_t ⟨rfl, t2, Nat.lt_succ_of_lt nb⟩] at E
  rw [E]
  exact q_Sb_init__6
theorem c_initS (hC : C ≤ 900) (hz : hN h0 + 3 < zVB) {s : Nat} {U : List Int} (X : TXc h0 s U) (c : U.length ≤ C) : ∃ h2, zC 80 [zR (some (hN h0)), zR (some s)] (hNew h0 12 4) = some (.inl none, h2) ∧ SB C h0 h2 U := by
  have tb : hT (hNew h0 12 4) (hN h0) = 12 := zu1_b _ _ _
  have nb : hN h0 < hN (hNew h0 12 4) := Nat.lt_succ_self _
  have e1 : hN h0 ≠ hN (hNew h0 12 4) := by show hN h0 ≠ hN h0 + 1; omega
  have x0 := X.1
  have e2 : s ≠ hN h0 := by omega
  have X1 : TXc (hNew h0 12 4) s U := TXc_g X (Gf_s (Gf_r h0) fun a ha => Gs_new _ 12 4 (by omega))
  have E := q_As_init_Stri (h := hNew h0 12 4) (a0 := hN h0) X1.2.1
  rw [X1.2.2.1] at E
  have E := E.trans (q_As_init_Stri_9 (x2 := (U.length : Int)))
  rw [if_pos (by omega)] at E
  have E2 := E.trans (q_As_init_Stri_15 (x2 := (U.length : Int)) X1.2.1 tb nb)
  rw [zwadd_e (by omega) (by omega), show ((U.length : Int) + 16).toNat = U.length + 16 from by omega, hNew_sI _ _ _ _ _ e1] at E2
  have t2 : hT (sI (hNew (hNew h0 12 4) 21 (U.length + 16)) (hN h0) 1 0) (hN h0) = 12 := (zu1_a _ _ e1).trans tb
  rw [gd_t ⟨by omega, by omega⟩, gd_t ⟨rfl, t2, Nat.lt_succ_of_lt nb⟩, gd_t ⟨rfl, t2, Nat.lt_succ_of_lt nb⟩] at E2
  have S := SB_new (C := C) (h0 := h0) (by omega) (U.length + 16) (by omega) (by omega) rfl
  obtain ⟨h2, E3, S2⟩ := c_app hC S (s := s) X (by rw [List.length_nil]; omega) (by show hN h0 + 1 + 1 + 1 < zVB; omega)
  rw [List.nil_append] at S2
  refine ⟨h2, ?_, S2⟩
  refine (q_Sb_init_Stri tb nb).trans ?_
  have E4 : zC 148 [zR (some (hN h0)), zR (some s)] (sR (sI (hNew (hNew h0 12 4) 21 (U.length + 16)) (hN h0) 1 0) (hN h0) 0 (some (hN h0 + 1))) = some (.inl (some (zR (some (hN h0)))), h2) := by
    refine (q_Sb_append_StriB (h := sR (sI (hNew (hNew h0 12 4) 21 (U.length + 16)) (hN h0) 1 0) (hN h0) 0 (some (hN h0 + 1))) t2 (Nat.lt_succ_of_lt nb)).trans ?_
    rw [E3]
    exact q_Sb_append_StriB_5
  have E5 : zC 237 [zR (some (hN h0)), zR (some s)] (hNew h0 12 4) = some (.inl none, h2) := by
    refine E2.trans ?_
    refine (congrArg (zBack zY 237 58 61 [some (zR (some (hN h0))), some (zR (some s)), some (zI (U.length : Int)), some (zI ((U.length : Int) + 16)), some (zI 0)] []) E4).trans ?_
    exact q_As_init_Stri_61
  rw [E5]
  exact q_Sb_init_Stri_5
/-- a text that was made -/
def TXm (h : zH) (s : Nat) (U : List Int) : Prop := hT h s = 13 ∧ s < hN h ∧ hI h s 1 = 0 ∧ ∃ v, hR h s 0 = some v ∧ hT h v = 21 ∧ v < hN h ∧ hL h v = U.length ∧ ∀ i, i < U.length → hI h v i = tg U i
theorem c_len {s : Nat} {U : List Int} (X : TXm h s U) (l : U.length ≤ 900) : zC 249 [zR (some s)] h = some (.inl (some (zI (U.length : Int))), h) := by
  obtain ⟨t, n, c, v, rv, tv, nv, lv, cv⟩ := X
  refine (q_St_length t n rv tv).trans ?_
  have E := q_St_coder t n
  rw [c, gd_t ⟨rfl, Or.inr (Or.inr (Or.inr ⟨rfl, by decide, by decide⟩))⟩] at E
  rw [E]
  refine (q_St_length_9 (y0 := (hL h v : Int)) (y1 := 0)).trans ?_
  rw [lv, zshr_0 (by omega) (by omega)]
theorem zand_255 : ∀ x : Fin 128, zi2c (zand (x.val : Int) 255) = (x.val : Int) := by decide +kernel
theorem c_chr {s : Nat} {U : List Int} (X : TXm h s U) {i : Nat} (hi : i < U.length) (c0 : 0 ≤ tg U i) (c1 : tg U i < 128) : zC 251 [zR (some s), zI (i : Int)] h = some (.inl (some (zI (tg U i))), h) := by
  obtain ⟨t, n, c, v, rv, tv, nv, lv, cv⟩ := X
  refine (q_St_charAt t n).trans ?_
  have E := q_St_isLatin1 t n
  rw [c, if_pos rfl] at E
  rw [E.trans q_St_isLatin1_13]
  refine (q_St_charAt_4 (y0 := 1)).trans ?_
  rw [if_neg (by decide)]
  refine (q_St_charAt_7 t n rv).trans ?_
  have e : zi2c (zand (tg U i) 255) = tg U i := by
    have := zand_255 ⟨(tg U i).toNat, by omega⟩
    rw [show (((⟨(tg U i).toNat, by omega⟩ : Fin 128).val : Nat) : Int) = tg U i from Int.toNat_of_nonneg c0] at this
    exact this
  have E2 := q_La_charAt (h := h) (x1 := (i : Int)) tv nv
  rw [gd_t ⟨by omega, by omega⟩, gd_t ⟨by omega, by omega⟩, show ((i : Int)).toNat = i from rfl, cv i hi, e, gd_t ⟨rfl, Or.inr (Or.inr (Or.inl ⟨rfl, c0, by omega⟩))⟩] at E2
  rw [E2]
  refine (q_St_charAt_15 (y0 := tg U i)).trans ?_
  exact gd_t ⟨rfl, Or.inr (Or.inr (Or.inl ⟨rfl, c0, by omega⟩))⟩ _
end SBT
