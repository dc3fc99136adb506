/-! Java's builder: the text that it makes. -/
section SBU
variable {C : Nat} {h0 h : zH} {T : List Int} {d : Nat}
theorem c_min {a b : Int} : zC 224 [zI a, zI b] h = some (.inl (some (zI (if b < a then b else a))), h) := by
  refine q_Ma_min.trans ?_
  by_cases c : b < a
  · rw [if_pos c, if_pos c]; exact q_Ma_min_9
  · rw [if_neg c, if_neg c]; exact q_Ma_min_5
theorem c_copy {n : Nat} (td : hT h d = 21) (nd : d < hN h) (l0 : n ≤ hL h d) (l1 : hL h d ≤ 2000) : ∃ h2, zC 229 [zR (some d), zI 0, zI (n : Int)] h = some (.inl (some (zR (some (hN h)))), h2) ∧ hN h2 = hN h + 1 ∧ hU h2 = hU h + n ∧ hT h2 (hN h) = 21 ∧ hL h2 (hN h) = n ∧ (∀ i, i < n → hI h2 (hN h) i = hI h d i) ∧ ∀ a, a ≠ hN h → Gs h h2 a := by
  have E := q_Ar_copyOfRange (h := h) (a0 := d) (x1 := 0) (x2 := (n : Int))
  rw [if_pos rfl] at E
  have E2 := E.trans (q_Ar_copyOfRange_4 (x1 := 0) (x2 := (n : Int)) td)
  by_cases c : n = hL h d
  · rw [if_pos (by omega)] at E2
    have E3 := E2.trans (q_Ar_copyOfRange_17 (x1 := 0) (x2 := (n : Int)))
    rw [gd_t ⟨⟨rfl, td, nd⟩, by show hL h d < 65536; omega, Nat.le_of_ble_eq_true rfl, rfl⟩] at E3
    refine ⟨_, E3, rfl, ?_, zu1_b _ _ _, ?_, ?_, fun a ha => Gs_cl h d ha⟩
    · show hU h + hL h d = hU h + n
      omega
    · exact (zu1_b _ _ _).trans c.symm
    · intro i _
      exact congrFun (zu1_b (hI h) (hN h) (hI h d)) i
  · rw [if_neg (by omega)] at E2
    have E3 := E2.trans (q_Ar_copyOfRange_10 (x1 := 0) (x2 := (n : Int)))
    have K : zC 231 [zI 0, zI (n : Int)] h = some (.inl none, h) := by
      refine q_Ar_checkLength.trans ?_
      rw [if_neg (by omega)]
      exact q_Ar_checkLength_37
    have B := q_Ar_copyOfRangeByte (h := h) (a0 := d) (x1 := 0) (x2 := (n : Int))
    rw [K] at B
    have B2 := B.trans (q_Ar_copyOfRangeByte_5 (x1 := 0) (x2 := (n : Int)))
    have e1 : d ≠ hN h := by omega
    have t2 : hT (hNew h 21 n) d = 21 := (Gs_new h 21 n e1).1.trans td
    have ld : hL (hNew h 21 n) d = hL h d := (Gs_new h 21 n e1).2.1
    rw [zwsub_e (by omega) (by omega), show ((n : Int) - 0).toNat = n from by omega, show (n : Int) - 0 = n from by omega, gd_t ⟨by omega, by omega⟩, gd_t (al t2 (by decide) (by decide)), ld, zwsub_e (by omega) (by omega), show (hL h d : Int) - 0 = hL h d from by omega, c_min, if_pos (by omega)] at B2
    have B3 := B2.trans (q_Ar_copyOfRangeByte_27 (h := hNew h 21 n) (a0 := d) (x1 := 0) (x2 := (n : Int)) (x3 := (n : Int)) (a4 := hN h) (y0 := d) (y1 := 0) (y2 := hN h) (y3 := 0) (y4 := (n : Int)))
    rw [gd_t ⟨⟨rfl, t2, Nat.lt_succ_of_lt nd⟩, ⟨rfl, zu1_b _ _ _, Nat.lt_succ_self _⟩, e1, by decide, by decide, by omega, by show (0 : Int) + (n : Int) ≤ (hL (hNew h 21 n) d : Int); rw [ld]; omega, by show (0 : Int) + (n : Int) ≤ ((zu1 (hL h) (hN h) n (hN h) : Nat) : Int); rw [zu1_b]; omega, Nat.le_of_ble_eq_true rfl, rfl⟩] at B3
    rw [B3] at E3
    refine ⟨_, E3.trans (q_Ar_copyOfRange_16 (x1 := 0) (x2 := (n : Int))), rfl, rfl, zu1_b _ _ _, zu1_b _ _ _, ?_, fun a ha => Gs_t (Gs_new h 21 n ha) (Gs_ac _ d 0 0 n ha)⟩
    intro i hi
    show zu1 (hI (hNew h 21 n)) (hN h) (fun j => if 0 ≤ j ∧ j < 0 + n then hI (hNew h 21 n) d (0 + (j - 0)) else hI (hNew h 21 n) (hN h) j) (hN h) i = hI h d i
    rw [zu1_b]
    show (if 0 ≤ i ∧ i < 0 + n then hI (hNew h 21 n) d (0 + (i - 0)) else hI (hNew h 21 n) (hN h) i) = hI h d i
    rw [if_pos ⟨by omega, by omega⟩, (Gs_new h 21 n e1).2.2.2.1, show 0 + (i - 0) = i from by omega]
theorem c_toStr (hC : C ≤ 900) (S : SB C h0 h T) (hz : hN h + 2 < zVB) : ∃ h2 s, zC 204 [zR (some (hN h0))] h = some (.inl (some (zR (some s))), h2) ∧ hN h0 ≤ s ∧ TXm h2 s T ∧ Gf h0 h2 ∧ hN h0 ≤ hN h2 ∧ hN h2 ≤ hN h0 + 10 ∧ hU h2 ≤ hU h0 + 6 * C + 116 ∧ hN h2 < zVB ∧ T.length ≤ 2 * C + 36 ∧ ∀ v, hR h2 s 0 = some v → hN h0 ≤ v := by
  obtain ⟨d, S⟩ := S
  have S0 := S
  obtain ⟨b0, b1, b2, tb, rb, cb, kb, td, l0, l1, ct, us, ⟨n2, n3⟩, fr⟩ := S
  have nb : hN h0 < hN h := by omega
  have es : hN h0 ≠ hN h := by omega
  have ed : d ≠ hN h := by omega
  -- over the new text's cell
  have gb := Gs_new h 13 4 es
  have gdd := Gs_new h 13 4 ed
  have tb2 : hT (hNew h 13 4) (hN h0) = 12 := gb.1.trans tb
  have nb2 : hN h0 < hN (hNew h 13 4) := Nat.lt_succ_of_lt nb
  have rb2 : hR (hNew h 13 4) (hN h0) 0 = some d := (congrFun gb.2.2.1 0).trans rb
  have ts2 : hT (hNew h 13 4) (hN h) = 13 := zu1_b _ _ _
  have ns2 : hN h < hN (hNew h 13 4) := Nat.lt_succ_self _
  have td2 : hT (hNew h 13 4) d = 21 := gdd.1.trans td
  have E := q_Sb_toString (h := h) (a0 := hN h0)
  have F := q_St_init_AbstVoid (h := hNew h 13 4) (a0 := hN h) (a1 := hN h0) tb2 nb2
  rw [q_As_getValue tb2 nb2 rb2] at F
  have F2 := F.trans (q_St_init_AbstVoid_8 (a0 := hN h) (a1 := hN h0) (y0 := d) tb2 nb2)
  have K : zC 205 [zR (some (hN h0))] (hNew h 13 4) = some (.inl (some (zI (T.length : Int))), hNew h 13 4) := by
    refine (q_Sb_length tb2 nb2).trans ?_
    rw [q_As_length tb2 nb2, gb.2.2.2.1, kb]
    exact q_Sb_length_4
  rw [K] at F2
  have F3 := F2.trans (q_St_init_AbstVoid_13 (a0 := hN h) (a1 := hN h0) (a3 := d) (y0 := (T.length : Int)) tb2 nb2)
  have K2 : zC 241 [zR (some (hN h0))] (hNew h 13 4) = some (.inl (some (zI 1)), hNew h 13 4) := by
    have E := q_As_isLatin1 tb2 nb2
    rw [gb.2.2.2.1, cb, if_pos rfl] at E
    exact E.trans q_As_isLatin1_13
  rw [K2] at F3
  have F4 := F3.trans (q_St_init_AbstVoid_19 (a0 := hN h) (a1 := hN h0) (a3 := d) (x4 := (T.length : Int)) (y0 := 1))
  rw [if_neg (by decide)] at F4
  have F5 := F4.trans (q_St_init_AbstVoid_22 (a0 := hN h) (a1 := hN h0) (a3 := d) (x4 := (T.length : Int)) ts2 ns2)
  have ld : hL (sI (hNew h 13 4) (hN h) 1 0) d = hL h d := gdd.2.1
  obtain ⟨g, G, gn, gu, gt, gl, gc, gs⟩ := c_copy (h := sI (hNew h 13 4) (hN h) 1 0) (d := d) (n := T.length) td2 (Nat.lt_succ_of_lt b1) (by rw [ld]; exact l0) (by rw [ld]; omega)
  rw [G] at F5
  have gN : hN (sI (hNew h 13 4) (hN h) 1 0) = hN h + 1 := rfl
  have gU : hU (sI (hNew h 13 4) (hN h) 1 0) = hU h + 4 := rfl
  rw [gN] at F5 gn gt gl gc gs
  rw [gU] at gu
  have ts3 : hT g (hN h) = 13 := (gs _ (by omega)).1.trans ts2
  have F6 := F5.trans (q_St_init_AbstVoid_35 (a0 := hN h) (a1 := hN h0) (a3 := d) (x4 := (T.length : Int)) (y0 := hN h) (y1 := hN h + 1) ts3 (by omega))
  have I := q_St_init_Stri (h := hNew h 13 4) (a0 := hN h) (a1 := hN h0) ts2 ns2
  rw [F6] at I
  rw [I.trans q_St_init_Stri_6] at E
  have E2 := E.trans q_Sb_toString_8
  have k6 : hN h ≤ hN h0 + 8 := by
    by_cases k : hN h - (hN h0 + 2) < 7
    · omega
    · have := Nat.pow_le_pow_right (n := 2) (by omega) (show 7 ≤ hN h - (hN h0 + 2) by omega)
      omega
  refine ⟨_, hN h, E2, by omega, ⟨ts3, ?_, ?_, hN h + 1, zup_s _ _ _ _, gt, ?_, gl, ?_⟩, ?_, ?_, ?_, ?_, ?_, by omega, fun v e => ?_⟩
  · show hN h < hN g; omega
  · show hI g (hN h) 1 = 0
    rw [(gs (hN h) (by omega)).2.2.2.1]
    exact zup_s _ _ _ _
  · show hN h + 1 < hN g; omega
  · intro i hi
    show hI g (hN h + 1) i = tg T i
    rw [gc i hi]
    show zup (hI (hNew h 13 4)) (hN h) 1 0 d i = tg T i
    rw [zup_a _ _ _ ed, gdd.2.2.2.1, ct i hi]
  · exact Gf_s (Gf_s (Gf_s (Gf_s fr fun a ha => Gs_new h 13 4 (by omega)) fun a ha => Gs_sI _ 1 0 (by omega)) fun a ha => gs a (by omega)) fun a ha => Gs_sR _ 0 _ (by omega)
  · show hN h0 ≤ hN g; omega
  · show hN g ≤ hN h0 + 10; omega
  · show hU g ≤ hU h0 + 6 * C + 116; omega
  · show hN g < zVB; omega
  · have e : some (hN h + 1) = some v := (zup_s _ _ _ _).symm.trans e
    have := Option.some.inj e
    omega
end SBU
