/-! Two rows that are alike up to the length hold the same text. -/
section CONG
variable {I J : Nat → Int} {len : Int}
theorem chr_c (h : ∀ k : Nat, (k : Int) < len → I k = J k) : chr I len = chr J len := funext fun p => by
  unfold chr
  by_cases c : 0 ≤ p ∧ p < len
  · rw [if_pos c, if_pos c, h _ (by omega)]
  · rw [if_neg c, if_neg c]
theorem skp_c (h : ∀ k : Nat, (k : Int) < len → I k = J k) (P : Int → Bool) : ∀ (m : Nat) (p : Int), skp P I len m p = skp P J len m p
  | 0, _ => rfl
  | m + 1, p => by rw [skp, skp, chr_c h, skp_c h P m]
theorem keyF_c (h : ∀ k : Nat, (k : Int) < len → I k = J k) {s e : Int} (h0 : 0 ≤ s) (h1 : e ≤ len) (k : Int) : ∀ (m : Nat) (j : Int), 0 ≤ j → keyF I s e k m j = keyF J s e k m j
  | 0, _, _ => rfl
  | m + 1, j, hj => by
    have : keyJ I s e k j = keyJ J s e k j := by
      unfold keyJ
      by_cases c : j < e - s
      · rw [if_pos c, if_pos c, h _ (by omega)]
      · rw [if_neg c, if_neg c]
    rw [keyF, keyF, this, keyF_c h h0 h1 k m (j + 1) (by omega)]
theorem wcode_c (h : ∀ k : Nat, (k : Int) < len → I k = J k) {s e : Int} (h0 : 0 ≤ s) (h1 : e ≤ len) : wcode I s e = wcode J s e := by
  have : keyB I s e = keyB J s e := funext fun k => by unfold keyB; rw [keyF_c h h0 h1 k 5 0 (by omega)]
  unfold wcode
  rw [this]
theorem numv_c (h : ∀ k : Nat, (k : Int) < len → I k = J k) {s : Int} (h0 : 0 ≤ s) : ∀ (m : Nat), s + m ≤ len → numv I s m = numv J s m
  | 0, _ => rfl
  | m + 1, hm => by rw [numv, numv, numv_c h h0 m (by omega), h _ (by omega)]
theorem ncode_c (h : ∀ k : Nat, (k : Int) < len → I k = J k) {s e : Int} (h0 : 0 ≤ s) (hs : s ≤ e) (h1 : e ≤ len) : ncode I s e = ncode J s e := by
  unfold ncode
  rw [numv_c h h0 (e - s).toNat (by omega)]
theorem tok_c (h : ∀ k : Nat, (k : Int) < len → I k = J k) : tok I len = tok J len := by
  funext b e
  unfold tok
  rw [skp_c h]
  generalize skp blB J len 800 e = s
  unfold tkw
  rw [chr_c h, skp_c h, skp_c h]
  by_cases c1 : leB (chr J len s) = true
  · have sr : 0 ≤ s ∧ s < len := by
      by_cases c : 0 ≤ s ∧ s < len
      · exact c
      · rw [chr_out c] at c1; exact absurd c1 (by decide)
    rw [wcode_c h sr.1 (skp_le (by rfl) 800 s sr.1 (by omega)), if_pos c1, if_pos c1]
  · by_cases c2 : diB (chr J len s) = true
    · have sr : 0 ≤ s ∧ s < len := by
        by_cases c : 0 ≤ s ∧ s < len
        · exact c
        · rw [chr_out c] at c2; exact absurd c2 (by decide)
      rw [ncode_c h sr.1 (skp_ge _ 800 s) (skp_le (by rfl) 800 s sr.1 (by omega)), if_neg c1, if_neg c1, if_pos c2]
    · rw [if_neg c1, if_neg c1, if_neg c2, if_neg c2]
section
theorem advP_c (h : tok I len = tok J len) : advP I len = advP J len := funext fun s => by
  obtain ⟨t, fl, p, w⟩ := s
  show (tok I len true t.2.2, fl, p, w) = (tok J len true t.2.2, fl, p, w)
  rw [h]
theorem takP_c (h : tok I len = tok J len) : takP I len = takP J len := by
  funext w s
  unfold takP
  rw [advP_c h]
theorem fmS_c (h : tok I len = tok J len) (b : Nat) : ∀ (m e c : Nat) (s : PSt), fmS I len b m e c s = fmS J len b m e c s
  | 0, _, _, _ => rfl
  | m + 1, e, c, s => by rw [fmS, fmS, advP_c h, fmS_c h b m]
theorem forP_c (h : tok I len = tok J len) : forP I len = forP J len := by
  funext q w s
  unfold forP
  rw [fmS_c h]
theorem forF_c (h : tok I len = tok J len) : forF I len = forF J len := by
  funext q w s
  unfold forF
  rw [forP_c h]
theorem stmP_c (h : tok I len = tok J len) : stmP I len = stmP J len := by
  funext s
  unfold stmP setP iffP whlP
  rw [advP_c h, forP_c h, forF_c h, takP_c h]
theorem stpP_c (h : tok I len = tok J len) : stpP I len = stpP J len := by
  funext s
  unfold stpP
  rw [stmP_c h, advP_c h]
theorem runP_c (h : tok I len = tok J len) : ∀ (m : Nat) (s : PSt), runP I len m s = runP J len m s
  | 0, _ => rfl
  | m + 1, s => by rw [runP, runP, stpP_c h, runP_c h m]
theorem txt_c (h : ∀ k : Nat, (k : Int) < len → I k = J k) (fa : Int) (R : Nat → Int) : txtP I len (begS I len fa R) = txtP J len (begS J len fa R) := by
  have t := tok_c h
  unfold txtP begS
  rw [runP_c t, forF_c t, takP_c t, t]
theorem fmT_c (h : tok I len = tok J len) (b : Nat) : ∀ (m e c : Nat) (s : TK × (Int × Int) × (Nat → Int)), fmT I len b m e c s = fmT J len b m e c s
  | 0, _, _, _ => rfl
  | m + 1, e, c, (t, (f, fa), N) => by rw [fmT, fmT, h, fmT_c h b m]
theorem forT_c (h : ∀ k : Nat, (k : Int) < len → I k = J k) (q what : Int) (N : Nat → Int) : forT I len q what N = forT J len q what N := by
  have t := tok_c h
  unfold forT
  rw [fmT_c t, t]
theorem alE_c (h : ∀ k : Nat, (k : Int) < len → I k = J k) (q what : Int) (N : Nat → Int) : alE I len q what N = alE J len q what N := by
  unfold alE
  rw [forT_c h]
theorem alA_c (h : ∀ k : Nat, (k : Int) < len → I k = J k) (q what : Int) (N : Nat → Int) : alA I len q what N = alA J len q what N := by
  unfold alA
  rw [forT_c h]
theorem alN_c (h : ∀ k : Nat, (k : Int) < len → I k = J k) (q what : Int) (N : Nat → Int) : alN I len q what N = alN J len q what N := by
  unfold alN
  rw [forT_c h]
end
end CONG

