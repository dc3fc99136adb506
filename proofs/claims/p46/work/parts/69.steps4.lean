/-! The reading of a text, as steps: what the steps keep. -/
section STEPS4
variable {I : Nat → Int} {len : Int}
def opnP (its : Int) : PSt → PSt
  | (t, fl, p, _) => (t, fl, p, its, 0, -1)
def varP (i v : Int) : PSt → PSt
  | (t, fl, (n, top, R, N), w) => (t, fl, (n, top, upN R (10 * i + 1).toNat v, N), w)
def setP (I : Nat → Int) (len : Int) (s : PSt) : PSt := if 4 ≤ (advP I len (comP 0 s)).1.1 ∧ (advP I len (comP 0 s)).1.1 ≤ 6 then forP I len (2 + s.2.2.1.1) 0 (advP I len (varP s.2.2.1.1 ((advP I len (comP 0 s)).1.1 - 4) (advP I len (comP 0 s)))) else errP 1 (advP I len (comP 0 s))
def iffP (I : Nat → Int) (len : Int) (s : PSt) : PSt := opnP s.2.2.1.1 (forP I len (2 + s.2.2.1.1) 1 (advP I len (comP 1 s)))
def forF (I : Nat → Int) (len : Int) (q what : Int) (s : PSt) : PSt := if s.2.1.1 = 0 then forP I len q what s else s
def whlP (I : Nat → Int) (len : Int) (s : PSt) : PSt := opnP s.2.2.1.1 (forF I len (50 + s.2.2.1.1) 0 (takP I len 24 (forF I len (26 + s.2.2.1.1) 1 (takP I len 23 (forP I len (2 + s.2.2.1.1) 1 (advP I len (comP 2 s)))))))
def stmP (I : Nat → Int) (len : Int) (s : PSt) : PSt := if s.2.2.1.1 = 24 then errP 3 s else if s.1.1 = 17 then setP I len s else if s.1.1 = 18 then iffP I len s else if s.1.1 = 19 then whlP I len s else advP I len (comP 3 s)
/-- whether a token ends a row of the open statement -/
def clB : PSt → Bool
  | (t, _, (_, _, R, _), row, sec, _) => decide (row ≠ -1) && (if sv R row 0 = 1 ∧ sec = 0 then decide (t.1 = 21) else decide (t.1 = 22))
def cltP : PSt → PSt
  | (t, fl, (n, top, R, N), row, sec, _) => if sv R row 0 = 1 ∧ sec = 0 then (t, fl, (n, top, R, N), row, 1, -1) else (t, fl, (n, top, R, N), sv R row 3, secE R row, row)
def stpP (I : Nat → Int) (len : Int) (s : PSt) : PSt := if 17 ≤ s.1.1 ∧ s.1.1 ≤ 20 then stmP I len s else if clB s = true then advP I len (cltP s) else errP 1 s
def runP (I : Nat → Int) (len : Int) : Nat → PSt → PSt
  | 0, s => s
  | m + 1, s => if s.2.1.1 = 0 then (if s.1.1 = -2 then s else runP I len m (stpP I len s)) else s
def finP (s : PSt) : PSt := if s.2.1.1 = 0 then (if s.2.2.2.1 = -1 then s else errP 1 s) else s
/-- the whole text -/
def txtP (I : Nat → Int) (len : Int) (s : PSt) : PSt := finP (runP I len 800 (forF I len 1 1 (forF I len 0 1 (takP I len 25 s))))
def TV (len : Int) (t : TK) : Prop := (0 ≤ t.2.1 ∧ t.2.1 ≤ t.2.2 ∧ t.2.2 ≤ len) ∧ (0 ≤ t.1 → t.2.1 < t.2.2) ∧ (t.1 = -2 ∨ t.1 = -3 ∨ t.1 = -4 ∨ 0 ≤ t.1 ∧ t.1 ≤ 26) ∧ (len ≤ t.2.1 → t.1 = -2)
theorem tok_TV {b : Bool} {e : Int} (h0 : 0 ≤ e) (h1 : e ≤ len) : TV len (tok I len b e) ∧ e ≤ (tok I len b e).2.1 := by
  have hr := tok_r (I := I) (len := len) (b := b) h0 h1
  refine ⟨⟨⟨by omega, hr.2.1, hr.2.2.1⟩, fun q => ?_, hr.2.2.2, fun q => ?_⟩, hr.1⟩
  · have hs1 := skp_le (I := I) (P := blB) (by decide) 800 e h0 h1
    have hs0 := skp_ge (I := I) (len := len) blB 800 e
    unfold tok at q ⊢
    generalize skp blB I len 800 e = s at *
    generalize (b && decide (s = e)) = g at *
    unfold tkw at q ⊢
    by_cases c1 : len ≤ s
    · rw [if_pos c1] at q; exact absurd q (show ¬ (0 : Int) ≤ -2 by decide)
    rw [if_neg c1] at q ⊢
    by_cases c2 : g = true
    · rw [if_pos c2] at q; exact absurd q (show ¬ (0 : Int) ≤ -3 by decide)
    rw [if_neg c2] at q ⊢
    by_cases c3 : leB (chr I len s) = true
    · rw [if_pos c3] at q ⊢
      show s < skp leB I len 800 s
      have := skp_ge (I := I) (len := len) leB 799 (s + 1)
      show s < (if leB (chr I len s) = true then skp leB I len 799 (s + 1) else s)
      rw [if_pos c3]; omega
    rw [if_neg c3] at q ⊢
    by_cases c4 : diB (chr I len s) = true
    · rw [if_pos c4] at q ⊢
      show s < skp diB I len 800 s
      have := skp_ge (I := I) (len := len) diB 799 (s + 1)
      show s < (if diB (chr I len s) = true then skp diB I len 799 (s + 1) else s)
      rw [if_pos c4]; omega
    rw [if_neg c4] at q
    exact absurd q (show ¬ (0 : Int) ≤ -3 by decide)
  · unfold tok at q ⊢
    generalize skp blB I len 800 e = s at *
    generalize (b && decide (s = e)) = g at *
    have e1 : ∀ g, (tkw I len g s).2.1 = s := fun g => by
      unfold tkw
      repeat' split
      all_goals rfl
    rw [e1] at q
    unfold tkw
    rw [if_pos q]
/-- all but the token, the error and one block of formulas is kept -/
def kepP (len : Int) (b : Nat) (s s2 : PSt) : Prop := s2.2.2.1.1 = s.2.2.1.1 ∧ s2.2.2.1.2.1 = s.2.2.1.2.1 ∧ s2.2.2.1.2.2.1 = s.2.2.1.2.2.1 ∧ s2.2.2.2 = s.2.2.2 ∧ (∀ i, i < b ∨ b + 31 ≤ i → s2.2.2.1.2.2.2 i = s.2.2.1.2.2.2 i) ∧ TV len s2.1 ∧ s.1.2.1 ≤ s2.1.2.1
theorem kep_r {b : Nat} {s : PSt} (T : TV len s.1) : kepP len b s s := ⟨rfl, rfl, rfl, rfl, fun _ _ => rfl, T, Int.le_refl _⟩
theorem kep_t {b : Nat} {s s2 s3 : PSt} (H : kepP len b s s2) (G : kepP len b s2 s3) : kepP len b s s3 := by
  obtain ⟨a1, a2, a3, a4, a5, a6, a7⟩ := H
  obtain ⟨b1, b2, b3, b4, b5, b6, b7⟩ := G
  exact ⟨b1.trans a1, b2.trans a2, b3.trans a3, b4.trans a4, fun i h => (b5 i h).trans (a5 i h), b6, Int.le_trans a7 b7⟩
theorem kep_err {b : Nat} {s : PSt} (T : TV len s.1) (c : Int) : kepP len b s (errP c s) := by
  obtain ⟨t, ⟨f, fa⟩, ⟨n, top, R, N⟩, row, sec, last⟩ := s
  unfold errP
  simp only
  split
  · exact kep_r T
  · exact kep_r T
theorem kep_adv {b : Nat} {s : PSt} (T : TV len s.1) : kepP len b s (advP I len s) := by
  obtain ⟨t, ⟨f, fa⟩, ⟨n, top, R, N⟩, row, sec, last⟩ := s
  have T1 : TV len t := T
  have h := tok_TV (I := I) (b := true) (e := t.2.2) (len := len) (by have := T1.1; omega) (by have := T1.1; omega)
  exact ⟨rfl, rfl, rfl, rfl, fun _ _ => rfl, h.1, Int.le_trans T1.1.2.1 h.2⟩
theorem kep_tak {b : Nat} {w : Int} {s : PSt} (T : TV len s.1) : kepP len b s (takP I len w s) := by
  unfold takP
  split
  · split
    · exact kep_adv T
    · exact kep_err T 1
  · exact kep_r T
theorem ty1_step {x : Int} {e c : Nat} (h : (0 < e ∧ 0 ≤ x ∧ x ≤ 9) ∨ (e = 0 ∧ 10 ≤ x ∧ x ≤ 16)) (hz : e + c ≠ 0) : ty1 x (List.replicate (e - (if 0 < e then 1 else 0) + exB x) false ++ List.replicate (c - (if 0 < e then 0 else 1) + cdB x) true) = some (List.replicate e false ++ List.replicate c true) := by
  rcases h with ⟨h0, h1, h2⟩ | ⟨h0, h1, h2⟩
  · obtain ⟨e, rfl⟩ : ∃ k, e = k + 1 := ⟨e - 1, by omega⟩
    simp only [if_pos h0, Nat.add_sub_cancel, Nat.sub_zero]
    have hx : x = 0 ∨ x = 1 ∨ x = 2 ∨ x = 3 ∨ x = 4 ∨ x = 5 ∨ x = 6 ∨ x = 7 ∨ x = 8 ∨ x = 9 := by omega
    have e1 : List.replicate (e + 1) false = false :: List.replicate e false := rfl
    have e2 : List.replicate (e + 2) false = false :: false :: List.replicate e false := rfl
    rcases hx with rfl | rfl | rfl | rfl | rfl | rfl | rfl | rfl | rfl | rfl <;> rfl
  · subst h0
    obtain ⟨c, rfl⟩ : ∃ k, c = k + 1 := ⟨c - 1, by omega⟩
    have hx : x = 10 ∨ x = 11 ∨ x = 12 ∨ x = 13 ∨ x = 14 ∨ x = 15 ∨ x = 16 := by omega
    rcases hx with rfl | rfl | rfl | rfl | rfl | rfl | rfl <;> rfl
theorem upto_snoc (f : Nat → Int) (b k : Nat) : upto f b (k + 1) [] = upto f b k [] ++ [f (b + k)] := by
  show upto f b k [f (b + k)] = _
  rw [upto_app]
theorem fmS_ok {b : Nat} {B : Bool} : ∀ (m e c : Nat) (s : PSt), s.2.1.1 = 0 → TV len s.1 → s.2.2.1.2.2.2 b + m = 32 → 0 ≤ s.2.2.1.2.2.2 b → s.2.2.1.2.2.2 b ≤ 30 → (∀ r, tyS r = some (List.replicate e false ++ List.replicate c true) → tyS (upto s.2.2.1.2.2.2 (b + 1) (s.2.2.1.2.2.2 b).toNat [] ++ r) = some [B]) → kepP len b s (fmS I len b m e c s) ∧ ((fmS I len b m e c s).2.1.1 = 0 → 0 ≤ (fmS I len b m e c s).2.2.1.2.2.2 b ∧ (fmS I len b m e c s).2.2.1.2.2.2 b ≤ 30 ∧ tyS (upto (fmS I len b m e c s).2.2.1.2.2.2 (b + 1) ((fmS I len b m e c s).2.2.1.2.2.2 b).toNat []) = some [B])
  | 0, e, c, s, hf, T, hm, n0, n1, J => by omega
  | m + 1, e, c, s, hf, T, hm, n0, n1, J => by
    rw [fmS]
    by_cases z : e + c = 0
    · rw [if_pos z]
      refine ⟨kep_r T, fun _ => ⟨n0, n1, ?_⟩⟩
      have h := J [] (by rw [show e = 0 by omega, show c = 0 by omega]; rfl)
      rw [List.append_nil] at h
      exact h
    rw [if_neg z]
    by_cases z1 : fmE s.1.1 e (s.2.2.1.2.2.2 b) = 0
    · rw [if_pos z1]
      obtain ⟨hx, h30⟩ := fmE_0 z1
      have K1 : kepP len b s (putP b s) := by
        obtain ⟨t, ⟨f, fa⟩, ⟨n, top, R, N⟩, row, sec, last⟩ := s
        have n0' : 0 ≤ N b := n0
        have n1' : N b ≤ 30 := n1
        refine ⟨rfl, rfl, rfl, rfl, fun i h => ?_, T, Int.le_refl _⟩
        show upN (upN N b (N b + 1)) (b + (N b + 1).toNat) t.1 i = N i
        rw [upN_n _ _ (by have : N b ≠ 30 := h30; omega), upN_n _ _ (by omega)]
      have K2 := kep_t K1 (kep_adv (I := I) K1.2.2.2.2.2.1)
      have hN4 : (advP I len (putP b s)).2.2.1.2.2.2 b = s.2.2.1.2.2.2 b + 1 := by
        obtain ⟨t, ⟨f, fa⟩, ⟨n, top, R, N⟩, row, sec, last⟩ := s
        have n0' : 0 ≤ N b := n0
        show upN (upN N b (N b + 1)) (b + (N b + 1).toNat) t.1 b = N b + 1
        rw [upN_n _ _ (by omega), upN_s]
      have hf4 : (advP I len (putP b s)).2.1.1 = 0 := by
        obtain ⟨t, ⟨f, fa⟩, ⟨n, top, R, N⟩, row, sec, last⟩ := s
        exact hf
      have hu : upto (advP I len (putP b s)).2.2.1.2.2.2 (b + 1) ((advP I len (putP b s)).2.2.1.2.2.2 b).toNat [] = upto s.2.2.1.2.2.2 (b + 1) (s.2.2.1.2.2.2 b).toNat [] ++ [s.1.1] := by
        rw [hN4]
        obtain ⟨t, ⟨f, fa⟩, ⟨n, top, R, N⟩, row, sec, last⟩ := s
        have n0' : 0 ≤ N b := n0
        show upto (upN (upN N b (N b + 1)) (b + (N b + 1).toNat) t.1) (b + 1) (N b + 1).toNat [] = upto N (b + 1) (N b).toNat [] ++ [t.1]
        rw [show (N b + 1).toNat = (N b).toNat + 1 by omega, upto_snoc]
        rw [show b + ((N b).toNat + 1) = b + 1 + (N b).toNat by omega, upN_s]
        congr 1
        exact upto_congr _ _ fun i hi => by rw [upN_n _ _ (by omega), upN_n _ _ (by omega)]
      have ih := fmS_ok (B := B) m (e - (if 0 < e then 1 else 0) + exB s.1.1) (c - (if 0 < e then 0 else 1) + cdB s.1.1) (advP I len (putP b s)) hf4 K2.2.2.2.2.2.1 (by rw [hN4]; omega) (by rw [hN4]; omega) (by rw [hN4]; omega) (fun r hr => by
        rw [hu, List.append_assoc]
        refine J (s.1.1 :: r) ?_
        show (tyS r).bind (ty1 s.1.1) = _
        rw [hr]
        exact ty1_step hx z)
      exact ⟨kep_t K2 ih.1, ih.2⟩
    · rw [if_neg z1]
      refine ⟨kep_err T _, fun q => ?_⟩
      exfalso
      obtain ⟨t, ⟨f, fa⟩, ⟨n, top, R, N⟩, row, sec, last⟩ := s
      have hf2 : f = 0 := hf
      unfold errP at q
      simp only at q
      rw [if_pos hf2] at q
      exact z1 q
theorem forP_ok {q what : Int} {s : PSt} (hf : s.2.1.1 = 0) (T : TV len s.1) : kepP len (31 * q).toNat s (forP I len q what s) ∧ ((forP I len q what s).2.1.1 = 0 → fmOk (forP I len q what s).2.2.1.2.2.2 q (decide (what ≠ 0))) := by
  have K0 : kepP len (31 * q).toNat s (zerP (31 * q).toNat s) := by
    obtain ⟨t, ⟨f, fa⟩, ⟨n, top, R, N⟩, row, sec, last⟩ := s
    exact ⟨rfl, rfl, rfl, rfl, fun i h => upN_n _ _ (by omega), T, Int.le_refl _⟩
  have hz : (zerP (31 * q).toNat s).2.2.1.2.2.2 (31 * q).toNat = 0 := by
    obtain ⟨t, ⟨f, fa⟩, ⟨n, top, R, N⟩, row, sec, last⟩ := s
    exact upN_s _ _ _
  have hzf : (zerP (31 * q).toNat s).2.1.1 = 0 := by
    obtain ⟨t, ⟨f, fa⟩, ⟨n, top, R, N⟩, row, sec, last⟩ := s
    exact hf
  have h := fmS_ok (I := I) (b := (31 * q).toNat) (B := decide (what ≠ 0)) 32 (if what = 0 then 1 else 0) (if what = 0 then 0 else 1) _ hzf K0.2.2.2.2.2.1 (by rw [hz]; rfl) (by rw [hz]; decide) (by rw [hz]; decide) (fun r hr => by
    rw [hz]
    show tyS r = _
    by_cases c : what = 0
    · rw [if_pos c, if_pos c] at hr
      rw [hr, decide_eq_false (by simp [c])]
      rfl
    · rw [if_neg c, if_neg c] at hr
      rw [hr, decide_eq_true c]
      rfl)
  exact ⟨kep_t K0 h.1, fun q => h.2 q⟩
theorem errP_f {c : Int} (hc : c ≠ 0) (s : PSt) : ¬ (errP c s).2.1.1 = 0 := by
  obtain ⟨t, ⟨f, fa⟩, ⟨n, top, R, N⟩, row, sec, last⟩ := s
  unfold errP
  simp only
  split
  · exact hc
  · rename_i h
    exact h
theorem takP_f {w : Int} {s : PSt} (h : (takP I len w s).2.1.1 = 0) : s.2.1.1 = 0 ∧ s.1.1 = w ∧ takP I len w s = advP I len s := by
  unfold takP at h ⊢
  by_cases c : s.2.1.1 = 0
  · rw [if_pos c] at h ⊢
    by_cases d : s.1.1 = w
    · rw [if_pos d]; exact ⟨c, d, rfl⟩
    · rw [if_neg d] at h
      exact absurd h (errP_f (by decide) s)
  · rw [if_neg c] at h
    exact absurd h c
theorem forF_ok {q what : Int} {s : PSt} (T : TV len s.1) : kepP len (31 * q).toNat s (forF I len q what s) ∧ ((forF I len q what s).2.1.1 = 0 → s.2.1.1 = 0 ∧ fmOk (forF I len q what s).2.2.1.2.2.2 q (decide (what ≠ 0))) := by
  unfold forF
  by_cases c : s.2.1.1 = 0
  · rw [if_pos c]
    have h := forP_ok (I := I) (q := q) (what := what) c T
    exact ⟨h.1, fun z => ⟨c, h.2 z⟩⟩
  · rw [if_neg c]
    exact ⟨kep_r T, fun z => absurd z c⟩
theorem fmOk_congr {N N2 : Nat → Int} {q : Int} {b : Bool} (h : ∀ i : Nat, (31 * q).toNat ≤ i → i < (31 * q).toNat + 31 → N2 i = N i) (H : fmOk N q b) : fmOk N2 q b := by
  obtain ⟨h1, h2, h3⟩ := H
  have e := h (31 * q).toNat (Nat.le_refl _) (by omega)
  unfold fmOk
  rw [e]
  refine ⟨h1, h2, ?_⟩
  have e2 : lst N2 q = lst N q := by
    unfold lst
    rw [e]
    exact upto_congr _ _ fun i hi => h _ (by omega) (by omega)
  rw [e2]
  exact h3
theorem newR_var {kd v v2 n row sec last : Int} {R R2 : Nat → Int} (h0 : 0 ≤ n) (e : newR kd v n row sec last R R2) : newR kd v2 n row sec last R (upN R2 (10 * n + 1).toNat v2) := by
  constructor
  · intro s k a b c d
    rw [sv_up a ⟨c, d⟩ h0 (by omega), if_neg (fun q => b q.1)]
    exact e.1 s k a b c d
  · intro k c d
    rw [sv_up h0 ⟨c, d⟩ h0 (by omega), e.2 k c d]
    by_cases q : k = 1
    · rw [if_pos ⟨rfl, q⟩, if_neg (by omega), if_pos q]
    · rw [if_neg (fun z => q z.2), if_neg (show ¬ k = 1 from q), if_neg q]
theorem WN_new {kd v n row sec last : Int} {R R2 N N2 : Nat → Int} (h0 : 0 ≤ n) (h24 : n < 24) (hs : sec = 0 ∨ sec = 1) (W : WN n R N) (e : newR kd v n row sec last R R2) (hk : 0 ≤ kd ∧ kd ≤ 3) (hN : ∀ i : Nat, (i < (31 * (2 + n)).toNat ∨ (31 * (2 + n)).toNat + 31 ≤ i) → (i < (31 * (26 + n)).toNat ∨ (31 * (26 + n)).toNat + 31 ≤ i) → (i < (31 * (50 + n)).toNat ∨ (31 * (50 + n)).toNat + 31 ≤ i) → i ≠ (2294 + n).toNat → i ≠ (2318 + n).toNat → N2 i = N i) (k0 : kd = 0 → fmOk N2 (2 + n) false) (k1 : kd = 1 → fmOk N2 (2 + n) true) (k2 : kd = 2 → fmOk N2 (2 + n) true ∧ fmOk N2 (26 + n) true ∧ fmOk N2 (50 + n) false) (f1 : N2 (2294 + n).toNat = -1) (f2 : N2 (2318 + n).toNat = 10) : WN (n + 1) R2 N2 := by
  obtain ⟨a1, a2, a3⟩ := W
  refine ⟨fmOk_congr (fun i x y => hN i (by omega) (by omega) (by omega) (by omega) (by omega)) a1, fmOk_congr (fun i x y => hN i (by omega) (by omega) (by omega) (by omega) (by omega)) a2, fun s q0 q1 => ?_⟩
  by_cases c : s = n
  · subst c
    have e0 : sv R2 s 0 = kd := by rw [e.2 0 (by omega) (by omega)]; rfl
    rw [e0, f1, f2]
    exact ⟨k0, k1, k2, fun _ => by omega, by omega⟩
  · have hsn : s < n := by omega
    obtain ⟨b1, b2, b3, b4, b5⟩ := a3 s q0 hsn
    rw [new_o e hs q0 hsn (by omega) (by omega) (by omega) (by omega), hN (2294 + s).toNat (by omega) (by omega) (by omega) (by omega) (by omega), hN (2318 + s).toNat (by omega) (by omega) (by omega) (by omega) (by omega)]
    have cg : ∀ q b, (q = 2 + s ∨ q = 26 + s ∨ q = 50 + s) → fmOk N q b → fmOk N2 q b := fun q b hq h => fmOk_congr (fun i x y => hN i (by omega) (by omega) (by omega) (by omega) (by omega)) h
    exact ⟨fun q => cg _ _ (Or.inl rfl) (b1 q), fun q => cg _ _ (Or.inl rfl) (b2 q), fun q => ⟨cg _ _ (Or.inl rfl) (b3 q).1, cg _ _ (Or.inr (Or.inl rfl)) (b3 q).2.1, cg _ _ (Or.inr (Or.inr rfl)) (b3 q).2.2⟩, b4, b5⟩
def INV (len : Int) : PSt → Prop
  | (t, _, (n, top, R, N), row, sec, last) => IVR n top R row sec last ∧ WN n R N ∧ TV len t
theorem IVR_top {n top row sec last : Int} {R : Nat → Int} (V : IVR n top R row sec last) : (if last = -1 ∧ row = -1 then n else top) = 0 := by
  obtain ⟨w, u, ht, hrow, hsec, hlast, h6, hop, hdj, hall⟩ := V
  by_cases c : last = -1 ∧ row = -1
  · rw [if_pos c]
    rcases hlast with ⟨l1, l2⟩ | h
    · unfold hdP at l2
      rw [if_pos c.2] at l2
      by_cases z : n = 0
      · exact z
      · rw [if_neg z] at l2; omega
    · omega
  · rw [if_neg c]
    have : n ≠ 0 := fun z => c ⟨by omega, by omega⟩
    omega
theorem comN_o {n : Int} {N : Nat → Int} {i : Nat} (h1 : i ≠ (2294 + n).toNat) (h2 : i ≠ (2318 + n).toNat) : comN n N i = N i := by
  unfold comN
  rw [upN_n _ _ h2, upN_n _ _ h1]
theorem comN_f {n : Int} {N : Nat → Int} (h0 : 0 ≤ n) : comN n N (2294 + n).toNat = -1 ∧ comN n N (2318 + n).toNat = 10 := by
  unfold comN
  rw [upN_s, upN_n _ _ (by omega), upN_s]
  exact ⟨rfl, rfl⟩
end STEPS4

