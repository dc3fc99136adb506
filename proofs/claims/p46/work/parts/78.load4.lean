/-! The reference: formulas set, undo, slots, input. -/
section LOAD4
variable {I : Nat → Int} {len : Int}
/-- the token, the error, the formulas: all that the reading of a formula changes -/
def fmT (I : Nat → Int) (len : Int) (b : Nat) : Nat → Nat → Nat → TK × (Int × Int) × (Nat → Int) → TK × (Int × Int) × (Nat → Int)
  | 0, _, _, s => s
  | m + 1, e, c, (t, (f, fa), N) => if e + c = 0 then (t, (f, fa), N) else if fmE t.1 e (N b) = 0 then fmT I len b m (e - (if 0 < e then 1 else 0) + exB t.1) (c - (if 0 < e then 0 else 1) + cdB t.1) (tok I len true t.2.2, (f, fa), upN (upN N b (N b + 1)) (b + (N b + 1).toNat) t.1) else (t, (if f = 0 then (fmE t.1 e (N b), t.2.1) else (f, fa)), N)
def inj (n top : Int) (R : Nat → Int) (w : Int × Int × Int) (x : TK × (Int × Int) × (Nat → Int)) : PSt := (x.1, x.2.1, (n, top, R, x.2.2), w)
theorem fmS_T {n top : Int} {R : Nat → Int} {w : Int × Int × Int} {b : Nat} : ∀ (m e c : Nat) (x : TK × (Int × Int) × (Nat → Int)), fmS I len b m e c (inj n top R w x) = inj n top R w (fmT I len b m e c x)
  | 0, _, _, _ => rfl
  | m + 1, e, c, (t, (f, fa), N) => by
    rw [fmS, fmT]
    by_cases h1 : e + c = 0
    · rw [if_pos h1, if_pos h1]
    · rw [if_neg h1, if_neg h1]
      show (if fmE t.1 e (N b) = 0 then fmS I len b m _ _ (inj n top R w (tok I len true t.2.2, (f, fa), upN (upN N b (N b + 1)) (b + (N b + 1).toNat) t.1)) else errP (fmE t.1 e (N b)) (t, (f, fa), (n, top, R, N), w)) = _
      by_cases h2 : fmE t.1 e (N b) = 0
      · rw [if_pos h2, if_pos h2, fmS_T m]
        rfl
      · rw [if_neg h2, if_neg h2]
        unfold errP inj
        by_cases h3 : f = 0
        · rw [if_pos h3]; exact if_pos h3
        · rw [if_neg h3]; exact if_neg h3
/-- a formula alone: token, error, formulas -/
def forT (I : Nat → Int) (len : Int) (q what : Int) (N : Nat → Int) : TK × (Int × Int) × (Nat → Int) := fmT I len (31 * q).toNat 32 (if what = 0 then 1 else 0) (if what = 0 then 0 else 1) (tok I len false 0, (0, 0), upN N (31 * q).toNat 0)
theorem forP_T {n top : Int} {R N : Nat → Int} {w : Int × Int × Int} {q what : Int} : forP I len q what (tok I len false 0, (0, 0), (n, top, R, N), w) = inj n top R w (forT I len q what N) := by
  unfold forP forT
  rw [← fmS_T]
  rfl
/-- the error of a text that shall be one formula; its place -/
def alE (I : Nat → Int) (len : Int) (q what : Int) (N : Nat → Int) : Int := if (forT I len q what N).2.1.1 = 0 then (if (forT I len q what N).1.1 = -2 then 0 else 1) else (forT I len q what N).2.1.1
def alA (I : Nat → Int) (len : Int) (q what : Int) (N : Nat → Int) : Int := if (forT I len q what N).2.1.1 = 0 then (forT I len q what N).1.2.1 else (forT I len q what N).2.1.2
def alN (I : Nat → Int) (len : Int) (q what : Int) (N : Nat → Int) : Nat → Int := (forT I len q what N).2.2
theorem alT_ok {N : Nat → Int} {q what : Int} (h0 : 0 ≤ len) : (∀ i, i < (31 * q).toNat ∨ (31 * q).toNat + 31 ≤ i → alN I len q what N i = N i) ∧ (alE I len q what N = 0 → fmOk (alN I len q what N) q (decide (what ≠ 0))) := by
  have T0 := (tok_TV (I := I) (len := len) (b := false) (e := 0) (Int.le_refl _) h0).1
  have H := forP_ok (I := I) (len := len) (q := q) (what := what) (s := (tok I len false 0, (0, 0), (0, 0, N, N), 0, 0, 0)) rfl T0
  rw [forP_T] at H
  refine ⟨H.1.2.2.2.2.1, fun e => H.2 ?_⟩
  unfold alE at e
  show (forT I len q what N).2.1.1 = 0
  by_cases c : (forT I len q what N).2.1.1 = 0
  · exact c
  · rw [if_neg c] at e; exact absurd e c
/-- what stands behind a formula's text -/
def frmS (q what len : Int) : MSt → MSt
  | (n, top, R, N, c, Ol, s0, s1, I, _, O, _, _) => if alE I len q what N = 0 then (n, top, R, alN I len q what N, psc c, psh N Ol, s0, s1, I, 0, O, 0, -1) else (n, top, R, N, c, Ol, s0, s1, I, 0, O, alE I len q what N, alA I len q what N)
end LOAD4

