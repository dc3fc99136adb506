/-! The reading of texts, as steps on a state; the reference takes them. -/
section PARSE
variable {I : Nat → Int} {len : Int}
/-- token, error and its place, statements (count, first, rows, formulas), open statement, whether in its second row, last statement of the row -/
abbrev PSt : Type := TK × (Int × Int) × (Int × Int × (Nat → Int) × (Nat → Int)) × (Int × Int × Int)
def errP (c : Int) : PSt → PSt
  | (t, (f, fa), p, w) => if f = 0 then (t, (c, t.2.1), p, w) else (t, (f, fa), p, w)
def advP (I : Nat → Int) (len : Int) : PSt → PSt
  | (t, fl, p, w) => (tok I len true t.2.2, fl, p, w)
def takP (I : Nat → Int) (len : Int) (w : Int) (s : PSt) : PSt := if s.2.1.1 = 0 then (if s.1.1 = w then advP I len s else errP 1 s) else s
def exB (x : Int) : Nat := if (7 ≤ x ∧ x ≤ 9) ∨ x = 12 ∨ x = 13 then 2 else 0
def cdB (x : Int) : Nat := if x = 15 ∨ x = 16 then 2 else if x = 14 then 1 else 0
/-- the error that a token is where expressions (else conditions) are due, with k nodes before it -/
def fmE (x : Int) (e : Nat) (k : Int) : Int := if 0 < e ∧ x = -4 then 2 else if (0 < e ∧ 0 ≤ x ∧ x ≤ 9) ∨ (e = 0 ∧ 10 ≤ x ∧ x ≤ 16) then (if k = 30 then 4 else 0) else 1
def putP (b : Nat) : PSt → PSt
  | (t, fl, (n, top, R, N), w) => (t, fl, (n, top, R, upN (upN N b (N b + 1)) (b + (N b + 1).toNat) t.1), w)
def fmS (I : Nat → Int) (len : Int) (b : Nat) : Nat → Nat → Nat → PSt → PSt
  | 0, _, _, s => s
  | m + 1, e, c, s => if e + c = 0 then s else if fmE s.1.1 e (s.2.2.1.2.2.2 b) = 0 then fmS I len b m (e - (if 0 < e then 1 else 0) + exB s.1.1) (c - (if 0 < e then 0 else 1) + cdB s.1.1) (advP I len (putP b s)) else errP (fmE s.1.1 e (s.2.2.1.2.2.2 b)) s
def zerP (b : Nat) : PSt → PSt
  | (t, fl, (n, top, R, N), w) => (t, fl, (n, top, R, upN N b 0), w)
def forP (I : Nat → Int) (len : Int) (q what : Int) (s : PSt) : PSt := fmS I len (31 * q).toNat 32 (if what = 0 then 1 else 0) (if what = 0 then 0 else 1) (zerP (31 * q).toNat s)
theorem arity_e {x : Int} (h0 : 0 ≤ x) (h1 : x ≤ 16) : f_M_arity x = exB x + cdB x ∧ (¬ exB x = 0 → cdB x = 0) ∧ (exB x + cdB x ≤ 2) ∧ (¬ cdB x = 0 ↔ (x = 14 ∨ x = 15 ∨ x = 16)) := by
  have H := (show ∀ x : Fin 17, f_M_arity x.val = exB x.val + cdB x.val ∧ (¬ exB x.val = 0 → cdB x.val = 0) ∧ (exB x.val + cdB x.val ≤ 2) ∧ (¬ cdB x.val = 0 ↔ ((x.val : Int) = 14 ∨ (x.val : Int) = 15 ∨ (x.val : Int) = 16)) by decide +kernel) ⟨x.toNat, by omega⟩
  simp only at H
  rw [show ((x.toNat : Nat) : Int) = x by omega] at H
  exact H
theorem fmE_0 {x : Int} {e : Nat} {k : Int} (h : fmE x e k = 0) : ((0 < e ∧ 0 ≤ x ∧ x ≤ 9) ∨ (e = 0 ∧ 10 ≤ x ∧ x ≤ 16)) ∧ ¬ k = 30 := by
  unfold fmE at h
  split at h
  · cases h
  · split at h
    · rename_i c
      split at h
      · cases h
      · rename_i d
        exact ⟨c, d⟩
    · cases h
end PARSE

