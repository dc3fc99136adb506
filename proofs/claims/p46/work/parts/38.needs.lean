/-! The reference: sets, and the needs ahead of the statements. -/
def sv (R : Nat → Int) (s k : Int) : Int := R ((10 * s) + k).toNat
theorem f_M_s_e (h : zH) (s k : Int) : f_M_s h s k = sv (hI h 183) s k := rfl
def up (R : Nat → Int) : Nat → Int → Int
  | 0, s => s
  | k + 1, s => if up R k s = -1 then -1 else sv R (up R k s) 3
/-- rows of statements that hang together as a text's do -/
def WS (n : Int) (R : Nat → Int) : Prop := (0 ≤ n ∧ n ≤ 24) ∧ (∀ s, 0 ≤ s → s < n → (0 ≤ sv R s 0 ∧ sv R s 0 ≤ 3) ∧ (sv R s 0 = 0 → 0 ≤ sv R s 1 ∧ sv R s 1 ≤ 2) ∧ (sv R s 3 = -1 ∨ 0 ≤ sv R s 3 ∧ sv R s 3 < s ∧ (sv R (sv R s 3) 0 = 1 ∨ sv R (sv R s 3) 0 = 2)) ∧ (sv R s 4 = -1 ∨ s < sv R s 4 ∧ sv R s 4 < n ∧ sv R (sv R s 4) 3 = sv R s 3) ∧ (sv R s 5 = -1 ∨ s < sv R s 5 ∧ sv R s 5 < n ∧ sv R (sv R s 5) 3 = s ∧ (sv R s 0 = 1 ∨ sv R s 0 = 2)) ∧ (sv R s 6 = -1 ∨ s < sv R s 6 ∧ sv R s 6 < n ∧ sv R (sv R s 6) 3 = s ∧ sv R s 0 = 1)) ∧ (∀ s k, 0 ≤ s → s < n → ¬ up R k s = -1 → sv R (up R k s) 4 = -1 ∨ s < sv R (up R k s) 4)
/-- the formulas, the fillings and the prices of the statements -/
def WN (n : Int) (R N : Nat → Int) : Prop := fmOk N 0 true ∧ fmOk N 1 true ∧ ∀ s, 0 ≤ s → s < n → (sv R s 0 = 0 → fmOk N (2 + s) false) ∧ (sv R s 0 = 1 → fmOk N (2 + s) true) ∧ (sv R s 0 = 2 → fmOk N (2 + s) true ∧ fmOk N (26 + s) true ∧ fmOk N (50 + s) false) ∧ (sv R s 0 = 3 → -1 ≤ N (2294 + s).toNat ∧ N (2294 + s).toNat ≤ 38) ∧ (0 ≤ N (2318 + s).toNat ∧ N (2318 + s).toNat ≤ 99)
/-- where a run goes on behind a statement -/
def isTH (n : Int) (R : Nat → Int) (th : Int → Int) : Prop := ∀ s, 0 ≤ s → s < n → th s = if sv R s 4 = -1 then (if sv R s 3 = -1 then -1 else if sv R (sv R s 3) 0 = 2 then sv R s 3 else th (sv R s 3)) else sv R s 4
def okMB (A : FA) : Bool := okM A && rowA A 183 && rowA A 179 && !inA A 177 10 && !inA A 177 12
/-- the state behind a set or a hole -/
def bhS (R N : Nat → Int) (s st : Int) : Int := if sv R s 0 = 0 then f_M_changed st (sv R s 1) (val (lst N (2 + s)) st) else if N (2294 + s).toNat = -1 then st else f_M_changed st (N (2294 + s).toNat / 13) (flv (N (2294 + s).toNat) st)
theorem bhS_r {n : Int} {R N : Nat → Int} (w : WS n R) (v : WN n R N) {s st : Int} (h0 : 0 ≤ s) (h1 : s < n) (hk : sv R s 0 = 0 ∨ sv R s 0 = 3) (h2 : 0 ≤ st) (h3 : st < 64) : 0 ≤ bhS R N s st ∧ bhS R N s st < 64 := by
  have w1 := w.2.1 s h0 h1
  have v1 := v.2.2 s h0 h1
  unfold bhS
  by_cases c : sv R s 0 = 0
  · have hv := val_ok (v1.1 c).2.2 h2 h3
    have hr := w1.2.1 c
    rw [if_pos c]
    exact (changed_r h2 h3 hr.1 (by omega) hv.2.1 hv.2.2.1).1
  · have hf := v1.2.2.2.1 (by omega)
    rw [if_neg c]
    by_cases c2 : N (2294 + s).toNat = -1
    · rw [if_pos c2]; exact ⟨h2, h3⟩
    · have hl := flv_r (f := N (2294 + s).toNat) (by omega) h2 h3
      rw [if_neg c2]
      exact (changed_r h2 h3 (by omega) (by omega) hl.1 hl.2).1
def ahd (N : Nat → Int) (ND : Int → BitVec 64) (t : Int) : BitVec 64 := if t = -1 then setL (lst N 1) else ND t
def rwN (ND : Int → BitVec 64) (f : Int) (b : BitVec 64) : BitVec 64 := if f = -1 then b else ND f
def ndS (R N : Nat → Int) (th : Int → Int) (ND : Int → BitVec 64) (s : Int) : BitVec 64 := if sv R s 0 = 2 then setL (lst N (26 + s)) else if sv R s 0 = 1 then (setL (lst N (2 + s)) &&& rwN ND (sv R s 5) (ahd N ND (th s))) ||| ((~~~ setL (lst N (2 + s))) &&& rwN ND (sv R s 6) (ahd N ND (th s))) else bset fun st => bt (ahd N ND (th s)) (bhS R N s st)
/-- a row of needs, each as section 3 finds it -/
def isND (n : Int) (R N : Nat → Int) (th : Int → Int) (ND : Int → BitVec 64) : Prop := ∀ s, 0 ≤ s → s < n → ND s = ndS R N th ND s
