/-! The reference: sets, needs, duties, single runs, as they are asked. -/
section API3
variable {n top : Int} {R N : Nat → Int}
def lpOk (n : Int) (R : Nat → Int) (kd l : Int) : Prop := 0 ≤ l ∧ l < cntK R kd n.toNat
theorem lpAt_c (P : Prg n top R N) {kd : Int} (hk : kd = 2 ∨ kd = 3) (l : Int) : (lpOk n R kd l ∧ (0 ≤ lpAt n R kd l ∧ lpAt n R kd l < n) ∧ sv R (lpAt n R kd l) 0 = kd) ∨ (¬ lpOk n R kd l ∧ lpAt n R kd l = -1) := by
  by_cases c : lpOk n R kd l
  · have := lpAt_ok P.2.2.1 P.1.1.1 hk c.1 c.2
    exact Or.inl ⟨c, this.1, this.2.1⟩
  · exact Or.inr ⟨c, lpAt_no P.2.2.1 P.1.1.1 hk (by unfold lpOk at c; omega)⟩
def aLoopSet (n : Int) (R N : Nat → Int) (l x : Int) : Int × zV := if lpAt n R 2 l = -1 then (1, zJ 0#64) else if x = 0 then (0, zJ (setL (lst N (2 + lpAt n R 2 l)))) else if x = 1 then (0, zJ (setL (lst N (26 + lpAt n R 2 l)))) else (2, zJ 0#64)
def aLess (n : Int) (R N : Nat → Int) (l x : Int) : Int × zV := if lpAt n R 2 l = -1 then (1, zI 0) else if 0 ≤ x ∧ x < 64 then (0, zI (val (lst N (50 + lpAt n R 2 l)) x)) else (2, zI 0)
def aNeed (n : Int) (R N : Nat → Int) (s : Int) : Int × zV := if 0 ≤ s ∧ s < n then (0, zJ (NN n R N s)) else (1, zJ 0#64)
abbrev flC (n top : Int) (R N : Nat → Int) (d : Int) : BitVec 64 := flS n top R N (TT n R N) (NN n R N) d
def aDuty (n top : Int) (R N : Nat → Int) (d x : Int) : Int × zV := if 0 ≤ d ∧ d < dmS n R then (if 0 ≤ x ∧ x ≤ 3 then (0, zI (if x = 0 then (if d = 0 then 0 else 1 + (d - 1) % 3) else if x = 1 then (if d = 0 then -1 else lpAt n R 2 ((d - 1) / 3)) else if x = 2 then f_M_ones (flC n top R N d) else f_M_leastOf (flC n top R N d))) else (2, zI 0)) else (1, zI 0)
def aFailing (n top : Int) (R N : Nat → Int) (d : Int) : Int × zV := if 0 ≤ d ∧ d < dmS n R then (0, zJ (flC n top R N d)) else (1, zJ 0#64)
def aTrouble (n top : Int) (R N : Nat → Int) : Int := zfind (fun d => ¬ flC n top R N d = 0#64) 0 (dmS n R).toNat
abbrev EC (n top : Int) (R N : Nat → Int) (st : Int) : Int := E0 R (TT n R N) top st
/-- the time at which a run of the program stops -/
def fstN (p : Nat → Bool) : Nat → Nat → Nat
  | 0, a => a
  | k + 1, a => if p a = true then a else fstN p k (a + 1)
theorem fstN_e {p : Nat → Bool} {D : Nat} (hD : p D = true) : ∀ (k a : Nat), a ≤ D → D < a + k → (∀ t, a ≤ t → t < D → p t = false) → fstN p k a = D
  | 0, a, h1, h2, h3 => by omega
  | k + 1, a, h1, h2, h3 => by
    rw [fstN]
    by_cases c : a = D
    · rw [c, if_pos hD]
    · rw [h3 a (Nat.le_refl _) (by omega), if_neg (by decide)]
      exact fstN_e hD k (a + 1) (by omega) (by omega) (fun t q1 q2 => h3 t (by omega) q2)
def stopB (R N : Nat → Int) (th : Int → Int) (al : Int) (p : Int × Int) (k : Nat) : Bool := decide ((orb R N th al p k).1 = -1) || (decide (sv R (orb R N th al p k).1 0 = 2) && bt (lkT R N th al p k (orb R N th al p k).1) (orb R N th al p k).2)
theorem stopB_e {th : Int → Int} {al : Int} {p : Int × Int} (k : Nat) : stopB R N th al p k = true ↔ stopT R N th al p k := by
  unfold stopB stopT
  simp only [Bool.or_eq_true, Bool.and_eq_true, decide_eq_true_eq]
def dT (R N : Nat → Int) (top st : Int) : Nat := fstN (stopB R N (thn R) (-1) (top, st)) 3073 0
theorem dT_e {st : Int} {D : Nat} {E : Int} (h : RunD R N (thn R) (-1) (top, st) D E) : D = dT R N top st := by
  obtain ⟨⟨h1, h2, h3⟩, _, _⟩ := h
  refine (fstN_e ((stopB_e D).2 h2) 3073 0 (by omega) (by omega) fun t _ ht => ?_).symm
  cases g : stopB R N (thn R) (-1) (top, st) t with
  | false => rfl
  | true => exact absurd ((stopB_e t).1 g) (h3 t ht)
abbrev coC (R N : Nat → Int) (top st : Int) : UInt32 := coT R N (thn R) (-1) (top, st) (dT R N top st)
def aRun (n top : Int) (R N : Nat → Int) (st : Int) : Int × zV := if 0 ≤ st ∧ st < 64 then (0, zI (EC n top R N st)) else (1, zI 0)
def aSteps (n top : Int) (R N : Nat → Int) (st : Int) : Int × zV := if 0 ≤ st ∧ st < 64 then (0, zI (if EC n top R N st = -1 then -1 else dT R N top st)) else (1, zI 0)
def cstS (n top : Int) (R N : Nat → Int) (st : Int) : UInt32 := if EC n top R N st = -1 then 3212836864 else coC R N top st
def aCost (n top : Int) (R N : Nat → Int) (st : Int) : Int × zV := if 0 ≤ st ∧ st < 64 then (0, zF (cstS n top R N st)) else (1, zF FP.fconst0)
def aCostBits (n top : Int) (R N : Nat → Int) (st : Int) : Int × zV := if 0 ≤ st ∧ st < 64 then (0, zI (f_Fl_floatToIntBits (cstS n top R N st))) else (1, zI 0)
abbrev wgC (n top : Int) (R N : Nat → Int) : BitVec 64 := wgS R N (TT n R N) top
def aShare (n top : Int) (R N : Nat → Int) : UInt32 := FP.fdiv (FP.i2f (Int32.ofInt (f_M_ones (ahd N (NN n R N) top)))) 1115684864
theorem ones_b (x : BitVec 64) : 0 ≤ f_M_ones x ∧ f_M_ones x ≤ 64 := by
  have := zsum_b (f := fun k => if b_M_holds x k then 1 else 0) (u := 1) (fun k => by split <;> omega) 64 0
  unfold f_M_ones
  omega
end API3

