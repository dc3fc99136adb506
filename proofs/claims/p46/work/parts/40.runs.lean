/-! Runs: where they go, step by step; where they end, by rows. -/
theorem pigeon : ∀ (m : Nat) (f : Nat → Nat), (∀ i, i ≤ m → f i < m) → ∃ i j, i < j ∧ j ≤ m ∧ f i = f j
  | 0, f, h => absurd (h 0 (Nat.le_refl _)) (Nat.not_lt_zero _)
  | m + 1, f, h => by
    by_cases c : ∃ i, i < m + 1 ∧ f i = f (m + 1)
    · obtain ⟨i, h1, h2⟩ := c
      exact ⟨i, m + 1, h1, Nat.le_refl _, h2⟩
    · have hc : ∀ i, i < m + 1 → f i ≠ f (m + 1) := fun i hi e => c ⟨i, hi, e⟩
      have hl := h (m + 1) (Nat.le_refl _)
      obtain ⟨i, j, h1, h2, h3⟩ := pigeon m (fun i => if f (m + 1) < f i then f i - 1 else f i) (fun i hi => by
        have h4 := h i (by omega)
        have h5 := hc i (by omega)
        show (if f (m + 1) < f i then f i - 1 else f i) < m
        split <;> omega)
      refine ⟨i, j, h1, by omega, ?_⟩
      have h4 := hc i (by omega)
      have h5 := hc j (by omega)
      split at h3 <;> split at h3 <;> omega
/-- the condition of an if or a while holds -/
def hb (N : Nat → Int) (s st : Int) : Bool := decide (val (lst N (2 + s)) st = 1)
/-- the end of a row, by the ends of its statements: k statements at most -/
def rwE (T : Int → Int → Int) (R : Nat → Int) : Nat → Int → Int → Int
  | 0, _, st => st
  | k + 1, s, st => if s = -1 ∨ st = -1 then st else rwE T R k (sv R s 4) (T s st)
def rowE (T : Int → Int → Int) (R : Nat → Int) (s st : Int) : Int := rwE T R 24 s st
def itJ (J : Int → Int) : Nat → Int → Int
  | 0, x => x
  | k + 1, x => if x = -1 then -1 else itJ J k (J x)
/-- one round of a loop; behind it -/
def rnd (T : Int → Int → Int) (R N : Nat → Int) (s x : Int) : Int := if hb N s x = true then rowE T R (sv R s 5) x else x
def whE (T : Int → Int → Int) (R N : Nat → Int) (s st : Int) : Int := if itJ (rnd T R N s) 64 st = -1 ∨ hb N s (itJ (rnd T R N s) 64 st) = true then -1 else itJ (rnd T R N s) 64 st
def etS (T : Int → Int → Int) (R N : Nat → Int) (s st : Int) : Int := if sv R s 0 = 2 then whE T R N s st else if sv R s 0 = 1 then (if hb N s st = true then rowE T R (sv R s 5) st else rowE T R (sv R s 6) st) else bhS R N s st
/-- a table of the ends of all statements; -1 where there is none -/
def isET (n : Int) (R N : Nat → Int) (T : Int → Int → Int) : Prop := ∀ s st, 0 ≤ s → s < n → 0 ≤ st → st < 64 → T s st = etS T R N s st
/-- where it goes on behind the last statement of a row in p -/
def tl (R : Nat → Int) (th : Int → Int) (sp p : Int) : Int := if p = -1 ∨ p = sp then -1 else if sv R p 0 = 2 then p else th p
def isTS (n : Int) (R : Nat → Int) (sp : Int) (th : Int → Int) : Prop := ∀ s, 0 ≤ s → s < n → th s = if sv R s 4 = -1 then tl R th sp (sv R s 3) else sv R s 4
theorem isTS_of {n : Int} {R : Nat → Int} {th : Int → Int} (h : isTH n R th) : isTS n R (-1) th := fun s h0 h1 => by
  rw [h s h0 h1, tl]
  by_cases c : sv R s 4 = -1
  · rw [if_pos c, if_pos c]
    by_cases c3 : sv R s 3 = -1
    · rw [if_pos c3, if_pos (Or.inl c3)]
    · rw [if_neg c3, if_neg (show ¬ (sv R s 3 = -1 ∨ sv R s 3 = -1) by omega)]
  · rw [if_neg c, if_neg c]
def exS (th : Int → Int) (al s : Int) : Int := if s = al then -1 else th s
def stp (R N : Nat → Int) (th : Int → Int) (al : Int) (p : Int × Int) : Int × Int :=
  if sv R p.1 0 = 2 then (if hb N p.1 p.2 = true then (if sv R p.1 5 = -1 then p.1 else sv R p.1 5) else exS th al p.1, p.2)
  else if sv R p.1 0 = 1 then (if (if hb N p.1 p.2 = true then sv R p.1 5 else sv R p.1 6) = -1 then th p.1 else if hb N p.1 p.2 = true then sv R p.1 5 else sv R p.1 6, p.2)
  else (th p.1, bhS R N p.1 p.2)
def orb (R N : Nat → Int) (th : Int → Int) (al : Int) (p : Int × Int) : Nat → Int × Int
  | 0 => p
  | k + 1 => stp R N th al (orb R N th al p k)
section RUNS
variable {n : Int} {R N : Nat → Int} {th : Int → Int} {al sp : Int} {T : Int → Int → Int}
theorem orb_add (p : Int × Int) (i : Nat) : ∀ (j : Nat), orb R N th al p (i + j) = orb R N th al (orb R N th al p i) j
  | 0 => rfl
  | j + 1 => by
    show stp R N th al (orb R N th al p (i + j)) = stp R N th al (orb R N th al (orb R N th al p i) j)
    rw [orb_add p i j]
theorem orb_1 (p : Int × Int) (j : Nat) : orb R N th al p (j + 1) = orb R N th al (stp R N th al p) j := by
  rw [Nat.add_comm, orb_add]; rfl
theorem itJ_m1 (J : Int → Int) : ∀ (k : Nat), itJ J k (-1) = -1
  | 0 => rfl
  | k + 1 => by rw [itJ, if_pos rfl]
theorem itJ_add (J : Int → Int) : ∀ (i j : Nat) (x : Int), itJ J (i + j) x = itJ J j (itJ J i x)
  | 0, j, x => by rw [Nat.zero_add]; rfl
  | i + 1, j, x => by
    rw [show i + 1 + j = (i + j) + 1 by omega, itJ, itJ]
    by_cases c : x = -1
    · rw [if_pos c, if_pos c, itJ_m1]
    · rw [if_neg c, if_neg c, itJ_add J i j]
theorem itJ_fix {J : Int → Int} {x : Int} (h : J x = x) : ∀ (k : Nat), itJ J k x = x
  | 0 => rfl
  | k + 1 => by
    rw [itJ]
    by_cases c : x = -1
    · rw [if_pos c, c]
    · rw [if_neg c, h, itJ_fix h k]
theorem itJ_succ {J : Int → Int} {k : Nat} {x : Int} (h : itJ J k x ≠ -1) : itJ J (k + 1) x = J (itJ J k x) := by
  rw [itJ_add, itJ, if_neg h]; rfl
theorem itJ_r {J : Int → Int} (hJ : ∀ x, 0 ≤ x → x < 64 → -1 ≤ J x ∧ J x < 64) : ∀ (k : Nat) (x : Int), -1 ≤ x → x < 64 → -1 ≤ itJ J k x ∧ itJ J k x < 64
  | 0, x, h0, h1 => ⟨h0, h1⟩
  | k + 1, x, h0, h1 => by
    rw [itJ]
    by_cases c : x = -1
    · rw [if_pos c]; omega
    · rw [if_neg c]
      have := hJ x (by omega) h1
      exact itJ_r hJ k _ this.1 this.2
/-- more rounds than there are states tell no more -/
theorem itJ_65 {J : Int → Int} {e : Int → Bool} (hJ : ∀ x, 0 ≤ x → x < 64 → -1 ≤ J x ∧ J x < 64) (he : ∀ x, e x = false → J x = x) {x : Int} (h0 : 0 ≤ x) (h1 : x < 64) (m : Nat) (hm : 64 ≤ m) : (itJ J m x = -1 ∨ e (itJ J m x) = true ↔ itJ J 64 x = -1 ∨ e (itJ J 64 x) = true) ∧ (¬ (itJ J 64 x = -1 ∨ e (itJ J 64 x) = true) → itJ J m x = itJ J 64 x) := by
  obtain ⟨d, rfl⟩ : ∃ d, m = 64 + d := ⟨m - 64, by omega⟩
  by_cases c1 : itJ J 64 x = -1
  · have h2 : itJ J (64 + d) x = -1 := by rw [itJ_add, c1, itJ_m1]
    exact ⟨⟨fun _ => Or.inl c1, fun _ => Or.inl h2⟩, fun g => absurd (Or.inl c1) g⟩
  · cases c2 : e (itJ J 64 x) with
    | false =>
      have h2 : itJ J (64 + d) x = itJ J 64 x := by rw [itJ_add, itJ_fix (he _ c2)]
      rw [h2, c2]
      exact ⟨Iff.rfl, fun _ => rfl⟩
    | true =>
      refine ⟨⟨fun _ => Or.inr rfl, fun _ => ?_⟩, fun g => absurd (Or.inr rfl) g⟩
      -- all states so far go on; one comes twice
      have ha : ∀ i, i ≤ 64 → itJ J i x ≠ -1 := fun i hi g => c1 (by rw [show 64 = i + (64 - i) by omega, itJ_add, g, itJ_m1])
      have hr : ∀ i, i ≤ 64 → 0 ≤ itJ J i x ∧ itJ J i x < 64 := fun i hi => by
        have h2 := itJ_r hJ i x (by omega) h1
        have h3 := ha i hi
        omega
      obtain ⟨i, j, h2, h3, h4⟩ := pigeon 64 (fun i => (itJ J i x).toNat) (fun i hi => by have := hr i hi; omega)
      have h5 : itJ J i x = itJ J j x := by
        have := hr i (by omega)
        have := hr j h3
        omega
      -- from i on the states come round
      have hp : ∀ k, itJ J (i + k) x ≠ -1 ∧ ∃ q, i ≤ q ∧ q < j ∧ itJ J (i + k) x = itJ J q x := fun k => by
        induction k with
        | zero => exact ⟨ha i (by omega), i, Nat.le_refl _, h2, rfl⟩
        | succ k ih =>
          obtain ⟨g1, q, g2, g3, g4⟩ := ih
          have g5 : itJ J (i + (k + 1)) x = itJ J (q + 1) x := by
            rw [← Nat.add_assoc, itJ_succ g1, g4, itJ_succ (ha q (by omega))]
          by_cases g6 : q + 1 < j
          · exact ⟨by rw [g5]; exact ha _ (by omega), q + 1, by omega, g6, g5⟩
          · have g7 : q + 1 = j := by omega
            rw [g7, ← h5] at g5
            exact ⟨by rw [g5]; exact ha i (by omega), i, Nat.le_refl _, h2, g5⟩
      obtain ⟨g1, q, g2, g3, g4⟩ := hp (64 + d - i)
      rw [show i + (64 + d - i) = 64 + d by omega] at g1 g4
      refine Or.inr ?_
      cases g5 : e (itJ J (64 + d) x) with
      | true => rfl
      | false =>
        rw [g4] at g5
        have g6 : itJ J 64 x = itJ J q x := by rw [show 64 = q + (64 - q) by omega, itJ_add, itJ_fix (he _ g5)]
        rw [g6, g5] at c2
        cases c2
end RUNS

