/-! Runs: a row that ends is gone through step by step; a run that ends shows the ends of its rows; one that does not comes round. -/
section RUNS2
variable {n : Int} {R N : Nat → Int} {th : Int → Int} {al sp : Int} {T : Int → Int → Int}
theorem rwE_n (T : Int → Int → Int) (R : Nat → Int) : ∀ (k : Nat) (st : Int), rwE T R k (-1) st = st
  | 0, _ => rfl
  | k + 1, st => by rw [rwE, if_pos (Or.inl rfl)]
theorem rwE_m (T : Int → Int → Int) (R : Nat → Int) : ∀ (k : Nat) (s : Int), rwE T R k s (-1) = -1
  | 0, _ => rfl
  | k + 1, s => by rw [rwE, if_pos (Or.inr rfl)]
/-- enough statements are looked at -/
theorem rwE_k (w : WS n R) : ∀ (k j : Nat) (s st : Int), (s = -1 ∨ 0 ≤ s ∧ s < n) → n - s ≤ k → n - s ≤ j → rwE T R k s st = rwE T R j s st
  | 0, j, s, st, h0, h1, h2 => by
    have h3 : s = -1 := by have := w.1; omega
    rw [h3, rwE_n, rwE_n]
  | k + 1, 0, s, st, h0, h1, h2 => by
    have h3 : s = -1 := by have := w.1; omega
    rw [h3, rwE_n, rwE_n]
  | k + 1, j + 1, s, st, h0, h1, h2 => by
    rw [rwE, rwE]
    by_cases c : s = -1 ∨ st = -1
    · rw [if_pos c, if_pos c]
    · rw [if_neg c, if_neg c]
      have h3 := (w.2.1 s (by omega) (by omega)).2.2.2.1
      by_cases g : sv R s 4 = -1
      · rw [g, rwE_n, rwE_n]
      · exact rwE_k w k j _ _ (by omega) (by omega) (by omega)
theorem rowE_n (T : Int → Int → Int) (R : Nat → Int) (st : Int) : rowE T R (-1) st = st := rwE_n T R 24 st
theorem rowE_c (w : WS n R) {s st : Int} (h0 : 0 ≤ s) (h1 : s < n) (hs : st ≠ -1) : rowE T R s st = rowE T R (sv R s 4) (T s st) := by
  have h2 := w.1
  have h3 := (w.2.1 s h0 h1).2.2.2.1
  show rwE T R (23 + 1) s st = _
  rw [rwE, if_neg (by omega)]
  by_cases g : sv R s 4 = -1
  · rw [g, rwE_n, rowE_n]
  · exact rwE_k w 23 24 _ _ (by omega) (by omega) (by omega)
theorem rowE_m (T : Int → Int → Int) (R : Nat → Int) (s : Int) : rowE T R s (-1) = -1 := rwE_m T R 24 s
theorem rwE_r (hT : ∀ s st, 0 ≤ s → s < n → 0 ≤ st → st < 64 → -1 ≤ T s st ∧ T s st < 64) (w : WS n R) : ∀ (k : Nat) (s st : Int), (s = -1 ∨ 0 ≤ s ∧ s < n) → -1 ≤ st → st < 64 → -1 ≤ rwE T R k s st ∧ rwE T R k s st < 64
  | 0, s, st, h0, h1, h2 => ⟨h1, h2⟩
  | k + 1, s, st, h0, h1, h2 => by
    rw [rwE]
    by_cases c : s = -1 ∨ st = -1
    · rw [if_pos c]; exact ⟨h1, h2⟩
    · rw [if_neg c]
      have h3 := (w.2.1 s (by omega) (by omega)).2.2.2.1
      have h4 := hT s st (by omega) (by omega) (by omega) h2
      exact rwE_r hT w k _ _ (by omega) h4.1 h4.2
/-- the table's entries are states, or none -/
theorem isET_r (w : WS n R) (v : WN n R N) (hE : isET n R N T) : ∀ (m : Nat) (s st : Int), n - s ≤ m → 0 ≤ s → s < n → 0 ≤ st → st < 64 → -1 ≤ T s st ∧ T s st < 64
  | 0, s, st, hm, h0, h1, h2, h3 => by omega
  | m + 1, s, st, hm, h0, h1, h2, h3 => by
    have ih := isET_r w v hE m
    have w1 := w.2.1 s h0 h1
    -- a row behind s
    have hrow : ∀ (k : Nat) (c x : Int), (c = -1 ∨ s < c ∧ c < n) → -1 ≤ x → x < 64 → -1 ≤ rwE T R k c x ∧ rwE T R k c x < 64 := by
      intro k
      induction k with
      | zero => exact fun c x _ h4 h5 => ⟨h4, h5⟩
      | succ k ihk =>
        intro c x hc h4 h5
        rw [rwE]
        by_cases g : c = -1 ∨ x = -1
        · rw [if_pos g]; exact ⟨h4, h5⟩
        · rw [if_neg g]
          have h6 := (w.2.1 c (by omega) (by omega)).2.2.2.1
          have h7 := ih c x (by omega) (by omega) (by omega) (by omega) h5
          exact ihk _ _ (by omega) h7.1 h7.2
    rw [hE s st h0 h1 h2 h3, etS]
    by_cases c2 : sv R s 0 = 2
    · rw [if_pos c2, whE]
      have hJ : ∀ x, 0 ≤ x → x < 64 → -1 ≤ rnd T R N s x ∧ rnd T R N s x < 64 := fun x h4 h5 => by
        unfold rnd
        by_cases g : hb N s x = true
        · rw [if_pos g]; exact hrow 24 _ _ (by omega) (by omega) h5
        · rw [if_neg g]; omega
      have h6 := itJ_r hJ 64 st (by omega) h3
      split
      · omega
      · exact h6
    · rw [if_neg c2]
      by_cases c1 : sv R s 0 = 1
      · rw [if_pos c1]
        split
        · exact hrow 24 _ _ (by omega) (by omega) h3
        · exact hrow 24 _ _ (by omega) (by omega) h3
      · rw [if_neg c1]
        have := bhS_r w v h0 h1 (by omega) h2 h3
        omega
theorem isET_r2 (w : WS n R) (v : WN n R N) (hE : isET n R N T) {s st : Int} (h0 : 0 ≤ s) (h1 : s < n) (h2 : 0 ≤ st) (h3 : st < 64) : -1 ≤ T s st ∧ T s st < 64 := isET_r w v hE n.toNat s st (by omega) h0 h1 h2 h3
theorem rowE_r (w : WS n R) (v : WN n R N) (hE : isET n R N T) {s st : Int} (h0 : s = -1 ∨ 0 ≤ s ∧ s < n) (h2 : -1 ≤ st) (h3 : st < 64) : -1 ≤ rowE T R s st ∧ rowE T R s st < 64 :=
  rwE_r (fun _ _ a b c d => isET_r2 w v hE a b c d) w 24 s st h0 h2 h3
theorem rnd_r (w : WS n R) (v : WN n R N) (hE : isET n R N T) {s : Int} (h0 : 0 ≤ s) (h1 : s < n) : ∀ x, 0 ≤ x → x < 64 → -1 ≤ rnd T R N s x ∧ rnd T R N s x < 64 := fun x h4 h5 => by
  have w1 := (w.2.1 s h0 h1).2.2.2.2.1
  unfold rnd
  by_cases g : hb N s x = true
  · rw [if_pos g]; exact rowE_r w v hE (by omega) (by omega) h5
  · rw [if_neg g]; omega
theorem rnd_f {s x : Int} (h : hb N s x = false) : rnd T R N s x = x := by rw [rnd, h]; rfl
/-- a loop's end from a state is that from the state behind one round -/
theorem whE_fix (w : WS n R) (v : WN n R N) (hE : isET n R N T) {s st : Int} (h0 : 0 ≤ s) (h1 : s < n) (hk : sv R s 0 = 2) (h2 : 0 ≤ st) (h3 : st < 64) (hh : hb N s st = true) : T s st = if rowE T R (sv R s 5) st = -1 then -1 else T s (rowE T R (sv R s 5) st) := by
  have hJ := rnd_r w v hE h0 h1
  have e1 : rnd T R N s st = rowE T R (sv R s 5) st := by rw [rnd, if_pos hh]
  have h4 := hJ st h2 h3
  rw [e1] at h4
  have e2 : itJ (rnd T R N s) 65 st = itJ (rnd T R N s) 64 (rowE T R (sv R s 5) st) := by rw [itJ, if_neg (by omega), e1]
  obtain ⟨q1, q2⟩ := itJ_65 (e := hb N s) hJ (fun x hx => rnd_f hx) h2 h3 65 (by omega)
  rw [hE s st h0 h1 h2 h3, etS, if_pos hk]
  by_cases c : rowE T R (sv R s 5) st = -1
  · rw [if_pos c, whE, if_pos]
    rw [e2, c, itJ_m1] at q1
    exact q1.1 (Or.inl rfl)
  · rw [if_neg c, hE s _ h0 h1 (by omega) h4.2, etS, if_pos hk, whE, whE, ← e2]
    by_cases g : itJ (rnd T R N s) 64 st = -1 ∨ hb N s (itJ (rnd T R N s) 64 st) = true
    · rw [if_pos g, if_pos (q1.2 g)]
    · rw [if_neg g, if_neg (fun e => g (q1.1 e)), q2 g]
theorem whE_f (hE : isET n R N T) {s st : Int} (h0 : 0 ≤ s) (h1 : s < n) (hk : sv R s 0 = 2) (h2 : 0 ≤ st) (h3 : st < 64) (hh : hb N s st = false) : T s st = st := by
  have e : itJ (rnd T R N s) 64 st = st := itJ_fix (rnd_f hh) 64
  rw [hE s st h0 h1 h2 h3, etS, if_pos hk, whE, e, hh, if_neg]
  simp
  omega
theorem stp_h {s st : Int} (hk : sv R s 0 = 2) (hh : hb N s st = true) : stp R N th al (s, st) = (if sv R s 5 = -1 then s else sv R s 5, st) := by
  simp only [stp]
  rw [if_pos hk, if_pos hh]
theorem stp_x {s st : Int} (hk : sv R s 0 = 2) (hh : hb N s st = false) : stp R N th al (s, st) = (exS th al s, st) := by
  simp only [stp]
  rw [if_pos hk, hh]
  rfl
theorem stp_i {s st : Int} (hk : sv R s 0 = 1) : stp R N th al (s, st) = (if (if hb N s st = true then sv R s 5 else sv R s 6) = -1 then th s else if hb N s st = true then sv R s 5 else sv R s 6, st) := by
  simp only [stp]
  rw [if_neg (by omega), if_pos hk]
theorem stp_o {s st : Int} (hk : sv R s 0 ≠ 2) (hk1 : sv R s 0 ≠ 1) : stp R N th al (s, st) = (th s, bhS R N s st) := by
  simp only [stp]
  rw [if_neg hk, if_neg hk1]
/-- from p on, in k steps to q; before, all statements are from b on -/
def gos (R N : Nat → Int) (th : Int → Int) (al : Int) (b : Int) (p : Int × Int) (k : Nat) (q : Int × Int) : Prop := orb R N th al p k = q ∧ ∀ i, i < k → b ≤ (orb R N th al p i).1
theorem gos_0 (b : Int) (p : Int × Int) : gos R N th al b p 0 p := ⟨rfl, fun _ h => absurd h (Nat.not_lt_zero _)⟩
theorem gos_t {b : Int} {p q r : Int × Int} {i j : Nat} (h : gos R N th al b p i q) (g : gos R N th al b q j r) : gos R N th al b p (i + j) r := by
  refine ⟨by rw [orb_add, h.1, g.1], fun m hm => ?_⟩
  by_cases c : m < i
  · exact h.2 m c
  · rw [show m = i + (m - i) by omega, orb_add, h.1]
    exact g.2 _ (by omega)
theorem gos_1 {b : Int} {p : Int × Int} (h : b ≤ p.1) : gos R N th al b p 1 (stp R N th al p) := ⟨rfl, fun i hi => by
  have : i = 0 := by omega
  subst this
  exact h⟩
theorem gos_w {b c : Int} {p q : Int × Int} {k : Nat} (h : gos R N th al b p k q) (hc : c ≤ b) : gos R N th al c p k q := ⟨h.1, fun i hi => Int.le_trans hc (h.2 i hi)⟩
end RUNS2

