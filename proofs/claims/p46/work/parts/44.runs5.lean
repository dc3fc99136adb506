/-! Runs: when they stop, and what has been seen till then. -/
section RUNS5
variable {n : Int} {R N : Nat → Int} {th : Int → Int} {al sp : Int} {T : Int → Int → Int}
def pv (n : Int) (p : Int × Int) : Prop := (0 ≤ p.1 ∧ p.1 < n) ∧ 0 ≤ p.2 ∧ p.2 < 64
/-- th leads to statements, or nowhere -/
def thR (n : Int) (th : Int → Int) : Prop := ∀ s, 0 ≤ s → s < n → th s = -1 ∨ 0 ≤ th s ∧ th s < n
theorem isTS_r (w : WS n R) (hS : isTS n R sp th) : ∀ (m : Nat) (s : Int), s < m → 0 ≤ s → s < n → th s = -1 ∨ 0 ≤ th s ∧ th s < n
  | 0, s, h, h0, h1 => by omega
  | m + 1, s, h, h0, h1 => by
    have w1 := w.2.1 s h0 h1
    rw [hS s h0 h1]
    by_cases c : sv R s 4 = -1
    · rw [if_pos c, tl]
      by_cases c3 : sv R s 3 = -1 ∨ sv R s 3 = sp
      · rw [if_pos c3]; exact Or.inl rfl
      · rw [if_neg c3]
        by_cases c2 : sv R (sv R s 3) 0 = 2
        · rw [if_pos c2]; omega
        · rw [if_neg c2]; exact isTS_r w hS m _ (by omega) (by omega) (by omega)
    · rw [if_neg c]; omega
theorem isTS_thR (w : WS n R) (hS : isTS n R sp th) : thR n th := fun s h0 h1 => isTS_r w hS n.toNat s (by omega) h0 h1
theorem stp_v (w : WS n R) (v : WN n R N) (hR : thR n th) {p : Int × Int} (h : pv n p) : ((stp R N th al p).1 = -1 ∨ 0 ≤ (stp R N th al p).1 ∧ (stp R N th al p).1 < n) ∧ 0 ≤ (stp R N th al p).2 ∧ (stp R N th al p).2 < 64 := by
  obtain ⟨s, st⟩ := p
  obtain ⟨⟨h0, h1⟩, h2, h3⟩ := h
  simp only at h0 h1 h2 h3
  have w1 := w.2.1 s h0 h1
  have h4 := hR s h0 h1
  by_cases c2 : sv R s 0 = 2
  · cases hx : hb N s st with
    | true =>
      rw [stp_h c2 hx]
      refine ⟨?_, h2, h3⟩
      simp only
      split <;> omega
    | false =>
      rw [stp_x c2 hx]
      refine ⟨?_, h2, h3⟩
      simp only [exS]
      split <;> omega
  · by_cases c1 : sv R s 0 = 1
    · rw [stp_i c1]
      refine ⟨?_, h2, h3⟩
      simp only
      repeat' split
      all_goals omega
    · rw [stp_o c2 c1]
      exact ⟨h4, bhS_r w v h0 h1 (by omega) h2 h3⟩
theorem orb_v (w : WS n R) (v : WN n R N) (hR : thR n th) {p : Int × Int} (h : pv n p) : ∀ (k : Nat), (∀ i, i < k → (orb R N th al p i).1 ≠ -1) → ((orb R N th al p k).1 = -1 ∨ 0 ≤ (orb R N th al p k).1 ∧ (orb R N th al p k).1 < n) ∧ 0 ≤ (orb R N th al p k).2 ∧ (orb R N th al p k).2 < 64
  | 0, _ => ⟨Or.inr h.1, h.2⟩
  | k + 1, hk => by
    have ih := orb_v w v hR h k fun i hi => hk i (by omega)
    have := hk k (by omega)
    exact stp_v w v hR ⟨ih.1.resolve_left this, ih.2⟩
theorem orb_per {p : Int × Int} {a b : Nat} (h : orb R N th al p a = orb R N th al p b) (m : Nat) : orb R N th al p (a + m) = orb R N th al p (b + m) := by rw [orb_add, orb_add, h]
/-- two of many places of a run are one -/
theorem orb_pig (w : WS n R) {p : Int × Int} (h : ∀ i, i ≤ 1536 → pv n (orb R N th al p i)) : ∃ a b, a < b ∧ b ≤ 1536 ∧ orb R N th al p a = orb R N th al p b := by
  have hw := w.1
  obtain ⟨a, b, h1, h2, h3⟩ := pigeon 1536 (fun i => ((orb R N th al p i).1 * 64 + (orb R N th al p i).2).toNat) (fun i hi => by
    obtain ⟨⟨a1, a2⟩, a3, a4⟩ := h i hi
    show ((orb R N th al p i).1 * 64 + (orb R N th al p i).2).toNat < 1536
    omega)
  refine ⟨a, b, h1, h2, ?_⟩
  obtain ⟨⟨a1, a2⟩, a3, a4⟩ := h a (by omega)
  obtain ⟨⟨b1, b2⟩, b3, b4⟩ := h b h2
  exact Prod.ext (by omega) (by omega)
/-- a run that ends has at most 1536 steps -/
theorem orb_end (w : WS n R) (v : WN n R N) (hR : thR n th) {p : Int × Int} (h : pv n p) {k : Nat} (hk : (orb R N th al p k).1 = -1) (hm : ∀ i, i < k → (orb R N th al p i).1 ≠ -1) : k ≤ 1536 := by
  by_cases c : k ≤ 1536
  · exact c
  · have hv : ∀ i, i ≤ 1536 → pv n (orb R N th al p i) := fun i hi => by
      have h1 := orb_v w v hR h i fun j hj => hm j (by omega)
      exact ⟨h1.1.resolve_left (hm i (by omega)), h1.2⟩
    obtain ⟨a, b, h1, h2, h3⟩ := orb_pig w hv
    have h4 := orb_per h3 (k - b)
    rw [show b + (k - b) = k by omega] at h4
    rw [← h4] at hk
    exact absurd hk (hm _ (by omega))
theorem cyc_b (w : WS n R) (v : WN n R N) (hR : thR n th) {p : Int × Int} (h : pv n p) : ∀ (J : Nat) (u x : Int) (i j : Nat), j ≤ J → i < j → (sv R u 0 = 2 ∧ 0 ≤ u ∧ u < n ∧ 0 ≤ x ∧ x < 64) → orb R N th al p i = (u, x) → orb R N th al p j = (u, x) → (∀ m, i ≤ m → m < j → (orb R N th al p m).1 = u → hb N u (orb R N th al p m).2 = true) → (∀ m, m < j → 0 ≤ (orb R N th al p m).1) → ∃ (u x : Int) (i j : Nat), i < j ∧ j ≤ 3072 ∧ (sv R u 0 = 2 ∧ 0 ≤ u ∧ u < n ∧ 0 ≤ x ∧ x < 64) ∧ orb R N th al p i = (u, x) ∧ orb R N th al p j = (u, x) ∧ (∀ m, i ≤ m → m < j → (orb R N th al p m).1 = u → hb N u (orb R N th al p m).2 = true) ∧ ∀ m, m < j → 0 ≤ (orb R N th al p m).1
  | 0, u, x, i, j, hJ, hij, hu, hi, hj, hh, hm => by omega
  | J + 1, u, x, i, j, hJ, hij, hu, hi, hj, hh, hm => by
    by_cases c : j ≤ 3072
    · exact ⟨u, x, i, j, hij, c, hu, hi, hj, hh, hm⟩
    · have hv : ∀ i, i ≤ 1536 → pv n (orb R N th al p i) := fun i hi => by
        have h1 := orb_v (al := al) w v hR h i fun j hj => by have := hm j (by omega); omega
        have h2 := hm i (by omega)
        exact ⟨h1.1.resolve_left (by omega), h1.2⟩
      obtain ⟨a, b, h1, h2, h3⟩ := orb_pig w hv
      by_cases c1 : b ≤ i
      · -- both earlier
        have e : ∀ m, a ≤ m → orb R N th al p m = orb R N th al p (m + (b - a)) := fun m hma => by
          have := orb_per h3 (m - a)
          rw [show a + (m - a) = m by omega, show b + (m - a) = m + (b - a) by omega] at this
          exact this
        refine cyc_b w v hR h J u x (i - (b - a)) (j - (b - a)) (by omega) (by omega) hu ?_ ?_ (fun m hm1 hm2 hm3 => ?_) (fun m hm1 => hm m (by omega))
        · rw [e _ (by omega), show i - (b - a) + (b - a) = i by omega, hi]
        · rw [e _ (by omega), show j - (b - a) + (b - a) = j by omega, hj]
        · rw [e m (by omega)] at hm3 ⊢
          exact hh _ (by omega) (by omega) hm3
      · by_cases c2 : a ≤ i
        · -- once around
          have h4 := orb_per h3 (i - a)
          rw [show a + (i - a) = i by omega, show b + (i - a) = i + (b - a) by omega] at h4
          exact ⟨u, x, i, i + (b - a), by omega, by omega, hu, hi, by rw [← h4, hi], fun m hm1 hm2 => hh m hm1 (by omega), fun m hm1 => hm m (by omega)⟩
        · -- a piece less
          have h4 := orb_per h3 (j - b)
          rw [show b + (j - b) = j by omega, show a + (j - b) = j - (b - a) by omega] at h4
          exact cyc_b w v hR h J u x i (j - (b - a)) (by omega) (by omega) hu hi (by rw [h4, hj]) (fun m hm1 hm2 => hh m hm1 (by omega)) (fun m hm1 => hm m (by omega))
/-- which loop counts a round in a step, by where it is come back to -/
def isCL (n : Int) (R : Nat → Int) (sp : Int) (cl : Int → Int) : Prop := ∀ s, 0 ≤ s → s < n → cl s = if sv R s 4 = -1 then (if sv R s 3 = -1 ∨ sv R s 3 = sp then -1 else if sv R (sv R s 3) 0 = 2 then sv R s 3 else cl (sv R s 3)) else -1
def bmp (R N : Nat → Int) (cl : Int → Int) (al : Int) (p : Int × Int) : Int :=
  if sv R p.1 0 = 2 then (if hb N p.1 p.2 = true then (if sv R p.1 5 = -1 then p.1 else -1) else if p.1 = al then -1 else cl p.1)
  else if sv R p.1 0 = 1 then (if (if hb N p.1 p.2 = true then sv R p.1 5 else sv R p.1 6) = -1 then cl p.1 else -1)
  else cl p.1
def lkS (R N : Nat → Int) (p : Int × Int) (L : Int → BitVec 64) (l : Int) : BitVec 64 := if sv R p.1 0 = 2 ∧ p.1 = l then (if hb N p.1 p.2 = true then L l ||| zlshl 1#64 p.2 else 0#64) else L l
def tnS (R N : Nat → Int) (cl : Int → Int) (al : Int) (p : Int × Int) (t : Int → Int) (l : Int) : Int := (if sv R p.1 0 = 2 ∧ hb N p.1 p.2 = false ∧ p.1 = l then 0 else t l) + (if bmp R N cl al p = l then 1 else 0)
def msS (R N : Nat → Int) (cl : Int → Int) (al : Int) (p : Int × Int) (t m : Int → Int) (l : Int) : Int := if bmp R N cl al p = l ∧ m l < tnS R N cl al p t l then tnS R N cl al p t l else m l
def mtS (p : Int × Int) (m : Int → BitVec 64) (l : Int) : BitVec 64 := if p.1 = l then m l ||| zlshl 1#64 p.2 else m l
def prc (N : Nat → Int) (s : Int) : UInt32 := FP.fdiv (FP.i2f (Int32.ofInt (N (2318 + s).toNat))) 1092616192
def lkT (R N : Nat → Int) (th : Int → Int) (al : Int) (p : Int × Int) : Nat → Int → BitVec 64
  | 0 => fun _ => 0#64
  | k + 1 => lkS R N (orb R N th al p k) (lkT R N th al p k)
def tnT (R N : Nat → Int) (th cl : Int → Int) (al : Int) (p : Int × Int) : Nat → Int → Int
  | 0 => fun _ => 0
  | k + 1 => tnS R N cl al (orb R N th al p k) (tnT R N th cl al p k)
def msT (R N : Nat → Int) (th cl : Int → Int) (al : Int) (p : Int × Int) : Nat → Int → Int
  | 0 => fun _ => 0
  | k + 1 => msS R N cl al (orb R N th al p k) (tnT R N th cl al p k) (msT R N th cl al p k)
def mtT (R N : Nat → Int) (th : Int → Int) (al : Int) (p : Int × Int) (m0 : Int → BitVec 64) : Nat → Int → BitVec 64
  | 0 => m0
  | k + 1 => mtS (orb R N th al p k) (mtT R N th al p m0 k)
def coT (R N : Nat → Int) (th : Int → Int) (al : Int) (p : Int × Int) : Nat → UInt32
  | 0 => FP.fconst0
  | k + 1 => FP.fadd (coT R N th al p k) (prc N (orb R N th al p k).1)
/-- at time k the run stops: at its end, or at a loop that was looked at in this state -/
def stopT (R N : Nat → Int) (th : Int → Int) (al : Int) (p : Int × Int) (k : Nat) : Prop := (orb R N th al p k).1 = -1 ∨ sv R (orb R N th al p k).1 0 = 2 ∧ bt (lkT R N th al p k (orb R N th al p k).1) (orb R N th al p k).2 = true
theorem lkT_s {p : Int × Int} {u x : Int} (hx : 0 ≤ x) (hx2 : x < 64) : ∀ (k : Nat), (∀ i, i < k → 0 ≤ (orb R N th al p i).2 ∧ (orb R N th al p i).2 < 64) → bt (lkT R N th al p k u) x = true → ∃ i, i < k ∧ orb R N th al p i = (u, x)
  | 0, _, h => by rw [lkT, bt_0] at h; cases h
  | k + 1, hv, h => by
    have ih := lkT_s (u := u) hx hx2 k fun i hi => hv i (by omega)
    have hk := hv k (by omega)
    simp only [lkT, lkS] at h
    by_cases c : sv R (orb R N th al p k).1 0 = 2 ∧ (orb R N th al p k).1 = u
    · rw [if_pos c] at h
      by_cases g : hb N (orb R N th al p k).1 (orb R N th al p k).2 = true
      · rw [if_pos g, bt_or, bt_1 hk.1 hk.2 hx hx2, Bool.or_eq_true] at h
        rcases h with h | h
        · obtain ⟨i, h1, h2⟩ := ih h
          exact ⟨i, by omega, h2⟩
        · have h3 := of_decide_eq_true h
          exact ⟨k, by omega, Prod.ext c.2 h3.symm⟩
      · rw [if_neg g, bt_0] at h
        cases h
    · rw [if_neg c] at h
      obtain ⟨i, h1, h2⟩ := ih h
      exact ⟨i, by omega, h2⟩
theorem lkT_c {p : Int × Int} {u x : Int} (hk : sv R u 0 = 2) (hx : 0 ≤ x) (hx2 : x < 64) {i : Nat} (hi : orb R N th al p i = (u, x)) : ∀ (d : Nat), (∀ m, i ≤ m → m < i + (d + 1) → (orb R N th al p m).1 = u → hb N u (orb R N th al p m).2 = true) → bt (lkT R N th al p (i + (d + 1)) u) x = true
  | 0, hh => by
    have h1 := hh i (by omega) (by omega) (by rw [hi])
    rw [hi] at h1
    show bt (lkS R N (orb R N th al p i) (lkT R N th al p i) u) x = true
    rw [hi, lkS, if_pos ⟨hk, rfl⟩, if_pos h1, bt_or, bt_1 hx hx2 hx hx2]
    simp
  | d + 1, hh => by
    have ih := lkT_c hk hx hx2 hi d fun m h1 h2 => hh m h1 (by omega)
    show bt (lkS R N (orb R N th al p (i + (d + 1))) (lkT R N th al p (i + (d + 1))) u) x = true
    rw [lkS]
    by_cases c : sv R (orb R N th al p (i + (d + 1))).1 0 = 2 ∧ (orb R N th al p (i + (d + 1))).1 = u
    · have h1 := hh (i + (d + 1)) (by omega) (by omega) c.2
      rw [if_pos c, c.2, if_pos h1, bt_or, ih]
      rfl
    · rw [if_neg c]; exact ih
end RUNS5

