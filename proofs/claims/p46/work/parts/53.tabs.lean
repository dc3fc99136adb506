/-! The tables of ends and of needs, as functions. -/
section TABS
variable {n top : Int} {R N : Nat → Int} {T T2 : Int → Int → Int} {ND ND2 : Int → BitVec 64}
theorem rwE_congr (w : WS n R) : ∀ (k : Nat) (s st : Int), (s = -1 ∨ 0 ≤ s ∧ s < n) → -1 ≤ st → st < 64 → (∀ c x, s ≤ c → c < n → 0 ≤ c → 0 ≤ x → x < 64 → T c x = T2 c x) → (∀ c x, s ≤ c → c < n → 0 ≤ c → 0 ≤ x → x < 64 → -1 ≤ T c x ∧ T c x < 64) → rwE T R k s st = rwE T2 R k s st
  | 0, _, _, _, _, _, _, _ => rfl
  | k + 1, s, st, h0, h1, h2, h3, h4 => by
    rw [rwE, rwE]
    by_cases c : s = -1 ∨ st = -1
    · rw [if_pos c, if_pos c]
    · rw [if_neg c, if_neg c, ← h3 s st (Int.le_refl _) (by omega) (by omega) (by omega) h2]
      have w1 := (w.2.1 s (by omega) (by omega)).2.2.2.1
      have h5 := h4 s st (Int.le_refl _) (by omega) (by omega) (by omega) h2
      by_cases g : sv R s 4 = -1
      · rw [g, rwE_n, rwE_n]
      · exact rwE_congr w k _ _ (by omega) h5.1 h5.2 (fun a b q => h3 a b (by omega)) (fun a b q => h4 a b (by omega))
/-- a statement's ends come from the tables of statements behind it -/
theorem etS_congr (w : WS n R) {s st : Int} (q0 : 0 ≤ s) (q1 : s < n) (h2 : 0 ≤ st) (h3 : st < 64) (he : ∀ c x, s < c → c < n → 0 ≤ x → x < 64 → T c x = T2 c x) (hr : ∀ c x, s < c → c < n → 0 ≤ x → x < 64 → -1 ≤ T c x ∧ T c x < 64) : etS T R N s st = etS T2 R N s st := by
  have w1 := w.2.1 s q0 q1
  have hrow : ∀ f x, (f = sv R s 5 ∨ f = sv R s 6) → 0 ≤ x → x < 64 → rowE T R f x = rowE T2 R f x := fun f x hf h4 h5 => by
    have hf2 : f = -1 ∨ s < f ∧ f < n := by rcases hf with rfl | rfl <;> omega
    by_cases c : f = -1
    · rw [c, rowE_n, rowE_n]
    · exact rwE_congr w 24 f x (by omega) (by omega) h5 (fun a b q => he a b (by omega) |> fun g q2 _ => g q2) (fun a b q => hr a b (by omega) |> fun g q2 _ => g q2)
  have hrow2 : ∀ f x, (f = sv R s 5 ∨ f = sv R s 6) → 0 ≤ x → x < 64 → -1 ≤ rowE T R f x ∧ rowE T R f x < 64 := fun f x hf h4 h5 => by
    have hf2 : f = -1 ∨ s < f ∧ f < n := by rcases hf with rfl | rfl <;> omega
    have : ∀ (k : Nat) (c y : Int), (c = -1 ∨ s < c ∧ c < n) → -1 ≤ y → y < 64 → -1 ≤ rwE T R k c y ∧ rwE T R k c y < 64 := by
      intro k
      induction k with
      | zero => exact fun c y _ a b => ⟨a, b⟩
      | succ k ih =>
        intro c y hc a b
        rw [rwE]
        by_cases g : c = -1 ∨ y = -1
        · rw [if_pos g]; exact ⟨a, b⟩
        · rw [if_neg g]
          have h6 := (w.2.1 c (by omega) (by omega)).2.2.2.1
          have h7 := hr c y (by omega) (by omega) (by omega) b
          exact ih _ _ (by omega) h7.1 h7.2
    exact this 24 f x hf2 (by omega) h5
  unfold etS
  by_cases c2 : sv R s 0 = 2
  · rw [if_pos c2, if_pos c2]
    have hJ : ∀ x, 0 ≤ x → x < 64 → rnd T R N s x = rnd T2 R N s x ∧ -1 ≤ rnd T R N s x ∧ rnd T R N s x < 64 := fun x h4 h5 => by
      unfold rnd
      by_cases g : hb N s x = true
      · rw [if_pos g, if_pos g]
        exact ⟨hrow _ x (Or.inl rfl) h4 h5, hrow2 _ x (Or.inl rfl) h4 h5⟩
      · rw [if_neg g, if_neg g]
        exact ⟨rfl, by omega, h5⟩
    have hit : ∀ (k : Nat) (x : Int), -1 ≤ x → x < 64 → itJ (rnd T R N s) k x = itJ (rnd T2 R N s) k x := by
      intro k
      induction k with
      | zero => exact fun _ _ _ => rfl
      | succ k ih =>
        intro x h4 h5
        rw [itJ, itJ]
        by_cases g : x = -1
        · rw [if_pos g, if_pos g]
        · rw [if_neg g, if_neg g]
          obtain ⟨j1, j2, j3⟩ := hJ x (by omega) h5
          rw [← j1]
          exact ih _ j2 j3
    unfold whE
    rw [hit 64 st (by omega) h3]
  · rw [if_neg c2, if_neg c2]
    by_cases c1 : sv R s 0 = 1
    · rw [if_pos c1, if_pos c1, hrow _ st (Or.inl rfl) h2 h3, hrow _ st (Or.inr rfl) h2 h3]
    · rw [if_neg c1, if_neg c1]
def tabE (n : Int) (R N : Nat → Int) : Nat → Int → Int → Int
  | 0 => fun _ _ => -1
  | m + 1 => fun s st => if s = n - 1 - m then etS (tabE n R N m) R N s st else tabE n R N m s st
theorem tabE_e (m : Nat) (s st : Int) : tabE n R N (m + 1) s st = if s = n - 1 - m then etS (tabE n R N m) R N s st else tabE n R N m s st := rfl
def TT (n : Int) (R N : Nat → Int) : Int → Int → Int := tabE n R N n.toNat
theorem tabE_k : ∀ (m d : Nat) (s st : Int), n - m ≤ s → tabE n R N (m + d) s st = tabE n R N m s st
  | _, 0, _, _, _ => rfl
  | m, d + 1, s, st, h => by
    show (if s = n - 1 - ((m + d : Nat) : Int) then _ else tabE n R N (m + d) s st) = _
    rw [if_neg (by omega), tabE_k m d s st h]
theorem tabE_r (w : WS n R) (v : WN n R N) : ∀ (m : Nat), (m : Int) ≤ n → ∀ s st, n - m ≤ s → s < n → 0 ≤ st → st < 64 → tabE n R N m s st = etS (tabE n R N m) R N s st ∧ -1 ≤ tabE n R N m s st ∧ tabE n R N m s st < 64
  | 0, hm, s, st, h0, h1, h2, h3 => by omega
  | m + 1, hm, s, st, h0, h1, h2, h3 => by
    have ih := tabE_r w v m (by omega)
    have e : ∀ c x, n - m ≤ c → tabE n R N (m + 1) c x = tabE n R N m c x := fun c x hc => tabE_k m 1 c x hc
    by_cases c : s = n - 1 - m
    · have h4 : tabE n R N (m + 1) s st = etS (tabE n R N m) R N s st := by rw [tabE_e, if_pos c]
      have h5 : etS (tabE n R N m) R N s st = etS (tabE n R N (m + 1)) R N s st := etS_congr w (by omega) h1 h2 h3 (fun a b q1 q2 q3 q4 => (e a b (by omega)).symm) (fun a b q1 q2 q3 q4 => (ih a b (by omega) q2 q3 q4).2)
      refine ⟨h4.trans h5, ?_⟩
      rw [h4]
      unfold etS
      have w1 := w.2.1 s (by omega) h1
      have hrow2 : ∀ f x, (f = sv R s 5 ∨ f = sv R s 6) → 0 ≤ x → x < 64 → -1 ≤ rowE (tabE n R N m) R f x ∧ rowE (tabE n R N m) R f x < 64 := fun f x hf h4 h5 => by
        have hf2 : f = -1 ∨ s < f ∧ f < n := by rcases hf with rfl | rfl <;> omega
        have : ∀ (k : Nat) (c y : Int), (c = -1 ∨ s < c ∧ c < n) → -1 ≤ y → y < 64 → -1 ≤ rwE (tabE n R N m) R k c y ∧ rwE (tabE n R N m) R k c y < 64 := by
          intro k
          induction k with
          | zero => exact fun c y _ a b => ⟨a, b⟩
          | succ k ihk =>
            intro c y hc a b
            rw [rwE]
            by_cases g : c = -1 ∨ y = -1
            · rw [if_pos g]; exact ⟨a, b⟩
            · rw [if_neg g]
              have h6 := (w.2.1 c (by omega) (by omega)).2.2.2.1
              have h7 := (ih c y (by omega) (by omega) (by omega) b).2
              exact ihk _ _ (by omega) h7.1 h7.2
        exact this 24 f x hf2 (by omega) h5
      by_cases c2 : sv R s 0 = 2
      · rw [if_pos c2, whE]
        have hJ : ∀ x, 0 ≤ x → x < 64 → -1 ≤ rnd (tabE n R N m) R N s x ∧ rnd (tabE n R N m) R N s x < 64 := fun x h4 h5 => by
          unfold rnd
          by_cases g : hb N s x = true
          · rw [if_pos g]; exact hrow2 _ x (Or.inl rfl) h4 h5
          · rw [if_neg g]; omega
        have h6 := itJ_r hJ 64 st (by omega) h3
        split
        · omega
        · exact h6
      · rw [if_neg c2]
        by_cases c1 : sv R s 0 = 1
        · rw [if_pos c1]
          split
          · exact hrow2 _ st (Or.inl rfl) h2 h3
          · exact hrow2 _ st (Or.inr rfl) h2 h3
        · rw [if_neg c1]
          have := bhS_r w v (by omega) h1 (by omega) h2 h3
          omega
    · obtain ⟨i1, i2⟩ := ih s st (by omega) h1 h2 h3
      rw [e s st (by omega)]
      refine ⟨?_, i2⟩
      rw [i1]
      exact etS_congr w (by omega) h1 h2 h3 (fun a b q1 q2 q3 q4 => (e a b (by omega)).symm) (fun a b q1 q2 q3 q4 => (ih a b (by omega) q2 q3 q4).2)
theorem isET_t (w : WS n R) (v : WN n R N) : isET n R N (TT n R N) := fun s st h0 h1 h2 h3 => (tabE_r w v n.toNat (by have := w.1; omega) s st (by omega) h1 h2 h3).1
theorem isET_u (w : WS n R) (v : WN n R N) (hE : isET n R N T) (hE2 : isET n R N T2) : ∀ (m : Nat) (s st : Int), n - s ≤ m → 0 ≤ s → s < n → 0 ≤ st → st < 64 → T s st = T2 s st
  | 0, s, st, hm, h0, h1, h2, h3 => by omega
  | m + 1, s, st, hm, h0, h1, h2, h3 => by
    rw [hE s st h0 h1 h2 h3, hE2 s st h0 h1 h2 h3]
    exact etS_congr w h0 h1 h2 h3 (fun a b q1 q2 q3 q4 => isET_u w v hE hE2 m a b (by omega) (by omega) q2 q3 q4) (fun a b q1 q2 q3 q4 => isET_r2 w v hE (by omega) q2 q3 q4)
theorem th_gt (w : WS n R) {s0 : Int} (h0 : 0 ≤ s0) (h1 : s0 < n) : ∀ (m k : Nat) (x : Int), x = up R k s0 → 0 ≤ x → x < n → x < m → thn R x = thn R s0 → thn R s0 = -1 ∨ (s0 < thn R s0 ∧ thn R s0 < n) ∨ (0 ≤ thn R s0 ∧ thn R s0 < n ∧ sv R (thn R s0) 0 = 2)
  | 0, k, x, hx, hx0, hx1, hm, ht => by omega
  | m + 1, k, x, hx, hx0, hx1, hm, ht => by
    have w1 := w.2.1 x hx0 hx1
    have hTx := isTH_t w x hx0 hx1
    by_cases c4 : sv R x 4 = -1
    · rw [if_pos c4] at hTx
      by_cases c3 : sv R x 3 = -1
      · rw [if_pos c3] at hTx
        exact Or.inl (ht.symm.trans hTx)
      · rw [if_neg c3] at hTx
        by_cases c0 : sv R (sv R x 3) 0 = 2
        · rw [if_pos c0] at hTx
          rw [← ht, hTx]
          exact Or.inr (Or.inr ⟨by omega, by omega, c0⟩)
        · rw [if_neg c0] at hTx
          exact th_gt w h0 h1 m (k + 1) (sv R x 3) (by rw [up, ← hx, if_neg (by omega)]) (by omega) (by omega) (by omega) (hTx.symm.trans ht)
    · rw [if_neg c4] at hTx
      have hu := w.2.2 s0 k h0 h1 (by rw [← hx]; omega)
      rw [← hx] at hu
      rw [← ht, hTx]
      exact Or.inr (Or.inl (by omega))
theorem thn_r (w : WS n R) {s : Int} (h0 : 0 ≤ s) (h1 : s < n) : thn R s = -1 ∨ (s < thn R s ∧ thn R s < n) ∨ (0 ≤ thn R s ∧ thn R s < n ∧ sv R (thn R s) 0 = 2) := th_gt w h0 h1 (s + 1).toNat 0 s rfl h0 h1 (by omega) rfl
theorem ndS_congr (w : WS n R) {s : Int} (q0 : 0 ≤ s) (q1 : s < n) (he : ∀ c, 0 ≤ c → c < n → (s < c ∨ sv R c 0 = 2) → ND c = ND2 c) : ndS R N (thn R) ND s = ndS R N (thn R) ND2 s := by
  have w1 := w.2.1 s q0 q1
  have ht := thn_r w q0 q1
  have ha : ahd N ND (thn R s) = ahd N ND2 (thn R s) := by
    unfold ahd
    by_cases c : thn R s = -1
    · rw [if_pos c, if_pos c]
    · rw [if_neg c, if_neg c, he _ (by omega) (by omega) (by omega)]
  have hr : ∀ f, (f = -1 ∨ s < f ∧ f < n) → ∀ b, rwN ND f b = rwN ND2 f b := fun f hf b => by
    unfold rwN
    by_cases c : f = -1
    · rw [if_pos c, if_pos c]
    · rw [if_neg c, if_neg c, he f (by omega) (by omega) (by omega)]
  unfold ndS
  rw [ha, hr _ (by omega), hr _ (by omega)]
def tabN (n : Int) (R N : Nat → Int) : Nat → Int → BitVec 64
  | 0 => fun s => if sv R s 0 = 2 then setL (lst N (26 + s)) else 0#64
  | m + 1 => fun s => if s = n - 1 - m then ndS R N (thn R) (tabN n R N m) s else tabN n R N m s
theorem tabN_e (m : Nat) (s : Int) : tabN n R N (m + 1) s = if s = n - 1 - m then ndS R N (thn R) (tabN n R N m) s else tabN n R N m s := rfl
theorem tabN_0 (s : Int) : tabN n R N 0 s = if sv R s 0 = 2 then setL (lst N (26 + s)) else 0#64 := rfl
def NN (n : Int) (R N : Nat → Int) : Int → BitVec 64 := tabN n R N n.toNat
theorem tabN_w : ∀ (m : Nat) (s : Int), sv R s 0 = 2 → tabN n R N m s = setL (lst N (26 + s))
  | 0, s, h => by rw [tabN_0, if_pos h]
  | m + 1, s, h => by
    rw [tabN_e]
    by_cases c : s = n - 1 - m
    · rw [if_pos c, ndS, if_pos h]
    · rw [if_neg c, tabN_w m s h]
theorem tabN_r (w : WS n R) : ∀ (m : Nat), (m : Int) ≤ n → ∀ s, n - m ≤ s → s < n → tabN n R N m s = ndS R N (thn R) (tabN n R N m) s
  | 0, hm, s, h0, h1 => by omega
  | m + 1, hm, s, h0, h1 => by
    have e : ∀ c, n - m ≤ c ∨ sv R c 0 = 2 → tabN n R N (m + 1) c = tabN n R N m c := fun c hc => by
      rcases hc with hc | hc
      · rw [tabN_e, if_neg (by omega)]
      · rw [tabN_w _ _ hc, tabN_w _ _ hc]
    have hc : ndS R N (thn R) (tabN n R N m) s = ndS R N (thn R) (tabN n R N (m + 1)) s := ndS_congr w (by omega) h1 (fun c a b q => (e c (by
      rcases q with q | q
      · exact Or.inl (by omega)
      · exact Or.inr q)).symm)
    by_cases c : s = n - 1 - m
    · rw [show tabN n R N (m + 1) s = ndS R N (thn R) (tabN n R N m) s by rw [tabN_e, if_pos c]]
      exact hc
    · rw [e s (Or.inl (by omega)), tabN_r w m (by omega) s (by omega) h1]
      exact hc
theorem isND_t (w : WS n R) : isND n R N (thn R) (NN n R N) := fun s h0 h1 => tabN_r w n.toNat (by have := w.1; omega) s (by omega) h1
theorem isND_u (w : WS n R) (h : isND n R N (thn R) ND) (h2 : isND n R N (thn R) ND2) : ∀ (m : Nat) (s : Int), n - s ≤ m → 0 ≤ s → s < n → ND s = ND2 s
  | 0, s, hm, h0, h1 => by omega
  | m + 1, s, hm, h0, h1 => by
    rw [h s h0 h1, h2 s h0 h1]
    exact ndS_congr w h0 h1 (fun c a b q => by
      rcases q with q | q
      · exact isND_u w h h2 m c (by omega) a b
      · rw [isND_w h c a b q, isND_w h2 c a b q])
/-- a whole program, hanging together -/
def Prg (n top : Int) (R N : Nat → Int) : Prop := WS n R ∧ WN n R N ∧ WU n R ∧ ((n = 0 ∧ top = -1) ∨ (0 < n ∧ top = 0))
theorem Prg_S (P : Prg n top R N) : Sem n top R N (TT n R N) (NN n R N) := ⟨P.1, P.2.1, P.2.2.1, isET_t P.1 P.2.1, isND_t P.1, P.2.2.2⟩
end TABS

