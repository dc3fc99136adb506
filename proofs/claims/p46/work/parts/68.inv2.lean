/-! What stands while a text is read: rows opened and closed; the whole reading, as steps. -/
section INV2
variable {n top row sec last : Int} {R R2 N : Nat → Int} {I : Nat → Int} {len : Int}
theorem IVR_open (V : IVR n top R row sec last) (hl : last ≠ -1) (hk : sv R last 0 = 1 ∨ sv R last 0 = 2) (h5 : sv R last 5 = -1) (h6 : sv R last 6 = -1) : IVR n top R last 0 (-1) := by
  obtain ⟨w, u, ht, hrow, hsec, hlast, h6', hop, hdj, hall⟩ := V
  have w0 := w.1
  rcases hlast with ⟨l1, _⟩ | ⟨l0, l1, l2, l3, l4⟩
  · exact absurd l1 hl
  refine ⟨w, u, ht, Or.inr ⟨l0, l1, hk⟩, Or.inl rfl, Or.inl ⟨rfl, ?_⟩, fun _ _ => h6, fun k h1 => ?_, hdj, hall⟩
  · unfold hdP
    rw [if_neg hl]
    exact h5
  · cases k with
    | zero =>
      show sv R last 4 = -1 ∧ (sv R last 3 ≠ -1 → sv R (sv R last 3) 6 = -1 ∨ hasM R (sv R (sv R last 3) 6) last)
      refine ⟨l3, fun q => ?_⟩
      rw [l2] at q ⊢
      rcases hsec with r | ⟨r, _, _⟩
      · exact Or.inl (h6' q r)
      · refine Or.inr ?_
        unfold hdP at l4
        rw [if_neg q, r] at l4
        exact l4
    | succ k =>
      rw [up_par R hl, l2] at h1 ⊢
      exact hop k h1
theorem IVR_else (V : IVR n top R row sec last) (hr : row ≠ -1) (hk : sv R row 0 = 1) (hs : sec = 0) : IVR n top R row 1 (-1) := by
  obtain ⟨w, u, ht, hrow, hsec, hlast, h6', hop, hdj, hall⟩ := V
  refine ⟨w, u, ht, hrow, Or.inr ⟨rfl, hr, hk⟩, Or.inl ⟨rfl, ?_⟩, fun _ q => absurd q (by decide), hop, hdj, hall⟩
  unfold hdP
  rw [if_neg hr]
  exact h6' hr hs
/-- whether x stands in the row that begins at h -/
def inS (R : Nat → Int) (x : Int) : Nat → Int → Bool
  | 0, _ => false
  | m + 1, h => if h = -1 then false else if h = x then true else inS R x m (sv R h 4)
theorem inS_has {x : Int} (hx : x ≠ -1) : ∀ (m : Nat) (h : Int), inS R x m h = true → hasM R h x
  | 0, h, e => by cases e
  | m + 1, h, e => by
    unfold inS at e
    by_cases c : h = -1
    · rw [if_pos c] at e; cases e
    · rw [if_neg c] at e
      by_cases d : h = x
      · exact ⟨0, d⟩
      · rw [if_neg d] at e
        obtain ⟨k, hk⟩ := inS_has hx m (sv R h 4) e
        refine ⟨1 + k, ?_⟩
        rw [nx_add]
        show nx R k (if h = -1 then -1 else sv R h 4) = x
        rw [if_neg c]
        exact hk
theorem has_inS {x : Int} (hx : x ≠ -1) : ∀ (k m : Nat) (h : Int), k < m → nx R k h = x → inS R x m h = true
  | k, 0, h, hm, e => by omega
  | 0, m + 1, h, hm, e => by
    have e1 : h = x := e
    unfold inS
    rw [if_neg (by omega), if_pos e1]
  | k + 1, m + 1, h, hm, e => by
    rw [show k + 1 = 1 + k by omega, nx_add] at e
    have e1 : nx R k (if h = -1 then -1 else sv R h 4) = x := e
    unfold inS
    by_cases c : h = -1
    · rw [if_pos c, nx_neg] at e1
      exact absurd e1.symm hx
    · rw [if_neg c] at e1 ⊢
      by_cases d : h = x
      · rw [if_pos d]
      · rw [if_neg d]
        exact has_inS hx k m _ (by omega) e1
theorem inS_iff (w : WS n R) {h x : Int} (hh : h = -1 ∨ 0 ≤ h ∧ h < n) (hx : x ≠ -1) : inS R x 24 h = true ↔ hasM R h x := by
  refine ⟨inS_has hx 24 h, fun ⟨k, e⟩ => has_inS hx k 24 h ?_ e⟩
  have w0 := w.1
  have ir := nx_r w hh k
  rcases hh with rfl | hh
  · rw [nx_neg] at e; exact absurd e.symm hx
  · omega
def secE (R : Nat → Int) (row : Int) : Int := if sv R row 3 = -1 then 0 else if inS R row 24 (sv R (sv R row 3) 6) = true then 1 else 0
theorem IVR_end (V : IVR n top R row sec last) (hr : row ≠ -1) : IVR n top R (sv R row 3) (secE R row) row := by
  obtain ⟨w, u, ht, hrow, hsec, hlast, h6', hop, hdj, hall⟩ := V
  have w0 := w.1
  have hr2 : 0 ≤ row ∧ row < n := by omega
  have w1 := w.2.1 row hr2.1 hr2.2
  have hp := w1.2.2.1
  have hh : sv R row 3 ≠ -1 → sv R (sv R row 3) 6 = -1 ∨ 0 ≤ sv R (sv R row 3) 6 ∧ sv R (sv R row 3) 6 < n := fun q => by
    have := (w.2.1 (sv R row 3) (by omega) (by omega)).2.2.2.2.2
    omega
  have h0 := hop 0 hr
  have h01 : sv R row 4 = -1 := h0.1
  have h02 : sv R row 3 ≠ -1 → sv R (sv R row 3) 6 = -1 ∨ hasM R (sv R (sv R row 3) 6) row := h0.2
  obtain ⟨_, _, _, b, hb, hb2, hm⟩ := hall row hr2.1 hr2.2
  have hse : secE R row = 0 ∨ secE R row = 1 ∧ sv R row 3 ≠ -1 ∧ hasM R (sv R (sv R row 3) 6) row := by
    unfold secE
    by_cases c : sv R row 3 = -1
    · rw [if_pos c]; exact Or.inl rfl
    · rw [if_neg c]
      by_cases d : inS R row 24 (sv R (sv R row 3) 6) = true
      · rw [if_pos d]
        exact Or.inr ⟨rfl, c, (inS_iff w (hh c) hr).1 d⟩
      · rw [if_neg d]; exact Or.inl rfl
  have hse0 : secE R row = 0 → sv R row 3 ≠ -1 → ¬ hasM R (sv R (sv R row 3) 6) row := fun q c z => by
    unfold secE at q
    rw [if_neg c, if_pos ((inS_iff w (hh c) hr).2 z)] at q
    cases q
  refine ⟨w, u, ht, ?_, ?_, Or.inr ⟨hr2.1, hr2.2, rfl, h01, ?_⟩, fun q z => ?_, fun k q => ?_, hdj, hall⟩
  · rcases hp with q | ⟨q0, q1, q2⟩
    · exact Or.inl q
    · exact Or.inr ⟨q0, by omega, q2⟩
  · rcases hse with q | ⟨q, c, z⟩
    · exact Or.inl q
    · refine Or.inr ⟨q, c, ?_⟩
      have w2 := (w.2.1 (sv R row 3) (by omega) (by omega)).2.2.2.2.2
      obtain ⟨k, hk⟩ := z
      rcases w2 with w2 | w2
      · rw [w2, nx_neg] at hk
        exact absurd hk.symm hr
      · exact w2.2.2.2
  · by_cases c : sv R row 3 = -1
    · have hb3 := hb2 c
      have he : secE R row = 0 := by unfold secE; rw [if_pos c]
      rw [he]
      rw [hb3] at hm
      exact hm
    · rcases hse with q | ⟨q, _, z⟩
      · rw [q]
        rcases hb with rfl | rfl
        · exact hm
        · unfold hdP at hm
          rw [if_neg c] at hm
          exact absurd hm (hse0 q c)
      · rw [q]
        unfold hdP
        rw [if_neg c]
        exact z
  · rcases h02 q with a | a
    · exact a
    · exact absurd a (hse0 z q)
  · rw [← up_par R hr] at q ⊢
    exact hop (k + 1) q
/-! the steps -/
def lnkR (n row sec last : Int) (R : Nat → Int) : Nat → Int := if last = -1 then (if row = -1 then R else if sec = 0 then upN R (10 * row + 5).toNat n else upN R (10 * row + 6).toNat n) else upN R (10 * last + 4).toNat n
def cnuR (row sec : Int) (R : Nat → Int) : Nat → Int := if row = -1 then R else if sec = 0 then upN R (10 * row + 8).toNat (R (10 * row + 8).toNat + 1) else upN R (10 * row + 9).toNat (R (10 * row + 9).toNat + 1)
def dpR (row : Int) (R : Nat → Int) : Int := if row = -1 then 0 else sv R row 2 + 1
def numR (kd n : Int) (R : Nat → Int) : Int := if kd = 2 ∨ kd = 3 then cntK R kd n.toNat else -1
def rw1R (kd n : Int) (R : Nat → Int) : Nat → Int := upN (upN (upN R (10 * n + 7).toNat (numR kd n R)) (10 * n + 0).toNat kd) (10 * n + 1).toNat (-1)
def rw2R (n row : Int) (R : Nat → Int) : Nat → Int := upN (upN (upN (upN (upN (upN (upN R (10 * n + 2).toNat (dpR row R)) (10 * n + 3).toNat row) (10 * n + 4).toNat (-1)) (10 * n + 5).toNat (-1)) (10 * n + 6).toNat (-1)) (10 * n + 8).toNat 0) (10 * n + 9).toNat 0
def comR (kd n row sec last : Int) (R : Nat → Int) : Nat → Int := cnuR row sec (lnkR n row sec last (rw2R n row (rw1R kd n R)))
def comN (n : Int) (N : Nat → Int) : Nat → Int := upN (upN N (2294 + n).toNat (-1)) (2318 + n).toNat 10
def comP (kd : Int) : PSt → PSt
  | (t, fl, (n, top, R, N), row, sec, last) => (t, fl, (n + 1, if last = -1 ∧ row = -1 then n else top, comR kd n row sec last R, comN n N), row, sec, n)
theorem comR_new {kd : Int} (h0 : 0 ≤ n) (hr : row = -1 ∨ 0 ≤ row ∧ row < n) (hl : last = -1 ∨ 0 ≤ last ∧ last < n) (hs : sec = 0 ∨ sec = 1) : newR kd (-1) n row sec last R (comR kd n row sec last R) := by
  have hc : ∀ s k, 0 ≤ s → 0 ≤ k → k < 10 → sv (rw2R n row (rw1R kd n R)) s k = if s = n then (if k = 0 then kd else if k = 1 then -1 else if k = 2 then (if row = -1 then 0 else sv R row 2 + 1) else if k = 3 then row else if k = 7 then (if kd = 2 ∨ kd = 3 then cntK R kd n.toNat else -1) else if k = 8 ∨ k = 9 then 0 else -1) else sv R s k := fun s k a b c => by
    have hdp : dpR row (rw1R kd n R) = if row = -1 then 0 else sv R row 2 + 1 := by
      unfold dpR
      by_cases r : row = -1
      · rw [if_pos r, if_pos r]
      · rw [if_neg r, if_neg r]
        unfold rw1R
        rw [sv_up (by omega) (by omega) (by omega) (by omega), if_neg (by omega), sv_up (by omega) (by omega) (by omega) (by omega), if_neg (by omega), sv_up (by omega) (by omega) (by omega) (by omega), if_neg (by omega)]
    unfold rw2R
    rw [hdp]
    rw [sv_up (by omega) (by omega) (by omega) (by omega), sv_up (by omega) (by omega) (by omega) (by omega), sv_up (by omega) (by omega) (by omega) (by omega), sv_up (by omega) (by omega) (by omega) (by omega), sv_up (by omega) (by omega) (by omega) (by omega), sv_up (by omega) (by omega) (by omega) (by omega), sv_up (by omega) (by omega) (by omega) (by omega)]
    unfold rw1R
    rw [sv_up (by omega) (by omega) (by omega) (by omega), sv_up (by omega) (by omega) (by omega) (by omega), sv_up (by omega) (by omega) (by omega) (by omega)]
    unfold numR
    by_cases q : s = n
    · rw [if_pos q]
      have hk : k = 0 ∨ k = 1 ∨ k = 2 ∨ k = 3 ∨ k = 4 ∨ k = 5 ∨ k = 6 ∨ k = 7 ∨ k = 8 ∨ k = 9 := by omega
      rcases hk with rfl | rfl | rfl | rfl | rfl | rfl | rfl | rfl | rfl | rfl <;> simp [q]
    · simp [q]
  have hl2 : ∀ s k, 0 ≤ s → 0 ≤ k → k < 10 → sv (lnkR n row sec last (rw2R n row (rw1R kd n R))) s k = if last ≠ -1 ∧ s = last ∧ k = 4 then n else if last = -1 ∧ row ≠ -1 ∧ s = row ∧ k = 5 + sec then n else sv (rw2R n row (rw1R kd n R)) s k := fun s k a b c => by
    unfold lnkR
    by_cases q1 : last = -1
    · rw [if_pos q1, if_neg (show ¬ (last ≠ -1 ∧ s = last ∧ k = 4) from fun z => z.1 q1)]
      by_cases q2 : row = -1
      · rw [if_pos q2, if_neg (show ¬ (last = -1 ∧ row ≠ -1 ∧ s = row ∧ k = 5 + sec) from fun z => z.2.1 q2)]
      · rw [if_neg q2]
        rcases hs with q3 | q3
        · rw [if_pos q3, sv_up a ⟨b, c⟩ (by omega) (by omega)]
          by_cases z : s = row ∧ k = 5
          · rw [if_pos z, if_pos ⟨q1, q2, z.1, by omega⟩]
          · rw [if_neg z, if_neg (fun y => z ⟨y.2.2.1, by have := y.2.2.2; omega⟩)]
        · rw [if_neg (by omega), sv_up a ⟨b, c⟩ (by omega) (by omega)]
          by_cases z : s = row ∧ k = 6
          · rw [if_pos z, if_pos ⟨q1, q2, z.1, by omega⟩]
          · rw [if_neg z, if_neg (fun y => z ⟨y.2.2.1, by have := y.2.2.2; omega⟩)]
    · rw [if_neg q1, sv_up a ⟨b, c⟩ (by omega) (by omega)]
      by_cases z : s = last ∧ k = 4
      · rw [if_pos z, if_pos ⟨q1, z.1, z.2⟩]
      · rw [if_neg z, if_neg (fun y => z ⟨y.2.1, y.2.2⟩), if_neg (fun y => q1 y.1)]
  have hc2 : ∀ s k, 0 ≤ s → 0 ≤ k → k < 10 → sv (comR kd n row sec last R) s k = if row ≠ -1 ∧ s = row ∧ k = 8 + sec then sv R row (8 + sec) + 1 else sv (lnkR n row sec last (rw2R n row (rw1R kd n R))) s k := fun s k a b c => by
    have hrw : row ≠ -1 → sv (lnkR n row sec last (rw2R n row (rw1R kd n R))) row (8 + sec) = sv R row (8 + sec) := fun q => by
      rw [hl2 row _ (by omega) (by omega) (by omega), if_neg (fun z => by have := z.2.2; omega), if_neg (fun z => by have := z.2.2.2; omega), hc row _ (by omega) (by omega) (by omega), if_neg (by omega)]
    unfold comR cnuR
    generalize lnkR n row sec last (rw2R n row (rw1R kd n R)) = L at *
    by_cases q2 : row = -1
    · rw [if_pos q2, if_neg (fun z => z.1 q2)]
    · rw [if_neg q2]
      have hq := hrw q2
      rcases hs with q3 | q3
      · rw [if_pos q3, sv_up a ⟨b, c⟩ (by omega) (by omega)]
        rw [q3] at hq ⊢
        by_cases z : s = row ∧ k = 8
        · rw [if_pos z, if_pos ⟨q2, z.1, by omega⟩, ← hq]
          rfl
        · rw [if_neg z, if_neg (fun y => z ⟨y.2.1, by have := y.2.2; omega⟩)]
      · rw [if_neg (by omega), sv_up a ⟨b, c⟩ (by omega) (by omega)]
        rw [q3] at hq ⊢
        by_cases z : s = row ∧ k = 9
        · rw [if_pos z, if_pos ⟨q2, z.1, by omega⟩, ← hq]
          rfl
        · rw [if_neg z, if_neg (fun y => z ⟨y.2.1, by have := y.2.2; omega⟩)]
  constructor
  · intro s k a d b c
    rw [hc2 s k a b c, hl2 s k a b c, hc s k a b c, if_neg d]
    by_cases z1 : last ≠ -1 ∧ s = last ∧ k = 4
    · rw [if_pos z1, if_neg (fun y => by have := y.2.2; have := z1.2.2; omega), if_pos z1]
    · rw [if_neg z1, if_neg z1]
      by_cases z2 : last = -1 ∧ row ≠ -1 ∧ s = row ∧ k = 5 + sec
      · rw [if_pos z2, if_neg (fun y => by have := y.2.2; have := z2.2.2.2; omega), if_pos z2]
      · rw [if_neg z2, if_neg z2]
  · intro k b c
    rw [hc2 n k h0 b c, hl2 n k h0 b c, hc n k h0 b c, if_neg (by omega), if_neg (by omega), if_neg (by omega), if_pos rfl]
end INV2

