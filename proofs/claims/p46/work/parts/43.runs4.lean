/-! Runs: one that does not end comes to a loop twice in one state, without leaving it. -/
section RUNS4
variable {n : Int} {R N : Nat → Int} {th : Int → Int} {al sp : Int} {T : Int → Int → Int}
def cyc (n : Int) (R N : Nat → Int) (th : Int → Int) (al : Int) (b : Int) (p : Int × Int) : Prop := ∃ (u x : Int) (i j : Nat), i < j ∧ (sv R u 0 = 2 ∧ b ≤ u ∧ 0 ≤ u ∧ u < n ∧ 0 ≤ x ∧ x < 64) ∧ orb R N th al p i = (u, x) ∧ orb R N th al p j = (u, x) ∧ (∀ m, i ≤ m → m < j → (orb R N th al p m).1 = u → hb N u (orb R N th al p m).2 = true) ∧ ∀ m, m < j → b ≤ (orb R N th al p m).1
theorem cyc_s {b : Int} {p q : Int × Int} {k : Nat} (h : gos R N th al b p k q) (g : cyc n R N th al b q) : cyc n R N th al b p := by
  obtain ⟨u, x, i, j, h1, h2, h3, h4, h5, h6⟩ := g
  refine ⟨u, x, k + i, k + j, by omega, h2, by rw [orb_add, h.1, h3], by rw [orb_add, h.1, h4], fun m hm hm2 hm3 => ?_, fun m hm => ?_⟩
  · rw [show m = k + (m - k) by omega, orb_add, h.1] at hm3 ⊢
    exact h5 _ (by omega) (by omega) hm3
  · by_cases c : m < k
    · exact h.2 m c
    · rw [show m = k + (m - k) by omega, orb_add, h.1]
      exact h6 _ (by omega)
theorem cyc_w {b c : Int} {p : Int × Int} (h : cyc n R N th al b p) (hc : c ≤ b) : cyc n R N th al c p := by
  obtain ⟨u, x, i, j, h1, ⟨h2, h3, h4⟩, h5, h6, h7, h8⟩ := h
  exact ⟨u, x, i, j, h1, ⟨h2, by omega, h4⟩, h5, h6, h7, fun m hm => Int.le_trans hc (h8 m hm)⟩
theorem rounds_w (w : WS n R) (v : WN n R N) (hE : isET n R N T) {s : Int} (h0 : 0 ≤ s) (h1 : s < n)
    (hw : ∀ x, 0 ≤ x → x < 64 → hb N s x = true → rowE T R (sv R s 5) x ≠ -1 → ∃ k, 1 ≤ k ∧ orb R N th al (s, x) k = (s, rowE T R (sv R s 5) x) ∧ ∀ i, i < k → s ≤ (orb R N th al (s, x) i).1 ∧ ((orb R N th al (s, x) i).1 = s → i = 0)) : ∀ (r : Nat) (x : Int), 0 ≤ x → x < 64 → (∀ i, i < r → hb N s (itJ (rnd T R N s) i x) = true ∧ itJ (rnd T R N s) (i + 1) x ≠ -1) → ∃ k, r ≤ k ∧ orb R N th al (s, x) k = (s, itJ (rnd T R N s) r x) ∧ ∀ i, i < k → s ≤ (orb R N th al (s, x) i).1 ∧ ((orb R N th al (s, x) i).1 = s → hb N s (orb R N th al (s, x) i).2 = true)
  | 0, x, h2, h3, hr => ⟨0, Nat.le_refl _, rfl, fun i hi => absurd hi (Nat.not_lt_zero _)⟩
  | r + 1, x, h2, h3, hr => by
    have w1 := (w.2.1 s h0 h1).2.2.2.2.1
    have hx : hb N s x = true := (hr 0 (by omega)).1
    have e1 : rnd T R N s x = rowE T R (sv R s 5) x := by rw [rnd, if_pos hx]
    have e2 : ∀ i, itJ (rnd T R N s) (i + 1) x = itJ (rnd T R N s) i (rowE T R (sv R s 5) x) := fun i => by rw [itJ, if_neg (by omega), e1]
    have h4 : rowE T R (sv R s 5) x ≠ -1 := by
      have := (hr 0 (by omega)).2
      rw [e2] at this
      exact this
    have h5 := rowE_r w v hE (s := sv R s 5) (st := x) (by omega) (by omega) h3
    obtain ⟨k, g1, g2, g3⟩ := hw x h2 h3 hx h4
    obtain ⟨j, g4, g5, g6⟩ := rounds_w w v hE h0 h1 hw r _ (by omega) h5.2 (fun i hi => by
      have := hr (i + 1) (by omega)
      rw [e2, e2] at this
      exact this)
    refine ⟨k + j, by omega, by rw [orb_add, g2, g5, e2], fun i hi => ?_⟩
    by_cases c : i < k
    · refine ⟨(g3 i c).1, fun e => ?_⟩
      have := (g3 i c).2 e
      subst this
      exact hx
    · rw [show i = k + (i - k) by omega, orb_add, g2]
      exact g6 _ (by omega)
theorem leastN {P : Nat → Prop} [DecidablePred P] : ∀ (m : Nat), P m → ∃ r, r ≤ m ∧ P r ∧ ∀ i, i < r → ¬ P i
  | 0, h => ⟨0, Nat.le_refl _, h, fun i hi => absurd hi (Nat.not_lt_zero _)⟩
  | m + 1, h => by
    by_cases c : ∃ i, i < m + 1 ∧ P i
    · obtain ⟨i, h1, h2⟩ := c
      obtain ⟨r, h3, h4, h5⟩ := leastN i h2
      exact ⟨r, by omega, h4, h5⟩
    · exact ⟨m + 1, Nat.le_refl _, h, fun i hi g => c ⟨i, hi, g⟩⟩
termination_by m => m
theorem div (w : WS n R) (v : WN n R N) (hE : isET n R N T) (hS : isTS n R sp th) : ∀ (m : Nat),
    (∀ s st, n - s ≤ m → 0 ≤ s → s < n → al ≤ s → sp < s → 0 ≤ st → st < 64 → (al = s → sv R s 0 = 2) → T s st = -1 → cyc n R N th al s (s, st)) ∧
    (∀ c st, n - c ≤ m → 0 ≤ c → c < n → al < c → sp < c → 0 ≤ st → st < 64 → rowE T R c st = -1 → cyc n R N th al c (c, st))
  | 0 => ⟨fun s st hm h0 h1 => by omega, fun s st hm h0 h1 => by omega⟩
  | m + 1 => by
    obtain ⟨ih1, ih2⟩ := div w v hE hS m
    have main : ∀ s st, n - s ≤ (m + 1 : Nat) → 0 ≤ s → s < n → al ≤ s → sp < s → 0 ≤ st → st < 64 → (al = s → sv R s 0 = 2) → T s st = -1 → cyc n R N th al s (s, st) := by
      intro s st hm h0 h1 ha hp h2 h3 hal hT
      have w1 := w.2.1 s h0 h1
      by_cases c2 : sv R s 0 = 2
      · have hw : ∀ x, 0 ≤ x → x < 64 → hb N s x = true → rowE T R (sv R s 5) x ≠ -1 → ∃ k, 1 ≤ k ∧ orb R N th al (s, x) k = (s, rowE T R (sv R s 5) x) ∧ ∀ i, i < k → s ≤ (orb R N th al (s, x) i).1 ∧ ((orb R N th al (s, x) i).1 = s → i = 0) := by
          intro x h4 h5 h6 h7
          refine snd_w (sp := sp) (al := al) w v hE hS h0 h1 c2 (by omega) (fun y a b c d => ?_) h4 h5 h6 h7
          obtain ⟨k, hk⟩ := (snd (al := al) w v hE hS n.toNat).2 (sv R s 5) y (by omega) (by omega) (by omega) (by omega) (by omega) a b d
          rw [show sv R (sv R s 5) 3 = s by omega] at hk
          exact ⟨k, gos_w hk (by omega)⟩
        have hJ := rnd_r w v hE h0 h1
        have e2 : T s st = whE T R N s st := by rw [hE s st h0 h1 h2 h3, etS, if_pos c2]
        rw [e2, whE] at hT
        have hT2 : itJ (rnd T R N s) 64 st = -1 ∨ hb N s (itJ (rnd T R N s) 64 st) = true := by
          by_cases c : itJ (rnd T R N s) 64 st = -1 ∨ hb N s (itJ (rnd T R N s) 64 st) = true
          · exact c
          · rw [if_neg c] at hT
            exact Or.inl hT
        by_cases c : itJ (rnd T R N s) 64 st = -1
        · obtain ⟨r, g1, g2, g3⟩ := leastN (P := fun r => itJ (rnd T R N s) r st = -1) 64 c
          cases r with
          | zero =>
            have : st = -1 := g2
            omega
          | succ r =>
            have g4 : itJ (rnd T R N s) r st ≠ -1 := g3 r (by omega)
            have g5 : rnd T R N s (itJ (rnd T R N s) r st) = -1 := by rw [← itJ_succ g4]; exact g2
            have g6 : ∀ i, i ≤ r → hb N s (itJ (rnd T R N s) i st) = true := fun i hi => by
              cases g : hb N s (itJ (rnd T R N s) i st) with
              | true => rfl
              | false =>
                have g7 : itJ (rnd T R N s) (r + 1) st = itJ (rnd T R N s) i st := by rw [show r + 1 = i + (r + 1 - i) by omega, itJ_add, itJ_fix (rnd_f g)]
                exact absurd (g7.symm.trans g2) (g3 i (by omega))
            obtain ⟨k, k1, k2, k3⟩ := rounds_w (th := th) (al := al) w v hE h0 h1 hw r st h2 h3 (fun i hi => ⟨g6 i (by omega), g3 (i + 1) (by omega)⟩)
            have g7 := itJ_r hJ r st (by omega) h3
            have g8 : rowE T R (sv R s 5) (itJ (rnd T R N s) r st) = -1 := by
              rw [rnd, if_pos (g6 r (Nat.le_refl _))] at g5
              exact g5
            have g9 : sv R s 5 ≠ -1 := fun g => by
              rw [g, rowE_n] at g8
              exact g4 g8
            have g10 := ih2 (sv R s 5) (itJ (rnd T R N s) r st) (by omega) (by omega) (by omega) (by omega) (by omega) (by omega) g7.2 g8
            have g11 := gos_1 (R := R) (N := N) (th := th) (al := al) (b := s) (p := (s, itJ (rnd T R N s) r st)) (Int.le_refl _)
            rw [stp_h c2 (g6 r (Nat.le_refl _)), if_neg g9] at g11
            exact cyc_s ⟨k2, fun i hi => (k3 i hi).1⟩ (cyc_s g11 (cyc_w g10 (by omega)))
        · have hh := hT2.resolve_left c
          have ha2 : ∀ i, i ≤ 64 → itJ (rnd T R N s) i st ≠ -1 := fun i hi g => c (by rw [show 64 = i + (64 - i) by omega, itJ_add, g, itJ_m1])
          have hb2 : ∀ i, i ≤ 64 → hb N s (itJ (rnd T R N s) i st) = true := fun i hi => by
            cases g : hb N s (itJ (rnd T R N s) i st) with
            | true => rfl
            | false =>
              have g7 : itJ (rnd T R N s) 64 st = itJ (rnd T R N s) i st := by rw [show 64 = i + (64 - i) by omega, itJ_add, itJ_fix (rnd_f g)]
              rw [g7, g] at hh
              cases hh
          have hr : ∀ i, i ≤ 64 → 0 ≤ itJ (rnd T R N s) i st ∧ itJ (rnd T R N s) i st < 64 := fun i hi => by
            have h4 := itJ_r hJ i st (by omega) h3
            have h5 := ha2 i hi
            omega
          obtain ⟨i, j, q1, q2, q3⟩ := pigeon 64 (fun i => (itJ (rnd T R N s) i st).toNat) (fun i hi => by have := hr i hi; omega)
          have q4 : itJ (rnd T R N s) i st = itJ (rnd T R N s) j st := by
            have := hr i (by omega)
            have := hr j q2
            omega
          obtain ⟨k, k1, k2, k3⟩ := rounds_w (th := th) (al := al) w v hE h0 h1 hw i st h2 h3 (fun l hl => ⟨hb2 l (by omega), ha2 (l + 1) (by omega)⟩)
          have q5 := hr i (by omega)
          obtain ⟨k', k4, k5, k6⟩ := rounds_w (th := th) (al := al) w v hE h0 h1 hw (j - i) (itJ (rnd T R N s) i st) q5.1 q5.2 (fun l hl => by
            rw [← itJ_add, ← itJ_add]
            exact ⟨hb2 _ (by omega), ha2 _ (by omega)⟩)
          rw [← itJ_add, show i + (j - i) = j by omega, ← q4] at k5
          refine cyc_s ⟨k2, fun i hi => (k3 i hi).1⟩ ⟨s, _, 0, k', by omega, ⟨c2, Int.le_refl _, h0, h1, q5.1, q5.2⟩, rfl, k5, fun l _ hl => (k6 l hl).2, fun l hl => (k6 l hl).1⟩
      · by_cases c1 : sv R s 0 = 1
        · have e2 : T s st = rowE T R (if hb N s st = true then sv R s 5 else sv R s 6) st := by
            rw [hE s st h0 h1 h2 h3, etS, if_neg c2, if_pos c1]
            by_cases g : hb N s st = true
            · rw [if_pos g, if_pos g]
            · rw [if_neg g, if_neg g]
          have hf : (if hb N s st = true then sv R s 5 else sv R s 6) = sv R s 5 ∨ (if hb N s st = true then sv R s 5 else sv R s 6) = sv R s 6 := by
            by_cases g : hb N s st = true
            · rw [if_pos g]; exact Or.inl rfl
            · rw [if_neg g]; exact Or.inr rfl
          have e3 := stp_i (R := R) (N := N) (th := th) (al := al) (s := s) (st := st) c1
          generalize (if hb N s st = true then sv R s 5 else sv R s 6) = f at e2 e3 hf
          have hg := gos_1 (R := R) (N := N) (th := th) (al := al) (b := s) (p := (s, st)) (Int.le_refl _)
          rw [e3] at hg
          rw [e2] at hT
          have c : f ≠ -1 := fun g => by
            rw [g, rowE_n] at hT
            omega
          rw [if_neg c] at hg
          have hf2 : s < f ∧ f < n := by
            rcases hf with rfl | rfl <;> omega
          exact cyc_s hg (cyc_w (ih2 f st (by omega) (by omega) (by omega) (by omega) (by omega) h2 h3 hT) (by omega))
        · have hr := bhS_r w v h0 h1 (by omega) h2 h3
          rw [hE s st h0 h1 h2 h3, etS, if_neg c2, if_neg c1] at hT
          omega
    refine ⟨main, ?_⟩
    intro c st hm h0 h1 ha hp h2 h3 hT
    have w1 := (w.2.1 c h0 h1).2.2.2.1
    by_cases h4 : T c st = -1
    · exact main c st hm h0 h1 (by omega) hp h2 h3 (fun g => by omega) h4
    · rw [rowE_c w h0 h1 (by omega)] at hT
      have h5 := isET_r2 w v hE h0 h1 h2 h3
      have g : sv R c 4 ≠ -1 := fun g => by
        rw [g, rowE_n] at hT
        exact h4 hT
      obtain ⟨k, hk1, hk⟩ := (snd (al := al) w v hE hS n.toNat).1 c st (by omega) h0 h1 (by omega) hp h2 h3 (fun g => by omega) h4
      have hex : exS th al c = th c := by rw [exS, if_neg (by omega)]
      rw [hex, hS c h0 h1, if_neg g] at hk
      exact cyc_s hk (cyc_w (ih2 (sv R c 4) (T c st) (by omega) (by omega) (by omega) (by omega) (by omega) (by omega) h5.2 hT) (by omega))
end RUNS4

