/-! Runs: ends and steps agree. -/
section RUNS3
variable {n : Int} {R N : Nat → Int} {th : Int → Int} {al sp : Int} {T : Int → Int → Int}
/-- the ways of a loop's rounds -/
theorem snd_w (w : WS n R) (v : WN n R N) (hE : isET n R N T) (hS : isTS n R sp th) {s : Int} (h0 : 0 ≤ s) (h1 : s < n) (hk : sv R s 0 = 2) (hsp : s ≠ sp)
    (hrow : ∀ x, 0 ≤ x → x < 64 → sv R s 5 ≠ -1 → rowE T R (sv R s 5) x ≠ -1 → ∃ k, gos R N th al (s + 1) (sv R s 5, x) k (tl R th sp s, rowE T R (sv R s 5) x)) {x : Int} (h2 : 0 ≤ x) (h3 : x < 64) (hh : hb N s x = true) (hr : rowE T R (sv R s 5) x ≠ -1) : ∃ k, 1 ≤ k ∧ orb R N th al (s, x) k = (s, rowE T R (sv R s 5) x) ∧ ∀ i, i < k → s ≤ (orb R N th al (s, x) i).1 ∧ ((orb R N th al (s, x) i).1 = s → i = 0) := by
  have w1 := (w.2.1 s h0 h1).2.2.2.2.1
  by_cases c : sv R s 5 = -1
  · refine ⟨1, Nat.le_refl _, ?_, fun i hi => ?_⟩
    · show stp R N th al (s, x) = _
      rw [stp_h hk hh, if_pos c, c, rowE_n]
    · have : i = 0 := by omega
      subst this
      exact ⟨Int.le_refl _, fun _ => rfl⟩
  · obtain ⟨k, hg, hb2⟩ := hrow x h2 h3 c hr
    have ht : tl R th sp s = s := by rw [tl, if_neg (by omega), if_pos hk]
    have e1 : stp R N th al (s, x) = (sv R s 5, x) := by rw [stp_h hk hh, if_neg c]
    refine ⟨k + 1, by omega, by rw [orb_1, e1, hg, ht], fun i hi => ?_⟩
    cases i with
    | zero => exact ⟨Int.le_refl _, fun _ => rfl⟩
    | succ i =>
      rw [orb_1, e1]
      have := hb2 i (by omega)
      exact ⟨by omega, fun e => by omega⟩
theorem snd (w : WS n R) (v : WN n R N) (hE : isET n R N T) (hS : isTS n R sp th) : ∀ (m : Nat),
    (∀ s st, n - s ≤ m → 0 ≤ s → s < n → al ≤ s → sp < s → 0 ≤ st → st < 64 → (al = s → sv R s 0 = 2) → T s st ≠ -1 → ∃ k, 1 ≤ k ∧ gos R N th al s (s, st) k (exS th al s, T s st)) ∧
    (∀ c st, n - c ≤ m → 0 ≤ c → c < n → al < c → sp < c → 0 ≤ st → st < 64 → rowE T R c st ≠ -1 → ∃ k, gos R N th al c (c, st) k (tl R th sp (sv R c 3), rowE T R c st))
  | 0 => ⟨fun s st hm h0 h1 => by omega, fun s st hm h0 h1 => by omega⟩
  | m + 1 => by
    obtain ⟨ih1, ih2⟩ := snd w v hE hS m
    have main : ∀ s st, n - s ≤ (m + 1 : Nat) → 0 ≤ s → s < n → al ≤ s → sp < s → 0 ≤ st → st < 64 → (al = s → sv R s 0 = 2) → T s st ≠ -1 → ∃ k, 1 ≤ k ∧ gos R N th al s (s, st) k (exS th al s, T s st) := by
      intro s st hm h0 h1 ha hp h2 h3 hal hT
      have w1 := w.2.1 s h0 h1
      have hrow : ∀ f x, (f = sv R s 5 ∨ f = sv R s 6) → 0 ≤ x → x < 64 → f ≠ -1 → rowE T R f x ≠ -1 → ∃ k, gos R N th al (s + 1) (f, x) k (tl R th sp s, rowE T R f x) := by
        intro f x hf h4 h5 h6 h7
        have h8 : s < f ∧ f < n ∧ sv R f 3 = s := by
          rcases hf with rfl | rfl <;> omega
        obtain ⟨k, hg⟩ := ih2 f x (by omega) (by omega) h8.2.1 (by omega) (by omega) h4 h5 h7
        rw [h8.2.2] at hg
        exact ⟨k, gos_w hg (by omega)⟩
      by_cases c2 : sv R s 0 = 2
      · -- a loop: round by round
        have hloop : ∀ (r : Nat) (x : Int), 0 ≤ x → x < 64 → itJ (rnd T R N s) r x ≠ -1 → hb N s (itJ (rnd T R N s) r x) = false → ∃ k, 1 ≤ k ∧ gos R N th al s (s, x) k (exS th al s, itJ (rnd T R N s) r x) := by
          intro r
          induction r with
          | zero =>
            intro x h4 h5 h6 h7
            refine ⟨1, Nat.le_refl _, ?_⟩
            have := gos_1 (R := R) (N := N) (th := th) (al := al) (b := s) (p := (s, x)) (Int.le_refl _)
            have h8 : hb N s x = false := h7
            rw [stp_x c2 h8] at this
            exact this
          | succ r ihr =>
            intro x h4 h5 h6 h7
            cases hx : hb N s x with
            | false =>
              rw [itJ_fix (rnd_f hx)]
              refine ⟨1, Nat.le_refl _, ?_⟩
              have := gos_1 (R := R) (N := N) (th := th) (al := al) (b := s) (p := (s, x)) (Int.le_refl _)
              rw [stp_x c2 hx] at this
              exact this
            | true =>
              have e1 : rnd T R N s x = rowE T R (sv R s 5) x := by rw [rnd, if_pos hx]
              rw [itJ, if_neg (by omega), e1] at h6 h7 ⊢
              have h8 : rowE T R (sv R s 5) x ≠ -1 := fun g => h6 (by rw [g, itJ_m1])
              have h9 := rowE_r w v hE (s := sv R s 5) (st := x) (by omega) (by omega) h5
              obtain ⟨k, g1, g2, g3⟩ := snd_w (al := al) w v hE hS h0 h1 c2 (by omega) (fun x a b c d => hrow _ x (Or.inl rfl) a b c d) h4 h5 hx h8
              obtain ⟨j, g4, g5⟩ := ihr _ (by omega) h9.2 h6 h7
              exact ⟨k + j, by omega, gos_t ⟨g2, fun i hi => (g3 i hi).1⟩ g5⟩
        have e2 : T s st = whE T R N s st := by rw [hE s st h0 h1 h2 h3, etS, if_pos c2]
        rw [e2, whE] at hT ⊢
        by_cases c : itJ (rnd T R N s) 64 st = -1 ∨ hb N s (itJ (rnd T R N s) 64 st) = true
        · rw [if_pos c] at hT
          exact absurd rfl hT
        · rw [if_neg c]
          exact hloop 64 st h2 h3 (fun g => c (Or.inl g)) (by
            cases g : hb N s (itJ (rnd T R N s) 64 st) with
            | false => rfl
            | true => exact absurd (Or.inr g) c)
      · have hex : exS th al s = th s := by
          rw [exS, if_neg]
          intro g
          exact c2 (hal g.symm)
        by_cases c1 : sv R s 0 = 1
        · have e2 : T s st = rowE T R (if hb N s st = true then sv R s 5 else sv R s 6) st := by
            rw [hE s st h0 h1 h2 h3, etS, if_neg c2, if_pos c1]
            by_cases g : hb N s st = true
            · rw [if_pos g, if_pos g]
            · rw [if_neg g, if_neg g]
          have hf : (if hb N s st = true then sv R s 5 else sv R s 6) = sv R s 5 ∨ (if hb N s st = true then sv R s 5 else sv R s 6) = sv R s 6 := by
            by_cases g : hb N s st = true
            · rw [if_pos g]; exact Or.inl rfl
            · rw [if_neg g]; exact Or.inr rfl
          have e3 := stp_i (R := R) (N := N) (th := th) (al := al) (s := s) (st := st) c1
          generalize (if hb N s st = true then sv R s 5 else sv R s 6) = f at e2 e3 hf
          have hg := gos_1 (R := R) (N := N) (th := th) (al := al) (b := s) (p := (s, st)) (Int.le_refl _)
          rw [e3] at hg
          rw [e2] at hT ⊢
          rw [hex]
          by_cases c : f = -1
          · rw [if_pos c] at hg
            rw [c, rowE_n]
            exact ⟨1, Nat.le_refl _, hg⟩
          · rw [if_neg c] at hg
            obtain ⟨k, hk⟩ := hrow f st hf h2 h3 c hT
            have ht : tl R th sp s = th s := by rw [tl, if_neg (by omega), if_neg c2]
            rw [ht] at hk
            exact ⟨1 + k, by omega, gos_t hg (gos_w hk (by omega))⟩
        · have hg := gos_1 (R := R) (N := N) (th := th) (al := al) (b := s) (p := (s, st)) (Int.le_refl _)
          rw [stp_o c2 c1] at hg
          rw [hex, hE s st h0 h1 h2 h3, etS, if_neg c2, if_neg c1]
          exact ⟨1, Nat.le_refl _, hg⟩
    refine ⟨main, ?_⟩
    intro c st hm h0 h1 ha hp h2 h3 hT
    have w1 := (w.2.1 c h0 h1).2.2.2.1
    rw [rowE_c w h0 h1 (by omega)] at hT ⊢
    have h4 : T c st ≠ -1 := fun g => hT (by rw [g, rowE_m])
    have h5 := isET_r2 w v hE h0 h1 h2 h3
    obtain ⟨k, hk1, hk⟩ := main c st hm h0 h1 (by omega) hp h2 h3 (fun g => by omega) h4
    have hex : exS th al c = th c := by rw [exS, if_neg (by omega)]
    rw [hex, hS c h0 h1] at hk
    by_cases g : sv R c 4 = -1
    · rw [if_pos g] at hk
      rw [g, rowE_n]
      exact ⟨k, hk⟩
    · rw [if_neg g] at hk
      obtain ⟨j, hj⟩ := ih2 (sv R c 4) (T c st) (by omega) (by omega) (by omega) (by omega) (by omega) (by omega) h5.2 hT
      rw [show sv R (sv R c 4) 3 = sv R c 3 by omega] at hj
      exact ⟨k + j, gos_t hk (gos_w hj (by omega))⟩
/-- a run that comes to its end shows that all on its way end -/
theorem cmp (w : WS n R) (v : WN n R N) (hE : isET n R N T) (hS : isTS n R sp th) : ∀ (k : Nat),
    (∀ s st, 0 ≤ s → s < n → al ≤ s → sp < s → 0 ≤ st → st < 64 → (al = s → sv R s 0 = 2) → (orb R N th al (s, st) k).1 = -1 → T s st ≠ -1 ∧ ∃ j, 1 ≤ j ∧ j ≤ k ∧ orb R N th al (s, st) j = (exS th al s, T s st)) ∧
    (∀ c st, 0 ≤ c → c < n → al < c → sp < c → 0 ≤ st → st < 64 → (orb R N th al (c, st) k).1 = -1 → rowE T R c st ≠ -1 ∧ ∃ j, 1 ≤ j ∧ j ≤ k ∧ orb R N th al (c, st) j = (tl R th sp (sv R c 3), rowE T R c st)) := by
  intro k
  induction k using Nat.strongRecOn with
  | ind k ih =>
    have main : ∀ s st, 0 ≤ s → s < n → al ≤ s → sp < s → 0 ≤ st → st < 64 → (al = s → sv R s 0 = 2) → (orb R N th al (s, st) k).1 = -1 → T s st ≠ -1 ∧ ∃ j, 1 ≤ j ∧ j ≤ k ∧ orb R N th al (s, st) j = (exS th al s, T s st) := by
      intro s st h0 h1 ha hp h2 h3 hal hk
      have w1 := w.2.1 s h0 h1
      cases k with
      | zero =>
        have : s = -1 := hk
        omega
      | succ k =>
        rw [orb_1] at hk
        by_cases c2 : sv R s 0 = 2
        · cases hx : hb N s st with
          | false =>
            have e := whE_f hE h0 h1 c2 h2 h3 hx
            rw [e]
            refine ⟨by omega, 1, Nat.le_refl _, by omega, ?_⟩
            show stp R N th al (s, st) = _
            rw [stp_x c2 hx]
          | true =>
            have e1 := stp_h (R := R) (N := N) (th := th) (al := al) c2 hx
            rw [e1] at hk
            have ht : tl R th sp s = s := by rw [tl, if_neg (by omega), if_pos c2]
            have hrow : rowE T R (sv R s 5) st ≠ -1 ∧ ∃ j, 1 ≤ j ∧ j ≤ k + 1 ∧ orb R N th al (s, st) j = (s, rowE T R (sv R s 5) st) := by
              by_cases c : sv R s 5 = -1
              · rw [c, rowE_n]
                refine ⟨by omega, 1, Nat.le_refl _, by omega, ?_⟩
                show stp R N th al (s, st) = _
                rw [e1, if_pos c]
              · rw [if_neg c] at hk
                obtain ⟨g1, j, g2, g3, g4⟩ := (ih k (by omega)).2 (sv R s 5) st (by omega) (by omega) (by omega) (by omega) h2 h3 hk
                rw [show sv R (sv R s 5) 3 = s by omega, ht] at g4
                refine ⟨g1, j + 1, by omega, by omega, ?_⟩
                rw [orb_1, e1, if_neg c, g4]
            obtain ⟨g1, j, g2, g3, g4⟩ := hrow
            have g5 := rowE_r w v hE (s := sv R s 5) (st := st) (by omega) (by omega) h3
            have hk2 : (orb R N th al (s, rowE T R (sv R s 5) st) (k + 1 - j)).1 = -1 := by
              rw [← g4, ← orb_add, show j + (k + 1 - j) = k + 1 by omega, orb_1, e1]
              exact hk
            obtain ⟨g6, i, g7, g8, g9⟩ := (ih (k + 1 - j) (by omega)).1 s _ h0 h1 ha hp (by omega) g5.2 hal hk2
            rw [whE_fix w v hE h0 h1 c2 h2 h3 hx, if_neg g1]
            exact ⟨g6, j + i, by omega, by omega, by rw [orb_add, g4, g9]⟩
        · have hex : exS th al s = th s := by
            rw [exS, if_neg]
            intro g
            exact c2 (hal g.symm)
          rw [hex]
          by_cases c1 : sv R s 0 = 1
          · have e2 : T s st = rowE T R (if hb N s st = true then sv R s 5 else sv R s 6) st := by
              rw [hE s st h0 h1 h2 h3, etS, if_neg c2, if_pos c1]
              by_cases g : hb N s st = true
              · rw [if_pos g, if_pos g]
              · rw [if_neg g, if_neg g]
            have hf : (if hb N s st = true then sv R s 5 else sv R s 6) = sv R s 5 ∨ (if hb N s st = true then sv R s 5 else sv R s 6) = sv R s 6 := by
              by_cases g : hb N s st = true
              · rw [if_pos g]; exact Or.inl rfl
              · rw [if_neg g]; exact Or.inr rfl
            have e3 := stp_i (R := R) (N := N) (th := th) (al := al) (s := s) (st := st) c1
            generalize (if hb N s st = true then sv R s 5 else sv R s 6) = f at e2 e3 hf
            rw [e2]
            rw [e3] at hk
            by_cases c : f = -1
            · rw [c, rowE_n]
              refine ⟨by omega, 1, Nat.le_refl _, by omega, ?_⟩
              show stp R N th al (s, st) = _
              rw [e3, if_pos c]
            · rw [if_neg c] at hk
              have hf2 : s < f ∧ f < n ∧ sv R f 3 = s := by
                rcases hf with rfl | rfl <;> omega
              obtain ⟨g1, j, g2, g3, g4⟩ := (ih k (by omega)).2 f st (by omega) (by omega) (by omega) (by omega) h2 h3 hk
              have ht : tl R th sp s = th s := by rw [tl, if_neg (by omega), if_neg c2]
              rw [hf2.2.2, ht] at g4
              exact ⟨g1, j + 1, by omega, by omega, by rw [orb_1, e3, if_neg c, g4]⟩
          · have hr := bhS_r w v h0 h1 (by omega) h2 h3
            rw [hE s st h0 h1 h2 h3, etS, if_neg c2, if_neg c1]
            refine ⟨by omega, 1, Nat.le_refl _, by omega, ?_⟩
            show stp R N th al (s, st) = _
            rw [stp_o c2 c1]
    refine ⟨main, ?_⟩
    intro c st h0 h1 ha hp h2 h3 hk
    have w1 := (w.2.1 c h0 h1).2.2.2.1
    obtain ⟨g1, j, g2, g3, g4⟩ := main c st h0 h1 (by omega) hp h2 h3 (fun g => by omega) hk
    have hex : exS th al c = th c := by rw [exS, if_neg (by omega)]
    have h5 := isET_r2 w v hE h0 h1 h2 h3
    rw [hex, hS c h0 h1] at g4
    rw [rowE_c w h0 h1 (by omega)]
    by_cases g : sv R c 4 = -1
    · rw [if_pos g] at g4
      rw [g, rowE_n]
      exact ⟨g1, j, g2, g3, g4⟩
    · rw [if_neg g] at g4
      have hk2 : (orb R N th al (sv R c 4, T c st) (k - j)).1 = -1 := by
        rw [← g4, ← orb_add, show j + (k - j) = k by omega]
        exact hk
      obtain ⟨g6, i, g7, g8, g9⟩ := (ih (k - j) (by omega)).2 (sv R c 4) (T c st) (by omega) (by omega) (by omega) (by omega) (by omega) h5.2 hk2
      rw [show sv R (sv R c 4) 3 = sv R c 3 by omega] at g9
      exact ⟨g6, j + i, by omega, by omega, by rw [orb_add, g4, g9]⟩
end RUNS3

