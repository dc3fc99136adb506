/-! Rounds of a loop: where a run is inside it. -/
section DESC
variable {n : Int} {R N : Nat → Int} {th cl : Int → Int} {ls : Int}
def inD (R : Nat → Int) (ls x : Int) : Prop := ∃ k, up R (k + 1) x = ls
theorem up_neg (R : Nat → Int) : ∀ (k : Nat), up R k (-1) = -1
  | 0 => rfl
  | k + 1 => by rw [up, up_neg R k, if_pos rfl]
theorem inD_neg (h0 : 0 ≤ ls) : ¬ inD R ls (-1) := fun ⟨k, e⟩ => by rw [up_neg] at e; omega
theorem inD_par {x : Int} (hx : x ≠ -1) : inD R ls x ↔ sv R x 3 = ls ∨ inD R ls (sv R x 3) := by
  constructor
  · rintro ⟨k, e⟩
    rw [up_par R hx] at e
    cases k with
    | zero => exact Or.inl e
    | succ k => exact Or.inr ⟨k, e⟩
  · rintro (e | ⟨k, e⟩)
    · exact ⟨0, by rw [up_par R hx]; exact e⟩
    · exact ⟨k + 1, by rw [up_par R hx]; exact e⟩
theorem inD_gt (w : WS n R) (h0 : 0 ≤ ls) {x : Int} (hx : 0 ≤ x) (hx2 : x < n) (h : inD R ls x) : ls < x := by
  obtain ⟨k, e⟩ := h
  have w1 := (w.2.1 x hx hx2).2.2.1
  rw [up_par R (by omega)] at e
  have := up_rng w (s := sv R x 3) (by omega) k
  omega
theorem thD (w : WS n R) (hS : isTS n R (-1) th) (hC : isCL n R (-1) cl) (h0 : 0 ≤ ls) (hk : sv R ls 0 = 2) : ∀ (m : Nat) (x : Int), x < m → 0 ≤ x → x < n → (inD R ls x → (th x = ls ∧ cl x = ls) ∨ (0 ≤ th x ∧ inD R ls (th x) ∧ cl x ≠ ls)) ∧ (¬ inD R ls x → ¬ inD R ls (th x) ∧ cl x ≠ ls)
  | 0, x, hm, hx, hx2 => by omega
  | m + 1, x, hm, hx, hx2 => by
    have w1 := w.2.1 x hx hx2
    have e1 := hS x hx hx2
    have e2 := hC x hx hx2
    have hp := inD_par (R := R) (ls := ls) (x := x) (by omega)
    unfold tl at e1
    by_cases c4 : sv R x 4 = -1
    · rw [if_pos c4] at e1 e2
      by_cases c3 : sv R x 3 = -1
      · rw [if_pos (Or.inl c3)] at e1 e2
        have hn : ¬ inD R ls x := fun q => by
          rcases hp.1 q with q | q
          · omega
          · rw [c3] at q; exact inD_neg h0 q
        refine ⟨fun q => absurd q hn, fun _ => ⟨?_, by omega⟩⟩
        rw [e1]; exact inD_neg h0
      · rw [if_neg (by omega)] at e1 e2
        have w3 := w1.2.2.1
        by_cases c2 : sv R (sv R x 3) 0 = 2
        · rw [if_pos c2] at e1 e2
          by_cases cl3 : sv R x 3 = ls
          · refine ⟨fun _ => Or.inl ⟨by omega, by omega⟩, fun q => absurd (hp.2 (Or.inl cl3)) q⟩
          · refine ⟨fun q => Or.inr ⟨by omega, ?_, by omega⟩, fun q => ⟨fun z => ?_, by omega⟩⟩
            · rw [e1]; exact (hp.1 q).resolve_left cl3
            · rw [e1] at z; exact q (hp.2 (Or.inr z))
        · rw [if_neg c2] at e1 e2
          have ih := thD w hS hC h0 hk m (sv R x 3) (by omega) (by omega) (by omega)
          have cl3 : sv R x 3 ≠ ls := fun e => c2 (by rw [e]; exact hk)
          rw [e1, e2]
          refine ⟨fun q => ih.1 ((hp.1 q).resolve_left cl3), fun q => ih.2 (fun z => q (hp.2 (Or.inr z)))⟩
    · rw [if_neg c4] at e1 e2
      have w4 := w1.2.2.2.1
      have hp4 := inD_par (R := R) (ls := ls) (x := sv R x 4) (by omega)
      rw [show sv R (sv R x 4) 3 = sv R x 3 by omega] at hp4
      rw [e1, e2]
      exact ⟨fun q => Or.inr ⟨by omega, hp4.2 (hp.1 q), by omega⟩, fun q => ⟨fun z => q (hp.2 (hp4.1 z)), by omega⟩⟩
theorem thD2 (w : WS n R) (hS : isTS n R (-1) th) (hC : isCL n R (-1) cl) (h0 : 0 ≤ ls) (hk : sv R ls 0 = 2) {x : Int} (hx : 0 ≤ x) (hx2 : x < n) : (inD R ls x → (th x = ls ∧ cl x = ls) ∨ (0 ≤ th x ∧ inD R ls (th x) ∧ cl x ≠ ls)) ∧ (¬ inD R ls x → ¬ inD R ls (th x) ∧ cl x ≠ ls) := thD w hS hC h0 hk (x + 1).toNat x (by omega) hx hx2
/-- one step, seen from a loop -/
theorem stD (w : WS n R) (hS : isTS n R (-1) th) (hC : isCL n R (-1) cl) (h0 : 0 ≤ ls) (h1 : ls < n) (hk : sv R ls 0 = 2) {p : Int × Int} (hx : 0 ≤ p.1) (hx2 : p.1 < n) :
    (p.1 = ls → (hb N ls p.2 = true → (inD R ls (stp R N th (-1) p).1 ∧ bmp R N cl (-1) p ≠ ls) ∨ ((stp R N th (-1) p).1 = ls ∧ bmp R N cl (-1) p = ls)) ∧ (hb N ls p.2 = false → ¬ inD R ls (stp R N th (-1) p).1 ∧ bmp R N cl (-1) p ≠ ls)) ∧
    (p.1 ≠ ls → (inD R ls p.1 → ((stp R N th (-1) p).1 = ls ∧ bmp R N cl (-1) p = ls) ∨ (inD R ls (stp R N th (-1) p).1 ∧ bmp R N cl (-1) p ≠ ls)) ∧ (¬ inD R ls p.1 → ¬ inD R ls (stp R N th (-1) p).1 ∧ bmp R N cl (-1) p ≠ ls)) := by
  obtain ⟨x, st⟩ := p
  have hx : 0 ≤ x := hx
  have hx2 : x < n := hx2
  have w1 := w.2.1 x hx hx2
  have t := thD2 w hS hC h0 hk hx hx2
  have nl : ¬ inD R ls ls := fun q => by have := inD_gt w h0 h0 h1 q; omega
  show (x = ls → _) ∧ (x ≠ ls → _)
  unfold stp bmp exS
  simp only
  by_cases k2 : sv R x 0 = 2
  · rw [if_pos k2, if_pos k2]
    have cx : ¬ x = -1 := by omega
    by_cases b : hb N x st = true
    · rw [if_pos b, if_pos b]
      by_cases c5 : sv R x 5 = -1
      · rw [if_pos c5, if_pos c5]
        refine ⟨fun e => ⟨fun _ => Or.inr ⟨e, e⟩, fun q => ?_⟩, fun e => ⟨fun q => Or.inr ⟨q, e⟩, fun q => ⟨q, e⟩⟩⟩
        rw [← e, b] at q; cases q
      · rw [if_neg c5, if_neg c5]
        have w5 := w1.2.2.2.2.1
        have hp5 := inD_par (R := R) (ls := ls) (x := sv R x 5) (by omega)
        rw [show sv R (sv R x 5) 3 = x by omega] at hp5
        refine ⟨fun e => ⟨fun _ => Or.inl ⟨hp5.2 (Or.inl e), by omega⟩, fun q => ?_⟩, fun e => ⟨fun q => Or.inr ⟨hp5.2 (Or.inr q), by omega⟩, fun q => ⟨fun z => ?_, by omega⟩⟩⟩
        · rw [← e, b] at q; cases q
        · rcases hp5.1 z with z | z
          · exact e z
          · exact q z
    · rw [if_neg b, if_neg b, if_neg cx, if_neg cx]
      refine ⟨fun e => ⟨fun q => ?_, fun _ => ?_⟩, fun e => ⟨fun q => ?_, fun q => t.2 q⟩⟩
      · rw [← e] at q; exact absurd q b
      · exact t.2 (by rw [e]; exact nl)
      · rcases t.1 q with z | z
        · exact Or.inl z
        · exact Or.inr z.2
  · rw [if_neg k2, if_neg k2]
    have hne : x ≠ ls := fun e => k2 (by rw [e]; exact hk)
    refine ⟨fun e => absurd e hne, fun _ => ?_⟩
    have thc : (inD R ls x → (th x = ls ∧ cl x = ls) ∨ (inD R ls (th x) ∧ cl x ≠ ls)) ∧ (¬ inD R ls x → ¬ inD R ls (th x) ∧ cl x ≠ ls) := ⟨fun q => (t.1 q).imp id (fun z => z.2), t.2⟩
    by_cases k1 : sv R x 0 = 1
    · rw [if_pos k1, if_pos k1]
      have child : ∀ c, (c = -1 ∨ 0 ≤ c ∧ sv R c 3 = x) → (inD R ls x → ((if c = -1 then th x else c) = ls ∧ (if c = -1 then cl x else -1) = ls) ∨ (inD R ls (if c = -1 then th x else c) ∧ (if c = -1 then cl x else -1) ≠ ls)) ∧ (¬ inD R ls x → ¬ inD R ls (if c = -1 then th x else c) ∧ (if c = -1 then cl x else -1) ≠ ls) := fun c hc => by
        by_cases c5 : c = -1
        · rw [if_pos c5, if_pos c5]; exact thc
        · rw [if_neg c5, if_neg c5]
          have hp5 := inD_par (R := R) (ls := ls) (x := c) c5
          rw [show sv R c 3 = x by omega] at hp5
          exact ⟨fun q => Or.inr ⟨hp5.2 (Or.inr q), by omega⟩, fun q => ⟨fun z => (hp5.1 z).elim hne q, by omega⟩⟩
      by_cases b : hb N x st = true
      · simp only [if_pos b]
        exact child (sv R x 5) (by omega)
      · simp only [if_neg b]
        exact child (sv R x 6) (by omega)
    · rw [if_neg k1, if_neg k1]
      exact thc
/-- rounds as the class counts them -/
def tcT (R N : Nat → Int) (th : Int → Int) (ls : Int) (p : Int × Int) : Nat → Int
  | 0 => 0
  | k + 1 => if (orb R N th (-1) p k).1 = ls then (if hb N ls (orb R N th (-1) p k).2 = true then tcT R N th ls p k + 1 else 0) else tcT R N th ls p k
def mcT (R N : Nat → Int) (th : Int → Int) (ls : Int) (p : Int × Int) : Nat → Int
  | 0 => 0
  | k + 1 => if (orb R N th (-1) p k).1 = ls then (if mcT R N th ls p k < tcT R N th ls p (k + 1) then tcT R N th ls p (k + 1) else mcT R N th ls p k) else mcT R N th ls p k
theorem tcT_b (ls : Int) (p : Int × Int) : ∀ (k : Nat), 0 ≤ tcT R N th ls p k ∧ tcT R N th ls p k ≤ k
  | 0 => ⟨Int.le_refl _, Int.le_refl _⟩
  | k + 1 => by
    have := tcT_b ls p k
    rw [tcT]
    repeat' split
    all_goals omega
theorem rnd1 (w : WS n R) (hS : isTS n R (-1) th) (hC : isCL n R (-1) cl) (h0 : 0 ≤ ls) (h1 : ls < n) (hk : sv R ls 0 = 2) {q : Int × Int} {tc mc : Int} {t m : Int → Int} (hx : 0 ≤ q.1) (hx2 : q.1 < n) (a : inD R ls q.1 → tc = t ls + 1) (b : ¬ inD R ls q.1 → tc = t ls) (c : mc = if m ls < tc then tc else m ls) (d : t ls ≤ m ls) (hb0 : 0 ≤ t ls) : (inD R ls (stp R N th (-1) q).1 → (if q.1 = ls then (if hb N ls q.2 = true then tc + 1 else 0) else tc) = tnS R N cl (-1) q t ls + 1) ∧ (¬ inD R ls (stp R N th (-1) q).1 → (if q.1 = ls then (if hb N ls q.2 = true then tc + 1 else 0) else tc) = tnS R N cl (-1) q t ls) ∧ ((if q.1 = ls then (if mc < (if q.1 = ls then (if hb N ls q.2 = true then tc + 1 else 0) else tc) then (if q.1 = ls then (if hb N ls q.2 = true then tc + 1 else 0) else tc) else mc) else mc) = if msS R N cl (-1) q t m ls < (if q.1 = ls then (if hb N ls q.2 = true then tc + 1 else 0) else tc) then (if q.1 = ls then (if hb N ls q.2 = true then tc + 1 else 0) else tc) else msS R N cl (-1) q t m ls) ∧ tnS R N cl (-1) q t ls ≤ msS R N cl (-1) q t m ls := by
  obtain ⟨s1, s2⟩ := stD (N := N) w hS hC h0 h1 hk hx hx2
  have nl : ¬ inD R ls ls := fun q => by have := inD_gt w h0 h0 h1 q; omega
  unfold msS tnS
  generalize t ls = tn at *
  generalize m ls = ms at *
  have hms0 : ∀ X : Int, bmp R N cl (-1) q ≠ ls → (if bmp R N cl (-1) q = ls ∧ ms < X then X else ms) = ms := fun X hz => if_neg (fun y => hz y.1)
  have hms1 : ∀ X : Int, bmp R N cl (-1) q = ls → (if bmp R N cl (-1) q = ls ∧ ms < X then X else ms) = if ms < X then X else ms := fun X hz => by
    by_cases y : ms < X
    · rw [if_pos ⟨hz, y⟩, if_pos y]
    · rw [if_neg (fun x => y x.2), if_neg y]
  by_cases e : q.1 = ls
  · have hk' : sv R q.1 0 = 2 := by rw [e]; exact hk
    have a2 := b (by rw [e]; exact nl)
    have g0 : hb N q.1 q.2 = hb N ls q.2 := by rw [e]
    rw [if_pos e, if_pos e, g0]
    by_cases g : hb N ls q.2 = true
    · have hcond : ¬ (sv R q.1 0 = 2 ∧ hb N ls q.2 = false ∧ q.1 = ls) := fun z => by rw [g] at z; cases z.2.1
      rw [if_pos g, if_neg hcond]
      rcases (s1 e).1 g with ⟨z1, z2⟩ | ⟨z1, z2⟩
      · rw [if_neg z2, hms0 _ z2]
        refine ⟨fun _ => by omega, fun q => absurd z1 q, ?_, by omega⟩
        rw [c]
        repeat' split
        all_goals omega
      · rw [z1, if_pos z2, hms1 _ z2]
        refine ⟨fun q => absurd q nl, fun _ => by omega, ?_, ?_⟩
        · rw [c]
          repeat' split
          all_goals omega
        · repeat' split
          all_goals omega
    · have g2 : hb N ls q.2 = false := by cases hq : hb N ls q.2 with | true => exact absurd hq g | false => rfl
      obtain ⟨z1, z2⟩ := (s1 e).2 g2
      rw [if_neg g, if_pos ⟨hk', g2, e⟩, if_neg z2, hms0 _ z2]
      refine ⟨fun q => absurd q z1, fun _ => by omega, ?_, by omega⟩
      rw [c]
      repeat' split
      all_goals omega
  · have hcond : ¬ (sv R q.1 0 = 2 ∧ hb N q.1 q.2 = false ∧ q.1 = ls) := fun z => e z.2.2
    rw [if_neg e, if_neg e, if_neg hcond]
    by_cases g : inD R ls q.1
    · have a2 := a g
      rcases (s2 e).1 g with ⟨z1, z2⟩ | ⟨z1, z2⟩
      · rw [z1, if_pos z2, hms1 _ z2]
        refine ⟨fun q => absurd q nl, fun _ => by omega, ?_, ?_⟩
        · rw [c]
          repeat' split
          all_goals omega
        · repeat' split
          all_goals omega
      · rw [if_neg z2, hms0 _ z2]
        exact ⟨fun _ => by omega, fun q => absurd z1 q, c, by omega⟩
    · have a2 := b g
      obtain ⟨z1, z2⟩ := (s2 e).2 g
      rw [if_neg z2, hms0 _ z2]
      exact ⟨fun q => absurd q z1, fun _ => by omega, c, by omega⟩
theorem rnds (w : WS n R) (hS : isTS n R (-1) th) (hC : isCL n R (-1) cl) (h0 : 0 ≤ ls) (h1 : ls < n) (hk : sv R ls 0 = 2) {p : Int × Int} (hp : ¬ inD R ls p.1) : ∀ (k : Nat), (∀ i, i < k → 0 ≤ (orb R N th (-1) p i).1 ∧ (orb R N th (-1) p i).1 < n) → (inD R ls (orb R N th (-1) p k).1 → tcT R N th ls p k = tnT R N th cl (-1) p k ls + 1) ∧ (¬ inD R ls (orb R N th (-1) p k).1 → tcT R N th ls p k = tnT R N th cl (-1) p k ls) ∧ (mcT R N th ls p k = if msT R N th cl (-1) p k ls < tcT R N th ls p k then tcT R N th ls p k else msT R N th cl (-1) p k ls) ∧ tnT R N th cl (-1) p k ls ≤ msT R N th cl (-1) p k ls
  | 0, _ => ⟨fun q => absurd q hp, fun _ => rfl, rfl, Int.le_refl _⟩
  | k + 1, hv => by
    obtain ⟨a, b, c, d⟩ := rnds w hS hC h0 h1 hk hp k (fun i hi => hv i (by omega))
    have hr := hv k (by omega)
    exact rnd1 w hS hC h0 h1 hk hr.1 hr.2 a b c d (tnT_b (R := R) (N := N) (th := th) (cl := cl) (al := -1) p k ls).1
end DESC
