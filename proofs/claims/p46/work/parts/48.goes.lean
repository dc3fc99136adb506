/-! The reference: runs, to their ends or till they come round. -/
section GOES
variable {n top : Int} {R N : Nat → Int} {th cl : Int → Int} {al sp : Int} {T : Int → Int → Int}
def thF (R : Nat → Int) (sp : Int) : Nat → Int → Int
  | 0, _ => -1
  | m + 1, s => if sv R s 4 = -1 then (if sv R s 3 = -1 ∨ sv R s 3 = sp then -1 else if sv R (sv R s 3) 0 = 2 then sv R s 3 else thF R sp m (sv R s 3)) else sv R s 4
theorem thF_k (w : WS n R) : ∀ (m k : Nat) (s : Int), 0 ≤ s → s < n → s < m → s < k → thF R sp m s = thF R sp k s
  | 0, _, s, h0, h1, h2, h3 => by omega
  | _ + 1, 0, s, h0, h1, h2, h3 => by omega
  | m + 1, k + 1, s, h0, h1, h2, h3 => by
    have w1 := (w.2.1 s h0 h1).2.2.1
    rw [thF, thF]
    by_cases c4 : sv R s 4 = -1
    · rw [if_pos c4, if_pos c4]
      by_cases c3 : sv R s 3 = -1 ∨ sv R s 3 = sp
      · rw [if_pos c3, if_pos c3]
      · rw [if_neg c3, if_neg c3]
        by_cases c2 : sv R (sv R s 3) 0 = 2
        · rw [if_pos c2, if_pos c2]
        · rw [if_neg c2, if_neg c2]
          exact thF_k w m k _ (by omega) (by omega) (by omega) (by omega)
    · rw [if_neg c4, if_neg c4]
def thS (R : Nat → Int) (sp : Int) : Int → Int := thF R sp 24
abbrev thn (R : Nat → Int) : Int → Int := thS R (-1)
theorem isTS_t (w : WS n R) (sp : Int) : isTS n R sp (thS R sp) := fun s h0 h1 => by
  have w0 := w.1
  have w1 := (w.2.1 s h0 h1).2.2.1
  have e : thS R sp s = thF R sp (24 + 1) s := thF_k w 24 25 s h0 h1 (by omega) (by omega)
  rw [e, thF]
  rfl
theorem isTH_t (w : WS n R) : isTH n R (thn R) := fun s h0 h1 => by
  have w1 := (w.2.1 s h0 h1).2.2.1
  change thS R (-1) s = _
  rw [isTS_t w (-1) s h0 h1, tl]
  by_cases c4 : sv R s 4 = -1
  · rw [if_pos c4, if_pos c4]
    by_cases c3 : sv R s 3 = -1
    · rw [if_pos (Or.inl c3), if_pos c3]
    · rw [if_neg (by omega), if_neg c3]
  · rw [if_neg c4, if_neg c4]
def clF (R : Nat → Int) (sp : Int) : Nat → Int → Int
  | 0, _ => -1
  | m + 1, s => if sv R s 4 = -1 then (if sv R s 3 = -1 ∨ sv R s 3 = sp then -1 else if sv R (sv R s 3) 0 = 2 then sv R s 3 else clF R sp m (sv R s 3)) else -1
def clS (R : Nat → Int) (sp : Int) : Int → Int := clF R sp 24
/-- a run from p stops at time D; E: the state where it ends, or -1 -/
def RunD (R N : Nat → Int) (th : Int → Int) (al : Int) (p : Int × Int) (D : Nat) (E : Int) : Prop := (D ≤ 3072 ∧ stopT R N th al p D ∧ ∀ t, t < D → ¬ stopT R N th al p t) ∧ (E = -1 → (orb R N th al p D).1 ≠ -1) ∧ (E ≠ -1 → orb R N th al p D = (-1, E) ∧ D ≤ 1536)
theorem run_D (w : WS n R) (v : WN n R N) (hR : thR n th) {p : Int × Int} (hp : pv n p) {E : Int} (hA : E ≠ -1 → ∃ k, orb R N th al p k = (-1, E) ∧ ∀ i, i < k → 0 ≤ (orb R N th al p i).1) (hB : E = -1 → cyc n R N th al 0 p ∧ ∀ k, (orb R N th al p k).1 ≠ -1) : ∃ D, RunD R N th al p D E := by
  by_cases c : E = -1
  · obtain ⟨⟨u, x, i, j, h1, ⟨h2, h3, h4⟩, h5, h6, h7, h8⟩, hn⟩ := hB c
    obtain ⟨u, x, i, j, g1, g2, g3, g4, g5, g6, g7⟩ := cyc_b w v hR hp j u x i j (Nat.le_refl _) h1 ⟨h2, h4⟩ h5 h6 h7 h8
    have g8 := lkT_c (p := p) g3.1 g3.2.2.2.1 g3.2.2.2.2 g4 (j - i - 1) (fun m a b => g6 m a (by omega))
    rw [show i + (j - i - 1 + 1) = j by omega] at g8
    have g9 : stopT R N th al p j := Or.inr (by rw [g5]; exact ⟨g3.1, g8⟩)
    haveI : DecidablePred (stopT R N th al p) := fun _ => Classical.propDecidable _
    obtain ⟨D, d1, d2, d3⟩ := leastN (P := stopT R N th al p) j g9
    exact ⟨D, ⟨by omega, d2, d3⟩, fun _ => hn D, fun e => absurd c e⟩
  · obtain ⟨k, h1, h2⟩ := hA c
    have h3 : ∀ i, i < k → (orb R N th al p i).1 ≠ -1 := fun i hi => by have := h2 i hi; omega
    refine ⟨k, ⟨?_, Or.inl (by rw [h1]), fun t ht hst => ?_⟩, fun e => absurd e c, fun _ => ⟨h1, orb_end w v hR hp (by rw [h1]) h3⟩⟩
    · have := orb_end w v hR hp (k := k) (by rw [h1]) h3
      omega
    · rcases hst with e | ⟨e1, e2⟩
      · exact h3 t ht e
      · have hv : ∀ i, i ≤ t → 0 ≤ (orb R N th al p i).2 ∧ (orb R N th al p i).2 < 64 := fun i hi => (orb_v (al := al) w v hR hp i fun j hj => h3 j (by omega)).2
        obtain ⟨i, hi, he⟩ := lkT_s (hv t (Nat.le_refl _)).1 (hv t (Nat.le_refl _)).2 t (fun i hi => hv i (by omega)) e2
        have he2 : orb R N th al p i = orb R N th al p t := he
        have h4 := orb_per he2 (k - t)
        rw [show t + (k - t) = k by omega, h1] at h4
        exact h3 (i + (k - t)) (by omega) (by rw [h4])
theorem runD_row (w : WS n R) (v : WN n R N) (hE : isET n R N T) (hS : isTS n R sp th) {c st : Int} (h0 : 0 ≤ c) (h1 : c < n) (h2 : 0 ≤ st) (h3 : st < 64) (hsp : sp < c) (ht : tl R th sp (sv R c 3) = -1) : ∃ D, RunD R N th (-1) (c, st) D (rowE T R c st) := by
  refine run_D w v (isTS_thR w hS) ⟨⟨h0, h1⟩, h2, h3⟩ (fun e => ?_) (fun e => ⟨?_, fun k hk => ?_⟩)
  · obtain ⟨k, g1, g2⟩ := (snd (al := -1) w v hE hS n.toNat).2 c st (by omega) h0 h1 (by omega) hsp h2 h3 e
    rw [ht] at g1
    exact ⟨k, g1, fun i hi => Int.le_trans h0 (g2 i hi)⟩
  · exact cyc_w ((div (al := -1) w v hE hS n.toNat).2 c st (by omega) h0 h1 (by omega) hsp h2 h3 e) h0
  · exact ((cmp (al := -1) w v hE hS k).2 c st h0 h1 (by omega) hsp h2 h3 hk).1 e
theorem runD_0 (st : Int) (hst : st ≠ -1) : RunD R N th al (-1, st) 0 st := ⟨⟨by omega, Or.inl rfl, fun t ht => absurd ht (Nat.not_lt_zero _)⟩, fun e => absurd e hst, fun _ => ⟨rfl, by omega⟩⟩
theorem coT_b (w : WS n R) (v : WN n R N) (p : Int × Int) : ∀ (t : Nat), (∀ i, i < t → 0 ≤ (orb R N th al p i).1 ∧ (orb R N th al p i).1 < n) → fpos (coT R N th al p t)
  | 0, _ => fpos_0
  | t + 1, h => by
    have h1 := h t (by omega)
    have hp := (v.2.2 _ h1.1 h1.2).2.2.2.2
    exact fpos_add (coT_b w v p t fun i hi => h i (by omega)) (fpos_prc hp.1 hp.2)
end GOES

