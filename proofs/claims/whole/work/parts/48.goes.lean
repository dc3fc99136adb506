/-! The reference: runs, to their ends or till they come round. -/
section GOES
variable {n top : Int} {R N : Nat → Int} {th cl : Int → Int} {al sp : Int} {T : Int → Int → Int}
def thF (R : Nat → Int) (sp : Int) : Nat → Int → Int
  | 0, _ => -1
  | m + 1, s => if sv R s 4 = -1 then (if sv R s 3 = -1 ∨ sv R s 3 = sp then -1 else if sv R (sv R s 3) 0 = 2 then sv R s 3 else thF R sp m (sv R s 3)) else sv R s 4
theorem thF_k (w : WS n R) : ∀ (m k : Nat) (s : Int), 0 ≤ s → s < n → s < m → s < k → thF R sp m s = thF R sp k s
  | 0, _, s, h0, h1, h2, h3 => by omega
  | _ + 1, 0, s, h0, h1, h2, h3 => by omega
  | m + 1, k + 1, s, h0, h1, h2, h3 => by
    have w1 := (w.2.1 s h0 h1).2.2.1
    rw [thF, thF]
    by_cases c4 : sv R s 4 = -1
    · rw [if_pos c4, if_pos c4]
      by_cases c3 : sv R s 3 = -1 ∨ sv R s 3 = sp
      · rw [if_pos c3, if_pos c3]
      · rw [if_neg c3, if_neg c3]
        by_cases c2 : sv R (sv R s 3) 0 = 2
        · rw [if_pos c2, if_pos c2]
        · rw [if_neg c2, if_neg c2]
          exact thF_k w m k _ (by omega) (by omega) (by omega) (by omega)
    · rw [if_neg c4, if_neg c4]
def thS (R : Nat → Int) (sp : Int) : Int → Int := thF R sp 24
abbrev thn (R : Nat → Int) : Int → Int := thS R (-1)
theorem isTS_t (w : WS n R) (sp : Int) : isTS n R sp (thS R sp) := fun s h0 h1 => by
  have w0 := w.1
  have w1 := (w.2.1 s h0 h1).2.2.1
  have e : thS R sp s = thF R sp (24 + 1) s := thF_k w 24 25 s h0 h1 (by omega) (by omega)
  rw [e, thF]
  rfl
theorem isTH_t (w : WS n R) : isTH n R (thn R) := fun s h0 h1 => by
  have w1 := (w.2.1 s h0 h1).2.2.1
  change thS R (-1) s = _
  rw [isTS_t w (-1) s h0 h1, tl]
  by_cases c4 : sv R s 4 = -1
  · rw [if_pos c4, if_pos c4]
    by_cases c3 : sv R s 3 = -1
    · rw [if_pos (Or.inl c3), if_pos c3]
    · rw [if_neg (by omega), if_neg c3]
  · rw [if_neg c4, if_neg c4]
theorem isTH_u (w : WS n R) {th : Int → Int} (h : isTH n R th) : ∀ (m : Nat) (s : Int), s < m → 0 ≤ s → s < n → th s = thn R s
  | 0, s, h2, h0, h1 => by omega
  | m + 1, s, h2, h0, h1 => by
    have w1 := (w.2.1 s h0 h1).2.2.1
    rw [h s h0 h1, isTH_t w s h0 h1]
    by_cases c4 : sv R s 4 = -1
    · rw [if_pos c4, if_pos c4]
      by_cases c3 : sv R s 3 = -1
      · rw [if_pos c3, if_pos c3]
      · rw [if_neg c3, if_neg c3]
        by_cases c2 : sv R (sv R s 3) 0 = 2
        · rw [if_pos c2, if_pos c2]
        · rw [if_neg c2, if_neg c2]; exact isTH_u w h m _ (by omega) (by omega) (by omega)
    · rw [if_neg c4, if_neg c4]
def clF (R : Nat → Int) (sp : Int) : Nat → Int → Int
  | 0, _ => -1
  | m + 1, s => if sv R s 4 = -1 then (if sv R s 3 = -1 ∨ sv R s 3 = sp then -1 else if sv R (sv R s 3) 0 = 2 then sv R s 3 else clF R sp m (sv R s 3)) else -1
theorem clF_k (w : WS n R) : ∀ (m k : Nat) (s : Int), 0 ≤ s → s < n → s < m → s < k → clF R sp m s = clF R sp k s
  | 0, _, s, h0, h1, h2, h3 => by omega
  | _ + 1, 0, s, h0, h1, h2, h3 => by omega
  | m + 1, k + 1, s, h0, h1, h2, h3 => by
    have w1 := (w.2.1 s h0 h1).2.2.1
    rw [clF, clF]
    by_cases c4 : sv R s 4 = -1
    · rw [if_pos c4, if_pos c4]
      by_cases c3 : sv R s 3 = -1 ∨ sv R s 3 = sp
      · rw [if_pos c3, if_pos c3]
      · rw [if_neg c3, if_neg c3]
        by_cases c2 : sv R (sv R s 3) 0 = 2
        · rw [if_pos c2, if_pos c2]
        · rw [if_neg c2, if_neg c2]
          exact clF_k w m k _ (by omega) (by omega) (by omega) (by omega)
    · rw [if_neg c4, if_neg c4]
def clS (R : Nat → Int) (sp : Int) : Int → Int := clF R sp 24
theorem isCL_t (w : WS n R) (sp : Int) : isCL n R sp (clS R sp) := fun s h0 h1 => by
  have w0 := w.1
  have w1 := (w.2.1 s h0 h1).2.2.1
  have e : clS R sp s = clF R sp (24 + 1) s := clF_k w 24 25 s h0 h1 (by omega) (by omega)
  rw [e, clF]
  rfl
/-- a run from p stops at time D; E: the state where it ends, or -1 -/
def RunD (R N : Nat → Int) (th : Int → Int) (al : Int) (p : Int × Int) (D : Nat) (E : Int) : Prop := (D ≤ 3072 ∧ stopT R N th al p D ∧ ∀ t, t < D → ¬ stopT R N th al p t) ∧ (E = -1 → (orb R N th al p D).1 ≠ -1) ∧ (E ≠ -1 → orb R N th al p D = (-1, E) ∧ D ≤ 1536)
theorem run_D (w : WS n R) (v : WN n R N) (hR : thR n th) {p : Int × Int} (hp : pv n p) {E : Int} (hA : E ≠ -1 → ∃ k, orb R N th al p k = (-1, E) ∧ ∀ i, i < k → 0 ≤ (orb R N th al p i).1) (hB : E = -1 → cyc n R N th al 0 p ∧ ∀ k, (orb R N th al p k).1 ≠ -1) : ∃ D, RunD R N th al p D E := by
  by_cases c : E = -1
  · obtain ⟨⟨u, x, i, j, h1, ⟨h2, h3, h4⟩, h5, h6, h7, h8⟩, hn⟩ := hB c
    obtain ⟨u, x, i, j, g1, g2, g3, g4, g5, g6, g7⟩ := cyc_b w v hR hp j u x i j (Nat.le_refl _) h1 ⟨h2, h4⟩ h5 h6 h7 h8
    have g8 := lkT_c (p := p) g3.1 g3.2.2.2.1 g3.2.2.2.2 g4 (j - i - 1) (fun m a b => g6 m a (by omega))
    rw [show i + (j - i - 1 + 1) = j by omega] at g8
    have g9 : stopT R N th al p j := Or.inr (by rw [g5]; exact ⟨g3.1, g8⟩)
    haveI : DecidablePred (stopT R N th al p) := fun _ => Classical.propDecidable _
    obtain ⟨D, d1, d2, d3⟩ := leastN (P := stopT R N th al p) j g9
    exact ⟨D, ⟨by omega, d2, d3⟩, fun _ => hn D, fun e => absurd c e⟩
  · obtain ⟨k, h1, h2⟩ := hA c
    have h3 : ∀ i, i < k → (orb R N th al p i).1 ≠ -1 := fun i hi => by have := h2 i hi; omega
    refine ⟨k, ⟨?_, Or.inl (by rw [h1]), fun t ht hst => ?_⟩, fun e => absurd e c, fun _ => ⟨h1, orb_end w v hR hp (by rw [h1]) h3⟩⟩
    · have := orb_end w v hR hp (k := k) (by rw [h1]) h3
      omega
    · rcases hst with e | ⟨e1, e2⟩
      · exact h3 t ht e
      · have hv : ∀ i, i ≤ t → 0 ≤ (orb R N th al p i).2 ∧ (orb R N th al p i).2 < 64 := fun i hi => (orb_v (al := al) w v hR hp i fun j hj => h3 j (by omega)).2
        obtain ⟨i, hi, he⟩ := lkT_s (hv t (Nat.le_refl _)).1 (hv t (Nat.le_refl _)).2 t (fun i hi => hv i (by omega)) e2
        have he2 : orb R N th al p i = orb R N th al p t := he
        have h4 := orb_per he2 (k - t)
        rw [show t + (k - t) = k by omega, h1] at h4
        exact h3 (i + (k - t)) (by omega) (by rw [h4])
theorem runD_row (w : WS n R) (v : WN n R N) (hE : isET n R N T) (hS : isTS n R sp th) {c st : Int} (h0 : 0 ≤ c) (h1 : c < n) (h2 : 0 ≤ st) (h3 : st < 64) (hsp : sp < c) (ht : tl R th sp (sv R c 3) = -1) : ∃ D, RunD R N th (-1) (c, st) D (rowE T R c st) := by
  refine run_D w v (isTS_thR w hS) ⟨⟨h0, h1⟩, h2, h3⟩ (fun e => ?_) (fun e => ⟨?_, fun k hk => ?_⟩)
  · obtain ⟨k, g1, g2⟩ := (snd (al := -1) w v hE hS n.toNat).2 c st (by omega) h0 h1 (by omega) hsp h2 h3 e
    rw [ht] at g1
    exact ⟨k, g1, fun i hi => Int.le_trans h0 (g2 i hi)⟩
  · exact cyc_w ((div (al := -1) w v hE hS n.toNat).2 c st (by omega) h0 h1 (by omega) hsp h2 h3 e) h0
  · exact ((cmp (al := -1) w v hE hS k).2 c st h0 h1 (by omega) hsp h2 h3 hk).1 e
theorem runD_loop (w : WS n R) (v : WN n R N) (hE : isET n R N T) (hS : isTS n R sp th) {s st : Int} (h0 : 0 ≤ s) (h1 : s < n) (h2 : 0 ≤ st) (h3 : st < 64) (hsp : sp < s) (hk : sv R s 0 = 2) : ∃ D, RunD R N th s (s, st) D (T s st) := by
  refine run_D w v (isTS_thR w hS) ⟨⟨h0, h1⟩, h2, h3⟩ (fun e => ?_) (fun e => ⟨?_, fun k hk2 => ?_⟩)
  · obtain ⟨k, g0, g1, g2⟩ := (snd (al := s) w v hE hS n.toNat).1 s st (by omega) h0 h1 (Int.le_refl _) hsp h2 h3 (fun _ => hk) e
    rw [exS, if_pos rfl] at g1
    exact ⟨k, g1, fun i hi => Int.le_trans h0 (g2 i hi)⟩
  · exact cyc_w ((div (al := s) w v hE hS n.toNat).1 s st (by omega) h0 h1 (Int.le_refl _) hsp h2 h3 (fun _ => hk) e) h0
  · exact ((cmp (al := s) w v hE hS k).1 s st h0 h1 (Int.le_refl _) hsp h2 h3 (fun _ => hk) hk2).1 e
theorem runD_0 (st : Int) (hst : st ≠ -1) : RunD R N th al (-1, st) 0 st := ⟨⟨by omega, Or.inl rfl, fun t ht => absurd ht (Nat.not_lt_zero _)⟩, fun e => absurd e hst, fun _ => ⟨rfl, by omega⟩⟩
theorem tnT_b (p : Int × Int) : ∀ (t : Nat) (l : Int), 0 ≤ tnT R N th cl al p t l ∧ tnT R N th cl al p t l ≤ t
  | 0, l => ⟨Int.le_refl _, Int.le_refl _⟩
  | t + 1, l => by
    have := tnT_b p t l
    simp only [tnT, tnS]
    repeat' split
    all_goals omega
theorem coT_b (w : WS n R) (v : WN n R N) (p : Int × Int) : ∀ (t : Nat), (∀ i, i < t → 0 ≤ (orb R N th al p i).1 ∧ (orb R N th al p i).1 < n) → fpos (coT R N th al p t)
  | 0, _ => fpos_0
  | t + 1, h => by
    have h1 := h t (by omega)
    have hp := (v.2.2 _ h1.1 h1.2).2.2.2.2
    exact fpos_add (coT_b w v p t fun i hi => h i (by omega)) (fpos_prc hp.1 hp.2)
/-- how a run leaves the heap -/
def RunE (R N : Nat → Int) (th cl : Int → Int) (al : Int) (p : Int × Int) (D : Nat) (E : Int) (m0 : Int → BitVec 64) (h : zH) : Prop := hI h 177 29 = (if E = -1 then 0 else 1) ∧ RSt h (orb R N th al p D).2 D (coT R N th al p D) (lkT R N th al p D) (tnT R N th cl al p D) (msT R N th cl al p D) (mtT R N th al p m0 (D + if E = -1 then 1 else 0))
theorem l_goesThrough (w : WS n R) (v : WN n R N) (hS : isTS n R sp th) (hC : isCL n R sp cl) {p : Int × Int} (hp : pv n p) {D : Nat} {E : Int} (hD : RunD R N th al p D E) (m0 : Int → BitVec 64) : ∀ (m t : Nat) (h : zH), MB n top R N h → t + m = D → (orb R N th al p t).1 ≠ -1 → hI h 177 27 = (orb R N th al p t).1 → hI h 177 29 = 0 → RSt h (orb R N th al p t).2 t (coT R N th al p t) (lkT R N th al p t) (tnT R N th cl al p t) (msT R N th cl al p t) (mtT R N th al p m0 t) → ∃ h2, zY 269 21 [some (zR (some 177)), some (zI al), some (zI sp), some (zI 1)] [] h = some (.inl none, h2) ∧ RunE R N th cl al p D E m0 h2 ∧ Fr scrR h h2 := by
  intro m
  obtain ⟨⟨d1, d2, d3⟩, d4, d5⟩ := hD
  have hR := isTS_thR w hS
  have hnn : ∀ i, i < D → (orb R N th al p i).1 ≠ -1 := fun i hi e => d3 i hi (Or.inl e)
  have hv : ∀ i, i < D → pv n (orb R N th al p i) := fun i hi => by
    have h1 := orb_v (al := al) w v hR hp i fun j hj => hnn j (by omega)
    exact ⟨h1.1.resolve_left (hnn i hi), h1.2⟩
  induction m with
  | zero =>
    intro t h M ht hne ha he S
    obtain rfl : t = D := by omega
    have h1 := orb_v (al := al) w v hR hp t fun j hj => hnn j hj
    have h2 : pv n (orb R N th al p t) := ⟨h1.1.resolve_left hne, h1.2⟩
    have hE : E = -1 := by
      by_cases c : E = -1
      · exact c
      · exact absurd (by rw [(d5 c).1]) hne
    have hdet := d2.resolve_left hne
    have hco := coT_b w v (th := th) (al := al) p t fun i hi => (hv i hi).1
    obtain ⟨h3, e3, S3, he3, F3⟩ := (c_stepsOn M w v hS hC h2.1.1 h2.1.2 h2.2.1 h2.2.2 ha he S ⟨by omega, by omega⟩ hco (fun l _ _ => by have := tnT_b (R := R) (N := N) (th := th) (cl := cl) (al := al) p t l; omega)).1 hdet
    rw [q_M_goesThrough_21 M.1, if_neg (by decide), e3, q_M_goesThrough_r31 (KM_f M.1 F3 rfl), if_pos rfl, q_M_goesThrough_21 (KM_f M.1 F3 rfl), if_pos rfl]
    refine ⟨h3, rfl, ⟨by rw [if_pos hE]; exact he3, ?_⟩, F3⟩
    rw [if_pos hE]
    exact S3
  | succ m ih =>
    intro t h M ht hne ha he S
    have h2 := hv t (by omega)
    have hst := d3 t (by omega)
    have hco := coT_b w v (th := th) (al := al) p t fun i hi => (hv i (by omega)).1
    have hnd : ¬ (sv R (orb R N th al p t).1 0 = 2 ∧ bt (lkT R N th al p t (orb R N th al p t).1) (orb R N th al p t).2 = true) := fun e => hst (Or.inr e)
    obtain ⟨h3, e3, ⟨P1, P2, P3⟩, F3⟩ := (c_stepsOn M w v hS hC h2.1.1 h2.1.2 h2.2.1 h2.2.2 ha he S ⟨by omega, by omega⟩ hco (fun l _ _ => by have := tnT_b (R := R) (N := N) (th := th) (cl := cl) (al := al) p t l; omega)).2 hnd
    have M3 := MB_f M F3 rfl
    rw [q_M_goesThrough_21 M.1, if_neg (by decide), e3, q_M_goesThrough_r31 M3.1, if_neg (by decide)]
    have S3 : RSt h3 (orb R N th al p (t + 1)).2 ((t + 1 : Nat) : Int) (coT R N th al p (t + 1)) (lkT R N th al p (t + 1)) (tnT R N th cl al p (t + 1)) (msT R N th cl al p (t + 1)) (mtT R N th al p m0 (t + 1)) := P3
    by_cases c : (orb R N th al p (t + 1)).1 = -1
    · have hD2 : t + 1 = D := by
        by_cases g : t + 1 = D
        · exact g
        · exact absurd c (hnn (t + 1) (by omega))
      have hE : E ≠ -1 := fun e => d4 e (by rw [← hD2]; exact c)
      have he3 : hI h3 177 29 = 1 := P1 c
      rw [if_neg (by rw [he3]; decide), q_M_goesThrough_21 M3.1, if_pos rfl]
      refine ⟨h3, rfl, ⟨by rw [if_neg hE]; exact he3, ?_⟩, F3⟩
      rw [if_neg hE, ← hD2]
      exact S3
    · obtain ⟨he3, ha3⟩ := P2 c
      rw [if_pos he3]
      obtain ⟨h4, e4, E4, F4⟩ := ih (t + 1) h3 M3 (by omega) c ha3 he3 S3
      exact ⟨h4, e4, E4, Fr_t F3 F4⟩
end GOES
