/-! The need as a condition holds where the need holds. -/
section GAP
variable {n top : Int} {R N : Nat → Int}
theorem vCh_all : ∀ (s : Fin 64) (v : Fin 3) (w : Fin 4) (u : Fin 3), f_M_valueIn (f_M_changed (s.val : Int) (v.val : Int) (w.val : Int)) (u.val : Int) = if (u.val : Int) = (v.val : Int) then (w.val : Int) else f_M_valueIn (s.val : Int) (u.val : Int) := by decide +kernel
theorem vCh {st v w u : Int} (h0 : 0 ≤ st) (h1 : st < 64) (h2 : 0 ≤ v) (h3 : v < 3) (h4 : 0 ≤ w) (h5 : w < 4) (h6 : 0 ≤ u) (h7 : u < 3) : f_M_valueIn (f_M_changed st v w) u = if u = v then w else f_M_valueIn st u :=
  finN (P := fun st => f_M_valueIn (f_M_changed st v w) u = if u = v then w else f_M_valueIn st u) (n := 64) (fun s => finN (P := fun v => f_M_valueIn (f_M_changed (s.val : Int) v w) u = if u = v then w else f_M_valueIn (s.val : Int) u) (n := 3) (fun v => finN (P := fun w => f_M_valueIn (f_M_changed (s.val : Int) (v.val : Int) w) u = if u = (v.val : Int) then w else f_M_valueIn (s.val : Int) u) (n := 4) (fun w => finN (P := fun u => f_M_valueIn (f_M_changed (s.val : Int) (v.val : Int) (w.val : Int)) u = if u = (v.val : Int) then (w.val : Int) else f_M_valueIn (s.val : Int) u) (n := 3) (fun u => vCh_all s v w u) h6 h7) h4 h5) h2 h3) h0 h1
theorem evx_app {st x : Int} {T T2 : List Bool} {S : List Int} (ht : ty1 x T = some T2) (hv : vok T S) (Q : List Int) : evx st x (S ++ Q) = evx st x S ++ Q := by
  unfold evx
  rcases ty1_c ht with ⟨ha, _⟩ | ⟨rfl, r, rfl, rfl⟩ | ⟨ha, ⟨_, _, r, rfl, rfl⟩ | ⟨_, r, rfl, rfl⟩ | ⟨_, r, rfl, rfl⟩⟩
  · rw [if_pos ha, if_pos ha]; rfl
  · obtain ⟨v, V, rfl, h2, h3⟩ := vok_c hv
    rw [if_neg (by decide), if_pos (by decide), if_neg (by decide), if_pos (by decide)]; rfl
  · obtain ⟨v, V, rfl, h2, h3⟩ := vok_c hv
    obtain ⟨w, V, rfl, h4, h5⟩ := vok_c h3
    rw [if_neg (by omega), if_neg (by omega), if_neg (by omega), if_neg (by omega)]; rfl
  · obtain ⟨v, V, rfl, h2, h3⟩ := vok_c hv
    obtain ⟨w, V, rfl, h4, h5⟩ := vok_c h3
    rw [if_neg (by omega), if_neg (by omega), if_neg (by omega), if_neg (by omega)]; rfl
  · obtain ⟨v, V, rfl, h2, h3⟩ := vok_c hv
    obtain ⟨w, V, rfl, h4, h5⟩ := vok_c h3
    rw [if_neg (by omega), if_neg (by omega), if_neg (by omega), if_neg (by omega)]; rfl
theorem evs_app {st : Int} (h0 : 0 ≤ st) (h1 : st < 64) : ∀ {a : List Int} {T : List Bool}, tyS a = some T → ∀ b : List Int, evs st (a ++ b) = evs st a ++ evs st b
  | [], _, _, _ => rfl
  | x :: a, T, h, b => by
    obtain ⟨T1, h2, h3⟩ := Option.bind_eq_some_iff.mp h
    show evx st x (evs st (a ++ b)) = evx st x (evs st a) ++ evs st b
    rw [evs_app h0 h1 h2 b, evx_app h3 (evs_ok h0 h1 h2)]
/-- a variable swapped: the worth in the state changed -/
theorem evs_swp {st v : Int} {e : List Int} (h0 : 0 ≤ st) (h1 : st < 64) (h2 : 0 ≤ v) (h3 : v < 3) (he : tyS e = some [false]) : ∀ l : List Int, evs st (swp (4 + v) e l) = evs (f_M_changed st v (val e st)) l
  | [] => rfl
  | y :: l => by
    have hv := val_ok he h0 h1
    show evs st ((if y = 4 + v then e else [y]) ++ swp (4 + v) e l) = evx (f_M_changed st v (val e st)) y (evs (f_M_changed st v (val e st)) l)
    rw [← evs_swp h0 h1 h2 h3 he l]
    by_cases c : y = 4 + v
    · rw [if_pos c, evs_app h0 h1 he, hv.1]
      subst c
      unfold evx
      have a0 : f_M_arity (4 + v) = 0 := by
        unfold f_M_arity
        rw [if_neg (by omega), if_pos (by omega)]
      rw [if_pos a0]
      have sm : f_M_simple (4 + v) (f_M_changed st v (val e st)) = val e st := by
        unfold f_M_simple
        rw [if_neg (by omega), if_pos (by omega), show 4 + v - 4 = v from by omega, vCh h0 h1 h2 h3 hv.2.1 hv.2.2.1 h2 h3, if_pos rfl]
      rw [sm]
      rfl
    · rw [if_neg c]
      show evx st y (evs st (swp (4 + v) e l)) = _
      unfold evx
      by_cases ca : f_M_arity y = 0
      · rw [if_pos ca, if_pos ca]
        have sm : f_M_simple y (f_M_changed st v (val e st)) = f_M_simple y st := by
          unfold f_M_simple
          by_cases c4 : y < 4
          · rw [if_pos c4, if_pos c4]
          · rw [if_neg c4, if_neg c4]
            by_cases c7 : y < 7
            · rw [if_pos c7, if_pos c7, vCh h0 h1 h2 h3 hv.2.1 hv.2.2.1 (by omega) (by omega), if_neg (by omega)]
            · rw [if_neg c7, if_neg c7]
        rw [sm]
      · rw [if_neg ca, if_neg ca]
theorem val_swp {st v : Int} {e : List Int} (h0 : 0 ≤ st) (h1 : st < 64) (h2 : 0 ≤ v) (h3 : v < 3) (he : tyS e = some [false]) (l : List Int) : val (swp (4 + v) e l) st = val l (f_M_changed st v (val e st)) := by
  unfold val
  rw [evs_swp h0 h1 h2 h3 he l]
  rfl
theorem flF_all : ∀ (t : Fin 13) (s : Fin 64), val (if (t.val : Int) < 4 then [(t.val : Int)] else if (t.val : Int) < 7 then [4 + (t.val : Int) - 4] else if (t.val : Int) < 10 then [7, 4 + (t.val : Int) - 7, 1] else [8, 4 + (t.val : Int) - 10, 1]) (s.val : Int) = if (t.val : Int) < 4 then (t.val : Int) else if (t.val : Int) < 7 then f_M_valueIn (s.val : Int) ((t.val : Int) - 4) else if (t.val : Int) < 10 then zand (f_M_valueIn (s.val : Int) ((t.val : Int) - 7) + 1) 3 else zand (f_M_valueIn (s.val : Int) ((t.val : Int) - 10) - 1) 3 := by decide +kernel
theorem flF_v {f st : Int} (hf : 0 ≤ f) (h0 : 0 ≤ st) (h1 : st < 64) : val (flF f) st = flv f st := by
  have t1 := Int.emod_nonneg f (show (13 : Int) ≠ 0 by decide)
  have t2 := Int.emod_lt_of_pos f (show (0 : Int) < 13 by decide)
  unfold flF flv
  rw [Int.tmod_eq_emod_of_nonneg hf]
  generalize f % 13 = t at *
  exact finN (P := fun t => val (if t < 4 then [t] else if t < 7 then [4 + t - 4] else if t < 10 then [7, 4 + t - 7, 1] else [8, 4 + t - 10, 1]) st = if t < 4 then t else if t < 7 then f_M_valueIn st (t - 4) else if t < 10 then zand (f_M_valueIn st (t - 7) + 1) 3 else zand (f_M_valueIn st (t - 10) - 1) 3) (n := 13) (fun t => finN (P := fun st => val (if (t.val : Int) < 4 then [(t.val : Int)] else if (t.val : Int) < 7 then [4 + (t.val : Int) - 4] else if (t.val : Int) < 10 then [7, 4 + (t.val : Int) - 7, 1] else [8, 4 + (t.val : Int) - 10, 1]) st = if (t.val : Int) < 4 then (t.val : Int) else if (t.val : Int) < 7 then f_M_valueIn st ((t.val : Int) - 4) else if (t.val : Int) < 10 then zand (f_M_valueIn st ((t.val : Int) - 7) + 1) 3 else zand (f_M_valueIn st ((t.val : Int) - 10) - 1) 3) (n := 64) (fun s => flF_all t s) h0 h1) t1 t2
theorem ifL_all : ∀ (c : Fin 2) (a : Fin 2) (b : Fin 2), (f_M_joined 16 (f_M_joined 15 (c.val : Int) (a.val : Int)) (f_M_joined 15 (1 - (c.val : Int)) (b.val : Int)) = 1) = ((c.val : Int) = 1 ∧ (a.val : Int) = 1 ∨ ¬ (c.val : Int) = 1 ∧ (b.val : Int) = 1) := by
  intro c a b
  refine propext ?_
  revert c a b
  decide +kernel
/-- a row of nodes says of a state what the set says -/
def sayS (l : List Int) (b : BitVec 64) : Prop := ∀ st, 0 ≤ st → st < 64 → (val l st = 1 ↔ bt b st = true)
theorem say_L (l : List Int) : sayS l (setL l) := fun st h0 h1 => by
  rw [bt_setL l h0 h1, decide_eq_true_eq]
theorem WW_say (P : Prg n top R N) : ∀ (m : Nat) (s : Int), n - s ≤ m → 0 ≤ s → s < n → ∀ l, WW n R N s = some l → sayS l (NN n R N s)
  | 0, s, hm, h0, h1 => by omega
  | m + 1, s, hm, h0, h1 => by
    have w := P.1
    have v := P.2.1
    have w1 := w.2.1 s h0 h1
    have v1 := v.2.2 s h0 h1
    have ht := thn_r w h0 h1
    have ND := isND_t (N := N) w
    have hany : ∀ c, 0 ≤ c → c < n → (s < c ∨ sv R c 0 = 2) → ∀ l, WW n R N c = some l → sayS l (NN n R N c) := fun c a b q => by
      rcases q with q | q
      · exact WW_say P m c (by omega) a b
      · intro l hl
        rw [WW_w q] at hl
        rw [← Option.some.inj hl, ND c a b, ndS, if_pos q]
        exact say_L _
    have hsrc : ∀ l, srW N (WW n R N) (thn R s) = some l → sayS l (ahd N (NN n R N) (thn R s)) := fun l hl => by
      unfold srW at hl
      unfold ahd
      by_cases c : thn R s = -1
      · rw [if_pos c] at hl ⊢
        rw [← Option.some.inj hl]
        exact say_L _
      · rw [if_neg c] at hl ⊢
        exact hany _ (by omega) (by omega) (by omega) l hl
    have okany : ∀ c, 0 ≤ c → c < n → wOk (WW n R N c) := fun c a b => WW_ok2 P a b
    have oksrc : wOk (srW N (WW n R N) (thn R s)) := by
      unfold srW
      by_cases c : thn R s = -1
      · rw [if_pos c]
        intro l hl
        have h5 := Option.some.inj hl
        exact ⟨h5 ▸ v.2.1.2.2, h5 ▸ Nat.le_trans (fmOk_len v.2.1) (by omega)⟩
      · rw [if_neg c]; exact okany _ (by omega) (by omega)
    have hrow : ∀ f, (f = -1 ∨ s < f ∧ f < n) → ∀ l, rwW N (WW n R N) (thn R s) f = some l → (tyS l = some [true] ∧ sayS l (rwN (NN n R N) f (ahd N (NN n R N) (thn R s)))) := fun f hf l hl => by
      unfold rwW at hl
      unfold rwN
      by_cases c : f = -1
      · rw [if_pos c] at hl ⊢; exact ⟨(oksrc l hl).1, hsrc l hl⟩
      · rw [if_neg c] at hl ⊢
        exact ⟨(okany f (by omega) (by omega) l hl).1, hany f (by omega) (by omega) (by omega) l hl⟩
    intro l hl
    rw [ND s h0 h1, ndS]
    rw [WW_e w h0 h1, wdS] at hl
    by_cases c2 : sv R s 0 = 2
    · rw [if_pos c2] at hl ⊢
      rw [← Option.some.inj hl]
      exact say_L _
    · rw [if_neg c2] at hl ⊢
      by_cases c1 : sv R s 0 = 1
      · rw [if_pos c1] at hl ⊢
        have v2 := v1.2.1 c1
        have l1 : ∀ x, dapp (some []) (16 :: 15 :: lst N (2 + s)) = some x → x.length ≤ 200 := fun x hx => (dapp_some hx (fun y hy => by rw [← Option.some.inj hy]; simp)).choose_spec.2.2
        have l2 : ∀ x, apO (dapp (some []) (16 :: 15 :: lst N (2 + s))) (rwW N (WW n R N) (thn R s) (sv R s 5)) = some x → x.length ≤ 200 := fun x hx => by
          obtain ⟨_, _, _, _, _, h⟩ := apO_some hx l1
          exact h
        obtain ⟨x3, y3, a3, b3, e3, n3⟩ := apO_some hl (fun x hx => (dapp_some hx l2).choose_spec.2.2)
        obtain ⟨x2, a2, e2, n2⟩ := dapp_some a3 l2
        obtain ⟨x1, y1, a1, b1, e1, n1⟩ := apO_some a2 l1
        obtain ⟨x0, a0, e0, n0⟩ := dapp_some a1 (fun y hy => by rw [← Option.some.inj hy]; simp)
        have a00 : [] = x0 := Option.some.inj a0
        subst a00
        obtain ⟨t1, q1⟩ := hrow _ (by omega) y1 b1
        obtain ⟨t3, q3⟩ := hrow _ (by omega) y3 b3
        have le : l = 16 :: 15 :: (lst N (2 + s) ++ (y1 ++ 15 :: 14 :: (lst N (2 + s) ++ y3))) := by
          rw [e3, e2, e1, e0]
          simp [List.append_assoc]
        intro st h2 h3
        have vC := val_ok v2.2.2 h2 h3
        have vA := val_ok t1 h2 h3
        have vB := val_ok t3 h2 h3
        have ev : val l st = f_M_joined 16 (f_M_joined 15 (val (lst N (2 + s)) st) (val y1 st)) (f_M_joined 15 (1 - val (lst N (2 + s)) st) (val y3 st)) := by
          have z : evs st l = [f_M_joined 16 (f_M_joined 15 (val (lst N (2 + s)) st) (val y1 st)) (f_M_joined 15 (1 - val (lst N (2 + s)) st) (val y3 st))] := by
            rw [le]
            show evx st 16 (evx st 15 (evs st (lst N (2 + s) ++ (y1 ++ 15 :: 14 :: (lst N (2 + s) ++ y3))))) = _
            rw [evs_app h2 h3 v2.2.2, evs_app h2 h3 t1]
            show evx st 16 (evx st 15 (evs st (lst N (2 + s)) ++ (evs st y1 ++ evx st 15 (evx st 14 (evs st (lst N (2 + s) ++ y3)))))) = _
            rw [evs_app h2 h3 v2.2.2, vC.1, vA.1, vB.1]
            rfl
          unfold val
          rw [z]
          rfl
        rw [ev, bt_or, bt_and, bt_and, bt_not _ h2 h3, bt_setL _ h2 h3]
        have cC := vC.2.2.2 rfl
        have cA := vA.2.2.2 rfl
        have cB := vB.2.2.2 rfl
        have A := ifL_all ⟨(val (lst N (2 + s)) st).toNat, by omega⟩ ⟨(val y1 st).toNat, by omega⟩ ⟨(val y3 st).toNat, by omega⟩
        simp only at A
        rw [show (((val (lst N (2 + s)) st).toNat : Nat) : Int) = val (lst N (2 + s)) st from by omega, show (((val y1 st).toNat : Nat) : Int) = val y1 st from by omega, show (((val y3 st).toNat : Nat) : Int) = val y3 st from by omega] at A
        rw [A, q1 st h2 h3, q3 st h2 h3]
        simp only [Bool.or_eq_true, Bool.and_eq_true, decide_eq_true_eq, Bool.not_eq_true', decide_eq_false_iff_not]
      · rw [if_neg c1] at hl ⊢
        intro st h2 h3
        rw [bt_set _ h2 h3]
        have r := bhS_r w v h0 h1 (by omega) h2 h3
        by_cases ch : hsW R N s = true
        · rw [if_pos ch] at hl
          obtain ⟨x, y, a, b, e, nn⟩ := apO_some hl (fun y hy => by rw [← Option.some.inj hy]; simp)
          have a00 : [] = x := Option.some.inj a
          subst a00
          obtain ⟨z, hz, hz2⟩ := Option.map_eq_some_iff.mp b
          rw [e, ← hz2, List.nil_append]
          unfold swV swE bhS
          unfold bhS at r
          by_cases c0 : sv R s 0 = 0
          · rw [if_pos c0] at r ⊢
            have g := w1.2.1 c0
            rw [if_pos c0, if_pos c0, val_swp h2 h3 (by omega) (by omega) (v1.1 c0).2.2]
            exact hsrc z hz _ r.1 r.2
          · have h3' := v1.2.2.2.1 (by omega)
            simp only [hsW, Bool.or_eq_true, decide_eq_true_eq] at ch
            have nf : ¬ N (2294 + s).toNat = -1 := ch.resolve_left c0
            rw [if_neg c0, if_neg nf] at r ⊢
            rw [if_neg c0, if_neg c0, val_swp h2 h3 (by omega) (by omega) (flF_ty (by omega)), flF_v (by omega) h2 h3]
            exact hsrc z hz _ r.1 r.2
        · rw [if_neg ch] at hl
          obtain ⟨x, y, a, b, e, nn⟩ := apO_some hl (fun y hy => by rw [← Option.some.inj hy]; simp)
          have a00 : [] = x := Option.some.inj a
          subst a00
          have ch2 : ¬ sv R s 0 = 0 ∧ N (2294 + s).toNat = -1 := by
            simp only [hsW, Bool.or_eq_true, decide_eq_true_eq] at ch
            exact ⟨fun q => ch (Or.inl q), Classical.byContradiction fun q => ch (Or.inr q)⟩
          unfold bhS
          rw [if_neg ch2.1, if_pos ch2.2, e, List.nil_append]
          exact hsrc y b st h2 h3
theorem gap_0 (P : Prg n top R N) {s : Int} (h0 : 0 ≤ s) (h1 : s < n) : gpS (WW n R N s) (NN n R N s) = 0 := by
  cases e : WW n R N s with
  | none => rfl
  | some l =>
    refine zsum_0 _ _ fun st h2 h3 => ?_
    unfold gpF
    rw [if_pos (WW_say P n.toNat s (by omega) h0 h1 l e st h2 (by omega))]
end GAP
