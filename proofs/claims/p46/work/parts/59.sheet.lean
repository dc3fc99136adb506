/-! Needs as conditions: rows of nodes, at most 200. -/
section SHEET
variable {n top : Int} {R N : Nat → Int}
/-- a row under way; none: it is too long -/
abbrev DO : Type := Option (List Int)
def dpush (d : DO) (x : Int) : DO := d.bind fun l => if l.length = 200 then none else some (l ++ [x])
def dapp (d : DO) : List Int → DO
  | [] => d
  | x :: l => dapp (dpush d x) l
def apO (d r : DO) : DO := r.bind fun l => dapp d l
theorem dapp_n : ∀ (l : List Int), dapp none l = none
  | [] => rfl
  | _ :: l => dapp_n l
theorem dapp_e : ∀ (l a : List Int), a.length ≤ 200 → dapp (some a) l = if (a ++ l).length ≤ 200 then some (a ++ l) else none
  | [], a, h => by rw [List.append_nil, if_pos h]; rfl
  | x :: l, a, h => by
    show dapp (dpush (some a) x) l = _
    have e : dpush (some a) x = if a.length = 200 then none else some (a ++ [x]) := rfl
    rw [e]
    by_cases c : a.length = 200
    · rw [if_pos c, dapp_n, if_neg (by simp only [List.length_append, List.length_cons]; omega)]
    · rw [if_neg c, dapp_e l (a ++ [x]) (by simp; omega), List.append_assoc]
      rfl
theorem dapp_app (d : DO) : ∀ (a b : List Int), dapp d (a ++ b) = dapp (dapp d a) b
  | [], _ => rfl
  | x :: a, b => dapp_app (dpush d x) a b
/-- a variable swapped for an expression -/
def swp (x : Int) (e l : List Int) : List Int := l.flatMap fun y => if y = x then e else [y]
/-- the expression of a filling -/
def flF (f : Int) : List Int := if f % 13 < 4 then [f % 13] else if f % 13 < 7 then [4 + f % 13 - 4] else if f % 13 < 10 then [7, 4 + f % 13 - 7, 1] else [8, 4 + f % 13 - 10, 1]
def hsW (R N : Nat → Int) (s : Int) : Bool := decide (sv R s 0 = 0) || decide (N (2294 + s).toNat ≠ -1)
def swV (R N : Nat → Int) (s : Int) : Int := 4 + if sv R s 0 = 0 then sv R s 1 else N (2294 + s).toNat / 13
def swE (R N : Nat → Int) (s : Int) : List Int := if sv R s 0 = 0 then lst N (2 + s) else flF (N (2294 + s).toNat)
def srW (N : Nat → Int) (W : Int → DO) (t : Int) : DO := if t = -1 then some (lst N 1) else W t
def rwW (N : Nat → Int) (W : Int → DO) (t f : Int) : DO := if f = -1 then srW N W t else W f
/-- the need ahead of a statement as a condition -/
def wdS (R N : Nat → Int) (W : Int → DO) (s : Int) : DO :=
  if sv R s 0 = 2 then some (lst N (26 + s))
  else if sv R s 0 = 1 then apO (dapp (apO (dapp (some []) (16 :: 15 :: lst N (2 + s))) (rwW N W (thn R s) (sv R s 5))) (15 :: 14 :: lst N (2 + s))) (rwW N W (thn R s) (sv R s 6))
  else if hsW R N s = true then apO (some []) ((srW N W (thn R s)).map (swp (swV R N s) (swE R N s)))
  else apO (some []) (srW N W (thn R s))
theorem wdS_congr (w : WS n R) {W W2 : Int → DO} {s : Int} (q0 : 0 ≤ s) (q1 : s < n) (he : ∀ c, 0 ≤ c → c < n → (s < c ∨ sv R c 0 = 2) → W c = W2 c) : wdS R N W s = wdS R N W2 s := by
  have w1 := w.2.1 s q0 q1
  have ht := thn_r w q0 q1
  have ha : srW N W (thn R s) = srW N W2 (thn R s) := by
    unfold srW
    by_cases c : thn R s = -1
    · rw [if_pos c, if_pos c]
    · rw [if_neg c, if_neg c, he _ (by omega) (by omega) (by omega)]
  have hr : ∀ f, (f = -1 ∨ s < f ∧ f < n) → rwW N W (thn R s) f = rwW N W2 (thn R s) f := fun f hf => by
    unfold rwW
    by_cases c : f = -1
    · rw [if_pos c, if_pos c, ha]
    · rw [if_neg c, if_neg c, he f (by omega) (by omega) (by omega)]
  unfold wdS
  rw [ha, hr _ (by omega), hr _ (by omega)]
def tabW (n : Int) (R N : Nat → Int) : Nat → Int → DO
  | 0 => fun s => if sv R s 0 = 2 then some (lst N (26 + s)) else none
  | m + 1 => fun s => if s = n - 1 - m then wdS R N (tabW n R N m) s else tabW n R N m s
theorem tabW_e (m : Nat) (s : Int) : tabW n R N (m + 1) s = if s = n - 1 - m then wdS R N (tabW n R N m) s else tabW n R N m s := rfl
theorem tabW_0 (s : Int) : tabW n R N 0 s = if sv R s 0 = 2 then some (lst N (26 + s)) else none := rfl
/-- the needs as conditions, a row for each statement -/
def WW (n : Int) (R N : Nat → Int) : Int → DO := tabW n R N n.toNat
theorem tabW_w : ∀ (m : Nat) (s : Int), sv R s 0 = 2 → tabW n R N m s = some (lst N (26 + s))
  | 0, s, h => by rw [tabW_0, if_pos h]
  | m + 1, s, h => by
    rw [tabW_e]
    by_cases c : s = n - 1 - m
    · rw [if_pos c, wdS, if_pos h]
    · rw [if_neg c, tabW_w m s h]
theorem tabW_r (w : WS n R) : ∀ (m : Nat), (m : Int) ≤ n → ∀ s, n - m ≤ s → s < n → tabW n R N m s = wdS R N (tabW n R N m) s
  | 0, hm, s, h0, h1 => by omega
  | m + 1, hm, s, h0, h1 => by
    have e : ∀ c, n - m ≤ c ∨ sv R c 0 = 2 → tabW n R N (m + 1) c = tabW n R N m c := fun c hc => by
      rcases hc with hc | hc
      · rw [tabW_e, if_neg (by omega)]
      · rw [tabW_w _ _ hc, tabW_w _ _ hc]
    have hc : wdS R N (tabW n R N m) s = wdS R N (tabW n R N (m + 1)) s := wdS_congr w (by omega) h1 (fun c a b q => (e c (by
      rcases q with q | q
      · exact Or.inl (by omega)
      · exact Or.inr q)).symm)
    by_cases c : s = n - 1 - m
    · rw [show tabW n R N (m + 1) s = wdS R N (tabW n R N m) s by rw [tabW_e, if_pos c]]
      exact hc
    · rw [e s (Or.inl (by omega)), tabW_r w m (by omega) s (by omega) h1]
      exact hc
theorem WW_e (w : WS n R) {s : Int} (h0 : 0 ≤ s) (h1 : s < n) : WW n R N s = wdS R N (WW n R N) s := tabW_r w n.toNat (by have := w.1; omega) s (by omega) h1
theorem WW_w {s : Int} (h : sv R s 0 = 2) : WW n R N s = some (lst N (26 + s)) := tabW_w _ s h
/-- kinds of what a row of nodes leaves, ahead of others -/
theorem ty1_app {x : Int} {T T2 : List Bool} (h : ty1 x T = some T2) (r : List Bool) : ty1 x (T ++ r) = some (T2 ++ r) := by
  unfold ty1 at h ⊢
  split at h
  · rename_i c
    rw [if_pos c, ← Option.some.inj h]; rfl
  · rename_i c0
    rw [if_neg c0]
    split at h
    · rename_i c
      rw [if_pos c]
      split at h
      · rw [← Option.some.inj h]; rfl
      · cases h
    · rename_i c1
      rw [if_neg c1]
      split at h
      · rename_i c
        rw [if_pos c, ← Option.some.inj h]; rfl
      · rename_i c2
        rw [if_neg c2]
        split at h
        · rename_i c
          rw [if_pos c]
          split at h
          · rw [← Option.some.inj h]; rfl
          · cases h
        · rename_i c3
          rw [if_neg c3]
          split at h
          · rename_i c
            rw [if_pos c]
            split at h
            · rw [← Option.some.inj h]; rfl
            · cases h
          · rename_i c4
            rw [if_neg c4]
            split at h
            · rename_i c
              rw [if_pos c]
              split at h
              · rw [← Option.some.inj h]; rfl
              · cases h
            · cases h
theorem tyS_app : ∀ {a b : List Int} {T U : List Bool}, tyS a = some T → tyS b = some U → tyS (a ++ b) = some (T ++ U)
  | [], b, T, U, h, g => by
    have h2 : [] = T := Option.some.inj h
    subst h2
    exact g
  | x :: a, b, T, U, h, g => by
    obtain ⟨T1, h2, h3⟩ := Option.bind_eq_some_iff.mp h
    show (tyS (a ++ b)).bind (ty1 x) = _
    rw [tyS_app h2 g]
    exact ty1_app h3 U
theorem tyS_swp {x : Int} {e : List Int} (hx : 4 ≤ x ∧ x ≤ 6) (he : tyS e = some [false]) : ∀ {l : List Int} {T : List Bool}, tyS l = some T → tyS (swp x e l) = some T
  | [], _, h => h
  | y :: l, T, h => by
    obtain ⟨T1, h2, h3⟩ := Option.bind_eq_some_iff.mp h
    have ih := tyS_swp hx he h2
    show tyS ((if y = x then e else [y]) ++ swp x e l) = some T
    by_cases c : y = x
    · rw [if_pos c, tyS_app he ih]
      subst c
      unfold ty1 at h3
      rw [if_pos (by omega)] at h3
      exact h3
    · rw [if_neg c]
      show (tyS (swp x e l)).bind (ty1 y) = some T
      rw [ih]
      exact h3
theorem flF_ty {f : Int} (h0 : 0 ≤ f) : tyS (flF f) = some [false] := by
  have h1 := Int.emod_nonneg f (show (13 : Int) ≠ 0 by decide)
  have h2 := Int.emod_lt_of_pos f (show (0 : Int) < 13 by decide)
  unfold flF
  generalize f % 13 = t at *
  have h3 := finN (P := fun t => tyS (if t < 4 then [t] else if t < 7 then [4 + t - 4] else if t < 10 then [7, 4 + t - 7, 1] else [8, 4 + t - 10, 1]) = some [false]) (n := 13) (by decide) h1 h2
  exact h3
theorem flF_len (f : Int) : (flF f).length ≤ 3 := by
  unfold flF
  repeat' split
  all_goals simp
/-- a row that stands is a condition, of at most 200 nodes -/
def wOk (d : DO) : Prop := ∀ l, d = some l → tyS l = some [true] ∧ l.length ≤ 200
theorem apO_some {a r : DO} {l : List Int} (h : apO a r = some l) (ha : ∀ x, a = some x → x.length ≤ 200) : ∃ x y, a = some x ∧ r = some y ∧ l = x ++ y ∧ l.length ≤ 200 := by
  obtain ⟨y, h1, h2⟩ := Option.bind_eq_some_iff.mp h
  cases a with
  | none => rw [dapp_n] at h2; cases h2
  | some x =>
    rw [dapp_e y x (ha x rfl)] at h2
    by_cases c : (x ++ y).length ≤ 200
    · rw [if_pos c] at h2
      have h3 := Option.some.inj h2
      exact ⟨x, y, rfl, h1, h3.symm, h3 ▸ c⟩
    · rw [if_neg c] at h2
      cases h2
theorem dapp_some {a : DO} {b l : List Int} (h : dapp a b = some l) (ha : ∀ x, a = some x → x.length ≤ 200) : ∃ x, a = some x ∧ l = x ++ b ∧ l.length ≤ 200 := by
  obtain ⟨x, y, h1, h2, h3, h4⟩ := apO_some (a := a) (r := some b) h ha
  have h5 := Option.some.inj h2
  subst h5
  exact ⟨x, h1, h3, h4⟩
theorem fmOk_len {q : Int} {b : Bool} (h : fmOk N q b) : (lst N q).length ≤ 30 := by
  unfold lst
  rw [upto_len]
  have := h.2.1
  simp only [List.length_nil]
  omega
theorem WW_ok (w : WS n R) (v : WN n R N) : ∀ (m : Nat) (s : Int), n - s ≤ m → 0 ≤ s → s < n → wOk (WW n R N s)
  | 0, s, hm, h0, h1 => by omega
  | m + 1, s, hm, h0, h1 => by
    have w1 := w.2.1 s h0 h1
    have v1 := v.2.2 s h0 h1
    have ht := thn_r w h0 h1
    have hany : ∀ c, 0 ≤ c → c < n → (s < c ∨ sv R c 0 = 2) → wOk (WW n R N c) := fun c a b q => by
      rcases q with q | q
      · exact WW_ok w v m c (by omega) a b
      · intro l hl
        rw [WW_w q] at hl
        have h5 := Option.some.inj hl
        have v2 := ((v.2.2 c a b).2.2.1 q).2.1
        exact ⟨h5 ▸ v2.2.2, h5 ▸ Nat.le_trans (fmOk_len v2) (by omega)⟩
    have hsrc : wOk (srW N (WW n R N) (thn R s)) := by
      unfold srW
      by_cases c : thn R s = -1
      · rw [if_pos c]
        intro l hl
        have h5 := Option.some.inj hl
        exact ⟨h5 ▸ v.2.1.2.2, h5 ▸ Nat.le_trans (fmOk_len v.2.1) (by omega)⟩
      · rw [if_neg c]; exact hany _ (by omega) (by omega) (by omega)
    have hrow : ∀ f, (f = -1 ∨ s < f ∧ f < n) → wOk (rwW N (WW n R N) (thn R s) f) := fun f hf => by
      unfold rwW
      by_cases c : f = -1
      · rw [if_pos c]; exact hsrc
      · rw [if_neg c]; exact hany f (by omega) (by omega) (by omega)
    intro l hl
    rw [WW_e w h0 h1, wdS] at hl
    by_cases c2 : sv R s 0 = 2
    · rw [if_pos c2] at hl
      have h5 := Option.some.inj hl
      have v2 := (v1.2.2.1 c2).2.1
      exact ⟨h5 ▸ v2.2.2, h5 ▸ Nat.le_trans (fmOk_len v2) (by omega)⟩
    · rw [if_neg c2] at hl
      by_cases c1 : sv R s 0 = 1
      · rw [if_pos c1] at hl
        have v2 := v1.2.1 c1
        have l1 : ∀ x, dapp (some []) (16 :: 15 :: lst N (2 + s)) = some x → x.length ≤ 200 := fun x hx => (dapp_some hx (fun y hy => by rw [← Option.some.inj hy]; simp)).choose_spec.2.2
        have l2 : ∀ x, apO (dapp (some []) (16 :: 15 :: lst N (2 + s))) (rwW N (WW n R N) (thn R s) (sv R s 5)) = some x → x.length ≤ 200 := fun x hx => by
          obtain ⟨_, _, _, _, _, h⟩ := apO_some hx l1
          exact h
        obtain ⟨x3, y3, a3, b3, e3, n3⟩ := apO_some hl (fun x hx => (dapp_some hx l2).choose_spec.2.2)
        obtain ⟨x2, a2, e2, n2⟩ := dapp_some a3 l2
        obtain ⟨x1, y1, a1, b1, e1, n1⟩ := apO_some a2 l1
        obtain ⟨x0, a0, e0, n0⟩ := dapp_some a1 (fun y hy => by rw [← Option.some.inj hy]; simp)
        have a00 : [] = x0 := Option.some.inj a0
        subst a00
        have t1 := (hrow _ (by omega) y1 b1).1
        have t3 := (hrow _ (by omega) y3 b3).1
        refine ⟨?_, n3⟩
        have tc := tyS_app v2.2.2 t3
        have t4 : tyS (15 :: 14 :: (lst N (2 + s) ++ y3)) = some [true] := by
          show ((tyS (lst N (2 + s) ++ y3)).bind (ty1 14)).bind (ty1 15) = _
          rw [tc]; rfl
        have t5 := tyS_app t1 t4
        have t6 := tyS_app v2.2.2 t5
        rw [e3, e2, e1, e0]
        have t7 : tyS (16 :: 15 :: (lst N (2 + s) ++ (y1 ++ 15 :: 14 :: (lst N (2 + s) ++ y3)))) = some [true] := by
          show ((tyS (lst N (2 + s) ++ (y1 ++ 15 :: 14 :: (lst N (2 + s) ++ y3)))).bind (ty1 15)).bind (ty1 16) = _
          rw [t6]; rfl
        simpa [List.append_assoc] using t7
      · rw [if_neg c1] at hl
        by_cases ch : hsW R N s = true
        · rw [if_pos ch] at hl
          obtain ⟨x, y, a, b, e, nn⟩ := apO_some hl (fun y hy => by rw [← Option.some.inj hy]; simp)
          have a00 : [] = x := Option.some.inj a
          subst a00
          obtain ⟨z, hz, hz2⟩ := Option.map_eq_some_iff.mp b
          have tz := (hsrc z hz).1
          refine ⟨?_, nn⟩
          rw [e, ← hz2]
          refine tyS_swp ?_ ?_ tz
          · unfold swV
            by_cases c0 : sv R s 0 = 0
            · rw [if_pos c0]; have := w1.2.1 c0; omega
            · rw [if_neg c0]
              have h3 := v1.2.2.2.1 (by omega)
              simp only [hsW, Bool.or_eq_true, decide_eq_true_eq] at ch
              omega
          · unfold swE
            by_cases c0 : sv R s 0 = 0
            · rw [if_pos c0]; exact (v1.1 c0).2.2
            · rw [if_neg c0]
              have h3 := v1.2.2.2.1 (by omega)
              simp only [hsW, Bool.or_eq_true, decide_eq_true_eq] at ch
              exact flF_ty (by omega)
        · rw [if_neg ch] at hl
          obtain ⟨x, y, a, b, e, nn⟩ := apO_some hl (fun y hy => by rw [← Option.some.inj hy]; simp)
          have a00 : [] = x := Option.some.inj a
          subst a00
          exact ⟨by rw [e]; exact (hsrc y b).1, nn⟩
theorem WW_ok2 (P : Prg n top R N) {s : Int} (h0 : 0 ≤ s) (h1 : s < n) : wOk (WW n R N s) := WW_ok P.1 P.2.1 n.toNat s (by omega) h0 h1
end SHEET

