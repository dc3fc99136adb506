/-! If no duty fails, nothing is wrong. -/
section SND
variable {n top : Int} {R N : Nat → Int}
theorem zs_z {f : Int → Int} (hf : ∀ k, 0 ≤ f k) : ∀ (k : Nat) (a : Int), 0 ≤ zsum f a k ∧ (zsum f a k = 0 → ∀ x, a ≤ x → x < a + k → f x = 0)
  | 0, a => ⟨Int.le_refl _, fun _ x h0 h1 => by omega⟩
  | k + 1, a => by
    have ih := zs_z hf k (a + 1)
    have ha := hf a
    refine ⟨by rw [zsum]; omega, fun e x h0 h1 => ?_⟩
    rw [zsum] at e
    by_cases c : x = a
    · subst c; omega
    · exact ih.2 (by omega) x (by omega) (by omega)
theorem sub_0 {x y : BitVec 64} (e : x &&& ~~~ y = 0#64) {st : Int} (h0 : 0 ≤ st) (h1 : st < 64) (h : bt x st = true) : bt y st = true := by
  have q : bt (x &&& ~~~ y) st = false := by rw [e]; exact bt_0 st
  rw [bt_and, bt_not y h0 h1, h] at q
  cases c : bt y st with
  | true => rfl
  | false => rw [c] at q; exact absurd q (by decide)
theorem fl_0 (e : nfC n top R N = 0) {d : Int} (h0 : 0 ≤ d) (h1 : d < dmS n R) : flC n top R N d = 0#64 := by
  have z := (zs_z (f := fun d => if flS n top R N (TT n R N) (NN n R N) d = 0#64 then 0 else 1) (fun k => by split <;> omega) (dmS n R).toNat 0).2 e d h0 (by omega)
  by_cases c : flS n top R N (TT n R N) (NN n R N) d = 0#64
  · exact c
  · rw [if_neg c] at z; exact absurd z (by decide)
theorem lp_of (P : Prg n top R N) {s : Int} (h0 : 0 ≤ s) (h1 : s < n) (k2 : sv R s 0 = 2) : 0 ≤ sv R s 7 ∧ sv R s 7 < cntK R 2 n.toNat ∧ lpAt n R 2 (sv R s 7) = s := by
  have w0 := P.1.1
  have hr := num_r P h0 h1 (Or.inl k2)
  have hcn := (P.2.2.1 s h0 h1).1 (Or.inl k2)
  rw [k2] at hcn
  have hcm := cntK_m R 2 (s.toNat + 1) (n.toNat - (s.toNat + 1))
  rw [show s.toNat + 1 + (n.toNat - (s.toNat + 1)) = n.toNat by omega, cntK_s, show ((s.toNat : Nat) : Int) = s by omega, if_pos k2] at hcm
  refine ⟨hr.1, by omega, ?_⟩
  obtain ⟨⟨l0, l1⟩, lk, ln⟩ := lpAt_ok P.2.2.1 w0.1 (Or.inl rfl) hr.1 (show sv R s 7 < cntK R 2 n.toNat by omega)
  exact num_inj P l0 l1 h0 h1 (Or.inl lk) (by rw [lk, k2]) ln
/-- from its need a statement ends, in the need behind it -/
def oks (n : Int) (R N : Nat → Int) (s : Int) : Prop := ∀ st, 0 ≤ st → st < 64 → bt (NN n R N s) st = true → TT n R N s st ≠ -1 ∧ bt (ahd N (NN n R N) (thn R s)) (TT n R N s st) = true
theorem ahd_n {ND : Int → BitVec 64} {t : Int} (h : t ≠ -1) : ahd N ND t = ND t := if_neg h
theorem rw_ok (P : Prg n top R N) : ∀ (m : Nat) (c st : Int), n - c ≤ m → 0 ≤ c → c < n → (∀ x, c ≤ x → x < n → oks n R N x) → 0 ≤ st → st < 64 → bt (NN n R N c) st = true → rowE (TT n R N) R c st ≠ -1 ∧ bt (ahd N (NN n R N) (tl R (thn R) (-1) (sv R c 3))) (rowE (TT n R N) R c st) = true
  | 0, c, st, hm, h0, h1, H, h2, h3, h4 => by omega
  | m + 1, c, st, hm, h0, h1, H, h2, h3, h4 => by
    have w := P.1
    have w1 := w.2.1 c h0 h1
    obtain ⟨a1, a2⟩ := H c (Int.le_refl _) h1 st h2 h3 h4
    have r := isET_r2 w P.2.1 (isET_t w P.2.1) h0 h1 h2 h3
    rw [rowE_c w h0 h1 (by omega)]
    have t := isTS_t w (-1) c h0 h1
    by_cases g : sv R c 4 = -1
    · rw [if_pos g] at t
      rw [g, rowE_n]
      rw [show thn R c = tl R (thn R) (-1) (sv R c 3) from t] at a2
      exact ⟨a1, a2⟩
    · rw [if_neg g] at t
      rw [show thn R c = sv R c 4 from t, ahd_n g] at a2
      have g4 := w1.2.2.2.1.resolve_left g
      have q := rw_ok P m (sv R c 4) (TT n R N c st) (by omega) (by omega) g4.2.1 (fun x x0 x1 => H x (by omega) x1) (by omega) r.2 a2
      rw [g4.2.2] at q
      exact q
theorem ok_wh (P : Prg n top R N) (e : nfC n top R N = 0) {s : Int} (h0 : 0 ≤ s) (h1 : s < n) (k2 : sv R s 0 = 2) (H : ∀ x, s < x → x < n → oks n R N x) : ∀ (m : Nat) (st : Int), val (lst N (50 + s)) st < m → 0 ≤ st → st < 64 → bt (NN n R N s) st = true → TT n R N s st ≠ -1 ∧ bt (ahd N (NN n R N) (thn R s)) (TT n R N s st) = true := by
  have w := P.1
  have hE := isET_t w P.2.1
  have ND := isND_t (N := N) w s h0 h1
  rw [ndS, if_pos k2] at ND
  obtain ⟨l0, l1, lp⟩ := lp_of P h0 h1 k2
  have d1 := fl_0 e (d := 3 * sv R s 7 + 1) (by omega) (by unfold dmS; omega)
  have d2 := fl_0 e (d := 3 * sv R s 7 + 2) (by omega) (by unfold dmS; omega)
  have d3 := fl_0 e (d := 3 * sv R s 7 + 3) (by omega) (by unfold dmS; omega)
  unfold flC flS at d1 d2 d3
  rw [if_neg (by omega), if_pos (by omega), show (3 * sv R s 7 + 1 - 1) / 3 = sv R s 7 from by omega, lp] at d1
  rw [if_neg (by omega), if_neg (by omega), if_pos (by omega), show (3 * sv R s 7 + 2 - 1) / 3 = sv R s 7 from by omega, lp] at d2
  rw [if_neg (by omega), if_neg (by omega), if_neg (by omega), show (3 * sv R s 7 + 3 - 1) / 3 = sv R s 7 from by omega, lp] at d3
  intro m
  induction m with
  | zero =>
    intro st hv h2 h3
    have vk := val_ok ((P.2.1.2.2 s h0 h1).2.2.1 k2).2.2.2.2 h2 h3
    omega
  | succ m ih =>
    intro st hv h2 h3 hb4
    have kp := hb4
    rw [ND] at kp
    cases hh : hb N s st with
    | false =>
      rw [whE_f hE h0 h1 k2 h2 h3 hh]
      refine ⟨by omega, sub_0 d2 h2 h3 ?_⟩
      rw [bt_and, bt_not _ h2 h3, kp, bt_setL _ h2 h3]
      unfold hb at hh
      rw [hh]
      rfl
    | true =>
      have kc : bt (setL (lst N (26 + s)) &&& setL (lst N (2 + s))) st = true := by
        rw [bt_and, kp, bt_setL _ h2 h3]
        unfold hb at hh
        rw [hh]
        rfl
      have u : bt (unS R N (TT n R N) s (setL (lst N (26 + s)) &&& setL (lst N (2 + s)))) st = false := by rw [d3]; exact bt_0 st
      unfold unS at u
      rw [bt_set _ h2 h3, kc, Bool.true_and] at u
      have ls : lsS R N (TT n R N) s st = true := by
        cases g : lsS R N (TT n R N) s st with
        | true => rfl
        | false => rw [g] at u; exact absurd u (by decide)
      unfold lsS at ls
      have ls := of_decide_eq_true ls
      have rn := sub_0 d1 h2 h3 kc
      have w5 := (w.2.1 s h0 h1).2.2.2.2.1
      have r := rowE_r w P.2.1 hE (s := sv R s 5) (st := st) (by omega) (by omega) h3
      have kx : bt (NN n R N s) (rowE (TT n R N) R (sv R s 5) st) = true := by
        by_cases g : sv R s 5 = -1
        · rw [g, rowE_n]; exact hb4
        · unfold rwN at rn
          rw [if_neg g] at rn
          have g5 := w5.resolve_left g
          have q := (rw_ok P n.toNat (sv R s 5) st (by omega) (by omega) g5.2.1 (fun x x0 x1 => H x (by omega) x1) h2 h3 rn).2
          rw [g5.2.2.1, tl, if_neg (by omega), if_pos k2, ahd_n (by omega)] at q
          exact q
      rw [whE_fix w P.2.1 hE h0 h1 k2 h2 h3 hh, if_neg ls.1]
      exact ih _ (by omega) (by omega) r.2 kx
theorem ok_all (P : Prg n top R N) (e : nfC n top R N = 0) : ∀ (m : Nat) (s : Int), n - s ≤ m → 0 ≤ s → s < n → oks n R N s
  | 0, s, hm, h0, h1 => by omega
  | m + 1, s, hm, h0, h1 => by
    have H : ∀ x, s < x → x < n → oks n R N x := fun x x0 x1 => ok_all P e m x (by omega) (by omega) x1
    have w := P.1
    have hE := isET_t w P.2.1
    have ND := isND_t (N := N) w s h0 h1
    have w1 := w.2.1 s h0 h1
    intro st h2 h3 h4
    by_cases k2 : sv R s 0 = 2
    · have vk := val_ok ((P.2.1.2.2 s h0 h1).2.2.1 k2).2.2.2.2 h2 h3
      exact ok_wh P e h0 h1 k2 H 4 st (by omega) h2 h3 h4
    · rw [ndS, if_neg k2] at ND
      by_cases k1 : sv R s 0 = 1
      · rw [if_pos k1] at ND
        rw [ND, bt_or, bt_and, bt_and, bt_not _ h2 h3, bt_setL _ h2 h3] at h4
        rw [hE s st h0 h1 h2 h3, etS, if_neg k2, if_pos k1]
        have row : ∀ f, (f = -1 ∨ s < f ∧ f < n ∧ sv R f 3 = s) → bt (rwN (NN n R N) f (ahd N (NN n R N) (thn R s))) st = true → rowE (TT n R N) R f st ≠ -1 ∧ bt (ahd N (NN n R N) (thn R s)) (rowE (TT n R N) R f st) = true := fun f hf hb' => by
          unfold rwN at hb'
          by_cases g : f = -1
          · rw [if_pos g] at hb'
            rw [g, rowE_n]
            exact ⟨by omega, hb'⟩
          · rw [if_neg g] at hb'
            have gf := hf.resolve_left g
            have q := rw_ok P n.toNat f st (by omega) (by omega) gf.2.1 (fun x x0 x1 => H x (by omega) x1) h2 h3 hb'
            rw [gf.2.2, tl, if_neg (by omega), if_neg k2] at q
            exact q
        cases hh : hb N s st with
        | true =>
          rw [if_pos rfl]
          unfold hb at hh
          rw [hh] at h4
          refine row _ ?_ ?_
          · rcases w1.2.2.2.2.1 with q | q
            · exact Or.inl q
            · exact Or.inr ⟨q.1, q.2.1, q.2.2.1⟩
          · simpa using h4
        | false =>
          rw [if_neg (by decide)]
          unfold hb at hh
          rw [hh] at h4
          refine row _ ?_ ?_
          · rcases w1.2.2.2.2.2 with q | q
            · exact Or.inl q
            · exact Or.inr ⟨q.1, q.2.1, q.2.2.1⟩
          · simpa using h4
      · rw [if_neg k1] at ND
        rw [ND, bt_set _ h2 h3] at h4
        have r := bhS_r w P.2.1 h0 h1 (by omega) h2 h3
        rw [hE s st h0 h1 h2 h3, etS, if_neg k2, if_neg k1]
        exact ⟨by omega, h4⟩
theorem sound (P : Prg n top R N) (e : nfC n top R N = 0) : wgC n top R N = 0#64 := by
  have w0 := P.1.1
  have ct := cntK_b R 2 n.toNat
  have d0 := fl_0 e (d := 0) (Int.le_refl _) (by unfold dmS; omega)
  unfold flC flS at d0
  rw [if_pos rfl] at d0
  refine bt_ext fun st h2 h3 => ?_
  rw [bt_0]
  unfold wgC wgS
  rw [bt_set _ h2 h3]
  cases c : bt (setL (lst N 0)) st with
  | false => rfl
  | true =>
    have a := sub_0 d0 h2 h3 c
    have q : E0 R (TT n R N) top st ≠ -1 ∧ bt (setL (lst N 1)) (E0 R (TT n R N) top st) = true := by
      rcases P.2.2.2 with ⟨t1, t2⟩ | ⟨t1, t2⟩
      · rw [t2] at a ⊢
        unfold E0
        rw [rowE_n]
        exact ⟨by omega, a⟩
      · rw [t2] at a ⊢
        rw [ahd_n (by decide)] at a
        have q := rw_ok P n.toNat 0 st (by omega) (by omega) t1 (fun x x0 x1 => ok_all P e n.toNat x (by omega) x0 x1) h2 h3 a
        rw [par_0 P.1 t1, tl, if_pos (Or.inl rfl)] at q
        exact q
    rw [q.2, decide_eq_true q.1]
    rfl
end SND
