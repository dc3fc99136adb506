/-! The class: what is asked, answered. -/
section CASK
variable {h h2 : zH} {p v : Nat} {n top : Int} {R N : Nat → Int} {c : Nat} {Ol : Nat → Nat → Int} {s0 s1 : Option (Nat → Int)} {I : Nat → Int} {m : Int} {O : List Int} {ec ep : Int}
theorem J_K (J : CJ h p v (n, top, R, N, c, Ol, s0, s1, I, m, O, ec, ep)) : KC h := CA_K J.1
theorem J_P (J : CJ h p v (n, top, R, N, c, Ol, s0, s1, I, m, O, ec, ep)) : PO h p n R := CR_P (CA_C J.1)
theorem J_V (J : CJ h p v (n, top, R, N, c, Ol, s0, s1, I, m, O, ec, ep)) : VO h v n R N := CR_V (CA_C J.1)
theorem J_S (J : CJ h p v (n, top, R, N, c, Ol, s0, s1, I, m, O, ec, ep)) : SC h n R N := CR_S (CA_C J.1)
theorem J_rp (J : CJ h p v (n, top, R, N, c, Ol, s0, s1, I, m, O, ec, ep)) : hR h 0 13 = some p := J.2.2.1.1
theorem J_rv (J : CJ h p v (n, top, R, N, c, Ol, s0, s1, I, m, O, ec, ep)) : hR h 0 14 = some v := J.2.2.1.2
theorem J_rq (J : CJ h p v (n, top, R, N, c, Ol, s0, s1, I, m, O, ec, ep)) : hR h 132 2 = some p := CR_rq (CA_C J.1)
theorem J_ps (J : CJ h p v (n, top, R, N, c, Ol, s0, s1, I, m, O, ec, ep)) : PS h p := PO_S (J_P J)
theorem J_vs (J : CJ h p v (n, top, R, N, c, Ol, s0, s1, I, m, O, ec, ep)) : VS h v := (J_V J).1
theorem J_n (J : CJ h p v (n, top, R, N, c, Ol, s0, s1, I, m, O, ec, ep)) {s : Int} (h0 : 0 ≤ s) (h1 : s < n) : hJ h 133 s.toNat = NN n R N s := J.1.1.2 s h0 h1
theorem J_ahd (J : CJ h p v (n, top, R, N, c, Ol, s0, s1, I, m, O, ec, ep)) {t : Int} (ht : t = -1 ∨ 0 ≤ t ∧ t < n) : f_D_ahead h t = ahd N (NN n R N) t := by
  have b := PO_b (J_P J)
  refine ahead_e (J_S J) ?_
  rcases ht with h1 | h1
  · exact Or.inl h1
  · exact Or.inr ⟨h1.1, by omega, J_n J h1.1 h1.2⟩
theorem dmS_le (Q : Prg n top R N) : 1 ≤ dmS n R ∧ dmS n R ≤ 73 := by
  have := cnt_b Q 2
  unfold dmS
  omega
theorem J_fl (J : CJ h p v (n, top, R, N, c, Ol, s0, s1, I, m, O, ec, ep)) (Q : Prg n top R N) {d : Int} (h0 : 0 ≤ d) (h1 : d < dmS n R) : f_D_failingStates h d = flC n top R N d := by
  have b := dmS_le Q
  unfold f_D_failingStates
  rw [if_neg (by omega), if_pos (by omega), J.1.2 d h0 (by omega), if_pos h1]
theorem lp_num {kd l : Int} (e : lpAt n R kd l ≠ -1) : sv R (lpAt n R kd l) 7 = l := by
  unfold lpAt at e ⊢
  rcases zfind_r (p := fun k => sv R k 0 = kd ∧ sv R k 7 = l) n.toNat 0 with a | a
  · exact absurd a e
  · exact a.2.2.2
theorem k_errorCode (J : CJ h p v (n, top, R, N, c, Ol, s0, s1, I, m, O, ec, ep)) : CW h 147 [] (t3 0 0 0) ((0, zI ec), (n, top, R, N, c, Ol, s0, s1, I, m, O, ec, ep)) :=
  CW_ret0 J (by rw [q_B_errorCode (J_K J), J.2.2.2.2.2.2.1])
theorem k_before (J : CJ h p v (n, top, R, N, c, Ol, s0, s1, I, m, O, ec, ep)) : CW h 149 [] (t3 0 0 0) ((0, zJ (setL (lst N 0))), (n, top, R, N, c, Ol, s0, s1, I, m, O, ec, ep)) :=
  CW_ret0 J (by rw [q_B_before (J_K J), (J_S J).1])
theorem k_after (J : CJ h p v (n, top, R, N, c, Ol, s0, s1, I, m, O, ec, ep)) : CW h 150 [] (t3 0 0 0) ((0, zJ (setL (lst N 1))), (n, top, R, N, c, Ol, s0, s1, I, m, O, ec, ep)) :=
  CW_ret0 J (by rw [q_B_after (J_K J), (J_S J).2.1])
theorem k_loopSet (J : CJ h p v (n, top, R, N, c, Ol, s0, s1, I, m, O, ec, ep)) (Q : Prg n top R N) (hz : hN h < zVB) (l x : Int) : CW h 167 [zI l, zI x] (t3 3 0 0) (aLoopSet n R N l x, (n, top, R, N, c, Ol, s0, s1, I, m, O, ec, ep)) := by
  have hq := q_B_loopSet (h := h) (x1 := l) (x2 := x) (J_K J)
  rw [rq_loop (J_K J) (J_rp J) (J_P J) Q l] at hq
  unfold aLoopSet
  rcases lpAt_c Q (Or.inl rfl) l with ⟨lo, ⟨l0, l1⟩, lk⟩ | ⟨_, ln⟩
  · have ne : lpAt n R 2 l ≠ -1 := by omega
    rw [if_neg ne] at hq ⊢
    rw [q_B_loopSet_r5 (J_K J) (J_rp J) (J_ps J), PO_loopAt (J_P J) Q.2.2.1 l] at hq
    by_cases x0 : x = 0
    · rw [if_pos x0] at hq ⊢
      rw [condOf_e Q (J_S J) l0 l1 (Or.inr lk)] at hq
      exact CW_ret0 J hq
    · rw [if_neg x0] at hq ⊢
      by_cases x1 : x = 1
      · rw [if_pos x1] at hq ⊢
        have ke := keepOf_e Q (J_S J) l0 l1 lk
        rw [lp_num ne] at ke
        rw [ke] at hq
        exact CW_ret0 J hq
      · rw [if_neg x1] at hq ⊢
        exact CW_thr J hz (by decide) hq
  · rw [if_pos ln] at hq ⊢
    exact CW_thr J hz (by decide) (hq.trans rfl)
theorem k_less (J : CJ h p v (n, top, R, N, c, Ol, s0, s1, I, m, O, ec, ep)) (Q : Prg n top R N) (hz : hN h < zVB) (l x : Int) : CW h 169 [zI l, zI x] (t3 3 0 0) (aLess n R N l x, (n, top, R, N, c, Ol, s0, s1, I, m, O, ec, ep)) := by
  have hq := q_B_less (h := h) (x1 := l) (x2 := x) (J_K J)
  rw [rq_loop (J_K J) (J_rp J) (J_P J) Q l] at hq
  unfold aLess
  rcases lpAt_c Q (Or.inl rfl) l with ⟨lo, ⟨l0, l1⟩, lk⟩ | ⟨_, ln⟩
  · have ne : lpAt n R 2 l ≠ -1 := by omega
    rw [if_neg ne] at hq ⊢
    rw [q_B_less_r5 (J_K J), rq_state (J_K J)] at hq
    by_cases x0 : 0 ≤ x ∧ x < 64
    · rw [if_pos x0] at hq ⊢
      have le := lessOf_e Q (J_S J) l0 l1 lk x0.1 x0.2
      rw [lp_num ne] at le
      rw [q_B_less_r10 (J_K J), le] at hq
      exact CW_ret0 J hq
    · rw [if_neg x0] at hq ⊢
      exact CW_thr J hz (by decide) (hq.trans rfl)
  · rw [if_pos ln] at hq ⊢
    exact CW_thr J hz (by decide) (hq.trans rfl)
theorem k_need (J : CJ h p v (n, top, R, N, c, Ol, s0, s1, I, m, O, ec, ep)) (hz : hN h < zVB) (s : Int) : CW h 171 [zI s] (t3 3 0 0) (aNeed n R N s, (n, top, R, N, c, Ol, s0, s1, I, m, O, ec, ep)) := by
  have hq := q_B_need (h := h) (x1 := s) (J_K J)
  rw [rq_statement (J_K J) (J_rp J) (J_P J) s] at hq
  unfold aNeed
  by_cases cs : 0 ≤ s ∧ s < n
  · rw [if_pos cs] at hq ⊢
    have ha := J_ahd J (Or.inr cs)
    unfold ahd at ha
    rw [if_neg (by omega)] at ha
    rw [q_B_need_r5 (J_K J), ha] at hq
    exact CW_ret0 J hq
  · rw [if_neg cs] at hq ⊢
    exact CW_thr J hz (by decide) (hq.trans rfl)
theorem k_needAhead (J : CJ h p v (n, top, R, N, c, Ol, s0, s1, I, m, O, ec, ep)) (Q : Prg n top R N) : CW h 151 [] (t3 0 0 0) ((0, zJ (ahd N (NN n R N) top)), (n, top, R, N, c, Ol, s0, s1, I, m, O, ec, ep)) := by
  have hq := q_B_needAhead (h := h) (J_K J) (J_rp J) (J_ps J)
  rw [PO_start (J_P J) Q.2.2.2, J_ahd J (top_r Q)] at hq
  exact CW_ret0 J hq
theorem k_duty (J : CJ h p v (n, top, R, N, c, Ol, s0, s1, I, m, O, ec, ep)) (Q : Prg n top R N) (hz : hN h < zVB) (d x : Int) : CW h 172 [zI d, zI x] (t3 3 0 0) (aDuty n top R N d x, (n, top, R, N, c, Ol, s0, s1, I, m, O, ec, ep)) := by
  have b := dmS_le Q
  have hq := q_B_duty (h := h) (x1 := d) (x2 := x) (J_K J)
  rw [rq_duty (J_K J) (J_rq J) (J_P J) Q d] at hq
  unfold aDuty
  by_cases cd : 0 ≤ d ∧ d < dmS n R
  · rw [if_pos cd] at hq ⊢
    rw [q_B_duty_r5 (J_K J) (J_rp J) (J_ps J), PO_loopAt (J_P J) Q.2.2.1, J_fl J Q cd.1 cd.2, bitc_e, leastc_e] at hq
    by_cases x0 : x = 0
    · rw [if_pos x0] at hq
      rw [if_pos (by omega), if_pos x0]
      by_cases d0 : d = 0
      · rw [if_pos d0] at hq ⊢
        exact CW_ret0 J hq
      · have tm : Int.tmod (d - 1) 3 = (d - 1) % 3 := Int.tmod_eq_emod_of_nonneg (by omega)
        rw [if_neg d0, tm, gd_t (by omega), gd_t (by omega), gd_t (by omega)] at hq
        rw [if_neg d0]
        exact CW_ret0 J hq
    · rw [if_neg x0] at hq
      by_cases x1 : x = 1
      · rw [if_pos x1] at hq
        rw [if_pos (by omega), if_neg x0, if_pos x1]
        by_cases d0 : d = 0
        · rw [if_pos d0] at hq ⊢
          exact CW_ret0 J hq
        · rw [if_neg d0, gd_t (by omega), gd_t (by omega)] at hq
          rw [if_neg d0]
          exact CW_ret0 J hq
      · rw [if_neg x1] at hq
        by_cases x2 : x = 2
        · rw [if_pos x2] at hq
          rw [if_pos (by omega), if_neg x0, if_neg x1, if_pos x2]
          exact CW_ret0 J hq
        · rw [if_neg x2] at hq
          by_cases x3 : x = 3
          · rw [if_pos x3] at hq
            rw [if_pos (by omega), if_neg x0, if_neg x1, if_neg x2]
            exact CW_ret0 J hq
          · rw [if_neg x3] at hq
            rw [if_neg (by omega)]
            exact CW_thr J hz (by decide) hq
  · rw [if_neg cd] at hq ⊢
    exact CW_thr J hz (by decide) (hq.trans rfl)
theorem k_failing (J : CJ h p v (n, top, R, N, c, Ol, s0, s1, I, m, O, ec, ep)) (Q : Prg n top R N) (hz : hN h < zVB) (d : Int) : CW h 174 [zI d] (t3 3 0 0) (aFailing n top R N d, (n, top, R, N, c, Ol, s0, s1, I, m, O, ec, ep)) := by
  have hq := q_B_failing (h := h) (x1 := d) (J_K J)
  rw [rq_duty (J_K J) (J_rq J) (J_P J) Q d] at hq
  unfold aFailing
  by_cases cd : 0 ≤ d ∧ d < dmS n R
  · rw [if_pos cd] at hq ⊢
    rw [q_B_failing_r5 (J_K J), J_fl J Q cd.1 cd.2] at hq
    exact CW_ret0 J hq
  · rw [if_neg cd] at hq ⊢
    exact CW_thr J hz (by decide) (hq.trans rfl)
theorem l_troubleC (K : KC h) : ∀ (k : Nat) (x : Int), 0 ≤ x → x + k = 73 → zY 152 2 [some (zR (some 0)), some (zI x)] [] h = some (.inl (some (zI (zfind (fun d => ¬ f_D_failingStates h d = 0#64) x k))), h)
  | 0, x, h0, h1 => by
    rw [q_B_trouble_2 K, if_neg (by omega)]
    rfl
  | k + 1, x, h0, h1 => by
    rw [q_B_trouble_2 K, if_pos (by omega), zfind]
    by_cases cx : f_D_failingStates h x = 0#64
    · rw [if_pos cx, gd_t (by omega), l_troubleC K k (x + 1) (by omega) (by omega), if_neg (fun e => e cx)]
    · rw [if_neg cx, if_pos cx]
theorem zfind_no {q : Int → Prop} [DecidablePred q] : ∀ (k : Nat) (a : Int), (∀ x, a ≤ x → x < a + k → ¬ q x) → zfind q a k = -1
  | 0, _, _ => rfl
  | k + 1, a, g => by rw [zfind, if_neg (g a (by omega) (by omega))]; exact zfind_no k (a + 1) (fun x h0 h1 => g x (by omega) (by omega))
theorem zfind_cut {q : Int → Prop} [DecidablePred q] : ∀ (k j : Nat) (a : Int), (∀ x, a + k ≤ x → x < a + k + j → ¬ q x) → zfind q a (k + j) = zfind q a k
  | 0, j, a, g => by rw [Nat.zero_add]; exact zfind_no j a (fun x h0 h1 => g x (by omega) (by omega))
  | k + 1, j, a, g => by
    rw [show k + 1 + j = (k + j) + 1 by omega, zfind, zfind, zfind_cut k j (a + 1) (fun x h0 h1 => g x (by omega) (by omega))]
theorem J_fl0 (J : CJ h p v (n, top, R, N, c, Ol, s0, s1, I, m, O, ec, ep)) (Q : Prg n top R N) {d : Int} (h0 : dmS n R ≤ d) (h1 : d < 73) : f_D_failingStates h d = 0#64 := by
  have b := dmS_le Q
  unfold f_D_failingStates
  rw [if_neg (by omega), if_pos (by omega), J.1.2 d (by omega) (by omega), if_neg (by omega)]
theorem k_trouble (J : CJ h p v (n, top, R, N, c, Ol, s0, s1, I, m, O, ec, ep)) (Q : Prg n top R N) : CW h 152 [] (t3 0 0 0) ((0, zI (aTrouble n top R N)), (n, top, R, N, c, Ol, s0, s1, I, m, O, ec, ep)) := by
  have b := dmS_le Q
  have hq := q_B_trouble (h := h) (J_K J)
  rw [l_troubleC (J_K J) 73 0 (by omega) (by omega), show (73 : Nat) = (dmS n R).toNat + (73 - (dmS n R).toNat) by omega, zfind_cut _ _ _ (fun x h0 h1 e => e (J_fl0 J Q (by omega) (by omega)))] at hq
  rw [zfind_congr (q := fun d => ¬ flC n top R N d = 0#64) _ _ (fun k h0 h1 => by rw [J_fl J Q h0 (by omega)])] at hq
  exact CW_ret0 J hq
theorem k_run (J : CJ h p v (n, top, R, N, c, Ol, s0, s1, I, m, O, ec, ep)) (Q : Prg n top R N) (hz : hN h < zVB) (x : Int) : CW h 175 [zI x] (t3 0 0 0) (aRun n top R N x, (n, top, R, N, c, Ol, s0, s1, I, m, O, ec, ep)) := by
  have hq := q_B_run (h := h) (x1 := x) (J_K J)
  rw [rq_state (J_K J)] at hq
  unfold aRun
  by_cases cx : 0 ≤ x ∧ x < 64
  · rw [if_pos cx] at hq ⊢
    rw [q_B_run_r5 (J_K J) (J_rp J) (J_ps J), PO_start (J_P J) Q.2.2.2, c_endOfRow (J_K J) (CR_rp (CA_C J.1)) (J_P J) Q.1 (Int.le_refl 0) (CR_t (CA_C J.1)) (top_r Q) (by omega) cx.2, q_B_run_r20 (J_K J)] at hq
    exact CW_ret0 J hq
  · rw [if_neg cx] at hq ⊢
    exact CW_thr J hz (by decide) (hq.trans rfl)
theorem k_steps (J : CJ h p v (n, top, R, N, c, Ol, s0, s1, I, m, O, ec, ep)) (Q : Prg n top R N) (hz : hN h < zVB) (x : Int) : CW h 176 [zI x] (t3 0 0 0) (aSteps n top R N x, (n, top, R, N, c, Ol, s0, s1, I, m, O, ec, ep)) := by
  have hq := q_B_steps (h := h) (x1 := x) (J_K J)
  rw [rq_state (J_K J)] at hq
  unfold aSteps
  by_cases cx : 0 ≤ x ∧ x < 64
  · rw [if_pos cx] at hq ⊢
    obtain ⟨h2, e2, F2⟩ := c_stepsFrom (CA_C J.1) Q cx.1 cx.2
    rw [q_B_steps_r5 (J_K J), e2, q_B_steps_r13 (KC_f (J_K J) F2 rfl)] at hq
    exact CW_ret J F2 hq rfl rfl
  · rw [if_neg cx] at hq ⊢
    exact CW_thr J hz (by decide) (hq.trans rfl)
theorem k_cost (J : CJ h p v (n, top, R, N, c, Ol, s0, s1, I, m, O, ec, ep)) (Q : Prg n top R N) (hz : hN h < zVB) (x : Int) : CW h 177 [zI x] (t3 0 0 0) (aCost n top R N x, (n, top, R, N, c, Ol, s0, s1, I, m, O, ec, ep)) := by
  have hq := q_B_cost (h := h) (x1 := x) (J_K J)
  rw [rq_state (J_K J)] at hq
  unfold aCost
  by_cases cx : 0 ≤ x ∧ x < 64
  · rw [if_pos cx] at hq ⊢
    obtain ⟨h2, e2, F2⟩ := c_costFrom (CA_C J.1) Q cx.1 cx.2
    rw [q_B_cost_r5 (J_K J), e2, q_B_cost_r13 (KC_f (J_K J) F2 rfl)] at hq
    exact CW_ret J F2 hq rfl rfl
  · rw [if_neg cx] at hq ⊢
    exact CW_thr J hz (by decide) (hq.trans rfl)
theorem k_costBits (J : CJ h p v (n, top, R, N, c, Ol, s0, s1, I, m, O, ec, ep)) (Q : Prg n top R N) (hz : hN h < zVB) (x : Int) : CW h 178 [zI x] (t3 0 0 0) (aCostBits n top R N x, (n, top, R, N, c, Ol, s0, s1, I, m, O, ec, ep)) := by
  have hq := q_B_costBits (h := h) (x1 := x) (J_K J)
  rw [rq_state (J_K J)] at hq
  unfold aCostBits
  by_cases cx : 0 ≤ x ∧ x < 64
  · rw [if_pos cx] at hq ⊢
    obtain ⟨h2, e2, F2⟩ := c_costFrom (CA_C J.1) Q cx.1 cx.2
    have K2 := KC_f (J_K J) F2 rfl
    rw [q_B_costBits_r5 (J_K J), e2, q_B_costBits_r13 K2, c_bitsF Q cx.1 cx.2, q_B_costBits_r16 K2] at hq
    exact CW_ret J F2 hq rfl rfl
  · rw [if_neg cx] at hq ⊢
    exact CW_thr J hz (by decide) (hq.trans rfl)
theorem k_met (J : CJ h p v (n, top, R, N, c, Ol, s0, s1, I, m, O, ec, ep)) (Q : Prg n top R N) (hz : hN h < zVB) (s : Int) : CW h 179 [zI s] (t3 3 0 0) (aMet n top R N s, (n, top, R, N, c, Ol, s0, s1, I, m, O, ec, ep)) := by
  have hq := q_B_met (h := h) (x1 := s) (J_K J)
  rw [rq_statement (J_K J) (J_rp J) (J_P J) s] at hq
  unfold aMet
  by_cases cs : 0 ≤ s ∧ s < n
  · rw [if_pos cs] at hq ⊢
    obtain ⟨h2, e2, F2⟩ := c_metAt (CA_C J.1) Q cs.1 cs.2
    rw [q_B_met_r5 (J_K J), e2, q_B_met_r13 (KC_f (J_K J) F2 rfl)] at hq
    exact CW_ret J F2 hq rfl rfl
  · rw [if_neg cs] at hq ⊢
    exact CW_thr J hz (by decide) (hq.trans rfl)
theorem k_wrong (J : CJ h p v (n, top, R, N, c, Ol, s0, s1, I, m, O, ec, ep)) (Q : Prg n top R N) : CW h 153 [] (t3 0 0 0) ((0, zJ (wgC n top R N)), (n, top, R, N, c, Ol, s0, s1, I, m, O, ec, ep)) := by
  have hq := q_B_wrong (h := h) (J_K J)
  rw [c_wrongStates (CA_C J.1) Q, q_B_wrong_r7 (J_K J)] at hq
  exact CW_ret0 J hq
theorem k_dearest (J : CJ h p v (n, top, R, N, c, Ol, s0, s1, I, m, O, ec, ep)) (Q : Prg n top R N) : CW h 154 [] (t3 0 0 0) ((0, zI (drA n top R N 64).1), (n, top, R, N, c, Ol, s0, s1, I, m, O, ec, ep)) := by
  have hq := q_B_dearest (h := h) (J_K J)
  obtain ⟨h2, e2, F2⟩ := c_dearestState (CA_C J.1) Q
  rw [e2, q_B_dearest_r7 (KC_f (J_K J) F2 rfl)] at hq
  exact CW_ret J F2 hq rfl rfl
theorem k_meanCost (J : CJ h p v (n, top, R, N, c, Ol, s0, s1, I, m, O, ec, ep)) (Q : Prg n top R N) : CW h 155 [] (t3 0 0 0) ((0, zD (menS n top R N)), (n, top, R, N, c, Ol, s0, s1, I, m, O, ec, ep)) := by
  have hq := q_B_meanCost (h := h) (J_K J)
  obtain ⟨h2, e2, F2⟩ := c_mean (CA_C J.1) Q
  rw [e2, q_B_meanCost_r7 (KC_f (J_K J) F2 rfl)] at hq
  exact CW_ret J F2 hq rfl rfl
theorem k_meanBits (J : CJ h p v (n, top, R, N, c, Ol, s0, s1, I, m, O, ec, ep)) (Q : Prg n top R N) : CW h 156 [] (t3 0 0 0) ((0, zJ (f_Do_doubleToLongBits (menS n top R N))), (n, top, R, N, c, Ol, s0, s1, I, m, O, ec, ep)) := by
  have hq := q_B_meanBits (h := h) (J_K J)
  obtain ⟨h2, e2, F2⟩ := c_mean (CA_C J.1) Q
  have K2 := KC_f (J_K J) F2 rfl
  rw [e2, q_B_meanBits_r7 K2, c_bitsD Q, q_B_meanBits_r10 K2] at hq
  exact CW_ret J F2 hq rfl rfl
theorem k_share (J : CJ h p v (n, top, R, N, c, Ol, s0, s1, I, m, O, ec, ep)) (Q : Prg n top R N) : CW h 157 [] (t3 0 0 0) ((0, zF (aShare n top R N)), (n, top, R, N, c, Ol, s0, s1, I, m, O, ec, ep)) := by
  have hq := q_B_share (h := h) (J_K J) (J_rp J) (J_ps J)
  have b := ones_b (ahd N (NN n R N) top)
  rw [PO_start (J_P J) Q.2.2.2, J_ahd J (top_r Q), bitc_e, gd_t (fpos_zn (fpos_shr b.1 b.2))] at hq
  exact CW_ret0 J hq
theorem J_safe (J : CJ h p v (n, top, R, N, c, Ol, s0, s1, I, m, O, ec, ep)) (Q : Prg n top R N) {l : Int} (ne : lpAt n R 2 l ≠ -1) : zC 12 [zR (some 132), zI l] h = some (.inl (some (zJ (sfS n R N (lpAt n R 2 l)))), h) := by
  rcases lpAt_c Q (Or.inl rfl) l with ⟨lo, ⟨l0, l1⟩, lk⟩ | ⟨_, ln⟩
  · have tr := thn_r Q.1 l0 l1
    have be : f_D_behind h (lpAt n R 2 l) p = ahd N (NN n R N) (thn R (lpAt n R 2 l)) := by
      unfold f_D_behind
      rw [PO_thenOf (J_P J) l0 l1]
      exact J_ahd J (by omega)
    rw [q_D_safeStates (J_K J) (J_rq J) (J_ps J), PO_loopAt (J_P J) Q.2.2.1 l, be, c_endingIn (J_K J) Q.1 (CR_t (CA_C J.1)) l0 l1, q_D_safeStates_r19 (J_K J)]
    rfl
  · exact absurd ln ne
theorem k_safe (J : CJ h p v (n, top, R, N, c, Ol, s0, s1, I, m, O, ec, ep)) (Q : Prg n top R N) (hz : hN h < zVB) (l : Int) : CW h 185 [zI l] (t3 3 0 0) (aSafe n R N l, (n, top, R, N, c, Ol, s0, s1, I, m, O, ec, ep)) := by
  have hq := q_B_safe (h := h) (x1 := l) (J_K J)
  rw [rq_loop (J_K J) (J_rp J) (J_P J) Q l] at hq
  unfold aSafe
  by_cases ne : lpAt n R 2 l = -1
  · rw [if_pos ne] at hq ⊢
    exact CW_thr J hz (by decide) (hq.trans rfl)
  · rw [if_neg ne] at hq ⊢
    rw [q_B_safe_r5 (J_K J), J_safe J Q ne, q_B_safe_r13 (J_K J)] at hq
    exact CW_ret0 J hq
theorem k_unsf (J : CJ h p v (n, top, R, N, c, Ol, s0, s1, I, m, O, ec, ep)) (Q : Prg n top R N) (hz : hN h < zVB) (l : Int) : CW h 186 [zI l] (t3 3 0 0) (aUnsf n R N l, (n, top, R, N, c, Ol, s0, s1, I, m, O, ec, ep)) := by
  have hq := q_B_unsf (h := h) (x1 := l) (J_K J)
  rw [rq_loop (J_K J) (J_rp J) (J_P J) Q l] at hq
  unfold aUnsf
  rcases lpAt_c Q (Or.inl rfl) l with ⟨lo, ⟨l0, l1⟩, lk⟩ | ⟨_, ln⟩
  · have ne : lpAt n R 2 l ≠ -1 := by omega
    rw [if_neg ne] at hq ⊢
    have ke := keepOf_e Q (J_S J) l0 l1 lk
    rw [lp_num ne] at ke
    rw [q_B_unsf_r5 (J_K J), J_safe J Q ne, q_B_unsf_r21 (J_K J), ke, not_e] at hq
    exact CW_ret0 J hq
  · rw [if_pos ln] at hq ⊢
    exact CW_thr J hz (by decide) (hq.trans rfl)
theorem upto_at {f : Nat → Int} {k i : Nat} (hi : i < k) : (upto f 0 k []).getD i 0 = f i := by rw [upto_get _ _ _ _ _ hi, Nat.zero_add]
end CASK

