/-! The class: numbers of all kinds, statements, needs written. -/
section CASK2
variable {h h2 : zH} {p v : Nat} {n top : Int} {R N : Nat → Int} {c : Nat} {Ol : Nat → Nat → Int} {s0 s1 : Option (Nat → Int)} {I : Nat → Int} {m : Int} {O : List Int} {ec ep : Int}
theorem zsum_ad (f : Int → Int) : ∀ (k j : Nat) (a : Int), zsum f a (k + j) = zsum f a k + zsum f (a + k) j
  | 0, j, a => by rw [Nat.zero_add, show a + ((0 : Nat) : Int) = a by omega]; unfold zsum; omega
  | k + 1, j, a => by
    rw [show k + 1 + j = (k + j) + 1 by omega, zsum, zsum, zsum_ad f k j (a + 1), show a + 1 + (k : Int) = a + ((k + 1 : Nat) : Int) by omega]
    omega
theorem zsum_0 {f : Int → Int} : ∀ (k : Nat) (a : Int), (∀ x, a ≤ x → x < a + k → f x = 0) → zsum f a k = 0
  | 0, _, _ => rfl
  | k + 1, a, g => by rw [zsum, g a (by omega) (by omega), zsum_0 k (a + 1) (fun x h0 h1 => g x (by omega) (by omega))]; rfl
theorem l_failedC (K : KC h) : ∀ (k : Nat) (x d : Int), 0 ≤ d → d + k = 73 → 0 ≤ x → x ≤ d → zY 11 4 [some (zR (some 132)), some (zI x), some (zI d)] [] h = some (.inl (some (zI (x + zsum (fun d => if hJ h 134 d.toNat = 0#64 then 0 else 1) d k))), h)
  | 0, x, d, h0, h1, h2, h3 => by
    rw [q_D_failed_4 K, if_neg (by omega), zsum, Int.add_zero]
  | k + 1, x, d, h0, h1, h2, h3 => by
    rw [q_D_failed_4 K, if_pos (by omega), gd_t (by omega), zsum]
    by_cases cx : hJ h 134 d.toNat = 0#64
    · rw [if_pos cx, gd_t (by omega), l_failedC K k x (d + 1) (by omega) (by omega) (by omega) (by omega), if_pos cx, Int.zero_add]
    · rw [if_neg cx, gd_t (by omega), gd_t (by omega), l_failedC K k (x + 1) (d + 1) (by omega) (by omega) (by omega) (by omega), if_neg cx, Int.add_assoc]
theorem c_failedC (C : CA h p v n top R N) (Q : Prg n top R N) : zC 11 [zR (some 132)] h = some (.inl (some (zI (nfC n top R N))), h) := by
  have b := dmS_le Q
  rw [q_D_failed (CA_K C), l_failedC (CA_K C) 73 0 0 (by omega) (by omega) (by omega) (by omega), show (73 : Nat) = (dmS n R).toNat + (73 - (dmS n R).toNat) by omega, zsum_ad]
  rw [zsum_congr (g := fun d => if flC n top R N d = 0#64 then 0 else 1) _ _ (fun k h0 h1 => by
    have ek : hJ h 134 k.toNat = flC n top R N k := (C.2 k h0 (by omega)).trans (if_pos (by omega))
    rw [ek])]
  rw [zsum_0 (73 - (dmS n R).toNat) _ (fun x h0 h1 => by
    have ek : hJ h 134 x.toNat = 0#64 := (C.2 x (by omega) (by omega)).trans (if_neg (by omega))
    rw [ek, if_pos rfl]), Int.add_zero, Int.zero_add]
  rfl
theorem l_filledC {v : Nat} (V : VS h v) {L : Int} (hL : L ≤ 24) : ∀ (k : Nat) (x l : Int), 0 ≤ l → l + k = L → 0 ≤ x → x ≤ l → zY 132 4 [some (zR (some v)), some (zI L), some (zI x), some (zI l)] [] h = some (.inl (some (zI (x + zsum (fun l => if hI h (v + 3) l.toNat = -1 then 0 else 1) l k))), h)
  | 0, x, l, h0, h1, h2, h3 => by
    rw [q_V_filledHoles_4 V, if_neg (by omega), zsum, Int.add_zero]
  | k + 1, x, l, h0, h1, h2, h3 => by
    rw [q_V_filledHoles_4 V, if_pos (by omega), if_pos (by omega), gd_t (by omega), zsum]
    by_cases cx : hI h (v + 3) l.toNat = -1
    · rw [if_pos cx, gd_t (by omega), l_filledC V hL k x (l + 1) (by omega) (by omega) (by omega) (by omega), if_pos cx, Int.zero_add]
    · rw [if_neg cx, gd_t (by omega), gd_t (by omega), l_filledC V hL k (x + 1) (l + 1) (by omega) (by omega) (by omega) (by omega), if_neg cx, Int.add_assoc]
theorem fhS_num (Q : Prg n top R N) {g : Int → Int} (hg : ∀ s, 0 ≤ s → s < n → sv R s 0 = 3 → g (sv R s 7) = if N (2294 + s).toNat = -1 then 0 else 1) : ∀ (k : Nat), (k : Int) ≤ n → zsum g 0 (cntK R 3 k).toNat = zsum (fun s => if sv R s 0 = 3 ∧ ¬ N (2294 + s).toNat = -1 then 1 else 0) 0 k
  | 0, _ => rfl
  | k + 1, hk => by
    have ih := fhS_num Q hg k (by omega)
    have cb := (cntK_b R 3 k).1
    rw [zsum_last, cntK_s, ← ih, Int.zero_add]
    by_cases c3 : sv R k 0 = 3
    · have u := (Q.2.2.1 k (by omega) (by omega)).1 (Or.inr c3)
      rw [c3, show ((k : Int)).toNat = k by omega] at u
      have gk := hg k (by omega) (by omega) c3
      rw [u] at gk
      rw [if_pos c3, show (cntK R 3 k + 1).toNat = (cntK R 3 k).toNat + 1 by omega, zsum_last, show (0 : Int) + ((cntK R 3 k).toNat : Int) = cntK R 3 k by omega, gk]
      by_cases cn : N (2294 + (k : Int)).toNat = -1
      · rw [if_pos cn, if_neg (fun e => e.2 cn)]
      · rw [if_neg cn, if_pos ⟨c3, cn⟩]
    · rw [if_neg c3, if_neg (fun e => c3 e.1), Int.add_zero, Int.add_zero]
theorem c_filledC (J : CJ h p v (n, top, R, N, c, Ol, s0, s1, I, m, O, ec, ep)) (Q : Prg n top R N) : zC 132 [zR (some v), zI (cntK R 3 n.toNat)] h = some (.inl (some (zI (fhS n R N))), h) := by
  have b := cnt_b Q 3
  have w := Q.1.1
  rw [q_V_filledHoles (J_vs J), l_filledC (J_vs J) b.2 (cntK R 3 n.toNat).toNat 0 0 (by omega) (by omega) (by omega) (by omega), Int.zero_add]
  rw [fhS_num Q (fun s h0 h1 k3 => by rw [((J_V J).2.2.2.2.1 s h0 h1).2.1 k3]) n.toNat (by omega)]
  rfl
theorem k_value (J : CJ h p v (n, top, R, N, c, Ol, s0, s1, I, m, O, ec, ep)) (Q : Prg n top R N) (hz : hN h < zVB) (x : Int) : CW h 163 [zI x] (t3 0 0 0) (aValue c n top R N x, (n, top, R, N, c, Ol, s0, s1, I, m, O, ec, ep)) := by
  have b := cnt_b Q 2
  have l := PO_l (J_P J)
  have hq := q_B_value (h := h) (x1 := x) (J_K J) (J_rp J) (J_ps J) (J_rv J) (J_vs J) (J_rq J) (J_ps J) (by omega) (by omega)
  unfold aValue
  by_cases cx : 0 ≤ x ∧ x ≤ 7
  · rw [if_pos cx]
    by_cases x0 : x = 0
    · rw [if_pos x0, PO_n (J_P J)] at hq
      rw [if_pos x0]
      exact CW_ret0 J hq
    · rw [if_neg x0] at hq ⊢
      by_cases x1 : x = 1
      · rw [if_pos x1, l] at hq
        rw [if_pos x1]
        exact CW_ret0 J hq
      · rw [if_neg x1] at hq ⊢
        by_cases x2 : x = 2
        · rw [if_pos x2, PO_h (J_P J)] at hq
          rw [if_pos x2]
          exact CW_ret0 J hq
        · rw [if_neg x2] at hq ⊢
          by_cases x3 : x = 3
          · rw [if_pos x3, PO_h (J_P J), c_filledC J Q, q_B_value_r86 (J_K J)] at hq
            rw [if_pos x3]
            exact CW_ret0 J hq
          · rw [if_neg x3] at hq ⊢
            by_cases x4 : x = 4
            · rw [if_pos x4] at hq
              unfold f_D_count at hq
              rw [l] at hq
              rw [if_pos x4]
              exact CW_ret0 J hq
            · rw [if_neg x4] at hq ⊢
              by_cases x5 : x = 5
              · rw [if_pos x5, c_failedC J.1 Q, q_B_value_r102 (J_K J)] at hq
                rw [if_pos x5]
                exact CW_ret0 J hq
              · rw [if_neg x5] at hq ⊢
                by_cases x6 : x = 6
                · rw [if_pos x6, c_failedC J.1 Q, q_B_value_r110 (J_K J)] at hq
                  rw [if_pos x6]
                  unfold nfC at hq
                  by_cases c0 : nfS n top R N (TT n R N) (NN n R N) = 0
                  · rw [if_pos c0] at hq ⊢
                    exact CW_ret0 J hq
                  · rw [if_neg c0] at hq ⊢
                    exact CW_ret0 J hq
                · rw [if_neg x6, if_pos (by omega), J.2.1.1.1] at hq
                  rw [if_neg x6]
                  exact CW_ret0 J hq
  · rw [if_neg cx]
    rw [if_neg (by omega), if_neg (by omega), if_neg (by omega), if_neg (by omega), if_neg (by omega), if_neg (by omega), if_neg (by omega), if_neg (by omega)] at hq
    exact CW_thr J hz (by decide) hq
/-- depths and rows as a text gives them -/
def RX (n : Int) (R : Nat → Int) : Prop := ∀ s, 0 ≤ s → s < n → sv R s 2 = (if sv R s 3 = -1 then 0 else sv R (sv R s 3) 2 + 1) ∧ CL R (sv R s 5) (sv R s 8) ∧ CL R (sv R s 6) (sv R s 9)
theorem l_depthC (P : PO h p n R) (w : WS n R) (X : RX n R) {s D : Int} : ∀ (k : Nat) (d a i : Int), (a = -1 ∨ 0 ≤ a ∧ a < n) → i + k = 24 → 0 ≤ i → a < k → 0 ≤ d → d ≤ i → d + (if a = -1 then 0 else sv R a 2 + 1) = D → zY 55 11 [some (zR (some p)), some (zI s), some (zI d), some (zI a), some (zI i)] [] h = some (.inl (some (zI D)), h)
  | 0, d, a, i, ha, hk, hi, hl, h0, h1, hD => by
    rw [q_P_depthOf_11 (PO_S P), if_neg (by omega)]
    rw [if_pos (by omega)] at hD
    rw [show d = D by omega]
  | k + 1, d, a, i, ha, hk, hi, hl, h0, h1, hD => by
    rw [q_P_depthOf_11 (PO_S P), if_pos (by omega)]
    by_cases ca : a = -1
    · rw [if_pos ca] at hD ⊢
      rw [show d = D by omega]
    · rw [if_neg ca] at hD ⊢
      have h01 : 0 ≤ a ∧ a < n := by omega
      rw [gd_t (by omega), gd_t (by omega), PO_parentOf P h01.1 h01.2]
      have pa := (w.2.1 a h01.1 h01.2).2.2.1
      have xa := (X a h01.1 h01.2).1
      refine l_depthC P w X k (d + 1) (sv R a 3) (i + 1) (by omega) (by omega) (by omega) (by omega) (by omega) (by omega) ?_
      rw [← xa]
      omega
theorem l_inRowC (P : PO h p n R) (w : WS n R) {hd L : Int} (hh : hd = -1 ∨ 0 ≤ hd ∧ hd < n) (H : CL R hd L) : ∀ (k i : Nat), i + k = 24 → (i : Int) ≤ L → zY 56 7 [some (zR (some p)), some (zI hd), some (zI i), some (zI (nx R i hd)), some (zI i)] [] h = some (.inl (some (zI L)), h)
  | 0, i, hk, hi => by
    have := CL_24 w hh H
    rw [q_P_inRow_7 (PO_S P), if_neg (by omega), show (i : Int) = L by omega]
  | k + 1, i, hk, hi => by
    rw [q_P_inRow_7 (PO_S P), if_pos (by omega)]
    obtain ⟨c0, c1, c2⟩ := H
    by_cases ci : (i : Int) = L
    · have : nx R i hd = -1 := by rw [← c1]; congr 1; omega
      rw [if_pos this, ci]
    · have ne := c2 i (by omega)
      have rg := nx_r w hh i
      have nn : f_P_nextOf h p (nx R i hd) = nx R (i + 1) hd := by
        rw [PO_nextOf P (by omega) (by omega)]
        exact (if_neg ne).symm
      rw [if_neg ne, gd_t (by omega), gd_t (by omega), nn]
      exact l_inRowC P w hh ⟨c0, c1, c2⟩ k (i + 1) (by omega) (by omega)
theorem c_inRowC (P : PO h p n R) (w : WS n R) {hd L : Int} (hh : hd = -1 ∨ 0 ≤ hd ∧ hd < n) (H : CL R hd L) : zC 56 [zR (some p), zI hd] h = some (.inl (some (zI L)), h) := by
  rw [q_P_inRow (PO_S P)]
  exact l_inRowC P w hh H 24 0 rfl H.1
theorem size_fo {f : Nat} {l : List Int} (F : FO h f l) : f_Fo_size h f = l.length := by
  unfold f_Fo_size
  rw [F.2.2.2.1]
theorem lst_le {q : Int} (h0 : 0 ≤ N (31 * q).toNat) : ((lst N q).length : Int) = N (31 * q).toNat := by
  unfold lst
  rw [upto_len]
  simp only [List.length_nil, Nat.add_zero]
  omega
theorem FSAt_get {a k : Nat} (X : FSAt h a k) : ∃ f, hR h a k = some f ∧ FS h f := by
  obtain ⟨f, a, b, _⟩ := X
  exact ⟨f, a, b⟩
theorem k_nodes (J : CJ h p v (n, top, R, N, c, Ol, s0, s1, I, m, O, ec, ep)) (Q : Prg n top R N) {s : Int} (h0 : 0 ≤ s) (h1 : s < n) : zC 166 [zR (some 0), zI s] h = some (.inl (some (zI (if sv R s 0 = 3 then 0 else if sv R s 0 = 2 then N (31 * (2 + s)).toNat + (N (31 * (26 + s)).toNat + N (31 * (50 + s)).toNat) else N (31 * (2 + s)).toNat))), h) := by
  have w := Q.1.1
  have ws := Q.1.2.1 s h0 h1
  have vn := Q.2.1.2.2 s h0 h1
  have u := Q.2.2.1 s h0 h1
  have V := J_V J
  obtain ⟨f, ef, Ff⟩ := PO_partOf (J_P J) J.1.1.1.1.1.2.2.2.1 h0 h1
  have en := PO_numberOf (J_P J) h0 h1
  have ek := PO_kindOf (J_P J) h0 h1
  have K0 := FO_none (J_K J)
  -- the two others
  have g2 : ∃ f2 f3, f_V_keepOf h v (sv R s 7) = some f2 ∧ FS h f2 ∧ f_V_lessOf h v (sv R s 7) = some f3 ∧ FS h f3 ∧ (sv R s 0 = 2 → FO h f2 (lst N (26 + s)) ∧ FO h f3 (lst N (50 + s))) := by
    unfold f_V_keepOf f_V_lessOf b_V_fits
    by_cases k2 : sv R s 0 = 2
    · have nr := num_r Q h0 h1 (Or.inl k2)
      obtain ⟨⟨f2, a2, b2⟩, ⟨f3, a3, b3⟩⟩ := (V.2.2.2.2.1 s h0 h1).1 k2
      rw [if_pos (by omega), if_pos (by omega)]
      exact ⟨f2, f3, a2, b2.1, a3, b3.1, fun _ => ⟨b2, b3⟩⟩
    · by_cases fi : 0 ≤ sv R s 7 ∧ sv R s 7 < 24
      · rw [if_pos fi, if_pos fi]
        obtain ⟨f2, a2, b2, _⟩ := (V.2.2.2.2.2 (sv R s 7).toNat (by omega)).1
        obtain ⟨f3, a3, b3, _⟩ := (V.2.2.2.2.2 (sv R s 7).toNat (by omega)).2
        exact ⟨f2, f3, a2, b2, a3, b3, fun e => absurd e k2⟩
      · rw [if_neg fi, if_neg fi]
        exact ⟨3, 3, rfl, K0.1, rfl, K0.1, fun e => absurd e k2⟩
  obtain ⟨f2, f3, r2, F2, r3, F3, g23⟩ := g2
  have hq := q_B_nodesOf (h := h) (x1 := s) (J_K J) (J_rp J) (J_ps J) ef Ff.1 (J_rv J) (J_vs J) (by rw [en]; exact r2) F2 (by rw [en]; exact r3) F3
  rw [hq, ek, size_fo Ff]
  have ps : ((prtL R N s).length : Int) = if sv R s 0 = 3 then 0 else N (31 * (2 + s)).toNat := by
    unfold prtL
    by_cases k3 : sv R s 0 = 3
    · rw [if_pos k3, if_pos k3]; rfl
    · rw [if_neg k3, if_neg k3]
      refine lst_le ?_
      have : sv R s 0 = 0 ∨ sv R s 0 = 1 ∨ sv R s 0 = 2 := by omega
      rcases this with a | a | a
      · exact (vn.1 a).1
      · exact (vn.2.1 a).1
      · exact (vn.2.2.1 a).1.1
  by_cases k2 : sv R s 0 = 2
  · obtain ⟨G2, G3⟩ := g23 k2
    have b1 := (vn.2.2.1 k2).1
    have b2 := (vn.2.2.1 k2).2.1
    have b3 := (vn.2.2.1 k2).2.2
    unfold fmOk at b1 b2 b3
    rw [if_neg (by omega)] at ps
    rw [if_pos k2, size_fo G2, size_fo G3, lst_le b2.1, lst_le b3.1, ps, gd_t (by omega), gd_t (by omega), if_neg (by omega), if_pos k2]
  · rw [if_neg k2, ps]
    by_cases k3 : sv R s 0 = 3
    · rw [if_pos k3, if_pos k3]
    · rw [if_neg k3, if_neg k3, if_neg k2]
theorem J_tg (J : CJ h p v (n, top, R, N, c, Ol, s0, s1, I, m, O, ec, ep)) {s : Int} (h0 : 0 ≤ s) (h1 : s < n) : f_S_targetOf h s = tgS R N s := by
  have b := PO_b (J_P J)
  unfold f_S_targetOf
  rw [if_neg (by omega), if_pos (by omega)]
  exact ((J_S J).2.2.1 s h0 h1).1
theorem k_statement (J : CJ h p v (n, top, R, N, c, Ol, s0, s1, I, m, O, ec, ep)) (Q : Prg n top R N) (X : RX n R) (hz : hN h < zVB) (s x : Int) : CW h 164 [zI s, zI x] (t3 3 0 0) (aStatement n R N s x, (n, top, R, N, c, Ol, s0, s1, I, m, O, ec, ep)) := by
  have hq := q_B_statement (h := h) (x1 := s) (x2 := x) (J_K J)
  rw [rq_statement (J_K J) (J_rp J) (J_P J) s] at hq
  unfold aStatement
  by_cases cs : 0 ≤ s ∧ s < n
  · rw [if_pos cs] at hq ⊢
    obtain ⟨h0, h1⟩ := cs
    have ws := Q.1.2.1 s h0 h1
    have w0 := Q.1.1
    obtain ⟨xa, xb, xc⟩ := X s h0 h1
    rw [q_B_statement_r5 (J_K J) (J_rp J) (J_ps J) (J_rv J) (J_vs J)] at hq
    by_cases x0 : x = 0
    · rw [if_pos x0, PO_kindOf (J_P J) h0 h1] at hq
      rw [if_pos x0]
      exact CW_ret0 J hq
    · rw [if_neg x0] at hq ⊢
      by_cases x1 : x = 1
      · rw [if_pos x1, J_tg J h0 h1] at hq
        rw [if_pos x1]
        exact CW_ret0 J hq
      · rw [if_neg x1] at hq ⊢
        by_cases x2 : x = 2
        · have e := l_depthC (J_P J) Q.1 X (s := s) (D := sv R s 2) 24 0 (sv R s 3) 0 (by omega) (by omega) (by omega) (by omega) (by omega) (by omega) (by rw [xa]; omega)
          rw [if_pos x2, q_P_depthOf (J_ps J), PO_parentOf (J_P J) h0 h1, e, q_B_statement_r78 (J_K J)] at hq
          rw [if_pos x2]
          exact CW_ret0 J hq
        · rw [if_neg x2] at hq ⊢
          by_cases x3 : x = 3
          · rw [if_pos x3, PO_firstOf (J_P J) h0 h1, c_inRowC (J_P J) Q.1 (by omega) xb, q_B_statement_r94 (J_K J)] at hq
            rw [if_pos x3]
            exact CW_ret0 J hq
          · rw [if_neg x3] at hq ⊢
            by_cases x4 : x = 4
            · rw [if_pos x4, PO_secondOf (J_P J) h0 h1, c_inRowC (J_P J) Q.1 (by omega) xc, q_B_statement_r110 (J_K J)] at hq
              rw [if_pos x4]
              exact CW_ret0 J hq
            · rw [if_neg x4] at hq ⊢
              by_cases x5 : x = 5
              · rw [if_pos x5, price_e (CA_C J.1) Q h0 h1] at hq
                rw [if_pos x5]
                exact CW_ret0 J hq
              · rw [if_neg x5] at hq ⊢
                by_cases x6 : x = 6
                · rw [if_pos x6, k_nodes J Q h0 h1, q_B_statement_r125 (J_K J)] at hq
                  rw [if_pos x6]
                  exact CW_ret0 J hq
                · rw [if_neg x6] at hq ⊢
                  by_cases x7 : x = 7
                  · rw [if_pos x7, PO_numberOf (J_P J) h0 h1] at hq
                    rw [if_pos x7]
                    exact CW_ret0 J hq
                  · rw [if_neg x7] at hq ⊢
                    exact CW_thr J hz (by decide) hq
  · rw [if_neg cs] at hq ⊢
    exact CW_thr J hz (by decide) (hq.trans rfl)
end CASK2

