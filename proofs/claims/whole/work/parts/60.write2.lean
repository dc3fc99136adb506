/-! The reference: needs as conditions, written. -/
section WRITE2
variable {n top : Int} {R N : Nat → Int}
theorem upto_cons (f : Nat → Int) (b : Nat) : ∀ (k : Nat), upto f b (k + 1) [] = f b :: upto f (b + 1) k []
  | 0 => rfl
  | k + 1 => by
    show upto f b (k + 1) [f (b + (k + 1))] = _
    rw [upto_app, upto_cons f b k]
    show _ = f b :: upto f (b + 1) k [f (b + 1 + k)]
    rw [upto_app f (b + 1) k [f (b + 1 + k)], show b + 1 + k = b + (k + 1) by omega]
    rfl
/-- a row of nodes in cells -/
def isR (A : Nat → Int) (c : Int) (b : Nat) (d : DO) : Prop := match d with | none => c = -1 | some l => 0 ≤ c ∧ c ≤ 200 ∧ l = upto A b c.toNat []
theorem isR_len {A : Nat → Int} {c : Int} {b : Nat} {l : List Int} (h : isR A c b (some l)) : c = l.length := by
  obtain ⟨h1, h2, h3⟩ := h
  have h4 := upto_len A b c.toNat []
  rw [← h3] at h4
  simp only [List.length_nil] at h4
  omega
theorem isR_congr {A B : Nat → Int} {c : Int} {b e : Nat} {d : DO} (h : isR A c b d) (hc : ∀ k : Nat, k < c → A (b + k) = B (e + k)) : isR B c e d := by
  cases d with
  | none => exact h
  | some l =>
    obtain ⟨h1, h2, h3⟩ := h
    exact ⟨h1, h2, h3.trans (upto_congr _ _ fun i hi => hc i (by omega))⟩
def DR (h : zH) (d : DO) : Prop := isR (hI h 191) (hI h 177 26) 0 d
def WR (h : zH) (d : DO) (s : Int) : Prop := isR (hI h 189) (hI h 190 s.toNat) (201 * s).toNat d
abbrev scrD : FA := [(191, none), (177, some 26)]
theorem c_drafts {h : zH} (K : KM h) {d : DO} (D : DR h d) (x : Int) : ∃ h2, zC 323 [zR (some 177), zI x] h = some (.inl none, h2) ∧ DR h2 (dpush d x) ∧ Fr scrD h h2 := by
  rw [q_M_drafts K]
  cases d with
  | none =>
    have D1 : hI h 177 26 = -1 := D
    rw [if_neg (by omega), if_pos D1]
    exact ⟨h, rfl, D, Fr_r _ _⟩
  | some l =>
    have hl := isR_len D
    obtain ⟨d1, d2, d3⟩ := D
    have e : dpush (some l) x = if l.length = 200 then none else some (l ++ [x]) := rfl
    rw [e]
    by_cases c : hI h 177 26 = 200
    · rw [if_pos c, if_pos rfl, if_pos (by omega)]
      exact ⟨_, rfl, rfl, Fr_I (Fr_r _ _) rfl⟩
    · rw [if_neg c, if_neg (by omega), gd_t (by omega), gd_t (by omega), if_neg (by omega)]
      refine ⟨_, rfl, ?_, Fr_I (Fr_I (Fr_r _ _) rfl) rfl⟩
      have e1 : hI (sI (sI h 191 (hI h 177 26).toNat x) 177 26 (hI h 177 26 + 1)) 177 26 = hI h 177 26 + 1 := rfl
      have e2 : hI (sI (sI h 191 (hI h 177 26).toNat x) 177 26 (hI h 177 26 + 1)) 191 = upN (hI h 191) (hI h 177 26).toNat x := by
        rw [← hI_up]
        rfl
      unfold DR
      rw [e1, e2]
      refine ⟨by omega, by omega, ?_⟩
      rw [show (hI h 177 26 + 1).toNat = (hI h 177 26).toNat + 1 by omega]
      show _ = upto _ 0 (hI h 177 26).toNat [_]
      rw [upto_app, d3, Nat.zero_add, upN_s]
      congr 1
      exact upto_congr _ _ fun i hi => by rw [upN_n _ _ (by omega)]
/-- a node of another row is written as itself or as an expression for it -/
def ndW (R N : Nat → Int) (s x : Int) : List Int := if s = -1 then [x] else if x = swV R N s then swE R N s else [x]
theorem ndW_none (l : List Int) : l.flatMap (ndW R N (-1)) = l := by
  induction l with
  | nil => rfl
  | cons x l ih => rw [List.flatMap_cons, ih]; rfl
theorem ndW_swp {s : Int} (hs : s ≠ -1) (l : List Int) : l.flatMap (ndW R N s) = swp (swV R N s) (swE R N s) l := by
  unfold swp
  congr 1
  funext x
  unfold ndW
  rw [if_neg hs]
theorem l_draftsForm {q : Int} (hq : 0 ≤ q) (hq2 : q < 74) (hl : 0 ≤ N (31 * q).toNat ∧ N (31 * q).toNat ≤ 30) : ∀ (m j : Nat) (h : zH) (d : DO), KM h → hI h 179 = N → DR h d → (j + m : Nat) = N (31 * q).toNat → ∃ h2, zY 322 2 [some (zR (some 177)), some (zI q), some (zI (j + 1))] [] h = some (.inl none, h2) ∧ DR h2 (dapp d (upto N ((31 * q).toNat + 1 + j) m [])) ∧ Fr scrD h h2
  | 0, j, h, d, K, hN, D, hj => by
    rw [q_M_draftsForm_2 K, hN, gd_t (by omega), gd_t (by omega), if_pos (by omega)]
    exact ⟨h, rfl, D, Fr_r _ _⟩
  | m + 1, j, h, d, K, hN, D, hj => by
    rw [q_M_draftsForm_2 K, hN, gd_t (by omega), gd_t (by omega), if_neg (by omega), gd_t (by omega), gd_t (by omega)]
    obtain ⟨h2, e2, D2, F2⟩ := c_drafts K D (N (31 * q + ((j : Int) + 1)).toNat)
    have K2 := KM_f K F2 rfl
    obtain ⟨h3, e3, D3, F3⟩ := l_draftsForm hq hq2 hl m (j + 1) h2 _ K2 ((rI F2 179 rfl).trans hN) D2 (by omega)
    rw [e2, q_M_draftsForm_r30 K2, gd_t (by omega), show ((j : Int) + 1 + 1) = ((j + 1 : Nat) : Int) + 1 by omega]
    refine ⟨h3, e3, ?_, Fr_t F2 F3⟩
    rw [upto_cons, dapp, show (31 * q).toNat + 1 + j = (31 * q + ((j : Int) + 1)).toNat by omega]
    rw [show (31 * q).toNat + 1 + (j + 1) = (31 * q + ((j : Int) + 1)).toNat + 1 by omega] at D3
    exact D3
theorem c_draftsForm {q : Int} {b : Bool} {h : zH} {d : DO} (K : KM h) (hN : hI h 179 = N) (hq : 0 ≤ q) (hq2 : q < 74) (hf : fmOk N q b) (D : DR h d) : ∃ h2, zC 322 [zR (some 177), zI q] h = some (.inl none, h2) ∧ DR h2 (dapp d (lst N q)) ∧ Fr scrD h h2 := by
  rw [q_M_draftsForm K]
  exact l_draftsForm hq hq2 ⟨hf.1, hf.2.1⟩ (N (31 * q).toNat).toNat 0 h d K hN D (by have := hf.1; omega)
def hsD (n : Int) (R N : Nat → Int) (s : Int) : Prop := s = -1 ∨ (0 ≤ s ∧ s < n) ∧ (sv R s 0 = 0 ∨ sv R s 0 = 3 ∧ N (2294 + s).toNat ≠ -1)
theorem tmod13 {f : Int} (h : 0 ≤ f) : Int.tmod f 13 = f % 13 := Int.tmod_eq_emod_of_nonneg h
theorem c_draftsSwap {s : Int} {h : zH} {d : DO} (M : MB n top R N h) (w : WS n R) (v : WN n R N) (hs : (0 ≤ s ∧ s < n) ∧ (sv R s 0 = 0 ∨ sv R s 0 = 3 ∧ N (2294 + s).toNat ≠ -1)) (D : DR h d) : ∃ h2, zC 329 [zR (some 177), zI s] h = some (.inl none, h2) ∧ DR h2 (dapp d (swE R N s)) ∧ Fr scrD h h2 := by
  obtain ⟨K, m1, m2, m3, m4⟩ := id M
  have w0 := w.1
  obtain ⟨⟨h0, h1⟩, hk⟩ := hs
  have v1 := v.2.2 s h0 h1
  have e0 : f_M_s h s 0 = sv R s 0 := by rw [f_M_s_e, m3]
  have ef : f_M_filling h s = N (2294 + s).toNat := by unfold f_M_filling; rw [m4]
  rw [q_M_draftsSwap K, e0, ef]
  unfold swE
  by_cases c0 : sv R s 0 = 0
  · rw [if_pos c0, if_pos c0, gd_t (by omega)]
    obtain ⟨h2, e2, D2, F2⟩ := c_draftsForm K m4 (q := 2 + s) (by omega) (by omega) (v1.1 c0) D
    rw [e2, q_M_draftsSwap_r16 (KM_f K F2 rfl)]
    exact ⟨h2, rfl, D2, F2⟩
  · have hf := v1.2.2.2.1 (by omega)
    rw [if_neg c0, if_neg c0, gd_t (by omega), tmod13 (by omega)]
    have h5 := Int.emod_nonneg (N (2294 + s).toNat) (show (13 : Int) ≠ 0 by decide)
    have h6 := Int.emod_lt_of_pos (N (2294 + s).toNat) (show (0 : Int) < 13 by decide)
    unfold flF
    generalize N (2294 + s).toNat % 13 = t at *
    have last : ∀ (g : zH) (d2 : DO), Fr scrD h g → DR g d2 → t ≤ 6 → ∃ h2, zBack zY 329 94 97 [some (zR (some 177)), some (zI s), some (zI t)] [] (some (.inl none, g)) = some (.inl none, h2) ∧ DR h2 d2 ∧ Fr scrD h h2 := fun g d2 F D2 ht => by
      rw [q_M_draftsSwap_r97 (KM_f K F rfl), if_neg (by omega)]
      exact ⟨g, rfl, D2, F⟩
    have last2 : ∀ (g : zH) (d2 : DO), Fr scrD h g → DR g d2 → 6 < t → ∃ h2, zBack zY 329 94 97 [some (zR (some 177)), some (zI s), some (zI t)] [] (some (.inl none, g)) = some (.inl none, h2) ∧ DR h2 (dpush d2 1) ∧ Fr scrD h h2 := fun g d2 F D2 ht => by
      have Kg := KM_f K F rfl
      obtain ⟨h3, e3, D3, F3⟩ := c_drafts Kg D2 1
      rw [q_M_draftsSwap_r97 Kg, if_pos ht, e3, q_M_draftsSwap_r108 (KM_f Kg F3 rfl)]
      exact ⟨h3, rfl, D3, Fr_t F F3⟩
    by_cases c6 : 6 < t
    · rw [if_pos c6, if_neg (show ¬ t < 4 by omega), if_neg (show ¬ t < 7 by omega)]
      by_cases c10 : t < 10
      · rw [if_pos c10, if_pos c10]
        obtain ⟨h2, e2, D2, F2⟩ := c_drafts K D 7
        have K2 := KM_f K F2 rfl
        obtain ⟨h3, e3, D3, F3⟩ := c_drafts K2 D2 (4 + t - 7)
        rw [e2, q_M_draftsSwap_r49 K2, if_neg (by omega), if_neg (by omega), if_pos c10, gd_t (by omega), gd_t (by omega), e3]
        exact last2 h3 _ (Fr_t F2 F3) D3 c6
      · rw [if_neg c10, if_neg c10]
        obtain ⟨h2, e2, D2, F2⟩ := c_drafts K D 8
        have K2 := KM_f K F2 rfl
        obtain ⟨h3, e3, D3, F3⟩ := c_drafts K2 D2 (4 + t - 10)
        rw [e2, q_M_draftsSwap_r49 K2, if_neg (by omega), if_neg (by omega), if_neg c10, gd_t (by omega), gd_t (by omega), e3]
        exact last2 h3 _ (Fr_t F2 F3) D3 c6
    · rw [if_neg c6]
      by_cases c4 : t < 4
      · rw [if_pos c4, if_pos c4]
        obtain ⟨h2, e2, D2, F2⟩ := c_drafts K D t
        rw [e2]
        exact last h2 _ F2 D2 (by omega)
      · rw [if_neg c4, if_neg c4, if_pos (by omega), if_pos (by omega), gd_t (by omega), gd_t (by omega)]
        obtain ⟨h2, e2, D2, F2⟩ := c_drafts K D (4 + t - 4)
        rw [e2]
        exact last h2 _ F2 D2 (by omega)
theorem c_draftsNode {s x : Int} {h : zH} {d : DO} (M : MB n top R N h) (w : WS n R) (v : WN n R N) (hs : hsD n R N s) (D : DR h d) : ∃ h2, zC 327 [zR (some 177), zI s, zI x] h = some (.inl none, h2) ∧ DR h2 (dapp d (ndW R N s x)) ∧ Fr scrD h h2 := by
  obtain ⟨K, m1, m2, m3, m4⟩ := id M
  have w0 := w.1
  unfold ndW
  have plain : ∀ {P : Prop} [Decidable P], ¬ P → ∃ h2, (if P then zBack zY 327 16 19 [some (zR (some 177)), some (zI s), some (zI x)] [] (zC 329 [zR (some 177), zI s] h) else zBack zY 327 24 27 [some (zR (some 177)), some (zI s), some (zI x)] [] (zC 323 [zR (some 177), zI x] h)) = some (.inl none, h2) ∧ DR h2 (dapp d [x]) ∧ Fr scrD h h2 := fun hp => by
    obtain ⟨h2, e2, D2, F2⟩ := c_drafts K D x
    rw [if_neg hp, e2, q_M_draftsNode_r27 (KM_f K F2 rfl)]
    exact ⟨h2, rfl, D2, F2⟩
  rcases hs with rfl | ⟨⟨h0, h1⟩, hk⟩
  · rw [q_M_draftsNode K, if_pos rfl, if_pos rfl]
    obtain ⟨h2, e2, D2, F2⟩ := c_drafts K D x
    rw [e2, q_M_draftsNode_r27 (KM_f K F2 rfl)]
    exact ⟨h2, rfl, D2, F2⟩
  · have w1 := w.2.1 s h0 h1
    have v1 := v.2.2 s h0 h1
    have e0 : ∀ k, f_M_s h s k = sv R s k := fun k => by rw [f_M_s_e, m3]
    have ef : f_M_filling h s = N (2294 + s).toNat := by unfold f_M_filling; rw [m4]
    have ev : f_M_fillVariable h s = N (2294 + s).toNat / 13 := by unfold f_M_fillVariable; rw [ef]
    have e0' := e0 0
    have e1' := e0 1
    have es : f_M_swappedBy h s = swV R N s := by
      unfold f_M_swappedBy swV
      rw [e0, e0, ev]
      by_cases c : sv R s 0 = 0
      · rw [if_pos c, if_pos c]
      · rw [if_neg c, if_neg c]
    rw [q_M_draftsNode K, es, if_neg (show ¬ s = -1 by omega), if_neg (show ¬ s = -1 by omega)]
    by_cases c : x = swV R N s
    · obtain ⟨h2, e2, D2, F2⟩ := c_draftsSwap M w v ⟨⟨h0, h1⟩, hk⟩ D
      rw [if_pos c, if_pos c, e2, q_M_draftsNode_r19 (KM_f K F2 rfl)]
      exact ⟨h2, rfl, D2, F2⟩
    · have h5 := plain c
      rw [if_neg c] at h5
      rw [if_neg c, if_neg c]
      exact h5
theorem l_draftsFormBy {s q : Int} (w : WS n R) (v : WN n R N) (hs : hsD n R N s) (hq : 0 ≤ q) (hq2 : q < 74) (hl : 0 ≤ N (31 * q).toNat ∧ N (31 * q).toNat ≤ 30) : ∀ (m j : Nat) (h : zH) (d : DO), MB n top R N h → DR h d → (j + m : Nat) = N (31 * q).toNat → ∃ h2, zY 326 2 [some (zR (some 177)), some (zI s), some (zI q), some (zI (j + 1))] [] h = some (.inl none, h2) ∧ DR h2 (dapp d ((upto N ((31 * q).toNat + 1 + j) m []).flatMap (ndW R N s))) ∧ Fr scrD h h2
  | 0, j, h, d, M, D, hj => by
    rw [q_M_draftsFormBy_2 M.1, M.2.2.2.2, gd_t (by omega), gd_t (by omega), if_pos (by omega)]
    exact ⟨h, rfl, D, Fr_r _ _⟩
  | m + 1, j, h, d, M, D, hj => by
    rw [q_M_draftsFormBy_2 M.1, M.2.2.2.2, gd_t (by omega), gd_t (by omega), if_neg (by omega), gd_t (by omega), gd_t (by omega)]
    obtain ⟨h2, e2, D2, F2⟩ := c_draftsNode (x := N (31 * q + ((j : Int) + 1)).toNat) M w v hs D
    have M2 := MB_f M F2 rfl
    obtain ⟨h3, e3, D3, F3⟩ := l_draftsFormBy w v hs hq hq2 hl m (j + 1) h2 _ M2 D2 (by omega)
    rw [e2, q_M_draftsFormBy_r31 M2.1, gd_t (by omega), show ((j : Int) + 1 + 1) = ((j + 1 : Nat) : Int) + 1 by omega]
    refine ⟨h3, e3, ?_, Fr_t F2 F3⟩
    rw [upto_cons, List.flatMap_cons, dapp_app, show (31 * q).toNat + 1 + j = (31 * q + ((j : Int) + 1)).toNat by omega]
    rw [show (31 * q).toNat + 1 + (j + 1) = (31 * q + ((j : Int) + 1)).toNat + 1 by omega] at D3
    exact D3
theorem c_draftsFormBy {s q : Int} {b : Bool} {h : zH} {d : DO} (M : MB n top R N h) (w : WS n R) (v : WN n R N) (hs : hsD n R N s) (hq : 0 ≤ q) (hq2 : q < 74) (hf : fmOk N q b) (D : DR h d) : ∃ h2, zC 326 [zR (some 177), zI s, zI q] h = some (.inl none, h2) ∧ DR h2 (dapp d ((lst N q).flatMap (ndW R N s))) ∧ Fr scrD h h2 := by
  rw [q_M_draftsFormBy M.1]
  exact l_draftsFormBy w v hs hq hq2 ⟨hf.1, hf.2.1⟩ (N (31 * q).toNat).toNat 0 h d M D (by have := hf.1; omega)
theorem l_draftsWritten {t c : Int} {A : Nat → Int} (h0 : 0 ≤ t) (h1 : t < 24) (hc : c ≤ 200) : ∀ (m j : Nat) (h : zH) (d : DO), KM h → hI h 190 t.toNat = c → hI h 189 = A → DR h d → (j + m : Nat) = c → ∃ h2, zY 331 17 [some (zR (some 177)), some (zI t), some (zI j)] [] h = some (.inl none, h2) ∧ DR h2 (dapp d (upto A ((201 * t).toNat + j) m [])) ∧ Fr scrD h h2
  | 0, j, h, d, K, hC, hA, D, hj => by
    rw [q_M_draftsWritten_17 K, hC, gd_t (by omega), if_neg (by omega)]
    exact ⟨h, rfl, D, Fr_r _ _⟩
  | m + 1, j, h, d, K, hC, hA, D, hj => by
    rw [q_M_draftsWritten_17 K, hC, hA, gd_t (by omega), if_pos (by omega), gd_t (by omega), gd_t (by omega), gd_t (by omega)]
    obtain ⟨h2, e2, D2, F2⟩ := c_drafts K D (A (201 * t + (j : Int)).toNat)
    have K2 := KM_f K F2 rfl
    obtain ⟨h3, e3, D3, F3⟩ := l_draftsWritten h0 h1 hc m (j + 1) h2 _ K2 ((fI F2 190 t.toNat rfl).trans hC) ((rI F2 189 rfl).trans hA) D2 (by omega)
    rw [e2, q_M_draftsWritten_r43 K2, gd_t (by omega), show ((j : Int) + 1) = ((j + 1 : Nat) : Int) by omega]
    refine ⟨h3, e3, ?_, Fr_t F2 F3⟩
    rw [upto_cons, dapp, show (201 * t).toNat + j = (201 * t + (j : Int)).toNat by omega]
    rw [show (201 * t).toNat + (j + 1) = (201 * t + (j : Int)).toNat + 1 by omega] at D3
    exact D3
theorem c_draftsWritten {t : Int} {h : zH} {d r : DO} (K : KM h) (h0 : 0 ≤ t) (h1 : t < 24) (W : WR h r t) (D : DR h d) : ∃ h2, zC 331 [zR (some 177), zI t] h = some (.inl none, h2) ∧ DR h2 (apO d r) ∧ Fr scrD h h2 := by
  rw [q_M_draftsWritten K, gd_t (by omega)]
  cases r with
  | none =>
    have W1 : hI h 190 t.toNat = -1 := W
    rw [if_pos W1]
    have F : Fr scrD h (sI h 177 26 (-1)) := Fr_I (Fr_r _ _) rfl
    have K2 := KM_f K F rfl
    rw [q_M_draftsWritten_17 K2, gd_t (by omega), if_neg (by rw [fI F 190 _ rfl, W1]; decide)]
    exact ⟨_, rfl, rfl, F⟩
  | some l =>
    obtain ⟨w1, w2, w3⟩ := W
    rw [if_neg (by omega)]
    obtain ⟨h2, e2, D2, F2⟩ := l_draftsWritten h0 h1 w2 (hI h 190 t.toNat).toNat 0 h d K rfl rfl D (by omega)
    refine ⟨h2, e2, ?_, F2⟩
    show DR h2 (dapp d l)
    rw [w3]
    exact D2
theorem l_draftsWrittenBy {s t c : Int} {A : Nat → Int} (w : WS n R) (v : WN n R N) (hs : hsD n R N s) (h0 : 0 ≤ t) (h1 : t < 24) (hc : c ≤ 200) : ∀ (m j : Nat) (h : zH) (d : DO), MB n top R N h → hI h 190 t.toNat = c → hI h 189 = A → DR h d → (j + m : Nat) = c → ∃ h2, zY 330 17 [some (zR (some 177)), some (zI s), some (zI t), some (zI j)] [] h = some (.inl none, h2) ∧ DR h2 (dapp d ((upto A ((201 * t).toNat + j) m []).flatMap (ndW R N s))) ∧ Fr scrD h h2
  | 0, j, h, d, M, hC, hA, D, hj => by
    rw [q_M_draftsWrittenBy_17 M.1, hC, gd_t (by omega), if_neg (by omega)]
    exact ⟨h, rfl, D, Fr_r _ _⟩
  | m + 1, j, h, d, M, hC, hA, D, hj => by
    rw [q_M_draftsWrittenBy_17 M.1, hC, hA, gd_t (by omega), if_pos (by omega), gd_t (by omega), gd_t (by omega), gd_t (by omega)]
    obtain ⟨h2, e2, D2, F2⟩ := c_draftsNode (x := A (201 * t + (j : Int)).toNat) M w v hs D
    have M2 := MB_f M F2 rfl
    obtain ⟨h3, e3, D3, F3⟩ := l_draftsWrittenBy w v hs h0 h1 hc m (j + 1) h2 _ M2 ((fI F2 190 t.toNat rfl).trans hC) ((rI F2 189 rfl).trans hA) D2 (by omega)
    rw [e2, q_M_draftsWrittenBy_r44 M2.1, gd_t (by omega), show ((j : Int) + 1) = ((j + 1 : Nat) : Int) by omega]
    refine ⟨h3, e3, ?_, Fr_t F2 F3⟩
    rw [upto_cons, List.flatMap_cons, dapp_app, show (201 * t).toNat + j = (201 * t + (j : Int)).toNat by omega]
    rw [show (201 * t).toNat + (j + 1) = (201 * t + (j : Int)).toNat + 1 by omega] at D3
    exact D3
/-- what stands behind a row of nodes swapped by s -/
def swB (R N : Nat → Int) (s : Int) (r : DO) : DO := r.map fun l => l.flatMap (ndW R N s)
theorem c_draftsWrittenBy {s t : Int} {h : zH} {d r : DO} (M : MB n top R N h) (w : WS n R) (v : WN n R N) (hs : hsD n R N s) (h0 : 0 ≤ t) (h1 : t < 24) (W : WR h r t) (D : DR h d) : ∃ h2, zC 330 [zR (some 177), zI s, zI t] h = some (.inl none, h2) ∧ DR h2 (apO d (swB R N s r)) ∧ Fr scrD h h2 := by
  have K := M.1
  rw [q_M_draftsWrittenBy K, gd_t (by omega)]
  cases r with
  | none =>
    have W1 : hI h 190 t.toNat = -1 := W
    rw [if_pos W1]
    have F : Fr scrD h (sI h 177 26 (-1)) := Fr_I (Fr_r _ _) rfl
    have K2 := KM_f K F rfl
    rw [q_M_draftsWrittenBy_17 K2, gd_t (by omega), if_neg (by rw [fI F 190 _ rfl, W1]; decide)]
    exact ⟨_, rfl, rfl, F⟩
  | some l =>
    obtain ⟨w1, w2, w3⟩ := W
    rw [if_neg (by omega)]
    obtain ⟨h2, e2, D2, F2⟩ := l_draftsWrittenBy w v hs h0 h1 w2 (hI h 190 t.toNat).toNat 0 h d M rfl rfl D (by omega)
    refine ⟨h2, e2, ?_, F2⟩
    show DR h2 (dapp d (l.flatMap (ndW R N s)))
    rw [w3]
    exact D2
theorem l_draftsBehind {s b : Int} {h : zH} {d : DO} {th : Int → Int} {W : Int → DO} (M : MB n top R N h) (w : WS n R) (v : WN n R N) (hT : isTH n R th) (hW : ∀ t, 0 ≤ t → t < n → sv R t 0 = 2 → W t = some (lst N (26 + t))) (hb : hsD n R N b) (h0 : 0 ≤ s) (h1 : s < n) (hA : ∀ t, s < t → t < n → WR h (W t) t) (D : DR h d) : ∀ (m : Nat) (k : Nat) (x : Int), x = up R k s → 0 ≤ x → x < n → x < m → th x = th s → ∃ h2, zY 325 2 [some (zR (some 177)), some (zI s), some (zI b), some (zI x), none] [] h = some (.inl none, h2) ∧ DR h2 (apO d (swB R N b (srW N W (th s)))) ∧ Fr scrD h h2
  | 0, k, x, hx, hx0, hx1, hm, ht => by omega
  | m + 1, k, x, hx, hx0, hx1, hm, ht => by
    obtain ⟨K, m1, m2, m3, m4⟩ := id M
    have w0 := w.1
    have w1 := w.2.1 x hx0 hx1
    have e4 : f_M_s h x 4 = sv R x 4 := by rw [f_M_s_e, m3]
    have e3 : f_M_s h x 3 = sv R x 3 := by rw [f_M_s_e, m3]
    have e0 : f_M_s h (sv R x 3) 0 = sv R (sv R x 3) 0 := by rw [f_M_s_e, m3]
    have hTx := hT x hx0 hx1
    rw [q_M_draftsBehind_2 K, e4, e3, e0]
    by_cases c4 : sv R x 4 = -1
    · rw [if_pos c4] at hTx ⊢
      by_cases c3 : sv R x 3 = -1
      · rw [if_pos c3] at hTx ⊢
        obtain ⟨h2, e2, D2, F2⟩ := c_draftsFormBy (q := 1) M w v hb (by omega) (by omega) v.2.1 D
        rw [e2, q_M_draftsBehind_r32 (KM_f K F2 rfl)]
        refine ⟨h2, rfl, ?_, F2⟩
        rw [← ht, hTx]
        exact D2
      · rw [if_neg c3] at hTx ⊢
        by_cases c0 : sv R (sv R x 3) 0 = 2
        · rw [if_pos c0] at hTx ⊢
          have v1 := (v.2.2 (sv R x 3) (by omega) (by omega)).2.2.1 c0
          obtain ⟨h2, e2, D2, F2⟩ := c_draftsFormBy (q := 26 + sv R x 3) M w v hb (by omega) (by omega) v1.2.1 D
          rw [gd_t (by omega), e2, q_M_draftsBehind_r54 (KM_f K F2 rfl)]
          refine ⟨h2, rfl, ?_, F2⟩
          rw [← ht, hTx, srW, if_neg c3, hW _ (by omega) (by omega) c0]
          exact D2
        · rw [if_neg c0] at hTx ⊢
          obtain ⟨h2, e2, D2, F2⟩ := l_draftsBehind M w v hT hW hb h0 h1 hA D m (k + 1) (sv R x 3) (by rw [up, ← hx, if_neg (by omega)]) (by omega) (by omega) (by omega) (hTx.symm.trans ht)
          exact ⟨h2, zY_le (by exact ⟨rfl, rfl, rfl, rfl, trivial⟩) e2, D2, F2⟩
    · rw [if_neg c4] at hTx ⊢
      have hu := w.2.2 s k h0 h1 (by rw [← hx]; omega)
      rw [← hx] at hu
      obtain ⟨h2, e2, D2, F2⟩ := c_draftsWrittenBy M w v hb (t := sv R x 4) (by omega) (by omega) (hA _ (by omega) (by omega)) D
      rw [e2, q_M_draftsBehind_r72 (KM_f K F2 rfl)]
      refine ⟨h2, rfl, ?_, F2⟩
      rw [← ht, hTx, srW, if_neg c4]
      exact D2
theorem c_draftsBehind {s b : Int} {h : zH} {d : DO} {W : Int → DO} (M : MB n top R N h) (w : WS n R) (v : WN n R N) (hW : ∀ t, 0 ≤ t → t < n → sv R t 0 = 2 → W t = some (lst N (26 + t))) (hb : hsD n R N b) (h0 : 0 ≤ s) (h1 : s < n) (hA : ∀ t, s < t → t < n → WR h (W t) t) (D : DR h d) : ∃ h2, zC 325 [zR (some 177), zI s, zI b] h = some (.inl none, h2) ∧ DR h2 (apO d (swB R N b (srW N W (thn R s)))) ∧ Fr scrD h h2 := by
  rw [q_M_draftsBehind M.1]
  exact l_draftsBehind M w v (isTH_t w) hW hb h0 h1 hA D (s.toNat + 1) 0 s rfl h0 h1 (by omega) rfl
theorem swB_none (r : DO) : swB R N (-1) r = r := by
  cases r with
  | none => rfl
  | some l => exact congrArg some (ndW_none l)
theorem c_draftsRow {s f : Int} {h : zH} {d : DO} {W : Int → DO} (M : MB n top R N h) (w : WS n R) (v : WN n R N) (hW : ∀ t, 0 ≤ t → t < n → sv R t 0 = 2 → W t = some (lst N (26 + t))) (h0 : 0 ≤ s) (h1 : s < n) (hA : ∀ t, s < t → t < n → WR h (W t) t) (D : DR h d) (hf : f = -1 ∨ s < f ∧ f < n) : ∃ h2, zC 324 [zR (some 177), zI s, zI f] h = some (.inl none, h2) ∧ DR h2 (apO d (rwW N W (thn R s) f)) ∧ Fr scrD h h2 := by
  have w0 := w.1
  rw [q_M_draftsRow M.1]
  unfold rwW
  by_cases c : f = -1
  · rw [if_pos c, if_pos c]
    obtain ⟨h2, e2, D2, F2⟩ := c_draftsBehind (b := -1) M w v hW (Or.inl rfl) h0 h1 hA D
    rw [e2, q_M_draftsRow_r11 (KM_f M.1 F2 rfl)]
    rw [swB_none] at D2
    exact ⟨h2, rfl, D2, F2⟩
  · rw [if_neg c, if_neg c]
    obtain ⟨h2, e2, D2, F2⟩ := c_draftsWritten M.1 (t := f) (by omega) (by omega) (hA f (by omega) (by omega)) D
    rw [e2, q_M_draftsRow_r19 (KM_f M.1 F2 rfl)]
    exact ⟨h2, rfl, D2, F2⟩
abbrev scrW : FA := [(189, none), (190, none), (191, none), (177, some 26)]
theorem WR_keep {h h2 : zH} {e : DO} {t : Int} (W : WR h e t) (hc : hI h2 190 t.toNat = hI h 190 t.toNat) (hk : ∀ k : Nat, k < 200 → hI h2 189 ((201 * t).toNat + k) = hI h 189 ((201 * t).toNat + k)) : WR h2 e t := by
  unfold WR at *
  rw [hc]
  cases e with
  | none => exact W
  | some l => exact isR_congr W fun k hk2 => (hk k (by have := W.2.1; omega)).symm
theorem WR_f {A : FA} {h h2 : zH} {e : DO} {t : Int} (W : WR h e t) (F : Fr A h h2) (a : rowA A 189 = true) (b : rowA A 190 = true) : WR h2 e t := WR_keep W (by rw [rI F 190 b]) fun k _ => by rw [rI F 189 a]
theorem c_draftsNeed {s : Int} {h : zH} {W : Int → DO} (M : MB n top R N h) (w : WS n R) (v : WN n R N) (hW : ∀ t, 0 ≤ t → t < n → sv R t 0 = 2 → W t = some (lst N (26 + t))) (h0 : 0 ≤ s) (h1 : s < n) (hA : ∀ t, s < t → t < n → WR h (W t) t) : ∃ h2, zC 321 [zR (some 177), zI s] h = some (.inl none, h2) ∧ DR h2 (wdS R N W s) ∧ Fr scrD h h2 := by
  have w0 := w.1
  have w1 := w.2.1 s h0 h1
  have v1 := v.2.2 s h0 h1
  have F0 : Fr scrD h (sI h 177 26 0) := Fr_I (Fr_r _ _) rfl
  have M0 := MB_f M F0 rfl
  have D0 : DR (sI h 177 26 0) (some []) := ⟨Int.le_refl _, (by decide : (0 : Int) ≤ 200), rfl⟩
  have A0 : ∀ t, s < t → t < n → WR (sI h 177 26 0) (W t) t := fun t a b => WR_f (hA t a b) F0 rfl rfl
  rw [q_M_draftsNeed M.1]
  generalize sI h 177 26 0 = g at *
  have es : ∀ {g : zH}, MB n top R N g → ∀ k, f_M_s g s k = sv R s k := fun Mg k => by rw [f_M_s_e, Mg.2.2.2.1]
  have ef : f_M_filling g s = N (2294 + s).toNat := by unfold f_M_filling; rw [M0.2.2.2.2]
  rw [es M0, ef]
  unfold wdS
  by_cases c2 : sv R s 0 = 2
  · rw [if_pos c2, if_pos c2, gd_t (by omega)]
    obtain ⟨h2, e2, D2, F2⟩ := c_draftsForm M0.1 M0.2.2.2.2 (q := 26 + s) (by omega) (by omega) (v1.2.2.1 c2).2.1 D0
    rw [e2, q_M_draftsNeed_r23 (KM_f M0.1 F2 rfl)]
    refine ⟨h2, rfl, ?_, Fr_t F0 F2⟩
    have hl := fmOk_len (v1.2.2.1 c2).2.1
    rw [dapp_e _ _ (by simp), List.nil_append, if_pos (by omega)] at D2
    exact D2
  · rw [if_neg c2, if_neg c2]
    by_cases c1 : sv R s 0 = 1
    · rw [if_pos c1, if_pos c1]
      obtain ⟨ha, e2, D2, F2⟩ := c_drafts M0.1 D0 16
      have Ma := MB_f M0 F2 rfl
      obtain ⟨hb, e3, D3, F3⟩ := c_drafts Ma.1 D2 15
      have Mb := MB_f Ma F3 rfl
      obtain ⟨hc, e4, D4, F4⟩ := c_draftsForm Mb.1 Mb.2.2.2.2 (q := 2 + s) (by omega) (by omega) (v1.2.1 c1) D3
      have Mc := MB_f Mb F4 rfl
      have F24 := Fr_t F2 (Fr_t F3 F4)
      obtain ⟨hd, e5, D5, F5⟩ := c_draftsRow Mc w v hW h0 h1 (fun t a b => WR_f (A0 t a b) F24 rfl rfl) D4 (f := sv R s 5) (by omega)
      have Md := MB_f Mc F5 rfl
      obtain ⟨hp, e6, D6, F6⟩ := c_drafts Md.1 D5 15
      have Mp := MB_f Md F6 rfl
      obtain ⟨hr, e7, D7, F7⟩ := c_drafts Mp.1 D6 14
      have Mr := MB_f Mp F7 rfl
      obtain ⟨hs, e8, D8, F8⟩ := c_draftsForm Mr.1 Mr.2.2.2.2 (q := 2 + s) (by omega) (by omega) (v1.2.1 c1) D7
      have Ms := MB_f Mr F8 rfl
      have F28 := Fr_t F24 (Fr_t F5 (Fr_t F6 (Fr_t F7 F8)))
      obtain ⟨ht, e9, D9, F9⟩ := c_draftsRow Ms w v hW h0 h1 (fun t a b => WR_f (A0 t a b) F28 rfl rfl) D8 (f := sv R s 6) (by omega)
      have Mt := MB_f Ms F9 rfl
      rw [e2, q_M_draftsNeed_r42 Ma.1, e3, q_M_draftsNeed_r48 Mb.1, gd_t (by omega), e4, q_M_draftsNeed_r55 Mc.1, es Mc, e5, q_M_draftsNeed_r66 Md.1, e6, q_M_draftsNeed_r72 Mp.1, e7, q_M_draftsNeed_r78 Mr.1, gd_t (by omega), e8, q_M_draftsNeed_r85 Ms.1, es Ms, e9, q_M_draftsNeed_r97 Mt.1]
      exact ⟨ht, rfl, D9, Fr_t F0 (Fr_t F28 F9)⟩
    · rw [if_neg c1, if_neg c1]
      have fin : ∀ b x : Int, hsD n R N b → ∃ h2, zBack zY 321 135 138 [some (zR (some 177)), some (zI s), some (zI x)] [] (zC 325 [zR (some 177), zI s, zI b] g) = some (.inl none, h2) ∧ DR h2 (apO (some []) (swB R N b (srW N W (thn R s)))) ∧ Fr scrD h h2 := fun b x hb => by
        obtain ⟨h2, e2, D2, F2⟩ := c_draftsBehind M0 w v hW hb h0 h1 A0 D0
        rw [e2, q_M_draftsNeed_r138 (KM_f M0.1 F2 rfl)]
        exact ⟨h2, rfl, D2, Fr_t F0 F2⟩
      have hsw : swB R N s (srW N W (thn R s)) = (srW N W (thn R s)).map (swp (swV R N s) (swE R N s)) := by
        unfold swB
        congr 1
        funext l
        exact ndW_swp (by omega) l
      by_cases c0 : sv R s 0 = 0
      · rw [if_pos c0, if_pos (by simp [hsW, c0]), ← hsw]
        exact fin s 1 (Or.inr ⟨⟨h0, h1⟩, Or.inl c0⟩)
      · rw [if_neg c0]
        by_cases cf : N (2294 + s).toNat = -1
        · rw [if_pos cf, if_neg (by simp [hsW, c0, cf])]
          have h5 := fin (-1) 0 (Or.inl rfl)
          rw [swB_none] at h5
          exact h5
        · rw [if_neg cf, if_pos (by simp [hsW, cf]), ← hsw]
          exact fin s 1 (Or.inr ⟨⟨h0, h1⟩, Or.inr ⟨by omega, cf⟩⟩)
theorem l_copyNeed {s c : Int} {A : Nat → Int} (h0 : 0 ≤ s) (h1 : s < 24) (hc : c ≤ 200) : ∀ (m j : Nat) (h : zH), KM h → hI h 177 26 = c → hI h 191 = A → c ≤ j + m → (∀ k : Nat, k < j → hI h 189 ((201 * s).toNat + k) = A k) → ∃ (h2 : zH) (x : Int), zY 320 28 [some (zR (some 177)), some (zI s), some (zI j)] [] h = zY 320 7 [some (zR (some 177)), some (zI (s + (-1))), some (zI x)] [] h2 ∧ (∀ k : Nat, k < c → hI h2 189 ((201 * s).toNat + k) = A k) ∧ (∀ k : Nat, (201 * s).toNat + 201 ≤ k → hI h2 189 k = hI h 189 k) ∧ Fr [(189, none)] h h2
  | 0, j, h, K, hC, hA, hj, hk => by
    rw [q_M_writesNeeds_28 K, hC, if_neg (by omega), gd_t (by omega)]
    exact ⟨h, j, rfl, fun k q => hk k (by omega), fun _ _ => rfl, Fr_r _ _⟩
  | m + 1, j, h, K, hC, hA, hj, hk => by
    rw [q_M_writesNeeds_28 K, hC]
    by_cases c0 : (j : Int) < c
    · rw [if_pos c0, gd_t (by omega), gd_t (by omega), gd_t (by omega), gd_t (by omega), gd_t (by omega), hA]
      have F : Fr [(189, none)] h (sI h 189 (201 * s + (j : Int)).toNat (A (j : Int).toNat)) := Fr_I (Fr_r _ _) rfl
      have K2 := KM_f K F rfl
      obtain ⟨h2, x, e2, a2, b2, F2⟩ := l_copyNeed h0 h1 hc m (j + 1) _ K2 ((fI F 177 26 rfl).trans hC) ((rI F 191 rfl).trans hA) (by omega) (fun k q => by
        rw [hI_up]
        by_cases c2 : k = j
        · subst c2
          rw [show (201 * s).toNat + k = (201 * s + (k : Int)).toNat by omega, upN_s, Int.toNat_natCast]
        · rw [upN_n _ _ (by omega)]
          exact hk k (by omega))
      refine ⟨h2, x, by rw [show ((j : Int) + 1) = ((j + 1 : Nat) : Int) by omega]; exact e2, a2, fun k q => ?_, Fr_t F F2⟩
      rw [b2 k q, hI_up, upN_n _ _ (by omega)]
    · rw [if_neg c0, gd_t (by omega)]
      exact ⟨h, j, rfl, fun k q => hk k (by omega), fun _ _ => rfl, Fr_r _ _⟩
theorem l_writesNeeds (w : WS n R) (v : WN n R N) {W : Int → DO} (hW : ∀ t, 0 ≤ t → t < n → sv R t 0 = 2 → W t = some (lst N (26 + t))) (hE : ∀ s, 0 ≤ s → s < n → W s = wdS R N W s) : ∀ (m : Nat) (h : zH), MB n top R N h → (m : Int) ≤ n → (∀ t, (m : Int) ≤ t → t < n → WR h (W t) t) → ∃ h2, zY 320 7 [some (zR (some 177)), some (zI ((m : Int) - 1)), none] [] h = some (.inl none, h2) ∧ (∀ t, 0 ≤ t → t < n → WR h2 (W t) t) ∧ Fr scrW h h2
  | 0, h, M, hm, hA => by
    rw [q_M_writesNeeds_7 M.1, if_pos (by omega)]
    exact ⟨h, rfl, fun t h0 h1 => hA t (by omega) h1, Fr_r _ _⟩
  | m + 1, h, M, hm, hA => by
    have w0 := w.1
    obtain ⟨h2, e2, D2, F2⟩ := c_draftsNeed M w v hW (s := m) (by omega) (by omega) (fun t a b => hA t (by omega) b)
    have M2 := MB_f M F2 rfl
    have F3 : Fr [(190, none)] h2 (sI h2 190 (m : Int).toNat (hI h2 177 26)) := Fr_I (Fr_r _ _) rfl
    have M3 := MB_f M2 F3 rfl
    have e3 : hI (sI h2 190 (m : Int).toNat (hI h2 177 26)) 177 26 = hI h2 177 26 := fI F3 177 26 rfl
    have e4 : hI (sI h2 190 (m : Int).toNat (hI h2 177 26)) 191 = hI h2 191 := rI F3 191 rfl
    have hle : hI h2 177 26 ≤ 200 ∧ -1 ≤ hI h2 177 26 := by
      unfold DR at D2
      cases hd : wdS R N W m with
      | none => rw [hd] at D2; have D3 : hI h2 177 26 = -1 := D2; omega
      | some l => rw [hd] at D2; have := D2.1; have := D2.2.1; omega
    obtain ⟨h4, x, e5, a5, b5, F5⟩ := l_copyNeed (s := m) (c := hI h2 177 26) (A := hI h2 191) (by omega) (by omega) hle.1 (hI h2 177 26).toNat 0 _ M3.1 e3 e4 (by omega) (fun k q => absurd q (Nat.not_lt_zero _))
    have M4 := MB_f M3 F5 rfl
    have F25 : Fr scrW h h4 := Fr_t (Fr_m F2 rfl) (Fr_t (Fr_m F3 rfl) (Fr_m F5 rfl))
    obtain ⟨h6, e6, A6, F6⟩ := l_writesNeeds w v hW hE m h4 M4 (by omega) (fun t a b => by
      by_cases c : t = m
      · subst c
        rw [hE _ (by omega) b]
        have hr : hI h4 190 ((m : Int).toNat) = hI h2 177 26 := by
          rw [rI F5 190 rfl, hI_up, upN_s]
        unfold WR
        rw [hr]
        exact isR_congr D2 fun k q => by
          rw [Nat.zero_add]
          exact (a5 k q).symm
      · refine WR_keep (WR_f (hA t (by omega) b) F2 rfl rfl) ?_ (fun k q => ?_)
        · rw [rI F5 190 rfl, hI_up, upN_n _ _ (by omega)]
        · rw [b5 _ (by omega), rI F3 189 rfl])
    rw [q_M_writesNeeds_7 M.1, if_neg (by omega), show (((m + 1 : Nat) : Int) - 1) = m by omega, e2, q_M_writesNeeds_r16 M2.1, gd_t (by omega)]
    refine ⟨h6, ?_, A6, Fr_t F25 F6⟩
    exact e5.trans (zY_le (by exact ⟨rfl, rfl, trivial⟩) e6)
theorem c_writesNeeds {h : zH} (M : MB n top R N h) (P : Prg n top R N) : ∃ h2, zC 320 [zR (some 177)] h = some (.inl none, h2) ∧ (∀ t, 0 ≤ t → t < n → WR h2 (WW n R N t) t) ∧ Fr scrW h h2 := by
  have w0 := P.1.1
  have m1 := M.2.1
  obtain ⟨h2, e2, A2, F2⟩ := l_writesNeeds P.1 P.2.1 (W := WW n R N) (fun t _ _ q => WW_w q) (fun s a b => WW_e P.1 a b) n.toNat h M (by omega) (fun t h0 h1 => by omega)
  rw [q_M_writesNeeds M.1, gd_t (by omega), m1]
  rw [show ((n.toNat : Nat) : Int) = n by omega] at e2
  exact ⟨h2, e2, A2, F2⟩
end WRITE2
