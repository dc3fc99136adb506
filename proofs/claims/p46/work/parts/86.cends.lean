/-! The class: where runs end, made anew. -/
section CENDS
variable {n top : Int} {R N : Nat → Int} {T : Int → Int → Int} {h : zH} {p v : Nat}
theorem has_e (x : BitVec 64) {y : Int} (h0 : 0 ≤ y) (h1 : y < 64) : b_S_has x y ↔ bt x y = true := by
  unfold b_S_has
  rw [bt_ushr x h0 h1]
  by_cases c : bt x y = true
  · rw [if_pos c]; exact ⟨fun _ => c, fun _ e => absurd e (by decide)⟩
  · rw [if_neg c]; exact ⟨fun e => absurd rfl e, fun e => absurd e c⟩
theorem holdsIn_e {s st : Int} (w : WS n R) (v : WN n R N) (h0 : 0 ≤ s) (h1 : s < n) (k : sv R s 0 = 1 ∨ sv R s 0 = 2) (S : SCs h R N s) (h2 : 0 ≤ st) (h3 : st < 64) : b_S_holdsIn h s st ↔ hb N s st = true := by
  have w0 := w.1
  have v1 := v.2.2 s h0 h1
  have hf : fmOk N (2 + s) true := by
    rcases k with k | k
    · exact v1.2.1 k
    · exact (v1.2.2.1 k).1
  have e : f_S_conditionOf h s = setL (lst N (2 + s)) := by
    unfold f_S_conditionOf
    rw [if_neg (by omega), if_pos (by omega), S.2.2.1]
    unfold cfL
    rw [if_neg (by omega), low_set hf.2.2]
  show b_S_has (f_S_conditionOf h s) st ↔ _
  rw [e, has_e _ h2 h3, bt_setL _ h2 h3]
  rfl
theorem moved_fin {st t x : Int} (h0 : 0 ≤ st) (h1 : st < 64) (h2 : 0 ≤ t) (h3 : t < 3) (h4 : 0 ≤ x) (h5 : x < 4) : zor (zand st (zxor (zshl 3 (2 * t)) (-1))) (zshl x (2 * t)) = f_M_changed st t x :=
  finN (P := fun st => zor (zand st (zxor (zshl 3 (2 * t)) (-1))) (zshl x (2 * t)) = f_M_changed st t x) (n := 64) (fun s => finN (P := fun t => zor (zand s.val (zxor (zshl 3 (2 * t)) (-1))) (zshl x (2 * t)) = f_M_changed s.val t x) (n := 3) (fun t => finN (P := fun x => zor (zand s.val (zxor (zshl 3 (2 * t.val)) (-1))) (zshl x (2 * t.val)) = f_M_changed s.val t.val x) (n := 4) ((show ∀ (s : Fin 64) (t : Fin 3) (x : Fin 4), zor (zand s.val (zxor (zshl 3 (2 * t.val)) (-1))) (zshl x.val (2 * t.val)) = f_M_changed s.val t.val x.val by decide +kernel) s t) h4 h5) h2 h3) h0 h1
theorem moved_e {s st : Int} (P : Prg n top R N) (hv3 : sv R s 0 = 3 → sv R s 1 = -1) (h0 : 0 ≤ s) (h1 : s < n) (k : sv R s 0 = 0 ∨ sv R s 0 = 3) (S : SCs h R N s) (h2 : 0 ≤ st) (h3 : st < 64) : f_S_moved h s st = bhS R N s st := by
  have w0 := P.1.1
  have w1 := P.1.2.1 s h0 h1
  have v1 := P.2.1.2.2 s h0 h1
  have o := cfL_ok P.1 P.2.1 h0 h1
  have hval := lOk_v o h2 h3
  unfold f_S_moved bhS
  rw [if_neg (by omega), if_pos (by omega), S.1, S.2.2.1, S.2.2.2, num_val h2 h3 hval]
  by_cases c : sv R s 0 = 0
  · have ht : tgS R N s = sv R s 1 := by unfold tgS; rw [if_neg (by omega)]
    have hl : cfL R N s = lst N (2 + s) := by unfold cfL; rw [if_neg (by omega)]
    have hr := w1.2.1 c
    rw [ht, hl, if_neg (by omega), if_pos c]
    rw [hl] at hval
    exact moved_fin h2 h3 hr.1 (by omega) hval.1 hval.2
  · have c3 : sv R s 0 = 3 := by omega
    have hN := v1.2.2.2.1 c3
    rw [if_neg c]
    by_cases d : N (2294 + s).toNat = -1
    · have ht : tgS R N s = -1 := by unfold tgS; rw [if_neg (fun e => e.2 d)]; exact hv3 c3
      rw [ht, if_pos rfl, if_pos d]
    · have ht : tgS R N s = N (2294 + s).toNat / 13 := by unfold tgS; rw [if_pos ⟨c3, d⟩]
      have hl : cfL R N s = flF (N (2294 + s).toNat) := by unfold cfL; rw [if_pos c3, if_neg d]
      rw [ht, hl, if_neg (by omega), if_neg d, val_flF (by omega) (by omega) h2 h3]
      rw [hl, val_flF (by omega) (by omega) h2 h3] at hval
      exact moved_fin h2 h3 (by omega) (by omega) hval.1 hval.2
theorem moved_g {s : Int} (P : Prg n top R N) (hv3 : sv R s 0 = 3 → sv R s 1 = -1) (h0 : 0 ≤ s) (h1 : s < n) (k : sv R s 0 = 0 ∨ sv R s 0 = 3) (S : SCs h R N s) : -1 ≤ hI h 96 s.toNat ∧ hI h 96 s.toNat ≤ 2 := by
  have w1 := P.1.2.1 s h0 h1
  have v1 := P.2.1.2.2 s h0 h1
  rw [S.1]
  unfold tgS
  by_cases c : sv R s 0 = 3 ∧ N (2294 + s).toNat ≠ -1
  · have := v1.2.2.2.1 c.1
    rw [if_pos c]; omega
  · rw [if_neg c]
    rcases k with k | k
    · have := w1.2.1 k; omega
    · have := hv3 k; omega
/-- the ends of the statements from lo on stand -/
def RT (h : zH) (n : Int) (T : Int → Int → Int) (lo : Int) : Prop := ∀ s st, lo ≤ s → s < n → 0 ≤ st → st < 64 → hI h 129 (s * 64 + st).toNat = T s st ∧ -1 ≤ T s st ∧ T s st < 64
theorem l_endOfRow (K : KC h) (rp : hR h 128 1 = some p) (Po : PO h p n R) (w : WS n R) {lo : Int} (hlo : 0 ≤ lo) (t : RT h n T lo) {a b : Int} : ∀ (m : Nat) (s st i : Int), (s = -1 ∨ lo ≤ s ∧ s < n) → -1 ≤ st → st < 64 → 0 ≤ i → i + m = 24 → zY 60 8 [some (zR (some 128)), some (zI a), some (zI b), some (zI st), some (zI s), some (zI i)] [] h = some (.inl (some (zI (rwE T R m s st))), h)
  | 0, s, st, i, hs, h0, h1, i0, hm => by
    rw [q_R_endOfRow_8 K rp Po.1, if_neg (by omega)]
    rfl
  | m + 1, s, st, i, hs, h0, h1, i0, hm => by
    have nb := PO_b Po
    rw [q_R_endOfRow_8 K rp Po.1, if_pos (by omega), rwE]
    by_cases c : s = -1
    · rw [if_neg (fun e => by have := (PO_has Po s).1 e; omega), if_pos (Or.inl c)]
    · rw [if_pos ((PO_has Po s).2 (by omega))]
      by_cases d : st = -1
      · rw [if_pos (by omega), if_pos (Or.inr d)]
      · have hq := t s st (by omega) (by omega) (by omega) h1
        have hn : hI h (p + 5) s.toNat = sv R s 4 := (Po.2.2.2.2.1 s (by omega) (by omega)).2.2.2.2.1
        have w4 := (w.2.1 s (by omega) (by omega)).2.2.2.1
        rw [if_neg (by omega), if_pos h1, gd_t (by omega), gd_t (by omega), gd_t (by omega), gd_t (by omega), if_neg (by omega), hq.1, hn]
        exact l_endOfRow K rp Po w hlo t m (sv R s 4) (T s st) (i + 1) (by omega) hq.2.1 hq.2.2 (by omega) (by omega)
theorem c_endOfRow (K : KC h) (rp : hR h 128 1 = some p) (Po : PO h p n R) (w : WS n R) {lo : Int} (hlo : 0 ≤ lo) (t : RT h n T lo) {s st : Int} (hs : s = -1 ∨ lo ≤ s ∧ s < n) (h0 : -1 ≤ st) (h1 : st < 64) : zC 60 [zR (some 128), zI s, zI st] h = some (.inl (some (zI (rowE T R s st))), h) := by
  rw [q_R_endOfRow K]
  exact l_endOfRow K rp Po w hlo t 24 s st 0 hs h0 h1 (by omega) (by omega)
abbrev scrRu : FA := [(129, none), (130, none)]
/-- the class's program stands, its sets are made, the ends from lo on too -/
def CE (h : zH) (p v : Nat) (n : Int) (R N : Nat → Int) : Prop := CB h p v n R N ∧ SC h n R N ∧ hR h 128 1 = some p ∧ hR h 128 2 = some v
theorem SC_f {A : FA} {h2 : zH} (S : SC h n R N) (F : Fr A h h2) (e : (okO A && rowA A 91 && rowA A 92 && rowA A 93 && rowA A 94 && rowA A 95 && rowA A 96 && rowA A 97 && !inA A 90 0 && !inA A 90 1) = true) : SC h2 n R N := by
  simp only [Bool.and_eq_true, Bool.not_eq_true'] at e
  obtain ⟨⟨⟨⟨⟨⟨⟨⟨⟨e0, e1⟩, e2⟩, e3⟩, e4⟩, e5⟩, e6⟩, e7⟩, e8⟩, e9⟩ := e
  obtain ⟨a, b, c, d⟩ := S
  exact ⟨(fJ F 90 0 e8).trans a, (fJ F 90 1 e9).trans b, fun s x y => SCs_f (c s x y) F (by simp only [e0, e4, e5, e6, e7, Bool.and_self]), fun s x y k => SCl_f (d s x y k) F (by simp only [e1, e2, e3, Bool.and_self])⟩
theorem CE_f {A : FA} {h2 : zH} (S : CE h p v n R N) (F : Fr A h h2) (e : (okCB A && rowA A 91 && rowA A 92 && rowA A 93 && rowA A 94 && rowA A 95 && rowA A 96 && rowA A 97 && !inA A 90 0 && !inA A 90 1 && !inA A 128 1 && !inA A 128 2) = true) : CE h2 p v n R N := by
  simp only [Bool.and_eq_true, Bool.not_eq_true', okCB] at e
  obtain ⟨⟨⟨⟨⟨⟨⟨⟨⟨⟨⟨⟨ec, e0⟩, e1⟩, e2⟩, e3⟩, e4⟩, e5⟩, e6⟩, e7⟩, e8⟩, e9⟩, e10⟩, e11⟩ := e
  obtain ⟨a, b, c, d⟩ := S
  exact ⟨CB_f a F (by simp only [okCB, ec, e0, Bool.and_self]), SC_f b F (by simp only [e0, e1, e2, e3, e4, e5, e6, e7, e8, e9, Bool.and_self, Bool.not_false]), (fR F 128 1 e10).trans c, (fR F 128 2 e11).trans d⟩
theorem put_e (K : KC h) {s st e : Int} (h0 : 0 ≤ s) (h1 : s < 24) (h2 : 0 ≤ st) (h3 : st < 64) : zC 61 [zR (some 128), zI s, zI st, zI e] h = some (.inl none, sI h 129 (s * 64 + st).toNat e) := by
  rw [q_R_putEnd K, gd_t (by omega), gd_t (by omega), if_neg (by omega), if_pos (by omega)]
/-- one more state's end is put -/
def RP (h : zH) (n : Int) (T : Int → Int → Int) (s x : Int) : Prop := RT h n T (s + 1) ∧ ∀ st, 0 ≤ st → st < x → hI h 129 (s * 64 + st).toNat = T s st
theorem RP_put {s x e : Int} (H : RP h n T s x) (h0 : 0 ≤ s) (h2 : 0 ≤ x) (h3 : x < 64) (he : e = T s x) : RP (sI h 129 (s * 64 + x).toNat e) n T s (x + 1) := by
  refine ⟨fun t st a b c d => ?_, fun st a b => ?_⟩
  · rw [hI_up, upN_n _ _ (by omega)]
    exact H.1 t st a b c d
  · rw [hI_up]
    by_cases g : st = x
    · rw [g, upN_s, he]
    · rw [upN_n _ _ (by omega)]; exact H.2 st a (by omega)
theorem l_lookAtOther (P : Prg n top R N) (hv3 : ∀ s, 0 ≤ s → s < n → sv R s 0 = 3 → sv R s 1 = -1) (hE : isET n R N T) {s : Int} (h0 : 0 ≤ s) (h1 : s < n) (k : sv R s 0 ≠ 2) : ∀ (m : Nat) (x : Int) (h : zH), CE h p v n R N → 0 ≤ x → x + m = 64 → RP h n T s x → ∃ h2, zY 62 20 [some (zR (some 128)), some (zI s), some (zI (if sv R s 0 = 1 then 1 else 0)), some (zI x)] [] h = some (.inl none, h2) ∧ RP h2 n T s 64 ∧ Fr scrRu h h2
  | 0, x, h, C, hx, hm, H => by
    obtain ⟨B, S, r1, r2⟩ := C
    have w1 := (P.1.2.1 s h0 h1).1
    rw [q_R_lookAtOther_20 B.1 (fun a _ _ _ _ => by omega) r1 B.2.2.1.1, if_neg (by omega)]
    obtain rfl : x = 64 := by omega
    exact ⟨h, rfl, H, Fr_r _ _⟩
  | m + 1, x, h, C, hx, hm, H => by
    obtain ⟨B, S, r1, r2⟩ := id C
    have w0 := P.1.1
    have w1 := P.1.2.1 s h0 h1
    have Ss := S.2.2.1 s h0 h1
    have hET := hE s x h0 h1 hx (by omega)
    have nx : ∀ e, e = T s x → ∃ h2, zY 62 20 [some (zR (some 128)), some (zI s), some (zI (if sv R s 0 = 1 then 1 else 0)), some (zI (x + 1))] [] (sI h 129 (s * 64 + x).toNat e) = some (.inl none, h2) ∧ RP h2 n T s 64 ∧ Fr scrRu h h2 := fun e he => by
      have F1 : Fr scrRu h (sI h 129 (s * 64 + x).toNat e) := Fr_I (Fr_r _ _) rfl
      obtain ⟨h3, e3, H3, F3⟩ := l_lookAtOther P hv3 hE h0 h1 k m (x + 1) _ (CE_f C F1 rfl) (by omega) (by omega) (RP_put H h0 hx (by omega) he)
      exact ⟨h3, e3, H3, Fr_t F1 F3⟩
    have kc : ∀ e, KC (sI h 129 (s * 64 + x).toNat e) := fun e => KC_f B.1 (Fr_I (Fr_r scrRu _) rfl) rfl
    by_cases c1 : sv R s 0 = 1
    · rw [if_pos c1] at nx ⊢
      have hh := holdsIn_e P.1 P.2.1 h0 h1 (Or.inl c1) Ss hx (show x < 64 by omega)
      have hf := PO_firstOf B.2.2.1 h0 h1
      have hs := PO_secondOf B.2.2.1 h0 h1
      rw [q_R_lookAtOther_20 B.1 (fun a e _ _ _ => absurd e (by decide)) r1 B.2.2.1.1, if_pos (by omega), if_neg (by decide), hf, hs]
      rw [etS, if_neg k, if_pos c1] at hET
      by_cases c : hb N s x = true
      · rw [if_pos (hh.2 c), c_endOfRow B.1 r1 B.2.2.1 P.1 (lo := s + 1) (by omega) H.1 (by omega) (by omega) (by omega), q_R_lookAtOther_r76 B.1, put_e B.1 h0 (by omega) hx (by omega), q_R_lookAtOther_r79 (kc _), gd_t (by omega)]
        rw [if_pos c] at hET
        exact nx _ hET.symm
      · rw [if_neg (fun e => c (hh.1 e)), c_endOfRow B.1 r1 B.2.2.1 P.1 (lo := s + 1) (by omega) H.1 (by omega) (by omega) (by omega), q_R_lookAtOther_r98 B.1, put_e B.1 h0 (by omega) hx (by omega), q_R_lookAtOther_r101 (kc _), gd_t (by omega)]
        rw [if_neg c] at hET
        exact nx _ hET.symm
    · rw [if_neg c1] at nx ⊢
      have hmv := moved_e P (hv3 s h0 h1) h0 h1 (by omega) Ss hx (show x < 64 by omega)
      have hg := moved_g P (hv3 s h0 h1) h0 h1 (by omega) Ss
      rw [q_R_lookAtOther_20 B.1 (fun _ _ _ _ _ => by omega) r1 B.2.2.1.1, if_pos (by omega), if_pos rfl, put_e B.1 h0 (by omega) hx (by omega), q_R_lookAtOther_r45 (kc _), gd_t (by omega)]
      rw [etS, if_neg k, if_neg c1] at hET
      exact nx _ (hmv.trans hET.symm)
theorem RT_of {s : Int} (H : RP h n T s 64) (hr : ∀ st, 0 ≤ st → st < 64 → -1 ≤ T s st ∧ T s st < 64) : RT h n T s := fun t st a b c d => by
  by_cases e : t = s
  · rw [e]; exact ⟨H.2 st c d, hr st c d⟩
  · exact H.1 t st (by omega) b c d
/-- jumps of at least r rounds -/
def JI (h : zH) (J : Int → Int) (r : Nat) (lo hi : Int) : Prop := ∀ st, lo ≤ st → st < hi → ∃ m, r ≤ m ∧ hI h 130 st.toNat = itJ J m st
theorem RT_130 {h2 : zH} {s : Int} (t : RT h n T s) (F : Fr [(130, none)] h h2) : RT h2 n T s := fun a b c d f g => by rw [rI F 129 rfl]; exact t a b c d f g
theorem l_jump1 (P : Prg n top R N) {s : Int} (h0 : 0 ≤ s) (h1 : s < n) (k : sv R s 0 = 2) {g0 : zH} {Q : zH → Prop} (hQ : ∀ g, CE g p v n R N → RT g n T (s + 1) → JI g (rnd T R N s) 1 0 64 → Fr [(130, none)] g0 g → ∃ h3, zY 59 53 [some (zR (some 128)), some (zI s), some (zI 1), none, none] [] g = some (.inl none, h3) ∧ Q h3) : ∀ (m : Nat) (x : Int) (h : zH), CE h p v n R N → RT h n T (s + 1) → 0 ≤ x → x + m = 64 → JI h (rnd T R N s) 1 0 x → Fr [(130, none)] g0 h → ∃ h3, zY 59 2 [some (zR (some 128)), some (zI s), some (zI x), none, none] [] h = some (.inl none, h3) ∧ Q h3
  | 0, x, h, C, t, hx, hm, H, F => by
    obtain ⟨B, S, r1, r2⟩ := id C
    rw [q_R_lookAtLoop_2 B.1 r1 B.2.2.1.1, if_neg (by omega)]
    obtain rfl : x = 64 := by omega
    exact hQ h C t H F
  | m + 1, x, h, C, t, hx, hm, H, F => by
    obtain ⟨B, S, r1, r2⟩ := id C
    have w1 := P.1.2.1 s h0 h1
    have hh := holdsIn_e P.1 P.2.1 h0 h1 (Or.inr k) (S.2.2.1 s h0 h1) hx (show x < 64 by omega)
    have hf := PO_firstOf B.2.2.1 h0 h1
    have nx : ∀ e, e = rnd T R N s x → ∃ h3, zY 59 2 [some (zR (some 128)), some (zI s), some (zI (x + 1)), none, none] [] (sI h 130 x.toNat e) = some (.inl none, h3) ∧ Q h3 := fun e he => by
      have F1 : Fr [(130, none)] h (sI h 130 x.toNat e) := Fr_I (Fr_r _ _) rfl
      refine l_jump1 P h0 h1 k hQ m (x + 1) _ (CE_f C F1 rfl) (RT_130 t F1) (by omega) (by omega) (fun st a b => ?_) (Fr_t F F1)
      rw [hI_up]
      by_cases g : st = x
      · refine ⟨1, Nat.le_refl _, ?_⟩
        rw [g, upN_s, he]
        show _ = if x = -1 then -1 else itJ _ 0 (rnd T R N s x)
        rw [if_neg (by omega)]
        rfl
      · rw [upN_n _ _ (by omega)]; exact H st a (by omega)
    rw [q_R_lookAtLoop_2 B.1 r1 B.2.2.1.1, if_pos (by omega)]
    unfold rnd at nx
    by_cases c : hb N s x = true
    · rw [if_pos c] at nx
      rw [if_pos (hh.2 c), hf, c_endOfRow B.1 r1 B.2.2.1 P.1 (lo := s + 1) (by omega) t (by omega) (by omega) (by omega), q_R_lookAtLoop_r40 B.1, gd_t (by omega), gd_t (by omega)]
      obtain ⟨h3, e3, q3⟩ := nx _ rfl
      exact ⟨h3, zY_le (by exact ⟨rfl, rfl, rfl, trivial⟩) e3, q3⟩
    · rw [if_neg c] at nx
      rw [if_neg (fun e => c (hh.1 e)), gd_t (by omega), gd_t (by omega)]
      obtain ⟨h3, e3, q3⟩ := nx _ rfl
      exact ⟨h3, zY_le (by exact ⟨rfl, rfl, rfl, trivial⟩) e3, q3⟩
theorem itJ_stay {J : Int → Int} {m : Nat} {x : Int} (h : itJ J m x = -1) (k : Nat) : itJ J (m + k) x = -1 := by rw [itJ_add, h, itJ_m1]
theorem l_jump2 (P : Prg n top R N) {s : Int} (hJ : ∀ x, 0 ≤ x → x < 64 → -1 ≤ rnd T R N s x ∧ rnd T R N s x < 64) {r : Nat} {y : Int} {g0 : zH} {Q : zH → Prop} (hQ : ∀ g, CE g p v n R N → RT g n T (s + 1) → JI g (rnd T R N s) (2 * r) 0 64 → Fr [(130, none)] g0 g → ∃ h3, zY 59 53 [some (zR (some 128)), some (zI s), some (zI (y * 2)), none, none] [] g = some (.inl none, h3) ∧ Q h3) (hy : 0 ≤ y ∧ y ≤ 64) : ∀ (m : Nat) (x : Int) (h : zH), CE h p v n R N → RT h n T (s + 1) → 0 ≤ x → x + m = 64 → JI h (rnd T R N s) (2 * r) 0 x → JI h (rnd T R N s) r x 64 → Fr [(130, none)] g0 h → ∃ h3, zY 59 61 [some (zR (some 128)), some (zI s), some (zI y), some (zI x), none] [] h = some (.inl none, h3) ∧ Q h3
  | 0, x, h, C, t, hx, hm, H, H2, F => by
    obtain ⟨B, S, r1, r2⟩ := id C
    rw [q_R_lookAtLoop_61 B.1, if_neg (by omega), gd_t (by omega)]
    obtain rfl : x = 64 := by omega
    obtain ⟨h3, e3, q3⟩ := hQ h C t H F
    exact ⟨h3, zY_le (by exact ⟨rfl, rfl, rfl, trivial⟩) e3, q3⟩
  | m + 1, x, h, C, t, hx, hm, H, H2, F => by
    obtain ⟨B, S, r1, r2⟩ := id C
    have nx : ∀ e, (∃ m, 2 * r ≤ m ∧ e = itJ (rnd T R N s) m x) → ∃ h3, zY 59 61 [some (zR (some 128)), some (zI s), some (zI y), some (zI (x + 1)), none] [] (sI h 130 x.toNat e) = some (.inl none, h3) ∧ Q h3 := fun e he => by
      have F1 : Fr [(130, none)] h (sI h 130 x.toNat e) := Fr_I (Fr_r _ _) rfl
      refine l_jump2 P hJ hQ hy m (x + 1) _ (CE_f C F1 rfl) (RT_130 t F1) (by omega) (by omega) (fun st a b => ?_) (fun st a b => ?_) (Fr_t F F1)
      · rw [hI_up]
        by_cases g : st = x
        · rw [g, upN_s]; exact he
        · rw [upN_n _ _ (by omega)]; exact H st a (by omega)
      · rw [hI_up, upN_n _ _ (by omega)]; exact H2 st (by omega) b
    obtain ⟨m1, hm1, e1⟩ := H2 x (Int.le_refl _) (by omega)
    have hrg := itJ_r hJ m1 x (by omega) (by omega)
    rw [q_R_lookAtLoop_61 B.1, if_pos (by omega), gd_t (by omega)]
    by_cases c : hI h 130 x.toNat < 0
    · rw [if_pos c, gd_t (by omega)]
      obtain ⟨h3, e3, q3⟩ := nx (-1) ⟨m1 + m1, by omega, (itJ_stay (by omega) m1).symm⟩
      exact ⟨h3, zY_le (by exact ⟨rfl, rfl, rfl, rfl, trivial⟩) e3, q3⟩
    · rw [if_neg c, if_pos (by omega), gd_t (by omega)]
      have hq : ∃ m2, r ≤ m2 ∧ hI h 130 (hI h 130 x.toNat).toNat = itJ (rnd T R N s) m2 (hI h 130 x.toNat) := by
        by_cases d : hI h 130 x.toNat < x
        · obtain ⟨m2, a, b⟩ := H (hI h 130 x.toNat) (by omega) d
          exact ⟨m2, by omega, b⟩
        · exact H2 (hI h 130 x.toNat) (by omega) (by omega)
      obtain ⟨m2, hm2, e2⟩ := hq
      obtain ⟨h3, e3, q3⟩ := nx (hI h 130 (hI h 130 x.toNat).toNat) ⟨m1 + m2, by omega, by rw [itJ_add, ← e1]; exact e2⟩
      exact ⟨h3, zY_le (by exact ⟨rfl, rfl, rfl, rfl, trivial⟩) e3, q3⟩
theorem l_jump3 (P : Prg n top R N) {s : Int} (hJ : ∀ x, 0 ≤ x → x < 64 → -1 ≤ rnd T R N s x ∧ rnd T R N s x < 64) {g0 : zH} {Q : zH → Prop} (hQ : ∀ g, CE g p v n R N → RT g n T (s + 1) → JI g (rnd T R N s) 64 0 64 → Fr [(130, none)] g0 g → ∃ h3, zY 59 119 [some (zR (some 128)), some (zI s), some (zI 0), none, none] [] g = some (.inl none, h3) ∧ Q h3) : ∀ (m k : Nat) (h : zH), CE h p v n R N → RT h n T (s + 1) → k + m = 6 → JI h (rnd T R N s) (2 ^ k) 0 64 → Fr [(130, none)] g0 h → ∃ h3, zY 59 53 [some (zR (some 128)), some (zI s), some (zI ((2 ^ k : Nat) : Int)), none, none] [] h = some (.inl none, h3) ∧ Q h3
  | 0, k, h, C, t, hm, H, F => by
    obtain rfl : k = 6 := by omega
    rw [q_R_lookAtLoop_53 C.1.1, if_neg (by decide)]
    exact hQ h C t H F
  | m + 1, k, h, C, t, hm, H, F => by
    have hk : 1 ≤ 2 ^ k ∧ 2 ^ k ≤ 32 := ⟨Nat.one_le_two_pow, by
      have : 2 ^ k ≤ 2 ^ 5 := Nat.pow_le_pow_right (by decide) (by omega)
      exact this⟩
    have e2 : ((2 ^ k : Nat) : Int) * 2 = ((2 ^ (k + 1) : Nat) : Int) := by rw [Nat.pow_succ]; omega
    rw [q_R_lookAtLoop_53 C.1.1, if_pos (by omega)]
    obtain ⟨h3, e3, q3⟩ := l_jump2 P hJ (r := 2 ^ k) (y := ((2 ^ k : Nat) : Int)) (g0 := g0) (Q := Q) (fun g C1 t1 H1 F1 => by
      rw [e2]
      refine l_jump3 P hJ hQ m (k + 1) g C1 t1 (by omega) ?_ F1
      rw [Nat.pow_succ, Nat.mul_comm]
      exact H1) (by omega) 64 0 h C t (by omega) (by omega) (fun st a b => by omega) H F
    exact ⟨h3, e3, q3⟩
theorem l_jump4 (P : Prg n top R N) (hE : isET n R N T) {s : Int} (h0 : 0 ≤ s) (h1 : s < n) (k : sv R s 0 = 2) : ∀ (m : Nat) (x : Int) (h : zH), CE h p v n R N → 0 ≤ x → x + m = 64 → JI h (rnd T R N s) 64 0 64 → RP h n T s x → ∃ h2, zY 59 119 [some (zR (some 128)), some (zI s), some (zI x), none, none] [] h = some (.inl none, h2) ∧ RP h2 n T s 64 ∧ Fr scrRu h h2
  | 0, x, h, C, hx, hm, H, Z => by
    rw [q_R_lookAtLoop_119 C.1.1, if_neg (by omega)]
    obtain rfl : x = 64 := by omega
    exact ⟨h, rfl, Z, Fr_r _ _⟩
  | m + 1, x, h, C, hx, hm, H, Z => by
    obtain ⟨B, S, r1, r2⟩ := id C
    have w0 := P.1.1
    have hET := hE s x h0 h1 hx (by omega)
    rw [etS, if_pos k] at hET
    have hr := rnd_r P.1 P.2.1 hE h0 h1
    obtain ⟨m1, hm1, e1⟩ := H x hx (by omega)
    have hrg := itJ_r hr m1 x (by omega) (by omega)
    have h65 := itJ_65 (J := rnd T R N s) (e := hb N s) hr (fun x hx => rnd_f hx) hx (show x < 64 by omega) m1 hm1
    have nx : ∀ e (y : Option zV), e = T s x → ∃ h2, zY 59 119 [some (zR (some 128)), some (zI s), some (zI (x + 1)), y, none] [] (sI h 129 (s * 64 + x).toNat e) = some (.inl none, h2) ∧ RP h2 n T s 64 ∧ Fr scrRu h h2 := fun e y he => by
      have F1 : Fr scrRu h (sI h 129 (s * 64 + x).toNat e) := Fr_I (Fr_r _ _) rfl
      obtain ⟨h3, e3, H3, F3⟩ := l_jump4 P hE h0 h1 k m (x + 1) _ (CE_f C F1 rfl) (by omega) (by omega) H (RP_put Z h0 hx (by omega) he)
      exact ⟨h3, zY_le (by exact ⟨rfl, rfl, rfl, trivial⟩) e3, H3, Fr_t F1 F3⟩
    have kc : ∀ e, KC (sI h 129 (s * 64 + x).toNat e) := fun e => KC_f B.1 (Fr_I (Fr_r scrRu _) rfl) rfl
    rw [q_R_lookAtLoop_119 B.1, if_pos (by omega), gd_t (by omega)]
    unfold whE at hET
    by_cases c : hI h 130 x.toNat = -1
    · rw [if_pos (h65.1.1 (Or.inl (e1 ▸ c)))] at hET
      rw [if_pos c, put_e B.1 h0 (by omega) hx (by omega), q_R_lookAtLoop_r160 (kc _), gd_t (by omega)]
      exact nx (-1) _ hET.symm
    · have hh := holdsIn_e P.1 P.2.1 h0 h1 (Or.inr k) (S.2.2.1 s h0 h1) (show 0 ≤ hI h 130 x.toNat by omega) (by omega)
      rw [if_neg c]
      by_cases d : hb N s (hI h 130 x.toNat) = true
      · rw [if_pos (h65.1.1 (Or.inr (e1 ▸ d)))] at hET
        rw [if_pos (hh.2 d), put_e B.1 h0 (by omega) hx (by omega), q_R_lookAtLoop_r160 (kc _), gd_t (by omega)]
        exact nx (-1) _ hET.symm
      · have hne : ¬ (itJ (rnd T R N s) 64 x = -1 ∨ hb N s (itJ (rnd T R N s) 64 x) = true) := fun e => by
          rcases h65.1.2 e with e | e
          · exact c (e1.trans e)
          · exact d (by rw [e1]; exact e)
        rw [if_neg hne, ← h65.2 hne, ← e1] at hET
        rw [if_neg (fun e => d (hh.1 e)), put_e B.1 h0 (by omega) hx (by omega), q_R_lookAtLoop_r160 (kc _), gd_t (by omega)]
        exact nx _ _ hET.symm
theorem c_R_lookAtLoop (C : CE h p v n R N) (P : Prg n top R N) (hE : isET n R N T) {s : Int} (h0 : 0 ≤ s) (h1 : s < n) (k : sv R s 0 = 2) (t : RT h n T (s + 1)) : ∃ h2, zC 59 [zR (some 128), zI s] h = some (.inl none, h2) ∧ RP h2 n T s 64 ∧ Fr scrRu h h2 := by
  have hr := rnd_r P.1 P.2.1 hE h0 h1
  rw [q_R_lookAtLoop C.1.1]
  refine l_jump1 (T := T) P h0 h1 k (g0 := h) (Q := fun h3 => RP h3 n T s 64 ∧ Fr scrRu h h3) (fun g C1 t1 H1 F1 => ?_) 64 0 h C t (by omega) (by omega) (fun st a b => by omega) (Fr_r _ _)
  refine l_jump3 P hr (g0 := h) (Q := fun h3 => RP h3 n T s 64 ∧ Fr scrRu h h3) (fun g2 C2 t2 H2 F2 => ?_) 6 0 g C1 t1 (by omega) H1 F1
  obtain ⟨h3, e3, Z3, F3⟩ := l_jump4 P hE h0 h1 k 64 0 g2 C2 (by omega) (by omega) H2 ⟨t2, fun st a b => by omega⟩
  exact ⟨h3, e3, Z3, Fr_t (Fr_m F2 rfl) F3⟩
theorem l_R_look (P : Prg n top R N) (hv3 : ∀ s, 0 ≤ s → s < n → sv R s 0 = 3 → sv R s 1 = -1) (hE : isET n R N T) : ∀ (m : Nat) (h : zH), CE h p v n R N → (m : Int) ≤ n → RT h n T m → ∃ h2, zY 58 25 [some (zR (some 128)), some (zR (some p)), some (zR (some v)), some (zI ((m : Int) - 1))] [] h = some (.inl none, h2) ∧ RT h2 n T 0 ∧ Fr scrRu h h2
  | 0, h, C, hm, t => by
    obtain ⟨B, S, r1, r2⟩ := C
    rw [q_R_look_25 B.1 B.2.2.1.1 B.2.2.2.2.1 r1 B.2.2.1.1, if_pos (by omega)]
    exact ⟨h, rfl, t, Fr_r _ _⟩
  | m + 1, h, C, hm, t => by
    obtain ⟨B, S, r1, r2⟩ := id C
    have w0 := P.1.1
    have e0 : ((m + 1 : Nat) : Int) - 1 = (m : Int) := by omega
    have e1 : (m : Int) + (-1) = (m : Int) - 1 := by omega
    have t' : RT h n T ((m : Int) + 1) := t
    have hrr : ∀ st, 0 ≤ st → st < 64 → -1 ≤ T m st ∧ T m st < 64 := fun st a b => isET_r2 P.1 P.2.1 hE (by omega) (by omega) a b
    rw [e0, q_R_look_25 B.1 B.2.2.1.1 B.2.2.2.2.1 r1 B.2.2.1.1, if_neg (by omega), PO_kindOf B.2.2.1 (by omega) (by omega)]
    by_cases k : sv R m 0 = 2
    · obtain ⟨g, eg, Z, F⟩ := c_R_lookAtLoop C P hE (by omega) (by omega) k t'
      have Cg := CE_f C F rfl
      rw [if_pos k, eg, q_R_look_r46 Cg.1.1 Cg.1.2.2.1.1 Cg.1.2.2.2.2.1, gd_t (by omega), e1]
      obtain ⟨h3, e3, t3, F3⟩ := l_R_look P hv3 hE m g Cg (by omega) (RT_of Z hrr)
      exact ⟨h3, e3, t3, Fr_t F F3⟩
    · have ent : ∃ g, zC 62 [zR (some 128), zI m] h = some (.inl none, g) ∧ RP g n T m 64 ∧ Fr scrRu h g := by
        have := l_lookAtOther P hv3 hE (s := m) (by omega) (by omega) k 64 0 h C (by omega) (by omega) ⟨t', fun st a b => by omega⟩
        rw [q_R_lookAtOther B.1 r1 B.2.2.1.1, PO_kindOf B.2.2.1 (by omega) (by omega)]
        by_cases k1 : sv R m 0 = 1
        · rw [if_pos k1] at this ⊢; exact this
        · rw [if_neg k1] at this ⊢; exact this
      obtain ⟨g, eg, Z, F⟩ := ent
      have Cg := CE_f C F rfl
      rw [if_neg k, eg, q_R_look_r54 Cg.1.1 Cg.1.2.2.1.1 Cg.1.2.2.2.2.1, gd_t (by omega), e1]
      obtain ⟨h3, e3, t3, F3⟩ := l_R_look P hv3 hE m g Cg (by omega) (RT_of Z hrr)
      exact ⟨h3, e3, t3, Fr_t F F3⟩
theorem c_R_look (B : CB h p v n R N) (S : SC h n R N) (P : Prg n top R N) (hE : isET n R N T) : ∃ h2, zC 58 [zR (some 128), zR (some p), zR (some v)] h = some (.inl none, h2) ∧ CE h2 p v n R N ∧ RT h2 n T 0 ∧ Fr [(129, none), (130, none), (128, some 1), (128, some 2)] h h2 := by
  have w0 := P.1.1
  have hn := PO_n B.2.2.1
  have F1 : Fr [(128, some 1), (128, some 2)] h (sR (sR h 128 1 (some p)) 128 2 (some v)) := Fr_R (Fr_R (Fr_r _ _) rfl) rfl
  have hm : f_Ma_min (hI h p 0) 24 = n := by rw [hn]; unfold f_Ma_min; split <;> omega
  have C1 : CE (sR (sR h 128 1 (some p)) 128 2 (some v)) p v n R N := ⟨CB_f B F1 rfl, SC_f S F1 rfl, rfl, rfl⟩
  obtain ⟨g, eg, t, F⟩ := l_R_look P (fun s a b => (B.2.2.1.2.2.2.2.1 s a b).2.2.2.2.2.2.2.2) hE n.toNat _ C1 (by omega) (fun s st a b => by omega)
  rw [q_R_look (p2 := p) B.1 B.2.2.1.1 B.2.2.2.2.1 rfl C1.1.2.2.1.1, hm, gd_t (by omega)]
  rw [show ((n.toNat : Nat) : Int) = n by omega] at eg
  exact ⟨g, eg, CE_f C1 F rfl, t, Fr_t (Fr_m F1 rfl) (Fr_m F rfl)⟩
end CENDS

