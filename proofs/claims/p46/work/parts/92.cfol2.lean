/-! The class: runs, step by step, and what is told of them. -/
section CFOL
variable {n top : Int} {R N : Nat → Int} {h : zH} {p v : Nat}
theorem CA_C (C : CA h p v n top R N) : CR h p v n R N (TT n R N) := C.1.1
theorem CR_K {T : Int → Int → Int} (C : CR h p v n R N T) : KC h := C.1.1.1
theorem CR_P {T : Int → Int → Int} (C : CR h p v n R N T) : PO h p n R := C.1.1.2.2.1
theorem CR_V {T : Int → Int → Int} (C : CR h p v n R N T) : VO h v n R N := C.1.1.2.2.2.2
theorem CR_S {T : Int → Int → Int} (C : CR h p v n R N T) : SC h n R N := C.1.2.1
theorem CR_rp {T : Int → Int → Int} (C : CR h p v n R N T) : hR h 128 1 = some p := C.1.2.2.1
theorem CR_rv {T : Int → Int → Int} (C : CR h p v n R N T) : hR h 128 2 = some v := C.1.2.2.2
theorem CR_rq {T : Int → Int → Int} (C : CR h p v n R N T) : hR h 132 2 = some p := C.2.2
theorem CR_t {T : Int → Int → Int} (C : CR h p v n R N T) : RT h n T 0 := C.2.1
theorem top_r (P : Prg n top R N) : top = -1 ∨ 0 ≤ top ∧ top < n := by have := P.2.2.2; omega
theorem EC_r (P : Prg n top R N) {st : Int} (h0 : 0 ≤ st) (h1 : st < 64) : -1 ≤ EC n top R N st ∧ EC n top R N st < 64 := rowE_r P.1 P.2.1 (isET_t P.1 P.2.1) (top_r P) (by omega) h1
theorem c_endFrom (C : CR h p v n R N (TT n R N)) (P : Prg n top R N) {st : Int} (h0 : 0 ≤ st) (h1 : st < 64) : zC 65 [zR (some 128), zI st] h = some (.inl (some (zI (EC n top R N st))), h) := by
  have tr := top_r P
  rw [q_R_endFrom (CR_K C) (CR_rp C) (CR_P C).1, PO_start (CR_P C) P.2.2.2, c_endOfRow (CR_K C) (CR_rp C) (CR_P C) P.1 (lo := 0) (by omega) (CR_t C) (by omega) (by omega) h1, q_R_endFrom_r12 (CR_K C)]
  rfl
theorem c_endsFromBefore (C : CR h p v n R N (TT n R N)) (P : Prg n top R N) {st : Int} (h0 : 0 ≤ st) (h1 : st < 64) : zC 67 [zR (some 128), zI st] h = some (.inl (some (zI (if bt (setL (lst N 0)) st = true ∧ EC n top R N st ≠ -1 then 1 else 0))), h) := by
  rw [q_R_endsFromBefore (CR_K C), (CR_S C).1]
  by_cases c : bt (setL (lst N 0)) st = true
  · rw [if_pos ((has_e _ h0 h1).2 c), c_endFrom C P h0 h1, q_R_endsFromBefore_r19 (CR_K C)]
    by_cases d : EC n top R N st = -1
    · rw [if_pos d, if_neg (fun e => e.2 d)]
    · rw [if_neg d, if_pos ⟨c, d⟩]
  · rw [if_neg (fun e => c ((has_e _ h0 h1).1 e)), if_neg (fun e => c e.1)]
theorem l_wrong (C : CR h p v n R N (TT n R N)) (P : Prg n top R N) : ∀ (m k : Nat) (y : Option zV), k + m = 64 → zY 64 4 [some (zR (some 128)), some (zJ (bor (fun st => !(decide (EC n top R N st ≠ -1) && bt (setL (lst N 1)) (EC n top R N st))) k)), none, some (zI k), y] [] h = some (.inl (some (zJ (wgC n top R N))), h)
  | m, k, y, hm => by
    refine zY_le (L := [some (zR (some 128)), some (zJ (bor (fun st => !(decide (EC n top R N st ≠ -1) && bt (setL (lst N 1)) (EC n top R N st))) k)), none, some (zI k), none]) (by exact ⟨rfl, rfl, rfl, trivial⟩) ?_
    cases m with
    | zero =>
      obtain rfl : k = 64 := by omega
      rw [q_R_wrongStates_4 (CR_K C), if_neg (by decide), (CR_S C).1]
      have e : (bor (fun st => !(decide (EC n top R N st ≠ -1) && bt (setL (lst N 1)) (EC n top R N st))) 64 &&& setL (lst N 0)) = wgC n top R N := bt_ext fun st a b => by
        show _ = bt (wgS R N (TT n R N) top) st
        unfold wgS
        rw [bt_and, bt_set _ a b]
        have := bt_set (fun st => !(decide (EC n top R N st ≠ -1) && bt (setL (lst N 1)) (EC n top R N st))) a b
        unfold bset at this
        rw [this, Bool.and_comm]
      rw [e]
    | succ m =>
      have e : ((k : Int) + 1) = ((k + 1 : Nat) : Int) := by omega
      have er := EC_r P (st := k) (by omega) (by omega)
      have ih := fun y => l_wrong C P m (k + 1) y (by omega)
      rw [q_R_wrongStates_4 (CR_K C), if_pos (by omega), c_endFrom C P (by omega) (by omega), q_R_wrongStates_r15 (CR_K C), (CR_S C).2.1]
      simp only [bor] at ih
      by_cases c : EC n top R N k = -1
      · rw [if_pos c, gd_t (by omega), e]
        have ih := ih (some (zI (EC n top R N k)))
        rw [if_pos (by simp [c])] at ih
        exact ih
      · rw [if_neg c]
        by_cases d : bt (setL (lst N 1)) (EC n top R N k) = true
        · rw [if_pos ((has_e _ (by omega) er.2).2 d), gd_t (by omega), e]
          have ih := ih (some (zI (EC n top R N k)))
          rw [if_neg (by simp [c, d]), BitVec.or_zero] at ih
          exact ih
        · rw [if_neg (fun q => d ((has_e _ (by omega) er.2).1 q)), gd_t (by omega), e]
          have ih := ih (some (zI (EC n top R N k)))
          rw [if_pos (by simp [d])] at ih
          exact ih
theorem c_wrongStates (C : CR h p v n R N (TT n R N)) (P : Prg n top R N) : zC 64 [zR (some 128)] h = some (.inl (some (zJ (wgC n top R N))), h) := by
  rw [q_R_wrongStates (CR_K C)]
  exact l_wrong C P 64 0 none rfl
/-- where a run goes on -/
theorem beh_e (C : CR h p v n R N (TT n R N)) (P : Prg n top R N) {s st : Int} (h0 : 0 ≤ s) (h1 : s < n) (h2 : 0 ≤ st) (h3 : st < 64) : f_R_statementBehind h s st p = (stp R N (thn R) (-1) (s, st)).1 ∧ f_R_stateBehind h s st p = (stp R N (thn R) (-1) (s, st)).2 := by
  have w1 := (P.1.2.1 s h0 h1).1
  have kd := PO_kindOf (CR_P C) h0 h1
  have hs1 : ¬ s = -1 := by omega
  unfold f_R_statementBehind f_R_stateBehind b_R_looksAtCondition stp exS
  rw [kd]
  simp only
  by_cases k2 : sv R s 0 = 2
  · have hh := holdsIn_e P.1 P.2.1 h0 h1 (Or.inr k2) ((CR_S C).2.2.1 s h0 h1) h2 h3
    have en := PO_entry (CR_P C) P.1 h0 h1 (hb N s st)
    rw [if_pos (Or.inr k2), if_pos (Or.inr k2), if_pos k2]
    have e : (if b_S_holdsIn h s st then (1 : Int) else 0) = if hb N s st = true then 1 else 0 := ifc_congr hh
    rw [e, en, if_pos k2]
    refine ⟨?_, rfl⟩
    rw [if_neg hs1]
  · by_cases k1 : sv R s 0 = 1
    · have hh := holdsIn_e P.1 P.2.1 h0 h1 (Or.inl k1) ((CR_S C).2.2.1 s h0 h1) h2 h3
      have en := PO_entry (CR_P C) P.1 h0 h1 (hb N s st)
      rw [if_pos (Or.inl k1), if_pos (Or.inl k1), if_neg k2, if_pos k1]
      have e : (if b_S_holdsIn h s st then (1 : Int) else 0) = if hb N s st = true then 1 else 0 := ifc_congr hh
      rw [e, en, if_neg k2]
      exact ⟨rfl, rfl⟩
    · have hno : ¬ (sv R s 0 = 1 ∨ sv R s 0 = 2) := by omega
      rw [if_neg hno, if_neg hno, if_neg k2, if_neg k1, PO_thenOf (CR_P C) h0 h1, endOf_e (CR_t C) P.1 h0 h1 h2 h3, isET_t P.1 P.2.1 s st h0 h1 h2 h3, etS, if_neg k2, if_neg k1]
      exact ⟨rfl, rfl⟩
theorem price_e (C : CR h p v n R N (TT n R N)) (P : Prg n top R N) {s : Int} (h0 : 0 ≤ s) (h1 : s < n) : f_V_priceOf h v s = N (2318 + s).toNat := by
  have w0 := P.1.1
  unfold f_V_priceOf
  rw [if_pos ⟨h0, by omega⟩]
  exact ((CR_V C).2.2.2.2.1 s h0 h1).2.2
abbrev scrFo : FA := [(128, some 6), (128, some 7), (128, some 8), (128, some 9)]
theorem CRf_fo {h2 : zH} (C : CR h p v n R N (TT n R N)) (F : Fr scrFo h h2) : CR h2 p v n R N (TT n R N) := CR_f C F rfl
def FoS (R N : Nat → Int) (top st ls : Int) (k : Nat) (h : zH) : Prop := hI h 128 6 = k ∧ hF h 128 7 = coT R N (thn R) (-1) (top, st) k ∧ hI h 128 8 = tcT R N (thn R) ls (top, st) k ∧ hI h 128 9 = mcT R N (thn R) ls (top, st) k
theorem orb_rng (P : Prg n top R N) {st : Int} (h2 : 0 ≤ st) (h3 : st < 64) {D : Nat} {E : Int} (hD : RunD R N (thn R) (-1) (top, st) D E) : ∀ k, k < D → pv n (orb R N (thn R) (-1) (top, st) k) := fun k hk => by
  have hns : ∀ t, t < D → (orb R N (thn R) (-1) (top, st) t).1 ≠ -1 := fun t ht e => hD.1.2.2 t ht (Or.inl e)
  have htop : 0 ≤ top ∧ top < n := by
    have h0 := hns 0 (by omega)
    have h0 : top ≠ -1 := h0
    have := top_r P
    omega
  have hv := orb_v (al := -1) P.1 P.2.1 (isTS_thR P.1 (isTS_t P.1 (-1))) (p := (top, st)) ⟨htop, h2, h3⟩ k (fun i hi => hns i (by omega))
  exact ⟨hv.1.resolve_left (hns k hk), hv.2⟩
theorem l_follow (P : Prg n top R N) {st ls a : Int} (h2 : 0 ≤ st) (h3 : st < 64) (hls : ls = -1 ∨ (0 ≤ ls ∧ ls < n) ∧ sv R ls 0 = 2) {D : Nat} {E : Int} (hD : RunD R N (thn R) (-1) (top, st) D E) (hE : E ≠ -1) : ∀ (m k : Nat) (y : Option zV) (h : zH), CR h p v n R N (TT n R N) → k + m = D → FoS R N top st ls k h → ∃ h2, zY 68 34 [some (zR (some 128)), some (zI a), some (zI ls), some (zI (orb R N (thn R) (-1) (top, st) k).2), some (zI (orb R N (thn R) (-1) (top, st) k).1), some (zI k), y] [] h = some (.inl none, h2) ∧ FoS R N top st ls D h2 ∧ Fr scrFo h h2
  | m, k, y, h, C, hm, H => by
    suffices hs : ∃ h2, zY 68 34 [some (zR (some 128)), some (zI a), some (zI ls), some (zI (orb R N (thn R) (-1) (top, st) k).2), some (zI (orb R N (thn R) (-1) (top, st) k).1), some (zI k), none] [] h = some (.inl none, h2) ∧ FoS R N top st ls D h2 ∧ Fr scrFo h h2 by
      obtain ⟨g, e, q⟩ := hs
      exact ⟨g, zY_le (by exact ⟨rfl, rfl, rfl, rfl, rfl, rfl, trivial⟩) e, q⟩
    obtain ⟨f6, f7, f8, f9⟩ := H
    have hend := hD.2.2 hE
    cases m with
    | zero =>
      obtain rfl : k = D := by omega
      rw [hend.1, q_R_follow_34 (CR_K C) (CR_rv C) (CR_V C).1 (CR_rp C) (CR_P C).1 (fun _ q _ _ _ _ _ => absurd rfl q) (fun _ q _ _ _ _ _ => absurd rfl q)]
      refine ⟨h, ?_, ⟨f6, f7, f8, f9⟩, Fr_r _ _⟩
      by_cases c : ((k : Nat) : Int) < 1536
      · rw [if_pos c, if_pos rfl]
      · rw [if_neg c]
    | succ m =>
      have w0 := P.1.1
      have hv := orb_rng P h2 h3 hD k (by omega)
      have hcb := tcT_b (R := R) (N := N) (th := thn R) ls (top, st) k
      have hpr := (P.2.1.2.2 _ hv.1.1 hv.1.2).2.2.2.2
      have hco := coT_b (al := -1) (th := thn R) P.1 P.2.1 (top, st) k (fun i hi => (orb_rng P h2 h3 hD i (by omega)).1)
      have ho : orb R N (thn R) (-1) (top, st) (k + 1) = stp R N (thn R) (-1) (orb R N (thn R) (-1) (top, st) k) := rfl
      have hc1 : coT R N (thn R) (-1) (top, st) (k + 1) = FP.fadd (coT R N (thn R) (-1) (top, st) k) (prc N (orb R N (thn R) (-1) (top, st) k).1) := rfl
      have ht1 : tcT R N (thn R) ls (top, st) (k + 1) = if (orb R N (thn R) (-1) (top, st) k).1 = ls then (if hb N ls (orb R N (thn R) (-1) (top, st) k).2 = true then tcT R N (thn R) ls (top, st) k + 1 else 0) else tcT R N (thn R) ls (top, st) k := rfl
      have hm1 : mcT R N (thn R) ls (top, st) (k + 1) = if (orb R N (thn R) (-1) (top, st) k).1 = ls then (if mcT R N (thn R) ls (top, st) k < tcT R N (thn R) ls (top, st) (k + 1) then tcT R N (thn R) ls (top, st) (k + 1) else mcT R N (thn R) ls (top, st) k) else mcT R N (thn R) ls (top, st) k := rfl
      have ih := fun y h C H => l_follow P (a := a) h2 h3 hls hD hE m (k + 1) y h C (by omega) H
      rw [ho] at ih
      generalize hq : orb R N (thn R) (-1) (top, st) k = q at *
      obtain ⟨s, x⟩ := q
      obtain ⟨⟨q0, q1⟩, q2, q3⟩ := hv
      simp only at q0 q1 q2 q3 hpr ht1 hm1 hc1 ⊢
      have hp1 : f_V_priceOf (sI h 128 6 ((hI h 128 6) + 1)) v s = N (2318 + s).toNat := by
        have F1 : Fr scrFo h (sI h 128 6 ((hI h 128 6) + 1)) := Fr_I (Fr_r _ _) rfl
        exact price_e (CRf_fo C F1) P q0 q1
      have z1 : zn32 (FP.fdiv (FP.i2f (Int32.ofInt (N (2318 + s).toNat))) 1092616192) = true := fpos_zn (fpos_prc hpr.1 hpr.2)
      have z2 : zn32 (FP.fadd (coT R N (thn R) (-1) (top, st) k) (FP.fdiv (FP.i2f (Int32.ofInt (N (2318 + s).toNat))) 1092616192)) = true := fpos_zn (fpos_add hco (fpos_prc hpr.1 hpr.2))
      have F2 : ∀ i f, Fr scrFo h (sF (sI h 128 6 i) 128 7 f) := fun i f => Fr_F (Fr_I (Fr_r _ _) rfl) rfl
      have eq := q_R_follow_34 (h := h) (x1 := a) (x2 := ls) (x3 := x) (x4 := s) (x5 := (k : Int)) (v := v) (p := p) (CR_K C) (CR_rv C) (CR_V C).1 (CR_rp C) (CR_P C).1 (fun _ _ _ _ _ _ _ => by omega) (fun _ _ _ _ _ _ _ => by omega)
      rw [if_pos (by omega), if_neg (by omega), gd_t (by omega), hp1, f7, gd_t z1, gd_t z2, f6] at eq
      have C2 := CRf_fo C (F2 ((k : Int) + 1) (FP.fadd (coT R N (thn R) (-1) (top, st) k) (FP.fdiv (FP.i2f (Int32.ofInt (N (2318 + s).toNat))) 1092616192)))
      have a6 : hI (sF (sI h 128 6 ((k : Int) + 1)) 128 7 (FP.fadd (coT R N (thn R) (-1) (top, st) k) (FP.fdiv (FP.i2f (Int32.ofInt (N (2318 + s).toNat))) 1092616192))) 128 6 = (k : Int) + 1 := rfl
      have a7 : hF (sF (sI h 128 6 ((k : Int) + 1)) 128 7 (FP.fadd (coT R N (thn R) (-1) (top, st) k) (FP.fdiv (FP.i2f (Int32.ofInt (N (2318 + s).toNat))) 1092616192))) 128 7 = coT R N (thn R) (-1) (top, st) (k + 1) := hc1.symm
      have a8 : hI (sF (sI h 128 6 ((k : Int) + 1)) 128 7 (FP.fadd (coT R N (thn R) (-1) (top, st) k) (FP.fdiv (FP.i2f (Int32.ofInt (N (2318 + s).toNat))) 1092616192))) 128 8 = tcT R N (thn R) ls (top, st) k := f8
      have a9 : hI (sF (sI h 128 6 ((k : Int) + 1)) 128 7 (FP.fadd (coT R N (thn R) (-1) (top, st) k) (FP.fdiv (FP.i2f (Int32.ofInt (N (2318 + s).toNat))) 1092616192))) 128 9 = mcT R N (thn R) ls (top, st) k := f9
      have F2' := F2 ((k : Int) + 1) (FP.fadd (coT R N (thn R) (-1) (top, st) k) (FP.fdiv (FP.i2f (Int32.ofInt (N (2318 + s).toNat))) 1092616192))
      generalize sF (sI h 128 6 ((k : Int) + 1)) 128 7 (FP.fadd (coT R N (thn R) (-1) (top, st) k) (FP.fdiv (FP.i2f (Int32.ofInt (N (2318 + s).toNat))) 1092616192)) = g at *
      have ek : ((k : Int) + 1) = ((k + 1 : Nat) : Int) := by omega
      by_cases c : s = ls
      · have hl2 := hls.resolve_left (by omega)
        have hh := holdsIn_e (h := g) P.1 P.2.1 q0 q1 (Or.inr (by rw [c]; exact hl2.2)) ((CR_S C2).2.2.1 s q0 q1) q2 q3
        have eh : (if b_S_holdsIn g s x then (1 : Int) else 0) = if hb N ls x = true then 1 else 0 := by rw [ifc_congr hh, c]
        rw [if_pos c, eh] at eq
        rw [if_pos c] at ht1 hm1
        have cnt : ∃ g2, zC 69 [zR (some 128), zI (if hb N ls x = true then 1 else 0)] g = some (.inl none, g2) ∧ hI g2 128 8 = tcT R N (thn R) ls (top, st) (k + 1) ∧ hI g2 128 9 = mcT R N (thn R) ls (top, st) (k + 1) ∧ hI g2 128 6 = (k : Int) + 1 ∧ hF g2 128 7 = coT R N (thn R) (-1) (top, st) (k + 1) ∧ Fr scrFo g g2 := by
          by_cases d : hb N ls x = true
          · rw [if_pos d, q_R_countRound (CR_K C2), if_neg (by decide), gd_t (by omega), a8, a9]
            rw [if_pos d] at ht1
            refine ⟨_, rfl, ht1.symm, ?_, a6, a7, Fr_I (Fr_I (Fr_r _ _) rfl) rfl⟩
            show f_Ma_max _ _ = _
            rw [hm1, ht1]
            rfl
          · rw [if_neg d, q_R_countRound (CR_K C2), if_pos rfl, a9]
            rw [if_neg d] at ht1
            refine ⟨_, rfl, ht1.symm, ?_, a6, a7, Fr_I (Fr_I (Fr_r _ _) rfl) rfl⟩
            show f_Ma_max _ _ = _
            rw [hm1, ht1]
            rfl
        obtain ⟨g2, e2, b8, b9, b6, b7, F3⟩ := cnt
        have C3 := CRf_fo C2 F3
        have bh := beh_e C3 P q0 q1 q2 q3
        rw [e2, q_R_follow_r100 (CR_K C3) (CR_rp C3) (CR_P C3).1 (fun _ => by omega) (fun _ => by omega), gd_t (by omega), bh.1, bh.2, ek] at eq
        obtain ⟨g3, e3, H3, F4⟩ := ih (some (zI (stp R N (thn R) (-1) (s, x)).1)) g2 C3 ⟨by rw [b6, ek], b7, b8, b9⟩
        exact ⟨g3, eq.trans e3, H3, Fr_t F2' (Fr_t F3 F4)⟩
      · rw [if_neg c] at eq ht1 hm1
        have bh := beh_e C2 P q0 q1 q2 q3
        rw [gd_t (by omega), bh.1, bh.2, ek] at eq
        obtain ⟨g3, e3, H3, F4⟩ := ih (some (zI (stp R N (thn R) (-1) (s, x)).1)) g C2 ⟨by rw [a6, ek], a7, by rw [a8, ht1], by rw [a9, hm1]⟩
        exact ⟨g3, eq.trans e3, H3, Fr_t F2' F4⟩
theorem c_follow (C : CR h p v n R N (TT n R N)) (P : Prg n top R N) {st ls : Int} (h2 : 0 ≤ st) (h3 : st < 64) (hls : ls = -1 ∨ (0 ≤ ls ∧ ls < n) ∧ sv R ls 0 = 2) {D : Nat} {E : Int} (hD : RunD R N (thn R) (-1) (top, st) D E) (hE : E ≠ -1) : ∃ h2, zC 68 [zR (some 128), zI st, zI ls] h = some (.inl none, h2) ∧ FoS R N top st ls D h2 ∧ Fr scrFo h h2 := by
  have F1 : Fr scrFo h (sI (sI (sF (sI h 128 6 0) 128 7 FP.fconst0) 128 8 0) 128 9 0) := Fr_I (Fr_I (Fr_F (Fr_I (Fr_r _ _) rfl) rfl) rfl) rfl
  have C1 := CRf_fo C F1
  rw [q_R_follow (CR_K C) (CR_rp C) (CR_P C).1, PO_start (CR_P C1) P.2.2.2]
  obtain ⟨g, e, H, F⟩ := l_follow P (a := st) h2 h3 hls hD hE D 0 none _ C1 (by omega) ⟨rfl, rfl, rfl, rfl⟩
  exact ⟨g, e, H, Fr_t F1 F⟩
theorem runD_C (P : Prg n top R N) {st : Int} (h2 : 0 ≤ st) (h3 : st < 64) : RunD R N (thn R) (-1) (top, st) (dT R N top st) (EC n top R N st) := by
  obtain ⟨D, hD, _⟩ := runD_top (Prg_S P) h2 h3
  have hd := dT_e hD
  subst hd
  exact hD
theorem c_stepsFrom (C : CR h p v n R N (TT n R N)) (P : Prg n top R N) {st : Int} (h2 : 0 ≤ st) (h3 : st < 64) : ∃ h2, zC 75 [zR (some 128), zI st] h = some (.inl (some (zI (if EC n top R N st = -1 then -1 else dT R N top st))), h2) ∧ Fr scrFo h h2 := by
  rw [q_R_stepsFrom (CR_K C), c_endFrom C P h2 h3, q_R_stepsFrom_r5 (CR_K C)]
  by_cases c : EC n top R N st = -1
  · rw [if_pos c, if_pos c]; exact ⟨h, rfl, Fr_r _ _⟩
  · obtain ⟨g, e, H, F⟩ := c_follow C P h2 h3 (Or.inl rfl) (runD_C P h2 h3) c
    rw [if_neg c, if_neg c, e, q_R_stepsFrom_r17 (CR_K (CRf_fo C F)), H.1]
    exact ⟨g, rfl, F⟩
theorem c_costFrom (C : CR h p v n R N (TT n R N)) (P : Prg n top R N) {st : Int} (h2 : 0 ≤ st) (h3 : st < 64) : ∃ h2, zC 76 [zR (some 128), zI st] h = some (.inl (some (zF (cstS n top R N st))), h2) ∧ Fr scrFo h h2 := by
  rw [q_R_costFrom (CR_K C), c_endFrom C P h2 h3, q_R_costFrom_r5 (CR_K C)]
  unfold cstS
  by_cases c : EC n top R N st = -1
  · rw [if_pos c, if_pos c]; exact ⟨h, rfl, Fr_r _ _⟩
  · obtain ⟨g, e, H, F⟩ := c_follow C P h2 h3 (Or.inl rfl) (runD_C P h2 h3) c
    rw [if_neg c, if_neg c, e, q_R_costFrom_r18 (CR_K (CRf_fo C F)), H.2.1]
    exact ⟨g, rfl, F⟩
theorem fgt_m1 {x : UInt32} (h : fpos x) : fgt x 3212836864 = true := by
  obtain ⟨h1, h2⟩ := fpos_to h
  have e : FP.fcmp x 3212836864 = some .gt := (FP.Core.fcmp_gt_key h1 (by decide +kernel)).2 (by
    unfold fpos at h
    unfold FP.Core.fkey
    rw [if_neg (show ¬ 2 ^ 31 ≤ x.toNat by omega), if_pos (by decide)]
    have : (3212836864 : UInt32).toNat = 3212836864 := by decide
    rw [this]
    omega)
  unfold fgt
  rw [e]
  rfl
theorem l_dearestC (P : Prg n top R N) : ∀ (m k : Nat) (h : zH), CR h p v n R N (TT n R N) → k + m = 64 → ∃ h2, zY 66 7 [some (zR (some 128)), some (zI (drA n top R N k).1), some (zF (if (drA n top R N k).1 = -1 then 3212836864 else (drA n top R N k).2)), some (zI k)] [] h = some (.inl (some (zI (drA n top R N 64).1)), h2) ∧ Fr scrFo h h2
  | 0, k, h, C, hm => by
    obtain rfl : k = 64 := by omega
    rw [q_R_dearestState_7 (CR_K C), if_neg (by decide)]
    exact ⟨h, rfl, Fr_r _ _⟩
  | m + 1, k, h, C, hm => by
    have e : ((k : Int) + 1) = ((k + 1 : Nat) : Int) := by omega
    have er : drA n top R N (k + 1) = if bt (setL (lst N 0)) k = true ∧ EC n top R N k ≠ -1 ∧ ((drA n top R N k).1 = -1 ∨ fgt (coC R N top k) (drA n top R N k).2 = true) then ((k : Int), coC R N top k) else drA n top R N k := rfl
    have ih := fun h C => l_dearestC P m (k + 1) h C (by omega)
    rw [er] at ih
    rw [q_R_dearestState_7 (CR_K C), if_pos (by omega), c_endsFromBefore C P (by omega) (by omega), q_R_dearestState_r18 (CR_K C)]
    by_cases c : bt (setL (lst N 0)) k = true ∧ EC n top R N k ≠ -1
    · have hD := runD_C P (st := k) (by omega) (by omega)
      obtain ⟨g, eg, H, F⟩ := c_follow C P (st := k) (by omega) (by omega) (Or.inl rfl) hD c.2
      have Cg := CRf_fo C F
      have hp := coC_p P (by omega) (by omega) c.2 hD
      have hf : hF g 128 7 = coC R N top k := H.2.1
      rw [if_pos c, if_neg (by decide), eg, q_R_dearestState_r27 (CR_K Cg), hf, e]
      obtain ⟨g2, e2, F2⟩ := ih g Cg
      by_cases d : (drA n top R N k).1 = -1
      · rw [if_pos ⟨c.1, c.2, Or.inl d⟩, if_neg (show ¬ (k : Int) = -1 by omega)] at e2
        rw [if_pos d, if_pos (of_decide_eq_true (fgt_m1 hp)), gd_t (by omega)]
        exact ⟨g2, e2, Fr_t F F2⟩
      · rw [if_neg d]
        by_cases q : fgt (coC R N top k) (drA n top R N k).2 = true
        · rw [if_pos ⟨c.1, c.2, Or.inr q⟩, if_neg (show ¬ (k : Int) = -1 by omega)] at e2
          rw [if_pos (of_decide_eq_true q), gd_t (by omega)]
          exact ⟨g2, e2, Fr_t F F2⟩
        · rw [if_neg (fun z => z.2.2.elim d q), if_neg d] at e2
          rw [if_neg (fun z => q (decide_eq_true z)), gd_t (by omega)]
          exact ⟨g2, e2, Fr_t F F2⟩
    · rw [if_neg c, if_pos rfl, gd_t (by omega), e]
      obtain ⟨g2, e2, F2⟩ := ih h C
      rw [if_neg (fun z => c ⟨z.1, z.2.1⟩)] at e2
      exact ⟨g2, e2, F2⟩
theorem c_dearestState (C : CR h p v n R N (TT n R N)) (P : Prg n top R N) : ∃ h2, zC 66 [zR (some 128)] h = some (.inl (some (zI (drA n top R N 64).1)), h2) ∧ Fr scrFo h h2 := by
  rw [q_R_dearestState (CR_K C)]
  exact l_dearestC P 64 0 h C rfl
theorem l_mean (P : Prg n top R N) : ∀ (m k : Nat) (h : zH), CR h p v n R N (TT n R N) → k + m = 64 → dpos (meA n top R N k).1 → ∃ h2, zY 73 7 [some (zR (some 128)), some (zD (meA n top R N k).1), none, some (zI (meA n top R N k).2), some (zI k)] [] h = some (.inl (some (zD (menS n top R N))), h2) ∧ Fr scrFo h h2
  | 0, k, h, C, hm, hd => by
    obtain rfl : k = 64 := by omega
    have hb := meA_b n top R N 64
    rw [q_R_mean_7 (CR_K C), if_neg (by decide)]
    unfold menS
    by_cases c : (meA n top R N 64).2 = 0
    · rw [if_pos c, if_pos c]; exact ⟨h, rfl, Fr_r _ _⟩
    · rw [if_neg c, if_neg c, gd_t (dpos_zn (dpos_div hd (by omega) (by omega)))]
      exact ⟨h, rfl, Fr_r _ _⟩
  | m + 1, k, h, C, hm, hd => by
    have e : ((k : Int) + 1) = ((k + 1 : Nat) : Int) := by omega
    have hb := meA_b n top R N k
    have er : meA n top R N (k + 1) = if bt (setL (lst N 0)) k = true ∧ EC n top R N k ≠ -1 then (FP.dadd (meA n top R N k).1 (FP.f2d (coC R N top k)), (meA n top R N k).2 + 1) else meA n top R N k := rfl
    have ih := fun h C => l_mean P m (k + 1) h C (by omega)
    rw [er] at ih
    rw [q_R_mean_7 (CR_K C), if_pos (by omega), c_endsFromBefore C P (by omega) (by omega), q_R_mean_r20 (CR_K C)]
    by_cases c : bt (setL (lst N 0)) k = true ∧ EC n top R N k ≠ -1
    · have hD := runD_C P (st := k) (by omega) (by omega)
      obtain ⟨g, eg, H, F⟩ := c_follow C P (st := k) (by omega) (by omega) (Or.inl rfl) hD c.2
      have Cg := CRf_fo C F
      have hp := coC_p P (by omega) (by omega) c.2 hD
      have hf : hF g 128 7 = coC R N top k := H.2.1
      rw [if_pos c] at ih
      rw [if_pos c, if_neg (by decide), eg, q_R_mean_r30 (CR_K Cg), hf, gd_t (dpos_zn (dpos_f2d hp)), gd_t (dpos_zn (dpos_add hd (dpos_f2d hp))), gd_t (by omega), gd_t (by omega), e]
      obtain ⟨g2, e2, F2⟩ := ih g Cg (dpos_add hd (dpos_f2d hp))
      exact ⟨g2, e2, Fr_t F F2⟩
    · rw [if_neg c] at ih
      rw [if_neg c, if_pos rfl, gd_t (by omega), e]
      exact ih h C hd
theorem c_mean (C : CR h p v n R N (TT n R N)) (P : Prg n top R N) : ∃ h2, zC 73 [zR (some 128)] h = some (.inl (some (zD (menS n top R N))), h2) ∧ Fr scrFo h h2 := by
  rw [q_R_mean (CR_K C)]
  exact l_mean P 64 0 h C rfl dpos_0
end CFOL

