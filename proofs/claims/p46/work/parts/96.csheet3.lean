/-! The class: needs as conditions, all of them. -/
section CSH3
variable {n top : Int} {R N : Nat → Int} {h : zH} {p v : Nat}
theorem l_fill162 : ∀ (m : Nat) (x : Int) (h : zH), KC h → 0 ≤ x → x + m = 25 → (∀ d : Int, 0 ≤ d → d < x → hI h 162 d.toNat = 0) → ∃ h2, zY 232 5 [some (zR (some 162)), some (zI 0), some (zI x), some (zI 25)] [] h = some (.inl none, h2) ∧ (∀ d : Int, 0 ≤ d → d < 25 → hI h2 162 d.toNat = 0) ∧ Fr [(162, none)] h h2
  | 0, x, h, K, hx, hm, H => by
    rw [q_Ar_fill_aII_5 (PTC K 162 22 rfl rfl) (PNC K 162 rfl), if_neg (by omega)]
    exact ⟨h, rfl, fun d a b => H d a (by omega), Fr_r _ _⟩
  | m + 1, x, h, K, hx, hm, H => by
    have F1 : Fr [(162, none)] h (sI h 162 x.toNat 0) := Fr_I (Fr_r _ _) rfl
    rw [q_Ar_fill_aII_5 (PTC K 162 22 rfl rfl) (PNC K 162 rfl), if_pos (by omega), gd_t (by rw [PLC K 162 25 rfl rfl]; omega), gd_t (by omega)]
    obtain ⟨h3, e3, H3, F3⟩ := l_fill162 m (x + 1) _ (KC_f K F1 rfl) (by omega) (by omega) (fun d a b => by
      rw [hI_up]
      by_cases c : d.toNat = x.toNat
      · rw [c, upN_s]
      · rw [upN_n _ _ c]; exact H d a (by omega))
    exact ⟨h3, e3, H3, Fr_t F1 F3⟩
theorem CR_sh {r : Nat} {h2 : zH} (C : CR h p v n R N (TT n R N)) (F : FrS r h h2) : CR h2 p v n R N (TT n R N) := CR_f C F.1 rfl
/-- where a need stands on the sheet -/
def rwx (x : Int) : Nat := if x = -1 then 24 else x.toNat
theorem rowAt_e {x : Int} (hx : x = -1 ∨ 0 ≤ x) : f_Sh_rowAt x = (rwx x : Int) := by
  unfold f_Sh_rowAt rwx
  split <;> omega
/-- the rows that stand when statement s is next -/
def ShI (h : zH) (n : Int) (R N : Nat → Int) (m : Int) : Prop := SW h (some (lst N 1)) 24 ∧ (∀ t, 0 ≤ t → t < n → (m ≤ t ∨ sv R t 0 = 2) → SW h (WW n R N t) t.toNat) ∧ (∀ t, 0 ≤ t → t < m → sv R t 0 ≠ 2 → SW h (some []) t.toNat)
theorem srow {s x : Int} (H : ShI h n R N (s + 1)) (hx : x = -1 ∨ 0 ≤ x ∧ x < n ∧ (s + 1 ≤ x ∨ sv R x 0 = 2)) : SW h (srW N (WW n R N) x) (rwx x) := by
  unfold srW rwx
  rcases hx with hx | ⟨a, b, c⟩
  · rw [if_pos hx, if_pos hx]; exact H.1
  · rw [if_neg (by omega), if_neg (by omega)]; exact H.2.1 x a b c
theorem srow_ok (P : Prg n top R N) {x : Int} (hx : x = -1 ∨ 0 ≤ x ∧ x < n) : wOk (srW N (WW n R N) x) := by
  unfold srW
  rcases hx with hx | ⟨a, b⟩
  · rw [if_pos hx]
    intro l e
    cases e
    exact ⟨P.2.1.2.1.2.2, by have := fmOk_len P.2.1.2.1; omega⟩
  · rw [if_neg (by omega)]; exact WW_ok2 P a b
/-- row s is filled, the others stand -/
def ShF (h h2 : zH) (n : Int) (R N : Nat → Int) (s : Int) : Prop := SW h2 (WW n R N s) s.toNat ∧ FrS s.toNat h h2
theorem ShI_next {s : Int} {h2 : zH} (H : ShI h n R N (s + 1)) (h0 : 0 ≤ s) (h1 : s < n) (hn : n ≤ 24) (F : ShF h h2 n R N s) : ShI h2 n R N s := by
  obtain ⟨a, b⟩ := F
  refine ⟨SW_o H.1 b (by omega) (by omega), fun t t0 t1 k => ?_, fun t t0 t1 k => ?_⟩
  · by_cases c : t = s
    · rw [c]; exact a
    · exact SW_o (H.2.1 t t0 t1 (by omega)) b (by omega) (by omega)
  · exact SW_o (H.2.2 t t0 (by omega) k) b (by omega) (by omega)
theorem c_writeBranch (C : CR h p v n R N (TT n R N)) (P : Prg n top R N) (rp : hR h 135 1 = some p) {s : Int} (h0 : 0 ≤ s) (h1 : s < n) (k1 : sv R s 0 = 1) (H : ShI h n R N (s + 1)) : ∃ h2, zC 119 [zR (some 135), zI s] h = some (.inl none, h2) ∧ ShF h h2 n R N s := by
  have w0 := P.1.1
  have w1 := P.1.2.1 s h0 h1
  have v1 := (P.2.1.2.2 s h0 h1).2.1 k1
  have thr := thn_r P.1 h0 h1
  obtain ⟨f, ef, Ff⟩ := PO_partOf (CR_P C) C.1.1.2.2.2.1 h0 h1
  have el : prtL R N s = lst N (2 + s) := by unfold prtL; rw [if_neg (by omega)]
  rw [el] at Ff
  have hlen : (lst N (2 + s)).length ≤ 200 := by have := fmOk_len v1; omega
  have hs : (s.toNat : Int) = s := by omega
  have sr : s.toNat < 25 := by omega
  have thne : thn R s ≠ s := fun e => by rw [e] at thr; omega
  have S0 : SW h (some []) s.toNat := H.2.2 s h0 (by omega) (by omega)
  have ent : ∀ {g : zH}, CR g p v n R N (TT n R N) → f_P_entry g p s 1 = (if sv R s 5 = -1 then thn R s else sv R s 5) ∧ f_P_entry g p s 0 = (if sv R s 6 = -1 then thn R s else sv R s 6) := fun {g} Cg => by
    have en1 : f_P_entry g p s 1 = _ := PO_entry (CR_P Cg) P.1 h0 h1 true
    have en0 : f_P_entry g p s 0 = _ := PO_entry (CR_P Cg) P.1 h0 h1 false
    rw [if_neg (by omega), if_pos rfl] at en1
    rw [if_neg (by omega)] at en0
    simp only [Bool.false_eq_true, if_false] at en0
    exact ⟨en1, en0⟩
  have tgt : ∀ c, (c = -1 ∨ s < c ∧ c < n) → ((if c = -1 then thn R s else c) = -1 ∨ 0 ≤ (if c = -1 then thn R s else c) ∧ (if c = -1 then thn R s else c) < n ∧ (s + 1 ≤ (if c = -1 then thn R s else c) ∨ sv R (if c = -1 then thn R s else c) 0 = 2)) ∧ (if c = -1 then thn R s else c) ≠ s ∧ srW N (WW n R N) (if c = -1 then thn R s else c) = rwW N (WW n R N) (thn R s) c := fun c hc => by
    unfold rwW
    by_cases q : c = -1
    · rw [if_pos q, if_pos q]; exact ⟨by omega, thne, rfl⟩
    · rw [if_neg q, if_neg q]
      refine ⟨by omega, by omega, ?_⟩
      unfold srW
      rw [if_neg q]
  obtain ⟨ta, tb, tc⟩ := tgt (sv R s 5) (by omega)
  obtain ⟨ua, ub, uc⟩ := tgt (sv R s 6) (by omega)
  generalize (if sv R s 5 = -1 then thn R s else sv R s 5) = x1 at *
  generalize (if sv R s 6 = -1 then thn R s else sv R s 6) = x2 at *
  have rlt : ∀ x, (x = -1 ∨ 0 ≤ x ∧ x < n ∧ (s + 1 ≤ x ∨ sv R x 0 = 2)) → x ≠ s → rwx x < 25 ∧ rwx x ≠ s.toNat := fun x hx hn => by
    unfold rwx
    split <;> omega
  rw [q_Sh_writeBranch (CR_K C) rp (CR_P C).1 ef Ff.1]
  obtain ⟨g1, e1, S1, F1⟩ := c_appendNode (CR_K C) sr S0 (x := 16) (by omega) (by omega)
  rw [hs] at e1
  have C1 := CR_sh C F1
  obtain ⟨g2, e2, S2, F2⟩ := c_appendNode (CR_K C1) sr S1 (x := 15) (by omega) (by omega)
  rw [hs] at e2
  have C2 := CR_sh C1 F2
  have F02 := FrS_t F1 F2
  obtain ⟨g3, e3, S3, F3⟩ := c_appendFormula (CR_K C2) sr (FO_f Ff F02.1 rfl) v1.2.2 hlen S2
  rw [hs] at e3
  have C3 := CR_sh C2 F3
  have F03 := FrS_t F02 F3
  have rp3 : hR g3 135 1 = some p := (fR F03.1 135 1 rfl).trans rp
  obtain ⟨g4, e4, S4, F4⟩ := c_appendRow (CR_K C3) sr (rlt x1 ta tb).1 (rlt x1 ta tb).2 S3 (SW_o (srow H ta) F03 (rlt x1 ta tb).1 (rlt x1 ta tb).2) (srow_ok P (by omega))
  rw [hs, ← rowAt_e (by omega)] at e4
  have C4 := CR_sh C3 F4
  have F04 := FrS_t F03 F4
  obtain ⟨g5, e5, S5, F5⟩ := c_appendNode (CR_K C4) sr S4 (x := 15) (by omega) (by omega)
  rw [hs] at e5
  have C5 := CR_sh C4 F5
  obtain ⟨g6, e6, S6, F6⟩ := c_appendNode (CR_K C5) sr S5 (x := 14) (by omega) (by omega)
  rw [hs] at e6
  have C6 := CR_sh C5 F6
  have F06 := FrS_t F04 (FrS_t F5 F6)
  obtain ⟨g7, e7, S7, F7⟩ := c_appendFormula (CR_K C6) sr (FO_f Ff F06.1 rfl) v1.2.2 hlen S6
  rw [hs] at e7
  have C7 := CR_sh C6 F7
  have F07 := FrS_t F06 F7
  have rp7 : hR g7 135 1 = some p := (fR F07.1 135 1 rfl).trans rp
  obtain ⟨g8, e8, S8, F8⟩ := c_appendRow (CR_K C7) sr (rlt x2 ua ub).1 (rlt x2 ua ub).2 S7 (SW_o (srow H ua) F07 (rlt x2 ua ub).1 (rlt x2 ua ub).2) (srow_ok P (by omega))
  rw [hs, ← rowAt_e (by omega)] at e8
  have C8 := CR_sh C7 F8
  rw [e1, q_Sh_writeBranch_r16 (CR_K C1) (FO_f Ff F1.1 rfl).1, e2, q_Sh_writeBranch_r23 (CR_K C2) (FO_f Ff F02.1 rfl).1, e3, q_Sh_writeBranch_r29 (CR_K C3) (FO_f Ff F03.1 rfl).1 rp3 (CR_P C3).1, (ent C3).1, e4, q_Sh_writeBranch_r46 (CR_K C4) (FO_f Ff F04.1 rfl).1, e5, q_Sh_writeBranch_r53 (CR_K C5) (FO_f Ff (FrS_t F04 F5).1 rfl).1, e6, q_Sh_writeBranch_r60 (CR_K C6) (FO_f Ff F06.1 rfl).1, e7, q_Sh_writeBranch_r66 (CR_K C7) (FO_f Ff F07.1 rfl).1 rp7 (CR_P C7).1, (ent C7).2, e8, q_Sh_writeBranch_r83 (CR_K C8) (FO_f Ff (FrS_t F07 F8).1 rfl).1]
  refine ⟨g8, rfl, ?_, FrS_t F07 F8⟩
  rw [WW_e P.1 h0 h1, wdS, if_neg (by omega), if_pos k1, ← tc, ← uc]
  exact S8
theorem l_Sh_write (P : Prg n top R N) : ∀ (m : Nat) (h : zH), CR h p v n R N (TT n R N) → hR h 135 1 = some p → (m : Int) ≤ n → ShI h n R N m → ∃ h2, zY 114 69 [some (zR (some 135)), some (zR (some p)), some (zR (some v)), some (zI ((m : Int) - 1))] [] h = some (.inl none, h2) ∧ ShI h2 n R N 0 ∧ Fr scrSh h h2
  | 0, h, C, rp, hm, H => by
    rw [q_Sh_write_69 (CR_K C) (CR_P C).1 (CR_V C).1 rp (CR_P C).1, if_pos (by omega)]
    exact ⟨h, rfl, H, Fr_r _ _⟩
  | m + 1, h, C, rp, hm, H => by
    have w0 := P.1.1
    have e0 : ((m + 1 : Nat) : Int) - 1 = (m : Int) := by omega
    have e1 : (m : Int) + (-1) = (m : Int) - 1 := by omega
    have H' : ShI h n R N ((m : Int) + 1) := H
    have w1 := (P.1.2.1 m (by omega) (by omega)).1
    rw [e0, q_Sh_write_69 (CR_K C) (CR_P C).1 (CR_V C).1 rp (CR_P C).1, if_neg (by omega), PO_kindOf (CR_P C) (by omega) (by omega)]
    have nx : ∀ g, Fr scrSh h g → ShI g n R N m → ∃ h2, zY 114 69 [some (zR (some 135)), some (zR (some p)), some (zR (some v)), some (zI ((m : Int) - 1))] [] g = some (.inl none, h2) ∧ ShI h2 n R N 0 ∧ Fr scrSh h h2 := fun g F Hg => by
      obtain ⟨g2, e2, H2, F2⟩ := l_Sh_write P m g (CR_f C F rfl) ((fR F 135 1 rfl).trans rp) (by omega) Hg
      exact ⟨g2, e2, H2, Fr_t F F2⟩
    by_cases k1 : sv R m 0 = 1
    · obtain ⟨g, eg, SF⟩ := c_writeBranch C P rp (s := m) (by omega) (by omega) k1 H'
      have Cg := CR_sh C SF.2
      rw [if_pos k1, eg, q_Sh_write_r90 (CR_K Cg) (CR_P Cg).1 (CR_V Cg).1, gd_t (by omega), e1]
      exact nx g SF.2.1 (ShI_next H' (by omega) (by omega) w0.2 SF)
    · rw [if_neg k1]
      by_cases k2 : sv R m 0 = 2
      · rw [if_pos k2, gd_t (by omega), e1]
        exact nx h (Fr_r _ _) ⟨H'.1, fun t t0 t1 k => H'.2.1 t t0 t1 (by
          by_cases c : t = m
          · rw [c]; exact Or.inr k2
          · omega), fun t t0 t1 k => H'.2.2 t t0 (by omega) k⟩
      · have thr := thn_r P.1 (s := m) (by omega) (by omega)
        have thne : thn R m ≠ m := fun e => by rw [e] at thr; omega
        have hx : thn R m = -1 ∨ 0 ≤ thn R m ∧ thn R m < n ∧ ((m : Int) + 1 ≤ thn R m ∨ sv R (thn R m) 0 = 2) := by omega
        have rlt : rwx (thn R m) < 25 ∧ rwx (thn R m) ≠ m := by
          unfold rwx
          split <;> omega
        have hv3 := ((CR_P C).2.2.2.2.1 m (by omega) (by omega)).2.2.2.2.2.2.2.2
        obtain ⟨g, eg, S2, F⟩ := c_writeSwapped (CR_K C) (s := m) (t := rwx (thn R m)) (by omega) rlt.1 rlt.2 (H'.2.2 m (by omega) (by omega) k2) (srow H' hx) (srow_ok P (by omega)) ((CR_S C).2.2.1 m (by omega) (by omega)) P (by omega) hv3 (by omega)
        have Cg := CR_sh C F
        rw [if_neg k2, PO_thenOf (CR_P C) (by omega) (by omega), rowAt_e (by omega), eg, q_Sh_write_r121 (CR_K Cg) (CR_P Cg).1 (CR_V Cg).1, gd_t (by omega), e1]
        refine nx g F.1 (ShI_next H' (by omega) (by omega) w0.2 ⟨?_, F⟩)
        rw [WW_e P.1 (by omega) (by omega), wdS, if_neg k2, if_neg k1]
        exact S2
theorem dapp_nil {l : List Int} (h : l.length ≤ 200) : dapp (some []) l = some l := by
  rw [dapp_e l [] (by decide), List.nil_append, if_pos h]
/-- the loops' rows, as they are filled -/
def ShL (h : zH) (n : Int) (R N : Nat → Int) (l : Int) : Prop := SW h (some (lst N 1)) 24 ∧ (∀ t, 0 ≤ t → t < n → sv R t 0 = 2 → sv R t 7 < l → SW h (some (lst N (26 + t))) t.toNat) ∧ (∀ t, 0 ≤ t → t < n → (sv R t 0 ≠ 2 ∨ l ≤ sv R t 7) → SW h (some []) t.toNat)
theorem l_Sh_loops (P : Prg n top R N) : ∀ (m : Nat) (l : Int) (h : zH), CR h p v n R N (TT n R N) → hR h 135 1 = some p → 0 ≤ l → l + m = cntK R 2 n.toNat → ShL h n R N l → ∃ h2, zY 114 25 [some (zR (some 135)), some (zR (some p)), some (zR (some v)), some (zI l)] [] h = zY 114 69 [some (zR (some 135)), some (zR (some p)), some (zR (some v)), some (zI (n - 1))] [] h2 ∧ ShI h2 n R N n ∧ Fr scrSh h h2
  | 0, l, h, C, rp, h0, hm, H => by
    have w0 := P.1.1
    have cb := cntK_b R 2 n.toNat
    have ek : ∃ f, f_V_keepOf h v l = some f ∧ FS h f := by
      unfold f_V_keepOf
      by_cases c : b_V_fits l
      · rw [if_pos c]
        obtain ⟨⟨f, a, b, _⟩, _⟩ := (CR_V C).2.2.2.2.2 l.toNat (by have := c.2; omega)
        exact ⟨f, a, b⟩
      · rw [if_neg c]; exact ⟨3, rfl, (FO_none (CR_K C)).1⟩
    obtain ⟨f, ef, hf⟩ := ek
    rw [q_Sh_write_25 (CR_K C) (CR_P C).1 (CR_V C).1 rp (CR_P C).1 ef hf, PO_l (CR_P C), if_neg (by omega), PO_n (CR_P C), gd_t (by omega)]
    refine ⟨h, rfl, ⟨H.1, fun t t0 t1 k => ?_, fun t t0 t1 k => H.2.2 t t0 (by omega) (Or.inl k)⟩, Fr_r _ _⟩
    have k2 : sv R t 0 = 2 := by rcases k with k | k <;> omega
    rw [WW_w k2]
    refine H.2.1 t t0 t1 k2 ?_
    have h1 := (P.2.2.1 t t0 t1).1 (Or.inl k2)
    have h2 := cntK_m R 2 (t.toNat + 1) (n.toNat - (t.toNat + 1))
    rw [show t.toNat + 1 + (n.toNat - (t.toNat + 1)) = n.toNat by omega, cntK_s, show ((t.toNat : Nat) : Int) = t by omega, if_pos k2] at h2
    rw [k2] at h1
    omega
  | m + 1, l, h, C, rp, h0, hm, H => by
    have w0 := P.1.1
    have cb := cntK_b R 2 n.toNat
    obtain ⟨⟨l0, l1⟩, lk, ln⟩ := lpAt_ok P.2.2.1 w0.1 (Or.inl rfl) h0 (show l < cntK R 2 n.toNat by omega)
    have vk := (P.2.1.2.2 _ l0 l1).2.2.1 lk
    obtain ⟨⟨f, ef, Ff⟩, _⟩ := ((CR_V C).2.2.2.2.1 _ l0 l1).1 lk
    rw [ln] at ef
    have ef2 : f_V_keepOf h v l = some f := by unfold f_V_keepOf; rw [if_pos ⟨h0, by omega⟩]; exact ef
    have hs : ((lpAt n R 2 l).toNat : Int) = lpAt n R 2 l := by omega
    obtain ⟨g, eg, Sg, F⟩ := c_appendFormula (CR_K C) (r := (lpAt n R 2 l).toNat) (by omega) Ff vk.2.1.2.2 (by have := fmOk_len vk.2.1; omega) (H.2.2 _ l0 l1 (Or.inr (by omega)))
    rw [hs] at eg
    rw [dapp_nil (by have := fmOk_len vk.2.1; omega)] at Sg
    have Cg := CR_sh C F
    rw [q_Sh_write_25 (CR_K C) (CR_P C).1 (CR_V C).1 rp (CR_P C).1 ef2 Ff.1, PO_l (CR_P C), if_pos (by omega), PO_loopAt (CR_P C) P.2.2.1, eg, q_Sh_write_r53 (CR_K Cg) (CR_P Cg).1 (CR_V Cg).1, gd_t (by omega)]
    obtain ⟨g2, e2, H2, F2⟩ := l_Sh_loops P m (l + 1) g Cg ((fR F.1 135 1 rfl).trans rp) (by omega) (by omega) ⟨SW_o H.1 F (by omega) (by omega), fun t t0 t1 k q => by
      by_cases c : t = lpAt n R 2 l
      · rw [c]; exact Sg
      · refine SW_o (H.2.1 t t0 t1 k ?_) F (by omega) (by omega)
        by_cases d : sv R t 7 = l
        · exact absurd (num_inj P t0 t1 l0 l1 (Or.inl k) (by rw [k, lk]) (by rw [d, ln])) c
        · omega, fun t t0 t1 k => by
      have hne : t ≠ lpAt n R 2 l := fun e => by
        rw [e, lk, ln] at k
        omega
      exact SW_o (H.2.2 t t0 t1 (by omega)) F (by omega) (by omega)⟩
    exact ⟨g2, e2, H2, Fr_t F.1 F2⟩
abbrev scrSw : FA := (135, some 1) :: scrSh
theorem c_Sh_write (C : CR h p v n R N (TT n R N)) (P : Prg n top R N) : ∃ h2, zC 114 [zR (some 135), zR (some p), zR (some v)] h = some (.inl none, h2) ∧ (∀ t, 0 ≤ t → t < n → SW h2 (WW n R N t) t.toNat) ∧ Fr scrSw h h2 := by
  have w0 := P.1.1
  have F0 : Fr scrSw h (sR h 135 1 (some p)) := Fr_R (Fr_r _ _) rfl
  have C0 := CR_f C F0 rfl
  have r0 : hR (sR h 135 1 (some p)) 135 1 = some p := rfl
  rw [q_Sh_write (CR_K C) (CR_P C).1 (CR_V C).1]
  generalize sR h 135 1 (some p) = g0 at *
  obtain ⟨g1, e1, H1, F1⟩ := l_fill162 25 0 g0 (CR_K C0) (by omega) (by omega) (fun d a b => by omega)
  have C1 := CR_f C0 F1 rfl
  have r1 : hR g1 135 1 = some p := (fR F1 135 1 rfl).trans r0
  have Sz : ∀ t : Nat, t < 25 → SW g1 (some []) t := fun t ht => by
    have := H1 t (by omega) (by omega)
    rw [show (t : Int).toNat = t by omega] at this
    unfold SW
    rw [this]
    exact ⟨by decide, by decide, rfl⟩
  obtain ⟨f, ef, Ff⟩ := (CR_V C1).2.2.2.1
  obtain ⟨g2, e2, S2, F2⟩ := c_appendFormula (CR_K C1) (r := 24) (by omega) Ff P.2.1.2.1.2.2 (by have := fmOk_len P.2.1.2.1; omega) (Sz 24 (by omega))
  rw [dapp_nil (by have := fmOk_len P.2.1.2.1; omega)] at S2
  have C2 := CR_sh C1 F2
  have r2 : hR g2 135 1 = some p := (fR F2.1 135 1 rfl).trans r1
  have cb := cntK_b R 2 n.toNat
  obtain ⟨g3, e3, H3, F3⟩ := l_Sh_loops P (cntK R 2 n.toNat).toNat 0 g2 C2 r2 (by omega) (by omega) ⟨S2, fun t a b k q => by
    have := num_r P a b (Or.inl k)
    omega, fun t a b k => SW_o (Sz t.toNat (by omega)) F2 (by omega) (by omega)⟩
  have C3 := CR_f C2 F3 rfl
  obtain ⟨g4, e4, H4, F4⟩ := l_Sh_write P n.toNat g3 C3 ((fR F3 135 1 rfl).trans r2) (by omega) (by rw [show ((n.toNat : Nat) : Int) = n by omega]; exact H3)
  rw [show ((n.toNat : Nat) : Int) = n by omega] at e4
  have e1' : zC 232 [zR (some 162), zI 0] g0 = some (.inl none, g1) := by
    rw [q_Ar_fill_aII (PTC (CR_K C0) 162 22 rfl rfl) (PNC (CR_K C0) 162 rfl), PLC (CR_K C0) 162 25 rfl rfl]
    exact e1
  rw [e1', q_Sh_write_r13 (CR_K C1) (CR_P C1).1 (CR_V C1).1 ef Ff.1]
  have e2' : zC 115 [zR (some 135), zI 24, zR (some f)] g1 = some (.inl none, g2) := e2
  rw [e2', q_Sh_write_r23 (CR_K C2) (CR_P C2).1 (CR_V C2).1, e3]
  exact ⟨g4, e4, fun t a b => H4.2.1 t a b (Or.inl a), Fr_t F0 (Fr_t (Fr_m F1 rfl) (Fr_t (Fr_m F2.1 rfl) (Fr_t (Fr_m F3 rfl) (Fr_m F4 rfl))))⟩
end CSH3

