/-! The reference: a step, whole. -/
section STEPS3
variable {n top : Int} {R N : Nat → Int} {th cl : Int → Int} {al sp : Int}
theorem RSt_c {h : zH} {st k : Int} {c : UInt32} {L L2 : Int → BitVec 64} {t t2 m m2 : Int → Int} {M M2 : Int → BitVec 64} (S : RSt h st k c L t m M) (e : ∀ l, 0 ≤ l → l < 24 → L l = L2 l ∧ t l = t2 l ∧ m l = m2 l ∧ M l = M2 l) : RSt h st k c L2 t2 m2 M2 := by
  obtain ⟨s1, s2, s3, s4⟩ := S
  refine ⟨s1, s2, s3, fun l h0 h1 => ?_⟩
  obtain ⟨a1, a2, a3, a4⟩ := s4 l h0 h1
  obtain ⟨b1, b2, b3, b4⟩ := e l h0 h1
  exact ⟨a1.trans b1, a2.trans b2, a3.trans b3, a4.trans b4⟩
theorem RSt_f {A : FA} {h h2 : zH} {st k : Int} {c : UInt32} {L : Int → BitVec 64} {t m : Int → Int} {M : Int → BitVec 64} (S : RSt h st k c L t m M) (F : Fr A h h2) (e : (!inA A 177 28 && !inA A 177 30 && !inA A 177 31 && rowA A 192 && rowA A 193 && rowA A 194 && rowA A 195) = true) : RSt h2 st k c L t m M := by
  simp only [Bool.and_eq_true, Bool.not_eq_true'] at e
  obtain ⟨⟨⟨⟨⟨⟨e1, e2⟩, e3⟩, e4⟩, e5⟩, e6⟩, e7⟩ := e
  obtain ⟨s1, s2, s3, s4⟩ := S
  refine ⟨(fI F _ _ e1).trans s1, (fI F _ _ e2).trans s2, (fF F _ _ e3).trans s3, fun l h0 h1 => ?_⟩
  rw [rJ F 192 e4, rI F 193 e5, rI F 194 e6, rJ F 195 e7]
  exact s4 l h0 h1
abbrev scrR : FA := [(187, none), (177, some 21), (177, some 27), (177, some 28), (177, some 29), (177, some 30), (177, some 31), (192, none), (193, none), (194, none), (195, none)]
theorem c_counts {h : zH} (M : MB n top R N h) (w : WS n R) (v : WN n R N) {s : Int} (h0 : 0 ≤ s) (h1 : s < n) (ha : hI h 177 27 = s) (hk : 0 ≤ hI h 177 30 ∧ hI h 177 30 < 1000000) (hc : fpos (hF h 177 31)) : zC 272 [zR (some 177)] h = some (.inl none, sF (sI h 177 30 (hI h 177 30 + 1)) 177 31 (FP.fadd (hF h 177 31) (prc N s))) := by
  obtain ⟨K, m1, m2, m3, m4⟩ := id M
  have w0 := w.1
  have hp := (v.2.2 s h0 h1).2.2.2.2
  have f1 := fpos_prc hp.1 hp.2
  rw [q_M_counts K, ha, m4, gd_t (by omega), gd_t (by omega), gd_t (by omega), gd_t (fpos_zn f1), gd_t (fpos_zn (fpos_add hc f1))]
  rfl
/-- what a step leaves behind *)-/
def StP (R N : Nat → Int) (th cl : Int → Int) (al : Int) (s st k : Int) (c : UInt32) (L : Int → BitVec 64) (t m : Int → Int) (Mt : Int → BitVec 64) (h2 : zH) : Prop := ((stp R N th al (s, st)).1 = -1 → hI h2 177 29 = 1) ∧ ((stp R N th al (s, st)).1 ≠ -1 → hI h2 177 29 = 0 ∧ hI h2 177 27 = (stp R N th al (s, st)).1) ∧ RSt h2 (stp R N th al (s, st)).2 (k + 1) (FP.fadd c (prc N s)) (lkS R N (s, st) L) (tnS R N cl al (s, st) t) (msS R N cl al (s, st) t m) (mtS (s, st) Mt)
theorem StP_of {s st k : Int} {c : UInt32} {L : Int → BitVec 64} {t m : Int → Int} {Mt : Int → BitVec 64} {h h2 : zH} (he : hI h 177 29 = 0) (S : RSt h (stp R N th al (s, st)).2 (k + 1) (FP.fadd c (prc N s)) (lkS R N (s, st) L) (fun l => if sv R s 0 = 2 ∧ hb N s st = false ∧ s = l then 0 else t l) m (mtS (s, st) Mt)) (G : GB h h2 (stp R N th al (s, st)).1 (bmp R N cl al (s, st))) : StP R N th cl al s st k c L t m Mt h2 :=
  ⟨G.1, fun e => by rw [(G.2.1 e).1, (G.2.1 e).2, he]; exact ⟨rfl, rfl⟩, RSt_gb S G⟩
theorem c_stepsOn {h : zH} (M : MB n top R N h) (w : WS n R) (v : WN n R N) (hS : isTS n R sp th) (hC : isCL n R sp cl) {s st k : Int} {c : UInt32} {L : Int → BitVec 64} {t m : Int → Int} {Mt : Int → BitVec 64} (h0 : 0 ≤ s) (h1 : s < n) (h2 : 0 ≤ st) (h3 : st < 64) (ha : hI h 177 27 = s) (he : hI h 177 29 = 0) (S : RSt h st k c L t m Mt) (hk : 0 ≤ k ∧ k < 1000000) (hc : fpos c) (hB : ∀ l : Int, 0 ≤ l → l < 24 → 0 ≤ t l ∧ t l < 1000000) :
    (sv R s 0 = 2 ∧ bt (L s) st = true → ∃ h2, zC 270 [zR (some 177), zI al, zI sp] h = some (.inl (some (zI 0)), h2) ∧ RSt h2 st k c L t m (mtS (s, st) Mt) ∧ hI h2 177 29 = 0 ∧ Fr scrR h h2) ∧
    (¬ (sv R s 0 = 2 ∧ bt (L s) st = true) → ∃ h2, zC 270 [zR (some 177), zI al, zI sp] h = some (.inl (some (zI 1)), h2) ∧ StP R N th cl al s st k c L t m Mt h2 ∧ Fr scrR h h2) := by
  have w0 := w.1
  have w1 := w.2.1 s h0 h1
  have v1 := v.2.2 s h0 h1
  have hst : hI h 177 28 = st := S.1
  -- the first thing is seen
  have F1 : Fr scrR h (sJ h 195 s.toNat (hJ h 195 s.toNat ||| zlshl 1#64 st)) := Fr_J (Fr_r _ _) rfl
  have M1 := MB_f M F1 rfl
  have S1 : RSt (sJ h 195 s.toNat (hJ h 195 s.toNat ||| zlshl 1#64 st)) st k c L t m (mtS (s, st) Mt) := by
    obtain ⟨s1, s2, s3, s4⟩ := S
    refine ⟨s1, s2, s3, fun l q0 q1 => ?_⟩
    obtain ⟨a1, a2, a3, a4⟩ := s4 l q0 q1
    refine ⟨a1, a2, a3, ?_⟩
    simp only [hJ_sJ, zup, mtS]
    by_cases g : s = l
    · subst g; simp [a4]
    · rw [if_neg (by omega), if_neg g, a4]
  have e0 : f_M_s (sJ h 195 s.toNat (hJ h 195 s.toNat ||| zlshl 1#64 st)) s 0 = sv R s 0 := by rw [f_M_s_e, M1.2.2.2.1]
  have hq := q_M_stepsOn (h := h) (x1 := al) (x2 := sp) M.1
  rw [ha, hst, gd_t (show 0 ≤ s ∧ s < 24 by omega), e0] at hq
  have ha1 : hI (sJ h 195 s.toNat (hJ h 195 s.toNat ||| zlshl 1#64 st)) 177 27 = s := ha
  have he1 : hI (sJ h 195 s.toNat (hJ h 195 s.toNat ||| zlshl 1#64 st)) 177 29 = 0 := he
  rw [hq]
  clear hq
  generalize sJ h 195 s.toNat (hJ h 195 s.toNat ||| zlshl 1#64 st) = g1 at *
  clear S ha he hst e0
  by_cases c2 : sv R s 0 = 2
  · rw [if_pos c2]
    have v2 := v1.2.2.1 c2
    have hL : hJ g1 192 s.toNat = L s := (S1.2.2.2 s h0 (by omega)).1
    have hq := q_M_looksAt (h := g1) (x1 := s) (x2 := al) (x3 := sp) M1.1
    rw [gd_t (show 0 ≤ s ∧ s < 24 by omega), hL, S1.1] at hq
    rw [hq]
    constructor
    · rintro ⟨-, hd⟩
      rw [if_pos ((holds_e _ h2 h3).2 hd), q_M_stepsOn_r37 M1.1, gd_t (Or.inl rfl)]
      exact ⟨g1, rfl, S1, he1, F1⟩
    · intro hd
      have hd2 : ¬ bt (L s) st = true := fun e => hd ⟨c2, e⟩
      rw [if_neg (fun e => hd2 ((holds_e _ h2 h3).1 e))]
      -- looked at
      have F2 : Fr scrR g1 (sJ g1 192 s.toNat (L s ||| zlshl 1#64 st)) := Fr_J (Fr_r _ _) rfl
      have M2 := MB_f M1 F2 rfl
      have ec := c_counts M2 w v h0 h1 ha1 (by rw [show hI (sJ g1 192 s.toNat (L s ||| zlshl 1#64 st)) 177 30 = k from S1.2.1]; exact hk) (by rw [show hF (sJ g1 192 s.toNat (L s ||| zlshl 1#64 st)) 177 31 = c from S1.2.2.1]; exact hc)
      rw [show hI (sJ g1 192 s.toNat (L s ||| zlshl 1#64 st)) 177 30 = k from S1.2.1, show hF (sJ g1 192 s.toNat (L s ||| zlshl 1#64 st)) 177 31 = c from S1.2.2.1] at ec
      rw [ec]
      have F3 : Fr scrR g1 (sF (sI (sJ g1 192 s.toNat (L s ||| zlshl 1#64 st)) 177 30 (k + 1)) 177 31 (FP.fadd c (prc N s))) := Fr_F (Fr_I F2 rfl) rfl
      have M3 := MB_f M1 F3 rfl
      have S3 : RSt (sF (sI (sJ g1 192 s.toNat (L s ||| zlshl 1#64 st)) 177 30 (k + 1)) 177 31 (FP.fadd c (prc N s))) st (k + 1) (FP.fadd c (prc N s)) (fun l => if s = l then L l ||| zlshl 1#64 st else L l) t m (mtS (s, st) Mt) := by
        obtain ⟨s1, s2, s3, s4⟩ := S1
        refine ⟨?_, by simp [hI_sI, hI_sF, zup], by simp [hF_sF, zup], fun l q0 q1 => ?_⟩
        · simpa [hI_sI, hI_sF, hI_sJ, zup] using s1
        · obtain ⟨a1, a2, a3, a4⟩ := s4 l q0 q1
          refine ⟨?_, ?_, ?_, ?_⟩
          · simp only [hJ_sF, hJ_sI, hJ_sJ, zup]
            by_cases q : s = l
            · subst q; simp
            · rw [if_neg (by omega), if_neg q, a1]
          · simpa [hI_sI, hI_sF, hI_sJ, zup] using a2
          · simpa [hI_sI, hI_sF, hI_sJ, zup] using a3
          · simpa [hJ_sF, hJ_sI, hJ_sJ, zup] using a4
      have ha3 : hI (sF (sI (sJ g1 192 s.toNat (L s ||| zlshl 1#64 st)) 177 30 (k + 1)) 177 31 (FP.fadd c (prc N s))) 177 27 = s := by simpa [hI_sI, hI_sF, hI_sJ, zup] using ha1
      have he3 : hI (sF (sI (sJ g1 192 s.toNat (L s ||| zlshl 1#64 st)) 177 30 (k + 1)) 177 31 (FP.fadd c (prc N s))) 177 29 = 0 := by simpa [hI_sI, hI_sF, hI_sJ, zup] using he1
      generalize sF (sI (sJ g1 192 s.toNat (L s ||| zlshl 1#64 st)) 177 30 (k + 1)) 177 31 (FP.fadd c (prc N s)) = g3 at *
      rw [q_M_looksAt_r37 M3.1, gd_t (by omega), S3.1]
      obtain ⟨g4, e4, F4⟩ := c_valueOf M3.1 (q := 2 + s) (by omega) (by omega) h2 h3 (M3.2.2.2.2 ▸ v2.1)
      have M4 := MB_f M3 F4 rfl
      have S4 := RSt_f S3 F4 rfl
      have ha4 : hI g4 177 27 = s := (fI F4 177 27 rfl).trans ha3
      have he4 : hI g4 177 29 = 0 := (fI F4 177 29 rfl).trans he3
      have hB4 : ∀ l : Int, 0 ≤ l → l < 24 → 0 ≤ hI g4 193 l.toNat ∧ hI g4 193 l.toNat < 1000000 := fun l q0 q1 => by rw [(S4.2.2.2 l q0 q1).2.1]; exact hB l q0 q1
      have hv := val_ok v2.1.2.2 h2 h3
      rw [e4, M3.2.2.2.2, q_M_looksAt_r48 M4.1]
      cases hh : hb N s st with
      | true =>
        have hy : val (lst N (2 + s)) st = 1 := of_decide_eq_true hh
        have e5 : f_M_s g4 s 5 = sv R s 5 := by rw [f_M_s_e, M4.2.2.2.1]
        rw [if_pos hy, e5]
        obtain ⟨g5, e6, G5⟩ := c_entersRow (f := sv R s 5) M4 w hS hC hB4 h0 h1 ha4
        have F5 : Fr scrR h g5 := Fr_t F1 (Fr_t F3 (Fr_t (Fr_m F4 rfl) (Fr_m G5.2.2.2 rfl)))
        have K5 := KM_f M.1 F5 rfl
        rw [e6, q_M_looksAt_r63 K5, q_M_stepsOn_r37 K5, gd_t (Or.inr rfl)]
        refine ⟨g5, rfl, StP_of he4 (RSt_c ?_ fun l q0 q1 => ⟨rfl, rfl, rfl, rfl⟩) ?_, F5⟩
        · rw [stp_h c2 hh]
          refine RSt_c S4 fun l q0 q1 => ⟨?_, ?_, rfl, rfl⟩
          · simp only [lkS, c2, hh, true_and, if_true]
          · simp only [hh]
            rw [if_neg (by simp)]
        · have b1 : bmp R N cl al (s, st) = if sv R s 5 = -1 then s else -1 := by simp only [bmp]; rw [if_pos c2, if_pos hh]
          rw [stp_h c2 hh, b1]
          rw [if_pos c2, if_pos c2] at G5
          exact G5
      | false =>
        have hy : ¬ val (lst N (2 + s)) st = 1 := of_decide_eq_false hh
        rw [if_neg hy, gd_t (by omega)]
        have F5 : Fr scrR g4 (sI (sJ g4 192 s.toNat 0#64) 193 s.toNat 0) := Fr_I (Fr_J (Fr_r _ _) rfl) rfl
        have M5 := MB_f M4 F5 rfl
        have S5 : RSt (sI (sJ g4 192 s.toNat 0#64) 193 s.toNat 0) st (k + 1) (FP.fadd c (prc N s)) (lkS R N (s, st) L) (fun l => if sv R s 0 = 2 ∧ hb N s st = false ∧ s = l then 0 else t l) m (mtS (s, st) Mt) := by
          obtain ⟨s1, s2, s3, s4⟩ := S4
          refine ⟨?_, ?_, s3, fun l q0 q1 => ?_⟩
          · simpa [hI_sI, hI_sJ, zup] using s1
          · simpa [hI_sI, hI_sJ, zup] using s2
          · obtain ⟨a1, a2, a3, a4⟩ := s4 l q0 q1
            refine ⟨?_, ?_, ?_, ?_⟩
            · simp only [hJ_sI, hJ_sJ, zup, lkS, c2, hh, true_and]
              by_cases q : s = l
              · subst q; simp
              · rw [if_neg (by omega), if_neg q, a1]; exact if_neg q
            · simp only [hI_sI, hI_sJ, zup, c2, hh, true_and]
              by_cases q : s = l
              · subst q; simp
              · rw [if_neg (by omega), if_neg q, a2]
            · simpa [hI_sI, hI_sJ, zup] using a3
            · simpa [hJ_sI, hJ_sJ, zup] using a4
        have he5 : hI (sI (sJ g4 192 s.toNat 0#64) 193 s.toNat 0) 177 29 = 0 := by simpa [hI_sI, hI_sJ, zup] using he4
        generalize sI (sJ g4 192 s.toNat 0#64) 193 s.toNat 0 = g5 at *
        by_cases cal : s = al
        · rw [if_pos cal]
          have F6 : Fr scrR h (sI g5 177 29 1) := Fr_t F1 (Fr_t F3 (Fr_t (Fr_m F4 rfl) (Fr_I F5 rfl)))
          rw [q_M_stepsOn_r37 (KM_f M.1 F6 rfl), gd_t (Or.inr rfl)]
          refine ⟨_, rfl, StP_of he5 ?_ ?_, F6⟩
          · rw [stp_x c2 hh]
            exact S5
          · have b1 : bmp R N cl al (s, st) = -1 := by simp only [bmp]; rw [if_pos c2, hh, if_pos cal]; rfl
            rw [stp_x c2 hh, b1, exS, if_pos cal]
            exact GB_0 (fun _ => by simp [hI_sI, zup]) (fun e => absurd rfl e) (Fr_I (Fr_r _ _) rfl)
        · rw [if_neg cal]
          have hB5 : ∀ l : Int, 0 ≤ l → l < 24 → 0 ≤ hI g5 193 l.toNat ∧ hI g5 193 l.toNat < 1000000 := fun l q0 q1 => by
            rw [(S5.2.2.2 l q0 q1).2.1]
            simp only
            split
            · omega
            · exact hB l q0 q1
          obtain ⟨g6, e6, G6⟩ := c_goesBehind M5 w hS hC hB5 h0 h1
          have F6 : Fr scrR h g6 := Fr_t F1 (Fr_t F3 (Fr_t (Fr_m F4 rfl) (Fr_t F5 (Fr_m G6.2.2.2 rfl))))
          have K6 := KM_f M.1 F6 rfl
          rw [e6, q_M_looksAt_r98 K6, q_M_stepsOn_r37 K6, gd_t (Or.inr rfl)]
          refine ⟨g6, rfl, StP_of he5 ?_ ?_, F6⟩
          · rw [stp_x c2 hh]
            exact S5
          · have b1 : bmp R N cl al (s, st) = cl s := by simp only [bmp]; rw [if_pos c2, hh, if_neg cal]; rfl
            rw [stp_x c2 hh, b1, exS, if_neg cal]
            exact G6
  · rw [if_neg c2]
    refine ⟨fun hd => absurd hd.1 c2, fun _ => ?_⟩
    have ec := c_counts M1 w v h0 h1 ha1 (by rw [S1.2.1]; exact hk) (by rw [S1.2.2.1]; exact hc)
    rw [S1.2.1, S1.2.2.1] at ec
    rw [ec]
    have F3 : Fr scrR g1 (sF (sI g1 177 30 (k + 1)) 177 31 (FP.fadd c (prc N s))) := Fr_F (Fr_I (Fr_r _ _) rfl) rfl
    have M3 := MB_f M1 F3 rfl
    have S3 : RSt (sF (sI g1 177 30 (k + 1)) 177 31 (FP.fadd c (prc N s))) st (k + 1) (FP.fadd c (prc N s)) (lkS R N (s, st) L) (fun l => if sv R s 0 = 2 ∧ hb N s st = false ∧ s = l then 0 else t l) m (mtS (s, st) Mt) := by
      obtain ⟨s1, s2, s3, s4⟩ := S1
      refine ⟨?_, by simp [hI_sI, hI_sF, zup], by simp [hF_sF, zup], fun l q0 q1 => ?_⟩
      · simpa [hI_sI, hI_sF, zup] using s1
      · obtain ⟨a1, a2, a3, a4⟩ := s4 l q0 q1
        refine ⟨?_, ?_, ?_, ?_⟩
        · simp only [lkS]; rw [if_neg (fun q => c2 q.1)]; exact a1
        · simp only; rw [if_neg (fun q => c2 q.1)]; simpa [hI_sI, hI_sF, zup] using a2
        · simpa [hI_sI, hI_sF, zup] using a3
        · exact a4
    have ha3 : hI (sF (sI g1 177 30 (k + 1)) 177 31 (FP.fadd c (prc N s))) 177 27 = s := by simpa [hI_sI, hI_sF, zup] using ha1
    have he3 : hI (sF (sI g1 177 30 (k + 1)) 177 31 (FP.fadd c (prc N s))) 177 29 = 0 := by simpa [hI_sI, hI_sF, zup] using he1
    generalize sF (sI g1 177 30 (k + 1)) 177 31 (FP.fadd c (prc N s)) = g3 at *
    have e3 : f_M_s g3 s 0 = sv R s 0 := by rw [f_M_s_e, M3.2.2.2.1]
    have hBt : ∀ l : Int, 0 ≤ l → l < 24 → 0 ≤ (if sv R s 0 = 2 ∧ hb N s st = false ∧ s = l then 0 else t l) ∧ (if sv R s 0 = 2 ∧ hb N s st = false ∧ s = l then 0 else t l) < 1000000 := fun l q0 q1 => by rw [if_neg (fun q => c2 q.1)]; exact hB l q0 q1
    rw [q_M_stepsOn_r42 M3.1, e3]
    by_cases c1 : sv R s 0 = 1
    · rw [if_pos c1, gd_t (by omega), S3.1]
      obtain ⟨g4, e4, F4⟩ := c_valueOf M3.1 (q := 2 + s) (by omega) (by omega) h2 h3 (M3.2.2.2.2 ▸ v1.2.1 c1)
      have M4 := MB_f M3 F4 rfl
      have S4 := RSt_f S3 F4 rfl
      have ha4 : hI g4 177 27 = s := (fI F4 177 27 rfl).trans ha3
      have he4 : hI g4 177 29 = 0 := (fI F4 177 29 rfl).trans he3
      have hB4 : ∀ l : Int, 0 ≤ l → l < 24 → 0 ≤ hI g4 193 l.toNat ∧ hI g4 193 l.toNat < 1000000 := fun l q0 q1 => by rw [(S4.2.2.2 l q0 q1).2.1]; exact hBt l q0 q1
      have e5 : f_M_s g4 s 5 = sv R s 5 := by rw [f_M_s_e, M4.2.2.2.1]
      have e6 : f_M_s g4 s 6 = sv R s 6 := by rw [f_M_s_e, M4.2.2.2.1]
      rw [e4, M3.2.2.2.2, q_M_stepsOn_r64 M4.1, e5, e6]
      have hf : ∀ f, f = (if hb N s st = true then sv R s 5 else sv R s 6) → ∃ h2, zBack zY 270 85 88 [some (zR (some 177)), some (zI al), some (zI sp), some (zI s)] [] (zC 273 [zR (some 177), zI f, zI sp] g4) = some (.inl (some (zI 1)), h2) ∧ StP R N th cl al s st k c L t m Mt h2 ∧ Fr scrR h h2 := by
        intro f hf
        obtain ⟨g5, e7, G5⟩ := c_entersRow (f := f) M4 w hS hC hB4 h0 h1 ha4
        have F5 : Fr scrR h g5 := Fr_t F1 (Fr_t F3 (Fr_t (Fr_m F4 rfl) (Fr_m G5.2.2.2 rfl)))
        rw [e7, q_M_stepsOn_r88 (KM_f M.1 F5 rfl)]
        refine ⟨g5, rfl, StP_of he4 ?_ ?_, F5⟩
        · rw [stp_i c1]
          exact S4
        · have b1 : bmp R N cl al (s, st) = if f = -1 then cl s else -1 := by simp only [bmp]; rw [if_neg c2, if_pos c1, hf]
          rw [stp_i c1, b1, ← hf]
          rw [if_neg c2, if_neg c2] at G5
          exact G5
      by_cases hh : hb N s st = true
      · have hy : val (lst N (2 + s)) st = 1 := of_decide_eq_true hh
        rw [if_pos hy]
        exact hf _ (by rw [if_pos hh])
      · have hy : ¬ val (lst N (2 + s)) st = 1 := fun e => hh (decide_eq_true e)
        rw [if_neg hy]
        exact hf _ (by rw [if_neg hh])
    · rw [if_neg c1, S3.1]
      obtain ⟨g4, e4, F4⟩ := c_behindIt M3 w v h0 h1 (by omega) h2 h3
      have M4 := MB_f M3 F4 rfl
      have S4 := RSt_f S3 F4 rfl
      have he4 : hI g4 177 29 = 0 := (fI F4 177 29 rfl).trans he3
      rw [e4, q_M_stepsOn_r101 M4.1]
      have F5 : Fr scrR g4 (sI g4 177 28 (bhS R N s st)) := Fr_I (Fr_r _ _) rfl
      have M5 := MB_f M4 F5 rfl
      have S5 : RSt (sI g4 177 28 (bhS R N s st)) (bhS R N s st) (k + 1) (FP.fadd c (prc N s)) (lkS R N (s, st) L) (fun l => if sv R s 0 = 2 ∧ hb N s st = false ∧ s = l then 0 else t l) m (mtS (s, st) Mt) := by
        obtain ⟨s1, s2, s3, s4⟩ := S4
        refine ⟨by simp [hI_sI, zup], ?_, s3, fun l q0 q1 => ?_⟩
        · simpa [hI_sI, zup] using s2
        · obtain ⟨a1, a2, a3, a4⟩ := s4 l q0 q1
          refine ⟨a1, ?_, ?_, a4⟩
          · simpa [hI_sI, zup] using a2
          · simpa [hI_sI, zup] using a3
      have he5 : hI (sI g4 177 28 (bhS R N s st)) 177 29 = 0 := by simpa [hI_sI, zup] using he4
      have hB5 : ∀ l : Int, 0 ≤ l → l < 24 → 0 ≤ hI (sI g4 177 28 (bhS R N s st)) 193 l.toNat ∧ hI (sI g4 177 28 (bhS R N s st)) 193 l.toNat < 1000000 := fun l q0 q1 => by rw [(S5.2.2.2 l q0 q1).2.1]; exact hBt l q0 q1
      obtain ⟨g6, e6, G6⟩ := c_goesBehind M5 w hS hC hB5 h0 h1
      have F6 : Fr scrR h g6 := Fr_t F1 (Fr_t F3 (Fr_t (Fr_m F4 rfl) (Fr_t F5 (Fr_m G6.2.2.2 rfl))))
      rw [e6, q_M_stepsOn_r110 (KM_f M.1 F6 rfl)]
      refine ⟨g6, rfl, StP_of he5 ?_ ?_, F6⟩
      · rw [stp_o c2 c1]
        exact S5
      · have b1 : bmp R N cl al (s, st) = cl s := by simp only [bmp]; rw [if_neg c2, if_neg c1]
        rw [stp_o c2 c1, b1]
        exact G6
end STEPS3
