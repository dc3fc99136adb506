/-! The reference: runs from a state, of a loop alone, of a loop's row; what lessens. -/
section RUNSM
variable {n top : Int} {R N : Nat → Int} {th cl : Int → Int} {al sp : Int} {T : Int → Int → Int}
theorem l_beginsRun {s st : Int} : ∀ (m : Nat) (x : Int) (h : zH), KM h → 0 ≤ x → 24 - x = m → (∀ l : Int, 0 ≤ l → l < x → hJ h 192 l.toNat = 0#64 ∧ hI h 193 l.toNat = 0 ∧ hI h 194 l.toNat = 0) → ∃ h2, zY 268 27 [some (zR (some 177)), some (zI s), some (zI st), some (zI x)] [] h = some (.inl none, h2) ∧ (∀ l : Int, 0 ≤ l → l < 24 → hJ h2 192 l.toNat = 0#64 ∧ hI h2 193 l.toNat = 0 ∧ hI h2 194 l.toNat = 0) ∧ Fr [(192, none), (193, none), (194, none)] h h2
  | 0, x, h, K, h0, hm, hz => by
    rw [q_M_beginsRun_27 K, if_neg (by omega)]
    exact ⟨h, rfl, fun l q0 q1 => hz l q0 (by omega), Fr_r _ _⟩
  | m + 1, x, h, K, h0, hm, hz => by
    rw [q_M_beginsRun_27 K, if_pos (by omega), gd_t (by omega), gd_t (by omega)]
    have F1 : Fr [(192, none), (193, none), (194, none)] h (sI (sI (sJ h 192 x.toNat 0#64) 193 x.toNat 0) 194 x.toNat 0) := Fr_I (Fr_I (Fr_J (Fr_r _ _) rfl) rfl) rfl
    obtain ⟨h2, e2, z2, F2⟩ := l_beginsRun (s := s) (st := st) m (x + 1) _ (KM_f K F1 rfl) (by omega) (by omega) (fun l q0 q1 => by
      simp only [hJ_sI, hJ_sJ, hI_sI, hI_sJ, zup]
      by_cases c : l = x
      · subst c; simp
      · have c2 : ¬ l.toNat = x.toNat := by omega
        have := hz l q0 (by omega)
        simp [c2, this])
    exact ⟨h2, e2, z2, Fr_t F1 F2⟩
theorem c_beginsRun {h : zH} (K : KM h) {s st : Int} : ∃ h2, zC 268 [zR (some 177), zI s, zI st] h = some (.inl none, h2) ∧ hI h2 177 27 = s ∧ hI h2 177 29 = 0 ∧ RSt h2 st 0 FP.fconst0 (fun _ => 0#64) (fun _ => 0) (fun _ => 0) (fun l => hJ h 195 l.toNat) ∧ Fr scrR h h2 := by
  have F1 : Fr scrR h (sF (sI (sI (sI (sI h 177 27 s) 177 28 st) 177 29 0) 177 30 0) 177 31 FP.fconst0) := Fr_F (Fr_I (Fr_I (Fr_I (Fr_I (Fr_r _ _) rfl) rfl) rfl) rfl) rfl
  rw [q_M_beginsRun K]
  obtain ⟨h2, e2, z2, F2⟩ := l_beginsRun (s := s) (st := st) 24 0 _ (KM_f K F1 rfl) (by omega) (by omega) (fun l q0 q1 => by omega)
  refine ⟨h2, e2, ?_, ?_, ⟨?_, ?_, ?_, fun l q0 q1 => ?_⟩, Fr_t F1 (Fr_m F2 rfl)⟩
  · rw [fI F2 177 27 rfl]; rfl
  · rw [fI F2 177 29 rfl]; rfl
  · rw [fI F2 177 28 rfl]; rfl
  · rw [fI F2 177 30 rfl]; rfl
  · rw [fF F2 177 31 rfl]; rfl
  · obtain ⟨z1, z2, z3⟩ := z2 l q0 q1
    refine ⟨z1, z2, z3, ?_⟩
    rw [fJ F2 195 _ rfl]
    simp only [hJ_sF, hJ_sI]
theorem ends_01 {E : Int} : (if E = -1 then (0 : Int) else 1) = 0 ∨ (if E = -1 then (0 : Int) else 1) = 1 := by split <;> simp
/-- from the first heap of a run on: at p, not ended, or nowhere and ended *)-/
theorem c_goesThrough {h : zH} (M : MB n top R N h) (w : WS n R) (v : WN n R N) (hS : isTS n R sp th) (hC : isCL n R sp cl) {p : Int × Int} {D : Nat} {E : Int} (hD : RunD R N th al p D E) {m0 : Int → BitVec 64} (ha : hI h 177 27 = p.1) (S : RSt h p.2 0 FP.fconst0 (fun _ => 0#64) (fun _ => 0) (fun _ => 0) m0) (hp : (pv n p ∧ hI h 177 29 = 0) ∨ (p.1 = -1 ∧ E = p.2 ∧ D = 0 ∧ E ≠ -1 ∧ hI h 177 29 = 1)) : ∃ h2, zC 269 [zR (some 177), zI al, zI sp] h = some (.inl none, h2) ∧ RunE R N th cl al p D E m0 h2 ∧ Fr scrR h h2 := by
  rw [q_M_goesThrough M.1, ha]
  rcases hp with ⟨hp, he⟩ | ⟨h1, h2, h3, h4, h5⟩
  · rw [if_neg (by have := hp.1; omega), if_pos he]
    exact l_goesThrough w v hS hC hp hD m0 D 0 h M (by omega) (show p.1 ≠ -1 by have := hp.1; omega) ha he S
  · rw [if_pos h1, q_M_goesThrough_21 M.1, if_pos rfl]
    refine ⟨h, rfl, ⟨by rw [if_neg h4]; exact h5, ?_⟩, Fr_r _ _⟩
    rw [if_neg h4, h3]
    exact S
theorem RSt_e {h : zH} {x : Int} {st k : Int} {c : UInt32} {L : Int → BitVec 64} {t m : Int → Int} {M : Int → BitVec 64} (S : RSt h st k c L t m M) : RSt (sI h 177 29 x) st k c L t m M := RSt_f S (Fr_I (A := [(177, some 29)]) (Fr_r _ _) rfl) rfl
theorem c_runsFrom {h : zH} (M : MB n top R N h) (w : WS n R) (v : WN n R N) (hS : isTS n R (-1) th) (hC : isCL n R (-1) cl) {st : Int} (h2 : 0 ≤ st) (h3 : st < 64) (htop : top = -1 ∨ 0 ≤ top ∧ top < n) {D : Nat} {E : Int} (hD : RunD R N th (-1) (top, st) D E) (h0 : top = -1 → D = 0 ∧ E = st) : ∃ h2, zC 296 [zR (some 177), zI st] h = some (.inl (some (zI (if E = -1 then 0 else 1))), h2) ∧ RunE R N th cl (-1) (top, st) D E (fun l => hJ h 195 l.toNat) h2 ∧ Fr scrR h h2 := by
  obtain ⟨g1, e1, a1, b1, S1, F1⟩ := c_beginsRun M.1 (s := top) (st := st)
  have M1 := MB_f M F1 rfl
  rw [q_M_runsFrom M.1, M.2.2.1, e1, q_M_runsFrom_r9 M1.1, M1.2.2.1]
  have hfin : ∀ x, x = (if top = -1 then (1 : Int) else 0) → ∃ h2, zBack zY 296 29 32 [some (zR (some 177)), some (zI st)] [] (zC 269 [zR (some 177), zI (-1), zI (-1)] (sI g1 177 29 x)) = some (.inl (some (zI (if E = -1 then 0 else 1))), h2) ∧ RunE R N th cl (-1) (top, st) D E (fun l => hJ h 195 l.toNat) h2 ∧ Fr scrR h h2 := by
    intro x hx
    have F2 : Fr scrR g1 (sI g1 177 29 x) := Fr_I (Fr_r _ _) rfl
    have M2 := MB_f M1 F2 rfl
    obtain ⟨g3, e3, E3, F3⟩ := c_goesThrough M2 w v hS hC hD (m0 := fun l => hJ h 195 l.toNat) (by simpa [hI_sI, zup] using a1) (RSt_e S1) (by
      by_cases c : top = -1
      · obtain ⟨q1, q2⟩ := h0 c
        exact Or.inr ⟨c, q2, q1, by omega, by simp [hI_sI, zup, hx, c]⟩
      · exact Or.inl ⟨⟨htop.resolve_left c, h2, h3⟩, by simp [hI_sI, zup, hx, c]⟩)
    rw [e3, q_M_runsFrom_r32 (KM_f M2.1 F3 rfl), E3.1, gd_t ends_01]
    exact ⟨g3, rfl, E3, Fr_t F1 (Fr_t F2 F3)⟩
  by_cases c : top = -1
  · rw [if_pos c]; exact hfin 1 (by rw [if_pos c])
  · rw [if_neg c]; exact hfin 0 (by rw [if_neg c])
theorem c_runsLoop {h : zH} (M : MB n top R N h) (w : WS n R) (v : WN n R N) (hS : isTS n R (-1) th) (hC : isCL n R (-1) cl) {s st : Int} (q0 : 0 ≤ s) (q1 : s < n) (h2 : 0 ≤ st) (h3 : st < 64) {D : Nat} {E : Int} (hD : RunD R N th s (s, st) D E) : ∃ h2, zC 317 [zR (some 177), zI s, zI st] h = some (.inl (some (zI (if E = -1 then 0 else 1))), h2) ∧ (E ≠ -1 → hI h2 177 28 = E) ∧ Fr scrR h h2 := by
  obtain ⟨g1, e1, a1, b1, S1, F1⟩ := c_beginsRun M.1 (s := s) (st := st)
  have M1 := MB_f M F1 rfl
  rw [q_M_runsLoop M.1, e1, q_M_runsLoop_r6 M1.1]
  obtain ⟨g3, e3, E3, F3⟩ := c_goesThrough M1 w v hS hC hD a1 S1 (Or.inl ⟨⟨⟨q0, q1⟩, h2, h3⟩, b1⟩)
  rw [e3, q_M_runsLoop_r12 (KM_f M1.1 F3 rfl), E3.1, gd_t ends_01]
  refine ⟨g3, rfl, fun hE => ?_, Fr_t F1 F3⟩
  rw [E3.2.1, (hD.2.2 hE).1]
theorem c_runsRow {h : zH} (M : MB n top R N h) (w : WS n R) (v : WN n R N) {s st : Int} (hS : isTS n R s th) (hC : isCL n R s cl) (q0 : 0 ≤ s) (q1 : s < n) (h2 : 0 ≤ st) (h3 : st < 64) {D : Nat} {E : Int} (hD : RunD R N th (-1) (sv R s 5, st) D E) (h0 : sv R s 5 = -1 → D = 0 ∧ E = st) : ∃ h2, zC 267 [zR (some 177), zI s, zI st] h = some (.inl (some (zI (if E = -1 then 0 else 1))), h2) ∧ (E ≠ -1 → hI h2 177 28 = E) ∧ Fr scrR h h2 := by
  have w0 := w.1
  have w1 := (w.2.1 s q0 q1).2.2.2.2.1
  have es : f_M_s h s 5 = sv R s 5 := by rw [f_M_s_e, M.2.2.2.1]
  obtain ⟨g1, e1, a1, b1, S1, F1⟩ := c_beginsRun M.1 (s := sv R s 5) (st := st)
  have M1 := MB_f M F1 rfl
  have es1 : f_M_s g1 s 5 = sv R s 5 := by rw [f_M_s_e, M1.2.2.2.1]
  rw [q_M_runsRow M.1, es, e1, q_M_runsRow_r11 M1.1, es1]
  have hfin : ∀ x, x = (if sv R s 5 = -1 then (1 : Int) else 0) → ∃ h2, zBack zY 267 33 36 [some (zR (some 177)), some (zI s), some (zI st)] [] (zC 269 [zR (some 177), zI (-1), zI s] (sI g1 177 29 x)) = some (.inl (some (zI (if E = -1 then 0 else 1))), h2) ∧ (E ≠ -1 → hI h2 177 28 = E) ∧ Fr scrR h h2 := by
    intro x hx
    have F2 : Fr scrR g1 (sI g1 177 29 x) := Fr_I (Fr_r _ _) rfl
    have M2 := MB_f M1 F2 rfl
    obtain ⟨g3, e3, E3, F3⟩ := c_goesThrough M2 w v hS hC hD (by simpa [hI_sI, zup] using a1) (RSt_e S1) (by
      by_cases c : sv R s 5 = -1
      · obtain ⟨q1, q2⟩ := h0 c
        exact Or.inr ⟨c, q2, q1, by omega, by simp [hI_sI, zup, hx, c]⟩
      · exact Or.inl ⟨⟨by simp only; omega, h2, h3⟩, by simp [hI_sI, zup, hx, c]⟩)
    rw [e3, q_M_runsRow_r36 (KM_f M2.1 F3 rfl), E3.1, gd_t ends_01]
    refine ⟨g3, rfl, fun hE => ?_, Fr_t F1 (Fr_t F2 F3)⟩
    rw [E3.2.1, (hD.2.2 hE).1]
  by_cases c : sv R s 5 = -1
  · rw [if_pos c]; exact hfin 1 (by rw [if_pos c])
  · rw [if_neg c]; exact hfin 0 (by rw [if_neg c])
end RUNSM
