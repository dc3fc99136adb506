/-! The start: versions, the program, formulas and the sheet's rows, made. -/
section CSTART2
variable {h h2 g : zH} {N m nv np nf e : Nat} {h0 : zH}
theorem BB_old {d e2 : Nat} (B : BB N m nv np nf e h0 h) (hm : ∀ q, q < m → (rl q).1 < N) (G : Gw W0 d e2 h h2) : (∀ a, a < N → hT h2 a = bT a ∧ hL h2 a = bL a) ∧ (∀ q, q < m → hR h2 (rl q).1 (rl q).2.1 = some (rl q).2.2) ∧ (∀ a, a < N → zr a = true → hI h2 a = fun _ => 0) ∧ (∀ i, i < nv → vad i + 5 ≤ N ∧ VR h2 (vad i)) ∧ (np = 1 → 85 ≤ N ∧ PR h2 74) ∧ (∀ i j, i < nf → 103 + 2 * i < N ∧ hI h2 (103 + 2 * i) j = (cForm.getD i []).getD j 0) ∧ Gw W0 (N + d) (e + e2) h0 h2 := by
  obtain ⟨⟨b0, b1⟩, b2, b3, b4, b5, b6, b7, b8⟩ := B
  have rn : ∀ a, a < N → hR h2 a = hR h a := fun a ha => grR G (Or.inl (by omega)) (fun _ => id)
  have en : ∀ a, a < N → hI h2 a = hI h a := fun a ha => grI G (Or.inl (by omega)) (fun _ => id)
  refine ⟨fun a ha => ?_, fun q hq => by rw [rn _ (hm q hq)]; exact b3 q hq, fun a ha z => by rw [en a ha]; exact b4 a ha z, fun i hi => ⟨(b5 i hi).1, VR_e (b5 i hi).2 fun j hj => ⟨rn _ (by have := (b5 i hi).1; omega), en _ (by have := (b5 i hi).1; omega)⟩⟩, fun z => ⟨(b6 z).1, PR_e (b6 z).2 fun j hj => ⟨rn _ (by have := (b6 z).1; omega), en _ (by have := (b6 z).1; omega)⟩⟩, fun i j hi => ⟨(b7 i j hi).1, by rw [en _ (b7 i j hi).1]; exact (b7 i j hi).2⟩, Gw_t b8 G (fun _ _ _ z => z)⟩
  have t := G.2.1 a (Or.inl (by omega))
  exact ⟨t.1.trans (b2 a ha).1, t.2.trans (b2 a ha).2⟩
theorem BB_3 (B : BB N m nv np nf e h0 h) (hN5 : 5 ≤ N) (hm3 : 3 ≤ m) : FS h 3 := by
  obtain ⟨⟨b0, b1⟩, b2, b3, b4, b5, b6, b7, b8⟩ := B
  exact ⟨(b2 3 (by omega)).1, b3 2 (by omega), (b2 4 (by omega)).1, by omega⟩
theorem vad_t {i : Nat} (hi : i < 13) : (bT (vad i) = 10 ∧ bL (vad i) = 7) ∧ ∀ j, 0 < j → j ≤ 4 → bT (vad i + j) = vst j ∧ bL (vad i + j) = 24 := by
  have key : ∀ i : Fin 13, (bT (vad i.val) = 10 ∧ bL (vad i.val) = 7) ∧ ∀ j : Fin 5, 0 < j.val → bT (vad i.val + j.val) = vst j.val ∧ bL (vad i.val + j.val) = 24 := by decide
  exact ⟨(key ⟨i, hi⟩).1, fun j j0 j1 => (key ⟨i, hi⟩).2 ⟨j, by omega⟩ j0⟩
theorem BB_V (B : BB N m nv np nf e h0 h) (hm : ∀ q, q < m → (rl q).1 < N) (hm3 : 3 ≤ m) (hv : N = vad nv) (hn : nv < 13) : ∃ h2, zC 124 [zR (some N), zR (some 3)] (hNew h 10 7) = some (.inl none, h2) ∧ BB (N + 5) m (nv + 1) np nf (e + 110) h0 h2 := by
  have vb := vad_b nv
  have F3 := BB_3 B (by omega) hm3
  have b0 := B.1.1
  have b1 := B.1.2
  have z9 : zVB = 10000000 := rfl
  obtain ⟨h2, e2, V, l2, ⟨r0, r1⟩, rows, n2, G⟩ := c_newV2 F3 (Or.inr (by omega)) (by omega)
  rw [b1] at e2 V l2 r0 r1 rows n2
  obtain ⟨c2, c3, c4, c5, c6, c7, c8⟩ := BB_old B hm G
  have vt := vad_t hn
  rw [← hv] at vt
  refine ⟨h2, e2, ⟨b0, n2⟩, fun a ha => ?_, c3, fun a ha z => c4 a (by have := zr_lt z; omega) z, fun i hi => ?_, fun z => ⟨by have := (c6 z).1; omega, (c6 z).2⟩, fun i j hi => ⟨by have := (c7 i j hi).1; omega, (c7 i j hi).2⟩, c8⟩
  · by_cases c : a < N
    · exact c2 a c
    · by_cases c0 : a = N
      · subst c0
        exact ⟨V.1.trans vt.1.1.symm, l2.trans vt.1.2.symm⟩
      · obtain ⟨j, rfl⟩ : ∃ j, a = N + j := ⟨a - N, by omega⟩
        have q := V.2.2.1 j (by simp only [Bool.and_eq_true, Nat.blt_eq, Nat.ble_eq]; omega)
        have q2 := vt.2 j (by omega) (by omega)
        exact ⟨q.1.trans q2.1.symm, q.2.trans q2.2.symm⟩
  · by_cases c : i < nv
    · exact ⟨by have := (c5 i c).1; omega, (c5 i c).2⟩
    · obtain rfl : i = nv := by omega
      rw [← hv]
      exact ⟨Nat.le_refl _, V.2.2.2.1, ⟨r0, r1, V.2.2.2.2⟩, rows⟩
theorem BB_P (B : BB 74 m nv 0 nf e h0 h) (hm : ∀ q, q < m → (rl q).1 < 74) (hm3 : 3 ≤ m) : ∃ h2, zC 35 [zR (some 74), zR (some 3)] (hNew h 5 14) = some (.inl none, h2) ∧ BB 85 m nv 1 nf (e + 254) h0 h2 := by
  have F3 := BB_3 B (by omega) hm3
  have b0 := B.1.1
  have b1 := B.1.2
  have z9 : zVB = 10000000 := rfl
  obtain ⟨h2, e2, V, l2, zs, rows, n2, G⟩ := c_newP2 F3 (Or.inr (by omega)) (by omega)
  rw [b1] at e2 V l2 zs rows n2
  obtain ⟨c2, c3, c4, c5, c6, c7, c8⟩ := BB_old B hm G
  refine ⟨h2, e2, ⟨b0, n2⟩, fun a ha => ?_, c3, fun a ha z => c4 a (by have := zr_lt z; omega) z, fun i hi => ⟨by have := (c5 i hi).1; omega, (c5 i hi).2⟩, fun _ => ⟨Nat.le_refl _, V.2.2.2.1, V.2.2.2.2, zs, rows⟩, fun i j hi => ⟨by have := (c7 i j hi).1; omega, (c7 i j hi).2⟩, c8⟩
  by_cases c : a < 74
  · exact c2 a c
  · by_cases c0 : a = 74
    · subst c0
      exact ⟨V.1, l2⟩
    · obtain ⟨j, rfl⟩ : ∃ j, a = 74 + j := ⟨a - 74, by omega⟩
      have q := V.2.2.1 j (by simp only [Bool.and_eq_true, Nat.blt_eq, Nat.ble_eq]; omega)
      have key : ∀ j : Fin 11, 0 < j.val → bT (74 + j.val) = pst j.val ∧ bL (74 + j.val) = 24 := by decide
      have q2 := key ⟨j, by omega⟩ (by show 0 < j; omega)
      exact ⟨q.1.trans q2.1.symm, q.2.trans q2.2.symm⟩
theorem Gw_cp (g : zH) (r n : Nat) (hz : hN g < zVB) : Gw W0 1 n g (hCp g r n) := by
  have G := Gw_new W0 g 21 n hz
  refine ⟨G.1, G.2.1, fun a k ha w => ?_⟩
  obtain ⟨q1, q2, q3, q4, q5⟩ := G.2.2 a k ha w
  refine ⟨q1, ?_, q3, q4, q5⟩
  exact congrFun (zu1_n (hI g) _ (by omega)) k
theorem BB_F (B : BB N m nv np nf e h0 g) {f r n : Nat} (hm : ∀ q, q < m → (rl q).1 < N) (hm2 : m < 105) (fN : f < N) (tf : bT f = 2) (rN : r < N) (tr : bT r = 21) (hn : n < 65536) (hz : 14 ≤ N ∧ N < 163 ∨ N = 4) (tN : bT N = 21) (lN : bL N = n) (hr : rl m = (f, 0, N)) : ∃ h2, zC 13 [zR (some f), zR (some r), zI n] g = some (.inl none, h2) ∧ BB (N + 1) (m + 1) nv np nf (e + n) h0 h2 ∧ ∀ j, hI h2 N j = if j < bL r ∧ j < n then hI g r j else 0 := by
  have b0 := B.1.1
  have b1 := B.1.2
  have z9 : zVB = 10000000 := rfl
  have E := q_Fo_init (g := g) (f := f) (r := r) (n := n) (by omega) (by omega) ((B.2.1 f fN).1.trans tf) (by omega) ((B.2.1 r rN).1.trans tr) (by omega)
  rw [b1, Int.toNat_natCast] at E
  have G := Gw_cp g r n (by omega)
  obtain ⟨c2, c3, c4, c5, c6, c7, c8⟩ := BB_old B hm G
  have B2 : BB (N + 1) m nv np nf (e + n) h0 (hCp g r n) := by
    refine ⟨⟨b0, by show hN g + 1 = _; omega⟩, fun a ha => ?_, c3, fun a ha z => ?_, fun i hi => ⟨by have := (c5 i hi).1; omega, (c5 i hi).2⟩, fun z => ⟨by have := (c6 z).1; omega, (c6 z).2⟩, fun i j hi => ⟨by have := (c7 i j hi).1; omega, (c7 i j hi).2⟩, c8⟩
    · by_cases c : a < N
      · exact c2 a c
      · obtain rfl : a = N := by omega
        exact ⟨by show zu1 (hT g) (hN g) 21 a = _; rw [b1, zu1_s, tN], by show zu1 (hL g) (hN g) n a = _; rw [b1, zu1_s, lN]⟩
    · by_cases c : a < N
      · exact c4 a c z
      · obtain rfl : a = N := by omega
        have := zr_lt z
        rcases hz with hz | rfl
        · omega
        · exact absurd z (by decide)
  refine ⟨_, E, BB_R B2 hm2 hr, fun j => ?_⟩
  show zu1 (hI g) (hN g) (fun j => if j < hL g r ∧ j < n then hI g r j else 0) N j = _
  rw [b1, zu1_s, (B.2.1 r rN).2]
theorem BB_form (B : BB N m nv np nf e h0 h) (hN2 : 103 + 2 * nf < N) (hj : ∀ j, hI h (103 + 2 * nf) j = (cForm.getD nf []).getD j 0) : BB N m nv np (nf + 1) e h0 h := by
  obtain ⟨b0, b2, b3, b4, b5, b6, b7, b8⟩ := B
  refine ⟨b0, b2, b3, b4, b5, b6, fun i j hi => ?_, b8⟩
  by_cases c : i = nf
  · subst c; exact ⟨hN2, hj j⟩
  · exact b7 i j (by omega)
theorem Gw_news (h : zH) (t k : Nat) : ∀ n, hN h + n < zVB → Gw W0 n (n * k) h (hNews h t k n) ∧ hN (hNews h t k n) = hN h + n ∧ (∀ a, hN h ≤ a → a < hN h + n → hT (hNews h t k n) a = t ∧ hL (hNews h t k n) a = k)
  | 0, _ => ⟨Gw_m (Gw_r W0 h) (fun _ _ _ z => z) (by omega) (by omega), rfl, fun a x y => by omega⟩
  | n + 1, hz => by
    obtain ⟨G, e1, ts⟩ := Gw_news h t k n (by omega)
    have E : hNews h t k (n + 1) = hNew (hNews h t k n) t k := rfl
    rw [E]
    refine ⟨Gw_m (Gw_t G (Gw_new W0 (hNews h t k n) t k (by omega)) (fun _ _ _ z => z)) (fun _ _ _ z => z) (by omega) (by rw [Nat.succ_mul]; omega), by show hN (hNews h t k n) + 1 = _; omega, fun a x y => ?_⟩
    by_cases c : a = hN h + n
    · rw [c, ← e1]
      exact ⟨zu1_s _ _ _, zu1_s _ _ _⟩
    · have c2 : a ≠ hN (hNews h t k n) := by omega
      exact ⟨(zu1_n _ _ c2).trans (ts a x (by omega)).1, (zu1_n _ _ c2).trans (ts a x (by omega)).2⟩
end CSTART2


