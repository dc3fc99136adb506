/-! The start: what stands behind the class's objects. -/
section CSTART4
variable {h h2 g : zH} {e : Nat} {h0 : zH}
def rlhas (a k b : Nat) : Bool := (List.range 105).any fun q => Nat.beq (rl q).1 a && (Nat.beq (rl q).2.1 k && Nat.beq (rl q).2.2 b)
def rlver (a k b : Nat) : Bool := Nat.ble 14 a && (Nat.blt a 74 && (Nat.beq ((a - 14) % 5) 0 && ((Nat.beq k 2 && Nat.beq b 3) || (Nat.ble 3 k && (Nat.ble k 6 && Nat.beq b (a + (k - 2)))))))
theorem BB_h (B : BB 163 105 13 1 13 e h0 h) {a k b : Nat} (q : rlhas a k b = true) : hR h a k = some b := by
  obtain ⟨i, hi, c⟩ := List.any_eq_true.1 q
  simp only [Bool.and_eq_true, Nat.beq_eq] at c
  have := B.2.2.1 i (List.mem_range.1 hi)
  rw [c.1, c.2.1, c.2.2] at this
  exact this
theorem BB_K (B : BB 163 105 13 1 13 e h0 h) : KC h := by
  have rw1 : ∀ {a k b : Nat}, rlhas a k b = true → hR h a k = some b := BB_h B
  obtain ⟨⟨b0, b1⟩, b2, b3, b4, b5, b6, b7, b8⟩ := B
  refine ⟨by omega, fun a ha => ?_, fun a k b hr => ?_, fun i hi => ?_, fun i hi => ?_, fun i hi => ?_, fun i hi => ?_, fun i j hi => (b7 i j hi).2⟩
  · have key : ∀ a : Fin 163, cI a.val = true → bT a.val = cT a.val ∧ bL a.val = cL a.val := by decide +kernel
    have c : a < 163 := by
      simp only [cI, Bool.or_eq_true, Bool.and_eq_true, Nat.blt_eq, Nat.ble_eq] at ha
      omega
    have q := b2 a c
    have k2 := key ⟨a, c⟩ ha
    exact ⟨q.1.trans k2.1, q.2.trans k2.2⟩
  · have key : ∀ (a : Fin 163) (k : Fin 16), (match cR a.val k.val with | none => true | some b => rlhas a.val k.val b || rlver a.val k.val b) = true := by decide +kernel
    by_cases c : a < 163 ∧ k < 16
    · have q := key ⟨a, c.1⟩ ⟨k, c.2⟩
      simp only [hr, Bool.or_eq_true] at q
      rcases q with q | q
      · exact rw1 q
      · simp only [rlver, Bool.and_eq_true, Bool.or_eq_true, Nat.beq_eq, Nat.blt_eq, Nat.ble_eq] at q
        obtain ⟨q1, q2, q3, q4⟩ := q
        have q := (b5 ((a - 14) / 5) (by omega)).2
        have hv : vad ((a - 14) / 5) = a := by unfold vad; rw [if_pos (by omega)]; omega
        rw [hv] at q
        rcases q4 with ⟨rfl, rfl⟩ | ⟨k3, k6, rfl⟩
        · exact q.2.1.2.2
        · exact q.1 k (by simp only [Bool.and_eq_true, Nat.ble_eq]; omega)
    · have : (Nat.blt a 163 && Nat.blt k 16) = false := by
        rw [Bool.and_eq_false_iff]
        rcases Nat.lt_or_ge a 163 with z | z
        · right
          rw [← Bool.not_eq_true, Nat.blt_eq]; omega
        · left
          rw [← Bool.not_eq_true, Nat.blt_eq]; omega
      unfold cR at hr
      rw [this] at hr
      exact absurd hr (by simp)
  · have key : ∀ i : Fin 10, rlhas 11 i.val (14 + 5 * i.val) = true := by decide +kernel
    exact rw1 (key ⟨i, hi⟩)
  · have key : ∀ i : Fin 2, rlhas 12 i.val (64 + 5 * i.val) = true := by decide +kernel
    exact rw1 (key ⟨i, hi⟩)
  · have key : ∀ i : Fin 13, rlhas 98 i.val (102 + 2 * i.val) = true := by decide +kernel
    exact rw1 (key ⟨i, hi⟩)
  · have key : ∀ i : Fin 25, rlhas 136 i.val (137 + i.val) = true := by decide +kernel
    exact rw1 (key ⟨i, hi⟩)
theorem BB_vs (B : BB 163 105 13 1 13 e h0 h) {i : Nat} (hi : i < 13) : VS h (vad i) := by
  have vb := vad_b i
  have vt := vad_t hi
  obtain ⟨⟨b0, b1⟩, b2, b3, b4, b5, b6, b7, b8⟩ := B
  obtain ⟨v1, ⟨v2, v3, v4⟩, v5⟩ := (b5 i hi).2
  refine ⟨((b2 (vad i) (by omega)).1).trans vt.1.1, by omega, fun j hj => ?_, v1, v4⟩
  simp only [Bool.and_eq_true, Nat.blt_eq, Nat.ble_eq] at hj
  have q := b2 (vad i + j) (by omega)
  have q2 := vt.2 j hj.1 hj.2
  exact ⟨q.1.trans q2.1, q.2.trans q2.2⟩
theorem BB_frs (B : BB 163 105 13 1 13 e h0 h) : FRS h 74 85 := by
  have V := BB_vs B (i := 12) (by decide)
  obtain ⟨⟨b0, b1⟩, b2, b3, b4, b5, b6, b7, b8⟩ := B
  obtain ⟨p1, p2, p3, p4⟩ := (b6 rfl).2
  have key : ∀ j : Fin 11, 0 < j.val → bT (74 + j.val) = pst j.val ∧ bL (74 + j.val) = 24 := by decide
  refine ⟨⟨(b2 74 (by decide)).1, by omega, fun j hj => ?_, p1, p2⟩, V, fun j hj => ?_, p4, (b5 12 (by decide)).2.2.2⟩
  · simp only [Bool.and_eq_true, Nat.blt_eq, Nat.ble_eq] at hj
    have q := b2 (74 + j) (by omega)
    have q2 := key ⟨j, by omega⟩ hj.1
    exact ⟨q.1.trans q2.1, q.2.trans q2.2⟩
  · exact p3 0 (by decide) j
end CSTART4


