/-! The reference: load, undo, slots, and all other changes. -/
section LOAD2
variable {I : Nat → Int} {len : Int}
/-- the answer of load, and what stands then -/
def aLoad (len : Int) : MSt → (Int × zV) × MSt
  | (n, top, R, N, c, Ol, s0, s1, I, m, O, ec, ep) => if 0 ≤ len ∧ len ≤ m then
      (if (txtP I len (begS I len 0 R)).2.1.1 = 0 then ((0, zI (txtP I len (begS I len 0 R)).2.2.1.1), ((txtP I len (begS I len 0 R)).2.2.1.1, (txtP I len (begS I len 0 R)).2.2.1.2.1, (txtP I len (begS I len 0 R)).2.2.1.2.2.1, (txtP I len (begS I len 0 R)).2.2.1.2.2.2, 0, Ol, none, none, I, 0, O, 0, -1))
       else ((2, zI 0), (n, top, R, N, c, Ol, s0, s1, I, 0, O, (txtP I len (begS I len 0 R)).2.1.1, (txtP I len (begS I len 0 R)).2.1.2)))
    else ((1, zI 0), (n, top, R, N, c, Ol, s0, s1, I, m, O, ec, ep))
theorem SS_load {σ : MSt} (S : SS σ) (len : Int) : SS (aLoad len σ).2 := by
  obtain ⟨n, top, R, N, c, Ol, s0, s1, I, m, O, ec, ep⟩ := σ
  obtain ⟨P, rz, nz, h4, h5, h6, hm⟩ := id S
  unfold aLoad
  simp only
  by_cases cl : 0 ≤ len ∧ len ≤ m
  · rw [if_pos cl]
    have ok := txtP_ok (I := I) (len := len) (fa := 0) (R := R) cl.1 (by omega) rz
    by_cases cf : (txtP I len (begS I len 0 R)).2.1.1 = 0
    · rw [if_pos cf]
      obtain ⟨z, ok2⟩ := ok
      generalize txtP I len (begS I len 0 R) = s at *
      obtain ⟨t, ⟨f, fa⟩, ⟨n2, top2, R2, N2⟩, row, sec, last⟩ := s
      exact ⟨(ok2 cf).2.2, z.1, z.2, ⟨by decide, fun i hi => absurd hi (Nat.not_lt_zero _)⟩, (fun N e => by cases e), (fun N e => by cases e), by decide⟩
    · rw [if_neg cf]
      exact ⟨P, rz, nz, h4, h5, h6, by decide⟩
  · rw [if_neg cl]
    exact S
end LOAD2

