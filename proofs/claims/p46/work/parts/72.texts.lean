/-! The reference: a text is read. -/
section TEXTS
variable {I : Nat → Int} {len : Int} {h : zH} {s : PSt}
theorem comP_1 (kd : Int) (s : PSt) : (comP kd s).1 = s.1 ∧ (comP kd s).2.1 = s.2.1 := by
  obtain ⟨t, ⟨f, fa⟩, ⟨n, top, R, N⟩, row, sec, last⟩ := s
  exact ⟨rfl, rfl⟩
theorem advP_f (s : PSt) : (advP I len s).2.1 = s.2.1 := by
  obtain ⟨t, ⟨f, fa⟩, ⟨n, top, R, N⟩, row, sec, last⟩ := s
  rfl
end TEXTS

