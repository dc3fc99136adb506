/-! The reference's side through runs of the class. -/
section CGROW
variable {h h2 : zH} {W : Nat → Nat → Prop} {d e : Nat} {p v : Nat} {n top : Int} {R N : Nat → Int}
theorem m_same (K : KM h) (G : Gw W d e h h2) (c : clW W) {a : Nat} (a0 : 163 ≤ a) (a1 : a < 197) : hI h2 a = hI h a := grI G (Or.inl (by have := K.1; omega)) (fun k z => by have := c a k z; omega)
theorem MB_g (M : MB n top R N h) (G : Gw W d e h h2) (c : clW W) : MB n top R N h2 := by
  obtain ⟨m1, m2, m3, m4, m5⟩ := M
  have s := fun {a : Nat} (a0 : 163 ≤ a) (a1 : a < 197) => m_same m1 G c a0 a1
  exact ⟨KM_g m1 G c, by rw [s (a := 177) (by decide) (by decide)]; exact m2, by rw [s (a := 177) (by decide) (by decide)]; exact m3, (s (a := 183) (by decide) (by decide)).trans m4, (s (a := 179) (by decide) (by decide)).trans m5⟩
theorem MM_g {σ : MSt} (M : MM h σ) (G : Gw W d e h h2) (c : clW W) : MM h2 σ := by
  obtain ⟨n, top, R, N, cc, Ol, s0, s1, I, m, O, ec, ep⟩ := σ
  obtain ⟨m1, ⟨m2, m3⟩, ⟨m4, m5, m6⟩, ⟨m7, m8⟩, m9, m10, m11⟩ := M
  have K := m1.1
  have s := fun {a : Nat} (a0 : 163 ≤ a) (a1 : a < 197) => m_same K G c a0 a1
  have s177 := s (a := 177) (by decide) (by decide)
  refine ⟨MB_g m1 G c, ⟨by rw [s177]; exact m2, ?_⟩, ⟨by rw [s177]; exact m4, ?_, ?_⟩, ⟨(s (a := 185) (by decide) (by decide)).trans m7, by rw [s177]; exact m8⟩, ?_, by rw [s177]; exact m10, by rw [s177]; exact m11⟩
  · rw [s (a := 181) (by decide) (by decide)]; exact m3
  · unfold svB; rw [s (a := 182) (by decide) (by decide)]; exact m5
  · unfold svB; rw [s (a := 182) (by decide) (by decide)]; exact m6
  · unfold OU at m9 ⊢
    rw [s177, s (a := 186) (by decide) (by decide)]
    exact m9
theorem CB_g (B : CB h p v n R N) (G : Gw W d e h h2) (c : clW W) (k : ∀ a k, a < 163 → kcB a k = true → ¬ W a k) (wp : ∀ j k, j ≤ 10 → ¬ W (p + j) k) (wv : ∀ j k, j ≤ 4 → ¬ W (v + j) k) (x : nf W h) : CB h2 p v n R N := by
  obtain ⟨b1, b2, b3, b4, b5⟩ := B
  exact ⟨KC_g b1 G k, KS_g b2 G c, PO_g b3 G wp, PA_g b4 b3.1 G (fun k => wp 10 k (by decide)) x, VO_g b5 G wv x⟩
end CGROW
