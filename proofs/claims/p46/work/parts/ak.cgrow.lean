/-! The reference's side through runs of the class. -/
section CGROW
variable {h h2 : zH} {W : Nat → Nat → Prop} {d e : Nat} {p v : Nat} {n top : Int} {R N : Nat → Int}
theorem CB_g (B : CB h p v n R N) (G : Gw W d e h h2) (c : clW W) (k : ∀ a k, a < 163 → kcB a k = true → ¬ W a k) (wp : ∀ j k, j ≤ 10 → ¬ W (p + j) k) (wv : ∀ j k, j ≤ 4 → ¬ W (v + j) k) (x : nf W h) : CB h2 p v n R N := by
  obtain ⟨b1, b2, b3, b4, b5⟩ := B
  exact ⟨KC_g b1 G k, KS_g b2 G c, PO_g b3 G wp, PA_g b4 b3.1 G (fun k => wp 10 k (by decide)) x, VO_g b5 G wv x⟩
end CGROW

