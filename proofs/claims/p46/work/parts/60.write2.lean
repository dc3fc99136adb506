/-! The reference: needs as conditions, written. -/
section WRITE2
variable {n top : Int} {R N : Nat → Int}
theorem upto_cons (f : Nat → Int) (b : Nat) : ∀ (k : Nat), upto f b (k + 1) [] = f b :: upto f (b + 1) k []
  | 0 => rfl
  | k + 1 => by
    show upto f b (k + 1) [f (b + (k + 1))] = _
    rw [upto_app, upto_cons f b k]
    show _ = f b :: upto f (b + 1) k [f (b + 1 + k)]
    rw [upto_app f (b + 1) k [f (b + 1 + k)], show b + 1 + k = b + (k + 1) by omega]
    rfl
/-- a row of nodes in cells -/
def isR (A : Nat → Int) (c : Int) (b : Nat) (d : DO) : Prop := match d with | none => c = -1 | some l => 0 ≤ c ∧ c ≤ 200 ∧ l = upto A b c.toNat []
theorem isR_len {A : Nat → Int} {c : Int} {b : Nat} {l : List Int} (h : isR A c b (some l)) : c = l.length := by
  obtain ⟨h1, h2, h3⟩ := h
  have h4 := upto_len A b c.toNat []
  rw [← h3] at h4
  simp only [List.length_nil] at h4
  omega
end WRITE2

