/-! The reference: what expressions and conditions are worth. -/
/-- a formula stands at number q: of at most 30 nodes, and of one kind -/
def fmOk (N : Nat → Int) (q : Int) (b : Bool) : Prop := 0 ≤ N (31 * q).toNat ∧ N (31 * q).toNat ≤ 30 ∧ tyS (lst N q) = some [b]
theorem val_ok {l : List Int} {st : Int} {b : Bool} (ht : tyS l = some [b]) (h0 : 0 ≤ st) (h1 : st < 64) : evs st l = [val l st] ∧ 0 ≤ val l st ∧ val l st < 4 ∧ (b = true → val l st < 2) := by
  obtain ⟨v, R, e, h2, h3⟩ := vok_c (evs_ok h0 h1 ht)
  have h4 : R = [] := by
    cases R with
    | nil => rfl
    | cons _ _ => exact h3.elim
  subst h4
  have h5 : val l st = v := by unfold val; rw [e]; rfl
  rw [h5]
  exact ⟨e, h2⟩
