/-! The reference: its whole state; texts loaded. -/
section STATE
variable {I : Nat → Int} {len : Int}
/-- statements (count, first, rows, formulas), changes (count, formulas), slots, input (bytes, count), output, error and its place -/
abbrev MSt : Type := Int × Int × (Nat → Int) × (Nat → Int) × Nat × (Nat → Nat → Int) × Option (Nat → Int) × Option (Nat → Int) × (Nat → Int) × Int × List Int × Int × Int
def SS : MSt → Prop
  | (n, top, R, N, c, Ol, s0, s1, _, m, _, _, _) => Prg n top R N ∧ RZ R ∧ NZ N ∧ (c ≤ 10 ∧ ∀ i, i < c → Prg n top R (Ol i) ∧ NZ (Ol i)) ∧ (∀ N2, s0 = some N2 → Prg n top R N2 ∧ NZ N2) ∧ (∀ N2, s1 = some N2 → Prg n top R N2 ∧ NZ N2) ∧ (0 ≤ m ∧ m ≤ 800)
end STATE

