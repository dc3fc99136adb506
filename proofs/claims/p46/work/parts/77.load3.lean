/-! The reference: changes. -/
section LOAD3
variable {I : Nat → Int} {len : Int}
/-- one more change -/
def psh (N : Nat → Int) (Ol : Nat → Nat → Int) : Nat → Nat → Int
  | 0 => N
  | i + 1 => Ol i
def psc (c : Nat) : Nat := if c = 10 then 10 else c + 1
/-- a change of the formulas is remembered; the new ones stand -/
def chg (N2 : Nat → Int) : MSt → MSt
  | (n, top, R, N, c, Ol, s0, s1, I, m, O, ec, ep) => (n, top, R, N2, psc c, psh N Ol, s0, s1, I, m, O, ec, ep)
theorem SS_chg {σ : MSt} (S : SS σ) {N2 : Nat → Int} (P2 : Prg σ.1 σ.2.1 σ.2.2.1 N2) (nz2 : NZ N2) : SS (chg N2 σ) := by
  obtain ⟨n, top, R, N, c, Ol, s0, s1, I, m, O, ec, ep⟩ := σ
  obtain ⟨P, rz, nz, h4, h5, h6, hm⟩ := id S
  refine ⟨P2, rz, nz2, ⟨?_, fun i hi => ?_⟩, h5, h6, hm⟩
  · unfold psc; split <;> omega
  · cases i with
    | zero => exact ⟨P, nz⟩
    | succ i => exact h4.2 i (by unfold psc at hi; split at hi <;> omega)
def nfC (n top : Int) (R N : Nat → Int) : Int := nfS n top R N (TT n R N) (NN n R N)
def aFill (l f : Int) (σ : MSt) : (Int × zV) × MSt :=
  if lpAt σ.1 σ.2.2.1 3 l = -1 then ((1, zI 0), σ) else if -1 ≤ f ∧ f ≤ 38 then ((0, zI (nfC σ.1 σ.2.1 σ.2.2.1 (upN σ.2.2.2.1 (2294 + lpAt σ.1 σ.2.2.1 3 l).toNat f))), chg (upN σ.2.2.2.1 (2294 + lpAt σ.1 σ.2.2.1 3 l).toNat f) σ) else ((2, zI 0), σ)
theorem SS_P {σ : MSt} (S : SS σ) : Prg σ.1 σ.2.1 σ.2.2.1 σ.2.2.2.1 := by
  obtain ⟨n, top, R, N, c, Ol, s0, s1, I, m, O, ec, ep⟩ := σ
  exact S.1
theorem SS_Z {σ : MSt} (S : SS σ) : NZ σ.2.2.2.1 := by
  obtain ⟨n, top, R, N, c, Ol, s0, s1, I, m, O, ec, ep⟩ := σ
  exact S.2.2.1
theorem NZ_up2 {N : Nat → Int} (H : NZ N) {i v : Int} (h : i < 2342) (h0 : 0 ≤ i) : NZ (upN N i.toNat v) := NZ_up H (by omega)
theorem SS_fill {σ : MSt} (S : SS σ) (l f : Int) : SS (aFill l f σ).2 := by
  have P := SS_P S
  have w0 := P.1.1
  unfold aFill
  rcases lpAt_c P (Or.inr rfl) l with ⟨_, ⟨l0, l1⟩, lk⟩ | ⟨_, ln⟩
  · rw [if_neg (by omega)]
    by_cases cf : -1 ≤ f ∧ f ≤ 38
    · rw [if_pos cf]
      exact SS_chg S (Prg_fill P l0 l1 lk cf.1 cf.2) (NZ_up2 (SS_Z S) (by omega) (by omega))
    · rw [if_neg cf]; exact S
  · rw [if_pos ln]; exact S
/-- another price -/
theorem Prg_price {n top : Int} {R N : Nat → Int} (P : Prg n top R N) {s x : Int} (h0 : 0 ≤ s) (h1 : s < n) (hx : 0 ≤ x) (hx2 : x ≤ 99) : Prg n top R (upN N (2318 + s).toNat x) := by
  obtain ⟨w, v, u, t⟩ := P
  have w0 := w.1
  refine ⟨w, ⟨fmOk_up (by omega) (by omega) v.1, fmOk_up (by omega) (by omega) v.2.1, fun c c0 c1 => ?_⟩, u, t⟩
  have vc := v.2.2 c c0 c1
  refine ⟨fun k => fmOk_up (by omega) (by omega) (vc.1 k), fun k => fmOk_up (by omega) (by omega) (vc.2.1 k), fun k => ⟨fmOk_up (by omega) (by omega) (vc.2.2.1 k).1, fmOk_up (by omega) (by omega) (vc.2.2.1 k).2.1, fmOk_up (by omega) (by omega) (vc.2.2.1 k).2.2⟩, fun k => ?_, ?_⟩
  · rw [upN_n _ _ (by omega)]; exact vc.2.2.2.1 k
  · by_cases e : c = s
    · subst e; rw [upN_s]; exact ⟨hx, hx2⟩
    · rw [upN_n _ _ (by omega)]; exact vc.2.2.2.2
def aSetPrice (s x : Int) (σ : MSt) : (Int × zV) × MSt :=
  if 0 ≤ s ∧ s < σ.1 then (if 0 ≤ x ∧ x ≤ 99 then ((0, zI (σ.2.2.2.1 (2318 + s).toNat)), chg (upN σ.2.2.2.1 (2318 + s).toNat x) σ) else ((2, zI 0), σ)) else ((1, zI 0), σ)
theorem SS_setPrice {σ : MSt} (S : SS σ) (s x : Int) : SS (aSetPrice s x σ).2 := by
  have P := SS_P S
  have w0 := P.1.1
  unfold aSetPrice
  by_cases cs : 0 ≤ s ∧ s < σ.1
  · rw [if_pos cs]
    by_cases cx : 0 ≤ x ∧ x ≤ 99
    · rw [if_pos cx]
      exact SS_chg S (Prg_price P cs.1 cs.2 cx.1 cx.2) (NZ_up2 (SS_Z S) (by omega) (by omega))
    · rw [if_neg cx]; exact S
  · rw [if_neg cs]; exact S
end LOAD3

