/-! Floats that are not negative. -/
def fpos (x : UInt32) : Prop := x.toNat ≤ 2139095040
theorem fpos_zn {x : UInt32} (h : fpos x) : zn32 x = true := by
  unfold zn32
  refine decide_eq_true ?_
  rw [UInt32.le_iff_toNat_le, UInt32.toNat_and]
  exact Nat.le_trans Nat.and_le_left h
theorem fpos_0 : fpos FP.fconst0 := by unfold fpos; decide
def dpos (x : UInt64) : Prop := x.toNat ≤ 9218868437227405312
theorem dpos_zn {x : UInt64} (h : dpos x) : zn64 x = true := by
  unfold zn64
  refine decide_eq_true ?_
  rw [UInt64.le_iff_toNat_le, UInt64.toNat_and]
  exact Nat.le_trans Nat.and_le_left h
theorem dpos_0 : dpos FP.dconst0 := by unfold dpos; decide
theorem fpos_of {x : UInt32} (h : FP.Core.val32 x ≠ .nan) (s : FP.Core.sgn (FP.Core.val32 x) = false) : fpos x := by
  have a := (FP.Core.ne_nan32 x).1 h
  have b := FP.Core.sgn_bits32 h
  rw [s] at b
  have c : ¬ 2 ^ 31 ≤ x.toNat := of_decide_eq_false b.symm
  unfold fpos
  omega
theorem fpos_to {x : UInt32} (h : fpos x) : FP.Core.val32 x ≠ .nan ∧ FP.Core.sgn (FP.Core.val32 x) = false := by
  unfold fpos at h
  have a := (FP.Core.ne_nan32 x).2 (by omega)
  exact ⟨a, (FP.Core.sgn_bits32 a).trans (decide_eq_false (by omega))⟩
theorem dpos_of {x : UInt64} (h : FP.Core.val64 x ≠ .nan) (s : FP.Core.sgn (FP.Core.val64 x) = false) : dpos x := by
  have a := (FP.Core.ne_nan x).1 h
  have b := FP.Core.sgn_bits h
  rw [s] at b
  have c : ¬ 2 ^ 63 ≤ x.toNat := of_decide_eq_false b.symm
  unfold dpos
  omega
theorem dpos_to {x : UInt64} (h : dpos x) : FP.Core.val64 x ≠ .nan ∧ FP.Core.sgn (FP.Core.val64 x) = false := by
  unfold dpos at h
  have a := (FP.Core.ne_nan x).2 (by omega)
  exact ⟨a, (FP.Core.sgn_bits a).trans (decide_eq_false (by omega))⟩
theorem rnd_p {f : FP.Core.Fmt} {d : FP.Core.Datum} (h : d ≠ .nan) (s : FP.Core.sgn d = false) : FP.Core.round f d ≠ .nan ∧ FP.Core.sgn (FP.Core.round f d) = false := by
  cases d with
  | nan => exact absurd rfl h
  | inf t => exact ⟨h, s⟩
  | fin t c q => exact ⟨FP.Core.roundRatio_ne_nan _ _ _ _ _, (FP.Core.sgn_roundRatio _ _ _ _ _).trans s⟩
theorem sum_p {x y : FP.Core.Datum} (hx : x ≠ .nan) (sx : FP.Core.sgn x = false) (hy : y ≠ .nan) (sy : FP.Core.sgn y = false) : FP.Core.exactSum x y ≠ .nan ∧ FP.Core.sgn (FP.Core.exactSum x y) = false := by
  cases x with
  | nan => exact absurd rfl hx
  | inf s =>
    cases y with
    | nan => exact absurd rfl hy
    | inf t =>
      have sx : s = false := sx
      have sy : t = false := sy
      subst sx sy
      exact ⟨by simp [FP.Core.exactSum], rfl⟩
    | fin t d r => exact ⟨by simp [FP.Core.exactSum], sx⟩
  | fin s c q =>
    cases y with
    | nan => exact absurd rfl hy
    | inf t => exact ⟨by simp [FP.Core.exactSum], sy⟩
    | fin t d r =>
      have sx : s = false := sx
      have sy : t = false := sy
      subst sx sy
      refine ⟨by simp [FP.Core.exactSum], ?_⟩
      show FP.Core.sumSign false false _ = false
      have sg : ∀ n : Nat, FP.Core.signed false n = (n : Int) := fun n => rfl
      unfold FP.Core.sumSign FP.Core.sumUnits
      rw [sg, sg]
      split
      · rfl
      · exact decide_eq_false (by omega)
/-- positive and not zero -/
def pnz : FP.Core.Datum → Bool
  | .fin s c _ => !s && decide (c ≠ 0)
  | _ => false
theorem quo_p {f : FP.Core.Fmt} {x y : FP.Core.Datum} (hx : x ≠ .nan) (sx : FP.Core.sgn x = false) (hy : pnz y = true) : FP.Core.quotient f x y ≠ .nan ∧ FP.Core.sgn (FP.Core.quotient f x y) = false := by
  cases y with
  | nan => exact absurd hy Bool.false_ne_true
  | inf t => exact absurd hy Bool.false_ne_true
  | fin t d r =>
    simp only [pnz, Bool.and_eq_true, Bool.not_eq_true', decide_eq_true_eq] at hy
    obtain ⟨rfl, hd⟩ := hy
    cases x with
    | nan => exact absurd rfl hx
    | inf s =>
      have sx : s = false := sx
      subst sx
      exact ⟨by simp [FP.Core.quotient], rfl⟩
    | fin s c q =>
      have sx : s = false := sx
      subst sx
      unfold FP.Core.quotient
      simp only
      rw [if_neg hd]
      exact ⟨FP.Core.roundRatio_ne_nan _ _ _ _ _, FP.Core.sgn_roundRatio _ _ _ _ _⟩
theorem fpos_add {x y : UInt32} (h : fpos x) (g : fpos y) : fpos (FP.fadd x y) := by
  obtain ⟨h1, h2⟩ := fpos_to h
  obtain ⟨g1, g2⟩ := fpos_to g
  obtain ⟨s1, s2⟩ := sum_p h1 h2 g1 g2
  obtain ⟨r1, r2⟩ := rnd_p (f := FP.Core.b32) s1 s2
  rw [← FP.Core.val32_fadd] at r1 r2
  exact fpos_of r1 r2
theorem fpos_div {x y : UInt32} (h : fpos x) (g : pnz (FP.Core.val32 y) = true) : fpos (FP.fdiv x y) := by
  obtain ⟨h1, h2⟩ := fpos_to h
  obtain ⟨s1, s2⟩ := quo_p (f := FP.Core.b32) h1 h2 g
  rw [← FP.Core.val32_fdiv] at s1 s2
  exact fpos_of s1 s2
theorem fpos_i2f {k : Int} (h0 : 0 ≤ k) (h1 : k ≤ 1000) : fpos (FP.i2f (Int32.ofInt k)) := by
  have e : (Int32.ofInt k).toInt = k := Int32.toInt_ofInt_of_le (by omega) (by omega)
  have v := FP.Core.val32_i2f (Int32.ofInt k)
  rw [e] at v
  have o : FP.Core.sgn (FP.Core.ofInt k) = false := decide_eq_false (by omega)
  obtain ⟨r1, r2⟩ := rnd_p (f := FP.Core.b32) (d := FP.Core.ofInt k) (by simp [FP.Core.ofInt]) o
  rw [← v] at r1 r2
  exact fpos_of r1 r2
theorem fpos_prc {p : Int} (h0 : 0 ≤ p) (h1 : p ≤ 99) : fpos (FP.fdiv (FP.i2f (Int32.ofInt p)) 1092616192) := fpos_div (fpos_i2f h0 (by omega)) (by decide +kernel)
theorem fpos_shr {k : Int} (h0 : 0 ≤ k) (h1 : k ≤ 64) : fpos (FP.fdiv (FP.i2f (Int32.ofInt k)) 1115684864) := fpos_div (fpos_i2f h0 (by omega)) (by decide +kernel)
theorem dpos_f2d {x : UInt32} (h : fpos x) : dpos (FP.f2d x) := by
  obtain ⟨h1, h2⟩ := fpos_to h
  unfold FP.f2d
  have n : FP.Core.fIsNaN x = false := (FP.Core.notNaN_iff32 x).2 h1
  rw [n, if_neg (by decide)]
  obtain ⟨r1, r2⟩ := rnd_p (f := FP.Core.b64) h1 h2
  rw [← FP.Core.val64_f2d] at r1 r2
  exact dpos_of r1 r2
theorem dpos_add {x y : UInt64} (h : dpos x) (g : dpos y) : dpos (FP.dadd x y) := by
  obtain ⟨h1, h2⟩ := dpos_to h
  obtain ⟨g1, g2⟩ := dpos_to g
  obtain ⟨s1, s2⟩ := sum_p h1 h2 g1 g2
  obtain ⟨r1, r2⟩ := rnd_p (f := FP.Core.b64) s1 s2
  rw [← FP.Core.val64_dadd] at r1 r2
  exact dpos_of r1 r2
theorem pnz_i2d : ∀ k : Fin 65, 1 ≤ k.val → pnz (FP.Core.val64 (FP.i2d (Int32.ofInt (k.val : Int)))) = true := by decide +kernel
theorem dpos_div {x : UInt64} (h : dpos x) {k : Int} (h0 : 1 ≤ k) (h1 : k ≤ 64) : dpos (FP.ddiv x (FP.i2d (Int32.ofInt k))) := by
  obtain ⟨h1', h2⟩ := dpos_to h
  have g := pnz_i2d ⟨k.toNat, by omega⟩ (by show 1 ≤ k.toNat; omega)
  rw [show (((⟨k.toNat, by omega⟩ : Fin 65).val : Nat) : Int) = k from by show ((k.toNat : Nat) : Int) = k; omega] at g
  obtain ⟨s1, s2⟩ := quo_p (f := FP.Core.b64) h1' h2 g
  rw [← FP.Core.val64_ddiv] at s1 s2
  exact dpos_of s1 s2

