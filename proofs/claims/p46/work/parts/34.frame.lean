/-! What a run leaves as it was. -/
abbrev FA : Type := List (Nat × Option Nat)
def inB (x : Nat × Option Nat) (a k : Nat) : Bool := Nat.beq x.1 a && (match x.2 with | none => true | some j => Nat.beq j k)
def inA (A : FA) (a k : Nat) : Bool := A.any fun x => inB x a k
def Fr (A : FA) (h h2 : zH) : Prop := hN h2 = hN h ∧ hU h2 = hU h ∧ hT h2 = hT h ∧ hL h2 = hL h ∧ ∀ a k, inA A a k = false → hR h2 a k = hR h a k ∧ hI h2 a k = hI h a k ∧ hJ h2 a k = hJ h a k ∧ hF h2 a k = hF h a k ∧ hD h2 a k = hD h a k
theorem Fr_r (A : FA) (h : zH) : Fr A h h := ⟨rfl, rfl, rfl, rfl, fun _ _ _ => ⟨rfl, rfl, rfl, rfl, rfl⟩⟩
theorem Fr_t {A : FA} {h h2 h3 : zH} (F : Fr A h h2) (G : Fr A h2 h3) : Fr A h h3 := by
  obtain ⟨a1, a2, a3, a4, a5⟩ := F
  obtain ⟨b1, b2, b3, b4, b5⟩ := G
  refine ⟨b1.trans a1, b2.trans a2, b3.trans a3, b4.trans a4, fun a k e => ?_⟩
  obtain ⟨c1, c2, c3, c4, c5⟩ := a5 a k e
  obtain ⟨d1, d2, d3, d4, d5⟩ := b5 a k e
  exact ⟨d1.trans c1, d2.trans c2, d3.trans c3, d4.trans c4, d5.trans c5⟩
def subB (x y : Nat × Option Nat) : Bool := Nat.beq x.1 y.1 && (match y.2 with | none => true | some j => (match x.2 with | none => false | some i => Nat.beq i j))
def subA (A B : FA) : Bool := A.all fun x => B.any fun y => subB x y
theorem subB_in {x y : Nat × Option Nat} {a k : Nat} (h : subB x y = true) (e : inB x a k = true) : inB y a k = true := by
  obtain ⟨xa, xk⟩ := x
  obtain ⟨ya, yk⟩ := y
  simp only [subB, inB, Bool.and_eq_true, Nat.beq_eq] at *
  obtain ⟨h1, h2⟩ := h
  obtain ⟨e1, e2⟩ := e
  refine ⟨h1.symm.trans e1, ?_⟩
  cases yk with
  | none => rfl
  | some j =>
    cases xk with
    | none => simp at h2
    | some i => simp only [Nat.beq_eq] at *; exact h2.symm.trans e2
theorem subA_in {A B : FA} {a k : Nat} (h : subA A B = true) (e : inA A a k = true) : inA B a k = true := by
  simp only [inA, subA, List.any_eq_true, List.all_eq_true] at *
  obtain ⟨x, hx, e1⟩ := e
  obtain ⟨y, hy, e2⟩ := h x hx
  exact ⟨y, hy, subB_in e2 e1⟩
theorem Fr_m {A B : FA} {h h2 : zH} (F : Fr A h h2) (e : subA A B = true) : Fr B h h2 :=
  ⟨F.1, F.2.1, F.2.2.1, F.2.2.2.1, fun a k e2 => F.2.2.2.2 a k (by cases g : inA A a k with | false => rfl | true => rw [subA_in e g] at e2; cases e2)⟩
theorem inA_h {A : FA} {a k : Nat} (h : inA A a k = true) {b j : Nat} (e : inA A b j = false) : ¬ (b = a ∧ j = k) := fun ⟨e1, e2⟩ => by rw [e1, e2, h] at e; cases e
theorem Fr_I {A : FA} {h h2 : zH} {a k : Nat} {v : Int} (F : Fr A h h2) (e : inA A a k = true) : Fr A h (sI h2 a k v) :=
  Fr_t F ⟨rfl, rfl, rfl, rfl, fun b j e2 => ⟨rfl, zup_n _ _ _ _ _ _ (inA_h e e2), rfl, rfl, rfl⟩⟩
theorem Fr_J {A : FA} {h h2 : zH} {a k : Nat} {v : BitVec 64} (F : Fr A h h2) (e : inA A a k = true) : Fr A h (sJ h2 a k v) :=
  Fr_t F ⟨rfl, rfl, rfl, rfl, fun b j e2 => ⟨rfl, rfl, zup_n _ _ _ _ _ _ (inA_h e e2), rfl, rfl⟩⟩
theorem Fr_F {A : FA} {h h2 : zH} {a k : Nat} {v : UInt32} (F : Fr A h h2) (e : inA A a k = true) : Fr A h (sF h2 a k v) :=
  Fr_t F ⟨rfl, rfl, rfl, rfl, fun b j e2 => ⟨rfl, rfl, rfl, zup_n _ _ _ _ _ _ (inA_h e e2), rfl⟩⟩
theorem Fr_D {A : FA} {h h2 : zH} {a k : Nat} {v : UInt64} (F : Fr A h h2) (e : inA A a k = true) : Fr A h (sD h2 a k v) :=
  Fr_t F ⟨rfl, rfl, rfl, rfl, fun b j e2 => ⟨rfl, rfl, rfl, rfl, zup_n _ _ _ _ _ _ (inA_h e e2)⟩⟩
theorem Fr_R {A : FA} {h h2 : zH} {a k : Nat} {v : Option Nat} (F : Fr A h h2) (e : inA A a k = true) : Fr A h (sR h2 a k v) :=
  Fr_t F ⟨rfl, rfl, rfl, rfl, fun b j e2 => ⟨zup_n _ _ _ _ _ _ (inA_h e e2), rfl, rfl, rfl, rfl⟩⟩
section FRZ
variable {A : FA} {h h2 : zH}
theorem fR (F : Fr A h h2) (a k : Nat) (e : inA A a k = false) : hR h2 a k = hR h a k := (F.2.2.2.2 a k e).1
theorem fI (F : Fr A h h2) (a k : Nat) (e : inA A a k = false) : hI h2 a k = hI h a k := (F.2.2.2.2 a k e).2.1
theorem fJ (F : Fr A h h2) (a k : Nat) (e : inA A a k = false) : hJ h2 a k = hJ h a k := (F.2.2.2.2 a k e).2.2.1
theorem fF (F : Fr A h h2) (a k : Nat) (e : inA A a k = false) : hF h2 a k = hF h a k := (F.2.2.2.2 a k e).2.2.2.1
theorem fD (F : Fr A h h2) (a k : Nat) (e : inA A a k = false) : hD h2 a k = hD h a k := (F.2.2.2.2 a k e).2.2.2.2
def rowA (A : FA) (a : Nat) : Bool := A.all fun x => !Nat.beq x.1 a
theorem rowA_in {a : Nat} (e : rowA A a = true) (k : Nat) : inA A a k = false := by
  simp only [rowA, List.all_eq_true, inA] at *
  rw [List.any_eq_false]
  intro x hx g
  have h1 := e x hx
  simp only [inB, Bool.and_eq_true] at g
  rw [g.1] at h1
  cases h1
theorem rI (F : Fr A h h2) (a : Nat) (e : rowA A a = true) : hI h2 a = hI h a := funext fun k => fI F a k (rowA_in e k)
theorem rJ (F : Fr A h h2) (a : Nat) (e : rowA A a = true) : hJ h2 a = hJ h a := funext fun k => fJ F a k (rowA_in e k)
theorem rR (F : Fr A h h2) (a : Nat) (e : rowA A a = true) : hR h2 a = hR h a := funext fun k => fR F a k (rowA_in e k)
def cSp (a : Nat) : Bool := Nat.beq a 11 || Nat.beq a 12 || Nat.beq a 98 || Nat.beq a 136 || (Nat.ble 103 a && Nat.ble a 127 && Nat.beq (a % 2) 1)
def okc (x : Nat × Option Nat) : Bool := !cSp x.1 && (match x.2 with | none => (List.range 16).all fun k => (cR x.1 k).isNone | some k => (cR x.1 k).isNone)
def okC (A : FA) : Bool := A.all okc
theorem cR_k {a k b : Nat} (e : cR a k = some b) : k < 16 := by
  unfold cR at e
  cases hc : (Nat.blt a 163 && Nat.blt k 16) with
  | false => rw [hc] at e; cases e
  | true =>
    simp only [Bool.and_eq_true, Nat.blt_eq] at hc
    exact hc.2
theorem okC_R (e : okC A = true) {a k b : Nat} (hr : cR a k = some b) : inA A a k = false := by
  cases g : inA A a k with
  | false => rfl
  | true =>
    simp only [inA, okC, List.any_eq_true, List.all_eq_true] at *
    obtain ⟨x, hx, e1⟩ := g
    have e2 := e x hx
    obtain ⟨xa, xk⟩ := x
    simp only [inB, okc, Bool.and_eq_true, Nat.beq_eq] at *
    obtain ⟨e3, e4⟩ := e1
    subst e3
    cases xk with
    | none =>
      have e5 := e2.2
      simp only [List.all_eq_true] at e5
      have e6 := e5 k (List.mem_range.2 (cR_k hr))
      rw [hr] at e6; cases e6
    | some j =>
      simp only [Nat.beq_eq] at e4
      subst e4
      have e5 := e2.2
      simp only at e5
      rw [hr] at e5; cases e5
theorem okC_s (e : okC A = true) {a : Nat} (hs : cSp a = true) (k : Nat) : inA A a k = false := by
  cases g : inA A a k with
  | false => rfl
  | true =>
    simp only [inA, okC, List.any_eq_true, List.all_eq_true] at *
    obtain ⟨x, hx, e1⟩ := g
    have e2 := e x hx
    obtain ⟨xa, xk⟩ := x
    simp only [inB, okc, Bool.and_eq_true, Nat.beq_eq] at *
    rw [e1.1, hs] at e2
    cases e2.1
theorem KC_f (K : KC h) (F : Fr A h h2) (e : okC A = true) : KC h2 := by
  obtain ⟨k1, k2, k3, k4, k5, k6, k7, k8⟩ := K
  refine ⟨F.1 ▸ k1, fun a ha => by rw [F.2.2.1, F.2.2.2.1]; exact k2 a ha, fun a k b hb => by rw [fR F a k (okC_R e hb)]; exact k3 a k b hb, ?_, ?_, ?_, ?_, ?_⟩
  · intro i hi; rw [fR F 11 i (okC_s e rfl i)]; exact k4 i hi
  · intro i hi; rw [fR F 12 i (okC_s e rfl i)]; exact k5 i hi
  · intro i hi; rw [fR F 98 i (okC_s e rfl i)]; exact k6 i hi
  · intro i hi; rw [fR F 136 i (okC_s e rfl i)]; exact k7 i hi
  · intro i j hi
    rw [fI F (103 + 2 * i) j (okC_s e ((show ∀ m : Fin 13, cSp (103 + 2 * m.val) = true by decide) ⟨i, hi⟩) j)]
    exact k8 i j hi
def okm (x : Nat × Option Nat) : Bool := !Nat.beq x.1 178 && (match x.2 with | none => !Nat.beq x.1 177 | some k => (mR x.1 k).isNone)
def okM (A : FA) : Bool := A.all okm
theorem mR_a {a k b : Nat} (e : mR a k = some b) : a = 177 := by
  unfold mR at e
  cases hc : (Nat.blt a 197 && Nat.blt k 47) with
  | false => rw [hc] at e; cases e
  | true =>
    rw [hc] at e
    simp only [cond_true] at e
    cases hb : Nat.beq a 177 with
    | false => rw [hb] at e; cases e
    | true => exact Nat.eq_of_beq_eq_true hb
theorem okM_R (e : okM A = true) {a k b : Nat} (hr : mR a k = some b) : inA A a k = false := by
  cases g : inA A a k with
  | false => rfl
  | true =>
    simp only [inA, okM, List.any_eq_true, List.all_eq_true] at *
    obtain ⟨x, hx, e1⟩ := g
    have e2 := e x hx
    obtain ⟨xa, xk⟩ := x
    simp only [inB, okm, Bool.and_eq_true, Nat.beq_eq] at *
    obtain ⟨e3, e4⟩ := e1
    subst e3
    cases xk with
    | none =>
      have e5 := e2.2
      rw [mR_a hr] at e5
      cases e5
    | some j =>
      simp only [Nat.beq_eq] at e4
      subst e4
      have e5 := e2.2
      simp only at e5
      rw [hr] at e5; cases e5
theorem okM_s (e : okM A = true) (k : Nat) : inA A 178 k = false := by
  cases g : inA A 178 k with
  | false => rfl
  | true =>
    simp only [inA, okM, List.any_eq_true, List.all_eq_true] at *
    obtain ⟨x, hx, e1⟩ := g
    have e2 := e x hx
    obtain ⟨xa, xk⟩ := x
    simp only [inB, okm, Bool.and_eq_true, Nat.beq_eq] at *
    rw [e1.1] at e2
    cases e2.1
theorem KS_f (K : KS h) (F : Fr A h h2) (e : (A.all fun x => Nat.blt x.1 9000000) = true) : KS h2 := by
  intro a ha
  have h1 : ∀ k, inA A a k = false := fun k => by
    cases g : inA A a k with
    | false => rfl
    | true =>
      simp only [inA, List.any_eq_true, List.all_eq_true] at *
      obtain ⟨x, hx, e1⟩ := g
      have e2 := e x hx
      simp only [inB, Bool.and_eq_true, Nat.beq_eq, Nat.blt_eq] at *
      have h3 : (10000000 : Nat) < a := ha
      omega
  obtain ⟨k1, k2, k3, k4⟩ := K a ha
  exact ⟨by rw [F.2.2.1]; exact k1, by rw [F.2.2.2.1]; exact k2, by rw [← k3]; exact funext fun k => fI F a k (h1 k), by rw [← k4]; exact funext fun k => fJ F a k (h1 k)⟩
end FRZ

