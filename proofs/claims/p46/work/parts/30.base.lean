/-! Layer 2: runs of the small machine in straight pieces: what the pieces are made of; the cells that stay as the constructors laid them. -/
noncomputable def zC (q : Nat) (as : List zV) (h : zH) : zO := zY q 0 (zini as (zmaxl q)) [] h
theorem gd_c {α : Type} {p p2 : Prop} [Decidable p] [Decidable p2] {k k2 : Option α} (hp : p ↔ p2) (hk : p2 → k = k2) : gd p k = gd p2 k2 := by
  unfold gd
  by_cases h : p
  · rw [if_pos h, if_pos (hp.1 h), hk (hp.1 h)]
  · rw [if_neg h, if_neg (fun e => h (hp.2 e))]
theorem iteC {c : Prop} [Decidable c] {A B A2 B2 : zO} (h1 : c → A = A2) (h2 : ¬ c → B = B2) : (if c then A else B) = if c then A2 else B2 := by
  by_cases h : c
  · rw [if_pos h, if_pos h, h1 h]
  · rw [if_neg h, if_neg h, h2 h]
theorem iteB {b : Prop} [Decidable b] {A B A2 B2 : zO} (h1 : b → B = B2) (h2 : ¬ b → A = A2) : (if (if b then (1 : Int) else 0) = 0 then A else B) = if b then B2 else A2 := by
  by_cases h : b
  · rw [if_pos h, if_pos h, if_neg (by decide), h1 h]
  · rw [if_neg h, if_neg h, if_pos rfl, h2 h]
theorem zlcmp_0 (x y : BitVec 64) : zlcmp x y = 0 ↔ x = y := by
  unfold zlcmp
  by_cases h : x = y
  · simp [h]
  · rw [if_neg h]
    by_cases g : x.slt y <;> simp [h, g]
theorem iteL {x y : BitVec 64} {A B A2 B2 : zO} (h1 : x = y → A = A2) (h2 : ¬ x = y → B = B2) : (if zlcmp x y = 0 then A else B) = if x = y then A2 else B2 := by
  by_cases h : x = y
  · rw [if_pos h, if_pos ((zlcmp_0 x y).2 h), h1 h]
  · rw [if_neg h, if_neg (fun e => h ((zlcmp_0 x y).1 e)), h2 h]
theorem ite_x {c : Prop} [Decidable c] {A B R : zO} (h1 : c → A = R) (h2 : ¬ c → B = R) : (if c then A else B) = R := by
  by_cases h : c
  · rw [if_pos h, h1 h]
  · rw [if_neg h, h2 h]
theorem iteB_x {b : Prop} [Decidable b] {A B R : zO} (h1 : b → B = R) (h2 : ¬ b → A = R) : (if (if b then (1 : Int) else 0) = 0 then A else B) = R := by
  by_cases h : b
  · rw [if_pos h, if_neg (by decide), h1 h]
  · rw [if_neg h, if_pos rfl, h2 h]
theorem iteL_x {x y : BitVec 64} {A B R : zO} (h1 : x = y → A = R) (h2 : ¬ x = y → B = R) : (if zlcmp x y = 0 then A else B) = R := by
  by_cases h : x = y
  · rw [if_pos ((zlcmp_0 x y).2 h), h1 h]
  · rw [if_neg (fun e => h ((zlcmp_0 x y).1 e)), h2 h]
theorem ite_p {c : Prop} [Decidable c] {A B R : zO} (h : c) (h1 : A = R) : (if c then A else B) = R := by rw [if_pos h, h1]
theorem ite_n {c : Prop} [Decidable c] {A B R : zO} (h : ¬ c) (h1 : B = R) : (if c then A else B) = R := by rw [if_neg h, h1]
theorem iteB_p {b : Prop} [Decidable b] {A B R : zO} (h : b) (h1 : B = R) : (if (if b then (1 : Int) else 0) = 0 then A else B) = R := by rw [if_pos h, if_neg (by decide), h1]
theorem iteB_n {b : Prop} [Decidable b] {A B R : zO} (h : ¬ b) (h1 : A = R) : (if (if b then (1 : Int) else 0) = 0 then A else B) = R := by rw [if_neg h, if_pos rfl, h1]
theorem iteL_p {x y : BitVec 64} {A B R : zO} (h : x = y) (h1 : A = R) : (if zlcmp x y = 0 then A else B) = R := by rw [if_pos ((zlcmp_0 x y).2 h), h1]
theorem iteL_n {x y : BitVec 64} {A B R : zO} (h : ¬ x = y) (h1 : B = R) : (if zlcmp x y = 0 then A else B) = R := by rw [if_neg (fun e => h ((zlcmp_0 x y).1 e)), h1]
theorem iteCF {α : Type} (F : α → zO) {c : Prop} [Decidable c] {A B : zO} {a b : α} (h1 : c → A = F a) (h2 : ¬ c → B = F b) : (if c then A else B) = F (if c then a else b) := by
  by_cases h : c
  · rw [if_pos h, if_pos h, h1 h]
  · rw [if_neg h, if_neg h, h2 h]
theorem iteBF {α : Type} (F : α → zO) {c : Prop} [Decidable c] {A B : zO} {a b : α} (h1 : c → B = F a) (h2 : ¬ c → A = F b) : (if (if c then (1 : Int) else 0) = 0 then A else B) = F (if c then a else b) := by
  by_cases h : c
  · rw [if_pos h, if_pos h, if_neg (by decide), h1 h]
  · rw [if_neg h, if_neg h, if_pos rfl, h2 h]
theorem iteLF {α : Type} (F : α → zO) {x y : BitVec 64} {A B : zO} {a b : α} (h1 : x = y → A = F a) (h2 : ¬ x = y → B = F b) : (if zlcmp x y = 0 then A else B) = F (if x = y then a else b) := by
  by_cases h : x = y
  · rw [if_pos ((zlcmp_0 x y).2 h), if_pos h, h1 h]
  · rw [if_neg (fun e => h ((zlcmp_0 x y).1 e)), if_neg h, h2 h]
theorem zBack_ite {Y : Nat → Nat → zL → List zV → zH → zO} {m pcc pc : Nat} {L : zL} {S : List zV} {c : Prop} [Decidable c] {A B : zO} : zBack Y m pcc pc L S (if c then A else B) = if c then zBack Y m pcc pc L S A else zBack Y m pcc pc L S B := by
  by_cases h : c
  · rw [if_pos h, if_pos h]
  · rw [if_neg h, if_neg h]
theorem zBack_gd {Y : Nat → Nat → zL → List zV → zH → zO} {m pcc pc : Nat} {L : zL} {S : List zV} {c : Prop} [Decidable c] {A : zO} : zBack Y m pcc pc L S (gd c A) = gd c (zBack Y m pcc pc L S A) := by
  unfold gd
  by_cases h : c
  · rw [if_pos h, if_pos h]
  · rw [if_neg h, if_neg h]; rfl
theorem ci {h : zH} {a t : Nat} {i n : Int} (T : hT h a = t) (Ln : ((hL h a : Nat) : Int) = n) : zok h (some a) t i ↔ (0 ≤ i ∧ i < n) := by
  subst Ln
  exact ⟨fun e => e.2.2, fun e => ⟨rfl, T, e⟩⟩
theorem ciw {h : zH} {a t : Nat} {i n : Int} (T : hT h a = t) (N : a < hN h) (Ln : ((hL h a : Nat) : Int) = n) : zokw h (some a) t i ↔ (0 ≤ i ∧ i < n) := by
  subst Ln
  exact ⟨fun e => e.2.2.2, fun e => ⟨rfl, T, N, e⟩⟩
theorem cib21 {h : zH} {a : Nat} {i n : Int} (T : hT h a = 21) (N : a < hN h) (Ln : ((hL h a : Nat) : Int) = n) : (zokw h (some a) 21 i ∨ zokw h (some a) 20 i) ↔ (0 ≤ i ∧ i < n) :=
  ⟨fun e => e.elim (ciw T N Ln).1 fun e => absurd (T.symm.trans e.2.1) (by decide), fun e => Or.inl ((ciw T N Ln).2 e)⟩
theorem cib20 {h : zH} {a : Nat} {i n : Int} (T : hT h a = 20) (N : a < hN h) (Ln : ((hL h a : Nat) : Int) = n) : (zokw h (some a) 21 i ∨ zokw h (some a) 20 i) ↔ (0 ≤ i ∧ i < n) :=
  ⟨fun e => e.elim (fun e => absurd (T.symm.trans e.2.1) (by decide)) (ciw T N Ln).1, fun e => Or.inr ((ciw T N Ln).2 e)⟩
theorem cia {h : zH} {a t : Nat} {i n : Int} (ht : t = 25 ∨ t = 26 ∨ t = 27) (T : hT h a = t) (N : a < hN h) (Ln : ((hL h a : Nat) : Int) = n) : (zokw h (some a) 25 i ∨ zokw h (some a) 26 i ∨ zokw h (some a) 27 i) ↔ (0 ≤ i ∧ i < n) := by
  subst Ln
  constructor
  · rintro (e | e | e) <;> exact e.2.2.2
  · intro e
    rcases ht with rfl | rfl | rfl
    · exact Or.inl ⟨rfl, T, N, e⟩
    · exact Or.inr (Or.inl ⟨rfl, T, N, e⟩)
    · exact Or.inr (Or.inr ⟨rfl, T, N, e⟩)
theorem cia25 {h : zH} {a : Nat} {i n : Int} (T : hT h a = 25) (N : a < hN h) (Ln : ((hL h a : Nat) : Int) = n) : (zokw h (some a) 25 i ∨ zokw h (some a) 26 i ∨ zokw h (some a) 27 i) ↔ (0 ≤ i ∧ i < n) := cia (Or.inl rfl) T N Ln
theorem cia26 {h : zH} {a : Nat} {i n : Int} (T : hT h a = 26) (N : a < hN h) (Ln : ((hL h a : Nat) : Int) = n) : (zokw h (some a) 25 i ∨ zokw h (some a) 26 i ∨ zokw h (some a) 27 i) ↔ (0 ≤ i ∧ i < n) := cia (Or.inr (Or.inl rfl)) T N Ln
theorem cia27 {h : zH} {a : Nat} {i n : Int} (T : hT h a = 27) (N : a < hN h) (Ln : ((hL h a : Nat) : Int) = n) : (zokw h (some a) 25 i ∨ zokw h (some a) 26 i ∨ zokw h (some a) 27 i) ↔ (0 ≤ i ∧ i < n) := cia (Or.inr (Or.inr rfl)) T N Ln
theorem caa25 {h : zH} {a : Nat} {v : Option Nat} {i n : Int} (T : hT h a = 25) (N : a < hN h) (Ln : ((hL h a : Nat) : Int) = n) (hv : zob h v 2) : (zokw h (some a) 25 i ∧ zob h v 2 ∨ zokw h (some a) 26 i ∧ zob h v 10) ↔ (0 ≤ i ∧ i < n) := by
  subst Ln
  exact ⟨fun e => e.elim (fun e => e.1.2.2.2) (fun e => e.1.2.2.2), fun e => Or.inl ⟨⟨rfl, T, N, e⟩, hv⟩⟩
theorem caa26 {h : zH} {a : Nat} {v : Option Nat} {i n : Int} (T : hT h a = 26) (N : a < hN h) (Ln : ((hL h a : Nat) : Int) = n) (hv : zob h v 10) : (zokw h (some a) 25 i ∧ zob h v 2 ∨ zokw h (some a) 26 i ∧ zob h v 10) ↔ (0 ≤ i ∧ i < n) := by
  subst Ln
  exact ⟨fun e => e.elim (fun e => e.1.2.2.2) (fun e => e.1.2.2.2), fun e => Or.inr ⟨⟨rfl, T, N, e⟩, hv⟩⟩
theorem idiv_c1 {x y : Int} (hy : 0 < y) : (0 ≤ x ∧ 0 < y) ↔ 0 ≤ x := ⟨fun a => a.1, fun a => ⟨a, hy⟩⟩
theorem irem_c {x y : Int} : (0 ≤ x ∧ 0 < y ∨ -2147483648 < x ∧ 0 < y) ↔ (-2147483648 < x ∧ 0 < y) := by omega
theorem irem_c1 {x y : Int} (hy : 0 < y) : (0 ≤ x ∧ 0 < y ∨ -2147483648 < x ∧ 0 < y) ↔ -2147483648 < x := by omega
theorem al {h : zH} {a t : Nat} (T : hT h a = t) (h1 : 20 ≤ t) (h2 : t < 40) : (some a).isSome = true ∧ 20 ≤ hT h (zdr (some a)) ∧ hT h (zdr (some a)) < 40 := by
  subst T
  exact ⟨rfl, h1, h2⟩
theorem zi2b_e (x : Int) : zi2b x = x.bmod 256 := by
  unfold zi2b
  rw [Int8.toInt_toInt32, Int32.toInt_toInt8, Int32.toInt_ofInt]
  rw [show (Int32.size : Nat) = 4294967296 from rfl]
  exact Int.bmod_bmod_of_dvd (by decide)
theorem zi2b_l (x : Int) : -128 ≤ zi2b x := by rw [zi2b_e]; exact Int.le_bmod (by decide)
theorem zi2b_u (x : Int) : zi2b x < 128 := by rw [zi2b_e]; exact Int.bmod_lt (by decide)
theorem retI {a b : Int} {h : zH} (e : a = b) : (some (.inl (some (zI a)), h) : zO) = some (.inl (some (zI b)), h) := by rw [e]
theorem ifc_congr {a b : Prop} [Decidable a] [Decidable b] (h : a ↔ b) : (if a then (1 : Int) else 0) = if b then 1 else 0 := by
  by_cases g : a
  · rw [if_pos g, if_pos (h.1 g)]
  · rw [if_neg g, if_neg (fun e => g (h.2 e))]
def cI (a : Nat) : Bool := Nat.blt a 74 || (Nat.ble 90 a && Nat.blt a 163)
def cT (a : Nat) : Nat :=
 (bif Nat.blt a 73 then (bif Nat.blt a 36 then (bif Nat.blt a 18 then (bif Nat.blt a 9 then (bif Nat.blt a 4 then (bif Nat.blt a 2 then (bif Nat.blt a 1 then (bif Nat.beq a 0 then 11 else 0) else
 (bif Nat.beq a 1 then 21 else 0)) else
 (bif Nat.blt a 3 then (bif Nat.beq a 2 then 21 else 0) else
 (bif Nat.beq a 3 then 2 else 0))) else
 (bif Nat.blt a 6 then (bif Nat.blt a 5 then (bif Nat.beq a 4 then 21 else 0) else
 (bif Nat.beq a 5 then 4 else 0)) else
 (bif Nat.blt a 7 then (bif Nat.beq a 6 then 21 else 0) else
 (bif Nat.blt a 8 then (bif Nat.beq a 7 then 7 else 0) else
 (bif Nat.beq a 8 then 22 else 0))))) else
 (bif Nat.blt a 13 then (bif Nat.blt a 11 then (bif Nat.blt a 10 then (bif Nat.beq a 9 then 22 else 0) else
 (bif Nat.beq a 10 then 3 else 0)) else
 (bif Nat.blt a 12 then (bif Nat.beq a 11 then 26 else 0) else
 (bif Nat.beq a 12 then 26 else 0))) else
 (bif Nat.blt a 15 then (bif Nat.blt a 14 then (bif Nat.beq a 13 then 20 else 0) else
 (bif Nat.beq a 14 then 10 else 0)) else
 (bif Nat.blt a 16 then (bif Nat.beq a 15 then 25 else 0) else
 (bif Nat.blt a 17 then (bif Nat.beq a 16 then 25 else 0) else
 (bif Nat.beq a 17 then 22 else 0)))))) else
 (bif Nat.blt a 27 then (bif Nat.blt a 22 then (bif Nat.blt a 20 then (bif Nat.blt a 19 then (bif Nat.beq a 18 then 22 else 0) else
 (bif Nat.beq a 19 then 10 else 0)) else
 (bif Nat.blt a 21 then (bif Nat.beq a 20 then 25 else 0) else
 (bif Nat.beq a 21 then 25 else 0))) else
 (bif Nat.blt a 24 then (bif Nat.blt a 23 then (bif Nat.beq a 22 then 22 else 0) else
 (bif Nat.beq a 23 then 22 else 0)) else
 (bif Nat.blt a 25 then (bif Nat.beq a 24 then 10 else 0) else
 (bif Nat.blt a 26 then (bif Nat.beq a 25 then 25 else 0) else
 (bif Nat.beq a 26 then 25 else 0))))) else
 (bif Nat.blt a 31 then (bif Nat.blt a 29 then (bif Nat.blt a 28 then (bif Nat.beq a 27 then 22 else 0) else
 (bif Nat.beq a 28 then 22 else 0)) else
 (bif Nat.blt a 30 then (bif Nat.beq a 29 then 10 else 0) else
 (bif Nat.beq a 30 then 25 else 0))) else
 (bif Nat.blt a 33 then (bif Nat.blt a 32 then (bif Nat.beq a 31 then 25 else 0) else
 (bif Nat.beq a 32 then 22 else 0)) else
 (bif Nat.blt a 34 then (bif Nat.beq a 33 then 22 else 0) else
 (bif Nat.blt a 35 then (bif Nat.beq a 34 then 10 else 0) else
 (bif Nat.beq a 35 then 25 else 0))))))) else
 (bif Nat.blt a 54 then (bif Nat.blt a 45 then (bif Nat.blt a 40 then (bif Nat.blt a 38 then (bif Nat.blt a 37 then (bif Nat.beq a 36 then 25 else 0) else
 (bif Nat.beq a 37 then 22 else 0)) else
 (bif Nat.blt a 39 then (bif Nat.beq a 38 then 22 else 0) else
 (bif Nat.beq a 39 then 10 else 0))) else
 (bif Nat.blt a 42 then (bif Nat.blt a 41 then (bif Nat.beq a 40 then 25 else 0) else
 (bif Nat.beq a 41 then 25 else 0)) else
 (bif Nat.blt a 43 then (bif Nat.beq a 42 then 22 else 0) else
 (bif Nat.blt a 44 then (bif Nat.beq a 43 then 22 else 0) else
 (bif Nat.beq a 44 then 10 else 0))))) else
 (bif Nat.blt a 49 then (bif Nat.blt a 47 then (bif Nat.blt a 46 then (bif Nat.beq a 45 then 25 else 0) else
 (bif Nat.beq a 46 then 25 else 0)) else
 (bif Nat.blt a 48 then (bif Nat.beq a 47 then 22 else 0) else
 (bif Nat.beq a 48 then 22 else 0))) else
 (bif Nat.blt a 51 then (bif Nat.blt a 50 then (bif Nat.beq a 49 then 10 else 0) else
 (bif Nat.beq a 50 then 25 else 0)) else
 (bif Nat.blt a 52 then (bif Nat.beq a 51 then 25 else 0) else
 (bif Nat.blt a 53 then (bif Nat.beq a 52 then 22 else 0) else
 (bif Nat.beq a 53 then 22 else 0)))))) else
 (bif Nat.blt a 63 then (bif Nat.blt a 58 then (bif Nat.blt a 56 then (bif Nat.blt a 55 then (bif Nat.beq a 54 then 10 else 0) else
 (bif Nat.beq a 55 then 25 else 0)) else
 (bif Nat.blt a 57 then (bif Nat.beq a 56 then 25 else 0) else
 (bif Nat.beq a 57 then 22 else 0))) else
 (bif Nat.blt a 60 then (bif Nat.blt a 59 then (bif Nat.beq a 58 then 22 else 0) else
 (bif Nat.beq a 59 then 10 else 0)) else
 (bif Nat.blt a 61 then (bif Nat.beq a 60 then 25 else 0) else
 (bif Nat.blt a 62 then (bif Nat.beq a 61 then 25 else 0) else
 (bif Nat.beq a 62 then 22 else 0))))) else
 (bif Nat.blt a 68 then (bif Nat.blt a 65 then (bif Nat.blt a 64 then (bif Nat.beq a 63 then 22 else 0) else
 (bif Nat.beq a 64 then 10 else 0)) else
 (bif Nat.blt a 66 then (bif Nat.beq a 65 then 25 else 0) else
 (bif Nat.blt a 67 then (bif Nat.beq a 66 then 25 else 0) else
 (bif Nat.beq a 67 then 22 else 0)))) else
 (bif Nat.blt a 70 then (bif Nat.blt a 69 then (bif Nat.beq a 68 then 22 else 0) else
 (bif Nat.beq a 69 then 10 else 0)) else
 (bif Nat.blt a 71 then (bif Nat.beq a 70 then 25 else 0) else
 (bif Nat.blt a 72 then (bif Nat.beq a 71 then 25 else 0) else
 (bif Nat.beq a 72 then 22 else 0)))))))) else
 (bif Nat.blt a 126 then (bif Nat.blt a 107 then (bif Nat.blt a 98 then (bif Nat.blt a 93 then (bif Nat.blt a 91 then (bif Nat.blt a 90 then (bif Nat.beq a 73 then 22 else 0) else
 (bif Nat.beq a 90 then 8 else 0)) else
 (bif Nat.blt a 92 then (bif Nat.beq a 91 then 23 else 0) else
 (bif Nat.beq a 92 then 23 else 0))) else
 (bif Nat.blt a 95 then (bif Nat.blt a 94 then (bif Nat.beq a 93 then 23 else 0) else
 (bif Nat.beq a 94 then 23 else 0)) else
 (bif Nat.blt a 96 then (bif Nat.beq a 95 then 23 else 0) else
 (bif Nat.blt a 97 then (bif Nat.beq a 96 then 22 else 0) else
 (bif Nat.beq a 97 then 25 else 0))))) else
 (bif Nat.blt a 102 then (bif Nat.blt a 100 then (bif Nat.blt a 99 then (bif Nat.beq a 98 then 25 else 0) else
 (bif Nat.beq a 99 then 23 else 0)) else
 (bif Nat.blt a 101 then (bif Nat.beq a 100 then 23 else 0) else
 (bif Nat.beq a 101 then 21 else 0))) else
 (bif Nat.blt a 104 then (bif Nat.blt a 103 then (bif Nat.beq a 102 then 2 else 0) else
 (bif Nat.beq a 103 then 21 else 0)) else
 (bif Nat.blt a 105 then (bif Nat.beq a 104 then 2 else 0) else
 (bif Nat.blt a 106 then (bif Nat.beq a 105 then 21 else 0) else
 (bif Nat.beq a 106 then 2 else 0)))))) else
 (bif Nat.blt a 116 then (bif Nat.blt a 111 then (bif Nat.blt a 109 then (bif Nat.blt a 108 then (bif Nat.beq a 107 then 21 else 0) else
 (bif Nat.beq a 108 then 2 else 0)) else
 (bif Nat.blt a 110 then (bif Nat.beq a 109 then 21 else 0) else
 (bif Nat.beq a 110 then 2 else 0))) else
 (bif Nat.blt a 113 then (bif Nat.blt a 112 then (bif Nat.beq a 111 then 21 else 0) else
 (bif Nat.beq a 112 then 2 else 0)) else
 (bif Nat.blt a 114 then (bif Nat.beq a 113 then 21 else 0) else
 (bif Nat.blt a 115 then (bif Nat.beq a 114 then 2 else 0) else
 (bif Nat.beq a 115 then 21 else 0))))) else
 (bif Nat.blt a 121 then (bif Nat.blt a 118 then (bif Nat.blt a 117 then (bif Nat.beq a 116 then 2 else 0) else
 (bif Nat.beq a 117 then 21 else 0)) else
 (bif Nat.blt a 119 then (bif Nat.beq a 118 then 2 else 0) else
 (bif Nat.blt a 120 then (bif Nat.beq a 119 then 21 else 0) else
 (bif Nat.beq a 120 then 2 else 0)))) else
 (bif Nat.blt a 123 then (bif Nat.blt a 122 then (bif Nat.beq a 121 then 21 else 0) else
 (bif Nat.beq a 122 then 2 else 0)) else
 (bif Nat.blt a 124 then (bif Nat.beq a 123 then 21 else 0) else
 (bif Nat.blt a 125 then (bif Nat.beq a 124 then 2 else 0) else
 (bif Nat.beq a 125 then 21 else 0))))))) else
 (bif Nat.blt a 144 then (bif Nat.blt a 135 then (bif Nat.blt a 130 then (bif Nat.blt a 128 then (bif Nat.blt a 127 then (bif Nat.beq a 126 then 2 else 0) else
 (bif Nat.beq a 127 then 21 else 0)) else
 (bif Nat.blt a 129 then (bif Nat.beq a 128 then 6 else 0) else
 (bif Nat.beq a 129 then 22 else 0))) else
 (bif Nat.blt a 132 then (bif Nat.blt a 131 then (bif Nat.beq a 130 then 22 else 0) else
 (bif Nat.beq a 131 then 23 else 0)) else
 (bif Nat.blt a 133 then (bif Nat.beq a 132 then 1 else 0) else
 (bif Nat.blt a 134 then (bif Nat.beq a 133 then 23 else 0) else
 (bif Nat.beq a 134 then 23 else 0))))) else
 (bif Nat.blt a 139 then (bif Nat.blt a 137 then (bif Nat.blt a 136 then (bif Nat.beq a 135 then 9 else 0) else
 (bif Nat.beq a 136 then 27 else 0)) else
 (bif Nat.blt a 138 then (bif Nat.beq a 137 then 21 else 0) else
 (bif Nat.beq a 138 then 21 else 0))) else
 (bif Nat.blt a 141 then (bif Nat.blt a 140 then (bif Nat.beq a 139 then 21 else 0) else
 (bif Nat.beq a 140 then 21 else 0)) else
 (bif Nat.blt a 142 then (bif Nat.beq a 141 then 21 else 0) else
 (bif Nat.blt a 143 then (bif Nat.beq a 142 then 21 else 0) else
 (bif Nat.beq a 143 then 21 else 0)))))) else
 (bif Nat.blt a 153 then (bif Nat.blt a 148 then (bif Nat.blt a 146 then (bif Nat.blt a 145 then (bif Nat.beq a 144 then 21 else 0) else
 (bif Nat.beq a 145 then 21 else 0)) else
 (bif Nat.blt a 147 then (bif Nat.beq a 146 then 21 else 0) else
 (bif Nat.beq a 147 then 21 else 0))) else
 (bif Nat.blt a 150 then (bif Nat.blt a 149 then (bif Nat.beq a 148 then 21 else 0) else
 (bif Nat.beq a 149 then 21 else 0)) else
 (bif Nat.blt a 151 then (bif Nat.beq a 150 then 21 else 0) else
 (bif Nat.blt a 152 then (bif Nat.beq a 151 then 21 else 0) else
 (bif Nat.beq a 152 then 21 else 0))))) else
 (bif Nat.blt a 158 then (bif Nat.blt a 155 then (bif Nat.blt a 154 then (bif Nat.beq a 153 then 21 else 0) else
 (bif Nat.beq a 154 then 21 else 0)) else
 (bif Nat.blt a 156 then (bif Nat.beq a 155 then 21 else 0) else
 (bif Nat.blt a 157 then (bif Nat.beq a 156 then 21 else 0) else
 (bif Nat.beq a 157 then 21 else 0)))) else
 (bif Nat.blt a 160 then (bif Nat.blt a 159 then (bif Nat.beq a 158 then 21 else 0) else
 (bif Nat.beq a 159 then 21 else 0)) else
 (bif Nat.blt a 161 then (bif Nat.beq a 160 then 21 else 0) else
 (bif Nat.blt a 162 then (bif Nat.beq a 161 then 21 else 0) else
 (bif Nat.beq a 162 then 22 else 0)))))))))
def cL (a : Nat) : Nat :=
 (bif Nat.blt a 73 then (bif Nat.blt a 36 then (bif Nat.blt a 18 then (bif Nat.blt a 9 then (bif Nat.blt a 4 then (bif Nat.blt a 2 then (bif Nat.blt a 1 then (bif Nat.beq a 0 then 15 else 0) else
 (bif Nat.beq a 1 then 800 else 0)) else
 (bif Nat.blt a 3 then (bif Nat.beq a 2 then 1200 else 0) else
 (bif Nat.beq a 3 then 1 else 0))) else
 (bif Nat.blt a 6 then (bif Nat.blt a 5 then (bif Nat.beq a 4 then 0 else 0) else
 (bif Nat.beq a 5 then 8 else 0)) else
 (bif Nat.blt a 7 then (bif Nat.beq a 6 then 30 else 0) else
 (bif Nat.blt a 8 then (bif Nat.beq a 7 then 9 else 0) else
 (bif Nat.beq a 8 then 402 else 0))))) else
 (bif Nat.blt a 13 then (bif Nat.blt a 11 then (bif Nat.blt a 10 then (bif Nat.beq a 9 then 402 else 0) else
 (bif Nat.beq a 10 then 5 else 0)) else
 (bif Nat.blt a 12 then (bif Nat.beq a 11 then 10 else 0) else
 (bif Nat.beq a 12 then 2 else 0))) else
 (bif Nat.blt a 15 then (bif Nat.blt a 14 then (bif Nat.beq a 13 then 2 else 0) else
 (bif Nat.beq a 14 then 7 else 0)) else
 (bif Nat.blt a 16 then (bif Nat.beq a 15 then 24 else 0) else
 (bif Nat.blt a 17 then (bif Nat.beq a 16 then 24 else 0) else
 (bif Nat.beq a 17 then 24 else 0)))))) else
 (bif Nat.blt a 27 then (bif Nat.blt a 22 then (bif Nat.blt a 20 then (bif Nat.blt a 19 then (bif Nat.beq a 18 then 24 else 0) else
 (bif Nat.beq a 19 then 7 else 0)) else
 (bif Nat.blt a 21 then (bif Nat.beq a 20 then 24 else 0) else
 (bif Nat.beq a 21 then 24 else 0))) else
 (bif Nat.blt a 24 then (bif Nat.blt a 23 then (bif Nat.beq a 22 then 24 else 0) else
 (bif Nat.beq a 23 then 24 else 0)) else
 (bif Nat.blt a 25 then (bif Nat.beq a 24 then 7 else 0) else
 (bif Nat.blt a 26 then (bif Nat.beq a 25 then 24 else 0) else
 (bif Nat.beq a 26 then 24 else 0))))) else
 (bif Nat.blt a 31 then (bif Nat.blt a 29 then (bif Nat.blt a 28 then (bif Nat.beq a 27 then 24 else 0) else
 (bif Nat.beq a 28 then 24 else 0)) else
 (bif Nat.blt a 30 then (bif Nat.beq a 29 then 7 else 0) else
 (bif Nat.beq a 30 then 24 else 0))) else
 (bif Nat.blt a 33 then (bif Nat.blt a 32 then (bif Nat.beq a 31 then 24 else 0) else
 (bif Nat.beq a 32 then 24 else 0)) else
 (bif Nat.blt a 34 then (bif Nat.beq a 33 then 24 else 0) else
 (bif Nat.blt a 35 then (bif Nat.beq a 34 then 7 else 0) else
 (bif Nat.beq a 35 then 24 else 0))))))) else
 (bif Nat.blt a 54 then (bif Nat.blt a 45 then (bif Nat.blt a 40 then (bif Nat.blt a 38 then (bif Nat.blt a 37 then (bif Nat.beq a 36 then 24 else 0) else
 (bif Nat.beq a 37 then 24 else 0)) else
 (bif Nat.blt a 39 then (bif Nat.beq a 38 then 24 else 0) else
 (bif Nat.beq a 39 then 7 else 0))) else
 (bif Nat.blt a 42 then (bif Nat.blt a 41 then (bif Nat.beq a 40 then 24 else 0) else
 (bif Nat.beq a 41 then 24 else 0)) else
 (bif Nat.blt a 43 then (bif Nat.beq a 42 then 24 else 0) else
 (bif Nat.blt a 44 then (bif Nat.beq a 43 then 24 else 0) else
 (bif Nat.beq a 44 then 7 else 0))))) else
 (bif Nat.blt a 49 then (bif Nat.blt a 47 then (bif Nat.blt a 46 then (bif Nat.beq a 45 then 24 else 0) else
 (bif Nat.beq a 46 then 24 else 0)) else
 (bif Nat.blt a 48 then (bif Nat.beq a 47 then 24 else 0) else
 (bif Nat.beq a 48 then 24 else 0))) else
 (bif Nat.blt a 51 then (bif Nat.blt a 50 then (bif Nat.beq a 49 then 7 else 0) else
 (bif Nat.beq a 50 then 24 else 0)) else
 (bif Nat.blt a 52 then (bif Nat.beq a 51 then 24 else 0) else
 (bif Nat.blt a 53 then (bif Nat.beq a 52 then 24 else 0) else
 (bif Nat.beq a 53 then 24 else 0)))))) else
 (bif Nat.blt a 63 then (bif Nat.blt a 58 then (bif Nat.blt a 56 then (bif Nat.blt a 55 then (bif Nat.beq a 54 then 7 else 0) else
 (bif Nat.beq a 55 then 24 else 0)) else
 (bif Nat.blt a 57 then (bif Nat.beq a 56 then 24 else 0) else
 (bif Nat.beq a 57 then 24 else 0))) else
 (bif Nat.blt a 60 then (bif Nat.blt a 59 then (bif Nat.beq a 58 then 24 else 0) else
 (bif Nat.beq a 59 then 7 else 0)) else
 (bif Nat.blt a 61 then (bif Nat.beq a 60 then 24 else 0) else
 (bif Nat.blt a 62 then (bif Nat.beq a 61 then 24 else 0) else
 (bif Nat.beq a 62 then 24 else 0))))) else
 (bif Nat.blt a 68 then (bif Nat.blt a 65 then (bif Nat.blt a 64 then (bif Nat.beq a 63 then 24 else 0) else
 (bif Nat.beq a 64 then 7 else 0)) else
 (bif Nat.blt a 66 then (bif Nat.beq a 65 then 24 else 0) else
 (bif Nat.blt a 67 then (bif Nat.beq a 66 then 24 else 0) else
 (bif Nat.beq a 67 then 24 else 0)))) else
 (bif Nat.blt a 70 then (bif Nat.blt a 69 then (bif Nat.beq a 68 then 24 else 0) else
 (bif Nat.beq a 69 then 7 else 0)) else
 (bif Nat.blt a 71 then (bif Nat.beq a 70 then 24 else 0) else
 (bif Nat.blt a 72 then (bif Nat.beq a 71 then 24 else 0) else
 (bif Nat.beq a 72 then 24 else 0)))))))) else
 (bif Nat.blt a 126 then (bif Nat.blt a 107 then (bif Nat.blt a 98 then (bif Nat.blt a 93 then (bif Nat.blt a 91 then (bif Nat.blt a 90 then (bif Nat.beq a 73 then 24 else 0) else
 (bif Nat.beq a 90 then 16 else 0)) else
 (bif Nat.blt a 92 then (bif Nat.beq a 91 then 24 else 0) else
 (bif Nat.beq a 92 then 24 else 0))) else
 (bif Nat.blt a 95 then (bif Nat.blt a 94 then (bif Nat.beq a 93 then 24 else 0) else
 (bif Nat.beq a 94 then 24 else 0)) else
 (bif Nat.blt a 96 then (bif Nat.beq a 95 then 24 else 0) else
 (bif Nat.blt a 97 then (bif Nat.beq a 96 then 24 else 0) else
 (bif Nat.beq a 97 then 24 else 0))))) else
 (bif Nat.blt a 102 then (bif Nat.blt a 100 then (bif Nat.blt a 99 then (bif Nat.beq a 98 then 13 else 0) else
 (bif Nat.beq a 99 then 200 else 0)) else
 (bif Nat.blt a 101 then (bif Nat.beq a 100 then 200 else 0) else
 (bif Nat.beq a 101 then 3 else 0))) else
 (bif Nat.blt a 104 then (bif Nat.blt a 103 then (bif Nat.beq a 102 then 1 else 0) else
 (bif Nat.beq a 103 then 1 else 0)) else
 (bif Nat.blt a 105 then (bif Nat.beq a 104 then 1 else 0) else
 (bif Nat.blt a 106 then (bif Nat.beq a 105 then 1 else 0) else
 (bif Nat.beq a 106 then 1 else 0)))))) else
 (bif Nat.blt a 116 then (bif Nat.blt a 111 then (bif Nat.blt a 109 then (bif Nat.blt a 108 then (bif Nat.beq a 107 then 1 else 0) else
 (bif Nat.beq a 108 then 1 else 0)) else
 (bif Nat.blt a 110 then (bif Nat.beq a 109 then 1 else 0) else
 (bif Nat.beq a 110 then 1 else 0))) else
 (bif Nat.blt a 113 then (bif Nat.blt a 112 then (bif Nat.beq a 111 then 1 else 0) else
 (bif Nat.beq a 112 then 1 else 0)) else
 (bif Nat.blt a 114 then (bif Nat.beq a 113 then 1 else 0) else
 (bif Nat.blt a 115 then (bif Nat.beq a 114 then 1 else 0) else
 (bif Nat.beq a 115 then 1 else 0))))) else
 (bif Nat.blt a 121 then (bif Nat.blt a 118 then (bif Nat.blt a 117 then (bif Nat.beq a 116 then 1 else 0) else
 (bif Nat.beq a 117 then 3 else 0)) else
 (bif Nat.blt a 119 then (bif Nat.beq a 118 then 1 else 0) else
 (bif Nat.blt a 120 then (bif Nat.beq a 119 then 3 else 0) else
 (bif Nat.beq a 120 then 1 else 0)))) else
 (bif Nat.blt a 123 then (bif Nat.blt a 122 then (bif Nat.beq a 121 then 3 else 0) else
 (bif Nat.beq a 122 then 1 else 0)) else
 (bif Nat.blt a 124 then (bif Nat.beq a 123 then 3 else 0) else
 (bif Nat.blt a 125 then (bif Nat.beq a 124 then 1 else 0) else
 (bif Nat.beq a 125 then 3 else 0))))))) else
 (bif Nat.blt a 144 then (bif Nat.blt a 135 then (bif Nat.blt a 130 then (bif Nat.blt a 128 then (bif Nat.blt a 127 then (bif Nat.beq a 126 then 1 else 0) else
 (bif Nat.beq a 127 then 3 else 0)) else
 (bif Nat.blt a 129 then (bif Nat.beq a 128 then 10 else 0) else
 (bif Nat.beq a 129 then 1536 else 0))) else
 (bif Nat.blt a 132 then (bif Nat.blt a 131 then (bif Nat.beq a 130 then 64 else 0) else
 (bif Nat.beq a 131 then 24 else 0)) else
 (bif Nat.blt a 133 then (bif Nat.beq a 132 then 5 else 0) else
 (bif Nat.blt a 134 then (bif Nat.beq a 133 then 24 else 0) else
 (bif Nat.beq a 134 then 73 else 0))))) else
 (bif Nat.blt a 139 then (bif Nat.blt a 137 then (bif Nat.blt a 136 then (bif Nat.beq a 135 then 4 else 0) else
 (bif Nat.beq a 136 then 25 else 0)) else
 (bif Nat.blt a 138 then (bif Nat.beq a 137 then 200 else 0) else
 (bif Nat.beq a 138 then 200 else 0))) else
 (bif Nat.blt a 141 then (bif Nat.blt a 140 then (bif Nat.beq a 139 then 200 else 0) else
 (bif Nat.beq a 140 then 200 else 0)) else
 (bif Nat.blt a 142 then (bif Nat.beq a 141 then 200 else 0) else
 (bif Nat.blt a 143 then (bif Nat.beq a 142 then 200 else 0) else
 (bif Nat.beq a 143 then 200 else 0)))))) else
 (bif Nat.blt a 153 then (bif Nat.blt a 148 then (bif Nat.blt a 146 then (bif Nat.blt a 145 then (bif Nat.beq a 144 then 200 else 0) else
 (bif Nat.beq a 145 then 200 else 0)) else
 (bif Nat.blt a 147 then (bif Nat.beq a 146 then 200 else 0) else
 (bif Nat.beq a 147 then 200 else 0))) else
 (bif Nat.blt a 150 then (bif Nat.blt a 149 then (bif Nat.beq a 148 then 200 else 0) else
 (bif Nat.beq a 149 then 200 else 0)) else
 (bif Nat.blt a 151 then (bif Nat.beq a 150 then 200 else 0) else
 (bif Nat.blt a 152 then (bif Nat.beq a 151 then 200 else 0) else
 (bif Nat.beq a 152 then 200 else 0))))) else
 (bif Nat.blt a 158 then (bif Nat.blt a 155 then (bif Nat.blt a 154 then (bif Nat.beq a 153 then 200 else 0) else
 (bif Nat.beq a 154 then 200 else 0)) else
 (bif Nat.blt a 156 then (bif Nat.beq a 155 then 200 else 0) else
 (bif Nat.blt a 157 then (bif Nat.beq a 156 then 200 else 0) else
 (bif Nat.beq a 157 then 200 else 0)))) else
 (bif Nat.blt a 160 then (bif Nat.blt a 159 then (bif Nat.beq a 158 then 200 else 0) else
 (bif Nat.beq a 159 then 200 else 0)) else
 (bif Nat.blt a 161 then (bif Nat.beq a 160 then 200 else 0) else
 (bif Nat.blt a 162 then (bif Nat.beq a 161 then 200 else 0) else
 (bif Nat.beq a 162 then 25 else 0)))))))))
def cR (a k : Nat) : Option Nat := bif Nat.blt a 163 && Nat.blt k 16 then
 (bif Nat.blt a 90 then (bif Nat.blt a 29 then (bif Nat.blt a 10 then (bif Nat.blt a 5 then (bif Nat.blt a 3 then (bif Nat.beq a 0 then (bif Nat.blt k 8 then (bif Nat.blt k 6 then (bif Nat.blt k 2 then (bif Nat.beq k 0 then some 1 else none) else
 (bif Nat.beq k 2 then some 2 else none)) else
 (bif Nat.blt k 7 then (bif Nat.beq k 6 then some 3 else none) else
 (bif Nat.beq k 7 then some 5 else none))) else
 (bif Nat.blt k 10 then (bif Nat.blt k 9 then (bif Nat.beq k 8 then some 10 else none) else
 (bif Nat.beq k 9 then some 90 else none)) else
 (bif Nat.blt k 11 then (bif Nat.beq k 10 then some 128 else none) else
 (bif Nat.blt k 12 then (bif Nat.beq k 11 then some 132 else none) else
 (bif Nat.beq k 12 then some 135 else none))))) else none) else
 (bif Nat.beq a 3 then (bif Nat.beq k 0 then some 4 else none) else none)) else
 (bif Nat.blt a 7 then (bif Nat.beq a 5 then (bif Nat.blt k 3 then (bif Nat.beq k 2 then some 7 else none) else
 (bif Nat.beq k 3 then some 6 else none)) else none) else
 (bif Nat.beq a 7 then (bif Nat.blt k 5 then (bif Nat.beq k 2 then some 1 else none) else
 (bif Nat.blt k 6 then (bif Nat.beq k 5 then some 8 else none) else
 (bif Nat.beq k 6 then some 9 else none))) else none))) else
 (bif Nat.blt a 19 then (bif Nat.blt a 14 then (bif Nat.beq a 10 then (bif Nat.blt k 3 then (bif Nat.beq k 2 then some 11 else none) else
 (bif Nat.blt k 4 then (bif Nat.beq k 3 then some 12 else none) else
 (bif Nat.beq k 4 then some 13 else none))) else none) else
 (bif Nat.beq a 14 then (bif Nat.blt k 4 then (bif Nat.blt k 3 then (bif Nat.beq k 2 then some 3 else none) else
 (bif Nat.beq k 3 then some 15 else none)) else
 (bif Nat.blt k 5 then (bif Nat.beq k 4 then some 16 else none) else
 (bif Nat.blt k 6 then (bif Nat.beq k 5 then some 17 else none) else
 (bif Nat.beq k 6 then some 18 else none)))) else none)) else
 (bif Nat.blt a 24 then (bif Nat.beq a 19 then (bif Nat.blt k 4 then (bif Nat.blt k 3 then (bif Nat.beq k 2 then some 3 else none) else
 (bif Nat.beq k 3 then some 20 else none)) else
 (bif Nat.blt k 5 then (bif Nat.beq k 4 then some 21 else none) else
 (bif Nat.blt k 6 then (bif Nat.beq k 5 then some 22 else none) else
 (bif Nat.beq k 6 then some 23 else none)))) else none) else
 (bif Nat.beq a 24 then (bif Nat.blt k 4 then (bif Nat.blt k 3 then (bif Nat.beq k 2 then some 3 else none) else
 (bif Nat.beq k 3 then some 25 else none)) else
 (bif Nat.blt k 5 then (bif Nat.beq k 4 then some 26 else none) else
 (bif Nat.blt k 6 then (bif Nat.beq k 5 then some 27 else none) else
 (bif Nat.beq k 6 then some 28 else none)))) else none)))) else
 (bif Nat.blt a 49 then (bif Nat.blt a 39 then (bif Nat.blt a 34 then (bif Nat.beq a 29 then (bif Nat.blt k 4 then (bif Nat.blt k 3 then (bif Nat.beq k 2 then some 3 else none) else
 (bif Nat.beq k 3 then some 30 else none)) else
 (bif Nat.blt k 5 then (bif Nat.beq k 4 then some 31 else none) else
 (bif Nat.blt k 6 then (bif Nat.beq k 5 then some 32 else none) else
 (bif Nat.beq k 6 then some 33 else none)))) else none) else
 (bif Nat.beq a 34 then (bif Nat.blt k 4 then (bif Nat.blt k 3 then (bif Nat.beq k 2 then some 3 else none) else
 (bif Nat.beq k 3 then some 35 else none)) else
 (bif Nat.blt k 5 then (bif Nat.beq k 4 then some 36 else none) else
 (bif Nat.blt k 6 then (bif Nat.beq k 5 then some 37 else none) else
 (bif Nat.beq k 6 then some 38 else none)))) else none)) else
 (bif Nat.blt a 44 then (bif Nat.beq a 39 then (bif Nat.blt k 4 then (bif Nat.blt k 3 then (bif Nat.beq k 2 then some 3 else none) else
 (bif Nat.beq k 3 then some 40 else none)) else
 (bif Nat.blt k 5 then (bif Nat.beq k 4 then some 41 else none) else
 (bif Nat.blt k 6 then (bif Nat.beq k 5 then some 42 else none) else
 (bif Nat.beq k 6 then some 43 else none)))) else none) else
 (bif Nat.beq a 44 then (bif Nat.blt k 4 then (bif Nat.blt k 3 then (bif Nat.beq k 2 then some 3 else none) else
 (bif Nat.beq k 3 then some 45 else none)) else
 (bif Nat.blt k 5 then (bif Nat.beq k 4 then some 46 else none) else
 (bif Nat.blt k 6 then (bif Nat.beq k 5 then some 47 else none) else
 (bif Nat.beq k 6 then some 48 else none)))) else none))) else
 (bif Nat.blt a 59 then (bif Nat.blt a 54 then (bif Nat.beq a 49 then (bif Nat.blt k 4 then (bif Nat.blt k 3 then (bif Nat.beq k 2 then some 3 else none) else
 (bif Nat.beq k 3 then some 50 else none)) else
 (bif Nat.blt k 5 then (bif Nat.beq k 4 then some 51 else none) else
 (bif Nat.blt k 6 then (bif Nat.beq k 5 then some 52 else none) else
 (bif Nat.beq k 6 then some 53 else none)))) else none) else
 (bif Nat.beq a 54 then (bif Nat.blt k 4 then (bif Nat.blt k 3 then (bif Nat.beq k 2 then some 3 else none) else
 (bif Nat.beq k 3 then some 55 else none)) else
 (bif Nat.blt k 5 then (bif Nat.beq k 4 then some 56 else none) else
 (bif Nat.blt k 6 then (bif Nat.beq k 5 then some 57 else none) else
 (bif Nat.beq k 6 then some 58 else none)))) else none)) else
 (bif Nat.blt a 64 then (bif Nat.beq a 59 then (bif Nat.blt k 4 then (bif Nat.blt k 3 then (bif Nat.beq k 2 then some 3 else none) else
 (bif Nat.beq k 3 then some 60 else none)) else
 (bif Nat.blt k 5 then (bif Nat.beq k 4 then some 61 else none) else
 (bif Nat.blt k 6 then (bif Nat.beq k 5 then some 62 else none) else
 (bif Nat.beq k 6 then some 63 else none)))) else none) else
 (bif Nat.blt a 69 then (bif Nat.beq a 64 then (bif Nat.blt k 4 then (bif Nat.blt k 3 then (bif Nat.beq k 2 then some 3 else none) else
 (bif Nat.beq k 3 then some 65 else none)) else
 (bif Nat.blt k 5 then (bif Nat.beq k 4 then some 66 else none) else
 (bif Nat.blt k 6 then (bif Nat.beq k 5 then some 67 else none) else
 (bif Nat.beq k 6 then some 68 else none)))) else none) else
 (bif Nat.beq a 69 then (bif Nat.blt k 4 then (bif Nat.blt k 3 then (bif Nat.beq k 2 then some 3 else none) else
 (bif Nat.beq k 3 then some 70 else none)) else
 (bif Nat.blt k 5 then (bif Nat.beq k 4 then some 71 else none) else
 (bif Nat.blt k 6 then (bif Nat.beq k 5 then some 72 else none) else
 (bif Nat.beq k 6 then some 73 else none)))) else none)))))) else
 (bif Nat.blt a 116 then (bif Nat.blt a 108 then (bif Nat.blt a 104 then (bif Nat.blt a 102 then (bif Nat.beq a 90 then (bif Nat.blt k 7 then (bif Nat.blt k 4 then (bif Nat.blt k 3 then (bif Nat.beq k 2 then some 91 else none) else
 (bif Nat.beq k 3 then some 92 else none)) else
 (bif Nat.blt k 5 then (bif Nat.beq k 4 then some 93 else none) else
 (bif Nat.blt k 6 then (bif Nat.beq k 5 then some 94 else none) else
 (bif Nat.beq k 6 then some 95 else none)))) else
 (bif Nat.blt k 10 then (bif Nat.blt k 8 then (bif Nat.beq k 7 then some 96 else none) else
 (bif Nat.blt k 9 then (bif Nat.beq k 8 then some 97 else none) else
 (bif Nat.beq k 9 then some 3 else none))) else
 (bif Nat.blt k 11 then (bif Nat.beq k 10 then some 98 else none) else
 (bif Nat.blt k 12 then (bif Nat.beq k 11 then some 99 else none) else
 (bif Nat.beq k 12 then some 100 else none))))) else none) else
 (bif Nat.beq a 102 then (bif Nat.beq k 0 then some 103 else none) else none)) else
 (bif Nat.blt a 106 then (bif Nat.beq a 104 then (bif Nat.beq k 0 then some 105 else none) else none) else
 (bif Nat.beq a 106 then (bif Nat.beq k 0 then some 107 else none) else none))) else
 (bif Nat.blt a 112 then (bif Nat.blt a 110 then (bif Nat.beq a 108 then (bif Nat.beq k 0 then some 109 else none) else none) else
 (bif Nat.beq a 110 then (bif Nat.beq k 0 then some 111 else none) else none)) else
 (bif Nat.blt a 114 then (bif Nat.beq a 112 then (bif Nat.beq k 0 then some 113 else none) else none) else
 (bif Nat.beq a 114 then (bif Nat.beq k 0 then some 115 else none) else none)))) else
 (bif Nat.blt a 124 then (bif Nat.blt a 120 then (bif Nat.blt a 118 then (bif Nat.beq a 116 then (bif Nat.beq k 0 then some 117 else none) else none) else
 (bif Nat.beq a 118 then (bif Nat.beq k 0 then some 119 else none) else none)) else
 (bif Nat.blt a 122 then (bif Nat.beq a 120 then (bif Nat.beq k 0 then some 121 else none) else none) else
 (bif Nat.beq a 122 then (bif Nat.beq k 0 then some 123 else none) else none))) else
 (bif Nat.blt a 128 then (bif Nat.blt a 126 then (bif Nat.beq a 124 then (bif Nat.beq k 0 then some 125 else none) else none) else
 (bif Nat.beq a 126 then (bif Nat.beq k 0 then some 127 else none) else none)) else
 (bif Nat.blt a 132 then (bif Nat.beq a 128 then (bif Nat.blt k 4 then (bif Nat.blt k 3 then (bif Nat.beq k 0 then some 90 else none) else
 (bif Nat.beq k 3 then some 129 else none)) else
 (bif Nat.blt k 5 then (bif Nat.beq k 4 then some 130 else none) else
 (bif Nat.beq k 5 then some 131 else none))) else none) else
 (bif Nat.blt a 135 then (bif Nat.beq a 132 then (bif Nat.blt k 3 then (bif Nat.blt k 1 then (bif Nat.beq k 0 then some 90 else none) else
 (bif Nat.beq k 1 then some 128 else none)) else
 (bif Nat.blt k 4 then (bif Nat.beq k 3 then some 133 else none) else
 (bif Nat.beq k 4 then some 134 else none))) else none) else
 (bif Nat.beq a 135 then (bif Nat.blt k 2 then (bif Nat.beq k 0 then some 90 else none) else
 (bif Nat.blt k 3 then (bif Nat.beq k 2 then some 136 else none) else
 (bif Nat.beq k 3 then some 162 else none))) else none)))))))
 else none
def mI (a : Nat) : Bool := Nat.ble 177 a && Nat.blt a 197
def mT (a : Nat) : Nat :=
 (bif Nat.blt a 187 then (bif Nat.blt a 182 then (bif Nat.blt a 179 then (bif Nat.blt a 178 then (bif Nat.beq a 177 then 12 else 0) else
 (bif Nat.beq a 178 then 22 else 0)) else
 (bif Nat.blt a 180 then (bif Nat.beq a 179 then 22 else 0) else
 (bif Nat.blt a 181 then (bif Nat.beq a 180 then 22 else 0) else
 (bif Nat.beq a 181 then 22 else 0)))) else
 (bif Nat.blt a 184 then (bif Nat.blt a 183 then (bif Nat.beq a 182 then 22 else 0) else
 (bif Nat.beq a 183 then 22 else 0)) else
 (bif Nat.blt a 185 then (bif Nat.beq a 184 then 22 else 0) else
 (bif Nat.blt a 186 then (bif Nat.beq a 185 then 21 else 0) else
 (bif Nat.beq a 186 then 21 else 0))))) else
 (bif Nat.blt a 192 then (bif Nat.blt a 189 then (bif Nat.blt a 188 then (bif Nat.beq a 187 then 22 else 0) else
 (bif Nat.beq a 188 then 23 else 0)) else
 (bif Nat.blt a 190 then (bif Nat.beq a 189 then 22 else 0) else
 (bif Nat.blt a 191 then (bif Nat.beq a 190 then 22 else 0) else
 (bif Nat.beq a 191 then 22 else 0)))) else
 (bif Nat.blt a 194 then (bif Nat.blt a 193 then (bif Nat.beq a 192 then 23 else 0) else
 (bif Nat.beq a 193 then 22 else 0)) else
 (bif Nat.blt a 195 then (bif Nat.beq a 194 then 22 else 0) else
 (bif Nat.blt a 196 then (bif Nat.beq a 195 then 23 else 0) else
 (bif Nat.beq a 196 then 22 else 0))))))
def mL (a : Nat) : Nat :=
 (bif Nat.blt a 187 then (bif Nat.blt a 182 then (bif Nat.blt a 179 then (bif Nat.blt a 178 then (bif Nat.beq a 177 then 47 else 0) else
 (bif Nat.beq a 178 then 110 else 0)) else
 (bif Nat.blt a 180 then (bif Nat.beq a 179 then 2342 else 0) else
 (bif Nat.blt a 181 then (bif Nat.beq a 180 then 2342 else 0) else
 (bif Nat.beq a 181 then 23420 else 0)))) else
 (bif Nat.blt a 184 then (bif Nat.blt a 183 then (bif Nat.beq a 182 then 4684 else 0) else
 (bif Nat.beq a 183 then 240 else 0)) else
 (bif Nat.blt a 185 then (bif Nat.beq a 184 then 240 else 0) else
 (bif Nat.blt a 186 then (bif Nat.beq a 185 then 800 else 0) else
 (bif Nat.beq a 186 then 1400 else 0))))) else
 (bif Nat.blt a 192 then (bif Nat.blt a 189 then (bif Nat.blt a 188 then (bif Nat.beq a 187 then 201 else 0) else
 (bif Nat.beq a 188 then 24 else 0)) else
 (bif Nat.blt a 190 then (bif Nat.beq a 189 then 4824 else 0) else
 (bif Nat.blt a 191 then (bif Nat.beq a 190 then 24 else 0) else
 (bif Nat.beq a 191 then 201 else 0)))) else
 (bif Nat.blt a 194 then (bif Nat.blt a 193 then (bif Nat.beq a 192 then 24 else 0) else
 (bif Nat.beq a 193 then 24 else 0)) else
 (bif Nat.blt a 195 then (bif Nat.beq a 194 then 24 else 0) else
 (bif Nat.blt a 196 then (bif Nat.beq a 195 then 24 else 0) else
 (bif Nat.beq a 196 then 64 else 0))))))
def mR (a k : Nat) : Option Nat := bif Nat.blt a 197 && Nat.blt k 47 then
 (bif Nat.beq a 177 then (bif Nat.blt k 20 then (bif Nat.blt k 6 then (bif Nat.blt k 3 then (bif Nat.blt k 2 then (bif Nat.beq k 0 then some 178 else none) else
 (bif Nat.beq k 2 then some 179 else none)) else
 (bif Nat.blt k 4 then (bif Nat.beq k 3 then some 180 else none) else
 (bif Nat.beq k 4 then some 181 else none))) else
 (bif Nat.blt k 9 then (bif Nat.blt k 8 then (bif Nat.beq k 6 then some 182 else none) else
 (bif Nat.beq k 8 then some 183 else none)) else
 (bif Nat.blt k 14 then (bif Nat.beq k 9 then some 184 else none) else
 (bif Nat.blt k 16 then (bif Nat.beq k 14 then some 185 else none) else
 (bif Nat.beq k 16 then some 186 else none))))) else
 (bif Nat.blt k 32 then (bif Nat.blt k 23 then (bif Nat.blt k 22 then (bif Nat.beq k 20 then some 187 else none) else
 (bif Nat.beq k 22 then some 188 else none)) else
 (bif Nat.blt k 24 then (bif Nat.beq k 23 then some 189 else none) else
 (bif Nat.blt k 25 then (bif Nat.beq k 24 then some 190 else none) else
 (bif Nat.beq k 25 then some 191 else none)))) else
 (bif Nat.blt k 34 then (bif Nat.blt k 33 then (bif Nat.beq k 32 then some 192 else none) else
 (bif Nat.beq k 33 then some 193 else none)) else
 (bif Nat.blt k 35 then (bif Nat.beq k 34 then some 194 else none) else
 (bif Nat.blt k 43 then (bif Nat.beq k 35 then some 195 else none) else
 (bif Nat.beq k 43 then some 196 else none)))))) else none)
 else none
def mKeys : List Int := [97, 0, 0, 0, 0, 98, 0, 0, 0, 0, 99, 0, 0, 0, 0, 112, 108, 117, 115, 0, 109, 105, 110, 117, 115, 116, 105, 109, 101, 115, 116, 114, 117, 101, 0, 102, 97, 108, 115, 101, 101, 113, 0, 0, 0, 108, 116, 0, 0, 0, 110, 111, 116, 0, 0, 97, 110, 100, 0, 0, 111, 114, 0, 0, 0, 112, 114, 111, 111, 102, 115, 101, 116, 0, 0, 105, 102, 0, 0, 0, 101, 108, 115, 101, 0, 101, 110, 100, 0, 0, 119, 104, 105, 108, 101, 107, 101, 101, 112, 0, 108, 101, 115, 115, 0, 104, 111, 108, 101, 0]
def cForm : List (List Int) := [[0], [1], [2], [3], [4], [5], [6], [7, 4, 1], [7, 5, 1], [7, 6, 1], [8, 4, 1], [8, 5, 1], [8, 6, 1]]
/-- the class's cells that stay where its constructor laid them: their kinds, lengths, what their fixed fields name, and the formulas that are never written -/
def KC (h : zH) : Prop := 163 ≤ hN h ∧ (∀ a, cI a = true → hT h a = cT a ∧ hL h a = cL a) ∧ (∀ a k b, cR a k = some b → hR h a k = some b) ∧ (∀ i, i < 10 → hR h 11 i = some (14 + 5 * i)) ∧ (∀ i, i < 2 → hR h 12 i = some (64 + 5 * i)) ∧ (∀ i, i < 13 → hR h 98 i = some (102 + 2 * i)) ∧ (∀ i, i < 25 → hR h 136 i = some (137 + i)) ∧ (∀ i j, i < 13 → hI h (103 + 2 * i) j = (cForm.getD i []).getD j 0)
theorem PTC {h : zH} (K : KC h) (a t : Nat) (e : cI a = true) (e2 : cT a = t) : hT h a = t := (K.2.1 a e).1.trans e2
theorem PLC {h : zH} (K : KC h) (a : Nat) (n : Int) (e : cI a = true) (e2 : ((cL a : Nat) : Int) = n) : ((hL h a : Nat) : Int) = n := by rw [(K.2.1 a e).2, e2]
theorem PNC {h : zH} (K : KC h) (a : Nat) (e : cI a = true) : a < hN h := by
  have h1 := K.1
  simp only [cI, Bool.or_eq_true, Bool.and_eq_true, Nat.blt_eq, Nat.ble_eq] at e
  omega
theorem PRC {h : zH} (K : KC h) (a k b : Nat) (e : cR a k = some b) : hR h a k = some b := K.2.2.1 a k b e
/-- the constant rows and texts -/
def KS (h : zH) : Prop := ∀ a, zVB < a → hT h a = hT (zH0 0 (fun _ => 0)) a ∧ hL h a = hL (zH0 0 (fun _ => 0)) a ∧ hI h a = hI (zH0 0 (fun _ => 0)) a ∧ hJ h a = hJ (zH0 0 (fun _ => 0)) a
theorem KS_t {h : zH} (K : KS h) (j : Nat) (e : Nat.blt 0 j = true) (e2 : Nat.blt j 3 = true) : hT h (zVB + j) = 23 := by
  rw [Nat.blt_eq] at e e2
  rw [(K (zVB + j) (by omega)).1, hT_0, if_neg (by omega)]
  by_cases h : j = 1
  · rw [if_pos (by omega)]
  · rw [if_neg (by omega), if_pos (by omega)]
theorem KS_l {h : zH} (K : KS h) (j : Nat) (e : Nat.blt 0 j = true) (e2 : Nat.blt j 3 = true) : ((hL h (zVB + j) : Nat) : Int) = 3 := by
  rw [Nat.blt_eq] at e e2
  rw [(K (zVB + j) (by omega)).2.1, hL_0, if_neg (by omega)]
  by_cases h : j = 1
  · rw [if_pos (by omega)]; rfl
  · rw [if_neg (by omega), if_pos (by omega)]; rfl
/-- a text's cell -/
theorem KS_s {h : zH} (K : KS h) (k : Nat) (hk : k < 29) : hT h (zVB + (3 + k)) = 40 := by
  rw [(K (zVB + (3 + k)) (by omega)).1, hT_0, if_neg (by omega), if_neg (by omega), if_neg (by omega), if_pos (by omega)]
def pst (j : Nat) : Nat := bif Nat.beq j 10 then 25 else 22
def PS (h : zH) (p : Nat) : Prop := hT h p = 5 ∧ p + 10 < hN h ∧ (∀ j, (Nat.blt 0 j && Nat.ble j 10) = true → hT h (p + j) = pst j ∧ hL h (p + j) = 24) ∧ (∀ k, (Nat.ble 3 k && Nat.ble k 12) = true → hR h p k = some (p + (k - 2))) ∧ hR h p 13 = some 3
theorem PS_n {h : zH} {p : Nat} (H : PS h p) : p < hN h := by have := H.2.1; omega
theorem PS_t {h : zH} {p : Nat} (H : PS h p) (j t : Nat) (e : (Nat.blt 0 j && Nat.ble j 10) = true) (e2 : pst j = t) : hT h (p + j) = t := (H.2.2.1 j e).1.trans e2
theorem PS_ni {h : zH} {p : Nat} (H : PS h p) (j : Nat) (e : Nat.ble j 10 = true) : p + j < hN h := by have := H.2.1; have := Nat.le_of_ble_eq_true e; omega
theorem PS_l {h : zH} {p : Nat} (H : PS h p) (j : Nat) (e : (Nat.blt 0 j && Nat.ble j 10) = true) : ((hL h (p + j) : Nat) : Int) = 24 := by rw [(H.2.2.1 j e).2]; rfl
theorem PS_r {h : zH} {p : Nat} (H : PS h p) (k : Nat) (e : (Nat.ble 3 k && Nat.ble k 12) = true) : hR h p k = some (p + (k - 2)) := H.2.2.2.1 k e
theorem PS_o {h : zH} {p : Nat} (H : PS h p) : hR h p 13 = some 3 := H.2.2.2.2
def vst (j : Nat) : Nat := bif Nat.blt j 3 then 25 else 22
def VS (h : zH) (v : Nat) : Prop := hT h v = 10 ∧ v + 4 < hN h ∧ (∀ j, (Nat.blt 0 j && Nat.ble j 4) = true → hT h (v + j) = vst j ∧ hL h (v + j) = 24) ∧ (∀ k, (Nat.ble 3 k && Nat.ble k 6) = true → hR h v k = some (v + (k - 2))) ∧ hR h v 2 = some 3
theorem VS_n {h : zH} {v : Nat} (H : VS h v) : v < hN h := by have := H.2.1; omega
theorem VS_t {h : zH} {v : Nat} (H : VS h v) (j t : Nat) (e : (Nat.blt 0 j && Nat.ble j 4) = true) (e2 : vst j = t) : hT h (v + j) = t := (H.2.2.1 j e).1.trans e2
theorem VS_ni {h : zH} {v : Nat} (H : VS h v) (j : Nat) (e : Nat.ble j 4 = true) : v + j < hN h := by have := H.2.1; have := Nat.le_of_ble_eq_true e; omega
theorem VS_l {h : zH} {v : Nat} (H : VS h v) (j : Nat) (e : (Nat.blt 0 j && Nat.ble j 4) = true) : ((hL h (v + j) : Nat) : Int) = 24 := by rw [(H.2.2.1 j e).2]; rfl
theorem VS_r {h : zH} {v : Nat} (H : VS h v) (k : Nat) (e : (Nat.ble 3 k && Nat.ble k 6) = true) : hR h v k = some (v + (k - 2)) := H.2.2.2.1 k e
theorem VS_o {h : zH} {v : Nat} (H : VS h v) : hR h v 2 = some 3 := H.2.2.2.2
def FS (h : zH) (f : Nat) : Prop := hT h f = 2 ∧ hR h f 0 = some (f + 1) ∧ hT h (f + 1) = 21 ∧ f + 1 < hN h
theorem FS_n {h : zH} {f : Nat} (H : FS h f) : f < hN h := by have := H.2.2.2; omega
theorem FS_n1 {h : zH} {f : Nat} (H : FS h f) : f + 1 < hN h := H.2.2.2
theorem FS_lit {h : zH} (K : KC h) (f : Nat) (e : (cI f && Nat.beq (cT f) 2 && cI (f + 1) && Nat.beq (cT (f + 1)) 21 && (match cR f 0 with | some b => Nat.beq b (f + 1) | none => false)) = true) : FS h f := by
  simp only [Bool.and_eq_true] at e
  obtain ⟨⟨⟨⟨e1, e2⟩, e3⟩, e4⟩, e5⟩ := e
  refine ⟨PTC K f 2 e1 (Nat.eq_of_beq_eq_true e2), ?_, PTC K (f + 1) 21 e3 (Nat.eq_of_beq_eq_true e4), PNC K (f + 1) e3⟩
  cases hr : cR f 0 with
  | none => rw [hr] at e5; cases e5
  | some b =>
    rw [hr] at e5
    have e6 : b = f + 1 := Nat.eq_of_beq_eq_true e5
    rw [PRC K f 0 b hr, e6]

