/-! Bits counted at once, and one by one. -/
section POPC
def vV : List Nat → Nat
  | [] => 0
  | a :: l => a + 256 * vV l
def pop : Nat → Nat → Nat
  | 0, _ => 0
  | k + 1, n => n % 2 + pop k (n / 2)
theorem and_h {a b c d : Nat} (ha : a < 256) (hc : c < 256) : (a + 256 * b) &&& (c + 256 * d) = (a &&& c) + 256 * (b &&& d) := by
  have hac : a &&& c < 2 ^ 8 := Nat.and_lt_two_pow a hc
  apply Nat.eq_of_testBit_eq
  intro i
  rw [Nat.testBit_and, Nat.add_comm a, Nat.add_comm c, Nat.add_comm (a &&& c)]
  rw [show (256 : Nat) = 2 ^ 8 from rfl, Nat.testBit_two_pow_mul_add _ (show a < 2 ^ 8 from ha), Nat.testBit_two_pow_mul_add _ (show c < 2 ^ 8 from hc), Nat.testBit_two_pow_mul_add _ hac]
  by_cases h : i < 8
  · rw [if_pos h, if_pos h, if_pos h, Nat.testBit_and]
  · rw [if_neg h, if_neg h, if_neg h, Nat.testBit_and]
theorem vV_and {m : Nat} (hm : m < 256) (f : Nat → Nat) : ∀ l : List Nat, (∀ a, a ∈ l → f a < 256) → vV (l.map f) &&& vV (l.map fun _ => m) = vV (l.map fun a => f a &&& m)
  | [], _ => (show (0 : Nat) &&& 0 = 0 by decide)
  | a :: l, h => by
    show (f a + 256 * vV (l.map f)) &&& (m + 256 * vV (l.map fun _ => m)) = (f a &&& m) + 256 * vV (l.map fun a => f a &&& m)
    rw [and_h (h a (List.mem_cons_self ..)) hm, vV_and hm f l fun b hb => h b (List.mem_cons_of_mem _ hb)]
theorem vV_mul (k : Nat) (f : Nat → Nat) : ∀ l : List Nat, vV (l.map fun a => k * f a) = k * vV (l.map f)
  | [] => rfl
  | a :: l => by
    show k * f a + 256 * vV (l.map fun a => k * f a) = k * (f a + 256 * vV (l.map f))
    rw [vV_mul k f l, Nat.mul_add, Nat.mul_left_comm]
theorem vV_add (f g : Nat → Nat) : ∀ l : List Nat, vV (l.map f) + vV (l.map g) = vV (l.map fun a => f a + g a)
  | [] => rfl
  | a :: l => by
    have := vV_add f g l
    show f a + 256 * vV (l.map f) + (g a + 256 * vV (l.map g)) = f a + g a + 256 * vV (l.map fun a => f a + g a)
    omega
theorem vV_cong {f g : Nat → Nat} : ∀ l : List Nat, (∀ a, a ∈ l → f a = g a) → vV (l.map f) = vV (l.map g)
  | [], _ => rfl
  | a :: l, h => by
    show f a + 256 * vV (l.map f) = g a + 256 * vV (l.map g)
    rw [h a (List.mem_cons_self ..), vV_cong l fun b hb => h b (List.mem_cons_of_mem _ hb)]
theorem vV_half {m k : Nat} (f g : Nat → Nat) (l : List Nat) (h : ∀ a, a ∈ l → f a &&& m = k * g a) (hf : ∀ a, a ∈ l → f a < 256) (hm : m < 256) (hk : 0 < k) : (vV (l.map f) &&& vV (l.map fun _ => m)) / k = vV (l.map g) := by
  rw [vV_and hm f l hf, vV_cong l h, vV_mul, Nat.mul_div_cancel_left _ hk]
theorem vV_nib (c : Nat → Nat) : ∀ l : List Nat, (∀ a, a ∈ l → c a % 16 ≤ 4 ∧ c a / 16 ≤ 4) → (vV (l.map c) + vV (l.map c) / 16) &&& vV (l.map fun _ => 15) = vV (l.map fun a => c a % 16 + c a / 16)
  | [], _ => (show (0 + 0 / 16 : Nat) &&& 0 = 0 by decide)
  | a :: l, h => by
    have ih := vV_nib c l fun b hb => h b (List.mem_cons_of_mem _ hb)
    have ha := h a (List.mem_cons_self ..)
    have hy : vV (l.map c) % 16 ≤ 4 := by
      cases l with
      | nil => show 0 % 16 ≤ 4; omega
      | cons b l =>
        have := h b (List.mem_cons_of_mem _ (List.mem_cons_self ..))
        show (c b + 256 * vV (l.map c)) % 16 ≤ 4
        omega
    show (c a + 256 * vV (l.map c) + (c a + 256 * vV (l.map c)) / 16) &&& (15 + 256 * vV (l.map fun _ => 15)) = c a % 16 + c a / 16 + 256 * vV (l.map fun a => c a % 16 + c a / 16)
    generalize vV (l.map c) = Y at *
    rw [show c a + 256 * Y + (c a + 256 * Y) / 16 = (c a + c a / 16 + 16 * (Y % 16)) + 256 * (Y + Y / 16) by omega, and_h (by omega) (by decide), ih]
    rw [show ((15 : Nat)) = 2 ^ 4 - 1 from rfl, Nat.and_two_pow_sub_one_eq_mod, show (c a + c a / 16 + 16 * (Y % 16)) % 2 ^ 4 = c a % 16 + c a / 16 by omega]
theorem pop_split : ∀ (j k a b : Nat), a < 2 ^ j → pop (j + k) (a + 2 ^ j * b) = pop j a + pop k b
  | 0, k, a, b, h => by
    obtain rfl : a = 0 := by omega
    rw [Nat.zero_add, Nat.zero_add, Nat.pow_zero, Nat.one_mul]
    show _ = 0 + _
    rw [Nat.zero_add]
  | j + 1, k, a, b, h => by
    rw [show j + 1 + k = (j + k) + 1 by omega]
    show (a + 2 ^ (j + 1) * b) % 2 + pop (j + k) ((a + 2 ^ (j + 1) * b) / 2) = a % 2 + pop j (a / 2) + pop k b
    rw [Nat.pow_succ, Nat.mul_comm (2 ^ j) 2, Nat.mul_assoc] at *
    rw [show (a + 2 * (2 ^ j * b)) % 2 = a % 2 by omega, show (a + 2 * (2 ^ j * b)) / 2 = a / 2 + 2 ^ j * b by omega, pop_split j k (a / 2) b (by omega), Nat.add_assoc]
theorem pop_V : ∀ l : List Nat, (∀ a, a ∈ l → a < 256) → pop (8 * l.length) (vV l) = (l.map (pop 8)).sum
  | [], _ => rfl
  | a :: l, h => by
    have e := pop_split 8 (8 * l.length) a (vV l) (h a (List.mem_cons_self ..))
    rw [show 8 * (a :: l).length = 8 + 8 * l.length by rw [List.length_cons]; omega]
    show pop (8 + 8 * l.length) (a + 256 * vV l) = _
    rw [show (256 : Nat) = 2 ^ 8 from rfl, e, pop_V l fun b hb => h b (List.mem_cons_of_mem _ hb), List.map_cons, List.sum_cons]
def c1 (b : Nat) : Nat := b - (b &&& 170) / 2
def c2 (b : Nat) : Nat := (c1 b &&& 51) + (c1 b &&& 204) / 4
theorem byte_c : ∀ b : Fin 256, (b.val &&& 170 = 2 * ((b.val &&& 170) / 2) ∧ (b.val &&& 170) / 2 ≤ b.val ∧ c1 b.val < 256) ∧ (c1 b.val &&& 204 = 4 * ((c1 b.val &&& 204) / 4)) ∧ (c2 b.val % 16 ≤ 4 ∧ c2 b.val / 16 ≤ 4) ∧ c2 b.val % 16 + c2 b.val / 16 = pop 8 b.val ∧ pop 8 b.val ≤ 8 := by decide +kernel
theorem swar_1 {l : List Nat} (h : ∀ a, a ∈ l → a < 256) : vV l - ((vV l / 2) &&& vV (l.map fun _ => 85)) = vV (l.map c1) ∧ vV (l.map fun a => (a &&& 170) / 2) ≤ vV l := by
  have key := fun a ha => byte_c ⟨a, h a ha⟩
  have e : vV (l.map fun _ => 85) = vV (l.map fun _ => 170) / 2 := by
    rw [show (l.map fun _ => 170) = l.map fun a => 2 * (fun _ => 85) a from rfl, vV_mul, Nat.mul_div_cancel_left _ (by decide)]
  have a1 : (vV l / 2) &&& vV (l.map fun _ => 85) = vV (l.map fun a => (a &&& 170) / 2) := by
    rw [e, ← Nat.and_div_two]
    have := vV_half (m := 170) (k := 2) (fun a => a) (fun a => (a &&& 170) / 2) l (fun a ha => (key a ha).1.1) h (by decide) (by decide)
    rw [List.map_id'] at this
    exact this
  have s := vV_add c1 (fun a => (a &&& 170) / 2) l
  have t : vV (l.map fun a => c1 a + (a &&& 170) / 2) = vV l := by
    have := vV_cong (f := fun a => c1 a + (a &&& 170) / 2) (g := fun a => a) l (fun a ha => by
      have := (key a ha).1.2.1
      show a - (a &&& 170) / 2 + (a &&& 170) / 2 = a
      simp only at this
      omega)
    rw [List.map_id'] at this
    exact this
  rw [a1]
  omega
theorem swar_2 {l : List Nat} (h : ∀ a, a ∈ l → a < 256) : (vV (l.map c1) &&& vV (l.map fun _ => 51)) + ((vV (l.map c1) / 4) &&& vV (l.map fun _ => 51)) = vV (l.map c2) := by
  have key := fun a ha => byte_c ⟨a, h a ha⟩
  have e : vV (l.map fun _ => 51) = vV (l.map fun _ => 204) / 2 / 2 := by
    rw [show (l.map fun _ => 204) = l.map fun a => 4 * (fun _ => 51) a from rfl, vV_mul]
    omega
  have a1 : (vV (l.map c1) / 4) &&& vV (l.map fun _ => 51) = vV (l.map fun a => (c1 a &&& 204) / 4) := by
    rw [e, show vV (l.map c1) / 4 = vV (l.map c1) / 2 / 2 by omega, ← Nat.and_div_two, ← Nat.and_div_two, show (vV (l.map c1) &&& vV (l.map fun _ => 204)) / 2 / 2 = (vV (l.map c1) &&& vV (l.map fun _ => 204)) / 4 by omega]
    exact vV_half (m := 204) (k := 4) c1 (fun a => (c1 a &&& 204) / 4) l (fun a ha => (key a ha).2.1) (fun a ha => (key a ha).1.2.2) (by decide) (by decide)
  rw [a1, vV_and (by decide) c1 l (fun a ha => (key a ha).1.2.2), vV_add]
  rfl
theorem swar_3 {l : List Nat} (h : ∀ a, a ∈ l → a < 256) : (vV (l.map c2) + vV (l.map c2) / 16) &&& vV (l.map fun _ => 15) = vV (l.map (pop 8)) := by
  have key := fun a ha => byte_c ⟨a, h a ha⟩
  rw [vV_nib c2 l fun a ha => (key a ha).2.2.1]
  exact vV_cong l fun a ha => (key a ha).2.2.2.1
theorem dv {a X : Nat} (h : a < 256) : (a + 256 * X) / 256 = X := by omega
theorem ad (a b X Y : Nat) : (a + 256 * X) + (b + 256 * Y) = (a + b) + 256 * (X + Y) := by omega
theorem dvq2 (z : Nat) : z / 65536 = z / 256 / 256 ∧ z / 4294967296 = z / 256 / 256 / 256 / 256 := by omega
theorem md {a X k : Nat} (h : a < 128) : (a + 256 * X) % 128 = a := by omega
theorem bn8 {a b c d e f g h : Nat} (h0 : a ≤ 64) (h1 : b ≤ 64) (h2 : c ≤ 64) (h3 : d ≤ 64) (h4 : e ≤ 64) (h5 : f ≤ 64) (h6 : g ≤ 64) (h7 : h ≤ 64) : a + 256 * (b + 256 * (c + 256 * (d + 256 * (e + 256 * (f + 256 * (g + 256 * h)))))) < 2 ^ 64 := by omega
theorem le8 {a b c d e f g h : Nat} (h0 : a ≤ 8) (h1 : b ≤ 8) (h2 : c ≤ 8) (h3 : d ≤ 8) (h4 : e ≤ 8) (h5 : f ≤ 8) (h6 : g ≤ 8) (h7 : h ≤ 8) : a + b + (c + d) + (e + f + (g + h)) ≤ 64 ∧ a + b + (c + d) ≤ 64 ∧ a + b ≤ 64 := by omega
theorem sw_a {p0 p1 p2 p3 p4 p5 p6 p7 : Nat} (h0 : p0 ≤ 8) (h1 : p1 ≤ 8) (h2 : p2 ≤ 8) (h3 : p3 ≤ 8) (h4 : p4 ≤ 8) (h5 : p5 ≤ 8) (h6 : p6 ≤ 8) (h7 : p7 ≤ 8) : (p0 + 256 * (p1 + 256 * (p2 + 256 * (p3 + 256 * (p4 + 256 * (p5 + 256 * (p6 + 256 * (p7 + 256 * 0)))))))) / 256 = p1 + 256 * (p2 + 256 * (p3 + 256 * (p4 + 256 * (p5 + 256 * (p6 + 256 * (p7 + 256 * 0)))))) ∧ (p0 + 256 * (p1 + 256 * (p2 + 256 * (p3 + 256 * (p4 + 256 * (p5 + 256 * (p6 + 256 * (p7 + 256 * 0)))))))) + (p1 + 256 * (p2 + 256 * (p3 + 256 * (p4 + 256 * (p5 + 256 * (p6 + 256 * (p7 + 256 * 0))))))) = (p0 + p1) + 256 * ((p1 + p2) + 256 * ((p2 + p3) + 256 * ((p3 + p4) + 256 * ((p4 + p5) + 256 * ((p5 + p6) + 256 * ((p6 + p7) + 256 * (p7 + 0))))))) ∧ (p0 + p1) + 256 * ((p1 + p2) + 256 * ((p2 + p3) + 256 * ((p3 + p4) + 256 * ((p4 + p5) + 256 * ((p5 + p6) + 256 * ((p6 + p7) + 256 * (p7 + 0))))))) < 2 ^ 64 :=
  ⟨dv (by omega), by rw [ad, ad, ad, ad, ad, ad, ad], bn8 (by omega) (by omega) (by omega) (by omega) (by omega) (by omega) (by omega) (by omega)⟩
theorem sw_b {p0 p1 p2 p3 p4 p5 p6 p7 : Nat} (h0 : p0 ≤ 8) (h1 : p1 ≤ 8) (h2 : p2 ≤ 8) (h3 : p3 ≤ 8) (h4 : p4 ≤ 8) (h5 : p5 ≤ 8) (h6 : p6 ≤ 8) (h7 : p7 ≤ 8) : ((p0 + p1) + 256 * ((p1 + p2) + 256 * ((p2 + p3) + 256 * ((p3 + p4) + 256 * ((p4 + p5) + 256 * ((p5 + p6) + 256 * ((p6 + p7) + 256 * (p7 + 0)))))))) / 65536 = (p2 + p3) + 256 * ((p3 + p4) + 256 * ((p4 + p5) + 256 * ((p5 + p6) + 256 * ((p6 + p7) + 256 * (p7 + 0))))) ∧ ((p0 + p1) + 256 * ((p1 + p2) + 256 * ((p2 + p3) + 256 * ((p3 + p4) + 256 * ((p4 + p5) + 256 * ((p5 + p6) + 256 * ((p6 + p7) + 256 * (p7 + 0)))))))) + ((p2 + p3) + 256 * ((p3 + p4) + 256 * ((p4 + p5) + 256 * ((p5 + p6) + 256 * ((p6 + p7) + 256 * (p7 + 0)))))) = (p0 + p1 + (p2 + p3)) + 256 * ((p1 + p2 + (p3 + p4)) + 256 * ((p2 + p3 + (p4 + p5)) + 256 * ((p3 + p4 + (p5 + p6)) + 256 * ((p4 + p5 + (p6 + p7)) + 256 * ((p5 + p6 + (p7 + 0)) + 256 * ((p6 + p7) + 256 * (p7 + 0))))))) ∧ (p0 + p1 + (p2 + p3)) + 256 * ((p1 + p2 + (p3 + p4)) + 256 * ((p2 + p3 + (p4 + p5)) + 256 * ((p3 + p4 + (p5 + p6)) + 256 * ((p4 + p5 + (p6 + p7)) + 256 * ((p5 + p6 + (p7 + 0)) + 256 * ((p6 + p7) + 256 * (p7 + 0))))))) < 2 ^ 64 :=
  ⟨by rw [(dvq2 _).1, dv (by omega), dv (by omega)], by rw [ad, ad, ad, ad, ad, Nat.add_right_comm (p5 + p6) _ (p7 + 0)], bn8 (by omega) (by omega) (by omega) (by omega) (by omega) (by omega) (by omega) (by omega)⟩
theorem sw_c {p0 p1 p2 p3 p4 p5 p6 p7 : Nat} (h0 : p0 ≤ 8) (h1 : p1 ≤ 8) (h2 : p2 ≤ 8) (h3 : p3 ≤ 8) (h4 : p4 ≤ 8) (h5 : p5 ≤ 8) (h6 : p6 ≤ 8) (h7 : p7 ≤ 8) : ((p0 + p1 + (p2 + p3)) + 256 * ((p1 + p2 + (p3 + p4)) + 256 * ((p2 + p3 + (p4 + p5)) + 256 * ((p3 + p4 + (p5 + p6)) + 256 * ((p4 + p5 + (p6 + p7)) + 256 * ((p5 + p6 + (p7 + 0)) + 256 * ((p6 + p7) + 256 * (p7 + 0)))))))) / 4294967296 = (p4 + p5 + (p6 + p7)) + 256 * ((p5 + p6 + (p7 + 0)) + 256 * ((p6 + p7) + 256 * (p7 + 0))) ∧ ((p0 + p1 + (p2 + p3)) + 256 * ((p1 + p2 + (p3 + p4)) + 256 * ((p2 + p3 + (p4 + p5)) + 256 * ((p3 + p4 + (p5 + p6)) + 256 * ((p4 + p5 + (p6 + p7)) + 256 * ((p5 + p6 + (p7 + 0)) + 256 * ((p6 + p7) + 256 * (p7 + 0)))))))) + ((p4 + p5 + (p6 + p7)) + 256 * ((p5 + p6 + (p7 + 0)) + 256 * ((p6 + p7) + 256 * (p7 + 0)))) = (p0 + p1 + (p2 + p3) + (p4 + p5 + (p6 + p7))) + 256 * ((p1 + p2 + (p3 + p4) + (p5 + p6 + (p7 + 0))) + 256 * ((p2 + p3 + (p4 + p5) + (p6 + p7)) + 256 * ((p3 + p4 + (p5 + p6) + (p7 + 0)) + 256 * ((p4 + p5 + (p6 + p7)) + 256 * ((p5 + p6 + (p7 + 0)) + 256 * ((p6 + p7) + 256 * (p7 + 0))))))) ∧ (p0 + p1 + (p2 + p3) + (p4 + p5 + (p6 + p7))) + 256 * ((p1 + p2 + (p3 + p4) + (p5 + p6 + (p7 + 0))) + 256 * ((p2 + p3 + (p4 + p5) + (p6 + p7)) + 256 * ((p3 + p4 + (p5 + p6) + (p7 + 0)) + 256 * ((p4 + p5 + (p6 + p7)) + 256 * ((p5 + p6 + (p7 + 0)) + 256 * ((p6 + p7) + 256 * (p7 + 0))))))) < 2 ^ 64 :=
  ⟨by rw [(dvq2 _).2, dv (by omega), dv (by omega), dv (by omega), dv (by omega)], by rw [ad, ad, ad, Nat.add_right_comm (p3 + p4 + (p5 + p6)) _ (p7 + 0)], bn8 (by omega) (by omega) (by omega) (by omega) (by omega) (by omega) (by omega) (by omega)⟩
theorem sw_d {p0 p1 p2 p3 p4 p5 p6 p7 : Nat} (h0 : p0 ≤ 8) (h1 : p1 ≤ 8) (h2 : p2 ≤ 8) (h3 : p3 ≤ 8) (h4 : p4 ≤ 8) (h5 : p5 ≤ 8) (h6 : p6 ≤ 8) (h7 : p7 ≤ 8) : ((p0 + p1 + (p2 + p3) + (p4 + p5 + (p6 + p7))) + 256 * ((p1 + p2 + (p3 + p4) + (p5 + p6 + (p7 + 0))) + 256 * ((p2 + p3 + (p4 + p5) + (p6 + p7)) + 256 * ((p3 + p4 + (p5 + p6) + (p7 + 0)) + 256 * ((p4 + p5 + (p6 + p7)) + 256 * ((p5 + p6 + (p7 + 0)) + 256 * ((p6 + p7) + 256 * (p7 + 0)))))))) % 128 = p0 + (p1 + (p2 + (p3 + (p4 + (p5 + (p6 + (p7 + 0))))))) := by
  rw [md (k := 0) (by omega)]
  omega
end POPC
section POPD
def bts : Nat → Nat → List Nat
  | 0, _ => []
  | k + 1, n => n % 256 :: bts k (n / 256)
theorem bts_V : ∀ (k n : Nat), n < 256 ^ k → vV (bts k n) = n
  | 0, n, h => by
    obtain rfl : n = 0 := by simpa using h
    rfl
  | k + 1, n, h => by
    show n % 256 + 256 * vV (bts k (n / 256)) = n
    rw [bts_V k (n / 256) (by rw [Nat.pow_succ] at h; omega)]
    omega
theorem bts_l : ∀ (k n : Nat), (∀ a, a ∈ bts k n → a < 256)
  | 0, n, a, h => by cases h
  | k + 1, n, a, h => by
    rcases List.mem_cons.1 h with rfl | h
    · omega
    · exact bts_l k _ a h
theorem vV_lt (f : Nat → Nat) : ∀ l : List Nat, (∀ a, a ∈ l → f a < 256) → vV (l.map f) < 256 ^ l.length
  | [], _ => (by show 0 < 1; decide)
  | a :: l, h => by
    have i := vV_lt f l fun b hb => h b (List.mem_cons_of_mem _ hb)
    have j := h a (List.mem_cons_self ..)
    show f a + 256 * vV (l.map f) < 256 ^ (l.length + 1)
    rw [Nat.pow_succ]
    omega
def w1 (x : BitVec 64) : BitVec 64 := x - ((zlushr x 1) &&& (6148914691236517205#64))
def w2 (x : BitVec 64) : BitVec 64 := (x &&& (3689348814741910323#64)) + ((zlushr x 2) &&& (3689348814741910323#64))
def w3 (x : BitVec 64) : BitVec 64 := (x + (zlushr x 4)) &&& (1085102592571150095#64)
def w4 (x : BitVec 64) : BitVec 64 := x + (zlushr x 8)
def w5 (x : BitVec 64) : BitVec 64 := x + (zlushr x 16)
def w6 (x : BitVec 64) : BitVec 64 := x + (zlushr x 32)
theorem bitc_w (x : BitVec 64) : f_Lo_bitCount x = zand (zl2i (w6 (w5 (w4 (w3 (w2 (w1 x))))))) 127 := rfl
theorem sh_n (x : BitVec 64) {y : Int} (h0 : 0 ≤ y) (h1 : y < 64) : (zlushr x y).toNat = x.toNat / 2 ^ y.toNat := by
  rw [zlushr_e x h0 h1, BitVec.toNat_ushiftRight, Nat.shiftRight_eq_div_pow]
theorem add_sh {u : BitVec 64} {e d r : Nat} {y : Int} (h0 : 0 ≤ y) (h1 : y < 64) (hu : u.toNat = e) (hd : e / 2 ^ y.toNat = d) (hs : e + d = r) (hr : r < 2 ^ 64) : (u + zlushr u y).toNat = r := by
  rw [BitVec.toNat_add, sh_n _ h0 h1, hu, hd, hs, Nat.mod_eq_of_lt hr]
theorem bitc_n (x : BitVec 64) : f_Lo_bitCount x = (pop 64 x.toNat : Int) := by
  rw [bitc_w]
  have hx : x.toNat < 2 ^ 64 := x.isLt
  have lV := bts_V 8 x.toNat hx
  have lb := bts_l 8 x.toNat
  have ll : (bts 8 x.toNat).length = 8 := rfl
  have mk : ∀ m : Nat, vV ((bts 8 x.toNat).map fun _ => m) = vV (List.replicate 8 m) := fun m => rfl
  have pe := pop_V (bts 8 x.toNat) lb
  rw [ll, lV] at pe
  have s1 := swar_1 lb
  have s2 := swar_2 lb
  have s3 := swar_3 lb
  have key := fun a ha => byte_c ⟨a, lb a ha⟩
  rw [lV, mk, show vV (List.replicate 8 85) = 6148914691236517205 by decide] at s1
  rw [mk, show vV (List.replicate 8 51) = 3689348814741910323 by decide] at s2
  rw [mk, show vV (List.replicate 8 15) = 1085102592571150095 by decide] at s3
  have b2 := vV_lt (fun a => 2 * c2 a) (bts 8 x.toNat) (fun a ha => by have := (key a ha).2.2.1; simp only at this; omega)
  rw [vV_mul, ll] at b2
  have b2 : 2 * vV ((bts 8 x.toNat).map c2) < 2 ^ 64 := b2
  have h1 : (w1 x).toNat = vV ((bts 8 x.toNat).map c1) := by
    unfold w1
    have e : (zlushr x 1 &&& 6148914691236517205#64).toNat = (x.toNat / 2) &&& 6148914691236517205 := by
      rw [BitVec.toNat_and, sh_n x (by decide) (by decide)]
      rfl
    have le : (x.toNat / 2) &&& 6148914691236517205 ≤ x.toNat := Nat.le_trans Nat.and_le_left (Nat.div_le_self _ _)
    rw [BitVec.toNat_sub_of_le (by rw [BitVec.le_def, e]; exact le), e]
    exact s1.1
  have h2 : (w2 (w1 x)).toNat = vV ((bts 8 x.toNat).map c2) := by
    unfold w2
    rw [BitVec.toNat_add, BitVec.toNat_and, BitVec.toNat_and, sh_n _ (by decide) (by decide), h1]
    show ((vV ((bts 8 x.toNat).map c1) &&& 3689348814741910323) + (vV ((bts 8 x.toNat).map c1) / 4 &&& 3689348814741910323)) % 2 ^ 64 = _
    rw [s2, Nat.mod_eq_of_lt (by omega)]
  have h3 : (w3 (w2 (w1 x))).toNat = vV ((bts 8 x.toNat).map (pop 8)) := by
    unfold w3
    rw [BitVec.toNat_and, BitVec.toNat_add, sh_n _ (by decide) (by decide), h2]
    show (vV ((bts 8 x.toNat).map c2) + vV ((bts 8 x.toNat).map c2) / 16) % 2 ^ 64 &&& 1085102592571150095 = _
    rw [Nat.mod_eq_of_lt (by omega), s3]
  generalize hl : bts 8 x.toNat = l at *
  have e8 : ∃ b0 b1 b2 b3 b4 b5 b6 b7, l = [b0, b1, b2, b3, b4, b5, b6, b7] := by
    rw [← hl]
    exact ⟨_, _, _, _, _, _, _, _, rfl⟩
  obtain ⟨b0, b1, b2', b3, b4, b5, b6, b7, rfl⟩ := e8
  have bd := fun a ha => (key a ha).2.2.2.2
  simp only [List.mem_cons, List.not_mem_nil, or_false] at bd
  have q0 := bd b0 (by simp)
  have q1 := bd b1 (by simp)
  have q2 := bd b2' (by simp)
  have q3 := bd b3 (by simp)
  have q4 := bd b4 (by simp)
  have q5 := bd b5 (by simp)
  have q6 := bd b6 (by simp)
  have q7 := bd b7 (by simp)
  have h3 : (w3 (w2 (w1 x))).toNat = vV [pop 8 b0, pop 8 b1, pop 8 b2', pop 8 b3, pop 8 b4, pop 8 b5, pop 8 b6, pop 8 b7] := h3
  have pe : pop 64 x.toNat = pop 8 b0 + (pop 8 b1 + (pop 8 b2' + (pop 8 b3 + (pop 8 b4 + (pop 8 b5 + (pop 8 b6 + (pop 8 b7 + 0))))))) := pe
  rw [pe]
  clear pe s1 s2 s3 key lb lV h1 h2 bd b2 mk ll hl
  generalize w3 (w2 (w1 x)) = y at *
  generalize pop 8 b0 = p0 at *
  generalize pop 8 b1 = p1 at *
  generalize pop 8 b2' = p2 at *
  generalize pop 8 b3 = p3 at *
  generalize pop 8 b4 = p4 at *
  generalize pop 8 b5 = p5 at *
  generalize pop 8 b6 = p6 at *
  generalize pop 8 b7 = p7 at *
  obtain ⟨a1, a2, a3⟩ := sw_a q0 q1 q2 q3 q4 q5 q6 q7
  obtain ⟨c1, c2, c3⟩ := sw_b q0 q1 q2 q3 q4 q5 q6 q7
  obtain ⟨d1, d2, d3⟩ := sw_c q0 q1 q2 q3 q4 q5 q6 q7
  have d4 := sw_d q0 q1 q2 q3 q4 q5 q6 q7
  have h3 : y.toNat = p0 + 256 * (p1 + 256 * (p2 + 256 * (p3 + 256 * (p4 + 256 * (p5 + 256 * (p6 + 256 * (p7 + 256 * 0))))))) := h3
  have g4 := add_sh (u := y) (y := 8) (by decide) (by decide) h3 a1 a2 a3
  have g5 := add_sh (u := w4 y) (y := 16) (by decide) (by decide) g4 c1 c2 c3
  have g6 := add_sh (u := w5 (w4 y)) (y := 32) (by decide) (by decide) g5 d1 d2 d3
  have g6 : (w6 (w5 (w4 y))).toNat % 128 = p0 + (p1 + (p2 + (p3 + (p4 + (p5 + (p6 + (p7 + 0))))))) := (congrArg (· % 128) g6).trans d4
  clear g4 g5 a1 a2 a3 c1 c2 c3 d1 d2 d3 d4 h3
  rw [← g6]
  generalize w6 (w5 (w4 y)) = u
  show (Int32.ofInt ((Int64.ofBitVec u).toInt32.toInt) &&& Int32.ofInt 127).toInt = _
  rw [Int32.ofInt_toInt]
  have ev : ((Int64.ofBitVec u).toInt32 &&& Int32.ofInt 127).toBitVec = BitVec.ofNat 32 (u.toNat % 128) := by
    rw [Int32.toBitVec_and]
    apply BitVec.eq_of_toNat_eq
    rw [BitVec.toNat_and, BitVec.toNat_ofNat, show (Int32.ofInt 127).toBitVec.toNat = 2 ^ 7 - 1 by decide, Nat.and_two_pow_sub_one_eq_mod]
    have : (Int64.ofBitVec u).toInt32.toBitVec.toNat = u.toNat % 2 ^ 32 := by
      show (u.signExtend 32).toNat = _
      rw [BitVec.signExtend_eq_setWidth_of_le _ (by decide), BitVec.toNat_setWidth]
    rw [this]
    omega
  show (((Int64.ofBitVec u).toInt32 &&& Int32.ofInt 127).toBitVec).toInt = _
  rw [ev, BitVec.toInt_eq_toNat_of_lt (by rw [BitVec.toNat_ofNat]; omega), BitVec.toNat_ofNat]
  omega
theorem bit_n (x : BitVec 64) {m : Nat} (hm : m < 64) : b_M_holds x (m : Int) ↔ x.toNat / 2 ^ m % 2 = 1 := by
  rw [holds_e x (by omega) (by omega)]
  show x.getLsbD m = true ↔ _
  rw [BitVec.getLsbD, Nat.testBit_eq_decide_div_mod_eq, decide_eq_true_eq]
theorem zs_pop (x : BitVec 64) : ∀ (n m : Nat), m + n ≤ 64 → zsum (fun k => if b_M_holds x k then 1 else 0) (m : Int) n = (pop n (x.toNat / 2 ^ m) : Int)
  | 0, _, _ => rfl
  | n + 1, m, h => by
    have i := zs_pop x n (m + 1) (by omega)
    show (if b_M_holds x (m : Int) then (1 : Int) else 0) + zsum (fun k => if b_M_holds x k then 1 else 0) ((m : Int) + 1) n = ((x.toNat / 2 ^ m % 2 + pop n (x.toNat / 2 ^ m / 2) : Nat) : Int)
    have e : x.toNat / 2 ^ (m + 1) = x.toNat / 2 ^ m / 2 := by rw [Nat.pow_succ, Nat.div_div_eq_div_mul]
    rw [show (m : Int) + 1 = ((m + 1 : Nat) : Int) by omega, i, e]
    by_cases c : b_M_holds x (m : Int)
    · rw [if_pos c]
      have := (bit_n x (by omega)).1 c
      omega
    · rw [if_neg c]
      have : ¬ x.toNat / 2 ^ m % 2 = 1 := fun z => c ((bit_n x (by omega)).2 z)
      omega
theorem ones_n (x : BitVec 64) : f_M_ones x = (pop 64 x.toNat : Int) := by
  have := zs_pop x 64 0 (by omega)
  rw [Nat.pow_zero, Nat.div_one] at this
  exact this
/-- bits counted at once are bits counted one by one -/
theorem bitc_e' (x : BitVec 64) : f_Lo_bitCount x = f_M_ones x := (bitc_n x).trans (ones_n x).symm
theorem pop_low : ∀ (w k : Nat), k ≤ w → pop w (2 ^ k - 1) = k
  | 0, k, h => by
    obtain rfl : k = 0 := by omega
    rfl
  | w + 1, 0, _ => by
    show 0 % 2 + pop w (0 / 2) = 0
    have := pop_low w 0 (by omega)
    rw [Nat.pow_zero] at this
    exact (Nat.zero_add _).trans this
  | w + 1, k + 1, h => by
    have p := Nat.two_pow_pos k
    show (2 ^ (k + 1) - 1) % 2 + pop w ((2 ^ (k + 1) - 1) / 2) = k + 1
    rw [Nat.pow_succ, show (2 ^ k * 2 - 1) / 2 = 2 ^ k - 1 by omega, pop_low w k (by omega)]
    omega
theorem and_0 {m w : Nat} (h : m < 2 ^ w) : m &&& (2 ^ w - (m + 1)) = 0 := by
  apply Nat.eq_of_testBit_eq
  intro i
  rw [Nat.testBit_and, Nat.testBit_two_pow_sub_succ h, Nat.zero_testBit]
  by_cases c : i < w
  · simp [c]
  · simp [c]
theorem and_2 (a b : Nat) : (2 * a) &&& (2 * b) = 2 * (a &&& b) := by
  apply Nat.eq_of_testBit_eq
  intro i
  rw [Nat.testBit_and, Nat.mul_comm 2, Nat.mul_comm 2, Nat.mul_comm 2]
  cases i with
  | zero => simp
  | succ i => simp [Nat.testBit_succ]
theorem and_21 (a b : Nat) : (2 * a + 1) &&& (2 * b + 1) = 2 * (a &&& b) + 1 := by
  apply Nat.eq_of_testBit_eq
  intro i
  rw [Nat.testBit_and]
  cases i with
  | zero => simp
  | succ i =>
    rw [Nat.testBit_succ, Nat.testBit_succ, Nat.testBit_succ, show (2 * a + 1) / 2 = a by omega, show (2 * b + 1) / 2 = b by omega, show (2 * (a &&& b) + 1) / 2 = a &&& b by omega, Nat.testBit_and]
theorem lst_bit : ∀ (w n : Nat), 0 < n → n < 2 ^ w → ∃ k, k < w ∧ n &&& (2 ^ w - n) = 2 ^ k ∧ n / 2 ^ k % 2 = 1 ∧ ∀ j, j < k → n / 2 ^ j % 2 = 0
  | 0, n, h0, h1 => by
    rw [Nat.pow_zero] at h1
    omega
  | w + 1, n, h0, h1 => by
    rw [Nat.pow_succ] at *
    by_cases c : n % 2 = 1
    · refine ⟨0, by omega, ?_, by rw [Nat.pow_zero, Nat.div_one]; exact c, fun j hj => by omega⟩
      have e : n = 2 * (n / 2) + 1 := by omega
      have f : 2 ^ w * 2 - n = 2 * (2 ^ w - (n / 2 + 1)) + 1 := by omega
      rw [f]
      conv => lhs; lhs; rw [e]
      rw [and_21, and_0 (by omega)]
    · obtain ⟨k, k1, k2, k3, k4⟩ := lst_bit w (n / 2) (by omega) (by omega)
      refine ⟨k + 1, by omega, ?_, ?_, fun j hj => ?_⟩
      · have e : n = 2 * (n / 2) := by omega
        rw [show 2 ^ w * 2 - n = 2 * (2 ^ w - n / 2) by omega]
        conv => lhs; lhs; rw [e]
        rw [and_2, k2, Nat.pow_succ, Nat.mul_comm]
      · rw [Nat.pow_succ, Nat.mul_comm, ← Nat.div_div_eq_div_mul]; exact k3
      · cases j with
        | zero => rw [Nat.pow_zero, Nat.div_one]; omega
        | succ j =>
          rw [Nat.pow_succ, Nat.mul_comm, ← Nat.div_div_eq_div_mul]
          exact k4 j (by omega)
theorem zfind_at {p : Int → Prop} [DecidablePred p] {k : Nat} (hk : p (k : Int)) : ∀ (n m : Nat), m ≤ k → k < m + n → (∀ j : Nat, m ≤ j → j < k → ¬ p (j : Int)) → zfind p (m : Int) n = k
  | 0, m, h0, h1, _ => by omega
  | n + 1, m, h0, h1, h => by
    show (if p (m : Int) then (m : Int) else zfind p ((m : Int) + 1) n) = k
    by_cases c : m = k
    · subst c
      rw [if_pos hk]
    · rw [if_neg (h m (Nat.le_refl _) (by omega)), show (m : Int) + 1 = ((m + 1 : Nat) : Int) by omega]
      exact zfind_at hk n (m + 1) (by omega) (by omega) (fun j q1 q2 => h j (by omega) q2)
theorem zfind_nx {p : Int → Prop} [DecidablePred p] : ∀ (n m : Nat), (∀ j : Nat, m ≤ j → j < m + n → ¬ p (j : Int)) → zfind p (m : Int) n = -1
  | 0, m, _ => rfl
  | n + 1, m, h => by
    show (if p (m : Int) then (m : Int) else zfind p ((m : Int) + 1) n) = -1
    rw [if_neg (h m (Nat.le_refl _) (by omega)), show (m : Int) + 1 = ((m + 1 : Nat) : Int) by omega]
    exact zfind_nx n (m + 1) (fun j q1 q2 => h j (by omega) (by omega))
theorem leastc_e' (x : BitVec 64) : f_S_least x = f_M_leastOf x := by
  unfold f_S_least f_M_leastOf
  by_cases c : x = 0#64
  · subst c
    rw [if_pos rfl]
    exact (zfind_nx 64 0 (fun j _ h2 z => by
      have := (bit_n 0#64 (m := j) (by omega)).1 z
      rw [show (0#64).toNat = 0 from rfl, Nat.zero_div] at this
      omega)).symm
  · rw [if_neg c]
    have hx : x.toNat < 2 ^ 64 := x.isLt
    have h0 : 0 < x.toNat := Nat.pos_of_ne_zero (fun z => c (BitVec.eq_of_toNat_eq z))
    obtain ⟨k, k1, k2, k3, k4⟩ := lst_bit 64 x.toNat h0 hx
    have pk : 2 ^ k < 2 ^ 64 := Nat.pow_lt_pow_right (by decide) k1
    have pp := Nat.two_pow_pos k
    have e1 : (x &&& -x).toNat = 2 ^ k := by
      rw [BitVec.toNat_and, BitVec.toNat_neg, Nat.mod_eq_of_lt (by omega)]
      exact k2
    have e2 : ((x &&& -x) - 1#64).toNat = 2 ^ k - 1 := by
      rw [BitVec.toNat_sub_of_le (by rw [BitVec.le_def, e1]; show 1 ≤ 2 ^ k; omega), e1]
      rfl
    rw [bitc_n, e2, pop_low 64 k (by omega)]
    exact (zfind_at (p := fun k => b_M_holds x k) ((bit_n x k1).2 k3) 64 0 (by omega) (by omega) (fun j _ h2 z => by
      have := (bit_n x (by omega)).1 z
      have := k4 j h2
      omega)).symm
theorem sh8 (b : BitVec 32) (s : Nat) (hs : s ≤ 24) : (b >>> s).setWidth 8 = (b.sshiftRight s).setWidth 8 := by
  apply BitVec.eq_of_getLsbD_eq
  intro i hi
  rw [BitVec.getLsbD_setWidth, BitVec.getLsbD_setWidth, BitVec.getLsbD_ushiftRight, BitVec.getLsbD_sshiftRight]
  rw [show decide (32 ≤ i) = false from decide_eq_false (by omega), if_pos (by omega)]
  rfl
theorem zb_s (x : Int) {y : Int} {s : Nat} (hs : s ≤ 24) (h1 : (Int32.ofInt y &&& 31).toBitVec.smod 32 = BitVec.ofNat 32 s) (h2 : ((Int32.ofInt y).toUInt32 &&& Int32.toUInt32 31).toBitVec % 32 = BitVec.ofNat 32 s) : zi2b (zushr x y) = zi2b (zshr x y) := by
  show (Int32.ofInt (((Int32.ofInt x).toUInt32 >>> ((Int32.ofInt y).toUInt32 &&& Int32.toUInt32 31)).toInt32.toInt)).toInt8.toInt32.toInt = (Int32.ofInt ((Int32.ofInt x >>> (Int32.ofInt y &&& 31)).toInt)).toInt8.toInt32.toInt
  rw [Int32.ofInt_toInt, Int32.ofInt_toInt]
  generalize Int32.ofInt x = a
  have e : (a.toUInt32 >>> ((Int32.ofInt y).toUInt32 &&& Int32.toUInt32 31)).toInt32.toInt8 = (a >>> (Int32.ofInt y &&& 31)).toInt8 := by
    apply Int8.toBitVec.inj
    show ((a.toUInt32 >>> ((Int32.ofInt y).toUInt32 &&& Int32.toUInt32 31)).toBitVec).signExtend 8 = ((a >>> (Int32.ofInt y &&& 31)).toBitVec).signExtend 8
    rw [BitVec.signExtend_eq_setWidth_of_le _ (by decide), BitVec.signExtend_eq_setWidth_of_le _ (by decide), Int32.toBitVec_shiftRight, UInt32.toBitVec_shiftRight, h1, h2]
    have t : (BitVec.ofNat 32 s).toNat = s := by rw [BitVec.toNat_ofNat]; omega
    rw [BitVec.ushiftRight_eq', BitVec.sshiftRight', t]
    exact sh8 _ s hs
  rw [e]
theorem zb_u' (x : Int) : zi2b (zushr x 24) = zi2b (zshr x 24) ∧ zi2b (zushr x 16) = zi2b (zshr x 16) ∧ zi2b (zushr x 8) = zi2b (zshr x 8) ∧ zi2b (zushr x 0) = zi2b x := by
  refine ⟨zb_s x (s := 24) (by decide) (by decide) (by decide), zb_s x (s := 16) (by decide) (by decide) (by decide), zb_s x (s := 8) (by decide) (by decide) (by decide), (zb_s x (s := 0) (by decide) (by decide) (by decide)).trans ?_⟩
  show (Int32.ofInt ((Int32.ofInt x >>> (Int32.ofInt 0 &&& 31)).toInt)).toInt8.toInt32.toInt = (Int32.ofInt x).toInt8.toInt32.toInt
  rw [Int32.ofInt_toInt]
  generalize Int32.ofInt x = a
  have e : a >>> (Int32.ofInt 0 &&& 31) = a := by
    apply Int32.toBitVec.inj
    rw [Int32.toBitVec_shiftRight, show (Int32.ofInt 0 &&& 31).toBitVec.smod 32 = 0#32 by decide, BitVec.sshiftRight', show (0#32).toNat = 0 from rfl, BitVec.sshiftRight_zero]
  rw [e]
end POPD

