/-! Sets of states as bits. -/
def bt (x : BitVec 64) (s : Int) : Bool := x.getLsbD s.toNat
theorem bt_ext {x y : BitVec 64} (h : ∀ s : Int, 0 ≤ s → s < 64 → bt x s = bt y s) : x = y := by
  apply BitVec.eq_of_getLsbD_eq
  intro i hi
  have h1 := h i (by omega) (by omega)
  unfold bt at h1
  rwa [Int.toNat_natCast] at h1
theorem zlushr_e (x : BitVec 64) {y : Int} (h0 : 0 ≤ y) (h1 : y < 64) : zlushr x y = x >>> y.toNat := by
  have h2 : zlushr x y = x >>> (((Int32.ofInt y).toInt64.toUInt64 &&& Int64.toUInt64 63).toBitVec % 64) := rfl
  rw [h2, BitVec.ushiftRight_eq']
  congr 1
  exact finN (P := fun y => (((Int32.ofInt y).toInt64.toUInt64 &&& Int64.toUInt64 63).toBitVec % 64).toNat = y.toNat) (n := 64) (by decide +kernel) h0 h1
theorem zlshl_e (x : BitVec 64) {y : Int} (h0 : 0 ≤ y) (h1 : y < 64) : zlshl x y = x <<< y.toNat := by
  have h2 : zlshl x y = x <<< (((Int32.ofInt y).toInt64 &&& 63).toBitVec.smod 64) := rfl
  rw [h2, BitVec.shiftLeft_eq']
  congr 1
  exact finN (P := fun y => (((Int32.ofInt y).toInt64 &&& 63).toBitVec.smod 64).toNat = y.toNat) (n := 64) (by decide +kernel) h0 h1
theorem and1 (x : BitVec 64) : x &&& 1#64 = if x.getLsbD 0 then 1#64 else 0#64 := by
  apply BitVec.eq_of_getLsbD_eq
  intro i hi
  by_cases e : i = 0
  · subst e
    cases hx : x.getLsbD 0 <;> (rw [BitVec.getLsbD_and, hx]; rfl)
  · cases x.getLsbD 0 <;> simp [BitVec.getLsbD_one, e]
theorem bt_ushr (x : BitVec 64) {y : Int} (h0 : 0 ≤ y) (h1 : y < 64) : zlushr x y &&& 1#64 = if bt x y then 1#64 else 0#64 := by
  rw [zlushr_e x h0 h1, and1, show (x >>> y.toNat).getLsbD 0 = bt x y by simp [bt]]
theorem holds_e (x : BitVec 64) {y : Int} (h0 : 0 ≤ y) (h1 : y < 64) : b_M_holds x y ↔ bt x y = true := by
  unfold b_M_holds
  rw [bt_ushr x h0 h1]
  cases bt x y <;> decide
theorem bt_and (x y : BitVec 64) (s : Int) : bt (x &&& y) s = (bt x s && bt y s) := by simp [bt]
theorem bt_or (x y : BitVec 64) (s : Int) : bt (x ||| y) s = (bt x s || bt y s) := by simp [bt]
theorem bt_xor (x y : BitVec 64) (s : Int) : bt (x ^^^ y) s = (bt x s ^^ bt y s) := by simp [bt]
theorem bt_not (x : BitVec 64) {s : Int} (h0 : 0 ≤ s) (h1 : s < 64) : bt (~~~ x) s = !bt x s := by
  simp only [bt, BitVec.getLsbD_not]
  rw [show decide (s.toNat < 64) = true from decide_eq_true (by omega), Bool.true_and]
theorem bt_0 (s : Int) : bt 0#64 s = false := by simp [bt]
theorem not_e (x : BitVec 64) : x ^^^ 18446744073709551615#64 = ~~~ x := by
  rw [show (18446744073709551615#64 : BitVec 64) = BitVec.allOnes 64 by decide, BitVec.xor_allOnes]
theorem bt_1 {y s : Int} (h0 : 0 ≤ y) (h1 : y < 64) (h2 : 0 ≤ s) (h3 : s < 64) : bt (zlshl 1#64 y) s = decide (s = y) := by
  rw [zlshl_e _ h0 h1]
  have h4 : s.toNat < 64 := by omega
  have h5 : y.toNat < 64 := by omega
  by_cases h : s = y
  · subst h
    simp [bt, h4]
  · have h6 : s.toNat ≠ y.toNat := by omega
    simp only [bt, BitVec.getLsbD_shiftLeft, BitVec.getLsbD_one, decide_eq_false h]
    by_cases h7 : s.toNat < y.toNat
    · simp [h7]
    · have h8 : ¬ s.toNat - y.toNat = 0 := by omega
      simp [h8]
      try omega
/-- the set of the states below n for which p holds -/
def bor (p : Int → Bool) : Nat → BitVec 64
  | 0 => 0#64
  | n + 1 => bor p n ||| (if p n then zlshl 1#64 n else 0#64)
theorem bt_bor (p : Int → Bool) : ∀ (n : Nat), n ≤ 64 → ∀ {s : Int}, 0 ≤ s → s < 64 → bt (bor p n) s = (decide (s < n) && p s)
  | 0, _, s, h0, h1 => by
    have h2 : ¬ s < 0 := by omega
    simp [bor, bt_0, h2]
  | n + 1, hn, s, h0, h1 => by
    rw [bor, bt_or, bt_bor p n (by omega) h0 h1]
    by_cases h : s = n
    · subst h
      have h2 : ¬ (n : Int) < n := by omega
      have h3 : (n : Int) < ((n + 1 : Nat) : Int) := by omega
      cases hp : p n
      · simp [bt_0]
      · simp only [hp, if_true]
        rw [bt_1 h0 h1 h0 h1, decide_eq_true h3]
        simp
    · have h2 : bt (if p n = true then zlshl 1#64 n else 0#64) s = false := by
        cases hp : p n
        · simp [bt_0]
        · rw [if_pos rfl, bt_1 (by omega) (by omega) h0 h1, decide_eq_false h]
      rw [h2, Bool.or_false]
      congr 1
      exact decide_eq_decide.mpr (by omega)
def bset (p : Int → Bool) : BitVec 64 := bor p 64
theorem bt_set (p : Int → Bool) {s : Int} (h0 : 0 ≤ s) (h1 : s < 64) : bt (bset p) s = p s := by
  unfold bset
  rw [bt_bor p 64 (by omega) h0 h1, decide_eq_true (by omega), Bool.true_and]
theorem bset_congr {p q : Int → Bool} (h : ∀ s, 0 ≤ s → s < 64 → p s = q s) : bset p = bset q :=
  bt_ext fun s h0 h1 => by rw [bt_set p h0 h1, bt_set q h0 h1, h s h0 h1]
theorem bset_bt (x : BitVec 64) : bset (bt x) = x := bt_ext fun s h0 h1 => bt_set _ h0 h1
theorem zi2l_1 {y : Int} (h0 : 0 ≤ y) (h1 : y < 2) {k : Int} : zlshl (zi2l y) k = if y = 1 then zlshl 1#64 k else zlshl 0#64 k := by
  have h2 : y = 0 ∨ y = 1 := by omega
  rcases h2 with rfl | rfl <;> rfl
theorem zlshl_0 {k : Int} (h0 : 0 ≤ k) (h1 : k < 64) : zlshl 0#64 k = 0#64 := by rw [zlshl_e _ h0 h1]; simp
theorem ones_e (x : BitVec 64) : f_M_ones x = zsum (fun k => if bt x k = true then 1 else 0) 0 64 := by
  unfold f_M_ones
  refine zsum_congr 64 0 fun k h0 h1 => ?_
  by_cases h : b_M_holds x k
  · rw [if_pos h, if_pos ((holds_e x (by omega) (by omega)).1 h)]
  · rw [if_neg h, if_neg (fun e => h ((holds_e x (by omega) (by omega)).2 e))]
theorem least_e (x : BitVec 64) : f_M_leastOf x = zfind (fun k => bt x k = true) 0 64 := by
  unfold f_M_leastOf
  exact zfind_congr 64 0 fun k h0 h1 => holds_e x (by omega) (by omega)
/-- the states in which a condition holds -/
def setL (l : List Int) : BitVec 64 := bset fun s => decide (val l s = 1)
theorem bt_setL (l : List Int) {s : Int} (h0 : 0 ≤ s) (h1 : s < 64) : bt (setL l) s = decide (val l s = 1) := bt_set _ h0 h1

