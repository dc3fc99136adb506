/-! Four letters in one number, and what the class takes out of it. -/
def b32 (x : Int) : BitVec 32 := (Int32.ofInt x).toBitVec
def pk (x c : Int) : Int := zor (zshl x 8) c
theorem pk_b (x c : Int) : b32 (pk x c) = (b32 x <<< 8) ||| b32 c := by
  show (Int32.ofInt (zor (zshl x 8) c)).toBitVec = _
  rw [zor_e, zshl_e, Int32.toBitVec_or, Int32.toBitVec_shiftLeft]
  rw [show (Int32.ofInt 8 &&& 31 : Int32) = 8 from by decide]
  rfl
theorem b32_c {c : Int} (h0 : 0 ≤ c) (h1 : c < 128) : b32 c = BitVec.ofNat 32 c.toNat := by
  have e : c = ((c.toNat : Nat) : Int) := by omega
  unfold b32
  rw [Int32.toBitVec_ofInt]
  conv => lhs; rw [e]
  exact BitVec.ofInt_natCast ..
theorem lowA (B : BitVec 32) {c s : Nat} (hc : c < 128) (hs : s + 8 ≤ 24) : (((B <<< 8) ||| BitVec.ofNat 32 c) >>> (s + 8)).setWidth 8 = (B >>> s).setWidth 8 := by
  apply BitVec.eq_of_getLsbD_eq
  intro i hi
  rw [BitVec.getLsbD_setWidth, BitVec.getLsbD_setWidth, BitVec.getLsbD_ushiftRight, BitVec.getLsbD_ushiftRight, BitVec.getLsbD_or, BitVec.getLsbD_shiftLeft]
  have z : (BitVec.ofNat 32 c).getLsbD (s + 8 + i) = false := by
    rw [BitVec.getLsbD_ofNat, Nat.testBit_lt_two_pow, Bool.and_false]
    exact Nat.lt_of_lt_of_le hc (Nat.le_trans (by decide : 128 ≤ 2 ^ 7) (Nat.pow_le_pow_right (by decide) (by omega)))
  rw [z, Bool.or_false, show decide (s + 8 + i < 32) = true from decide_eq_true (by omega), show decide (s + 8 + i < 8) = false from decide_eq_false (by omega), show s + 8 + i - 8 = s + i from by omega]
  rfl
theorem lowB (B : BitVec 32) {c : Nat} (hc : c < 128) : (((B <<< 8) ||| BitVec.ofNat 32 c)).setWidth 8 = BitVec.ofNat 8 c := by
  apply BitVec.eq_of_getLsbD_eq
  intro i hi
  rw [BitVec.getLsbD_setWidth, BitVec.getLsbD_or, BitVec.getLsbD_shiftLeft, BitVec.getLsbD_ofNat, BitVec.getLsbD_ofNat]
  rw [show decide (i < 8) = true from decide_eq_true hi, show decide (i < 32) = true from decide_eq_true (by omega)]
  rfl
theorem zb_b {x y : Int} {s : Nat} (hs : s ≤ 24) (h1 : (Int32.ofInt y &&& 31).toBitVec.smod 32 = BitVec.ofNat 32 s) : zi2b (zshr x y) = ((b32 x >>> s).setWidth 8).toInt := by
  show (Int32.ofInt ((Int32.ofInt x >>> (Int32.ofInt y &&& 31)).toInt)).toInt8.toInt32.toInt = _
  rw [Int32.ofInt_toInt, Int8.toInt_toInt32]
  show (((Int32.ofInt x >>> (Int32.ofInt y &&& 31)).toBitVec).signExtend 8).toInt = _
  have t : (BitVec.ofNat 32 s).toNat = s := by rw [BitVec.toNat_ofNat]; omega
  rw [BitVec.signExtend_eq_setWidth_of_le _ (by decide), Int32.toBitVec_shiftRight, h1, BitVec.sshiftRight', t, ← sh8 _ s hs]
  rfl
theorem zb_0 (x : Int) : zi2b x = ((b32 x).setWidth 8).toInt := by
  show ((Int32.ofInt x).toInt8.toInt32).toInt = _
  rw [Int8.toInt_toInt32]
  show ((Int32.ofInt x).toBitVec.signExtend 8).toInt = _
  rw [BitVec.signExtend_eq_setWidth_of_le _ (by decide)]
  rfl
theorem o8_c {c : Int} (h0 : 0 ≤ c) (h1 : c < 128) : (BitVec.ofNat 8 c.toNat).toInt = c := by
  rw [BitVec.toInt_eq_toNat_of_lt (by rw [BitVec.toNat_ofNat]; omega), BitVec.toNat_ofNat]
  omega
theorem pk_0 (x : Int) {c : Int} (h0 : 0 ≤ c) (h1 : c < 128) : zi2b (pk x c) = c := by
  rw [zb_0, pk_b, b32_c h0 h1, lowB _ (by omega), o8_c h0 h1]
theorem pk_8 (x : Int) {c d : Int} (h0 : 0 ≤ c) (h1 : c < 128) (d0 : 0 ≤ d) (d1 : d < 128) : zi2b (zshr (pk (pk x c) d) 8) = c := by
  rw [zb_b (s := 8) (by decide) (by decide), pk_b, b32_c d0 d1, lowA (s := 0) _ (by omega) (by decide), pk_b, b32_c h0 h1]
  rw [show (b32 x <<< 8 ||| BitVec.ofNat 32 c.toNat) >>> 0 = (b32 x <<< 8 ||| BitVec.ofNat 32 c.toNat) from BitVec.ushiftRight_zero .., lowB _ (by omega), o8_c h0 h1]
theorem pk_s {x c d y y2 : Int} {s : Nat} (d0 : 0 ≤ d) (d1 : d < 128) (hs : s + 8 ≤ 24) (h1 : (Int32.ofInt y &&& 31).toBitVec.smod 32 = BitVec.ofNat 32 (s + 8)) (h2 : (Int32.ofInt y2 &&& 31).toBitVec.smod 32 = BitVec.ofNat 32 s) : zi2b (zshr (pk x d) y) = zi2b (zshr x y2) := by
  rw [zb_b (s := s + 8) hs h1, zb_b (s := s) (by omega) h2, pk_b, b32_c d0 d1, lowA _ (by omega) hs]
theorem pk_16 (x : Int) {c d e : Int} (h0 : 0 ≤ c) (h1 : c < 128) (d0 : 0 ≤ d) (d1 : d < 128) (e0 : 0 ≤ e) (e1 : e < 128) : zi2b (zshr (pk (pk (pk x c) d) e) 16) = c := by
  rw [pk_s (c := 0) (y2 := 8) (s := 8) e0 e1 (by decide) (by decide) (by decide)]
  exact pk_8 x h0 h1 d0 d1
theorem pk_24 (x : Int) {c d e f : Int} (h0 : 0 ≤ c) (h1 : c < 128) (d0 : 0 ≤ d) (d1 : d < 128) (e0 : 0 ≤ e) (e1 : e < 128) (f0 : 0 ≤ f) (f1 : f < 128) : zi2b (zshr (pk (pk (pk (pk x c) d) e) f) 24) = c := by
  rw [pk_s (c := 0) (y2 := 16) (s := 16) f0 f1 (by decide) (by decide) (by decide)]
  exact pk_16 x h0 h1 d0 d1 e0 e1
/-- t letters of f, after x -/
def pkn (x : Int) (f : Nat → Int) : Nat → Int
  | 0 => x
  | t + 1 => pk (pkn x f t) (f t)
def asc (f : Nat → Int) : Prop := ∀ i, 0 ≤ f i ∧ f i < 128
theorem fd4_e {x : Int} {f : Nat → Int} (A : asc f) (I : Nat → Int) (m : Nat) : fd4 (pkn x f 4) (I, (m : Int)) = ((fun i => if m ≤ i ∧ i < m + 4 then f (i - m) else I i), ((m + 4 : Nat) : Int)) := by
  have e : fd4 (pkn x f 4) (I, (m : Int)) = (upN (upN (upN (upN I m (zi2b (zshr (pkn x f 4) 24))) (m + 1) (zi2b (zshr (pkn x f 4) 16))) (m + 2) (zi2b (zshr (pkn x f 4) 8))) (m + 3) (zi2b (pkn x f 4)), (m : Int) + 4) := rfl
  rw [e]
  have a24 : zi2b (zshr (pkn x f 4) 24) = f 0 := pk_24 x (A 0).1 (A 0).2 (A 1).1 (A 1).2 (A 2).1 (A 2).2 (A 3).1 (A 3).2
  have a16 : zi2b (zshr (pkn x f 4) 16) = f 1 := pk_16 _ (A 1).1 (A 1).2 (A 2).1 (A 2).2 (A 3).1 (A 3).2
  have a8 : zi2b (zshr (pkn x f 4) 8) = f 2 := pk_8 _ (A 2).1 (A 2).2 (A 3).1 (A 3).2
  have a0 : zi2b (pkn x f 4) = f 3 := pk_0 _ (A 3).1 (A 3).2
  rw [a24, a16, a8, a0]
  refine Prod.ext ?_ (by show (m : Int) + 4 = ((m + 4 : Nat) : Int); omega)
  funext i
  show (if i = m + 3 then f 3 else if i = m + 2 then f 2 else if i = m + 1 then f 1 else if i = m then f 0 else I i) = if m ≤ i ∧ i < m + 4 then f (i - m) else I i
  by_cases c : m ≤ i ∧ i < m + 4
  · rw [if_pos c]
    have : i = m ∨ i = m + 1 ∨ i = m + 2 ∨ i = m + 3 := by omega
    rcases this with q | q | q | q
    · rw [if_neg (by omega), if_neg (by omega), if_neg (by omega), if_pos q, q, Nat.sub_self]
    · rw [if_neg (by omega), if_neg (by omega), if_pos q, q, Nat.add_sub_cancel_left]
    · rw [if_neg (by omega), if_pos q, q, Nat.add_sub_cancel_left]
    · rw [if_pos q, q, Nat.add_sub_cancel_left]
  · rw [if_neg c, if_neg (by omega), if_neg (by omega), if_neg (by omega), if_neg (by omega)]
theorem fd5_e {x0 x1 x2 x3 x4 : Int} {f : Nat → Int} (A : asc f) (I : Nat → Int) (m : Nat) : (fd5 (pkn x0 (fun i => f i) 4) (pkn x1 (fun i => f (4 + i)) 4) (pkn x2 (fun i => f (8 + i)) 4) (pkn x3 (fun i => f (12 + i)) 4) (pkn x4 (fun i => f (16 + i)) 4) (I, (m : Int))).1 = fun i => if m ≤ i ∧ i < m + 20 then f (i - m) else I i := by
  unfold fd5
  rw [fd4_e (f := fun i => f i) A, fd4_e (f := fun i => f (4 + i)) (fun i => A _), fd4_e (f := fun i => f (8 + i)) (fun i => A _), fd4_e (f := fun i => f (12 + i)) (fun i => A _), fd4_e (f := fun i => f (16 + i)) (fun i => A _)]
  funext i
  show (if m + 4 + 4 + 4 + 4 ≤ i ∧ i < m + 4 + 4 + 4 + 4 + 4 then f (16 + (i - (m + 4 + 4 + 4 + 4))) else if m + 4 + 4 + 4 ≤ i ∧ i < m + 4 + 4 + 4 + 4 then f (12 + (i - (m + 4 + 4 + 4))) else if m + 4 + 4 ≤ i ∧ i < m + 4 + 4 + 4 then f (8 + (i - (m + 4 + 4))) else if m + 4 ≤ i ∧ i < m + 4 + 4 then f (4 + (i - (m + 4))) else if m ≤ i ∧ i < m + 4 then f (i - m) else I i) = if m ≤ i ∧ i < m + 20 then f (i - m) else I i
  by_cases c : m ≤ i ∧ i < m + 20
  · rw [if_pos c]
    by_cases c4 : m + 16 ≤ i
    · rw [if_pos (by omega), show 16 + (i - (m + 4 + 4 + 4 + 4)) = i - m from by omega]
    · rw [if_neg (by omega)]
      by_cases c3 : m + 12 ≤ i
      · rw [if_pos (by omega), show 12 + (i - (m + 4 + 4 + 4)) = i - m from by omega]
      · rw [if_neg (by omega)]
        by_cases c2 : m + 8 ≤ i
        · rw [if_pos (by omega), show 8 + (i - (m + 4 + 4)) = i - m from by omega]
        · rw [if_neg (by omega)]
          by_cases c1 : m + 4 ≤ i
          · rw [if_pos (by omega), show 4 + (i - (m + 4)) = i - m from by omega]
          · rw [if_neg (by omega), if_pos (by omega)]
  · rw [if_neg c, if_neg (by omega), if_neg (by omega), if_neg (by omega), if_neg (by omega), if_neg (by omega)]
