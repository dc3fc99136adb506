/-! The law: what its small calls come to. -/
def yS (x : Int) : Int := zxor (zwadd (zwmul x 1103515245) 12345) (zushr (zwadd (zwmul x 1103515245) 12345) 15)
def yV (x : Int) : Int := zushr (yS x) 9
theorem zushr_9 (x : Int) : 0 ≤ zushr x 9 ∧ zushr x 9 < 8388608 := by
  have e : zushr x 9 = ((Int32.ofInt x).toUInt32 >>> ((Int32.ofInt 9).toUInt32 &&& Int32.toUInt32 31)).toInt32.toInt := rfl
  rw [e, show ((Int32.ofInt 9).toUInt32 &&& Int32.toUInt32 31) = (9 : UInt32) from by decide]
  generalize (Int32.ofInt x).toUInt32 = u
  have b : (u >>> 9).toNat < 8388608 := by
    rw [UInt32.toNat_shiftRight, show (9 : UInt32).toNat % 32 = 9 from rfl, Nat.shiftRight_eq_div_pow]
    have := u.toNat_lt
    omega
  have t : (u >>> 9).toInt32.toInt = ((u >>> 9).toNat : Int) := by
    show (u >>> 9).toBitVec.toInt = _
    rw [BitVec.toInt_eq_toNat_of_lt (by show 2 * (u >>> 9).toNat < 2 ^ 32; omega)]
    rfl
  rw [t]
  omega
theorem yV_r (x : Int) : 0 ≤ yV x ∧ yV x < 8388608 := zushr_9 _
theorem sI_sI (h : zH) (a k : Nat) (v w : Int) : sI (sI h a k v) a k w = sI h a k w := by
  have e : zup (zup (hI h) a k v) a k w = zup (hI h) a k w := by
    funext b j
    unfold zup
    split
    · rfl
    · rfl
  show (hN h, hU h, hT h, hL h, hR h, zup (zup (hI h) a k v) a k w, hJ h, hF h, hD h) = _
  rw [e]
  rfl
theorem c_next {h : zH} {a : Nat} (t : hT h a = 22) (n : a < hN h) (l : 0 < hL h a) : zC 207 [zR (some a)] h = some (.inl (some (zI (yV (hI h a 0)))), sI h a 0 (yS (hI h a 0))) := by
  refine (q_L_next t n).trans ?_
  have g : (0 : Int) ≤ 0 ∧ 0 < (hL h a : Int) := by omega
  rw [gd_t g, gd_t g, gd_t g, gd_t g, gd_t g, gd_t g]
  simp only [hI_sI, zup_s, sI_sI]
  rfl
