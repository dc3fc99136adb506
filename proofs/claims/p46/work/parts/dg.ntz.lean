/-! Java's number of the least bit; bits of floats, as the law asks for them. -/
theorem q_Lo_numberOfTrailingZeros {h : zH} {j0 : BitVec 64}  : zC 227 [zJ j0] h =
    if (zl2i j0) = 0 then zY 227 7 [some (zJ j0), none, some (zI (zl2i j0))] [] h else zY 227 21 [some (zJ j0), none, some (zI (zl2i j0))] [] h := by
  refine (show zC 227 [zJ j0] h = if (zl2i j0) = 0 then zY 227 7 [some (zJ j0), none, some (zI (zl2i j0))] [] h else zY 227 21 [some (zJ j0), none, some (zI (zl2i j0))] [] h from zGo 5 227 0 _ _ _).trans ?_
  rfl
theorem q_Lo_numberOfTrailingZeros_7 {h : zH} {j0 : BitVec 64} {x2 : Int}  : zY 227 7 [some (zJ j0), none, some (zI x2)] [] h =
    zBack zY 227 14 17 [some (zJ j0), none, some (zI x2)] [zI 32] (zC 257 [zI (zl2i (zlushr j0 32))] h) := by
  refine (show zY 227 7 [some (zJ j0), none, some (zI x2)] [] h = gd (-128 ≤ (32 : Int) ∧ (32 : Int) < 128) (gd (-128 ≤ (32 : Int) ∧ (32 : Int) < 128) (gd (zrecv 257 = 0) (gd (false = zspc 257 ∧ zcs [zI 32] ≤ 8 ∧ zrm 227 (zrf 257 + 1) (8 + (zmaxl 257 + 11) + zrl 257) = true ∧ zcs [zI (zl2i (zlushr j0 32))] ≤ zmaxl 257) (zBack zY 227 14 17 [some (zJ j0), none, some (zI x2)] [zI 32] (zC 257 [zI (zl2i (zlushr j0 32))] h))))) from zGo 6 227 7 _ _ _).trans ?_
  refine (gd_t (by decide) _).trans ?_
  refine (gd_t (by decide) _).trans ?_
  refine (gd_t (rfl) _).trans ?_
  refine (gd_t (⟨rfl, Nat.le_of_ble_eq_true rfl, rfl, Nat.le_of_ble_eq_true rfl⟩) _).trans ?_
  rfl
theorem q_Lo_numberOfTrailingZeros_21 {h : zH} {j0 : BitVec 64} {x2 : Int}  : zY 227 21 [some (zJ j0), none, some (zI x2)] [] h =
    zBack zY 227 22 25 [some (zJ j0), none, some (zI x2)] [] (zC 257 [zI x2] h) := by
  refine (show zY 227 21 [some (zJ j0), none, some (zI x2)] [] h = gd (zrecv 257 = 0) (gd (false = zspc 257 ∧ zcs [] ≤ 8 ∧ zrm 227 (zrf 257 + 1) (8 + (zmaxl 257 + 11) + zrl 257) = true ∧ zcs [zI x2] ≤ zmaxl 257) (zBack zY 227 22 25 [some (zJ j0), none, some (zI x2)] [] (zC 257 [zI x2] h))) from zGo 2 227 21 _ _ _).trans ?_
  refine (gd_t (rfl) _).trans ?_
  refine (gd_t (⟨rfl, Nat.le_of_ble_eq_true rfl, rfl, Nat.le_of_ble_eq_true rfl⟩) _).trans ?_
  rfl
theorem q_Lo_numberOfTrailingZeros_17 {h : zH} {j0 : BitVec 64} {x2 : Int} {y0 : Int} {y1 : Int}  : zY 227 17 [some (zJ j0), none, some (zI x2)] [zI y1, zI y0] h =
    some (.inl (some (zI (zwadd y0 y1))), h) := by
  refine (show zY 227 17 [some (zJ j0), none, some (zI x2)] [zI y1, zI y0] h = gd (([] : List zV).isEmpty = true ∧ (zrk 227 = 1 ∨ zrk 227 = 6 ∧ (((zwadd y0 y1) : Int) = 0 ∨ ((zwadd y0 y1) : Int) = 1))) (some (.inl (some (zI (zwadd y0 y1))), h)) from zGo 3 227 17 _ _ _).trans ?_
  refine (gd_t (⟨rfl, Or.inl rfl⟩) _).trans ?_
  rfl
theorem q_Lo_numberOfTrailingZeros_25 {h : zH} {j0 : BitVec 64} {x2 : Int} {y0 : Int}  : zY 227 25 [some (zJ j0), none, some (zI x2)] [zI y0] h =
    some (.inl (some (zI y0)), h) := by
  refine (show zY 227 25 [some (zJ j0), none, some (zI x2)] [zI y0] h = gd (([] : List zV).isEmpty = true ∧ (zrk 227 = 1 ∨ zrk 227 = 6 ∧ ((y0 : Int) = 0 ∨ (y0 : Int) = 1))) (some (.inl (some (zI y0)), h)) from zGo 1 227 25 _ _ _).trans ?_
  refine (gd_t (⟨rfl, Or.inl rfl⟩) _).trans ?_
  rfl
theorem q_In_numberOfTrailingZeros {h : zH} {x0 : Int}  : zC 257 [zI x0] h =
    if 0 < (zand (zxor x0 (-1)) (zwsub x0 1)) then zY 257 17 [some (zI (zand (zxor x0 (-1)) (zwsub x0 1))), none] [] h else zY 257 12 [some (zI (zand (zxor x0 (-1)) (zwsub x0 1))), none] [] h := by
  refine (show zC 257 [zI x0] h = gd (inR (-1)) (gd (inR (1)) (if 0 < (zand (zxor x0 (-1)) (zwsub x0 1)) then zY 257 17 [some (zI (zand (zxor x0 (-1)) (zwsub x0 1))), none] [] h else zY 257 12 [some (zI (zand (zxor x0 (-1)) (zwsub x0 1))), none] [] h)) from zGo 10 257 0 _ _ _).trans ?_
  refine (gd_t (by decide) _).trans ?_
  refine (gd_t (by decide) _).trans ?_
  rfl
theorem q_In_numberOfTrailingZeros_17 {h : zH} {x0 : Int}  : zY 257 17 [some (zI x0), none] [] h =
    if 65536 < x0 then zY 257 26 [some (zI x0), some (zI 1)] [] h else zY 257 34 [some (zI x0), some (zI 1)] [] h := by
  refine (show zY 257 17 [some (zI x0), none] [] h = gd (inR (1)) (if 65536 < x0 then zY 257 26 [some (zI x0), some (zI 1)] [] h else zY 257 34 [some (zI x0), some (zI 1)] [] h) from zGo 5 257 17 _ _ _).trans ?_
  refine (gd_t (by decide) _).trans ?_
  rfl
theorem q_In_numberOfTrailingZeros_12 {h : zH} {x0 : Int}  : zY 257 12 [some (zI x0), none] [] h =
    some (.inl (some (zI (zand x0 32))), h) := by
  refine (show zY 257 12 [some (zI x0), none] [] h = gd (-128 ≤ (32 : Int) ∧ (32 : Int) < 128) (gd (([] : List zV).isEmpty = true ∧ (zrk 257 = 1 ∨ zrk 257 = 6 ∧ (((zand x0 32) : Int) = 0 ∨ ((zand x0 32) : Int) = 1) ∨ zrk 257 = 7 ∧ (0 : Int) ≤ (zand x0 32) ∧ ((zand x0 32) : Int) < 65536 ∨ zrk 257 = 8 ∧ (-128 : Int) ≤ (zand x0 32) ∧ ((zand x0 32) : Int) < 128)) (some (.inl (some (zI (zand x0 32))), h))) from zGo 4 257 12 _ _ _).trans ?_
  refine (gd_t (by decide) _).trans ?_
  refine (gd_t (⟨rfl, Or.inl rfl⟩) _).trans ?_
  rfl
theorem q_In_numberOfTrailingZeros_26 {h : zH} {x0 : Int} {x1 : Int}  : zY 257 26 [some (zI x0), some (zI x1)] [] h =
    gd (inR (x1 + 16)) (if 256 < (zushr x0 16) then zY 257 41 [some (zI (zushr x0 16)), some (zI (x1 + 16))] [] h else zY 257 49 [some (zI (zushr x0 16)), some (zI (x1 + 16))] [] h) := by
  refine (show zY 257 26 [some (zI x0), some (zI x1)] [] h = gd (inR (x1 + 16)) (gd (inR (16)) (gd (-128 ≤ (16 : Int) ∧ (16 : Int) < 128) (gd (-32768 ≤ (256 : Int) ∧ (256 : Int) < 32768) (if 256 < (zushr x0 16) then zY 257 41 [some (zI (zushr x0 16)), some (zI (x1 + 16))] [] h else zY 257 49 [some (zI (zushr x0 16)), some (zI (x1 + 16))] [] h)))) from zGo 8 257 26 _ _ _).trans ?_
  refine gd_c (Iff.rfl) (fun _ => ?_)
  refine (gd_t (by decide) _).trans ?_
  refine (gd_t (by decide) _).trans ?_
  refine (gd_t (by decide) _).trans ?_
  rfl
theorem q_In_numberOfTrailingZeros_34 {h : zH} {x0 : Int} {x1 : Int}  : zY 257 34 [some (zI x0), some (zI x1)] [] h =
    if 256 < x0 then zY 257 41 [some (zI x0), some (zI x1)] [] h else zY 257 49 [some (zI x0), some (zI x1)] [] h := by
  refine (show zY 257 34 [some (zI x0), some (zI x1)] [] h = gd (-32768 ≤ (256 : Int) ∧ (256 : Int) < 32768) (if 256 < x0 then zY 257 41 [some (zI x0), some (zI x1)] [] h else zY 257 49 [some (zI x0), some (zI x1)] [] h) from zGo 3 257 34 _ _ _).trans ?_
  refine (gd_t (by decide) _).trans ?_
  rfl
theorem q_In_numberOfTrailingZeros_41 {h : zH} {x0 : Int} {x1 : Int}  : zY 257 41 [some (zI x0), some (zI x1)] [] h =
    gd (inR (x1 + 8)) (if 16 < (zushr x0 8) then zY 257 55 [some (zI (zushr x0 8)), some (zI (x1 + 8))] [] h else zY 257 62 [some (zI (zushr x0 8)), some (zI (x1 + 8))] [] h) := by
  refine (show zY 257 41 [some (zI x0), some (zI x1)] [] h = gd (inR (x1 + 8)) (gd (inR (8)) (gd (-128 ≤ (8 : Int) ∧ (8 : Int) < 128) (gd (-128 ≤ (16 : Int) ∧ (16 : Int) < 128) (if 16 < (zushr x0 8) then zY 257 55 [some (zI (zushr x0 8)), some (zI (x1 + 8))] [] h else zY 257 62 [some (zI (zushr x0 8)), some (zI (x1 + 8))] [] h)))) from zGo 8 257 41 _ _ _).trans ?_
  refine gd_c (Iff.rfl) (fun _ => ?_)
  refine (gd_t (by decide) _).trans ?_
  refine (gd_t (by decide) _).trans ?_
  refine (gd_t (by decide) _).trans ?_
  rfl
theorem q_In_numberOfTrailingZeros_49 {h : zH} {x0 : Int} {x1 : Int}  : zY 257 49 [some (zI x0), some (zI x1)] [] h =
    if 16 < x0 then zY 257 55 [some (zI x0), some (zI x1)] [] h else zY 257 62 [some (zI x0), some (zI x1)] [] h := by
  refine (show zY 257 49 [some (zI x0), some (zI x1)] [] h = gd (-128 ≤ (16 : Int) ∧ (16 : Int) < 128) (if 16 < x0 then zY 257 55 [some (zI x0), some (zI x1)] [] h else zY 257 62 [some (zI x0), some (zI x1)] [] h) from zGo 3 257 49 _ _ _).trans ?_
  refine (gd_t (by decide) _).trans ?_
  rfl
theorem q_In_numberOfTrailingZeros_55 {h : zH} {x0 : Int} {x1 : Int}  : zY 257 55 [some (zI x0), some (zI x1)] [] h =
    gd (inR (x1 + 4)) (if 4 < (zushr x0 4) then zY 257 67 [some (zI (zushr x0 4)), some (zI (x1 + 4))] [] h else zY 257 74 [some (zI (zushr x0 4)), some (zI (x1 + 4))] [] h) := by
  refine (show zY 257 55 [some (zI x0), some (zI x1)] [] h = gd (inR (x1 + 4)) (gd (inR (4)) (gd (inR (4)) (gd (inR (4)) (if 4 < (zushr x0 4) then zY 257 67 [some (zI (zushr x0 4)), some (zI (x1 + 4))] [] h else zY 257 74 [some (zI (zushr x0 4)), some (zI (x1 + 4))] [] h)))) from zGo 8 257 55 _ _ _).trans ?_
  refine gd_c (Iff.rfl) (fun _ => ?_)
  refine (gd_t (by decide) _).trans ?_
  refine (gd_t (by decide) _).trans ?_
  refine (gd_t (by decide) _).trans ?_
  rfl
theorem q_In_numberOfTrailingZeros_62 {h : zH} {x0 : Int} {x1 : Int}  : zY 257 62 [some (zI x0), some (zI x1)] [] h =
    if 4 < x0 then zY 257 67 [some (zI x0), some (zI x1)] [] h else zY 257 74 [some (zI x0), some (zI x1)] [] h := by
  refine (show zY 257 62 [some (zI x0), some (zI x1)] [] h = gd (inR (4)) (if 4 < x0 then zY 257 67 [some (zI x0), some (zI x1)] [] h else zY 257 74 [some (zI x0), some (zI x1)] [] h) from zGo 3 257 62 _ _ _).trans ?_
  refine (gd_t (by decide) _).trans ?_
  rfl
theorem q_In_numberOfTrailingZeros_67 {h : zH} {x0 : Int} {x1 : Int}  : zY 257 67 [some (zI x0), some (zI x1)] [] h =
    gd (inR (x1 + 2)) (some (.inl (some (zI (zwadd (x1 + 2) (zushr (zushr x0 2) 1)))), h)) := by
  refine (show zY 257 67 [some (zI x0), some (zI x1)] [] h = gd (inR (x1 + 2)) (gd (inR (2)) (gd (inR (2)) (gd (inR (1)) (gd (([] : List zV).isEmpty = true ∧ (zrk 257 = 1 ∨ zrk 257 = 6 ∧ (((zwadd (x1 + 2) (zushr (zushr x0 2) 1)) : Int) = 0 ∨ ((zwadd (x1 + 2) (zushr (zushr x0 2) 1)) : Int) = 1) ∨ zrk 257 = 7 ∧ (0 : Int) ≤ (zwadd (x1 + 2) (zushr (zushr x0 2) 1)) ∧ ((zwadd (x1 + 2) (zushr (zushr x0 2) 1)) : Int) < 65536 ∨ zrk 257 = 8 ∧ (-128 : Int) ≤ (zwadd (x1 + 2) (zushr (zushr x0 2) 1)) ∧ ((zwadd (x1 + 2) (zushr (zushr x0 2) 1)) : Int) < 128)) (some (.inl (some (zI (zwadd (x1 + 2) (zushr (zushr x0 2) 1)))), h)))))) from zGo 11 257 67 _ _ _).trans ?_
  refine gd_c (Iff.rfl) (fun _ => ?_)
  refine (gd_t (by decide) _).trans ?_
  refine (gd_t (by decide) _).trans ?_
  refine (gd_t (by decide) _).trans ?_
  refine (gd_t (⟨rfl, Or.inl rfl⟩) _).trans ?_
  rfl
theorem q_In_numberOfTrailingZeros_74 {h : zH} {x0 : Int} {x1 : Int}  : zY 257 74 [some (zI x0), some (zI x1)] [] h =
    some (.inl (some (zI (zwadd x1 (zushr x0 1)))), h) := by
  refine (show zY 257 74 [some (zI x0), some (zI x1)] [] h = gd (inR (1)) (gd (([] : List zV).isEmpty = true ∧ (zrk 257 = 1 ∨ zrk 257 = 6 ∧ (((zwadd x1 (zushr x0 1)) : Int) = 0 ∨ ((zwadd x1 (zushr x0 1)) : Int) = 1) ∨ zrk 257 = 7 ∧ (0 : Int) ≤ (zwadd x1 (zushr x0 1)) ∧ ((zwadd x1 (zushr x0 1)) : Int) < 65536 ∨ zrk 257 = 8 ∧ (-128 : Int) ≤ (zwadd x1 (zushr x0 1)) ∧ ((zwadd x1 (zushr x0 1)) : Int) < 128)) (some (.inl (some (zI (zwadd x1 (zushr x0 1)))), h))) from zGo 6 257 74 _ _ _).trans ?_
  refine (gd_t (by decide) _).trans ?_
  refine (gd_t (⟨rfl, Or.inl rfl⟩) _).trans ?_
  rfl
theorem q_Fl_floatToIntBits {h : zH} {f0 : UInt32}  : zC 233 [zF f0] h =
    zBack zY 233 1 4 [some (zF f0)] [] (zC 234 [zF f0] h) := by
  refine (show zC 233 [zF f0] h = gd (zrecv 234 = 0) (gd (false = zspc 234 ∧ zcs [] ≤ 8 ∧ zrm 233 (zrf 234 + 1) (8 + (zmaxl 234 + 11) + zrl 234) = true ∧ zcs [zF f0] ≤ zmaxl 234) (zBack zY 233 1 4 [some (zF f0)] [] (zC 234 [zF f0] h))) from zGo 2 233 0 _ _ _).trans ?_
  refine (gd_t (rfl) _).trans ?_
  refine (gd_t (⟨rfl, Nat.le_of_ble_eq_true rfl, rfl, Nat.le_of_ble_eq_true rfl⟩) _).trans ?_
  rfl
theorem q_Fl_floatToIntBits_4 {h : zH} {f0 : UInt32} {y0 : Int}  : zY 233 4 [some (zF f0)] [zI y0] h =
    if y0 = 0 then zY 233 7 [some (zF f0)] [] h else zY 233 12 [some (zF f0)] [] h := by
  refine (show zY 233 4 [some (zF f0)] [zI y0] h = if y0 = 0 then zY 233 7 [some (zF f0)] [] h else zY 233 12 [some (zF f0)] [] h from zGo 1 233 4 _ _ _).trans ?_
  rfl
theorem q_Fl_floatToIntBits_7 {h : zH} {f0 : UInt32}  : zY 233 7 [some (zF f0)] [] h =
    some (.inl (some (zI ((UInt32.toInt32 f0).toInt))), h) := by
  refine (show zY 233 7 [some (zF f0)] [] h = gd (902 = 902 ∨ 902 = 903 ∨ 902 = 906) (gd (zcs [] ≤ 8 ∧ zrm 233 1 27 = true) (gd (([] : List zV).isEmpty = true ∧ (zrk 233 = 1 ∨ zrk 233 = 6 ∧ (((UInt32.toInt32 f0).toInt : Int) = 0 ∨ ((UInt32.toInt32 f0).toInt : Int) = 1))) (some (.inl (some (zI ((UInt32.toInt32 f0).toInt))), h)))) from zGo 3 233 7 _ _ _).trans ?_
  refine (gd_t (by decide) _).trans ?_
  refine (gd_t (⟨Nat.le_of_ble_eq_true rfl, rfl⟩) _).trans ?_
  refine (gd_t (⟨rfl, Or.inl rfl⟩) _).trans ?_
  rfl
theorem q_Fl_floatToIntBits_12 {h : zH} {f0 : UInt32}  : zY 233 12 [some (zF f0)] [] h =
    some (.inl (some (zI 2143289344)), h) := by
  refine (show zY 233 12 [some (zF f0)] [] h = gd (([] : List zV).isEmpty = true ∧ (zrk 233 = 1 ∨ zrk 233 = 6 ∧ ((2143289344 : Int) = 0 ∨ (2143289344 : Int) = 1))) (some (.inl (some (zI 2143289344)), h)) from zGo 2 233 12 _ _ _).trans ?_
  refine (gd_t (⟨rfl, Or.inl rfl⟩) _).trans ?_
  rfl
theorem q_Fl_isNaN {h : zH} {f0 : UInt32}  : zC 234 [zF f0] h =
    if (Op.cmpValue (FP.fcmp f0 f0) .l).toInt = 0 then zY 234 10 [some (zF f0)] [] h else zY 234 6 [some (zF f0)] [] h := by
  refine (show zC 234 [zF f0] h = if (Op.cmpValue (FP.fcmp f0 f0) .l).toInt = 0 then zY 234 10 [some (zF f0)] [] h else zY 234 6 [some (zF f0)] [] h from zGo 4 234 0 _ _ _).trans ?_
  rfl
theorem q_Fl_isNaN_10 {h : zH} {f0 : UInt32}  : zY 234 10 [some (zF f0)] [] h =
    some (.inl (some (zI 0)), h) := by
  refine (show zY 234 10 [some (zF f0)] [] h = gd (inR (0)) (gd (([] : List zV).isEmpty = true ∧ (zrk 234 = 1 ∨ zrk 234 = 6 ∧ ((0 : Int) = 0 ∨ (0 : Int) = 1))) (some (.inl (some (zI 0)), h))) from zGo 2 234 10 _ _ _).trans ?_
  refine (gd_t (by decide) _).trans ?_
  refine (gd_t (⟨rfl, Or.inr ⟨rfl, by decide⟩⟩) _).trans ?_
  rfl
theorem q_Fl_isNaN_6 {h : zH} {f0 : UInt32}  : zY 234 6 [some (zF f0)] [] h =
    some (.inl (some (zI 1)), h) := by
  refine (show zY 234 6 [some (zF f0)] [] h = gd (inR (1)) (gd (([] : List zV).isEmpty = true ∧ (zrk 234 = 1 ∨ zrk 234 = 6 ∧ ((1 : Int) = 0 ∨ (1 : Int) = 1))) (some (.inl (some (zI 1)), h))) from zGo 3 234 6 _ _ _).trans ?_
  refine (gd_t (by decide) _).trans ?_
  refine (gd_t (⟨rfl, Or.inr ⟨rfl, by decide⟩⟩) _).trans ?_
  rfl
theorem q_Do_doubleToLongBits {h : zH} {d0 : UInt64}  : zC 235 [zD d0] h =
    zBack zY 235 1 4 [some (zD d0), none] [] (zC 236 [zD d0] h) := by
  refine (show zC 235 [zD d0] h = gd (zrecv 236 = 0) (gd (false = zspc 236 ∧ zcs [] ≤ 8 ∧ zrm 235 (zrf 236 + 1) (8 + (zmaxl 236 + 11) + zrl 236) = true ∧ zcs [zD d0] ≤ zmaxl 236) (zBack zY 235 1 4 [some (zD d0), none] [] (zC 236 [zD d0] h))) from zGo 2 235 0 _ _ _).trans ?_
  refine (gd_t (rfl) _).trans ?_
  refine (gd_t (⟨rfl, Nat.le_of_ble_eq_true rfl, rfl, Nat.le_of_ble_eq_true rfl⟩) _).trans ?_
  rfl
theorem q_Do_doubleToLongBits_4 {h : zH} {d0 : UInt64} {y0 : Int}  : zY 235 4 [some (zD d0), none] [zI y0] h =
    if y0 = 0 then zY 235 7 [some (zD d0), none] [] h else zY 235 12 [some (zD d0), none] [] h := by
  refine (show zY 235 4 [some (zD d0), none] [zI y0] h = if y0 = 0 then zY 235 7 [some (zD d0), none] [] h else zY 235 12 [some (zD d0), none] [] h from zGo 1 235 4 _ _ _).trans ?_
  rfl
theorem q_Do_doubleToLongBits_7 {h : zH} {d0 : UInt64}  : zY 235 7 [some (zD d0), none] [] h =
    some (.inl (some (zJ ((UInt64.toInt64 d0).toBitVec))), h) := by
  refine (show zY 235 7 [some (zD d0), none] [] h = gd (903 = 902 ∨ 903 = 903 ∨ 903 = 906) (gd (zcs [] ≤ 8 ∧ zrm 235 1 27 = true) (gd (([] : List zV).isEmpty = true ∧ zrk 235 = 2) (some (.inl (some (zJ ((UInt64.toInt64 d0).toBitVec))), h)))) from zGo 3 235 7 _ _ _).trans ?_
  refine (gd_t (by decide) _).trans ?_
  refine (gd_t (⟨Nat.le_of_ble_eq_true rfl, rfl⟩) _).trans ?_
  refine (gd_t (⟨rfl, rfl⟩) _).trans ?_
  rfl
theorem q_Do_doubleToLongBits_12 {h : zH} {d0 : UInt64}  : zY 235 12 [some (zD d0), none] [] h =
    some (.inl (some (zJ (9221120237041090560#64))), h) := by
  refine (show zY 235 12 [some (zD d0), none] [] h = gd (([] : List zV).isEmpty = true ∧ zrk 235 = 2) (some (.inl (some (zJ (9221120237041090560#64))), h)) from zGo 2 235 12 _ _ _).trans ?_
  refine (gd_t (⟨rfl, rfl⟩) _).trans ?_
  rfl
theorem q_Do_isNaN {h : zH} {d0 : UInt64}  : zC 236 [zD d0] h =
    if (Op.cmpValue (FP.dcmp d0 d0) .l).toInt = 0 then zY 236 10 [some (zD d0), none] [] h else zY 236 6 [some (zD d0), none] [] h := by
  refine (show zC 236 [zD d0] h = if (Op.cmpValue (FP.dcmp d0 d0) .l).toInt = 0 then zY 236 10 [some (zD d0), none] [] h else zY 236 6 [some (zD d0), none] [] h from zGo 4 236 0 _ _ _).trans ?_
  rfl
theorem q_Do_isNaN_10 {h : zH} {d0 : UInt64}  : zY 236 10 [some (zD d0), none] [] h =
    some (.inl (some (zI 0)), h) := by
  refine (show zY 236 10 [some (zD d0), none] [] h = gd (inR (0)) (gd (([] : List zV).isEmpty = true ∧ (zrk 236 = 1 ∨ zrk 236 = 6 ∧ ((0 : Int) = 0 ∨ (0 : Int) = 1))) (some (.inl (some (zI 0)), h))) from zGo 2 236 10 _ _ _).trans ?_
  refine (gd_t (by decide) _).trans ?_
  refine (gd_t (⟨rfl, Or.inr ⟨rfl, by decide⟩⟩) _).trans ?_
  rfl
theorem q_Do_isNaN_6 {h : zH} {d0 : UInt64}  : zY 236 6 [some (zD d0), none] [] h =
    some (.inl (some (zI 1)), h) := by
  refine (show zY 236 6 [some (zD d0), none] [] h = gd (inR (1)) (gd (([] : List zV).isEmpty = true ∧ (zrk 236 = 1 ∨ zrk 236 = 6 ∧ ((1 : Int) = 0 ∨ (1 : Int) = 1))) (some (.inl (some (zI 1)), h))) from zGo 3 236 6 _ _ _).trans ?_
  refine (gd_t (by decide) _).trans ?_
  refine (gd_t (⟨rfl, Or.inr ⟨rfl, by decide⟩⟩) _).trans ?_
  rfl
def nzA (i n : Int) : Int := if 4 < i then zwadd (n + 2) (zushr (zushr i 2) 1) else zwadd n (zushr i 1)
def nzB (i n : Int) : Int := if 16 < i then nzA (zushr i 4) (n + 4) else nzA i n
def nzC (i n : Int) : Int := if 256 < i then nzB (zushr i 8) (n + 8) else nzB i n
def nzF (i : Int) : Int := if 65536 < i then nzC (zushr i 16) (1 + 16) else nzC i 1
def nzI (x : Int) : Int := if 0 < zand (zxor x (-1)) (zwsub x 1) then nzF (zand (zxor x (-1)) (zwsub x 1)) else zand (zand (zxor x (-1)) (zwsub x 1)) 32
section NTZ
variable {h : zH} {i n : Int}
theorem nz_67 (h0 : 0 ≤ n) (h1 : n ≤ 40) : zY 257 67 [some (zI i), some (zI n)] [] h = some (.inl (some (zI (zwadd (n + 2) (zushr (zushr i 2) 1)))), h) := by
  rw [q_In_numberOfTrailingZeros_67, gd_t (show inR (n + 2) by omega)]
theorem nz_62 (h0 : 0 ≤ n) (h1 : n ≤ 40) : zY 257 62 [some (zI i), some (zI n)] [] h = some (.inl (some (zI (nzA i n))), h) := by
  rw [q_In_numberOfTrailingZeros_62]
  unfold nzA
  by_cases c : 4 < i
  · rw [if_pos c, if_pos c, nz_67 h0 h1]
  · rw [if_neg c, if_neg c, q_In_numberOfTrailingZeros_74]
theorem nz_49 (h0 : 0 ≤ n) (h1 : n ≤ 36) : zY 257 49 [some (zI i), some (zI n)] [] h = some (.inl (some (zI (nzB i n))), h) := by
  rw [q_In_numberOfTrailingZeros_49]
  unfold nzB
  by_cases c : 16 < i
  · rw [if_pos c, if_pos c, q_In_numberOfTrailingZeros_55, gd_t (show inR (n + 4) by omega)]
    unfold nzA
    by_cases d : 4 < zushr i 4
    · rw [if_pos d, if_pos d, nz_67 (by omega) (by omega)]
    · rw [if_neg d, if_neg d, q_In_numberOfTrailingZeros_74]
  · rw [if_neg c, if_neg c, nz_62 h0 (by omega)]
theorem nz_34 (h0 : 0 ≤ n) (h1 : n ≤ 28) : zY 257 34 [some (zI i), some (zI n)] [] h = some (.inl (some (zI (nzC i n))), h) := by
  rw [q_In_numberOfTrailingZeros_34]
  unfold nzC
  by_cases c : 256 < i
  · rw [if_pos c, if_pos c, q_In_numberOfTrailingZeros_41, gd_t (show inR (n + 8) by omega)]
    have q := nz_49 (h := h) (i := zushr i 8) (n := n + 8) (by omega) (by omega)
    rw [q_In_numberOfTrailingZeros_49] at q
    unfold nzB at q ⊢
    by_cases d : 16 < zushr i 8
    · rw [if_pos d] at q ⊢
      rw [if_pos d] at q
      rw [if_pos d]
      exact q
    · rw [if_neg d] at q ⊢
      rw [if_neg d] at q
      rw [if_neg d]
      exact q
  · rw [if_neg c, if_neg c, nz_49 h0 (by omega)]
theorem nz_17 : zY 257 17 [some (zI i), none] [] h = some (.inl (some (zI (nzF i))), h) := by
  rw [q_In_numberOfTrailingZeros_17]
  unfold nzF
  by_cases c : 65536 < i
  · rw [if_pos c, if_pos c, q_In_numberOfTrailingZeros_26, gd_t (show inR ((1 : Int) + 16) by decide)]
    have q := nz_34 (h := h) (i := zushr i 16) (n := 1 + 16) (by decide) (by decide)
    rw [q_In_numberOfTrailingZeros_34] at q
    by_cases d : 256 < zushr i 16
    · rw [if_pos d] at q ⊢
      exact q
    · rw [if_neg d] at q ⊢
      exact q
  · rw [if_neg c, if_neg c, nz_34 (by decide) (by decide)]
theorem nz_I {x : Int} : zC 257 [zI x] h = some (.inl (some (zI (nzI x))), h) := by
  rw [q_In_numberOfTrailingZeros]
  unfold nzI
  by_cases c : 0 < zand (zxor x (-1)) (zwsub x 1)
  · rw [if_pos c, if_pos c, nz_17]
  · rw [if_neg c, if_neg c, q_In_numberOfTrailingZeros_12]
theorem nzF_all : ∀ k : Fin 31, nzF ((2 ^ (k.val + 1) - 1 : Nat) : Int) = (k.val : Int) + 1 := by decide +kernel
theorem lst_bit2 : ∀ (w n : Nat), 0 < n → n < 2 ^ w → ∃ k, k < w ∧ (2 ^ w - (n + 1)) &&& (n - 1) = 2 ^ k - 1 ∧ n / 2 ^ k % 2 = 1 ∧ ∀ j, j < k → n / 2 ^ j % 2 = 0
  | 0, n, h0, h1 => by
    rw [Nat.pow_zero] at h1
    omega
  | w + 1, n, h0, h1 => by
    rw [Nat.pow_succ] at *
    by_cases c : n % 2 = 1
    · refine ⟨0, by omega, ?_, by rw [Nat.pow_zero, Nat.div_one]; exact c, fun j hj => by omega⟩
      have e : n - 1 = 2 * (n / 2) := by omega
      have f : 2 ^ w * 2 - (n + 1) = 2 * (2 ^ w - (n / 2 + 1)) := by omega
      rw [f, e, and_2, Nat.and_comm, and_0 (by omega)]
    · obtain ⟨k, k1, k2, k3, k4⟩ := lst_bit2 w (n / 2) (by omega) (by omega)
      refine ⟨k + 1, by omega, ?_, ?_, fun j hj => ?_⟩
      · have p := Nat.two_pow_pos k
        rw [show 2 ^ w * 2 - (n + 1) = 2 * (2 ^ w - (n / 2 + 1)) + 1 by omega, show n - 1 = 2 * (n / 2 - 1) + 1 by omega, and_21, k2, Nat.pow_succ]
        omega
      · rw [Nat.pow_succ, Nat.mul_comm, ← Nat.div_div_eq_div_mul]; exact k3
      · cases j with
        | zero => rw [Nat.pow_zero, Nat.div_one]; omega
        | succ j =>
          rw [Nat.pow_succ, Nat.mul_comm, ← Nat.div_div_eq_div_mul]
          exact k4 j (by omega)
theorem nzI_e {x : Int} {m k : Nat} (hb : (b32 x).toNat = m) (m0 : 0 < m) (k1 : k < 32) (k2 : (2 ^ 32 - (m + 1)) &&& (m - 1) = 2 ^ k - 1) : nzI x = k := by
  have hm : m < 2 ^ 32 := by rw [← hb]; exact (b32 x).isLt
  have e : zand (zxor x (-1)) (zwsub x 1) = ((2 ^ k - 1 : Nat) : Int) := by
    have e0 : zand (zxor x (-1)) (zwsub x 1) = (Int32.ofBitVec ((b32 x ^^^ b32 (-1)) &&& (b32 x - b32 1))).toInt := by
      show (Int32.ofInt (zxor x (-1)) &&& Int32.ofInt (zwsub x 1)).toInt = _
      rw [show Int32.ofInt (zxor x (-1)) = Int32.ofInt x ^^^ Int32.ofInt (-1) from zi_of _, show Int32.ofInt (zwsub x 1) = Int32.ofInt x - Int32.ofInt 1 from zi_of _]
      rfl
    have e1 : ((b32 x ^^^ b32 (-1)) &&& (b32 x - b32 1)).toNat = 2 ^ k - 1 := by
      rw [BitVec.toNat_and, ← k2]
      have a1 : (b32 x ^^^ b32 (-1)).toNat = 2 ^ 32 - (m + 1) := by
        rw [show b32 (-1) = BitVec.allOnes 32 from by decide, BitVec.xor_allOnes, BitVec.toNat_not, hb]
        omega
      have a2 : (b32 x - b32 1).toNat = m - 1 := by
        rw [BitVec.toNat_sub_of_le (by rw [BitVec.le_def, hb]; show 1 ≤ m; omega), hb]
        rfl
      rw [a1, a2]
    have pk : 2 ^ k ≤ 2 ^ 31 := Nat.pow_le_pow_right (by decide) (by omega)
    have p0 := Nat.two_pow_pos k
    rw [e0]
    show ((b32 x ^^^ b32 (-1)) &&& (b32 x - b32 1)).toInt = _
    rw [BitVec.toInt_eq_toNat_of_lt (by rw [e1]; omega), e1]
  unfold nzI
  rw [e]
  cases k with
  | zero => decide
  | succ k =>
    have p0 := Nat.two_pow_pos k
    rw [if_pos (by rw [Nat.pow_succ]; omega)]
    have q := nzF_all ⟨k, by omega⟩
    simp only at q
    rw [q]
    omega
theorem div_mod_lo {N k : Nat} (hk : k < 32) : (N % 2 ^ 32) / 2 ^ k % 2 = 1 ↔ N / 2 ^ k % 2 = 1 := by
  have a := Nat.testBit_eq_decide_div_mod_eq (x := N % 2 ^ 32) (i := k)
  have b := Nat.testBit_eq_decide_div_mod_eq (x := N) (i := k)
  rw [Nat.testBit_mod_two_pow, decide_eq_true hk, Bool.true_and, b] at a
  exact decide_eq_decide.1 a.symm
theorem b32_l2i (x : BitVec 64) : (b32 (zl2i x)).toNat = x.toNat % 2 ^ 32 := by
  have e : b32 (zl2i x) = x.setWidth 32 := by
    show (Int32.ofInt ((Int64.ofBitVec x).toInt32).toInt).toBitVec = _
    rw [Int32.ofInt_toInt]
    show x.signExtend 32 = _
    exact BitVec.signExtend_eq_setWidth_of_le _ (by decide)
  rw [e, BitVec.toNat_setWidth]
theorem b32_0 {x : Int} (h : (b32 x).toNat = 0) (hr : inR x) : x = 0 := by
  have e : b32 x = 0#32 := BitVec.eq_of_toNat_eq h
  have e2 : (Int32.ofInt x).toInt = 0 := by
    show (b32 x).toInt = 0
    rw [e]; rfl
  rw [zw_in hr.1 hr.2] at e2
  exact e2
theorem l2i_r (x : BitVec 64) : inR (zl2i x) := zi_r _
theorem c_ntz {x : BitVec 64} (hx : x ≠ 0#64) : zC 227 [zJ x] h = some (.inl (some (zI (f_M_leastOf x))), h) := by
  have hN : x.toNat < 2 ^ 64 := x.isLt
  have n0 : 0 < x.toNat := Nat.pos_of_ne_zero (fun z => hx (BitVec.eq_of_toNat_eq z))
  have lo := b32_l2i x
  have fin : ∀ K : Nat, K < 64 → x.toNat / 2 ^ K % 2 = 1 → (∀ j, j < K → ¬ x.toNat / 2 ^ j % 2 = 1) → f_M_leastOf x = K := fun K k1 k3 k4 => by
    unfold f_M_leastOf
    exact zfind_at (p := fun k => b_M_holds x k) ((bit_n x k1).2 k3) 64 0 (by omega) (by omega) (fun j _ h2 z => k4 j h2 ((bit_n x (by omega)).1 z))
  rw [q_Lo_numberOfTrailingZeros]
  by_cases c : zl2i x = 0
  · rw [if_pos c, q_Lo_numberOfTrailingZeros_7, nz_I, zbk, q_Lo_numberOfTrailingZeros_17]
    rw [c] at lo
    have l0 : x.toNat % 2 ^ 32 = 0 := lo.symm.trans (by decide)
    have hi := b32_l2i (zlushr x 32)
    have e : (zlushr x 32).toNat = x.toNat / 2 ^ 32 := by
      rw [zlushr_e x (by decide) (by decide), BitVec.toNat_ushiftRight, Nat.shiftRight_eq_div_pow]
      rfl
    rw [e, Nat.mod_eq_of_lt (by omega)] at hi
    obtain ⟨k, k1, k2, k3, k4⟩ := lst_bit2 32 (x.toNat / 2 ^ 32) (by omega) (by omega)
    rw [nzI_e hi (by omega) k1 k2]
    have d : ∀ j, x.toNat / 2 ^ 32 / 2 ^ j = x.toNat / 2 ^ (32 + j) := fun j => by rw [Nat.div_div_eq_div_mul, ← Nat.pow_add]
    have f := fin (32 + k) (by omega) (by rw [← d]; exact k3) (fun j hj => by
      by_cases q : j < 32
      · rw [← div_mod_lo q, l0, Nat.zero_div]; decide
      · have := k4 (j - 32) (by omega)
        rw [d, show 32 + (j - 32) = j from by omega] at this
        omega)
    rw [f, zwadd_e (by omega) (by omega), show ((32 + k : Nat) : Int) = 32 + (k : Int) from by omega]
  · rw [if_neg c, q_Lo_numberOfTrailingZeros_21, nz_I, zbk, q_Lo_numberOfTrailingZeros_25]
    have m0 : 0 < x.toNat % 2 ^ 32 := Nat.pos_of_ne_zero fun z => c (b32_0 (lo.trans z) (l2i_r x))
    obtain ⟨k, k1, k2, k3, k4⟩ := lst_bit2 32 (x.toNat % 2 ^ 32) m0 (Nat.mod_lt _ (by decide))
    rw [nzI_e lo m0 k1 k2, fin k (by omega) ((div_mod_lo k1).1 k3) (fun j hj z => by
      have := (div_mod_lo (by omega)).2 z
      have := k4 j hj
      omega)]
theorem c_fbits {x : UInt32} : zC 233 [zF x] h = some (.inl (some (zI (f_Fl_floatToIntBits x))), h) := by
  rw [q_Fl_floatToIntBits, q_Fl_isNaN]
  unfold f_Fl_floatToIntBits
  by_cases c : (Op.cmpValue (FP.fcmp x x) .l).toInt = 0
  · rw [if_pos c, q_Fl_isNaN_10, zbk, q_Fl_floatToIntBits_4, if_pos rfl, q_Fl_floatToIntBits_7, if_neg (fun q => q c)]
  · rw [if_neg c, q_Fl_isNaN_6, zbk, q_Fl_floatToIntBits_4, if_neg (by decide), q_Fl_floatToIntBits_12, if_pos c]
theorem c_dbits {x : UInt64} : zC 235 [zD x] h = some (.inl (some (zJ (f_Do_doubleToLongBits x))), h) := by
  rw [q_Do_doubleToLongBits, q_Do_isNaN]
  unfold f_Do_doubleToLongBits
  by_cases c : (Op.cmpValue (FP.dcmp x x) .l).toInt = 0
  · rw [if_pos c, q_Do_isNaN_10, zbk, q_Do_doubleToLongBits_4, if_pos rfl, q_Do_doubleToLongBits_7, if_neg (fun q => q c)]
  · rw [if_neg c, q_Do_isNaN_6, zbk, q_Do_doubleToLongBits_4, if_neg (by decide), q_Do_doubleToLongBits_12, if_pos c]
theorem c_holds {x : BitVec 64} {s : Int} (h0 : 0 ≤ s) (h1 : s < 64) : zC 219 [zJ x, zI s] h = some (.inl (some (zI (if bt x s = true then 1 else 0))), h) := by
  rw [q_L_holds]
  have e := holds_e x h0 h1
  by_cases c : bt x s = true
  · rw [if_pos c, if_pos ((zlcmp_0 _ _).2 (e.2 c)), q_L_holds_10]
  · rw [if_neg c, if_neg (fun q => c (e.1 ((zlcmp_0 _ _).1 q))), q_L_holds_14]
end NTZ
