/-! The law: pieces of sum. -/
theorem q_L_sum {h : zH} {a0 : Nat} (ta0 : hT h a0 = 11) (na0 : a0 < hN h) : zC 217 [zR (some a0)] h =
    zBack zY 217 4 7 [some (zR (some a0)), none, none, none] [zJ (31#64)] (zC 149 [zR (some a0)] h) := by
  refine (show zC 217 [zR (some a0)] h = gd (0 < zrecv 149) (gd (false = zspc 149 ∧ zcs [zJ (31#64)] ≤ 8 ∧ zrm 217 (zrf 149 + 1) (8 + (zmaxl 149 + 11) + zrl 149) = true ∧ zcs [zR (some a0)] ≤ zmaxl 149) (gd (zob h (some a0) 11) (zBack zY 217 4 7 [some (zR (some a0)), none, none, none] [zJ (31#64)] (zC 149 [zR (some a0)] h)))) from zGo 3 217 0 _ _ _).trans ?_
  refine (gd_t (by decide) _).trans ?_
  refine (gd_t (⟨rfl, Nat.le_of_ble_eq_true rfl, rfl, Nat.le_of_ble_eq_true rfl⟩) _).trans ?_
  refine (gd_t (⟨rfl, ta0, na0⟩) _).trans ?_
  rfl
theorem q_L_sum_7 {h : zH} {a0 : Nat} {y0 : BitVec 64} {y1 : BitVec 64} (ta0 : hT h a0 = 11) (na0 : a0 < hN h) : zY 217 7 [some (zR (some a0)), none, none, none] [zJ y1, zJ y0] h =
    zBack zY 217 9 12 [some (zR (some a0)), none, none, none] [zJ (y0 * y1)] (zC 150 [zR (some a0)] h) := by
  refine (show zY 217 7 [some (zR (some a0)), none, none, none] [zJ y1, zJ y0] h = gd (0 < zrecv 150) (gd (false = zspc 150 ∧ zcs [zJ (y0 * y1)] ≤ 8 ∧ zrm 217 (zrf 150 + 1) (8 + (zmaxl 150 + 11) + zrl 150) = true ∧ zcs [zR (some a0)] ≤ zmaxl 150) (gd (zob h (some a0) 11) (zBack zY 217 9 12 [some (zR (some a0)), none, none, none] [zJ (y0 * y1)] (zC 150 [zR (some a0)] h)))) from zGo 3 217 7 _ _ _).trans ?_
  refine (gd_t (by decide) _).trans ?_
  refine (gd_t (⟨rfl, Nat.le_of_ble_eq_true rfl, rfl, Nat.le_of_ble_eq_true rfl⟩) _).trans ?_
  refine (gd_t (⟨rfl, ta0, na0⟩) _).trans ?_
  rfl
theorem q_L_sum_12 {h : zH} {a0 : Nat} {y0 : BitVec 64} {y1 : BitVec 64}  : zY 217 12 [some (zR (some a0)), none, none, none] [zJ y1, zJ y0] h =
    zY 217 16 [some (zR (some a0)), some (zJ (y0 + y1)), none, some (zI 0)] [] h := by
  refine (show zY 217 12 [some (zR (some a0)), none, none, none] [zJ y1, zJ y0] h = gd (inR (0)) (zY 217 16 [some (zR (some a0)), some (zJ (y0 + y1)), none, some (zI 0)] [] h) from zGo 4 217 12 _ _ _).trans ?_
  refine (gd_t (by decide) _).trans ?_
  rfl
theorem q_L_sum_16 {h : zH} {a0 : Nat} {j1 : BitVec 64} {x3 : Int} (ta0 : hT h a0 = 11) (na0 : a0 < hN h) : zY 217 16 [some (zR (some a0)), some (zJ j1), none, some (zI x3)] [] h =
    zBack zY 217 19 22 [some (zR (some a0)), some (zJ j1), none, some (zI x3)] [zI x3] (zC 163 [zR (some a0), zI 0] h) := by
  refine (show zY 217 16 [some (zR (some a0)), some (zJ j1), none, some (zI x3)] [] h = gd (inR (0)) (gd (0 < zrecv 163) (gd (false = zspc 163 ∧ zcs [zI x3] ≤ 8 ∧ zrm 217 (zrf 163 + 1) (8 + (zmaxl 163 + 11) + zrl 163) = true ∧ zcs [zR (some a0), zI 0] ≤ zmaxl 163) (gd (zob h (some a0) 11) (zBack zY 217 19 22 [some (zR (some a0)), some (zJ j1), none, some (zI x3)] [zI x3] (zC 163 [zR (some a0), zI 0] h))))) from zGo 4 217 16 _ _ _).trans ?_
  refine (gd_t (by decide) _).trans ?_
  refine (gd_t (by decide) _).trans ?_
  refine (gd_t (⟨rfl, Nat.le_of_ble_eq_true rfl, rfl, Nat.le_of_ble_eq_true rfl⟩) _).trans ?_
  refine (gd_t (⟨rfl, ta0, na0⟩) _).trans ?_
  rfl
theorem q_L_sum_22 {h : zH} {a0 : Nat} {j1 : BitVec 64} {x3 : Int} {y0 : Int} {y1 : Int}  : zY 217 22 [some (zR (some a0)), some (zJ j1), none, some (zI x3)] [zI y1, zI y0] h =
    if y0 < y1 then zY 217 25 [some (zR (some a0)), some (zJ j1), none, some (zI x3)] [] h else zY 217 67 [some (zR (some a0)), some (zJ j1), none, some (zI x3)] [] h := by
  refine (show zY 217 22 [some (zR (some a0)), some (zJ j1), none, some (zI x3)] [zI y1, zI y0] h = if y0 < y1 then zY 217 25 [some (zR (some a0)), some (zJ j1), none, some (zI x3)] [] h else zY 217 67 [some (zR (some a0)), some (zJ j1), none, some (zI x3)] [] h from zGo 1 217 22 _ _ _).trans ?_
  rfl
theorem q_L_sum_25 {h : zH} {a0 : Nat} {j1 : BitVec 64} {x3 : Int} (ta0 : hT h a0 = 11) (na0 : a0 < hN h) : zY 217 25 [some (zR (some a0)), some (zJ j1), none, some (zI x3)] [] h =
    zBack zY 217 39 42 [some (zR (some a0)), some (zJ j1), none, some (zI x3)] [zJ ((31#64) * j1), zJ (31#64), zJ (31#64)] (zC 164 [zR (some a0), zI x3, zI 1] h) := by
  refine (show zY 217 25 [some (zR (some a0)), some (zJ j1), none, some (zI x3)] [] h = gd (inR (1)) (gd (0 < zrecv 164) (gd (false = zspc 164 ∧ zcs [zJ ((31#64) * j1), zJ (31#64), zJ (31#64)] ≤ 8 ∧ zrm 217 (zrf 164 + 1) (8 + (zmaxl 164 + 11) + zrl 164) = true ∧ zcs [zR (some a0), zI x3, zI 1] ≤ zmaxl 164) (gd (zob h (some a0) 11) (zBack zY 217 39 42 [some (zR (some a0)), some (zJ j1), none, some (zI x3)] [zJ ((31#64) * j1), zJ (31#64), zJ (31#64)] (zC 164 [zR (some a0), zI x3, zI 1] h))))) from zGo 9 217 25 _ _ _).trans ?_
  refine (gd_t (by decide) _).trans ?_
  refine (gd_t (by decide) _).trans ?_
  refine (gd_t (⟨rfl, Nat.le_of_ble_eq_true rfl, rfl, Nat.le_of_ble_eq_true rfl⟩) _).trans ?_
  refine (gd_t (⟨rfl, ta0, na0⟩) _).trans ?_
  rfl
theorem q_L_sum_67 {h : zH} {a0 : Nat} {j1 : BitVec 64} {x3 : Int}  : zY 217 67 [some (zR (some a0)), some (zJ j1), none, some (zI x3)] [] h =
    zY 217 69 [some (zR (some a0)), some (zJ j1), none, some (zI 0)] [] h := by
  refine (show zY 217 67 [some (zR (some a0)), some (zJ j1), none, some (zI x3)] [] h = gd (inR (0)) (zY 217 69 [some (zR (some a0)), some (zJ j1), none, some (zI 0)] [] h) from zGo 2 217 67 _ _ _).trans ?_
  refine (gd_t (by decide) _).trans ?_
  rfl
theorem q_L_sum_42 {h : zH} {a0 : Nat} {j1 : BitVec 64} {x3 : Int} {y0 : BitVec 64} {y1 : BitVec 64} {y2 : BitVec 64} {y3 : Int} (ta0 : hT h a0 = 11) (na0 : a0 < hN h) : zY 217 42 [some (zR (some a0)), some (zJ j1), none, some (zI x3)] [zI y3, zJ y2, zJ y1, zJ y0] h =
    zBack zY 217 48 51 [some (zR (some a0)), some (zJ j1), none, some (zI x3)] [zJ (y1 * (y2 + (zi2l y3))), zJ y0] (zC 164 [zR (some a0), zI x3, zI 5] h) := by
  refine (show zY 217 42 [some (zR (some a0)), some (zJ j1), none, some (zI x3)] [zI y3, zJ y2, zJ y1, zJ y0] h = gd (inR (5)) (gd (0 < zrecv 164) (gd (false = zspc 164 ∧ zcs [zJ (y1 * (y2 + (zi2l y3))), zJ y0] ≤ 8 ∧ zrm 217 (zrf 164 + 1) (8 + (zmaxl 164 + 11) + zrl 164) = true ∧ zcs [zR (some a0), zI x3, zI 5] ≤ zmaxl 164) (gd (zob h (some a0) 11) (zBack zY 217 48 51 [some (zR (some a0)), some (zJ j1), none, some (zI x3)] [zJ (y1 * (y2 + (zi2l y3))), zJ y0] (zC 164 [zR (some a0), zI x3, zI 5] h))))) from zGo 7 217 42 _ _ _).trans ?_
  refine (gd_t (by decide) _).trans ?_
  refine (gd_t (by decide) _).trans ?_
  refine (gd_t (⟨rfl, Nat.le_of_ble_eq_true rfl, rfl, Nat.le_of_ble_eq_true rfl⟩) _).trans ?_
  refine (gd_t (⟨rfl, ta0, na0⟩) _).trans ?_
  rfl
theorem q_L_sum_69 {h : zH} {a0 : Nat} {j1 : BitVec 64} {x3 : Int} (ta0 : hT h a0 = 11) (na0 : a0 < hN h) : zY 217 69 [some (zR (some a0)), some (zJ j1), none, some (zI x3)] [] h =
    zBack zY 217 72 75 [some (zR (some a0)), some (zJ j1), none, some (zI x3)] [zI x3] (zC 163 [zR (some a0), zI 1] h) := by
  refine (show zY 217 69 [some (zR (some a0)), some (zJ j1), none, some (zI x3)] [] h = gd (inR (1)) (gd (0 < zrecv 163) (gd (false = zspc 163 ∧ zcs [zI x3] ≤ 8 ∧ zrm 217 (zrf 163 + 1) (8 + (zmaxl 163 + 11) + zrl 163) = true ∧ zcs [zR (some a0), zI 1] ≤ zmaxl 163) (gd (zob h (some a0) 11) (zBack zY 217 72 75 [some (zR (some a0)), some (zJ j1), none, some (zI x3)] [zI x3] (zC 163 [zR (some a0), zI 1] h))))) from zGo 4 217 69 _ _ _).trans ?_
  refine (gd_t (by decide) _).trans ?_
  refine (gd_t (by decide) _).trans ?_
  refine (gd_t (⟨rfl, Nat.le_of_ble_eq_true rfl, rfl, Nat.le_of_ble_eq_true rfl⟩) _).trans ?_
  refine (gd_t (⟨rfl, ta0, na0⟩) _).trans ?_
  rfl
theorem q_L_sum_51 {h : zH} {a0 : Nat} {j1 : BitVec 64} {x3 : Int} {y0 : BitVec 64} {y1 : BitVec 64} {y2 : Int} (ta0 : hT h a0 = 11) (na0 : a0 < hN h) : zY 217 51 [some (zR (some a0)), some (zJ j1), none, some (zI x3)] [zI y2, zJ y1, zJ y0] h =
    zBack zY 217 56 59 [some (zR (some a0)), some (zJ j1), none, some (zI x3)] [zJ (y0 * (y1 + (zi2l y2)))] (zC 171 [zR (some a0), zI x3] h) := by
  refine (show zY 217 51 [some (zR (some a0)), some (zJ j1), none, some (zI x3)] [zI y2, zJ y1, zJ y0] h = gd (0 < zrecv 171) (gd (false = zspc 171 ∧ zcs [zJ (y0 * (y1 + (zi2l y2)))] ≤ 8 ∧ zrm 217 (zrf 171 + 1) (8 + (zmaxl 171 + 11) + zrl 171) = true ∧ zcs [zR (some a0), zI x3] ≤ zmaxl 171) (gd (zob h (some a0) 11) (zBack zY 217 56 59 [some (zR (some a0)), some (zJ j1), none, some (zI x3)] [zJ (y0 * (y1 + (zi2l y2)))] (zC 171 [zR (some a0), zI x3] h)))) from zGo 6 217 51 _ _ _).trans ?_
  refine (gd_t (by decide) _).trans ?_
  refine (gd_t (⟨rfl, Nat.le_of_ble_eq_true rfl, rfl, Nat.le_of_ble_eq_true rfl⟩) _).trans ?_
  refine (gd_t (⟨rfl, ta0, na0⟩) _).trans ?_
  rfl
theorem q_L_sum_75 {h : zH} {a0 : Nat} {j1 : BitVec 64} {x3 : Int} {y0 : Int} {y1 : Int}  : zY 217 75 [some (zR (some a0)), some (zJ j1), none, some (zI x3)] [zI y1, zI y0] h =
    if y0 < y1 then zY 217 78 [some (zR (some a0)), some (zJ j1), none, some (zI x3)] [] h else zY 217 121 [some (zR (some a0)), some (zJ j1), none, some (zI x3)] [] h := by
  refine (show zY 217 75 [some (zR (some a0)), some (zJ j1), none, some (zI x3)] [zI y1, zI y0] h = if y0 < y1 then zY 217 78 [some (zR (some a0)), some (zJ j1), none, some (zI x3)] [] h else zY 217 121 [some (zR (some a0)), some (zJ j1), none, some (zI x3)] [] h from zGo 1 217 75 _ _ _).trans ?_
  rfl
theorem q_L_sum_59 {h : zH} {a0 : Nat} {j1 : BitVec 64} {x3 : Int} {y0 : BitVec 64} {y1 : BitVec 64}  : zY 217 59 [some (zR (some a0)), some (zJ j1), none, some (zI x3)] [zJ y1, zJ y0] h =
    gd (inR (x3 + 1)) (zY 217 16 [some (zR (some a0)), some (zJ (y0 + y1)), none, some (zI (x3 + 1))] [] h) := by
  refine (show zY 217 59 [some (zR (some a0)), some (zJ j1), none, some (zI x3)] [zJ y1, zJ y0] h = gd (inR (x3 + 1)) (gd (inR (1)) (zY 217 16 [some (zR (some a0)), some (zJ (y0 + y1)), none, some (zI (x3 + 1))] [] h)) from zGo 4 217 59 _ _ _).trans ?_
  refine gd_c (Iff.rfl) (fun _ => ?_)
  refine (gd_t (by decide) _).trans ?_
  rfl
theorem q_L_sum_78 {h : zH} {a0 : Nat} {j1 : BitVec 64} {x3 : Int} (ta0 : hT h a0 = 11) (na0 : a0 < hN h) : zY 217 78 [some (zR (some a0)), some (zJ j1), none, some (zI x3)] [] h =
    zBack zY 217 89 92 [some (zR (some a0)), some (zJ j1), none, some (zI x3)] [zJ ((31#64) * j1), zJ (31#64)] (zC 167 [zR (some a0), zI x3, zI 1] h) := by
  refine (show zY 217 78 [some (zR (some a0)), some (zJ j1), none, some (zI x3)] [] h = gd (inR (1)) (gd (0 < zrecv 167) (gd (false = zspc 167 ∧ zcs [zJ ((31#64) * j1), zJ (31#64)] ≤ 8 ∧ zrm 217 (zrf 167 + 1) (8 + (zmaxl 167 + 11) + zrl 167) = true ∧ zcs [zR (some a0), zI x3, zI 1] ≤ zmaxl 167) (gd (zob h (some a0) 11) (zBack zY 217 89 92 [some (zR (some a0)), some (zJ j1), none, some (zI x3)] [zJ ((31#64) * j1), zJ (31#64)] (zC 167 [zR (some a0), zI x3, zI 1] h))))) from zGo 8 217 78 _ _ _).trans ?_
  refine (gd_t (by decide) _).trans ?_
  refine (gd_t (by decide) _).trans ?_
  refine (gd_t (⟨rfl, Nat.le_of_ble_eq_true rfl, rfl, Nat.le_of_ble_eq_true rfl⟩) _).trans ?_
  refine (gd_t (⟨rfl, ta0, na0⟩) _).trans ?_
  rfl
theorem q_L_sum_121 {h : zH} {a0 : Nat} {j1 : BitVec 64} {x3 : Int}  : zY 217 121 [some (zR (some a0)), some (zJ j1), none, some (zI x3)] [] h =
    some (.inl (some (zJ j1)), h) := by
  refine (show zY 217 121 [some (zR (some a0)), some (zJ j1), none, some (zI x3)] [] h = gd (([] : List zV).isEmpty = true ∧ zrk 217 = 2) (some (.inl (some (zJ j1)), h)) from zGo 2 217 121 _ _ _).trans ?_
  refine (gd_t (⟨rfl, rfl⟩) _).trans ?_
  rfl
theorem q_L_sum_92 {h : zH} {a0 : Nat} {j1 : BitVec 64} {x3 : Int} {y0 : BitVec 64} {y1 : BitVec 64} {y2 : BitVec 64} (ta0 : hT h a0 = 11) (na0 : a0 < hN h) : zY 217 92 [some (zR (some a0)), some (zJ j1), none, some (zI x3)] [zJ y2, zJ y1, zJ y0] h =
    zBack zY 217 98 101 [some (zR (some a0)), some (zJ j1), none, some (zI x3)] [zJ (y0 * (y1 + y2))] (zC 169 [zR (some a0), zI x3, zI 27] h) := by
  refine (show zY 217 92 [some (zR (some a0)), some (zJ j1), none, some (zI x3)] [zJ y2, zJ y1, zJ y0] h = gd (-128 ≤ (27 : Int) ∧ (27 : Int) < 128) (gd (0 < zrecv 169) (gd (false = zspc 169 ∧ zcs [zJ (y0 * (y1 + y2))] ≤ 8 ∧ zrm 217 (zrf 169 + 1) (8 + (zmaxl 169 + 11) + zrl 169) = true ∧ zcs [zR (some a0), zI x3, zI 27] ≤ zmaxl 169) (gd (zob h (some a0) 11) (zBack zY 217 98 101 [some (zR (some a0)), some (zJ j1), none, some (zI x3)] [zJ (y0 * (y1 + y2))] (zC 169 [zR (some a0), zI x3, zI 27] h))))) from zGo 6 217 92 _ _ _).trans ?_
  refine (gd_t (by decide) _).trans ?_
  refine (gd_t (by decide) _).trans ?_
  refine (gd_t (⟨rfl, Nat.le_of_ble_eq_true rfl, rfl, Nat.le_of_ble_eq_true rfl⟩) _).trans ?_
  refine (gd_t (⟨rfl, ta0, na0⟩) _).trans ?_
  rfl
theorem q_L_sum_101 {h : zH} {a0 : Nat} {j1 : BitVec 64} {x3 : Int} {y0 : BitVec 64} {y1 : Int} (ta0 : hT h a0 = 11) (na0 : a0 < hN h) : zY 217 101 [some (zR (some a0)), some (zJ j1), none, some (zI x3)] [zI y1, zJ y0] h =
    zBack zY 217 109 112 [some (zR (some a0)), some (zJ j1), none, some (zI x3)] [zJ (y0 + (zi2l (zwmul y1 4)))] (zC 169 [zR (some a0), zI x3, zI 9] h) := by
  refine (show zY 217 101 [some (zR (some a0)), some (zJ j1), none, some (zI x3)] [zI y1, zJ y0] h = gd (inR (4)) (gd (-128 ≤ (9 : Int) ∧ (9 : Int) < 128) (gd (0 < zrecv 169) (gd (false = zspc 169 ∧ zcs [zJ (y0 + (zi2l (zwmul y1 4)))] ≤ 8 ∧ zrm 217 (zrf 169 + 1) (8 + (zmaxl 169 + 11) + zrl 169) = true ∧ zcs [zR (some a0), zI x3, zI 9] ≤ zmaxl 169) (gd (zob h (some a0) 11) (zBack zY 217 109 112 [some (zR (some a0)), some (zJ j1), none, some (zI x3)] [zJ (y0 + (zi2l (zwmul y1 4)))] (zC 169 [zR (some a0), zI x3, zI 9] h)))))) from zGo 8 217 101 _ _ _).trans ?_
  refine (gd_t (by decide) _).trans ?_
  refine (gd_t (by decide) _).trans ?_
  refine (gd_t (by decide) _).trans ?_
  refine (gd_t (⟨rfl, Nat.le_of_ble_eq_true rfl, rfl, Nat.le_of_ble_eq_true rfl⟩) _).trans ?_
  refine (gd_t (⟨rfl, ta0, na0⟩) _).trans ?_
  rfl
theorem q_L_sum_112 {h : zH} {a0 : Nat} {j1 : BitVec 64} {x3 : Int} {y0 : BitVec 64} {y1 : Int}  : zY 217 112 [some (zR (some a0)), some (zJ j1), none, some (zI x3)] [zI y1, zJ y0] h =
    gd (inR (x3 + 1)) (zY 217 69 [some (zR (some a0)), some (zJ (y0 + (zi2l y1))), none, some (zI (x3 + 1))] [] h) := by
  refine (show zY 217 112 [some (zR (some a0)), some (zJ j1), none, some (zI x3)] [zI y1, zJ y0] h = gd (inR (x3 + 1)) (gd (inR (1)) (zY 217 69 [some (zR (some a0)), some (zJ (y0 + (zi2l y1))), none, some (zI (x3 + 1))] [] h)) from zGo 5 217 112 _ _ _).trans ?_
  refine gd_c (Iff.rfl) (fun _ => ?_)
  refine (gd_t (by decide) _).trans ?_
  rfl
