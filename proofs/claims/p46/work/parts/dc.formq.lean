/-! The law: pieces of formula. -/
theorem q_L_formula {h : zH} {a0 : Nat} {x1 : Int} {x2 : Int} {a3 : Nat}  : zC 216 [zR (some a0), zI x1, zI x2, zR (some a3)] h =
    if x1 = 0 then zY 216 20 [some (zR (some a0)), some (zI x1), some (zI x2), some (zR (some a3)), some (zR (some (hN h))), some (zI 1), none, none] [zI 0, zR (some (hN h))] (hNew h 22 20) else zY 216 16 [some (zR (some a0)), some (zI x1), some (zI x2), some (zR (some a3)), some (zR (some (hN h))), some (zI 1), none, none] [zI 0, zR (some (hN h))] (hNew h 22 20) := by
  refine (show zC 216 [zR (some a0), zI x1, zI x2, zR (some a3)] h = gd (-128 ≤ (20 : Int) ∧ (20 : Int) < 128) (gd ((0 : Int) ≤ 20 ∧ (20 : Int) < 65536) (gd (inR (1)) (gd (inR (0)) (if x1 = 0 then zY 216 20 [some (zR (some a0)), some (zI x1), some (zI x2), some (zR (some a3)), some (zR (some (hN h))), some (zI 1), none, none] [zI 0, zR (some (hN h))] (hNew h 22 20) else zY 216 16 [some (zR (some a0)), some (zI x1), some (zI x2), some (zR (some a3)), some (zR (some (hN h))), some (zI 1), none, none] [zI 0, zR (some (hN h))] (hNew h 22 20))))) from zGo 9 216 0 _ _ _).trans ?_
  refine (gd_t (by decide) _).trans ?_
  refine (gd_t (by decide) _).trans ?_
  refine (gd_t (by decide) _).trans ?_
  refine (gd_t (by decide) _).trans ?_
  rfl
theorem q_L_formula_20 {h : zH} {a0 : Nat} {x1 : Int} {x2 : Int} {a3 : Nat} {a4 : Nat} {x5 : Int} {y0 : Nat} {y1 : Int} (ty0 : hT h y0 = 22) (ny0 : y0 < hN h) : zY 216 20 [some (zR (some a0)), some (zI x1), some (zI x2), some (zR (some a3)), some (zR (some a4)), some (zI x5), none, none] [zI y1, zR (some y0)] h =
    gd ((0 : Int) ≤ y1 ∧ y1 < (hL h y0 : Int)) (zY 216 25 [some (zR (some a0)), some (zI x1), some (zI x2), some (zR (some a3)), some (zR (some a4)), some (zI x5), some (zI x2), none] [] (sI h y0 y1.toNat 0)) := by
  refine (show zY 216 20 [some (zR (some a0)), some (zI x1), some (zI x2), some (zR (some a3)), some (zR (some a4)), some (zI x5), none, none] [zI y1, zR (some y0)] h = gd (inR (0)) (gd (zokw h (some y0) 22 y1) (zY 216 25 [some (zR (some a0)), some (zI x1), some (zI x2), some (zR (some a3)), some (zR (some a4)), some (zI x5), some (zI x2), none] [] (sI h y0 y1.toNat 0))) from zGo 4 216 20 _ _ _).trans ?_
  refine (gd_t (by decide) _).trans ?_
  refine gd_c (ciw ty0 ny0 rfl) (fun _ => ?_)
  rfl
theorem q_L_formula_16 {h : zH} {a0 : Nat} {x1 : Int} {x2 : Int} {a3 : Nat} {a4 : Nat} {x5 : Int} {y0 : Nat} {y1 : Int} (ty0 : hT h y0 = 22) (ny0 : y0 < hN h) : zY 216 16 [some (zR (some a0)), some (zI x1), some (zI x2), some (zR (some a3)), some (zR (some a4)), some (zI x5), none, none] [zI y1, zR (some y0)] h =
    gd ((0 : Int) ≤ y1 ∧ y1 < (hL h y0 : Int)) (zY 216 25 [some (zR (some a0)), some (zI x1), some (zI x2), some (zR (some a3)), some (zR (some a4)), some (zI x5), some (zI x2), none] [] (sI h y0 y1.toNat 1)) := by
  refine (show zY 216 16 [some (zR (some a0)), some (zI x1), some (zI x2), some (zR (some a3)), some (zR (some a4)), some (zI x5), none, none] [zI y1, zR (some y0)] h = gd (inR (1)) (gd (zokw h (some y0) 22 y1) (zY 216 25 [some (zR (some a0)), some (zI x1), some (zI x2), some (zR (some a3)), some (zR (some a4)), some (zI x5), some (zI x2), none] [] (sI h y0 y1.toNat 1))) from zGo 5 216 16 _ _ _).trans ?_
  refine (gd_t (by decide) _).trans ?_
  refine gd_c (ciw ty0 ny0 rfl) (fun _ => ?_)
  rfl
theorem q_L_formula_25 {h : zH} {a0 : Nat} {x1 : Int} {x2 : Int} {a3 : Nat} {a4 : Nat} {x5 : Int} {x6 : Int}  : zY 216 25 [some (zR (some a0)), some (zI x1), some (zI x2), some (zR (some a3)), some (zR (some a4)), some (zI x5), some (zI x6), none] [] h =
    if 0 < x5 then zY 216 30 [some (zR (some a0)), some (zI x1), some (zI x2), some (zR (some a3)), some (zR (some a4)), some (zI x5), some (zI x6), none] [] h else zY 216 335 [some (zR (some a0)), some (zI x1), some (zI x2), some (zR (some a3)), some (zR (some a4)), some (zI x5), some (zI x6), none] [] h := by
  refine (show zY 216 25 [some (zR (some a0)), some (zI x1), some (zI x2), some (zR (some a3)), some (zR (some a4)), some (zI x5), some (zI x6), none] [] h = if 0 < x5 then zY 216 30 [some (zR (some a0)), some (zI x1), some (zI x2), some (zR (some a3)), some (zR (some a4)), some (zI x5), some (zI x6), none] [] h else zY 216 335 [some (zR (some a0)), some (zI x1), some (zI x2), some (zR (some a3)), some (zR (some a4)), some (zI x5), some (zI x6), none] [] h from zGo 2 216 25 _ _ _).trans ?_
  rfl
theorem q_L_formula_30 {h : zH} {a0 : Nat} {x1 : Int} {x2 : Int} {a3 : Nat} {a4 : Nat} {x5 : Int} {x6 : Int} (ta4 : hT h a4 = 22) : zY 216 30 [some (zR (some a0)), some (zI x1), some (zI x2), some (zR (some a3)), some (zR (some a4)), some (zI x5), some (zI x6), none] [] h =
    gd (inR (x5 + (-1))) (gd ((0 : Int) ≤ (x5 + (-1)) ∧ (x5 + (-1)) < (hL h a4 : Int)) (if (hI h a4 (x5 + (-1)).toNat) = 0 then zY 216 41 [some (zR (some a0)), some (zI x1), some (zI x2), some (zR (some a3)), some (zR (some a4)), some (zI (x5 + (-1))), some (zI x6), none] [] h else zY 216 164 [some (zR (some a0)), some (zI x1), some (zI x2), some (zR (some a3)), some (zR (some a4)), some (zI (x5 + (-1))), some (zI x6), none] [] h)) := by
  refine (show zY 216 30 [some (zR (some a0)), some (zI x1), some (zI x2), some (zR (some a3)), some (zR (some a4)), some (zI x5), some (zI x6), none] [] h = gd (inR (x5 + (-1))) (gd (inR (-1)) (gd (zok h (some a4) 22 (x5 + (-1))) (if (hI h a4 (x5 + (-1)).toNat) = 0 then zY 216 41 [some (zR (some a0)), some (zI x1), some (zI x2), some (zR (some a3)), some (zR (some a4)), some (zI (x5 + (-1))), some (zI x6), none] [] h else zY 216 164 [some (zR (some a0)), some (zI x1), some (zI x2), some (zR (some a3)), some (zR (some a4)), some (zI (x5 + (-1))), some (zI x6), none] [] h))) from zGo 5 216 30 _ _ _).trans ?_
  refine gd_c (Iff.rfl) (fun _ => ?_)
  refine (gd_t (by decide) _).trans ?_
  refine gd_c (ci ta4 rfl) (fun _ => ?_)
  rfl
theorem q_L_formula_335 {h : zH} {a0 : Nat} {x1 : Int} {x2 : Int} {a3 : Nat} {a4 : Nat} {x5 : Int} {x6 : Int}  : zY 216 335 [some (zR (some a0)), some (zI x1), some (zI x2), some (zR (some a3)), some (zR (some a4)), some (zI x5), some (zI x6), none] [] h =
    some (.inl (none), h) := by
  refine (show zY 216 335 [some (zR (some a0)), some (zI x1), some (zI x2), some (zR (some a3)), some (zR (some a4)), some (zI x5), some (zI x6), none] [] h = gd (([] : List zV).isEmpty = true ∧ zrk 216 = 0) (some (.inl (none), h)) from zGo 1 216 335 _ _ _).trans ?_
  refine (gd_t (⟨rfl, rfl⟩) _).trans ?_
  rfl
theorem q_L_formula_41 {h : zH} {a0 : Nat} {x1 : Int} {x2 : Int} {a3 : Nat} {a4 : Nat} {x5 : Int} {x6 : Int}  : zY 216 41 [some (zR (some a0)), some (zI x1), some (zI x2), some (zR (some a3)), some (zR (some a4)), some (zI x5), some (zI x6), none] [] h =
    if 0 < x6 then zY 216 46 [some (zR (some a0)), some (zI x1), some (zI x2), some (zR (some a3)), some (zR (some a4)), some (zI x5), some (zI x6), none] [] h else zY 216 113 [some (zR (some a0)), some (zI x1), some (zI x2), some (zR (some a3)), some (zR (some a4)), some (zI x5), some (zI x6), none] [] h := by
  refine (show zY 216 41 [some (zR (some a0)), some (zI x1), some (zI x2), some (zR (some a3)), some (zR (some a4)), some (zI x5), some (zI x6), none] [] h = if 0 < x6 then zY 216 46 [some (zR (some a0)), some (zI x1), some (zI x2), some (zR (some a3)), some (zR (some a4)), some (zI x5), some (zI x6), none] [] h else zY 216 113 [some (zR (some a0)), some (zI x1), some (zI x2), some (zR (some a3)), some (zR (some a4)), some (zI x5), some (zI x6), none] [] h from zGo 2 216 41 _ _ _).trans ?_
  rfl
theorem q_L_formula_164 {h : zH} {a0 : Nat} {x1 : Int} {x2 : Int} {a3 : Nat} {a4 : Nat} {x5 : Int} {x6 : Int}  : zY 216 164 [some (zR (some a0)), some (zI x1), some (zI x2), some (zR (some a3)), some (zR (some a4)), some (zI x5), some (zI x6), none] [] h =
    if 0 < x6 then zY 216 169 [some (zR (some a0)), some (zI x1), some (zI x2), some (zR (some a3)), some (zR (some a4)), some (zI x5), some (zI x6), none] [] h else zY 216 260 [some (zR (some a0)), some (zI x1), some (zI x2), some (zR (some a3)), some (zR (some a4)), some (zI x5), some (zI x6), none] [] h := by
  refine (show zY 216 164 [some (zR (some a0)), some (zI x1), some (zI x2), some (zR (some a3)), some (zR (some a4)), some (zI x5), some (zI x6), none] [] h = if 0 < x6 then zY 216 169 [some (zR (some a0)), some (zI x1), some (zI x2), some (zR (some a3)), some (zR (some a4)), some (zI x5), some (zI x6), none] [] h else zY 216 260 [some (zR (some a0)), some (zI x1), some (zI x2), some (zR (some a3)), some (zR (some a4)), some (zI x5), some (zI x6), none] [] h from zGo 2 216 164 _ _ _).trans ?_
  rfl
theorem q_L_formula_46 {h : zH} {a0 : Nat} {x1 : Int} {x2 : Int} {a3 : Nat} {a4 : Nat} {x5 : Int} {x6 : Int}  : zY 216 46 [some (zR (some a0)), some (zI x1), some (zI x2), some (zR (some a3)), some (zR (some a4)), some (zI x5), some (zI x6), none] [] h =
    zBack zY 216 47 50 [some (zR (some a0)), some (zI x1), some (zI x2), some (zR (some a3)), some (zR (some a4)), some (zI x5), some (zI x6), none] [] (zC 207 [zR (some a3)] h) := by
  refine (show zY 216 46 [some (zR (some a0)), some (zI x1), some (zI x2), some (zR (some a3)), some (zR (some a4)), some (zI x5), some (zI x6), none] [] h = gd (zrecv 207 = 0) (gd (false = zspc 207 ∧ zcs [] ≤ 8 ∧ zrm 216 (zrf 207 + 1) (8 + (zmaxl 207 + 11) + zrl 207) = true ∧ zcs [zR (some a3)] ≤ zmaxl 207) (zBack zY 216 47 50 [some (zR (some a0)), some (zI x1), some (zI x2), some (zR (some a3)), some (zR (some a4)), some (zI x5), some (zI x6), none] [] (zC 207 [zR (some a3)] h))) from zGo 2 216 46 _ _ _).trans ?_
  refine (gd_t (rfl) _).trans ?_
  refine (gd_t (⟨rfl, Nat.le_of_ble_eq_true rfl, rfl, Nat.le_of_ble_eq_true rfl⟩) _).trans ?_
  rfl
theorem q_L_formula_113 {h : zH} {a0 : Nat} {x1 : Int} {x2 : Int} {a3 : Nat} {a4 : Nat} {x5 : Int} {x6 : Int}  : zY 216 113 [some (zR (some a0)), some (zI x1), some (zI x2), some (zR (some a3)), some (zR (some a4)), some (zI x5), some (zI x6), none] [] h =
    zBack zY 216 114 117 [some (zR (some a0)), some (zI x1), some (zI x2), some (zR (some a3)), some (zR (some a4)), some (zI x5), some (zI x6), none] [] (zC 207 [zR (some a3)] h) := by
  refine (show zY 216 113 [some (zR (some a0)), some (zI x1), some (zI x2), some (zR (some a3)), some (zR (some a4)), some (zI x5), some (zI x6), none] [] h = gd (zrecv 207 = 0) (gd (false = zspc 207 ∧ zcs [] ≤ 8 ∧ zrm 216 (zrf 207 + 1) (8 + (zmaxl 207 + 11) + zrl 207) = true ∧ zcs [zR (some a3)] ≤ zmaxl 207) (zBack zY 216 114 117 [some (zR (some a0)), some (zI x1), some (zI x2), some (zR (some a3)), some (zR (some a4)), some (zI x5), some (zI x6), none] [] (zC 207 [zR (some a3)] h))) from zGo 2 216 113 _ _ _).trans ?_
  refine (gd_t (rfl) _).trans ?_
  refine (gd_t (⟨rfl, Nat.le_of_ble_eq_true rfl, rfl, Nat.le_of_ble_eq_true rfl⟩) _).trans ?_
  rfl
theorem q_L_formula_169 {h : zH} {a0 : Nat} {x1 : Int} {x2 : Int} {a3 : Nat} {a4 : Nat} {x5 : Int} {x6 : Int}  : zY 216 169 [some (zR (some a0)), some (zI x1), some (zI x2), some (zR (some a3)), some (zR (some a4)), some (zI x5), some (zI x6), none] [] h =
    zBack zY 216 170 173 [some (zR (some a0)), some (zI x1), some (zI x2), some (zR (some a3)), some (zR (some a4)), some (zI x5), some (zI x6), none] [] (zC 207 [zR (some a3)] h) := by
  refine (show zY 216 169 [some (zR (some a0)), some (zI x1), some (zI x2), some (zR (some a3)), some (zR (some a4)), some (zI x5), some (zI x6), none] [] h = gd (zrecv 207 = 0) (gd (false = zspc 207 ∧ zcs [] ≤ 8 ∧ zrm 216 (zrf 207 + 1) (8 + (zmaxl 207 + 11) + zrl 207) = true ∧ zcs [zR (some a3)] ≤ zmaxl 207) (zBack zY 216 170 173 [some (zR (some a0)), some (zI x1), some (zI x2), some (zR (some a3)), some (zR (some a4)), some (zI x5), some (zI x6), none] [] (zC 207 [zR (some a3)] h))) from zGo 2 216 169 _ _ _).trans ?_
  refine (gd_t (rfl) _).trans ?_
  refine (gd_t (⟨rfl, Nat.le_of_ble_eq_true rfl, rfl, Nat.le_of_ble_eq_true rfl⟩) _).trans ?_
  rfl
theorem q_L_formula_260 {h : zH} {a0 : Nat} {x1 : Int} {x2 : Int} {a3 : Nat} {a4 : Nat} {x5 : Int} {x6 : Int}  : zY 216 260 [some (zR (some a0)), some (zI x1), some (zI x2), some (zR (some a3)), some (zR (some a4)), some (zI x5), some (zI x6), none] [] h =
    zBack zY 216 261 264 [some (zR (some a0)), some (zI x1), some (zI x2), some (zR (some a3)), some (zR (some a4)), some (zI x5), some (zI x6), none] [] (zC 207 [zR (some a3)] h) := by
  refine (show zY 216 260 [some (zR (some a0)), some (zI x1), some (zI x2), some (zR (some a3)), some (zR (some a4)), some (zI x5), some (zI x6), none] [] h = gd (zrecv 207 = 0) (gd (false = zspc 207 ∧ zcs [] ≤ 8 ∧ zrm 216 (zrf 207 + 1) (8 + (zmaxl 207 + 11) + zrl 207) = true ∧ zcs [zR (some a3)] ≤ zmaxl 207) (zBack zY 216 261 264 [some (zR (some a0)), some (zI x1), some (zI x2), some (zR (some a3)), some (zR (some a4)), some (zI x5), some (zI x6), none] [] (zC 207 [zR (some a3)] h))) from zGo 2 216 260 _ _ _).trans ?_
  refine (gd_t (rfl) _).trans ?_
  refine (gd_t (⟨rfl, Nat.le_of_ble_eq_true rfl, rfl, Nat.le_of_ble_eq_true rfl⟩) _).trans ?_
  rfl
theorem q_L_formula_50 {h : zH} {a0 : Nat} {x1 : Int} {x2 : Int} {a3 : Nat} {a4 : Nat} {x5 : Int} {x6 : Int} {y0 : Int}  : zY 216 50 [some (zR (some a0)), some (zI x1), some (zI x2), some (zR (some a3)), some (zR (some a4)), some (zI x5), some (zI x6), none] [zI y0] h =
    gd ((0 : Int) ≤ y0 ∧ (0 : Int) < 3 ∨ (-2147483648 : Int) < y0 ∧ (0 : Int) < 3) (if (Int.tmod y0 3) = 0 then zY 216 55 [some (zR (some a0)), some (zI x1), some (zI x2), some (zR (some a3)), some (zR (some a4)), some (zI x5), some (zI x6), none] [] h else zY 216 113 [some (zR (some a0)), some (zI x1), some (zI x2), some (zR (some a3)), some (zR (some a4)), some (zI x5), some (zI x6), none] [] h) := by
  refine (show zY 216 50 [some (zR (some a0)), some (zI x1), some (zI x2), some (zR (some a3)), some (zR (some a4)), some (zI x5), some (zI x6), none] [zI y0] h = gd (inR (3)) (gd ((0 : Int) ≤ y0 ∧ (0 : Int) < 3 ∨ (-2147483648 : Int) < y0 ∧ (0 : Int) < 3) (if (Int.tmod y0 3) = 0 then zY 216 55 [some (zR (some a0)), some (zI x1), some (zI x2), some (zR (some a3)), some (zR (some a4)), some (zI x5), some (zI x6), none] [] h else zY 216 113 [some (zR (some a0)), some (zI x1), some (zI x2), some (zR (some a3)), some (zR (some a4)), some (zI x5), some (zI x6), none] [] h)) from zGo 3 216 50 _ _ _).trans ?_
  refine (gd_t (by decide) _).trans ?_
  refine gd_c (Iff.rfl) (fun _ => ?_)
  rfl
theorem q_L_formula_117 {h : zH} {a0 : Nat} {x1 : Int} {x2 : Int} {a3 : Nat} {a4 : Nat} {x5 : Int} {x6 : Int} {y0 : Int}  : zY 216 117 [some (zR (some a0)), some (zI x1), some (zI x2), some (zR (some a3)), some (zR (some a4)), some (zI x5), some (zI x6), none] [zI y0] h =
    gd ((0 : Int) ≤ y0 ∧ (0 : Int) < 2 ∨ (-2147483648 : Int) < y0 ∧ (0 : Int) < 2) (if (Int.tmod y0 2) = 0 then zY 216 122 [some (zR (some a0)), some (zI x1), some (zI x2), some (zR (some a3)), some (zR (some a4)), some (zI x5), some (zI x6), none] [] h else zY 216 141 [some (zR (some a0)), some (zI x1), some (zI x2), some (zR (some a3)), some (zR (some a4)), some (zI x5), some (zI x6), none] [] h) := by
  refine (show zY 216 117 [some (zR (some a0)), some (zI x1), some (zI x2), some (zR (some a3)), some (zR (some a4)), some (zI x5), some (zI x6), none] [zI y0] h = gd (inR (2)) (gd ((0 : Int) ≤ y0 ∧ (0 : Int) < 2 ∨ (-2147483648 : Int) < y0 ∧ (0 : Int) < 2) (if (Int.tmod y0 2) = 0 then zY 216 122 [some (zR (some a0)), some (zI x1), some (zI x2), some (zR (some a3)), some (zR (some a4)), some (zI x5), some (zI x6), none] [] h else zY 216 141 [some (zR (some a0)), some (zI x1), some (zI x2), some (zR (some a3)), some (zR (some a4)), some (zI x5), some (zI x6), none] [] h)) from zGo 3 216 117 _ _ _).trans ?_
  refine (gd_t (by decide) _).trans ?_
  refine gd_c (Iff.rfl) (fun _ => ?_)
  rfl
theorem q_L_formula_173 {h : zH} {a0 : Nat} {x1 : Int} {x2 : Int} {a3 : Nat} {a4 : Nat} {x5 : Int} {x6 : Int} {y0 : Int}  : zY 216 173 [some (zR (some a0)), some (zI x1), some (zI x2), some (zR (some a3)), some (zR (some a4)), some (zI x5), some (zI x6), none] [zI y0] h =
    gd ((0 : Int) ≤ y0 ∧ (0 : Int) < 3 ∨ (-2147483648 : Int) < y0 ∧ (0 : Int) < 3) (if (Int.tmod y0 3) = 0 then zY 216 178 [some (zR (some a0)), some (zI x1), some (zI x2), some (zR (some a3)), some (zR (some a4)), some (zI x5), some (zI x6), none] [] h else zY 216 260 [some (zR (some a0)), some (zI x1), some (zI x2), some (zR (some a3)), some (zR (some a4)), some (zI x5), some (zI x6), none] [] h) := by
  refine (show zY 216 173 [some (zR (some a0)), some (zI x1), some (zI x2), some (zR (some a3)), some (zR (some a4)), some (zI x5), some (zI x6), none] [zI y0] h = gd (inR (3)) (gd ((0 : Int) ≤ y0 ∧ (0 : Int) < 3 ∨ (-2147483648 : Int) < y0 ∧ (0 : Int) < 3) (if (Int.tmod y0 3) = 0 then zY 216 178 [some (zR (some a0)), some (zI x1), some (zI x2), some (zR (some a3)), some (zR (some a4)), some (zI x5), some (zI x6), none] [] h else zY 216 260 [some (zR (some a0)), some (zI x1), some (zI x2), some (zR (some a3)), some (zR (some a4)), some (zI x5), some (zI x6), none] [] h)) from zGo 3 216 173 _ _ _).trans ?_
  refine (gd_t (by decide) _).trans ?_
  refine gd_c (Iff.rfl) (fun _ => ?_)
  rfl
theorem q_L_formula_264 {h : zH} {a0 : Nat} {x1 : Int} {x2 : Int} {a3 : Nat} {a4 : Nat} {x5 : Int} {x6 : Int} {y0 : Int}  : zY 216 264 [some (zR (some a0)), some (zI x1), some (zI x2), some (zR (some a3)), some (zR (some a4)), some (zI x5), some (zI x6), none] [zI y0] h =
    gd ((0 : Int) ≤ y0 ∧ (0 : Int) < 8 ∨ (-2147483648 : Int) < y0 ∧ (0 : Int) < 8) (if (Int.tmod y0 8) = 0 then zY 216 270 [some (zR (some a0)), some (zI x1), some (zI x2), some (zR (some a3)), some (zR (some a4)), some (zI x5), some (zI x6), none] [] h else zY 216 294 [some (zR (some a0)), some (zI x1), some (zI x2), some (zR (some a3)), some (zR (some a4)), some (zI x5), some (zI x6), none] [] h) := by
  refine (show zY 216 264 [some (zR (some a0)), some (zI x1), some (zI x2), some (zR (some a3)), some (zR (some a4)), some (zI x5), some (zI x6), none] [zI y0] h = gd (-128 ≤ (8 : Int) ∧ (8 : Int) < 128) (gd ((0 : Int) ≤ y0 ∧ (0 : Int) < 8 ∨ (-2147483648 : Int) < y0 ∧ (0 : Int) < 8) (if (Int.tmod y0 8) = 0 then zY 216 270 [some (zR (some a0)), some (zI x1), some (zI x2), some (zR (some a3)), some (zR (some a4)), some (zI x5), some (zI x6), none] [] h else zY 216 294 [some (zR (some a0)), some (zI x1), some (zI x2), some (zR (some a3)), some (zR (some a4)), some (zI x5), some (zI x6), none] [] h)) from zGo 3 216 264 _ _ _).trans ?_
  refine (gd_t (by decide) _).trans ?_
  refine gd_c (Iff.rfl) (fun _ => ?_)
  rfl
theorem q_L_formula_55 {h : zH} {a0 : Nat} {x1 : Int} {x2 : Int} {a3 : Nat} {a4 : Nat} {x5 : Int} {x6 : Int}  : zY 216 55 [some (zR (some a0)), some (zI x1), some (zI x2), some (zR (some a3)), some (zR (some a4)), some (zI x5), some (zI x6), none] [] h =
    zBack zY 216 57 60 [some (zR (some a0)), some (zI x1), some (zI x2), some (zR (some a3)), some (zR (some a4)), some (zI x5), some (zI x6), none] [zR (some a0)] (zC 207 [zR (some a3)] h) := by
  refine (show zY 216 55 [some (zR (some a0)), some (zI x1), some (zI x2), some (zR (some a3)), some (zR (some a4)), some (zI x5), some (zI x6), none] [] h = gd (zrecv 207 = 0) (gd (false = zspc 207 ∧ zcs [zR (some a0)] ≤ 8 ∧ zrm 216 (zrf 207 + 1) (8 + (zmaxl 207 + 11) + zrl 207) = true ∧ zcs [zR (some a3)] ≤ zmaxl 207) (zBack zY 216 57 60 [some (zR (some a0)), some (zI x1), some (zI x2), some (zR (some a3)), some (zR (some a4)), some (zI x5), some (zI x6), none] [zR (some a0)] (zC 207 [zR (some a3)] h))) from zGo 3 216 55 _ _ _).trans ?_
  refine (gd_t (rfl) _).trans ?_
  refine (gd_t (⟨rfl, Nat.le_of_ble_eq_true rfl, rfl, Nat.le_of_ble_eq_true rfl⟩) _).trans ?_
  rfl
theorem q_L_formula_122 {h : zH} {a0 : Nat} {x1 : Int} {x2 : Int} {a3 : Nat} {a4 : Nat} {x5 : Int} {x6 : Int} (ta0 : hT h a0 = 12) (na0 : a0 < hN h) : zY 216 122 [some (zR (some a0)), some (zI x1), some (zI x2), some (zR (some a3)), some (zR (some a4)), some (zI x5), some (zI x6), none] [] h =
    zBack zY 216 125 128 [some (zR (some a0)), some (zI x1), some (zI x2), some (zR (some a3)), some (zR (some a4)), some (zI x5), some (zI x6), none] [] (zC 189 [zR (some a0), zI 32] h) := by
  refine (show zY 216 122 [some (zR (some a0)), some (zI x1), some (zI x2), some (zR (some a3)), some (zR (some a4)), some (zI x5), some (zI x6), none] [] h = gd (-128 ≤ (32 : Int) ∧ (32 : Int) < 128) (gd (0 < zrecv 189) (gd (false = zspc 189 ∧ zcs [] ≤ 8 ∧ zrm 216 (zrf 189 + 1) (8 + (zmaxl 189 + 11) + zrl 189) = true ∧ zcs [zR (some a0), zI 32] ≤ zmaxl 189) (gd (zob h (some a0) 12) (zBack zY 216 125 128 [some (zR (some a0)), some (zI x1), some (zI x2), some (zR (some a3)), some (zR (some a4)), some (zI x5), some (zI x6), none] [] (zC 189 [zR (some a0), zI 32] h))))) from zGo 3 216 122 _ _ _).trans ?_
  refine (gd_t (by decide) _).trans ?_
  refine (gd_t (by decide) _).trans ?_
  refine (gd_t (⟨rfl, Nat.le_of_ble_eq_true rfl, rfl, Nat.le_of_ble_eq_true rfl⟩) _).trans ?_
  refine (gd_t (⟨rfl, ta0, na0⟩) _).trans ?_
  rfl
theorem q_L_formula_141 {h : zH} {a0 : Nat} {x1 : Int} {x2 : Int} {a3 : Nat} {a4 : Nat} {x5 : Int} {x6 : Int} (ta0 : hT h a0 = 12) (na0 : a0 < hN h) : zY 216 141 [some (zR (some a0)), some (zI x1), some (zI x2), some (zR (some a3)), some (zR (some a4)), some (zI x5), some (zI x6), none] [] h =
    zBack zY 216 144 147 [some (zR (some a0)), some (zI x1), some (zI x2), some (zR (some a3)), some (zR (some a4)), some (zI x5), some (zI x6), none] [] (zC 189 [zR (some a0), zI 32] h) := by
  refine (show zY 216 141 [some (zR (some a0)), some (zI x1), some (zI x2), some (zR (some a3)), some (zR (some a4)), some (zI x5), some (zI x6), none] [] h = gd (-128 ≤ (32 : Int) ∧ (32 : Int) < 128) (gd (0 < zrecv 189) (gd (false = zspc 189 ∧ zcs [] ≤ 8 ∧ zrm 216 (zrf 189 + 1) (8 + (zmaxl 189 + 11) + zrl 189) = true ∧ zcs [zR (some a0), zI 32] ≤ zmaxl 189) (gd (zob h (some a0) 12) (zBack zY 216 144 147 [some (zR (some a0)), some (zI x1), some (zI x2), some (zR (some a3)), some (zR (some a4)), some (zI x5), some (zI x6), none] [] (zC 189 [zR (some a0), zI 32] h))))) from zGo 3 216 141 _ _ _).trans ?_
  refine (gd_t (by decide) _).trans ?_
  refine (gd_t (by decide) _).trans ?_
  refine (gd_t (⟨rfl, Nat.le_of_ble_eq_true rfl, rfl, Nat.le_of_ble_eq_true rfl⟩) _).trans ?_
  refine (gd_t (⟨rfl, ta0, na0⟩) _).trans ?_
  rfl
theorem q_L_formula_178 {h : zH} {a0 : Nat} {x1 : Int} {x2 : Int} {a3 : Nat} {a4 : Nat} {x5 : Int} {x6 : Int}  : zY 216 178 [some (zR (some a0)), some (zI x1), some (zI x2), some (zR (some a3)), some (zR (some a4)), some (zI x5), some (zI x6), none] [] h =
    zBack zY 216 179 182 [some (zR (some a0)), some (zI x1), some (zI x2), some (zR (some a3)), some (zR (some a4)), some (zI x5), some (zI x6), none] [] (zC 207 [zR (some a3)] h) := by
  refine (show zY 216 178 [some (zR (some a0)), some (zI x1), some (zI x2), some (zR (some a3)), some (zR (some a4)), some (zI x5), some (zI x6), none] [] h = gd (zrecv 207 = 0) (gd (false = zspc 207 ∧ zcs [] ≤ 8 ∧ zrm 216 (zrf 207 + 1) (8 + (zmaxl 207 + 11) + zrl 207) = true ∧ zcs [zR (some a3)] ≤ zmaxl 207) (zBack zY 216 179 182 [some (zR (some a0)), some (zI x1), some (zI x2), some (zR (some a3)), some (zR (some a4)), some (zI x5), some (zI x6), none] [] (zC 207 [zR (some a3)] h))) from zGo 2 216 178 _ _ _).trans ?_
  refine (gd_t (rfl) _).trans ?_
  refine (gd_t (⟨rfl, Nat.le_of_ble_eq_true rfl, rfl, Nat.le_of_ble_eq_true rfl⟩) _).trans ?_
  rfl
theorem q_L_formula_270 {h : zH} {a0 : Nat} {x1 : Int} {x2 : Int} {a3 : Nat} {a4 : Nat} {x5 : Int} {x6 : Int}  : zY 216 270 [some (zR (some a0)), some (zI x1), some (zI x2), some (zR (some a3)), some (zR (some a4)), some (zI x5), some (zI x6), none] [] h =
    zBack zY 216 272 275 [some (zR (some a0)), some (zI x1), some (zI x2), some (zR (some a3)), some (zR (some a4)), some (zI x5), some (zI x6), none] [zR (some a0)] (zC 207 [zR (some a3)] h) := by
  refine (show zY 216 270 [some (zR (some a0)), some (zI x1), some (zI x2), some (zR (some a3)), some (zR (some a4)), some (zI x5), some (zI x6), none] [] h = gd (zrecv 207 = 0) (gd (false = zspc 207 ∧ zcs [zR (some a0)] ≤ 8 ∧ zrm 216 (zrf 207 + 1) (8 + (zmaxl 207 + 11) + zrl 207) = true ∧ zcs [zR (some a3)] ≤ zmaxl 207) (zBack zY 216 272 275 [some (zR (some a0)), some (zI x1), some (zI x2), some (zR (some a3)), some (zR (some a4)), some (zI x5), some (zI x6), none] [zR (some a0)] (zC 207 [zR (some a3)] h))) from zGo 3 216 270 _ _ _).trans ?_
  refine (gd_t (rfl) _).trans ?_
  refine (gd_t (⟨rfl, Nat.le_of_ble_eq_true rfl, rfl, Nat.le_of_ble_eq_true rfl⟩) _).trans ?_
  rfl
theorem q_L_formula_294 {h : zH} {a0 : Nat} {x1 : Int} {x2 : Int} {a3 : Nat} {a4 : Nat} {x5 : Int} {x6 : Int}  : zY 216 294 [some (zR (some a0)), some (zI x1), some (zI x2), some (zR (some a3)), some (zR (some a4)), some (zI x5), some (zI x6), none] [] h =
    zBack zY 216 296 299 [some (zR (some a0)), some (zI x1), some (zI x2), some (zR (some a3)), some (zR (some a4)), some (zI x5), some (zI x6), none] [zR (some a0)] (zC 207 [zR (some a3)] h) := by
  refine (show zY 216 294 [some (zR (some a0)), some (zI x1), some (zI x2), some (zR (some a3)), some (zR (some a4)), some (zI x5), some (zI x6), none] [] h = gd (zrecv 207 = 0) (gd (false = zspc 207 ∧ zcs [zR (some a0)] ≤ 8 ∧ zrm 216 (zrf 207 + 1) (8 + (zmaxl 207 + 11) + zrl 207) = true ∧ zcs [zR (some a3)] ≤ zmaxl 207) (zBack zY 216 296 299 [some (zR (some a0)), some (zI x1), some (zI x2), some (zR (some a3)), some (zR (some a4)), some (zI x5), some (zI x6), none] [zR (some a0)] (zC 207 [zR (some a3)] h))) from zGo 3 216 294 _ _ _).trans ?_
  refine (gd_t (rfl) _).trans ?_
  refine (gd_t (⟨rfl, Nat.le_of_ble_eq_true rfl, rfl, Nat.le_of_ble_eq_true rfl⟩) _).trans ?_
  rfl
theorem q_L_formula_60 {h : zH} {a0 : Nat} {x1 : Int} {x2 : Int} {a3 : Nat} {a4 : Nat} {x5 : Int} {x6 : Int} {y0 : Nat} {y1 : Int}  : zY 216 60 [some (zR (some a0)), some (zI x1), some (zI x2), some (zR (some a3)), some (zR (some a4)), some (zI x5), some (zI x6), none] [zI y1, zR (some y0)] h =
    gd ((0 : Int) ≤ y1 ∧ (0 : Int) < 2 ∨ (-2147483648 : Int) < y1 ∧ (0 : Int) < 2) (if (Int.tmod y1 2) = 0 then zY 216 65 [some (zR (some a0)), some (zI x1), some (zI x2), some (zR (some a3)), some (zR (some a4)), some (zI x5), some (zI x6), none] [zR (some y0)] h else zY 216 70 [some (zR (some a0)), some (zI x1), some (zI x2), some (zR (some a3)), some (zR (some a4)), some (zI x5), some (zI x6), none] [zR (some y0)] h) := by
  refine (show zY 216 60 [some (zR (some a0)), some (zI x1), some (zI x2), some (zR (some a3)), some (zR (some a4)), some (zI x5), some (zI x6), none] [zI y1, zR (some y0)] h = gd (inR (2)) (gd ((0 : Int) ≤ y1 ∧ (0 : Int) < 2 ∨ (-2147483648 : Int) < y1 ∧ (0 : Int) < 2) (if (Int.tmod y1 2) = 0 then zY 216 65 [some (zR (some a0)), some (zI x1), some (zI x2), some (zR (some a3)), some (zR (some a4)), some (zI x5), some (zI x6), none] [zR (some y0)] h else zY 216 70 [some (zR (some a0)), some (zI x1), some (zI x2), some (zR (some a3)), some (zR (some a4)), some (zI x5), some (zI x6), none] [zR (some y0)] h)) from zGo 3 216 60 _ _ _).trans ?_
  refine (gd_t (by decide) _).trans ?_
  refine gd_c (Iff.rfl) (fun _ => ?_)
  rfl
theorem q_L_formula_128 {h : zH} {a0 : Nat} {x1 : Int} {x2 : Int} {a3 : Nat} {a4 : Nat} {x5 : Int} {x6 : Int} {y0 : Nat}  : zY 216 128 [some (zR (some a0)), some (zI x1), some (zI x2), some (zR (some a3)), some (zR (some a4)), some (zI x5), some (zI x6), none] [zR (some y0)] h =
    zBack zY 216 129 132 [some (zR (some a0)), some (zI x1), some (zI x2), some (zR (some a3)), some (zR (some a4)), some (zI x5), some (zI x6), none] [zR (some y0)] (zC 207 [zR (some a3)] h) := by
  refine (show zY 216 128 [some (zR (some a0)), some (zI x1), some (zI x2), some (zR (some a3)), some (zR (some a4)), some (zI x5), some (zI x6), none] [zR (some y0)] h = gd (zrecv 207 = 0) (gd (false = zspc 207 ∧ zcs [zR (some y0)] ≤ 8 ∧ zrm 216 (zrf 207 + 1) (8 + (zmaxl 207 + 11) + zrl 207) = true ∧ zcs [zR (some a3)] ≤ zmaxl 207) (zBack zY 216 129 132 [some (zR (some a0)), some (zI x1), some (zI x2), some (zR (some a3)), some (zR (some a4)), some (zI x5), some (zI x6), none] [zR (some y0)] (zC 207 [zR (some a3)] h))) from zGo 2 216 128 _ _ _).trans ?_
  refine (gd_t (rfl) _).trans ?_
  refine (gd_t (⟨rfl, Nat.le_of_ble_eq_true rfl, rfl, Nat.le_of_ble_eq_true rfl⟩) _).trans ?_
  rfl
theorem q_L_formula_147 {h : zH} {a0 : Nat} {x1 : Int} {x2 : Int} {a3 : Nat} {a4 : Nat} {x5 : Int} {x6 : Int} {y0 : Nat}  : zY 216 147 [some (zR (some a0)), some (zI x1), some (zI x2), some (zR (some a3)), some (zR (some a4)), some (zI x5), some (zI x6), none] [zR (some y0)] h =
    zBack zY 216 150 153 [some (zR (some a0)), some (zI x1), some (zI x2), some (zR (some a3)), some (zR (some a4)), some (zI x5), some (zI x6), none] [zI 97, zR (some y0)] (zC 207 [zR (some a3)] h) := by
  refine (show zY 216 147 [some (zR (some a0)), some (zI x1), some (zI x2), some (zR (some a3)), some (zR (some a4)), some (zI x5), some (zI x6), none] [zR (some y0)] h = gd (-128 ≤ (97 : Int) ∧ (97 : Int) < 128) (gd (zrecv 207 = 0) (gd (false = zspc 207 ∧ zcs [zI 97, zR (some y0)] ≤ 8 ∧ zrm 216 (zrf 207 + 1) (8 + (zmaxl 207 + 11) + zrl 207) = true ∧ zcs [zR (some a3)] ≤ zmaxl 207) (zBack zY 216 150 153 [some (zR (some a0)), some (zI x1), some (zI x2), some (zR (some a3)), some (zR (some a4)), some (zI x5), some (zI x6), none] [zI 97, zR (some y0)] (zC 207 [zR (some a3)] h)))) from zGo 3 216 147 _ _ _).trans ?_
  refine (gd_t (by decide) _).trans ?_
  refine (gd_t (rfl) _).trans ?_
  refine (gd_t (⟨rfl, Nat.le_of_ble_eq_true rfl, rfl, Nat.le_of_ble_eq_true rfl⟩) _).trans ?_
  rfl
theorem q_L_formula_182 {h : zH} {a0 : Nat} {x1 : Int} {x2 : Int} {a3 : Nat} {a4 : Nat} {x5 : Int} {x6 : Int} {y0 : Int}  : zY 216 182 [some (zR (some a0)), some (zI x1), some (zI x2), some (zR (some a3)), some (zR (some a4)), some (zI x5), some (zI x6), none] [zI y0] h =
    gd ((0 : Int) ≤ y0 ∧ (0 : Int) < 3 ∨ (-2147483648 : Int) < y0 ∧ (0 : Int) < 3) (if (Int.tmod y0 3) = 0 then zY 216 187 [some (zR (some a0)), some (zI x1), some (zI x2), some (zR (some a3)), some (zR (some a4)), some (zI x5), some (zI x6), none] [] h else zY 216 191 [some (zR (some a0)), some (zI x1), some (zI x2), some (zR (some a3)), some (zR (some a4)), some (zI x5), some (zI x6), none] [] h) := by
  refine (show zY 216 182 [some (zR (some a0)), some (zI x1), some (zI x2), some (zR (some a3)), some (zR (some a4)), some (zI x5), some (zI x6), none] [zI y0] h = gd (inR (3)) (gd ((0 : Int) ≤ y0 ∧ (0 : Int) < 3 ∨ (-2147483648 : Int) < y0 ∧ (0 : Int) < 3) (if (Int.tmod y0 3) = 0 then zY 216 187 [some (zR (some a0)), some (zI x1), some (zI x2), some (zR (some a3)), some (zR (some a4)), some (zI x5), some (zI x6), none] [] h else zY 216 191 [some (zR (some a0)), some (zI x1), some (zI x2), some (zR (some a3)), some (zR (some a4)), some (zI x5), some (zI x6), none] [] h)) from zGo 3 216 182 _ _ _).trans ?_
  refine (gd_t (by decide) _).trans ?_
  refine gd_c (Iff.rfl) (fun _ => ?_)
  rfl
theorem q_L_formula_275 {h : zH} {a0 : Nat} {x1 : Int} {x2 : Int} {a3 : Nat} {a4 : Nat} {x5 : Int} {x6 : Int} {y0 : Nat} {y1 : Int}  : zY 216 275 [some (zR (some a0)), some (zI x1), some (zI x2), some (zR (some a3)), some (zR (some a4)), some (zI x5), some (zI x6), none] [zI y1, zR (some y0)] h =
    gd ((0 : Int) ≤ y1 ∧ (0 : Int) < 3 ∨ (-2147483648 : Int) < y1 ∧ (0 : Int) < 3) (if 0 < (Int.tmod y1 3) then zY 216 280 [some (zR (some a0)), some (zI x1), some (zI x2), some (zR (some a3)), some (zR (some a4)), some (zI x5), some (zI x6), none] [zR (some y0)] h else zY 216 285 [some (zR (some a0)), some (zI x1), some (zI x2), some (zR (some a3)), some (zR (some a4)), some (zI x5), some (zI x6), none] [zR (some y0)] h) := by
  refine (show zY 216 275 [some (zR (some a0)), some (zI x1), some (zI x2), some (zR (some a3)), some (zR (some a4)), some (zI x5), some (zI x6), none] [zI y1, zR (some y0)] h = gd (inR (3)) (gd ((0 : Int) ≤ y1 ∧ (0 : Int) < 3 ∨ (-2147483648 : Int) < y1 ∧ (0 : Int) < 3) (if 0 < (Int.tmod y1 3) then zY 216 280 [some (zR (some a0)), some (zI x1), some (zI x2), some (zR (some a3)), some (zR (some a4)), some (zI x5), some (zI x6), none] [zR (some y0)] h else zY 216 285 [some (zR (some a0)), some (zI x1), some (zI x2), some (zR (some a3)), some (zR (some a4)), some (zI x5), some (zI x6), none] [zR (some y0)] h)) from zGo 3 216 275 _ _ _).trans ?_
  refine (gd_t (by decide) _).trans ?_
  refine gd_c (Iff.rfl) (fun _ => ?_)
  rfl
theorem q_L_formula_299 {h : zH} {a0 : Nat} {x1 : Int} {x2 : Int} {a3 : Nat} {a4 : Nat} {x5 : Int} {x6 : Int} {y0 : Nat} {y1 : Int}  : zY 216 299 [some (zR (some a0)), some (zI x1), some (zI x2), some (zR (some a3)), some (zR (some a4)), some (zI x5), some (zI x6), none] [zI y1, zR (some y0)] h =
    gd ((0 : Int) ≤ y1 ∧ (0 : Int) < 2 ∨ (-2147483648 : Int) < y1 ∧ (0 : Int) < 2) (if (Int.tmod y1 2) = 0 then zY 216 304 [some (zR (some a0)), some (zI x1), some (zI x2), some (zR (some a3)), some (zR (some a4)), some (zI x5), some (zI x6), none] [zR (some y0)] h else zY 216 309 [some (zR (some a0)), some (zI x1), some (zI x2), some (zR (some a3)), some (zR (some a4)), some (zI x5), some (zI x6), none] [zR (some y0)] h) := by
  refine (show zY 216 299 [some (zR (some a0)), some (zI x1), some (zI x2), some (zR (some a3)), some (zR (some a4)), some (zI x5), some (zI x6), none] [zI y1, zR (some y0)] h = gd (inR (2)) (gd ((0 : Int) ≤ y1 ∧ (0 : Int) < 2 ∨ (-2147483648 : Int) < y1 ∧ (0 : Int) < 2) (if (Int.tmod y1 2) = 0 then zY 216 304 [some (zR (some a0)), some (zI x1), some (zI x2), some (zR (some a3)), some (zR (some a4)), some (zI x5), some (zI x6), none] [zR (some y0)] h else zY 216 309 [some (zR (some a0)), some (zI x1), some (zI x2), some (zR (some a3)), some (zR (some a4)), some (zI x5), some (zI x6), none] [zR (some y0)] h)) from zGo 3 216 299 _ _ _).trans ?_
  refine (gd_t (by decide) _).trans ?_
  refine gd_c (Iff.rfl) (fun _ => ?_)
  rfl
theorem q_L_formula_65 {h : zH} {a0 : Nat} {x1 : Int} {x2 : Int} {a3 : Nat} {a4 : Nat} {x5 : Int} {x6 : Int} {y0 : Nat} (ty0 : hT h y0 = 12) (ny0 : y0 < hN h) : zY 216 65 [some (zR (some a0)), some (zI x1), some (zI x2), some (zR (some a3)), some (zR (some a4)), some (zI x5), some (zI x6), none] [zR (some y0)] h =
    zBack zY 216 86 89 [some (zR (some a0)), some (zI x1), some (zI x2), some (zR (some a3)), some (zR (some a4)), some (zI x5), some (zI x6), none] [] (zC 180 [zR (some y0), zR (some (zVB + 33))] h) := by
  refine (show zY 216 65 [some (zR (some a0)), some (zI x1), some (zI x2), some (zR (some a3)), some (zR (some a4)), some (zI x5), some (zI x6), none] [zR (some y0)] h = gd (0 < zrecv 180) (gd (false = zspc 180 ∧ zcs [] ≤ 8 ∧ zrm 216 (zrf 180 + 1) (8 + (zmaxl 180 + 11) + zrl 180) = true ∧ zcs [zR (some y0), zR (some (zVB + 33))] ≤ zmaxl 180) (gd (zob h (some y0) 12) (zBack zY 216 86 89 [some (zR (some a0)), some (zI x1), some (zI x2), some (zR (some a3)), some (zR (some a4)), some (zI x5), some (zI x6), none] [] (zC 180 [zR (some y0), zR (some (zVB + 33))] h)))) from zGo 3 216 65 _ _ _).trans ?_
  refine (gd_t (by decide) _).trans ?_
  refine (gd_t (⟨rfl, Nat.le_of_ble_eq_true rfl, rfl, Nat.le_of_ble_eq_true rfl⟩) _).trans ?_
  refine (gd_t (⟨rfl, ty0, ny0⟩) _).trans ?_
  rfl
theorem q_L_formula_70 {h : zH} {a0 : Nat} {x1 : Int} {x2 : Int} {a3 : Nat} {a4 : Nat} {x5 : Int} {x6 : Int} {y0 : Nat}  : zY 216 70 [some (zR (some a0)), some (zI x1), some (zI x2), some (zR (some a3)), some (zR (some a4)), some (zI x5), some (zI x6), none] [zR (some y0)] h =
    zBack zY 216 71 74 [some (zR (some a0)), some (zI x1), some (zI x2), some (zR (some a3)), some (zR (some a4)), some (zI x5), some (zI x6), none] [zR (some y0)] (zC 207 [zR (some a3)] h) := by
  refine (show zY 216 70 [some (zR (some a0)), some (zI x1), some (zI x2), some (zR (some a3)), some (zR (some a4)), some (zI x5), some (zI x6), none] [zR (some y0)] h = gd (zrecv 207 = 0) (gd (false = zspc 207 ∧ zcs [zR (some y0)] ≤ 8 ∧ zrm 216 (zrf 207 + 1) (8 + (zmaxl 207 + 11) + zrl 207) = true ∧ zcs [zR (some a3)] ≤ zmaxl 207) (zBack zY 216 71 74 [some (zR (some a0)), some (zI x1), some (zI x2), some (zR (some a3)), some (zR (some a4)), some (zI x5), some (zI x6), none] [zR (some y0)] (zC 207 [zR (some a3)] h))) from zGo 2 216 70 _ _ _).trans ?_
  refine (gd_t (rfl) _).trans ?_
  refine (gd_t (⟨rfl, Nat.le_of_ble_eq_true rfl, rfl, Nat.le_of_ble_eq_true rfl⟩) _).trans ?_
  rfl
theorem q_L_formula_132 {h : zH} {a0 : Nat} {x1 : Int} {x2 : Int} {a3 : Nat} {a4 : Nat} {x5 : Int} {x6 : Int} {y0 : Nat} {y1 : Int} (ty0 : hT h y0 = 12) (ny0 : y0 < hN h) : zY 216 132 [some (zR (some a0)), some (zI x1), some (zI x2), some (zR (some a3)), some (zR (some a4)), some (zI x5), some (zI x6), none] [zI y1, zR (some y0)] h =
    gd ((0 : Int) ≤ y1 ∧ (0 : Int) < 4 ∨ (-2147483648 : Int) < y1 ∧ (0 : Int) < 4) (zBack zY 216 134 137 [some (zR (some a0)), some (zI x1), some (zI x2), some (zR (some a3)), some (zR (some a4)), some (zI x5), some (zI x6), none] [] (zC 203 [zR (some y0), zI (Int.tmod y1 4)] h)) := by
  refine (show zY 216 132 [some (zR (some a0)), some (zI x1), some (zI x2), some (zR (some a3)), some (zR (some a4)), some (zI x5), some (zI x6), none] [zI y1, zR (some y0)] h = gd (inR (4)) (gd ((0 : Int) ≤ y1 ∧ (0 : Int) < 4 ∨ (-2147483648 : Int) < y1 ∧ (0 : Int) < 4) (gd (0 < zrecv 203) (gd (false = zspc 203 ∧ zcs [] ≤ 8 ∧ zrm 216 (zrf 203 + 1) (8 + (zmaxl 203 + 11) + zrl 203) = true ∧ zcs [zR (some y0), zI (Int.tmod y1 4)] ≤ zmaxl 203) (gd (zob h (some y0) 12) (zBack zY 216 134 137 [some (zR (some a0)), some (zI x1), some (zI x2), some (zR (some a3)), some (zR (some a4)), some (zI x5), some (zI x6), none] [] (zC 203 [zR (some y0), zI (Int.tmod y1 4)] h)))))) from zGo 3 216 132 _ _ _).trans ?_
  refine (gd_t (by decide) _).trans ?_
  refine gd_c (Iff.rfl) (fun _ => ?_)
  refine (gd_t (by decide) _).trans ?_
  refine (gd_t (⟨rfl, Nat.le_of_ble_eq_true rfl, rfl, Nat.le_of_ble_eq_true rfl⟩) _).trans ?_
  refine (gd_t (⟨rfl, ty0, ny0⟩) _).trans ?_
  rfl
theorem q_L_formula_153 {h : zH} {a0 : Nat} {x1 : Int} {x2 : Int} {a3 : Nat} {a4 : Nat} {x5 : Int} {x6 : Int} {y0 : Nat} {y1 : Int} {y2 : Int} (ty0 : hT h y0 = 12) (ny0 : y0 < hN h) : zY 216 153 [some (zR (some a0)), some (zI x1), some (zI x2), some (zR (some a3)), some (zR (some a4)), some (zI x5), some (zI x6), none] [zI y2, zI y1, zR (some y0)] h =
    gd ((0 : Int) ≤ y2 ∧ (0 : Int) < 3 ∨ (-2147483648 : Int) < y2 ∧ (0 : Int) < 3) (zBack zY 216 157 160 [some (zR (some a0)), some (zI x1), some (zI x2), some (zR (some a3)), some (zR (some a4)), some (zI x5), some (zI x6), none] [] (zC 189 [zR (some y0), zI (zi2c (zwadd y1 (Int.tmod y2 3)))] h)) := by
  refine (show zY 216 153 [some (zR (some a0)), some (zI x1), some (zI x2), some (zR (some a3)), some (zR (some a4)), some (zI x5), some (zI x6), none] [zI y2, zI y1, zR (some y0)] h = gd (inR (3)) (gd ((0 : Int) ≤ y2 ∧ (0 : Int) < 3 ∨ (-2147483648 : Int) < y2 ∧ (0 : Int) < 3) (gd (0 < zrecv 189) (gd (false = zspc 189 ∧ zcs [] ≤ 8 ∧ zrm 216 (zrf 189 + 1) (8 + (zmaxl 189 + 11) + zrl 189) = true ∧ zcs [zR (some y0), zI (zi2c (zwadd y1 (Int.tmod y2 3)))] ≤ zmaxl 189) (gd (zob h (some y0) 12) (zBack zY 216 157 160 [some (zR (some a0)), some (zI x1), some (zI x2), some (zR (some a3)), some (zR (some a4)), some (zI x5), some (zI x6), none] [] (zC 189 [zR (some y0), zI (zi2c (zwadd y1 (Int.tmod y2 3)))] h)))))) from zGo 5 216 153 _ _ _).trans ?_
  refine (gd_t (by decide) _).trans ?_
  refine gd_c (Iff.rfl) (fun _ => ?_)
  refine (gd_t (by decide) _).trans ?_
  refine (gd_t (⟨rfl, Nat.le_of_ble_eq_true rfl, rfl, Nat.le_of_ble_eq_true rfl⟩) _).trans ?_
  refine (gd_t (⟨rfl, ty0, ny0⟩) _).trans ?_
  rfl
theorem q_L_formula_187 {h : zH} {a0 : Nat} {x1 : Int} {x2 : Int} {a3 : Nat} {a4 : Nat} {x5 : Int} {x6 : Int} (ta0 : hT h a0 = 12) (na0 : a0 < hN h) : zY 216 187 [some (zR (some a0)), some (zI x1), some (zI x2), some (zR (some a3)), some (zR (some a4)), some (zI x5), some (zI x6), none] [] h =
    zBack zY 216 221 224 [some (zR (some a0)), some (zI x1), some (zI x2), some (zR (some a3)), some (zR (some a4)), some (zI x5), some (zI x6), some (zI 1)] [] (zC 180 [zR (some a0), zR (some (zVB + 36))] h) := by
  refine (show zY 216 187 [some (zR (some a0)), some (zI x1), some (zI x2), some (zR (some a3)), some (zR (some a4)), some (zI x5), some (zI x6), none] [] h = gd (inR (1)) (if (1 : Int) = 0 then zY 216 205 [some (zR (some a0)), some (zI x1), some (zI x2), some (zR (some a3)), some (zR (some a4)), some (zI x5), some (zI x6), some (zI 1)] [zR (some a0)] h else zY 216 200 [some (zR (some a0)), some (zI x1), some (zI x2), some (zR (some a3)), some (zR (some a4)), some (zI x5), some (zI x6), some (zI 1)] [zR (some a0)] h) from zGo 6 216 187 _ _ _).trans ?_
  refine (gd_t (by decide) _).trans ?_
  refine (if_neg (by decide)).trans ?_
  refine (show zY 216 200 [some (zR (some a0)), some (zI x1), some (zI x2), some (zR (some a3)), some (zR (some a4)), some (zI x5), some (zI x6), some (zI 1)] [zR (some a0)] h = gd (0 < zrecv 180) (gd (false = zspc 180 ∧ zcs [] ≤ 8 ∧ zrm 216 (zrf 180 + 1) (8 + (zmaxl 180 + 11) + zrl 180) = true ∧ zcs [zR (some a0), zR (some (zVB + 36))] ≤ zmaxl 180) (gd (zob h (some a0) 12) (zBack zY 216 221 224 [some (zR (some a0)), some (zI x1), some (zI x2), some (zR (some a3)), some (zR (some a4)), some (zI x5), some (zI x6), some (zI 1)] [] (zC 180 [zR (some a0), zR (some (zVB + 36))] h)))) from zGo 3 216 200 _ _ _).trans ?_
  refine (gd_t (by decide) _).trans ?_
  refine (gd_t (⟨rfl, Nat.le_of_ble_eq_true rfl, rfl, Nat.le_of_ble_eq_true rfl⟩) _).trans ?_
  refine (gd_t (⟨rfl, ta0, na0⟩) _).trans ?_
  rfl
theorem q_L_formula_191 {h : zH} {a0 : Nat} {x1 : Int} {x2 : Int} {a3 : Nat} {a4 : Nat} {x5 : Int} {x6 : Int}  : zY 216 191 [some (zR (some a0)), some (zI x1), some (zI x2), some (zR (some a3)), some (zR (some a4)), some (zI x5), some (zI x6), none] [] h =
    zBack zY 216 206 209 [some (zR (some a0)), some (zI x1), some (zI x2), some (zR (some a3)), some (zR (some a4)), some (zI x5), some (zI x6), some (zI 0)] [zR (some a0)] (zC 207 [zR (some a3)] h) := by
  refine (show zY 216 191 [some (zR (some a0)), some (zI x1), some (zI x2), some (zR (some a3)), some (zR (some a4)), some (zI x5), some (zI x6), none] [] h = gd (inR (0)) (if (0 : Int) = 0 then zY 216 205 [some (zR (some a0)), some (zI x1), some (zI x2), some (zR (some a3)), some (zR (some a4)), some (zI x5), some (zI x6), some (zI 0)] [zR (some a0)] h else zY 216 200 [some (zR (some a0)), some (zI x1), some (zI x2), some (zR (some a3)), some (zR (some a4)), some (zI x5), some (zI x6), some (zI 0)] [zR (some a0)] h) from zGo 5 216 191 _ _ _).trans ?_
  refine (gd_t (by decide) _).trans ?_
  refine (if_pos (by decide)).trans ?_
  refine (show zY 216 205 [some (zR (some a0)), some (zI x1), some (zI x2), some (zR (some a3)), some (zR (some a4)), some (zI x5), some (zI x6), some (zI 0)] [zR (some a0)] h = gd (zrecv 207 = 0) (gd (false = zspc 207 ∧ zcs [zR (some a0)] ≤ 8 ∧ zrm 216 (zrf 207 + 1) (8 + (zmaxl 207 + 11) + zrl 207) = true ∧ zcs [zR (some a3)] ≤ zmaxl 207) (zBack zY 216 206 209 [some (zR (some a0)), some (zI x1), some (zI x2), some (zR (some a3)), some (zR (some a4)), some (zI x5), some (zI x6), some (zI 0)] [zR (some a0)] (zC 207 [zR (some a3)] h))) from zGo 2 216 205 _ _ _).trans ?_
  refine (gd_t (rfl) _).trans ?_
  refine (gd_t (⟨rfl, Nat.le_of_ble_eq_true rfl, rfl, Nat.le_of_ble_eq_true rfl⟩) _).trans ?_
  rfl
theorem q_L_formula_280 {h : zH} {a0 : Nat} {x1 : Int} {x2 : Int} {a3 : Nat} {a4 : Nat} {x5 : Int} {x6 : Int} {y0 : Nat} (ty0 : hT h y0 = 12) (ny0 : y0 < hN h) : zY 216 280 [some (zR (some a0)), some (zI x1), some (zI x2), some (zR (some a3)), some (zR (some a4)), some (zI x5), some (zI x6), none] [zR (some y0)] h =
    zBack zY 216 287 290 [some (zR (some a0)), some (zI x1), some (zI x2), some (zR (some a3)), some (zR (some a4)), some (zI x5), some (zI x6), none] [] (zC 180 [zR (some y0), zR (some (zVB + 39))] h) := by
  refine (show zY 216 280 [some (zR (some a0)), some (zI x1), some (zI x2), some (zR (some a3)), some (zR (some a4)), some (zI x5), some (zI x6), none] [zR (some y0)] h = gd (0 < zrecv 180) (gd (false = zspc 180 ∧ zcs [] ≤ 8 ∧ zrm 216 (zrf 180 + 1) (8 + (zmaxl 180 + 11) + zrl 180) = true ∧ zcs [zR (some y0), zR (some (zVB + 39))] ≤ zmaxl 180) (gd (zob h (some y0) 12) (zBack zY 216 287 290 [some (zR (some a0)), some (zI x1), some (zI x2), some (zR (some a3)), some (zR (some a4)), some (zI x5), some (zI x6), none] [] (zC 180 [zR (some y0), zR (some (zVB + 39))] h)))) from zGo 3 216 280 _ _ _).trans ?_
  refine (gd_t (by decide) _).trans ?_
  refine (gd_t (⟨rfl, Nat.le_of_ble_eq_true rfl, rfl, Nat.le_of_ble_eq_true rfl⟩) _).trans ?_
  refine (gd_t (⟨rfl, ty0, ny0⟩) _).trans ?_
  rfl
theorem q_L_formula_285 {h : zH} {a0 : Nat} {x1 : Int} {x2 : Int} {a3 : Nat} {a4 : Nat} {x5 : Int} {x6 : Int} {y0 : Nat} (ty0 : hT h y0 = 12) (ny0 : y0 < hN h) : zY 216 285 [some (zR (some a0)), some (zI x1), some (zI x2), some (zR (some a3)), some (zR (some a4)), some (zI x5), some (zI x6), none] [zR (some y0)] h =
    zBack zY 216 287 290 [some (zR (some a0)), some (zI x1), some (zI x2), some (zR (some a3)), some (zR (some a4)), some (zI x5), some (zI x6), none] [] (zC 180 [zR (some y0), zR (some (zVB + 40))] h) := by
  refine (show zY 216 285 [some (zR (some a0)), some (zI x1), some (zI x2), some (zR (some a3)), some (zR (some a4)), some (zI x5), some (zI x6), none] [zR (some y0)] h = gd (0 < zrecv 180) (gd (false = zspc 180 ∧ zcs [] ≤ 8 ∧ zrm 216 (zrf 180 + 1) (8 + (zmaxl 180 + 11) + zrl 180) = true ∧ zcs [zR (some y0), zR (some (zVB + 40))] ≤ zmaxl 180) (gd (zob h (some y0) 12) (zBack zY 216 287 290 [some (zR (some a0)), some (zI x1), some (zI x2), some (zR (some a3)), some (zR (some a4)), some (zI x5), some (zI x6), none] [] (zC 180 [zR (some y0), zR (some (zVB + 40))] h)))) from zGo 2 216 285 _ _ _).trans ?_
  refine (gd_t (by decide) _).trans ?_
  refine (gd_t (⟨rfl, Nat.le_of_ble_eq_true rfl, rfl, Nat.le_of_ble_eq_true rfl⟩) _).trans ?_
  refine (gd_t (⟨rfl, ty0, ny0⟩) _).trans ?_
  rfl
theorem q_L_formula_304 {h : zH} {a0 : Nat} {x1 : Int} {x2 : Int} {a3 : Nat} {a4 : Nat} {x5 : Int} {x6 : Int} {y0 : Nat} (ty0 : hT h y0 = 12) (ny0 : y0 < hN h) : zY 216 304 [some (zR (some a0)), some (zI x1), some (zI x2), some (zR (some a3)), some (zR (some a4)), some (zI x5), some (zI x6), none] [zR (some y0)] h =
    zBack zY 216 311 314 [some (zR (some a0)), some (zI x1), some (zI x2), some (zR (some a3)), some (zR (some a4)), some (zI x5), some (zI x6), none] [] (zC 180 [zR (some y0), zR (some (zVB + 41))] h) := by
  refine (show zY 216 304 [some (zR (some a0)), some (zI x1), some (zI x2), some (zR (some a3)), some (zR (some a4)), some (zI x5), some (zI x6), none] [zR (some y0)] h = gd (0 < zrecv 180) (gd (false = zspc 180 ∧ zcs [] ≤ 8 ∧ zrm 216 (zrf 180 + 1) (8 + (zmaxl 180 + 11) + zrl 180) = true ∧ zcs [zR (some y0), zR (some (zVB + 41))] ≤ zmaxl 180) (gd (zob h (some y0) 12) (zBack zY 216 311 314 [some (zR (some a0)), some (zI x1), some (zI x2), some (zR (some a3)), some (zR (some a4)), some (zI x5), some (zI x6), none] [] (zC 180 [zR (some y0), zR (some (zVB + 41))] h)))) from zGo 3 216 304 _ _ _).trans ?_
  refine (gd_t (by decide) _).trans ?_
  refine (gd_t (⟨rfl, Nat.le_of_ble_eq_true rfl, rfl, Nat.le_of_ble_eq_true rfl⟩) _).trans ?_
  refine (gd_t (⟨rfl, ty0, ny0⟩) _).trans ?_
  rfl
theorem q_L_formula_309 {h : zH} {a0 : Nat} {x1 : Int} {x2 : Int} {a3 : Nat} {a4 : Nat} {x5 : Int} {x6 : Int} {y0 : Nat} (ty0 : hT h y0 = 12) (ny0 : y0 < hN h) : zY 216 309 [some (zR (some a0)), some (zI x1), some (zI x2), some (zR (some a3)), some (zR (some a4)), some (zI x5), some (zI x6), none] [zR (some y0)] h =
    zBack zY 216 311 314 [some (zR (some a0)), some (zI x1), some (zI x2), some (zR (some a3)), some (zR (some a4)), some (zI x5), some (zI x6), none] [] (zC 180 [zR (some y0), zR (some (zVB + 42))] h) := by
  refine (show zY 216 309 [some (zR (some a0)), some (zI x1), some (zI x2), some (zR (some a3)), some (zR (some a4)), some (zI x5), some (zI x6), none] [zR (some y0)] h = gd (0 < zrecv 180) (gd (false = zspc 180 ∧ zcs [] ≤ 8 ∧ zrm 216 (zrf 180 + 1) (8 + (zmaxl 180 + 11) + zrl 180) = true ∧ zcs [zR (some y0), zR (some (zVB + 42))] ≤ zmaxl 180) (gd (zob h (some y0) 12) (zBack zY 216 311 314 [some (zR (some a0)), some (zI x1), some (zI x2), some (zR (some a3)), some (zR (some a4)), some (zI x5), some (zI x6), none] [] (zC 180 [zR (some y0), zR (some (zVB + 42))] h)))) from zGo 2 216 309 _ _ _).trans ?_
  refine (gd_t (by decide) _).trans ?_
  refine (gd_t (⟨rfl, Nat.le_of_ble_eq_true rfl, rfl, Nat.le_of_ble_eq_true rfl⟩) _).trans ?_
  refine (gd_t (⟨rfl, ty0, ny0⟩) _).trans ?_
  rfl
theorem q_L_formula_89 {h : zH} {a0 : Nat} {x1 : Int} {x2 : Int} {a3 : Nat} {a4 : Nat} {x5 : Int} {x6 : Int} {y0 : Nat} (ta4 : hT h a4 = 22) (na4 : a4 < hN h) : zY 216 89 [some (zR (some a0)), some (zI x1), some (zI x2), some (zR (some a3)), some (zR (some a4)), some (zI x5), some (zI x6), none] [zR (some y0)] h =
    gd ((0 : Int) ≤ x5 ∧ x5 < (hL h a4 : Int)) (gd ((0 : Int) ≤ (zwadd x5 1) ∧ (zwadd x5 1) < (hL h a4 : Int)) (gd (inR (x5 + 2)) (gd (inR (x6 + (-1))) (zY 216 25 [some (zR (some a0)), some (zI x1), some (zI x2), some (zR (some a3)), some (zR (some a4)), some (zI (x5 + 2)), some (zI (x6 + (-1))), none] [] (sI (sI h a4 x5.toNat 0) a4 (zwadd x5 1).toNat 0))))) := by
  refine (show zY 216 89 [some (zR (some a0)), some (zI x1), some (zI x2), some (zR (some a3)), some (zR (some a4)), some (zI x5), some (zI x6), none] [zR (some y0)] h = gd (inR (0)) (gd (zokw h (some a4) 22 x5) (gd (inR (1)) (gd (inR (0)) (gd (zokw (sI h a4 x5.toNat 0) (some a4) 22 (zwadd x5 1)) (gd (inR (x5 + 2)) (gd (inR (2)) (gd (inR (x6 + (-1))) (gd (inR (-1)) (zY 216 25 [some (zR (some a0)), some (zI x1), some (zI x2), some (zR (some a3)), some (zR (some a4)), some (zI (x5 + 2)), some (zI (x6 + (-1))), none] [] (sI (sI h a4 x5.toNat 0) a4 (zwadd x5 1).toNat 0)))))))))) from zGo 14 216 89 _ _ _).trans ?_
  refine (gd_t (by decide) _).trans ?_
  refine gd_c (ciw ta4 na4 rfl) (fun _ => ?_)
  refine (gd_t (by decide) _).trans ?_
  refine (gd_t (by decide) _).trans ?_
  refine gd_c (ciw ta4 na4 rfl) (fun _ => ?_)
  refine gd_c (Iff.rfl) (fun _ => ?_)
  refine (gd_t (by decide) _).trans ?_
  refine gd_c (Iff.rfl) (fun _ => ?_)
  refine (gd_t (by decide) _).trans ?_
  rfl
theorem q_L_formula_74 {h : zH} {a0 : Nat} {x1 : Int} {x2 : Int} {a3 : Nat} {a4 : Nat} {x5 : Int} {x6 : Int} {y0 : Nat} {y1 : Int}  : zY 216 74 [some (zR (some a0)), some (zI x1), some (zI x2), some (zR (some a3)), some (zR (some a4)), some (zI x5), some (zI x6), none] [zI y1, zR (some y0)] h =
    gd ((0 : Int) ≤ y1 ∧ (0 : Int) < 2 ∨ (-2147483648 : Int) < y1 ∧ (0 : Int) < 2) (if (Int.tmod y1 2) = 0 then zY 216 79 [some (zR (some a0)), some (zI x1), some (zI x2), some (zR (some a3)), some (zR (some a4)), some (zI x5), some (zI x6), none] [zR (some y0)] h else zY 216 84 [some (zR (some a0)), some (zI x1), some (zI x2), some (zR (some a3)), some (zR (some a4)), some (zI x5), some (zI x6), none] [zR (some y0)] h) := by
  refine (show zY 216 74 [some (zR (some a0)), some (zI x1), some (zI x2), some (zR (some a3)), some (zR (some a4)), some (zI x5), some (zI x6), none] [zI y1, zR (some y0)] h = gd (inR (2)) (gd ((0 : Int) ≤ y1 ∧ (0 : Int) < 2 ∨ (-2147483648 : Int) < y1 ∧ (0 : Int) < 2) (if (Int.tmod y1 2) = 0 then zY 216 79 [some (zR (some a0)), some (zI x1), some (zI x2), some (zR (some a3)), some (zR (some a4)), some (zI x5), some (zI x6), none] [zR (some y0)] h else zY 216 84 [some (zR (some a0)), some (zI x1), some (zI x2), some (zR (some a3)), some (zR (some a4)), some (zI x5), some (zI x6), none] [zR (some y0)] h)) from zGo 3 216 74 _ _ _).trans ?_
  refine (gd_t (by decide) _).trans ?_
  refine gd_c (Iff.rfl) (fun _ => ?_)
  rfl
theorem q_L_formula_137 {h : zH} {a0 : Nat} {x1 : Int} {x2 : Int} {a3 : Nat} {a4 : Nat} {x5 : Int} {x6 : Int} {y0 : Nat}  : zY 216 137 [some (zR (some a0)), some (zI x1), some (zI x2), some (zR (some a3)), some (zR (some a4)), some (zI x5), some (zI x6), none] [zR (some y0)] h =
    zY 216 25 [some (zR (some a0)), some (zI x1), some (zI x2), some (zR (some a3)), some (zR (some a4)), some (zI x5), some (zI x6), none] [] h := by
  refine (show zY 216 137 [some (zR (some a0)), some (zI x1), some (zI x2), some (zR (some a3)), some (zR (some a4)), some (zI x5), some (zI x6), none] [zR (some y0)] h = zY 216 25 [some (zR (some a0)), some (zI x1), some (zI x2), some (zR (some a3)), some (zR (some a4)), some (zI x5), some (zI x6), none] [] h from zGo 2 216 137 _ _ _).trans ?_
  rfl
theorem q_L_formula_160 {h : zH} {a0 : Nat} {x1 : Int} {x2 : Int} {a3 : Nat} {a4 : Nat} {x5 : Int} {x6 : Int} {y0 : Nat}  : zY 216 160 [some (zR (some a0)), some (zI x1), some (zI x2), some (zR (some a3)), some (zR (some a4)), some (zI x5), some (zI x6), none] [zR (some y0)] h =
    zY 216 25 [some (zR (some a0)), some (zI x1), some (zI x2), some (zR (some a3)), some (zR (some a4)), some (zI x5), some (zI x6), none] [] h := by
  refine (show zY 216 160 [some (zR (some a0)), some (zI x1), some (zI x2), some (zR (some a3)), some (zR (some a4)), some (zI x5), some (zI x6), none] [zR (some y0)] h = zY 216 25 [some (zR (some a0)), some (zI x1), some (zI x2), some (zR (some a3)), some (zR (some a4)), some (zI x5), some (zI x6), none] [] h from zGo 2 216 160 _ _ _).trans ?_
  rfl
theorem q_L_formula_224 {h : zH} {a0 : Nat} {x1 : Int} {x2 : Int} {a3 : Nat} {a4 : Nat} {x5 : Int} {x6 : Int} {x7 : Int} {y0 : Nat} (ta4 : hT h a4 = 22) (na4 : a4 < hN h) : zY 216 224 [some (zR (some a0)), some (zI x1), some (zI x2), some (zR (some a3)), some (zR (some a4)), some (zI x5), some (zI x6), some (zI x7)] [zR (some y0)] h =
    gd ((0 : Int) ≤ x5 ∧ x5 < (hL h a4 : Int)) (gd ((0 : Int) ≤ (zwadd x5 1) ∧ (zwadd x5 1) < (hL h a4 : Int)) (if x7 = 0 then zY 216 250 [some (zR (some a0)), some (zI x1), some (zI x2), some (zR (some a3)), some (zR (some a4)), some (zI x5), some (zI x6), some (zI x7)] [zI x5] (sI (sI h a4 x5.toNat 1) a4 (zwadd x5 1).toNat 1) else zY 216 246 [some (zR (some a0)), some (zI x1), some (zI x2), some (zR (some a3)), some (zR (some a4)), some (zI x5), some (zI x6), some (zI x7)] [zI x5] (sI (sI h a4 x5.toNat 1) a4 (zwadd x5 1).toNat 1))) := by
  refine (show zY 216 224 [some (zR (some a0)), some (zI x1), some (zI x2), some (zR (some a3)), some (zR (some a4)), some (zI x5), some (zI x6), some (zI x7)] [zR (some y0)] h = gd (inR (1)) (gd (zokw h (some a4) 22 x5) (gd (inR (1)) (gd (inR (1)) (gd (zokw (sI h a4 x5.toNat 1) (some a4) 22 (zwadd x5 1)) (if x7 = 0 then zY 216 250 [some (zR (some a0)), some (zI x1), some (zI x2), some (zR (some a3)), some (zR (some a4)), some (zI x5), some (zI x6), some (zI x7)] [zI x5] (sI (sI h a4 x5.toNat 1) a4 (zwadd x5 1).toNat 1) else zY 216 246 [some (zR (some a0)), some (zI x1), some (zI x2), some (zR (some a3)), some (zR (some a4)), some (zI x5), some (zI x6), some (zI x7)] [zI x5] (sI (sI h a4 x5.toNat 1) a4 (zwadd x5 1).toNat 1)))))) from zGo 14 216 224 _ _ _).trans ?_
  refine (gd_t (by decide) _).trans ?_
  refine gd_c (ciw ta4 na4 rfl) (fun _ => ?_)
  refine (gd_t (by decide) _).trans ?_
  refine (gd_t (by decide) _).trans ?_
  refine gd_c (ciw ta4 na4 rfl) (fun _ => ?_)
  rfl
theorem q_L_formula_209 {h : zH} {a0 : Nat} {x1 : Int} {x2 : Int} {a3 : Nat} {a4 : Nat} {x5 : Int} {x6 : Int} {x7 : Int} {y0 : Nat} {y1 : Int}  : zY 216 209 [some (zR (some a0)), some (zI x1), some (zI x2), some (zR (some a3)), some (zR (some a4)), some (zI x5), some (zI x6), some (zI x7)] [zI y1, zR (some y0)] h =
    gd ((0 : Int) ≤ y1 ∧ (0 : Int) < 2 ∨ (-2147483648 : Int) < y1 ∧ (0 : Int) < 2) (if (Int.tmod y1 2) = 0 then zY 216 214 [some (zR (some a0)), some (zI x1), some (zI x2), some (zR (some a3)), some (zR (some a4)), some (zI x5), some (zI x6), some (zI x7)] [zR (some y0)] h else zY 216 219 [some (zR (some a0)), some (zI x1), some (zI x2), some (zR (some a3)), some (zR (some a4)), some (zI x5), some (zI x6), some (zI x7)] [zR (some y0)] h) := by
  refine (show zY 216 209 [some (zR (some a0)), some (zI x1), some (zI x2), some (zR (some a3)), some (zR (some a4)), some (zI x5), some (zI x6), some (zI x7)] [zI y1, zR (some y0)] h = gd (inR (2)) (gd ((0 : Int) ≤ y1 ∧ (0 : Int) < 2 ∨ (-2147483648 : Int) < y1 ∧ (0 : Int) < 2) (if (Int.tmod y1 2) = 0 then zY 216 214 [some (zR (some a0)), some (zI x1), some (zI x2), some (zR (some a3)), some (zR (some a4)), some (zI x5), some (zI x6), some (zI x7)] [zR (some y0)] h else zY 216 219 [some (zR (some a0)), some (zI x1), some (zI x2), some (zR (some a3)), some (zR (some a4)), some (zI x5), some (zI x6), some (zI x7)] [zR (some y0)] h)) from zGo 3 216 209 _ _ _).trans ?_
  refine (gd_t (by decide) _).trans ?_
  refine gd_c (Iff.rfl) (fun _ => ?_)
  rfl
theorem q_L_formula_290 {h : zH} {a0 : Nat} {x1 : Int} {x2 : Int} {a3 : Nat} {a4 : Nat} {x5 : Int} {x6 : Int} {y0 : Nat}  : zY 216 290 [some (zR (some a0)), some (zI x1), some (zI x2), some (zR (some a3)), some (zR (some a4)), some (zI x5), some (zI x6), none] [zR (some y0)] h =
    zY 216 25 [some (zR (some a0)), some (zI x1), some (zI x2), some (zR (some a3)), some (zR (some a4)), some (zI x5), some (zI x6), none] [] h := by
  refine (show zY 216 290 [some (zR (some a0)), some (zI x1), some (zI x2), some (zR (some a3)), some (zR (some a4)), some (zI x5), some (zI x6), none] [zR (some y0)] h = zY 216 25 [some (zR (some a0)), some (zI x1), some (zI x2), some (zR (some a3)), some (zR (some a4)), some (zI x5), some (zI x6), none] [] h from zGo 2 216 290 _ _ _).trans ?_
  rfl
theorem q_L_formula_314 {h : zH} {a0 : Nat} {x1 : Int} {x2 : Int} {a3 : Nat} {a4 : Nat} {x5 : Int} {x6 : Int} {y0 : Nat} (ta4 : hT h a4 = 22) (na4 : a4 < hN h) : zY 216 314 [some (zR (some a0)), some (zI x1), some (zI x2), some (zR (some a3)), some (zR (some a4)), some (zI x5), some (zI x6), none] [zR (some y0)] h =
    gd ((0 : Int) ≤ x5 ∧ x5 < (hL h a4 : Int)) (gd ((0 : Int) ≤ (zwadd x5 1) ∧ (zwadd x5 1) < (hL h a4 : Int)) (gd (inR (x5 + 2)) (zY 216 25 [some (zR (some a0)), some (zI x1), some (zI x2), some (zR (some a3)), some (zR (some a4)), some (zI (x5 + 2)), some (zI x6), none] [] (sI (sI h a4 x5.toNat 0) a4 (zwadd x5 1).toNat 0)))) := by
  refine (show zY 216 314 [some (zR (some a0)), some (zI x1), some (zI x2), some (zR (some a3)), some (zR (some a4)), some (zI x5), some (zI x6), none] [zR (some y0)] h = gd (inR (0)) (gd (zokw h (some a4) 22 x5) (gd (inR (1)) (gd (inR (0)) (gd (zokw (sI h a4 x5.toNat 0) (some a4) 22 (zwadd x5 1)) (gd (inR (x5 + 2)) (gd (inR (2)) (zY 216 25 [some (zR (some a0)), some (zI x1), some (zI x2), some (zR (some a3)), some (zR (some a4)), some (zI (x5 + 2)), some (zI x6), none] [] (sI (sI h a4 x5.toNat 0) a4 (zwadd x5 1).toNat 0)))))))) from zGo 13 216 314 _ _ _).trans ?_
  refine (gd_t (by decide) _).trans ?_
  refine gd_c (ciw ta4 na4 rfl) (fun _ => ?_)
  refine (gd_t (by decide) _).trans ?_
  refine (gd_t (by decide) _).trans ?_
  refine gd_c (ciw ta4 na4 rfl) (fun _ => ?_)
  refine gd_c (Iff.rfl) (fun _ => ?_)
  refine (gd_t (by decide) _).trans ?_
  rfl
theorem q_L_formula_79 {h : zH} {a0 : Nat} {x1 : Int} {x2 : Int} {a3 : Nat} {a4 : Nat} {x5 : Int} {x6 : Int} {y0 : Nat} (ty0 : hT h y0 = 12) (ny0 : y0 < hN h) : zY 216 79 [some (zR (some a0)), some (zI x1), some (zI x2), some (zR (some a3)), some (zR (some a4)), some (zI x5), some (zI x6), none] [zR (some y0)] h =
    zBack zY 216 86 89 [some (zR (some a0)), some (zI x1), some (zI x2), some (zR (some a3)), some (zR (some a4)), some (zI x5), some (zI x6), none] [] (zC 180 [zR (some y0), zR (some (zVB + 34))] h) := by
  refine (show zY 216 79 [some (zR (some a0)), some (zI x1), some (zI x2), some (zR (some a3)), some (zR (some a4)), some (zI x5), some (zI x6), none] [zR (some y0)] h = gd (0 < zrecv 180) (gd (false = zspc 180 ∧ zcs [] ≤ 8 ∧ zrm 216 (zrf 180 + 1) (8 + (zmaxl 180 + 11) + zrl 180) = true ∧ zcs [zR (some y0), zR (some (zVB + 34))] ≤ zmaxl 180) (gd (zob h (some y0) 12) (zBack zY 216 86 89 [some (zR (some a0)), some (zI x1), some (zI x2), some (zR (some a3)), some (zR (some a4)), some (zI x5), some (zI x6), none] [] (zC 180 [zR (some y0), zR (some (zVB + 34))] h)))) from zGo 3 216 79 _ _ _).trans ?_
  refine (gd_t (by decide) _).trans ?_
  refine (gd_t (⟨rfl, Nat.le_of_ble_eq_true rfl, rfl, Nat.le_of_ble_eq_true rfl⟩) _).trans ?_
  refine (gd_t (⟨rfl, ty0, ny0⟩) _).trans ?_
  rfl
theorem q_L_formula_84 {h : zH} {a0 : Nat} {x1 : Int} {x2 : Int} {a3 : Nat} {a4 : Nat} {x5 : Int} {x6 : Int} {y0 : Nat} (ty0 : hT h y0 = 12) (ny0 : y0 < hN h) : zY 216 84 [some (zR (some a0)), some (zI x1), some (zI x2), some (zR (some a3)), some (zR (some a4)), some (zI x5), some (zI x6), none] [zR (some y0)] h =
    zBack zY 216 86 89 [some (zR (some a0)), some (zI x1), some (zI x2), some (zR (some a3)), some (zR (some a4)), some (zI x5), some (zI x6), none] [] (zC 180 [zR (some y0), zR (some (zVB + 35))] h) := by
  refine (show zY 216 84 [some (zR (some a0)), some (zI x1), some (zI x2), some (zR (some a3)), some (zR (some a4)), some (zI x5), some (zI x6), none] [zR (some y0)] h = gd (0 < zrecv 180) (gd (false = zspc 180 ∧ zcs [] ≤ 8 ∧ zrm 216 (zrf 180 + 1) (8 + (zmaxl 180 + 11) + zrl 180) = true ∧ zcs [zR (some y0), zR (some (zVB + 35))] ≤ zmaxl 180) (gd (zob h (some y0) 12) (zBack zY 216 86 89 [some (zR (some a0)), some (zI x1), some (zI x2), some (zR (some a3)), some (zR (some a4)), some (zI x5), some (zI x6), none] [] (zC 180 [zR (some y0), zR (some (zVB + 35))] h)))) from zGo 2 216 84 _ _ _).trans ?_
  refine (gd_t (by decide) _).trans ?_
  refine (gd_t (⟨rfl, Nat.le_of_ble_eq_true rfl, rfl, Nat.le_of_ble_eq_true rfl⟩) _).trans ?_
  refine (gd_t (⟨rfl, ty0, ny0⟩) _).trans ?_
  rfl
theorem q_L_formula_250 {h : zH} {a0 : Nat} {x1 : Int} {x2 : Int} {a3 : Nat} {a4 : Nat} {x5 : Int} {x6 : Int} {x7 : Int} {y0 : Int}  : zY 216 250 [some (zR (some a0)), some (zI x1), some (zI x2), some (zR (some a3)), some (zR (some a4)), some (zI x5), some (zI x6), some (zI x7)] [zI y0] h =
    gd (inR (x6 + (-1))) (zY 216 25 [some (zR (some a0)), some (zI x1), some (zI x2), some (zR (some a3)), some (zR (some a4)), some (zI (zwadd y0 2)), some (zI (x6 + (-1))), some (zI x7)] [] h) := by
  refine (show zY 216 250 [some (zR (some a0)), some (zI x1), some (zI x2), some (zR (some a3)), some (zR (some a4)), some (zI x5), some (zI x6), some (zI x7)] [zI y0] h = gd (inR (2)) (gd (inR (x6 + (-1))) (gd (inR (-1)) (zY 216 25 [some (zR (some a0)), some (zI x1), some (zI x2), some (zR (some a3)), some (zR (some a4)), some (zI (zwadd y0 2)), some (zI (x6 + (-1))), some (zI x7)] [] h))) from zGo 5 216 250 _ _ _).trans ?_
  refine (gd_t (by decide) _).trans ?_
  refine gd_c (Iff.rfl) (fun _ => ?_)
  refine (gd_t (by decide) _).trans ?_
  rfl
theorem q_L_formula_246 {h : zH} {a0 : Nat} {x1 : Int} {x2 : Int} {a3 : Nat} {a4 : Nat} {x5 : Int} {x6 : Int} {x7 : Int} {y0 : Int}  : zY 216 246 [some (zR (some a0)), some (zI x1), some (zI x2), some (zR (some a3)), some (zR (some a4)), some (zI x5), some (zI x6), some (zI x7)] [zI y0] h =
    gd (inR (x6 + (-1))) (zY 216 25 [some (zR (some a0)), some (zI x1), some (zI x2), some (zR (some a3)), some (zR (some a4)), some (zI (zwadd y0 1)), some (zI (x6 + (-1))), some (zI x7)] [] h) := by
  refine (show zY 216 246 [some (zR (some a0)), some (zI x1), some (zI x2), some (zR (some a3)), some (zR (some a4)), some (zI x5), some (zI x6), some (zI x7)] [zI y0] h = gd (inR (1)) (gd (inR (x6 + (-1))) (gd (inR (-1)) (zY 216 25 [some (zR (some a0)), some (zI x1), some (zI x2), some (zR (some a3)), some (zR (some a4)), some (zI (zwadd y0 1)), some (zI (x6 + (-1))), some (zI x7)] [] h))) from zGo 6 216 246 _ _ _).trans ?_
  refine (gd_t (by decide) _).trans ?_
  refine gd_c (Iff.rfl) (fun _ => ?_)
  refine (gd_t (by decide) _).trans ?_
  rfl
theorem q_L_formula_214 {h : zH} {a0 : Nat} {x1 : Int} {x2 : Int} {a3 : Nat} {a4 : Nat} {x5 : Int} {x6 : Int} {x7 : Int} {y0 : Nat} (ty0 : hT h y0 = 12) (ny0 : y0 < hN h) : zY 216 214 [some (zR (some a0)), some (zI x1), some (zI x2), some (zR (some a3)), some (zR (some a4)), some (zI x5), some (zI x6), some (zI x7)] [zR (some y0)] h =
    zBack zY 216 221 224 [some (zR (some a0)), some (zI x1), some (zI x2), some (zR (some a3)), some (zR (some a4)), some (zI x5), some (zI x6), some (zI x7)] [] (zC 180 [zR (some y0), zR (some (zVB + 37))] h) := by
  refine (show zY 216 214 [some (zR (some a0)), some (zI x1), some (zI x2), some (zR (some a3)), some (zR (some a4)), some (zI x5), some (zI x6), some (zI x7)] [zR (some y0)] h = gd (0 < zrecv 180) (gd (false = zspc 180 ∧ zcs [] ≤ 8 ∧ zrm 216 (zrf 180 + 1) (8 + (zmaxl 180 + 11) + zrl 180) = true ∧ zcs [zR (some y0), zR (some (zVB + 37))] ≤ zmaxl 180) (gd (zob h (some y0) 12) (zBack zY 216 221 224 [some (zR (some a0)), some (zI x1), some (zI x2), some (zR (some a3)), some (zR (some a4)), some (zI x5), some (zI x6), some (zI x7)] [] (zC 180 [zR (some y0), zR (some (zVB + 37))] h)))) from zGo 3 216 214 _ _ _).trans ?_
  refine (gd_t (by decide) _).trans ?_
  refine (gd_t (⟨rfl, Nat.le_of_ble_eq_true rfl, rfl, Nat.le_of_ble_eq_true rfl⟩) _).trans ?_
  refine (gd_t (⟨rfl, ty0, ny0⟩) _).trans ?_
  rfl
theorem q_L_formula_219 {h : zH} {a0 : Nat} {x1 : Int} {x2 : Int} {a3 : Nat} {a4 : Nat} {x5 : Int} {x6 : Int} {x7 : Int} {y0 : Nat} (ty0 : hT h y0 = 12) (ny0 : y0 < hN h) : zY 216 219 [some (zR (some a0)), some (zI x1), some (zI x2), some (zR (some a3)), some (zR (some a4)), some (zI x5), some (zI x6), some (zI x7)] [zR (some y0)] h =
    zBack zY 216 221 224 [some (zR (some a0)), some (zI x1), some (zI x2), some (zR (some a3)), some (zR (some a4)), some (zI x5), some (zI x6), some (zI x7)] [] (zC 180 [zR (some y0), zR (some (zVB + 38))] h) := by
  refine (show zY 216 219 [some (zR (some a0)), some (zI x1), some (zI x2), some (zR (some a3)), some (zR (some a4)), some (zI x5), some (zI x6), some (zI x7)] [zR (some y0)] h = gd (0 < zrecv 180) (gd (false = zspc 180 ∧ zcs [] ≤ 8 ∧ zrm 216 (zrf 180 + 1) (8 + (zmaxl 180 + 11) + zrl 180) = true ∧ zcs [zR (some y0), zR (some (zVB + 38))] ≤ zmaxl 180) (gd (zob h (some y0) 12) (zBack zY 216 221 224 [some (zR (some a0)), some (zI x1), some (zI x2), some (zR (some a3)), some (zR (some a4)), some (zI x5), some (zI x6), some (zI x7)] [] (zC 180 [zR (some y0), zR (some (zVB + 38))] h)))) from zGo 2 216 219 _ _ _).trans ?_
  refine (gd_t (by decide) _).trans ?_
  refine (gd_t (⟨rfl, Nat.le_of_ble_eq_true rfl, rfl, Nat.le_of_ble_eq_true rfl⟩) _).trans ?_
  refine (gd_t (⟨rfl, ty0, ny0⟩) _).trans ?_
  rfl
