/-! The law: pieces of its small calls. -/
theorem q_L_next {h : zH} {a0 : Nat} (ta0 : hT h a0 = 22) (na0 : a0 < hN h) : zC 207 [zR (some a0)] h =
    gd ((0 : Int) ≤ 0 ∧ 0 < (hL h a0 : Int)) (gd ((0 : Int) ≤ 0 ∧ 0 < (hL h a0 : Int)) (gd ((0 : Int) ≤ 0 ∧ 0 < (hL h a0 : Int)) (gd ((0 : Int) ≤ 0 ∧ 0 < (hL h a0 : Int)) (gd ((0 : Int) ≤ 0 ∧ 0 < (hL h a0 : Int)) (gd ((0 : Int) ≤ 0 ∧ 0 < (hL h a0 : Int)) (some (.inl (some (zI (zushr (hI (sI (sI h a0 0 (zwadd (zwmul (hI h a0 0) 1103515245) 12345)) a0 0 (zxor (hI (sI h a0 0 (zwadd (zwmul (hI h a0 0) 1103515245) 12345)) a0 0) (zushr (hI (sI h a0 0 (zwadd (zwmul (hI h a0 0) 1103515245) 12345)) a0 0) 15))) a0 0) 9))), (sI (sI h a0 0 (zwadd (zwmul (hI h a0 0) 1103515245) 12345)) a0 0 (zxor (hI (sI h a0 0 (zwadd (zwmul (hI h a0 0) 1103515245) 12345)) a0 0) (zushr (hI (sI h a0 0 (zwadd (zwmul (hI h a0 0) 1103515245) 12345)) a0 0) 15)))))))))) := by
  refine (show zC 207 [zR (some a0)] h = gd (inR (0)) (gd (inR (0)) (gd (zok h (some a0) 22 0) (gd (-32768 ≤ (12345 : Int) ∧ (12345 : Int) < 32768) (gd (zokw h (some a0) 22 0) (gd (inR (0)) (gd (zok (sI h a0 0 (zwadd (zwmul (hI h a0 0) 1103515245) 12345)) (some a0) 22 0) (gd (inR (0)) (gd (zok (sI h a0 0 (zwadd (zwmul (hI h a0 0) 1103515245) 12345)) (some a0) 22 0) (gd (-128 ≤ (15 : Int) ∧ (15 : Int) < 128) (gd (zokw (sI h a0 0 (zwadd (zwmul (hI h a0 0) 1103515245) 12345)) (some a0) 22 0) (gd (inR (0)) (gd (zok (sI (sI h a0 0 (zwadd (zwmul (hI h a0 0) 1103515245) 12345)) a0 0 (zxor (hI (sI h a0 0 (zwadd (zwmul (hI h a0 0) 1103515245) 12345)) a0 0) (zushr (hI (sI h a0 0 (zwadd (zwmul (hI h a0 0) 1103515245) 12345)) a0 0) 15))) (some a0) 22 0) (gd (-128 ≤ (9 : Int) ∧ (9 : Int) < 128) (gd (([] : List zV).isEmpty = true ∧ (zrk 207 = 1 ∨ zrk 207 = 6 ∧ (((zushr (hI (sI (sI h a0 0 (zwadd (zwmul (hI h a0 0) 1103515245) 12345)) a0 0 (zxor (hI (sI h a0 0 (zwadd (zwmul (hI h a0 0) 1103515245) 12345)) a0 0) (zushr (hI (sI h a0 0 (zwadd (zwmul (hI h a0 0) 1103515245) 12345)) a0 0) 15))) a0 0) 9) : Int) = 0 ∨ ((zushr (hI (sI (sI h a0 0 (zwadd (zwmul (hI h a0 0) 1103515245) 12345)) a0 0 (zxor (hI (sI h a0 0 (zwadd (zwmul (hI h a0 0) 1103515245) 12345)) a0 0) (zushr (hI (sI h a0 0 (zwadd (zwmul (hI h a0 0) 1103515245) 12345)) a0 0) 15))) a0 0) 9) : Int) = 1))) (some (.inl (some (zI (zushr (hI (sI (sI h a0 0 (zwadd (zwmul (hI h a0 0) 1103515245) 12345)) a0 0 (zxor (hI (sI h a0 0 (zwadd (zwmul (hI h a0 0) 1103515245) 12345)) a0 0) (zushr (hI (sI h a0 0 (zwadd (zwmul (hI h a0 0) 1103515245) 12345)) a0 0) 15))) a0 0) 9))), (sI (sI h a0 0 (zwadd (zwmul (hI h a0 0) 1103515245) 12345)) a0 0 (zxor (hI (sI h a0 0 (zwadd (zwmul (hI h a0 0) 1103515245) 12345)) a0 0) (zushr (hI (sI h a0 0 (zwadd (zwmul (hI h a0 0) 1103515245) 12345)) a0 0) 15))))))))))))))))))) from zGo 27 207 0 _ _ _).trans ?_
  refine (gd_t (by decide) _).trans ?_
  refine (gd_t (by decide) _).trans ?_
  refine gd_c (ci ta0 rfl) (fun _ => ?_)
  refine (gd_t (by decide) _).trans ?_
  refine gd_c (ciw ta0 na0 rfl) (fun _ => ?_)
  refine (gd_t (by decide) _).trans ?_
  refine gd_c (ci ta0 rfl) (fun _ => ?_)
  refine (gd_t (by decide) _).trans ?_
  refine gd_c (ci ta0 rfl) (fun _ => ?_)
  refine (gd_t (by decide) _).trans ?_
  refine gd_c (ciw ta0 na0 rfl) (fun _ => ?_)
  refine (gd_t (by decide) _).trans ?_
  refine gd_c (ci ta0 rfl) (fun _ => ?_)
  refine (gd_t (by decide) _).trans ?_
  refine (gd_t (⟨rfl, Or.inl rfl⟩) _).trans ?_
  rfl
theorem q_L_load {h : zH} {a0 : Nat} {a1 : Nat}  : zC 208 [zR (some a0), zR (some a1)] h =
    zBack zY 208 2 5 [some (zR (some a0)), some (zR (some a1)), none, none] [] (zC 209 [zR (some a0), zR (some a1)] h) := by
  refine (show zC 208 [zR (some a0), zR (some a1)] h = gd (zrecv 209 = 0) (gd (false = zspc 209 ∧ zcs [] ≤ 8 ∧ zrm 208 (zrf 209 + 1) (8 + (zmaxl 209 + 11) + zrl 209) = true ∧ zcs [zR (some a0), zR (some a1)] ≤ zmaxl 209) (zBack zY 208 2 5 [some (zR (some a0)), some (zR (some a1)), none, none] [] (zC 209 [zR (some a0), zR (some a1)] h))) from zGo 3 208 0 _ _ _).trans ?_
  refine (gd_t (rfl) _).trans ?_
  refine (gd_t (⟨rfl, Nat.le_of_ble_eq_true rfl, rfl, Nat.le_of_ble_eq_true rfl⟩) _).trans ?_
  rfl
theorem q_L_load_5 {h : zH} {a0 : Nat} {a1 : Nat} {y0 : Int} (ta0 : hT h a0 = 11) (na0 : a0 < hN h) : zY 208 5 [some (zR (some a0)), some (zR (some a1)), none, none] [zI y0] h =
    zBack zY 208 8 11 [some (zR (some a0)), some (zR (some a1)), some (zI y0), none] [] (zC 160 [zR (some a0), zI y0] h) := by
  refine (show zY 208 5 [some (zR (some a0)), some (zR (some a1)), none, none] [zI y0] h = gd (0 < zrecv 160) (gd (false = zspc 160 ∧ zcs [] ≤ 8 ∧ zrm 208 (zrf 160 + 1) (8 + (zmaxl 160 + 11) + zrl 160) = true ∧ zcs [zR (some a0), zI y0] ≤ zmaxl 160) (gd (zob h (some a0) 11) (zBack zY 208 8 11 [some (zR (some a0)), some (zR (some a1)), some (zI y0), none] [] (zC 160 [zR (some a0), zI y0] h)))) from zGo 4 208 5 _ _ _).trans ?_
  refine (gd_t (by decide) _).trans ?_
  refine (gd_t (⟨rfl, Nat.le_of_ble_eq_true rfl, rfl, Nat.le_of_ble_eq_true rfl⟩) _).trans ?_
  refine (gd_t (⟨rfl, ta0, na0⟩) _).trans ?_
  rfl
theorem q_L_load_11 {h : zH} {a0 : Nat} {a1 : Nat} {x2 : Int} {y0 : Int}  : zY 208 11 [some (zR (some a0)), some (zR (some a1)), some (zI x2), none] [zI y0] h =
    some (.inl (some (zI y0)), h) := by
  refine (show zY 208 11 [some (zR (some a0)), some (zR (some a1)), some (zI x2), none] [zI y0] h = gd (([] : List zV).isEmpty = true ∧ (zrk 208 = 1 ∨ zrk 208 = 6 ∧ ((y0 : Int) = 0 ∨ (y0 : Int) = 1))) (some (.inl (some (zI y0)), h)) from zGo 1 208 11 _ _ _).trans ?_
  refine (gd_t (⟨rfl, Or.inl rfl⟩) _).trans ?_
  rfl
theorem q_L_load_13 {h : zH} {a0 : Nat} {a1 : Nat} {x2 : Int}  : zY 208 13 [some (zR (some a0)), some (zR (some a1)), some (zI x2), none] [] h =
    some (.inl (some (zI (-2))), h) := by
  refine (show zY 208 13 [some (zR (some a0)), some (zR (some a1)), some (zI x2), none] [] h = gd (-128 ≤ (-2 : Int) ∧ (-2 : Int) < 128) (gd (([] : List zV).isEmpty = true ∧ (zrk 208 = 1 ∨ zrk 208 = 6 ∧ (((-2) : Int) = 0 ∨ ((-2) : Int) = 1))) (some (.inl (some (zI (-2))), h))) from zGo 2 208 13 _ _ _).trans ?_
  refine (gd_t (by decide) _).trans ?_
  refine (gd_t (⟨rfl, Or.inl rfl⟩) _).trans ?_
  rfl
theorem q_L_load_17 {h : zH} {a0 : Nat} {a1 : Nat} {x2 : Int}  : zY 208 17 [some (zR (some a0)), some (zR (some a1)), some (zI x2), none] [] h =
    some (.inl (some (zI (-1))), h) := by
  refine (show zY 208 17 [some (zR (some a0)), some (zR (some a1)), some (zI x2), none] [] h = gd (inR (-1)) (gd (([] : List zV).isEmpty = true ∧ (zrk 208 = 1 ∨ zrk 208 = 6 ∧ (((-1) : Int) = 0 ∨ ((-1) : Int) = 1))) (some (.inl (some (zI (-1))), h))) from zGo 2 208 17 _ _ _).trans ?_
  refine (gd_t (by decide) _).trans ?_
  refine (gd_t (⟨rfl, Or.inl rfl⟩) _).trans ?_
  rfl
theorem q_L_type {h : zH} {a0 : Nat} {a1 : Nat}  : zC 209 [zR (some a0), zR (some a1)] h =
    zY 209 9 [some (zR (some a0)), some (zR (some a1)), some (zI 0), some (zR (some (hN h))), some (zI 0), none] [] (hNew h 22 5) := by
  refine (show zC 209 [zR (some a0), zR (some a1)] h = gd (inR (0)) (gd (inR (5)) (gd ((0 : Int) ≤ 5 ∧ (5 : Int) < 65536) (gd (inR (0)) (zY 209 9 [some (zR (some a0)), some (zR (some a1)), some (zI 0), some (zR (some (hN h))), some (zI 0), none] [] (hNew h 22 5))))) from zGo 7 209 0 _ _ _).trans ?_
  refine (gd_t (by decide) _).trans ?_
  refine (gd_t (by decide) _).trans ?_
  refine (gd_t (by decide) _).trans ?_
  refine (gd_t (by decide) _).trans ?_
  rfl
theorem q_L_type_9 {h : zH} {a0 : Nat} {a1 : Nat} {x2 : Int} {a3 : Nat} {x4 : Int}  : zY 209 9 [some (zR (some a0)), some (zR (some a1)), some (zI x2), some (zR (some a3)), some (zI x4), none] [] h =
    if hT h (zdr (some a1)) = 40 then gd ((some a1).isSome = true ∧ zcs [zI x4] ≤ 8 ∧ zrm 209 5 120 = true) (zY 209 15 [some (zR (some a0)), some (zR (some a1)), some (zI x2), some (zR (some a3)), some (zI x4), none] [zI (hL h a1 : Int), zI x4] h) else gd (false = zspc 249 ∧ zcs [zI x4] ≤ 8 ∧ zrm 209 (zrf 249 + 1) (8 + (zmaxl 249 + 11) + zrl 249) = true ∧ zcs [zR (some a1)] ≤ zmaxl 249) (gd (zob h (some a1) 13) (zBack zY 209 12 15 [some (zR (some a0)), some (zR (some a1)), some (zI x2), some (zR (some a3)), some (zI x4), none] [zI x4] (zC 249 [zR (some a1)] h))) := by
  refine (show zY 209 9 [some (zR (some a0)), some (zR (some a1)), some (zI x2), some (zR (some a3)), some (zI x4), none] [] h = gd (920 = 908 ∨ 920 = 909 ∨ 920 = 920 ∨ 920 = 921 ∨ 920 = 931) (if hT h (zdr (some a1)) = 40 then gd ((some a1).isSome = true ∧ zcs [zI x4] ≤ 8 ∧ zrm 209 5 120 = true) (zY 209 15 [some (zR (some a0)), some (zR (some a1)), some (zI x2), some (zR (some a3)), some (zI x4), none] [zI (hL h a1 : Int), zI x4] h) else gd (false = zspc 249 ∧ zcs [zI x4] ≤ 8 ∧ zrm 209 (zrf 249 + 1) (8 + (zmaxl 249 + 11) + zrl 249) = true ∧ zcs [zR (some a1)] ≤ zmaxl 249) (gd (zob h (some a1) 13) (zBack zY 209 12 15 [some (zR (some a0)), some (zR (some a1)), some (zI x2), some (zR (some a3)), some (zI x4), none] [zI x4] (zC 249 [zR (some a1)] h)))) from zGo 3 209 9 _ _ _).trans ?_
  refine (gd_t (by decide) _).trans ?_
  rfl
theorem q_L_type_15 {h : zH} {a0 : Nat} {a1 : Nat} {x2 : Int} {a3 : Nat} {x4 : Int} {y0 : Int} {y1 : Int}  : zY 209 15 [some (zR (some a0)), some (zR (some a1)), some (zI x2), some (zR (some a3)), some (zI x4), none] [zI y1, zI y0] h =
    if y0 < y1 then zY 209 18 [some (zR (some a0)), some (zR (some a1)), some (zI x2), some (zR (some a3)), some (zI x4), none] [] h else zY 209 102 [some (zR (some a0)), some (zR (some a1)), some (zI x2), some (zR (some a3)), some (zI x4), none] [] h := by
  refine (show zY 209 15 [some (zR (some a0)), some (zR (some a1)), some (zI x2), some (zR (some a3)), some (zI x4), none] [zI y1, zI y0] h = if y0 < y1 then zY 209 18 [some (zR (some a0)), some (zR (some a1)), some (zI x2), some (zR (some a3)), some (zI x4), none] [] h else zY 209 102 [some (zR (some a0)), some (zR (some a1)), some (zI x2), some (zR (some a3)), some (zI x4), none] [] h from zGo 1 209 15 _ _ _).trans ?_
  rfl
theorem q_L_type_18 {h : zH} {a0 : Nat} {a1 : Nat} {x2 : Int} {a3 : Nat} {x4 : Int}  : zY 209 18 [some (zR (some a0)), some (zR (some a1)), some (zI x2), some (zR (some a3)), some (zI x4), none] [] h =
    zY 209 21 [some (zR (some a0)), some (zR (some a1)), some (zI x2), some (zR (some a3)), some (zI x4), some (zI 0)] [] h := by
  refine (show zY 209 18 [some (zR (some a0)), some (zR (some a1)), some (zI x2), some (zR (some a3)), some (zI x4), none] [] h = gd (inR (0)) (zY 209 21 [some (zR (some a0)), some (zR (some a1)), some (zI x2), some (zR (some a3)), some (zI x4), some (zI 0)] [] h) from zGo 2 209 18 _ _ _).trans ?_
  refine (gd_t (by decide) _).trans ?_
  rfl
theorem q_L_type_102 {h : zH} {a0 : Nat} {a1 : Nat} {x2 : Int} {a3 : Nat} {x4 : Int}  : zY 209 102 [some (zR (some a0)), some (zR (some a1)), some (zI x2), some (zR (some a3)), some (zI x4), none] [] h =
    if hT h (zdr (some a1)) = 40 then gd ((some a1).isSome = true ∧ zcs [] ≤ 8 ∧ zrm 209 5 120 = true) (zY 209 106 [some (zR (some a0)), some (zR (some a1)), some (zI x2), some (zR (some a3)), some (zI x4), none] [zI (hL h a1 : Int)] h) else gd (false = zspc 249 ∧ zcs [] ≤ 8 ∧ zrm 209 (zrf 249 + 1) (8 + (zmaxl 249 + 11) + zrl 249) = true ∧ zcs [zR (some a1)] ≤ zmaxl 249) (gd (zob h (some a1) 13) (zBack zY 209 103 106 [some (zR (some a0)), some (zR (some a1)), some (zI x2), some (zR (some a3)), some (zI x4), none] [] (zC 249 [zR (some a1)] h))) := by
  refine (show zY 209 102 [some (zR (some a0)), some (zR (some a1)), some (zI x2), some (zR (some a3)), some (zI x4), none] [] h = gd (920 = 908 ∨ 920 = 909 ∨ 920 = 920 ∨ 920 = 921 ∨ 920 = 931) (if hT h (zdr (some a1)) = 40 then gd ((some a1).isSome = true ∧ zcs [] ≤ 8 ∧ zrm 209 5 120 = true) (zY 209 106 [some (zR (some a0)), some (zR (some a1)), some (zI x2), some (zR (some a3)), some (zI x4), none] [zI (hL h a1 : Int)] h) else gd (false = zspc 249 ∧ zcs [] ≤ 8 ∧ zrm 209 (zrf 249 + 1) (8 + (zmaxl 249 + 11) + zrl 249) = true ∧ zcs [zR (some a1)] ≤ zmaxl 249) (gd (zob h (some a1) 13) (zBack zY 209 103 106 [some (zR (some a0)), some (zR (some a1)), some (zI x2), some (zR (some a3)), some (zI x4), none] [] (zC 249 [zR (some a1)] h)))) from zGo 2 209 102 _ _ _).trans ?_
  refine (gd_t (by decide) _).trans ?_
  rfl
theorem q_L_type_21 {h : zH} {a0 : Nat} {a1 : Nat} {x2 : Int} {a3 : Nat} {x4 : Int} {x5 : Int}  : zY 209 21 [some (zR (some a0)), some (zR (some a1)), some (zI x2), some (zR (some a3)), some (zI x4), some (zI x5)] [] h =
    if x5 < 20 then zY 209 28 [some (zR (some a0)), some (zR (some a1)), some (zI x2), some (zR (some a3)), some (zI x4), some (zI x5)] [] h else zY 209 76 [some (zR (some a0)), some (zR (some a1)), some (zI x2), some (zR (some a3)), some (zI x4), some (zI x5)] [] h := by
  refine (show zY 209 21 [some (zR (some a0)), some (zR (some a1)), some (zI x2), some (zR (some a3)), some (zI x4), some (zI x5)] [] h = gd (-128 ≤ (20 : Int) ∧ (20 : Int) < 128) (if x5 < 20 then zY 209 28 [some (zR (some a0)), some (zR (some a1)), some (zI x2), some (zR (some a3)), some (zI x4), some (zI x5)] [] h else zY 209 76 [some (zR (some a0)), some (zR (some a1)), some (zI x2), some (zR (some a3)), some (zI x4), some (zI x5)] [] h) from zGo 3 209 21 _ _ _).trans ?_
  refine (gd_t (by decide) _).trans ?_
  rfl
theorem q_L_type_106 {h : zH} {a0 : Nat} {a1 : Nat} {x2 : Int} {a3 : Nat} {x4 : Int} {y0 : Int}  : zY 209 106 [some (zR (some a0)), some (zR (some a1)), some (zI x2), some (zR (some a3)), some (zI x4), none] [zI y0] h =
    some (.inl (some (zI y0)), h) := by
  refine (show zY 209 106 [some (zR (some a0)), some (zR (some a1)), some (zI x2), some (zR (some a3)), some (zI x4), none] [zI y0] h = gd (([] : List zV).isEmpty = true ∧ (zrk 209 = 1 ∨ zrk 209 = 6 ∧ ((y0 : Int) = 0 ∨ (y0 : Int) = 1))) (some (.inl (some (zI y0)), h)) from zGo 1 209 106 _ _ _).trans ?_
  refine (gd_t (⟨rfl, Or.inl rfl⟩) _).trans ?_
  rfl
theorem q_L_type_28 {h : zH} {a0 : Nat} {a1 : Nat} {x2 : Int} {a3 : Nat} {x4 : Int} {x5 : Int} (ta3 : hT h a3 = 22) : zY 209 28 [some (zR (some a0)), some (zR (some a1)), some (zI x2), some (zR (some a3)), some (zI x4), some (zI x5)] [] h =
    gd ((0 : Int) ≤ (zpz x5 4) ∧ (0 : Int) < 4) (gd ((0 : Int) ≤ (zpz x5 4) ∧ (0 : Int) < 4) (gd ((0 : Int) ≤ ((zpz x5 4) / 4) ∧ ((zpz x5 4) / 4) < (hL h a3 : Int)) (if hT h (zdr (some a1)) = 40 then gd ((some a1).isSome = true ∧ zcs [zI (zwadd x4 x5), zI (zshl (hI h a3 ((zpz x5 4) / 4).toNat) 8), zI ((zpz x5 4) / 4), zR (some a3)] ≤ 8 ∧ zrm 209 5 120 = true) (zY 209 51 [some (zR (some a0)), some (zR (some a1)), some (zI x2), some (zR (some a3)), some (zI x4), some (zI x5)] [zI (hL h a1 : Int), zI (zwadd x4 x5), zI (zshl (hI h a3 ((zpz x5 4) / 4).toNat) 8), zI ((zpz x5 4) / 4), zR (some a3)] h) else gd (false = zspc 249 ∧ zcs [zI (zwadd x4 x5), zI (zshl (hI h a3 ((zpz x5 4) / 4).toNat) 8), zI ((zpz x5 4) / 4), zR (some a3)] ≤ 8 ∧ zrm 209 (zrf 249 + 1) (8 + (zmaxl 249 + 11) + zrl 249) = true ∧ zcs [zR (some a1)] ≤ zmaxl 249) (gd (zob h (some a1) 13) (zBack zY 209 48 51 [some (zR (some a0)), some (zR (some a1)), some (zI x2), some (zR (some a3)), some (zI x4), some (zI x5)] [zI (zwadd x4 x5), zI (zshl (hI h a3 ((zpz x5 4) / 4).toNat) 8), zI ((zpz x5 4) / 4), zR (some a3)] (zC 249 [zR (some a1)] h)))))) := by
  refine (show zY 209 28 [some (zR (some a0)), some (zR (some a1)), some (zI x2), some (zR (some a3)), some (zI x4), some (zI x5)] [] h = gd (inR (4)) (gd ((0 : Int) ≤ (zpz x5 4) ∧ (0 : Int) < 4) (gd (inR (4)) (gd ((0 : Int) ≤ (zpz x5 4) ∧ (0 : Int) < 4) (gd (zok h (some a3) 22 ((zpz x5 4) / 4)) (gd (-128 ≤ (8 : Int) ∧ (8 : Int) < 128) (gd (920 = 908 ∨ 920 = 909 ∨ 920 = 920 ∨ 920 = 921 ∨ 920 = 931) (if hT h (zdr (some a1)) = 40 then gd ((some a1).isSome = true ∧ zcs [zI (zwadd x4 x5), zI (zshl (hI h a3 ((zpz x5 4) / 4).toNat) 8), zI ((zpz x5 4) / 4), zR (some a3)] ≤ 8 ∧ zrm 209 5 120 = true) (zY 209 51 [some (zR (some a0)), some (zR (some a1)), some (zI x2), some (zR (some a3)), some (zI x4), some (zI x5)] [zI (hL h a1 : Int), zI (zwadd x4 x5), zI (zshl (hI h a3 ((zpz x5 4) / 4).toNat) 8), zI ((zpz x5 4) / 4), zR (some a3)] h) else gd (false = zspc 249 ∧ zcs [zI (zwadd x4 x5), zI (zshl (hI h a3 ((zpz x5 4) / 4).toNat) 8), zI ((zpz x5 4) / 4), zR (some a3)] ≤ 8 ∧ zrm 209 (zrf 249 + 1) (8 + (zmaxl 249 + 11) + zrl 249) = true ∧ zcs [zR (some a1)] ≤ zmaxl 249) (gd (zob h (some a1) 13) (zBack zY 209 48 51 [some (zR (some a0)), some (zR (some a1)), some (zI x2), some (zR (some a3)), some (zI x4), some (zI x5)] [zI (zwadd x4 x5), zI (zshl (hI h a3 ((zpz x5 4) / 4).toNat) 8), zI ((zpz x5 4) / 4), zR (some a3)] (zC 249 [zR (some a1)] h)))))))))) from zGo 16 209 28 _ _ _).trans ?_
  refine (gd_t (by decide) _).trans ?_
  refine gd_c (Iff.rfl) (fun _ => ?_)
  refine (gd_t (by decide) _).trans ?_
  refine gd_c (Iff.rfl) (fun _ => ?_)
  refine gd_c (ci ta3 rfl) (fun _ => ?_)
  refine (gd_t (by decide) _).trans ?_
  refine (gd_t (by decide) _).trans ?_
  rfl
theorem q_L_type_76 {h : zH} {a0 : Nat} {a1 : Nat} {x2 : Int} {a3 : Nat} {x4 : Int} {x5 : Int} (ta3 : hT h a3 = 22) (ta0 : hT h a0 = 11) (na0 : a0 < hN h) : zY 209 76 [some (zR (some a0)), some (zR (some a1)), some (zI x2), some (zR (some a3)), some (zI x4), some (zI x5)] [] h =
    gd ((0 : Int) ≤ 0 ∧ 0 < (hL h a3 : Int)) (gd ((0 : Int) ≤ 1 ∧ 1 < (hL h a3 : Int)) (gd ((0 : Int) ≤ 2 ∧ 2 < (hL h a3 : Int)) (gd ((0 : Int) ≤ 3 ∧ 3 < (hL h a3 : Int)) (gd ((0 : Int) ≤ 4 ∧ 4 < (hL h a3 : Int)) (zBack zY 209 92 95 [some (zR (some a0)), some (zR (some a1)), some (zI x2), some (zR (some a3)), some (zI x4), some (zI x5)] [] (zC 158 [zR (some a0), zI (hI h a3 0), zI (hI h a3 1), zI (hI h a3 2), zI (hI h a3 3), zI (hI h a3 4)] h)))))) := by
  refine (show zY 209 76 [some (zR (some a0)), some (zR (some a1)), some (zI x2), some (zR (some a3)), some (zI x4), some (zI x5)] [] h = gd (inR (0)) (gd (zok h (some a3) 22 0) (gd (inR (1)) (gd (zok h (some a3) 22 1) (gd (inR (2)) (gd (zok h (some a3) 22 2) (gd (inR (3)) (gd (zok h (some a3) 22 3) (gd (inR (4)) (gd (zok h (some a3) 22 4) (gd (0 < zrecv 158) (gd (false = zspc 158 ∧ zcs [] ≤ 8 ∧ zrm 209 (zrf 158 + 1) (8 + (zmaxl 158 + 11) + zrl 158) = true ∧ zcs [zR (some a0), zI (hI h a3 0), zI (hI h a3 1), zI (hI h a3 2), zI (hI h a3 3), zI (hI h a3 4)] ≤ zmaxl 158) (gd (zob h (some a0) 11) (zBack zY 209 92 95 [some (zR (some a0)), some (zR (some a1)), some (zI x2), some (zR (some a3)), some (zI x4), some (zI x5)] [] (zC 158 [zR (some a0), zI (hI h a3 0), zI (hI h a3 1), zI (hI h a3 2), zI (hI h a3 3), zI (hI h a3 4)] h)))))))))))))) from zGo 17 209 76 _ _ _).trans ?_
  refine (gd_t (by decide) _).trans ?_
  refine gd_c (ci ta3 rfl) (fun _ => ?_)
  refine (gd_t (by decide) _).trans ?_
  refine gd_c (ci ta3 rfl) (fun _ => ?_)
  refine (gd_t (by decide) _).trans ?_
  refine gd_c (ci ta3 rfl) (fun _ => ?_)
  refine (gd_t (by decide) _).trans ?_
  refine gd_c (ci ta3 rfl) (fun _ => ?_)
  refine (gd_t (by decide) _).trans ?_
  refine gd_c (ci ta3 rfl) (fun _ => ?_)
  refine (gd_t (by decide) _).trans ?_
  refine (gd_t (⟨rfl, Nat.le_of_ble_eq_true rfl, rfl, Nat.le_of_ble_eq_true rfl⟩) _).trans ?_
  refine (gd_t (⟨rfl, ta0, na0⟩) _).trans ?_
  rfl
theorem q_L_type_51 {h : zH} {a0 : Nat} {a1 : Nat} {x2 : Int} {a3 : Nat} {x4 : Int} {x5 : Int} {y0 : Nat} {y1 : Int} {y2 : Int} {y3 : Int} {y4 : Int}  : zY 209 51 [some (zR (some a0)), some (zR (some a1)), some (zI x2), some (zR (some a3)), some (zI x4), some (zI x5)] [zI y4, zI y3, zI y2, zI y1, zR (some y0)] h =
    if y3 < y4 then zY 209 54 [some (zR (some a0)), some (zR (some a1)), some (zI x2), some (zR (some a3)), some (zI x4), some (zI x5)] [zI y2, zI y1, zR (some y0)] h else zY 209 66 [some (zR (some a0)), some (zR (some a1)), some (zI x2), some (zR (some a3)), some (zI x4), some (zI x5)] [zI y2, zI y1, zR (some y0)] h := by
  refine (show zY 209 51 [some (zR (some a0)), some (zR (some a1)), some (zI x2), some (zR (some a3)), some (zI x4), some (zI x5)] [zI y4, zI y3, zI y2, zI y1, zR (some y0)] h = if y3 < y4 then zY 209 54 [some (zR (some a0)), some (zR (some a1)), some (zI x2), some (zR (some a3)), some (zI x4), some (zI x5)] [zI y2, zI y1, zR (some y0)] h else zY 209 66 [some (zR (some a0)), some (zR (some a1)), some (zI x2), some (zR (some a3)), some (zI x4), some (zI x5)] [zI y2, zI y1, zR (some y0)] h from zGo 1 209 51 _ _ _).trans ?_
  rfl
theorem q_L_type_95 {h : zH} {a0 : Nat} {a1 : Nat} {x2 : Int} {a3 : Nat} {x4 : Int} {x5 : Int} {y0 : Int}  : zY 209 95 [some (zR (some a0)), some (zR (some a1)), some (zI x2), some (zR (some a3)), some (zI x4), some (zI x5)] [zI y0] h =
    gd (inR (x4 + 20)) (zY 209 9 [some (zR (some a0)), some (zR (some a1)), some (zI y0), some (zR (some a3)), some (zI (x4 + 20)), some (zI x5)] [] h) := by
  refine (show zY 209 95 [some (zR (some a0)), some (zR (some a1)), some (zI x2), some (zR (some a3)), some (zI x4), some (zI x5)] [zI y0] h = gd (inR (x4 + 20)) (gd (inR (20)) (zY 209 9 [some (zR (some a0)), some (zR (some a1)), some (zI y0), some (zR (some a3)), some (zI (x4 + 20)), some (zI x5)] [] h)) from zGo 3 209 95 _ _ _).trans ?_
  refine gd_c (Iff.rfl) (fun _ => ?_)
  refine (gd_t (by decide) _).trans ?_
  rfl
theorem q_L_type_54 {h : zH} {a0 : Nat} {a1 : Nat} {x2 : Int} {a3 : Nat} {x4 : Int} {x5 : Int} {y0 : Nat} {y1 : Int} {y2 : Int}  : zY 209 54 [some (zR (some a0)), some (zR (some a1)), some (zI x2), some (zR (some a3)), some (zI x4), some (zI x5)] [zI y2, zI y1, zR (some y0)] h =
    if hT h (zdr (some a1)) = 40 then gd (zok h (some a1) 40 (zwadd x4 x5) ∧ zcs [zI y2, zI y1, zR (some y0)] ≤ 8 ∧ zrm 209 5 120 = true) (zY 209 63 [some (zR (some a0)), some (zR (some a1)), some (zI x2), some (zR (some a3)), some (zI x4), some (zI x5)] [zI (hI h a1 (zwadd x4 x5).toNat), zI y2, zI y1, zR (some y0)] h) else gd (false = zspc 251 ∧ zcs [zI y2, zI y1, zR (some y0)] ≤ 8 ∧ zrm 209 (zrf 251 + 1) (8 + (zmaxl 251 + 11) + zrl 251) = true ∧ zcs [zR (some a1), zI (zwadd x4 x5)] ≤ zmaxl 251) (gd (zob h (some a1) 13) (zBack zY 209 60 63 [some (zR (some a0)), some (zR (some a1)), some (zI x2), some (zR (some a3)), some (zI x4), some (zI x5)] [zI y2, zI y1, zR (some y0)] (zC 251 [zR (some a1), zI (zwadd x4 x5)] h))) := by
  refine (show zY 209 54 [some (zR (some a0)), some (zR (some a1)), some (zI x2), some (zR (some a3)), some (zI x4), some (zI x5)] [zI y2, zI y1, zR (some y0)] h = gd (921 = 908 ∨ 921 = 909 ∨ 921 = 920 ∨ 921 = 921 ∨ 921 = 931) (if hT h (zdr (some a1)) = 40 then gd (zok h (some a1) 40 (zwadd x4 x5) ∧ zcs [zI y2, zI y1, zR (some y0)] ≤ 8 ∧ zrm 209 5 120 = true) (zY 209 63 [some (zR (some a0)), some (zR (some a1)), some (zI x2), some (zR (some a3)), some (zI x4), some (zI x5)] [zI (hI h a1 (zwadd x4 x5).toNat), zI y2, zI y1, zR (some y0)] h) else gd (false = zspc 251 ∧ zcs [zI y2, zI y1, zR (some y0)] ≤ 8 ∧ zrm 209 (zrf 251 + 1) (8 + (zmaxl 251 + 11) + zrl 251) = true ∧ zcs [zR (some a1), zI (zwadd x4 x5)] ≤ zmaxl 251) (gd (zob h (some a1) 13) (zBack zY 209 60 63 [some (zR (some a0)), some (zR (some a1)), some (zI x2), some (zR (some a3)), some (zI x4), some (zI x5)] [zI y2, zI y1, zR (some y0)] (zC 251 [zR (some a1), zI (zwadd x4 x5)] h)))) from zGo 5 209 54 _ _ _).trans ?_
  refine (gd_t (by decide) _).trans ?_
  rfl
theorem q_L_type_66 {h : zH} {a0 : Nat} {a1 : Nat} {x2 : Int} {a3 : Nat} {x4 : Int} {x5 : Int} {y0 : Nat} {y1 : Int} {y2 : Int} (ty0 : hT h y0 = 22) (ny0 : y0 < hN h) : zY 209 66 [some (zR (some a0)), some (zR (some a1)), some (zI x2), some (zR (some a3)), some (zI x4), some (zI x5)] [zI y2, zI y1, zR (some y0)] h =
    gd ((0 : Int) ≤ y1 ∧ y1 < (hL h y0 : Int)) (gd (inR (x5 + 1)) (zY 209 21 [some (zR (some a0)), some (zR (some a1)), some (zI x2), some (zR (some a3)), some (zI x4), some (zI (x5 + 1))] [] (sI h y0 y1.toNat (zor y2 32)))) := by
  refine (show zY 209 66 [some (zR (some a0)), some (zR (some a1)), some (zI x2), some (zR (some a3)), some (zI x4), some (zI x5)] [zI y2, zI y1, zR (some y0)] h = gd (-128 ≤ (32 : Int) ∧ (32 : Int) < 128) (gd (zokw h (some y0) 22 y1) (gd (inR (x5 + 1)) (gd (inR (1)) (zY 209 21 [some (zR (some a0)), some (zR (some a1)), some (zI x2), some (zR (some a3)), some (zI x4), some (zI (x5 + 1))] [] (sI h y0 y1.toNat (zor y2 32)))))) from zGo 5 209 66 _ _ _).trans ?_
  refine (gd_t (by decide) _).trans ?_
  refine gd_c (ciw ty0 ny0 rfl) (fun _ => ?_)
  refine gd_c (Iff.rfl) (fun _ => ?_)
  refine (gd_t (by decide) _).trans ?_
  rfl
theorem q_L_type_63 {h : zH} {a0 : Nat} {a1 : Nat} {x2 : Int} {a3 : Nat} {x4 : Int} {x5 : Int} {y0 : Nat} {y1 : Int} {y2 : Int} {y3 : Int} (ty0 : hT h y0 = 22) (ny0 : y0 < hN h) : zY 209 63 [some (zR (some a0)), some (zR (some a1)), some (zI x2), some (zR (some a3)), some (zI x4), some (zI x5)] [zI y3, zI y2, zI y1, zR (some y0)] h =
    gd ((0 : Int) ≤ y1 ∧ y1 < (hL h y0 : Int)) (gd (inR (x5 + 1)) (zY 209 21 [some (zR (some a0)), some (zR (some a1)), some (zI x2), some (zR (some a3)), some (zI x4), some (zI (x5 + 1))] [] (sI h y0 y1.toNat (zor y2 y3)))) := by
  refine (show zY 209 63 [some (zR (some a0)), some (zR (some a1)), some (zI x2), some (zR (some a3)), some (zI x4), some (zI x5)] [zI y3, zI y2, zI y1, zR (some y0)] h = gd (zokw h (some y0) 22 y1) (gd (inR (x5 + 1)) (gd (inR (1)) (zY 209 21 [some (zR (some a0)), some (zR (some a1)), some (zI x2), some (zR (some a3)), some (zI x4), some (zI (x5 + 1))] [] (sI h y0 y1.toNat (zor y2 y3))))) from zGo 5 209 63 _ _ _).trans ?_
  refine gd_c (ciw ty0 ny0 rfl) (fun _ => ?_)
  refine gd_c (Iff.rfl) (fun _ => ?_)
  refine (gd_t (by decide) _).trans ?_
  rfl
theorem q_L_undone {h : zH} {a0 : Nat} (ta0 : hT h a0 = 11) (na0 : a0 < hN h) : zC 210 [zR (some a0)] h =
    zBack zY 210 1 4 [some (zR (some a0)), none] [] (zC 201 [zR (some a0)] h) := by
  refine (show zC 210 [zR (some a0)] h = gd (0 < zrecv 201) (gd (false = zspc 201 ∧ zcs [] ≤ 8 ∧ zrm 210 (zrf 201 + 1) (8 + (zmaxl 201 + 11) + zrl 201) = true ∧ zcs [zR (some a0)] ≤ zmaxl 201) (gd (zob h (some a0) 11) (zBack zY 210 1 4 [some (zR (some a0)), none] [] (zC 201 [zR (some a0)] h)))) from zGo 2 210 0 _ _ _).trans ?_
  refine (gd_t (by decide) _).trans ?_
  refine (gd_t (⟨rfl, Nat.le_of_ble_eq_true rfl, rfl, Nat.le_of_ble_eq_true rfl⟩) _).trans ?_
  refine (gd_t (⟨rfl, ta0, na0⟩) _).trans ?_
  rfl
theorem q_L_undone_4 {h : zH} {a0 : Nat} {y0 : Int}  : zY 210 4 [some (zR (some a0)), none] [zI y0] h =
    some (.inl (some (zI y0)), h) := by
  refine (show zY 210 4 [some (zR (some a0)), none] [zI y0] h = gd (([] : List zV).isEmpty = true ∧ (zrk 210 = 1 ∨ zrk 210 = 6 ∧ ((y0 : Int) = 0 ∨ (y0 : Int) = 1))) (some (.inl (some (zI y0)), h)) from zGo 1 210 4 _ _ _).trans ?_
  refine (gd_t (⟨rfl, Or.inl rfl⟩) _).trans ?_
  rfl
theorem q_L_undone_6 {h : zH} {a0 : Nat}  : zY 210 6 [some (zR (some a0)), none] [] h =
    some (.inl (some (zI (-1))), h) := by
  refine (show zY 210 6 [some (zR (some a0)), none] [] h = gd (inR (-1)) (gd (([] : List zV).isEmpty = true ∧ (zrk 210 = 1 ∨ zrk 210 = 6 ∧ (((-1) : Int) = 0 ∨ ((-1) : Int) = 1))) (some (.inl (some (zI (-1))), h))) from zGo 2 210 6 _ _ _).trans ?_
  refine (gd_t (by decide) _).trans ?_
  refine (gd_t (⟨rfl, Or.inl rfl⟩) _).trans ?_
  rfl
theorem q_L_filled {h : zH} {a0 : Nat} {x1 : Int} {x2 : Int} (ta0 : hT h a0 = 11) (na0 : a0 < hN h) : zC 211 [zR (some a0), zI x1, zI x2] h =
    zBack zY 211 3 6 [some (zR (some a0)), some (zI x1), some (zI x2), none] [] (zC 197 [zR (some a0), zI x1, zI x2] h) := by
  refine (show zC 211 [zR (some a0), zI x1, zI x2] h = gd (0 < zrecv 197) (gd (false = zspc 197 ∧ zcs [] ≤ 8 ∧ zrm 211 (zrf 197 + 1) (8 + (zmaxl 197 + 11) + zrl 197) = true ∧ zcs [zR (some a0), zI x1, zI x2] ≤ zmaxl 197) (gd (zob h (some a0) 11) (zBack zY 211 3 6 [some (zR (some a0)), some (zI x1), some (zI x2), none] [] (zC 197 [zR (some a0), zI x1, zI x2] h)))) from zGo 4 211 0 _ _ _).trans ?_
  refine (gd_t (by decide) _).trans ?_
  refine (gd_t (⟨rfl, Nat.le_of_ble_eq_true rfl, rfl, Nat.le_of_ble_eq_true rfl⟩) _).trans ?_
  refine (gd_t (⟨rfl, ta0, na0⟩) _).trans ?_
  rfl
theorem q_L_filled_6 {h : zH} {a0 : Nat} {x1 : Int} {x2 : Int} {y0 : Int}  : zY 211 6 [some (zR (some a0)), some (zI x1), some (zI x2), none] [zI y0] h =
    some (.inl (some (zI y0)), h) := by
  refine (show zY 211 6 [some (zR (some a0)), some (zI x1), some (zI x2), none] [zI y0] h = gd (([] : List zV).isEmpty = true ∧ (zrk 211 = 1 ∨ zrk 211 = 6 ∧ ((y0 : Int) = 0 ∨ (y0 : Int) = 1))) (some (.inl (some (zI y0)), h)) from zGo 1 211 6 _ _ _).trans ?_
  refine (gd_t (⟨rfl, Or.inl rfl⟩) _).trans ?_
  rfl
theorem q_L_filled_8 {h : zH} {a0 : Nat} {x1 : Int} {x2 : Int}  : zY 211 8 [some (zR (some a0)), some (zI x1), some (zI x2), none] [] h =
    some (.inl (some (zI (-5))), h) := by
  refine (show zY 211 8 [some (zR (some a0)), some (zI x1), some (zI x2), none] [] h = gd (-128 ≤ (-5 : Int) ∧ (-5 : Int) < 128) (gd (([] : List zV).isEmpty = true ∧ (zrk 211 = 1 ∨ zrk 211 = 6 ∧ (((-5) : Int) = 0 ∨ ((-5) : Int) = 1))) (some (.inl (some (zI (-5))), h))) from zGo 2 211 8 _ _ _).trans ?_
  refine (gd_t (by decide) _).trans ?_
  refine (gd_t (⟨rfl, Or.inl rfl⟩) _).trans ?_
  rfl
theorem q_L_filled_12 {h : zH} {a0 : Nat} {x1 : Int} {x2 : Int}  : zY 211 12 [some (zR (some a0)), some (zI x1), some (zI x2), none] [] h =
    some (.inl (some (zI (-2))), h) := by
  refine (show zY 211 12 [some (zR (some a0)), some (zI x1), some (zI x2), none] [] h = gd (-128 ≤ (-2 : Int) ∧ (-2 : Int) < 128) (gd (([] : List zV).isEmpty = true ∧ (zrk 211 = 1 ∨ zrk 211 = 6 ∧ (((-2) : Int) = 0 ∨ ((-2) : Int) = 1))) (some (.inl (some (zI (-2))), h))) from zGo 2 211 12 _ _ _).trans ?_
  refine (gd_t (by decide) _).trans ?_
  refine (gd_t (⟨rfl, Or.inl rfl⟩) _).trans ?_
  rfl
theorem q_L_priced {h : zH} {a0 : Nat} {x1 : Int} {x2 : Int} (ta0 : hT h a0 = 11) (na0 : a0 < hN h) : zC 212 [zR (some a0), zI x1, zI x2] h =
    zBack zY 212 3 6 [some (zR (some a0)), some (zI x1), some (zI x2), none] [] (zC 198 [zR (some a0), zI x1, zI x2] h) := by
  refine (show zC 212 [zR (some a0), zI x1, zI x2] h = gd (0 < zrecv 198) (gd (false = zspc 198 ∧ zcs [] ≤ 8 ∧ zrm 212 (zrf 198 + 1) (8 + (zmaxl 198 + 11) + zrl 198) = true ∧ zcs [zR (some a0), zI x1, zI x2] ≤ zmaxl 198) (gd (zob h (some a0) 11) (zBack zY 212 3 6 [some (zR (some a0)), some (zI x1), some (zI x2), none] [] (zC 198 [zR (some a0), zI x1, zI x2] h)))) from zGo 4 212 0 _ _ _).trans ?_
  refine (gd_t (by decide) _).trans ?_
  refine (gd_t (⟨rfl, Nat.le_of_ble_eq_true rfl, rfl, Nat.le_of_ble_eq_true rfl⟩) _).trans ?_
  refine (gd_t (⟨rfl, ta0, na0⟩) _).trans ?_
  rfl
theorem q_L_priced_6 {h : zH} {a0 : Nat} {x1 : Int} {x2 : Int} {y0 : Int}  : zY 212 6 [some (zR (some a0)), some (zI x1), some (zI x2), none] [zI y0] h =
    some (.inl (some (zI y0)), h) := by
  refine (show zY 212 6 [some (zR (some a0)), some (zI x1), some (zI x2), none] [zI y0] h = gd (([] : List zV).isEmpty = true ∧ (zrk 212 = 1 ∨ zrk 212 = 6 ∧ ((y0 : Int) = 0 ∨ (y0 : Int) = 1))) (some (.inl (some (zI y0)), h)) from zGo 1 212 6 _ _ _).trans ?_
  refine (gd_t (⟨rfl, Or.inl rfl⟩) _).trans ?_
  rfl
theorem q_L_priced_8 {h : zH} {a0 : Nat} {x1 : Int} {x2 : Int}  : zY 212 8 [some (zR (some a0)), some (zI x1), some (zI x2), none] [] h =
    some (.inl (some (zI (-5))), h) := by
  refine (show zY 212 8 [some (zR (some a0)), some (zI x1), some (zI x2), none] [] h = gd (-128 ≤ (-5 : Int) ∧ (-5 : Int) < 128) (gd (([] : List zV).isEmpty = true ∧ (zrk 212 = 1 ∨ zrk 212 = 6 ∧ (((-5) : Int) = 0 ∨ ((-5) : Int) = 1))) (some (.inl (some (zI (-5))), h))) from zGo 2 212 8 _ _ _).trans ?_
  refine (gd_t (by decide) _).trans ?_
  refine (gd_t (⟨rfl, Or.inl rfl⟩) _).trans ?_
  rfl
theorem q_L_priced_12 {h : zH} {a0 : Nat} {x1 : Int} {x2 : Int}  : zY 212 12 [some (zR (some a0)), some (zI x1), some (zI x2), none] [] h =
    some (.inl (some (zI (-2))), h) := by
  refine (show zY 212 12 [some (zR (some a0)), some (zI x1), some (zI x2), none] [] h = gd (-128 ≤ (-2 : Int) ∧ (-2 : Int) < 128) (gd (([] : List zV).isEmpty = true ∧ (zrk 212 = 1 ∨ zrk 212 = 6 ∧ (((-2) : Int) = 0 ∨ ((-2) : Int) = 1))) (some (.inl (some (zI (-2))), h))) from zGo 2 212 12 _ _ _).trans ?_
  refine (gd_t (by decide) _).trans ?_
  refine (gd_t (⟨rfl, Or.inl rfl⟩) _).trans ?_
  rfl
theorem q_L_before {h : zH} {a0 : Nat} {a1 : Nat}  : zC 213 [zR (some a0), zR (some a1)] h =
    zBack zY 213 2 5 [some (zR (some a0)), some (zR (some a1)), none, none] [] (zC 209 [zR (some a0), zR (some a1)] h) := by
  refine (show zC 213 [zR (some a0), zR (some a1)] h = gd (zrecv 209 = 0) (gd (false = zspc 209 ∧ zcs [] ≤ 8 ∧ zrm 213 (zrf 209 + 1) (8 + (zmaxl 209 + 11) + zrl 209) = true ∧ zcs [zR (some a0), zR (some a1)] ≤ zmaxl 209) (zBack zY 213 2 5 [some (zR (some a0)), some (zR (some a1)), none, none] [] (zC 209 [zR (some a0), zR (some a1)] h))) from zGo 3 213 0 _ _ _).trans ?_
  refine (gd_t (rfl) _).trans ?_
  refine (gd_t (⟨rfl, Nat.le_of_ble_eq_true rfl, rfl, Nat.le_of_ble_eq_true rfl⟩) _).trans ?_
  rfl
theorem q_L_before_5 {h : zH} {a0 : Nat} {a1 : Nat} {y0 : Int} (ta0 : hT h a0 = 11) (na0 : a0 < hN h) : zY 213 5 [some (zR (some a0)), some (zR (some a1)), none, none] [zI y0] h =
    zBack zY 213 8 11 [some (zR (some a0)), some (zR (some a1)), some (zI y0), none] [] (zC 192 [zR (some a0), zI y0] h) := by
  refine (show zY 213 5 [some (zR (some a0)), some (zR (some a1)), none, none] [zI y0] h = gd (0 < zrecv 192) (gd (false = zspc 192 ∧ zcs [] ≤ 8 ∧ zrm 213 (zrf 192 + 1) (8 + (zmaxl 192 + 11) + zrl 192) = true ∧ zcs [zR (some a0), zI y0] ≤ zmaxl 192) (gd (zob h (some a0) 11) (zBack zY 213 8 11 [some (zR (some a0)), some (zR (some a1)), some (zI y0), none] [] (zC 192 [zR (some a0), zI y0] h)))) from zGo 4 213 5 _ _ _).trans ?_
  refine (gd_t (by decide) _).trans ?_
  refine (gd_t (⟨rfl, Nat.le_of_ble_eq_true rfl, rfl, Nat.le_of_ble_eq_true rfl⟩) _).trans ?_
  refine (gd_t (⟨rfl, ta0, na0⟩) _).trans ?_
  rfl
theorem q_L_before_11 {h : zH} {a0 : Nat} {a1 : Nat} {x2 : Int} {y0 : Int}  : zY 213 11 [some (zR (some a0)), some (zR (some a1)), some (zI x2), none] [zI y0] h =
    some (.inl (some (zI y0)), h) := by
  refine (show zY 213 11 [some (zR (some a0)), some (zR (some a1)), some (zI x2), none] [zI y0] h = gd (([] : List zV).isEmpty = true ∧ (zrk 213 = 1 ∨ zrk 213 = 6 ∧ ((y0 : Int) = 0 ∨ (y0 : Int) = 1))) (some (.inl (some (zI y0)), h)) from zGo 1 213 11 _ _ _).trans ?_
  refine (gd_t (⟨rfl, Or.inl rfl⟩) _).trans ?_
  rfl
theorem q_L_before_13 {h : zH} {a0 : Nat} {a1 : Nat} {x2 : Int}  : zY 213 13 [some (zR (some a0)), some (zR (some a1)), some (zI x2), none] [] h =
    some (.inl (some (zI (-2))), h) := by
  refine (show zY 213 13 [some (zR (some a0)), some (zR (some a1)), some (zI x2), none] [] h = gd (-128 ≤ (-2 : Int) ∧ (-2 : Int) < 128) (gd (([] : List zV).isEmpty = true ∧ (zrk 213 = 1 ∨ zrk 213 = 6 ∧ (((-2) : Int) = 0 ∨ ((-2) : Int) = 1))) (some (.inl (some (zI (-2))), h))) from zGo 2 213 13 _ _ _).trans ?_
  refine (gd_t (by decide) _).trans ?_
  refine (gd_t (⟨rfl, Or.inl rfl⟩) _).trans ?_
  rfl
theorem q_L_before_17 {h : zH} {a0 : Nat} {a1 : Nat} {x2 : Int}  : zY 213 17 [some (zR (some a0)), some (zR (some a1)), some (zI x2), none] [] h =
    some (.inl (some (zI (-3))), h) := by
  refine (show zY 213 17 [some (zR (some a0)), some (zR (some a1)), some (zI x2), none] [] h = gd (-128 ≤ (-3 : Int) ∧ (-3 : Int) < 128) (gd (([] : List zV).isEmpty = true ∧ (zrk 213 = 1 ∨ zrk 213 = 6 ∧ (((-3) : Int) = 0 ∨ ((-3) : Int) = 1))) (some (.inl (some (zI (-3))), h))) from zGo 2 213 17 _ _ _).trans ?_
  refine (gd_t (by decide) _).trans ?_
  refine (gd_t (⟨rfl, Or.inl rfl⟩) _).trans ?_
  rfl
theorem q_L_after {h : zH} {a0 : Nat} {a1 : Nat}  : zC 214 [zR (some a0), zR (some a1)] h =
    zBack zY 214 2 5 [some (zR (some a0)), some (zR (some a1)), none, none] [] (zC 209 [zR (some a0), zR (some a1)] h) := by
  refine (show zC 214 [zR (some a0), zR (some a1)] h = gd (zrecv 209 = 0) (gd (false = zspc 209 ∧ zcs [] ≤ 8 ∧ zrm 214 (zrf 209 + 1) (8 + (zmaxl 209 + 11) + zrl 209) = true ∧ zcs [zR (some a0), zR (some a1)] ≤ zmaxl 209) (zBack zY 214 2 5 [some (zR (some a0)), some (zR (some a1)), none, none] [] (zC 209 [zR (some a0), zR (some a1)] h))) from zGo 3 214 0 _ _ _).trans ?_
  refine (gd_t (rfl) _).trans ?_
  refine (gd_t (⟨rfl, Nat.le_of_ble_eq_true rfl, rfl, Nat.le_of_ble_eq_true rfl⟩) _).trans ?_
  rfl
theorem q_L_after_5 {h : zH} {a0 : Nat} {a1 : Nat} {y0 : Int} (ta0 : hT h a0 = 11) (na0 : a0 < hN h) : zY 214 5 [some (zR (some a0)), some (zR (some a1)), none, none] [zI y0] h =
    zBack zY 214 8 11 [some (zR (some a0)), some (zR (some a1)), some (zI y0), none] [] (zC 194 [zR (some a0), zI y0] h) := by
  refine (show zY 214 5 [some (zR (some a0)), some (zR (some a1)), none, none] [zI y0] h = gd (0 < zrecv 194) (gd (false = zspc 194 ∧ zcs [] ≤ 8 ∧ zrm 214 (zrf 194 + 1) (8 + (zmaxl 194 + 11) + zrl 194) = true ∧ zcs [zR (some a0), zI y0] ≤ zmaxl 194) (gd (zob h (some a0) 11) (zBack zY 214 8 11 [some (zR (some a0)), some (zR (some a1)), some (zI y0), none] [] (zC 194 [zR (some a0), zI y0] h)))) from zGo 4 214 5 _ _ _).trans ?_
  refine (gd_t (by decide) _).trans ?_
  refine (gd_t (⟨rfl, Nat.le_of_ble_eq_true rfl, rfl, Nat.le_of_ble_eq_true rfl⟩) _).trans ?_
  refine (gd_t (⟨rfl, ta0, na0⟩) _).trans ?_
  rfl
theorem q_L_after_11 {h : zH} {a0 : Nat} {a1 : Nat} {x2 : Int} {y0 : Int}  : zY 214 11 [some (zR (some a0)), some (zR (some a1)), some (zI x2), none] [zI y0] h =
    some (.inl (some (zI y0)), h) := by
  refine (show zY 214 11 [some (zR (some a0)), some (zR (some a1)), some (zI x2), none] [zI y0] h = gd (([] : List zV).isEmpty = true ∧ (zrk 214 = 1 ∨ zrk 214 = 6 ∧ ((y0 : Int) = 0 ∨ (y0 : Int) = 1))) (some (.inl (some (zI y0)), h)) from zGo 1 214 11 _ _ _).trans ?_
  refine (gd_t (⟨rfl, Or.inl rfl⟩) _).trans ?_
  rfl
theorem q_L_after_13 {h : zH} {a0 : Nat} {a1 : Nat} {x2 : Int}  : zY 214 13 [some (zR (some a0)), some (zR (some a1)), some (zI x2), none] [] h =
    some (.inl (some (zI (-2))), h) := by
  refine (show zY 214 13 [some (zR (some a0)), some (zR (some a1)), some (zI x2), none] [] h = gd (-128 ≤ (-2 : Int) ∧ (-2 : Int) < 128) (gd (([] : List zV).isEmpty = true ∧ (zrk 214 = 1 ∨ zrk 214 = 6 ∧ (((-2) : Int) = 0 ∨ ((-2) : Int) = 1))) (some (.inl (some (zI (-2))), h))) from zGo 2 214 13 _ _ _).trans ?_
  refine (gd_t (by decide) _).trans ?_
  refine (gd_t (⟨rfl, Or.inl rfl⟩) _).trans ?_
  rfl
theorem q_L_after_17 {h : zH} {a0 : Nat} {a1 : Nat} {x2 : Int}  : zY 214 17 [some (zR (some a0)), some (zR (some a1)), some (zI x2), none] [] h =
    some (.inl (some (zI (-3))), h) := by
  refine (show zY 214 17 [some (zR (some a0)), some (zR (some a1)), some (zI x2), none] [] h = gd (-128 ≤ (-3 : Int) ∧ (-3 : Int) < 128) (gd (([] : List zV).isEmpty = true ∧ (zrk 214 = 1 ∨ zrk 214 = 6 ∧ (((-3) : Int) = 0 ∨ ((-3) : Int) = 1))) (some (.inl (some (zI (-3))), h))) from zGo 2 214 17 _ _ _).trans ?_
  refine (gd_t (by decide) _).trans ?_
  refine (gd_t (⟨rfl, Or.inl rfl⟩) _).trans ?_
  rfl
theorem q_L_holds {h : zH} {j0 : BitVec 64} {x2 : Int}  : zC 219 [zJ j0, zI x2] h =
    if (zlcmp ((zlushr j0 x2) &&& (1#64)) (1#64)) = 0 then zY 219 10 [some (zJ j0), none, some (zI x2)] [] h else zY 219 14 [some (zJ j0), none, some (zI x2)] [] h := by
  refine (show zC 219 [zJ j0, zI x2] h = if (zlcmp ((zlushr j0 x2) &&& (1#64)) (1#64)) = 0 then zY 219 10 [some (zJ j0), none, some (zI x2)] [] h else zY 219 14 [some (zJ j0), none, some (zI x2)] [] h from zGo 8 219 0 _ _ _).trans ?_
  rfl
theorem q_L_holds_10 {h : zH} {j0 : BitVec 64} {x2 : Int}  : zY 219 10 [some (zJ j0), none, some (zI x2)] [] h =
    some (.inl (some (zI 1)), h) := by
  refine (show zY 219 10 [some (zJ j0), none, some (zI x2)] [] h = gd (inR (1)) (gd (([] : List zV).isEmpty = true ∧ (zrk 219 = 1 ∨ zrk 219 = 6 ∧ ((1 : Int) = 0 ∨ (1 : Int) = 1))) (some (.inl (some (zI 1)), h))) from zGo 3 219 10 _ _ _).trans ?_
  refine (gd_t (by decide) _).trans ?_
  refine (gd_t (⟨rfl, Or.inr ⟨rfl, by decide⟩⟩) _).trans ?_
  rfl
theorem q_L_holds_14 {h : zH} {j0 : BitVec 64} {x2 : Int}  : zY 219 14 [some (zJ j0), none, some (zI x2)] [] h =
    some (.inl (some (zI 0)), h) := by
  refine (show zY 219 14 [some (zJ j0), none, some (zI x2)] [] h = gd (inR (0)) (gd (([] : List zV).isEmpty = true ∧ (zrk 219 = 1 ∨ zrk 219 = 6 ∧ ((0 : Int) = 0 ∨ (0 : Int) = 1))) (some (.inl (some (zI 0)), h))) from zGo 2 219 14 _ _ _).trans ?_
  refine (gd_t (by decide) _).trans ?_
  refine (gd_t (⟨rfl, Or.inr ⟨rfl, by decide⟩⟩) _).trans ?_
  rfl
theorem q_L_keep {h : zH} {a0 : Nat} {x1 : Int} {a2 : Nat}  : zC 221 [zR (some a0), zI x1, zR (some a2)] h =
    zBack zY 221 2 5 [some (zR (some a0)), some (zI x1), some (zR (some a2)), none, none] [] (zC 209 [zR (some a0), zR (some a2)] h) := by
  refine (show zC 221 [zR (some a0), zI x1, zR (some a2)] h = gd (zrecv 209 = 0) (gd (false = zspc 209 ∧ zcs [] ≤ 8 ∧ zrm 221 (zrf 209 + 1) (8 + (zmaxl 209 + 11) + zrl 209) = true ∧ zcs [zR (some a0), zR (some a2)] ≤ zmaxl 209) (zBack zY 221 2 5 [some (zR (some a0)), some (zI x1), some (zR (some a2)), none, none] [] (zC 209 [zR (some a0), zR (some a2)] h))) from zGo 3 221 0 _ _ _).trans ?_
  refine (gd_t (rfl) _).trans ?_
  refine (gd_t (⟨rfl, Nat.le_of_ble_eq_true rfl, rfl, Nat.le_of_ble_eq_true rfl⟩) _).trans ?_
  rfl
theorem q_L_keep_5 {h : zH} {a0 : Nat} {x1 : Int} {a2 : Nat} {y0 : Int} (ta0 : hT h a0 = 11) (na0 : a0 < hN h) : zY 221 5 [some (zR (some a0)), some (zI x1), some (zR (some a2)), none, none] [zI y0] h =
    zBack zY 221 9 12 [some (zR (some a0)), some (zI x1), some (zR (some a2)), some (zI y0), none] [] (zC 195 [zR (some a0), zI x1, zI y0] h) := by
  refine (show zY 221 5 [some (zR (some a0)), some (zI x1), some (zR (some a2)), none, none] [zI y0] h = gd (0 < zrecv 195) (gd (false = zspc 195 ∧ zcs [] ≤ 8 ∧ zrm 221 (zrf 195 + 1) (8 + (zmaxl 195 + 11) + zrl 195) = true ∧ zcs [zR (some a0), zI x1, zI y0] ≤ zmaxl 195) (gd (zob h (some a0) 11) (zBack zY 221 9 12 [some (zR (some a0)), some (zI x1), some (zR (some a2)), some (zI y0), none] [] (zC 195 [zR (some a0), zI x1, zI y0] h)))) from zGo 5 221 5 _ _ _).trans ?_
  refine (gd_t (by decide) _).trans ?_
  refine (gd_t (⟨rfl, Nat.le_of_ble_eq_true rfl, rfl, Nat.le_of_ble_eq_true rfl⟩) _).trans ?_
  refine (gd_t (⟨rfl, ta0, na0⟩) _).trans ?_
  rfl
theorem q_L_keep_12 {h : zH} {a0 : Nat} {x1 : Int} {a2 : Nat} {x3 : Int} {y0 : Int}  : zY 221 12 [some (zR (some a0)), some (zI x1), some (zR (some a2)), some (zI x3), none] [zI y0] h =
    some (.inl (some (zI y0)), h) := by
  refine (show zY 221 12 [some (zR (some a0)), some (zI x1), some (zR (some a2)), some (zI x3), none] [zI y0] h = gd (([] : List zV).isEmpty = true ∧ (zrk 221 = 1 ∨ zrk 221 = 6 ∧ ((y0 : Int) = 0 ∨ (y0 : Int) = 1))) (some (.inl (some (zI y0)), h)) from zGo 1 221 12 _ _ _).trans ?_
  refine (gd_t (⟨rfl, Or.inl rfl⟩) _).trans ?_
  rfl
theorem q_L_keep_15 {h : zH} {a0 : Nat} {x1 : Int} {a2 : Nat} {x3 : Int}  : zY 221 15 [some (zR (some a0)), some (zI x1), some (zR (some a2)), some (zI x3), none] [] h =
    some (.inl (some (zI (-5))), h) := by
  refine (show zY 221 15 [some (zR (some a0)), some (zI x1), some (zR (some a2)), some (zI x3), none] [] h = gd (-128 ≤ (-5 : Int) ∧ (-5 : Int) < 128) (gd (([] : List zV).isEmpty = true ∧ (zrk 221 = 1 ∨ zrk 221 = 6 ∧ (((-5) : Int) = 0 ∨ ((-5) : Int) = 1))) (some (.inl (some (zI (-5))), h))) from zGo 2 221 15 _ _ _).trans ?_
  refine (gd_t (by decide) _).trans ?_
  refine (gd_t (⟨rfl, Or.inl rfl⟩) _).trans ?_
  rfl
theorem q_L_keep_20 {h : zH} {a0 : Nat} {x1 : Int} {a2 : Nat} {x3 : Int}  : zY 221 20 [some (zR (some a0)), some (zI x1), some (zR (some a2)), some (zI x3), none] [] h =
    some (.inl (some (zI (-2))), h) := by
  refine (show zY 221 20 [some (zR (some a0)), some (zI x1), some (zR (some a2)), some (zI x3), none] [] h = gd (-128 ≤ (-2 : Int) ∧ (-2 : Int) < 128) (gd (([] : List zV).isEmpty = true ∧ (zrk 221 = 1 ∨ zrk 221 = 6 ∧ (((-2) : Int) = 0 ∨ ((-2) : Int) = 1))) (some (.inl (some (zI (-2))), h))) from zGo 2 221 20 _ _ _).trans ?_
  refine (gd_t (by decide) _).trans ?_
  refine (gd_t (⟨rfl, Or.inl rfl⟩) _).trans ?_
  rfl
theorem q_L_keep_25 {h : zH} {a0 : Nat} {x1 : Int} {a2 : Nat} {x3 : Int}  : zY 221 25 [some (zR (some a0)), some (zI x1), some (zR (some a2)), some (zI x3), none] [] h =
    some (.inl (some (zI (-3))), h) := by
  refine (show zY 221 25 [some (zR (some a0)), some (zI x1), some (zR (some a2)), some (zI x3), none] [] h = gd (-128 ≤ (-3 : Int) ∧ (-3 : Int) < 128) (gd (([] : List zV).isEmpty = true ∧ (zrk 221 = 1 ∨ zrk 221 = 6 ∧ (((-3) : Int) = 0 ∨ ((-3) : Int) = 1))) (some (.inl (some (zI (-3))), h))) from zGo 2 221 25 _ _ _).trans ?_
  refine (gd_t (by decide) _).trans ?_
  refine (gd_t (⟨rfl, Or.inl rfl⟩) _).trans ?_
  rfl
theorem q_L_less {h : zH} {a0 : Nat} {x1 : Int} {a2 : Nat}  : zC 222 [zR (some a0), zI x1, zR (some a2)] h =
    zBack zY 222 2 5 [some (zR (some a0)), some (zI x1), some (zR (some a2)), none, none] [] (zC 209 [zR (some a0), zR (some a2)] h) := by
  refine (show zC 222 [zR (some a0), zI x1, zR (some a2)] h = gd (zrecv 209 = 0) (gd (false = zspc 209 ∧ zcs [] ≤ 8 ∧ zrm 222 (zrf 209 + 1) (8 + (zmaxl 209 + 11) + zrl 209) = true ∧ zcs [zR (some a0), zR (some a2)] ≤ zmaxl 209) (zBack zY 222 2 5 [some (zR (some a0)), some (zI x1), some (zR (some a2)), none, none] [] (zC 209 [zR (some a0), zR (some a2)] h))) from zGo 3 222 0 _ _ _).trans ?_
  refine (gd_t (rfl) _).trans ?_
  refine (gd_t (⟨rfl, Nat.le_of_ble_eq_true rfl, rfl, Nat.le_of_ble_eq_true rfl⟩) _).trans ?_
  rfl
theorem q_L_less_5 {h : zH} {a0 : Nat} {x1 : Int} {a2 : Nat} {y0 : Int} (ta0 : hT h a0 = 11) (na0 : a0 < hN h) : zY 222 5 [some (zR (some a0)), some (zI x1), some (zR (some a2)), none, none] [zI y0] h =
    zBack zY 222 9 12 [some (zR (some a0)), some (zI x1), some (zR (some a2)), some (zI y0), none] [] (zC 196 [zR (some a0), zI x1, zI y0] h) := by
  refine (show zY 222 5 [some (zR (some a0)), some (zI x1), some (zR (some a2)), none, none] [zI y0] h = gd (0 < zrecv 196) (gd (false = zspc 196 ∧ zcs [] ≤ 8 ∧ zrm 222 (zrf 196 + 1) (8 + (zmaxl 196 + 11) + zrl 196) = true ∧ zcs [zR (some a0), zI x1, zI y0] ≤ zmaxl 196) (gd (zob h (some a0) 11) (zBack zY 222 9 12 [some (zR (some a0)), some (zI x1), some (zR (some a2)), some (zI y0), none] [] (zC 196 [zR (some a0), zI x1, zI y0] h)))) from zGo 5 222 5 _ _ _).trans ?_
  refine (gd_t (by decide) _).trans ?_
  refine (gd_t (⟨rfl, Nat.le_of_ble_eq_true rfl, rfl, Nat.le_of_ble_eq_true rfl⟩) _).trans ?_
  refine (gd_t (⟨rfl, ta0, na0⟩) _).trans ?_
  rfl
theorem q_L_less_12 {h : zH} {a0 : Nat} {x1 : Int} {a2 : Nat} {x3 : Int} {y0 : Int}  : zY 222 12 [some (zR (some a0)), some (zI x1), some (zR (some a2)), some (zI x3), none] [zI y0] h =
    some (.inl (some (zI y0)), h) := by
  refine (show zY 222 12 [some (zR (some a0)), some (zI x1), some (zR (some a2)), some (zI x3), none] [zI y0] h = gd (([] : List zV).isEmpty = true ∧ (zrk 222 = 1 ∨ zrk 222 = 6 ∧ ((y0 : Int) = 0 ∨ (y0 : Int) = 1))) (some (.inl (some (zI y0)), h)) from zGo 1 222 12 _ _ _).trans ?_
  refine (gd_t (⟨rfl, Or.inl rfl⟩) _).trans ?_
  rfl
theorem q_L_less_15 {h : zH} {a0 : Nat} {x1 : Int} {a2 : Nat} {x3 : Int}  : zY 222 15 [some (zR (some a0)), some (zI x1), some (zR (some a2)), some (zI x3), none] [] h =
    some (.inl (some (zI (-5))), h) := by
  refine (show zY 222 15 [some (zR (some a0)), some (zI x1), some (zR (some a2)), some (zI x3), none] [] h = gd (-128 ≤ (-5 : Int) ∧ (-5 : Int) < 128) (gd (([] : List zV).isEmpty = true ∧ (zrk 222 = 1 ∨ zrk 222 = 6 ∧ (((-5) : Int) = 0 ∨ ((-5) : Int) = 1))) (some (.inl (some (zI (-5))), h))) from zGo 2 222 15 _ _ _).trans ?_
  refine (gd_t (by decide) _).trans ?_
  refine (gd_t (⟨rfl, Or.inl rfl⟩) _).trans ?_
  rfl
theorem q_L_less_20 {h : zH} {a0 : Nat} {x1 : Int} {a2 : Nat} {x3 : Int}  : zY 222 20 [some (zR (some a0)), some (zI x1), some (zR (some a2)), some (zI x3), none] [] h =
    some (.inl (some (zI (-2))), h) := by
  refine (show zY 222 20 [some (zR (some a0)), some (zI x1), some (zR (some a2)), some (zI x3), none] [] h = gd (-128 ≤ (-2 : Int) ∧ (-2 : Int) < 128) (gd (([] : List zV).isEmpty = true ∧ (zrk 222 = 1 ∨ zrk 222 = 6 ∧ (((-2) : Int) = 0 ∨ ((-2) : Int) = 1))) (some (.inl (some (zI (-2))), h))) from zGo 2 222 20 _ _ _).trans ?_
  refine (gd_t (by decide) _).trans ?_
  refine (gd_t (⟨rfl, Or.inl rfl⟩) _).trans ?_
  rfl
theorem q_L_less_25 {h : zH} {a0 : Nat} {x1 : Int} {a2 : Nat} {x3 : Int}  : zY 222 25 [some (zR (some a0)), some (zI x1), some (zR (some a2)), some (zI x3), none] [] h =
    some (.inl (some (zI (-3))), h) := by
  refine (show zY 222 25 [some (zR (some a0)), some (zI x1), some (zR (some a2)), some (zI x3), none] [] h = gd (-128 ≤ (-3 : Int) ∧ (-3 : Int) < 128) (gd (([] : List zV).isEmpty = true ∧ (zrk 222 = 1 ∨ zrk 222 = 6 ∧ (((-3) : Int) = 0 ∨ ((-3) : Int) = 1))) (some (.inl (some (zI (-3))), h))) from zGo 2 222 25 _ _ _).trans ?_
  refine (gd_t (by decide) _).trans ?_
  refine (gd_t (⟨rfl, Or.inl rfl⟩) _).trans ?_
  rfl
