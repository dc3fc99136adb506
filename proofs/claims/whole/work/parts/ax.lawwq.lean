/-! The law: calls wrapped, pieces. -/
theorem q_L_feed {h : zH} {x1 : Int} {x2 : Int} {x3 : Int} {x4 : Int} {x5 : Int} {a6 : Nat} (KC : KC h) (ta6 : hT h a6 = 23) (na6 : a6 < hN h) : zC 350 [zR (some 0), zI x1, zI x2, zI x3, zI x4, zI x5, zR (some a6)] h =
    zBack zY 350 11 14 [some (zR (some 0)), some (zI x1), some (zI x2), some (zI x3), some (zI x4), some (zI x5), some (zR (some a6)), none] [zI 0, zR (some a6)] (zC 158 [zR (some 0), zI x1, zI x2, zI x3, zI x4, zI x5] h) := by
  refine (show zC 350 [zR (some 0), zI x1, zI x2, zI x3, zI x4, zI x5, zR (some a6)] h = gd (inR (0)) (gd (false = zctor 158 ∧ zcs [zI 0, zR (some a6)] ≤ 8 ∧ zrm 350 (zrf 158 + 1) (8 + (zmaxl 158 + 11) + zrl 158) = true ∧ zcs [zR (some 0), zI x1, zI x2, zI x3, zI x4, zI x5] ≤ zmaxl 158) (gd (zob h (some 0) 11) (zBack zY 350 11 14 [some (zR (some 0)), some (zI x1), some (zI x2), some (zI x3), some (zI x4), some (zI x5), some (zR (some a6)), none] [zI 0, zR (some a6)] (zC 158 [zR (some 0), zI x1, zI x2, zI x3, zI x4, zI x5] h)))) from zGo 9 350 0 _ _ _).trans ?_
  refine (gd_t (by decide) _).trans ?_
  refine (gd_t (⟨rfl, Nat.le_of_ble_eq_true rfl, rfl, Nat.le_of_ble_eq_true rfl⟩) _).trans ?_
  refine (gd_t (⟨rfl, (PTC KC 0 _ rfl rfl), (PNC KC 0 rfl)⟩) _).trans ?_
  rfl
theorem q_L_feed_r14 {h : zH} {x1 : Int} {x2 : Int} {x3 : Int} {x4 : Int} {x5 : Int} {a6 : Nat} {ay0 : Nat} {y1 : Int} {y : Int} (KC : KC h) (ta6 : hT h a6 = 23) (na6 : a6 < hN h) (tay0 : hT h ay0 = 23) (nay0 : ay0 < hN h) : zBack zY 350 11 14 [some (zR (some 0)), some (zI x1), some (zI x2), some (zI x3), some (zI x4), some (zI x5), some (zR (some a6)), none] [zI y1, zR (some ay0)] (some (.inl (some (zI y)), h)) =
    gd (0 ≤ y1 ∧ y1 < (hL h ay0 : Int)) (
    some (.inl (some (zI 0)), (sJ h ay0 y1.toNat (zi2l y)))) := by
  refine (show zBack zY 350 11 14 [some (zR (some 0)), some (zI x1), some (zI x2), some (zI x3), some (zI x4), some (zI x5), some (zR (some a6)), none] [zI y1, zR (some ay0)] (some (.inl (some (zI y)), h)) = gd (zokw h (some ay0) 23 y1) (gd (inR (0)) (gd (([] : List zV).isEmpty = true ∧ (zrk 350 = 1 ∨ zrk 350 = 6 ∧ ((0 : Int) = 0 ∨ (0 : Int) = 1))) (some (.inl (some (zI 0)), (sJ h ay0 y1.toNat (zi2l y)))))) from zGo 5 350 14 _ _ _).trans ?_
  refine gd_c (ciw tay0 nay0 rfl) (fun c0 => ?_)
  refine (gd_t (by decide) _).trans ?_
  refine (gd_t (⟨rfl, Or.inl rfl⟩) _).trans ?_
  rfl
theorem q_L_feed_x1 {h : zH} {x1 : Int} {x2 : Int} {x3 : Int} {x4 : Int} {x5 : Int} {a6 : Nat} {ay0 : Nat} {y1 : Int} (KC : KC h) (ta6 : hT h a6 = 23) (na6 : a6 < hN h) (tay0 : hT h ay0 = 23) (nay0 : ay0 < hN h) : zBack zY 350 11 14 [some (zR (some 0)), some (zI x1), some (zI x2), some (zI x3), some (zI x4), some (zI x5), some (zR (some a6)), none] [zI y1, zR (some ay0)] (some (.inr 1, h)) = some (.inl (some (zI 1)), h) := by
  refine (show zBack zY 350 11 14 [some (zR (some 0)), some (zI x1), some (zI x2), some (zI x3), some (zI x4), some (zI x5), some (zR (some a6)), none] [zI y1, zR (some ay0)] (some (.inr 1, h)) = zY 350 21 [some (zR (some 0)), some (zI x1), some (zI x2), some (zI x3), some (zI x4), some (zI x5), some (zR (some a6)), none] [] h from rfl).trans ?_
  refine (show zY 350 21 [some (zR (some 0)), some (zI x1), some (zI x2), some (zI x3), some (zI x4), some (zI x5), some (zR (some a6)), none] [] h = gd (inR (1)) (gd (([] : List zV).isEmpty = true ∧ (zrk 350 = 1 ∨ zrk 350 = 6 ∧ ((1 : Int) = 0 ∨ (1 : Int) = 1))) (some (.inl (some (zI 1)), h))) from zGo 2 350 21 _ _ _).trans ?_
  refine (gd_t (by decide) _).trans ?_
  exact gd_t (⟨rfl, Or.inl rfl⟩) _
theorem q_L_load {h : zH} {x1 : Int} {a2 : Nat} (KC : KC h) (ta2 : hT h a2 = 23) (na2 : a2 < hN h) : zC 351 [zR (some 0), zI x1, zR (some a2)] h =
    zBack zY 351 4 7 [some (zR (some 0)), some (zI x1), some (zR (some a2)), none] [zI 0, zR (some a2)] (zC 160 [zR (some 0), zI x1] h) := by
  refine (show zC 351 [zR (some 0), zI x1, zR (some a2)] h = gd (inR (0)) (gd (false = zctor 160 ∧ zcs [zI 0, zR (some a2)] ≤ 8 ∧ zrm 351 (zrf 160 + 1) (8 + (zmaxl 160 + 11) + zrl 160) = true ∧ zcs [zR (some 0), zI x1] ≤ zmaxl 160) (gd (zob h (some 0) 11) (zBack zY 351 4 7 [some (zR (some 0)), some (zI x1), some (zR (some a2)), none] [zI 0, zR (some a2)] (zC 160 [zR (some 0), zI x1] h)))) from zGo 5 351 0 _ _ _).trans ?_
  refine (gd_t (by decide) _).trans ?_
  refine (gd_t (⟨rfl, Nat.le_of_ble_eq_true rfl, rfl, Nat.le_of_ble_eq_true rfl⟩) _).trans ?_
  refine (gd_t (⟨rfl, (PTC KC 0 _ rfl rfl), (PNC KC 0 rfl)⟩) _).trans ?_
  rfl
theorem q_L_load_r7 {h : zH} {x1 : Int} {a2 : Nat} {ay0 : Nat} {y1 : Int} {y : Int} (KC : KC h) (ta2 : hT h a2 = 23) (na2 : a2 < hN h) (tay0 : hT h ay0 = 23) (nay0 : ay0 < hN h) : zBack zY 351 4 7 [some (zR (some 0)), some (zI x1), some (zR (some a2)), none] [zI y1, zR (some ay0)] (some (.inl (some (zI y)), h)) =
    gd (0 ≤ y1 ∧ y1 < (hL h ay0 : Int)) (
    some (.inl (some (zI 0)), (sJ h ay0 y1.toNat (zi2l y)))) := by
  refine (show zBack zY 351 4 7 [some (zR (some 0)), some (zI x1), some (zR (some a2)), none] [zI y1, zR (some ay0)] (some (.inl (some (zI y)), h)) = gd (zokw h (some ay0) 23 y1) (gd (inR (0)) (gd (([] : List zV).isEmpty = true ∧ (zrk 351 = 1 ∨ zrk 351 = 6 ∧ ((0 : Int) = 0 ∨ (0 : Int) = 1))) (some (.inl (some (zI 0)), (sJ h ay0 y1.toNat (zi2l y)))))) from zGo 5 351 7 _ _ _).trans ?_
  refine gd_c (ciw tay0 nay0 rfl) (fun c0 => ?_)
  refine (gd_t (by decide) _).trans ?_
  refine (gd_t (⟨rfl, Or.inl rfl⟩) _).trans ?_
  rfl
theorem q_L_load_x0 {h : zH} {x1 : Int} {a2 : Nat} {ay0 : Nat} {y1 : Int} (KC : KC h) (ta2 : hT h a2 = 23) (na2 : a2 < hN h) (tay0 : hT h ay0 = 23) (nay0 : ay0 < hN h) : zBack zY 351 4 7 [some (zR (some 0)), some (zI x1), some (zR (some a2)), none] [zI y1, zR (some ay0)] (some (.inr 0, h)) = some (.inl (some (zI 1)), h) := by
  refine (show zBack zY 351 4 7 [some (zR (some 0)), some (zI x1), some (zR (some a2)), none] [zI y1, zR (some ay0)] (some (.inr 0, h)) = zY 351 13 [some (zR (some 0)), some (zI x1), some (zR (some a2)), none] [] h from rfl).trans ?_
  refine (show zY 351 13 [some (zR (some 0)), some (zI x1), some (zR (some a2)), none] [] h = gd (inR (1)) (gd (([] : List zV).isEmpty = true ∧ (zrk 351 = 1 ∨ zrk 351 = 6 ∧ ((1 : Int) = 0 ∨ (1 : Int) = 1))) (some (.inl (some (zI 1)), h))) from zGo 2 351 13 _ _ _).trans ?_
  refine (gd_t (by decide) _).trans ?_
  exact gd_t (⟨rfl, Or.inl rfl⟩) _
theorem q_L_load_x1 {h : zH} {x1 : Int} {a2 : Nat} {ay0 : Nat} {y1 : Int} (KC : KC h) (ta2 : hT h a2 = 23) (na2 : a2 < hN h) (tay0 : hT h ay0 = 23) (nay0 : ay0 < hN h) : zBack zY 351 4 7 [some (zR (some 0)), some (zI x1), some (zR (some a2)), none] [zI y1, zR (some ay0)] (some (.inr 1, h)) = some (.inl (some (zI 2)), h) := by
  refine (show zBack zY 351 4 7 [some (zR (some 0)), some (zI x1), some (zR (some a2)), none] [zI y1, zR (some ay0)] (some (.inr 1, h)) = zY 351 16 [some (zR (some 0)), some (zI x1), some (zR (some a2)), none] [] h from rfl).trans ?_
  refine (show zY 351 16 [some (zR (some 0)), some (zI x1), some (zR (some a2)), none] [] h = gd (inR (2)) (gd (([] : List zV).isEmpty = true ∧ (zrk 351 = 1 ∨ zrk 351 = 6 ∧ ((2 : Int) = 0 ∨ (2 : Int) = 1))) (some (.inl (some (zI 2)), h))) from zGo 2 351 16 _ _ _).trans ?_
  refine (gd_t (by decide) _).trans ?_
  exact gd_t (⟨rfl, Or.inl rfl⟩) _
theorem q_L_value {h : zH} {x1 : Int} {a2 : Nat} (KC : KC h) (ta2 : hT h a2 = 23) (na2 : a2 < hN h) : zC 352 [zR (some 0), zI x1, zR (some a2)] h =
    zBack zY 352 4 7 [some (zR (some 0)), some (zI x1), some (zR (some a2)), none] [zI 0, zR (some a2)] (zC 163 [zR (some 0), zI x1] h) := by
  refine (show zC 352 [zR (some 0), zI x1, zR (some a2)] h = gd (inR (0)) (gd (false = zctor 163 ∧ zcs [zI 0, zR (some a2)] ≤ 8 ∧ zrm 352 (zrf 163 + 1) (8 + (zmaxl 163 + 11) + zrl 163) = true ∧ zcs [zR (some 0), zI x1] ≤ zmaxl 163) (gd (zob h (some 0) 11) (zBack zY 352 4 7 [some (zR (some 0)), some (zI x1), some (zR (some a2)), none] [zI 0, zR (some a2)] (zC 163 [zR (some 0), zI x1] h)))) from zGo 5 352 0 _ _ _).trans ?_
  refine (gd_t (by decide) _).trans ?_
  refine (gd_t (⟨rfl, Nat.le_of_ble_eq_true rfl, rfl, Nat.le_of_ble_eq_true rfl⟩) _).trans ?_
  refine (gd_t (⟨rfl, (PTC KC 0 _ rfl rfl), (PNC KC 0 rfl)⟩) _).trans ?_
  rfl
theorem q_L_value_r7 {h : zH} {x1 : Int} {a2 : Nat} {ay0 : Nat} {y1 : Int} {y : Int} (KC : KC h) (ta2 : hT h a2 = 23) (na2 : a2 < hN h) (tay0 : hT h ay0 = 23) (nay0 : ay0 < hN h) : zBack zY 352 4 7 [some (zR (some 0)), some (zI x1), some (zR (some a2)), none] [zI y1, zR (some ay0)] (some (.inl (some (zI y)), h)) =
    gd (0 ≤ y1 ∧ y1 < (hL h ay0 : Int)) (
    some (.inl (some (zI 0)), (sJ h ay0 y1.toNat (zi2l y)))) := by
  refine (show zBack zY 352 4 7 [some (zR (some 0)), some (zI x1), some (zR (some a2)), none] [zI y1, zR (some ay0)] (some (.inl (some (zI y)), h)) = gd (zokw h (some ay0) 23 y1) (gd (inR (0)) (gd (([] : List zV).isEmpty = true ∧ (zrk 352 = 1 ∨ zrk 352 = 6 ∧ ((0 : Int) = 0 ∨ (0 : Int) = 1))) (some (.inl (some (zI 0)), (sJ h ay0 y1.toNat (zi2l y)))))) from zGo 5 352 7 _ _ _).trans ?_
  refine gd_c (ciw tay0 nay0 rfl) (fun c0 => ?_)
  refine (gd_t (by decide) _).trans ?_
  refine (gd_t (⟨rfl, Or.inl rfl⟩) _).trans ?_
  rfl
theorem q_L_value_x0 {h : zH} {x1 : Int} {a2 : Nat} {ay0 : Nat} {y1 : Int} (KC : KC h) (ta2 : hT h a2 = 23) (na2 : a2 < hN h) (tay0 : hT h ay0 = 23) (nay0 : ay0 < hN h) : zBack zY 352 4 7 [some (zR (some 0)), some (zI x1), some (zR (some a2)), none] [zI y1, zR (some ay0)] (some (.inr 0, h)) = some (.inl (some (zI 1)), h) := by
  refine (show zBack zY 352 4 7 [some (zR (some 0)), some (zI x1), some (zR (some a2)), none] [zI y1, zR (some ay0)] (some (.inr 0, h)) = zY 352 13 [some (zR (some 0)), some (zI x1), some (zR (some a2)), none] [] h from rfl).trans ?_
  refine (show zY 352 13 [some (zR (some 0)), some (zI x1), some (zR (some a2)), none] [] h = gd (inR (1)) (gd (([] : List zV).isEmpty = true ∧ (zrk 352 = 1 ∨ zrk 352 = 6 ∧ ((1 : Int) = 0 ∨ (1 : Int) = 1))) (some (.inl (some (zI 1)), h))) from zGo 2 352 13 _ _ _).trans ?_
  refine (gd_t (by decide) _).trans ?_
  exact gd_t (⟨rfl, Or.inl rfl⟩) _
theorem q_L_statement {h : zH} {x1 : Int} {x2 : Int} {a3 : Nat} (KC : KC h) (ta3 : hT h a3 = 23) (na3 : a3 < hN h) : zC 353 [zR (some 0), zI x1, zI x2, zR (some a3)] h =
    zBack zY 353 5 8 [some (zR (some 0)), some (zI x1), some (zI x2), some (zR (some a3)), none] [zI 0, zR (some a3)] (zC 164 [zR (some 0), zI x1, zI x2] h) := by
  refine (show zC 353 [zR (some 0), zI x1, zI x2, zR (some a3)] h = gd (inR (0)) (gd (false = zctor 164 ∧ zcs [zI 0, zR (some a3)] ≤ 8 ∧ zrm 353 (zrf 164 + 1) (8 + (zmaxl 164 + 11) + zrl 164) = true ∧ zcs [zR (some 0), zI x1, zI x2] ≤ zmaxl 164) (gd (zob h (some 0) 11) (zBack zY 353 5 8 [some (zR (some 0)), some (zI x1), some (zI x2), some (zR (some a3)), none] [zI 0, zR (some a3)] (zC 164 [zR (some 0), zI x1, zI x2] h)))) from zGo 6 353 0 _ _ _).trans ?_
  refine (gd_t (by decide) _).trans ?_
  refine (gd_t (⟨rfl, Nat.le_of_ble_eq_true rfl, rfl, Nat.le_of_ble_eq_true rfl⟩) _).trans ?_
  refine (gd_t (⟨rfl, (PTC KC 0 _ rfl rfl), (PNC KC 0 rfl)⟩) _).trans ?_
  rfl
theorem q_L_statement_r8 {h : zH} {x1 : Int} {x2 : Int} {a3 : Nat} {ay0 : Nat} {y1 : Int} {y : Int} (KC : KC h) (ta3 : hT h a3 = 23) (na3 : a3 < hN h) (tay0 : hT h ay0 = 23) (nay0 : ay0 < hN h) : zBack zY 353 5 8 [some (zR (some 0)), some (zI x1), some (zI x2), some (zR (some a3)), none] [zI y1, zR (some ay0)] (some (.inl (some (zI y)), h)) =
    gd (0 ≤ y1 ∧ y1 < (hL h ay0 : Int)) (
    some (.inl (some (zI 0)), (sJ h ay0 y1.toNat (zi2l y)))) := by
  refine (show zBack zY 353 5 8 [some (zR (some 0)), some (zI x1), some (zI x2), some (zR (some a3)), none] [zI y1, zR (some ay0)] (some (.inl (some (zI y)), h)) = gd (zokw h (some ay0) 23 y1) (gd (inR (0)) (gd (([] : List zV).isEmpty = true ∧ (zrk 353 = 1 ∨ zrk 353 = 6 ∧ ((0 : Int) = 0 ∨ (0 : Int) = 1))) (some (.inl (some (zI 0)), (sJ h ay0 y1.toNat (zi2l y)))))) from zGo 5 353 8 _ _ _).trans ?_
  refine gd_c (ciw tay0 nay0 rfl) (fun c0 => ?_)
  refine (gd_t (by decide) _).trans ?_
  refine (gd_t (⟨rfl, Or.inl rfl⟩) _).trans ?_
  rfl
theorem q_L_statement_x3 {h : zH} {x1 : Int} {x2 : Int} {a3 : Nat} {ay0 : Nat} {y1 : Int} (KC : KC h) (ta3 : hT h a3 = 23) (na3 : a3 < hN h) (tay0 : hT h ay0 = 23) (nay0 : ay0 < hN h) : zBack zY 353 5 8 [some (zR (some 0)), some (zI x1), some (zI x2), some (zR (some a3)), none] [zI y1, zR (some ay0)] (some (.inr 3, h)) = some (.inl (some (zI 1)), h) := by
  refine (show zBack zY 353 5 8 [some (zR (some 0)), some (zI x1), some (zI x2), some (zR (some a3)), none] [zI y1, zR (some ay0)] (some (.inr 3, h)) = zY 353 15 [some (zR (some 0)), some (zI x1), some (zI x2), some (zR (some a3)), none] [] h from rfl).trans ?_
  refine (show zY 353 15 [some (zR (some 0)), some (zI x1), some (zI x2), some (zR (some a3)), none] [] h = gd (inR (1)) (gd (([] : List zV).isEmpty = true ∧ (zrk 353 = 1 ∨ zrk 353 = 6 ∧ ((1 : Int) = 0 ∨ (1 : Int) = 1))) (some (.inl (some (zI 1)), h))) from zGo 2 353 15 _ _ _).trans ?_
  refine (gd_t (by decide) _).trans ?_
  exact gd_t (⟨rfl, Or.inl rfl⟩) _
theorem q_L_statement_x0 {h : zH} {x1 : Int} {x2 : Int} {a3 : Nat} {ay0 : Nat} {y1 : Int} (KC : KC h) (ta3 : hT h a3 = 23) (na3 : a3 < hN h) (tay0 : hT h ay0 = 23) (nay0 : ay0 < hN h) : zBack zY 353 5 8 [some (zR (some 0)), some (zI x1), some (zI x2), some (zR (some a3)), none] [zI y1, zR (some ay0)] (some (.inr 0, h)) = some (.inl (some (zI 2)), h) := by
  refine (show zBack zY 353 5 8 [some (zR (some 0)), some (zI x1), some (zI x2), some (zR (some a3)), none] [zI y1, zR (some ay0)] (some (.inr 0, h)) = zY 353 19 [some (zR (some 0)), some (zI x1), some (zI x2), some (zR (some a3)), none] [] h from rfl).trans ?_
  refine (show zY 353 19 [some (zR (some 0)), some (zI x1), some (zI x2), some (zR (some a3)), none] [] h = gd (inR (2)) (gd (([] : List zV).isEmpty = true ∧ (zrk 353 = 1 ∨ zrk 353 = 6 ∧ ((2 : Int) = 0 ∨ (2 : Int) = 1))) (some (.inl (some (zI 2)), h))) from zGo 2 353 19 _ _ _).trans ?_
  refine (gd_t (by decide) _).trans ?_
  exact gd_t (⟨rfl, Or.inl rfl⟩) _
theorem q_L_loopSet {h : zH} {x1 : Int} {x2 : Int} {a3 : Nat} (KC : KC h) (ta3 : hT h a3 = 23) (na3 : a3 < hN h) : zC 354 [zR (some 0), zI x1, zI x2, zR (some a3)] h =
    zBack zY 354 5 8 [some (zR (some 0)), some (zI x1), some (zI x2), some (zR (some a3)), none] [zI 0, zR (some a3)] (zC 167 [zR (some 0), zI x1, zI x2] h) := by
  refine (show zC 354 [zR (some 0), zI x1, zI x2, zR (some a3)] h = gd (inR (0)) (gd (false = zctor 167 ∧ zcs [zI 0, zR (some a3)] ≤ 8 ∧ zrm 354 (zrf 167 + 1) (8 + (zmaxl 167 + 11) + zrl 167) = true ∧ zcs [zR (some 0), zI x1, zI x2] ≤ zmaxl 167) (gd (zob h (some 0) 11) (zBack zY 354 5 8 [some (zR (some 0)), some (zI x1), some (zI x2), some (zR (some a3)), none] [zI 0, zR (some a3)] (zC 167 [zR (some 0), zI x1, zI x2] h)))) from zGo 6 354 0 _ _ _).trans ?_
  refine (gd_t (by decide) _).trans ?_
  refine (gd_t (⟨rfl, Nat.le_of_ble_eq_true rfl, rfl, Nat.le_of_ble_eq_true rfl⟩) _).trans ?_
  refine (gd_t (⟨rfl, (PTC KC 0 _ rfl rfl), (PNC KC 0 rfl)⟩) _).trans ?_
  rfl
theorem q_L_loopSet_r8 {h : zH} {x1 : Int} {x2 : Int} {a3 : Nat} {ay0 : Nat} {y1 : Int} {y : BitVec 64} (KC : KC h) (ta3 : hT h a3 = 23) (na3 : a3 < hN h) (tay0 : hT h ay0 = 23) (nay0 : ay0 < hN h) : zBack zY 354 5 8 [some (zR (some 0)), some (zI x1), some (zI x2), some (zR (some a3)), none] [zI y1, zR (some ay0)] (some (.inl (some (zJ y)), h)) =
    gd (0 ≤ y1 ∧ y1 < (hL h ay0 : Int)) (
    some (.inl (some (zI 0)), (sJ h ay0 y1.toNat y))) := by
  refine (show zBack zY 354 5 8 [some (zR (some 0)), some (zI x1), some (zI x2), some (zR (some a3)), none] [zI y1, zR (some ay0)] (some (.inl (some (zJ y)), h)) = gd (zokw h (some ay0) 23 y1) (gd (inR (0)) (gd (([] : List zV).isEmpty = true ∧ (zrk 354 = 1 ∨ zrk 354 = 6 ∧ ((0 : Int) = 0 ∨ (0 : Int) = 1))) (some (.inl (some (zI 0)), (sJ h ay0 y1.toNat y))))) from zGo 4 354 8 _ _ _).trans ?_
  refine gd_c (ciw tay0 nay0 rfl) (fun c0 => ?_)
  refine (gd_t (by decide) _).trans ?_
  refine (gd_t (⟨rfl, Or.inl rfl⟩) _).trans ?_
  rfl
theorem q_L_loopSet_x3 {h : zH} {x1 : Int} {x2 : Int} {a3 : Nat} {ay0 : Nat} {y1 : Int} (KC : KC h) (ta3 : hT h a3 = 23) (na3 : a3 < hN h) (tay0 : hT h ay0 = 23) (nay0 : ay0 < hN h) : zBack zY 354 5 8 [some (zR (some 0)), some (zI x1), some (zI x2), some (zR (some a3)), none] [zI y1, zR (some ay0)] (some (.inr 3, h)) = some (.inl (some (zI 1)), h) := by
  refine (show zBack zY 354 5 8 [some (zR (some 0)), some (zI x1), some (zI x2), some (zR (some a3)), none] [zI y1, zR (some ay0)] (some (.inr 3, h)) = zY 354 14 [some (zR (some 0)), some (zI x1), some (zI x2), some (zR (some a3)), none] [] h from rfl).trans ?_
  refine (show zY 354 14 [some (zR (some 0)), some (zI x1), some (zI x2), some (zR (some a3)), none] [] h = gd (inR (1)) (gd (([] : List zV).isEmpty = true ∧ (zrk 354 = 1 ∨ zrk 354 = 6 ∧ ((1 : Int) = 0 ∨ (1 : Int) = 1))) (some (.inl (some (zI 1)), h))) from zGo 2 354 14 _ _ _).trans ?_
  refine (gd_t (by decide) _).trans ?_
  exact gd_t (⟨rfl, Or.inl rfl⟩) _
theorem q_L_loopSet_x0 {h : zH} {x1 : Int} {x2 : Int} {a3 : Nat} {ay0 : Nat} {y1 : Int} (KC : KC h) (ta3 : hT h a3 = 23) (na3 : a3 < hN h) (tay0 : hT h ay0 = 23) (nay0 : ay0 < hN h) : zBack zY 354 5 8 [some (zR (some 0)), some (zI x1), some (zI x2), some (zR (some a3)), none] [zI y1, zR (some ay0)] (some (.inr 0, h)) = some (.inl (some (zI 2)), h) := by
  refine (show zBack zY 354 5 8 [some (zR (some 0)), some (zI x1), some (zI x2), some (zR (some a3)), none] [zI y1, zR (some ay0)] (some (.inr 0, h)) = zY 354 18 [some (zR (some 0)), some (zI x1), some (zI x2), some (zR (some a3)), none] [] h from rfl).trans ?_
  refine (show zY 354 18 [some (zR (some 0)), some (zI x1), some (zI x2), some (zR (some a3)), none] [] h = gd (inR (2)) (gd (([] : List zV).isEmpty = true ∧ (zrk 354 = 1 ∨ zrk 354 = 6 ∧ ((2 : Int) = 0 ∨ (2 : Int) = 1))) (some (.inl (some (zI 2)), h))) from zGo 2 354 18 _ _ _).trans ?_
  refine (gd_t (by decide) _).trans ?_
  exact gd_t (⟨rfl, Or.inl rfl⟩) _
theorem q_L_less {h : zH} {x1 : Int} {x2 : Int} {a3 : Nat} (KC : KC h) (ta3 : hT h a3 = 23) (na3 : a3 < hN h) : zC 355 [zR (some 0), zI x1, zI x2, zR (some a3)] h =
    zBack zY 355 5 8 [some (zR (some 0)), some (zI x1), some (zI x2), some (zR (some a3)), none] [zI 0, zR (some a3)] (zC 169 [zR (some 0), zI x1, zI x2] h) := by
  refine (show zC 355 [zR (some 0), zI x1, zI x2, zR (some a3)] h = gd (inR (0)) (gd (false = zctor 169 ∧ zcs [zI 0, zR (some a3)] ≤ 8 ∧ zrm 355 (zrf 169 + 1) (8 + (zmaxl 169 + 11) + zrl 169) = true ∧ zcs [zR (some 0), zI x1, zI x2] ≤ zmaxl 169) (gd (zob h (some 0) 11) (zBack zY 355 5 8 [some (zR (some 0)), some (zI x1), some (zI x2), some (zR (some a3)), none] [zI 0, zR (some a3)] (zC 169 [zR (some 0), zI x1, zI x2] h)))) from zGo 6 355 0 _ _ _).trans ?_
  refine (gd_t (by decide) _).trans ?_
  refine (gd_t (⟨rfl, Nat.le_of_ble_eq_true rfl, rfl, Nat.le_of_ble_eq_true rfl⟩) _).trans ?_
  refine (gd_t (⟨rfl, (PTC KC 0 _ rfl rfl), (PNC KC 0 rfl)⟩) _).trans ?_
  rfl
theorem q_L_less_r8 {h : zH} {x1 : Int} {x2 : Int} {a3 : Nat} {ay0 : Nat} {y1 : Int} {y : Int} (KC : KC h) (ta3 : hT h a3 = 23) (na3 : a3 < hN h) (tay0 : hT h ay0 = 23) (nay0 : ay0 < hN h) : zBack zY 355 5 8 [some (zR (some 0)), some (zI x1), some (zI x2), some (zR (some a3)), none] [zI y1, zR (some ay0)] (some (.inl (some (zI y)), h)) =
    gd (0 ≤ y1 ∧ y1 < (hL h ay0 : Int)) (
    some (.inl (some (zI 0)), (sJ h ay0 y1.toNat (zi2l y)))) := by
  refine (show zBack zY 355 5 8 [some (zR (some 0)), some (zI x1), some (zI x2), some (zR (some a3)), none] [zI y1, zR (some ay0)] (some (.inl (some (zI y)), h)) = gd (zokw h (some ay0) 23 y1) (gd (inR (0)) (gd (([] : List zV).isEmpty = true ∧ (zrk 355 = 1 ∨ zrk 355 = 6 ∧ ((0 : Int) = 0 ∨ (0 : Int) = 1))) (some (.inl (some (zI 0)), (sJ h ay0 y1.toNat (zi2l y)))))) from zGo 5 355 8 _ _ _).trans ?_
  refine gd_c (ciw tay0 nay0 rfl) (fun c0 => ?_)
  refine (gd_t (by decide) _).trans ?_
  refine (gd_t (⟨rfl, Or.inl rfl⟩) _).trans ?_
  rfl
theorem q_L_less_x3 {h : zH} {x1 : Int} {x2 : Int} {a3 : Nat} {ay0 : Nat} {y1 : Int} (KC : KC h) (ta3 : hT h a3 = 23) (na3 : a3 < hN h) (tay0 : hT h ay0 = 23) (nay0 : ay0 < hN h) : zBack zY 355 5 8 [some (zR (some 0)), some (zI x1), some (zI x2), some (zR (some a3)), none] [zI y1, zR (some ay0)] (some (.inr 3, h)) = some (.inl (some (zI 1)), h) := by
  refine (show zBack zY 355 5 8 [some (zR (some 0)), some (zI x1), some (zI x2), some (zR (some a3)), none] [zI y1, zR (some ay0)] (some (.inr 3, h)) = zY 355 15 [some (zR (some 0)), some (zI x1), some (zI x2), some (zR (some a3)), none] [] h from rfl).trans ?_
  refine (show zY 355 15 [some (zR (some 0)), some (zI x1), some (zI x2), some (zR (some a3)), none] [] h = gd (inR (1)) (gd (([] : List zV).isEmpty = true ∧ (zrk 355 = 1 ∨ zrk 355 = 6 ∧ ((1 : Int) = 0 ∨ (1 : Int) = 1))) (some (.inl (some (zI 1)), h))) from zGo 2 355 15 _ _ _).trans ?_
  refine (gd_t (by decide) _).trans ?_
  exact gd_t (⟨rfl, Or.inl rfl⟩) _
theorem q_L_less_x0 {h : zH} {x1 : Int} {x2 : Int} {a3 : Nat} {ay0 : Nat} {y1 : Int} (KC : KC h) (ta3 : hT h a3 = 23) (na3 : a3 < hN h) (tay0 : hT h ay0 = 23) (nay0 : ay0 < hN h) : zBack zY 355 5 8 [some (zR (some 0)), some (zI x1), some (zI x2), some (zR (some a3)), none] [zI y1, zR (some ay0)] (some (.inr 0, h)) = some (.inl (some (zI 2)), h) := by
  refine (show zBack zY 355 5 8 [some (zR (some 0)), some (zI x1), some (zI x2), some (zR (some a3)), none] [zI y1, zR (some ay0)] (some (.inr 0, h)) = zY 355 19 [some (zR (some 0)), some (zI x1), some (zI x2), some (zR (some a3)), none] [] h from rfl).trans ?_
  refine (show zY 355 19 [some (zR (some 0)), some (zI x1), some (zI x2), some (zR (some a3)), none] [] h = gd (inR (2)) (gd (([] : List zV).isEmpty = true ∧ (zrk 355 = 1 ∨ zrk 355 = 6 ∧ ((2 : Int) = 0 ∨ (2 : Int) = 1))) (some (.inl (some (zI 2)), h))) from zGo 2 355 19 _ _ _).trans ?_
  refine (gd_t (by decide) _).trans ?_
  exact gd_t (⟨rfl, Or.inl rfl⟩) _
theorem q_L_need {h : zH} {x1 : Int} {a2 : Nat} (KC : KC h) (ta2 : hT h a2 = 23) (na2 : a2 < hN h) : zC 356 [zR (some 0), zI x1, zR (some a2)] h =
    zBack zY 356 4 7 [some (zR (some 0)), some (zI x1), some (zR (some a2)), none] [zI 0, zR (some a2)] (zC 171 [zR (some 0), zI x1] h) := by
  refine (show zC 356 [zR (some 0), zI x1, zR (some a2)] h = gd (inR (0)) (gd (false = zctor 171 ∧ zcs [zI 0, zR (some a2)] ≤ 8 ∧ zrm 356 (zrf 171 + 1) (8 + (zmaxl 171 + 11) + zrl 171) = true ∧ zcs [zR (some 0), zI x1] ≤ zmaxl 171) (gd (zob h (some 0) 11) (zBack zY 356 4 7 [some (zR (some 0)), some (zI x1), some (zR (some a2)), none] [zI 0, zR (some a2)] (zC 171 [zR (some 0), zI x1] h)))) from zGo 5 356 0 _ _ _).trans ?_
  refine (gd_t (by decide) _).trans ?_
  refine (gd_t (⟨rfl, Nat.le_of_ble_eq_true rfl, rfl, Nat.le_of_ble_eq_true rfl⟩) _).trans ?_
  refine (gd_t (⟨rfl, (PTC KC 0 _ rfl rfl), (PNC KC 0 rfl)⟩) _).trans ?_
  rfl
theorem q_L_need_r7 {h : zH} {x1 : Int} {a2 : Nat} {ay0 : Nat} {y1 : Int} {y : BitVec 64} (KC : KC h) (ta2 : hT h a2 = 23) (na2 : a2 < hN h) (tay0 : hT h ay0 = 23) (nay0 : ay0 < hN h) : zBack zY 356 4 7 [some (zR (some 0)), some (zI x1), some (zR (some a2)), none] [zI y1, zR (some ay0)] (some (.inl (some (zJ y)), h)) =
    gd (0 ≤ y1 ∧ y1 < (hL h ay0 : Int)) (
    some (.inl (some (zI 0)), (sJ h ay0 y1.toNat y))) := by
  refine (show zBack zY 356 4 7 [some (zR (some 0)), some (zI x1), some (zR (some a2)), none] [zI y1, zR (some ay0)] (some (.inl (some (zJ y)), h)) = gd (zokw h (some ay0) 23 y1) (gd (inR (0)) (gd (([] : List zV).isEmpty = true ∧ (zrk 356 = 1 ∨ zrk 356 = 6 ∧ ((0 : Int) = 0 ∨ (0 : Int) = 1))) (some (.inl (some (zI 0)), (sJ h ay0 y1.toNat y))))) from zGo 4 356 7 _ _ _).trans ?_
  refine gd_c (ciw tay0 nay0 rfl) (fun c0 => ?_)
  refine (gd_t (by decide) _).trans ?_
  refine (gd_t (⟨rfl, Or.inl rfl⟩) _).trans ?_
  rfl
theorem q_L_need_x3 {h : zH} {x1 : Int} {a2 : Nat} {ay0 : Nat} {y1 : Int} (KC : KC h) (ta2 : hT h a2 = 23) (na2 : a2 < hN h) (tay0 : hT h ay0 = 23) (nay0 : ay0 < hN h) : zBack zY 356 4 7 [some (zR (some 0)), some (zI x1), some (zR (some a2)), none] [zI y1, zR (some ay0)] (some (.inr 3, h)) = some (.inl (some (zI 1)), h) := by
  refine (show zBack zY 356 4 7 [some (zR (some 0)), some (zI x1), some (zR (some a2)), none] [zI y1, zR (some ay0)] (some (.inr 3, h)) = zY 356 12 [some (zR (some 0)), some (zI x1), some (zR (some a2)), none] [] h from rfl).trans ?_
  refine (show zY 356 12 [some (zR (some 0)), some (zI x1), some (zR (some a2)), none] [] h = gd (inR (1)) (gd (([] : List zV).isEmpty = true ∧ (zrk 356 = 1 ∨ zrk 356 = 6 ∧ ((1 : Int) = 0 ∨ (1 : Int) = 1))) (some (.inl (some (zI 1)), h))) from zGo 2 356 12 _ _ _).trans ?_
  refine (gd_t (by decide) _).trans ?_
  exact gd_t (⟨rfl, Or.inl rfl⟩) _
theorem q_L_duty {h : zH} {x1 : Int} {x2 : Int} {a3 : Nat} (KC : KC h) (ta3 : hT h a3 = 23) (na3 : a3 < hN h) : zC 357 [zR (some 0), zI x1, zI x2, zR (some a3)] h =
    zBack zY 357 5 8 [some (zR (some 0)), some (zI x1), some (zI x2), some (zR (some a3)), none] [zI 0, zR (some a3)] (zC 172 [zR (some 0), zI x1, zI x2] h) := by
  refine (show zC 357 [zR (some 0), zI x1, zI x2, zR (some a3)] h = gd (inR (0)) (gd (false = zctor 172 ∧ zcs [zI 0, zR (some a3)] ≤ 8 ∧ zrm 357 (zrf 172 + 1) (8 + (zmaxl 172 + 11) + zrl 172) = true ∧ zcs [zR (some 0), zI x1, zI x2] ≤ zmaxl 172) (gd (zob h (some 0) 11) (zBack zY 357 5 8 [some (zR (some 0)), some (zI x1), some (zI x2), some (zR (some a3)), none] [zI 0, zR (some a3)] (zC 172 [zR (some 0), zI x1, zI x2] h)))) from zGo 6 357 0 _ _ _).trans ?_
  refine (gd_t (by decide) _).trans ?_
  refine (gd_t (⟨rfl, Nat.le_of_ble_eq_true rfl, rfl, Nat.le_of_ble_eq_true rfl⟩) _).trans ?_
  refine (gd_t (⟨rfl, (PTC KC 0 _ rfl rfl), (PNC KC 0 rfl)⟩) _).trans ?_
  rfl
theorem q_L_duty_r8 {h : zH} {x1 : Int} {x2 : Int} {a3 : Nat} {ay0 : Nat} {y1 : Int} {y : Int} (KC : KC h) (ta3 : hT h a3 = 23) (na3 : a3 < hN h) (tay0 : hT h ay0 = 23) (nay0 : ay0 < hN h) : zBack zY 357 5 8 [some (zR (some 0)), some (zI x1), some (zI x2), some (zR (some a3)), none] [zI y1, zR (some ay0)] (some (.inl (some (zI y)), h)) =
    gd (0 ≤ y1 ∧ y1 < (hL h ay0 : Int)) (
    some (.inl (some (zI 0)), (sJ h ay0 y1.toNat (zi2l y)))) := by
  refine (show zBack zY 357 5 8 [some (zR (some 0)), some (zI x1), some (zI x2), some (zR (some a3)), none] [zI y1, zR (some ay0)] (some (.inl (some (zI y)), h)) = gd (zokw h (some ay0) 23 y1) (gd (inR (0)) (gd (([] : List zV).isEmpty = true ∧ (zrk 357 = 1 ∨ zrk 357 = 6 ∧ ((0 : Int) = 0 ∨ (0 : Int) = 1))) (some (.inl (some (zI 0)), (sJ h ay0 y1.toNat (zi2l y)))))) from zGo 5 357 8 _ _ _).trans ?_
  refine gd_c (ciw tay0 nay0 rfl) (fun c0 => ?_)
  refine (gd_t (by decide) _).trans ?_
  refine (gd_t (⟨rfl, Or.inl rfl⟩) _).trans ?_
  rfl
theorem q_L_duty_x3 {h : zH} {x1 : Int} {x2 : Int} {a3 : Nat} {ay0 : Nat} {y1 : Int} (KC : KC h) (ta3 : hT h a3 = 23) (na3 : a3 < hN h) (tay0 : hT h ay0 = 23) (nay0 : ay0 < hN h) : zBack zY 357 5 8 [some (zR (some 0)), some (zI x1), some (zI x2), some (zR (some a3)), none] [zI y1, zR (some ay0)] (some (.inr 3, h)) = some (.inl (some (zI 1)), h) := by
  refine (show zBack zY 357 5 8 [some (zR (some 0)), some (zI x1), some (zI x2), some (zR (some a3)), none] [zI y1, zR (some ay0)] (some (.inr 3, h)) = zY 357 15 [some (zR (some 0)), some (zI x1), some (zI x2), some (zR (some a3)), none] [] h from rfl).trans ?_
  refine (show zY 357 15 [some (zR (some 0)), some (zI x1), some (zI x2), some (zR (some a3)), none] [] h = gd (inR (1)) (gd (([] : List zV).isEmpty = true ∧ (zrk 357 = 1 ∨ zrk 357 = 6 ∧ ((1 : Int) = 0 ∨ (1 : Int) = 1))) (some (.inl (some (zI 1)), h))) from zGo 2 357 15 _ _ _).trans ?_
  refine (gd_t (by decide) _).trans ?_
  exact gd_t (⟨rfl, Or.inl rfl⟩) _
theorem q_L_duty_x0 {h : zH} {x1 : Int} {x2 : Int} {a3 : Nat} {ay0 : Nat} {y1 : Int} (KC : KC h) (ta3 : hT h a3 = 23) (na3 : a3 < hN h) (tay0 : hT h ay0 = 23) (nay0 : ay0 < hN h) : zBack zY 357 5 8 [some (zR (some 0)), some (zI x1), some (zI x2), some (zR (some a3)), none] [zI y1, zR (some ay0)] (some (.inr 0, h)) = some (.inl (some (zI 2)), h) := by
  refine (show zBack zY 357 5 8 [some (zR (some 0)), some (zI x1), some (zI x2), some (zR (some a3)), none] [zI y1, zR (some ay0)] (some (.inr 0, h)) = zY 357 19 [some (zR (some 0)), some (zI x1), some (zI x2), some (zR (some a3)), none] [] h from rfl).trans ?_
  refine (show zY 357 19 [some (zR (some 0)), some (zI x1), some (zI x2), some (zR (some a3)), none] [] h = gd (inR (2)) (gd (([] : List zV).isEmpty = true ∧ (zrk 357 = 1 ∨ zrk 357 = 6 ∧ ((2 : Int) = 0 ∨ (2 : Int) = 1))) (some (.inl (some (zI 2)), h))) from zGo 2 357 19 _ _ _).trans ?_
  refine (gd_t (by decide) _).trans ?_
  exact gd_t (⟨rfl, Or.inl rfl⟩) _
theorem q_L_failing {h : zH} {x1 : Int} {a2 : Nat} (KC : KC h) (ta2 : hT h a2 = 23) (na2 : a2 < hN h) : zC 358 [zR (some 0), zI x1, zR (some a2)] h =
    zBack zY 358 4 7 [some (zR (some 0)), some (zI x1), some (zR (some a2)), none] [zI 0, zR (some a2)] (zC 174 [zR (some 0), zI x1] h) := by
  refine (show zC 358 [zR (some 0), zI x1, zR (some a2)] h = gd (inR (0)) (gd (false = zctor 174 ∧ zcs [zI 0, zR (some a2)] ≤ 8 ∧ zrm 358 (zrf 174 + 1) (8 + (zmaxl 174 + 11) + zrl 174) = true ∧ zcs [zR (some 0), zI x1] ≤ zmaxl 174) (gd (zob h (some 0) 11) (zBack zY 358 4 7 [some (zR (some 0)), some (zI x1), some (zR (some a2)), none] [zI 0, zR (some a2)] (zC 174 [zR (some 0), zI x1] h)))) from zGo 5 358 0 _ _ _).trans ?_
  refine (gd_t (by decide) _).trans ?_
  refine (gd_t (⟨rfl, Nat.le_of_ble_eq_true rfl, rfl, Nat.le_of_ble_eq_true rfl⟩) _).trans ?_
  refine (gd_t (⟨rfl, (PTC KC 0 _ rfl rfl), (PNC KC 0 rfl)⟩) _).trans ?_
  rfl
theorem q_L_failing_r7 {h : zH} {x1 : Int} {a2 : Nat} {ay0 : Nat} {y1 : Int} {y : BitVec 64} (KC : KC h) (ta2 : hT h a2 = 23) (na2 : a2 < hN h) (tay0 : hT h ay0 = 23) (nay0 : ay0 < hN h) : zBack zY 358 4 7 [some (zR (some 0)), some (zI x1), some (zR (some a2)), none] [zI y1, zR (some ay0)] (some (.inl (some (zJ y)), h)) =
    gd (0 ≤ y1 ∧ y1 < (hL h ay0 : Int)) (
    some (.inl (some (zI 0)), (sJ h ay0 y1.toNat y))) := by
  refine (show zBack zY 358 4 7 [some (zR (some 0)), some (zI x1), some (zR (some a2)), none] [zI y1, zR (some ay0)] (some (.inl (some (zJ y)), h)) = gd (zokw h (some ay0) 23 y1) (gd (inR (0)) (gd (([] : List zV).isEmpty = true ∧ (zrk 358 = 1 ∨ zrk 358 = 6 ∧ ((0 : Int) = 0 ∨ (0 : Int) = 1))) (some (.inl (some (zI 0)), (sJ h ay0 y1.toNat y))))) from zGo 4 358 7 _ _ _).trans ?_
  refine gd_c (ciw tay0 nay0 rfl) (fun c0 => ?_)
  refine (gd_t (by decide) _).trans ?_
  refine (gd_t (⟨rfl, Or.inl rfl⟩) _).trans ?_
  rfl
theorem q_L_failing_x3 {h : zH} {x1 : Int} {a2 : Nat} {ay0 : Nat} {y1 : Int} (KC : KC h) (ta2 : hT h a2 = 23) (na2 : a2 < hN h) (tay0 : hT h ay0 = 23) (nay0 : ay0 < hN h) : zBack zY 358 4 7 [some (zR (some 0)), some (zI x1), some (zR (some a2)), none] [zI y1, zR (some ay0)] (some (.inr 3, h)) = some (.inl (some (zI 1)), h) := by
  refine (show zBack zY 358 4 7 [some (zR (some 0)), some (zI x1), some (zR (some a2)), none] [zI y1, zR (some ay0)] (some (.inr 3, h)) = zY 358 12 [some (zR (some 0)), some (zI x1), some (zR (some a2)), none] [] h from rfl).trans ?_
  refine (show zY 358 12 [some (zR (some 0)), some (zI x1), some (zR (some a2)), none] [] h = gd (inR (1)) (gd (([] : List zV).isEmpty = true ∧ (zrk 358 = 1 ∨ zrk 358 = 6 ∧ ((1 : Int) = 0 ∨ (1 : Int) = 1))) (some (.inl (some (zI 1)), h))) from zGo 2 358 12 _ _ _).trans ?_
  refine (gd_t (by decide) _).trans ?_
  exact gd_t (⟨rfl, Or.inl rfl⟩) _
theorem q_L_run {h : zH} {x1 : Int} {a2 : Nat} (KC : KC h) (ta2 : hT h a2 = 23) (na2 : a2 < hN h) : zC 359 [zR (some 0), zI x1, zR (some a2)] h =
    zBack zY 359 4 7 [some (zR (some 0)), some (zI x1), some (zR (some a2)), none] [zI 0, zR (some a2)] (zC 175 [zR (some 0), zI x1] h) := by
  refine (show zC 359 [zR (some 0), zI x1, zR (some a2)] h = gd (inR (0)) (gd (false = zctor 175 ∧ zcs [zI 0, zR (some a2)] ≤ 8 ∧ zrm 359 (zrf 175 + 1) (8 + (zmaxl 175 + 11) + zrl 175) = true ∧ zcs [zR (some 0), zI x1] ≤ zmaxl 175) (gd (zob h (some 0) 11) (zBack zY 359 4 7 [some (zR (some 0)), some (zI x1), some (zR (some a2)), none] [zI 0, zR (some a2)] (zC 175 [zR (some 0), zI x1] h)))) from zGo 5 359 0 _ _ _).trans ?_
  refine (gd_t (by decide) _).trans ?_
  refine (gd_t (⟨rfl, Nat.le_of_ble_eq_true rfl, rfl, Nat.le_of_ble_eq_true rfl⟩) _).trans ?_
  refine (gd_t (⟨rfl, (PTC KC 0 _ rfl rfl), (PNC KC 0 rfl)⟩) _).trans ?_
  rfl
theorem q_L_run_r7 {h : zH} {x1 : Int} {a2 : Nat} {ay0 : Nat} {y1 : Int} {y : Int} (KC : KC h) (ta2 : hT h a2 = 23) (na2 : a2 < hN h) (tay0 : hT h ay0 = 23) (nay0 : ay0 < hN h) : zBack zY 359 4 7 [some (zR (some 0)), some (zI x1), some (zR (some a2)), none] [zI y1, zR (some ay0)] (some (.inl (some (zI y)), h)) =
    gd (0 ≤ y1 ∧ y1 < (hL h ay0 : Int)) (
    some (.inl (some (zI 0)), (sJ h ay0 y1.toNat (zi2l y)))) := by
  refine (show zBack zY 359 4 7 [some (zR (some 0)), some (zI x1), some (zR (some a2)), none] [zI y1, zR (some ay0)] (some (.inl (some (zI y)), h)) = gd (zokw h (some ay0) 23 y1) (gd (inR (0)) (gd (([] : List zV).isEmpty = true ∧ (zrk 359 = 1 ∨ zrk 359 = 6 ∧ ((0 : Int) = 0 ∨ (0 : Int) = 1))) (some (.inl (some (zI 0)), (sJ h ay0 y1.toNat (zi2l y)))))) from zGo 5 359 7 _ _ _).trans ?_
  refine gd_c (ciw tay0 nay0 rfl) (fun c0 => ?_)
  refine (gd_t (by decide) _).trans ?_
  refine (gd_t (⟨rfl, Or.inl rfl⟩) _).trans ?_
  rfl
theorem q_L_run_x0 {h : zH} {x1 : Int} {a2 : Nat} {ay0 : Nat} {y1 : Int} (KC : KC h) (ta2 : hT h a2 = 23) (na2 : a2 < hN h) (tay0 : hT h ay0 = 23) (nay0 : ay0 < hN h) : zBack zY 359 4 7 [some (zR (some 0)), some (zI x1), some (zR (some a2)), none] [zI y1, zR (some ay0)] (some (.inr 0, h)) = some (.inl (some (zI 1)), h) := by
  refine (show zBack zY 359 4 7 [some (zR (some 0)), some (zI x1), some (zR (some a2)), none] [zI y1, zR (some ay0)] (some (.inr 0, h)) = zY 359 13 [some (zR (some 0)), some (zI x1), some (zR (some a2)), none] [] h from rfl).trans ?_
  refine (show zY 359 13 [some (zR (some 0)), some (zI x1), some (zR (some a2)), none] [] h = gd (inR (1)) (gd (([] : List zV).isEmpty = true ∧ (zrk 359 = 1 ∨ zrk 359 = 6 ∧ ((1 : Int) = 0 ∨ (1 : Int) = 1))) (some (.inl (some (zI 1)), h))) from zGo 2 359 13 _ _ _).trans ?_
  refine (gd_t (by decide) _).trans ?_
  exact gd_t (⟨rfl, Or.inl rfl⟩) _
theorem q_L_steps {h : zH} {x1 : Int} {a2 : Nat} (KC : KC h) (ta2 : hT h a2 = 23) (na2 : a2 < hN h) : zC 360 [zR (some 0), zI x1, zR (some a2)] h =
    zBack zY 360 4 7 [some (zR (some 0)), some (zI x1), some (zR (some a2)), none] [zI 0, zR (some a2)] (zC 176 [zR (some 0), zI x1] h) := by
  refine (show zC 360 [zR (some 0), zI x1, zR (some a2)] h = gd (inR (0)) (gd (false = zctor 176 ∧ zcs [zI 0, zR (some a2)] ≤ 8 ∧ zrm 360 (zrf 176 + 1) (8 + (zmaxl 176 + 11) + zrl 176) = true ∧ zcs [zR (some 0), zI x1] ≤ zmaxl 176) (gd (zob h (some 0) 11) (zBack zY 360 4 7 [some (zR (some 0)), some (zI x1), some (zR (some a2)), none] [zI 0, zR (some a2)] (zC 176 [zR (some 0), zI x1] h)))) from zGo 5 360 0 _ _ _).trans ?_
  refine (gd_t (by decide) _).trans ?_
  refine (gd_t (⟨rfl, Nat.le_of_ble_eq_true rfl, rfl, Nat.le_of_ble_eq_true rfl⟩) _).trans ?_
  refine (gd_t (⟨rfl, (PTC KC 0 _ rfl rfl), (PNC KC 0 rfl)⟩) _).trans ?_
  rfl
theorem q_L_steps_r7 {h : zH} {x1 : Int} {a2 : Nat} {ay0 : Nat} {y1 : Int} {y : Int} (KC : KC h) (ta2 : hT h a2 = 23) (na2 : a2 < hN h) (tay0 : hT h ay0 = 23) (nay0 : ay0 < hN h) : zBack zY 360 4 7 [some (zR (some 0)), some (zI x1), some (zR (some a2)), none] [zI y1, zR (some ay0)] (some (.inl (some (zI y)), h)) =
    gd (0 ≤ y1 ∧ y1 < (hL h ay0 : Int)) (
    some (.inl (some (zI 0)), (sJ h ay0 y1.toNat (zi2l y)))) := by
  refine (show zBack zY 360 4 7 [some (zR (some 0)), some (zI x1), some (zR (some a2)), none] [zI y1, zR (some ay0)] (some (.inl (some (zI y)), h)) = gd (zokw h (some ay0) 23 y1) (gd (inR (0)) (gd (([] : List zV).isEmpty = true ∧ (zrk 360 = 1 ∨ zrk 360 = 6 ∧ ((0 : Int) = 0 ∨ (0 : Int) = 1))) (some (.inl (some (zI 0)), (sJ h ay0 y1.toNat (zi2l y)))))) from zGo 5 360 7 _ _ _).trans ?_
  refine gd_c (ciw tay0 nay0 rfl) (fun c0 => ?_)
  refine (gd_t (by decide) _).trans ?_
  refine (gd_t (⟨rfl, Or.inl rfl⟩) _).trans ?_
  rfl
theorem q_L_steps_x0 {h : zH} {x1 : Int} {a2 : Nat} {ay0 : Nat} {y1 : Int} (KC : KC h) (ta2 : hT h a2 = 23) (na2 : a2 < hN h) (tay0 : hT h ay0 = 23) (nay0 : ay0 < hN h) : zBack zY 360 4 7 [some (zR (some 0)), some (zI x1), some (zR (some a2)), none] [zI y1, zR (some ay0)] (some (.inr 0, h)) = some (.inl (some (zI 1)), h) := by
  refine (show zBack zY 360 4 7 [some (zR (some 0)), some (zI x1), some (zR (some a2)), none] [zI y1, zR (some ay0)] (some (.inr 0, h)) = zY 360 13 [some (zR (some 0)), some (zI x1), some (zR (some a2)), none] [] h from rfl).trans ?_
  refine (show zY 360 13 [some (zR (some 0)), some (zI x1), some (zR (some a2)), none] [] h = gd (inR (1)) (gd (([] : List zV).isEmpty = true ∧ (zrk 360 = 1 ∨ zrk 360 = 6 ∧ ((1 : Int) = 0 ∨ (1 : Int) = 1))) (some (.inl (some (zI 1)), h))) from zGo 2 360 13 _ _ _).trans ?_
  refine (gd_t (by decide) _).trans ?_
  exact gd_t (⟨rfl, Or.inl rfl⟩) _
theorem q_L_cost {h : zH} {x1 : Int} {a2 : Nat} (KC : KC h) (ta2 : hT h a2 = 24) (na2 : a2 < hN h) : zC 361 [zR (some 0), zI x1, zR (some a2)] h =
    zBack zY 361 4 7 [some (zR (some 0)), some (zI x1), some (zR (some a2)), none] [zI 0, zR (some a2)] (zC 177 [zR (some 0), zI x1] h) := by
  refine (show zC 361 [zR (some 0), zI x1, zR (some a2)] h = gd (inR (0)) (gd (false = zctor 177 ∧ zcs [zI 0, zR (some a2)] ≤ 8 ∧ zrm 361 (zrf 177 + 1) (8 + (zmaxl 177 + 11) + zrl 177) = true ∧ zcs [zR (some 0), zI x1] ≤ zmaxl 177) (gd (zob h (some 0) 11) (zBack zY 361 4 7 [some (zR (some 0)), some (zI x1), some (zR (some a2)), none] [zI 0, zR (some a2)] (zC 177 [zR (some 0), zI x1] h)))) from zGo 5 361 0 _ _ _).trans ?_
  refine (gd_t (by decide) _).trans ?_
  refine (gd_t (⟨rfl, Nat.le_of_ble_eq_true rfl, rfl, Nat.le_of_ble_eq_true rfl⟩) _).trans ?_
  refine (gd_t (⟨rfl, (PTC KC 0 _ rfl rfl), (PNC KC 0 rfl)⟩) _).trans ?_
  rfl
theorem q_L_cost_r7 {h : zH} {x1 : Int} {a2 : Nat} {ay0 : Nat} {y1 : Int} {y : UInt32} (KC : KC h) (ta2 : hT h a2 = 24) (na2 : a2 < hN h) (tay0 : hT h ay0 = 24) (nay0 : ay0 < hN h) : zBack zY 361 4 7 [some (zR (some 0)), some (zI x1), some (zR (some a2)), none] [zI y1, zR (some ay0)] (some (.inl (some (zF y)), h)) =
    gd (zn64 (FP.f2d y) = true) (
    gd (0 ≤ y1 ∧ y1 < (hL h ay0 : Int)) (
    some (.inl (some (zI 0)), (sD h ay0 y1.toNat (FP.f2d y))))) := by
  refine (show zBack zY 361 4 7 [some (zR (some 0)), some (zI x1), some (zR (some a2)), none] [zI y1, zR (some ay0)] (some (.inl (some (zF y)), h)) = gd (zn64 (FP.f2d y) = true) (gd (zokw h (some ay0) 24 y1) (gd (inR (0)) (gd (([] : List zV).isEmpty = true ∧ (zrk 361 = 1 ∨ zrk 361 = 6 ∧ ((0 : Int) = 0 ∨ (0 : Int) = 1))) (some (.inl (some (zI 0)), (sD h ay0 y1.toNat (FP.f2d y))))))) from zGo 5 361 7 _ _ _).trans ?_
  refine gd_c Iff.rfl (fun c0 => ?_)
  refine gd_c (ciw tay0 nay0 rfl) (fun c1 => ?_)
  refine (gd_t (by decide) _).trans ?_
  refine (gd_t (⟨rfl, Or.inl rfl⟩) _).trans ?_
  rfl
theorem q_L_cost_x0 {h : zH} {x1 : Int} {a2 : Nat} {ay0 : Nat} {y1 : Int} (KC : KC h) (ta2 : hT h a2 = 24) (na2 : a2 < hN h) (tay0 : hT h ay0 = 24) (nay0 : ay0 < hN h) : zBack zY 361 4 7 [some (zR (some 0)), some (zI x1), some (zR (some a2)), none] [zI y1, zR (some ay0)] (some (.inr 0, h)) = some (.inl (some (zI 1)), h) := by
  refine (show zBack zY 361 4 7 [some (zR (some 0)), some (zI x1), some (zR (some a2)), none] [zI y1, zR (some ay0)] (some (.inr 0, h)) = zY 361 13 [some (zR (some 0)), some (zI x1), some (zR (some a2)), none] [] h from rfl).trans ?_
  refine (show zY 361 13 [some (zR (some 0)), some (zI x1), some (zR (some a2)), none] [] h = gd (inR (1)) (gd (([] : List zV).isEmpty = true ∧ (zrk 361 = 1 ∨ zrk 361 = 6 ∧ ((1 : Int) = 0 ∨ (1 : Int) = 1))) (some (.inl (some (zI 1)), h))) from zGo 2 361 13 _ _ _).trans ?_
  refine (gd_t (by decide) _).trans ?_
  exact gd_t (⟨rfl, Or.inl rfl⟩) _
theorem q_L_costBits {h : zH} {x1 : Int} {a2 : Nat} (KC : KC h) (ta2 : hT h a2 = 23) (na2 : a2 < hN h) : zC 362 [zR (some 0), zI x1, zR (some a2)] h =
    zBack zY 362 4 7 [some (zR (some 0)), some (zI x1), some (zR (some a2)), none] [zI 0, zR (some a2)] (zC 178 [zR (some 0), zI x1] h) := by
  refine (show zC 362 [zR (some 0), zI x1, zR (some a2)] h = gd (inR (0)) (gd (false = zctor 178 ∧ zcs [zI 0, zR (some a2)] ≤ 8 ∧ zrm 362 (zrf 178 + 1) (8 + (zmaxl 178 + 11) + zrl 178) = true ∧ zcs [zR (some 0), zI x1] ≤ zmaxl 178) (gd (zob h (some 0) 11) (zBack zY 362 4 7 [some (zR (some 0)), some (zI x1), some (zR (some a2)), none] [zI 0, zR (some a2)] (zC 178 [zR (some 0), zI x1] h)))) from zGo 5 362 0 _ _ _).trans ?_
  refine (gd_t (by decide) _).trans ?_
  refine (gd_t (⟨rfl, Nat.le_of_ble_eq_true rfl, rfl, Nat.le_of_ble_eq_true rfl⟩) _).trans ?_
  refine (gd_t (⟨rfl, (PTC KC 0 _ rfl rfl), (PNC KC 0 rfl)⟩) _).trans ?_
  rfl
theorem q_L_costBits_r7 {h : zH} {x1 : Int} {a2 : Nat} {ay0 : Nat} {y1 : Int} {y : Int} (KC : KC h) (ta2 : hT h a2 = 23) (na2 : a2 < hN h) (tay0 : hT h ay0 = 23) (nay0 : ay0 < hN h) : zBack zY 362 4 7 [some (zR (some 0)), some (zI x1), some (zR (some a2)), none] [zI y1, zR (some ay0)] (some (.inl (some (zI y)), h)) =
    gd (0 ≤ y1 ∧ y1 < (hL h ay0 : Int)) (
    some (.inl (some (zI 0)), (sJ h ay0 y1.toNat (zi2l y)))) := by
  refine (show zBack zY 362 4 7 [some (zR (some 0)), some (zI x1), some (zR (some a2)), none] [zI y1, zR (some ay0)] (some (.inl (some (zI y)), h)) = gd (zokw h (some ay0) 23 y1) (gd (inR (0)) (gd (([] : List zV).isEmpty = true ∧ (zrk 362 = 1 ∨ zrk 362 = 6 ∧ ((0 : Int) = 0 ∨ (0 : Int) = 1))) (some (.inl (some (zI 0)), (sJ h ay0 y1.toNat (zi2l y)))))) from zGo 5 362 7 _ _ _).trans ?_
  refine gd_c (ciw tay0 nay0 rfl) (fun c0 => ?_)
  refine (gd_t (by decide) _).trans ?_
  refine (gd_t (⟨rfl, Or.inl rfl⟩) _).trans ?_
  rfl
theorem q_L_costBits_x0 {h : zH} {x1 : Int} {a2 : Nat} {ay0 : Nat} {y1 : Int} (KC : KC h) (ta2 : hT h a2 = 23) (na2 : a2 < hN h) (tay0 : hT h ay0 = 23) (nay0 : ay0 < hN h) : zBack zY 362 4 7 [some (zR (some 0)), some (zI x1), some (zR (some a2)), none] [zI y1, zR (some ay0)] (some (.inr 0, h)) = some (.inl (some (zI 1)), h) := by
  refine (show zBack zY 362 4 7 [some (zR (some 0)), some (zI x1), some (zR (some a2)), none] [zI y1, zR (some ay0)] (some (.inr 0, h)) = zY 362 13 [some (zR (some 0)), some (zI x1), some (zR (some a2)), none] [] h from rfl).trans ?_
  refine (show zY 362 13 [some (zR (some 0)), some (zI x1), some (zR (some a2)), none] [] h = gd (inR (1)) (gd (([] : List zV).isEmpty = true ∧ (zrk 362 = 1 ∨ zrk 362 = 6 ∧ ((1 : Int) = 0 ∨ (1 : Int) = 1))) (some (.inl (some (zI 1)), h))) from zGo 2 362 13 _ _ _).trans ?_
  refine (gd_t (by decide) _).trans ?_
  exact gd_t (⟨rfl, Or.inl rfl⟩) _
theorem q_L_met {h : zH} {x1 : Int} {a2 : Nat} (KC : KC h) (ta2 : hT h a2 = 23) (na2 : a2 < hN h) : zC 363 [zR (some 0), zI x1, zR (some a2)] h =
    zBack zY 363 4 7 [some (zR (some 0)), some (zI x1), some (zR (some a2)), none] [zI 0, zR (some a2)] (zC 179 [zR (some 0), zI x1] h) := by
  refine (show zC 363 [zR (some 0), zI x1, zR (some a2)] h = gd (inR (0)) (gd (false = zctor 179 ∧ zcs [zI 0, zR (some a2)] ≤ 8 ∧ zrm 363 (zrf 179 + 1) (8 + (zmaxl 179 + 11) + zrl 179) = true ∧ zcs [zR (some 0), zI x1] ≤ zmaxl 179) (gd (zob h (some 0) 11) (zBack zY 363 4 7 [some (zR (some 0)), some (zI x1), some (zR (some a2)), none] [zI 0, zR (some a2)] (zC 179 [zR (some 0), zI x1] h)))) from zGo 5 363 0 _ _ _).trans ?_
  refine (gd_t (by decide) _).trans ?_
  refine (gd_t (⟨rfl, Nat.le_of_ble_eq_true rfl, rfl, Nat.le_of_ble_eq_true rfl⟩) _).trans ?_
  refine (gd_t (⟨rfl, (PTC KC 0 _ rfl rfl), (PNC KC 0 rfl)⟩) _).trans ?_
  rfl
theorem q_L_met_r7 {h : zH} {x1 : Int} {a2 : Nat} {ay0 : Nat} {y1 : Int} {y : BitVec 64} (KC : KC h) (ta2 : hT h a2 = 23) (na2 : a2 < hN h) (tay0 : hT h ay0 = 23) (nay0 : ay0 < hN h) : zBack zY 363 4 7 [some (zR (some 0)), some (zI x1), some (zR (some a2)), none] [zI y1, zR (some ay0)] (some (.inl (some (zJ y)), h)) =
    gd (0 ≤ y1 ∧ y1 < (hL h ay0 : Int)) (
    some (.inl (some (zI 0)), (sJ h ay0 y1.toNat y))) := by
  refine (show zBack zY 363 4 7 [some (zR (some 0)), some (zI x1), some (zR (some a2)), none] [zI y1, zR (some ay0)] (some (.inl (some (zJ y)), h)) = gd (zokw h (some ay0) 23 y1) (gd (inR (0)) (gd (([] : List zV).isEmpty = true ∧ (zrk 363 = 1 ∨ zrk 363 = 6 ∧ ((0 : Int) = 0 ∨ (0 : Int) = 1))) (some (.inl (some (zI 0)), (sJ h ay0 y1.toNat y))))) from zGo 4 363 7 _ _ _).trans ?_
  refine gd_c (ciw tay0 nay0 rfl) (fun c0 => ?_)
  refine (gd_t (by decide) _).trans ?_
  refine (gd_t (⟨rfl, Or.inl rfl⟩) _).trans ?_
  rfl
theorem q_L_met_x3 {h : zH} {x1 : Int} {a2 : Nat} {ay0 : Nat} {y1 : Int} (KC : KC h) (ta2 : hT h a2 = 23) (na2 : a2 < hN h) (tay0 : hT h ay0 = 23) (nay0 : ay0 < hN h) : zBack zY 363 4 7 [some (zR (some 0)), some (zI x1), some (zR (some a2)), none] [zI y1, zR (some ay0)] (some (.inr 3, h)) = some (.inl (some (zI 1)), h) := by
  refine (show zBack zY 363 4 7 [some (zR (some 0)), some (zI x1), some (zR (some a2)), none] [zI y1, zR (some ay0)] (some (.inr 3, h)) = zY 363 12 [some (zR (some 0)), some (zI x1), some (zR (some a2)), none] [] h from rfl).trans ?_
  refine (show zY 363 12 [some (zR (some 0)), some (zI x1), some (zR (some a2)), none] [] h = gd (inR (1)) (gd (([] : List zV).isEmpty = true ∧ (zrk 363 = 1 ∨ zrk 363 = 6 ∧ ((1 : Int) = 0 ∨ (1 : Int) = 1))) (some (.inl (some (zI 1)), h))) from zGo 2 363 12 _ _ _).trans ?_
  refine (gd_t (by decide) _).trans ?_
  exact gd_t (⟨rfl, Or.inl rfl⟩) _
theorem q_L_rounds {h : zH} {x1 : Int} {a2 : Nat} (KC : KC h) (ta2 : hT h a2 = 23) (na2 : a2 < hN h) : zC 364 [zR (some 0), zI x1, zR (some a2)] h =
    zBack zY 364 4 7 [some (zR (some 0)), some (zI x1), some (zR (some a2)), none] [zI 0, zR (some a2)] (zC 180 [zR (some 0), zI x1] h) := by
  refine (show zC 364 [zR (some 0), zI x1, zR (some a2)] h = gd (inR (0)) (gd (false = zctor 180 ∧ zcs [zI 0, zR (some a2)] ≤ 8 ∧ zrm 364 (zrf 180 + 1) (8 + (zmaxl 180 + 11) + zrl 180) = true ∧ zcs [zR (some 0), zI x1] ≤ zmaxl 180) (gd (zob h (some 0) 11) (zBack zY 364 4 7 [some (zR (some 0)), some (zI x1), some (zR (some a2)), none] [zI 0, zR (some a2)] (zC 180 [zR (some 0), zI x1] h)))) from zGo 5 364 0 _ _ _).trans ?_
  refine (gd_t (by decide) _).trans ?_
  refine (gd_t (⟨rfl, Nat.le_of_ble_eq_true rfl, rfl, Nat.le_of_ble_eq_true rfl⟩) _).trans ?_
  refine (gd_t (⟨rfl, (PTC KC 0 _ rfl rfl), (PNC KC 0 rfl)⟩) _).trans ?_
  rfl
theorem q_L_rounds_r7 {h : zH} {x1 : Int} {a2 : Nat} {ay0 : Nat} {y1 : Int} {y : Int} (KC : KC h) (ta2 : hT h a2 = 23) (na2 : a2 < hN h) (tay0 : hT h ay0 = 23) (nay0 : ay0 < hN h) : zBack zY 364 4 7 [some (zR (some 0)), some (zI x1), some (zR (some a2)), none] [zI y1, zR (some ay0)] (some (.inl (some (zI y)), h)) =
    gd (0 ≤ y1 ∧ y1 < (hL h ay0 : Int)) (
    some (.inl (some (zI 0)), (sJ h ay0 y1.toNat (zi2l y)))) := by
  refine (show zBack zY 364 4 7 [some (zR (some 0)), some (zI x1), some (zR (some a2)), none] [zI y1, zR (some ay0)] (some (.inl (some (zI y)), h)) = gd (zokw h (some ay0) 23 y1) (gd (inR (0)) (gd (([] : List zV).isEmpty = true ∧ (zrk 364 = 1 ∨ zrk 364 = 6 ∧ ((0 : Int) = 0 ∨ (0 : Int) = 1))) (some (.inl (some (zI 0)), (sJ h ay0 y1.toNat (zi2l y)))))) from zGo 5 364 7 _ _ _).trans ?_
  refine gd_c (ciw tay0 nay0 rfl) (fun c0 => ?_)
  refine (gd_t (by decide) _).trans ?_
  refine (gd_t (⟨rfl, Or.inl rfl⟩) _).trans ?_
  rfl
theorem q_L_rounds_x3 {h : zH} {x1 : Int} {a2 : Nat} {ay0 : Nat} {y1 : Int} (KC : KC h) (ta2 : hT h a2 = 23) (na2 : a2 < hN h) (tay0 : hT h ay0 = 23) (nay0 : ay0 < hN h) : zBack zY 364 4 7 [some (zR (some 0)), some (zI x1), some (zR (some a2)), none] [zI y1, zR (some ay0)] (some (.inr 3, h)) = some (.inl (some (zI 1)), h) := by
  refine (show zBack zY 364 4 7 [some (zR (some 0)), some (zI x1), some (zR (some a2)), none] [zI y1, zR (some ay0)] (some (.inr 3, h)) = zY 364 13 [some (zR (some 0)), some (zI x1), some (zR (some a2)), none] [] h from rfl).trans ?_
  refine (show zY 364 13 [some (zR (some 0)), some (zI x1), some (zR (some a2)), none] [] h = gd (inR (1)) (gd (([] : List zV).isEmpty = true ∧ (zrk 364 = 1 ∨ zrk 364 = 6 ∧ ((1 : Int) = 0 ∨ (1 : Int) = 1))) (some (.inl (some (zI 1)), h))) from zGo 2 364 13 _ _ _).trans ?_
  refine (gd_t (by decide) _).trans ?_
  exact gd_t (⟨rfl, Or.inl rfl⟩) _
theorem q_L_proves {h : zH} {x1 : Int} {a2 : Nat} (KC : KC h) (ta2 : hT h a2 = 23) (na2 : a2 < hN h) : zC 365 [zR (some 0), zI x1, zR (some a2)] h =
    zBack zY 365 4 7 [some (zR (some 0)), some (zI x1), some (zR (some a2)), none] [zI 0, zR (some a2)] (zC 181 [zR (some 0), zI x1] h) := by
  refine (show zC 365 [zR (some 0), zI x1, zR (some a2)] h = gd (inR (0)) (gd (false = zctor 181 ∧ zcs [zI 0, zR (some a2)] ≤ 8 ∧ zrm 365 (zrf 181 + 1) (8 + (zmaxl 181 + 11) + zrl 181) = true ∧ zcs [zR (some 0), zI x1] ≤ zmaxl 181) (gd (zob h (some 0) 11) (zBack zY 365 4 7 [some (zR (some 0)), some (zI x1), some (zR (some a2)), none] [zI 0, zR (some a2)] (zC 181 [zR (some 0), zI x1] h)))) from zGo 5 365 0 _ _ _).trans ?_
  refine (gd_t (by decide) _).trans ?_
  refine (gd_t (⟨rfl, Nat.le_of_ble_eq_true rfl, rfl, Nat.le_of_ble_eq_true rfl⟩) _).trans ?_
  refine (gd_t (⟨rfl, (PTC KC 0 _ rfl rfl), (PNC KC 0 rfl)⟩) _).trans ?_
  rfl
theorem q_L_proves_r7 {h : zH} {x1 : Int} {a2 : Nat} {ay0 : Nat} {y1 : Int} {y : Int} (KC : KC h) (ta2 : hT h a2 = 23) (na2 : a2 < hN h) (tay0 : hT h ay0 = 23) (nay0 : ay0 < hN h) : zBack zY 365 4 7 [some (zR (some 0)), some (zI x1), some (zR (some a2)), none] [zI y1, zR (some ay0)] (some (.inl (some (zI y)), h)) =
    gd (0 ≤ y1 ∧ y1 < (hL h ay0 : Int)) (
    some (.inl (some (zI 0)), (sJ h ay0 y1.toNat (zi2l y)))) := by
  refine (show zBack zY 365 4 7 [some (zR (some 0)), some (zI x1), some (zR (some a2)), none] [zI y1, zR (some ay0)] (some (.inl (some (zI y)), h)) = gd (zokw h (some ay0) 23 y1) (gd (inR (0)) (gd (([] : List zV).isEmpty = true ∧ (zrk 365 = 1 ∨ zrk 365 = 6 ∧ ((0 : Int) = 0 ∨ (0 : Int) = 1))) (some (.inl (some (zI 0)), (sJ h ay0 y1.toNat (zi2l y)))))) from zGo 5 365 7 _ _ _).trans ?_
  refine gd_c (ciw tay0 nay0 rfl) (fun c0 => ?_)
  refine (gd_t (by decide) _).trans ?_
  refine (gd_t (⟨rfl, Or.inl rfl⟩) _).trans ?_
  rfl
theorem q_L_proves_x3 {h : zH} {x1 : Int} {a2 : Nat} {ay0 : Nat} {y1 : Int} (KC : KC h) (ta2 : hT h a2 = 23) (na2 : a2 < hN h) (tay0 : hT h ay0 = 23) (nay0 : ay0 < hN h) : zBack zY 365 4 7 [some (zR (some 0)), some (zI x1), some (zR (some a2)), none] [zI y1, zR (some ay0)] (some (.inr 3, h)) = some (.inl (some (zI 1)), h) := by
  refine (show zBack zY 365 4 7 [some (zR (some 0)), some (zI x1), some (zR (some a2)), none] [zI y1, zR (some ay0)] (some (.inr 3, h)) = zY 365 13 [some (zR (some 0)), some (zI x1), some (zR (some a2)), none] [] h from rfl).trans ?_
  refine (show zY 365 13 [some (zR (some 0)), some (zI x1), some (zR (some a2)), none] [] h = gd (inR (1)) (gd (([] : List zV).isEmpty = true ∧ (zrk 365 = 1 ∨ zrk 365 = 6 ∧ ((1 : Int) = 0 ∨ (1 : Int) = 1))) (some (.inl (some (zI 1)), h))) from zGo 2 365 13 _ _ _).trans ?_
  refine (gd_t (by decide) _).trans ?_
  exact gd_t (⟨rfl, Or.inl rfl⟩) _
theorem q_L_rights {h : zH} {x1 : Int} {a2 : Nat} (KC : KC h) (ta2 : hT h a2 = 23) (na2 : a2 < hN h) : zC 366 [zR (some 0), zI x1, zR (some a2)] h =
    zBack zY 366 4 7 [some (zR (some 0)), some (zI x1), some (zR (some a2)), none] [zI 0, zR (some a2)] (zC 184 [zR (some 0), zI x1] h) := by
  refine (show zC 366 [zR (some 0), zI x1, zR (some a2)] h = gd (inR (0)) (gd (false = zctor 184 ∧ zcs [zI 0, zR (some a2)] ≤ 8 ∧ zrm 366 (zrf 184 + 1) (8 + (zmaxl 184 + 11) + zrl 184) = true ∧ zcs [zR (some 0), zI x1] ≤ zmaxl 184) (gd (zob h (some 0) 11) (zBack zY 366 4 7 [some (zR (some 0)), some (zI x1), some (zR (some a2)), none] [zI 0, zR (some a2)] (zC 184 [zR (some 0), zI x1] h)))) from zGo 5 366 0 _ _ _).trans ?_
  refine (gd_t (by decide) _).trans ?_
  refine (gd_t (⟨rfl, Nat.le_of_ble_eq_true rfl, rfl, Nat.le_of_ble_eq_true rfl⟩) _).trans ?_
  refine (gd_t (⟨rfl, (PTC KC 0 _ rfl rfl), (PNC KC 0 rfl)⟩) _).trans ?_
  rfl
theorem q_L_rights_r7 {h : zH} {x1 : Int} {a2 : Nat} {ay0 : Nat} {y1 : Int} {y : Int} (KC : KC h) (ta2 : hT h a2 = 23) (na2 : a2 < hN h) (tay0 : hT h ay0 = 23) (nay0 : ay0 < hN h) : zBack zY 366 4 7 [some (zR (some 0)), some (zI x1), some (zR (some a2)), none] [zI y1, zR (some ay0)] (some (.inl (some (zI y)), h)) =
    gd (0 ≤ y1 ∧ y1 < (hL h ay0 : Int)) (
    some (.inl (some (zI 0)), (sJ h ay0 y1.toNat (zi2l y)))) := by
  refine (show zBack zY 366 4 7 [some (zR (some 0)), some (zI x1), some (zR (some a2)), none] [zI y1, zR (some ay0)] (some (.inl (some (zI y)), h)) = gd (zokw h (some ay0) 23 y1) (gd (inR (0)) (gd (([] : List zV).isEmpty = true ∧ (zrk 366 = 1 ∨ zrk 366 = 6 ∧ ((0 : Int) = 0 ∨ (0 : Int) = 1))) (some (.inl (some (zI 0)), (sJ h ay0 y1.toNat (zi2l y)))))) from zGo 5 366 7 _ _ _).trans ?_
  refine gd_c (ciw tay0 nay0 rfl) (fun c0 => ?_)
  refine (gd_t (by decide) _).trans ?_
  refine (gd_t (⟨rfl, Or.inl rfl⟩) _).trans ?_
  rfl
theorem q_L_rights_x3 {h : zH} {x1 : Int} {a2 : Nat} {ay0 : Nat} {y1 : Int} (KC : KC h) (ta2 : hT h a2 = 23) (na2 : a2 < hN h) (tay0 : hT h ay0 = 23) (nay0 : ay0 < hN h) : zBack zY 366 4 7 [some (zR (some 0)), some (zI x1), some (zR (some a2)), none] [zI y1, zR (some ay0)] (some (.inr 3, h)) = some (.inl (some (zI 1)), h) := by
  refine (show zBack zY 366 4 7 [some (zR (some 0)), some (zI x1), some (zR (some a2)), none] [zI y1, zR (some ay0)] (some (.inr 3, h)) = zY 366 13 [some (zR (some 0)), some (zI x1), some (zR (some a2)), none] [] h from rfl).trans ?_
  refine (show zY 366 13 [some (zR (some 0)), some (zI x1), some (zR (some a2)), none] [] h = gd (inR (1)) (gd (([] : List zV).isEmpty = true ∧ (zrk 366 = 1 ∨ zrk 366 = 6 ∧ ((1 : Int) = 0 ∨ (1 : Int) = 1))) (some (.inl (some (zI 1)), h))) from zGo 2 366 13 _ _ _).trans ?_
  refine (gd_t (by decide) _).trans ?_
  exact gd_t (⟨rfl, Or.inl rfl⟩) _
theorem q_L_safe {h : zH} {x1 : Int} {a2 : Nat} (KC : KC h) (ta2 : hT h a2 = 23) (na2 : a2 < hN h) : zC 367 [zR (some 0), zI x1, zR (some a2)] h =
    zBack zY 367 4 7 [some (zR (some 0)), some (zI x1), some (zR (some a2)), none] [zI 0, zR (some a2)] (zC 185 [zR (some 0), zI x1] h) := by
  refine (show zC 367 [zR (some 0), zI x1, zR (some a2)] h = gd (inR (0)) (gd (false = zctor 185 ∧ zcs [zI 0, zR (some a2)] ≤ 8 ∧ zrm 367 (zrf 185 + 1) (8 + (zmaxl 185 + 11) + zrl 185) = true ∧ zcs [zR (some 0), zI x1] ≤ zmaxl 185) (gd (zob h (some 0) 11) (zBack zY 367 4 7 [some (zR (some 0)), some (zI x1), some (zR (some a2)), none] [zI 0, zR (some a2)] (zC 185 [zR (some 0), zI x1] h)))) from zGo 5 367 0 _ _ _).trans ?_
  refine (gd_t (by decide) _).trans ?_
  refine (gd_t (⟨rfl, Nat.le_of_ble_eq_true rfl, rfl, Nat.le_of_ble_eq_true rfl⟩) _).trans ?_
  refine (gd_t (⟨rfl, (PTC KC 0 _ rfl rfl), (PNC KC 0 rfl)⟩) _).trans ?_
  rfl
theorem q_L_safe_r7 {h : zH} {x1 : Int} {a2 : Nat} {ay0 : Nat} {y1 : Int} {y : BitVec 64} (KC : KC h) (ta2 : hT h a2 = 23) (na2 : a2 < hN h) (tay0 : hT h ay0 = 23) (nay0 : ay0 < hN h) : zBack zY 367 4 7 [some (zR (some 0)), some (zI x1), some (zR (some a2)), none] [zI y1, zR (some ay0)] (some (.inl (some (zJ y)), h)) =
    gd (0 ≤ y1 ∧ y1 < (hL h ay0 : Int)) (
    some (.inl (some (zI 0)), (sJ h ay0 y1.toNat y))) := by
  refine (show zBack zY 367 4 7 [some (zR (some 0)), some (zI x1), some (zR (some a2)), none] [zI y1, zR (some ay0)] (some (.inl (some (zJ y)), h)) = gd (zokw h (some ay0) 23 y1) (gd (inR (0)) (gd (([] : List zV).isEmpty = true ∧ (zrk 367 = 1 ∨ zrk 367 = 6 ∧ ((0 : Int) = 0 ∨ (0 : Int) = 1))) (some (.inl (some (zI 0)), (sJ h ay0 y1.toNat y))))) from zGo 4 367 7 _ _ _).trans ?_
  refine gd_c (ciw tay0 nay0 rfl) (fun c0 => ?_)
  refine (gd_t (by decide) _).trans ?_
  refine (gd_t (⟨rfl, Or.inl rfl⟩) _).trans ?_
  rfl
theorem q_L_safe_x3 {h : zH} {x1 : Int} {a2 : Nat} {ay0 : Nat} {y1 : Int} (KC : KC h) (ta2 : hT h a2 = 23) (na2 : a2 < hN h) (tay0 : hT h ay0 = 23) (nay0 : ay0 < hN h) : zBack zY 367 4 7 [some (zR (some 0)), some (zI x1), some (zR (some a2)), none] [zI y1, zR (some ay0)] (some (.inr 3, h)) = some (.inl (some (zI 1)), h) := by
  refine (show zBack zY 367 4 7 [some (zR (some 0)), some (zI x1), some (zR (some a2)), none] [zI y1, zR (some ay0)] (some (.inr 3, h)) = zY 367 12 [some (zR (some 0)), some (zI x1), some (zR (some a2)), none] [] h from rfl).trans ?_
  refine (show zY 367 12 [some (zR (some 0)), some (zI x1), some (zR (some a2)), none] [] h = gd (inR (1)) (gd (([] : List zV).isEmpty = true ∧ (zrk 367 = 1 ∨ zrk 367 = 6 ∧ ((1 : Int) = 0 ∨ (1 : Int) = 1))) (some (.inl (some (zI 1)), h))) from zGo 2 367 12 _ _ _).trans ?_
  refine (gd_t (by decide) _).trans ?_
  exact gd_t (⟨rfl, Or.inl rfl⟩) _
theorem q_L_unsf {h : zH} {x1 : Int} {a2 : Nat} (KC : KC h) (ta2 : hT h a2 = 23) (na2 : a2 < hN h) : zC 368 [zR (some 0), zI x1, zR (some a2)] h =
    zBack zY 368 4 7 [some (zR (some 0)), some (zI x1), some (zR (some a2)), none] [zI 0, zR (some a2)] (zC 186 [zR (some 0), zI x1] h) := by
  refine (show zC 368 [zR (some 0), zI x1, zR (some a2)] h = gd (inR (0)) (gd (false = zctor 186 ∧ zcs [zI 0, zR (some a2)] ≤ 8 ∧ zrm 368 (zrf 186 + 1) (8 + (zmaxl 186 + 11) + zrl 186) = true ∧ zcs [zR (some 0), zI x1] ≤ zmaxl 186) (gd (zob h (some 0) 11) (zBack zY 368 4 7 [some (zR (some 0)), some (zI x1), some (zR (some a2)), none] [zI 0, zR (some a2)] (zC 186 [zR (some 0), zI x1] h)))) from zGo 5 368 0 _ _ _).trans ?_
  refine (gd_t (by decide) _).trans ?_
  refine (gd_t (⟨rfl, Nat.le_of_ble_eq_true rfl, rfl, Nat.le_of_ble_eq_true rfl⟩) _).trans ?_
  refine (gd_t (⟨rfl, (PTC KC 0 _ rfl rfl), (PNC KC 0 rfl)⟩) _).trans ?_
  rfl
theorem q_L_unsf_r7 {h : zH} {x1 : Int} {a2 : Nat} {ay0 : Nat} {y1 : Int} {y : BitVec 64} (KC : KC h) (ta2 : hT h a2 = 23) (na2 : a2 < hN h) (tay0 : hT h ay0 = 23) (nay0 : ay0 < hN h) : zBack zY 368 4 7 [some (zR (some 0)), some (zI x1), some (zR (some a2)), none] [zI y1, zR (some ay0)] (some (.inl (some (zJ y)), h)) =
    gd (0 ≤ y1 ∧ y1 < (hL h ay0 : Int)) (
    some (.inl (some (zI 0)), (sJ h ay0 y1.toNat y))) := by
  refine (show zBack zY 368 4 7 [some (zR (some 0)), some (zI x1), some (zR (some a2)), none] [zI y1, zR (some ay0)] (some (.inl (some (zJ y)), h)) = gd (zokw h (some ay0) 23 y1) (gd (inR (0)) (gd (([] : List zV).isEmpty = true ∧ (zrk 368 = 1 ∨ zrk 368 = 6 ∧ ((0 : Int) = 0 ∨ (0 : Int) = 1))) (some (.inl (some (zI 0)), (sJ h ay0 y1.toNat y))))) from zGo 4 368 7 _ _ _).trans ?_
  refine gd_c (ciw tay0 nay0 rfl) (fun c0 => ?_)
  refine (gd_t (by decide) _).trans ?_
  refine (gd_t (⟨rfl, Or.inl rfl⟩) _).trans ?_
  rfl
theorem q_L_unsf_x3 {h : zH} {x1 : Int} {a2 : Nat} {ay0 : Nat} {y1 : Int} (KC : KC h) (ta2 : hT h a2 = 23) (na2 : a2 < hN h) (tay0 : hT h ay0 = 23) (nay0 : ay0 < hN h) : zBack zY 368 4 7 [some (zR (some 0)), some (zI x1), some (zR (some a2)), none] [zI y1, zR (some ay0)] (some (.inr 3, h)) = some (.inl (some (zI 1)), h) := by
  refine (show zBack zY 368 4 7 [some (zR (some 0)), some (zI x1), some (zR (some a2)), none] [zI y1, zR (some ay0)] (some (.inr 3, h)) = zY 368 12 [some (zR (some 0)), some (zI x1), some (zR (some a2)), none] [] h from rfl).trans ?_
  refine (show zY 368 12 [some (zR (some 0)), some (zI x1), some (zR (some a2)), none] [] h = gd (inR (1)) (gd (([] : List zV).isEmpty = true ∧ (zrk 368 = 1 ∨ zrk 368 = 6 ∧ ((1 : Int) = 0 ∨ (1 : Int) = 1))) (some (.inl (some (zI 1)), h))) from zGo 2 368 12 _ _ _).trans ?_
  refine (gd_t (by decide) _).trans ?_
  exact gd_t (⟨rfl, Or.inl rfl⟩) _
theorem q_L_writeNeed {h : zH} {x1 : Int} {a2 : Nat} (KC : KC h) (ta2 : hT h a2 = 23) (na2 : a2 < hN h) : zC 369 [zR (some 0), zI x1, zR (some a2)] h =
    zBack zY 369 4 7 [some (zR (some 0)), some (zI x1), some (zR (some a2)), none] [zI 0, zR (some a2)] (zC 187 [zR (some 0), zI x1] h) := by
  refine (show zC 369 [zR (some 0), zI x1, zR (some a2)] h = gd (inR (0)) (gd (false = zctor 187 ∧ zcs [zI 0, zR (some a2)] ≤ 8 ∧ zrm 369 (zrf 187 + 1) (8 + (zmaxl 187 + 11) + zrl 187) = true ∧ zcs [zR (some 0), zI x1] ≤ zmaxl 187) (gd (zob h (some 0) 11) (zBack zY 369 4 7 [some (zR (some 0)), some (zI x1), some (zR (some a2)), none] [zI 0, zR (some a2)] (zC 187 [zR (some 0), zI x1] h)))) from zGo 5 369 0 _ _ _).trans ?_
  refine (gd_t (by decide) _).trans ?_
  refine (gd_t (⟨rfl, Nat.le_of_ble_eq_true rfl, rfl, Nat.le_of_ble_eq_true rfl⟩) _).trans ?_
  refine (gd_t (⟨rfl, (PTC KC 0 _ rfl rfl), (PNC KC 0 rfl)⟩) _).trans ?_
  rfl
theorem q_L_writeNeed_r7 {h : zH} {x1 : Int} {a2 : Nat} {ay0 : Nat} {y1 : Int} {y : Int} (KC : KC h) (ta2 : hT h a2 = 23) (na2 : a2 < hN h) (tay0 : hT h ay0 = 23) (nay0 : ay0 < hN h) : zBack zY 369 4 7 [some (zR (some 0)), some (zI x1), some (zR (some a2)), none] [zI y1, zR (some ay0)] (some (.inl (some (zI y)), h)) =
    gd (0 ≤ y1 ∧ y1 < (hL h ay0 : Int)) (
    some (.inl (some (zI 0)), (sJ h ay0 y1.toNat (zi2l y)))) := by
  refine (show zBack zY 369 4 7 [some (zR (some 0)), some (zI x1), some (zR (some a2)), none] [zI y1, zR (some ay0)] (some (.inl (some (zI y)), h)) = gd (zokw h (some ay0) 23 y1) (gd (inR (0)) (gd (([] : List zV).isEmpty = true ∧ (zrk 369 = 1 ∨ zrk 369 = 6 ∧ ((0 : Int) = 0 ∨ (0 : Int) = 1))) (some (.inl (some (zI 0)), (sJ h ay0 y1.toNat (zi2l y)))))) from zGo 5 369 7 _ _ _).trans ?_
  refine gd_c (ciw tay0 nay0 rfl) (fun c0 => ?_)
  refine (gd_t (by decide) _).trans ?_
  refine (gd_t (⟨rfl, Or.inl rfl⟩) _).trans ?_
  rfl
theorem q_L_writeNeed_x3 {h : zH} {x1 : Int} {a2 : Nat} {ay0 : Nat} {y1 : Int} (KC : KC h) (ta2 : hT h a2 = 23) (na2 : a2 < hN h) (tay0 : hT h ay0 = 23) (nay0 : ay0 < hN h) : zBack zY 369 4 7 [some (zR (some 0)), some (zI x1), some (zR (some a2)), none] [zI y1, zR (some ay0)] (some (.inr 3, h)) = some (.inl (some (zI 1)), h) := by
  refine (show zBack zY 369 4 7 [some (zR (some 0)), some (zI x1), some (zR (some a2)), none] [zI y1, zR (some ay0)] (some (.inr 3, h)) = zY 369 13 [some (zR (some 0)), some (zI x1), some (zR (some a2)), none] [] h from rfl).trans ?_
  refine (show zY 369 13 [some (zR (some 0)), some (zI x1), some (zR (some a2)), none] [] h = gd (inR (1)) (gd (([] : List zV).isEmpty = true ∧ (zrk 369 = 1 ∨ zrk 369 = 6 ∧ ((1 : Int) = 0 ∨ (1 : Int) = 1))) (some (.inl (some (zI 1)), h))) from zGo 2 369 13 _ _ _).trans ?_
  refine (gd_t (by decide) _).trans ?_
  exact gd_t (⟨rfl, Or.inl rfl⟩) _
theorem q_L_outputByte {h : zH} {x1 : Int} {a2 : Nat} (KC : KC h) (ta2 : hT h a2 = 23) (na2 : a2 < hN h) : zC 370 [zR (some 0), zI x1, zR (some a2)] h =
    zBack zY 370 4 7 [some (zR (some 0)), some (zI x1), some (zR (some a2)), none] [zI 0, zR (some a2)] (zC 189 [zR (some 0), zI x1] h) := by
  refine (show zC 370 [zR (some 0), zI x1, zR (some a2)] h = gd (inR (0)) (gd (false = zctor 189 ∧ zcs [zI 0, zR (some a2)] ≤ 8 ∧ zrm 370 (zrf 189 + 1) (8 + (zmaxl 189 + 11) + zrl 189) = true ∧ zcs [zR (some 0), zI x1] ≤ zmaxl 189) (gd (zob h (some 0) 11) (zBack zY 370 4 7 [some (zR (some 0)), some (zI x1), some (zR (some a2)), none] [zI 0, zR (some a2)] (zC 189 [zR (some 0), zI x1] h)))) from zGo 5 370 0 _ _ _).trans ?_
  refine (gd_t (by decide) _).trans ?_
  refine (gd_t (⟨rfl, Nat.le_of_ble_eq_true rfl, rfl, Nat.le_of_ble_eq_true rfl⟩) _).trans ?_
  refine (gd_t (⟨rfl, (PTC KC 0 _ rfl rfl), (PNC KC 0 rfl)⟩) _).trans ?_
  rfl
theorem q_L_outputByte_r7 {h : zH} {x1 : Int} {a2 : Nat} {ay0 : Nat} {y1 : Int} {y : Int} (KC : KC h) (ta2 : hT h a2 = 23) (na2 : a2 < hN h) (tay0 : hT h ay0 = 23) (nay0 : ay0 < hN h) : zBack zY 370 4 7 [some (zR (some 0)), some (zI x1), some (zR (some a2)), none] [zI y1, zR (some ay0)] (some (.inl (some (zI y)), h)) =
    gd (0 ≤ y1 ∧ y1 < (hL h ay0 : Int)) (
    some (.inl (some (zI 0)), (sJ h ay0 y1.toNat (zi2l y)))) := by
  refine (show zBack zY 370 4 7 [some (zR (some 0)), some (zI x1), some (zR (some a2)), none] [zI y1, zR (some ay0)] (some (.inl (some (zI y)), h)) = gd (zokw h (some ay0) 23 y1) (gd (inR (0)) (gd (([] : List zV).isEmpty = true ∧ (zrk 370 = 1 ∨ zrk 370 = 6 ∧ ((0 : Int) = 0 ∨ (0 : Int) = 1))) (some (.inl (some (zI 0)), (sJ h ay0 y1.toNat (zi2l y)))))) from zGo 5 370 7 _ _ _).trans ?_
  refine gd_c (ciw tay0 nay0 rfl) (fun c0 => ?_)
  refine (gd_t (by decide) _).trans ?_
  refine (gd_t (⟨rfl, Or.inl rfl⟩) _).trans ?_
  rfl
theorem q_L_outputByte_x2 {h : zH} {x1 : Int} {a2 : Nat} {ay0 : Nat} {y1 : Int} (KC : KC h) (ta2 : hT h a2 = 23) (na2 : a2 < hN h) (tay0 : hT h ay0 = 23) (nay0 : ay0 < hN h) : zBack zY 370 4 7 [some (zR (some 0)), some (zI x1), some (zR (some a2)), none] [zI y1, zR (some ay0)] (some (.inr 2, h)) = some (.inl (some (zI 1)), h) := by
  refine (show zBack zY 370 4 7 [some (zR (some 0)), some (zI x1), some (zR (some a2)), none] [zI y1, zR (some ay0)] (some (.inr 2, h)) = zY 370 13 [some (zR (some 0)), some (zI x1), some (zR (some a2)), none] [] h from rfl).trans ?_
  refine (show zY 370 13 [some (zR (some 0)), some (zI x1), some (zR (some a2)), none] [] h = gd (inR (1)) (gd (([] : List zV).isEmpty = true ∧ (zrk 370 = 1 ∨ zrk 370 = 6 ∧ ((1 : Int) = 0 ∨ (1 : Int) = 1))) (some (.inl (some (zI 1)), h))) from zGo 2 370 13 _ _ _).trans ?_
  refine (gd_t (by decide) _).trans ?_
  exact gd_t (⟨rfl, Or.inl rfl⟩) _
theorem q_L_needNodes {h : zH} {x1 : Int} {a2 : Nat} (KC : KC h) (ta2 : hT h a2 = 23) (na2 : a2 < hN h) : zC 371 [zR (some 0), zI x1, zR (some a2)] h =
    zBack zY 371 4 7 [some (zR (some 0)), some (zI x1), some (zR (some a2)), none] [zI 0, zR (some a2)] (zC 190 [zR (some 0), zI x1] h) := by
  refine (show zC 371 [zR (some 0), zI x1, zR (some a2)] h = gd (inR (0)) (gd (false = zctor 190 ∧ zcs [zI 0, zR (some a2)] ≤ 8 ∧ zrm 371 (zrf 190 + 1) (8 + (zmaxl 190 + 11) + zrl 190) = true ∧ zcs [zR (some 0), zI x1] ≤ zmaxl 190) (gd (zob h (some 0) 11) (zBack zY 371 4 7 [some (zR (some 0)), some (zI x1), some (zR (some a2)), none] [zI 0, zR (some a2)] (zC 190 [zR (some 0), zI x1] h)))) from zGo 5 371 0 _ _ _).trans ?_
  refine (gd_t (by decide) _).trans ?_
  refine (gd_t (⟨rfl, Nat.le_of_ble_eq_true rfl, rfl, Nat.le_of_ble_eq_true rfl⟩) _).trans ?_
  refine (gd_t (⟨rfl, (PTC KC 0 _ rfl rfl), (PNC KC 0 rfl)⟩) _).trans ?_
  rfl
theorem q_L_needNodes_r7 {h : zH} {x1 : Int} {a2 : Nat} {ay0 : Nat} {y1 : Int} {y : Int} (KC : KC h) (ta2 : hT h a2 = 23) (na2 : a2 < hN h) (tay0 : hT h ay0 = 23) (nay0 : ay0 < hN h) : zBack zY 371 4 7 [some (zR (some 0)), some (zI x1), some (zR (some a2)), none] [zI y1, zR (some ay0)] (some (.inl (some (zI y)), h)) =
    gd (0 ≤ y1 ∧ y1 < (hL h ay0 : Int)) (
    some (.inl (some (zI 0)), (sJ h ay0 y1.toNat (zi2l y)))) := by
  refine (show zBack zY 371 4 7 [some (zR (some 0)), some (zI x1), some (zR (some a2)), none] [zI y1, zR (some ay0)] (some (.inl (some (zI y)), h)) = gd (zokw h (some ay0) 23 y1) (gd (inR (0)) (gd (([] : List zV).isEmpty = true ∧ (zrk 371 = 1 ∨ zrk 371 = 6 ∧ ((0 : Int) = 0 ∨ (0 : Int) = 1))) (some (.inl (some (zI 0)), (sJ h ay0 y1.toNat (zi2l y)))))) from zGo 5 371 7 _ _ _).trans ?_
  refine gd_c (ciw tay0 nay0 rfl) (fun c0 => ?_)
  refine (gd_t (by decide) _).trans ?_
  refine (gd_t (⟨rfl, Or.inl rfl⟩) _).trans ?_
  rfl
theorem q_L_needNodes_x3 {h : zH} {x1 : Int} {a2 : Nat} {ay0 : Nat} {y1 : Int} (KC : KC h) (ta2 : hT h a2 = 23) (na2 : a2 < hN h) (tay0 : hT h ay0 = 23) (nay0 : ay0 < hN h) : zBack zY 371 4 7 [some (zR (some 0)), some (zI x1), some (zR (some a2)), none] [zI y1, zR (some ay0)] (some (.inr 3, h)) = some (.inl (some (zI 1)), h) := by
  refine (show zBack zY 371 4 7 [some (zR (some 0)), some (zI x1), some (zR (some a2)), none] [zI y1, zR (some ay0)] (some (.inr 3, h)) = zY 371 13 [some (zR (some 0)), some (zI x1), some (zR (some a2)), none] [] h from rfl).trans ?_
  refine (show zY 371 13 [some (zR (some 0)), some (zI x1), some (zR (some a2)), none] [] h = gd (inR (1)) (gd (([] : List zV).isEmpty = true ∧ (zrk 371 = 1 ∨ zrk 371 = 6 ∧ ((1 : Int) = 0 ∨ (1 : Int) = 1))) (some (.inl (some (zI 1)), h))) from zGo 2 371 13 _ _ _).trans ?_
  refine (gd_t (by decide) _).trans ?_
  exact gd_t (⟨rfl, Or.inl rfl⟩) _
theorem q_L_gap {h : zH} {x1 : Int} {a2 : Nat} (KC : KC h) (ta2 : hT h a2 = 23) (na2 : a2 < hN h) : zC 372 [zR (some 0), zI x1, zR (some a2)] h =
    zBack zY 372 4 7 [some (zR (some 0)), some (zI x1), some (zR (some a2)), none] [zI 0, zR (some a2)] (zC 191 [zR (some 0), zI x1] h) := by
  refine (show zC 372 [zR (some 0), zI x1, zR (some a2)] h = gd (inR (0)) (gd (false = zctor 191 ∧ zcs [zI 0, zR (some a2)] ≤ 8 ∧ zrm 372 (zrf 191 + 1) (8 + (zmaxl 191 + 11) + zrl 191) = true ∧ zcs [zR (some 0), zI x1] ≤ zmaxl 191) (gd (zob h (some 0) 11) (zBack zY 372 4 7 [some (zR (some 0)), some (zI x1), some (zR (some a2)), none] [zI 0, zR (some a2)] (zC 191 [zR (some 0), zI x1] h)))) from zGo 5 372 0 _ _ _).trans ?_
  refine (gd_t (by decide) _).trans ?_
  refine (gd_t (⟨rfl, Nat.le_of_ble_eq_true rfl, rfl, Nat.le_of_ble_eq_true rfl⟩) _).trans ?_
  refine (gd_t (⟨rfl, (PTC KC 0 _ rfl rfl), (PNC KC 0 rfl)⟩) _).trans ?_
  rfl
theorem q_L_gap_r7 {h : zH} {x1 : Int} {a2 : Nat} {ay0 : Nat} {y1 : Int} {y : Int} (KC : KC h) (ta2 : hT h a2 = 23) (na2 : a2 < hN h) (tay0 : hT h ay0 = 23) (nay0 : ay0 < hN h) : zBack zY 372 4 7 [some (zR (some 0)), some (zI x1), some (zR (some a2)), none] [zI y1, zR (some ay0)] (some (.inl (some (zI y)), h)) =
    gd (0 ≤ y1 ∧ y1 < (hL h ay0 : Int)) (
    some (.inl (some (zI 0)), (sJ h ay0 y1.toNat (zi2l y)))) := by
  refine (show zBack zY 372 4 7 [some (zR (some 0)), some (zI x1), some (zR (some a2)), none] [zI y1, zR (some ay0)] (some (.inl (some (zI y)), h)) = gd (zokw h (some ay0) 23 y1) (gd (inR (0)) (gd (([] : List zV).isEmpty = true ∧ (zrk 372 = 1 ∨ zrk 372 = 6 ∧ ((0 : Int) = 0 ∨ (0 : Int) = 1))) (some (.inl (some (zI 0)), (sJ h ay0 y1.toNat (zi2l y)))))) from zGo 5 372 7 _ _ _).trans ?_
  refine gd_c (ciw tay0 nay0 rfl) (fun c0 => ?_)
  refine (gd_t (by decide) _).trans ?_
  refine (gd_t (⟨rfl, Or.inl rfl⟩) _).trans ?_
  rfl
theorem q_L_gap_x3 {h : zH} {x1 : Int} {a2 : Nat} {ay0 : Nat} {y1 : Int} (KC : KC h) (ta2 : hT h a2 = 23) (na2 : a2 < hN h) (tay0 : hT h ay0 = 23) (nay0 : ay0 < hN h) : zBack zY 372 4 7 [some (zR (some 0)), some (zI x1), some (zR (some a2)), none] [zI y1, zR (some ay0)] (some (.inr 3, h)) = some (.inl (some (zI 1)), h) := by
  refine (show zBack zY 372 4 7 [some (zR (some 0)), some (zI x1), some (zR (some a2)), none] [zI y1, zR (some ay0)] (some (.inr 3, h)) = zY 372 13 [some (zR (some 0)), some (zI x1), some (zR (some a2)), none] [] h from rfl).trans ?_
  refine (show zY 372 13 [some (zR (some 0)), some (zI x1), some (zR (some a2)), none] [] h = gd (inR (1)) (gd (([] : List zV).isEmpty = true ∧ (zrk 372 = 1 ∨ zrk 372 = 6 ∧ ((1 : Int) = 0 ∨ (1 : Int) = 1))) (some (.inl (some (zI 1)), h))) from zGo 2 372 13 _ _ _).trans ?_
  refine (gd_t (by decide) _).trans ?_
  exact gd_t (⟨rfl, Or.inl rfl⟩) _
theorem q_L_setBefore {h : zH} {x1 : Int} {a2 : Nat} (KC : KC h) (ta2 : hT h a2 = 23) (na2 : a2 < hN h) : zC 373 [zR (some 0), zI x1, zR (some a2)] h =
    zBack zY 373 4 7 [some (zR (some 0)), some (zI x1), some (zR (some a2)), none] [zI 0, zR (some a2)] (zC 192 [zR (some 0), zI x1] h) := by
  refine (show zC 373 [zR (some 0), zI x1, zR (some a2)] h = gd (inR (0)) (gd (false = zctor 192 ∧ zcs [zI 0, zR (some a2)] ≤ 8 ∧ zrm 373 (zrf 192 + 1) (8 + (zmaxl 192 + 11) + zrl 192) = true ∧ zcs [zR (some 0), zI x1] ≤ zmaxl 192) (gd (zob h (some 0) 11) (zBack zY 373 4 7 [some (zR (some 0)), some (zI x1), some (zR (some a2)), none] [zI 0, zR (some a2)] (zC 192 [zR (some 0), zI x1] h)))) from zGo 5 373 0 _ _ _).trans ?_
  refine (gd_t (by decide) _).trans ?_
  refine (gd_t (⟨rfl, Nat.le_of_ble_eq_true rfl, rfl, Nat.le_of_ble_eq_true rfl⟩) _).trans ?_
  refine (gd_t (⟨rfl, (PTC KC 0 _ rfl rfl), (PNC KC 0 rfl)⟩) _).trans ?_
  rfl
theorem q_L_setBefore_r7 {h : zH} {x1 : Int} {a2 : Nat} {ay0 : Nat} {y1 : Int} {y : Int} (KC : KC h) (ta2 : hT h a2 = 23) (na2 : a2 < hN h) (tay0 : hT h ay0 = 23) (nay0 : ay0 < hN h) : zBack zY 373 4 7 [some (zR (some 0)), some (zI x1), some (zR (some a2)), none] [zI y1, zR (some ay0)] (some (.inl (some (zI y)), h)) =
    gd (0 ≤ y1 ∧ y1 < (hL h ay0 : Int)) (
    some (.inl (some (zI 0)), (sJ h ay0 y1.toNat (zi2l y)))) := by
  refine (show zBack zY 373 4 7 [some (zR (some 0)), some (zI x1), some (zR (some a2)), none] [zI y1, zR (some ay0)] (some (.inl (some (zI y)), h)) = gd (zokw h (some ay0) 23 y1) (gd (inR (0)) (gd (([] : List zV).isEmpty = true ∧ (zrk 373 = 1 ∨ zrk 373 = 6 ∧ ((0 : Int) = 0 ∨ (0 : Int) = 1))) (some (.inl (some (zI 0)), (sJ h ay0 y1.toNat (zi2l y)))))) from zGo 5 373 7 _ _ _).trans ?_
  refine gd_c (ciw tay0 nay0 rfl) (fun c0 => ?_)
  refine (gd_t (by decide) _).trans ?_
  refine (gd_t (⟨rfl, Or.inl rfl⟩) _).trans ?_
  rfl
theorem q_L_setBefore_x0 {h : zH} {x1 : Int} {a2 : Nat} {ay0 : Nat} {y1 : Int} (KC : KC h) (ta2 : hT h a2 = 23) (na2 : a2 < hN h) (tay0 : hT h ay0 = 23) (nay0 : ay0 < hN h) : zBack zY 373 4 7 [some (zR (some 0)), some (zI x1), some (zR (some a2)), none] [zI y1, zR (some ay0)] (some (.inr 0, h)) = some (.inl (some (zI 1)), h) := by
  refine (show zBack zY 373 4 7 [some (zR (some 0)), some (zI x1), some (zR (some a2)), none] [zI y1, zR (some ay0)] (some (.inr 0, h)) = zY 373 13 [some (zR (some 0)), some (zI x1), some (zR (some a2)), none] [] h from rfl).trans ?_
  refine (show zY 373 13 [some (zR (some 0)), some (zI x1), some (zR (some a2)), none] [] h = gd (inR (1)) (gd (([] : List zV).isEmpty = true ∧ (zrk 373 = 1 ∨ zrk 373 = 6 ∧ ((1 : Int) = 0 ∨ (1 : Int) = 1))) (some (.inl (some (zI 1)), h))) from zGo 2 373 13 _ _ _).trans ?_
  refine (gd_t (by decide) _).trans ?_
  exact gd_t (⟨rfl, Or.inl rfl⟩) _
theorem q_L_setBefore_x1 {h : zH} {x1 : Int} {a2 : Nat} {ay0 : Nat} {y1 : Int} (KC : KC h) (ta2 : hT h a2 = 23) (na2 : a2 < hN h) (tay0 : hT h ay0 = 23) (nay0 : ay0 < hN h) : zBack zY 373 4 7 [some (zR (some 0)), some (zI x1), some (zR (some a2)), none] [zI y1, zR (some ay0)] (some (.inr 1, h)) = some (.inl (some (zI 2)), h) := by
  refine (show zBack zY 373 4 7 [some (zR (some 0)), some (zI x1), some (zR (some a2)), none] [zI y1, zR (some ay0)] (some (.inr 1, h)) = zY 373 16 [some (zR (some 0)), some (zI x1), some (zR (some a2)), none] [] h from rfl).trans ?_
  refine (show zY 373 16 [some (zR (some 0)), some (zI x1), some (zR (some a2)), none] [] h = gd (inR (2)) (gd (([] : List zV).isEmpty = true ∧ (zrk 373 = 1 ∨ zrk 373 = 6 ∧ ((2 : Int) = 0 ∨ (2 : Int) = 1))) (some (.inl (some (zI 2)), h))) from zGo 2 373 16 _ _ _).trans ?_
  refine (gd_t (by decide) _).trans ?_
  exact gd_t (⟨rfl, Or.inl rfl⟩) _
theorem q_L_setAfter {h : zH} {x1 : Int} {a2 : Nat} (KC : KC h) (ta2 : hT h a2 = 23) (na2 : a2 < hN h) : zC 374 [zR (some 0), zI x1, zR (some a2)] h =
    zBack zY 374 4 7 [some (zR (some 0)), some (zI x1), some (zR (some a2)), none] [zI 0, zR (some a2)] (zC 194 [zR (some 0), zI x1] h) := by
  refine (show zC 374 [zR (some 0), zI x1, zR (some a2)] h = gd (inR (0)) (gd (false = zctor 194 ∧ zcs [zI 0, zR (some a2)] ≤ 8 ∧ zrm 374 (zrf 194 + 1) (8 + (zmaxl 194 + 11) + zrl 194) = true ∧ zcs [zR (some 0), zI x1] ≤ zmaxl 194) (gd (zob h (some 0) 11) (zBack zY 374 4 7 [some (zR (some 0)), some (zI x1), some (zR (some a2)), none] [zI 0, zR (some a2)] (zC 194 [zR (some 0), zI x1] h)))) from zGo 5 374 0 _ _ _).trans ?_
  refine (gd_t (by decide) _).trans ?_
  refine (gd_t (⟨rfl, Nat.le_of_ble_eq_true rfl, rfl, Nat.le_of_ble_eq_true rfl⟩) _).trans ?_
  refine (gd_t (⟨rfl, (PTC KC 0 _ rfl rfl), (PNC KC 0 rfl)⟩) _).trans ?_
  rfl
theorem q_L_setAfter_r7 {h : zH} {x1 : Int} {a2 : Nat} {ay0 : Nat} {y1 : Int} {y : Int} (KC : KC h) (ta2 : hT h a2 = 23) (na2 : a2 < hN h) (tay0 : hT h ay0 = 23) (nay0 : ay0 < hN h) : zBack zY 374 4 7 [some (zR (some 0)), some (zI x1), some (zR (some a2)), none] [zI y1, zR (some ay0)] (some (.inl (some (zI y)), h)) =
    gd (0 ≤ y1 ∧ y1 < (hL h ay0 : Int)) (
    some (.inl (some (zI 0)), (sJ h ay0 y1.toNat (zi2l y)))) := by
  refine (show zBack zY 374 4 7 [some (zR (some 0)), some (zI x1), some (zR (some a2)), none] [zI y1, zR (some ay0)] (some (.inl (some (zI y)), h)) = gd (zokw h (some ay0) 23 y1) (gd (inR (0)) (gd (([] : List zV).isEmpty = true ∧ (zrk 374 = 1 ∨ zrk 374 = 6 ∧ ((0 : Int) = 0 ∨ (0 : Int) = 1))) (some (.inl (some (zI 0)), (sJ h ay0 y1.toNat (zi2l y)))))) from zGo 5 374 7 _ _ _).trans ?_
  refine gd_c (ciw tay0 nay0 rfl) (fun c0 => ?_)
  refine (gd_t (by decide) _).trans ?_
  refine (gd_t (⟨rfl, Or.inl rfl⟩) _).trans ?_
  rfl
theorem q_L_setAfter_x0 {h : zH} {x1 : Int} {a2 : Nat} {ay0 : Nat} {y1 : Int} (KC : KC h) (ta2 : hT h a2 = 23) (na2 : a2 < hN h) (tay0 : hT h ay0 = 23) (nay0 : ay0 < hN h) : zBack zY 374 4 7 [some (zR (some 0)), some (zI x1), some (zR (some a2)), none] [zI y1, zR (some ay0)] (some (.inr 0, h)) = some (.inl (some (zI 1)), h) := by
  refine (show zBack zY 374 4 7 [some (zR (some 0)), some (zI x1), some (zR (some a2)), none] [zI y1, zR (some ay0)] (some (.inr 0, h)) = zY 374 13 [some (zR (some 0)), some (zI x1), some (zR (some a2)), none] [] h from rfl).trans ?_
  refine (show zY 374 13 [some (zR (some 0)), some (zI x1), some (zR (some a2)), none] [] h = gd (inR (1)) (gd (([] : List zV).isEmpty = true ∧ (zrk 374 = 1 ∨ zrk 374 = 6 ∧ ((1 : Int) = 0 ∨ (1 : Int) = 1))) (some (.inl (some (zI 1)), h))) from zGo 2 374 13 _ _ _).trans ?_
  refine (gd_t (by decide) _).trans ?_
  exact gd_t (⟨rfl, Or.inl rfl⟩) _
theorem q_L_setAfter_x1 {h : zH} {x1 : Int} {a2 : Nat} {ay0 : Nat} {y1 : Int} (KC : KC h) (ta2 : hT h a2 = 23) (na2 : a2 < hN h) (tay0 : hT h ay0 = 23) (nay0 : ay0 < hN h) : zBack zY 374 4 7 [some (zR (some 0)), some (zI x1), some (zR (some a2)), none] [zI y1, zR (some ay0)] (some (.inr 1, h)) = some (.inl (some (zI 2)), h) := by
  refine (show zBack zY 374 4 7 [some (zR (some 0)), some (zI x1), some (zR (some a2)), none] [zI y1, zR (some ay0)] (some (.inr 1, h)) = zY 374 16 [some (zR (some 0)), some (zI x1), some (zR (some a2)), none] [] h from rfl).trans ?_
  refine (show zY 374 16 [some (zR (some 0)), some (zI x1), some (zR (some a2)), none] [] h = gd (inR (2)) (gd (([] : List zV).isEmpty = true ∧ (zrk 374 = 1 ∨ zrk 374 = 6 ∧ ((2 : Int) = 0 ∨ (2 : Int) = 1))) (some (.inl (some (zI 2)), h))) from zGo 2 374 16 _ _ _).trans ?_
  refine (gd_t (by decide) _).trans ?_
  exact gd_t (⟨rfl, Or.inl rfl⟩) _
theorem q_L_setKeep {h : zH} {x1 : Int} {x2 : Int} {a3 : Nat} (KC : KC h) (ta3 : hT h a3 = 23) (na3 : a3 < hN h) : zC 375 [zR (some 0), zI x1, zI x2, zR (some a3)] h =
    zBack zY 375 5 8 [some (zR (some 0)), some (zI x1), some (zI x2), some (zR (some a3)), none] [zI 0, zR (some a3)] (zC 195 [zR (some 0), zI x1, zI x2] h) := by
  refine (show zC 375 [zR (some 0), zI x1, zI x2, zR (some a3)] h = gd (inR (0)) (gd (false = zctor 195 ∧ zcs [zI 0, zR (some a3)] ≤ 8 ∧ zrm 375 (zrf 195 + 1) (8 + (zmaxl 195 + 11) + zrl 195) = true ∧ zcs [zR (some 0), zI x1, zI x2] ≤ zmaxl 195) (gd (zob h (some 0) 11) (zBack zY 375 5 8 [some (zR (some 0)), some (zI x1), some (zI x2), some (zR (some a3)), none] [zI 0, zR (some a3)] (zC 195 [zR (some 0), zI x1, zI x2] h)))) from zGo 6 375 0 _ _ _).trans ?_
  refine (gd_t (by decide) _).trans ?_
  refine (gd_t (⟨rfl, Nat.le_of_ble_eq_true rfl, rfl, Nat.le_of_ble_eq_true rfl⟩) _).trans ?_
  refine (gd_t (⟨rfl, (PTC KC 0 _ rfl rfl), (PNC KC 0 rfl)⟩) _).trans ?_
  rfl
theorem q_L_setKeep_r8 {h : zH} {x1 : Int} {x2 : Int} {a3 : Nat} {ay0 : Nat} {y1 : Int} {y : Int} (KC : KC h) (ta3 : hT h a3 = 23) (na3 : a3 < hN h) (tay0 : hT h ay0 = 23) (nay0 : ay0 < hN h) : zBack zY 375 5 8 [some (zR (some 0)), some (zI x1), some (zI x2), some (zR (some a3)), none] [zI y1, zR (some ay0)] (some (.inl (some (zI y)), h)) =
    gd (0 ≤ y1 ∧ y1 < (hL h ay0 : Int)) (
    some (.inl (some (zI 0)), (sJ h ay0 y1.toNat (zi2l y)))) := by
  refine (show zBack zY 375 5 8 [some (zR (some 0)), some (zI x1), some (zI x2), some (zR (some a3)), none] [zI y1, zR (some ay0)] (some (.inl (some (zI y)), h)) = gd (zokw h (some ay0) 23 y1) (gd (inR (0)) (gd (([] : List zV).isEmpty = true ∧ (zrk 375 = 1 ∨ zrk 375 = 6 ∧ ((0 : Int) = 0 ∨ (0 : Int) = 1))) (some (.inl (some (zI 0)), (sJ h ay0 y1.toNat (zi2l y)))))) from zGo 5 375 8 _ _ _).trans ?_
  refine gd_c (ciw tay0 nay0 rfl) (fun c0 => ?_)
  refine (gd_t (by decide) _).trans ?_
  refine (gd_t (⟨rfl, Or.inl rfl⟩) _).trans ?_
  rfl
theorem q_L_setKeep_x3 {h : zH} {x1 : Int} {x2 : Int} {a3 : Nat} {ay0 : Nat} {y1 : Int} (KC : KC h) (ta3 : hT h a3 = 23) (na3 : a3 < hN h) (tay0 : hT h ay0 = 23) (nay0 : ay0 < hN h) : zBack zY 375 5 8 [some (zR (some 0)), some (zI x1), some (zI x2), some (zR (some a3)), none] [zI y1, zR (some ay0)] (some (.inr 3, h)) = some (.inl (some (zI 1)), h) := by
  refine (show zBack zY 375 5 8 [some (zR (some 0)), some (zI x1), some (zI x2), some (zR (some a3)), none] [zI y1, zR (some ay0)] (some (.inr 3, h)) = zY 375 15 [some (zR (some 0)), some (zI x1), some (zI x2), some (zR (some a3)), none] [] h from rfl).trans ?_
  refine (show zY 375 15 [some (zR (some 0)), some (zI x1), some (zI x2), some (zR (some a3)), none] [] h = gd (inR (1)) (gd (([] : List zV).isEmpty = true ∧ (zrk 375 = 1 ∨ zrk 375 = 6 ∧ ((1 : Int) = 0 ∨ (1 : Int) = 1))) (some (.inl (some (zI 1)), h))) from zGo 2 375 15 _ _ _).trans ?_
  refine (gd_t (by decide) _).trans ?_
  exact gd_t (⟨rfl, Or.inl rfl⟩) _
theorem q_L_setKeep_x0 {h : zH} {x1 : Int} {x2 : Int} {a3 : Nat} {ay0 : Nat} {y1 : Int} (KC : KC h) (ta3 : hT h a3 = 23) (na3 : a3 < hN h) (tay0 : hT h ay0 = 23) (nay0 : ay0 < hN h) : zBack zY 375 5 8 [some (zR (some 0)), some (zI x1), some (zI x2), some (zR (some a3)), none] [zI y1, zR (some ay0)] (some (.inr 0, h)) = some (.inl (some (zI 2)), h) := by
  refine (show zBack zY 375 5 8 [some (zR (some 0)), some (zI x1), some (zI x2), some (zR (some a3)), none] [zI y1, zR (some ay0)] (some (.inr 0, h)) = zY 375 19 [some (zR (some 0)), some (zI x1), some (zI x2), some (zR (some a3)), none] [] h from rfl).trans ?_
  refine (show zY 375 19 [some (zR (some 0)), some (zI x1), some (zI x2), some (zR (some a3)), none] [] h = gd (inR (2)) (gd (([] : List zV).isEmpty = true ∧ (zrk 375 = 1 ∨ zrk 375 = 6 ∧ ((2 : Int) = 0 ∨ (2 : Int) = 1))) (some (.inl (some (zI 2)), h))) from zGo 2 375 19 _ _ _).trans ?_
  refine (gd_t (by decide) _).trans ?_
  exact gd_t (⟨rfl, Or.inl rfl⟩) _
theorem q_L_setKeep_x1 {h : zH} {x1 : Int} {x2 : Int} {a3 : Nat} {ay0 : Nat} {y1 : Int} (KC : KC h) (ta3 : hT h a3 = 23) (na3 : a3 < hN h) (tay0 : hT h ay0 = 23) (nay0 : ay0 < hN h) : zBack zY 375 5 8 [some (zR (some 0)), some (zI x1), some (zI x2), some (zR (some a3)), none] [zI y1, zR (some ay0)] (some (.inr 1, h)) = some (.inl (some (zI 3)), h) := by
  refine (show zBack zY 375 5 8 [some (zR (some 0)), some (zI x1), some (zI x2), some (zR (some a3)), none] [zI y1, zR (some ay0)] (some (.inr 1, h)) = zY 375 23 [some (zR (some 0)), some (zI x1), some (zI x2), some (zR (some a3)), none] [] h from rfl).trans ?_
  refine (show zY 375 23 [some (zR (some 0)), some (zI x1), some (zI x2), some (zR (some a3)), none] [] h = gd (inR (3)) (gd (([] : List zV).isEmpty = true ∧ (zrk 375 = 1 ∨ zrk 375 = 6 ∧ ((3 : Int) = 0 ∨ (3 : Int) = 1))) (some (.inl (some (zI 3)), h))) from zGo 2 375 23 _ _ _).trans ?_
  refine (gd_t (by decide) _).trans ?_
  exact gd_t (⟨rfl, Or.inl rfl⟩) _
theorem q_L_setLess {h : zH} {x1 : Int} {x2 : Int} {a3 : Nat} (KC : KC h) (ta3 : hT h a3 = 23) (na3 : a3 < hN h) : zC 376 [zR (some 0), zI x1, zI x2, zR (some a3)] h =
    zBack zY 376 5 8 [some (zR (some 0)), some (zI x1), some (zI x2), some (zR (some a3)), none] [zI 0, zR (some a3)] (zC 196 [zR (some 0), zI x1, zI x2] h) := by
  refine (show zC 376 [zR (some 0), zI x1, zI x2, zR (some a3)] h = gd (inR (0)) (gd (false = zctor 196 ∧ zcs [zI 0, zR (some a3)] ≤ 8 ∧ zrm 376 (zrf 196 + 1) (8 + (zmaxl 196 + 11) + zrl 196) = true ∧ zcs [zR (some 0), zI x1, zI x2] ≤ zmaxl 196) (gd (zob h (some 0) 11) (zBack zY 376 5 8 [some (zR (some 0)), some (zI x1), some (zI x2), some (zR (some a3)), none] [zI 0, zR (some a3)] (zC 196 [zR (some 0), zI x1, zI x2] h)))) from zGo 6 376 0 _ _ _).trans ?_
  refine (gd_t (by decide) _).trans ?_
  refine (gd_t (⟨rfl, Nat.le_of_ble_eq_true rfl, rfl, Nat.le_of_ble_eq_true rfl⟩) _).trans ?_
  refine (gd_t (⟨rfl, (PTC KC 0 _ rfl rfl), (PNC KC 0 rfl)⟩) _).trans ?_
  rfl
theorem q_L_setLess_r8 {h : zH} {x1 : Int} {x2 : Int} {a3 : Nat} {ay0 : Nat} {y1 : Int} {y : Int} (KC : KC h) (ta3 : hT h a3 = 23) (na3 : a3 < hN h) (tay0 : hT h ay0 = 23) (nay0 : ay0 < hN h) : zBack zY 376 5 8 [some (zR (some 0)), some (zI x1), some (zI x2), some (zR (some a3)), none] [zI y1, zR (some ay0)] (some (.inl (some (zI y)), h)) =
    gd (0 ≤ y1 ∧ y1 < (hL h ay0 : Int)) (
    some (.inl (some (zI 0)), (sJ h ay0 y1.toNat (zi2l y)))) := by
  refine (show zBack zY 376 5 8 [some (zR (some 0)), some (zI x1), some (zI x2), some (zR (some a3)), none] [zI y1, zR (some ay0)] (some (.inl (some (zI y)), h)) = gd (zokw h (some ay0) 23 y1) (gd (inR (0)) (gd (([] : List zV).isEmpty = true ∧ (zrk 376 = 1 ∨ zrk 376 = 6 ∧ ((0 : Int) = 0 ∨ (0 : Int) = 1))) (some (.inl (some (zI 0)), (sJ h ay0 y1.toNat (zi2l y)))))) from zGo 5 376 8 _ _ _).trans ?_
  refine gd_c (ciw tay0 nay0 rfl) (fun c0 => ?_)
  refine (gd_t (by decide) _).trans ?_
  refine (gd_t (⟨rfl, Or.inl rfl⟩) _).trans ?_
  rfl
theorem q_L_setLess_x3 {h : zH} {x1 : Int} {x2 : Int} {a3 : Nat} {ay0 : Nat} {y1 : Int} (KC : KC h) (ta3 : hT h a3 = 23) (na3 : a3 < hN h) (tay0 : hT h ay0 = 23) (nay0 : ay0 < hN h) : zBack zY 376 5 8 [some (zR (some 0)), some (zI x1), some (zI x2), some (zR (some a3)), none] [zI y1, zR (some ay0)] (some (.inr 3, h)) = some (.inl (some (zI 1)), h) := by
  refine (show zBack zY 376 5 8 [some (zR (some 0)), some (zI x1), some (zI x2), some (zR (some a3)), none] [zI y1, zR (some ay0)] (some (.inr 3, h)) = zY 376 15 [some (zR (some 0)), some (zI x1), some (zI x2), some (zR (some a3)), none] [] h from rfl).trans ?_
  refine (show zY 376 15 [some (zR (some 0)), some (zI x1), some (zI x2), some (zR (some a3)), none] [] h = gd (inR (1)) (gd (([] : List zV).isEmpty = true ∧ (zrk 376 = 1 ∨ zrk 376 = 6 ∧ ((1 : Int) = 0 ∨ (1 : Int) = 1))) (some (.inl (some (zI 1)), h))) from zGo 2 376 15 _ _ _).trans ?_
  refine (gd_t (by decide) _).trans ?_
  exact gd_t (⟨rfl, Or.inl rfl⟩) _
theorem q_L_setLess_x0 {h : zH} {x1 : Int} {x2 : Int} {a3 : Nat} {ay0 : Nat} {y1 : Int} (KC : KC h) (ta3 : hT h a3 = 23) (na3 : a3 < hN h) (tay0 : hT h ay0 = 23) (nay0 : ay0 < hN h) : zBack zY 376 5 8 [some (zR (some 0)), some (zI x1), some (zI x2), some (zR (some a3)), none] [zI y1, zR (some ay0)] (some (.inr 0, h)) = some (.inl (some (zI 2)), h) := by
  refine (show zBack zY 376 5 8 [some (zR (some 0)), some (zI x1), some (zI x2), some (zR (some a3)), none] [zI y1, zR (some ay0)] (some (.inr 0, h)) = zY 376 19 [some (zR (some 0)), some (zI x1), some (zI x2), some (zR (some a3)), none] [] h from rfl).trans ?_
  refine (show zY 376 19 [some (zR (some 0)), some (zI x1), some (zI x2), some (zR (some a3)), none] [] h = gd (inR (2)) (gd (([] : List zV).isEmpty = true ∧ (zrk 376 = 1 ∨ zrk 376 = 6 ∧ ((2 : Int) = 0 ∨ (2 : Int) = 1))) (some (.inl (some (zI 2)), h))) from zGo 2 376 19 _ _ _).trans ?_
  refine (gd_t (by decide) _).trans ?_
  exact gd_t (⟨rfl, Or.inl rfl⟩) _
theorem q_L_setLess_x1 {h : zH} {x1 : Int} {x2 : Int} {a3 : Nat} {ay0 : Nat} {y1 : Int} (KC : KC h) (ta3 : hT h a3 = 23) (na3 : a3 < hN h) (tay0 : hT h ay0 = 23) (nay0 : ay0 < hN h) : zBack zY 376 5 8 [some (zR (some 0)), some (zI x1), some (zI x2), some (zR (some a3)), none] [zI y1, zR (some ay0)] (some (.inr 1, h)) = some (.inl (some (zI 3)), h) := by
  refine (show zBack zY 376 5 8 [some (zR (some 0)), some (zI x1), some (zI x2), some (zR (some a3)), none] [zI y1, zR (some ay0)] (some (.inr 1, h)) = zY 376 23 [some (zR (some 0)), some (zI x1), some (zI x2), some (zR (some a3)), none] [] h from rfl).trans ?_
  refine (show zY 376 23 [some (zR (some 0)), some (zI x1), some (zI x2), some (zR (some a3)), none] [] h = gd (inR (3)) (gd (([] : List zV).isEmpty = true ∧ (zrk 376 = 1 ∨ zrk 376 = 6 ∧ ((3 : Int) = 0 ∨ (3 : Int) = 1))) (some (.inl (some (zI 3)), h))) from zGo 2 376 23 _ _ _).trans ?_
  refine (gd_t (by decide) _).trans ?_
  exact gd_t (⟨rfl, Or.inl rfl⟩) _
theorem q_L_fill {h : zH} {x1 : Int} {x2 : Int} {a3 : Nat} (KC : KC h) (ta3 : hT h a3 = 23) (na3 : a3 < hN h) : zC 377 [zR (some 0), zI x1, zI x2, zR (some a3)] h =
    zBack zY 377 5 8 [some (zR (some 0)), some (zI x1), some (zI x2), some (zR (some a3)), none] [zI 0, zR (some a3)] (zC 197 [zR (some 0), zI x1, zI x2] h) := by
  refine (show zC 377 [zR (some 0), zI x1, zI x2, zR (some a3)] h = gd (inR (0)) (gd (false = zctor 197 ∧ zcs [zI 0, zR (some a3)] ≤ 8 ∧ zrm 377 (zrf 197 + 1) (8 + (zmaxl 197 + 11) + zrl 197) = true ∧ zcs [zR (some 0), zI x1, zI x2] ≤ zmaxl 197) (gd (zob h (some 0) 11) (zBack zY 377 5 8 [some (zR (some 0)), some (zI x1), some (zI x2), some (zR (some a3)), none] [zI 0, zR (some a3)] (zC 197 [zR (some 0), zI x1, zI x2] h)))) from zGo 6 377 0 _ _ _).trans ?_
  refine (gd_t (by decide) _).trans ?_
  refine (gd_t (⟨rfl, Nat.le_of_ble_eq_true rfl, rfl, Nat.le_of_ble_eq_true rfl⟩) _).trans ?_
  refine (gd_t (⟨rfl, (PTC KC 0 _ rfl rfl), (PNC KC 0 rfl)⟩) _).trans ?_
  rfl
theorem q_L_fill_r8 {h : zH} {x1 : Int} {x2 : Int} {a3 : Nat} {ay0 : Nat} {y1 : Int} {y : Int} (KC : KC h) (ta3 : hT h a3 = 23) (na3 : a3 < hN h) (tay0 : hT h ay0 = 23) (nay0 : ay0 < hN h) : zBack zY 377 5 8 [some (zR (some 0)), some (zI x1), some (zI x2), some (zR (some a3)), none] [zI y1, zR (some ay0)] (some (.inl (some (zI y)), h)) =
    gd (0 ≤ y1 ∧ y1 < (hL h ay0 : Int)) (
    some (.inl (some (zI 0)), (sJ h ay0 y1.toNat (zi2l y)))) := by
  refine (show zBack zY 377 5 8 [some (zR (some 0)), some (zI x1), some (zI x2), some (zR (some a3)), none] [zI y1, zR (some ay0)] (some (.inl (some (zI y)), h)) = gd (zokw h (some ay0) 23 y1) (gd (inR (0)) (gd (([] : List zV).isEmpty = true ∧ (zrk 377 = 1 ∨ zrk 377 = 6 ∧ ((0 : Int) = 0 ∨ (0 : Int) = 1))) (some (.inl (some (zI 0)), (sJ h ay0 y1.toNat (zi2l y)))))) from zGo 5 377 8 _ _ _).trans ?_
  refine gd_c (ciw tay0 nay0 rfl) (fun c0 => ?_)
  refine (gd_t (by decide) _).trans ?_
  refine (gd_t (⟨rfl, Or.inl rfl⟩) _).trans ?_
  rfl
theorem q_L_fill_x3 {h : zH} {x1 : Int} {x2 : Int} {a3 : Nat} {ay0 : Nat} {y1 : Int} (KC : KC h) (ta3 : hT h a3 = 23) (na3 : a3 < hN h) (tay0 : hT h ay0 = 23) (nay0 : ay0 < hN h) : zBack zY 377 5 8 [some (zR (some 0)), some (zI x1), some (zI x2), some (zR (some a3)), none] [zI y1, zR (some ay0)] (some (.inr 3, h)) = some (.inl (some (zI 1)), h) := by
  refine (show zBack zY 377 5 8 [some (zR (some 0)), some (zI x1), some (zI x2), some (zR (some a3)), none] [zI y1, zR (some ay0)] (some (.inr 3, h)) = zY 377 15 [some (zR (some 0)), some (zI x1), some (zI x2), some (zR (some a3)), none] [] h from rfl).trans ?_
  refine (show zY 377 15 [some (zR (some 0)), some (zI x1), some (zI x2), some (zR (some a3)), none] [] h = gd (inR (1)) (gd (([] : List zV).isEmpty = true ∧ (zrk 377 = 1 ∨ zrk 377 = 6 ∧ ((1 : Int) = 0 ∨ (1 : Int) = 1))) (some (.inl (some (zI 1)), h))) from zGo 2 377 15 _ _ _).trans ?_
  refine (gd_t (by decide) _).trans ?_
  exact gd_t (⟨rfl, Or.inl rfl⟩) _
theorem q_L_fill_x0 {h : zH} {x1 : Int} {x2 : Int} {a3 : Nat} {ay0 : Nat} {y1 : Int} (KC : KC h) (ta3 : hT h a3 = 23) (na3 : a3 < hN h) (tay0 : hT h ay0 = 23) (nay0 : ay0 < hN h) : zBack zY 377 5 8 [some (zR (some 0)), some (zI x1), some (zI x2), some (zR (some a3)), none] [zI y1, zR (some ay0)] (some (.inr 0, h)) = some (.inl (some (zI 2)), h) := by
  refine (show zBack zY 377 5 8 [some (zR (some 0)), some (zI x1), some (zI x2), some (zR (some a3)), none] [zI y1, zR (some ay0)] (some (.inr 0, h)) = zY 377 19 [some (zR (some 0)), some (zI x1), some (zI x2), some (zR (some a3)), none] [] h from rfl).trans ?_
  refine (show zY 377 19 [some (zR (some 0)), some (zI x1), some (zI x2), some (zR (some a3)), none] [] h = gd (inR (2)) (gd (([] : List zV).isEmpty = true ∧ (zrk 377 = 1 ∨ zrk 377 = 6 ∧ ((2 : Int) = 0 ∨ (2 : Int) = 1))) (some (.inl (some (zI 2)), h))) from zGo 2 377 19 _ _ _).trans ?_
  refine (gd_t (by decide) _).trans ?_
  exact gd_t (⟨rfl, Or.inl rfl⟩) _
theorem q_L_setPrice {h : zH} {x1 : Int} {x2 : Int} {a3 : Nat} (KC : KC h) (ta3 : hT h a3 = 23) (na3 : a3 < hN h) : zC 378 [zR (some 0), zI x1, zI x2, zR (some a3)] h =
    zBack zY 378 5 8 [some (zR (some 0)), some (zI x1), some (zI x2), some (zR (some a3)), none] [zI 0, zR (some a3)] (zC 198 [zR (some 0), zI x1, zI x2] h) := by
  refine (show zC 378 [zR (some 0), zI x1, zI x2, zR (some a3)] h = gd (inR (0)) (gd (false = zctor 198 ∧ zcs [zI 0, zR (some a3)] ≤ 8 ∧ zrm 378 (zrf 198 + 1) (8 + (zmaxl 198 + 11) + zrl 198) = true ∧ zcs [zR (some 0), zI x1, zI x2] ≤ zmaxl 198) (gd (zob h (some 0) 11) (zBack zY 378 5 8 [some (zR (some 0)), some (zI x1), some (zI x2), some (zR (some a3)), none] [zI 0, zR (some a3)] (zC 198 [zR (some 0), zI x1, zI x2] h)))) from zGo 6 378 0 _ _ _).trans ?_
  refine (gd_t (by decide) _).trans ?_
  refine (gd_t (⟨rfl, Nat.le_of_ble_eq_true rfl, rfl, Nat.le_of_ble_eq_true rfl⟩) _).trans ?_
  refine (gd_t (⟨rfl, (PTC KC 0 _ rfl rfl), (PNC KC 0 rfl)⟩) _).trans ?_
  rfl
theorem q_L_setPrice_r8 {h : zH} {x1 : Int} {x2 : Int} {a3 : Nat} {ay0 : Nat} {y1 : Int} {y : Int} (KC : KC h) (ta3 : hT h a3 = 23) (na3 : a3 < hN h) (tay0 : hT h ay0 = 23) (nay0 : ay0 < hN h) : zBack zY 378 5 8 [some (zR (some 0)), some (zI x1), some (zI x2), some (zR (some a3)), none] [zI y1, zR (some ay0)] (some (.inl (some (zI y)), h)) =
    gd (0 ≤ y1 ∧ y1 < (hL h ay0 : Int)) (
    some (.inl (some (zI 0)), (sJ h ay0 y1.toNat (zi2l y)))) := by
  refine (show zBack zY 378 5 8 [some (zR (some 0)), some (zI x1), some (zI x2), some (zR (some a3)), none] [zI y1, zR (some ay0)] (some (.inl (some (zI y)), h)) = gd (zokw h (some ay0) 23 y1) (gd (inR (0)) (gd (([] : List zV).isEmpty = true ∧ (zrk 378 = 1 ∨ zrk 378 = 6 ∧ ((0 : Int) = 0 ∨ (0 : Int) = 1))) (some (.inl (some (zI 0)), (sJ h ay0 y1.toNat (zi2l y)))))) from zGo 5 378 8 _ _ _).trans ?_
  refine gd_c (ciw tay0 nay0 rfl) (fun c0 => ?_)
  refine (gd_t (by decide) _).trans ?_
  refine (gd_t (⟨rfl, Or.inl rfl⟩) _).trans ?_
  rfl
theorem q_L_setPrice_x3 {h : zH} {x1 : Int} {x2 : Int} {a3 : Nat} {ay0 : Nat} {y1 : Int} (KC : KC h) (ta3 : hT h a3 = 23) (na3 : a3 < hN h) (tay0 : hT h ay0 = 23) (nay0 : ay0 < hN h) : zBack zY 378 5 8 [some (zR (some 0)), some (zI x1), some (zI x2), some (zR (some a3)), none] [zI y1, zR (some ay0)] (some (.inr 3, h)) = some (.inl (some (zI 1)), h) := by
  refine (show zBack zY 378 5 8 [some (zR (some 0)), some (zI x1), some (zI x2), some (zR (some a3)), none] [zI y1, zR (some ay0)] (some (.inr 3, h)) = zY 378 15 [some (zR (some 0)), some (zI x1), some (zI x2), some (zR (some a3)), none] [] h from rfl).trans ?_
  refine (show zY 378 15 [some (zR (some 0)), some (zI x1), some (zI x2), some (zR (some a3)), none] [] h = gd (inR (1)) (gd (([] : List zV).isEmpty = true ∧ (zrk 378 = 1 ∨ zrk 378 = 6 ∧ ((1 : Int) = 0 ∨ (1 : Int) = 1))) (some (.inl (some (zI 1)), h))) from zGo 2 378 15 _ _ _).trans ?_
  refine (gd_t (by decide) _).trans ?_
  exact gd_t (⟨rfl, Or.inl rfl⟩) _
theorem q_L_setPrice_x0 {h : zH} {x1 : Int} {x2 : Int} {a3 : Nat} {ay0 : Nat} {y1 : Int} (KC : KC h) (ta3 : hT h a3 = 23) (na3 : a3 < hN h) (tay0 : hT h ay0 = 23) (nay0 : ay0 < hN h) : zBack zY 378 5 8 [some (zR (some 0)), some (zI x1), some (zI x2), some (zR (some a3)), none] [zI y1, zR (some ay0)] (some (.inr 0, h)) = some (.inl (some (zI 2)), h) := by
  refine (show zBack zY 378 5 8 [some (zR (some 0)), some (zI x1), some (zI x2), some (zR (some a3)), none] [zI y1, zR (some ay0)] (some (.inr 0, h)) = zY 378 19 [some (zR (some 0)), some (zI x1), some (zI x2), some (zR (some a3)), none] [] h from rfl).trans ?_
  refine (show zY 378 19 [some (zR (some 0)), some (zI x1), some (zI x2), some (zR (some a3)), none] [] h = gd (inR (2)) (gd (([] : List zV).isEmpty = true ∧ (zrk 378 = 1 ∨ zrk 378 = 6 ∧ ((2 : Int) = 0 ∨ (2 : Int) = 1))) (some (.inl (some (zI 2)), h))) from zGo 2 378 19 _ _ _).trans ?_
  refine (gd_t (by decide) _).trans ?_
  exact gd_t (⟨rfl, Or.inl rfl⟩) _
theorem q_L_restore {h : zH} {x1 : Int} {a2 : Nat} (KC : KC h) (ta2 : hT h a2 = 23) (na2 : a2 < hN h) : zC 379 [zR (some 0), zI x1, zR (some a2)] h =
    zBack zY 379 4 7 [some (zR (some 0)), some (zI x1), some (zR (some a2)), none] [zI 0, zR (some a2)] (zC 199 [zR (some 0), zI x1] h) := by
  refine (show zC 379 [zR (some 0), zI x1, zR (some a2)] h = gd (inR (0)) (gd (false = zctor 199 ∧ zcs [zI 0, zR (some a2)] ≤ 8 ∧ zrm 379 (zrf 199 + 1) (8 + (zmaxl 199 + 11) + zrl 199) = true ∧ zcs [zR (some 0), zI x1] ≤ zmaxl 199) (gd (zob h (some 0) 11) (zBack zY 379 4 7 [some (zR (some 0)), some (zI x1), some (zR (some a2)), none] [zI 0, zR (some a2)] (zC 199 [zR (some 0), zI x1] h)))) from zGo 5 379 0 _ _ _).trans ?_
  refine (gd_t (by decide) _).trans ?_
  refine (gd_t (⟨rfl, Nat.le_of_ble_eq_true rfl, rfl, Nat.le_of_ble_eq_true rfl⟩) _).trans ?_
  refine (gd_t (⟨rfl, (PTC KC 0 _ rfl rfl), (PNC KC 0 rfl)⟩) _).trans ?_
  rfl
theorem q_L_restore_r7 {h : zH} {x1 : Int} {a2 : Nat} {ay0 : Nat} {y1 : Int} {y : Int} (KC : KC h) (ta2 : hT h a2 = 23) (na2 : a2 < hN h) (tay0 : hT h ay0 = 23) (nay0 : ay0 < hN h) : zBack zY 379 4 7 [some (zR (some 0)), some (zI x1), some (zR (some a2)), none] [zI y1, zR (some ay0)] (some (.inl (some (zI y)), h)) =
    gd (0 ≤ y1 ∧ y1 < (hL h ay0 : Int)) (
    some (.inl (some (zI 0)), (sJ h ay0 y1.toNat (zi2l y)))) := by
  refine (show zBack zY 379 4 7 [some (zR (some 0)), some (zI x1), some (zR (some a2)), none] [zI y1, zR (some ay0)] (some (.inl (some (zI y)), h)) = gd (zokw h (some ay0) 23 y1) (gd (inR (0)) (gd (([] : List zV).isEmpty = true ∧ (zrk 379 = 1 ∨ zrk 379 = 6 ∧ ((0 : Int) = 0 ∨ (0 : Int) = 1))) (some (.inl (some (zI 0)), (sJ h ay0 y1.toNat (zi2l y)))))) from zGo 5 379 7 _ _ _).trans ?_
  refine gd_c (ciw tay0 nay0 rfl) (fun c0 => ?_)
  refine (gd_t (by decide) _).trans ?_
  refine (gd_t (⟨rfl, Or.inl rfl⟩) _).trans ?_
  rfl
theorem q_L_restore_x0 {h : zH} {x1 : Int} {a2 : Nat} {ay0 : Nat} {y1 : Int} (KC : KC h) (ta2 : hT h a2 = 23) (na2 : a2 < hN h) (tay0 : hT h ay0 = 23) (nay0 : ay0 < hN h) : zBack zY 379 4 7 [some (zR (some 0)), some (zI x1), some (zR (some a2)), none] [zI y1, zR (some ay0)] (some (.inr 0, h)) = some (.inl (some (zI 1)), h) := by
  refine (show zBack zY 379 4 7 [some (zR (some 0)), some (zI x1), some (zR (some a2)), none] [zI y1, zR (some ay0)] (some (.inr 0, h)) = zY 379 13 [some (zR (some 0)), some (zI x1), some (zR (some a2)), none] [] h from rfl).trans ?_
  refine (show zY 379 13 [some (zR (some 0)), some (zI x1), some (zR (some a2)), none] [] h = gd (inR (1)) (gd (([] : List zV).isEmpty = true ∧ (zrk 379 = 1 ∨ zrk 379 = 6 ∧ ((1 : Int) = 0 ∨ (1 : Int) = 1))) (some (.inl (some (zI 1)), h))) from zGo 2 379 13 _ _ _).trans ?_
  refine (gd_t (by decide) _).trans ?_
  exact gd_t (⟨rfl, Or.inl rfl⟩) _
theorem q_L_restore_x1 {h : zH} {x1 : Int} {a2 : Nat} {ay0 : Nat} {y1 : Int} (KC : KC h) (ta2 : hT h a2 = 23) (na2 : a2 < hN h) (tay0 : hT h ay0 = 23) (nay0 : ay0 < hN h) : zBack zY 379 4 7 [some (zR (some 0)), some (zI x1), some (zR (some a2)), none] [zI y1, zR (some ay0)] (some (.inr 1, h)) = some (.inl (some (zI 2)), h) := by
  refine (show zBack zY 379 4 7 [some (zR (some 0)), some (zI x1), some (zR (some a2)), none] [zI y1, zR (some ay0)] (some (.inr 1, h)) = zY 379 16 [some (zR (some 0)), some (zI x1), some (zR (some a2)), none] [] h from rfl).trans ?_
  refine (show zY 379 16 [some (zR (some 0)), some (zI x1), some (zR (some a2)), none] [] h = gd (inR (2)) (gd (([] : List zV).isEmpty = true ∧ (zrk 379 = 1 ∨ zrk 379 = 6 ∧ ((2 : Int) = 0 ∨ (2 : Int) = 1))) (some (.inl (some (zI 2)), h))) from zGo 2 379 16 _ _ _).trans ?_
  refine (gd_t (by decide) _).trans ?_
  exact gd_t (⟨rfl, Or.inl rfl⟩) _
theorem q_L_undo {h : zH} {a1 : Nat} (KC : KC h) (ta1 : hT h a1 = 23) (na1 : a1 < hN h) : zC 380 [zR (some 0), zR (some a1)] h =
    zBack zY 380 3 6 [some (zR (some 0)), some (zR (some a1)), none] [zI 0, zR (some a1)] (zC 201 [zR (some 0)] h) := by
  refine (show zC 380 [zR (some 0), zR (some a1)] h = gd (inR (0)) (gd (false = zctor 201 ∧ zcs [zI 0, zR (some a1)] ≤ 8 ∧ zrm 380 (zrf 201 + 1) (8 + (zmaxl 201 + 11) + zrl 201) = true ∧ zcs [zR (some 0)] ≤ zmaxl 201) (gd (zob h (some 0) 11) (zBack zY 380 3 6 [some (zR (some 0)), some (zR (some a1)), none] [zI 0, zR (some a1)] (zC 201 [zR (some 0)] h)))) from zGo 4 380 0 _ _ _).trans ?_
  refine (gd_t (by decide) _).trans ?_
  refine (gd_t (⟨rfl, Nat.le_of_ble_eq_true rfl, rfl, Nat.le_of_ble_eq_true rfl⟩) _).trans ?_
  refine (gd_t (⟨rfl, (PTC KC 0 _ rfl rfl), (PNC KC 0 rfl)⟩) _).trans ?_
  rfl
theorem q_L_undo_r6 {h : zH} {a1 : Nat} {ay0 : Nat} {y1 : Int} {y : Int} (KC : KC h) (ta1 : hT h a1 = 23) (na1 : a1 < hN h) (tay0 : hT h ay0 = 23) (nay0 : ay0 < hN h) : zBack zY 380 3 6 [some (zR (some 0)), some (zR (some a1)), none] [zI y1, zR (some ay0)] (some (.inl (some (zI y)), h)) =
    gd (0 ≤ y1 ∧ y1 < (hL h ay0 : Int)) (
    some (.inl (some (zI 0)), (sJ h ay0 y1.toNat (zi2l y)))) := by
  refine (show zBack zY 380 3 6 [some (zR (some 0)), some (zR (some a1)), none] [zI y1, zR (some ay0)] (some (.inl (some (zI y)), h)) = gd (zokw h (some ay0) 23 y1) (gd (inR (0)) (gd (([] : List zV).isEmpty = true ∧ (zrk 380 = 1 ∨ zrk 380 = 6 ∧ ((0 : Int) = 0 ∨ (0 : Int) = 1))) (some (.inl (some (zI 0)), (sJ h ay0 y1.toNat (zi2l y)))))) from zGo 5 380 6 _ _ _).trans ?_
  refine gd_c (ciw tay0 nay0 rfl) (fun c0 => ?_)
  refine (gd_t (by decide) _).trans ?_
  refine (gd_t (⟨rfl, Or.inl rfl⟩) _).trans ?_
  rfl
theorem q_L_undo_x1 {h : zH} {a1 : Nat} {ay0 : Nat} {y1 : Int} (KC : KC h) (ta1 : hT h a1 = 23) (na1 : a1 < hN h) (tay0 : hT h ay0 = 23) (nay0 : ay0 < hN h) : zBack zY 380 3 6 [some (zR (some 0)), some (zR (some a1)), none] [zI y1, zR (some ay0)] (some (.inr 1, h)) = some (.inl (some (zI 1)), h) := by
  refine (show zBack zY 380 3 6 [some (zR (some 0)), some (zR (some a1)), none] [zI y1, zR (some ay0)] (some (.inr 1, h)) = zY 380 12 [some (zR (some 0)), some (zR (some a1)), none] [] h from rfl).trans ?_
  refine (show zY 380 12 [some (zR (some 0)), some (zR (some a1)), none] [] h = gd (inR (1)) (gd (([] : List zV).isEmpty = true ∧ (zrk 380 = 1 ∨ zrk 380 = 6 ∧ ((1 : Int) = 0 ∨ (1 : Int) = 1))) (some (.inl (some (zI 1)), h))) from zGo 2 380 12 _ _ _).trans ?_
  refine (gd_t (by decide) _).trans ?_
  exact gd_t (⟨rfl, Or.inl rfl⟩) _
theorem q_L_save {h : zH} {x1 : Int} {a2 : Nat} (KC : KC h) (ta2 : hT h a2 = 23) (na2 : a2 < hN h) : zC 381 [zR (some 0), zI x1, zR (some a2)] h =
    zBack zY 381 4 7 [some (zR (some 0)), some (zI x1), some (zR (some a2)), none] [zI 0, zR (some a2)] (zC 202 [zR (some 0), zI x1] h) := by
  refine (show zC 381 [zR (some 0), zI x1, zR (some a2)] h = gd (inR (0)) (gd (false = zctor 202 ∧ zcs [zI 0, zR (some a2)] ≤ 8 ∧ zrm 381 (zrf 202 + 1) (8 + (zmaxl 202 + 11) + zrl 202) = true ∧ zcs [zR (some 0), zI x1] ≤ zmaxl 202) (gd (zob h (some 0) 11) (zBack zY 381 4 7 [some (zR (some 0)), some (zI x1), some (zR (some a2)), none] [zI 0, zR (some a2)] (zC 202 [zR (some 0), zI x1] h)))) from zGo 5 381 0 _ _ _).trans ?_
  refine (gd_t (by decide) _).trans ?_
  refine (gd_t (⟨rfl, Nat.le_of_ble_eq_true rfl, rfl, Nat.le_of_ble_eq_true rfl⟩) _).trans ?_
  refine (gd_t (⟨rfl, (PTC KC 0 _ rfl rfl), (PNC KC 0 rfl)⟩) _).trans ?_
  rfl
theorem q_L_save_r7 {h : zH} {x1 : Int} {a2 : Nat} {ay0 : Nat} {y1 : Int} {y : Int} (KC : KC h) (ta2 : hT h a2 = 23) (na2 : a2 < hN h) (tay0 : hT h ay0 = 23) (nay0 : ay0 < hN h) : zBack zY 381 4 7 [some (zR (some 0)), some (zI x1), some (zR (some a2)), none] [zI y1, zR (some ay0)] (some (.inl (some (zI y)), h)) =
    gd (0 ≤ y1 ∧ y1 < (hL h ay0 : Int)) (
    some (.inl (some (zI 0)), (sJ h ay0 y1.toNat (zi2l y)))) := by
  refine (show zBack zY 381 4 7 [some (zR (some 0)), some (zI x1), some (zR (some a2)), none] [zI y1, zR (some ay0)] (some (.inl (some (zI y)), h)) = gd (zokw h (some ay0) 23 y1) (gd (inR (0)) (gd (([] : List zV).isEmpty = true ∧ (zrk 381 = 1 ∨ zrk 381 = 6 ∧ ((0 : Int) = 0 ∨ (0 : Int) = 1))) (some (.inl (some (zI 0)), (sJ h ay0 y1.toNat (zi2l y)))))) from zGo 5 381 7 _ _ _).trans ?_
  refine gd_c (ciw tay0 nay0 rfl) (fun c0 => ?_)
  refine (gd_t (by decide) _).trans ?_
  refine (gd_t (⟨rfl, Or.inl rfl⟩) _).trans ?_
  rfl
theorem q_L_save_x0 {h : zH} {x1 : Int} {a2 : Nat} {ay0 : Nat} {y1 : Int} (KC : KC h) (ta2 : hT h a2 = 23) (na2 : a2 < hN h) (tay0 : hT h ay0 = 23) (nay0 : ay0 < hN h) : zBack zY 381 4 7 [some (zR (some 0)), some (zI x1), some (zR (some a2)), none] [zI y1, zR (some ay0)] (some (.inr 0, h)) = some (.inl (some (zI 1)), h) := by
  refine (show zBack zY 381 4 7 [some (zR (some 0)), some (zI x1), some (zR (some a2)), none] [zI y1, zR (some ay0)] (some (.inr 0, h)) = zY 381 13 [some (zR (some 0)), some (zI x1), some (zR (some a2)), none] [] h from rfl).trans ?_
  refine (show zY 381 13 [some (zR (some 0)), some (zI x1), some (zR (some a2)), none] [] h = gd (inR (1)) (gd (([] : List zV).isEmpty = true ∧ (zrk 381 = 1 ∨ zrk 381 = 6 ∧ ((1 : Int) = 0 ∨ (1 : Int) = 1))) (some (.inl (some (zI 1)), h))) from zGo 2 381 13 _ _ _).trans ?_
  refine (gd_t (by decide) _).trans ?_
  exact gd_t (⟨rfl, Or.inl rfl⟩) _
