/-! The reference: wrong states, duties. -/
theorem q_M_isWrong {h : zH} {x1 : Int} (KM : KM h) : zC 306 [zR (some 177), zI x1] h =
    zBack zY 306 2 5 [some (zR (some 177)), some (zI x1)] [] (zC 302 [zR (some 177), zI x1] h) := by
  refine (show zC 306 [zR (some 177), zI x1] h = gd (false = zctor 302 ∧ zcs [] ≤ 8 ∧ zrm 306 (zrf 302 + 1) (8 + (zmaxl 302 + 11) + zrl 302) = true ∧ zcs [zR (some 177), zI x1] ≤ zmaxl 302) (gd (zob h (some 177) 12) (zBack zY 306 2 5 [some (zR (some 177)), some (zI x1)] [] (zC 302 [zR (some 177), zI x1] h))) from zGo 3 306 0 _ _ _).trans ?_
  refine (gd_t (⟨rfl, Nat.le_of_ble_eq_true rfl, rfl, Nat.le_of_ble_eq_true rfl⟩) _).trans ?_
  refine (gd_t (⟨rfl, (PTM KM 177 _ rfl rfl), (PNM KM 177 rfl)⟩) _).trans ?_
  rfl
theorem q_M_isWrong_r5 {h : zH} {x1 : Int} {y : Int} (KM : KM h) : zBack zY 306 2 5 [some (zR (some 177)), some (zI x1)] [] (some (.inl (some (zI y)), h)) =
    if y = 0 then
      some (.inl (some (zI 0)), h)
    else
      zBack zY 306 10 13 [some (zR (some 177)), some (zI x1)] [] (zC 296 [zR (some 177), zI x1] h) := by
  refine (show zBack zY 306 2 5 [some (zR (some 177)), some (zI x1)] [] (some (.inl (some (zI y)), h)) = if y = 0 then zY 306 33 [some (zR (some 177)), some (zI x1)] [] h else zY 306 8 [some (zR (some 177)), some (zI x1)] [] h from zGo 1 306 5 _ _ _).trans ?_
  refine iteC (fun c0 => ?_) (fun c0 => ?_)
  · skip
    refine (show zY 306 33 [some (zR (some 177)), some (zI x1)] [] h = gd (inR (0)) (gd (([] : List zV).isEmpty = true ∧ (zrk 306 = 1 ∨ zrk 306 = 6 ∧ ((0 : Int) = 0 ∨ (0 : Int) = 1))) (some (.inl (some (zI 0)), h))) from zGo 2 306 33 _ _ _).trans ?_
    refine (gd_t (by decide) _).trans ?_
    refine (gd_t (⟨rfl, Or.inr ⟨rfl, by decide⟩⟩) _).trans ?_
    rfl
  · skip
    refine (show zY 306 8 [some (zR (some 177)), some (zI x1)] [] h = gd (false = zctor 296 ∧ zcs [] ≤ 8 ∧ zrm 306 (zrf 296 + 1) (8 + (zmaxl 296 + 11) + zrl 296) = true ∧ zcs [zR (some 177), zI x1] ≤ zmaxl 296) (gd (zob h (some 177) 12) (zBack zY 306 10 13 [some (zR (some 177)), some (zI x1)] [] (zC 296 [zR (some 177), zI x1] h))) from zGo 3 306 8 _ _ _).trans ?_
    refine (gd_t (⟨rfl, Nat.le_of_ble_eq_true rfl, rfl, Nat.le_of_ble_eq_true rfl⟩) _).trans ?_
    refine (gd_t (⟨rfl, (PTM KM 177 _ rfl rfl), (PNM KM 177 rfl)⟩) _).trans ?_
    rfl
theorem q_M_isWrong_r13 {h : zH} {x1 : Int} {y : Int} (KM : KM h) : zBack zY 306 10 13 [some (zR (some 177)), some (zI x1)] [] (some (.inl (some (zI y)), h)) =
    if y = 0 then
      some (.inl (some (zI 1)), h)
    else
      zBack zY 306 22 25 [some (zR (some 177)), some (zI x1)] [] (zC 249 [zR (some 177), zI 1, zI (hI h 177 28)] h) := by
  refine (show zBack zY 306 10 13 [some (zR (some 177)), some (zI x1)] [] (some (.inl (some (zI y)), h)) = if y = 0 then zY 306 29 [some (zR (some 177)), some (zI x1)] [] h else zY 306 16 [some (zR (some 177)), some (zI x1)] [] h from zGo 1 306 13 _ _ _).trans ?_
  refine iteC (fun c0 => ?_) (fun c0 => ?_)
  · skip
    refine (show zY 306 29 [some (zR (some 177)), some (zI x1)] [] h = gd (inR (1)) (gd (([] : List zV).isEmpty = true ∧ (zrk 306 = 1 ∨ zrk 306 = 6 ∧ ((1 : Int) = 0 ∨ (1 : Int) = 1))) (some (.inl (some (zI 1)), h))) from zGo 3 306 29 _ _ _).trans ?_
    refine (gd_t (by decide) _).trans ?_
    refine (gd_t (⟨rfl, Or.inr ⟨rfl, by decide⟩⟩) _).trans ?_
    rfl
  · skip
    refine (show zY 306 16 [some (zR (some 177)), some (zI x1)] [] h = gd (inR (1)) (gd (zob h (some 177) 12) (gd (false = zctor 249 ∧ zcs [] ≤ 8 ∧ zrm 306 (zrf 249 + 1) (8 + (zmaxl 249 + 11) + zrl 249) = true ∧ zcs [zR (some 177), zI 1, zI (hI h 177 28)] ≤ zmaxl 249) (gd (zob h (some 177) 12) (zBack zY 306 22 25 [some (zR (some 177)), some (zI x1)] [] (zC 249 [zR (some 177), zI 1, zI (hI h 177 28)] h))))) from zGo 5 306 16 _ _ _).trans ?_
    refine (gd_t (by decide) _).trans ?_
    refine (gd_t (⟨rfl, (PTM KM 177 _ rfl rfl), (PNM KM 177 rfl)⟩) _).trans ?_
    refine (gd_t (⟨rfl, Nat.le_of_ble_eq_true rfl, rfl, Nat.le_of_ble_eq_true rfl⟩) _).trans ?_
    refine (gd_t (⟨rfl, (PTM KM 177 _ rfl rfl), (PNM KM 177 rfl)⟩) _).trans ?_
    rfl
theorem q_M_isWrong_r25 {h : zH} {x1 : Int} {y : Int} (KM : KM h) : zBack zY 306 22 25 [some (zR (some 177)), some (zI x1)] [] (some (.inl (some (zI y)), h)) =
    if y = 1 then
      some (.inl (some (zI 0)), h)
    else
      some (.inl (some (zI 1)), h) := by
  refine (show zBack zY 306 22 25 [some (zR (some 177)), some (zI x1)] [] (some (.inl (some (zI y)), h)) = gd (inR (1)) (if y = 1 then zY 306 33 [some (zR (some 177)), some (zI x1)] [] h else zY 306 29 [some (zR (some 177)), some (zI x1)] [] h) from zGo 2 306 25 _ _ _).trans ?_
  refine (gd_t (by decide) _).trans ?_
  refine iteC (fun c0 => ?_) (fun c0 => ?_)
  · skip
    refine (show zY 306 33 [some (zR (some 177)), some (zI x1)] [] h = gd (inR (0)) (gd (([] : List zV).isEmpty = true ∧ (zrk 306 = 1 ∨ zrk 306 = 6 ∧ ((0 : Int) = 0 ∨ (0 : Int) = 1))) (some (.inl (some (zI 0)), h))) from zGo 2 306 33 _ _ _).trans ?_
    refine (gd_t (by decide) _).trans ?_
    refine (gd_t (⟨rfl, Or.inr ⟨rfl, by decide⟩⟩) _).trans ?_
    rfl
  · skip
    refine (show zY 306 29 [some (zR (some 177)), some (zI x1)] [] h = gd (inR (1)) (gd (([] : List zV).isEmpty = true ∧ (zrk 306 = 1 ∨ zrk 306 = 6 ∧ ((1 : Int) = 0 ∨ (1 : Int) = 1))) (some (.inl (some (zI 1)), h))) from zGo 3 306 29 _ _ _).trans ?_
    refine (gd_t (by decide) _).trans ?_
    refine (gd_t (⟨rfl, Or.inr ⟨rfl, by decide⟩⟩) _).trans ?_
    rfl
theorem q_M_wrongNow {h : zH} (KM : KM h) : zC 305 [zR (some 177)] h =
    zY 305 4 [some (zR (some 177)), some (zJ (0#64)), none, some (zI 0)] [] h := by
  refine (show zC 305 [zR (some 177)] h = gd (inR (0)) (zY 305 4 [some (zR (some 177)), some (zJ (0#64)), none, some (zI 0)] [] h) from zGo 4 305 0 _ _ _).trans ?_
  refine (gd_t (by decide) _).trans ?_
  rfl
theorem q_M_wrongNow_4 {h : zH} {x1 : BitVec 64} {x3 : Int} (KM : KM h) : zY 305 4 [some (zR (some 177)), some (zJ x1), none, some (zI x3)] [] h =
    if x3 < 64 then
      zBack zY 305 13 16 [some (zR (some 177)), some (zJ x1), none, some (zI x3)] [zJ x1] (zC 306 [zR (some 177), zI x3] h)
    else
      some (.inl (some (zJ x1)), h) := by
  refine (show zY 305 4 [some (zR (some 177)), some (zJ x1), none, some (zI x3)] [] h = gd (-128 ≤ (64 : Int) ∧ (64 : Int) < 128) (if x3 < 64 then zY 305 10 [some (zR (some 177)), some (zJ x1), none, some (zI x3)] [] h else zY 305 34 [some (zR (some 177)), some (zJ x1), none, some (zI x3)] [] h) from zGo 3 305 4 _ _ _).trans ?_
  refine (gd_t (by decide) _).trans ?_
  refine iteC (fun c0 => ?_) (fun c0 => ?_)
  · skip
    refine (show zY 305 10 [some (zR (some 177)), some (zJ x1), none, some (zI x3)] [] h = gd (false = zctor 306 ∧ zcs [zJ x1] ≤ 8 ∧ zrm 305 (zrf 306 + 1) (8 + (zmaxl 306 + 11) + zrl 306) = true ∧ zcs [zR (some 177), zI x3] ≤ zmaxl 306) (gd (zob h (some 177) 12) (zBack zY 305 13 16 [some (zR (some 177)), some (zJ x1), none, some (zI x3)] [zJ x1] (zC 306 [zR (some 177), zI x3] h))) from zGo 4 305 10 _ _ _).trans ?_
    refine (gd_t (⟨rfl, Nat.le_of_ble_eq_true rfl, rfl, Nat.le_of_ble_eq_true rfl⟩) _).trans ?_
    refine (gd_t (⟨rfl, (PTM KM 177 _ rfl rfl), (PNM KM 177 rfl)⟩) _).trans ?_
    rfl
  · skip
    refine (show zY 305 34 [some (zR (some 177)), some (zJ x1), none, some (zI x3)] [] h = gd (([] : List zV).isEmpty = true ∧ zrk 305 = 2) (some (.inl (some (zJ x1)), h)) from zGo 2 305 34 _ _ _).trans ?_
    refine (gd_t (⟨rfl, rfl⟩) _).trans ?_
    rfl
theorem q_M_wrongNow_r16 {h : zH} {x1 : BitVec 64} {x3 : Int} {y0 : BitVec 64} {y : Int} (KM : KM h) : zBack zY 305 13 16 [some (zR (some 177)), some (zJ x1), none, some (zI x3)] [zJ y0] (some (.inl (some (zI y)), h)) =
    if y = 0 then
      gd (-2147483648 ≤ x3 + 1 ∧ x3 + 1 < 2147483648) (
      zY 305 4 [some (zR (some 177)), some (zJ (y0 ||| (0#64))), none, some (zI (x3 + 1))] [] h)
    else
      gd (-2147483648 ≤ x3 + 1 ∧ x3 + 1 < 2147483648) (
      zY 305 4 [some (zR (some 177)), some (zJ (y0 ||| (zlshl (1#64) x3))), none, some (zI (x3 + 1))] [] h) := by
  refine (show zBack zY 305 13 16 [some (zR (some 177)), some (zJ x1), none, some (zI x3)] [zJ y0] (some (.inl (some (zI y)), h)) = if y = 0 then zY 305 25 [some (zR (some 177)), some (zJ x1), none, some (zI x3)] [zJ y0] h else zY 305 19 [some (zR (some 177)), some (zJ x1), none, some (zI x3)] [zJ y0] h from zGo 1 305 16 _ _ _).trans ?_
  refine iteC (fun c0 => ?_) (fun c0 => ?_)
  · skip
    refine (show zY 305 25 [some (zR (some 177)), some (zJ x1), none, some (zI x3)] [zJ y0] h = gd (inR (x3 + 1)) (gd (inR (1)) (zY 305 4 [some (zR (some 177)), some (zJ (y0 ||| (0#64))), none, some (zI (x3 + 1))] [] h)) from zGo 5 305 25 _ _ _).trans ?_
    refine gd_c Iff.rfl (fun c1 => ?_)
    refine (gd_t (by decide) _).trans ?_
    rfl
  · skip
    refine (show zY 305 19 [some (zR (some 177)), some (zJ x1), none, some (zI x3)] [zJ y0] h = gd (inR (x3 + 1)) (gd (inR (1)) (zY 305 4 [some (zR (some 177)), some (zJ (y0 ||| (zlshl (1#64) x3))), none, some (zI (x3 + 1))] [] h)) from zGo 8 305 19 _ _ _).trans ?_
    refine gd_c Iff.rfl (fun c2 => ?_)
    refine (gd_t (by decide) _).trans ?_
    rfl
theorem q_M_failingNow {h : zH} {x1 : Int} (KM : KM h) (g0 : (¬ (x1 = 0)) → (-2147483648 ≤ x1 - 1 ∧ x1 - 1 < 2147483648) → (0 ≤ (x1 - 1)) → ((¬ (((x1 - 1) / 3) < 0)) → (hI h 177 10 ≤ 24)) := by omega) : zC 261 [zR (some 177), zI x1] h =
    if x1 = 0 then
      zBack zY 261 6 9 [some (zR (some 177)), some (zI x1), none, none, none, none, none] [] (zC 248 [zR (some 177), zI 0] h)
    else
      gd (-2147483648 ≤ x1 - 1 ∧ x1 - 1 < 2147483648) (
      gd (0 ≤ (x1 - 1)) (
      gd (-2147483648 ≤ 26 + (f_M_loopAt h ((x1 - 1) / 3)) ∧ 26 + (f_M_loopAt h ((x1 - 1) / 3)) < 2147483648) (
      zBack zY 261 34 37 [some (zR (some 177)), some (zI x1), some (zI (f_M_loopAt h ((x1 - 1) / 3))), none, none, none, none] [] (zC 248 [zR (some 177), zI (26 + (f_M_loopAt h ((x1 - 1) / 3)))] h)))) := by
  refine (show zC 261 [zR (some 177), zI x1] h = if x1 = 0 then zY 261 4 [some (zR (some 177)), some (zI x1), none, none, none, none, none] [] h else zY 261 19 [some (zR (some 177)), some (zI x1), none, none, none, none, none] [] h from zGo 2 261 0 _ _ _).trans ?_
  refine iteC (fun c0 => ?_) (fun c0 => ?_)
  · skip
    refine (show zY 261 4 [some (zR (some 177)), some (zI x1), none, none, none, none, none] [] h = gd (inR (0)) (gd (false = zctor 248 ∧ zcs [] ≤ 8 ∧ zrm 261 (zrf 248 + 1) (8 + (zmaxl 248 + 11) + zrl 248) = true ∧ zcs [zR (some 177), zI 0] ≤ zmaxl 248) (gd (zob h (some 177) 12) (zBack zY 261 6 9 [some (zR (some 177)), some (zI x1), none, none, none, none, none] [] (zC 248 [zR (some 177), zI 0] h)))) from zGo 3 261 4 _ _ _).trans ?_
    refine (gd_t (by decide) _).trans ?_
    refine (gd_t (⟨rfl, Nat.le_of_ble_eq_true rfl, rfl, Nat.le_of_ble_eq_true rfl⟩) _).trans ?_
    refine (gd_t (⟨rfl, (PTM KM 177 _ rfl rfl), (PNM KM 177 rfl)⟩) _).trans ?_
    rfl
  · skip
    refine (show zY 261 19 [some (zR (some 177)), some (zI x1), none, none, none, none, none] [] h = gd (inR (1)) (gd (inR (x1 - 1)) (gd (inR (3)) (gd ((0 : Int) ≤ (x1 - 1) ∧ (0 : Int) < 3) (gd (false = zctor 263 ∧ zcs [] ≤ 8 ∧ zrm 261 (zrf 263 + 1) (8 + (zmaxl 263 + 11) + zrl 263) = true ∧ zcs [zR (some 177), zI ((x1 - 1) / 3)] ≤ zmaxl 263) (gd (zob h (some 177) 12) (zBack zY 261 25 28 [some (zR (some 177)), some (zI x1), none, none, none, none, none] [] (zC 263 [zR (some 177), zI ((x1 - 1) / 3)] h))))))) from zGo 7 261 19 _ _ _).trans ?_
    refine (gd_t (by decide) _).trans ?_
    refine gd_c Iff.rfl (fun c1 => ?_)
    refine (gd_t (by decide) _).trans ?_
    refine gd_c (idiv_c1 (by decide)) (fun c2 => ?_)
    refine (gd_t (⟨rfl, Nat.le_of_ble_eq_true rfl, rfl, Nat.le_of_ble_eq_true rfl⟩) _).trans ?_
    refine (gd_t (⟨rfl, (PTM KM 177 _ rfl rfl), (PNM KM 177 rfl)⟩) _).trans ?_
    refine (congrArg (zBack zY 261 25 28 [some (zR (some 177)), some (zI x1), none, none, none, none, none] []) (e_M_loopAt KM (g0 c0 c1 c2))).trans ?_
    refine (show zY 261 28 [some (zR (some 177)), some (zI x1), none, none, none, none, none] [zI (f_M_loopAt h ((x1 - 1) / 3))] h = gd (-128 ≤ (26 : Int) ∧ (26 : Int) < 128) (gd (inR (26 + (f_M_loopAt h ((x1 - 1) / 3)))) (gd (false = zctor 248 ∧ zcs [] ≤ 8 ∧ zrm 261 (zrf 248 + 1) (8 + (zmaxl 248 + 11) + zrl 248) = true ∧ zcs [zR (some 177), zI (26 + (f_M_loopAt h ((x1 - 1) / 3)))] ≤ zmaxl 248) (gd (zob h (some 177) 12) (zBack zY 261 34 37 [some (zR (some 177)), some (zI x1), some (zI (f_M_loopAt h ((x1 - 1) / 3))), none, none, none, none] [] (zC 248 [zR (some 177), zI (26 + (f_M_loopAt h ((x1 - 1) / 3)))] h))))) from zGo 6 261 28 _ _ _).trans ?_
    refine (gd_t (by decide) _).trans ?_
    refine gd_c Iff.rfl (fun c3 => ?_)
    refine (gd_t (⟨rfl, Nat.le_of_ble_eq_true rfl, rfl, Nat.le_of_ble_eq_true rfl⟩) _).trans ?_
    refine (gd_t (⟨rfl, (PTM KM 177 _ rfl rfl), (PNM KM 177 rfl)⟩) _).trans ?_
    rfl
theorem q_M_failingNow_r9 {h : zH} {x1 : Int} {y : BitVec 64} (KM : KM h) : zBack zY 261 6 9 [some (zR (some 177)), some (zI x1), none, none, none, none, none] [] (some (.inl (some (zJ y)), h)) =
    zBack zY 261 10 13 [some (zR (some 177)), some (zI x1), none, none, none, none, none] [zJ y] (zC 262 [zR (some 177)] h) := by
  refine (show zBack zY 261 6 9 [some (zR (some 177)), some (zI x1), none, none, none, none, none] [] (some (.inl (some (zJ y)), h)) = gd (false = zctor 262 ∧ zcs [zJ y] ≤ 8 ∧ zrm 261 (zrf 262 + 1) (8 + (zmaxl 262 + 11) + zrl 262) = true ∧ zcs [zR (some 177)] ≤ zmaxl 262) (gd (zob h (some 177) 12) (zBack zY 261 10 13 [some (zR (some 177)), some (zI x1), none, none, none, none, none] [zJ y] (zC 262 [zR (some 177)] h))) from zGo 2 261 9 _ _ _).trans ?_
  refine (gd_t (⟨rfl, Nat.le_of_ble_eq_true rfl, rfl, Nat.le_of_ble_eq_true rfl⟩) _).trans ?_
  refine (gd_t (⟨rfl, (PTM KM 177 _ rfl rfl), (PNM KM 177 rfl)⟩) _).trans ?_
  rfl
theorem q_M_failingNow_r13 {h : zH} {x1 : Int} {y0 : BitVec 64} {y : BitVec 64} (KM : KM h) : zBack zY 261 10 13 [some (zR (some 177)), some (zI x1), none, none, none, none, none] [zJ y0] (some (.inl (some (zJ y)), h)) =
    some (.inl (some (zJ (y0 &&& (y ^^^ (18446744073709551615#64))))), h) := by
  refine (show zBack zY 261 10 13 [some (zR (some 177)), some (zI x1), none, none, none, none, none] [zJ y0] (some (.inl (some (zJ y)), h)) = gd (([] : List zV).isEmpty = true ∧ zrk 261 = 2) (some (.inl (some (zJ (y0 &&& (y ^^^ (18446744073709551615#64))))), h)) from zGo 4 261 13 _ _ _).trans ?_
  refine (gd_t (⟨rfl, rfl⟩) _).trans ?_
  rfl
theorem q_M_failingNow_r37 {h : zH} {x1 : Int} {x2 : Int} {y : BitVec 64} (KM : KM h) : zBack zY 261 34 37 [some (zR (some 177)), some (zI x1), some (zI x2), none, none, none, none] [] (some (.inl (some (zJ y)), h)) =
    gd (-2147483648 ≤ 2 + x2 ∧ 2 + x2 < 2147483648) (
    zBack zY 261 42 45 [some (zR (some 177)), some (zI x1), some (zI x2), some (zJ y), none, none, none] [] (zC 248 [zR (some 177), zI (2 + x2)] h)) := by
  refine (show zBack zY 261 34 37 [some (zR (some 177)), some (zI x1), some (zI x2), none, none, none, none] [] (some (.inl (some (zJ y)), h)) = gd (inR (2)) (gd (inR (2 + x2)) (gd (false = zctor 248 ∧ zcs [] ≤ 8 ∧ zrm 261 (zrf 248 + 1) (8 + (zmaxl 248 + 11) + zrl 248) = true ∧ zcs [zR (some 177), zI (2 + x2)] ≤ zmaxl 248) (gd (zob h (some 177) 12) (zBack zY 261 42 45 [some (zR (some 177)), some (zI x1), some (zI x2), some (zJ y), none, none, none] [] (zC 248 [zR (some 177), zI (2 + x2)] h))))) from zGo 6 261 37 _ _ _).trans ?_
  refine (gd_t (by decide) _).trans ?_
  refine gd_c Iff.rfl (fun c0 => ?_)
  refine (gd_t (⟨rfl, Nat.le_of_ble_eq_true rfl, rfl, Nat.le_of_ble_eq_true rfl⟩) _).trans ?_
  refine (gd_t (⟨rfl, (PTM KM 177 _ rfl rfl), (PNM KM 177 rfl)⟩) _).trans ?_
  rfl
theorem q_M_failingNow_r45 {h : zH} {x1 : Int} {x2 : Int} {x3 : BitVec 64} {y : BitVec 64} (KM : KM h) (g0 : (-2147483648 ≤ x1 - 1 ∧ x1 - 1 < 2147483648) → (-2147483648 < (x1 - 1)) → ((Int.tmod (x1 - 1) 3) = 0) → (0 ≤ x2 ∧ x2 < 24) := by omega) (g1 : (-2147483648 ≤ x1 - 1 ∧ x1 - 1 < 2147483648) → (-2147483648 < (x1 - 1)) → ((Int.tmod (x1 - 1) 3) = 0) → ((¬ ((f_M_s h x2 5) = (-1))) → (0 ≤ (f_M_s h x2 5) ∧ (f_M_s h x2 5) < 24)) := by omega) : zBack zY 261 42 45 [some (zR (some 177)), some (zI x1), some (zI x2), some (zJ x3), none, none, none] [] (some (.inl (some (zJ y)), h)) =
    gd (-2147483648 ≤ x1 - 1 ∧ x1 - 1 < 2147483648) (
    gd (-2147483648 < (x1 - 1)) (
    if (Int.tmod (x1 - 1) 3) = 0 then
      some (.inl (some (zJ ((x3 &&& y) &&& ((f_M_rowNeed h (f_M_s h x2 5) x3) ^^^ (18446744073709551615#64))))), h)
    else
      if (Int.tmod (x1 - 1) 3) = 1 then
        zBack zY 261 111 114 [some (zR (some 177)), some (zI x1), some (zI x2), some (zJ x3), none, some (zJ y), none] [zJ (x3 &&& (y ^^^ (18446744073709551615#64)))] (zC 254 [zR (some 177), zI x2] h)
      else
        zBack zY 261 126 129 [some (zR (some 177)), some (zI x1), some (zI x2), some (zJ x3), none, some (zJ y), none] [] (zC 265 [zR (some 177), zI x2, zJ (x3 &&& y)] h))) := by
  refine (show zBack zY 261 42 45 [some (zR (some 177)), some (zI x1), some (zI x2), some (zJ x3), none, none, none] [] (some (.inl (some (zJ y)), h)) = gd (inR (1)) (gd (inR (x1 - 1)) (gd (inR (3)) (gd ((0 : Int) ≤ (x1 - 1) ∧ (0 : Int) < 3 ∨ (-2147483648 : Int) < (x1 - 1) ∧ (0 : Int) < 3) (if (Int.tmod (x1 - 1) 3) = 0 then zY 261 80 [some (zR (some 177)), some (zI x1), some (zI x2), some (zJ x3), none, some (zJ y), none] [] h else if (Int.tmod (x1 - 1) 3) = 1 then zY 261 101 [some (zR (some 177)), some (zI x1), some (zI x2), some (zJ x3), none, some (zJ y), none] [] h else zY 261 120 [some (zR (some 177)), some (zI x1), some (zI x2), some (zJ x3), none, some (zJ y), none] [] h)))) from zGo 7 261 45 _ _ _).trans ?_
  refine (gd_t (by decide) _).trans ?_
  refine gd_c Iff.rfl (fun c0 => ?_)
  refine (gd_t (by decide) _).trans ?_
  refine gd_c (irem_c1 (by decide)) (fun c1 => ?_)
  refine iteC (fun c2 => ?_) (fun c2 => ?_)
  · skip
    refine (show zY 261 80 [some (zR (some 177)), some (zI x1), some (zI x2), some (zJ x3), none, some (zJ y), none] [] h = gd (inR (5)) (gd (false = zctor 207 ∧ zcs [zR (some 177), zJ (x3 &&& y)] ≤ 8 ∧ zrm 261 (zrf 207 + 1) (8 + (zmaxl 207 + 11) + zrl 207) = true ∧ zcs [zR (some 177), zI x2, zI 5] ≤ zmaxl 207) (gd (zob h (some 177) 12) (zBack zY 261 88 91 [some (zR (some 177)), some (zI x1), some (zI x2), some (zJ x3), none, some (zJ y), none] [zR (some 177), zJ (x3 &&& y)] (zC 207 [zR (some 177), zI x2, zI 5] h)))) from zGo 8 261 80 _ _ _).trans ?_
    refine (gd_t (by decide) _).trans ?_
    refine (gd_t (⟨rfl, Nat.le_of_ble_eq_true rfl, rfl, Nat.le_of_ble_eq_true rfl⟩) _).trans ?_
    refine (gd_t (⟨rfl, (PTM KM 177 _ rfl rfl), (PNM KM 177 rfl)⟩) _).trans ?_
    refine (congrArg (zBack zY 261 88 91 [some (zR (some 177)), some (zI x1), some (zI x2), some (zJ x3), none, some (zJ y), none] [zR (some 177), zJ (x3 &&& y)]) (e_M_sx KM (g0 c0 c1 c2) (by omega))).trans ?_
    refine (show zY 261 91 [some (zR (some 177)), some (zI x1), some (zI x2), some (zJ x3), none, some (zJ y), none] [zI (f_M_s h x2 5), zR (some 177), zJ (x3 &&& y)] h = gd (false = zctor 255 ∧ zcs [zJ (x3 &&& y)] ≤ 8 ∧ zrm 261 (zrf 255 + 1) (8 + (zmaxl 255 + 11) + zrl 255) = true ∧ zcs [zR (some 177), zI (f_M_s h x2 5), zJ x3] ≤ zmaxl 255) (gd (zob h (some 177) 12) (zBack zY 261 92 95 [some (zR (some 177)), some (zI x1), some (zI x2), some (zJ x3), none, some (zJ y), none] [zJ (x3 &&& y)] (zC 255 [zR (some 177), zI (f_M_s h x2 5), zJ x3] h))) from zGo 2 261 91 _ _ _).trans ?_
    refine (gd_t (⟨rfl, Nat.le_of_ble_eq_true rfl, rfl, Nat.le_of_ble_eq_true rfl⟩) _).trans ?_
    refine (gd_t (⟨rfl, (PTM KM 177 _ rfl rfl), (PNM KM 177 rfl)⟩) _).trans ?_
    refine (congrArg (zBack zY 261 92 95 [some (zR (some 177)), some (zI x1), some (zI x2), some (zJ x3), none, some (zJ y), none] [zJ (x3 &&& y)]) (e_M_rowNeed KM (g1 c0 c1 c2))).trans ?_
    refine (show zY 261 95 [some (zR (some 177)), some (zI x1), some (zI x2), some (zJ x3), none, some (zJ y), none] [zJ (f_M_rowNeed h (f_M_s h x2 5) x3), zJ (x3 &&& y)] h = gd (([] : List zV).isEmpty = true ∧ zrk 261 = 2) (some (.inl (some (zJ ((x3 &&& y) &&& ((f_M_rowNeed h (f_M_s h x2 5) x3) ^^^ (18446744073709551615#64))))), h)) from zGo 4 261 95 _ _ _).trans ?_
    refine (gd_t (⟨rfl, rfl⟩) _).trans ?_
    rfl
  · skip
    refine iteC (fun c3 => ?_) (fun c3 => ?_)
    · skip
      refine (show zY 261 101 [some (zR (some 177)), some (zI x1), some (zI x2), some (zJ x3), none, some (zJ y), none] [] h = gd (false = zctor 254 ∧ zcs [zJ (x3 &&& (y ^^^ (18446744073709551615#64)))] ≤ 8 ∧ zrm 261 (zrf 254 + 1) (8 + (zmaxl 254 + 11) + zrl 254) = true ∧ zcs [zR (some 177), zI x2] ≤ zmaxl 254) (gd (zob h (some 177) 12) (zBack zY 261 111 114 [some (zR (some 177)), some (zI x1), some (zI x2), some (zJ x3), none, some (zJ y), none] [zJ (x3 &&& (y ^^^ (18446744073709551615#64)))] (zC 254 [zR (some 177), zI x2] h))) from zGo 8 261 101 _ _ _).trans ?_
      refine (gd_t (⟨rfl, Nat.le_of_ble_eq_true rfl, rfl, Nat.le_of_ble_eq_true rfl⟩) _).trans ?_
      refine (gd_t (⟨rfl, (PTM KM 177 _ rfl rfl), (PNM KM 177 rfl)⟩) _).trans ?_
      rfl
    · skip
      refine (show zY 261 120 [some (zR (some 177)), some (zI x1), some (zI x2), some (zJ x3), none, some (zJ y), none] [] h = gd (false = zctor 265 ∧ zcs [] ≤ 8 ∧ zrm 261 (zrf 265 + 1) (8 + (zmaxl 265 + 11) + zrl 265) = true ∧ zcs [zR (some 177), zI x2, zJ (x3 &&& y)] ≤ zmaxl 265) (gd (zob h (some 177) 12) (zBack zY 261 126 129 [some (zR (some 177)), some (zI x1), some (zI x2), some (zJ x3), none, some (zJ y), none] [] (zC 265 [zR (some 177), zI x2, zJ (x3 &&& y)] h))) from zGo 6 261 120 _ _ _).trans ?_
      refine (gd_t (⟨rfl, Nat.le_of_ble_eq_true rfl, rfl, Nat.le_of_ble_eq_true rfl⟩) _).trans ?_
      refine (gd_t (⟨rfl, (PTM KM 177 _ rfl rfl), (PNM KM 177 rfl)⟩) _).trans ?_
      rfl
theorem q_M_failingNow_r114 {h : zH} {x1 : Int} {x2 : Int} {x3 : BitVec 64} {x5 : BitVec 64} {y0 : BitVec 64} {y : BitVec 64} (KM : KM h) : zBack zY 261 111 114 [some (zR (some 177)), some (zI x1), some (zI x2), some (zJ x3), none, some (zJ x5), none] [zJ y0] (some (.inl (some (zJ y)), h)) =
    some (.inl (some (zJ (y0 &&& (y ^^^ (18446744073709551615#64))))), h) := by
  refine (show zBack zY 261 111 114 [some (zR (some 177)), some (zI x1), some (zI x2), some (zJ x3), none, some (zJ x5), none] [zJ y0] (some (.inl (some (zJ y)), h)) = gd (([] : List zV).isEmpty = true ∧ zrk 261 = 2) (some (.inl (some (zJ (y0 &&& (y ^^^ (18446744073709551615#64))))), h)) from zGo 4 261 114 _ _ _).trans ?_
  refine (gd_t (⟨rfl, rfl⟩) _).trans ?_
  rfl
theorem q_M_failingNow_r129 {h : zH} {x1 : Int} {x2 : Int} {x3 : BitVec 64} {x5 : BitVec 64} {y : BitVec 64} (KM : KM h) : zBack zY 261 126 129 [some (zR (some 177)), some (zI x1), some (zI x2), some (zJ x3), none, some (zJ x5), none] [] (some (.inl (some (zJ y)), h)) =
    some (.inl (some (zJ y)), h) := by
  refine (show zBack zY 261 126 129 [some (zR (some 177)), some (zI x1), some (zI x2), some (zJ x3), none, some (zJ x5), none] [] (some (.inl (some (zJ y)), h)) = gd (([] : List zV).isEmpty = true ∧ zrk 261 = 2) (some (.inl (some (zJ y)), h)) from zGo 1 261 129 _ _ _).trans ?_
  refine (gd_t (⟨rfl, rfl⟩) _).trans ?_
  rfl
theorem q_M_failsNow {h : zH} (KM : KM h) : zC 245 [zR (some 177)] h =
    zBack zY 245 1 4 [some (zR (some 177)), none, none] [] (zC 246 [zR (some 177)] h) := by
  refine (show zC 245 [zR (some 177)] h = gd (false = zctor 246 ∧ zcs [] ≤ 8 ∧ zrm 245 (zrf 246 + 1) (8 + (zmaxl 246 + 11) + zrl 246) = true ∧ zcs [zR (some 177)] ≤ zmaxl 246) (gd (zob h (some 177) 12) (zBack zY 245 1 4 [some (zR (some 177)), none, none] [] (zC 246 [zR (some 177)] h))) from zGo 2 245 0 _ _ _).trans ?_
  refine (gd_t (⟨rfl, Nat.le_of_ble_eq_true rfl, rfl, Nat.le_of_ble_eq_true rfl⟩) _).trans ?_
  refine (gd_t (⟨rfl, (PTM KM 177 _ rfl rfl), (PNM KM 177 rfl)⟩) _).trans ?_
  rfl
theorem q_M_failsNow_r4 {h : zH} (KM : KM h) : zBack zY 245 1 4 [some (zR (some 177)), none, none] [] (some (.inl (none), h)) =
    zY 245 8 [some (zR (some 177)), some (zI 0), some (zI 0)] [] h := by
  refine (show zBack zY 245 1 4 [some (zR (some 177)), none, none] [] (some (.inl (none), h)) = gd (inR (0)) (gd (inR (0)) (zY 245 8 [some (zR (some 177)), some (zI 0), some (zI 0)] [] h)) from zGo 4 245 4 _ _ _).trans ?_
  refine (gd_t (by decide) _).trans ?_
  refine (gd_t (by decide) _).trans ?_
  rfl
theorem q_M_failsNow_8 {h : zH} {x1 : Int} {x2 : Int} (KM : KM h) (g0 : (hI h 177 10 ≤ 24) := by omega) (g1 : (0 ≤ hI h 177 10) := by omega) : zY 245 8 [some (zR (some 177)), some (zI x1), some (zI x2)] [] h =
    if x2 < (f_M_dutyMany h) then
      zBack zY 245 19 22 [some (zR (some 177)), some (zI x1), some (zI x2)] [zI x1] (zC 261 [zR (some 177), zI x2] h)
    else
      some (.inl (some (zI x1)), h) := by
  refine (show zY 245 8 [some (zR (some 177)), some (zI x1), some (zI x2)] [] h = gd (false = zctor 244 ∧ zcs [zI x2] ≤ 8 ∧ zrm 245 (zrf 244 + 1) (8 + (zmaxl 244 + 11) + zrl 244) = true ∧ zcs [zR (some 177)] ≤ zmaxl 244) (gd (zob h (some 177) 12) (zBack zY 245 10 13 [some (zR (some 177)), some (zI x1), some (zI x2)] [zI x2] (zC 244 [zR (some 177)] h))) from zGo 3 245 8 _ _ _).trans ?_
  refine (gd_t (⟨rfl, Nat.le_of_ble_eq_true rfl, rfl, Nat.le_of_ble_eq_true rfl⟩) _).trans ?_
  refine (gd_t (⟨rfl, (PTM KM 177 _ rfl rfl), (PNM KM 177 rfl)⟩) _).trans ?_
  refine (congrArg (zBack zY 245 10 13 [some (zR (some 177)), some (zI x1), some (zI x2)] [zI x2]) (e_M_dutyManyx KM (g0) (g1))).trans ?_
  refine (show zY 245 13 [some (zR (some 177)), some (zI x1), some (zI x2)] [zI (f_M_dutyMany h), zI x2] h = if x2 < (f_M_dutyMany h) then zY 245 16 [some (zR (some 177)), some (zI x1), some (zI x2)] [] h else zY 245 40 [some (zR (some 177)), some (zI x1), some (zI x2)] [] h from zGo 1 245 13 _ _ _).trans ?_
  refine iteC (fun c0 => ?_) (fun c0 => ?_)
  · skip
    refine (show zY 245 16 [some (zR (some 177)), some (zI x1), some (zI x2)] [] h = gd (false = zctor 261 ∧ zcs [zI x1] ≤ 8 ∧ zrm 245 (zrf 261 + 1) (8 + (zmaxl 261 + 11) + zrl 261) = true ∧ zcs [zR (some 177), zI x2] ≤ zmaxl 261) (gd (zob h (some 177) 12) (zBack zY 245 19 22 [some (zR (some 177)), some (zI x1), some (zI x2)] [zI x1] (zC 261 [zR (some 177), zI x2] h))) from zGo 4 245 16 _ _ _).trans ?_
    refine (gd_t (⟨rfl, Nat.le_of_ble_eq_true rfl, rfl, Nat.le_of_ble_eq_true rfl⟩) _).trans ?_
    refine (gd_t (⟨rfl, (PTM KM 177 _ rfl rfl), (PNM KM 177 rfl)⟩) _).trans ?_
    rfl
  · skip
    refine (show zY 245 40 [some (zR (some 177)), some (zI x1), some (zI x2)] [] h = gd (([] : List zV).isEmpty = true ∧ (zrk 245 = 1 ∨ zrk 245 = 6 ∧ ((x1 : Int) = 0 ∨ (x1 : Int) = 1))) (some (.inl (some (zI x1)), h)) from zGo 2 245 40 _ _ _).trans ?_
    refine (gd_t (⟨rfl, Or.inl rfl⟩) _).trans ?_
    rfl
theorem q_M_failsNow_r22 {h : zH} {x1 : Int} {x2 : Int} {y0 : Int} {y : BitVec 64} (KM : KM h) : zBack zY 245 19 22 [some (zR (some 177)), some (zI x1), some (zI x2)] [zI y0] (some (.inl (some (zJ y)), h)) =
    if y = 0#64 then
      gd (-2147483648 ≤ y0 + 0 ∧ y0 + 0 < 2147483648) (
      gd (-2147483648 ≤ x2 + 1 ∧ x2 + 1 < 2147483648) (
      zY 245 8 [some (zR (some 177)), some (zI (y0 + 0)), some (zI (x2 + 1))] [] h))
    else
      gd (-2147483648 ≤ y0 + 1 ∧ y0 + 1 < 2147483648) (
      gd (-2147483648 ≤ x2 + 1 ∧ x2 + 1 < 2147483648) (
      zY 245 8 [some (zR (some 177)), some (zI (y0 + 1)), some (zI (x2 + 1))] [] h)) := by
  refine (show zBack zY 245 19 22 [some (zR (some 177)), some (zI x1), some (zI x2)] [zI y0] (some (.inl (some (zJ y)), h)) = if (zlcmp y (0#64)) = 0 then zY 245 27 [some (zR (some 177)), some (zI x1), some (zI x2)] [zI y0] h else zY 245 31 [some (zR (some 177)), some (zI x1), some (zI x2)] [zI y0] h from zGo 3 245 22 _ _ _).trans ?_
  refine iteL (fun c0 => ?_) (fun c0 => ?_)
  · skip
    refine (show zY 245 27 [some (zR (some 177)), some (zI x1), some (zI x2)] [zI y0] h = gd (inR (0)) (gd (inR (y0 + 0)) (gd (inR (x2 + 1)) (gd (inR (1)) (zY 245 8 [some (zR (some 177)), some (zI (y0 + 0)), some (zI (x2 + 1))] [] h)))) from zGo 6 245 27 _ _ _).trans ?_
    refine (gd_t (by decide) _).trans ?_
    refine gd_c Iff.rfl (fun c1 => ?_)
    refine gd_c Iff.rfl (fun c2 => ?_)
    refine (gd_t (by decide) _).trans ?_
    rfl
  · skip
    refine (show zY 245 31 [some (zR (some 177)), some (zI x1), some (zI x2)] [zI y0] h = gd (inR (1)) (gd (inR (y0 + 1)) (gd (inR (x2 + 1)) (gd (inR (1)) (zY 245 8 [some (zR (some 177)), some (zI (y0 + 1)), some (zI (x2 + 1))] [] h)))) from zGo 5 245 31 _ _ _).trans ?_
    refine (gd_t (by decide) _).trans ?_
    refine gd_c Iff.rfl (fun c3 => ?_)
    refine gd_c Iff.rfl (fun c4 => ?_)
    refine (gd_t (by decide) _).trans ?_
    rfl
theorem q_M_isProven {h : zH} (KM : KM h) : zC 275 [zR (some 177)] h =
    zBack zY 275 1 4 [some (zR (some 177)), none] [] (zC 246 [zR (some 177)] h) := by
  refine (show zC 275 [zR (some 177)] h = gd (false = zctor 246 ∧ zcs [] ≤ 8 ∧ zrm 275 (zrf 246 + 1) (8 + (zmaxl 246 + 11) + zrl 246) = true ∧ zcs [zR (some 177)] ≤ zmaxl 246) (gd (zob h (some 177) 12) (zBack zY 275 1 4 [some (zR (some 177)), none] [] (zC 246 [zR (some 177)] h))) from zGo 2 275 0 _ _ _).trans ?_
  refine (gd_t (⟨rfl, Nat.le_of_ble_eq_true rfl, rfl, Nat.le_of_ble_eq_true rfl⟩) _).trans ?_
  refine (gd_t (⟨rfl, (PTM KM 177 _ rfl rfl), (PNM KM 177 rfl)⟩) _).trans ?_
  rfl
theorem q_M_isProven_r4 {h : zH} (KM : KM h) : zBack zY 275 1 4 [some (zR (some 177)), none] [] (some (.inl (none), h)) =
    zY 275 6 [some (zR (some 177)), some (zI 0)] [] h := by
  refine (show zBack zY 275 1 4 [some (zR (some 177)), none] [] (some (.inl (none), h)) = gd (inR (0)) (zY 275 6 [some (zR (some 177)), some (zI 0)] [] h) from zGo 2 275 4 _ _ _).trans ?_
  refine (gd_t (by decide) _).trans ?_
  rfl
theorem q_M_isProven_6 {h : zH} {x1 : Int} (KM : KM h) (g0 : (hI h 177 10 ≤ 24) := by omega) (g1 : (0 ≤ hI h 177 10) := by omega) : zY 275 6 [some (zR (some 177)), some (zI x1)] [] h =
    if x1 < (f_M_dutyMany h) then
      zBack zY 275 16 19 [some (zR (some 177)), some (zI x1)] [] (zC 261 [zR (some 177), zI x1] h)
    else
      some (.inl (some (zI 1)), h) := by
  refine (show zY 275 6 [some (zR (some 177)), some (zI x1)] [] h = gd (false = zctor 244 ∧ zcs [zI x1] ≤ 8 ∧ zrm 275 (zrf 244 + 1) (8 + (zmaxl 244 + 11) + zrl 244) = true ∧ zcs [zR (some 177)] ≤ zmaxl 244) (gd (zob h (some 177) 12) (zBack zY 275 8 11 [some (zR (some 177)), some (zI x1)] [zI x1] (zC 244 [zR (some 177)] h))) from zGo 3 275 6 _ _ _).trans ?_
  refine (gd_t (⟨rfl, Nat.le_of_ble_eq_true rfl, rfl, Nat.le_of_ble_eq_true rfl⟩) _).trans ?_
  refine (gd_t (⟨rfl, (PTM KM 177 _ rfl rfl), (PNM KM 177 rfl)⟩) _).trans ?_
  refine (congrArg (zBack zY 275 8 11 [some (zR (some 177)), some (zI x1)] [zI x1]) (e_M_dutyManyx KM (g0) (g1))).trans ?_
  refine (show zY 275 11 [some (zR (some 177)), some (zI x1)] [zI (f_M_dutyMany h), zI x1] h = if x1 < (f_M_dutyMany h) then zY 275 14 [some (zR (some 177)), some (zI x1)] [] h else zY 275 32 [some (zR (some 177)), some (zI x1)] [] h from zGo 1 275 11 _ _ _).trans ?_
  refine iteC (fun c0 => ?_) (fun c0 => ?_)
  · skip
    refine (show zY 275 14 [some (zR (some 177)), some (zI x1)] [] h = gd (false = zctor 261 ∧ zcs [] ≤ 8 ∧ zrm 275 (zrf 261 + 1) (8 + (zmaxl 261 + 11) + zrl 261) = true ∧ zcs [zR (some 177), zI x1] ≤ zmaxl 261) (gd (zob h (some 177) 12) (zBack zY 275 16 19 [some (zR (some 177)), some (zI x1)] [] (zC 261 [zR (some 177), zI x1] h))) from zGo 3 275 14 _ _ _).trans ?_
    refine (gd_t (⟨rfl, Nat.le_of_ble_eq_true rfl, rfl, Nat.le_of_ble_eq_true rfl⟩) _).trans ?_
    refine (gd_t (⟨rfl, (PTM KM 177 _ rfl rfl), (PNM KM 177 rfl)⟩) _).trans ?_
    rfl
  · skip
    refine (show zY 275 32 [some (zR (some 177)), some (zI x1)] [] h = gd (inR (1)) (gd (([] : List zV).isEmpty = true ∧ (zrk 275 = 1 ∨ zrk 275 = 6 ∧ ((1 : Int) = 0 ∨ (1 : Int) = 1))) (some (.inl (some (zI 1)), h))) from zGo 2 275 32 _ _ _).trans ?_
    refine (gd_t (by decide) _).trans ?_
    refine (gd_t (⟨rfl, Or.inr ⟨rfl, by decide⟩⟩) _).trans ?_
    rfl
theorem q_M_isProven_r19 {h : zH} {x1 : Int} {y : BitVec 64} (KM : KM h) : zBack zY 275 16 19 [some (zR (some 177)), some (zI x1)] [] (some (.inl (some (zJ y)), h)) =
    if y = 0#64 then
      gd (-2147483648 ≤ x1 + 1 ∧ x1 + 1 < 2147483648) (
      zY 275 6 [some (zR (some 177)), some (zI (x1 + 1))] [] h)
    else
      some (.inl (some (zI 0)), h) := by
  refine (show zBack zY 275 16 19 [some (zR (some 177)), some (zI x1)] [] (some (.inl (some (zJ y)), h)) = if (zlcmp y (0#64)) = 0 then zY 275 26 [some (zR (some 177)), some (zI x1)] [] h else zY 275 24 [some (zR (some 177)), some (zI x1)] [] h from zGo 3 275 19 _ _ _).trans ?_
  refine iteL (fun c0 => ?_) (fun c0 => ?_)
  · skip
    refine (show zY 275 26 [some (zR (some 177)), some (zI x1)] [] h = gd (inR (x1 + 1)) (gd (inR (1)) (zY 275 6 [some (zR (some 177)), some (zI (x1 + 1))] [] h)) from zGo 2 275 26 _ _ _).trans ?_
    refine gd_c Iff.rfl (fun c1 => ?_)
    refine (gd_t (by decide) _).trans ?_
    rfl
  · skip
    refine (show zY 275 24 [some (zR (some 177)), some (zI x1)] [] h = gd (inR (0)) (gd (([] : List zV).isEmpty = true ∧ (zrk 275 = 1 ∨ zrk 275 = 6 ∧ ((0 : Int) = 0 ∨ (0 : Int) = 1))) (some (.inl (some (zI 0)), h))) from zGo 2 275 24 _ _ _).trans ?_
    refine (gd_t (by decide) _).trans ?_
    refine (gd_t (⟨rfl, Or.inr ⟨rfl, by decide⟩⟩) _).trans ?_
    rfl
