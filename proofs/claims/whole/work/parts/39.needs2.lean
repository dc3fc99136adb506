/-! The reference: the needs, all of them. -/
theorem q_M_needBehind {h : zH} {x1 : Int} (KM : KM h) : zC 254 [zR (some 177), zI x1] h =
    zY 254 2 [some (zR (some 177)), some (zI x1), some (zI x1), none] [] h := by
  refine (show zC 254 [zR (some 177), zI x1] h = zY 254 2 [some (zR (some 177)), some (zI x1), some (zI x1), none] [] h from zGo 2 254 0 _ _ _).trans ?_
  rfl
theorem q_M_needBehind_2 {h : zH} {x1 : Int} {x2 : Int} (KM : KM h) (g0 : (0 ≤ x2 ∧ x2 < 24) := by omega) (g1 : ((f_M_s h x2 4) = (-1)) → (¬ ((f_M_s h x2 3) = (-1))) → (0 ≤ (f_M_s h x2 3) ∧ (f_M_s h x2 3) < 24) := by omega) : zY 254 2 [some (zR (some 177)), some (zI x1), some (zI x2), none] [] h =
    if (f_M_s h x2 4) = (-1) then
      if (f_M_s h x2 3) = (-1) then
        zBack zY 254 26 29 [some (zR (some 177)), some (zI x1), some (zI x2), some (zI (f_M_s h x2 3))] [] (zC 248 [zR (some 177), zI 1] h)
      else
        if (f_M_s h (f_M_s h x2 3) 0) = 2 then
          gd (-2147483648 ≤ 26 + (f_M_s h x2 3) ∧ 26 + (f_M_s h x2 3) < 2147483648) (
          zBack zY 254 45 48 [some (zR (some 177)), some (zI x1), some (zI x2), some (zI (f_M_s h x2 3))] [] (zC 248 [zR (some 177), zI (26 + (f_M_s h x2 3))] h))
        else
          zY 254 2 [some (zR (some 177)), some (zI x1), some (zI (f_M_s h x2 3)), some (zI (f_M_s h x2 3))] [] h
    else
      gd (0 ≤ (f_M_s h x2 4) ∧ (f_M_s h x2 4) < 24) (
      some (.inl (some (zJ (hJ h 188 (f_M_s h x2 4).toNat))), h)) := by
  refine (show zY 254 2 [some (zR (some 177)), some (zI x1), some (zI x2), none] [] h = gd (inR (4)) (gd (false = zctor 207 ∧ zcs [] ≤ 8 ∧ zrm 254 (zrf 207 + 1) (8 + (zmaxl 207 + 11) + zrl 207) = true ∧ zcs [zR (some 177), zI x2, zI 4] ≤ zmaxl 207) (gd (zob h (some 177) 12) (zBack zY 254 5 8 [some (zR (some 177)), some (zI x1), some (zI x2), none] [] (zC 207 [zR (some 177), zI x2, zI 4] h)))) from zGo 4 254 2 _ _ _).trans ?_
  refine (gd_t (by decide) _).trans ?_
  refine (gd_t (⟨rfl, Nat.le_of_ble_eq_true rfl, rfl, Nat.le_of_ble_eq_true rfl⟩) _).trans ?_
  refine (gd_t (⟨rfl, (PTM KM 177 _ rfl rfl), (PNM KM 177 rfl)⟩) _).trans ?_
  refine (congrArg (zBack zY 254 5 8 [some (zR (some 177)), some (zI x1), some (zI x2), none] []) (e_M_sx KM (g0) (by omega))).trans ?_
  refine (show zY 254 8 [some (zR (some 177)), some (zI x1), some (zI x2), none] [zI (f_M_s h x2 4)] h = gd (inR (-1)) (if (f_M_s h x2 4) = (-1) then zY 254 12 [some (zR (some 177)), some (zI x1), some (zI x2), none] [] h else zY 254 54 [some (zR (some 177)), some (zI x1), some (zI x2), none] [] h) from zGo 2 254 8 _ _ _).trans ?_
  refine (gd_t (by decide) _).trans ?_
  refine iteC (fun c0 => ?_) (fun c0 => ?_)
  · skip
    refine (show zY 254 12 [some (zR (some 177)), some (zI x1), some (zI x2), none] [] h = gd (inR (3)) (gd (false = zctor 207 ∧ zcs [] ≤ 8 ∧ zrm 254 (zrf 207 + 1) (8 + (zmaxl 207 + 11) + zrl 207) = true ∧ zcs [zR (some 177), zI x2, zI 3] ≤ zmaxl 207) (gd (zob h (some 177) 12) (zBack zY 254 15 18 [some (zR (some 177)), some (zI x1), some (zI x2), none] [] (zC 207 [zR (some 177), zI x2, zI 3] h)))) from zGo 4 254 12 _ _ _).trans ?_
    refine (gd_t (by decide) _).trans ?_
    refine (gd_t (⟨rfl, Nat.le_of_ble_eq_true rfl, rfl, Nat.le_of_ble_eq_true rfl⟩) _).trans ?_
    refine (gd_t (⟨rfl, (PTM KM 177 _ rfl rfl), (PNM KM 177 rfl)⟩) _).trans ?_
    refine (congrArg (zBack zY 254 15 18 [some (zR (some 177)), some (zI x1), some (zI x2), none] []) (e_M_sx KM (g0) (by omega))).trans ?_
    refine (show zY 254 18 [some (zR (some 177)), some (zI x1), some (zI x2), none] [zI (f_M_s h x2 3)] h = gd (inR (-1)) (if (f_M_s h x2 3) = (-1) then zY 254 24 [some (zR (some 177)), some (zI x1), some (zI x2), some (zI (f_M_s h x2 3))] [] h else zY 254 30 [some (zR (some 177)), some (zI x1), some (zI x2), some (zI (f_M_s h x2 3))] [] h) from zGo 4 254 18 _ _ _).trans ?_
    refine (gd_t (by decide) _).trans ?_
    refine iteC (fun c1 => ?_) (fun c1 => ?_)
    · skip
      refine (show zY 254 24 [some (zR (some 177)), some (zI x1), some (zI x2), some (zI (f_M_s h x2 3))] [] h = gd (inR (1)) (gd (false = zctor 248 ∧ zcs [] ≤ 8 ∧ zrm 254 (zrf 248 + 1) (8 + (zmaxl 248 + 11) + zrl 248) = true ∧ zcs [zR (some 177), zI 1] ≤ zmaxl 248) (gd (zob h (some 177) 12) (zBack zY 254 26 29 [some (zR (some 177)), some (zI x1), some (zI x2), some (zI (f_M_s h x2 3))] [] (zC 248 [zR (some 177), zI 1] h)))) from zGo 3 254 24 _ _ _).trans ?_
      refine (gd_t (by decide) _).trans ?_
      refine (gd_t (⟨rfl, Nat.le_of_ble_eq_true rfl, rfl, Nat.le_of_ble_eq_true rfl⟩) _).trans ?_
      refine (gd_t (⟨rfl, (PTM KM 177 _ rfl rfl), (PNM KM 177 rfl)⟩) _).trans ?_
      rfl
    · skip
      refine (show zY 254 30 [some (zR (some 177)), some (zI x1), some (zI x2), some (zI (f_M_s h x2 3))] [] h = gd (inR (0)) (gd (false = zctor 207 ∧ zcs [] ≤ 8 ∧ zrm 254 (zrf 207 + 1) (8 + (zmaxl 207 + 11) + zrl 207) = true ∧ zcs [zR (some 177), zI (f_M_s h x2 3), zI 0] ≤ zmaxl 207) (gd (zob h (some 177) 12) (zBack zY 254 33 36 [some (zR (some 177)), some (zI x1), some (zI x2), some (zI (f_M_s h x2 3))] [] (zC 207 [zR (some 177), zI (f_M_s h x2 3), zI 0] h)))) from zGo 4 254 30 _ _ _).trans ?_
      refine (gd_t (by decide) _).trans ?_
      refine (gd_t (⟨rfl, Nat.le_of_ble_eq_true rfl, rfl, Nat.le_of_ble_eq_true rfl⟩) _).trans ?_
      refine (gd_t (⟨rfl, (PTM KM 177 _ rfl rfl), (PNM KM 177 rfl)⟩) _).trans ?_
      refine (congrArg (zBack zY 254 33 36 [some (zR (some 177)), some (zI x1), some (zI x2), some (zI (f_M_s h x2 3))] []) (e_M_sx KM (g1 c0 c1) (by omega))).trans ?_
      refine (show zY 254 36 [some (zR (some 177)), some (zI x1), some (zI x2), some (zI (f_M_s h x2 3))] [zI (f_M_s h (f_M_s h x2 3) 0)] h = gd (inR (2)) (if (f_M_s h (f_M_s h x2 3) 0) = 2 then zY 254 40 [some (zR (some 177)), some (zI x1), some (zI x2), some (zI (f_M_s h x2 3))] [] h else zY 254 49 [some (zR (some 177)), some (zI x1), some (zI x2), some (zI (f_M_s h x2 3))] [] h) from zGo 2 254 36 _ _ _).trans ?_
      refine (gd_t (by decide) _).trans ?_
      refine iteC (fun c2 => ?_) (fun c2 => ?_)
      · skip
        refine (show zY 254 40 [some (zR (some 177)), some (zI x1), some (zI x2), some (zI (f_M_s h x2 3))] [] h = gd (-128 ≤ (26 : Int) ∧ (26 : Int) < 128) (gd (inR (26 + (f_M_s h x2 3))) (gd (false = zctor 248 ∧ zcs [] ≤ 8 ∧ zrm 254 (zrf 248 + 1) (8 + (zmaxl 248 + 11) + zrl 248) = true ∧ zcs [zR (some 177), zI (26 + (f_M_s h x2 3))] ≤ zmaxl 248) (gd (zob h (some 177) 12) (zBack zY 254 45 48 [some (zR (some 177)), some (zI x1), some (zI x2), some (zI (f_M_s h x2 3))] [] (zC 248 [zR (some 177), zI (26 + (f_M_s h x2 3))] h))))) from zGo 5 254 40 _ _ _).trans ?_
        refine (gd_t (by decide) _).trans ?_
        refine gd_c Iff.rfl (fun c3 => ?_)
        refine (gd_t (⟨rfl, Nat.le_of_ble_eq_true rfl, rfl, Nat.le_of_ble_eq_true rfl⟩) _).trans ?_
        refine (gd_t (⟨rfl, (PTM KM 177 _ rfl rfl), (PNM KM 177 rfl)⟩) _).trans ?_
        rfl
      · skip
        refine (show zY 254 49 [some (zR (some 177)), some (zI x1), some (zI x2), some (zI (f_M_s h x2 3))] [] h = zY 254 2 [some (zR (some 177)), some (zI x1), some (zI (f_M_s h x2 3)), some (zI (f_M_s h x2 3))] [] h from zGo 3 254 49 _ _ _).trans ?_
        rfl
  · skip
    refine (show zY 254 54 [some (zR (some 177)), some (zI x1), some (zI x2), none] [] h = gd (zob h (some 177) 12) (zY 254 58 [some (zR (some 177)), some (zI x1), some (zI x2), none] [zR (hR h 177 22)] h) from zGo 2 254 54 _ _ _).trans ?_
    refine (gd_t (⟨rfl, (PTM KM 177 _ rfl rfl), (PNM KM 177 rfl)⟩) _).trans ?_
    refine (congrArg (fun r => zY 254 58 [some (zR (some 177)), some (zI x1), some (zI x2), none] (zR r :: []) h) (PRM KM 177 22 _ rfl)).trans ?_
    refine (show zY 254 58 [some (zR (some 177)), some (zI x1), some (zI x2), none] [zR (some 188)] h = gd (inR (4)) (gd (false = zctor 207 ∧ zcs [zR (some 188)] ≤ 8 ∧ zrm 254 (zrf 207 + 1) (8 + (zmaxl 207 + 11) + zrl 207) = true ∧ zcs [zR (some 177), zI x2, zI 4] ≤ zmaxl 207) (gd (zob h (some 177) 12) (zBack zY 254 61 64 [some (zR (some 177)), some (zI x1), some (zI x2), none] [zR (some 188)] (zC 207 [zR (some 177), zI x2, zI 4] h)))) from zGo 4 254 58 _ _ _).trans ?_
    refine (gd_t (by decide) _).trans ?_
    refine (gd_t (⟨rfl, Nat.le_of_ble_eq_true rfl, rfl, Nat.le_of_ble_eq_true rfl⟩) _).trans ?_
    refine (gd_t (⟨rfl, (PTM KM 177 _ rfl rfl), (PNM KM 177 rfl)⟩) _).trans ?_
    refine (congrArg (zBack zY 254 61 64 [some (zR (some 177)), some (zI x1), some (zI x2), none] [zR (some 188)]) (e_M_sx KM (g0) (by omega))).trans ?_
    refine (show zY 254 64 [some (zR (some 177)), some (zI x1), some (zI x2), none] [zI (f_M_s h x2 4), zR (some 188)] h = gd (zok h (some 188) 23 (f_M_s h x2 4)) (gd (([] : List zV).isEmpty = true ∧ zrk 254 = 2) (some (.inl (some (zJ (hJ h 188 (f_M_s h x2 4).toNat))), h))) from zGo 2 254 64 _ _ _).trans ?_
    refine gd_c (ci (PTM KM 188 _ rfl rfl) (PLM KM 188 24 rfl rfl)) (fun c4 => ?_)
    refine (gd_t (⟨rfl, rfl⟩) _).trans ?_
    rfl
theorem q_M_needBehind_r29 {h : zH} {x1 : Int} {x2 : Int} {x3 : Int} {y : BitVec 64} (KM : KM h) : zBack zY 254 26 29 [some (zR (some 177)), some (zI x1), some (zI x2), some (zI x3)] [] (some (.inl (some (zJ y)), h)) =
    some (.inl (some (zJ y)), h) := by
  refine (show zBack zY 254 26 29 [some (zR (some 177)), some (zI x1), some (zI x2), some (zI x3)] [] (some (.inl (some (zJ y)), h)) = gd (([] : List zV).isEmpty = true ∧ zrk 254 = 2) (some (.inl (some (zJ y)), h)) from zGo 1 254 29 _ _ _).trans ?_
  refine (gd_t (⟨rfl, rfl⟩) _).trans ?_
  rfl
theorem q_M_needBehind_r48 {h : zH} {x1 : Int} {x2 : Int} {x3 : Int} {y : BitVec 64} (KM : KM h) : zBack zY 254 45 48 [some (zR (some 177)), some (zI x1), some (zI x2), some (zI x3)] [] (some (.inl (some (zJ y)), h)) =
    some (.inl (some (zJ y)), h) := by
  refine (show zBack zY 254 45 48 [some (zR (some 177)), some (zI x1), some (zI x2), some (zI x3)] [] (some (.inl (some (zJ y)), h)) = gd (([] : List zV).isEmpty = true ∧ zrk 254 = 2) (some (.inl (some (zJ y)), h)) from zGo 1 254 48 _ _ _).trans ?_
  refine (gd_t (⟨rfl, rfl⟩) _).trans ?_
  rfl
theorem q_M_needOf {h : zH} {x1 : Int} (KM : KM h) (g0 : (0 ≤ x1 ∧ x1 < 24) := by omega) : zC 247 [zR (some 177), zI x1] h =
    if (f_M_s h x1 0) = 2 then
      gd (-2147483648 ≤ 26 + x1 ∧ 26 + x1 < 2147483648) (
      zBack zY 247 15 18 [some (zR (some 177)), some (zI x1), none, none, none, none, none] [] (zC 248 [zR (some 177), zI (26 + x1)] h))
    else
      zBack zY 247 21 24 [some (zR (some 177)), some (zI x1), none, none, none, none, none] [] (zC 254 [zR (some 177), zI x1] h) := by
  refine (show zC 247 [zR (some 177), zI x1] h = gd (inR (0)) (gd (false = zctor 207 ∧ zcs [] ≤ 8 ∧ zrm 247 (zrf 207 + 1) (8 + (zmaxl 207 + 11) + zrl 207) = true ∧ zcs [zR (some 177), zI x1, zI 0] ≤ zmaxl 207) (gd (zob h (some 177) 12) (zBack zY 247 3 6 [some (zR (some 177)), some (zI x1), none, none, none, none, none] [] (zC 207 [zR (some 177), zI x1, zI 0] h)))) from zGo 4 247 0 _ _ _).trans ?_
  refine (gd_t (by decide) _).trans ?_
  refine (gd_t (⟨rfl, Nat.le_of_ble_eq_true rfl, rfl, Nat.le_of_ble_eq_true rfl⟩) _).trans ?_
  refine (gd_t (⟨rfl, (PTM KM 177 _ rfl rfl), (PNM KM 177 rfl)⟩) _).trans ?_
  refine (congrArg (zBack zY 247 3 6 [some (zR (some 177)), some (zI x1), none, none, none, none, none] []) (e_M_sx KM (g0) (by omega))).trans ?_
  refine (show zY 247 6 [some (zR (some 177)), some (zI x1), none, none, none, none, none] [zI (f_M_s h x1 0)] h = gd (inR (2)) (if (f_M_s h x1 0) = 2 then zY 247 10 [some (zR (some 177)), some (zI x1), none, none, none, none, none] [] h else zY 247 19 [some (zR (some 177)), some (zI x1), none, none, none, none, none] [] h) from zGo 2 247 6 _ _ _).trans ?_
  refine (gd_t (by decide) _).trans ?_
  refine iteC (fun c0 => ?_) (fun c0 => ?_)
  · skip
    refine (show zY 247 10 [some (zR (some 177)), some (zI x1), none, none, none, none, none] [] h = gd (-128 ≤ (26 : Int) ∧ (26 : Int) < 128) (gd (inR (26 + x1)) (gd (false = zctor 248 ∧ zcs [] ≤ 8 ∧ zrm 247 (zrf 248 + 1) (8 + (zmaxl 248 + 11) + zrl 248) = true ∧ zcs [zR (some 177), zI (26 + x1)] ≤ zmaxl 248) (gd (zob h (some 177) 12) (zBack zY 247 15 18 [some (zR (some 177)), some (zI x1), none, none, none, none, none] [] (zC 248 [zR (some 177), zI (26 + x1)] h))))) from zGo 5 247 10 _ _ _).trans ?_
    refine (gd_t (by decide) _).trans ?_
    refine gd_c Iff.rfl (fun c1 => ?_)
    refine (gd_t (⟨rfl, Nat.le_of_ble_eq_true rfl, rfl, Nat.le_of_ble_eq_true rfl⟩) _).trans ?_
    refine (gd_t (⟨rfl, (PTM KM 177 _ rfl rfl), (PNM KM 177 rfl)⟩) _).trans ?_
    rfl
  · skip
    refine (show zY 247 19 [some (zR (some 177)), some (zI x1), none, none, none, none, none] [] h = gd (false = zctor 254 ∧ zcs [] ≤ 8 ∧ zrm 247 (zrf 254 + 1) (8 + (zmaxl 254 + 11) + zrl 254) = true ∧ zcs [zR (some 177), zI x1] ≤ zmaxl 254) (gd (zob h (some 177) 12) (zBack zY 247 21 24 [some (zR (some 177)), some (zI x1), none, none, none, none, none] [] (zC 254 [zR (some 177), zI x1] h))) from zGo 3 247 19 _ _ _).trans ?_
    refine (gd_t (⟨rfl, Nat.le_of_ble_eq_true rfl, rfl, Nat.le_of_ble_eq_true rfl⟩) _).trans ?_
    refine (gd_t (⟨rfl, (PTM KM 177 _ rfl rfl), (PNM KM 177 rfl)⟩) _).trans ?_
    rfl
theorem q_M_needOf_r18 {h : zH} {x1 : Int} {y : BitVec 64} (KM : KM h) : zBack zY 247 15 18 [some (zR (some 177)), some (zI x1), none, none, none, none, none] [] (some (.inl (some (zJ y)), h)) =
    some (.inl (some (zJ y)), h) := by
  refine (show zBack zY 247 15 18 [some (zR (some 177)), some (zI x1), none, none, none, none, none] [] (some (.inl (some (zJ y)), h)) = gd (([] : List zV).isEmpty = true ∧ zrk 247 = 2) (some (.inl (some (zJ y)), h)) from zGo 1 247 18 _ _ _).trans ?_
  refine (gd_t (⟨rfl, rfl⟩) _).trans ?_
  rfl
theorem q_M_needOf_r24 {h : zH} {x1 : Int} {y : BitVec 64} (KM : KM h) (g0 : (0 ≤ x1 ∧ x1 < 24) := by omega) : zBack zY 247 21 24 [some (zR (some 177)), some (zI x1), none, none, none, none, none] [] (some (.inl (some (zJ y)), h)) =
    if (f_M_s h x1 0) = 1 then
      gd (-2147483648 ≤ 2 + x1 ∧ 2 + x1 < 2147483648) (
      zBack zY 247 39 42 [some (zR (some 177)), some (zI x1), some (zJ y), none, none, none, none] [] (zC 248 [zR (some 177), zI (2 + x1)] h))
    else
      zY 247 85 [some (zR (some 177)), some (zI x1), some (zJ y), none, some (zJ (0#64)), none, some (zI 0)] [] h := by
  refine (show zBack zY 247 21 24 [some (zR (some 177)), some (zI x1), none, none, none, none, none] [] (some (.inl (some (zJ y)), h)) = gd (inR (0)) (gd (false = zctor 207 ∧ zcs [] ≤ 8 ∧ zrm 247 (zrf 207 + 1) (8 + (zmaxl 207 + 11) + zrl 207) = true ∧ zcs [zR (some 177), zI x1, zI 0] ≤ zmaxl 207) (gd (zob h (some 177) 12) (zBack zY 247 28 31 [some (zR (some 177)), some (zI x1), some (zJ y), none, none, none, none] [] (zC 207 [zR (some 177), zI x1, zI 0] h)))) from zGo 5 247 24 _ _ _).trans ?_
  refine (gd_t (by decide) _).trans ?_
  refine (gd_t (⟨rfl, Nat.le_of_ble_eq_true rfl, rfl, Nat.le_of_ble_eq_true rfl⟩) _).trans ?_
  refine (gd_t (⟨rfl, (PTM KM 177 _ rfl rfl), (PNM KM 177 rfl)⟩) _).trans ?_
  refine (congrArg (zBack zY 247 28 31 [some (zR (some 177)), some (zI x1), some (zJ y), none, none, none, none] []) (e_M_sx KM (g0) (by omega))).trans ?_
  refine (show zY 247 31 [some (zR (some 177)), some (zI x1), some (zJ y), none, none, none, none] [zI (f_M_s h x1 0)] h = gd (inR (1)) (if (f_M_s h x1 0) = 1 then zY 247 35 [some (zR (some 177)), some (zI x1), some (zJ y), none, none, none, none] [] h else zY 247 79 [some (zR (some 177)), some (zI x1), some (zJ y), none, none, none, none] [] h) from zGo 2 247 31 _ _ _).trans ?_
  refine (gd_t (by decide) _).trans ?_
  refine iteC (fun c0 => ?_) (fun c0 => ?_)
  · skip
    refine (show zY 247 35 [some (zR (some 177)), some (zI x1), some (zJ y), none, none, none, none] [] h = gd (inR (2)) (gd (inR (2 + x1)) (gd (false = zctor 248 ∧ zcs [] ≤ 8 ∧ zrm 247 (zrf 248 + 1) (8 + (zmaxl 248 + 11) + zrl 248) = true ∧ zcs [zR (some 177), zI (2 + x1)] ≤ zmaxl 248) (gd (zob h (some 177) 12) (zBack zY 247 39 42 [some (zR (some 177)), some (zI x1), some (zJ y), none, none, none, none] [] (zC 248 [zR (some 177), zI (2 + x1)] h))))) from zGo 5 247 35 _ _ _).trans ?_
    refine (gd_t (by decide) _).trans ?_
    refine gd_c Iff.rfl (fun c1 => ?_)
    refine (gd_t (⟨rfl, Nat.le_of_ble_eq_true rfl, rfl, Nat.le_of_ble_eq_true rfl⟩) _).trans ?_
    refine (gd_t (⟨rfl, (PTM KM 177 _ rfl rfl), (PNM KM 177 rfl)⟩) _).trans ?_
    rfl
  · skip
    refine (show zY 247 79 [some (zR (some 177)), some (zI x1), some (zJ y), none, none, none, none] [] h = gd (inR (0)) (zY 247 85 [some (zR (some 177)), some (zI x1), some (zJ y), none, some (zJ (0#64)), none, some (zI 0)] [] h) from zGo 4 247 79 _ _ _).trans ?_
    refine (gd_t (by decide) _).trans ?_
    rfl
theorem q_M_needOf_r42 {h : zH} {x1 : Int} {x2 : BitVec 64} {y : BitVec 64} (KM : KM h) (g0 : (0 ≤ x1 ∧ x1 < 24) := by omega) (g1 : ((¬ ((f_M_s h x1 5) = (-1))) → (0 ≤ (f_M_s h x1 5) ∧ (f_M_s h x1 5) < 24)) := by omega) (g2 : ((¬ ((f_M_s h x1 6) = (-1))) → (0 ≤ (f_M_s h x1 6) ∧ (f_M_s h x1 6) < 24)) := by omega) : zBack zY 247 39 42 [some (zR (some 177)), some (zI x1), some (zJ x2), none, none, none, none] [] (some (.inl (some (zJ y)), h)) =
    some (.inl (some (zJ ((y &&& (f_M_rowNeed h (f_M_s h x1 5) x2)) ||| ((y ^^^ (18446744073709551615#64)) &&& (f_M_rowNeed h (f_M_s h x1 6) x2))))), h) := by
  refine (show zBack zY 247 39 42 [some (zR (some 177)), some (zI x1), some (zJ x2), none, none, none, none] [] (some (.inl (some (zJ y)), h)) = gd (inR (5)) (gd (false = zctor 207 ∧ zcs [zR (some 177), zJ y] ≤ 8 ∧ zrm 247 (zrf 207 + 1) (8 + (zmaxl 207 + 11) + zrl 207) = true ∧ zcs [zR (some 177), zI x1, zI 5] ≤ zmaxl 207) (gd (zob h (some 177) 12) (zBack zY 247 50 53 [some (zR (some 177)), some (zI x1), some (zJ x2), none, some (zJ y), none, none] [zR (some 177), zJ y] (zC 207 [zR (some 177), zI x1, zI 5] h)))) from zGo 7 247 42 _ _ _).trans ?_
  refine (gd_t (by decide) _).trans ?_
  refine (gd_t (⟨rfl, Nat.le_of_ble_eq_true rfl, rfl, Nat.le_of_ble_eq_true rfl⟩) _).trans ?_
  refine (gd_t (⟨rfl, (PTM KM 177 _ rfl rfl), (PNM KM 177 rfl)⟩) _).trans ?_
  refine (congrArg (zBack zY 247 50 53 [some (zR (some 177)), some (zI x1), some (zJ x2), none, some (zJ y), none, none] [zR (some 177), zJ y]) (e_M_sx KM (g0) (by omega))).trans ?_
  refine (show zY 247 53 [some (zR (some 177)), some (zI x1), some (zJ x2), none, some (zJ y), none, none] [zI (f_M_s h x1 5), zR (some 177), zJ y] h = gd (false = zctor 255 ∧ zcs [zJ y] ≤ 8 ∧ zrm 247 (zrf 255 + 1) (8 + (zmaxl 255 + 11) + zrl 255) = true ∧ zcs [zR (some 177), zI (f_M_s h x1 5), zJ x2] ≤ zmaxl 255) (gd (zob h (some 177) 12) (zBack zY 247 54 57 [some (zR (some 177)), some (zI x1), some (zJ x2), none, some (zJ y), none, none] [zJ y] (zC 255 [zR (some 177), zI (f_M_s h x1 5), zJ x2] h))) from zGo 2 247 53 _ _ _).trans ?_
  refine (gd_t (⟨rfl, Nat.le_of_ble_eq_true rfl, rfl, Nat.le_of_ble_eq_true rfl⟩) _).trans ?_
  refine (gd_t (⟨rfl, (PTM KM 177 _ rfl rfl), (PNM KM 177 rfl)⟩) _).trans ?_
  refine (congrArg (zBack zY 247 54 57 [some (zR (some 177)), some (zI x1), some (zJ x2), none, some (zJ y), none, none] [zJ y]) (e_M_rowNeed KM (g1))).trans ?_
  refine (show zY 247 57 [some (zR (some 177)), some (zI x1), some (zJ x2), none, some (zJ y), none, none] [zJ (f_M_rowNeed h (f_M_s h x1 5) x2), zJ y] h = gd (-128 ≤ (6 : Int) ∧ (6 : Int) < 128) (gd (false = zctor 207 ∧ zcs [zR (some 177), zJ (y ^^^ (18446744073709551615#64)), zJ (y &&& (f_M_rowNeed h (f_M_s h x1 5) x2))] ≤ 8 ∧ zrm 247 (zrf 207 + 1) (8 + (zmaxl 207 + 11) + zrl 207) = true ∧ zcs [zR (some 177), zI x1, zI 6] ≤ zmaxl 207) (gd (zob h (some 177) 12) (zBack zY 247 69 72 [some (zR (some 177)), some (zI x1), some (zJ x2), none, some (zJ y), none, none] [zR (some 177), zJ (y ^^^ (18446744073709551615#64)), zJ (y &&& (f_M_rowNeed h (f_M_s h x1 5) x2))] (zC 207 [zR (some 177), zI x1, zI 6] h)))) from zGo 9 247 57 _ _ _).trans ?_
  refine (gd_t (by decide) _).trans ?_
  refine (gd_t (⟨rfl, Nat.le_of_ble_eq_true rfl, rfl, Nat.le_of_ble_eq_true rfl⟩) _).trans ?_
  refine (gd_t (⟨rfl, (PTM KM 177 _ rfl rfl), (PNM KM 177 rfl)⟩) _).trans ?_
  refine (congrArg (zBack zY 247 69 72 [some (zR (some 177)), some (zI x1), some (zJ x2), none, some (zJ y), none, none] [zR (some 177), zJ (y ^^^ (18446744073709551615#64)), zJ (y &&& (f_M_rowNeed h (f_M_s h x1 5) x2))]) (e_M_sx KM (g0) (by omega))).trans ?_
  refine (show zY 247 72 [some (zR (some 177)), some (zI x1), some (zJ x2), none, some (zJ y), none, none] [zI (f_M_s h x1 6), zR (some 177), zJ (y ^^^ (18446744073709551615#64)), zJ (y &&& (f_M_rowNeed h (f_M_s h x1 5) x2))] h = gd (false = zctor 255 ∧ zcs [zJ (y ^^^ (18446744073709551615#64)), zJ (y &&& (f_M_rowNeed h (f_M_s h x1 5) x2))] ≤ 8 ∧ zrm 247 (zrf 255 + 1) (8 + (zmaxl 255 + 11) + zrl 255) = true ∧ zcs [zR (some 177), zI (f_M_s h x1 6), zJ x2] ≤ zmaxl 255) (gd (zob h (some 177) 12) (zBack zY 247 73 76 [some (zR (some 177)), some (zI x1), some (zJ x2), none, some (zJ y), none, none] [zJ (y ^^^ (18446744073709551615#64)), zJ (y &&& (f_M_rowNeed h (f_M_s h x1 5) x2))] (zC 255 [zR (some 177), zI (f_M_s h x1 6), zJ x2] h))) from zGo 2 247 72 _ _ _).trans ?_
  refine (gd_t (⟨rfl, Nat.le_of_ble_eq_true rfl, rfl, Nat.le_of_ble_eq_true rfl⟩) _).trans ?_
  refine (gd_t (⟨rfl, (PTM KM 177 _ rfl rfl), (PNM KM 177 rfl)⟩) _).trans ?_
  refine (congrArg (zBack zY 247 73 76 [some (zR (some 177)), some (zI x1), some (zJ x2), none, some (zJ y), none, none] [zJ (y ^^^ (18446744073709551615#64)), zJ (y &&& (f_M_rowNeed h (f_M_s h x1 5) x2))]) (e_M_rowNeed KM (g2))).trans ?_
  refine (show zY 247 76 [some (zR (some 177)), some (zI x1), some (zJ x2), none, some (zJ y), none, none] [zJ (f_M_rowNeed h (f_M_s h x1 6) x2), zJ (y ^^^ (18446744073709551615#64)), zJ (y &&& (f_M_rowNeed h (f_M_s h x1 5) x2))] h = gd (([] : List zV).isEmpty = true ∧ zrk 247 = 2) (some (.inl (some (zJ ((y &&& (f_M_rowNeed h (f_M_s h x1 5) x2)) ||| ((y ^^^ (18446744073709551615#64)) &&& (f_M_rowNeed h (f_M_s h x1 6) x2))))), h)) from zGo 3 247 76 _ _ _).trans ?_
  refine (gd_t (⟨rfl, rfl⟩) _).trans ?_
  rfl
theorem q_M_needOf_85 {h : zH} {x1 : Int} {x2 : BitVec 64} {x4 : BitVec 64} {x6 : Int} (KM : KM h) : zY 247 85 [some (zR (some 177)), some (zI x1), some (zJ x2), none, some (zJ x4), none, some (zI x6)] [] h =
    if x6 < 64 then
      zBack zY 247 99 102 [some (zR (some 177)), some (zI x1), some (zJ x2), none, some (zJ x4), none, some (zI x6)] [zJ x2, zJ x4] (zC 256 [zR (some 177), zI x1, zI x6] h)
    else
      some (.inl (some (zJ x4)), h) := by
  refine (show zY 247 85 [some (zR (some 177)), some (zI x1), some (zJ x2), none, some (zJ x4), none, some (zI x6)] [] h = gd (-128 ≤ (64 : Int) ∧ (64 : Int) < 128) (if x6 < 64 then zY 247 92 [some (zR (some 177)), some (zI x1), some (zJ x2), none, some (zJ x4), none, some (zI x6)] [] h else zY 247 125 [some (zR (some 177)), some (zI x1), some (zJ x2), none, some (zJ x4), none, some (zI x6)] [] h) from zGo 3 247 85 _ _ _).trans ?_
  refine (gd_t (by decide) _).trans ?_
  refine iteC (fun c0 => ?_) (fun c0 => ?_)
  · skip
    refine (show zY 247 92 [some (zR (some 177)), some (zI x1), some (zJ x2), none, some (zJ x4), none, some (zI x6)] [] h = gd (false = zctor 256 ∧ zcs [zJ x2, zJ x4] ≤ 8 ∧ zrm 247 (zrf 256 + 1) (8 + (zmaxl 256 + 11) + zrl 256) = true ∧ zcs [zR (some 177), zI x1, zI x6] ≤ zmaxl 256) (gd (zob h (some 177) 12) (zBack zY 247 99 102 [some (zR (some 177)), some (zI x1), some (zJ x2), none, some (zJ x4), none, some (zI x6)] [zJ x2, zJ x4] (zC 256 [zR (some 177), zI x1, zI x6] h))) from zGo 6 247 92 _ _ _).trans ?_
    refine (gd_t (⟨rfl, Nat.le_of_ble_eq_true rfl, rfl, Nat.le_of_ble_eq_true rfl⟩) _).trans ?_
    refine (gd_t (⟨rfl, (PTM KM 177 _ rfl rfl), (PNM KM 177 rfl)⟩) _).trans ?_
    rfl
  · skip
    refine (show zY 247 125 [some (zR (some 177)), some (zI x1), some (zJ x2), none, some (zJ x4), none, some (zI x6)] [] h = gd (([] : List zV).isEmpty = true ∧ zrk 247 = 2) (some (.inl (some (zJ x4)), h)) from zGo 2 247 125 _ _ _).trans ?_
    refine (gd_t (⟨rfl, rfl⟩) _).trans ?_
    rfl
theorem q_M_needOf_r102 {h : zH} {x1 : Int} {x2 : BitVec 64} {x4 : BitVec 64} {x6 : Int} {y0 : BitVec 64} {y1 : BitVec 64} {y : Int} (KM : KM h) : zBack zY 247 99 102 [some (zR (some 177)), some (zI x1), some (zJ x2), none, some (zJ x4), none, some (zI x6)] [zJ y1, zJ y0] (some (.inl (some (zI y)), h)) =
    if b_M_holds y1 y then
      gd (-2147483648 ≤ x6 + 1 ∧ x6 + 1 < 2147483648) (
      zY 247 85 [some (zR (some 177)), some (zI x1), some (zJ x2), none, some (zJ (y0 ||| (zlshl (1#64) x6))), none, some (zI (x6 + 1))] [] h)
    else
      gd (-2147483648 ≤ x6 + 1 ∧ x6 + 1 < 2147483648) (
      zY 247 85 [some (zR (some 177)), some (zI x1), some (zJ x2), none, some (zJ (y0 ||| (0#64))), none, some (zI (x6 + 1))] [] h) := by
  refine (show zBack zY 247 99 102 [some (zR (some 177)), some (zI x1), some (zJ x2), none, some (zJ x4), none, some (zI x6)] [zJ y1, zJ y0] (some (.inl (some (zI y)), h)) = gd (false = zctor 260 ∧ zcs [zJ y0] ≤ 8 ∧ zrm 247 (zrf 260 + 1) (8 + (zmaxl 260 + 11) + zrl 260) = true ∧ zcs [zJ y1, zI y] ≤ zmaxl 260) (zBack zY 247 102 105 [some (zR (some 177)), some (zI x1), some (zJ x2), none, some (zJ x4), none, some (zI x6)] [zJ y0] (zC 260 [zJ y1, zI y] h)) from zGo 1 247 102 _ _ _).trans ?_
  refine (gd_t (⟨rfl, Nat.le_of_ble_eq_true rfl, rfl, Nat.le_of_ble_eq_true rfl⟩) _).trans ?_
  refine (congrArg (zBack zY 247 102 105 [some (zR (some 177)), some (zI x1), some (zJ x2), none, some (zJ x4), none, some (zI x6)] [zJ y0]) (e_M_holds)).trans ?_
  refine (show zY 247 105 [some (zR (some 177)), some (zI x1), some (zJ x2), none, some (zJ x4), none, some (zI x6)] [zI (if b_M_holds y1 y then (1 : Int) else 0), zJ y0] h = if (if b_M_holds y1 y then (1 : Int) else 0) = 0 then zY 247 115 [some (zR (some 177)), some (zI x1), some (zJ x2), none, some (zJ x4), none, some (zI x6)] [zJ y0] h else zY 247 108 [some (zR (some 177)), some (zI x1), some (zJ x2), none, some (zJ x4), none, some (zI x6)] [zJ y0] h from zGo 1 247 105 _ _ _).trans ?_
  refine iteB (fun c0 => ?_) (fun c0 => ?_)
  · skip
    refine (show zY 247 108 [some (zR (some 177)), some (zI x1), some (zJ x2), none, some (zJ x4), none, some (zI x6)] [zJ y0] h = gd (inR (x6 + 1)) (gd (inR (1)) (zY 247 85 [some (zR (some 177)), some (zI x1), some (zJ x2), none, some (zJ (y0 ||| (zlshl (1#64) x6))), none, some (zI (x6 + 1))] [] h)) from zGo 8 247 108 _ _ _).trans ?_
    refine gd_c Iff.rfl (fun c1 => ?_)
    refine (gd_t (by decide) _).trans ?_
    rfl
  · skip
    refine (show zY 247 115 [some (zR (some 177)), some (zI x1), some (zJ x2), none, some (zJ x4), none, some (zI x6)] [zJ y0] h = gd (inR (x6 + 1)) (gd (inR (1)) (zY 247 85 [some (zR (some 177)), some (zI x1), some (zJ x2), none, some (zJ (y0 ||| (0#64))), none, some (zI (x6 + 1))] [] h)) from zGo 5 247 115 _ _ _).trans ?_
    refine gd_c Iff.rfl (fun c2 => ?_)
    refine (gd_t (by decide) _).trans ?_
    rfl
theorem q_M_laysNeeds {h : zH} (KM : KM h) : zC 246 [zR (some 177)] h =
    gd (-2147483648 ≤ (hI h 177 10) - 1 ∧ (hI h 177 10) - 1 < 2147483648) (
    zY 246 7 [some (zR (some 177)), some (zI ((hI h 177 10) - 1))] [] h) := by
  refine (show zC 246 [zR (some 177)] h = gd (zob h (some 177) 12) (gd (inR (1)) (gd (inR ((hI h 177 10) - 1)) (zY 246 7 [some (zR (some 177)), some (zI ((hI h 177 10) - 1))] [] h))) from zGo 5 246 0 _ _ _).trans ?_
  refine (gd_t (⟨rfl, (PTM KM 177 _ rfl rfl), (PNM KM 177 rfl)⟩) _).trans ?_
  refine (gd_t (by decide) _).trans ?_
  refine gd_c Iff.rfl (fun c0 => ?_)
  rfl
theorem q_M_laysNeeds_7 {h : zH} {x1 : Int} (KM : KM h) : zY 246 7 [some (zR (some 177)), some (zI x1)] [] h =
    if x1 < 0 then
      some (.inl (none), h)
    else
      zBack zY 246 18 21 [some (zR (some 177)), some (zI x1)] [zI x1, zR (some 188)] (zC 247 [zR (some 177), zI x1] h) := by
  refine (show zY 246 7 [some (zR (some 177)), some (zI x1)] [] h = if x1 < 0 then zY 246 28 [some (zR (some 177)), some (zI x1)] [] h else zY 246 11 [some (zR (some 177)), some (zI x1)] [] h from zGo 2 246 7 _ _ _).trans ?_
  refine iteC (fun c0 => ?_) (fun c0 => ?_)
  · skip
    refine (show zY 246 28 [some (zR (some 177)), some (zI x1)] [] h = gd (([] : List zV).isEmpty = true ∧ zrk 246 = 0) (some (.inl (none), h)) from zGo 1 246 28 _ _ _).trans ?_
    refine (gd_t (⟨rfl, rfl⟩) _).trans ?_
    rfl
  · skip
    refine (show zY 246 11 [some (zR (some 177)), some (zI x1)] [] h = gd (zob h (some 177) 12) (zY 246 15 [some (zR (some 177)), some (zI x1)] [zR (hR h 177 22)] h) from zGo 2 246 11 _ _ _).trans ?_
    refine (gd_t (⟨rfl, (PTM KM 177 _ rfl rfl), (PNM KM 177 rfl)⟩) _).trans ?_
    refine (congrArg (fun r => zY 246 15 [some (zR (some 177)), some (zI x1)] (zR r :: []) h) (PRM KM 177 22 _ rfl)).trans ?_
    refine (show zY 246 15 [some (zR (some 177)), some (zI x1)] [zR (some 188)] h = gd (false = zctor 247 ∧ zcs [zI x1, zR (some 188)] ≤ 8 ∧ zrm 246 (zrf 247 + 1) (8 + (zmaxl 247 + 11) + zrl 247) = true ∧ zcs [zR (some 177), zI x1] ≤ zmaxl 247) (gd (zob h (some 177) 12) (zBack zY 246 18 21 [some (zR (some 177)), some (zI x1)] [zI x1, zR (some 188)] (zC 247 [zR (some 177), zI x1] h))) from zGo 4 246 15 _ _ _).trans ?_
    refine (gd_t (⟨rfl, Nat.le_of_ble_eq_true rfl, rfl, Nat.le_of_ble_eq_true rfl⟩) _).trans ?_
    refine (gd_t (⟨rfl, (PTM KM 177 _ rfl rfl), (PNM KM 177 rfl)⟩) _).trans ?_
    rfl
theorem q_M_laysNeeds_r21 {h : zH} {x1 : Int} {y1 : Int} {y : BitVec 64} (KM : KM h) : zBack zY 246 18 21 [some (zR (some 177)), some (zI x1)] [zI y1, zR (some 188)] (some (.inl (some (zJ y)), h)) =
    gd (0 ≤ y1 ∧ y1 < 24) (
    gd (-2147483648 ≤ x1 + (-1) ∧ x1 + (-1) < 2147483648) (
    zY 246 7 [some (zR (some 177)), some (zI (x1 + (-1)))] [] (sJ h 188 y1.toNat y))) := by
  refine (show zBack zY 246 18 21 [some (zR (some 177)), some (zI x1)] [zI y1, zR (some 188)] (some (.inl (some (zJ y)), h)) = gd (zokw h (some 188) 23 y1) (gd (inR (x1 + (-1))) (gd (inR (-1)) (zY 246 7 [some (zR (some 177)), some (zI (x1 + (-1)))] [] (sJ h 188 y1.toNat y)))) from zGo 3 246 21 _ _ _).trans ?_
  refine gd_c (ciw (PTM KM 188 _ rfl rfl) (PNM KM 188 rfl) (PLM KM 188 24 rfl rfl)) (fun c0 => ?_)
  refine gd_c Iff.rfl (fun c1 => ?_)
  refine (gd_t (by decide) _).trans ?_
  rfl
theorem q_M_needAheadNow {h : zH} (KM : KM h) : zC 262 [zR (some 177)] h =
    zBack zY 262 7 10 [some (zR (some 177))] [zI (hI h 177 12), zR (some 177)] (zC 248 [zR (some 177), zI 1] h) := by
  refine (show zC 262 [zR (some 177)] h = gd (zob h (some 177) 12) (gd (inR (1)) (gd (false = zctor 248 ∧ zcs [zI (hI h 177 12), zR (some 177)] ≤ 8 ∧ zrm 262 (zrf 248 + 1) (8 + (zmaxl 248 + 11) + zrl 248) = true ∧ zcs [zR (some 177), zI 1] ≤ zmaxl 248) (gd (zob h (some 177) 12) (zBack zY 262 7 10 [some (zR (some 177))] [zI (hI h 177 12), zR (some 177)] (zC 248 [zR (some 177), zI 1] h))))) from zGo 6 262 0 _ _ _).trans ?_
  refine (gd_t (⟨rfl, (PTM KM 177 _ rfl rfl), (PNM KM 177 rfl)⟩) _).trans ?_
  refine (gd_t (by decide) _).trans ?_
  refine (gd_t (⟨rfl, Nat.le_of_ble_eq_true rfl, rfl, Nat.le_of_ble_eq_true rfl⟩) _).trans ?_
  refine (gd_t (⟨rfl, (PTM KM 177 _ rfl rfl), (PNM KM 177 rfl)⟩) _).trans ?_
  rfl
theorem q_M_needAheadNow_r10 {h : zH} {y1 : Int} {y : BitVec 64} (KM : KM h) (g0 : ((¬ (y1 = (-1))) → (0 ≤ y1 ∧ y1 < 24)) := by omega) : zBack zY 262 7 10 [some (zR (some 177))] [zI y1, zR (some 177)] (some (.inl (some (zJ y)), h)) =
    some (.inl (some (zJ (f_M_rowNeed h y1 y))), h) := by
  refine (show zBack zY 262 7 10 [some (zR (some 177))] [zI y1, zR (some 177)] (some (.inl (some (zJ y)), h)) = gd (false = zctor 255 ∧ zcs [] ≤ 8 ∧ zrm 262 (zrf 255 + 1) (8 + (zmaxl 255 + 11) + zrl 255) = true ∧ zcs [zR (some 177), zI y1, zJ y] ≤ zmaxl 255) (gd (zob h (some 177) 12) (zBack zY 262 10 13 [some (zR (some 177))] [] (zC 255 [zR (some 177), zI y1, zJ y] h))) from zGo 1 262 10 _ _ _).trans ?_
  refine (gd_t (⟨rfl, Nat.le_of_ble_eq_true rfl, rfl, Nat.le_of_ble_eq_true rfl⟩) _).trans ?_
  refine (gd_t (⟨rfl, (PTM KM 177 _ rfl rfl), (PNM KM 177 rfl)⟩) _).trans ?_
  refine (congrArg (zBack zY 262 10 13 [some (zR (some 177))] []) (e_M_rowNeed KM (g0))).trans ?_
  refine (show zY 262 13 [some (zR (some 177))] [zJ (f_M_rowNeed h y1 y)] h = gd (([] : List zV).isEmpty = true ∧ zrk 262 = 2) (some (.inl (some (zJ (f_M_rowNeed h y1 y))), h)) from zGo 1 262 13 _ _ _).trans ?_
  refine (gd_t (⟨rfl, rfl⟩) _).trans ?_
  rfl
theorem l_needBehind {n top : Int} {R N : Nat → Int} {th : Int → Int} {ND : Int → BitVec 64} {s : Int} {h : zH} (M : MB n top R N h) (w : WS n R) (v : WN n R N) (hT : isTH n R th) (hW : ∀ t, 0 ≤ t → t < n → sv R t 0 = 2 → ND t = setL (lst N (26 + t))) (h0 : 0 ≤ s) (h1 : s < n) (hA : ∀ t, s < t → t < n → hJ h 188 t.toNat = ND t) : ∀ (m : Nat) (k : Nat) (x : Int), x = up R k s → 0 ≤ x → x < n → x < m → th x = th s → ∃ h2, zY 254 2 [some (zR (some 177)), some (zI s), some (zI x), none] [] h = some (.inl (some (zJ (ahd N ND (th s)))), h2) ∧ Fr scrE h h2
  | 0, k, x, hx, hx0, hx1, hm, ht => by omega
  | m + 1, k, x, hx, hx0, hx1, hm, ht => by
    obtain ⟨K, m1, m2, m3, m4⟩ := id M
    have w0 := w.1
    have w1 := w.2.1 x hx0 hx1
    have e4 : f_M_s h x 4 = sv R x 4 := by rw [f_M_s_e, m3]
    have e3 : f_M_s h x 3 = sv R x 3 := by rw [f_M_s_e, m3]
    have e0 : f_M_s h (sv R x 3) 0 = sv R (sv R x 3) 0 := by rw [f_M_s_e, m3]
    have hTx := hT x hx0 hx1
    rw [q_M_needBehind_2 K, e4, e3, e0]
    by_cases c4 : sv R x 4 = -1
    · rw [if_pos c4] at hTx ⊢
      by_cases c3 : sv R x 3 = -1
      · rw [if_pos c3] at hTx ⊢
        obtain ⟨h2, e2, F2⟩ := c_setOf K m4 (q := 1) (by omega) (by omega) v.2.1
        rw [e2, q_M_needBehind_r29 (KM_f K F2 rfl)]
        refine ⟨h2, ?_, F2⟩
        rw [← ht, hTx]
        rfl
      · rw [if_neg c3] at hTx ⊢
        by_cases c0 : sv R (sv R x 3) 0 = 2
        · rw [if_pos c0] at hTx ⊢
          have v1 := (v.2.2 (sv R x 3) (by omega) (by omega)).2.2.1 c0
          obtain ⟨h2, e2, F2⟩ := c_setOf K m4 (q := 26 + sv R x 3) (by omega) (by omega) v1.2.1
          rw [gd_t (by omega), e2, q_M_needBehind_r48 (KM_f K F2 rfl)]
          refine ⟨h2, ?_, F2⟩
          rw [← ht, hTx, ahd, if_neg c3, hW _ (by omega) (by omega) c0]
        · rw [if_neg c0] at hTx ⊢
          obtain ⟨h2, e2, F2⟩ := l_needBehind M w v hT hW h0 h1 hA m (k + 1) (sv R x 3) (by rw [up, ← hx, if_neg (by omega)]) (by omega) (by omega) (by omega) (hTx.symm.trans ht)
          exact ⟨h2, zY_le (by exact ⟨rfl, rfl, rfl, trivial⟩) e2, F2⟩
    · rw [if_neg c4] at hTx ⊢
      have hu := w.2.2 s k h0 h1 (by rw [← hx]; omega)
      rw [← hx] at hu
      rw [gd_t (by omega), hA _ (by omega) (by omega)]
      refine ⟨h, ?_, Fr_r _ _⟩
      rw [← ht, hTx, ahd, if_neg c4]
theorem c_needBehind {n top : Int} {R N : Nat → Int} {th : Int → Int} {ND : Int → BitVec 64} {s : Int} {h : zH} (M : MB n top R N h) (w : WS n R) (v : WN n R N) (hT : isTH n R th) (hW : ∀ t, 0 ≤ t → t < n → sv R t 0 = 2 → ND t = setL (lst N (26 + t))) (h0 : 0 ≤ s) (h1 : s < n) (hA : ∀ t, s < t → t < n → hJ h 188 t.toNat = ND t) : ∃ h2, zC 254 [zR (some 177), zI s] h = some (.inl (some (zJ (ahd N ND (th s)))), h2) ∧ Fr scrE h h2 := by
  rw [q_M_needBehind M.1]
  exact l_needBehind M w v hT hW h0 h1 hA (s + 1).toNat 0 s rfl h0 h1 (by omega) rfl
theorem isND_w {n : Int} {R N : Nat → Int} {th : Int → Int} {ND : Int → BitVec 64} (hN : isND n R N th ND) : ∀ t, 0 ≤ t → t < n → sv R t 0 = 2 → ND t = setL (lst N (26 + t)) := fun t h0 h1 c => by rw [hN t h0 h1, ndS, if_pos c]
theorem l_needOf {n top : Int} {R N : Nat → Int} {s : Int} {b : BitVec 64} (w : WS n R) (v : WN n R N) (h0 : 0 ≤ s) (h1 : s < n) (hk : sv R s 0 = 0 ∨ sv R s 0 = 3) : ∀ (m k : Nat) (h : zH), MB n top R N h → k + m = 64 → ∃ h2, zY 247 85 [some (zR (some 177)), some (zI s), some (zJ b), none, some (zJ (bor (fun st => bt b (bhS R N s st)) k)), none, some (zI k)] [] h = some (.inl (some (zJ (bset fun st => bt b (bhS R N s st)))), h2) ∧ Fr scrE h h2
  | 0, k, h, M, hk2 => by
    obtain rfl : k = 64 := by omega
    rw [q_M_needOf_85 M.1, if_neg (by omega)]
    exact ⟨h, rfl, Fr_r _ _⟩
  | m + 1, k, h, M, hk2 => by
    rw [q_M_needOf_85 M.1, if_pos (by omega)]
    obtain ⟨h2, e2, F2⟩ := c_behindIt M w v h0 h1 hk (st := k) (by omega) (by omega)
    have hr := bhS_r w v h0 h1 hk (st := k) (by omega) (by omega)
    have M2 := MB_f M F2 rfl
    obtain ⟨h3, e3, F3⟩ := l_needOf w v h0 h1 hk m (k + 1) h2 M2 (by omega)
    rw [e2, q_M_needOf_r102 M2.1]
    rw [bor, show ((k + 1 : Nat) : Int) = (k : Int) + 1 by omega] at e3
    by_cases c : bt b (bhS R N s k) = true
    · rw [if_pos ((holds_e b hr.1 hr.2).2 c), gd_t (by omega)]
      rw [if_pos c] at e3
      exact ⟨h3, e3, Fr_t F2 F3⟩
    · rw [if_neg (fun e => c ((holds_e b hr.1 hr.2).1 e)), gd_t (by omega)]
      rw [if_neg c] at e3
      exact ⟨h3, e3, Fr_t F2 F3⟩
theorem c_needOf {n top : Int} {R N : Nat → Int} {th : Int → Int} {ND : Int → BitVec 64} {s : Int} {h : zH} (M : MB n top R N h) (w : WS n R) (v : WN n R N) (hT : isTH n R th) (hN : isND n R N th ND) (h0 : 0 ≤ s) (h1 : s < n) (hA : ∀ t, s < t → t < n → hJ h 188 t.toNat = ND t) : ∃ h2, zC 247 [zR (some 177), zI s] h = some (.inl (some (zJ (ND s))), h2) ∧ Fr scrE h h2 := by
  obtain ⟨K, m1, m2, m3, m4⟩ := id M
  have w0 := w.1
  have w1 := w.2.1 s h0 h1
  have v1 := v.2.2 s h0 h1
  have es : ∀ {h2 : zH}, MB n top R N h2 → ∀ k, f_M_s h2 s k = sv R s k := fun M2 k => by rw [f_M_s_e, M2.2.2.2.1]
  have e0 := es M 0
  rw [q_M_needOf K, e0, hN s h0 h1, ndS]
  by_cases c2 : sv R s 0 = 2
  · rw [if_pos c2, if_pos c2]
    obtain ⟨h2, e2, F2⟩ := c_setOf K m4 (q := 26 + s) (by omega) (by omega) (v1.2.2.1 c2).2.1
    rw [gd_t (by omega), e2, q_M_needOf_r18 (KM_f K F2 rfl)]
    exact ⟨h2, rfl, F2⟩
  · rw [if_neg c2, if_neg c2]
    obtain ⟨h2, e2, F2⟩ := c_needBehind M w v hT (isND_w hN) h0 h1 hA
    have M2 := MB_f M F2 rfl
    rw [e2, q_M_needOf_r24 M2.1, es M2 0]
    by_cases c1 : sv R s 0 = 1
    · rw [if_pos c1, if_pos c1]
      obtain ⟨h3, e3, F3⟩ := c_setOf M2.1 M2.2.2.2.2 (q := 2 + s) (by omega) (by omega) (v1.2.1 c1)
      have M3 := MB_f M2 F3 rfl
      have e5 := es M3 5
      have e6 := es M3 6
      have hJ3 : hJ h3 188 = hJ h 188 := (rJ F3 188 rfl).trans (rJ F2 188 rfl)
      rw [gd_t (by omega), e3, q_M_needOf_r42 M3.1, e5, e6, not_e]
      refine ⟨h3, ?_, Fr_t F2 F3⟩
      have hr : ∀ f, (f = -1 ∨ s < f ∧ f < n) → f_M_rowNeed h3 f (ahd N ND (th s)) = rwN ND f (ahd N ND (th s)) := fun f hf => by
        unfold f_M_rowNeed rwN
        by_cases c : f = -1
        · rw [if_pos c, if_pos c]
        · rw [if_neg c, if_neg c, hJ3, hA f (by omega) (by omega)]
      rw [hr _ (by omega), hr _ (by omega)]
    · rw [if_neg c1, if_neg c1]
      obtain ⟨h3, e3, F3⟩ := l_needOf (b := ahd N ND (th s)) w v h0 h1 (by omega) 64 0 h2 M2 rfl
      exact ⟨h3, e3, Fr_t F2 F3⟩
abbrev scrN : FA := [(187, none), (177, some 21), (188, none)]
theorem l_laysNeeds {n top : Int} {R N : Nat → Int} {th : Int → Int} {ND : Int → BitVec 64} (w : WS n R) (v : WN n R N) (hT : isTH n R th) (hN : isND n R N th ND) : ∀ (m : Nat) (h : zH), MB n top R N h → (m : Int) ≤ n → (∀ t, (m : Int) ≤ t → t < n → hJ h 188 t.toNat = ND t) → ∃ h2, zY 246 7 [some (zR (some 177)), some (zI ((m : Int) - 1))] [] h = some (.inl none, h2) ∧ (∀ t, 0 ≤ t → t < n → hJ h2 188 t.toNat = ND t) ∧ Fr scrN h h2
  | 0, h, M, hm, hA => by
    rw [q_M_laysNeeds_7 M.1, if_pos (by omega)]
    exact ⟨h, rfl, fun t h0 h1 => hA t (by omega) h1, Fr_r _ _⟩
  | m + 1, h, M, hm, hA => by
    have w0 := w.1
    have M1 := M.2.1
    obtain ⟨h2, e2, F2⟩ := c_needOf M w v hT hN (s := m) (by omega) (by omega) (fun t h2 h3 => hA t (by omega) h3)
    have M2 := MB_f M F2 rfl
    have F3 : Fr scrN h (sJ h2 188 (m : Int).toNat (ND m)) := Fr_J (Fr_m F2 rfl) rfl
    have M3 := MB_f M F3 rfl
    obtain ⟨h4, e4, A4, F4⟩ := l_laysNeeds w v hT hN m (sJ h2 188 (m : Int).toNat (ND m)) M3 (by omega) (fun t h2 h3 => by
      rw [hJ_sJ, zup]
      by_cases c : t.toNat = (m : Int).toNat
      · rw [if_pos ⟨rfl, c⟩, show t = m by omega]
      · rw [if_neg (fun e => c e.2), rJ F2 188 rfl, hA t (by omega) h3])
    rw [q_M_laysNeeds_7 M.1, if_neg (by omega), show (((m + 1 : Nat) : Int) - 1) = m by omega, e2, q_M_laysNeeds_r21 M2.1, gd_t (by omega), gd_t (by omega)]
    exact ⟨h4, e4, A4, Fr_t F3 F4⟩
theorem c_laysNeeds {n top : Int} {R N : Nat → Int} {th : Int → Int} {ND : Int → BitVec 64} {h : zH} (M : MB n top R N h) (w : WS n R) (v : WN n R N) (hT : isTH n R th) (hN : isND n R N th ND) : ∃ h2, zC 246 [zR (some 177)] h = some (.inl none, h2) ∧ (∀ t, 0 ≤ t → t < n → hJ h2 188 t.toNat = ND t) ∧ Fr scrN h h2 := by
  have w0 := w.1
  have m1 := M.2.1
  obtain ⟨h2, e2, A2, F2⟩ := l_laysNeeds w v hT hN n.toNat h M (by omega) (fun t h0 h1 => by omega)
  rw [q_M_laysNeeds M.1, gd_t (by omega), m1]
  rw [show ((n.toNat : Nat) : Int) = n by omega] at e2
  exact ⟨h2, e2, A2, F2⟩
theorem c_needAheadNow {n top : Int} {R N : Nat → Int} {ND : Int → BitVec 64} {h : zH} (M : MB n top R N h) (w : WS n R) (v : WN n R N) (ht : top = -1 ∨ 0 ≤ top ∧ top < n) (hA : ∀ t, 0 ≤ t → t < n → hJ h 188 t.toNat = ND t) : ∃ h2, zC 262 [zR (some 177)] h = some (.inl (some (zJ (ahd N ND top))), h2) ∧ Fr scrE h h2 := by
  have w0 := w.1
  obtain ⟨K, m1, m2, m3, m4⟩ := id M
  obtain ⟨h2, e2, F2⟩ := c_setOf K m4 (q := 1) (by omega) (by omega) v.2.1
  rw [q_M_needAheadNow K, e2, m2, q_M_needAheadNow_r10 (KM_f K F2 rfl)]
  refine ⟨h2, ?_, F2⟩
  unfold f_M_rowNeed ahd
  by_cases c : top = -1
  · rw [if_pos c, if_pos c]
  · rw [if_neg c, if_neg c, rJ F2 188 rfl, hA top (by omega) (by omega)]
