/-! The class: needs and duties. -/
theorem q_D_putNeed {h : zH} {x1 : Int} {x2 : BitVec 64} (KC : KC h) : zC 3 [zR (some 132), zI x1, zJ x2] h =
    if x1 < 0 then
      some (.inl (none), h)
    else
      if x1 < 24 then
        some (.inl (none), (sJ h 133 x1.toNat x2))
      else
        some (.inl (none), h) := by
  refine (show zC 3 [zR (some 132), zI x1, zJ x2] h = if x1 < 0 then zY 3 17 [some (zR (some 132)), some (zI x1), some (zJ x2), none] [] h else zY 3 4 [some (zR (some 132)), some (zI x1), some (zJ x2), none] [] h from zGo 2 3 0 _ _ _).trans ?_
  refine iteC (fun c0 => ?_) (fun c0 => ?_)
  · skip
    refine (show zY 3 17 [some (zR (some 132)), some (zI x1), some (zJ x2), none] [] h = gd (([] : List zV).isEmpty = true ∧ zrk 3 = 0) (some (.inl (none), h)) from zGo 1 3 17 _ _ _).trans ?_
    refine (gd_t (⟨rfl, rfl⟩) _).trans ?_
    rfl
  · skip
    refine (show zY 3 4 [some (zR (some 132)), some (zI x1), some (zJ x2), none] [] h = gd (-128 ≤ (24 : Int) ∧ (24 : Int) < 128) (if x1 < 24 then zY 3 10 [some (zR (some 132)), some (zI x1), some (zJ x2), none] [] h else zY 3 17 [some (zR (some 132)), some (zI x1), some (zJ x2), none] [] h) from zGo 3 3 4 _ _ _).trans ?_
    refine (gd_t (by decide) _).trans ?_
    refine iteC (fun c1 => ?_) (fun c1 => ?_)
    · skip
      refine (show zY 3 10 [some (zR (some 132)), some (zI x1), some (zJ x2), none] [] h = gd (zob h (some 132) 1) (zY 3 14 [some (zR (some 132)), some (zI x1), some (zJ x2), none] [zR (hR h 132 3)] h) from zGo 2 3 10 _ _ _).trans ?_
      refine (gd_t (⟨rfl, (PTC KC 132 _ rfl rfl), (PNC KC 132 rfl)⟩) _).trans ?_
      refine (congrArg (fun r => zY 3 14 [some (zR (some 132)), some (zI x1), some (zJ x2), none] (zR r :: []) h) (PRC KC 132 3 _ rfl)).trans ?_
      refine (show zY 3 14 [some (zR (some 132)), some (zI x1), some (zJ x2), none] [zR (some 133)] h = gd (zokw h (some 133) 23 x1) (gd (([] : List zV).isEmpty = true ∧ zrk 3 = 0) (some (.inl (none), (sJ h 133 x1.toNat x2)))) from zGo 4 3 14 _ _ _).trans ?_
      refine (gd_t ((ciw (PTC KC 133 _ rfl rfl) (PNC KC 133 rfl) (PLC KC 133 24 rfl rfl)).2 (by omega)) _).trans ?_
      refine (gd_t (⟨rfl, rfl⟩) _).trans ?_
      rfl
    · skip
      refine (show zY 3 17 [some (zR (some 132)), some (zI x1), some (zJ x2), none] [] h = gd (([] : List zV).isEmpty = true ∧ zrk 3 = 0) (some (.inl (none), h)) from zGo 1 3 17 _ _ _).trans ?_
      refine (gd_t (⟨rfl, rfl⟩) _).trans ?_
      rfl
theorem q_D_endingIn {h : zH} {x1 : Int} {x2 : BitVec 64} (KC : KC h) : zC 6 [zR (some 132), zI x1, zJ x2] h =
    zY 6 6 [some (zR (some 132)), some (zI x1), some (zJ x2), none, some (zJ (0#64)), none, some (zI 0), none] [] h := by
  refine (show zC 6 [zR (some 132), zI x1, zJ x2] h = gd (inR (0)) (zY 6 6 [some (zR (some 132)), some (zI x1), some (zJ x2), none, some (zJ (0#64)), none, some (zI 0), none] [] h) from zGo 4 6 0 _ _ _).trans ?_
  refine (gd_t (by decide) _).trans ?_
  rfl
theorem q_D_endingIn_6 {h : zH} {x1 : Int} {x2 : BitVec 64} {x4 : BitVec 64} {x6 : Int} (KC : KC h) (g0 : (x6 < 64) → (-2147483648 ≤ x1 * 64 ∧ x1 * 64 < 2147483648) := by omega) (g1 : (x6 < 64) → (-2147483648 ≤ (x1 * 64) + x6 ∧ (x1 * 64) + x6 < 2147483648) := by omega) : zY 6 6 [some (zR (some 132)), some (zI x1), some (zJ x2), none, some (zJ x4), none, some (zI x6), none] [] h =
    if x6 < 64 then
      if (f_R_endOf h x1 x6) = (-1) then
        gd (-2147483648 ≤ x6 + 1 ∧ x6 + 1 < 2147483648) (
        zY 6 6 [some (zR (some 132)), some (zI x1), some (zJ x2), none, some (zJ x4), none, some (zI (x6 + 1)), some (zI (f_R_endOf h x1 x6))] [] h)
      else
        if b_S_has x2 (f_R_endOf h x1 x6) then
          gd (-2147483648 ≤ x6 + 1 ∧ x6 + 1 < 2147483648) (
          zY 6 6 [some (zR (some 132)), some (zI x1), some (zJ x2), none, some (zJ (x4 ||| (zlshl (1#64) x6))), none, some (zI (x6 + 1)), some (zI (f_R_endOf h x1 x6))] [] h)
        else
          gd (-2147483648 ≤ x6 + 1 ∧ x6 + 1 < 2147483648) (
          zY 6 6 [some (zR (some 132)), some (zI x1), some (zJ x2), none, some (zJ x4), none, some (zI (x6 + 1)), some (zI (f_R_endOf h x1 x6))] [] h)
    else
      some (.inl (some (zJ x4)), h) := by
  refine (show zY 6 6 [some (zR (some 132)), some (zI x1), some (zJ x2), none, some (zJ x4), none, some (zI x6), none] [] h = gd (-128 ≤ (64 : Int) ∧ (64 : Int) < 128) (if x6 < 64 then zY 6 13 [some (zR (some 132)), some (zI x1), some (zJ x2), none, some (zJ x4), none, some (zI x6), none] [] h else zY 6 55 [some (zR (some 132)), some (zI x1), some (zJ x2), none, some (zJ x4), none, some (zI x6), none] [] h) from zGo 3 6 6 _ _ _).trans ?_
  refine (gd_t (by decide) _).trans ?_
  refine iteC (fun c0 => ?_) (fun c0 => ?_)
  · skip
    refine (show zY 6 13 [some (zR (some 132)), some (zI x1), some (zJ x2), none, some (zJ x4), none, some (zI x6), none] [] h = gd (zob h (some 132) 1) (zY 6 17 [some (zR (some 132)), some (zI x1), some (zJ x2), none, some (zJ x4), none, some (zI x6), none] [zR (hR h 132 1)] h) from zGo 2 6 13 _ _ _).trans ?_
    refine (gd_t (⟨rfl, (PTC KC 132 _ rfl rfl), (PNC KC 132 rfl)⟩) _).trans ?_
    refine (congrArg (fun r => zY 6 17 [some (zR (some 132)), some (zI x1), some (zJ x2), none, some (zJ x4), none, some (zI x6), none] (zR r :: []) h) (PRC KC 132 1 _ rfl)).trans ?_
    refine (show zY 6 17 [some (zR (some 132)), some (zI x1), some (zJ x2), none, some (zJ x4), none, some (zI x6), none] [zR (some 128)] h = gd (false = zctor 63 ∧ zcs [] ≤ 8 ∧ zrm 6 (zrf 63 + 1) (8 + (zmaxl 63 + 11) + zrl 63) = true ∧ zcs [zR (some 128), zI x1, zI x6] ≤ zmaxl 63) (gd (zob h (some 128) 6) (zBack zY 6 20 23 [some (zR (some 132)), some (zI x1), some (zJ x2), none, some (zJ x4), none, some (zI x6), none] [] (zC 63 [zR (some 128), zI x1, zI x6] h))) from zGo 3 6 17 _ _ _).trans ?_
    refine (gd_t (⟨rfl, Nat.le_of_ble_eq_true rfl, rfl, Nat.le_of_ble_eq_true rfl⟩) _).trans ?_
    refine (gd_t (⟨rfl, (PTC KC 128 _ rfl rfl), (PNC KC 128 rfl)⟩) _).trans ?_
    refine (congrArg (zBack zY 6 20 23 [some (zR (some 132)), some (zI x1), some (zJ x2), none, some (zJ x4), none, some (zI x6), none] []) (e_R_endOf KC (g0 c0) (g1 c0))).trans ?_
    refine (show zY 6 23 [some (zR (some 132)), some (zI x1), some (zJ x2), none, some (zJ x4), none, some (zI x6), none] [zI (f_R_endOf h x1 x6)] h = gd (inR (-1)) (if (f_R_endOf h x1 x6) = (-1) then zY 6 49 [some (zR (some 132)), some (zI x1), some (zJ x2), none, some (zJ x4), none, some (zI x6), some (zI (f_R_endOf h x1 x6))] [] h else zY 6 31 [some (zR (some 132)), some (zI x1), some (zJ x2), none, some (zJ x4), none, some (zI x6), some (zI (f_R_endOf h x1 x6))] [] h) from zGo 4 6 23 _ _ _).trans ?_
    refine (gd_t (by decide) _).trans ?_
    refine iteC (fun c1 => ?_) (fun c1 => ?_)
    · skip
      refine (show zY 6 49 [some (zR (some 132)), some (zI x1), some (zJ x2), none, some (zJ x4), none, some (zI x6), some (zI (f_R_endOf h x1 x6))] [] h = gd (inR (x6 + 1)) (gd (inR (1)) (zY 6 6 [some (zR (some 132)), some (zI x1), some (zJ x2), none, some (zJ x4), none, some (zI (x6 + 1)), some (zI (f_R_endOf h x1 x6))] [] h)) from zGo 2 6 49 _ _ _).trans ?_
      refine gd_c Iff.rfl (fun c2 => ?_)
      refine (gd_t (by decide) _).trans ?_
      rfl
    · skip
      refine (show zY 6 31 [some (zR (some 132)), some (zI x1), some (zJ x2), none, some (zJ x4), none, some (zI x6), some (zI (f_R_endOf h x1 x6))] [] h = gd (false = zctor 104 ∧ zcs [] ≤ 8 ∧ zrm 6 (zrf 104 + 1) (8 + (zmaxl 104 + 11) + zrl 104) = true ∧ zcs [zJ x2, zI (f_R_endOf h x1 x6)] ≤ zmaxl 104) (zBack zY 6 34 37 [some (zR (some 132)), some (zI x1), some (zJ x2), none, some (zJ x4), none, some (zI x6), some (zI (f_R_endOf h x1 x6))] [] (zC 104 [zJ x2, zI (f_R_endOf h x1 x6)] h)) from zGo 3 6 31 _ _ _).trans ?_
      refine (gd_t (⟨rfl, Nat.le_of_ble_eq_true rfl, rfl, Nat.le_of_ble_eq_true rfl⟩) _).trans ?_
      refine (congrArg (zBack zY 6 34 37 [some (zR (some 132)), some (zI x1), some (zJ x2), none, some (zJ x4), none, some (zI x6), some (zI (f_R_endOf h x1 x6))] []) (e_S_has)).trans ?_
      refine (show zY 6 37 [some (zR (some 132)), some (zI x1), some (zJ x2), none, some (zJ x4), none, some (zI x6), some (zI (f_R_endOf h x1 x6))] [zI (if b_S_has x2 (f_R_endOf h x1 x6) then (1 : Int) else 0)] h = if (if b_S_has x2 (f_R_endOf h x1 x6) then (1 : Int) else 0) = 0 then zY 6 49 [some (zR (some 132)), some (zI x1), some (zJ x2), none, some (zJ x4), none, some (zI x6), some (zI (f_R_endOf h x1 x6))] [] h else zY 6 40 [some (zR (some 132)), some (zI x1), some (zJ x2), none, some (zJ x4), none, some (zI x6), some (zI (f_R_endOf h x1 x6))] [] h from zGo 1 6 37 _ _ _).trans ?_
      refine iteB (fun c3 => ?_) (fun c3 => ?_)
      · skip
        refine (show zY 6 40 [some (zR (some 132)), some (zI x1), some (zJ x2), none, some (zJ x4), none, some (zI x6), some (zI (f_R_endOf h x1 x6))] [] h = gd (inR (x6 + 1)) (gd (inR (1)) (zY 6 6 [some (zR (some 132)), some (zI x1), some (zJ x2), none, some (zJ (x4 ||| (zlshl (1#64) x6))), none, some (zI (x6 + 1)), some (zI (f_R_endOf h x1 x6))] [] h)) from zGo 8 6 40 _ _ _).trans ?_
        refine gd_c Iff.rfl (fun c4 => ?_)
        refine (gd_t (by decide) _).trans ?_
        rfl
      · skip
        refine (show zY 6 49 [some (zR (some 132)), some (zI x1), some (zJ x2), none, some (zJ x4), none, some (zI x6), some (zI (f_R_endOf h x1 x6))] [] h = gd (inR (x6 + 1)) (gd (inR (1)) (zY 6 6 [some (zR (some 132)), some (zI x1), some (zJ x2), none, some (zJ x4), none, some (zI (x6 + 1)), some (zI (f_R_endOf h x1 x6))] [] h)) from zGo 2 6 49 _ _ _).trans ?_
        refine gd_c Iff.rfl (fun c5 => ?_)
        refine (gd_t (by decide) _).trans ?_
        rfl
  · skip
    refine (show zY 6 55 [some (zR (some 132)), some (zI x1), some (zJ x2), none, some (zJ x4), none, some (zI x6), none] [] h = gd (([] : List zV).isEmpty = true ∧ zrk 6 = 2) (some (.inl (some (zJ x4)), h)) from zGo 2 6 55 _ _ _).trans ?_
    refine (gd_t (⟨rfl, rfl⟩) _).trans ?_
    rfl
theorem q_D_lookAtNeeds {h : zH} (KC : KC h) : zC 2 [zR (some 132)] h =
    zY 2 2 [some (zR (some 132)), some (zI 0), none, none] [] h := by
  refine (show zC 2 [zR (some 132)] h = gd (inR (0)) (zY 2 2 [some (zR (some 132)), some (zI 0), none, none] [] h) from zGo 2 2 0 _ _ _).trans ?_
  refine (gd_t (by decide) _).trans ?_
  rfl
theorem q_D_lookAtNeeds_2 {h : zH} {x1 : Int} {p : Nat} (KC : KC h) (rp : hR h 132 2 = some p) (hp : PS h p) : zY 2 2 [some (zR (some 132)), some (zI x1), none, none] [] h =
    if x1 < (hI h p 1) then
      zBack zY 2 30 33 [some (zR (some 132)), some (zI x1), none, none] [] (zC 3 [zR (some 132), zI (f_P_loopAt h p x1), zJ (f_S_keepOf h x1)] h)
    else
      gd (-2147483648 ≤ (hI h p 0) - 1 ∧ (hI h p 0) - 1 < 2147483648) (
      zY 2 49 [some (zR (some 132)), some (zI ((hI h p 0) - 1)), none, none] [] h) := by
  refine (show zY 2 2 [some (zR (some 132)), some (zI x1), none, none] [] h = gd (zob h (some 132) 1) (zY 2 7 [some (zR (some 132)), some (zI x1), none, none] [zR (hR h 132 2), zI x1] h) from zGo 3 2 2 _ _ _).trans ?_
  refine (gd_t (⟨rfl, (PTC KC 132 _ rfl rfl), (PNC KC 132 rfl)⟩) _).trans ?_
  refine (congrArg (fun r => zY 2 7 [some (zR (some 132)), some (zI x1), none, none] (zR r :: zI x1 :: []) h) rp).trans ?_
  refine (show zY 2 7 [some (zR (some 132)), some (zI x1), none, none] [zR (some p), zI x1] h = gd (zob h (some p) 5) (if x1 < (hI h p 1) then zY 2 13 [some (zR (some 132)), some (zI x1), none, none] [] h else zY 2 39 [some (zR (some 132)), some (zI x1), none, none] [] h) from zGo 2 2 7 _ _ _).trans ?_
  refine (gd_t (⟨rfl, hp.1, (PS_n hp)⟩) _).trans ?_
  refine iteC (fun c0 => ?_) (fun c0 => ?_)
  · skip
    refine (show zY 2 13 [some (zR (some 132)), some (zI x1), none, none] [] h = gd (zob h (some 132) 1) (zY 2 18 [some (zR (some 132)), some (zI x1), none, none] [zR (hR h 132 2), zR (some 132)] h) from zGo 3 2 13 _ _ _).trans ?_
    refine (gd_t (⟨rfl, (PTC KC 132 _ rfl rfl), (PNC KC 132 rfl)⟩) _).trans ?_
    refine (congrArg (fun r => zY 2 18 [some (zR (some 132)), some (zI x1), none, none] (zR r :: zR (some 132) :: []) h) rp).trans ?_
    refine (show zY 2 18 [some (zR (some 132)), some (zI x1), none, none] [zR (some p), zR (some 132)] h = gd (false = zctor 53 ∧ zcs [zR (some 132)] ≤ 8 ∧ zrm 2 (zrf 53 + 1) (8 + (zmaxl 53 + 11) + zrl 53) = true ∧ zcs [zR (some p), zI x1] ≤ zmaxl 53) (gd (zob h (some p) 5) (zBack zY 2 19 22 [some (zR (some 132)), some (zI x1), none, none] [zR (some 132)] (zC 53 [zR (some p), zI x1] h))) from zGo 2 2 18 _ _ _).trans ?_
    refine (gd_t (⟨rfl, Nat.le_of_ble_eq_true rfl, rfl, Nat.le_of_ble_eq_true rfl⟩) _).trans ?_
    refine (gd_t (⟨rfl, hp.1, (PS_n hp)⟩) _).trans ?_
    refine (congrArg (zBack zY 2 19 22 [some (zR (some 132)), some (zI x1), none, none] [zR (some 132)]) (e_P_loopAt hp)).trans ?_
    refine (show zY 2 22 [some (zR (some 132)), some (zI x1), none, none] [zI (f_P_loopAt h p x1), zR (some 132)] h = gd (zob h (some 132) 1) (zY 2 26 [some (zR (some 132)), some (zI x1), none, none] [zR (hR h 132 0), zI (f_P_loopAt h p x1), zR (some 132)] h) from zGo 2 2 22 _ _ _).trans ?_
    refine (gd_t (⟨rfl, (PTC KC 132 _ rfl rfl), (PNC KC 132 rfl)⟩) _).trans ?_
    refine (congrArg (fun r => zY 2 26 [some (zR (some 132)), some (zI x1), none, none] (zR r :: zI (f_P_loopAt h p x1) :: zR (some 132) :: []) h) (PRC KC 132 0 _ rfl)).trans ?_
    refine (show zY 2 26 [some (zR (some 132)), some (zI x1), none, none] [zR (some 90), zI (f_P_loopAt h p x1), zR (some 132)] h = gd (false = zctor 107 ∧ zcs [zI (f_P_loopAt h p x1), zR (some 132)] ≤ 8 ∧ zrm 2 (zrf 107 + 1) (8 + (zmaxl 107 + 11) + zrl 107) = true ∧ zcs [zR (some 90), zI x1] ≤ zmaxl 107) (gd (zob h (some 90) 8) (zBack zY 2 27 30 [some (zR (some 132)), some (zI x1), none, none] [zI (f_P_loopAt h p x1), zR (some 132)] (zC 107 [zR (some 90), zI x1] h))) from zGo 2 2 26 _ _ _).trans ?_
    refine (gd_t (⟨rfl, Nat.le_of_ble_eq_true rfl, rfl, Nat.le_of_ble_eq_true rfl⟩) _).trans ?_
    refine (gd_t (⟨rfl, (PTC KC 90 _ rfl rfl), (PNC KC 90 rfl)⟩) _).trans ?_
    refine (congrArg (zBack zY 2 27 30 [some (zR (some 132)), some (zI x1), none, none] [zI (f_P_loopAt h p x1), zR (some 132)]) (e_S_keepOf KC)).trans ?_
    refine (show zY 2 30 [some (zR (some 132)), some (zI x1), none, none] [zJ (f_S_keepOf h x1), zI (f_P_loopAt h p x1), zR (some 132)] h = gd (false = zctor 3 ∧ zcs [] ≤ 8 ∧ zrm 2 (zrf 3 + 1) (8 + (zmaxl 3 + 11) + zrl 3) = true ∧ zcs [zR (some 132), zI (f_P_loopAt h p x1), zJ (f_S_keepOf h x1)] ≤ zmaxl 3) (gd (zob h (some 132) 1) (zBack zY 2 30 33 [some (zR (some 132)), some (zI x1), none, none] [] (zC 3 [zR (some 132), zI (f_P_loopAt h p x1), zJ (f_S_keepOf h x1)] h))) from zGo 1 2 30 _ _ _).trans ?_
    refine (gd_t (⟨rfl, Nat.le_of_ble_eq_true rfl, rfl, Nat.le_of_ble_eq_true rfl⟩) _).trans ?_
    refine (gd_t (⟨rfl, (PTC KC 132 _ rfl rfl), (PNC KC 132 rfl)⟩) _).trans ?_
    rfl
  · skip
    refine (show zY 2 39 [some (zR (some 132)), some (zI x1), none, none] [] h = gd (zob h (some 132) 1) (zY 2 43 [some (zR (some 132)), some (zI x1), none, none] [zR (hR h 132 2)] h) from zGo 2 2 39 _ _ _).trans ?_
    refine (gd_t (⟨rfl, (PTC KC 132 _ rfl rfl), (PNC KC 132 rfl)⟩) _).trans ?_
    refine (congrArg (fun r => zY 2 43 [some (zR (some 132)), some (zI x1), none, none] (zR r :: []) h) rp).trans ?_
    refine (show zY 2 43 [some (zR (some 132)), some (zI x1), none, none] [zR (some p)] h = gd (zob h (some p) 5) (gd (inR (1)) (gd (inR ((hI h p 0) - 1)) (zY 2 49 [some (zR (some 132)), some (zI ((hI h p 0) - 1)), none, none] [] h))) from zGo 4 2 43 _ _ _).trans ?_
    refine (gd_t (⟨rfl, hp.1, (PS_n hp)⟩) _).trans ?_
    refine (gd_t (by decide) _).trans ?_
    refine gd_c Iff.rfl (fun c1 => ?_)
    rfl
theorem q_D_lookAtNeeds_r33 {h : zH} {x1 : Int} (KC : KC h) : zBack zY 2 30 33 [some (zR (some 132)), some (zI x1), none, none] [] (some (.inl (none), h)) =
    gd (-2147483648 ≤ x1 + 1 ∧ x1 + 1 < 2147483648) (
    zY 2 2 [some (zR (some 132)), some (zI (x1 + 1)), none, none] [] h) := by
  refine (show zBack zY 2 30 33 [some (zR (some 132)), some (zI x1), none, none] [] (some (.inl (none), h)) = gd (inR (x1 + 1)) (gd (inR (1)) (zY 2 2 [some (zR (some 132)), some (zI (x1 + 1)), none, none] [] h)) from zGo 2 2 33 _ _ _).trans ?_
  refine gd_c Iff.rfl (fun c0 => ?_)
  refine (gd_t (by decide) _).trans ?_
  rfl
theorem q_D_lookAtNeeds_49 {h : zH} {x1 : Int} {p : Nat} (KC : KC h) (rp : hR h 132 2 = some p) (hp : PS h p) : zY 2 49 [some (zR (some 132)), some (zI x1), none, none] [] h =
    if x1 < 0 then
      some (.inl (none), h)
    else
      if (f_P_kindOf h p x1) = 1 then
        zBack zY 2 111 114 [some (zR (some 132)), some (zI x1), some (zJ (f_S_conditionOf h x1)), none] [] (zC 3 [zR (some 132), zI x1, zJ (((f_S_conditionOf h x1) &&& (f_D_ahead h (f_P_entry h p x1 1))) ||| (((f_S_conditionOf h x1) ^^^ (18446744073709551615#64)) &&& (f_D_ahead h (f_P_entry h p x1 0))))] h)
      else
        if (f_P_kindOf h p x1) = 2 then
          gd (-2147483648 ≤ x1 + (-1) ∧ x1 + (-1) < 2147483648) (
          zY 2 49 [some (zR (some 132)), some (zI (x1 + (-1))), none, none] [] h)
        else
          zBack zY 2 138 141 [some (zR (some 132)), some (zI x1), none, none] [zI x1, zR (some 132)] (zC 6 [zR (some 132), zI x1, zJ (f_D_behind h x1 p)] h) := by
  refine (show zY 2 49 [some (zR (some 132)), some (zI x1), none, none] [] h = if x1 < 0 then zY 2 150 [some (zR (some 132)), some (zI x1), none, none] [] h else zY 2 53 [some (zR (some 132)), some (zI x1), none, none] [] h from zGo 2 2 49 _ _ _).trans ?_
  refine iteC (fun c0 => ?_) (fun c0 => ?_)
  · skip
    refine (show zY 2 150 [some (zR (some 132)), some (zI x1), none, none] [] h = gd (([] : List zV).isEmpty = true ∧ zrk 2 = 0) (some (.inl (none), h)) from zGo 1 2 150 _ _ _).trans ?_
    refine (gd_t (⟨rfl, rfl⟩) _).trans ?_
    rfl
  · skip
    refine (show zY 2 53 [some (zR (some 132)), some (zI x1), none, none] [] h = gd (zob h (some 132) 1) (zY 2 57 [some (zR (some 132)), some (zI x1), none, none] [zR (hR h 132 2)] h) from zGo 2 2 53 _ _ _).trans ?_
    refine (gd_t (⟨rfl, (PTC KC 132 _ rfl rfl), (PNC KC 132 rfl)⟩) _).trans ?_
    refine (congrArg (fun r => zY 2 57 [some (zR (some 132)), some (zI x1), none, none] (zR r :: []) h) rp).trans ?_
    refine (show zY 2 57 [some (zR (some 132)), some (zI x1), none, none] [zR (some p)] h = gd (false = zctor 36 ∧ zcs [] ≤ 8 ∧ zrm 2 (zrf 36 + 1) (8 + (zmaxl 36 + 11) + zrl 36) = true ∧ zcs [zR (some p), zI x1] ≤ zmaxl 36) (gd (zob h (some p) 5) (zBack zY 2 58 61 [some (zR (some 132)), some (zI x1), none, none] [] (zC 36 [zR (some p), zI x1] h))) from zGo 2 2 57 _ _ _).trans ?_
    refine (gd_t (⟨rfl, Nat.le_of_ble_eq_true rfl, rfl, Nat.le_of_ble_eq_true rfl⟩) _).trans ?_
    refine (gd_t (⟨rfl, hp.1, (PS_n hp)⟩) _).trans ?_
    refine (congrArg (zBack zY 2 58 61 [some (zR (some 132)), some (zI x1), none, none] []) (e_P_kindOf hp)).trans ?_
    refine (show zY 2 61 [some (zR (some 132)), some (zI x1), none, none] [zI (f_P_kindOf h p x1)] h = gd (inR (1)) (if (f_P_kindOf h p x1) = 1 then zY 2 65 [some (zR (some 132)), some (zI x1), none, none] [] h else zY 2 117 [some (zR (some 132)), some (zI x1), none, none] [] h) from zGo 2 2 61 _ _ _).trans ?_
    refine (gd_t (by decide) _).trans ?_
    refine iteC (fun c1 => ?_) (fun c1 => ?_)
    · skip
      refine (show zY 2 65 [some (zR (some 132)), some (zI x1), none, none] [] h = gd (zob h (some 132) 1) (zY 2 69 [some (zR (some 132)), some (zI x1), none, none] [zR (hR h 132 0)] h) from zGo 2 2 65 _ _ _).trans ?_
      refine (gd_t (⟨rfl, (PTC KC 132 _ rfl rfl), (PNC KC 132 rfl)⟩) _).trans ?_
      refine (congrArg (fun r => zY 2 69 [some (zR (some 132)), some (zI x1), none, none] (zR r :: []) h) (PRC KC 132 0 _ rfl)).trans ?_
      refine (show zY 2 69 [some (zR (some 132)), some (zI x1), none, none] [zR (some 90)] h = gd (false = zctor 103 ∧ zcs [] ≤ 8 ∧ zrm 2 (zrf 103 + 1) (8 + (zmaxl 103 + 11) + zrl 103) = true ∧ zcs [zR (some 90), zI x1] ≤ zmaxl 103) (gd (zob h (some 90) 8) (zBack zY 2 70 73 [some (zR (some 132)), some (zI x1), none, none] [] (zC 103 [zR (some 90), zI x1] h))) from zGo 2 2 69 _ _ _).trans ?_
      refine (gd_t (⟨rfl, Nat.le_of_ble_eq_true rfl, rfl, Nat.le_of_ble_eq_true rfl⟩) _).trans ?_
      refine (gd_t (⟨rfl, (PTC KC 90 _ rfl rfl), (PNC KC 90 rfl)⟩) _).trans ?_
      refine (congrArg (zBack zY 2 70 73 [some (zR (some 132)), some (zI x1), none, none] []) (e_S_conditionOf KC)).trans ?_
      refine (show zY 2 73 [some (zR (some 132)), some (zI x1), none, none] [zJ (f_S_conditionOf h x1)] h = gd (zob h (some 132) 1) (zY 2 82 [some (zR (some 132)), some (zI x1), some (zJ (f_S_conditionOf h x1)), none] [zR (hR h 132 2), zR (some 132), zJ (f_S_conditionOf h x1), zI x1, zR (some 132)] h) from zGo 7 2 73 _ _ _).trans ?_
      refine (gd_t (⟨rfl, (PTC KC 132 _ rfl rfl), (PNC KC 132 rfl)⟩) _).trans ?_
      refine (congrArg (fun r => zY 2 82 [some (zR (some 132)), some (zI x1), some (zJ (f_S_conditionOf h x1)), none] (zR r :: zR (some 132) :: zJ (f_S_conditionOf h x1) :: zI x1 :: zR (some 132) :: []) h) rp).trans ?_
      refine (show zY 2 82 [some (zR (some 132)), some (zI x1), some (zJ (f_S_conditionOf h x1)), none] [zR (some p), zR (some 132), zJ (f_S_conditionOf h x1), zI x1, zR (some 132)] h = gd (inR (1)) (gd (false = zctor 54 ∧ zcs [zR (some 132), zJ (f_S_conditionOf h x1), zI x1, zR (some 132)] ≤ 8 ∧ zrm 2 (zrf 54 + 1) (8 + (zmaxl 54 + 11) + zrl 54) = true ∧ zcs [zR (some p), zI x1, zI 1] ≤ zmaxl 54) (gd (zob h (some p) 5) (zBack zY 2 84 87 [some (zR (some 132)), some (zI x1), some (zJ (f_S_conditionOf h x1)), none] [zR (some 132), zJ (f_S_conditionOf h x1), zI x1, zR (some 132)] (zC 54 [zR (some p), zI x1, zI 1] h)))) from zGo 3 2 82 _ _ _).trans ?_
      refine (gd_t (by decide) _).trans ?_
      refine (gd_t (⟨rfl, Nat.le_of_ble_eq_true rfl, rfl, Nat.le_of_ble_eq_true rfl⟩) _).trans ?_
      refine (gd_t (⟨rfl, hp.1, (PS_n hp)⟩) _).trans ?_
      refine (congrArg (zBack zY 2 84 87 [some (zR (some 132)), some (zI x1), some (zJ (f_S_conditionOf h x1)), none] [zR (some 132), zJ (f_S_conditionOf h x1), zI x1, zR (some 132)]) (e_P_entry hp)).trans ?_
      refine (show zY 2 87 [some (zR (some 132)), some (zI x1), some (zJ (f_S_conditionOf h x1)), none] [zI (f_P_entry h p x1 1), zR (some 132), zJ (f_S_conditionOf h x1), zI x1, zR (some 132)] h = gd (false = zctor 4 ∧ zcs [zJ (f_S_conditionOf h x1), zI x1, zR (some 132)] ≤ 8 ∧ zrm 2 (zrf 4 + 1) (8 + (zmaxl 4 + 11) + zrl 4) = true ∧ zcs [zR (some 132), zI (f_P_entry h p x1 1)] ≤ zmaxl 4) (gd (zob h (some 132) 1) (zBack zY 2 87 90 [some (zR (some 132)), some (zI x1), some (zJ (f_S_conditionOf h x1)), none] [zJ (f_S_conditionOf h x1), zI x1, zR (some 132)] (zC 4 [zR (some 132), zI (f_P_entry h p x1 1)] h))) from zGo 1 2 87 _ _ _).trans ?_
      refine (gd_t (⟨rfl, Nat.le_of_ble_eq_true rfl, rfl, Nat.le_of_ble_eq_true rfl⟩) _).trans ?_
      refine (gd_t (⟨rfl, (PTC KC 132 _ rfl rfl), (PNC KC 132 rfl)⟩) _).trans ?_
      refine (congrArg (zBack zY 2 87 90 [some (zR (some 132)), some (zI x1), some (zJ (f_S_conditionOf h x1)), none] [zJ (f_S_conditionOf h x1), zI x1, zR (some 132)]) (e_D_ahead KC)).trans ?_
      refine (show zY 2 90 [some (zR (some 132)), some (zI x1), some (zJ (f_S_conditionOf h x1)), none] [zJ (f_D_ahead h (f_P_entry h p x1 1)), zJ (f_S_conditionOf h x1), zI x1, zR (some 132)] h = gd (zob h (some 132) 1) (zY 2 101 [some (zR (some 132)), some (zI x1), some (zJ (f_S_conditionOf h x1)), none] [zR (hR h 132 2), zR (some 132), zJ ((f_S_conditionOf h x1) ^^^ (18446744073709551615#64)), zJ ((f_S_conditionOf h x1) &&& (f_D_ahead h (f_P_entry h p x1 1))), zI x1, zR (some 132)] h) from zGo 7 2 90 _ _ _).trans ?_
      refine (gd_t (⟨rfl, (PTC KC 132 _ rfl rfl), (PNC KC 132 rfl)⟩) _).trans ?_
      refine (congrArg (fun r => zY 2 101 [some (zR (some 132)), some (zI x1), some (zJ (f_S_conditionOf h x1)), none] (zR r :: zR (some 132) :: zJ ((f_S_conditionOf h x1) ^^^ (18446744073709551615#64)) :: zJ ((f_S_conditionOf h x1) &&& (f_D_ahead h (f_P_entry h p x1 1))) :: zI x1 :: zR (some 132) :: []) h) rp).trans ?_
      refine (show zY 2 101 [some (zR (some 132)), some (zI x1), some (zJ (f_S_conditionOf h x1)), none] [zR (some p), zR (some 132), zJ ((f_S_conditionOf h x1) ^^^ (18446744073709551615#64)), zJ ((f_S_conditionOf h x1) &&& (f_D_ahead h (f_P_entry h p x1 1))), zI x1, zR (some 132)] h = gd (inR (0)) (gd (false = zctor 54 ∧ zcs [zR (some 132), zJ ((f_S_conditionOf h x1) ^^^ (18446744073709551615#64)), zJ ((f_S_conditionOf h x1) &&& (f_D_ahead h (f_P_entry h p x1 1))), zI x1, zR (some 132)] ≤ 8 ∧ zrm 2 (zrf 54 + 1) (8 + (zmaxl 54 + 11) + zrl 54) = true ∧ zcs [zR (some p), zI x1, zI 0] ≤ zmaxl 54) (gd (zob h (some p) 5) (zBack zY 2 103 106 [some (zR (some 132)), some (zI x1), some (zJ (f_S_conditionOf h x1)), none] [zR (some 132), zJ ((f_S_conditionOf h x1) ^^^ (18446744073709551615#64)), zJ ((f_S_conditionOf h x1) &&& (f_D_ahead h (f_P_entry h p x1 1))), zI x1, zR (some 132)] (zC 54 [zR (some p), zI x1, zI 0] h)))) from zGo 3 2 101 _ _ _).trans ?_
      refine (gd_t (by decide) _).trans ?_
      refine (gd_t (⟨rfl, Nat.le_of_ble_eq_true rfl, rfl, Nat.le_of_ble_eq_true rfl⟩) _).trans ?_
      refine (gd_t (⟨rfl, hp.1, (PS_n hp)⟩) _).trans ?_
      refine (congrArg (zBack zY 2 103 106 [some (zR (some 132)), some (zI x1), some (zJ (f_S_conditionOf h x1)), none] [zR (some 132), zJ ((f_S_conditionOf h x1) ^^^ (18446744073709551615#64)), zJ ((f_S_conditionOf h x1) &&& (f_D_ahead h (f_P_entry h p x1 1))), zI x1, zR (some 132)]) (e_P_entry hp)).trans ?_
      refine (show zY 2 106 [some (zR (some 132)), some (zI x1), some (zJ (f_S_conditionOf h x1)), none] [zI (f_P_entry h p x1 0), zR (some 132), zJ ((f_S_conditionOf h x1) ^^^ (18446744073709551615#64)), zJ ((f_S_conditionOf h x1) &&& (f_D_ahead h (f_P_entry h p x1 1))), zI x1, zR (some 132)] h = gd (false = zctor 4 ∧ zcs [zJ ((f_S_conditionOf h x1) ^^^ (18446744073709551615#64)), zJ ((f_S_conditionOf h x1) &&& (f_D_ahead h (f_P_entry h p x1 1))), zI x1, zR (some 132)] ≤ 8 ∧ zrm 2 (zrf 4 + 1) (8 + (zmaxl 4 + 11) + zrl 4) = true ∧ zcs [zR (some 132), zI (f_P_entry h p x1 0)] ≤ zmaxl 4) (gd (zob h (some 132) 1) (zBack zY 2 106 109 [some (zR (some 132)), some (zI x1), some (zJ (f_S_conditionOf h x1)), none] [zJ ((f_S_conditionOf h x1) ^^^ (18446744073709551615#64)), zJ ((f_S_conditionOf h x1) &&& (f_D_ahead h (f_P_entry h p x1 1))), zI x1, zR (some 132)] (zC 4 [zR (some 132), zI (f_P_entry h p x1 0)] h))) from zGo 1 2 106 _ _ _).trans ?_
      refine (gd_t (⟨rfl, Nat.le_of_ble_eq_true rfl, rfl, Nat.le_of_ble_eq_true rfl⟩) _).trans ?_
      refine (gd_t (⟨rfl, (PTC KC 132 _ rfl rfl), (PNC KC 132 rfl)⟩) _).trans ?_
      refine (congrArg (zBack zY 2 106 109 [some (zR (some 132)), some (zI x1), some (zJ (f_S_conditionOf h x1)), none] [zJ ((f_S_conditionOf h x1) ^^^ (18446744073709551615#64)), zJ ((f_S_conditionOf h x1) &&& (f_D_ahead h (f_P_entry h p x1 1))), zI x1, zR (some 132)]) (e_D_ahead KC)).trans ?_
      refine (show zY 2 109 [some (zR (some 132)), some (zI x1), some (zJ (f_S_conditionOf h x1)), none] [zJ (f_D_ahead h (f_P_entry h p x1 0)), zJ ((f_S_conditionOf h x1) ^^^ (18446744073709551615#64)), zJ ((f_S_conditionOf h x1) &&& (f_D_ahead h (f_P_entry h p x1 1))), zI x1, zR (some 132)] h = gd (false = zctor 3 ∧ zcs [] ≤ 8 ∧ zrm 2 (zrf 3 + 1) (8 + (zmaxl 3 + 11) + zrl 3) = true ∧ zcs [zR (some 132), zI x1, zJ (((f_S_conditionOf h x1) &&& (f_D_ahead h (f_P_entry h p x1 1))) ||| (((f_S_conditionOf h x1) ^^^ (18446744073709551615#64)) &&& (f_D_ahead h (f_P_entry h p x1 0))))] ≤ zmaxl 3) (gd (zob h (some 132) 1) (zBack zY 2 111 114 [some (zR (some 132)), some (zI x1), some (zJ (f_S_conditionOf h x1)), none] [] (zC 3 [zR (some 132), zI x1, zJ (((f_S_conditionOf h x1) &&& (f_D_ahead h (f_P_entry h p x1 1))) ||| (((f_S_conditionOf h x1) ^^^ (18446744073709551615#64)) &&& (f_D_ahead h (f_P_entry h p x1 0))))] h))) from zGo 3 2 109 _ _ _).trans ?_
      refine (gd_t (⟨rfl, Nat.le_of_ble_eq_true rfl, rfl, Nat.le_of_ble_eq_true rfl⟩) _).trans ?_
      refine (gd_t (⟨rfl, (PTC KC 132 _ rfl rfl), (PNC KC 132 rfl)⟩) _).trans ?_
      rfl
    · skip
      refine (show zY 2 117 [some (zR (some 132)), some (zI x1), none, none] [] h = gd (zob h (some 132) 1) (zY 2 121 [some (zR (some 132)), some (zI x1), none, none] [zR (hR h 132 2)] h) from zGo 2 2 117 _ _ _).trans ?_
      refine (gd_t (⟨rfl, (PTC KC 132 _ rfl rfl), (PNC KC 132 rfl)⟩) _).trans ?_
      refine (congrArg (fun r => zY 2 121 [some (zR (some 132)), some (zI x1), none, none] (zR r :: []) h) rp).trans ?_
      refine (show zY 2 121 [some (zR (some 132)), some (zI x1), none, none] [zR (some p)] h = gd (false = zctor 36 ∧ zcs [] ≤ 8 ∧ zrm 2 (zrf 36 + 1) (8 + (zmaxl 36 + 11) + zrl 36) = true ∧ zcs [zR (some p), zI x1] ≤ zmaxl 36) (gd (zob h (some p) 5) (zBack zY 2 122 125 [some (zR (some 132)), some (zI x1), none, none] [] (zC 36 [zR (some p), zI x1] h))) from zGo 2 2 121 _ _ _).trans ?_
      refine (gd_t (⟨rfl, Nat.le_of_ble_eq_true rfl, rfl, Nat.le_of_ble_eq_true rfl⟩) _).trans ?_
      refine (gd_t (⟨rfl, hp.1, (PS_n hp)⟩) _).trans ?_
      refine (congrArg (zBack zY 2 122 125 [some (zR (some 132)), some (zI x1), none, none] []) (e_P_kindOf hp)).trans ?_
      refine (show zY 2 125 [some (zR (some 132)), some (zI x1), none, none] [zI (f_P_kindOf h p x1)] h = gd (inR (2)) (if (f_P_kindOf h p x1) = 2 then zY 2 144 [some (zR (some 132)), some (zI x1), none, none] [] h else zY 2 129 [some (zR (some 132)), some (zI x1), none, none] [] h) from zGo 2 2 125 _ _ _).trans ?_
      refine (gd_t (by decide) _).trans ?_
      refine iteC (fun c2 => ?_) (fun c2 => ?_)
      · skip
        refine (show zY 2 144 [some (zR (some 132)), some (zI x1), none, none] [] h = gd (inR (x1 + (-1))) (gd (inR (-1)) (zY 2 49 [some (zR (some 132)), some (zI (x1 + (-1))), none, none] [] h)) from zGo 2 2 144 _ _ _).trans ?_
        refine gd_c Iff.rfl (fun c3 => ?_)
        refine (gd_t (by decide) _).trans ?_
        rfl
      · skip
        refine (show zY 2 129 [some (zR (some 132)), some (zI x1), none, none] [] h = gd (false = zctor 5 ∧ zcs [zI x1, zR (some 132), zI x1, zR (some 132)] ≤ 8 ∧ zrm 2 (zrf 5 + 1) (8 + (zmaxl 5 + 11) + zrl 5) = true ∧ zcs [zR (some 132), zI x1] ≤ zmaxl 5) (gd (zob h (some 132) 1) (zBack zY 2 135 138 [some (zR (some 132)), some (zI x1), none, none] [zI x1, zR (some 132), zI x1, zR (some 132)] (zC 5 [zR (some 132), zI x1] h))) from zGo 7 2 129 _ _ _).trans ?_
        refine (gd_t (⟨rfl, Nat.le_of_ble_eq_true rfl, rfl, Nat.le_of_ble_eq_true rfl⟩) _).trans ?_
        refine (gd_t (⟨rfl, (PTC KC 132 _ rfl rfl), (PNC KC 132 rfl)⟩) _).trans ?_
        refine (congrArg (zBack zY 2 135 138 [some (zR (some 132)), some (zI x1), none, none] [zI x1, zR (some 132), zI x1, zR (some 132)]) (e_D_behind KC rp hp)).trans ?_
        refine (show zY 2 138 [some (zR (some 132)), some (zI x1), none, none] [zJ (f_D_behind h x1 p), zI x1, zR (some 132), zI x1, zR (some 132)] h = gd (false = zctor 6 ∧ zcs [zI x1, zR (some 132)] ≤ 8 ∧ zrm 2 (zrf 6 + 1) (8 + (zmaxl 6 + 11) + zrl 6) = true ∧ zcs [zR (some 132), zI x1, zJ (f_D_behind h x1 p)] ≤ zmaxl 6) (gd (zob h (some 132) 1) (zBack zY 2 138 141 [some (zR (some 132)), some (zI x1), none, none] [zI x1, zR (some 132)] (zC 6 [zR (some 132), zI x1, zJ (f_D_behind h x1 p)] h))) from zGo 1 2 138 _ _ _).trans ?_
        refine (gd_t (⟨rfl, Nat.le_of_ble_eq_true rfl, rfl, Nat.le_of_ble_eq_true rfl⟩) _).trans ?_
        refine (gd_t (⟨rfl, (PTC KC 132 _ rfl rfl), (PNC KC 132 rfl)⟩) _).trans ?_
        rfl
theorem q_D_lookAtNeeds_r114 {h : zH} {x1 : Int} {x2 : BitVec 64} (KC : KC h) : zBack zY 2 111 114 [some (zR (some 132)), some (zI x1), some (zJ x2), none] [] (some (.inl (none), h)) =
    gd (-2147483648 ≤ x1 + (-1) ∧ x1 + (-1) < 2147483648) (
    zY 2 49 [some (zR (some 132)), some (zI (x1 + (-1))), some (zJ x2), none] [] h) := by
  refine (show zBack zY 2 111 114 [some (zR (some 132)), some (zI x1), some (zJ x2), none] [] (some (.inl (none), h)) = gd (inR (x1 + (-1))) (gd (inR (-1)) (zY 2 49 [some (zR (some 132)), some (zI (x1 + (-1))), some (zJ x2), none] [] h)) from zGo 3 2 114 _ _ _).trans ?_
  refine gd_c Iff.rfl (fun c0 => ?_)
  refine (gd_t (by decide) _).trans ?_
  rfl
theorem q_D_lookAtNeeds_r141 {h : zH} {x1 : Int} {y1 : Int} {y : BitVec 64} (KC : KC h) : zBack zY 2 138 141 [some (zR (some 132)), some (zI x1), none, none] [zI y1, zR (some 132)] (some (.inl (some (zJ y)), h)) =
    zBack zY 2 141 144 [some (zR (some 132)), some (zI x1), none, none] [] (zC 3 [zR (some 132), zI y1, zJ y] h) := by
  refine (show zBack zY 2 138 141 [some (zR (some 132)), some (zI x1), none, none] [zI y1, zR (some 132)] (some (.inl (some (zJ y)), h)) = gd (false = zctor 3 ∧ zcs [] ≤ 8 ∧ zrm 2 (zrf 3 + 1) (8 + (zmaxl 3 + 11) + zrl 3) = true ∧ zcs [zR (some 132), zI y1, zJ y] ≤ zmaxl 3) (gd (zob h (some 132) 1) (zBack zY 2 141 144 [some (zR (some 132)), some (zI x1), none, none] [] (zC 3 [zR (some 132), zI y1, zJ y] h))) from zGo 1 2 141 _ _ _).trans ?_
  refine (gd_t (⟨rfl, Nat.le_of_ble_eq_true rfl, rfl, Nat.le_of_ble_eq_true rfl⟩) _).trans ?_
  refine (gd_t (⟨rfl, (PTC KC 132 _ rfl rfl), (PNC KC 132 rfl)⟩) _).trans ?_
  rfl
theorem q_D_lookAtNeeds_r144 {h : zH} {x1 : Int} (KC : KC h) : zBack zY 2 141 144 [some (zR (some 132)), some (zI x1), none, none] [] (some (.inl (none), h)) =
    gd (-2147483648 ≤ x1 + (-1) ∧ x1 + (-1) < 2147483648) (
    zY 2 49 [some (zR (some 132)), some (zI (x1 + (-1))), none, none] [] h) := by
  refine (show zBack zY 2 141 144 [some (zR (some 132)), some (zI x1), none, none] [] (some (.inl (none), h)) = gd (inR (x1 + (-1))) (gd (inR (-1)) (zY 2 49 [some (zR (some 132)), some (zI (x1 + (-1))), none, none] [] h)) from zGo 2 2 144 _ _ _).trans ?_
  refine gd_c Iff.rfl (fun c0 => ?_)
  refine (gd_t (by decide) _).trans ?_
  rfl
theorem q_D_lessening {h : zH} {x1 : Int} {x2 : Int} (KC : KC h) : zC 8 [zR (some 132), zI x1, zI x2] h =
    zY 8 5 [some (zR (some 132)), some (zI x1), some (zI x2), some (zJ (0#64)), none, some (zI 0), none] [] h := by
  refine (show zC 8 [zR (some 132), zI x1, zI x2] h = gd (inR (0)) (zY 8 5 [some (zR (some 132)), some (zI x1), some (zI x2), some (zJ (0#64)), none, some (zI 0), none] [] h) from zGo 4 8 0 _ _ _).trans ?_
  refine (gd_t (by decide) _).trans ?_
  rfl
theorem q_D_lessening_5 {h : zH} {x1 : Int} {x2 : Int} {x3 : BitVec 64} {x5 : Int} (KC : KC h) : zY 8 5 [some (zR (some 132)), some (zI x1), some (zI x2), some (zJ x3), none, some (zI x5), none] [] h =
    if x5 < 64 then
      zBack zY 8 19 22 [some (zR (some 132)), some (zI x1), some (zI x2), some (zJ x3), none, some (zI x5), none] [] (zC 60 [zR (some 128), zI x2, zI x5] h)
    else
      some (.inl (some (zJ x3)), h) := by
  refine (show zY 8 5 [some (zR (some 132)), some (zI x1), some (zI x2), some (zJ x3), none, some (zI x5), none] [] h = gd (-128 ≤ (64 : Int) ∧ (64 : Int) < 128) (if x5 < 64 then zY 8 12 [some (zR (some 132)), some (zI x1), some (zI x2), some (zJ x3), none, some (zI x5), none] [] h else zY 8 66 [some (zR (some 132)), some (zI x1), some (zI x2), some (zJ x3), none, some (zI x5), none] [] h) from zGo 3 8 5 _ _ _).trans ?_
  refine (gd_t (by decide) _).trans ?_
  refine iteC (fun c0 => ?_) (fun c0 => ?_)
  · skip
    refine (show zY 8 12 [some (zR (some 132)), some (zI x1), some (zI x2), some (zJ x3), none, some (zI x5), none] [] h = gd (zob h (some 132) 1) (zY 8 16 [some (zR (some 132)), some (zI x1), some (zI x2), some (zJ x3), none, some (zI x5), none] [zR (hR h 132 1)] h) from zGo 2 8 12 _ _ _).trans ?_
    refine (gd_t (⟨rfl, (PTC KC 132 _ rfl rfl), (PNC KC 132 rfl)⟩) _).trans ?_
    refine (congrArg (fun r => zY 8 16 [some (zR (some 132)), some (zI x1), some (zI x2), some (zJ x3), none, some (zI x5), none] (zR r :: []) h) (PRC KC 132 1 _ rfl)).trans ?_
    refine (show zY 8 16 [some (zR (some 132)), some (zI x1), some (zI x2), some (zJ x3), none, some (zI x5), none] [zR (some 128)] h = gd (false = zctor 60 ∧ zcs [] ≤ 8 ∧ zrm 8 (zrf 60 + 1) (8 + (zmaxl 60 + 11) + zrl 60) = true ∧ zcs [zR (some 128), zI x2, zI x5] ≤ zmaxl 60) (gd (zob h (some 128) 6) (zBack zY 8 19 22 [some (zR (some 132)), some (zI x1), some (zI x2), some (zJ x3), none, some (zI x5), none] [] (zC 60 [zR (some 128), zI x2, zI x5] h))) from zGo 3 8 16 _ _ _).trans ?_
    refine (gd_t (⟨rfl, Nat.le_of_ble_eq_true rfl, rfl, Nat.le_of_ble_eq_true rfl⟩) _).trans ?_
    refine (gd_t (⟨rfl, (PTC KC 128 _ rfl rfl), (PNC KC 128 rfl)⟩) _).trans ?_
    rfl
  · skip
    refine (show zY 8 66 [some (zR (some 132)), some (zI x1), some (zI x2), some (zJ x3), none, some (zI x5), none] [] h = gd (([] : List zV).isEmpty = true ∧ zrk 8 = 2) (some (.inl (some (zJ x3)), h)) from zGo 2 8 66 _ _ _).trans ?_
    refine (gd_t (⟨rfl, rfl⟩) _).trans ?_
    rfl
theorem q_D_lessening_r22 {h : zH} {x1 : Int} {x2 : Int} {x3 : BitVec 64} {x5 : Int} {y : Int} (KC : KC h) : zBack zY 8 19 22 [some (zR (some 132)), some (zI x1), some (zI x2), some (zJ x3), none, some (zI x5), none] [] (some (.inl (some (zI y)), h)) =
    if y = (-1) then
      gd (-2147483648 ≤ x5 + 1 ∧ x5 + 1 < 2147483648) (
      zY 8 5 [some (zR (some 132)), some (zI x1), some (zI x2), some (zJ x3), none, some (zI (x5 + 1)), some (zI y)] [] h)
    else
      if (f_S_lessOf h x1 y) < (f_S_lessOf h x1 x5) then
        gd (-2147483648 ≤ x5 + 1 ∧ x5 + 1 < 2147483648) (
        zY 8 5 [some (zR (some 132)), some (zI x1), some (zI x2), some (zJ (x3 ||| (zlshl (1#64) x5))), none, some (zI (x5 + 1)), some (zI y)] [] h)
      else
        gd (-2147483648 ≤ x5 + 1 ∧ x5 + 1 < 2147483648) (
        zY 8 5 [some (zR (some 132)), some (zI x1), some (zI x2), some (zJ x3), none, some (zI (x5 + 1)), some (zI y)] [] h) := by
  refine (show zBack zY 8 19 22 [some (zR (some 132)), some (zI x1), some (zI x2), some (zJ x3), none, some (zI x5), none] [] (some (.inl (some (zI y)), h)) = gd (inR (-1)) (if y = (-1) then zY 8 60 [some (zR (some 132)), some (zI x1), some (zI x2), some (zJ x3), none, some (zI x5), some (zI y)] [] h else zY 8 30 [some (zR (some 132)), some (zI x1), some (zI x2), some (zJ x3), none, some (zI x5), some (zI y)] [] h) from zGo 4 8 22 _ _ _).trans ?_
  refine (gd_t (by decide) _).trans ?_
  refine iteC (fun c0 => ?_) (fun c0 => ?_)
  · skip
    refine (show zY 8 60 [some (zR (some 132)), some (zI x1), some (zI x2), some (zJ x3), none, some (zI x5), some (zI y)] [] h = gd (inR (x5 + 1)) (gd (inR (1)) (zY 8 5 [some (zR (some 132)), some (zI x1), some (zI x2), some (zJ x3), none, some (zI (x5 + 1)), some (zI y)] [] h)) from zGo 2 8 60 _ _ _).trans ?_
    refine gd_c Iff.rfl (fun c1 => ?_)
    refine (gd_t (by decide) _).trans ?_
    rfl
  · skip
    refine (show zY 8 30 [some (zR (some 132)), some (zI x1), some (zI x2), some (zJ x3), none, some (zI x5), some (zI y)] [] h = gd (zob h (some 132) 1) (zY 8 34 [some (zR (some 132)), some (zI x1), some (zI x2), some (zJ x3), none, some (zI x5), some (zI y)] [zR (hR h 132 0)] h) from zGo 2 8 30 _ _ _).trans ?_
    refine (gd_t (⟨rfl, (PTC KC 132 _ rfl rfl), (PNC KC 132 rfl)⟩) _).trans ?_
    refine (congrArg (fun r => zY 8 34 [some (zR (some 132)), some (zI x1), some (zI x2), some (zJ x3), none, some (zI x5), some (zI y)] (zR r :: []) h) (PRC KC 132 0 _ rfl)).trans ?_
    refine (show zY 8 34 [some (zR (some 132)), some (zI x1), some (zI x2), some (zJ x3), none, some (zI x5), some (zI y)] [zR (some 90)] h = gd (false = zctor 108 ∧ zcs [] ≤ 8 ∧ zrm 8 (zrf 108 + 1) (8 + (zmaxl 108 + 11) + zrl 108) = true ∧ zcs [zR (some 90), zI x1, zI y] ≤ zmaxl 108) (gd (zob h (some 90) 8) (zBack zY 8 37 40 [some (zR (some 132)), some (zI x1), some (zI x2), some (zJ x3), none, some (zI x5), some (zI y)] [] (zC 108 [zR (some 90), zI x1, zI y] h))) from zGo 3 8 34 _ _ _).trans ?_
    refine (gd_t (⟨rfl, Nat.le_of_ble_eq_true rfl, rfl, Nat.le_of_ble_eq_true rfl⟩) _).trans ?_
    refine (gd_t (⟨rfl, (PTC KC 90 _ rfl rfl), (PNC KC 90 rfl)⟩) _).trans ?_
    refine (congrArg (zBack zY 8 37 40 [some (zR (some 132)), some (zI x1), some (zI x2), some (zJ x3), none, some (zI x5), some (zI y)] []) (e_S_lessOf KC)).trans ?_
    refine (show zY 8 40 [some (zR (some 132)), some (zI x1), some (zI x2), some (zJ x3), none, some (zI x5), some (zI y)] [zI (f_S_lessOf h x1 y)] h = gd (zob h (some 132) 1) (zY 8 44 [some (zR (some 132)), some (zI x1), some (zI x2), some (zJ x3), none, some (zI x5), some (zI y)] [zR (hR h 132 0), zI (f_S_lessOf h x1 y)] h) from zGo 2 8 40 _ _ _).trans ?_
    refine (gd_t (⟨rfl, (PTC KC 132 _ rfl rfl), (PNC KC 132 rfl)⟩) _).trans ?_
    refine (congrArg (fun r => zY 8 44 [some (zR (some 132)), some (zI x1), some (zI x2), some (zJ x3), none, some (zI x5), some (zI y)] (zR r :: zI (f_S_lessOf h x1 y) :: []) h) (PRC KC 132 0 _ rfl)).trans ?_
    refine (show zY 8 44 [some (zR (some 132)), some (zI x1), some (zI x2), some (zJ x3), none, some (zI x5), some (zI y)] [zR (some 90), zI (f_S_lessOf h x1 y)] h = gd (false = zctor 108 ∧ zcs [zI (f_S_lessOf h x1 y)] ≤ 8 ∧ zrm 8 (zrf 108 + 1) (8 + (zmaxl 108 + 11) + zrl 108) = true ∧ zcs [zR (some 90), zI x1, zI x5] ≤ zmaxl 108) (gd (zob h (some 90) 8) (zBack zY 8 47 50 [some (zR (some 132)), some (zI x1), some (zI x2), some (zJ x3), none, some (zI x5), some (zI y)] [zI (f_S_lessOf h x1 y)] (zC 108 [zR (some 90), zI x1, zI x5] h))) from zGo 3 8 44 _ _ _).trans ?_
    refine (gd_t (⟨rfl, Nat.le_of_ble_eq_true rfl, rfl, Nat.le_of_ble_eq_true rfl⟩) _).trans ?_
    refine (gd_t (⟨rfl, (PTC KC 90 _ rfl rfl), (PNC KC 90 rfl)⟩) _).trans ?_
    refine (congrArg (zBack zY 8 47 50 [some (zR (some 132)), some (zI x1), some (zI x2), some (zJ x3), none, some (zI x5), some (zI y)] [zI (f_S_lessOf h x1 y)]) (e_S_lessOf KC)).trans ?_
    refine (show zY 8 50 [some (zR (some 132)), some (zI x1), some (zI x2), some (zJ x3), none, some (zI x5), some (zI y)] [zI (f_S_lessOf h x1 x5), zI (f_S_lessOf h x1 y)] h = if (f_S_lessOf h x1 y) < (f_S_lessOf h x1 x5) then zY 8 53 [some (zR (some 132)), some (zI x1), some (zI x2), some (zJ x3), none, some (zI x5), some (zI y)] [] h else zY 8 60 [some (zR (some 132)), some (zI x1), some (zI x2), some (zJ x3), none, some (zI x5), some (zI y)] [] h from zGo 1 8 50 _ _ _).trans ?_
    refine iteC (fun c2 => ?_) (fun c2 => ?_)
    · skip
      refine (show zY 8 53 [some (zR (some 132)), some (zI x1), some (zI x2), some (zJ x3), none, some (zI x5), some (zI y)] [] h = gd (inR (x5 + 1)) (gd (inR (1)) (zY 8 5 [some (zR (some 132)), some (zI x1), some (zI x2), some (zJ (x3 ||| (zlshl (1#64) x5))), none, some (zI (x5 + 1)), some (zI y)] [] h)) from zGo 8 8 53 _ _ _).trans ?_
      refine gd_c Iff.rfl (fun c3 => ?_)
      refine (gd_t (by decide) _).trans ?_
      rfl
    · skip
      refine (show zY 8 60 [some (zR (some 132)), some (zI x1), some (zI x2), some (zJ x3), none, some (zI x5), some (zI y)] [] h = gd (inR (x5 + 1)) (gd (inR (1)) (zY 8 5 [some (zR (some 132)), some (zI x1), some (zI x2), some (zJ x3), none, some (zI (x5 + 1)), some (zI y)] [] h)) from zGo 2 8 60 _ _ _).trans ?_
      refine gd_c Iff.rfl (fun c4 => ?_)
      refine (gd_t (by decide) _).trans ?_
      rfl
theorem q_D_lookAtLoop {h : zH} {x1 : Int} {x2 : Int} {p : Nat} (KC : KC h) (rp : hR h 132 2 = some p) (hp : PS h p) : zC 7 [zR (some 132), zI x1, zI x2] h =
    gd (-2147483648 ≤ 3 * x1 ∧ 3 * x1 < 2147483648) (
    gd (-2147483648 ≤ 1 + (3 * x1) ∧ 1 + (3 * x1) < 2147483648) (
    if (1 + (3 * x1)) < 1 then
      some (.inl (none), h)
    else
      gd (-2147483648 ≤ (1 + (3 * x1)) + 2 ∧ (1 + (3 * x1)) + 2 < 2147483648) (
      if ((1 + (3 * x1)) + 2) < 73 then
        gd (0 ≤ (1 + (3 * x1)) ∧ (1 + (3 * x1)) < 73) (
        gd (-2147483648 ≤ (1 + (3 * x1)) + 1 ∧ (1 + (3 * x1)) + 1 < 2147483648) (
        gd (0 ≤ ((1 + (3 * x1)) + 1) ∧ ((1 + (3 * x1)) + 1) < 73) (
        zBack zY 7 120 123 [some (zR (some 132)), some (zI x1), some (zI x2), some (zJ (f_S_keepOf h x1)), none, some (zJ (f_S_conditionOf h x2)), none, some (zI (1 + (3 * x1)))] [zJ ((f_S_keepOf h x1) &&& (f_S_conditionOf h x2)), zI ((1 + (3 * x1)) + 2), zR (some 134)] (zC 8 [zR (some 132), zI x1, zI (f_P_firstOf (sJ (sJ h 134 (1 + (3 * x1)).toNat (((f_S_keepOf h x1) &&& (f_S_conditionOf h x2)) &&& ((f_D_ahead h (f_P_entry h p x2 1)) ^^^ (18446744073709551615#64)))) 134 ((1 + (3 * x1)) + 1).toNat (((f_S_keepOf h x1) &&& ((f_S_conditionOf h x2) ^^^ (18446744073709551615#64))) &&& ((f_D_behind (sJ h 134 (1 + (3 * x1)).toNat (((f_S_keepOf h x1) &&& (f_S_conditionOf h x2)) &&& ((f_D_ahead h (f_P_entry h p x2 1)) ^^^ (18446744073709551615#64)))) x2 p) ^^^ (18446744073709551615#64)))) p x2)] (sJ (sJ h 134 (1 + (3 * x1)).toNat (((f_S_keepOf h x1) &&& (f_S_conditionOf h x2)) &&& ((f_D_ahead h (f_P_entry h p x2 1)) ^^^ (18446744073709551615#64)))) 134 ((1 + (3 * x1)) + 1).toNat (((f_S_keepOf h x1) &&& ((f_S_conditionOf h x2) ^^^ (18446744073709551615#64))) &&& ((f_D_behind (sJ h 134 (1 + (3 * x1)).toNat (((f_S_keepOf h x1) &&& (f_S_conditionOf h x2)) &&& ((f_D_ahead h (f_P_entry h p x2 1)) ^^^ (18446744073709551615#64)))) x2 p) ^^^ (18446744073709551615#64))))))))
      else
        some (.inl (none), h)))) := by
  refine (show zC 7 [zR (some 132), zI x1, zI x2] h = gd (zob h (some 132) 1) (zY 7 4 [some (zR (some 132)), some (zI x1), some (zI x2), none, none, none, none, none] [zR (hR h 132 0)] h) from zGo 2 7 0 _ _ _).trans ?_
  refine (gd_t (⟨rfl, (PTC KC 132 _ rfl rfl), (PNC KC 132 rfl)⟩) _).trans ?_
  refine (congrArg (fun r => zY 7 4 [some (zR (some 132)), some (zI x1), some (zI x2), none, none, none, none, none] (zR r :: []) h) (PRC KC 132 0 _ rfl)).trans ?_
  refine (show zY 7 4 [some (zR (some 132)), some (zI x1), some (zI x2), none, none, none, none, none] [zR (some 90)] h = gd (false = zctor 107 ∧ zcs [] ≤ 8 ∧ zrm 7 (zrf 107 + 1) (8 + (zmaxl 107 + 11) + zrl 107) = true ∧ zcs [zR (some 90), zI x1] ≤ zmaxl 107) (gd (zob h (some 90) 8) (zBack zY 7 5 8 [some (zR (some 132)), some (zI x1), some (zI x2), none, none, none, none, none] [] (zC 107 [zR (some 90), zI x1] h))) from zGo 2 7 4 _ _ _).trans ?_
  refine (gd_t (⟨rfl, Nat.le_of_ble_eq_true rfl, rfl, Nat.le_of_ble_eq_true rfl⟩) _).trans ?_
  refine (gd_t (⟨rfl, (PTC KC 90 _ rfl rfl), (PNC KC 90 rfl)⟩) _).trans ?_
  refine (congrArg (zBack zY 7 5 8 [some (zR (some 132)), some (zI x1), some (zI x2), none, none, none, none, none] []) (e_S_keepOf KC)).trans ?_
  refine (show zY 7 8 [some (zR (some 132)), some (zI x1), some (zI x2), none, none, none, none, none] [zJ (f_S_keepOf h x1)] h = gd (zob h (some 132) 1) (zY 7 13 [some (zR (some 132)), some (zI x1), some (zI x2), some (zJ (f_S_keepOf h x1)), none, none, none, none] [zR (hR h 132 0)] h) from zGo 3 7 8 _ _ _).trans ?_
  refine (gd_t (⟨rfl, (PTC KC 132 _ rfl rfl), (PNC KC 132 rfl)⟩) _).trans ?_
  refine (congrArg (fun r => zY 7 13 [some (zR (some 132)), some (zI x1), some (zI x2), some (zJ (f_S_keepOf h x1)), none, none, none, none] (zR r :: []) h) (PRC KC 132 0 _ rfl)).trans ?_
  refine (show zY 7 13 [some (zR (some 132)), some (zI x1), some (zI x2), some (zJ (f_S_keepOf h x1)), none, none, none, none] [zR (some 90)] h = gd (false = zctor 103 ∧ zcs [] ≤ 8 ∧ zrm 7 (zrf 103 + 1) (8 + (zmaxl 103 + 11) + zrl 103) = true ∧ zcs [zR (some 90), zI x2] ≤ zmaxl 103) (gd (zob h (some 90) 8) (zBack zY 7 14 17 [some (zR (some 132)), some (zI x1), some (zI x2), some (zJ (f_S_keepOf h x1)), none, none, none, none] [] (zC 103 [zR (some 90), zI x2] h))) from zGo 2 7 13 _ _ _).trans ?_
  refine (gd_t (⟨rfl, Nat.le_of_ble_eq_true rfl, rfl, Nat.le_of_ble_eq_true rfl⟩) _).trans ?_
  refine (gd_t (⟨rfl, (PTC KC 90 _ rfl rfl), (PNC KC 90 rfl)⟩) _).trans ?_
  refine (congrArg (zBack zY 7 14 17 [some (zR (some 132)), some (zI x1), some (zI x2), some (zJ (f_S_keepOf h x1)), none, none, none, none] []) (e_S_conditionOf KC)).trans ?_
  refine (show zY 7 17 [some (zR (some 132)), some (zI x1), some (zI x2), some (zJ (f_S_keepOf h x1)), none, none, none, none] [zJ (f_S_conditionOf h x2)] h = gd (inR (1)) (gd (inR (3)) (gd (inR (3 * x1)) (gd (inR (1 + (3 * x1))) (gd (inR (1)) (if (1 + (3 * x1)) < 1 then zY 7 41 [some (zR (some 132)), some (zI x1), some (zI x2), some (zJ (f_S_keepOf h x1)), none, some (zJ (f_S_conditionOf h x2)), none, some (zI (1 + (3 * x1)))] [] h else zY 7 32 [some (zR (some 132)), some (zI x1), some (zI x2), some (zJ (f_S_keepOf h x1)), none, some (zJ (f_S_conditionOf h x2)), none, some (zI (1 + (3 * x1)))] [] h))))) from zGo 10 7 17 _ _ _).trans ?_
  refine (gd_t (by decide) _).trans ?_
  refine (gd_t (by decide) _).trans ?_
  refine gd_c Iff.rfl (fun c0 => ?_)
  refine gd_c Iff.rfl (fun c1 => ?_)
  refine (gd_t (by decide) _).trans ?_
  refine iteC (fun c2 => ?_) (fun c2 => ?_)
  · skip
    refine (show zY 7 41 [some (zR (some 132)), some (zI x1), some (zI x2), some (zJ (f_S_keepOf h x1)), none, some (zJ (f_S_conditionOf h x2)), none, some (zI (1 + (3 * x1)))] [] h = gd (([] : List zV).isEmpty = true ∧ zrk 7 = 0) (some (.inl (none), h)) from zGo 1 7 41 _ _ _).trans ?_
    refine (gd_t (⟨rfl, rfl⟩) _).trans ?_
    rfl
  · skip
    refine (show zY 7 32 [some (zR (some 132)), some (zI x1), some (zI x2), some (zJ (f_S_keepOf h x1)), none, some (zJ (f_S_conditionOf h x2)), none, some (zI (1 + (3 * x1)))] [] h = gd (inR (2)) (gd (inR ((1 + (3 * x1)) + 2)) (gd (-128 ≤ (73 : Int) ∧ (73 : Int) < 128) (if ((1 + (3 * x1)) + 2) < 73 then zY 7 42 [some (zR (some 132)), some (zI x1), some (zI x2), some (zJ (f_S_keepOf h x1)), none, some (zJ (f_S_conditionOf h x2)), none, some (zI (1 + (3 * x1)))] [] h else zY 7 41 [some (zR (some 132)), some (zI x1), some (zI x2), some (zJ (f_S_keepOf h x1)), none, some (zJ (f_S_conditionOf h x2)), none, some (zI (1 + (3 * x1)))] [] h))) from zGo 5 7 32 _ _ _).trans ?_
    refine (gd_t (by decide) _).trans ?_
    refine gd_c Iff.rfl (fun c3 => ?_)
    refine (gd_t (by decide) _).trans ?_
    refine iteC (fun c4 => ?_) (fun c4 => ?_)
    · skip
      refine (show zY 7 42 [some (zR (some 132)), some (zI x1), some (zI x2), some (zJ (f_S_keepOf h x1)), none, some (zJ (f_S_conditionOf h x2)), none, some (zI (1 + (3 * x1)))] [] h = gd (zob h (some 132) 1) (zY 7 46 [some (zR (some 132)), some (zI x1), some (zI x2), some (zJ (f_S_keepOf h x1)), none, some (zJ (f_S_conditionOf h x2)), none, some (zI (1 + (3 * x1)))] [zR (hR h 132 4)] h) from zGo 2 7 42 _ _ _).trans ?_
      refine (gd_t (⟨rfl, (PTC KC 132 _ rfl rfl), (PNC KC 132 rfl)⟩) _).trans ?_
      refine (congrArg (fun r => zY 7 46 [some (zR (some 132)), some (zI x1), some (zI x2), some (zJ (f_S_keepOf h x1)), none, some (zJ (f_S_conditionOf h x2)), none, some (zI (1 + (3 * x1)))] (zR r :: []) h) (PRC KC 132 4 _ rfl)).trans ?_
      refine (show zY 7 46 [some (zR (some 132)), some (zI x1), some (zI x2), some (zJ (f_S_keepOf h x1)), none, some (zJ (f_S_conditionOf h x2)), none, some (zI (1 + (3 * x1)))] [zR (some 134)] h = gd (zob h (some 132) 1) (zY 7 57 [some (zR (some 132)), some (zI x1), some (zI x2), some (zJ (f_S_keepOf h x1)), none, some (zJ (f_S_conditionOf h x2)), none, some (zI (1 + (3 * x1)))] [zR (hR h 132 2), zR (some 132), zJ ((f_S_keepOf h x1) &&& (f_S_conditionOf h x2)), zI (1 + (3 * x1)), zR (some 134)] h) from zGo 7 7 46 _ _ _).trans ?_
      refine (gd_t (⟨rfl, (PTC KC 132 _ rfl rfl), (PNC KC 132 rfl)⟩) _).trans ?_
      refine (congrArg (fun r => zY 7 57 [some (zR (some 132)), some (zI x1), some (zI x2), some (zJ (f_S_keepOf h x1)), none, some (zJ (f_S_conditionOf h x2)), none, some (zI (1 + (3 * x1)))] (zR r :: zR (some 132) :: zJ ((f_S_keepOf h x1) &&& (f_S_conditionOf h x2)) :: zI (1 + (3 * x1)) :: zR (some 134) :: []) h) rp).trans ?_
      refine (show zY 7 57 [some (zR (some 132)), some (zI x1), some (zI x2), some (zJ (f_S_keepOf h x1)), none, some (zJ (f_S_conditionOf h x2)), none, some (zI (1 + (3 * x1)))] [zR (some p), zR (some 132), zJ ((f_S_keepOf h x1) &&& (f_S_conditionOf h x2)), zI (1 + (3 * x1)), zR (some 134)] h = gd (inR (1)) (gd (false = zctor 54 ∧ zcs [zR (some 132), zJ ((f_S_keepOf h x1) &&& (f_S_conditionOf h x2)), zI (1 + (3 * x1)), zR (some 134)] ≤ 8 ∧ zrm 7 (zrf 54 + 1) (8 + (zmaxl 54 + 11) + zrl 54) = true ∧ zcs [zR (some p), zI x2, zI 1] ≤ zmaxl 54) (gd (zob h (some p) 5) (zBack zY 7 59 62 [some (zR (some 132)), some (zI x1), some (zI x2), some (zJ (f_S_keepOf h x1)), none, some (zJ (f_S_conditionOf h x2)), none, some (zI (1 + (3 * x1)))] [zR (some 132), zJ ((f_S_keepOf h x1) &&& (f_S_conditionOf h x2)), zI (1 + (3 * x1)), zR (some 134)] (zC 54 [zR (some p), zI x2, zI 1] h)))) from zGo 3 7 57 _ _ _).trans ?_
      refine (gd_t (by decide) _).trans ?_
      refine (gd_t (⟨rfl, Nat.le_of_ble_eq_true rfl, rfl, Nat.le_of_ble_eq_true rfl⟩) _).trans ?_
      refine (gd_t (⟨rfl, hp.1, (PS_n hp)⟩) _).trans ?_
      refine (congrArg (zBack zY 7 59 62 [some (zR (some 132)), some (zI x1), some (zI x2), some (zJ (f_S_keepOf h x1)), none, some (zJ (f_S_conditionOf h x2)), none, some (zI (1 + (3 * x1)))] [zR (some 132), zJ ((f_S_keepOf h x1) &&& (f_S_conditionOf h x2)), zI (1 + (3 * x1)), zR (some 134)]) (e_P_entry hp)).trans ?_
      refine (show zY 7 62 [some (zR (some 132)), some (zI x1), some (zI x2), some (zJ (f_S_keepOf h x1)), none, some (zJ (f_S_conditionOf h x2)), none, some (zI (1 + (3 * x1)))] [zI (f_P_entry h p x2 1), zR (some 132), zJ ((f_S_keepOf h x1) &&& (f_S_conditionOf h x2)), zI (1 + (3 * x1)), zR (some 134)] h = gd (false = zctor 4 ∧ zcs [zJ ((f_S_keepOf h x1) &&& (f_S_conditionOf h x2)), zI (1 + (3 * x1)), zR (some 134)] ≤ 8 ∧ zrm 7 (zrf 4 + 1) (8 + (zmaxl 4 + 11) + zrl 4) = true ∧ zcs [zR (some 132), zI (f_P_entry h p x2 1)] ≤ zmaxl 4) (gd (zob h (some 132) 1) (zBack zY 7 62 65 [some (zR (some 132)), some (zI x1), some (zI x2), some (zJ (f_S_keepOf h x1)), none, some (zJ (f_S_conditionOf h x2)), none, some (zI (1 + (3 * x1)))] [zJ ((f_S_keepOf h x1) &&& (f_S_conditionOf h x2)), zI (1 + (3 * x1)), zR (some 134)] (zC 4 [zR (some 132), zI (f_P_entry h p x2 1)] h))) from zGo 1 7 62 _ _ _).trans ?_
      refine (gd_t (⟨rfl, Nat.le_of_ble_eq_true rfl, rfl, Nat.le_of_ble_eq_true rfl⟩) _).trans ?_
      refine (gd_t (⟨rfl, (PTC KC 132 _ rfl rfl), (PNC KC 132 rfl)⟩) _).trans ?_
      refine (congrArg (zBack zY 7 62 65 [some (zR (some 132)), some (zI x1), some (zI x2), some (zJ (f_S_keepOf h x1)), none, some (zJ (f_S_conditionOf h x2)), none, some (zI (1 + (3 * x1)))] [zJ ((f_S_keepOf h x1) &&& (f_S_conditionOf h x2)), zI (1 + (3 * x1)), zR (some 134)]) (e_D_ahead KC)).trans ?_
      refine (show zY 7 65 [some (zR (some 132)), some (zI x1), some (zI x2), some (zJ (f_S_keepOf h x1)), none, some (zJ (f_S_conditionOf h x2)), none, some (zI (1 + (3 * x1)))] [zJ (f_D_ahead h (f_P_entry h p x2 1)), zJ ((f_S_keepOf h x1) &&& (f_S_conditionOf h x2)), zI (1 + (3 * x1)), zR (some 134)] h = gd (zokw h (some 134) 23 (1 + (3 * x1))) (gd (zob (sJ h 134 (1 + (3 * x1)).toNat (((f_S_keepOf h x1) &&& (f_S_conditionOf h x2)) &&& ((f_D_ahead h (f_P_entry h p x2 1)) ^^^ (18446744073709551615#64)))) (some 132) 1) (zY 7 75 [some (zR (some 132)), some (zI x1), some (zI x2), some (zJ (f_S_keepOf h x1)), none, some (zJ (f_S_conditionOf h x2)), none, some (zI (1 + (3 * x1)))] [zR (hR h 132 4)] (sJ h 134 (1 + (3 * x1)).toNat (((f_S_keepOf h x1) &&& (f_S_conditionOf h x2)) &&& ((f_D_ahead h (f_P_entry h p x2 1)) ^^^ (18446744073709551615#64)))))) from zGo 6 7 65 _ _ _).trans ?_
      refine gd_c (ciw (PTC KC 134 _ rfl rfl) (PNC KC 134 rfl) (PLC KC 134 73 rfl rfl)) (fun c5 => ?_)
      refine (gd_t (⟨rfl, (PTC KC 132 _ rfl rfl), (PNC KC 132 rfl)⟩) _).trans ?_
      refine (congrArg (fun r => zY 7 75 [some (zR (some 132)), some (zI x1), some (zI x2), some (zJ (f_S_keepOf h x1)), none, some (zJ (f_S_conditionOf h x2)), none, some (zI (1 + (3 * x1)))] (zR r :: []) (sJ h 134 (1 + (3 * x1)).toNat (((f_S_keepOf h x1) &&& (f_S_conditionOf h x2)) &&& ((f_D_ahead h (f_P_entry h p x2 1)) ^^^ (18446744073709551615#64))))) (PRC KC 132 4 _ rfl)).trans ?_
      refine (show zY 7 75 [some (zR (some 132)), some (zI x1), some (zI x2), some (zJ (f_S_keepOf h x1)), none, some (zJ (f_S_conditionOf h x2)), none, some (zI (1 + (3 * x1)))] [zR (some 134)] (sJ h 134 (1 + (3 * x1)).toNat (((f_S_keepOf h x1) &&& (f_S_conditionOf h x2)) &&& ((f_D_ahead h (f_P_entry h p x2 1)) ^^^ (18446744073709551615#64)))) = gd (inR (1)) (gd (inR ((1 + (3 * x1)) + 1)) (gd (false = zctor 5 ∧ zcs [zJ ((f_S_keepOf h x1) &&& ((f_S_conditionOf h x2) ^^^ (18446744073709551615#64))), zI ((1 + (3 * x1)) + 1), zR (some 134)] ≤ 8 ∧ zrm 7 (zrf 5 + 1) (8 + (zmaxl 5 + 11) + zrl 5) = true ∧ zcs [zR (some 132), zI x2] ≤ zmaxl 5) (gd (zob (sJ h 134 (1 + (3 * x1)).toNat (((f_S_keepOf h x1) &&& (f_S_conditionOf h x2)) &&& ((f_D_ahead h (f_P_entry h p x2 1)) ^^^ (18446744073709551615#64)))) (some 132) 1) (zBack zY 7 89 92 [some (zR (some 132)), some (zI x1), some (zI x2), some (zJ (f_S_keepOf h x1)), none, some (zJ (f_S_conditionOf h x2)), none, some (zI (1 + (3 * x1)))] [zJ ((f_S_keepOf h x1) &&& ((f_S_conditionOf h x2) ^^^ (18446744073709551615#64))), zI ((1 + (3 * x1)) + 1), zR (some 134)] (zC 5 [zR (some 132), zI x2] (sJ h 134 (1 + (3 * x1)).toNat (((f_S_keepOf h x1) &&& (f_S_conditionOf h x2)) &&& ((f_D_ahead h (f_P_entry h p x2 1)) ^^^ (18446744073709551615#64))))))))) from zGo 11 7 75 _ _ _).trans ?_
      refine (gd_t (by decide) _).trans ?_
      refine gd_c Iff.rfl (fun c6 => ?_)
      refine (gd_t (⟨rfl, Nat.le_of_ble_eq_true rfl, rfl, Nat.le_of_ble_eq_true rfl⟩) _).trans ?_
      refine (gd_t (⟨rfl, (PTC KC 132 _ rfl rfl), (PNC KC 132 rfl)⟩) _).trans ?_
      refine (congrArg (zBack zY 7 89 92 [some (zR (some 132)), some (zI x1), some (zI x2), some (zJ (f_S_keepOf h x1)), none, some (zJ (f_S_conditionOf h x2)), none, some (zI (1 + (3 * x1)))] [zJ ((f_S_keepOf h x1) &&& ((f_S_conditionOf h x2) ^^^ (18446744073709551615#64))), zI ((1 + (3 * x1)) + 1), zR (some 134)]) (e_D_behind (h := (sJ h 134 (1 + (3 * x1)).toNat (((f_S_keepOf h x1) &&& (f_S_conditionOf h x2)) &&& ((f_D_ahead h (f_P_entry h p x2 1)) ^^^ (18446744073709551615#64))))) KC rp hp)).trans ?_
      refine (show zY 7 92 [some (zR (some 132)), some (zI x1), some (zI x2), some (zJ (f_S_keepOf h x1)), none, some (zJ (f_S_conditionOf h x2)), none, some (zI (1 + (3 * x1)))] [zJ (f_D_behind (sJ h 134 (1 + (3 * x1)).toNat (((f_S_keepOf h x1) &&& (f_S_conditionOf h x2)) &&& ((f_D_ahead h (f_P_entry h p x2 1)) ^^^ (18446744073709551615#64)))) x2 p), zJ ((f_S_keepOf h x1) &&& ((f_S_conditionOf h x2) ^^^ (18446744073709551615#64))), zI ((1 + (3 * x1)) + 1), zR (some 134)] (sJ h 134 (1 + (3 * x1)).toNat (((f_S_keepOf h x1) &&& (f_S_conditionOf h x2)) &&& ((f_D_ahead h (f_P_entry h p x2 1)) ^^^ (18446744073709551615#64)))) = gd (zokw (sJ h 134 (1 + (3 * x1)).toNat (((f_S_keepOf h x1) &&& (f_S_conditionOf h x2)) &&& ((f_D_ahead h (f_P_entry h p x2 1)) ^^^ (18446744073709551615#64)))) (some 134) 23 ((1 + (3 * x1)) + 1)) (gd (zob (sJ (sJ h 134 (1 + (3 * x1)).toNat (((f_S_keepOf h x1) &&& (f_S_conditionOf h x2)) &&& ((f_D_ahead h (f_P_entry h p x2 1)) ^^^ (18446744073709551615#64)))) 134 ((1 + (3 * x1)) + 1).toNat (((f_S_keepOf h x1) &&& ((f_S_conditionOf h x2) ^^^ (18446744073709551615#64))) &&& ((f_D_behind (sJ h 134 (1 + (3 * x1)).toNat (((f_S_keepOf h x1) &&& (f_S_conditionOf h x2)) &&& ((f_D_ahead h (f_P_entry h p x2 1)) ^^^ (18446744073709551615#64)))) x2 p) ^^^ (18446744073709551615#64)))) (some 132) 1) (zY 7 102 [some (zR (some 132)), some (zI x1), some (zI x2), some (zJ (f_S_keepOf h x1)), none, some (zJ (f_S_conditionOf h x2)), none, some (zI (1 + (3 * x1)))] [zR (hR h 132 4)] (sJ (sJ h 134 (1 + (3 * x1)).toNat (((f_S_keepOf h x1) &&& (f_S_conditionOf h x2)) &&& ((f_D_ahead h (f_P_entry h p x2 1)) ^^^ (18446744073709551615#64)))) 134 ((1 + (3 * x1)) + 1).toNat (((f_S_keepOf h x1) &&& ((f_S_conditionOf h x2) ^^^ (18446744073709551615#64))) &&& ((f_D_behind (sJ h 134 (1 + (3 * x1)).toNat (((f_S_keepOf h x1) &&& (f_S_conditionOf h x2)) &&& ((f_D_ahead h (f_P_entry h p x2 1)) ^^^ (18446744073709551615#64)))) x2 p) ^^^ (18446744073709551615#64)))))) from zGo 6 7 92 _ _ _).trans ?_
      refine gd_c (ciw (PTC KC 134 _ rfl rfl) (PNC KC 134 rfl) (PLC KC 134 73 rfl rfl)) (fun c7 => ?_)
      refine (gd_t (⟨rfl, (PTC KC 132 _ rfl rfl), (PNC KC 132 rfl)⟩) _).trans ?_
      refine (congrArg (fun r => zY 7 102 [some (zR (some 132)), some (zI x1), some (zI x2), some (zJ (f_S_keepOf h x1)), none, some (zJ (f_S_conditionOf h x2)), none, some (zI (1 + (3 * x1)))] (zR r :: []) (sJ (sJ h 134 (1 + (3 * x1)).toNat (((f_S_keepOf h x1) &&& (f_S_conditionOf h x2)) &&& ((f_D_ahead h (f_P_entry h p x2 1)) ^^^ (18446744073709551615#64)))) 134 ((1 + (3 * x1)) + 1).toNat (((f_S_keepOf h x1) &&& ((f_S_conditionOf h x2) ^^^ (18446744073709551615#64))) &&& ((f_D_behind (sJ h 134 (1 + (3 * x1)).toNat (((f_S_keepOf h x1) &&& (f_S_conditionOf h x2)) &&& ((f_D_ahead h (f_P_entry h p x2 1)) ^^^ (18446744073709551615#64)))) x2 p) ^^^ (18446744073709551615#64))))) (PRC KC 132 4 _ rfl)).trans ?_
      refine (show zY 7 102 [some (zR (some 132)), some (zI x1), some (zI x2), some (zJ (f_S_keepOf h x1)), none, some (zJ (f_S_conditionOf h x2)), none, some (zI (1 + (3 * x1)))] [zR (some 134)] (sJ (sJ h 134 (1 + (3 * x1)).toNat (((f_S_keepOf h x1) &&& (f_S_conditionOf h x2)) &&& ((f_D_ahead h (f_P_entry h p x2 1)) ^^^ (18446744073709551615#64)))) 134 ((1 + (3 * x1)) + 1).toNat (((f_S_keepOf h x1) &&& ((f_S_conditionOf h x2) ^^^ (18446744073709551615#64))) &&& ((f_D_behind (sJ h 134 (1 + (3 * x1)).toNat (((f_S_keepOf h x1) &&& (f_S_conditionOf h x2)) &&& ((f_D_ahead h (f_P_entry h p x2 1)) ^^^ (18446744073709551615#64)))) x2 p) ^^^ (18446744073709551615#64)))) = gd (inR (2)) (gd (inR ((1 + (3 * x1)) + 2)) (gd (zob (sJ (sJ h 134 (1 + (3 * x1)).toNat (((f_S_keepOf h x1) &&& (f_S_conditionOf h x2)) &&& ((f_D_ahead h (f_P_entry h p x2 1)) ^^^ (18446744073709551615#64)))) 134 ((1 + (3 * x1)) + 1).toNat (((f_S_keepOf h x1) &&& ((f_S_conditionOf h x2) ^^^ (18446744073709551615#64))) &&& ((f_D_behind (sJ h 134 (1 + (3 * x1)).toNat (((f_S_keepOf h x1) &&& (f_S_conditionOf h x2)) &&& ((f_D_ahead h (f_P_entry h p x2 1)) ^^^ (18446744073709551615#64)))) x2 p) ^^^ (18446744073709551615#64)))) (some 132) 1) (zY 7 116 [some (zR (some 132)), some (zI x1), some (zI x2), some (zJ (f_S_keepOf h x1)), none, some (zJ (f_S_conditionOf h x2)), none, some (zI (1 + (3 * x1)))] [zR (hR h 132 2), zI x1, zR (some 132), zJ ((f_S_keepOf h x1) &&& (f_S_conditionOf h x2)), zI ((1 + (3 * x1)) + 2), zR (some 134)] (sJ (sJ h 134 (1 + (3 * x1)).toNat (((f_S_keepOf h x1) &&& (f_S_conditionOf h x2)) &&& ((f_D_ahead h (f_P_entry h p x2 1)) ^^^ (18446744073709551615#64)))) 134 ((1 + (3 * x1)) + 1).toNat (((f_S_keepOf h x1) &&& ((f_S_conditionOf h x2) ^^^ (18446744073709551615#64))) &&& ((f_D_behind (sJ h 134 (1 + (3 * x1)).toNat (((f_S_keepOf h x1) &&& (f_S_conditionOf h x2)) &&& ((f_D_ahead h (f_P_entry h p x2 1)) ^^^ (18446744073709551615#64)))) x2 p) ^^^ (18446744073709551615#64))))))) from zGo 10 7 102 _ _ _).trans ?_
      refine (gd_t (by decide) _).trans ?_
      refine (gd_t ((Iff.rfl).2 (by omega)) _).trans ?_
      refine (gd_t (⟨rfl, (PTC KC 132 _ rfl rfl), (PNC KC 132 rfl)⟩) _).trans ?_
      refine (congrArg (fun r => zY 7 116 [some (zR (some 132)), some (zI x1), some (zI x2), some (zJ (f_S_keepOf h x1)), none, some (zJ (f_S_conditionOf h x2)), none, some (zI (1 + (3 * x1)))] (zR r :: zI x1 :: zR (some 132) :: zJ ((f_S_keepOf h x1) &&& (f_S_conditionOf h x2)) :: zI ((1 + (3 * x1)) + 2) :: zR (some 134) :: []) (sJ (sJ h 134 (1 + (3 * x1)).toNat (((f_S_keepOf h x1) &&& (f_S_conditionOf h x2)) &&& ((f_D_ahead h (f_P_entry h p x2 1)) ^^^ (18446744073709551615#64)))) 134 ((1 + (3 * x1)) + 1).toNat (((f_S_keepOf h x1) &&& ((f_S_conditionOf h x2) ^^^ (18446744073709551615#64))) &&& ((f_D_behind (sJ h 134 (1 + (3 * x1)).toNat (((f_S_keepOf h x1) &&& (f_S_conditionOf h x2)) &&& ((f_D_ahead h (f_P_entry h p x2 1)) ^^^ (18446744073709551615#64)))) x2 p) ^^^ (18446744073709551615#64))))) rp).trans ?_
      refine (show zY 7 116 [some (zR (some 132)), some (zI x1), some (zI x2), some (zJ (f_S_keepOf h x1)), none, some (zJ (f_S_conditionOf h x2)), none, some (zI (1 + (3 * x1)))] [zR (some p), zI x1, zR (some 132), zJ ((f_S_keepOf h x1) &&& (f_S_conditionOf h x2)), zI ((1 + (3 * x1)) + 2), zR (some 134)] (sJ (sJ h 134 (1 + (3 * x1)).toNat (((f_S_keepOf h x1) &&& (f_S_conditionOf h x2)) &&& ((f_D_ahead h (f_P_entry h p x2 1)) ^^^ (18446744073709551615#64)))) 134 ((1 + (3 * x1)) + 1).toNat (((f_S_keepOf h x1) &&& ((f_S_conditionOf h x2) ^^^ (18446744073709551615#64))) &&& ((f_D_behind (sJ h 134 (1 + (3 * x1)).toNat (((f_S_keepOf h x1) &&& (f_S_conditionOf h x2)) &&& ((f_D_ahead h (f_P_entry h p x2 1)) ^^^ (18446744073709551615#64)))) x2 p) ^^^ (18446744073709551615#64)))) = gd (false = zctor 41 ∧ zcs [zI x1, zR (some 132), zJ ((f_S_keepOf h x1) &&& (f_S_conditionOf h x2)), zI ((1 + (3 * x1)) + 2), zR (some 134)] ≤ 8 ∧ zrm 7 (zrf 41 + 1) (8 + (zmaxl 41 + 11) + zrl 41) = true ∧ zcs [zR (some p), zI x2] ≤ zmaxl 41) (gd (zob (sJ (sJ h 134 (1 + (3 * x1)).toNat (((f_S_keepOf h x1) &&& (f_S_conditionOf h x2)) &&& ((f_D_ahead h (f_P_entry h p x2 1)) ^^^ (18446744073709551615#64)))) 134 ((1 + (3 * x1)) + 1).toNat (((f_S_keepOf h x1) &&& ((f_S_conditionOf h x2) ^^^ (18446744073709551615#64))) &&& ((f_D_behind (sJ h 134 (1 + (3 * x1)).toNat (((f_S_keepOf h x1) &&& (f_S_conditionOf h x2)) &&& ((f_D_ahead h (f_P_entry h p x2 1)) ^^^ (18446744073709551615#64)))) x2 p) ^^^ (18446744073709551615#64)))) (some p) 5) (zBack zY 7 117 120 [some (zR (some 132)), some (zI x1), some (zI x2), some (zJ (f_S_keepOf h x1)), none, some (zJ (f_S_conditionOf h x2)), none, some (zI (1 + (3 * x1)))] [zI x1, zR (some 132), zJ ((f_S_keepOf h x1) &&& (f_S_conditionOf h x2)), zI ((1 + (3 * x1)) + 2), zR (some 134)] (zC 41 [zR (some p), zI x2] (sJ (sJ h 134 (1 + (3 * x1)).toNat (((f_S_keepOf h x1) &&& (f_S_conditionOf h x2)) &&& ((f_D_ahead h (f_P_entry h p x2 1)) ^^^ (18446744073709551615#64)))) 134 ((1 + (3 * x1)) + 1).toNat (((f_S_keepOf h x1) &&& ((f_S_conditionOf h x2) ^^^ (18446744073709551615#64))) &&& ((f_D_behind (sJ h 134 (1 + (3 * x1)).toNat (((f_S_keepOf h x1) &&& (f_S_conditionOf h x2)) &&& ((f_D_ahead h (f_P_entry h p x2 1)) ^^^ (18446744073709551615#64)))) x2 p) ^^^ (18446744073709551615#64))))))) from zGo 2 7 116 _ _ _).trans ?_
      refine (gd_t (⟨rfl, Nat.le_of_ble_eq_true rfl, rfl, Nat.le_of_ble_eq_true rfl⟩) _).trans ?_
      refine (gd_t (⟨rfl, hp.1, (PS_n hp)⟩) _).trans ?_
      refine (congrArg (zBack zY 7 117 120 [some (zR (some 132)), some (zI x1), some (zI x2), some (zJ (f_S_keepOf h x1)), none, some (zJ (f_S_conditionOf h x2)), none, some (zI (1 + (3 * x1)))] [zI x1, zR (some 132), zJ ((f_S_keepOf h x1) &&& (f_S_conditionOf h x2)), zI ((1 + (3 * x1)) + 2), zR (some 134)]) (e_P_firstOf (h := (sJ (sJ h 134 (1 + (3 * x1)).toNat (((f_S_keepOf h x1) &&& (f_S_conditionOf h x2)) &&& ((f_D_ahead h (f_P_entry h p x2 1)) ^^^ (18446744073709551615#64)))) 134 ((1 + (3 * x1)) + 1).toNat (((f_S_keepOf h x1) &&& ((f_S_conditionOf h x2) ^^^ (18446744073709551615#64))) &&& ((f_D_behind (sJ h 134 (1 + (3 * x1)).toNat (((f_S_keepOf h x1) &&& (f_S_conditionOf h x2)) &&& ((f_D_ahead h (f_P_entry h p x2 1)) ^^^ (18446744073709551615#64)))) x2 p) ^^^ (18446744073709551615#64))))) hp)).trans ?_
      refine (show zY 7 120 [some (zR (some 132)), some (zI x1), some (zI x2), some (zJ (f_S_keepOf h x1)), none, some (zJ (f_S_conditionOf h x2)), none, some (zI (1 + (3 * x1)))] [zI (f_P_firstOf (sJ (sJ h 134 (1 + (3 * x1)).toNat (((f_S_keepOf h x1) &&& (f_S_conditionOf h x2)) &&& ((f_D_ahead h (f_P_entry h p x2 1)) ^^^ (18446744073709551615#64)))) 134 ((1 + (3 * x1)) + 1).toNat (((f_S_keepOf h x1) &&& ((f_S_conditionOf h x2) ^^^ (18446744073709551615#64))) &&& ((f_D_behind (sJ h 134 (1 + (3 * x1)).toNat (((f_S_keepOf h x1) &&& (f_S_conditionOf h x2)) &&& ((f_D_ahead h (f_P_entry h p x2 1)) ^^^ (18446744073709551615#64)))) x2 p) ^^^ (18446744073709551615#64)))) p x2), zI x1, zR (some 132), zJ ((f_S_keepOf h x1) &&& (f_S_conditionOf h x2)), zI ((1 + (3 * x1)) + 2), zR (some 134)] (sJ (sJ h 134 (1 + (3 * x1)).toNat (((f_S_keepOf h x1) &&& (f_S_conditionOf h x2)) &&& ((f_D_ahead h (f_P_entry h p x2 1)) ^^^ (18446744073709551615#64)))) 134 ((1 + (3 * x1)) + 1).toNat (((f_S_keepOf h x1) &&& ((f_S_conditionOf h x2) ^^^ (18446744073709551615#64))) &&& ((f_D_behind (sJ h 134 (1 + (3 * x1)).toNat (((f_S_keepOf h x1) &&& (f_S_conditionOf h x2)) &&& ((f_D_ahead h (f_P_entry h p x2 1)) ^^^ (18446744073709551615#64)))) x2 p) ^^^ (18446744073709551615#64)))) = gd (false = zctor 8 ∧ zcs [zJ ((f_S_keepOf h x1) &&& (f_S_conditionOf h x2)), zI ((1 + (3 * x1)) + 2), zR (some 134)] ≤ 8 ∧ zrm 7 (zrf 8 + 1) (8 + (zmaxl 8 + 11) + zrl 8) = true ∧ zcs [zR (some 132), zI x1, zI (f_P_firstOf (sJ (sJ h 134 (1 + (3 * x1)).toNat (((f_S_keepOf h x1) &&& (f_S_conditionOf h x2)) &&& ((f_D_ahead h (f_P_entry h p x2 1)) ^^^ (18446744073709551615#64)))) 134 ((1 + (3 * x1)) + 1).toNat (((f_S_keepOf h x1) &&& ((f_S_conditionOf h x2) ^^^ (18446744073709551615#64))) &&& ((f_D_behind (sJ h 134 (1 + (3 * x1)).toNat (((f_S_keepOf h x1) &&& (f_S_conditionOf h x2)) &&& ((f_D_ahead h (f_P_entry h p x2 1)) ^^^ (18446744073709551615#64)))) x2 p) ^^^ (18446744073709551615#64)))) p x2)] ≤ zmaxl 8) (gd (zob (sJ (sJ h 134 (1 + (3 * x1)).toNat (((f_S_keepOf h x1) &&& (f_S_conditionOf h x2)) &&& ((f_D_ahead h (f_P_entry h p x2 1)) ^^^ (18446744073709551615#64)))) 134 ((1 + (3 * x1)) + 1).toNat (((f_S_keepOf h x1) &&& ((f_S_conditionOf h x2) ^^^ (18446744073709551615#64))) &&& ((f_D_behind (sJ h 134 (1 + (3 * x1)).toNat (((f_S_keepOf h x1) &&& (f_S_conditionOf h x2)) &&& ((f_D_ahead h (f_P_entry h p x2 1)) ^^^ (18446744073709551615#64)))) x2 p) ^^^ (18446744073709551615#64)))) (some 132) 1) (zBack zY 7 120 123 [some (zR (some 132)), some (zI x1), some (zI x2), some (zJ (f_S_keepOf h x1)), none, some (zJ (f_S_conditionOf h x2)), none, some (zI (1 + (3 * x1)))] [zJ ((f_S_keepOf h x1) &&& (f_S_conditionOf h x2)), zI ((1 + (3 * x1)) + 2), zR (some 134)] (zC 8 [zR (some 132), zI x1, zI (f_P_firstOf (sJ (sJ h 134 (1 + (3 * x1)).toNat (((f_S_keepOf h x1) &&& (f_S_conditionOf h x2)) &&& ((f_D_ahead h (f_P_entry h p x2 1)) ^^^ (18446744073709551615#64)))) 134 ((1 + (3 * x1)) + 1).toNat (((f_S_keepOf h x1) &&& ((f_S_conditionOf h x2) ^^^ (18446744073709551615#64))) &&& ((f_D_behind (sJ h 134 (1 + (3 * x1)).toNat (((f_S_keepOf h x1) &&& (f_S_conditionOf h x2)) &&& ((f_D_ahead h (f_P_entry h p x2 1)) ^^^ (18446744073709551615#64)))) x2 p) ^^^ (18446744073709551615#64)))) p x2)] (sJ (sJ h 134 (1 + (3 * x1)).toNat (((f_S_keepOf h x1) &&& (f_S_conditionOf h x2)) &&& ((f_D_ahead h (f_P_entry h p x2 1)) ^^^ (18446744073709551615#64)))) 134 ((1 + (3 * x1)) + 1).toNat (((f_S_keepOf h x1) &&& ((f_S_conditionOf h x2) ^^^ (18446744073709551615#64))) &&& ((f_D_behind (sJ h 134 (1 + (3 * x1)).toNat (((f_S_keepOf h x1) &&& (f_S_conditionOf h x2)) &&& ((f_D_ahead h (f_P_entry h p x2 1)) ^^^ (18446744073709551615#64)))) x2 p) ^^^ (18446744073709551615#64))))))) from zGo 1 7 120 _ _ _).trans ?_
      refine (gd_t (⟨rfl, Nat.le_of_ble_eq_true rfl, rfl, Nat.le_of_ble_eq_true rfl⟩) _).trans ?_
      refine (gd_t (⟨rfl, (PTC KC 132 _ rfl rfl), (PNC KC 132 rfl)⟩) _).trans ?_
      rfl
    · skip
      refine (show zY 7 41 [some (zR (some 132)), some (zI x1), some (zI x2), some (zJ (f_S_keepOf h x1)), none, some (zJ (f_S_conditionOf h x2)), none, some (zI (1 + (3 * x1)))] [] h = gd (([] : List zV).isEmpty = true ∧ zrk 7 = 0) (some (.inl (none), h)) from zGo 1 7 41 _ _ _).trans ?_
      refine (gd_t (⟨rfl, rfl⟩) _).trans ?_
      rfl
theorem q_D_lookAtLoop_r123 {h : zH} {x1 : Int} {x2 : Int} {x3 : BitVec 64} {x5 : BitVec 64} {x7 : Int} {y1 : Int} {y2 : BitVec 64} {y : BitVec 64} (KC : KC h) : zBack zY 7 120 123 [some (zR (some 132)), some (zI x1), some (zI x2), some (zJ x3), none, some (zJ x5), none, some (zI x7)] [zJ y2, zI y1, zR (some 134)] (some (.inl (some (zJ y)), h)) =
    gd (0 ≤ y1 ∧ y1 < 73) (
    some (.inl (none), (sJ h 134 y1.toNat (y2 &&& (y ^^^ (18446744073709551615#64)))))) := by
  refine (show zBack zY 7 120 123 [some (zR (some 132)), some (zI x1), some (zI x2), some (zJ x3), none, some (zJ x5), none, some (zI x7)] [zJ y2, zI y1, zR (some 134)] (some (.inl (some (zJ y)), h)) = gd (zokw h (some 134) 23 y1) (gd (([] : List zV).isEmpty = true ∧ zrk 7 = 0) (some (.inl (none), (sJ h 134 y1.toNat (y2 &&& (y ^^^ (18446744073709551615#64))))))) from zGo 5 7 123 _ _ _).trans ?_
  refine gd_c (ciw (PTC KC 134 _ rfl rfl) (PNC KC 134 rfl) (PLC KC 134 73 rfl rfl)) (fun c0 => ?_)
  refine (gd_t (⟨rfl, rfl⟩) _).trans ?_
  rfl
theorem q_Ar_fill_aJJ {h : zH} {a0 : Nat} {x1 : BitVec 64} (ta0 : hT h a0 = 23) (na0 : a0 < hN h) : zC 228 [zR (some a0), zJ x1] h =
    zY 228 6 [some (zR (some a0)), some (zJ x1), none, some (zI 0), some (zI (hL h a0 : Int))] [] h := by
  refine (show zC 228 [zR (some a0), zJ x1] h = gd (inR (0)) (gd ((some a0).isSome = true ∧ 20 ≤ hT h (zdr (some a0)) ∧ hT h (zdr (some a0)) < 40) (zY 228 6 [some (zR (some a0)), some (zJ x1), none, some (zI 0), some (zI (hL h a0 : Int))] [] h)) from zGo 5 228 0 _ _ _).trans ?_
  refine (gd_t (by decide) _).trans ?_
  refine (gd_t (al ta0 (by decide) (by decide)) _).trans ?_
  rfl
theorem q_Ar_fill_aJJ_6 {h : zH} {a0 : Nat} {x1 : BitVec 64} {x3 : Int} {x4 : Int} (ta0 : hT h a0 = 23) (na0 : a0 < hN h) : zY 228 6 [some (zR (some a0)), some (zJ x1), none, some (zI x3), some (zI x4)] [] h =
    if x3 < x4 then
      gd (0 ≤ x3 ∧ x3 < (hL h a0 : Int)) (
      gd (-2147483648 ≤ x3 + 1 ∧ x3 + 1 < 2147483648) (
      zY 228 6 [some (zR (some a0)), some (zJ x1), none, some (zI (x3 + 1)), some (zI x4)] [] (sJ h a0 x3.toNat x1)))
    else
      some (.inl (none), h) := by
  refine (show zY 228 6 [some (zR (some a0)), some (zJ x1), none, some (zI x3), some (zI x4)] [] h = if x3 < x4 then zY 228 12 [some (zR (some a0)), some (zJ x1), none, some (zI x3), some (zI x4)] [] h else zY 228 22 [some (zR (some a0)), some (zJ x1), none, some (zI x3), some (zI x4)] [] h from zGo 3 228 6 _ _ _).trans ?_
  refine iteC (fun c0 => ?_) (fun c0 => ?_)
  · skip
    refine (show zY 228 12 [some (zR (some a0)), some (zJ x1), none, some (zI x3), some (zI x4)] [] h = gd (zokw h (some a0) 23 x3) (gd (inR (x3 + 1)) (gd (inR (1)) (zY 228 6 [some (zR (some a0)), some (zJ x1), none, some (zI (x3 + 1)), some (zI x4)] [] (sJ h a0 x3.toNat x1)))) from zGo 6 228 12 _ _ _).trans ?_
    refine gd_c (ciw ta0 na0 rfl) (fun c1 => ?_)
    refine gd_c Iff.rfl (fun c2 => ?_)
    refine (gd_t (by decide) _).trans ?_
    rfl
  · skip
    refine (show zY 228 22 [some (zR (some a0)), some (zJ x1), none, some (zI x3), some (zI x4)] [] h = gd (([] : List zV).isEmpty = true ∧ zrk 228 = 0) (some (.inl (none), h)) from zGo 1 228 22 _ _ _).trans ?_
    refine (gd_t (⟨rfl, rfl⟩) _).trans ?_
    rfl
theorem q_D_look {h : zH} {p : Nat} {v : Nat} {p2 : Nat} (KC : KC h) (hp : PS h p) (hv : VS h v) (rp2 : (some p) = some p2) (hp2 : PS (sR h 132 2 (some p)) p2) : zC 1 [zR (some 132), zR (some p), zR (some v)] h =
    zBack zY 1 14 17 [some (zR (some 132)), some (zR (some p)), some (zR (some v)), none] [] (zC 94 [zR (some 90), zR (some p2), zR (some v)] (sR h 132 2 (some p))) := by
  refine (show zC 1 [zR (some 132), zR (some p), zR (some v)] h = gd (zob h (some 132) 1) (gd (zob (sR h 132 2 (some p)) (some 132) 1) (zY 1 9 [some (zR (some 132)), some (zR (some p)), some (zR (some v)), none] [zR (hR h 132 0)] (sR h 132 2 (some p)))) from zGo 5 1 0 _ _ _).trans ?_
  refine (gd_t (⟨rfl, (PTC KC 132 _ rfl rfl), (PNC KC 132 rfl)⟩) _).trans ?_
  refine (gd_t (⟨rfl, (PTC KC 132 _ rfl rfl), (PNC KC 132 rfl)⟩) _).trans ?_
  refine (congrArg (fun r => zY 1 9 [some (zR (some 132)), some (zR (some p)), some (zR (some v)), none] (zR r :: []) (sR h 132 2 (some p))) (PRC KC 132 0 _ rfl)).trans ?_
  refine (show zY 1 9 [some (zR (some 132)), some (zR (some p)), some (zR (some v)), none] [zR (some 90)] (sR h 132 2 (some p)) = gd (zob (sR h 132 2 (some p)) (some 132) 1) (zY 1 13 [some (zR (some 132)), some (zR (some p)), some (zR (some v)), none] [zR (some p), zR (some 90)] (sR h 132 2 (some p))) from zGo 2 1 9 _ _ _).trans ?_
  refine (gd_t (⟨rfl, (PTC KC 132 _ rfl rfl), (PNC KC 132 rfl)⟩) _).trans ?_
  refine (congrArg (fun r => zY 1 13 [some (zR (some 132)), some (zR (some p)), some (zR (some v)), none] (zR r :: zR (some 90) :: []) (sR h 132 2 (some p))) rp2).trans ?_
  refine (show zY 1 13 [some (zR (some 132)), some (zR (some p)), some (zR (some v)), none] [zR (some p2), zR (some 90)] (sR h 132 2 (some p)) = gd (false = zctor 94 ∧ zcs [] ≤ 8 ∧ zrm 1 (zrf 94 + 1) (8 + (zmaxl 94 + 11) + zrl 94) = true ∧ zcs [zR (some 90), zR (some p2), zR (some v)] ≤ zmaxl 94) (gd (zob (sR h 132 2 (some p)) (some 90) 8) (zBack zY 1 14 17 [some (zR (some 132)), some (zR (some p)), some (zR (some v)), none] [] (zC 94 [zR (some 90), zR (some p2), zR (some v)] (sR h 132 2 (some p))))) from zGo 2 1 13 _ _ _).trans ?_
  refine (gd_t (⟨rfl, Nat.le_of_ble_eq_true rfl, rfl, Nat.le_of_ble_eq_true rfl⟩) _).trans ?_
  refine (gd_t (⟨rfl, (PTC KC 90 _ rfl rfl), (PNC KC 90 rfl)⟩) _).trans ?_
  rfl
theorem q_D_look_r17 {h : zH} {p : Nat} {v : Nat} {p2 : Nat} (KC : KC h) (hp : PS h p) (hv : VS h v) (rp2 : hR h 132 2 = some p2) (hp2 : PS h p2) : zBack zY 1 14 17 [some (zR (some 132)), some (zR (some p)), some (zR (some v)), none] [] (some (.inl (none), h)) =
    zBack zY 1 26 29 [some (zR (some 132)), some (zR (some p)), some (zR (some v)), none] [] (zC 58 [zR (some 128), zR (some p2), zR (some v)] h) := by
  refine (show zBack zY 1 14 17 [some (zR (some 132)), some (zR (some p)), some (zR (some v)), none] [] (some (.inl (none), h)) = gd (zob h (some 132) 1) (zY 1 21 [some (zR (some 132)), some (zR (some p)), some (zR (some v)), none] [zR (hR h 132 1)] h) from zGo 2 1 17 _ _ _).trans ?_
  refine (gd_t (⟨rfl, (PTC KC 132 _ rfl rfl), (PNC KC 132 rfl)⟩) _).trans ?_
  refine (congrArg (fun r => zY 1 21 [some (zR (some 132)), some (zR (some p)), some (zR (some v)), none] (zR r :: []) h) (PRC KC 132 1 _ rfl)).trans ?_
  refine (show zY 1 21 [some (zR (some 132)), some (zR (some p)), some (zR (some v)), none] [zR (some 128)] h = gd (zob h (some 132) 1) (zY 1 25 [some (zR (some 132)), some (zR (some p)), some (zR (some v)), none] [zR (hR h 132 2), zR (some 128)] h) from zGo 2 1 21 _ _ _).trans ?_
  refine (gd_t (⟨rfl, (PTC KC 132 _ rfl rfl), (PNC KC 132 rfl)⟩) _).trans ?_
  refine (congrArg (fun r => zY 1 25 [some (zR (some 132)), some (zR (some p)), some (zR (some v)), none] (zR r :: zR (some 128) :: []) h) rp2).trans ?_
  refine (show zY 1 25 [some (zR (some 132)), some (zR (some p)), some (zR (some v)), none] [zR (some p2), zR (some 128)] h = gd (false = zctor 58 ∧ zcs [] ≤ 8 ∧ zrm 1 (zrf 58 + 1) (8 + (zmaxl 58 + 11) + zrl 58) = true ∧ zcs [zR (some 128), zR (some p2), zR (some v)] ≤ zmaxl 58) (gd (zob h (some 128) 6) (zBack zY 1 26 29 [some (zR (some 132)), some (zR (some p)), some (zR (some v)), none] [] (zC 58 [zR (some 128), zR (some p2), zR (some v)] h))) from zGo 2 1 25 _ _ _).trans ?_
  refine (gd_t (⟨rfl, Nat.le_of_ble_eq_true rfl, rfl, Nat.le_of_ble_eq_true rfl⟩) _).trans ?_
  refine (gd_t (⟨rfl, (PTC KC 128 _ rfl rfl), (PNC KC 128 rfl)⟩) _).trans ?_
  rfl
theorem q_D_look_r29 {h : zH} {p : Nat} {v : Nat} (KC : KC h) (hp : PS h p) (hv : VS h v) : zBack zY 1 26 29 [some (zR (some 132)), some (zR (some p)), some (zR (some v)), none] [] (some (.inl (none), h)) =
    zBack zY 1 30 33 [some (zR (some 132)), some (zR (some p)), some (zR (some v)), none] [] (zC 2 [zR (some 132)] h) := by
  refine (show zBack zY 1 26 29 [some (zR (some 132)), some (zR (some p)), some (zR (some v)), none] [] (some (.inl (none), h)) = gd (false = zctor 2 ∧ zcs [] ≤ 8 ∧ zrm 1 (zrf 2 + 1) (8 + (zmaxl 2 + 11) + zrl 2) = true ∧ zcs [zR (some 132)] ≤ zmaxl 2) (gd (zob h (some 132) 1) (zBack zY 1 30 33 [some (zR (some 132)), some (zR (some p)), some (zR (some v)), none] [] (zC 2 [zR (some 132)] h))) from zGo 2 1 29 _ _ _).trans ?_
  refine (gd_t (⟨rfl, Nat.le_of_ble_eq_true rfl, rfl, Nat.le_of_ble_eq_true rfl⟩) _).trans ?_
  refine (gd_t (⟨rfl, (PTC KC 132 _ rfl rfl), (PNC KC 132 rfl)⟩) _).trans ?_
  rfl
theorem q_D_look_r33 {h : zH} {p : Nat} {v : Nat} (KC : KC h) (hp : PS h p) (hv : VS h v) : zBack zY 1 30 33 [some (zR (some 132)), some (zR (some p)), some (zR (some v)), none] [] (some (.inl (none), h)) =
    zBack zY 1 38 41 [some (zR (some 132)), some (zR (some p)), some (zR (some v)), none] [] (zC 228 [zR (some 134), zJ (0#64)] h) := by
  refine (show zBack zY 1 30 33 [some (zR (some 132)), some (zR (some p)), some (zR (some v)), none] [] (some (.inl (none), h)) = gd (zob h (some 132) 1) (zY 1 37 [some (zR (some 132)), some (zR (some p)), some (zR (some v)), none] [zR (hR h 132 4)] h) from zGo 2 1 33 _ _ _).trans ?_
  refine (gd_t (⟨rfl, (PTC KC 132 _ rfl rfl), (PNC KC 132 rfl)⟩) _).trans ?_
  refine (congrArg (fun r => zY 1 37 [some (zR (some 132)), some (zR (some p)), some (zR (some v)), none] (zR r :: []) h) (PRC KC 132 4 _ rfl)).trans ?_
  refine (show zY 1 37 [some (zR (some 132)), some (zR (some p)), some (zR (some v)), none] [zR (some 134)] h = gd (false = zctor 228 ∧ zcs [] ≤ 8 ∧ zrm 1 (zrf 228 + 1) (8 + (zmaxl 228 + 11) + zrl 228) = true ∧ zcs [zR (some 134), zJ (0#64)] ≤ zmaxl 228) (zBack zY 1 38 41 [some (zR (some 132)), some (zR (some p)), some (zR (some v)), none] [] (zC 228 [zR (some 134), zJ (0#64)] h)) from zGo 2 1 37 _ _ _).trans ?_
  refine (gd_t (⟨rfl, Nat.le_of_ble_eq_true rfl, rfl, Nat.le_of_ble_eq_true rfl⟩) _).trans ?_
  rfl
theorem q_D_look_r41 {h : zH} {p : Nat} {v : Nat} {p2 : Nat} (KC : KC h) (hp : PS h p) (hv : VS h v) (rp2 : hR h 132 2 = some p2) (hp2 : PS h p2) : zBack zY 1 38 41 [some (zR (some 132)), some (zR (some p)), some (zR (some v)), none] [] (some (.inl (none), h)) =
    zY 1 72 [some (zR (some 132)), some (zR (some p)), some (zR (some v)), some (zI 0)] [] (sJ h 134 0 ((hJ h 90 0) &&& ((f_D_ahead h (f_P_start h p2)) ^^^ (18446744073709551615#64)))) := by
  refine (show zBack zY 1 38 41 [some (zR (some 132)), some (zR (some p)), some (zR (some v)), none] [] (some (.inl (none), h)) = gd (zob h (some 132) 1) (zY 1 45 [some (zR (some 132)), some (zR (some p)), some (zR (some v)), none] [zR (hR h 132 4)] h) from zGo 2 1 41 _ _ _).trans ?_
  refine (gd_t (⟨rfl, (PTC KC 132 _ rfl rfl), (PNC KC 132 rfl)⟩) _).trans ?_
  refine (congrArg (fun r => zY 1 45 [some (zR (some 132)), some (zR (some p)), some (zR (some v)), none] (zR r :: []) h) (PRC KC 132 4 _ rfl)).trans ?_
  refine (show zY 1 45 [some (zR (some 132)), some (zR (some p)), some (zR (some v)), none] [zR (some 134)] h = gd (inR (0)) (gd (zob h (some 132) 1) (zY 1 50 [some (zR (some 132)), some (zR (some p)), some (zR (some v)), none] [zR (hR h 132 0), zI 0, zR (some 134)] h)) from zGo 3 1 45 _ _ _).trans ?_
  refine (gd_t (by decide) _).trans ?_
  refine (gd_t (⟨rfl, (PTC KC 132 _ rfl rfl), (PNC KC 132 rfl)⟩) _).trans ?_
  refine (congrArg (fun r => zY 1 50 [some (zR (some 132)), some (zR (some p)), some (zR (some v)), none] (zR r :: zI 0 :: zR (some 134) :: []) h) (PRC KC 132 0 _ rfl)).trans ?_
  refine (show zY 1 50 [some (zR (some 132)), some (zR (some p)), some (zR (some v)), none] [zR (some 90), zI 0, zR (some 134)] h = gd (zob h (some 90) 8) (gd (zob h (some 132) 1) (zY 1 58 [some (zR (some 132)), some (zR (some p)), some (zR (some v)), none] [zR (hR h 132 2), zR (some 132), zJ (hJ h 90 0), zI 0, zR (some 134)] h)) from zGo 4 1 50 _ _ _).trans ?_
  refine (gd_t (⟨rfl, (PTC KC 90 _ rfl rfl), (PNC KC 90 rfl)⟩) _).trans ?_
  refine (gd_t (⟨rfl, (PTC KC 132 _ rfl rfl), (PNC KC 132 rfl)⟩) _).trans ?_
  refine (congrArg (fun r => zY 1 58 [some (zR (some 132)), some (zR (some p)), some (zR (some v)), none] (zR r :: zR (some 132) :: zJ (hJ h 90 0) :: zI 0 :: zR (some 134) :: []) h) rp2).trans ?_
  refine (show zY 1 58 [some (zR (some 132)), some (zR (some p)), some (zR (some v)), none] [zR (some p2), zR (some 132), zJ (hJ h 90 0), zI 0, zR (some 134)] h = gd (false = zctor 39 ∧ zcs [zR (some 132), zJ (hJ h 90 0), zI 0, zR (some 134)] ≤ 8 ∧ zrm 1 (zrf 39 + 1) (8 + (zmaxl 39 + 11) + zrl 39) = true ∧ zcs [zR (some p2)] ≤ zmaxl 39) (gd (zob h (some p2) 5) (zBack zY 1 58 61 [some (zR (some 132)), some (zR (some p)), some (zR (some v)), none] [zR (some 132), zJ (hJ h 90 0), zI 0, zR (some 134)] (zC 39 [zR (some p2)] h))) from zGo 1 1 58 _ _ _).trans ?_
  refine (gd_t (⟨rfl, Nat.le_of_ble_eq_true rfl, rfl, Nat.le_of_ble_eq_true rfl⟩) _).trans ?_
  refine (gd_t (⟨rfl, hp2.1, (PS_n hp2)⟩) _).trans ?_
  refine (congrArg (zBack zY 1 58 61 [some (zR (some 132)), some (zR (some p)), some (zR (some v)), none] [zR (some 132), zJ (hJ h 90 0), zI 0, zR (some 134)]) (e_P_start hp2)).trans ?_
  refine (show zY 1 61 [some (zR (some 132)), some (zR (some p)), some (zR (some v)), none] [zI (f_P_start h p2), zR (some 132), zJ (hJ h 90 0), zI 0, zR (some 134)] h = gd (false = zctor 4 ∧ zcs [zJ (hJ h 90 0), zI 0, zR (some 134)] ≤ 8 ∧ zrm 1 (zrf 4 + 1) (8 + (zmaxl 4 + 11) + zrl 4) = true ∧ zcs [zR (some 132), zI (f_P_start h p2)] ≤ zmaxl 4) (gd (zob h (some 132) 1) (zBack zY 1 61 64 [some (zR (some 132)), some (zR (some p)), some (zR (some v)), none] [zJ (hJ h 90 0), zI 0, zR (some 134)] (zC 4 [zR (some 132), zI (f_P_start h p2)] h))) from zGo 1 1 61 _ _ _).trans ?_
  refine (gd_t (⟨rfl, Nat.le_of_ble_eq_true rfl, rfl, Nat.le_of_ble_eq_true rfl⟩) _).trans ?_
  refine (gd_t (⟨rfl, (PTC KC 132 _ rfl rfl), (PNC KC 132 rfl)⟩) _).trans ?_
  refine (congrArg (zBack zY 1 61 64 [some (zR (some 132)), some (zR (some p)), some (zR (some v)), none] [zJ (hJ h 90 0), zI 0, zR (some 134)]) (e_D_ahead KC)).trans ?_
  refine (show zY 1 64 [some (zR (some 132)), some (zR (some p)), some (zR (some v)), none] [zJ (f_D_ahead h (f_P_start h p2)), zJ (hJ h 90 0), zI 0, zR (some 134)] h = gd (zokw h (some 134) 23 0) (gd (inR (0)) (zY 1 72 [some (zR (some 132)), some (zR (some p)), some (zR (some v)), some (zI 0)] [] (sJ h 134 0 ((hJ h 90 0) &&& ((f_D_ahead h (f_P_start h p2)) ^^^ (18446744073709551615#64)))))) from zGo 6 1 64 _ _ _).trans ?_
  refine (gd_t ((ciw (PTC KC 134 _ rfl rfl) (PNC KC 134 rfl) (PLC KC 134 73 rfl rfl)).2 ⟨by decide, by decide⟩) _).trans ?_
  refine (gd_t (by decide) _).trans ?_
  rfl
theorem q_D_look_72 {h : zH} {p : Nat} {v : Nat} {x3 : Int} {p2 : Nat} (KC : KC h) (hp : PS h p) (hv : VS h v) (rp2 : hR h 132 2 = some p2) (hp2 : PS h p2) : zY 1 72 [some (zR (some 132)), some (zR (some p)), some (zR (some v)), some (zI x3)] [] h =
    if x3 < (hI h p2 1) then
      zBack zY 1 93 96 [some (zR (some 132)), some (zR (some p)), some (zR (some v)), some (zI x3)] [] (zC 7 [zR (some 132), zI x3, zI (f_P_loopAt h p2 x3)] h)
    else
      some (.inl (none), h) := by
  refine (show zY 1 72 [some (zR (some 132)), some (zR (some p)), some (zR (some v)), some (zI x3)] [] h = gd (zob h (some 132) 1) (zY 1 77 [some (zR (some 132)), some (zR (some p)), some (zR (some v)), some (zI x3)] [zR (hR h 132 2), zI x3] h) from zGo 3 1 72 _ _ _).trans ?_
  refine (gd_t (⟨rfl, (PTC KC 132 _ rfl rfl), (PNC KC 132 rfl)⟩) _).trans ?_
  refine (congrArg (fun r => zY 1 77 [some (zR (some 132)), some (zR (some p)), some (zR (some v)), some (zI x3)] (zR r :: zI x3 :: []) h) rp2).trans ?_
  refine (show zY 1 77 [some (zR (some 132)), some (zR (some p)), some (zR (some v)), some (zI x3)] [zR (some p2), zI x3] h = gd (zob h (some p2) 5) (if x3 < (hI h p2 1) then zY 1 83 [some (zR (some 132)), some (zR (some p)), some (zR (some v)), some (zI x3)] [] h else zY 1 102 [some (zR (some 132)), some (zR (some p)), some (zR (some v)), some (zI x3)] [] h) from zGo 2 1 77 _ _ _).trans ?_
  refine (gd_t (⟨rfl, hp2.1, (PS_n hp2)⟩) _).trans ?_
  refine iteC (fun c0 => ?_) (fun c0 => ?_)
  · skip
    refine (show zY 1 83 [some (zR (some 132)), some (zR (some p)), some (zR (some v)), some (zI x3)] [] h = gd (zob h (some 132) 1) (zY 1 89 [some (zR (some 132)), some (zR (some p)), some (zR (some v)), some (zI x3)] [zR (hR h 132 2), zI x3, zR (some 132)] h) from zGo 4 1 83 _ _ _).trans ?_
    refine (gd_t (⟨rfl, (PTC KC 132 _ rfl rfl), (PNC KC 132 rfl)⟩) _).trans ?_
    refine (congrArg (fun r => zY 1 89 [some (zR (some 132)), some (zR (some p)), some (zR (some v)), some (zI x3)] (zR r :: zI x3 :: zR (some 132) :: []) h) rp2).trans ?_
    refine (show zY 1 89 [some (zR (some 132)), some (zR (some p)), some (zR (some v)), some (zI x3)] [zR (some p2), zI x3, zR (some 132)] h = gd (false = zctor 53 ∧ zcs [zI x3, zR (some 132)] ≤ 8 ∧ zrm 1 (zrf 53 + 1) (8 + (zmaxl 53 + 11) + zrl 53) = true ∧ zcs [zR (some p2), zI x3] ≤ zmaxl 53) (gd (zob h (some p2) 5) (zBack zY 1 90 93 [some (zR (some 132)), some (zR (some p)), some (zR (some v)), some (zI x3)] [zI x3, zR (some 132)] (zC 53 [zR (some p2), zI x3] h))) from zGo 2 1 89 _ _ _).trans ?_
    refine (gd_t (⟨rfl, Nat.le_of_ble_eq_true rfl, rfl, Nat.le_of_ble_eq_true rfl⟩) _).trans ?_
    refine (gd_t (⟨rfl, hp2.1, (PS_n hp2)⟩) _).trans ?_
    refine (congrArg (zBack zY 1 90 93 [some (zR (some 132)), some (zR (some p)), some (zR (some v)), some (zI x3)] [zI x3, zR (some 132)]) (e_P_loopAt hp2)).trans ?_
    refine (show zY 1 93 [some (zR (some 132)), some (zR (some p)), some (zR (some v)), some (zI x3)] [zI (f_P_loopAt h p2 x3), zI x3, zR (some 132)] h = gd (false = zctor 7 ∧ zcs [] ≤ 8 ∧ zrm 1 (zrf 7 + 1) (8 + (zmaxl 7 + 11) + zrl 7) = true ∧ zcs [zR (some 132), zI x3, zI (f_P_loopAt h p2 x3)] ≤ zmaxl 7) (gd (zob h (some 132) 1) (zBack zY 1 93 96 [some (zR (some 132)), some (zR (some p)), some (zR (some v)), some (zI x3)] [] (zC 7 [zR (some 132), zI x3, zI (f_P_loopAt h p2 x3)] h))) from zGo 1 1 93 _ _ _).trans ?_
    refine (gd_t (⟨rfl, Nat.le_of_ble_eq_true rfl, rfl, Nat.le_of_ble_eq_true rfl⟩) _).trans ?_
    refine (gd_t (⟨rfl, (PTC KC 132 _ rfl rfl), (PNC KC 132 rfl)⟩) _).trans ?_
    rfl
  · skip
    refine (show zY 1 102 [some (zR (some 132)), some (zR (some p)), some (zR (some v)), some (zI x3)] [] h = gd (([] : List zV).isEmpty = true ∧ zrk 1 = 0) (some (.inl (none), h)) from zGo 1 1 102 _ _ _).trans ?_
    refine (gd_t (⟨rfl, rfl⟩) _).trans ?_
    rfl
theorem q_D_look_r96 {h : zH} {p : Nat} {v : Nat} {x3 : Int} (KC : KC h) (hp : PS h p) (hv : VS h v) : zBack zY 1 93 96 [some (zR (some 132)), some (zR (some p)), some (zR (some v)), some (zI x3)] [] (some (.inl (none), h)) =
    gd (-2147483648 ≤ x3 + 1 ∧ x3 + 1 < 2147483648) (
    zY 1 72 [some (zR (some 132)), some (zR (some p)), some (zR (some v)), some (zI (x3 + 1))] [] h) := by
  refine (show zBack zY 1 93 96 [some (zR (some 132)), some (zR (some p)), some (zR (some v)), some (zI x3)] [] (some (.inl (none), h)) = gd (inR (x3 + 1)) (gd (inR (1)) (zY 1 72 [some (zR (some 132)), some (zR (some p)), some (zR (some v)), some (zI (x3 + 1))] [] h)) from zGo 2 1 96 _ _ _).trans ?_
  refine gd_c Iff.rfl (fun c0 => ?_)
  refine (gd_t (by decide) _).trans ?_
  rfl
theorem q_D_failed {h : zH} (KC : KC h) : zC 11 [zR (some 132)] h =
    zY 11 4 [some (zR (some 132)), some (zI 0), some (zI 0)] [] h := by
  refine (show zC 11 [zR (some 132)] h = gd (inR (0)) (gd (inR (0)) (zY 11 4 [some (zR (some 132)), some (zI 0), some (zI 0)] [] h)) from zGo 4 11 0 _ _ _).trans ?_
  refine (gd_t (by decide) _).trans ?_
  refine (gd_t (by decide) _).trans ?_
  rfl
theorem q_D_failed_4 {h : zH} {x1 : Int} {x2 : Int} (KC : KC h) : zY 11 4 [some (zR (some 132)), some (zI x1), some (zI x2)] [] h =
    if x2 < 73 then
      gd (0 ≤ x2 ∧ x2 < 73) (
      if (hJ h 134 x2.toNat) = 0#64 then
        gd (-2147483648 ≤ x2 + 1 ∧ x2 + 1 < 2147483648) (
        zY 11 4 [some (zR (some 132)), some (zI x1), some (zI (x2 + 1))] [] h)
      else
        gd (-2147483648 ≤ x1 + 1 ∧ x1 + 1 < 2147483648) (
        gd (-2147483648 ≤ x2 + 1 ∧ x2 + 1 < 2147483648) (
        zY 11 4 [some (zR (some 132)), some (zI (x1 + 1)), some (zI (x2 + 1))] [] h)))
    else
      some (.inl (some (zI x1)), h) := by
  refine (show zY 11 4 [some (zR (some 132)), some (zI x1), some (zI x2)] [] h = gd (-128 ≤ (73 : Int) ∧ (73 : Int) < 128) (if x2 < 73 then zY 11 10 [some (zR (some 132)), some (zI x1), some (zI x2)] [] h else zY 11 30 [some (zR (some 132)), some (zI x1), some (zI x2)] [] h) from zGo 3 11 4 _ _ _).trans ?_
  refine (gd_t (by decide) _).trans ?_
  refine iteC (fun c0 => ?_) (fun c0 => ?_)
  · skip
    refine (show zY 11 10 [some (zR (some 132)), some (zI x1), some (zI x2)] [] h = gd (zob h (some 132) 1) (zY 11 14 [some (zR (some 132)), some (zI x1), some (zI x2)] [zR (hR h 132 4)] h) from zGo 2 11 10 _ _ _).trans ?_
    refine (gd_t (⟨rfl, (PTC KC 132 _ rfl rfl), (PNC KC 132 rfl)⟩) _).trans ?_
    refine (congrArg (fun r => zY 11 14 [some (zR (some 132)), some (zI x1), some (zI x2)] (zR r :: []) h) (PRC KC 132 4 _ rfl)).trans ?_
    refine (show zY 11 14 [some (zR (some 132)), some (zI x1), some (zI x2)] [zR (some 134)] h = gd (zok h (some 134) 23 x2) (if (zlcmp (hJ h 134 x2.toNat) (0#64)) = 0 then zY 11 24 [some (zR (some 132)), some (zI x1), some (zI x2)] [] h else zY 11 21 [some (zR (some 132)), some (zI x1), some (zI x2)] [] h) from zGo 5 11 14 _ _ _).trans ?_
    refine gd_c (ci (PTC KC 134 _ rfl rfl) (PLC KC 134 73 rfl rfl)) (fun c1 => ?_)
    refine iteL (fun c2 => ?_) (fun c2 => ?_)
    · skip
      refine (show zY 11 24 [some (zR (some 132)), some (zI x1), some (zI x2)] [] h = gd (inR (x2 + 1)) (gd (inR (1)) (zY 11 4 [some (zR (some 132)), some (zI x1), some (zI (x2 + 1))] [] h)) from zGo 2 11 24 _ _ _).trans ?_
      refine gd_c Iff.rfl (fun c3 => ?_)
      refine (gd_t (by decide) _).trans ?_
      rfl
    · skip
      refine (show zY 11 21 [some (zR (some 132)), some (zI x1), some (zI x2)] [] h = gd (inR (x1 + 1)) (gd (inR (1)) (gd (inR (x2 + 1)) (gd (inR (1)) (zY 11 4 [some (zR (some 132)), some (zI (x1 + 1)), some (zI (x2 + 1))] [] h)))) from zGo 3 11 21 _ _ _).trans ?_
      refine gd_c Iff.rfl (fun c4 => ?_)
      refine (gd_t (by decide) _).trans ?_
      refine gd_c Iff.rfl (fun c5 => ?_)
      refine (gd_t (by decide) _).trans ?_
      rfl
  · skip
    refine (show zY 11 30 [some (zR (some 132)), some (zI x1), some (zI x2)] [] h = gd (([] : List zV).isEmpty = true ∧ (zrk 11 = 1 ∨ zrk 11 = 6 ∧ ((x1 : Int) = 0 ∨ (x1 : Int) = 1))) (some (.inl (some (zI x1)), h)) from zGo 2 11 30 _ _ _).trans ?_
    refine (gd_t (⟨rfl, Or.inl rfl⟩) _).trans ?_
    rfl
theorem q_D_safeStates {h : zH} {x1 : Int} {p : Nat} (KC : KC h) (rp : hR h 132 2 = some p) (hp : PS h p) : zC 12 [zR (some 132), zI x1] h =
    zBack zY 12 16 19 [some (zR (some 132)), some (zI x1), some (zI (f_P_loopAt h p x1))] [] (zC 6 [zR (some 132), zI (f_P_loopAt h p x1), zJ (f_D_behind h (f_P_loopAt h p x1) p)] h) := by
  refine (show zC 12 [zR (some 132), zI x1] h = gd (zob h (some 132) 1) (zY 12 4 [some (zR (some 132)), some (zI x1), none] [zR (hR h 132 2)] h) from zGo 2 12 0 _ _ _).trans ?_
  refine (gd_t (⟨rfl, (PTC KC 132 _ rfl rfl), (PNC KC 132 rfl)⟩) _).trans ?_
  refine (congrArg (fun r => zY 12 4 [some (zR (some 132)), some (zI x1), none] (zR r :: []) h) rp).trans ?_
  refine (show zY 12 4 [some (zR (some 132)), some (zI x1), none] [zR (some p)] h = gd (false = zctor 53 ∧ zcs [] ≤ 8 ∧ zrm 12 (zrf 53 + 1) (8 + (zmaxl 53 + 11) + zrl 53) = true ∧ zcs [zR (some p), zI x1] ≤ zmaxl 53) (gd (zob h (some p) 5) (zBack zY 12 5 8 [some (zR (some 132)), some (zI x1), none] [] (zC 53 [zR (some p), zI x1] h))) from zGo 2 12 4 _ _ _).trans ?_
  refine (gd_t (⟨rfl, Nat.le_of_ble_eq_true rfl, rfl, Nat.le_of_ble_eq_true rfl⟩) _).trans ?_
  refine (gd_t (⟨rfl, hp.1, (PS_n hp)⟩) _).trans ?_
  refine (congrArg (zBack zY 12 5 8 [some (zR (some 132)), some (zI x1), none] []) (e_P_loopAt hp)).trans ?_
  refine (show zY 12 8 [some (zR (some 132)), some (zI x1), none] [zI (f_P_loopAt h p x1)] h = gd (false = zctor 5 ∧ zcs [zI (f_P_loopAt h p x1), zR (some 132)] ≤ 8 ∧ zrm 12 (zrf 5 + 1) (8 + (zmaxl 5 + 11) + zrl 5) = true ∧ zcs [zR (some 132), zI (f_P_loopAt h p x1)] ≤ zmaxl 5) (gd (zob h (some 132) 1) (zBack zY 12 13 16 [some (zR (some 132)), some (zI x1), some (zI (f_P_loopAt h p x1))] [zI (f_P_loopAt h p x1), zR (some 132)] (zC 5 [zR (some 132), zI (f_P_loopAt h p x1)] h))) from zGo 6 12 8 _ _ _).trans ?_
  refine (gd_t (⟨rfl, Nat.le_of_ble_eq_true rfl, rfl, Nat.le_of_ble_eq_true rfl⟩) _).trans ?_
  refine (gd_t (⟨rfl, (PTC KC 132 _ rfl rfl), (PNC KC 132 rfl)⟩) _).trans ?_
  refine (congrArg (zBack zY 12 13 16 [some (zR (some 132)), some (zI x1), some (zI (f_P_loopAt h p x1))] [zI (f_P_loopAt h p x1), zR (some 132)]) (e_D_behind KC rp hp)).trans ?_
  refine (show zY 12 16 [some (zR (some 132)), some (zI x1), some (zI (f_P_loopAt h p x1))] [zJ (f_D_behind h (f_P_loopAt h p x1) p), zI (f_P_loopAt h p x1), zR (some 132)] h = gd (false = zctor 6 ∧ zcs [] ≤ 8 ∧ zrm 12 (zrf 6 + 1) (8 + (zmaxl 6 + 11) + zrl 6) = true ∧ zcs [zR (some 132), zI (f_P_loopAt h p x1), zJ (f_D_behind h (f_P_loopAt h p x1) p)] ≤ zmaxl 6) (gd (zob h (some 132) 1) (zBack zY 12 16 19 [some (zR (some 132)), some (zI x1), some (zI (f_P_loopAt h p x1))] [] (zC 6 [zR (some 132), zI (f_P_loopAt h p x1), zJ (f_D_behind h (f_P_loopAt h p x1) p)] h))) from zGo 1 12 16 _ _ _).trans ?_
  refine (gd_t (⟨rfl, Nat.le_of_ble_eq_true rfl, rfl, Nat.le_of_ble_eq_true rfl⟩) _).trans ?_
  refine (gd_t (⟨rfl, (PTC KC 132 _ rfl rfl), (PNC KC 132 rfl)⟩) _).trans ?_
  rfl
theorem q_D_safeStates_r19 {h : zH} {x1 : Int} {x2 : Int} {y : BitVec 64} (KC : KC h) : zBack zY 12 16 19 [some (zR (some 132)), some (zI x1), some (zI x2)] [] (some (.inl (some (zJ y)), h)) =
    some (.inl (some (zJ y)), h) := by
  refine (show zBack zY 12 16 19 [some (zR (some 132)), some (zI x1), some (zI x2)] [] (some (.inl (some (zJ y)), h)) = gd (([] : List zV).isEmpty = true ∧ zrk 12 = 2) (some (.inl (some (zJ y)), h)) from zGo 1 12 19 _ _ _).trans ?_
  refine (gd_t (⟨rfl, rfl⟩) _).trans ?_
  rfl

