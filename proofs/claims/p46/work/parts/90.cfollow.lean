/-! The class: runs, step by step. -/
theorem q_R_endFrom {h : zH} {x1 : Int} {p : Nat} (KC : KC h) (rp : hR h 128 1 = some p) (hp : PS h p) : zC 65 [zR (some 128), zI x1] h =
    zBack zY 65 9 12 [some (zR (some 128)), some (zI x1)] [] (zC 60 [zR (some 128), zI (f_P_start h p), zI x1] h) := by
  refine (show zC 65 [zR (some 128), zI x1] h = gd (zob h (some 128) 6) (zY 65 5 [some (zR (some 128)), some (zI x1)] [zR (hR h 128 1), zR (some 128)] h) from zGo 3 65 0 _ _ _).trans ?_
  refine (gd_t (⟨rfl, (PTC KC 128 _ rfl rfl), (PNC KC 128 rfl)⟩) _).trans ?_
  refine (congrArg (fun r => zY 65 5 [some (zR (some 128)), some (zI x1)] (zR r :: zR (some 128) :: []) h) rp).trans ?_
  refine (show zY 65 5 [some (zR (some 128)), some (zI x1)] [zR (some p), zR (some 128)] h = gd (false = zctor 39 ∧ zcs [zR (some 128)] ≤ 8 ∧ zrm 65 (zrf 39 + 1) (8 + (zmaxl 39 + 11) + zrl 39) = true ∧ zcs [zR (some p)] ≤ zmaxl 39) (gd (zob h (some p) 5) (zBack zY 65 5 8 [some (zR (some 128)), some (zI x1)] [zR (some 128)] (zC 39 [zR (some p)] h))) from zGo 1 65 5 _ _ _).trans ?_
  refine (gd_t (⟨rfl, Nat.le_of_ble_eq_true rfl, rfl, Nat.le_of_ble_eq_true rfl⟩) _).trans ?_
  refine (gd_t (⟨rfl, hp.1, (PS_n hp)⟩) _).trans ?_
  refine (congrArg (zBack zY 65 5 8 [some (zR (some 128)), some (zI x1)] [zR (some 128)]) (e_P_start hp)).trans ?_
  refine (show zY 65 8 [some (zR (some 128)), some (zI x1)] [zI (f_P_start h p), zR (some 128)] h = gd (false = zctor 60 ∧ zcs [] ≤ 8 ∧ zrm 65 (zrf 60 + 1) (8 + (zmaxl 60 + 11) + zrl 60) = true ∧ zcs [zR (some 128), zI (f_P_start h p), zI x1] ≤ zmaxl 60) (gd (zob h (some 128) 6) (zBack zY 65 9 12 [some (zR (some 128)), some (zI x1)] [] (zC 60 [zR (some 128), zI (f_P_start h p), zI x1] h))) from zGo 2 65 8 _ _ _).trans ?_
  refine (gd_t (⟨rfl, Nat.le_of_ble_eq_true rfl, rfl, Nat.le_of_ble_eq_true rfl⟩) _).trans ?_
  refine (gd_t (⟨rfl, (PTC KC 128 _ rfl rfl), (PNC KC 128 rfl)⟩) _).trans ?_
  rfl
theorem q_R_endFrom_r12 {h : zH} {x1 : Int} {y : Int} (KC : KC h) : zBack zY 65 9 12 [some (zR (some 128)), some (zI x1)] [] (some (.inl (some (zI y)), h)) =
    some (.inl (some (zI y)), h) := by
  refine (show zBack zY 65 9 12 [some (zR (some 128)), some (zI x1)] [] (some (.inl (some (zI y)), h)) = gd (([] : List zV).isEmpty = true ∧ (zrk 65 = 1 ∨ zrk 65 = 6 ∧ ((y : Int) = 0 ∨ (y : Int) = 1))) (some (.inl (some (zI y)), h)) from zGo 1 65 12 _ _ _).trans ?_
  refine (gd_t (⟨rfl, Or.inl rfl⟩) _).trans ?_
  rfl
theorem q_R_endsFromBefore {h : zH} {x1 : Int} (KC : KC h) : zC 67 [zR (some 128), zI x1] h =
    if b_S_has (hJ h 90 0) x1 then
      zBack zY 67 16 19 [some (zR (some 128)), some (zI x1)] [] (zC 65 [zR (some 128), zI x1] h)
    else
      some (.inl (some (zI 0)), h) := by
  refine (show zC 67 [zR (some 128), zI x1] h = gd (zob h (some 128) 6) (zY 67 4 [some (zR (some 128)), some (zI x1)] [zR (hR h 128 0)] h) from zGo 2 67 0 _ _ _).trans ?_
  refine (gd_t (⟨rfl, (PTC KC 128 _ rfl rfl), (PNC KC 128 rfl)⟩) _).trans ?_
  refine (congrArg (fun r => zY 67 4 [some (zR (some 128)), some (zI x1)] (zR r :: []) h) (PRC KC 128 0 _ rfl)).trans ?_
  refine (show zY 67 4 [some (zR (some 128)), some (zI x1)] [zR (some 90)] h = gd (zob h (some 90) 8) (gd (false = zctor 104 ∧ zcs [] ≤ 8 ∧ zrm 67 (zrf 104 + 1) (8 + (zmaxl 104 + 11) + zrl 104) = true ∧ zcs [zJ (hJ h 90 0), zI x1] ≤ zmaxl 104) (zBack zY 67 8 11 [some (zR (some 128)), some (zI x1)] [] (zC 104 [zJ (hJ h 90 0), zI x1] h))) from zGo 3 67 4 _ _ _).trans ?_
  refine (gd_t (⟨rfl, (PTC KC 90 _ rfl rfl), (PNC KC 90 rfl)⟩) _).trans ?_
  refine (gd_t (⟨rfl, Nat.le_of_ble_eq_true rfl, rfl, Nat.le_of_ble_eq_true rfl⟩) _).trans ?_
  refine (congrArg (zBack zY 67 8 11 [some (zR (some 128)), some (zI x1)] []) (e_S_has)).trans ?_
  refine (show zY 67 11 [some (zR (some 128)), some (zI x1)] [zI (if b_S_has (hJ h 90 0) x1 then (1 : Int) else 0)] h = if (if b_S_has (hJ h 90 0) x1 then (1 : Int) else 0) = 0 then zY 67 27 [some (zR (some 128)), some (zI x1)] [] h else zY 67 14 [some (zR (some 128)), some (zI x1)] [] h from zGo 1 67 11 _ _ _).trans ?_
  refine iteB (fun c0 => ?_) (fun c0 => ?_)
  · skip
    refine (show zY 67 14 [some (zR (some 128)), some (zI x1)] [] h = gd (false = zctor 65 ∧ zcs [] ≤ 8 ∧ zrm 67 (zrf 65 + 1) (8 + (zmaxl 65 + 11) + zrl 65) = true ∧ zcs [zR (some 128), zI x1] ≤ zmaxl 65) (gd (zob h (some 128) 6) (zBack zY 67 16 19 [some (zR (some 128)), some (zI x1)] [] (zC 65 [zR (some 128), zI x1] h))) from zGo 3 67 14 _ _ _).trans ?_
    refine (gd_t (⟨rfl, Nat.le_of_ble_eq_true rfl, rfl, Nat.le_of_ble_eq_true rfl⟩) _).trans ?_
    refine (gd_t (⟨rfl, (PTC KC 128 _ rfl rfl), (PNC KC 128 rfl)⟩) _).trans ?_
    rfl
  · skip
    refine (show zY 67 27 [some (zR (some 128)), some (zI x1)] [] h = gd (inR (0)) (gd (([] : List zV).isEmpty = true ∧ (zrk 67 = 1 ∨ zrk 67 = 6 ∧ ((0 : Int) = 0 ∨ (0 : Int) = 1))) (some (.inl (some (zI 0)), h))) from zGo 2 67 27 _ _ _).trans ?_
    refine (gd_t (by decide) _).trans ?_
    refine (gd_t (⟨rfl, Or.inr ⟨rfl, by decide⟩⟩) _).trans ?_
    rfl
theorem q_R_endsFromBefore_r19 {h : zH} {x1 : Int} {y : Int} (KC : KC h) : zBack zY 67 16 19 [some (zR (some 128)), some (zI x1)] [] (some (.inl (some (zI y)), h)) =
    if y = (-1) then
      some (.inl (some (zI 0)), h)
    else
      some (.inl (some (zI 1)), h) := by
  refine (show zBack zY 67 16 19 [some (zR (some 128)), some (zI x1)] [] (some (.inl (some (zI y)), h)) = gd (inR (-1)) (if y = (-1) then zY 67 27 [some (zR (some 128)), some (zI x1)] [] h else zY 67 23 [some (zR (some 128)), some (zI x1)] [] h) from zGo 2 67 19 _ _ _).trans ?_
  refine (gd_t (by decide) _).trans ?_
  refine iteC (fun c0 => ?_) (fun c0 => ?_)
  · skip
    refine (show zY 67 27 [some (zR (some 128)), some (zI x1)] [] h = gd (inR (0)) (gd (([] : List zV).isEmpty = true ∧ (zrk 67 = 1 ∨ zrk 67 = 6 ∧ ((0 : Int) = 0 ∨ (0 : Int) = 1))) (some (.inl (some (zI 0)), h))) from zGo 2 67 27 _ _ _).trans ?_
    refine (gd_t (by decide) _).trans ?_
    refine (gd_t (⟨rfl, Or.inr ⟨rfl, by decide⟩⟩) _).trans ?_
    rfl
  · skip
    refine (show zY 67 23 [some (zR (some 128)), some (zI x1)] [] h = gd (inR (1)) (gd (([] : List zV).isEmpty = true ∧ (zrk 67 = 1 ∨ zrk 67 = 6 ∧ ((1 : Int) = 0 ∨ (1 : Int) = 1))) (some (.inl (some (zI 1)), h))) from zGo 3 67 23 _ _ _).trans ?_
    refine (gd_t (by decide) _).trans ?_
    refine (gd_t (⟨rfl, Or.inr ⟨rfl, by decide⟩⟩) _).trans ?_
    rfl
theorem q_R_wrongStates {h : zH} (KC : KC h) : zC 64 [zR (some 128)] h =
    zY 64 4 [some (zR (some 128)), some (zJ (0#64)), none, some (zI 0), none] [] h := by
  refine (show zC 64 [zR (some 128)] h = gd (inR (0)) (zY 64 4 [some (zR (some 128)), some (zJ (0#64)), none, some (zI 0), none] [] h) from zGo 4 64 0 _ _ _).trans ?_
  refine (gd_t (by decide) _).trans ?_
  rfl
theorem q_R_wrongStates_4 {h : zH} {x1 : BitVec 64} {x3 : Int} (KC : KC h) : zY 64 4 [some (zR (some 128)), some (zJ x1), none, some (zI x3), none] [] h =
    if x3 < 64 then
      zBack zY 64 12 15 [some (zR (some 128)), some (zJ x1), none, some (zI x3), none] [] (zC 65 [zR (some 128), zI x3] h)
    else
      some (.inl (some (zJ (x1 &&& (hJ h 90 0)))), h) := by
  refine (show zY 64 4 [some (zR (some 128)), some (zJ x1), none, some (zI x3), none] [] h = gd (-128 ≤ (64 : Int) ∧ (64 : Int) < 128) (if x3 < 64 then zY 64 10 [some (zR (some 128)), some (zJ x1), none, some (zI x3), none] [] h else zY 64 50 [some (zR (some 128)), some (zJ x1), none, some (zI x3), none] [] h) from zGo 3 64 4 _ _ _).trans ?_
  refine (gd_t (by decide) _).trans ?_
  refine iteC (fun c0 => ?_) (fun c0 => ?_)
  · skip
    refine (show zY 64 10 [some (zR (some 128)), some (zJ x1), none, some (zI x3), none] [] h = gd (false = zctor 65 ∧ zcs [] ≤ 8 ∧ zrm 64 (zrf 65 + 1) (8 + (zmaxl 65 + 11) + zrl 65) = true ∧ zcs [zR (some 128), zI x3] ≤ zmaxl 65) (gd (zob h (some 128) 6) (zBack zY 64 12 15 [some (zR (some 128)), some (zJ x1), none, some (zI x3), none] [] (zC 65 [zR (some 128), zI x3] h))) from zGo 3 64 10 _ _ _).trans ?_
    refine (gd_t (⟨rfl, Nat.le_of_ble_eq_true rfl, rfl, Nat.le_of_ble_eq_true rfl⟩) _).trans ?_
    refine (gd_t (⟨rfl, (PTC KC 128 _ rfl rfl), (PNC KC 128 rfl)⟩) _).trans ?_
    rfl
  · skip
    refine (show zY 64 50 [some (zR (some 128)), some (zJ x1), none, some (zI x3), none] [] h = gd (zob h (some 128) 6) (zY 64 55 [some (zR (some 128)), some (zJ x1), none, some (zI x3), none] [zR (hR h 128 0), zJ x1] h) from zGo 3 64 50 _ _ _).trans ?_
    refine (gd_t (⟨rfl, (PTC KC 128 _ rfl rfl), (PNC KC 128 rfl)⟩) _).trans ?_
    refine (congrArg (fun r => zY 64 55 [some (zR (some 128)), some (zJ x1), none, some (zI x3), none] (zR r :: zJ x1 :: []) h) (PRC KC 128 0 _ rfl)).trans ?_
    refine (show zY 64 55 [some (zR (some 128)), some (zJ x1), none, some (zI x3), none] [zR (some 90), zJ x1] h = gd (zob h (some 90) 8) (gd (([] : List zV).isEmpty = true ∧ zrk 64 = 2) (some (.inl (some (zJ (x1 &&& (hJ h 90 0)))), h))) from zGo 3 64 55 _ _ _).trans ?_
    refine (gd_t (⟨rfl, (PTC KC 90 _ rfl rfl), (PNC KC 90 rfl)⟩) _).trans ?_
    refine (gd_t (⟨rfl, rfl⟩) _).trans ?_
    rfl
theorem q_R_wrongStates_r15 {h : zH} {x1 : BitVec 64} {x3 : Int} {y : Int} (KC : KC h) : zBack zY 64 12 15 [some (zR (some 128)), some (zJ x1), none, some (zI x3), none] [] (some (.inl (some (zI y)), h)) =
    if y = (-1) then
      gd (-2147483648 ≤ x3 + 1 ∧ x3 + 1 < 2147483648) (
      zY 64 4 [some (zR (some 128)), some (zJ (x1 ||| (zlshl (1#64) x3))), none, some (zI (x3 + 1)), some (zI y)] [] h)
    else
      if b_S_has (hJ h 90 1) y then
        gd (-2147483648 ≤ x3 + 1 ∧ x3 + 1 < 2147483648) (
        zY 64 4 [some (zR (some 128)), some (zJ x1), none, some (zI (x3 + 1)), some (zI y)] [] h)
      else
        gd (-2147483648 ≤ x3 + 1 ∧ x3 + 1 < 2147483648) (
        zY 64 4 [some (zR (some 128)), some (zJ (x1 ||| (zlshl (1#64) x3))), none, some (zI (x3 + 1)), some (zI y)] [] h) := by
  refine (show zBack zY 64 12 15 [some (zR (some 128)), some (zJ x1), none, some (zI x3), none] [] (some (.inl (some (zI y)), h)) = gd (inR (-1)) (if y = (-1) then zY 64 38 [some (zR (some 128)), some (zJ x1), none, some (zI x3), some (zI y)] [] h else zY 64 23 [some (zR (some 128)), some (zJ x1), none, some (zI x3), some (zI y)] [] h) from zGo 4 64 15 _ _ _).trans ?_
  refine (gd_t (by decide) _).trans ?_
  refine iteC (fun c0 => ?_) (fun c0 => ?_)
  · skip
    refine (show zY 64 38 [some (zR (some 128)), some (zJ x1), none, some (zI x3), some (zI y)] [] h = gd (inR (x3 + 1)) (gd (inR (1)) (zY 64 4 [some (zR (some 128)), some (zJ (x1 ||| (zlshl (1#64) x3))), none, some (zI (x3 + 1)), some (zI y)] [] h)) from zGo 8 64 38 _ _ _).trans ?_
    refine gd_c Iff.rfl (fun c1 => ?_)
    refine (gd_t (by decide) _).trans ?_
    rfl
  · skip
    refine (show zY 64 23 [some (zR (some 128)), some (zJ x1), none, some (zI x3), some (zI y)] [] h = gd (zob h (some 128) 6) (zY 64 27 [some (zR (some 128)), some (zJ x1), none, some (zI x3), some (zI y)] [zR (hR h 128 0)] h) from zGo 2 64 23 _ _ _).trans ?_
    refine (gd_t (⟨rfl, (PTC KC 128 _ rfl rfl), (PNC KC 128 rfl)⟩) _).trans ?_
    refine (congrArg (fun r => zY 64 27 [some (zR (some 128)), some (zJ x1), none, some (zI x3), some (zI y)] (zR r :: []) h) (PRC KC 128 0 _ rfl)).trans ?_
    refine (show zY 64 27 [some (zR (some 128)), some (zJ x1), none, some (zI x3), some (zI y)] [zR (some 90)] h = gd (zob h (some 90) 8) (gd (false = zctor 104 ∧ zcs [] ≤ 8 ∧ zrm 64 (zrf 104 + 1) (8 + (zmaxl 104 + 11) + zrl 104) = true ∧ zcs [zJ (hJ h 90 1), zI y] ≤ zmaxl 104) (zBack zY 64 32 35 [some (zR (some 128)), some (zJ x1), none, some (zI x3), some (zI y)] [] (zC 104 [zJ (hJ h 90 1), zI y] h))) from zGo 3 64 27 _ _ _).trans ?_
    refine (gd_t (⟨rfl, (PTC KC 90 _ rfl rfl), (PNC KC 90 rfl)⟩) _).trans ?_
    refine (gd_t (⟨rfl, Nat.le_of_ble_eq_true rfl, rfl, Nat.le_of_ble_eq_true rfl⟩) _).trans ?_
    refine (congrArg (zBack zY 64 32 35 [some (zR (some 128)), some (zJ x1), none, some (zI x3), some (zI y)] []) (e_S_has)).trans ?_
    refine (show zY 64 35 [some (zR (some 128)), some (zJ x1), none, some (zI x3), some (zI y)] [zI (if b_S_has (hJ h 90 1) y then (1 : Int) else 0)] h = if (if b_S_has (hJ h 90 1) y then (1 : Int) else 0) = 0 then zY 64 38 [some (zR (some 128)), some (zJ x1), none, some (zI x3), some (zI y)] [] h else zY 64 44 [some (zR (some 128)), some (zJ x1), none, some (zI x3), some (zI y)] [] h from zGo 1 64 35 _ _ _).trans ?_
    refine iteB (fun c2 => ?_) (fun c2 => ?_)
    · skip
      refine (show zY 64 44 [some (zR (some 128)), some (zJ x1), none, some (zI x3), some (zI y)] [] h = gd (inR (x3 + 1)) (gd (inR (1)) (zY 64 4 [some (zR (some 128)), some (zJ x1), none, some (zI (x3 + 1)), some (zI y)] [] h)) from zGo 2 64 44 _ _ _).trans ?_
      refine gd_c Iff.rfl (fun c3 => ?_)
      refine (gd_t (by decide) _).trans ?_
      rfl
    · skip
      refine (show zY 64 38 [some (zR (some 128)), some (zJ x1), none, some (zI x3), some (zI y)] [] h = gd (inR (x3 + 1)) (gd (inR (1)) (zY 64 4 [some (zR (some 128)), some (zJ (x1 ||| (zlshl (1#64) x3))), none, some (zI (x3 + 1)), some (zI y)] [] h)) from zGo 8 64 38 _ _ _).trans ?_
      refine gd_c Iff.rfl (fun c4 => ?_)
      refine (gd_t (by decide) _).trans ?_
      rfl
theorem q_R_countRound {h : zH} {x1 : Int} (KC : KC h) : zC 69 [zR (some 128), zI x1] h =
    if x1 = 0 then
      some (.inl (none), (sI (sI h 128 8 0) 128 9 (f_Ma_max (hI h 128 9) 0)))
    else
      gd (-2147483648 ≤ (hI h 128 8) + 1 ∧ (hI h 128 8) + 1 < 2147483648) (
      some (.inl (none), (sI (sI h 128 8 ((hI h 128 8) + 1)) 128 9 (f_Ma_max (hI h 128 9) ((hI h 128 8) + 1))))) := by
  refine (show zC 69 [zR (some 128), zI x1] h = if x1 = 0 then zY 69 14 [some (zR (some 128)), some (zI x1)] [zR (some 128)] h else zY 69 5 [some (zR (some 128)), some (zI x1)] [zR (some 128)] h from zGo 3 69 0 _ _ _).trans ?_
  refine iteC (fun c0 => ?_) (fun c0 => ?_)
  · skip
    refine (show zY 69 14 [some (zR (some 128)), some (zI x1)] [zR (some 128)] h = gd (inR (0)) (gd (zob h (some 128) 6) (gd (zob (sI h 128 8 0) (some 128) 6) (gd (zob (sI h 128 8 0) (some 128) 6) (gd (false = zctor 223 ∧ zcs [zR (some 128)] ≤ 8 ∧ zrm 69 (zrf 223 + 1) (8 + (zmaxl 223 + 11) + zrl 223) = true ∧ zcs [zI (hI h 128 9), zI 0] ≤ zmaxl 223) (zBack zY 69 27 30 [some (zR (some 128)), some (zI x1)] [zR (some 128)] (zC 223 [zI (hI h 128 9), zI 0] (sI h 128 8 0))))))) from zGo 8 69 14 _ _ _).trans ?_
    refine (gd_t (by decide) _).trans ?_
    refine (gd_t (⟨rfl, (PTC KC 128 _ rfl rfl), (PNC KC 128 rfl)⟩) _).trans ?_
    refine (gd_t (⟨rfl, (PTC KC 128 _ rfl rfl), (PNC KC 128 rfl)⟩) _).trans ?_
    refine (gd_t (⟨rfl, (PTC KC 128 _ rfl rfl), (PNC KC 128 rfl)⟩) _).trans ?_
    refine (gd_t (⟨rfl, Nat.le_of_ble_eq_true rfl, rfl, Nat.le_of_ble_eq_true rfl⟩) _).trans ?_
    refine (congrArg (zBack zY 69 27 30 [some (zR (some 128)), some (zI x1)] [zR (some 128)]) (e_Ma_max (h := (sI h 128 8 0)))).trans ?_
    refine (show zY 69 30 [some (zR (some 128)), some (zI x1)] [zI (f_Ma_max (hI h 128 9) 0), zR (some 128)] (sI h 128 8 0) = gd (zob (sI h 128 8 0) (some 128) 6) (gd (([] : List zV).isEmpty = true ∧ zrk 69 = 0) (some (.inl (none), (sI (sI h 128 8 0) 128 9 (f_Ma_max (hI h 128 9) 0))))) from zGo 2 69 30 _ _ _).trans ?_
    refine (gd_t (⟨rfl, (PTC KC 128 _ rfl rfl), (PNC KC 128 rfl)⟩) _).trans ?_
    refine (gd_t (⟨rfl, rfl⟩) _).trans ?_
    rfl
  · skip
    refine (show zY 69 5 [some (zR (some 128)), some (zI x1)] [zR (some 128)] h = gd (zob h (some 128) 6) (gd (inR (1)) (gd (inR ((hI h 128 8) + 1)) (gd (zob h (some 128) 6) (gd (zob (sI h 128 8 ((hI h 128 8) + 1)) (some 128) 6) (gd (zob (sI h 128 8 ((hI h 128 8) + 1)) (some 128) 6) (gd (false = zctor 223 ∧ zcs [zR (some 128)] ≤ 8 ∧ zrm 69 (zrf 223 + 1) (8 + (zmaxl 223 + 11) + zrl 223) = true ∧ zcs [zI (hI h 128 9), zI ((hI h 128 8) + 1)] ≤ zmaxl 223) (zBack zY 69 27 30 [some (zR (some 128)), some (zI x1)] [zR (some 128)] (zC 223 [zI (hI h 128 9), zI ((hI h 128 8) + 1)] (sI h 128 8 ((hI h 128 8) + 1)))))))))) from zGo 12 69 5 _ _ _).trans ?_
    refine (gd_t (⟨rfl, (PTC KC 128 _ rfl rfl), (PNC KC 128 rfl)⟩) _).trans ?_
    refine (gd_t (by decide) _).trans ?_
    refine gd_c Iff.rfl (fun c1 => ?_)
    refine (gd_t (⟨rfl, (PTC KC 128 _ rfl rfl), (PNC KC 128 rfl)⟩) _).trans ?_
    refine (gd_t (⟨rfl, (PTC KC 128 _ rfl rfl), (PNC KC 128 rfl)⟩) _).trans ?_
    refine (gd_t (⟨rfl, (PTC KC 128 _ rfl rfl), (PNC KC 128 rfl)⟩) _).trans ?_
    refine (gd_t (⟨rfl, Nat.le_of_ble_eq_true rfl, rfl, Nat.le_of_ble_eq_true rfl⟩) _).trans ?_
    refine (congrArg (zBack zY 69 27 30 [some (zR (some 128)), some (zI x1)] [zR (some 128)]) (e_Ma_max (h := (sI h 128 8 ((hI h 128 8) + 1))))).trans ?_
    refine (show zY 69 30 [some (zR (some 128)), some (zI x1)] [zI (f_Ma_max (hI h 128 9) ((hI h 128 8) + 1)), zR (some 128)] (sI h 128 8 ((hI h 128 8) + 1)) = gd (zob (sI h 128 8 ((hI h 128 8) + 1)) (some 128) 6) (gd (([] : List zV).isEmpty = true ∧ zrk 69 = 0) (some (.inl (none), (sI (sI h 128 8 ((hI h 128 8) + 1)) 128 9 (f_Ma_max (hI h 128 9) ((hI h 128 8) + 1)))))) from zGo 2 69 30 _ _ _).trans ?_
    refine (gd_t (⟨rfl, (PTC KC 128 _ rfl rfl), (PNC KC 128 rfl)⟩) _).trans ?_
    refine (gd_t (⟨rfl, rfl⟩) _).trans ?_
    rfl
theorem q_R_follow {h : zH} {x1 : Int} {x2 : Int} {p : Nat} (KC : KC h) (rp : hR h 128 1 = some p) (hp : PS h p) : zC 68 [zR (some 128), zI x1, zI x2] h =
    zY 68 34 [some (zR (some 128)), some (zI x1), some (zI x2), some (zI x1), some (zI (f_P_start (sI (sI (sF (sI h 128 6 0) 128 7 FP.fconst0) 128 8 0) 128 9 0) p)), some (zI 0), none] [] (sI (sI (sF (sI h 128 6 0) 128 7 FP.fconst0) 128 8 0) 128 9 0) := by
  refine (show zC 68 [zR (some 128), zI x1, zI x2] h = gd (inR (0)) (gd (zob h (some 128) 6) (gd (zob (sI h 128 6 0) (some 128) 6) (gd (inR (0)) (gd (zob (sF (sI h 128 6 0) 128 7 FP.fconst0) (some 128) 6) (gd (inR (0)) (gd (zob (sI (sF (sI h 128 6 0) 128 7 FP.fconst0) 128 8 0) (some 128) 6) (gd (zob (sI (sI (sF (sI h 128 6 0) 128 7 FP.fconst0) 128 8 0) 128 9 0) (some 128) 6) (zY 68 26 [some (zR (some 128)), some (zI x1), some (zI x2), some (zI x1), none, none, none] [zR (hR h 128 1)] (sI (sI (sF (sI h 128 6 0) 128 7 FP.fconst0) 128 8 0) 128 9 0))))))))) from zGo 16 68 0 _ _ _).trans ?_
  refine (gd_t (by decide) _).trans ?_
  refine (gd_t (⟨rfl, (PTC KC 128 _ rfl rfl), (PNC KC 128 rfl)⟩) _).trans ?_
  refine (gd_t (⟨rfl, (PTC KC 128 _ rfl rfl), (PNC KC 128 rfl)⟩) _).trans ?_
  refine (gd_t (by decide) _).trans ?_
  refine (gd_t (⟨rfl, (PTC KC 128 _ rfl rfl), (PNC KC 128 rfl)⟩) _).trans ?_
  refine (gd_t (by decide) _).trans ?_
  refine (gd_t (⟨rfl, (PTC KC 128 _ rfl rfl), (PNC KC 128 rfl)⟩) _).trans ?_
  refine (gd_t (⟨rfl, (PTC KC 128 _ rfl rfl), (PNC KC 128 rfl)⟩) _).trans ?_
  refine (congrArg (fun r => zY 68 26 [some (zR (some 128)), some (zI x1), some (zI x2), some (zI x1), none, none, none] (zR r :: []) (sI (sI (sF (sI h 128 6 0) 128 7 FP.fconst0) 128 8 0) 128 9 0)) rp).trans ?_
  refine (show zY 68 26 [some (zR (some 128)), some (zI x1), some (zI x2), some (zI x1), none, none, none] [zR (some p)] (sI (sI (sF (sI h 128 6 0) 128 7 FP.fconst0) 128 8 0) 128 9 0) = gd (false = zctor 39 ∧ zcs [] ≤ 8 ∧ zrm 68 (zrf 39 + 1) (8 + (zmaxl 39 + 11) + zrl 39) = true ∧ zcs [zR (some p)] ≤ zmaxl 39) (gd (zob (sI (sI (sF (sI h 128 6 0) 128 7 FP.fconst0) 128 8 0) 128 9 0) (some p) 5) (zBack zY 68 26 29 [some (zR (some 128)), some (zI x1), some (zI x2), some (zI x1), none, none, none] [] (zC 39 [zR (some p)] (sI (sI (sF (sI h 128 6 0) 128 7 FP.fconst0) 128 8 0) 128 9 0)))) from zGo 1 68 26 _ _ _).trans ?_
  refine (gd_t (⟨rfl, Nat.le_of_ble_eq_true rfl, rfl, Nat.le_of_ble_eq_true rfl⟩) _).trans ?_
  refine (gd_t (⟨rfl, hp.1, (PS_n hp)⟩) _).trans ?_
  refine (congrArg (zBack zY 68 26 29 [some (zR (some 128)), some (zI x1), some (zI x2), some (zI x1), none, none, none] []) (e_P_start (h := (sI (sI (sF (sI h 128 6 0) 128 7 FP.fconst0) 128 8 0) 128 9 0)) hp)).trans ?_
  refine (show zY 68 29 [some (zR (some 128)), some (zI x1), some (zI x2), some (zI x1), none, none, none] [zI (f_P_start (sI (sI (sF (sI h 128 6 0) 128 7 FP.fconst0) 128 8 0) 128 9 0) p)] (sI (sI (sF (sI h 128 6 0) 128 7 FP.fconst0) 128 8 0) 128 9 0) = gd (inR (0)) (zY 68 34 [some (zR (some 128)), some (zI x1), some (zI x2), some (zI x1), some (zI (f_P_start (sI (sI (sF (sI h 128 6 0) 128 7 FP.fconst0) 128 8 0) 128 9 0) p)), some (zI 0), none] [] (sI (sI (sF (sI h 128 6 0) 128 7 FP.fconst0) 128 8 0) 128 9 0)) from zGo 3 68 29 _ _ _).trans ?_
  refine (gd_t (by decide) _).trans ?_
  rfl
theorem q_R_follow_34 {h : zH} {x1 : Int} {x2 : Int} {x3 : Int} {x4 : Int} {x5 : Int} {v : Nat} {p : Nat} (KC : KC h) (rv : hR h 128 2 = some v) (hv : VS h v) (rp : hR h 128 1 = some p) (hp : PS h p) (g0 : (x5 < 1536) → (¬ (x4 = (-1))) → (-2147483648 ≤ (hI h 128 6) + 1 ∧ (hI h 128 6) + 1 < 2147483648) → (zn32 (FP.fdiv (FP.i2f (Int32.ofInt (f_V_priceOf (sI h 128 6 ((hI h 128 6) + 1)) v x4))) 1092616192) = true) → (zn32 (FP.fadd (hF h 128 7) (FP.fdiv (FP.i2f (Int32.ofInt (f_V_priceOf (sI h 128 6 ((hI h 128 6) + 1)) v x4))) 1092616192)) = true) → (¬ (x4 = x2)) → ((¬ (b_R_looksAtCondition (sF (sI h 128 6 ((hI h 128 6) + 1)) 128 7 (FP.fadd (hF h 128 7) (FP.fdiv (FP.i2f (Int32.ofInt (f_V_priceOf (sI h 128 6 ((hI h 128 6) + 1)) v x4))) 1092616192))) x4 p)) → (-2147483648 ≤ x4 * 64 ∧ x4 * 64 < 2147483648)) := by omega) (g1 : (x5 < 1536) → (¬ (x4 = (-1))) → (-2147483648 ≤ (hI h 128 6) + 1 ∧ (hI h 128 6) + 1 < 2147483648) → (zn32 (FP.fdiv (FP.i2f (Int32.ofInt (f_V_priceOf (sI h 128 6 ((hI h 128 6) + 1)) v x4))) 1092616192) = true) → (zn32 (FP.fadd (hF h 128 7) (FP.fdiv (FP.i2f (Int32.ofInt (f_V_priceOf (sI h 128 6 ((hI h 128 6) + 1)) v x4))) 1092616192)) = true) → (¬ (x4 = x2)) → ((¬ (b_R_looksAtCondition (sF (sI h 128 6 ((hI h 128 6) + 1)) 128 7 (FP.fadd (hF h 128 7) (FP.fdiv (FP.i2f (Int32.ofInt (f_V_priceOf (sI h 128 6 ((hI h 128 6) + 1)) v x4))) 1092616192))) x4 p)) → (-2147483648 ≤ (x4 * 64) + x3 ∧ (x4 * 64) + x3 < 2147483648)) := by omega) : zY 68 34 [some (zR (some 128)), some (zI x1), some (zI x2), some (zI x3), some (zI x4), some (zI x5), none] [] h =
    if x5 < 1536 then
      if x4 = (-1) then
        some (.inl (none), h)
      else
        gd (-2147483648 ≤ (hI h 128 6) + 1 ∧ (hI h 128 6) + 1 < 2147483648) (
        gd (zn32 (FP.fdiv (FP.i2f (Int32.ofInt (f_V_priceOf (sI h 128 6 ((hI h 128 6) + 1)) v x4))) 1092616192) = true) (
        gd (zn32 (FP.fadd (hF h 128 7) (FP.fdiv (FP.i2f (Int32.ofInt (f_V_priceOf (sI h 128 6 ((hI h 128 6) + 1)) v x4))) 1092616192)) = true) (
        if x4 = x2 then
          zBack zY 68 97 100 [some (zR (some 128)), some (zI x1), some (zI x2), some (zI x3), some (zI x4), some (zI x5), none] [] (zC 69 [zR (some 128), zI (if b_S_holdsIn (sF (sI h 128 6 ((hI h 128 6) + 1)) 128 7 (FP.fadd (hF h 128 7) (FP.fdiv (FP.i2f (Int32.ofInt (f_V_priceOf (sI h 128 6 ((hI h 128 6) + 1)) v x4))) 1092616192))) x4 x3 then (1 : Int) else 0)] (sF (sI h 128 6 ((hI h 128 6) + 1)) 128 7 (FP.fadd (hF h 128 7) (FP.fdiv (FP.i2f (Int32.ofInt (f_V_priceOf (sI h 128 6 ((hI h 128 6) + 1)) v x4))) 1092616192))))
        else
          gd (-2147483648 ≤ x5 + 1 ∧ x5 + 1 < 2147483648) (
          zY 68 34 [some (zR (some 128)), some (zI x1), some (zI x2), some (zI (f_R_stateBehind (sF (sI h 128 6 ((hI h 128 6) + 1)) 128 7 (FP.fadd (hF h 128 7) (FP.fdiv (FP.i2f (Int32.ofInt (f_V_priceOf (sI h 128 6 ((hI h 128 6) + 1)) v x4))) 1092616192))) x4 x3 p)), some (zI (f_R_statementBehind (sF (sI h 128 6 ((hI h 128 6) + 1)) 128 7 (FP.fadd (hF h 128 7) (FP.fdiv (FP.i2f (Int32.ofInt (f_V_priceOf (sI h 128 6 ((hI h 128 6) + 1)) v x4))) 1092616192))) x4 x3 p)), some (zI (x5 + 1)), some (zI (f_R_statementBehind (sF (sI h 128 6 ((hI h 128 6) + 1)) 128 7 (FP.fadd (hF h 128 7) (FP.fdiv (FP.i2f (Int32.ofInt (f_V_priceOf (sI h 128 6 ((hI h 128 6) + 1)) v x4))) 1092616192))) x4 x3 p))] [] (sF (sI h 128 6 ((hI h 128 6) + 1)) 128 7 (FP.fadd (hF h 128 7) (FP.fdiv (FP.i2f (Int32.ofInt (f_V_priceOf (sI h 128 6 ((hI h 128 6) + 1)) v x4))) 1092616192)))))))
    else
      some (.inl (none), h) := by
  refine (show zY 68 34 [some (zR (some 128)), some (zI x1), some (zI x2), some (zI x3), some (zI x4), some (zI x5), none] [] h = gd (-32768 ≤ (1536 : Int) ∧ (1536 : Int) < 32768) (if x5 < 1536 then zY 68 42 [some (zR (some 128)), some (zI x1), some (zI x2), some (zI x3), some (zI x4), some (zI x5), none] [] h else zY 68 127 [some (zR (some 128)), some (zI x1), some (zI x2), some (zI x3), some (zI x4), some (zI x5), none] [] h) from zGo 3 68 34 _ _ _).trans ?_
  refine (gd_t (by decide) _).trans ?_
  refine iteC (fun c0 => ?_) (fun c0 => ?_)
  · skip
    refine (show zY 68 42 [some (zR (some 128)), some (zI x1), some (zI x2), some (zI x3), some (zI x4), some (zI x5), none] [] h = gd (inR (-1)) (if x4 = (-1) then zY 68 127 [some (zR (some 128)), some (zI x1), some (zI x2), some (zI x3), some (zI x4), some (zI x5), none] [] h else zY 68 48 [some (zR (some 128)), some (zI x1), some (zI x2), some (zI x3), some (zI x4), some (zI x5), none] [] h) from zGo 3 68 42 _ _ _).trans ?_
    refine (gd_t (by decide) _).trans ?_
    refine iteC (fun c1 => ?_) (fun c1 => ?_)
    · skip
      refine (show zY 68 127 [some (zR (some 128)), some (zI x1), some (zI x2), some (zI x3), some (zI x4), some (zI x5), none] [] h = gd (([] : List zV).isEmpty = true ∧ zrk 68 = 0) (some (.inl (none), h)) from zGo 1 68 127 _ _ _).trans ?_
      refine (gd_t (⟨rfl, rfl⟩) _).trans ?_
      rfl
    · skip
      refine (show zY 68 48 [some (zR (some 128)), some (zI x1), some (zI x2), some (zI x3), some (zI x4), some (zI x5), none] [] h = gd (zob h (some 128) 6) (gd (inR (1)) (gd (inR ((hI h 128 6) + 1)) (gd (zob h (some 128) 6) (gd (zob (sI h 128 6 ((hI h 128 6) + 1)) (some 128) 6) (gd (zob (sI h 128 6 ((hI h 128 6) + 1)) (some 128) 6) (zY 68 67 [some (zR (some 128)), some (zI x1), some (zI x2), some (zI x3), some (zI x4), some (zI x5), none] [zR (hR h 128 2), zF (hF h 128 7), zR (some 128)] (sI h 128 6 ((hI h 128 6) + 1)))))))) from zGo 11 68 48 _ _ _).trans ?_
      refine (gd_t (⟨rfl, (PTC KC 128 _ rfl rfl), (PNC KC 128 rfl)⟩) _).trans ?_
      refine (gd_t (by decide) _).trans ?_
      refine gd_c Iff.rfl (fun c2 => ?_)
      refine (gd_t (⟨rfl, (PTC KC 128 _ rfl rfl), (PNC KC 128 rfl)⟩) _).trans ?_
      refine (gd_t (⟨rfl, (PTC KC 128 _ rfl rfl), (PNC KC 128 rfl)⟩) _).trans ?_
      refine (gd_t (⟨rfl, (PTC KC 128 _ rfl rfl), (PNC KC 128 rfl)⟩) _).trans ?_
      refine (congrArg (fun r => zY 68 67 [some (zR (some 128)), some (zI x1), some (zI x2), some (zI x3), some (zI x4), some (zI x5), none] (zR r :: zF (hF h 128 7) :: zR (some 128) :: []) (sI h 128 6 ((hI h 128 6) + 1))) rv).trans ?_
      refine (show zY 68 67 [some (zR (some 128)), some (zI x1), some (zI x2), some (zI x3), some (zI x4), some (zI x5), none] [zR (some v), zF (hF h 128 7), zR (some 128)] (sI h 128 6 ((hI h 128 6) + 1)) = gd (false = zctor 131 ∧ zcs [zF (hF h 128 7), zR (some 128)] ≤ 8 ∧ zrm 68 (zrf 131 + 1) (8 + (zmaxl 131 + 11) + zrl 131) = true ∧ zcs [zR (some v), zI x4] ≤ zmaxl 131) (gd (zob (sI h 128 6 ((hI h 128 6) + 1)) (some v) 10) (zBack zY 68 69 72 [some (zR (some 128)), some (zI x1), some (zI x2), some (zI x3), some (zI x4), some (zI x5), none] [zF (hF h 128 7), zR (some 128)] (zC 131 [zR (some v), zI x4] (sI h 128 6 ((hI h 128 6) + 1))))) from zGo 2 68 67 _ _ _).trans ?_
      refine (gd_t (⟨rfl, Nat.le_of_ble_eq_true rfl, rfl, Nat.le_of_ble_eq_true rfl⟩) _).trans ?_
      refine (gd_t (⟨rfl, hv.1, (VS_n hv)⟩) _).trans ?_
      refine (congrArg (zBack zY 68 69 72 [some (zR (some 128)), some (zI x1), some (zI x2), some (zI x3), some (zI x4), some (zI x5), none] [zF (hF h 128 7), zR (some 128)]) (e_V_priceOf (h := (sI h 128 6 ((hI h 128 6) + 1))) hv)).trans ?_
      refine (show zY 68 72 [some (zR (some 128)), some (zI x1), some (zI x2), some (zI x3), some (zI x4), some (zI x5), none] [zI (f_V_priceOf (sI h 128 6 ((hI h 128 6) + 1)) v x4), zF (hF h 128 7), zR (some 128)] (sI h 128 6 ((hI h 128 6) + 1)) = gd (zn32 (FP.fdiv (FP.i2f (Int32.ofInt (f_V_priceOf (sI h 128 6 ((hI h 128 6) + 1)) v x4))) 1092616192) = true) (gd (zn32 (FP.fadd (hF h 128 7) (FP.fdiv (FP.i2f (Int32.ofInt (f_V_priceOf (sI h 128 6 ((hI h 128 6) + 1)) v x4))) 1092616192)) = true) (gd (zob (sI h 128 6 ((hI h 128 6) + 1)) (some 128) 6) (if x4 = x2 then zY 68 86 [some (zR (some 128)), some (zI x1), some (zI x2), some (zI x3), some (zI x4), some (zI x5), none] [] (sF (sI h 128 6 ((hI h 128 6) + 1)) 128 7 (FP.fadd (hF h 128 7) (FP.fdiv (FP.i2f (Int32.ofInt (f_V_priceOf (sI h 128 6 ((hI h 128 6) + 1)) v x4))) 1092616192))) else zY 68 100 [some (zR (some 128)), some (zI x1), some (zI x2), some (zI x3), some (zI x4), some (zI x5), none] [] (sF (sI h 128 6 ((hI h 128 6) + 1)) 128 7 (FP.fadd (hF h 128 7) (FP.fdiv (FP.i2f (Int32.ofInt (f_V_priceOf (sI h 128 6 ((hI h 128 6) + 1)) v x4))) 1092616192)))))) from zGo 8 68 72 _ _ _).trans ?_
      refine gd_c Iff.rfl (fun c3 => ?_)
      refine gd_c Iff.rfl (fun c4 => ?_)
      refine (gd_t (⟨rfl, (PTC KC 128 _ rfl rfl), (PNC KC 128 rfl)⟩) _).trans ?_
      refine iteC (fun c5 => ?_) (fun c5 => ?_)
      · skip
        refine (show zY 68 86 [some (zR (some 128)), some (zI x1), some (zI x2), some (zI x3), some (zI x4), some (zI x5), none] [] (sF (sI h 128 6 ((hI h 128 6) + 1)) 128 7 (FP.fadd (hF h 128 7) (FP.fdiv (FP.i2f (Int32.ofInt (f_V_priceOf (sI h 128 6 ((hI h 128 6) + 1)) v x4))) 1092616192))) = gd (zob (sF (sI h 128 6 ((hI h 128 6) + 1)) 128 7 (FP.fadd (hF h 128 7) (FP.fdiv (FP.i2f (Int32.ofInt (f_V_priceOf (sI h 128 6 ((hI h 128 6) + 1)) v x4))) 1092616192))) (some 128) 6) (zY 68 91 [some (zR (some 128)), some (zI x1), some (zI x2), some (zI x3), some (zI x4), some (zI x5), none] [zR (hR h 128 0), zR (some 128)] (sF (sI h 128 6 ((hI h 128 6) + 1)) 128 7 (FP.fadd (hF h 128 7) (FP.fdiv (FP.i2f (Int32.ofInt (f_V_priceOf (sI h 128 6 ((hI h 128 6) + 1)) v x4))) 1092616192)))) from zGo 3 68 86 _ _ _).trans ?_
        refine (gd_t (⟨rfl, (PTC KC 128 _ rfl rfl), (PNC KC 128 rfl)⟩) _).trans ?_
        refine (congrArg (fun r => zY 68 91 [some (zR (some 128)), some (zI x1), some (zI x2), some (zI x3), some (zI x4), some (zI x5), none] (zR r :: zR (some 128) :: []) (sF (sI h 128 6 ((hI h 128 6) + 1)) 128 7 (FP.fadd (hF h 128 7) (FP.fdiv (FP.i2f (Int32.ofInt (f_V_priceOf (sI h 128 6 ((hI h 128 6) + 1)) v x4))) 1092616192)))) (PRC KC 128 0 _ rfl)).trans ?_
        refine (show zY 68 91 [some (zR (some 128)), some (zI x1), some (zI x2), some (zI x3), some (zI x4), some (zI x5), none] [zR (some 90), zR (some 128)] (sF (sI h 128 6 ((hI h 128 6) + 1)) 128 7 (FP.fadd (hF h 128 7) (FP.fdiv (FP.i2f (Int32.ofInt (f_V_priceOf (sI h 128 6 ((hI h 128 6) + 1)) v x4))) 1092616192))) = gd (false = zctor 102 ∧ zcs [zR (some 128)] ≤ 8 ∧ zrm 68 (zrf 102 + 1) (8 + (zmaxl 102 + 11) + zrl 102) = true ∧ zcs [zR (some 90), zI x4, zI x3] ≤ zmaxl 102) (gd (zob (sF (sI h 128 6 ((hI h 128 6) + 1)) 128 7 (FP.fadd (hF h 128 7) (FP.fdiv (FP.i2f (Int32.ofInt (f_V_priceOf (sI h 128 6 ((hI h 128 6) + 1)) v x4))) 1092616192))) (some 90) 8) (zBack zY 68 94 97 [some (zR (some 128)), some (zI x1), some (zI x2), some (zI x3), some (zI x4), some (zI x5), none] [zR (some 128)] (zC 102 [zR (some 90), zI x4, zI x3] (sF (sI h 128 6 ((hI h 128 6) + 1)) 128 7 (FP.fadd (hF h 128 7) (FP.fdiv (FP.i2f (Int32.ofInt (f_V_priceOf (sI h 128 6 ((hI h 128 6) + 1)) v x4))) 1092616192)))))) from zGo 3 68 91 _ _ _).trans ?_
        refine (gd_t (⟨rfl, Nat.le_of_ble_eq_true rfl, rfl, Nat.le_of_ble_eq_true rfl⟩) _).trans ?_
        refine (gd_t (⟨rfl, (PTC KC 90 _ rfl rfl), (PNC KC 90 rfl)⟩) _).trans ?_
        refine (congrArg (zBack zY 68 94 97 [some (zR (some 128)), some (zI x1), some (zI x2), some (zI x3), some (zI x4), some (zI x5), none] [zR (some 128)]) (e_S_holdsIn (h := (sF (sI h 128 6 ((hI h 128 6) + 1)) 128 7 (FP.fadd (hF h 128 7) (FP.fdiv (FP.i2f (Int32.ofInt (f_V_priceOf (sI h 128 6 ((hI h 128 6) + 1)) v x4))) 1092616192)))) (KC_f KC (Fr_F (Fr_I (Fr_r [(128, some 6), (128, some 7)] _) rfl) rfl) rfl))).trans ?_
        refine (show zY 68 97 [some (zR (some 128)), some (zI x1), some (zI x2), some (zI x3), some (zI x4), some (zI x5), none] [zI (if b_S_holdsIn (sF (sI h 128 6 ((hI h 128 6) + 1)) 128 7 (FP.fadd (hF h 128 7) (FP.fdiv (FP.i2f (Int32.ofInt (f_V_priceOf (sI h 128 6 ((hI h 128 6) + 1)) v x4))) 1092616192))) x4 x3 then (1 : Int) else 0), zR (some 128)] (sF (sI h 128 6 ((hI h 128 6) + 1)) 128 7 (FP.fadd (hF h 128 7) (FP.fdiv (FP.i2f (Int32.ofInt (f_V_priceOf (sI h 128 6 ((hI h 128 6) + 1)) v x4))) 1092616192))) = gd (false = zctor 69 ∧ zcs [] ≤ 8 ∧ zrm 68 (zrf 69 + 1) (8 + (zmaxl 69 + 11) + zrl 69) = true ∧ zcs [zR (some 128), zI (if b_S_holdsIn (sF (sI h 128 6 ((hI h 128 6) + 1)) 128 7 (FP.fadd (hF h 128 7) (FP.fdiv (FP.i2f (Int32.ofInt (f_V_priceOf (sI h 128 6 ((hI h 128 6) + 1)) v x4))) 1092616192))) x4 x3 then (1 : Int) else 0)] ≤ zmaxl 69) (gd (zob (sF (sI h 128 6 ((hI h 128 6) + 1)) 128 7 (FP.fadd (hF h 128 7) (FP.fdiv (FP.i2f (Int32.ofInt (f_V_priceOf (sI h 128 6 ((hI h 128 6) + 1)) v x4))) 1092616192))) (some 128) 6) (zBack zY 68 97 100 [some (zR (some 128)), some (zI x1), some (zI x2), some (zI x3), some (zI x4), some (zI x5), none] [] (zC 69 [zR (some 128), zI (if b_S_holdsIn (sF (sI h 128 6 ((hI h 128 6) + 1)) 128 7 (FP.fadd (hF h 128 7) (FP.fdiv (FP.i2f (Int32.ofInt (f_V_priceOf (sI h 128 6 ((hI h 128 6) + 1)) v x4))) 1092616192))) x4 x3 then (1 : Int) else 0)] (sF (sI h 128 6 ((hI h 128 6) + 1)) 128 7 (FP.fadd (hF h 128 7) (FP.fdiv (FP.i2f (Int32.ofInt (f_V_priceOf (sI h 128 6 ((hI h 128 6) + 1)) v x4))) 1092616192)))))) from zGo 1 68 97 _ _ _).trans ?_
        refine (gd_t (⟨rfl, Nat.le_of_ble_eq_true rfl, rfl, Nat.le_of_ble_eq_true rfl⟩) _).trans ?_
        refine (gd_t (⟨rfl, (PTC KC 128 _ rfl rfl), (PNC KC 128 rfl)⟩) _).trans ?_
        rfl
      · skip
        refine (show zY 68 100 [some (zR (some 128)), some (zI x1), some (zI x2), some (zI x3), some (zI x4), some (zI x5), none] [] (sF (sI h 128 6 ((hI h 128 6) + 1)) 128 7 (FP.fadd (hF h 128 7) (FP.fdiv (FP.i2f (Int32.ofInt (f_V_priceOf (sI h 128 6 ((hI h 128 6) + 1)) v x4))) 1092616192))) = gd (false = zctor 70 ∧ zcs [] ≤ 8 ∧ zrm 68 (zrf 70 + 1) (8 + (zmaxl 70 + 11) + zrl 70) = true ∧ zcs [zR (some 128), zI x4, zI x3] ≤ zmaxl 70) (gd (zob (sF (sI h 128 6 ((hI h 128 6) + 1)) 128 7 (FP.fadd (hF h 128 7) (FP.fdiv (FP.i2f (Int32.ofInt (f_V_priceOf (sI h 128 6 ((hI h 128 6) + 1)) v x4))) 1092616192))) (some 128) 6) (zBack zY 68 104 107 [some (zR (some 128)), some (zI x1), some (zI x2), some (zI x3), some (zI x4), some (zI x5), none] [] (zC 70 [zR (some 128), zI x4, zI x3] (sF (sI h 128 6 ((hI h 128 6) + 1)) 128 7 (FP.fadd (hF h 128 7) (FP.fdiv (FP.i2f (Int32.ofInt (f_V_priceOf (sI h 128 6 ((hI h 128 6) + 1)) v x4))) 1092616192)))))) from zGo 4 68 100 _ _ _).trans ?_
        refine (gd_t (⟨rfl, Nat.le_of_ble_eq_true rfl, rfl, Nat.le_of_ble_eq_true rfl⟩) _).trans ?_
        refine (gd_t (⟨rfl, (PTC KC 128 _ rfl rfl), (PNC KC 128 rfl)⟩) _).trans ?_
        refine (congrArg (zBack zY 68 104 107 [some (zR (some 128)), some (zI x1), some (zI x2), some (zI x3), some (zI x4), some (zI x5), none] []) (e_R_statementBehind (h := (sF (sI h 128 6 ((hI h 128 6) + 1)) 128 7 (FP.fadd (hF h 128 7) (FP.fdiv (FP.i2f (Int32.ofInt (f_V_priceOf (sI h 128 6 ((hI h 128 6) + 1)) v x4))) 1092616192)))) (KC_f KC (Fr_F (Fr_I (Fr_r [(128, some 6), (128, some 7)] _) rfl) rfl) rfl) rp hp)).trans ?_
        refine (show zY 68 107 [some (zR (some 128)), some (zI x1), some (zI x2), some (zI x3), some (zI x4), some (zI x5), none] [zI (f_R_statementBehind (sF (sI h 128 6 ((hI h 128 6) + 1)) 128 7 (FP.fadd (hF h 128 7) (FP.fdiv (FP.i2f (Int32.ofInt (f_V_priceOf (sI h 128 6 ((hI h 128 6) + 1)) v x4))) 1092616192))) x4 x3 p)] (sF (sI h 128 6 ((hI h 128 6) + 1)) 128 7 (FP.fadd (hF h 128 7) (FP.fdiv (FP.i2f (Int32.ofInt (f_V_priceOf (sI h 128 6 ((hI h 128 6) + 1)) v x4))) 1092616192))) = gd (false = zctor 72 ∧ zcs [] ≤ 8 ∧ zrm 68 (zrf 72 + 1) (8 + (zmaxl 72 + 11) + zrl 72) = true ∧ zcs [zR (some 128), zI x4, zI x3] ≤ zmaxl 72) (gd (zob (sF (sI h 128 6 ((hI h 128 6) + 1)) 128 7 (FP.fadd (hF h 128 7) (FP.fdiv (FP.i2f (Int32.ofInt (f_V_priceOf (sI h 128 6 ((hI h 128 6) + 1)) v x4))) 1092616192))) (some 128) 6) (zBack zY 68 113 116 [some (zR (some 128)), some (zI x1), some (zI x2), some (zI x3), some (zI x4), some (zI x5), some (zI (f_R_statementBehind (sF (sI h 128 6 ((hI h 128 6) + 1)) 128 7 (FP.fadd (hF h 128 7) (FP.fdiv (FP.i2f (Int32.ofInt (f_V_priceOf (sI h 128 6 ((hI h 128 6) + 1)) v x4))) 1092616192))) x4 x3 p))] [] (zC 72 [zR (some 128), zI x4, zI x3] (sF (sI h 128 6 ((hI h 128 6) + 1)) 128 7 (FP.fadd (hF h 128 7) (FP.fdiv (FP.i2f (Int32.ofInt (f_V_priceOf (sI h 128 6 ((hI h 128 6) + 1)) v x4))) 1092616192)))))) from zGo 5 68 107 _ _ _).trans ?_
        refine (gd_t (⟨rfl, Nat.le_of_ble_eq_true rfl, rfl, Nat.le_of_ble_eq_true rfl⟩) _).trans ?_
        refine (gd_t (⟨rfl, (PTC KC 128 _ rfl rfl), (PNC KC 128 rfl)⟩) _).trans ?_
        refine (congrArg (zBack zY 68 113 116 [some (zR (some 128)), some (zI x1), some (zI x2), some (zI x3), some (zI x4), some (zI x5), some (zI (f_R_statementBehind (sF (sI h 128 6 ((hI h 128 6) + 1)) 128 7 (FP.fadd (hF h 128 7) (FP.fdiv (FP.i2f (Int32.ofInt (f_V_priceOf (sI h 128 6 ((hI h 128 6) + 1)) v x4))) 1092616192))) x4 x3 p))] []) (e_R_stateBehind (h := (sF (sI h 128 6 ((hI h 128 6) + 1)) 128 7 (FP.fadd (hF h 128 7) (FP.fdiv (FP.i2f (Int32.ofInt (f_V_priceOf (sI h 128 6 ((hI h 128 6) + 1)) v x4))) 1092616192)))) (KC_f KC (Fr_F (Fr_I (Fr_r [(128, some 6), (128, some 7)] _) rfl) rfl) rfl) rp hp (g0 c0 c1 c2 c3 c4 c5) (g1 c0 c1 c2 c3 c4 c5))).trans ?_
        refine (show zY 68 116 [some (zR (some 128)), some (zI x1), some (zI x2), some (zI x3), some (zI x4), some (zI x5), some (zI (f_R_statementBehind (sF (sI h 128 6 ((hI h 128 6) + 1)) 128 7 (FP.fadd (hF h 128 7) (FP.fdiv (FP.i2f (Int32.ofInt (f_V_priceOf (sI h 128 6 ((hI h 128 6) + 1)) v x4))) 1092616192))) x4 x3 p))] [zI (f_R_stateBehind (sF (sI h 128 6 ((hI h 128 6) + 1)) 128 7 (FP.fadd (hF h 128 7) (FP.fdiv (FP.i2f (Int32.ofInt (f_V_priceOf (sI h 128 6 ((hI h 128 6) + 1)) v x4))) 1092616192))) x4 x3 p)] (sF (sI h 128 6 ((hI h 128 6) + 1)) 128 7 (FP.fadd (hF h 128 7) (FP.fdiv (FP.i2f (Int32.ofInt (f_V_priceOf (sI h 128 6 ((hI h 128 6) + 1)) v x4))) 1092616192))) = gd (inR (x5 + 1)) (gd (inR (1)) (zY 68 34 [some (zR (some 128)), some (zI x1), some (zI x2), some (zI (f_R_stateBehind (sF (sI h 128 6 ((hI h 128 6) + 1)) 128 7 (FP.fadd (hF h 128 7) (FP.fdiv (FP.i2f (Int32.ofInt (f_V_priceOf (sI h 128 6 ((hI h 128 6) + 1)) v x4))) 1092616192))) x4 x3 p)), some (zI (f_R_statementBehind (sF (sI h 128 6 ((hI h 128 6) + 1)) 128 7 (FP.fadd (hF h 128 7) (FP.fdiv (FP.i2f (Int32.ofInt (f_V_priceOf (sI h 128 6 ((hI h 128 6) + 1)) v x4))) 1092616192))) x4 x3 p)), some (zI (x5 + 1)), some (zI (f_R_statementBehind (sF (sI h 128 6 ((hI h 128 6) + 1)) 128 7 (FP.fadd (hF h 128 7) (FP.fdiv (FP.i2f (Int32.ofInt (f_V_priceOf (sI h 128 6 ((hI h 128 6) + 1)) v x4))) 1092616192))) x4 x3 p))] [] (sF (sI h 128 6 ((hI h 128 6) + 1)) 128 7 (FP.fadd (hF h 128 7) (FP.fdiv (FP.i2f (Int32.ofInt (f_V_priceOf (sI h 128 6 ((hI h 128 6) + 1)) v x4))) 1092616192))))) from zGo 5 68 116 _ _ _).trans ?_
        refine gd_c Iff.rfl (fun c6 => ?_)
        refine (gd_t (by decide) _).trans ?_
        rfl
  · skip
    refine (show zY 68 127 [some (zR (some 128)), some (zI x1), some (zI x2), some (zI x3), some (zI x4), some (zI x5), none] [] h = gd (([] : List zV).isEmpty = true ∧ zrk 68 = 0) (some (.inl (none), h)) from zGo 1 68 127 _ _ _).trans ?_
    refine (gd_t (⟨rfl, rfl⟩) _).trans ?_
    rfl
theorem q_R_follow_r100 {h : zH} {x1 : Int} {x2 : Int} {x3 : Int} {x4 : Int} {x5 : Int} {p : Nat} (KC : KC h) (rp : hR h 128 1 = some p) (hp : PS h p) (g0 : ((¬ (b_R_looksAtCondition h x4 p)) → (-2147483648 ≤ x4 * 64 ∧ x4 * 64 < 2147483648)) := by omega) (g1 : ((¬ (b_R_looksAtCondition h x4 p)) → (-2147483648 ≤ (x4 * 64) + x3 ∧ (x4 * 64) + x3 < 2147483648)) := by omega) : zBack zY 68 97 100 [some (zR (some 128)), some (zI x1), some (zI x2), some (zI x3), some (zI x4), some (zI x5), none] [] (some (.inl (none), h)) =
    gd (-2147483648 ≤ x5 + 1 ∧ x5 + 1 < 2147483648) (
    zY 68 34 [some (zR (some 128)), some (zI x1), some (zI x2), some (zI (f_R_stateBehind h x4 x3 p)), some (zI (f_R_statementBehind h x4 x3 p)), some (zI (x5 + 1)), some (zI (f_R_statementBehind h x4 x3 p))] [] h) := by
  refine (show zBack zY 68 97 100 [some (zR (some 128)), some (zI x1), some (zI x2), some (zI x3), some (zI x4), some (zI x5), none] [] (some (.inl (none), h)) = gd (false = zctor 70 ∧ zcs [] ≤ 8 ∧ zrm 68 (zrf 70 + 1) (8 + (zmaxl 70 + 11) + zrl 70) = true ∧ zcs [zR (some 128), zI x4, zI x3] ≤ zmaxl 70) (gd (zob h (some 128) 6) (zBack zY 68 104 107 [some (zR (some 128)), some (zI x1), some (zI x2), some (zI x3), some (zI x4), some (zI x5), none] [] (zC 70 [zR (some 128), zI x4, zI x3] h))) from zGo 4 68 100 _ _ _).trans ?_
  refine (gd_t (⟨rfl, Nat.le_of_ble_eq_true rfl, rfl, Nat.le_of_ble_eq_true rfl⟩) _).trans ?_
  refine (gd_t (⟨rfl, (PTC KC 128 _ rfl rfl), (PNC KC 128 rfl)⟩) _).trans ?_
  refine (congrArg (zBack zY 68 104 107 [some (zR (some 128)), some (zI x1), some (zI x2), some (zI x3), some (zI x4), some (zI x5), none] []) (e_R_statementBehind KC rp hp)).trans ?_
  refine (show zY 68 107 [some (zR (some 128)), some (zI x1), some (zI x2), some (zI x3), some (zI x4), some (zI x5), none] [zI (f_R_statementBehind h x4 x3 p)] h = gd (false = zctor 72 ∧ zcs [] ≤ 8 ∧ zrm 68 (zrf 72 + 1) (8 + (zmaxl 72 + 11) + zrl 72) = true ∧ zcs [zR (some 128), zI x4, zI x3] ≤ zmaxl 72) (gd (zob h (some 128) 6) (zBack zY 68 113 116 [some (zR (some 128)), some (zI x1), some (zI x2), some (zI x3), some (zI x4), some (zI x5), some (zI (f_R_statementBehind h x4 x3 p))] [] (zC 72 [zR (some 128), zI x4, zI x3] h))) from zGo 5 68 107 _ _ _).trans ?_
  refine (gd_t (⟨rfl, Nat.le_of_ble_eq_true rfl, rfl, Nat.le_of_ble_eq_true rfl⟩) _).trans ?_
  refine (gd_t (⟨rfl, (PTC KC 128 _ rfl rfl), (PNC KC 128 rfl)⟩) _).trans ?_
  refine (congrArg (zBack zY 68 113 116 [some (zR (some 128)), some (zI x1), some (zI x2), some (zI x3), some (zI x4), some (zI x5), some (zI (f_R_statementBehind h x4 x3 p))] []) (e_R_stateBehind KC rp hp (g0) (g1))).trans ?_
  refine (show zY 68 116 [some (zR (some 128)), some (zI x1), some (zI x2), some (zI x3), some (zI x4), some (zI x5), some (zI (f_R_statementBehind h x4 x3 p))] [zI (f_R_stateBehind h x4 x3 p)] h = gd (inR (x5 + 1)) (gd (inR (1)) (zY 68 34 [some (zR (some 128)), some (zI x1), some (zI x2), some (zI (f_R_stateBehind h x4 x3 p)), some (zI (f_R_statementBehind h x4 x3 p)), some (zI (x5 + 1)), some (zI (f_R_statementBehind h x4 x3 p))] [] h)) from zGo 5 68 116 _ _ _).trans ?_
  refine gd_c Iff.rfl (fun c0 => ?_)
  refine (gd_t (by decide) _).trans ?_
  rfl
theorem q_R_stepsFrom {h : zH} {x1 : Int} (KC : KC h) : zC 75 [zR (some 128), zI x1] h =
    zBack zY 75 2 5 [some (zR (some 128)), some (zI x1)] [] (zC 65 [zR (some 128), zI x1] h) := by
  refine (show zC 75 [zR (some 128), zI x1] h = gd (false = zctor 65 ∧ zcs [] ≤ 8 ∧ zrm 75 (zrf 65 + 1) (8 + (zmaxl 65 + 11) + zrl 65) = true ∧ zcs [zR (some 128), zI x1] ≤ zmaxl 65) (gd (zob h (some 128) 6) (zBack zY 75 2 5 [some (zR (some 128)), some (zI x1)] [] (zC 65 [zR (some 128), zI x1] h))) from zGo 3 75 0 _ _ _).trans ?_
  refine (gd_t (⟨rfl, Nat.le_of_ble_eq_true rfl, rfl, Nat.le_of_ble_eq_true rfl⟩) _).trans ?_
  refine (gd_t (⟨rfl, (PTC KC 128 _ rfl rfl), (PNC KC 128 rfl)⟩) _).trans ?_
  rfl
theorem q_R_stepsFrom_r5 {h : zH} {x1 : Int} {y : Int} (KC : KC h) : zBack zY 75 2 5 [some (zR (some 128)), some (zI x1)] [] (some (.inl (some (zI y)), h)) =
    if y = (-1) then
      some (.inl (some (zI (-1))), h)
    else
      zBack zY 75 14 17 [some (zR (some 128)), some (zI x1)] [] (zC 68 [zR (some 128), zI x1, zI (-1)] h) := by
  refine (show zBack zY 75 2 5 [some (zR (some 128)), some (zI x1)] [] (some (.inl (some (zI y)), h)) = gd (inR (-1)) (if y = (-1) then zY 75 9 [some (zR (some 128)), some (zI x1)] [] h else zY 75 11 [some (zR (some 128)), some (zI x1)] [] h) from zGo 2 75 5 _ _ _).trans ?_
  refine (gd_t (by decide) _).trans ?_
  refine iteC (fun c0 => ?_) (fun c0 => ?_)
  · skip
    refine (show zY 75 9 [some (zR (some 128)), some (zI x1)] [] h = gd (inR (-1)) (gd (([] : List zV).isEmpty = true ∧ (zrk 75 = 1 ∨ zrk 75 = 6 ∧ (((-1) : Int) = 0 ∨ ((-1) : Int) = 1))) (some (.inl (some (zI (-1))), h))) from zGo 2 75 9 _ _ _).trans ?_
    refine (gd_t (by decide) _).trans ?_
    refine (gd_t (⟨rfl, Or.inl rfl⟩) _).trans ?_
    rfl
  · skip
    refine (show zY 75 11 [some (zR (some 128)), some (zI x1)] [] h = gd (inR (-1)) (gd (false = zctor 68 ∧ zcs [] ≤ 8 ∧ zrm 75 (zrf 68 + 1) (8 + (zmaxl 68 + 11) + zrl 68) = true ∧ zcs [zR (some 128), zI x1, zI (-1)] ≤ zmaxl 68) (gd (zob h (some 128) 6) (zBack zY 75 14 17 [some (zR (some 128)), some (zI x1)] [] (zC 68 [zR (some 128), zI x1, zI (-1)] h)))) from zGo 4 75 11 _ _ _).trans ?_
    refine (gd_t (by decide) _).trans ?_
    refine (gd_t (⟨rfl, Nat.le_of_ble_eq_true rfl, rfl, Nat.le_of_ble_eq_true rfl⟩) _).trans ?_
    refine (gd_t (⟨rfl, (PTC KC 128 _ rfl rfl), (PNC KC 128 rfl)⟩) _).trans ?_
    rfl
theorem q_R_stepsFrom_r17 {h : zH} {x1 : Int} (KC : KC h) : zBack zY 75 14 17 [some (zR (some 128)), some (zI x1)] [] (some (.inl (none), h)) =
    some (.inl (some (zI (hI h 128 6))), h) := by
  refine (show zBack zY 75 14 17 [some (zR (some 128)), some (zI x1)] [] (some (.inl (none), h)) = gd (zob h (some 128) 6) (gd (([] : List zV).isEmpty = true ∧ (zrk 75 = 1 ∨ zrk 75 = 6 ∧ (((hI h 128 6) : Int) = 0 ∨ ((hI h 128 6) : Int) = 1))) (some (.inl (some (zI (hI h 128 6))), h))) from zGo 3 75 17 _ _ _).trans ?_
  refine (gd_t (⟨rfl, (PTC KC 128 _ rfl rfl), (PNC KC 128 rfl)⟩) _).trans ?_
  refine (gd_t (⟨rfl, Or.inl rfl⟩) _).trans ?_
  rfl
theorem q_R_costFrom {h : zH} {x1 : Int} (KC : KC h) : zC 76 [zR (some 128), zI x1] h =
    zBack zY 76 2 5 [some (zR (some 128)), some (zI x1)] [] (zC 65 [zR (some 128), zI x1] h) := by
  refine (show zC 76 [zR (some 128), zI x1] h = gd (false = zctor 65 ∧ zcs [] ≤ 8 ∧ zrm 76 (zrf 65 + 1) (8 + (zmaxl 65 + 11) + zrl 65) = true ∧ zcs [zR (some 128), zI x1] ≤ zmaxl 65) (gd (zob h (some 128) 6) (zBack zY 76 2 5 [some (zR (some 128)), some (zI x1)] [] (zC 65 [zR (some 128), zI x1] h))) from zGo 3 76 0 _ _ _).trans ?_
  refine (gd_t (⟨rfl, Nat.le_of_ble_eq_true rfl, rfl, Nat.le_of_ble_eq_true rfl⟩) _).trans ?_
  refine (gd_t (⟨rfl, (PTC KC 128 _ rfl rfl), (PNC KC 128 rfl)⟩) _).trans ?_
  rfl
theorem q_R_costFrom_r5 {h : zH} {x1 : Int} {y : Int} (KC : KC h) : zBack zY 76 2 5 [some (zR (some 128)), some (zI x1)] [] (some (.inl (some (zI y)), h)) =
    if y = (-1) then
      some (.inl (some (zF 3212836864)), h)
    else
      zBack zY 76 15 18 [some (zR (some 128)), some (zI x1)] [] (zC 68 [zR (some 128), zI x1, zI (-1)] h) := by
  refine (show zBack zY 76 2 5 [some (zR (some 128)), some (zI x1)] [] (some (.inl (some (zI y)), h)) = gd (inR (-1)) (if y = (-1) then zY 76 9 [some (zR (some 128)), some (zI x1)] [] h else zY 76 12 [some (zR (some 128)), some (zI x1)] [] h) from zGo 2 76 5 _ _ _).trans ?_
  refine (gd_t (by decide) _).trans ?_
  refine iteC (fun c0 => ?_) (fun c0 => ?_)
  · skip
    refine (show zY 76 9 [some (zR (some 128)), some (zI x1)] [] h = gd (([] : List zV).isEmpty = true ∧ zrk 76 = 3) (some (.inl (some (zF 3212836864)), h)) from zGo 2 76 9 _ _ _).trans ?_
    refine (gd_t (⟨rfl, rfl⟩) _).trans ?_
    rfl
  · skip
    refine (show zY 76 12 [some (zR (some 128)), some (zI x1)] [] h = gd (inR (-1)) (gd (false = zctor 68 ∧ zcs [] ≤ 8 ∧ zrm 76 (zrf 68 + 1) (8 + (zmaxl 68 + 11) + zrl 68) = true ∧ zcs [zR (some 128), zI x1, zI (-1)] ≤ zmaxl 68) (gd (zob h (some 128) 6) (zBack zY 76 15 18 [some (zR (some 128)), some (zI x1)] [] (zC 68 [zR (some 128), zI x1, zI (-1)] h)))) from zGo 4 76 12 _ _ _).trans ?_
    refine (gd_t (by decide) _).trans ?_
    refine (gd_t (⟨rfl, Nat.le_of_ble_eq_true rfl, rfl, Nat.le_of_ble_eq_true rfl⟩) _).trans ?_
    refine (gd_t (⟨rfl, (PTC KC 128 _ rfl rfl), (PNC KC 128 rfl)⟩) _).trans ?_
    rfl
theorem q_R_costFrom_r18 {h : zH} {x1 : Int} (KC : KC h) : zBack zY 76 15 18 [some (zR (some 128)), some (zI x1)] [] (some (.inl (none), h)) =
    some (.inl (some (zF (hF h 128 7))), h) := by
  refine (show zBack zY 76 15 18 [some (zR (some 128)), some (zI x1)] [] (some (.inl (none), h)) = gd (zob h (some 128) 6) (gd (([] : List zV).isEmpty = true ∧ zrk 76 = 3) (some (.inl (some (zF (hF h 128 7))), h))) from zGo 3 76 18 _ _ _).trans ?_
  refine (gd_t (⟨rfl, (PTC KC 128 _ rfl rfl), (PNC KC 128 rfl)⟩) _).trans ?_
  refine (gd_t (⟨rfl, rfl⟩) _).trans ?_
  rfl
theorem q_R_dearestState {h : zH} (KC : KC h) : zC 66 [zR (some 128)] h =
    zY 66 7 [some (zR (some 128)), some (zI (-1)), some (zF 3212836864), some (zI 0)] [] h := by
  refine (show zC 66 [zR (some 128)] h = gd (inR (-1)) (gd (inR (0)) (zY 66 7 [some (zR (some 128)), some (zI (-1)), some (zF 3212836864), some (zI 0)] [] h)) from zGo 6 66 0 _ _ _).trans ?_
  refine (gd_t (by decide) _).trans ?_
  refine (gd_t (by decide) _).trans ?_
  rfl
theorem q_R_dearestState_7 {h : zH} {x1 : Int} {x2 : UInt32} {x3 : Int} (KC : KC h) : zY 66 7 [some (zR (some 128)), some (zI x1), some (zF x2), some (zI x3)] [] h =
    if x3 < 64 then
      zBack zY 66 15 18 [some (zR (some 128)), some (zI x1), some (zF x2), some (zI x3)] [] (zC 67 [zR (some 128), zI x3] h)
    else
      some (.inl (some (zI x1)), h) := by
  refine (show zY 66 7 [some (zR (some 128)), some (zI x1), some (zF x2), some (zI x3)] [] h = gd (-128 ≤ (64 : Int) ∧ (64 : Int) < 128) (if x3 < 64 then zY 66 13 [some (zR (some 128)), some (zI x1), some (zF x2), some (zI x3)] [] h else zY 66 49 [some (zR (some 128)), some (zI x1), some (zF x2), some (zI x3)] [] h) from zGo 3 66 7 _ _ _).trans ?_
  refine (gd_t (by decide) _).trans ?_
  refine iteC (fun c0 => ?_) (fun c0 => ?_)
  · skip
    refine (show zY 66 13 [some (zR (some 128)), some (zI x1), some (zF x2), some (zI x3)] [] h = gd (false = zctor 67 ∧ zcs [] ≤ 8 ∧ zrm 66 (zrf 67 + 1) (8 + (zmaxl 67 + 11) + zrl 67) = true ∧ zcs [zR (some 128), zI x3] ≤ zmaxl 67) (gd (zob h (some 128) 6) (zBack zY 66 15 18 [some (zR (some 128)), some (zI x1), some (zF x2), some (zI x3)] [] (zC 67 [zR (some 128), zI x3] h))) from zGo 3 66 13 _ _ _).trans ?_
    refine (gd_t (⟨rfl, Nat.le_of_ble_eq_true rfl, rfl, Nat.le_of_ble_eq_true rfl⟩) _).trans ?_
    refine (gd_t (⟨rfl, (PTC KC 128 _ rfl rfl), (PNC KC 128 rfl)⟩) _).trans ?_
    rfl
  · skip
    refine (show zY 66 49 [some (zR (some 128)), some (zI x1), some (zF x2), some (zI x3)] [] h = gd (([] : List zV).isEmpty = true ∧ (zrk 66 = 1 ∨ zrk 66 = 6 ∧ ((x1 : Int) = 0 ∨ (x1 : Int) = 1))) (some (.inl (some (zI x1)), h)) from zGo 2 66 49 _ _ _).trans ?_
    refine (gd_t (⟨rfl, Or.inl rfl⟩) _).trans ?_
    rfl
theorem q_R_dearestState_r18 {h : zH} {x1 : Int} {x2 : UInt32} {x3 : Int} {y : Int} (KC : KC h) : zBack zY 66 15 18 [some (zR (some 128)), some (zI x1), some (zF x2), some (zI x3)] [] (some (.inl (some (zI y)), h)) =
    if y = 0 then
      gd (-2147483648 ≤ x3 + 1 ∧ x3 + 1 < 2147483648) (
      zY 66 7 [some (zR (some 128)), some (zI x1), some (zF x2), some (zI (x3 + 1))] [] h)
    else
      zBack zY 66 24 27 [some (zR (some 128)), some (zI x1), some (zF x2), some (zI x3)] [] (zC 68 [zR (some 128), zI x3, zI (-1)] h) := by
  refine (show zBack zY 66 15 18 [some (zR (some 128)), some (zI x1), some (zF x2), some (zI x3)] [] (some (.inl (some (zI y)), h)) = if y = 0 then zY 66 43 [some (zR (some 128)), some (zI x1), some (zF x2), some (zI x3)] [] h else zY 66 21 [some (zR (some 128)), some (zI x1), some (zF x2), some (zI x3)] [] h from zGo 1 66 18 _ _ _).trans ?_
  refine iteC (fun c0 => ?_) (fun c0 => ?_)
  · skip
    refine (show zY 66 43 [some (zR (some 128)), some (zI x1), some (zF x2), some (zI x3)] [] h = gd (inR (x3 + 1)) (gd (inR (1)) (zY 66 7 [some (zR (some 128)), some (zI x1), some (zF x2), some (zI (x3 + 1))] [] h)) from zGo 2 66 43 _ _ _).trans ?_
    refine gd_c Iff.rfl (fun c1 => ?_)
    refine (gd_t (by decide) _).trans ?_
    rfl
  · skip
    refine (show zY 66 21 [some (zR (some 128)), some (zI x1), some (zF x2), some (zI x3)] [] h = gd (inR (-1)) (gd (false = zctor 68 ∧ zcs [] ≤ 8 ∧ zrm 66 (zrf 68 + 1) (8 + (zmaxl 68 + 11) + zrl 68) = true ∧ zcs [zR (some 128), zI x3, zI (-1)] ≤ zmaxl 68) (gd (zob h (some 128) 6) (zBack zY 66 24 27 [some (zR (some 128)), some (zI x1), some (zF x2), some (zI x3)] [] (zC 68 [zR (some 128), zI x3, zI (-1)] h)))) from zGo 4 66 21 _ _ _).trans ?_
    refine (gd_t (by decide) _).trans ?_
    refine (gd_t (⟨rfl, Nat.le_of_ble_eq_true rfl, rfl, Nat.le_of_ble_eq_true rfl⟩) _).trans ?_
    refine (gd_t (⟨rfl, (PTC KC 128 _ rfl rfl), (PNC KC 128 rfl)⟩) _).trans ?_
    rfl
theorem q_R_dearestState_r27 {h : zH} {x1 : Int} {x2 : UInt32} {x3 : Int} (KC : KC h) : zBack zY 66 24 27 [some (zR (some 128)), some (zI x1), some (zF x2), some (zI x3)] [] (some (.inl (none), h)) =
    if 0 < (Op.cmpValue (FP.fcmp (hF h 128 7) x2) .l).toInt then
      gd (-2147483648 ≤ x3 + 1 ∧ x3 + 1 < 2147483648) (
      zY 66 7 [some (zR (some 128)), some (zI x3), some (zF (hF h 128 7)), some (zI (x3 + 1))] [] h)
    else
      gd (-2147483648 ≤ x3 + 1 ∧ x3 + 1 < 2147483648) (
      zY 66 7 [some (zR (some 128)), some (zI x1), some (zF x2), some (zI (x3 + 1))] [] h) := by
  refine (show zBack zY 66 24 27 [some (zR (some 128)), some (zI x1), some (zF x2), some (zI x3)] [] (some (.inl (none), h)) = gd (zob h (some 128) 6) (if 0 < (Op.cmpValue (FP.fcmp (hF h 128 7) x2) .l).toInt then zY 66 36 [some (zR (some 128)), some (zI x1), some (zF x2), some (zI x3)] [] h else zY 66 43 [some (zR (some 128)), some (zI x1), some (zF x2), some (zI x3)] [] h) from zGo 5 66 27 _ _ _).trans ?_
  refine (gd_t (⟨rfl, (PTC KC 128 _ rfl rfl), (PNC KC 128 rfl)⟩) _).trans ?_
  refine iteC (fun c0 => ?_) (fun c0 => ?_)
  · skip
    refine (show zY 66 36 [some (zR (some 128)), some (zI x1), some (zF x2), some (zI x3)] [] h = gd (zob h (some 128) 6) (gd (inR (x3 + 1)) (gd (inR (1)) (zY 66 7 [some (zR (some 128)), some (zI x3), some (zF (hF h 128 7)), some (zI (x3 + 1))] [] h))) from zGo 7 66 36 _ _ _).trans ?_
    refine (gd_t (⟨rfl, (PTC KC 128 _ rfl rfl), (PNC KC 128 rfl)⟩) _).trans ?_
    refine gd_c Iff.rfl (fun c1 => ?_)
    refine (gd_t (by decide) _).trans ?_
    rfl
  · skip
    refine (show zY 66 43 [some (zR (some 128)), some (zI x1), some (zF x2), some (zI x3)] [] h = gd (inR (x3 + 1)) (gd (inR (1)) (zY 66 7 [some (zR (some 128)), some (zI x1), some (zF x2), some (zI (x3 + 1))] [] h)) from zGo 2 66 43 _ _ _).trans ?_
    refine gd_c Iff.rfl (fun c2 => ?_)
    refine (gd_t (by decide) _).trans ?_
    rfl
theorem q_R_mean {h : zH} (KC : KC h) : zC 73 [zR (some 128)] h =
    zY 73 7 [some (zR (some 128)), some (zD FP.dconst0), none, some (zI 0), some (zI 0)] [] h := by
  refine (show zC 73 [zR (some 128)] h = gd (inR (0)) (gd (inR (0)) (zY 73 7 [some (zR (some 128)), some (zD FP.dconst0), none, some (zI 0), some (zI 0)] [] h)) from zGo 6 73 0 _ _ _).trans ?_
  refine (gd_t (by decide) _).trans ?_
  refine (gd_t (by decide) _).trans ?_
  rfl
theorem q_R_mean_7 {h : zH} {x1 : UInt64} {x3 : Int} {x4 : Int} (KC : KC h) : zY 73 7 [some (zR (some 128)), some (zD x1), none, some (zI x3), some (zI x4)] [] h =
    if x4 < 64 then
      zBack zY 73 17 20 [some (zR (some 128)), some (zD x1), none, some (zI x3), some (zI x4)] [] (zC 67 [zR (some 128), zI x4] h)
    else
      if x3 = 0 then
        some (.inl (some (zD FP.dconst0)), h)
      else
        gd (zn64 (FP.ddiv x1 (FP.i2d (Int32.ofInt x3))) = true) (
        some (.inl (some (zD (FP.ddiv x1 (FP.i2d (Int32.ofInt x3))))), h)) := by
  refine (show zY 73 7 [some (zR (some 128)), some (zD x1), none, some (zI x3), some (zI x4)] [] h = gd (-128 ≤ (64 : Int) ∧ (64 : Int) < 128) (if x4 < 64 then zY 73 14 [some (zR (some 128)), some (zD x1), none, some (zI x3), some (zI x4)] [] h else zY 73 47 [some (zR (some 128)), some (zD x1), none, some (zI x3), some (zI x4)] [] h) from zGo 3 73 7 _ _ _).trans ?_
  refine (gd_t (by decide) _).trans ?_
  refine iteC (fun c0 => ?_) (fun c0 => ?_)
  · skip
    refine (show zY 73 14 [some (zR (some 128)), some (zD x1), none, some (zI x3), some (zI x4)] [] h = gd (false = zctor 67 ∧ zcs [] ≤ 8 ∧ zrm 73 (zrf 67 + 1) (8 + (zmaxl 67 + 11) + zrl 67) = true ∧ zcs [zR (some 128), zI x4] ≤ zmaxl 67) (gd (zob h (some 128) 6) (zBack zY 73 17 20 [some (zR (some 128)), some (zD x1), none, some (zI x3), some (zI x4)] [] (zC 67 [zR (some 128), zI x4] h))) from zGo 3 73 14 _ _ _).trans ?_
    refine (gd_t (⟨rfl, Nat.le_of_ble_eq_true rfl, rfl, Nat.le_of_ble_eq_true rfl⟩) _).trans ?_
    refine (gd_t (⟨rfl, (PTC KC 128 _ rfl rfl), (PNC KC 128 rfl)⟩) _).trans ?_
    rfl
  · skip
    refine (show zY 73 47 [some (zR (some 128)), some (zD x1), none, some (zI x3), some (zI x4)] [] h = if x3 = 0 then zY 73 51 [some (zR (some 128)), some (zD x1), none, some (zI x3), some (zI x4)] [] h else zY 73 55 [some (zR (some 128)), some (zD x1), none, some (zI x3), some (zI x4)] [] h from zGo 2 73 47 _ _ _).trans ?_
    refine iteC (fun c1 => ?_) (fun c1 => ?_)
    · skip
      refine (show zY 73 51 [some (zR (some 128)), some (zD x1), none, some (zI x3), some (zI x4)] [] h = gd (([] : List zV).isEmpty = true ∧ zrk 73 = 4) (some (.inl (some (zD FP.dconst0)), h)) from zGo 3 73 51 _ _ _).trans ?_
      refine (gd_t (⟨rfl, rfl⟩) _).trans ?_
      rfl
    · skip
      refine (show zY 73 55 [some (zR (some 128)), some (zD x1), none, some (zI x3), some (zI x4)] [] h = gd (zn64 (FP.ddiv x1 (FP.i2d (Int32.ofInt x3))) = true) (gd (([] : List zV).isEmpty = true ∧ zrk 73 = 4) (some (.inl (some (zD (FP.ddiv x1 (FP.i2d (Int32.ofInt x3))))), h))) from zGo 5 73 55 _ _ _).trans ?_
      refine gd_c Iff.rfl (fun c2 => ?_)
      refine (gd_t (⟨rfl, rfl⟩) _).trans ?_
      rfl
theorem q_R_mean_r20 {h : zH} {x1 : UInt64} {x3 : Int} {x4 : Int} {y : Int} (KC : KC h) : zBack zY 73 17 20 [some (zR (some 128)), some (zD x1), none, some (zI x3), some (zI x4)] [] (some (.inl (some (zI y)), h)) =
    if y = 0 then
      gd (-2147483648 ≤ x4 + 1 ∧ x4 + 1 < 2147483648) (
      zY 73 7 [some (zR (some 128)), some (zD x1), none, some (zI x3), some (zI (x4 + 1))] [] h)
    else
      zBack zY 73 27 30 [some (zR (some 128)), some (zD x1), none, some (zI x3), some (zI x4)] [] (zC 68 [zR (some 128), zI x4, zI (-1)] h) := by
  refine (show zBack zY 73 17 20 [some (zR (some 128)), some (zD x1), none, some (zI x3), some (zI x4)] [] (some (.inl (some (zI y)), h)) = if y = 0 then zY 73 41 [some (zR (some 128)), some (zD x1), none, some (zI x3), some (zI x4)] [] h else zY 73 23 [some (zR (some 128)), some (zD x1), none, some (zI x3), some (zI x4)] [] h from zGo 1 73 20 _ _ _).trans ?_
  refine iteC (fun c0 => ?_) (fun c0 => ?_)
  · skip
    refine (show zY 73 41 [some (zR (some 128)), some (zD x1), none, some (zI x3), some (zI x4)] [] h = gd (inR (x4 + 1)) (gd (inR (1)) (zY 73 7 [some (zR (some 128)), some (zD x1), none, some (zI x3), some (zI (x4 + 1))] [] h)) from zGo 2 73 41 _ _ _).trans ?_
    refine gd_c Iff.rfl (fun c1 => ?_)
    refine (gd_t (by decide) _).trans ?_
    rfl
  · skip
    refine (show zY 73 23 [some (zR (some 128)), some (zD x1), none, some (zI x3), some (zI x4)] [] h = gd (inR (-1)) (gd (false = zctor 68 ∧ zcs [] ≤ 8 ∧ zrm 73 (zrf 68 + 1) (8 + (zmaxl 68 + 11) + zrl 68) = true ∧ zcs [zR (some 128), zI x4, zI (-1)] ≤ zmaxl 68) (gd (zob h (some 128) 6) (zBack zY 73 27 30 [some (zR (some 128)), some (zD x1), none, some (zI x3), some (zI x4)] [] (zC 68 [zR (some 128), zI x4, zI (-1)] h)))) from zGo 4 73 23 _ _ _).trans ?_
    refine (gd_t (by decide) _).trans ?_
    refine (gd_t (⟨rfl, Nat.le_of_ble_eq_true rfl, rfl, Nat.le_of_ble_eq_true rfl⟩) _).trans ?_
    refine (gd_t (⟨rfl, (PTC KC 128 _ rfl rfl), (PNC KC 128 rfl)⟩) _).trans ?_
    rfl
theorem q_R_mean_r30 {h : zH} {x1 : UInt64} {x3 : Int} {x4 : Int} (KC : KC h) : zBack zY 73 27 30 [some (zR (some 128)), some (zD x1), none, some (zI x3), some (zI x4)] [] (some (.inl (none), h)) =
    gd (zn64 (FP.f2d (hF h 128 7)) = true) (
    gd (zn64 (FP.dadd x1 (FP.f2d (hF h 128 7))) = true) (
    gd (-2147483648 ≤ x3 + 1 ∧ x3 + 1 < 2147483648) (
    gd (-2147483648 ≤ x4 + 1 ∧ x4 + 1 < 2147483648) (
    zY 73 7 [some (zR (some 128)), some (zD (FP.dadd x1 (FP.f2d (hF h 128 7)))), none, some (zI (x3 + 1)), some (zI (x4 + 1))] [] h)))) := by
  refine (show zBack zY 73 27 30 [some (zR (some 128)), some (zD x1), none, some (zI x3), some (zI x4)] [] (some (.inl (none), h)) = gd (zob h (some 128) 6) (gd (zn64 (FP.f2d (hF h 128 7)) = true) (gd (zn64 (FP.dadd x1 (FP.f2d (hF h 128 7))) = true) (gd (inR (x3 + 1)) (gd (inR (1)) (gd (inR (x4 + 1)) (gd (inR (1)) (zY 73 7 [some (zR (some 128)), some (zD (FP.dadd x1 (FP.f2d (hF h 128 7)))), none, some (zI (x3 + 1)), some (zI (x4 + 1))] [] h))))))) from zGo 9 73 30 _ _ _).trans ?_
  refine (gd_t (⟨rfl, (PTC KC 128 _ rfl rfl), (PNC KC 128 rfl)⟩) _).trans ?_
  refine gd_c Iff.rfl (fun c0 => ?_)
  refine gd_c Iff.rfl (fun c1 => ?_)
  refine gd_c Iff.rfl (fun c2 => ?_)
  refine (gd_t (by decide) _).trans ?_
  refine gd_c Iff.rfl (fun c3 => ?_)
  refine (gd_t (by decide) _).trans ?_
  rfl
theorem q_R_takeUnseen {h : zH} {x1 : Int} {x2 : Int} (KC : KC h) : zC 79 [zR (some 128), zI x1, zI x2] h =
    if x1 < 0 then
      some (.inl (some (zI 0)), h)
    else
      if x1 < 24 then
        if b_S_has (hJ h 131 x1.toNat) x2 then
          some (.inl (some (zI 0)), h)
        else
          some (.inl (some (zI 1)), (sJ h 131 x1.toNat ((hJ h 131 x1.toNat) ||| (zlshl (1#64) x2))))
      else
        some (.inl (some (zI 0)), h) := by
  refine (show zC 79 [zR (some 128), zI x1, zI x2] h = if x1 < 0 then zY 79 23 [some (zR (some 128)), some (zI x1), some (zI x2)] [] h else zY 79 4 [some (zR (some 128)), some (zI x1), some (zI x2)] [] h from zGo 2 79 0 _ _ _).trans ?_
  refine iteC (fun c0 => ?_) (fun c0 => ?_)
  · skip
    refine (show zY 79 23 [some (zR (some 128)), some (zI x1), some (zI x2)] [] h = gd (inR (0)) (gd (([] : List zV).isEmpty = true ∧ (zrk 79 = 1 ∨ zrk 79 = 6 ∧ ((0 : Int) = 0 ∨ (0 : Int) = 1))) (some (.inl (some (zI 0)), h))) from zGo 2 79 23 _ _ _).trans ?_
    refine (gd_t (by decide) _).trans ?_
    refine (gd_t (⟨rfl, Or.inr ⟨rfl, by decide⟩⟩) _).trans ?_
    rfl
  · skip
    refine (show zY 79 4 [some (zR (some 128)), some (zI x1), some (zI x2)] [] h = gd (-128 ≤ (24 : Int) ∧ (24 : Int) < 128) (if x1 < 24 then zY 79 10 [some (zR (some 128)), some (zI x1), some (zI x2)] [] h else zY 79 23 [some (zR (some 128)), some (zI x1), some (zI x2)] [] h) from zGo 3 79 4 _ _ _).trans ?_
    refine (gd_t (by decide) _).trans ?_
    refine iteC (fun c1 => ?_) (fun c1 => ?_)
    · skip
      refine (show zY 79 10 [some (zR (some 128)), some (zI x1), some (zI x2)] [] h = gd (zob h (some 128) 6) (zY 79 14 [some (zR (some 128)), some (zI x1), some (zI x2)] [zR (hR h 128 5)] h) from zGo 2 79 10 _ _ _).trans ?_
      refine (gd_t (⟨rfl, (PTC KC 128 _ rfl rfl), (PNC KC 128 rfl)⟩) _).trans ?_
      refine (congrArg (fun r => zY 79 14 [some (zR (some 128)), some (zI x1), some (zI x2)] (zR r :: []) h) (PRC KC 128 5 _ rfl)).trans ?_
      refine (show zY 79 14 [some (zR (some 128)), some (zI x1), some (zI x2)] [zR (some 131)] h = gd (zok h (some 131) 23 x1) (gd (false = zctor 104 ∧ zcs [] ≤ 8 ∧ zrm 79 (zrf 104 + 1) (8 + (zmaxl 104 + 11) + zrl 104) = true ∧ zcs [zJ (hJ h 131 x1.toNat), zI x2] ≤ zmaxl 104) (zBack zY 79 17 20 [some (zR (some 128)), some (zI x1), some (zI x2)] [] (zC 104 [zJ (hJ h 131 x1.toNat), zI x2] h))) from zGo 4 79 14 _ _ _).trans ?_
      refine (gd_t ((ci (PTC KC 131 _ rfl rfl) (PLC KC 131 24 rfl rfl)).2 (by omega)) _).trans ?_
      refine (gd_t (⟨rfl, Nat.le_of_ble_eq_true rfl, rfl, Nat.le_of_ble_eq_true rfl⟩) _).trans ?_
      refine (congrArg (zBack zY 79 17 20 [some (zR (some 128)), some (zI x1), some (zI x2)] []) (e_S_has)).trans ?_
      refine (show zY 79 20 [some (zR (some 128)), some (zI x1), some (zI x2)] [zI (if b_S_has (hJ h 131 x1.toNat) x2 then (1 : Int) else 0)] h = if (if b_S_has (hJ h 131 x1.toNat) x2 then (1 : Int) else 0) = 0 then zY 79 25 [some (zR (some 128)), some (zI x1), some (zI x2)] [] h else zY 79 23 [some (zR (some 128)), some (zI x1), some (zI x2)] [] h from zGo 1 79 20 _ _ _).trans ?_
      refine iteB (fun c2 => ?_) (fun c2 => ?_)
      · skip
        refine (show zY 79 23 [some (zR (some 128)), some (zI x1), some (zI x2)] [] h = gd (inR (0)) (gd (([] : List zV).isEmpty = true ∧ (zrk 79 = 1 ∨ zrk 79 = 6 ∧ ((0 : Int) = 0 ∨ (0 : Int) = 1))) (some (.inl (some (zI 0)), h))) from zGo 2 79 23 _ _ _).trans ?_
        refine (gd_t (by decide) _).trans ?_
        refine (gd_t (⟨rfl, Or.inr ⟨rfl, by decide⟩⟩) _).trans ?_
        rfl
      · skip
        refine (show zY 79 25 [some (zR (some 128)), some (zI x1), some (zI x2)] [] h = gd (zob h (some 128) 6) (zY 79 29 [some (zR (some 128)), some (zI x1), some (zI x2)] [zR (hR h 128 5)] h) from zGo 2 79 25 _ _ _).trans ?_
        refine (gd_t (⟨rfl, (PTC KC 128 _ rfl rfl), (PNC KC 128 rfl)⟩) _).trans ?_
        refine (congrArg (fun r => zY 79 29 [some (zR (some 128)), some (zI x1), some (zI x2)] (zR r :: []) h) (PRC KC 128 5 _ rfl)).trans ?_
        refine (show zY 79 29 [some (zR (some 128)), some (zI x1), some (zI x2)] [zR (some 131)] h = gd (zok h (some 131) 23 x1) (gd (zokw h (some 131) 23 x1) (gd (inR (1)) (gd (([] : List zV).isEmpty = true ∧ (zrk 79 = 1 ∨ zrk 79 = 6 ∧ ((1 : Int) = 0 ∨ (1 : Int) = 1))) (some (.inl (some (zI 1)), (sJ h 131 x1.toNat ((hJ h 131 x1.toNat) ||| (zlshl (1#64) x2)))))))) from zGo 10 79 29 _ _ _).trans ?_
        refine (gd_t ((ci (PTC KC 131 _ rfl rfl) (PLC KC 131 24 rfl rfl)).2 (by (try simp only [b_S_has] at *); omega)) _).trans ?_
        refine (gd_t ((ciw (PTC KC 131 _ rfl rfl) (PNC KC 131 rfl) (PLC KC 131 24 rfl rfl)).2 (by (try simp only [b_S_has] at *); omega)) _).trans ?_
        refine (gd_t (by decide) _).trans ?_
        refine (gd_t (⟨rfl, Or.inr ⟨rfl, by decide⟩⟩) _).trans ?_
        rfl
    · skip
      refine (show zY 79 23 [some (zR (some 128)), some (zI x1), some (zI x2)] [] h = gd (inR (0)) (gd (([] : List zV).isEmpty = true ∧ (zrk 79 = 1 ∨ zrk 79 = 6 ∧ ((0 : Int) = 0 ∨ (0 : Int) = 1))) (some (.inl (some (zI 0)), h))) from zGo 2 79 23 _ _ _).trans ?_
      refine (gd_t (by decide) _).trans ?_
      refine (gd_t (⟨rfl, Or.inr ⟨rfl, by decide⟩⟩) _).trans ?_
      rfl
theorem q_R_metAt {h : zH} {x1 : Int} (KC : KC h) : zC 78 [zR (some 128), zI x1] h =
    zBack zY 78 5 8 [some (zR (some 128)), some (zI x1), none, none, none, none, none] [] (zC 228 [zR (some 131), zJ (0#64)] h) := by
  refine (show zC 78 [zR (some 128), zI x1] h = gd (zob h (some 128) 6) (zY 78 4 [some (zR (some 128)), some (zI x1), none, none, none, none, none] [zR (hR h 128 5)] h) from zGo 2 78 0 _ _ _).trans ?_
  refine (gd_t (⟨rfl, (PTC KC 128 _ rfl rfl), (PNC KC 128 rfl)⟩) _).trans ?_
  refine (congrArg (fun r => zY 78 4 [some (zR (some 128)), some (zI x1), none, none, none, none, none] (zR r :: []) h) (PRC KC 128 5 _ rfl)).trans ?_
  refine (show zY 78 4 [some (zR (some 128)), some (zI x1), none, none, none, none, none] [zR (some 131)] h = gd (false = zctor 228 ∧ zcs [] ≤ 8 ∧ zrm 78 (zrf 228 + 1) (8 + (zmaxl 228 + 11) + zrl 228) = true ∧ zcs [zR (some 131), zJ (0#64)] ≤ zmaxl 228) (zBack zY 78 5 8 [some (zR (some 128)), some (zI x1), none, none, none, none, none] [] (zC 228 [zR (some 131), zJ (0#64)] h)) from zGo 2 78 4 _ _ _).trans ?_
  refine (gd_t (⟨rfl, Nat.le_of_ble_eq_true rfl, rfl, Nat.le_of_ble_eq_true rfl⟩) _).trans ?_
  rfl
theorem q_R_metAt_r8 {h : zH} {x1 : Int} (KC : KC h) : zBack zY 78 5 8 [some (zR (some 128)), some (zI x1), none, none, none, none, none] [] (some (.inl (none), h)) =
    zY 78 10 [some (zR (some 128)), some (zI x1), some (zI 0), none, none, none, none] [] h := by
  refine (show zBack zY 78 5 8 [some (zR (some 128)), some (zI x1), none, none, none, none, none] [] (some (.inl (none), h)) = gd (inR (0)) (zY 78 10 [some (zR (some 128)), some (zI x1), some (zI 0), none, none, none, none] [] h) from zGo 2 78 8 _ _ _).trans ?_
  refine (gd_t (by decide) _).trans ?_
  rfl
theorem q_R_metAt_10 {h : zH} {x1 : Int} {x2 : Int} {p : Nat} (KC : KC h) (rp : hR h 128 1 = some p) (hp : PS h p) : zY 78 10 [some (zR (some 128)), some (zI x1), some (zI x2), none, none, none, none] [] h =
    if x2 < 64 then
      if b_S_has (hJ h 90 0) x2 then
        zY 78 48 [some (zR (some 128)), some (zI x1), some (zI x2), some (zI x2), some (zI (f_P_start h p)), some (zI 0), none] [] h
      else
        zY 78 48 [some (zR (some 128)), some (zI x1), some (zI x2), some (zI x2), some (zI (-1)), some (zI 0), none] [] h
    else
      if x1 < 0 then
        some (.inl (some (zJ (0#64))), h)
      else
        if x1 < 24 then
          some (.inl (some (zJ (hJ h 131 x1.toNat))), h)
        else
          some (.inl (some (zJ (0#64))), h) := by
  refine (show zY 78 10 [some (zR (some 128)), some (zI x1), some (zI x2), none, none, none, none] [] h = gd (-128 ≤ (64 : Int) ∧ (64 : Int) < 128) (if x2 < 64 then zY 78 16 [some (zR (some 128)), some (zI x1), some (zI x2), none, none, none, none] [] h else zY 78 99 [some (zR (some 128)), some (zI x1), some (zI x2), none, none, none, none] [] h) from zGo 3 78 10 _ _ _).trans ?_
  refine (gd_t (by decide) _).trans ?_
  refine iteC (fun c0 => ?_) (fun c0 => ?_)
  · skip
    refine (show zY 78 16 [some (zR (some 128)), some (zI x1), some (zI x2), none, none, none, none] [] h = gd (zob h (some 128) 6) (zY 78 22 [some (zR (some 128)), some (zI x1), some (zI x2), some (zI x2), none, none, none] [zR (hR h 128 0)] h) from zGo 4 78 16 _ _ _).trans ?_
    refine (gd_t (⟨rfl, (PTC KC 128 _ rfl rfl), (PNC KC 128 rfl)⟩) _).trans ?_
    refine (congrArg (fun r => zY 78 22 [some (zR (some 128)), some (zI x1), some (zI x2), some (zI x2), none, none, none] (zR r :: []) h) (PRC KC 128 0 _ rfl)).trans ?_
    refine (show zY 78 22 [some (zR (some 128)), some (zI x1), some (zI x2), some (zI x2), none, none, none] [zR (some 90)] h = gd (zob h (some 90) 8) (gd (false = zctor 104 ∧ zcs [] ≤ 8 ∧ zrm 78 (zrf 104 + 1) (8 + (zmaxl 104 + 11) + zrl 104) = true ∧ zcs [zJ (hJ h 90 0), zI x2] ≤ zmaxl 104) (zBack zY 78 26 29 [some (zR (some 128)), some (zI x1), some (zI x2), some (zI x2), none, none, none] [] (zC 104 [zJ (hJ h 90 0), zI x2] h))) from zGo 3 78 22 _ _ _).trans ?_
    refine (gd_t (⟨rfl, (PTC KC 90 _ rfl rfl), (PNC KC 90 rfl)⟩) _).trans ?_
    refine (gd_t (⟨rfl, Nat.le_of_ble_eq_true rfl, rfl, Nat.le_of_ble_eq_true rfl⟩) _).trans ?_
    refine (congrArg (zBack zY 78 26 29 [some (zR (some 128)), some (zI x1), some (zI x2), some (zI x2), none, none, none] []) (e_S_has)).trans ?_
    refine (show zY 78 29 [some (zR (some 128)), some (zI x1), some (zI x2), some (zI x2), none, none, none] [zI (if b_S_has (hJ h 90 0) x2 then (1 : Int) else 0)] h = if (if b_S_has (hJ h 90 0) x2 then (1 : Int) else 0) = 0 then zY 78 42 [some (zR (some 128)), some (zI x1), some (zI x2), some (zI x2), none, none, none] [] h else zY 78 32 [some (zR (some 128)), some (zI x1), some (zI x2), some (zI x2), none, none, none] [] h from zGo 1 78 29 _ _ _).trans ?_
    refine iteB (fun c1 => ?_) (fun c1 => ?_)
    · skip
      refine (show zY 78 32 [some (zR (some 128)), some (zI x1), some (zI x2), some (zI x2), none, none, none] [] h = gd (zob h (some 128) 6) (zY 78 36 [some (zR (some 128)), some (zI x1), some (zI x2), some (zI x2), none, none, none] [zR (hR h 128 1)] h) from zGo 2 78 32 _ _ _).trans ?_
      refine (gd_t (⟨rfl, (PTC KC 128 _ rfl rfl), (PNC KC 128 rfl)⟩) _).trans ?_
      refine (congrArg (fun r => zY 78 36 [some (zR (some 128)), some (zI x1), some (zI x2), some (zI x2), none, none, none] (zR r :: []) h) rp).trans ?_
      refine (show zY 78 36 [some (zR (some 128)), some (zI x1), some (zI x2), some (zI x2), none, none, none] [zR (some p)] h = gd (false = zctor 39 ∧ zcs [] ≤ 8 ∧ zrm 78 (zrf 39 + 1) (8 + (zmaxl 39 + 11) + zrl 39) = true ∧ zcs [zR (some p)] ≤ zmaxl 39) (gd (zob h (some p) 5) (zBack zY 78 36 39 [some (zR (some 128)), some (zI x1), some (zI x2), some (zI x2), none, none, none] [] (zC 39 [zR (some p)] h))) from zGo 1 78 36 _ _ _).trans ?_
      refine (gd_t (⟨rfl, Nat.le_of_ble_eq_true rfl, rfl, Nat.le_of_ble_eq_true rfl⟩) _).trans ?_
      refine (gd_t (⟨rfl, hp.1, (PS_n hp)⟩) _).trans ?_
      refine (congrArg (zBack zY 78 36 39 [some (zR (some 128)), some (zI x1), some (zI x2), some (zI x2), none, none, none] []) (e_P_start hp)).trans ?_
      refine (show zY 78 39 [some (zR (some 128)), some (zI x1), some (zI x2), some (zI x2), none, none, none] [zI (f_P_start h p)] h = gd (inR (0)) (zY 78 48 [some (zR (some 128)), some (zI x1), some (zI x2), some (zI x2), some (zI (f_P_start h p)), some (zI 0), none] [] h) from zGo 4 78 39 _ _ _).trans ?_
      refine (gd_t (by decide) _).trans ?_
      rfl
    · skip
      refine (show zY 78 42 [some (zR (some 128)), some (zI x1), some (zI x2), some (zI x2), none, none, none] [] h = gd (inR (-1)) (gd (inR (0)) (zY 78 48 [some (zR (some 128)), some (zI x1), some (zI x2), some (zI x2), some (zI (-1)), some (zI 0), none] [] h)) from zGo 4 78 42 _ _ _).trans ?_
      refine (gd_t (by decide) _).trans ?_
      refine (gd_t (by decide) _).trans ?_
      rfl
  · skip
    refine (show zY 78 99 [some (zR (some 128)), some (zI x1), some (zI x2), none, none, none, none] [] h = if x1 < 0 then zY 78 118 [some (zR (some 128)), some (zI x1), some (zI x2), none, none, none, none] [] h else zY 78 103 [some (zR (some 128)), some (zI x1), some (zI x2), none, none, none, none] [] h from zGo 2 78 99 _ _ _).trans ?_
    refine iteC (fun c2 => ?_) (fun c2 => ?_)
    · skip
      refine (show zY 78 118 [some (zR (some 128)), some (zI x1), some (zI x2), none, none, none, none] [] h = gd (([] : List zV).isEmpty = true ∧ zrk 78 = 2) (some (.inl (some (zJ (0#64))), h)) from zGo 2 78 118 _ _ _).trans ?_
      refine (gd_t (⟨rfl, rfl⟩) _).trans ?_
      rfl
    · skip
      refine (show zY 78 103 [some (zR (some 128)), some (zI x1), some (zI x2), none, none, none, none] [] h = gd (-128 ≤ (24 : Int) ∧ (24 : Int) < 128) (if x1 < 24 then zY 78 109 [some (zR (some 128)), some (zI x1), some (zI x2), none, none, none, none] [] h else zY 78 118 [some (zR (some 128)), some (zI x1), some (zI x2), none, none, none, none] [] h) from zGo 3 78 103 _ _ _).trans ?_
      refine (gd_t (by decide) _).trans ?_
      refine iteC (fun c3 => ?_) (fun c3 => ?_)
      · skip
        refine (show zY 78 109 [some (zR (some 128)), some (zI x1), some (zI x2), none, none, none, none] [] h = gd (zob h (some 128) 6) (zY 78 113 [some (zR (some 128)), some (zI x1), some (zI x2), none, none, none, none] [zR (hR h 128 5)] h) from zGo 2 78 109 _ _ _).trans ?_
        refine (gd_t (⟨rfl, (PTC KC 128 _ rfl rfl), (PNC KC 128 rfl)⟩) _).trans ?_
        refine (congrArg (fun r => zY 78 113 [some (zR (some 128)), some (zI x1), some (zI x2), none, none, none, none] (zR r :: []) h) (PRC KC 128 5 _ rfl)).trans ?_
        refine (show zY 78 113 [some (zR (some 128)), some (zI x1), some (zI x2), none, none, none, none] [zR (some 131)] h = gd (zok h (some 131) 23 x1) (gd (([] : List zV).isEmpty = true ∧ zrk 78 = 2) (some (.inl (some (zJ (hJ h 131 x1.toNat))), h))) from zGo 4 78 113 _ _ _).trans ?_
        refine (gd_t ((ci (PTC KC 131 _ rfl rfl) (PLC KC 131 24 rfl rfl)).2 (by omega)) _).trans ?_
        refine (gd_t (⟨rfl, rfl⟩) _).trans ?_
        rfl
      · skip
        refine (show zY 78 118 [some (zR (some 128)), some (zI x1), some (zI x2), none, none, none, none] [] h = gd (([] : List zV).isEmpty = true ∧ zrk 78 = 2) (some (.inl (some (zJ (0#64))), h)) from zGo 2 78 118 _ _ _).trans ?_
        refine (gd_t (⟨rfl, rfl⟩) _).trans ?_
        rfl
theorem q_R_metAt_48 {h : zH} {x1 : Int} {x2 : Int} {x3 : Int} {x4 : Int} {x5 : Int} (KC : KC h) : zY 78 48 [some (zR (some 128)), some (zI x1), some (zI x2), some (zI x3), some (zI x4), some (zI x5), none] [] h =
    if 1536 < x5 then
      gd (-2147483648 ≤ x2 + 1 ∧ x2 + 1 < 2147483648) (
      zY 78 10 [some (zR (some 128)), some (zI x1), some (zI (x2 + 1)), some (zI x3), some (zI x4), some (zI x5), none] [] h)
    else
      zBack zY 78 60 63 [some (zR (some 128)), some (zI x1), some (zI x2), some (zI x3), some (zI x4), some (zI x5), none] [] (zC 79 [zR (some 128), zI x4, zI x3] h) := by
  refine (show zY 78 48 [some (zR (some 128)), some (zI x1), some (zI x2), some (zI x3), some (zI x4), some (zI x5), none] [] h = gd (-32768 ≤ (1536 : Int) ∧ (1536 : Int) < 32768) (if 1536 < x5 then zY 78 93 [some (zR (some 128)), some (zI x1), some (zI x2), some (zI x3), some (zI x4), some (zI x5), none] [] h else zY 78 56 [some (zR (some 128)), some (zI x1), some (zI x2), some (zI x3), some (zI x4), some (zI x5), none] [] h) from zGo 3 78 48 _ _ _).trans ?_
  refine (gd_t (by decide) _).trans ?_
  refine iteC (fun c0 => ?_) (fun c0 => ?_)
  · skip
    refine (show zY 78 93 [some (zR (some 128)), some (zI x1), some (zI x2), some (zI x3), some (zI x4), some (zI x5), none] [] h = gd (inR (x2 + 1)) (gd (inR (1)) (zY 78 10 [some (zR (some 128)), some (zI x1), some (zI (x2 + 1)), some (zI x3), some (zI x4), some (zI x5), none] [] h)) from zGo 2 78 93 _ _ _).trans ?_
    refine gd_c Iff.rfl (fun c1 => ?_)
    refine (gd_t (by decide) _).trans ?_
    rfl
  · skip
    refine (show zY 78 56 [some (zR (some 128)), some (zI x1), some (zI x2), some (zI x3), some (zI x4), some (zI x5), none] [] h = gd (false = zctor 79 ∧ zcs [] ≤ 8 ∧ zrm 78 (zrf 79 + 1) (8 + (zmaxl 79 + 11) + zrl 79) = true ∧ zcs [zR (some 128), zI x4, zI x3] ≤ zmaxl 79) (gd (zob h (some 128) 6) (zBack zY 78 60 63 [some (zR (some 128)), some (zI x1), some (zI x2), some (zI x3), some (zI x4), some (zI x5), none] [] (zC 79 [zR (some 128), zI x4, zI x3] h))) from zGo 4 78 56 _ _ _).trans ?_
    refine (gd_t (⟨rfl, Nat.le_of_ble_eq_true rfl, rfl, Nat.le_of_ble_eq_true rfl⟩) _).trans ?_
    refine (gd_t (⟨rfl, (PTC KC 128 _ rfl rfl), (PNC KC 128 rfl)⟩) _).trans ?_
    rfl
theorem q_R_metAt_r63 {h : zH} {x1 : Int} {x2 : Int} {x3 : Int} {x4 : Int} {x5 : Int} {y : Int} {p : Nat} (KC : KC h) (rp : hR h 128 1 = some p) (hp : PS h p) (g0 : (¬ (y = 0)) → ((¬ (b_R_looksAtCondition h x4 p)) → (-2147483648 ≤ x4 * 64 ∧ x4 * 64 < 2147483648)) := by omega) (g1 : (¬ (y = 0)) → ((¬ (b_R_looksAtCondition h x4 p)) → (-2147483648 ≤ (x4 * 64) + x3 ∧ (x4 * 64) + x3 < 2147483648)) := by omega) : zBack zY 78 60 63 [some (zR (some 128)), some (zI x1), some (zI x2), some (zI x3), some (zI x4), some (zI x5), none] [] (some (.inl (some (zI y)), h)) =
    if y = 0 then
      gd (-2147483648 ≤ x2 + 1 ∧ x2 + 1 < 2147483648) (
      zY 78 10 [some (zR (some 128)), some (zI x1), some (zI (x2 + 1)), some (zI x3), some (zI x4), some (zI x5), none] [] h)
    else
      gd (-2147483648 ≤ x5 + 1 ∧ x5 + 1 < 2147483648) (
      zY 78 48 [some (zR (some 128)), some (zI x1), some (zI x2), some (zI (f_R_stateBehind h x4 x3 p)), some (zI (f_R_statementBehind h x4 x3 p)), some (zI (x5 + 1)), some (zI (f_R_statementBehind h x4 x3 p))] [] h) := by
  refine (show zBack zY 78 60 63 [some (zR (some 128)), some (zI x1), some (zI x2), some (zI x3), some (zI x4), some (zI x5), none] [] (some (.inl (some (zI y)), h)) = if y = 0 then zY 78 93 [some (zR (some 128)), some (zI x1), some (zI x2), some (zI x3), some (zI x4), some (zI x5), none] [] h else zY 78 66 [some (zR (some 128)), some (zI x1), some (zI x2), some (zI x3), some (zI x4), some (zI x5), none] [] h from zGo 1 78 63 _ _ _).trans ?_
  refine iteC (fun c0 => ?_) (fun c0 => ?_)
  · skip
    refine (show zY 78 93 [some (zR (some 128)), some (zI x1), some (zI x2), some (zI x3), some (zI x4), some (zI x5), none] [] h = gd (inR (x2 + 1)) (gd (inR (1)) (zY 78 10 [some (zR (some 128)), some (zI x1), some (zI (x2 + 1)), some (zI x3), some (zI x4), some (zI x5), none] [] h)) from zGo 2 78 93 _ _ _).trans ?_
    refine gd_c Iff.rfl (fun c1 => ?_)
    refine (gd_t (by decide) _).trans ?_
    rfl
  · skip
    refine (show zY 78 66 [some (zR (some 128)), some (zI x1), some (zI x2), some (zI x3), some (zI x4), some (zI x5), none] [] h = gd (false = zctor 70 ∧ zcs [] ≤ 8 ∧ zrm 78 (zrf 70 + 1) (8 + (zmaxl 70 + 11) + zrl 70) = true ∧ zcs [zR (some 128), zI x4, zI x3] ≤ zmaxl 70) (gd (zob h (some 128) 6) (zBack zY 78 70 73 [some (zR (some 128)), some (zI x1), some (zI x2), some (zI x3), some (zI x4), some (zI x5), none] [] (zC 70 [zR (some 128), zI x4, zI x3] h))) from zGo 4 78 66 _ _ _).trans ?_
    refine (gd_t (⟨rfl, Nat.le_of_ble_eq_true rfl, rfl, Nat.le_of_ble_eq_true rfl⟩) _).trans ?_
    refine (gd_t (⟨rfl, (PTC KC 128 _ rfl rfl), (PNC KC 128 rfl)⟩) _).trans ?_
    refine (congrArg (zBack zY 78 70 73 [some (zR (some 128)), some (zI x1), some (zI x2), some (zI x3), some (zI x4), some (zI x5), none] []) (e_R_statementBehind KC rp hp)).trans ?_
    refine (show zY 78 73 [some (zR (some 128)), some (zI x1), some (zI x2), some (zI x3), some (zI x4), some (zI x5), none] [zI (f_R_statementBehind h x4 x3 p)] h = gd (false = zctor 72 ∧ zcs [] ≤ 8 ∧ zrm 78 (zrf 72 + 1) (8 + (zmaxl 72 + 11) + zrl 72) = true ∧ zcs [zR (some 128), zI x4, zI x3] ≤ zmaxl 72) (gd (zob h (some 128) 6) (zBack zY 78 79 82 [some (zR (some 128)), some (zI x1), some (zI x2), some (zI x3), some (zI x4), some (zI x5), some (zI (f_R_statementBehind h x4 x3 p))] [] (zC 72 [zR (some 128), zI x4, zI x3] h))) from zGo 5 78 73 _ _ _).trans ?_
    refine (gd_t (⟨rfl, Nat.le_of_ble_eq_true rfl, rfl, Nat.le_of_ble_eq_true rfl⟩) _).trans ?_
    refine (gd_t (⟨rfl, (PTC KC 128 _ rfl rfl), (PNC KC 128 rfl)⟩) _).trans ?_
    refine (congrArg (zBack zY 78 79 82 [some (zR (some 128)), some (zI x1), some (zI x2), some (zI x3), some (zI x4), some (zI x5), some (zI (f_R_statementBehind h x4 x3 p))] []) (e_R_stateBehind KC rp hp (g0 c0) (g1 c0))).trans ?_
    refine (show zY 78 82 [some (zR (some 128)), some (zI x1), some (zI x2), some (zI x3), some (zI x4), some (zI x5), some (zI (f_R_statementBehind h x4 x3 p))] [zI (f_R_stateBehind h x4 x3 p)] h = gd (inR (x5 + 1)) (gd (inR (1)) (zY 78 48 [some (zR (some 128)), some (zI x1), some (zI x2), some (zI (f_R_stateBehind h x4 x3 p)), some (zI (f_R_statementBehind h x4 x3 p)), some (zI (x5 + 1)), some (zI (f_R_statementBehind h x4 x3 p))] [] h)) from zGo 5 78 82 _ _ _).trans ?_
    refine gd_c Iff.rfl (fun c2 => ?_)
    refine (gd_t (by decide) _).trans ?_
    rfl
theorem q_R_bitsOf_F {h : zH} {x0 : UInt32} : zC 77 [zF x0] h =
    if (Op.cmpValue (FP.fcmp x0 FP.fconst0) .l).toInt = 0 then
      some (.inl (some (zI 0)), h)
    else
      if (Op.cmpValue (FP.fcmp x0 FP.fconst0) .g).toInt < 0 then
        zY 77 26 [some (zF x0), some (zF (FP.fneg x0)), some (zI 127), some (zI 0)] [] h
      else
        zY 77 26 [some (zF x0), some (zF x0), some (zI 127), some (zI 0)] [] h := by
  refine (show zC 77 [zF x0] h = if (Op.cmpValue (FP.fcmp x0 FP.fconst0) .l).toInt = 0 then zY 77 6 [some (zF x0), none, none, none] [] h else zY 77 8 [some (zF x0), none, none, none] [] h from zGo 4 77 0 _ _ _).trans ?_
  refine iteC (fun c0 => ?_) (fun c0 => ?_)
  · skip
    refine (show zY 77 6 [some (zF x0), none, none, none] [] h = gd (inR (0)) (gd (([] : List zV).isEmpty = true ∧ (zrk 77 = 1 ∨ zrk 77 = 6 ∧ ((0 : Int) = 0 ∨ (0 : Int) = 1))) (some (.inl (some (zI 0)), h))) from zGo 2 77 6 _ _ _).trans ?_
    refine (gd_t (by decide) _).trans ?_
    refine (gd_t (⟨rfl, Or.inl rfl⟩) _).trans ?_
    rfl
  · skip
    refine (show zY 77 8 [some (zF x0), none, none, none] [] h = if (Op.cmpValue (FP.fcmp x0 FP.fconst0) .g).toInt < 0 then zY 77 14 [some (zF x0), none, none, none] [] h else zY 77 19 [some (zF x0), none, none, none] [] h from zGo 4 77 8 _ _ _).trans ?_
    refine iteC (fun c1 => ?_) (fun c1 => ?_)
    · skip
      refine (show zY 77 14 [some (zF x0), none, none, none] [] h = gd (-128 ≤ (127 : Int) ∧ (127 : Int) < 128) (gd (inR (0)) (zY 77 26 [some (zF x0), some (zF (FP.fneg x0)), some (zI 127), some (zI 0)] [] h)) from zGo 8 77 14 _ _ _).trans ?_
      refine (gd_t (by decide) _).trans ?_
      refine (gd_t (by decide) _).trans ?_
      rfl
    · skip
      refine (show zY 77 19 [some (zF x0), none, none, none] [] h = gd (-128 ≤ (127 : Int) ∧ (127 : Int) < 128) (gd (inR (0)) (zY 77 26 [some (zF x0), some (zF x0), some (zI 127), some (zI 0)] [] h)) from zGo 6 77 19 _ _ _).trans ?_
      refine (gd_t (by decide) _).trans ?_
      refine (gd_t (by decide) _).trans ?_
      rfl
theorem q_R_bitsOf_F_26 {h : zH} {x0 : UInt32} {x1 : UInt32} {x2 : Int} {x3 : Int} : zY 77 26 [some (zF x0), some (zF x1), some (zI x2), some (zI x3)] [] h =
    if x3 < 2000 then
      if (Op.cmpValue (FP.fcmp x1 FP.fconst2) .l).toInt < 0 then
        zY 77 54 [some (zF x0), some (zF x1), some (zI x2), some (zI 0)] [] h
      else
        gd (zn32 (FP.fdiv x1 FP.fconst2) = true) (
        gd (-2147483648 ≤ x2 + 1 ∧ x2 + 1 < 2147483648) (
        gd (-2147483648 ≤ x3 + 1 ∧ x3 + 1 < 2147483648) (
        zY 77 26 [some (zF x0), some (zF (FP.fdiv x1 FP.fconst2)), some (zI (x2 + 1)), some (zI (x3 + 1))] [] h)))
    else
      zY 77 54 [some (zF x0), some (zF x1), some (zI x2), some (zI 0)] [] h := by
  refine (show zY 77 26 [some (zF x0), some (zF x1), some (zI x2), some (zI x3)] [] h = gd (-32768 ≤ (2000 : Int) ∧ (2000 : Int) < 32768) (if x3 < 2000 then zY 77 33 [some (zF x0), some (zF x1), some (zI x2), some (zI x3)] [] h else zY 77 52 [some (zF x0), some (zF x1), some (zI x2), some (zI x3)] [] h) from zGo 3 77 26 _ _ _).trans ?_
  refine (gd_t (by decide) _).trans ?_
  refine iteC (fun c0 => ?_) (fun c0 => ?_)
  · skip
    refine (show zY 77 33 [some (zF x0), some (zF x1), some (zI x2), some (zI x3)] [] h = if (Op.cmpValue (FP.fcmp x1 FP.fconst2) .l).toInt < 0 then zY 77 52 [some (zF x0), some (zF x1), some (zI x2), some (zI x3)] [] h else zY 77 39 [some (zF x0), some (zF x1), some (zI x2), some (zI x3)] [] h from zGo 4 77 33 _ _ _).trans ?_
    refine iteC (fun c1 => ?_) (fun c1 => ?_)
    · skip
      refine (show zY 77 52 [some (zF x0), some (zF x1), some (zI x2), some (zI x3)] [] h = gd (inR (0)) (zY 77 54 [some (zF x0), some (zF x1), some (zI x2), some (zI 0)] [] h) from zGo 2 77 52 _ _ _).trans ?_
      refine (gd_t (by decide) _).trans ?_
      rfl
    · skip
      refine (show zY 77 39 [some (zF x0), some (zF x1), some (zI x2), some (zI x3)] [] h = gd (zn32 (FP.fdiv x1 FP.fconst2) = true) (gd (inR (x2 + 1)) (gd (inR (1)) (gd (inR (x3 + 1)) (gd (inR (1)) (zY 77 26 [some (zF x0), some (zF (FP.fdiv x1 FP.fconst2)), some (zI (x2 + 1)), some (zI (x3 + 1))] [] h))))) from zGo 7 77 39 _ _ _).trans ?_
      refine gd_c Iff.rfl (fun c2 => ?_)
      refine gd_c Iff.rfl (fun c3 => ?_)
      refine (gd_t (by decide) _).trans ?_
      refine gd_c Iff.rfl (fun c4 => ?_)
      refine (gd_t (by decide) _).trans ?_
      rfl
  · skip
    refine (show zY 77 52 [some (zF x0), some (zF x1), some (zI x2), some (zI x3)] [] h = gd (inR (0)) (zY 77 54 [some (zF x0), some (zF x1), some (zI x2), some (zI 0)] [] h) from zGo 2 77 52 _ _ _).trans ?_
    refine (gd_t (by decide) _).trans ?_
    rfl
theorem q_R_bitsOf_F_54 {h : zH} {x0 : UInt32} {x1 : UInt32} {x2 : Int} {x3 : Int} : zY 77 54 [some (zF x0), some (zF x1), some (zI x2), some (zI x3)] [] h =
    if x3 < 2000 then
      if (Op.cmpValue (FP.fcmp x1 FP.fconst1) .g).toInt < 0 then
        gd (zn32 (FP.fmul x1 FP.fconst2) = true) (
        gd (-2147483648 ≤ x2 + (-1) ∧ x2 + (-1) < 2147483648) (
        gd (-2147483648 ≤ x3 + 1 ∧ x3 + 1 < 2147483648) (
        zY 77 54 [some (zF x0), some (zF (FP.fmul x1 FP.fconst2)), some (zI (x2 + (-1))), some (zI (x3 + 1))] [] h)))
      else
        gd (zn32 (FP.fsub x1 FP.fconst1) = true) (
        gd (zn32 (FP.fmul (FP.fsub x1 FP.fconst1) 1258291200) = true) (
        if (Op.cmpValue (FP.fcmp x0 FP.fconst0) .g).toInt < 0 then
          some (.inl (some (zI (zor (zor (-2147483648) (zshl x2 23)) ((FP.f2i (FP.fmul (FP.fsub x1 FP.fconst1) 1258291200)).toInt)))), h)
        else
          some (.inl (some (zI (zor (zor 0 (zshl x2 23)) ((FP.f2i (FP.fmul (FP.fsub x1 FP.fconst1) 1258291200)).toInt)))), h)))
    else
      gd (zn32 (FP.fsub x1 FP.fconst1) = true) (
      gd (zn32 (FP.fmul (FP.fsub x1 FP.fconst1) 1258291200) = true) (
      if (Op.cmpValue (FP.fcmp x0 FP.fconst0) .g).toInt < 0 then
        some (.inl (some (zI (zor (zor (-2147483648) (zshl x2 23)) ((FP.f2i (FP.fmul (FP.fsub x1 FP.fconst1) 1258291200)).toInt)))), h)
      else
        some (.inl (some (zI (zor (zor 0 (zshl x2 23)) ((FP.f2i (FP.fmul (FP.fsub x1 FP.fconst1) 1258291200)).toInt)))), h))) := by
  refine (show zY 77 54 [some (zF x0), some (zF x1), some (zI x2), some (zI x3)] [] h = gd (-32768 ≤ (2000 : Int) ∧ (2000 : Int) < 32768) (if x3 < 2000 then zY 77 61 [some (zF x0), some (zF x1), some (zI x2), some (zI x3)] [] h else zY 77 80 [some (zF x0), some (zF x1), some (zI x2), some (zI x3)] [] h) from zGo 3 77 54 _ _ _).trans ?_
  refine (gd_t (by decide) _).trans ?_
  refine iteC (fun c0 => ?_) (fun c0 => ?_)
  · skip
    refine (show zY 77 61 [some (zF x0), some (zF x1), some (zI x2), some (zI x3)] [] h = if (Op.cmpValue (FP.fcmp x1 FP.fconst1) .g).toInt < 0 then zY 77 67 [some (zF x0), some (zF x1), some (zI x2), some (zI x3)] [] h else zY 77 80 [some (zF x0), some (zF x1), some (zI x2), some (zI x3)] [] h from zGo 4 77 61 _ _ _).trans ?_
    refine iteC (fun c1 => ?_) (fun c1 => ?_)
    · skip
      refine (show zY 77 67 [some (zF x0), some (zF x1), some (zI x2), some (zI x3)] [] h = gd (zn32 (FP.fmul x1 FP.fconst2) = true) (gd (inR (x2 + (-1))) (gd (inR (-1)) (gd (inR (x3 + 1)) (gd (inR (1)) (zY 77 54 [some (zF x0), some (zF (FP.fmul x1 FP.fconst2)), some (zI (x2 + (-1))), some (zI (x3 + 1))] [] h))))) from zGo 7 77 67 _ _ _).trans ?_
      refine gd_c Iff.rfl (fun c2 => ?_)
      refine gd_c Iff.rfl (fun c3 => ?_)
      refine (gd_t (by decide) _).trans ?_
      refine gd_c Iff.rfl (fun c4 => ?_)
      refine (gd_t (by decide) _).trans ?_
      rfl
    · skip
      refine (show zY 77 80 [some (zF x0), some (zF x1), some (zI x2), some (zI x3)] [] h = gd (zn32 (FP.fsub x1 FP.fconst1) = true) (gd (zn32 (FP.fmul (FP.fsub x1 FP.fconst1) 1258291200) = true) (if (Op.cmpValue (FP.fcmp x0 FP.fconst0) .g).toInt < 0 then zY 77 94 [some (zF x0), some (zF x1), some (zI x2), some (zI ((FP.f2i (FP.fmul (FP.fsub x1 FP.fconst1) 1258291200)).toInt))] [] h else zY 77 99 [some (zF x0), some (zF x1), some (zI x2), some (zI ((FP.f2i (FP.fmul (FP.fsub x1 FP.fconst1) 1258291200)).toInt))] [] h)) from zGo 11 77 80 _ _ _).trans ?_
      refine gd_c Iff.rfl (fun c5 => ?_)
      refine gd_c Iff.rfl (fun c6 => ?_)
      refine iteC (fun c7 => ?_) (fun c7 => ?_)
      · skip
        refine (show zY 77 94 [some (zF x0), some (zF x1), some (zI x2), some (zI ((FP.f2i (FP.fmul (FP.fsub x1 FP.fconst1) 1258291200)).toInt))] [] h = gd (-128 ≤ (23 : Int) ∧ (23 : Int) < 128) (gd (([] : List zV).isEmpty = true ∧ (zrk 77 = 1 ∨ zrk 77 = 6 ∧ (((zor (zor (-2147483648) (zshl x2 23)) ((FP.f2i (FP.fmul (FP.fsub x1 FP.fconst1) 1258291200)).toInt)) : Int) = 0 ∨ ((zor (zor (-2147483648) (zshl x2 23)) ((FP.f2i (FP.fmul (FP.fsub x1 FP.fconst1) 1258291200)).toInt)) : Int) = 1))) (some (.inl (some (zI (zor (zor (-2147483648) (zshl x2 23)) ((FP.f2i (FP.fmul (FP.fsub x1 FP.fconst1) 1258291200)).toInt)))), h))) from zGo 9 77 94 _ _ _).trans ?_
        refine (gd_t (by decide) _).trans ?_
        refine (gd_t (⟨rfl, Or.inl rfl⟩) _).trans ?_
        rfl
      · skip
        refine (show zY 77 99 [some (zF x0), some (zF x1), some (zI x2), some (zI ((FP.f2i (FP.fmul (FP.fsub x1 FP.fconst1) 1258291200)).toInt))] [] h = gd (inR (0)) (gd (-128 ≤ (23 : Int) ∧ (23 : Int) < 128) (gd (([] : List zV).isEmpty = true ∧ (zrk 77 = 1 ∨ zrk 77 = 6 ∧ (((zor (zor 0 (zshl x2 23)) ((FP.f2i (FP.fmul (FP.fsub x1 FP.fconst1) 1258291200)).toInt)) : Int) = 0 ∨ ((zor (zor 0 (zshl x2 23)) ((FP.f2i (FP.fmul (FP.fsub x1 FP.fconst1) 1258291200)).toInt)) : Int) = 1))) (some (.inl (some (zI (zor (zor 0 (zshl x2 23)) ((FP.f2i (FP.fmul (FP.fsub x1 FP.fconst1) 1258291200)).toInt)))), h)))) from zGo 8 77 99 _ _ _).trans ?_
        refine (gd_t (by decide) _).trans ?_
        refine (gd_t (by decide) _).trans ?_
        refine (gd_t (⟨rfl, Or.inl rfl⟩) _).trans ?_
        rfl
  · skip
    refine (show zY 77 80 [some (zF x0), some (zF x1), some (zI x2), some (zI x3)] [] h = gd (zn32 (FP.fsub x1 FP.fconst1) = true) (gd (zn32 (FP.fmul (FP.fsub x1 FP.fconst1) 1258291200) = true) (if (Op.cmpValue (FP.fcmp x0 FP.fconst0) .g).toInt < 0 then zY 77 94 [some (zF x0), some (zF x1), some (zI x2), some (zI ((FP.f2i (FP.fmul (FP.fsub x1 FP.fconst1) 1258291200)).toInt))] [] h else zY 77 99 [some (zF x0), some (zF x1), some (zI x2), some (zI ((FP.f2i (FP.fmul (FP.fsub x1 FP.fconst1) 1258291200)).toInt))] [] h)) from zGo 11 77 80 _ _ _).trans ?_
    refine gd_c Iff.rfl (fun c8 => ?_)
    refine gd_c Iff.rfl (fun c9 => ?_)
    refine iteC (fun c10 => ?_) (fun c10 => ?_)
    · skip
      refine (show zY 77 94 [some (zF x0), some (zF x1), some (zI x2), some (zI ((FP.f2i (FP.fmul (FP.fsub x1 FP.fconst1) 1258291200)).toInt))] [] h = gd (-128 ≤ (23 : Int) ∧ (23 : Int) < 128) (gd (([] : List zV).isEmpty = true ∧ (zrk 77 = 1 ∨ zrk 77 = 6 ∧ (((zor (zor (-2147483648) (zshl x2 23)) ((FP.f2i (FP.fmul (FP.fsub x1 FP.fconst1) 1258291200)).toInt)) : Int) = 0 ∨ ((zor (zor (-2147483648) (zshl x2 23)) ((FP.f2i (FP.fmul (FP.fsub x1 FP.fconst1) 1258291200)).toInt)) : Int) = 1))) (some (.inl (some (zI (zor (zor (-2147483648) (zshl x2 23)) ((FP.f2i (FP.fmul (FP.fsub x1 FP.fconst1) 1258291200)).toInt)))), h))) from zGo 9 77 94 _ _ _).trans ?_
      refine (gd_t (by decide) _).trans ?_
      refine (gd_t (⟨rfl, Or.inl rfl⟩) _).trans ?_
      rfl
    · skip
      refine (show zY 77 99 [some (zF x0), some (zF x1), some (zI x2), some (zI ((FP.f2i (FP.fmul (FP.fsub x1 FP.fconst1) 1258291200)).toInt))] [] h = gd (inR (0)) (gd (-128 ≤ (23 : Int) ∧ (23 : Int) < 128) (gd (([] : List zV).isEmpty = true ∧ (zrk 77 = 1 ∨ zrk 77 = 6 ∧ (((zor (zor 0 (zshl x2 23)) ((FP.f2i (FP.fmul (FP.fsub x1 FP.fconst1) 1258291200)).toInt)) : Int) = 0 ∨ ((zor (zor 0 (zshl x2 23)) ((FP.f2i (FP.fmul (FP.fsub x1 FP.fconst1) 1258291200)).toInt)) : Int) = 1))) (some (.inl (some (zI (zor (zor 0 (zshl x2 23)) ((FP.f2i (FP.fmul (FP.fsub x1 FP.fconst1) 1258291200)).toInt)))), h)))) from zGo 8 77 99 _ _ _).trans ?_
      refine (gd_t (by decide) _).trans ?_
      refine (gd_t (by decide) _).trans ?_
      refine (gd_t (⟨rfl, Or.inl rfl⟩) _).trans ?_
      rfl
theorem q_R_bitsOf_D {h : zH} {x0 : UInt64} : zC 74 [zD x0] h =
    if 0 < (Op.cmpValue (FP.dcmp x0 FP.dconst0) .g).toInt then
      zY 74 18 [some (zD x0), none, some (zD x0), none, some (zJ (1023#64)), none, some (zI 0), none] [] h
    else
      some (.inl (some (zJ (0#64))), h) := by
  refine (show zC 74 [zD x0] h = if 0 < (Op.cmpValue (FP.dcmp x0 FP.dconst0) .g).toInt then zY 74 8 [some (zD x0), none, none, none, none, none, none, none] [] h else zY 74 6 [some (zD x0), none, none, none, none, none, none, none] [] h from zGo 4 74 0 _ _ _).trans ?_
  refine iteC (fun c0 => ?_) (fun c0 => ?_)
  · skip
    refine (show zY 74 8 [some (zD x0), none, none, none, none, none, none, none] [] h = gd (inR (0)) (zY 74 18 [some (zD x0), none, some (zD x0), none, some (zJ (1023#64)), none, some (zI 0), none] [] h) from zGo 6 74 8 _ _ _).trans ?_
    refine (gd_t (by decide) _).trans ?_
    rfl
  · skip
    refine (show zY 74 6 [some (zD x0), none, none, none, none, none, none, none] [] h = gd (([] : List zV).isEmpty = true ∧ zrk 74 = 2) (some (.inl (some (zJ (0#64))), h)) from zGo 2 74 6 _ _ _).trans ?_
    refine (gd_t (⟨rfl, rfl⟩) _).trans ?_
    rfl
theorem q_R_bitsOf_D_18 {h : zH} {x0 : UInt64} {x2 : UInt64} {x4 : BitVec 64} {x6 : Int} : zY 74 18 [some (zD x0), none, some (zD x2), none, some (zJ x4), none, some (zI x6), none] [] h =
    if x6 < 2000 then
      if (Op.cmpValue (FP.dcmp x2 4611686018427387904) .l).toInt < 0 then
        zY 74 55 [some (zD x0), none, some (zD x2), none, some (zJ x4), none, some (zI 0), none] [] h
      else
        gd (zn64 (FP.ddiv x2 4611686018427387904) = true) (
        gd (-2147483648 ≤ x6 + 1 ∧ x6 + 1 < 2147483648) (
        zY 74 18 [some (zD x0), none, some (zD (FP.ddiv x2 4611686018427387904)), none, some (zJ (x4 + (1#64))), none, some (zI (x6 + 1)), none] [] h))
    else
      zY 74 55 [some (zD x0), none, some (zD x2), none, some (zJ x4), none, some (zI 0), none] [] h := by
  refine (show zY 74 18 [some (zD x0), none, some (zD x2), none, some (zJ x4), none, some (zI x6), none] [] h = gd (-32768 ≤ (2000 : Int) ∧ (2000 : Int) < 32768) (if x6 < 2000 then zY 74 26 [some (zD x0), none, some (zD x2), none, some (zJ x4), none, some (zI x6), none] [] h else zY 74 52 [some (zD x0), none, some (zD x2), none, some (zJ x4), none, some (zI x6), none] [] h) from zGo 3 74 18 _ _ _).trans ?_
  refine (gd_t (by decide) _).trans ?_
  refine iteC (fun c0 => ?_) (fun c0 => ?_)
  · skip
    refine (show zY 74 26 [some (zD x0), none, some (zD x2), none, some (zJ x4), none, some (zI x6), none] [] h = if (Op.cmpValue (FP.dcmp x2 4611686018427387904) .l).toInt < 0 then zY 74 52 [some (zD x0), none, some (zD x2), none, some (zJ x4), none, some (zI x6), none] [] h else zY 74 34 [some (zD x0), none, some (zD x2), none, some (zJ x4), none, some (zI x6), none] [] h from zGo 4 74 26 _ _ _).trans ?_
    refine iteC (fun c1 => ?_) (fun c1 => ?_)
    · skip
      refine (show zY 74 52 [some (zD x0), none, some (zD x2), none, some (zJ x4), none, some (zI x6), none] [] h = gd (inR (0)) (zY 74 55 [some (zD x0), none, some (zD x2), none, some (zJ x4), none, some (zI 0), none] [] h) from zGo 2 74 52 _ _ _).trans ?_
      refine (gd_t (by decide) _).trans ?_
      rfl
    · skip
      refine (show zY 74 34 [some (zD x0), none, some (zD x2), none, some (zJ x4), none, some (zI x6), none] [] h = gd (zn64 (FP.ddiv x2 4611686018427387904) = true) (gd (inR (x6 + 1)) (gd (inR (1)) (zY 74 18 [some (zD x0), none, some (zD (FP.ddiv x2 4611686018427387904)), none, some (zJ (x4 + (1#64))), none, some (zI (x6 + 1)), none] [] h))) from zGo 10 74 34 _ _ _).trans ?_
      refine gd_c Iff.rfl (fun c2 => ?_)
      refine gd_c Iff.rfl (fun c3 => ?_)
      refine (gd_t (by decide) _).trans ?_
      rfl
  · skip
    refine (show zY 74 52 [some (zD x0), none, some (zD x2), none, some (zJ x4), none, some (zI x6), none] [] h = gd (inR (0)) (zY 74 55 [some (zD x0), none, some (zD x2), none, some (zJ x4), none, some (zI 0), none] [] h) from zGo 2 74 52 _ _ _).trans ?_
    refine (gd_t (by decide) _).trans ?_
    rfl
theorem q_R_bitsOf_D_55 {h : zH} {x0 : UInt64} {x2 : UInt64} {x4 : BitVec 64} {x6 : Int} : zY 74 55 [some (zD x0), none, some (zD x2), none, some (zJ x4), none, some (zI x6), none] [] h =
    if x6 < 2000 then
      if (Op.cmpValue (FP.dcmp x2 FP.dconst1) .g).toInt < 0 then
        gd (zn64 (FP.dmul x2 4611686018427387904) = true) (
        gd (-2147483648 ≤ x6 + 1 ∧ x6 + 1 < 2147483648) (
        zY 74 55 [some (zD x0), none, some (zD (FP.dmul x2 4611686018427387904)), none, some (zJ (x4 - (1#64))), none, some (zI (x6 + 1)), none] [] h))
      else
        gd (zn64 (FP.dsub x2 FP.dconst1) = true) (
        gd (zn64 (FP.dmul (FP.dsub x2 FP.dconst1) 4841369599423283200) = true) (
        some (.inl (some (zJ ((zlshl x4 52) ||| ((FP.d2l (FP.dmul (FP.dsub x2 FP.dconst1) 4841369599423283200)).toBitVec)))), h)))
    else
      gd (zn64 (FP.dsub x2 FP.dconst1) = true) (
      gd (zn64 (FP.dmul (FP.dsub x2 FP.dconst1) 4841369599423283200) = true) (
      some (.inl (some (zJ ((zlshl x4 52) ||| ((FP.d2l (FP.dmul (FP.dsub x2 FP.dconst1) 4841369599423283200)).toBitVec)))), h))) := by
  refine (show zY 74 55 [some (zD x0), none, some (zD x2), none, some (zJ x4), none, some (zI x6), none] [] h = gd (-32768 ≤ (2000 : Int) ∧ (2000 : Int) < 32768) (if x6 < 2000 then zY 74 63 [some (zD x0), none, some (zD x2), none, some (zJ x4), none, some (zI x6), none] [] h else zY 74 87 [some (zD x0), none, some (zD x2), none, some (zJ x4), none, some (zI x6), none] [] h) from zGo 3 74 55 _ _ _).trans ?_
  refine (gd_t (by decide) _).trans ?_
  refine iteC (fun c0 => ?_) (fun c0 => ?_)
  · skip
    refine (show zY 74 63 [some (zD x0), none, some (zD x2), none, some (zJ x4), none, some (zI x6), none] [] h = if (Op.cmpValue (FP.dcmp x2 FP.dconst1) .g).toInt < 0 then zY 74 69 [some (zD x0), none, some (zD x2), none, some (zJ x4), none, some (zI x6), none] [] h else zY 74 87 [some (zD x0), none, some (zD x2), none, some (zJ x4), none, some (zI x6), none] [] h from zGo 4 74 63 _ _ _).trans ?_
    refine iteC (fun c1 => ?_) (fun c1 => ?_)
    · skip
      refine (show zY 74 69 [some (zD x0), none, some (zD x2), none, some (zJ x4), none, some (zI x6), none] [] h = gd (zn64 (FP.dmul x2 4611686018427387904) = true) (gd (inR (x6 + 1)) (gd (inR (1)) (zY 74 55 [some (zD x0), none, some (zD (FP.dmul x2 4611686018427387904)), none, some (zJ (x4 - (1#64))), none, some (zI (x6 + 1)), none] [] h))) from zGo 10 74 69 _ _ _).trans ?_
      refine gd_c Iff.rfl (fun c2 => ?_)
      refine gd_c Iff.rfl (fun c3 => ?_)
      refine (gd_t (by decide) _).trans ?_
      rfl
    · skip
      refine (show zY 74 87 [some (zD x0), none, some (zD x2), none, some (zJ x4), none, some (zI x6), none] [] h = gd (zn64 (FP.dsub x2 FP.dconst1) = true) (gd (zn64 (FP.dmul (FP.dsub x2 FP.dconst1) 4841369599423283200) = true) (gd (-128 ≤ (52 : Int) ∧ (52 : Int) < 128) (gd (([] : List zV).isEmpty = true ∧ zrk 74 = 2) (some (.inl (some (zJ ((zlshl x4 52) ||| ((FP.d2l (FP.dmul (FP.dsub x2 FP.dconst1) 4841369599423283200)).toBitVec)))), h))))) from zGo 13 74 87 _ _ _).trans ?_
      refine gd_c Iff.rfl (fun c4 => ?_)
      refine gd_c Iff.rfl (fun c5 => ?_)
      refine (gd_t (by decide) _).trans ?_
      refine (gd_t (⟨rfl, rfl⟩) _).trans ?_
      rfl
  · skip
    refine (show zY 74 87 [some (zD x0), none, some (zD x2), none, some (zJ x4), none, some (zI x6), none] [] h = gd (zn64 (FP.dsub x2 FP.dconst1) = true) (gd (zn64 (FP.dmul (FP.dsub x2 FP.dconst1) 4841369599423283200) = true) (gd (-128 ≤ (52 : Int) ∧ (52 : Int) < 128) (gd (([] : List zV).isEmpty = true ∧ zrk 74 = 2) (some (.inl (some (zJ ((zlshl x4 52) ||| ((FP.d2l (FP.dmul (FP.dsub x2 FP.dconst1) 4841369599423283200)).toBitVec)))), h))))) from zGo 13 74 87 _ _ _).trans ?_
    refine gd_c Iff.rfl (fun c6 => ?_)
    refine gd_c Iff.rfl (fun c7 => ?_)
    refine (gd_t (by decide) _).trans ?_
    refine (gd_t (⟨rfl, rfl⟩) _).trans ?_
    rfl

