/-! The class: its calls. -/
theorem q_B_requireLength {h : zH} {x1 : Int} (KC : KC h) : zC 161 [zR (some 0), zI x1] h =
    if x1 < 0 then
      some (.inr 0, (hNew h 0 6))
    else
      if (hI h 0 1) < x1 then
        some (.inr 0, (hNew h 0 6))
      else
        some (.inl (none), h) := by
  refine (show zC 161 [zR (some 0), zI x1] h = if x1 < 0 then zY 161 12 [some (zR (some 0)), some (zI x1)] [] h else zY 161 4 [some (zR (some 0)), some (zI x1)] [] h from zGo 2 161 0 _ _ _).trans ?_
  refine iteC (fun c0 => ?_) (fun c0 => ?_)
  · skip
    refine (show zY 161 12 [some (zR (some 0)), some (zI x1)] [] h = some (.inr 0, (hNew h 0 6)) from zGo 1 161 12 _ _ _).trans ?_
    rfl
  · skip
    refine (show zY 161 4 [some (zR (some 0)), some (zI x1)] [] h = gd (zob h (some 0) 11) (if (hI h 0 1) < x1 then zY 161 12 [some (zR (some 0)), some (zI x1)] [] h else zY 161 20 [some (zR (some 0)), some (zI x1)] [] h) from zGo 4 161 4 _ _ _).trans ?_
    refine (gd_t (⟨rfl, (PTC KC 0 _ rfl rfl), (PNC KC 0 rfl)⟩) _).trans ?_
    refine iteC (fun c1 => ?_) (fun c1 => ?_)
    · skip
      refine (show zY 161 12 [some (zR (some 0)), some (zI x1)] [] h = some (.inr 0, (hNew h 0 6)) from zGo 1 161 12 _ _ _).trans ?_
      rfl
    · skip
      refine (show zY 161 20 [some (zR (some 0)), some (zI x1)] [] h = gd (([] : List zV).isEmpty = true ∧ zrk 161 = 0) (some (.inl (none), h)) from zGo 1 161 20 _ _ _).trans ?_
      refine (gd_t (⟨rfl, rfl⟩) _).trans ?_
      rfl
theorem q_B_requireState {h : zH} {x1 : Int} (KC : KC h) : zC 170 [zR (some 0), zI x1] h =
    if x1 < 0 then
      some (.inr 0, (hNew h 0 6))
    else
      if x1 < 64 then
        some (.inl (none), h)
      else
        some (.inr 0, (hNew h 0 6)) := by
  refine (show zC 170 [zR (some 0), zI x1] h = if x1 < 0 then zY 170 10 [some (zR (some 0)), some (zI x1)] [] h else zY 170 4 [some (zR (some 0)), some (zI x1)] [] h from zGo 2 170 0 _ _ _).trans ?_
  refine iteC (fun c0 => ?_) (fun c0 => ?_)
  · skip
    refine (show zY 170 10 [some (zR (some 0)), some (zI x1)] [] h = some (.inr 0, (hNew h 0 6)) from zGo 1 170 10 _ _ _).trans ?_
    rfl
  · skip
    refine (show zY 170 4 [some (zR (some 0)), some (zI x1)] [] h = gd (-128 ≤ (64 : Int) ∧ (64 : Int) < 128) (if x1 < 64 then zY 170 18 [some (zR (some 0)), some (zI x1)] [] h else zY 170 10 [some (zR (some 0)), some (zI x1)] [] h) from zGo 3 170 4 _ _ _).trans ?_
    refine (gd_t (by decide) _).trans ?_
    refine iteC (fun c1 => ?_) (fun c1 => ?_)
    · skip
      refine (show zY 170 18 [some (zR (some 0)), some (zI x1)] [] h = gd (([] : List zV).isEmpty = true ∧ zrk 170 = 0) (some (.inl (none), h)) from zGo 1 170 18 _ _ _).trans ?_
      refine (gd_t (⟨rfl, rfl⟩) _).trans ?_
      rfl
    · skip
      refine (show zY 170 10 [some (zR (some 0)), some (zI x1)] [] h = some (.inr 0, (hNew h 0 6)) from zGo 1 170 10 _ _ _).trans ?_
      rfl
theorem q_B_requireSlot {h : zH} {x1 : Int} (KC : KC h) : zC 200 [zR (some 0), zI x1] h =
    if x1 < 0 then
      some (.inr 0, (hNew h 0 6))
    else
      if x1 < 2 then
        some (.inl (none), h)
      else
        some (.inr 0, (hNew h 0 6)) := by
  refine (show zC 200 [zR (some 0), zI x1] h = if x1 < 0 then zY 200 9 [some (zR (some 0)), some (zI x1)] [] h else zY 200 4 [some (zR (some 0)), some (zI x1)] [] h from zGo 2 200 0 _ _ _).trans ?_
  refine iteC (fun c0 => ?_) (fun c0 => ?_)
  · skip
    refine (show zY 200 9 [some (zR (some 0)), some (zI x1)] [] h = some (.inr 0, (hNew h 0 6)) from zGo 1 200 9 _ _ _).trans ?_
    rfl
  · skip
    refine (show zY 200 4 [some (zR (some 0)), some (zI x1)] [] h = gd (inR (2)) (if x1 < 2 then zY 200 17 [some (zR (some 0)), some (zI x1)] [] h else zY 200 9 [some (zR (some 0)), some (zI x1)] [] h) from zGo 3 200 4 _ _ _).trans ?_
    refine (gd_t (by decide) _).trans ?_
    refine iteC (fun c1 => ?_) (fun c1 => ?_)
    · skip
      refine (show zY 200 17 [some (zR (some 0)), some (zI x1)] [] h = gd (([] : List zV).isEmpty = true ∧ zrk 200 = 0) (some (.inl (none), h)) from zGo 1 200 17 _ _ _).trans ?_
      refine (gd_t (⟨rfl, rfl⟩) _).trans ?_
      rfl
    · skip
      refine (show zY 200 9 [some (zR (some 0)), some (zI x1)] [] h = some (.inr 0, (hNew h 0 6)) from zGo 1 200 9 _ _ _).trans ?_
      rfl
theorem q_B_requireStatement {h : zH} {x1 : Int} {p : Nat} (KC : KC h) (rp : hR h 0 13 = some p) (hp : PS h p) : zC 165 [zR (some 0), zI x1] h =
    if x1 < 0 then
      some (.inr 3, (hNew h 0 6))
    else
      if x1 < (hI h p 0) then
        some (.inl (none), h)
      else
        some (.inr 3, (hNew h 0 6)) := by
  refine (show zC 165 [zR (some 0), zI x1] h = if x1 < 0 then zY 165 15 [some (zR (some 0)), some (zI x1)] [] h else zY 165 4 [some (zR (some 0)), some (zI x1)] [] h from zGo 2 165 0 _ _ _).trans ?_
  refine iteC (fun c0 => ?_) (fun c0 => ?_)
  · skip
    refine (show zY 165 15 [some (zR (some 0)), some (zI x1)] [] h = some (.inr 3, (hNew h 0 6)) from zGo 1 165 15 _ _ _).trans ?_
    rfl
  · skip
    refine (show zY 165 4 [some (zR (some 0)), some (zI x1)] [] h = gd (zob h (some 0) 11) (zY 165 9 [some (zR (some 0)), some (zI x1)] [zR (hR h 0 13), zI x1] h) from zGo 3 165 4 _ _ _).trans ?_
    refine (gd_t (⟨rfl, (PTC KC 0 _ rfl rfl), (PNC KC 0 rfl)⟩) _).trans ?_
    refine (congrArg (fun rz => zY 165 9 [some (zR (some 0)), some (zI x1)] (zR rz :: zI x1 :: []) h) rp).trans ?_
    refine (show zY 165 9 [some (zR (some 0)), some (zI x1)] [zR (some p), zI x1] h = gd (zob h (some p) 5) (if x1 < (hI h p 0) then zY 165 23 [some (zR (some 0)), some (zI x1)] [] h else zY 165 15 [some (zR (some 0)), some (zI x1)] [] h) from zGo 2 165 9 _ _ _).trans ?_
    refine (gd_t (⟨rfl, hp.1, (PS_n hp)⟩) _).trans ?_
    refine iteC (fun c1 => ?_) (fun c1 => ?_)
    · skip
      refine (show zY 165 23 [some (zR (some 0)), some (zI x1)] [] h = gd (([] : List zV).isEmpty = true ∧ zrk 165 = 0) (some (.inl (none), h)) from zGo 1 165 23 _ _ _).trans ?_
      refine (gd_t (⟨rfl, rfl⟩) _).trans ?_
      rfl
    · skip
      refine (show zY 165 15 [some (zR (some 0)), some (zI x1)] [] h = some (.inr 3, (hNew h 0 6)) from zGo 1 165 15 _ _ _).trans ?_
      rfl
theorem q_B_requireLoop {h : zH} {x1 : Int} {p : Nat} (KC : KC h) (rp : hR h 0 13 = some p) (hp : PS h p) : zC 168 [zR (some 0), zI x1] h =
    if x1 < 0 then
      some (.inr 3, (hNew h 0 6))
    else
      if x1 < (hI h p 1) then
        some (.inl (none), h)
      else
        some (.inr 3, (hNew h 0 6)) := by
  refine (show zC 168 [zR (some 0), zI x1] h = if x1 < 0 then zY 168 15 [some (zR (some 0)), some (zI x1)] [] h else zY 168 4 [some (zR (some 0)), some (zI x1)] [] h from zGo 2 168 0 _ _ _).trans ?_
  refine iteC (fun c0 => ?_) (fun c0 => ?_)
  · skip
    refine (show zY 168 15 [some (zR (some 0)), some (zI x1)] [] h = some (.inr 3, (hNew h 0 6)) from zGo 1 168 15 _ _ _).trans ?_
    rfl
  · skip
    refine (show zY 168 4 [some (zR (some 0)), some (zI x1)] [] h = gd (zob h (some 0) 11) (zY 168 9 [some (zR (some 0)), some (zI x1)] [zR (hR h 0 13), zI x1] h) from zGo 3 168 4 _ _ _).trans ?_
    refine (gd_t (⟨rfl, (PTC KC 0 _ rfl rfl), (PNC KC 0 rfl)⟩) _).trans ?_
    refine (congrArg (fun rz => zY 168 9 [some (zR (some 0)), some (zI x1)] (zR rz :: zI x1 :: []) h) rp).trans ?_
    refine (show zY 168 9 [some (zR (some 0)), some (zI x1)] [zR (some p), zI x1] h = gd (zob h (some p) 5) (if x1 < (hI h p 1) then zY 168 23 [some (zR (some 0)), some (zI x1)] [] h else zY 168 15 [some (zR (some 0)), some (zI x1)] [] h) from zGo 2 168 9 _ _ _).trans ?_
    refine (gd_t (⟨rfl, hp.1, (PS_n hp)⟩) _).trans ?_
    refine iteC (fun c1 => ?_) (fun c1 => ?_)
    · skip
      refine (show zY 168 23 [some (zR (some 0)), some (zI x1)] [] h = gd (([] : List zV).isEmpty = true ∧ zrk 168 = 0) (some (.inl (none), h)) from zGo 1 168 23 _ _ _).trans ?_
      refine (gd_t (⟨rfl, rfl⟩) _).trans ?_
      rfl
    · skip
      refine (show zY 168 15 [some (zR (some 0)), some (zI x1)] [] h = some (.inr 3, (hNew h 0 6)) from zGo 1 168 15 _ _ _).trans ?_
      rfl
theorem q_B_requireHole {h : zH} {x1 : Int} {p : Nat} (KC : KC h) (rp : hR h 0 13 = some p) (hp : PS h p) : zC 182 [zR (some 0), zI x1] h =
    if x1 < 0 then
      some (.inr 3, (hNew h 0 6))
    else
      if x1 < (hI h p 2) then
        some (.inl (none), h)
      else
        some (.inr 3, (hNew h 0 6)) := by
  refine (show zC 182 [zR (some 0), zI x1] h = if x1 < 0 then zY 182 15 [some (zR (some 0)), some (zI x1)] [] h else zY 182 4 [some (zR (some 0)), some (zI x1)] [] h from zGo 2 182 0 _ _ _).trans ?_
  refine iteC (fun c0 => ?_) (fun c0 => ?_)
  · skip
    refine (show zY 182 15 [some (zR (some 0)), some (zI x1)] [] h = some (.inr 3, (hNew h 0 6)) from zGo 1 182 15 _ _ _).trans ?_
    rfl
  · skip
    refine (show zY 182 4 [some (zR (some 0)), some (zI x1)] [] h = gd (zob h (some 0) 11) (zY 182 9 [some (zR (some 0)), some (zI x1)] [zR (hR h 0 13), zI x1] h) from zGo 3 182 4 _ _ _).trans ?_
    refine (gd_t (⟨rfl, (PTC KC 0 _ rfl rfl), (PNC KC 0 rfl)⟩) _).trans ?_
    refine (congrArg (fun rz => zY 182 9 [some (zR (some 0)), some (zI x1)] (zR rz :: zI x1 :: []) h) rp).trans ?_
    refine (show zY 182 9 [some (zR (some 0)), some (zI x1)] [zR (some p), zI x1] h = gd (zob h (some p) 5) (if x1 < (hI h p 2) then zY 182 23 [some (zR (some 0)), some (zI x1)] [] h else zY 182 15 [some (zR (some 0)), some (zI x1)] [] h) from zGo 2 182 9 _ _ _).trans ?_
    refine (gd_t (⟨rfl, hp.1, (PS_n hp)⟩) _).trans ?_
    refine iteC (fun c1 => ?_) (fun c1 => ?_)
    · skip
      refine (show zY 182 23 [some (zR (some 0)), some (zI x1)] [] h = gd (([] : List zV).isEmpty = true ∧ zrk 182 = 0) (some (.inl (none), h)) from zGo 1 182 23 _ _ _).trans ?_
      refine (gd_t (⟨rfl, rfl⟩) _).trans ?_
      rfl
    · skip
      refine (show zY 182 15 [some (zR (some 0)), some (zI x1)] [] h = some (.inr 3, (hNew h 0 6)) from zGo 1 182 15 _ _ _).trans ?_
      rfl
theorem q_B_requireDuty {h : zH} {x1 : Int} {p : Nat} (KC : KC h) (rp : hR h 132 2 = some p) (hp : PS h p) (g0 : (¬ (x1 < 0)) → (-2147483648 ≤ 3 * (hI h p 1) ∧ 3 * (hI h p 1) < 2147483648) := by omega) (g1 : (¬ (x1 < 0)) → (-2147483648 ≤ 1 + (3 * (hI h p 1)) ∧ 1 + (3 * (hI h p 1)) < 2147483648) := by omega) : zC 173 [zR (some 0), zI x1] h =
    if x1 < 0 then
      some (.inr 3, (hNew h 0 6))
    else
      if x1 < (f_D_count h p) then
        some (.inl (none), h)
      else
        some (.inr 3, (hNew h 0 6)) := by
  refine (show zC 173 [zR (some 0), zI x1] h = if x1 < 0 then zY 173 15 [some (zR (some 0)), some (zI x1)] [] h else zY 173 4 [some (zR (some 0)), some (zI x1)] [] h from zGo 2 173 0 _ _ _).trans ?_
  refine iteC (fun c0 => ?_) (fun c0 => ?_)
  · skip
    refine (show zY 173 15 [some (zR (some 0)), some (zI x1)] [] h = some (.inr 3, (hNew h 0 6)) from zGo 1 173 15 _ _ _).trans ?_
    rfl
  · skip
    refine (show zY 173 4 [some (zR (some 0)), some (zI x1)] [] h = gd (zob h (some 0) 11) (zY 173 9 [some (zR (some 0)), some (zI x1)] [zR (hR h 0 11), zI x1] h) from zGo 3 173 4 _ _ _).trans ?_
    refine (gd_t (⟨rfl, (PTC KC 0 _ rfl rfl), (PNC KC 0 rfl)⟩) _).trans ?_
    refine (congrArg (fun rz => zY 173 9 [some (zR (some 0)), some (zI x1)] (zR rz :: zI x1 :: []) h) (PRC KC 0 11 _ rfl)).trans ?_
    refine (show zY 173 9 [some (zR (some 0)), some (zI x1)] [zR (some 132), zI x1] h = gd (false = zctor 10 ∧ zcs [zI x1] ≤ 8 ∧ zrm 173 (zrf 10 + 1) (8 + (zmaxl 10 + 11) + zrl 10) = true ∧ zcs [zR (some 132)] ≤ zmaxl 10) (gd (zob h (some 132) 1) (zBack zY 173 9 12 [some (zR (some 0)), some (zI x1)] [zI x1] (zC 10 [zR (some 132)] h))) from zGo 1 173 9 _ _ _).trans ?_
    refine (gd_t (⟨rfl, Nat.le_of_ble_eq_true rfl, rfl, Nat.le_of_ble_eq_true rfl⟩) _).trans ?_
    refine (gd_t (⟨rfl, (PTC KC 132 _ rfl rfl), (PNC KC 132 rfl)⟩) _).trans ?_
    refine (congrArg (zBack zY 173 9 12 [some (zR (some 0)), some (zI x1)] [zI x1]) (e_D_count KC rp hp (g0 c0) (g1 c0))).trans ?_
    refine (show zY 173 12 [some (zR (some 0)), some (zI x1)] [zI (f_D_count h p), zI x1] h = if x1 < (f_D_count h p) then zY 173 23 [some (zR (some 0)), some (zI x1)] [] h else zY 173 15 [some (zR (some 0)), some (zI x1)] [] h from zGo 1 173 12 _ _ _).trans ?_
    refine iteC (fun c1 => ?_) (fun c1 => ?_)
    · skip
      refine (show zY 173 23 [some (zR (some 0)), some (zI x1)] [] h = gd (([] : List zV).isEmpty = true ∧ zrk 173 = 0) (some (.inl (none), h)) from zGo 1 173 23 _ _ _).trans ?_
      refine (gd_t (⟨rfl, rfl⟩) _).trans ?_
      rfl
    · skip
      refine (show zY 173 15 [some (zR (some 0)), some (zI x1)] [] h = some (.inr 3, (hNew h 0 6)) from zGo 1 173 15 _ _ _).trans ?_
      rfl
theorem q_B_errorCode {h : zH} (KC : KC h) : zC 147 [zR (some 0)] h =
    some (.inl (some (zI (hI h 0 4))), h) := by
  refine (show zC 147 [zR (some 0)] h = gd (zob h (some 0) 11) (gd (([] : List zV).isEmpty = true ∧ (zrk 147 = 1 ∨ zrk 147 = 6 ∧ (((hI h 0 4) : Int) = 0 ∨ ((hI h 0 4) : Int) = 1))) (some (.inl (some (zI (hI h 0 4))), h))) from zGo 3 147 0 _ _ _).trans ?_
  refine (gd_t (⟨rfl, (PTC KC 0 _ rfl rfl), (PNC KC 0 rfl)⟩) _).trans ?_
  refine (gd_t (⟨rfl, Or.inl rfl⟩) _).trans ?_
  rfl
theorem q_B_before {h : zH} (KC : KC h) : zC 149 [zR (some 0)] h =
    some (.inl (some (zJ (hJ h 90 0))), h) := by
  refine (show zC 149 [zR (some 0)] h = gd (zob h (some 0) 11) (zY 149 4 [some (zR (some 0))] [zR (hR h 0 9)] h) from zGo 2 149 0 _ _ _).trans ?_
  refine (gd_t (⟨rfl, (PTC KC 0 _ rfl rfl), (PNC KC 0 rfl)⟩) _).trans ?_
  refine (congrArg (fun rz => zY 149 4 [some (zR (some 0))] (zR rz :: []) h) (PRC KC 0 9 _ rfl)).trans ?_
  refine (show zY 149 4 [some (zR (some 0))] [zR (some 90)] h = gd (zob h (some 90) 8) (gd (([] : List zV).isEmpty = true ∧ zrk 149 = 2) (some (.inl (some (zJ (hJ h 90 0))), h))) from zGo 2 149 4 _ _ _).trans ?_
  refine (gd_t (⟨rfl, (PTC KC 90 _ rfl rfl), (PNC KC 90 rfl)⟩) _).trans ?_
  refine (gd_t (⟨rfl, rfl⟩) _).trans ?_
  rfl
theorem q_B_after {h : zH} (KC : KC h) : zC 150 [zR (some 0)] h =
    some (.inl (some (zJ (hJ h 90 1))), h) := by
  refine (show zC 150 [zR (some 0)] h = gd (zob h (some 0) 11) (zY 150 4 [some (zR (some 0))] [zR (hR h 0 9)] h) from zGo 2 150 0 _ _ _).trans ?_
  refine (gd_t (⟨rfl, (PTC KC 0 _ rfl rfl), (PNC KC 0 rfl)⟩) _).trans ?_
  refine (congrArg (fun rz => zY 150 4 [some (zR (some 0))] (zR rz :: []) h) (PRC KC 0 9 _ rfl)).trans ?_
  refine (show zY 150 4 [some (zR (some 0))] [zR (some 90)] h = gd (zob h (some 90) 8) (gd (([] : List zV).isEmpty = true ∧ zrk 150 = 2) (some (.inl (some (zJ (hJ h 90 1))), h))) from zGo 2 150 4 _ _ _).trans ?_
  refine (gd_t (⟨rfl, (PTC KC 90 _ rfl rfl), (PNC KC 90 rfl)⟩) _).trans ?_
  refine (gd_t (⟨rfl, rfl⟩) _).trans ?_
  rfl
theorem q_B_needAhead {h : zH} {p : Nat} (KC : KC h) (rp : hR h 0 13 = some p) (hp : PS h p) : zC 151 [zR (some 0)] h =
    some (.inl (some (zJ (f_D_ahead h (f_P_start h p)))), h) := by
  refine (show zC 151 [zR (some 0)] h = gd (zob h (some 0) 11) (zY 151 4 [some (zR (some 0))] [zR (hR h 0 11)] h) from zGo 2 151 0 _ _ _).trans ?_
  refine (gd_t (⟨rfl, (PTC KC 0 _ rfl rfl), (PNC KC 0 rfl)⟩) _).trans ?_
  refine (congrArg (fun rz => zY 151 4 [some (zR (some 0))] (zR rz :: []) h) (PRC KC 0 11 _ rfl)).trans ?_
  refine (show zY 151 4 [some (zR (some 0))] [zR (some 132)] h = gd (zob h (some 0) 11) (zY 151 8 [some (zR (some 0))] [zR (hR h 0 13), zR (some 132)] h) from zGo 2 151 4 _ _ _).trans ?_
  refine (gd_t (⟨rfl, (PTC KC 0 _ rfl rfl), (PNC KC 0 rfl)⟩) _).trans ?_
  refine (congrArg (fun rz => zY 151 8 [some (zR (some 0))] (zR rz :: zR (some 132) :: []) h) rp).trans ?_
  refine (show zY 151 8 [some (zR (some 0))] [zR (some p), zR (some 132)] h = gd (false = zctor 39 ∧ zcs [zR (some 132)] ≤ 8 ∧ zrm 151 (zrf 39 + 1) (8 + (zmaxl 39 + 11) + zrl 39) = true ∧ zcs [zR (some p)] ≤ zmaxl 39) (gd (zob h (some p) 5) (zBack zY 151 8 11 [some (zR (some 0))] [zR (some 132)] (zC 39 [zR (some p)] h))) from zGo 1 151 8 _ _ _).trans ?_
  refine (gd_t (⟨rfl, Nat.le_of_ble_eq_true rfl, rfl, Nat.le_of_ble_eq_true rfl⟩) _).trans ?_
  refine (gd_t (⟨rfl, hp.1, (PS_n hp)⟩) _).trans ?_
  refine (congrArg (zBack zY 151 8 11 [some (zR (some 0))] [zR (some 132)]) (e_P_start hp)).trans ?_
  refine (show zY 151 11 [some (zR (some 0))] [zI (f_P_start h p), zR (some 132)] h = gd (false = zctor 4 ∧ zcs [] ≤ 8 ∧ zrm 151 (zrf 4 + 1) (8 + (zmaxl 4 + 11) + zrl 4) = true ∧ zcs [zR (some 132), zI (f_P_start h p)] ≤ zmaxl 4) (gd (zob h (some 132) 1) (zBack zY 151 11 14 [some (zR (some 0))] [] (zC 4 [zR (some 132), zI (f_P_start h p)] h))) from zGo 1 151 11 _ _ _).trans ?_
  refine (gd_t (⟨rfl, Nat.le_of_ble_eq_true rfl, rfl, Nat.le_of_ble_eq_true rfl⟩) _).trans ?_
  refine (gd_t (⟨rfl, (PTC KC 132 _ rfl rfl), (PNC KC 132 rfl)⟩) _).trans ?_
  refine (congrArg (zBack zY 151 11 14 [some (zR (some 0))] []) (e_D_ahead KC)).trans ?_
  refine (show zY 151 14 [some (zR (some 0))] [zJ (f_D_ahead h (f_P_start h p))] h = gd (([] : List zV).isEmpty = true ∧ zrk 151 = 2) (some (.inl (some (zJ (f_D_ahead h (f_P_start h p)))), h)) from zGo 1 151 14 _ _ _).trans ?_
  refine (gd_t (⟨rfl, rfl⟩) _).trans ?_
  rfl
theorem q_B_trouble {h : zH} (KC : KC h) : zC 152 [zR (some 0)] h =
    zY 152 2 [some (zR (some 0)), some (zI 0)] [] h := by
  refine (show zC 152 [zR (some 0)] h = gd (inR (0)) (zY 152 2 [some (zR (some 0)), some (zI 0)] [] h) from zGo 2 152 0 _ _ _).trans ?_
  refine (gd_t (by decide) _).trans ?_
  rfl
theorem q_B_trouble_2 {h : zH} {x1 : Int} (KC : KC h) : zY 152 2 [some (zR (some 0)), some (zI x1)] [] h =
    if x1 < 73 then
      if (f_D_failingStates h x1) = 0#64 then
        gd (-2147483648 ≤ x1 + 1 ∧ x1 + 1 < 2147483648) (
        zY 152 2 [some (zR (some 0)), some (zI (x1 + 1))] [] h)
      else
        some (.inl (some (zI x1)), h)
    else
      some (.inl (some (zI (-1))), h) := by
  refine (show zY 152 2 [some (zR (some 0)), some (zI x1)] [] h = gd (-128 ≤ (73 : Int) ∧ (73 : Int) < 128) (if x1 < 73 then zY 152 8 [some (zR (some 0)), some (zI x1)] [] h else zY 152 29 [some (zR (some 0)), some (zI x1)] [] h) from zGo 3 152 2 _ _ _).trans ?_
  refine (gd_t (by decide) _).trans ?_
  refine iteC (fun c0 => ?_) (fun c0 => ?_)
  · skip
    refine (show zY 152 8 [some (zR (some 0)), some (zI x1)] [] h = gd (zob h (some 0) 11) (zY 152 12 [some (zR (some 0)), some (zI x1)] [zR (hR h 0 11)] h) from zGo 2 152 8 _ _ _).trans ?_
    refine (gd_t (⟨rfl, (PTC KC 0 _ rfl rfl), (PNC KC 0 rfl)⟩) _).trans ?_
    refine (congrArg (fun rz => zY 152 12 [some (zR (some 0)), some (zI x1)] (zR rz :: []) h) (PRC KC 0 11 _ rfl)).trans ?_
    refine (show zY 152 12 [some (zR (some 0)), some (zI x1)] [zR (some 132)] h = gd (false = zctor 9 ∧ zcs [] ≤ 8 ∧ zrm 152 (zrf 9 + 1) (8 + (zmaxl 9 + 11) + zrl 9) = true ∧ zcs [zR (some 132), zI x1] ≤ zmaxl 9) (gd (zob h (some 132) 1) (zBack zY 152 13 16 [some (zR (some 0)), some (zI x1)] [] (zC 9 [zR (some 132), zI x1] h))) from zGo 2 152 12 _ _ _).trans ?_
    refine (gd_t (⟨rfl, Nat.le_of_ble_eq_true rfl, rfl, Nat.le_of_ble_eq_true rfl⟩) _).trans ?_
    refine (gd_t (⟨rfl, (PTC KC 132 _ rfl rfl), (PNC KC 132 rfl)⟩) _).trans ?_
    refine (congrArg (zBack zY 152 13 16 [some (zR (some 0)), some (zI x1)] []) (e_D_failingStates KC)).trans ?_
    refine (show zY 152 16 [some (zR (some 0)), some (zI x1)] [zJ (f_D_failingStates h x1)] h = if (zlcmp (f_D_failingStates h x1) (0#64)) = 0 then zY 152 23 [some (zR (some 0)), some (zI x1)] [] h else zY 152 21 [some (zR (some 0)), some (zI x1)] [] h from zGo 3 152 16 _ _ _).trans ?_
    refine iteL (fun c1 => ?_) (fun c1 => ?_)
    · skip
      refine (show zY 152 23 [some (zR (some 0)), some (zI x1)] [] h = gd (inR (x1 + 1)) (gd (inR (1)) (zY 152 2 [some (zR (some 0)), some (zI (x1 + 1))] [] h)) from zGo 2 152 23 _ _ _).trans ?_
      refine gd_c Iff.rfl (fun c2 => ?_)
      refine (gd_t (by decide) _).trans ?_
      rfl
    · skip
      refine (show zY 152 21 [some (zR (some 0)), some (zI x1)] [] h = gd (([] : List zV).isEmpty = true ∧ (zrk 152 = 1 ∨ zrk 152 = 6 ∧ ((x1 : Int) = 0 ∨ (x1 : Int) = 1))) (some (.inl (some (zI x1)), h)) from zGo 2 152 21 _ _ _).trans ?_
      refine (gd_t (⟨rfl, Or.inl rfl⟩) _).trans ?_
      rfl
  · skip
    refine (show zY 152 29 [some (zR (some 0)), some (zI x1)] [] h = gd (inR (-1)) (gd (([] : List zV).isEmpty = true ∧ (zrk 152 = 1 ∨ zrk 152 = 6 ∧ (((-1) : Int) = 0 ∨ ((-1) : Int) = 1))) (some (.inl (some (zI (-1))), h))) from zGo 2 152 29 _ _ _).trans ?_
    refine (gd_t (by decide) _).trans ?_
    refine (gd_t (⟨rfl, Or.inl rfl⟩) _).trans ?_
    rfl
theorem q_B_wrong {h : zH} (KC : KC h) : zC 153 [zR (some 0)] h =
    zBack zY 153 4 7 [some (zR (some 0))] [] (zC 64 [zR (some 128)] h) := by
  refine (show zC 153 [zR (some 0)] h = gd (zob h (some 0) 11) (zY 153 4 [some (zR (some 0))] [zR (hR h 0 10)] h) from zGo 2 153 0 _ _ _).trans ?_
  refine (gd_t (⟨rfl, (PTC KC 0 _ rfl rfl), (PNC KC 0 rfl)⟩) _).trans ?_
  refine (congrArg (fun rz => zY 153 4 [some (zR (some 0))] (zR rz :: []) h) (PRC KC 0 10 _ rfl)).trans ?_
  refine (show zY 153 4 [some (zR (some 0))] [zR (some 128)] h = gd (false = zctor 64 ∧ zcs [] ≤ 8 ∧ zrm 153 (zrf 64 + 1) (8 + (zmaxl 64 + 11) + zrl 64) = true ∧ zcs [zR (some 128)] ≤ zmaxl 64) (gd (zob h (some 128) 6) (zBack zY 153 4 7 [some (zR (some 0))] [] (zC 64 [zR (some 128)] h))) from zGo 1 153 4 _ _ _).trans ?_
  refine (gd_t (⟨rfl, Nat.le_of_ble_eq_true rfl, rfl, Nat.le_of_ble_eq_true rfl⟩) _).trans ?_
  refine (gd_t (⟨rfl, (PTC KC 128 _ rfl rfl), (PNC KC 128 rfl)⟩) _).trans ?_
  rfl
theorem q_B_wrong_r7 {h : zH} {y : BitVec 64} (KC : KC h) : zBack zY 153 4 7 [some (zR (some 0))] [] (some (.inl (some (zJ y)), h)) =
    some (.inl (some (zJ y)), h) := by
  refine (show zBack zY 153 4 7 [some (zR (some 0))] [] (some (.inl (some (zJ y)), h)) = gd (([] : List zV).isEmpty = true ∧ zrk 153 = 2) (some (.inl (some (zJ y)), h)) from zGo 1 153 7 _ _ _).trans ?_
  refine (gd_t (⟨rfl, rfl⟩) _).trans ?_
  rfl
theorem q_B_dearest {h : zH} (KC : KC h) : zC 154 [zR (some 0)] h =
    zBack zY 154 4 7 [some (zR (some 0))] [] (zC 66 [zR (some 128)] h) := by
  refine (show zC 154 [zR (some 0)] h = gd (zob h (some 0) 11) (zY 154 4 [some (zR (some 0))] [zR (hR h 0 10)] h) from zGo 2 154 0 _ _ _).trans ?_
  refine (gd_t (⟨rfl, (PTC KC 0 _ rfl rfl), (PNC KC 0 rfl)⟩) _).trans ?_
  refine (congrArg (fun rz => zY 154 4 [some (zR (some 0))] (zR rz :: []) h) (PRC KC 0 10 _ rfl)).trans ?_
  refine (show zY 154 4 [some (zR (some 0))] [zR (some 128)] h = gd (false = zctor 66 ∧ zcs [] ≤ 8 ∧ zrm 154 (zrf 66 + 1) (8 + (zmaxl 66 + 11) + zrl 66) = true ∧ zcs [zR (some 128)] ≤ zmaxl 66) (gd (zob h (some 128) 6) (zBack zY 154 4 7 [some (zR (some 0))] [] (zC 66 [zR (some 128)] h))) from zGo 1 154 4 _ _ _).trans ?_
  refine (gd_t (⟨rfl, Nat.le_of_ble_eq_true rfl, rfl, Nat.le_of_ble_eq_true rfl⟩) _).trans ?_
  refine (gd_t (⟨rfl, (PTC KC 128 _ rfl rfl), (PNC KC 128 rfl)⟩) _).trans ?_
  rfl
theorem q_B_dearest_r7 {h : zH} {y : Int} (KC : KC h) : zBack zY 154 4 7 [some (zR (some 0))] [] (some (.inl (some (zI y)), h)) =
    some (.inl (some (zI y)), h) := by
  refine (show zBack zY 154 4 7 [some (zR (some 0))] [] (some (.inl (some (zI y)), h)) = gd (([] : List zV).isEmpty = true ∧ (zrk 154 = 1 ∨ zrk 154 = 6 ∧ ((y : Int) = 0 ∨ (y : Int) = 1))) (some (.inl (some (zI y)), h)) from zGo 1 154 7 _ _ _).trans ?_
  refine (gd_t (⟨rfl, Or.inl rfl⟩) _).trans ?_
  rfl
theorem q_B_meanCost {h : zH} (KC : KC h) : zC 155 [zR (some 0)] h =
    zBack zY 155 4 7 [some (zR (some 0))] [] (zC 73 [zR (some 128)] h) := by
  refine (show zC 155 [zR (some 0)] h = gd (zob h (some 0) 11) (zY 155 4 [some (zR (some 0))] [zR (hR h 0 10)] h) from zGo 2 155 0 _ _ _).trans ?_
  refine (gd_t (⟨rfl, (PTC KC 0 _ rfl rfl), (PNC KC 0 rfl)⟩) _).trans ?_
  refine (congrArg (fun rz => zY 155 4 [some (zR (some 0))] (zR rz :: []) h) (PRC KC 0 10 _ rfl)).trans ?_
  refine (show zY 155 4 [some (zR (some 0))] [zR (some 128)] h = gd (false = zctor 73 ∧ zcs [] ≤ 8 ∧ zrm 155 (zrf 73 + 1) (8 + (zmaxl 73 + 11) + zrl 73) = true ∧ zcs [zR (some 128)] ≤ zmaxl 73) (gd (zob h (some 128) 6) (zBack zY 155 4 7 [some (zR (some 0))] [] (zC 73 [zR (some 128)] h))) from zGo 1 155 4 _ _ _).trans ?_
  refine (gd_t (⟨rfl, Nat.le_of_ble_eq_true rfl, rfl, Nat.le_of_ble_eq_true rfl⟩) _).trans ?_
  refine (gd_t (⟨rfl, (PTC KC 128 _ rfl rfl), (PNC KC 128 rfl)⟩) _).trans ?_
  rfl
theorem q_B_meanCost_r7 {h : zH} {y : UInt64} (KC : KC h) : zBack zY 155 4 7 [some (zR (some 0))] [] (some (.inl (some (zD y)), h)) =
    some (.inl (some (zD y)), h) := by
  refine (show zBack zY 155 4 7 [some (zR (some 0))] [] (some (.inl (some (zD y)), h)) = gd (([] : List zV).isEmpty = true ∧ zrk 155 = 4) (some (.inl (some (zD y)), h)) from zGo 1 155 7 _ _ _).trans ?_
  refine (gd_t (⟨rfl, rfl⟩) _).trans ?_
  rfl
theorem q_B_meanBits {h : zH} (KC : KC h) : zC 156 [zR (some 0)] h =
    zBack zY 156 4 7 [some (zR (some 0))] [] (zC 73 [zR (some 128)] h) := by
  refine (show zC 156 [zR (some 0)] h = gd (zob h (some 0) 11) (zY 156 4 [some (zR (some 0))] [zR (hR h 0 10)] h) from zGo 2 156 0 _ _ _).trans ?_
  refine (gd_t (⟨rfl, (PTC KC 0 _ rfl rfl), (PNC KC 0 rfl)⟩) _).trans ?_
  refine (congrArg (fun rz => zY 156 4 [some (zR (some 0))] (zR rz :: []) h) (PRC KC 0 10 _ rfl)).trans ?_
  refine (show zY 156 4 [some (zR (some 0))] [zR (some 128)] h = gd (false = zctor 73 ∧ zcs [] ≤ 8 ∧ zrm 156 (zrf 73 + 1) (8 + (zmaxl 73 + 11) + zrl 73) = true ∧ zcs [zR (some 128)] ≤ zmaxl 73) (gd (zob h (some 128) 6) (zBack zY 156 4 7 [some (zR (some 0))] [] (zC 73 [zR (some 128)] h))) from zGo 1 156 4 _ _ _).trans ?_
  refine (gd_t (⟨rfl, Nat.le_of_ble_eq_true rfl, rfl, Nat.le_of_ble_eq_true rfl⟩) _).trans ?_
  refine (gd_t (⟨rfl, (PTC KC 128 _ rfl rfl), (PNC KC 128 rfl)⟩) _).trans ?_
  rfl
theorem q_B_meanBits_r7 {h : zH} {y : UInt64} (KC : KC h) : zBack zY 156 4 7 [some (zR (some 0))] [] (some (.inl (some (zD y)), h)) =
    zBack zY 156 7 10 [some (zR (some 0))] [] (zC 74 [zD y] h) := by
  refine (show zBack zY 156 4 7 [some (zR (some 0))] [] (some (.inl (some (zD y)), h)) = gd (false = zctor 74 ∧ zcs [] ≤ 8 ∧ zrm 156 (zrf 74 + 1) (8 + (zmaxl 74 + 11) + zrl 74) = true ∧ zcs [zD y] ≤ zmaxl 74) (zBack zY 156 7 10 [some (zR (some 0))] [] (zC 74 [zD y] h)) from zGo 1 156 7 _ _ _).trans ?_
  refine (gd_t (⟨rfl, Nat.le_of_ble_eq_true rfl, rfl, Nat.le_of_ble_eq_true rfl⟩) _).trans ?_
  rfl
theorem q_B_meanBits_r10 {h : zH} {y : BitVec 64} (KC : KC h) : zBack zY 156 7 10 [some (zR (some 0))] [] (some (.inl (some (zJ y)), h)) =
    some (.inl (some (zJ y)), h) := by
  refine (show zBack zY 156 7 10 [some (zR (some 0))] [] (some (.inl (some (zJ y)), h)) = gd (([] : List zV).isEmpty = true ∧ zrk 156 = 2) (some (.inl (some (zJ y)), h)) from zGo 1 156 10 _ _ _).trans ?_
  refine (gd_t (⟨rfl, rfl⟩) _).trans ?_
  rfl
theorem q_B_share {h : zH} {p : Nat} (KC : KC h) (rp : hR h 0 13 = some p) (hp : PS h p) : zC 157 [zR (some 0)] h =
    gd (zn32 (FP.fdiv (FP.i2f (Int32.ofInt (f_Lo_bitCount (f_D_ahead h (f_P_start h p))))) 1115684864) = true) (
    some (.inl (some (zF (FP.fdiv (FP.i2f (Int32.ofInt (f_Lo_bitCount (f_D_ahead h (f_P_start h p))))) 1115684864))), h)) := by
  refine (show zC 157 [zR (some 0)] h = gd (zob h (some 0) 11) (zY 157 4 [some (zR (some 0))] [zR (hR h 0 11)] h) from zGo 2 157 0 _ _ _).trans ?_
  refine (gd_t (⟨rfl, (PTC KC 0 _ rfl rfl), (PNC KC 0 rfl)⟩) _).trans ?_
  refine (congrArg (fun rz => zY 157 4 [some (zR (some 0))] (zR rz :: []) h) (PRC KC 0 11 _ rfl)).trans ?_
  refine (show zY 157 4 [some (zR (some 0))] [zR (some 132)] h = gd (zob h (some 0) 11) (zY 157 8 [some (zR (some 0))] [zR (hR h 0 13), zR (some 132)] h) from zGo 2 157 4 _ _ _).trans ?_
  refine (gd_t (⟨rfl, (PTC KC 0 _ rfl rfl), (PNC KC 0 rfl)⟩) _).trans ?_
  refine (congrArg (fun rz => zY 157 8 [some (zR (some 0))] (zR rz :: zR (some 132) :: []) h) rp).trans ?_
  refine (show zY 157 8 [some (zR (some 0))] [zR (some p), zR (some 132)] h = gd (false = zctor 39 ∧ zcs [zR (some 132)] ≤ 8 ∧ zrm 157 (zrf 39 + 1) (8 + (zmaxl 39 + 11) + zrl 39) = true ∧ zcs [zR (some p)] ≤ zmaxl 39) (gd (zob h (some p) 5) (zBack zY 157 8 11 [some (zR (some 0))] [zR (some 132)] (zC 39 [zR (some p)] h))) from zGo 1 157 8 _ _ _).trans ?_
  refine (gd_t (⟨rfl, Nat.le_of_ble_eq_true rfl, rfl, Nat.le_of_ble_eq_true rfl⟩) _).trans ?_
  refine (gd_t (⟨rfl, hp.1, (PS_n hp)⟩) _).trans ?_
  refine (congrArg (zBack zY 157 8 11 [some (zR (some 0))] [zR (some 132)]) (e_P_start hp)).trans ?_
  refine (show zY 157 11 [some (zR (some 0))] [zI (f_P_start h p), zR (some 132)] h = gd (false = zctor 4 ∧ zcs [] ≤ 8 ∧ zrm 157 (zrf 4 + 1) (8 + (zmaxl 4 + 11) + zrl 4) = true ∧ zcs [zR (some 132), zI (f_P_start h p)] ≤ zmaxl 4) (gd (zob h (some 132) 1) (zBack zY 157 11 14 [some (zR (some 0))] [] (zC 4 [zR (some 132), zI (f_P_start h p)] h))) from zGo 1 157 11 _ _ _).trans ?_
  refine (gd_t (⟨rfl, Nat.le_of_ble_eq_true rfl, rfl, Nat.le_of_ble_eq_true rfl⟩) _).trans ?_
  refine (gd_t (⟨rfl, (PTC KC 132 _ rfl rfl), (PNC KC 132 rfl)⟩) _).trans ?_
  refine (congrArg (zBack zY 157 11 14 [some (zR (some 0))] []) (e_D_ahead KC)).trans ?_
  refine (show zY 157 14 [some (zR (some 0))] [zJ (f_D_ahead h (f_P_start h p))] h = gd (false = zctor 226 ∧ zcs [] ≤ 8 ∧ zrm 157 (zrf 226 + 1) (8 + (zmaxl 226 + 11) + zrl 226) = true ∧ zcs [zJ (f_D_ahead h (f_P_start h p))] ≤ zmaxl 226) (zBack zY 157 14 17 [some (zR (some 0))] [] (zC 226 [zJ (f_D_ahead h (f_P_start h p))] h)) from zGo 1 157 14 _ _ _).trans ?_
  refine (gd_t (⟨rfl, Nat.le_of_ble_eq_true rfl, rfl, Nat.le_of_ble_eq_true rfl⟩) _).trans ?_
  refine (congrArg (zBack zY 157 14 17 [some (zR (some 0))] []) (e_Lo_bitCount)).trans ?_
  refine (show zY 157 17 [some (zR (some 0))] [zI (f_Lo_bitCount (f_D_ahead h (f_P_start h p)))] h = gd (zn32 (FP.fdiv (FP.i2f (Int32.ofInt (f_Lo_bitCount (f_D_ahead h (f_P_start h p))))) 1115684864) = true) (gd (([] : List zV).isEmpty = true ∧ zrk 157 = 3) (some (.inl (some (zF (FP.fdiv (FP.i2f (Int32.ofInt (f_Lo_bitCount (f_D_ahead h (f_P_start h p))))) 1115684864))), h))) from zGo 4 157 17 _ _ _).trans ?_
  refine gd_c Iff.rfl (fun c0 => ?_)
  refine (gd_t (⟨rfl, rfl⟩) _).trans ?_
  rfl
theorem q_B_appendInput {h : zH} {x1 : Int} (KC : KC h) : zC 159 [zR (some 0), zI x1] h =
    zY 159 3 [some (zR (some 0)), some (zI x1), some (zI 24)] [] h := by
  refine (show zC 159 [zR (some 0), zI x1] h = gd (-128 ≤ (24 : Int) ∧ (24 : Int) < 128) (zY 159 3 [some (zR (some 0)), some (zI x1), some (zI 24)] [] h) from zGo 2 159 0 _ _ _).trans ?_
  refine (gd_t (by decide) _).trans ?_
  rfl
theorem q_B_appendInput_3 {h : zH} {x1 : Int} {x2 : Int} (KC : KC h) : zY 159 3 [some (zR (some 0)), some (zI x1), some (zI x2)] [] h =
    if x2 < 0 then
      some (.inl (none), h)
    else
      if (hI h 0 1) < 0 then
        gd (-2147483648 ≤ x2 + (-8) ∧ x2 + (-8) < 2147483648) (
        zY 159 3 [some (zR (some 0)), some (zI x1), some (zI (x2 + (-8)))] [] h)
      else
        if (hI h 0 1) < 800 then
          gd (-2147483648 ≤ (hI h 0 1) + 1 ∧ (hI h 0 1) + 1 < 2147483648) (
          gd (-2147483648 ≤ x2 + (-8) ∧ x2 + (-8) < 2147483648) (
          zY 159 3 [some (zR (some 0)), some (zI x1), some (zI (x2 + (-8)))] [] (sI (sI h 1 (hI h 0 1).toNat (zi2b (zushr x1 x2))) 0 1 ((hI h 0 1) + 1))))
        else
          gd (-2147483648 ≤ x2 + (-8) ∧ x2 + (-8) < 2147483648) (
          zY 159 3 [some (zR (some 0)), some (zI x1), some (zI (x2 + (-8)))] [] h) := by
  refine (show zY 159 3 [some (zR (some 0)), some (zI x1), some (zI x2)] [] h = if x2 < 0 then zY 159 53 [some (zR (some 0)), some (zI x1), some (zI x2)] [] h else zY 159 7 [some (zR (some 0)), some (zI x1), some (zI x2)] [] h from zGo 2 159 3 _ _ _).trans ?_
  refine iteC (fun c0 => ?_) (fun c0 => ?_)
  · skip
    refine (show zY 159 53 [some (zR (some 0)), some (zI x1), some (zI x2)] [] h = gd (([] : List zV).isEmpty = true ∧ zrk 159 = 0) (some (.inl (none), h)) from zGo 1 159 53 _ _ _).trans ?_
    refine (gd_t (⟨rfl, rfl⟩) _).trans ?_
    rfl
  · skip
    refine (show zY 159 7 [some (zR (some 0)), some (zI x1), some (zI x2)] [] h = gd (zob h (some 0) 11) (if (hI h 0 1) < 0 then zY 159 47 [some (zR (some 0)), some (zI x1), some (zI x2)] [] h else zY 159 14 [some (zR (some 0)), some (zI x1), some (zI x2)] [] h) from zGo 3 159 7 _ _ _).trans ?_
    refine (gd_t (⟨rfl, (PTC KC 0 _ rfl rfl), (PNC KC 0 rfl)⟩) _).trans ?_
    refine iteC (fun c1 => ?_) (fun c1 => ?_)
    · skip
      refine (show zY 159 47 [some (zR (some 0)), some (zI x1), some (zI x2)] [] h = gd (inR (x2 + (-8))) (gd (inR (-8)) (zY 159 3 [some (zR (some 0)), some (zI x1), some (zI (x2 + (-8)))] [] h)) from zGo 2 159 47 _ _ _).trans ?_
      refine gd_c Iff.rfl (fun c2 => ?_)
      refine (gd_t (by decide) _).trans ?_
      rfl
    · skip
      refine (show zY 159 14 [some (zR (some 0)), some (zI x1), some (zI x2)] [] h = gd (zob h (some 0) 11) (gd (-32768 ≤ (800 : Int) ∧ (800 : Int) < 32768) (if (hI h 0 1) < 800 then zY 159 24 [some (zR (some 0)), some (zI x1), some (zI x2)] [] h else zY 159 47 [some (zR (some 0)), some (zI x1), some (zI x2)] [] h)) from zGo 4 159 14 _ _ _).trans ?_
      refine (gd_t (⟨rfl, (PTC KC 0 _ rfl rfl), (PNC KC 0 rfl)⟩) _).trans ?_
      refine (gd_t (by decide) _).trans ?_
      refine iteC (fun c3 => ?_) (fun c3 => ?_)
      · skip
        refine (show zY 159 24 [some (zR (some 0)), some (zI x1), some (zI x2)] [] h = gd (zob h (some 0) 11) (zY 159 28 [some (zR (some 0)), some (zI x1), some (zI x2)] [zR (hR h 0 0)] h) from zGo 2 159 24 _ _ _).trans ?_
        refine (gd_t (⟨rfl, (PTC KC 0 _ rfl rfl), (PNC KC 0 rfl)⟩) _).trans ?_
        refine (congrArg (fun rz => zY 159 28 [some (zR (some 0)), some (zI x1), some (zI x2)] (zR rz :: []) h) (PRC KC 0 0 _ rfl)).trans ?_
        refine (show zY 159 28 [some (zR (some 0)), some (zI x1), some (zI x2)] [zR (some 1)] h = gd (zob h (some 0) 11) (gd (zokw h (some 1) 21 (hI h 0 1) ∨ zokw h (some 1) 20 (hI h 0 1)) (gd (-128 ≤ ((zi2b (zushr x1 x2)) : Int) ∧ ((zi2b (zushr x1 x2)) : Int) < 128 ∧ (hT h (zdr (some 1)) = 20 → ((zi2b (zushr x1 x2)) : Int) = 0 ∨ ((zi2b (zushr x1 x2)) : Int) = 1)) (gd (zob (sI h 1 (hI h 0 1).toNat (zi2b (zushr x1 x2))) (some 0) 11) (gd (inR (1)) (gd (inR ((hI h 0 1) + 1)) (gd (zob (sI h 1 (hI h 0 1).toNat (zi2b (zushr x1 x2))) (some 0) 11) (gd (inR (x2 + (-8))) (gd (inR (-8)) (zY 159 3 [some (zR (some 0)), some (zI x1), some (zI (x2 + (-8)))] [] (sI (sI h 1 (hI h 0 1).toNat (zi2b (zushr x1 x2))) 0 1 ((hI h 0 1) + 1))))))))))) from zGo 15 159 28 _ _ _).trans ?_
        refine (gd_t (⟨rfl, (PTC KC 0 _ rfl rfl), (PNC KC 0 rfl)⟩) _).trans ?_
        refine (gd_t ((cib21 (PTC KC 1 _ rfl rfl) (PNC KC 1 rfl) (PLC KC 1 800 rfl rfl)).2 (by omega)) _).trans ?_
        refine (gd_t (⟨zi2b_l _, zi2b_u _, fun e => absurd (e.symm.trans (PTC KC 1 _ rfl rfl)) (by decide)⟩) _).trans ?_
        refine (gd_t (⟨rfl, (PTC KC 0 _ rfl rfl), (PNC KC 0 rfl)⟩) _).trans ?_
        refine (gd_t (by decide) _).trans ?_
        refine gd_c Iff.rfl (fun c4 => ?_)
        refine (gd_t (⟨rfl, (PTC KC 0 _ rfl rfl), (PNC KC 0 rfl)⟩) _).trans ?_
        refine gd_c Iff.rfl (fun c5 => ?_)
        refine (gd_t (by decide) _).trans ?_
        rfl
      · skip
        refine (show zY 159 47 [some (zR (some 0)), some (zI x1), some (zI x2)] [] h = gd (inR (x2 + (-8))) (gd (inR (-8)) (zY 159 3 [some (zR (some 0)), some (zI x1), some (zI (x2 + (-8)))] [] h)) from zGo 2 159 47 _ _ _).trans ?_
        refine gd_c Iff.rfl (fun c6 => ?_)
        refine (gd_t (by decide) _).trans ?_
        rfl
theorem q_B_feed {h : zH} {x1 : Int} {x2 : Int} {x3 : Int} {x4 : Int} {x5 : Int} (KC : KC h) : zC 158 [zR (some 0), zI x1, zI x2, zI x3, zI x4, zI x5] h =
    gd (-2147483648 ≤ (hI h 0 1) + 20 ∧ (hI h 0 1) + 20 < 2147483648) (
    if 800 < ((hI h 0 1) + 20) then
      some (.inr 1, (hNew h 0 6))
    else
      zBack zY 158 23 26 [some (zR (some 0)), some (zI x1), some (zI x2), some (zI x3), some (zI x4), some (zI x5)] [] (zC 159 [zR (some 0), zI x1] h)) := by
  refine (show zC 158 [zR (some 0), zI x1, zI x2, zI x3, zI x4, zI x5] h = gd (zob h (some 0) 11) (gd (-128 ≤ (20 : Int) ∧ (20 : Int) < 128) (gd (inR ((hI h 0 1) + 20)) (gd (-32768 ≤ (800 : Int) ∧ (800 : Int) < 32768) (if 800 < ((hI h 0 1) + 20) then zY 158 13 [some (zR (some 0)), some (zI x1), some (zI x2), some (zI x3), some (zI x4), some (zI x5)] [] h else zY 158 21 [some (zR (some 0)), some (zI x1), some (zI x2), some (zI x3), some (zI x4), some (zI x5)] [] h)))) from zGo 6 158 0 _ _ _).trans ?_
  refine (gd_t (⟨rfl, (PTC KC 0 _ rfl rfl), (PNC KC 0 rfl)⟩) _).trans ?_
  refine (gd_t (by decide) _).trans ?_
  refine gd_c Iff.rfl (fun c0 => ?_)
  refine (gd_t (by decide) _).trans ?_
  refine iteC (fun c1 => ?_) (fun c1 => ?_)
  · skip
    refine (show zY 158 13 [some (zR (some 0)), some (zI x1), some (zI x2), some (zI x3), some (zI x4), some (zI x5)] [] h = some (.inr 1, (hNew h 0 6)) from zGo 1 158 13 _ _ _).trans ?_
    rfl
  · skip
    refine (show zY 158 21 [some (zR (some 0)), some (zI x1), some (zI x2), some (zI x3), some (zI x4), some (zI x5)] [] h = gd (false = zctor 159 ∧ zcs [] ≤ 8 ∧ zrm 158 (zrf 159 + 1) (8 + (zmaxl 159 + 11) + zrl 159) = true ∧ zcs [zR (some 0), zI x1] ≤ zmaxl 159) (gd (zob h (some 0) 11) (zBack zY 158 23 26 [some (zR (some 0)), some (zI x1), some (zI x2), some (zI x3), some (zI x4), some (zI x5)] [] (zC 159 [zR (some 0), zI x1] h))) from zGo 3 158 21 _ _ _).trans ?_
    refine (gd_t (⟨rfl, Nat.le_of_ble_eq_true rfl, rfl, Nat.le_of_ble_eq_true rfl⟩) _).trans ?_
    refine (gd_t (⟨rfl, (PTC KC 0 _ rfl rfl), (PNC KC 0 rfl)⟩) _).trans ?_
    rfl
theorem q_B_feed_r26 {h : zH} {x1 : Int} {x2 : Int} {x3 : Int} {x4 : Int} {x5 : Int} (KC : KC h) : zBack zY 158 23 26 [some (zR (some 0)), some (zI x1), some (zI x2), some (zI x3), some (zI x4), some (zI x5)] [] (some (.inl (none), h)) =
    zBack zY 158 28 31 [some (zR (some 0)), some (zI x1), some (zI x2), some (zI x3), some (zI x4), some (zI x5)] [] (zC 159 [zR (some 0), zI x2] h) := by
  refine (show zBack zY 158 23 26 [some (zR (some 0)), some (zI x1), some (zI x2), some (zI x3), some (zI x4), some (zI x5)] [] (some (.inl (none), h)) = gd (false = zctor 159 ∧ zcs [] ≤ 8 ∧ zrm 158 (zrf 159 + 1) (8 + (zmaxl 159 + 11) + zrl 159) = true ∧ zcs [zR (some 0), zI x2] ≤ zmaxl 159) (gd (zob h (some 0) 11) (zBack zY 158 28 31 [some (zR (some 0)), some (zI x1), some (zI x2), some (zI x3), some (zI x4), some (zI x5)] [] (zC 159 [zR (some 0), zI x2] h))) from zGo 3 158 26 _ _ _).trans ?_
  refine (gd_t (⟨rfl, Nat.le_of_ble_eq_true rfl, rfl, Nat.le_of_ble_eq_true rfl⟩) _).trans ?_
  refine (gd_t (⟨rfl, (PTC KC 0 _ rfl rfl), (PNC KC 0 rfl)⟩) _).trans ?_
  rfl
theorem q_B_feed_r31 {h : zH} {x1 : Int} {x2 : Int} {x3 : Int} {x4 : Int} {x5 : Int} (KC : KC h) : zBack zY 158 28 31 [some (zR (some 0)), some (zI x1), some (zI x2), some (zI x3), some (zI x4), some (zI x5)] [] (some (.inl (none), h)) =
    zBack zY 158 33 36 [some (zR (some 0)), some (zI x1), some (zI x2), some (zI x3), some (zI x4), some (zI x5)] [] (zC 159 [zR (some 0), zI x3] h) := by
  refine (show zBack zY 158 28 31 [some (zR (some 0)), some (zI x1), some (zI x2), some (zI x3), some (zI x4), some (zI x5)] [] (some (.inl (none), h)) = gd (false = zctor 159 ∧ zcs [] ≤ 8 ∧ zrm 158 (zrf 159 + 1) (8 + (zmaxl 159 + 11) + zrl 159) = true ∧ zcs [zR (some 0), zI x3] ≤ zmaxl 159) (gd (zob h (some 0) 11) (zBack zY 158 33 36 [some (zR (some 0)), some (zI x1), some (zI x2), some (zI x3), some (zI x4), some (zI x5)] [] (zC 159 [zR (some 0), zI x3] h))) from zGo 3 158 31 _ _ _).trans ?_
  refine (gd_t (⟨rfl, Nat.le_of_ble_eq_true rfl, rfl, Nat.le_of_ble_eq_true rfl⟩) _).trans ?_
  refine (gd_t (⟨rfl, (PTC KC 0 _ rfl rfl), (PNC KC 0 rfl)⟩) _).trans ?_
  rfl
theorem q_B_feed_r36 {h : zH} {x1 : Int} {x2 : Int} {x3 : Int} {x4 : Int} {x5 : Int} (KC : KC h) : zBack zY 158 33 36 [some (zR (some 0)), some (zI x1), some (zI x2), some (zI x3), some (zI x4), some (zI x5)] [] (some (.inl (none), h)) =
    zBack zY 158 39 42 [some (zR (some 0)), some (zI x1), some (zI x2), some (zI x3), some (zI x4), some (zI x5)] [] (zC 159 [zR (some 0), zI x4] h) := by
  refine (show zBack zY 158 33 36 [some (zR (some 0)), some (zI x1), some (zI x2), some (zI x3), some (zI x4), some (zI x5)] [] (some (.inl (none), h)) = gd (false = zctor 159 ∧ zcs [] ≤ 8 ∧ zrm 158 (zrf 159 + 1) (8 + (zmaxl 159 + 11) + zrl 159) = true ∧ zcs [zR (some 0), zI x4] ≤ zmaxl 159) (gd (zob h (some 0) 11) (zBack zY 158 39 42 [some (zR (some 0)), some (zI x1), some (zI x2), some (zI x3), some (zI x4), some (zI x5)] [] (zC 159 [zR (some 0), zI x4] h))) from zGo 3 158 36 _ _ _).trans ?_
  refine (gd_t (⟨rfl, Nat.le_of_ble_eq_true rfl, rfl, Nat.le_of_ble_eq_true rfl⟩) _).trans ?_
  refine (gd_t (⟨rfl, (PTC KC 0 _ rfl rfl), (PNC KC 0 rfl)⟩) _).trans ?_
  rfl
theorem q_B_feed_r42 {h : zH} {x1 : Int} {x2 : Int} {x3 : Int} {x4 : Int} {x5 : Int} (KC : KC h) : zBack zY 158 39 42 [some (zR (some 0)), some (zI x1), some (zI x2), some (zI x3), some (zI x4), some (zI x5)] [] (some (.inl (none), h)) =
    zBack zY 158 45 48 [some (zR (some 0)), some (zI x1), some (zI x2), some (zI x3), some (zI x4), some (zI x5)] [] (zC 159 [zR (some 0), zI x5] h) := by
  refine (show zBack zY 158 39 42 [some (zR (some 0)), some (zI x1), some (zI x2), some (zI x3), some (zI x4), some (zI x5)] [] (some (.inl (none), h)) = gd (false = zctor 159 ∧ zcs [] ≤ 8 ∧ zrm 158 (zrf 159 + 1) (8 + (zmaxl 159 + 11) + zrl 159) = true ∧ zcs [zR (some 0), zI x5] ≤ zmaxl 159) (gd (zob h (some 0) 11) (zBack zY 158 45 48 [some (zR (some 0)), some (zI x1), some (zI x2), some (zI x3), some (zI x4), some (zI x5)] [] (zC 159 [zR (some 0), zI x5] h))) from zGo 3 158 42 _ _ _).trans ?_
  refine (gd_t (⟨rfl, Nat.le_of_ble_eq_true rfl, rfl, Nat.le_of_ble_eq_true rfl⟩) _).trans ?_
  refine (gd_t (⟨rfl, (PTC KC 0 _ rfl rfl), (PNC KC 0 rfl)⟩) _).trans ?_
  rfl
theorem q_B_feed_r48 {h : zH} {x1 : Int} {x2 : Int} {x3 : Int} {x4 : Int} {x5 : Int} (KC : KC h) : zBack zY 158 45 48 [some (zR (some 0)), some (zI x1), some (zI x2), some (zI x3), some (zI x4), some (zI x5)] [] (some (.inl (none), h)) =
    some (.inl (some (zI (hI h 0 1))), h) := by
  refine (show zBack zY 158 45 48 [some (zR (some 0)), some (zI x1), some (zI x2), some (zI x3), some (zI x4), some (zI x5)] [] (some (.inl (none), h)) = gd (zob h (some 0) 11) (gd (([] : List zV).isEmpty = true ∧ (zrk 158 = 1 ∨ zrk 158 = 6 ∧ (((hI h 0 1) : Int) = 0 ∨ ((hI h 0 1) : Int) = 1))) (some (.inl (some (zI (hI h 0 1))), h))) from zGo 3 158 48 _ _ _).trans ?_
  refine (gd_t (⟨rfl, (PTC KC 0 _ rfl rfl), (PNC KC 0 rfl)⟩) _).trans ?_
  refine (gd_t (⟨rfl, Or.inl rfl⟩) _).trans ?_
  rfl
theorem q_B_closeInput {h : zH} (KC : KC h) : zC 162 [zR (some 0)] h =
    zY 162 5 [some (zR (some 0))] [] (sI h 0 1 0) := by
  refine (show zC 162 [zR (some 0)] h = gd (inR (0)) (gd (zob h (some 0) 11) (zY 162 5 [some (zR (some 0))] [] (sI h 0 1 0))) from zGo 3 162 0 _ _ _).trans ?_
  refine (gd_t (by decide) _).trans ?_
  refine (gd_t (⟨rfl, (PTC KC 0 _ rfl rfl), (PNC KC 0 rfl)⟩) _).trans ?_
  rfl
theorem q_B_closeInput_5 {h : zH} (KC : KC h) : zY 162 5 [some (zR (some 0))] [] h =
    zY 162 16 [some (zR (some 0))] [] (sI h 0 4 (hI h 5 0)) := by
  refine (show zY 162 5 [some (zR (some 0))] [] h = gd (zob h (some 0) 11) (zY 162 10 [some (zR (some 0))] [zR (hR h 0 7), zR (some 0)] h) from zGo 3 162 5 _ _ _).trans ?_
  refine (gd_t (⟨rfl, (PTC KC 0 _ rfl rfl), (PNC KC 0 rfl)⟩) _).trans ?_
  refine (congrArg (fun rz => zY 162 10 [some (zR (some 0))] (zR rz :: zR (some 0) :: []) h) (PRC KC 0 7 _ rfl)).trans ?_
  refine (show zY 162 10 [some (zR (some 0))] [zR (some 5), zR (some 0)] h = gd (zob h (some 5) 4) (gd (zob h (some 0) 11) (zY 162 16 [some (zR (some 0))] [] (sI h 0 4 (hI h 5 0)))) from zGo 2 162 10 _ _ _).trans ?_
  refine (gd_t (⟨rfl, (PTC KC 5 _ rfl rfl), (PNC KC 5 rfl)⟩) _).trans ?_
  refine (gd_t (⟨rfl, (PTC KC 0 _ rfl rfl), (PNC KC 0 rfl)⟩) _).trans ?_
  rfl
theorem q_B_closeInput_16 {h : zH} (KC : KC h) : zY 162 16 [some (zR (some 0))] [] h =
    zY 162 27 [some (zR (some 0))] [] (sI h 0 5 (hI h 5 1)) := by
  refine (show zY 162 16 [some (zR (some 0))] [] h = gd (zob h (some 0) 11) (zY 162 21 [some (zR (some 0))] [zR (hR h 0 7), zR (some 0)] h) from zGo 3 162 16 _ _ _).trans ?_
  refine (gd_t (⟨rfl, (PTC KC 0 _ rfl rfl), (PNC KC 0 rfl)⟩) _).trans ?_
  refine (congrArg (fun rz => zY 162 21 [some (zR (some 0))] (zR rz :: zR (some 0) :: []) h) (PRC KC 0 7 _ rfl)).trans ?_
  refine (show zY 162 21 [some (zR (some 0))] [zR (some 5), zR (some 0)] h = gd (zob h (some 5) 4) (gd (zob h (some 0) 11) (zY 162 27 [some (zR (some 0))] [] (sI h 0 5 (hI h 5 1)))) from zGo 2 162 21 _ _ _).trans ?_
  refine (gd_t (⟨rfl, (PTC KC 5 _ rfl rfl), (PNC KC 5 rfl)⟩) _).trans ?_
  refine (gd_t (⟨rfl, (PTC KC 0 _ rfl rfl), (PNC KC 0 rfl)⟩) _).trans ?_
  rfl
theorem q_B_closeInput_27 {h : zH} (KC : KC h) : zY 162 27 [some (zR (some 0))] [] h =
    if (hI h 0 4) = 0 then
      some (.inl (none), h)
    else
      some (.inr 1, (hNew h 0 6)) := by
  refine (show zY 162 27 [some (zR (some 0))] [] h = gd (zob h (some 0) 11) (if (hI h 0 4) = 0 then zY 162 42 [some (zR (some 0))] [] h else zY 162 34 [some (zR (some 0))] [] h) from zGo 3 162 27 _ _ _).trans ?_
  refine (gd_t (⟨rfl, (PTC KC 0 _ rfl rfl), (PNC KC 0 rfl)⟩) _).trans ?_
  refine iteC (fun c0 => ?_) (fun c0 => ?_)
  · skip
    refine (show zY 162 42 [some (zR (some 0))] [] h = gd (([] : List zV).isEmpty = true ∧ zrk 162 = 0) (some (.inl (none), h)) from zGo 1 162 42 _ _ _).trans ?_
    refine (gd_t (⟨rfl, rfl⟩) _).trans ?_
    rfl
  · skip
    refine (show zY 162 34 [some (zR (some 0))] [] h = some (.inr 1, (hNew h 0 6)) from zGo 1 162 34 _ _ _).trans ?_
    rfl
theorem q_nodes_tail {h : zH} {x1 x3 a b c y : Int} : zY 166 56 [some (zR (some 0)), some (zI x1), some (zI y), some (zI x3)] [zI a, zI b, zI c] h = gd (inR (b + a)) (gd (inR (c + (b + a))) (gd (([] : List zV).isEmpty = true ∧ (zrk 166 = 1 ∨ zrk 166 = 6 ∧ (((c + (b + a)) : Int) = 0 ∨ ((c + (b + a)) : Int) = 1))) (some (.inl (some (zI (c + (b + a)))), h)))) := zGo 5 166 56 _ _ _
theorem q_B_nodesOf {h : zH} {x1 : Int} {p : Nat} {f : Nat} {v : Nat} {f2 : Nat} {f3 : Nat} (KC : KC h) (rp : hR h 0 13 = some p) (hp : PS h p) (rf : (f_P_partOf h p x1) = some f) (hf : FS h f) (rv : hR h 0 14 = some v) (hv : VS h v) (rf2 : (f_V_keepOf h v (f_P_numberOf h p x1)) = some f2) (hf2 : FS h f2) (rf3 : (f_V_lessOf h v (f_P_numberOf h p x1)) = some f3) (hf3 : FS h f3) : zC 166 [zR (some 0), zI x1] h =
    if (f_P_kindOf h p x1) = 2 then
      gd (-2147483648 ≤ (f_Fo_size h f2) + (f_Fo_size h f3) ∧ (f_Fo_size h f2) + (f_Fo_size h f3) < 2147483648) (
      gd (-2147483648 ≤ (f_Fo_size h f) + ((f_Fo_size h f2) + (f_Fo_size h f3)) ∧ (f_Fo_size h f) + ((f_Fo_size h f2) + (f_Fo_size h f3)) < 2147483648) (
      some (.inl (some (zI ((f_Fo_size h f) + ((f_Fo_size h f2) + (f_Fo_size h f3))))), h)))
    else
      some (.inl (some (zI (f_Fo_size h f))), h) := by
  refine (show zC 166 [zR (some 0), zI x1] h = gd (zob h (some 0) 11) (zY 166 4 [some (zR (some 0)), some (zI x1), none, none] [zR (hR h 0 13)] h) from zGo 2 166 0 _ _ _).trans ?_
  refine (gd_t (⟨rfl, (PTC KC 0 _ rfl rfl), (PNC KC 0 rfl)⟩) _).trans ?_
  refine (congrArg (fun rz => zY 166 4 [some (zR (some 0)), some (zI x1), none, none] (zR rz :: []) h) rp).trans ?_
  refine (show zY 166 4 [some (zR (some 0)), some (zI x1), none, none] [zR (some p)] h = gd (false = zctor 52 ∧ zcs [] ≤ 8 ∧ zrm 166 (zrf 52 + 1) (8 + (zmaxl 52 + 11) + zrl 52) = true ∧ zcs [zR (some p), zI x1] ≤ zmaxl 52) (gd (zob h (some p) 5) (zBack zY 166 5 8 [some (zR (some 0)), some (zI x1), none, none] [] (zC 52 [zR (some p), zI x1] h))) from zGo 2 166 4 _ _ _).trans ?_
  refine (gd_t (⟨rfl, Nat.le_of_ble_eq_true rfl, rfl, Nat.le_of_ble_eq_true rfl⟩) _).trans ?_
  refine (gd_t (⟨rfl, hp.1, (PS_n hp)⟩) _).trans ?_
  refine (congrArg (zBack zY 166 5 8 [some (zR (some 0)), some (zI x1), none, none] []) (e_P_partOf hp)).trans ?_
  refine (congrArg (fun rz => zBack zY 166 5 8 [some (zR (some 0)), some (zI x1), none, none] [] (some (.inl (some (zR rz)), h))) rf).trans ?_
  refine (show zY 166 8 [some (zR (some 0)), some (zI x1), none, none] [zR (some f)] h = gd (false = zctor 14 ∧ zcs [] ≤ 8 ∧ zrm 166 (zrf 14 + 1) (8 + (zmaxl 14 + 11) + zrl 14) = true ∧ zcs [zR (some f)] ≤ zmaxl 14) (gd (zob h (some f) 2) (zBack zY 166 8 11 [some (zR (some 0)), some (zI x1), none, none] [] (zC 14 [zR (some f)] h))) from zGo 1 166 8 _ _ _).trans ?_
  refine (gd_t (⟨rfl, Nat.le_of_ble_eq_true rfl, rfl, Nat.le_of_ble_eq_true rfl⟩) _).trans ?_
  refine (gd_t (⟨rfl, hf.1, (FS_n hf)⟩) _).trans ?_
  refine (congrArg (zBack zY 166 8 11 [some (zR (some 0)), some (zI x1), none, none] []) (e_Fo_size hf)).trans ?_
  refine (show zY 166 11 [some (zR (some 0)), some (zI x1), none, none] [zI (f_Fo_size h f)] h = gd (zob h (some 0) 11) (zY 166 16 [some (zR (some 0)), some (zI x1), some (zI (f_Fo_size h f)), none] [zR (hR h 0 13)] h) from zGo 3 166 11 _ _ _).trans ?_
  refine (gd_t (⟨rfl, (PTC KC 0 _ rfl rfl), (PNC KC 0 rfl)⟩) _).trans ?_
  refine (congrArg (fun rz => zY 166 16 [some (zR (some 0)), some (zI x1), some (zI (f_Fo_size h f)), none] (zR rz :: []) h) rp).trans ?_
  refine (show zY 166 16 [some (zR (some 0)), some (zI x1), some (zI (f_Fo_size h f)), none] [zR (some p)] h = gd (false = zctor 36 ∧ zcs [] ≤ 8 ∧ zrm 166 (zrf 36 + 1) (8 + (zmaxl 36 + 11) + zrl 36) = true ∧ zcs [zR (some p), zI x1] ≤ zmaxl 36) (gd (zob h (some p) 5) (zBack zY 166 17 20 [some (zR (some 0)), some (zI x1), some (zI (f_Fo_size h f)), none] [] (zC 36 [zR (some p), zI x1] h))) from zGo 2 166 16 _ _ _).trans ?_
  refine (gd_t (⟨rfl, Nat.le_of_ble_eq_true rfl, rfl, Nat.le_of_ble_eq_true rfl⟩) _).trans ?_
  refine (gd_t (⟨rfl, hp.1, (PS_n hp)⟩) _).trans ?_
  refine (congrArg (zBack zY 166 17 20 [some (zR (some 0)), some (zI x1), some (zI (f_Fo_size h f)), none] []) (e_P_kindOf hp)).trans ?_
  refine (show zY 166 20 [some (zR (some 0)), some (zI x1), some (zI (f_Fo_size h f)), none] [zI (f_P_kindOf h p x1)] h = gd (inR (2)) (if (f_P_kindOf h p x1) = 2 then zY 166 24 [some (zR (some 0)), some (zI x1), some (zI (f_Fo_size h f)), none] [] h else zY 166 59 [some (zR (some 0)), some (zI x1), some (zI (f_Fo_size h f)), none] [] h) from zGo 2 166 20 _ _ _).trans ?_
  refine (gd_t (by decide) _).trans ?_
  refine iteC (fun c0 => ?_) (fun c0 => ?_)
  · skip
    refine (show zY 166 24 [some (zR (some 0)), some (zI x1), some (zI (f_Fo_size h f)), none] [] h = gd (zob h (some 0) 11) (zY 166 28 [some (zR (some 0)), some (zI x1), some (zI (f_Fo_size h f)), none] [zR (hR h 0 13)] h) from zGo 2 166 24 _ _ _).trans ?_
    refine (gd_t (⟨rfl, (PTC KC 0 _ rfl rfl), (PNC KC 0 rfl)⟩) _).trans ?_
    refine (congrArg (fun rz => zY 166 28 [some (zR (some 0)), some (zI x1), some (zI (f_Fo_size h f)), none] (zR rz :: []) h) rp).trans ?_
    refine (show zY 166 28 [some (zR (some 0)), some (zI x1), some (zI (f_Fo_size h f)), none] [zR (some p)] h = gd (false = zctor 46 ∧ zcs [] ≤ 8 ∧ zrm 166 (zrf 46 + 1) (8 + (zmaxl 46 + 11) + zrl 46) = true ∧ zcs [zR (some p), zI x1] ≤ zmaxl 46) (gd (zob h (some p) 5) (zBack zY 166 29 32 [some (zR (some 0)), some (zI x1), some (zI (f_Fo_size h f)), none] [] (zC 46 [zR (some p), zI x1] h))) from zGo 2 166 28 _ _ _).trans ?_
    refine (gd_t (⟨rfl, Nat.le_of_ble_eq_true rfl, rfl, Nat.le_of_ble_eq_true rfl⟩) _).trans ?_
    refine (gd_t (⟨rfl, hp.1, (PS_n hp)⟩) _).trans ?_
    refine (congrArg (zBack zY 166 29 32 [some (zR (some 0)), some (zI x1), some (zI (f_Fo_size h f)), none] []) (e_P_numberOf hp)).trans ?_
    refine (show zY 166 32 [some (zR (some 0)), some (zI x1), some (zI (f_Fo_size h f)), none] [zI (f_P_numberOf h p x1)] h = gd (zob h (some 0) 11) (zY 166 38 [some (zR (some 0)), some (zI x1), some (zI (f_Fo_size h f)), some (zI (f_P_numberOf h p x1))] [zR (hR h 0 14), zI (f_Fo_size h f)] h) from zGo 4 166 32 _ _ _).trans ?_
    refine (gd_t (⟨rfl, (PTC KC 0 _ rfl rfl), (PNC KC 0 rfl)⟩) _).trans ?_
    refine (congrArg (fun rz => zY 166 38 [some (zR (some 0)), some (zI x1), some (zI (f_Fo_size h f)), some (zI (f_P_numberOf h p x1))] (zR rz :: zI (f_Fo_size h f) :: []) h) rv).trans ?_
    refine (show zY 166 38 [some (zR (some 0)), some (zI x1), some (zI (f_Fo_size h f)), some (zI (f_P_numberOf h p x1))] [zR (some v), zI (f_Fo_size h f)] h = gd (false = zctor 129 ∧ zcs [zI (f_Fo_size h f)] ≤ 8 ∧ zrm 166 (zrf 129 + 1) (8 + (zmaxl 129 + 11) + zrl 129) = true ∧ zcs [zR (some v), zI (f_P_numberOf h p x1)] ≤ zmaxl 129) (gd (zob h (some v) 10) (zBack zY 166 39 42 [some (zR (some 0)), some (zI x1), some (zI (f_Fo_size h f)), some (zI (f_P_numberOf h p x1))] [zI (f_Fo_size h f)] (zC 129 [zR (some v), zI (f_P_numberOf h p x1)] h))) from zGo 2 166 38 _ _ _).trans ?_
    refine (gd_t (⟨rfl, Nat.le_of_ble_eq_true rfl, rfl, Nat.le_of_ble_eq_true rfl⟩) _).trans ?_
    refine (gd_t (⟨rfl, hv.1, (VS_n hv)⟩) _).trans ?_
    refine (congrArg (zBack zY 166 39 42 [some (zR (some 0)), some (zI x1), some (zI (f_Fo_size h f)), some (zI (f_P_numberOf h p x1))] [zI (f_Fo_size h f)]) (e_V_keepOf hv)).trans ?_
    refine (congrArg (fun rz => zBack zY 166 39 42 [some (zR (some 0)), some (zI x1), some (zI (f_Fo_size h f)), some (zI (f_P_numberOf h p x1))] [zI (f_Fo_size h f)] (some (.inl (some (zR rz)), h))) rf2).trans ?_
    refine (show zY 166 42 [some (zR (some 0)), some (zI x1), some (zI (f_Fo_size h f)), some (zI (f_P_numberOf h p x1))] [zR (some f2), zI (f_Fo_size h f)] h = gd (false = zctor 14 ∧ zcs [zI (f_Fo_size h f)] ≤ 8 ∧ zrm 166 (zrf 14 + 1) (8 + (zmaxl 14 + 11) + zrl 14) = true ∧ zcs [zR (some f2)] ≤ zmaxl 14) (gd (zob h (some f2) 2) (zBack zY 166 42 45 [some (zR (some 0)), some (zI x1), some (zI (f_Fo_size h f)), some (zI (f_P_numberOf h p x1))] [zI (f_Fo_size h f)] (zC 14 [zR (some f2)] h))) from zGo 1 166 42 _ _ _).trans ?_
    refine (gd_t (⟨rfl, Nat.le_of_ble_eq_true rfl, rfl, Nat.le_of_ble_eq_true rfl⟩) _).trans ?_
    refine (gd_t (⟨rfl, hf2.1, (FS_n hf2)⟩) _).trans ?_
    refine (congrArg (zBack zY 166 42 45 [some (zR (some 0)), some (zI x1), some (zI (f_Fo_size h f)), some (zI (f_P_numberOf h p x1))] [zI (f_Fo_size h f)]) (e_Fo_size hf2)).trans ?_
    refine (show zY 166 45 [some (zR (some 0)), some (zI x1), some (zI (f_Fo_size h f)), some (zI (f_P_numberOf h p x1))] [zI (f_Fo_size h f2), zI (f_Fo_size h f)] h = gd (zob h (some 0) 11) (zY 166 49 [some (zR (some 0)), some (zI x1), some (zI (f_Fo_size h f)), some (zI (f_P_numberOf h p x1))] [zR (hR h 0 14), zI (f_Fo_size h f2), zI (f_Fo_size h f)] h) from zGo 2 166 45 _ _ _).trans ?_
    refine (gd_t (⟨rfl, (PTC KC 0 _ rfl rfl), (PNC KC 0 rfl)⟩) _).trans ?_
    refine (congrArg (fun rz => zY 166 49 [some (zR (some 0)), some (zI x1), some (zI (f_Fo_size h f)), some (zI (f_P_numberOf h p x1))] (zR rz :: zI (f_Fo_size h f2) :: zI (f_Fo_size h f) :: []) h) rv).trans ?_
    refine (show zY 166 49 [some (zR (some 0)), some (zI x1), some (zI (f_Fo_size h f)), some (zI (f_P_numberOf h p x1))] [zR (some v), zI (f_Fo_size h f2), zI (f_Fo_size h f)] h = gd (false = zctor 130 ∧ zcs [zI (f_Fo_size h f2), zI (f_Fo_size h f)] ≤ 8 ∧ zrm 166 (zrf 130 + 1) (8 + (zmaxl 130 + 11) + zrl 130) = true ∧ zcs [zR (some v), zI (f_P_numberOf h p x1)] ≤ zmaxl 130) (gd (zob h (some v) 10) (zBack zY 166 50 53 [some (zR (some 0)), some (zI x1), some (zI (f_Fo_size h f)), some (zI (f_P_numberOf h p x1))] [zI (f_Fo_size h f2), zI (f_Fo_size h f)] (zC 130 [zR (some v), zI (f_P_numberOf h p x1)] h))) from zGo 2 166 49 _ _ _).trans ?_
    refine (gd_t (⟨rfl, Nat.le_of_ble_eq_true rfl, rfl, Nat.le_of_ble_eq_true rfl⟩) _).trans ?_
    refine (gd_t (⟨rfl, hv.1, (VS_n hv)⟩) _).trans ?_
    refine (congrArg (zBack zY 166 50 53 [some (zR (some 0)), some (zI x1), some (zI (f_Fo_size h f)), some (zI (f_P_numberOf h p x1))] [zI (f_Fo_size h f2), zI (f_Fo_size h f)]) (e_V_lessOf hv)).trans ?_
    refine (congrArg (fun rz => zBack zY 166 50 53 [some (zR (some 0)), some (zI x1), some (zI (f_Fo_size h f)), some (zI (f_P_numberOf h p x1))] [zI (f_Fo_size h f2), zI (f_Fo_size h f)] (some (.inl (some (zR rz)), h))) rf3).trans ?_
    refine (show zY 166 53 [some (zR (some 0)), some (zI x1), some (zI (f_Fo_size h f)), some (zI (f_P_numberOf h p x1))] [zR (some f3), zI (f_Fo_size h f2), zI (f_Fo_size h f)] h = gd (false = zctor 14 ∧ zcs [zI (f_Fo_size h f2), zI (f_Fo_size h f)] ≤ 8 ∧ zrm 166 (zrf 14 + 1) (8 + (zmaxl 14 + 11) + zrl 14) = true ∧ zcs [zR (some f3)] ≤ zmaxl 14) (gd (zob h (some f3) 2) (zBack zY 166 53 56 [some (zR (some 0)), some (zI x1), some (zI (f_Fo_size h f)), some (zI (f_P_numberOf h p x1))] [zI (f_Fo_size h f2), zI (f_Fo_size h f)] (zC 14 [zR (some f3)] h))) from zGo 1 166 53 _ _ _).trans ?_
    refine (gd_t (⟨rfl, Nat.le_of_ble_eq_true rfl, rfl, Nat.le_of_ble_eq_true rfl⟩) _).trans ?_
    refine (gd_t (⟨rfl, hf3.1, (FS_n hf3)⟩) _).trans ?_
    refine (congrArg (zBack zY 166 53 56 [some (zR (some 0)), some (zI x1), some (zI (f_Fo_size h f)), some (zI (f_P_numberOf h p x1))] [zI (f_Fo_size h f2), zI (f_Fo_size h f)]) (e_Fo_size hf3)).trans ?_
    refine (show zY 166 56 [some (zR (some 0)), some (zI x1), some (zI (f_Fo_size h f)), some (zI (f_P_numberOf h p x1))] [zI (f_Fo_size h f3), zI (f_Fo_size h f2), zI (f_Fo_size h f)] h = gd (inR ((f_Fo_size h f2) + (f_Fo_size h f3))) (gd (inR ((f_Fo_size h f) + ((f_Fo_size h f2) + (f_Fo_size h f3)))) (gd (([] : List zV).isEmpty = true ∧ (zrk 166 = 1 ∨ zrk 166 = 6 ∧ ((((f_Fo_size h f) + ((f_Fo_size h f2) + (f_Fo_size h f3))) : Int) = 0 ∨ (((f_Fo_size h f) + ((f_Fo_size h f2) + (f_Fo_size h f3))) : Int) = 1))) (some (.inl (some (zI ((f_Fo_size h f) + ((f_Fo_size h f2) + (f_Fo_size h f3))))), h)))) from q_nodes_tail).trans ?_
    refine gd_c Iff.rfl (fun c1 => ?_)
    refine gd_c Iff.rfl (fun c2 => ?_)
    refine (gd_t (⟨rfl, Or.inl rfl⟩) _).trans ?_
    rfl
  · skip
    refine (show zY 166 59 [some (zR (some 0)), some (zI x1), some (zI (f_Fo_size h f)), none] [] h = gd (([] : List zV).isEmpty = true ∧ (zrk 166 = 1 ∨ zrk 166 = 6 ∧ (((f_Fo_size h f) : Int) = 0 ∨ ((f_Fo_size h f) : Int) = 1))) (some (.inl (some (zI (f_Fo_size h f))), h)) from zGo 2 166 59 _ _ _).trans ?_
    refine (gd_t (⟨rfl, Or.inl rfl⟩) _).trans ?_
    rfl
theorem q_B_statement {h : zH} {x1 : Int} {x2 : Int} (KC : KC h) : zC 164 [zR (some 0), zI x1, zI x2] h =
    zBack zY 164 2 5 [some (zR (some 0)), some (zI x1), some (zI x2)] [] (zC 165 [zR (some 0), zI x1] h) := by
  refine (show zC 164 [zR (some 0), zI x1, zI x2] h = gd (false = zctor 165 ∧ zcs [] ≤ 8 ∧ zrm 164 (zrf 165 + 1) (8 + (zmaxl 165 + 11) + zrl 165) = true ∧ zcs [zR (some 0), zI x1] ≤ zmaxl 165) (gd (zob h (some 0) 11) (zBack zY 164 2 5 [some (zR (some 0)), some (zI x1), some (zI x2)] [] (zC 165 [zR (some 0), zI x1] h))) from zGo 3 164 0 _ _ _).trans ?_
  refine (gd_t (⟨rfl, Nat.le_of_ble_eq_true rfl, rfl, Nat.le_of_ble_eq_true rfl⟩) _).trans ?_
  refine (gd_t (⟨rfl, (PTC KC 0 _ rfl rfl), (PNC KC 0 rfl)⟩) _).trans ?_
  rfl
theorem q_B_statement_r5 {h : zH} {x1 : Int} {x2 : Int} {p : Nat} {v : Nat} (KC : KC h) (rp : hR h 0 13 = some p) (hp : PS h p) (rv : hR h 0 14 = some v) (hv : VS h v) : zBack zY 164 2 5 [some (zR (some 0)), some (zI x1), some (zI x2)] [] (some (.inl (none), h)) =
    if x2 = 0 then
      some (.inl (some (zI (f_P_kindOf h p x1))), h)
    else
      if x2 = 1 then
        some (.inl (some (zI (f_S_targetOf h x1))), h)
      else
        if x2 = 2 then
          zBack zY 164 75 78 [some (zR (some 0)), some (zI x1), some (zI x2)] [] (zC 55 [zR (some p), zI x1] h)
        else
          if x2 = 3 then
            zBack zY 164 91 94 [some (zR (some 0)), some (zI x1), some (zI x2)] [] (zC 56 [zR (some p), zI (f_P_firstOf h p x1)] h)
          else
            if x2 = 4 then
              zBack zY 164 107 110 [some (zR (some 0)), some (zI x1), some (zI x2)] [] (zC 56 [zR (some p), zI (f_P_secondOf h p x1)] h)
            else
              if x2 = 5 then
                some (.inl (some (zI (f_V_priceOf h v x1))), h)
              else
                if x2 = 6 then
                  zBack zY 164 122 125 [some (zR (some 0)), some (zI x1), some (zI x2)] [] (zC 166 [zR (some 0), zI x1] h)
                else
                  if x2 = 7 then
                    some (.inl (some (zI (f_P_numberOf h p x1))), h)
                  else
                    some (.inr 0, (hNew h 0 6)) := by
  refine (show zBack zY 164 2 5 [some (zR (some 0)), some (zI x1), some (zI x2)] [] (some (.inl (none), h)) = if x2 = 0 then zY 164 52 [some (zR (some 0)), some (zI x1), some (zI x2)] [] h else if x2 = 1 then zY 164 61 [some (zR (some 0)), some (zI x1), some (zI x2)] [] h else if x2 = 2 then zY 164 70 [some (zR (some 0)), some (zI x1), some (zI x2)] [] h else if x2 = 3 then zY 164 79 [some (zR (some 0)), some (zI x1), some (zI x2)] [] h else if x2 = 4 then zY 164 95 [some (zR (some 0)), some (zI x1), some (zI x2)] [] h else if x2 = 5 then zY 164 111 [some (zR (some 0)), some (zI x1), some (zI x2)] [] h else if x2 = 6 then zY 164 120 [some (zR (some 0)), some (zI x1), some (zI x2)] [] h else if x2 = 7 then zY 164 126 [some (zR (some 0)), some (zI x1), some (zI x2)] [] h else zY 164 135 [some (zR (some 0)), some (zI x1), some (zI x2)] [] h from zGo 2 164 5 _ _ _).trans ?_
  refine iteC (fun c0 => ?_) (fun c0 => ?_)
  · skip
    refine (show zY 164 52 [some (zR (some 0)), some (zI x1), some (zI x2)] [] h = gd (zob h (some 0) 11) (zY 164 56 [some (zR (some 0)), some (zI x1), some (zI x2)] [zR (hR h 0 13)] h) from zGo 2 164 52 _ _ _).trans ?_
    refine (gd_t (⟨rfl, (PTC KC 0 _ rfl rfl), (PNC KC 0 rfl)⟩) _).trans ?_
    refine (congrArg (fun rz => zY 164 56 [some (zR (some 0)), some (zI x1), some (zI x2)] (zR rz :: []) h) rp).trans ?_
    refine (show zY 164 56 [some (zR (some 0)), some (zI x1), some (zI x2)] [zR (some p)] h = gd (false = zctor 36 ∧ zcs [] ≤ 8 ∧ zrm 164 (zrf 36 + 1) (8 + (zmaxl 36 + 11) + zrl 36) = true ∧ zcs [zR (some p), zI x1] ≤ zmaxl 36) (gd (zob h (some p) 5) (zBack zY 164 57 60 [some (zR (some 0)), some (zI x1), some (zI x2)] [] (zC 36 [zR (some p), zI x1] h))) from zGo 2 164 56 _ _ _).trans ?_
    refine (gd_t (⟨rfl, Nat.le_of_ble_eq_true rfl, rfl, Nat.le_of_ble_eq_true rfl⟩) _).trans ?_
    refine (gd_t (⟨rfl, hp.1, (PS_n hp)⟩) _).trans ?_
    refine (congrArg (zBack zY 164 57 60 [some (zR (some 0)), some (zI x1), some (zI x2)] []) (e_P_kindOf hp)).trans ?_
    refine (show zY 164 60 [some (zR (some 0)), some (zI x1), some (zI x2)] [zI (f_P_kindOf h p x1)] h = gd (([] : List zV).isEmpty = true ∧ (zrk 164 = 1 ∨ zrk 164 = 6 ∧ (((f_P_kindOf h p x1) : Int) = 0 ∨ ((f_P_kindOf h p x1) : Int) = 1))) (some (.inl (some (zI (f_P_kindOf h p x1))), h)) from zGo 1 164 60 _ _ _).trans ?_
    refine (gd_t (⟨rfl, Or.inl rfl⟩) _).trans ?_
    rfl
  · skip
    refine iteC (fun c1 => ?_) (fun c1 => ?_)
    · skip
      refine (show zY 164 61 [some (zR (some 0)), some (zI x1), some (zI x2)] [] h = gd (zob h (some 0) 11) (zY 164 65 [some (zR (some 0)), some (zI x1), some (zI x2)] [zR (hR h 0 9)] h) from zGo 2 164 61 _ _ _).trans ?_
      refine (gd_t (⟨rfl, (PTC KC 0 _ rfl rfl), (PNC KC 0 rfl)⟩) _).trans ?_
      refine (congrArg (fun rz => zY 164 65 [some (zR (some 0)), some (zI x1), some (zI x2)] (zR rz :: []) h) (PRC KC 0 9 _ rfl)).trans ?_
      refine (show zY 164 65 [some (zR (some 0)), some (zI x1), some (zI x2)] [zR (some 90)] h = gd (false = zctor 109 ∧ zcs [] ≤ 8 ∧ zrm 164 (zrf 109 + 1) (8 + (zmaxl 109 + 11) + zrl 109) = true ∧ zcs [zR (some 90), zI x1] ≤ zmaxl 109) (gd (zob h (some 90) 8) (zBack zY 164 66 69 [some (zR (some 0)), some (zI x1), some (zI x2)] [] (zC 109 [zR (some 90), zI x1] h))) from zGo 2 164 65 _ _ _).trans ?_
      refine (gd_t (⟨rfl, Nat.le_of_ble_eq_true rfl, rfl, Nat.le_of_ble_eq_true rfl⟩) _).trans ?_
      refine (gd_t (⟨rfl, (PTC KC 90 _ rfl rfl), (PNC KC 90 rfl)⟩) _).trans ?_
      refine (congrArg (zBack zY 164 66 69 [some (zR (some 0)), some (zI x1), some (zI x2)] []) (e_S_targetOf KC)).trans ?_
      refine (show zY 164 69 [some (zR (some 0)), some (zI x1), some (zI x2)] [zI (f_S_targetOf h x1)] h = gd (([] : List zV).isEmpty = true ∧ (zrk 164 = 1 ∨ zrk 164 = 6 ∧ (((f_S_targetOf h x1) : Int) = 0 ∨ ((f_S_targetOf h x1) : Int) = 1))) (some (.inl (some (zI (f_S_targetOf h x1))), h)) from zGo 1 164 69 _ _ _).trans ?_
      refine (gd_t (⟨rfl, Or.inl rfl⟩) _).trans ?_
      rfl
    · skip
      refine iteC (fun c2 => ?_) (fun c2 => ?_)
      · skip
        refine (show zY 164 70 [some (zR (some 0)), some (zI x1), some (zI x2)] [] h = gd (zob h (some 0) 11) (zY 164 74 [some (zR (some 0)), some (zI x1), some (zI x2)] [zR (hR h 0 13)] h) from zGo 2 164 70 _ _ _).trans ?_
        refine (gd_t (⟨rfl, (PTC KC 0 _ rfl rfl), (PNC KC 0 rfl)⟩) _).trans ?_
        refine (congrArg (fun rz => zY 164 74 [some (zR (some 0)), some (zI x1), some (zI x2)] (zR rz :: []) h) rp).trans ?_
        refine (show zY 164 74 [some (zR (some 0)), some (zI x1), some (zI x2)] [zR (some p)] h = gd (false = zctor 55 ∧ zcs [] ≤ 8 ∧ zrm 164 (zrf 55 + 1) (8 + (zmaxl 55 + 11) + zrl 55) = true ∧ zcs [zR (some p), zI x1] ≤ zmaxl 55) (gd (zob h (some p) 5) (zBack zY 164 75 78 [some (zR (some 0)), some (zI x1), some (zI x2)] [] (zC 55 [zR (some p), zI x1] h))) from zGo 2 164 74 _ _ _).trans ?_
        refine (gd_t (⟨rfl, Nat.le_of_ble_eq_true rfl, rfl, Nat.le_of_ble_eq_true rfl⟩) _).trans ?_
        refine (gd_t (⟨rfl, hp.1, (PS_n hp)⟩) _).trans ?_
        rfl
      · skip
        refine iteC (fun c3 => ?_) (fun c3 => ?_)
        · skip
          refine (show zY 164 79 [some (zR (some 0)), some (zI x1), some (zI x2)] [] h = gd (zob h (some 0) 11) (zY 164 83 [some (zR (some 0)), some (zI x1), some (zI x2)] [zR (hR h 0 13)] h) from zGo 2 164 79 _ _ _).trans ?_
          refine (gd_t (⟨rfl, (PTC KC 0 _ rfl rfl), (PNC KC 0 rfl)⟩) _).trans ?_
          refine (congrArg (fun rz => zY 164 83 [some (zR (some 0)), some (zI x1), some (zI x2)] (zR rz :: []) h) rp).trans ?_
          refine (show zY 164 83 [some (zR (some 0)), some (zI x1), some (zI x2)] [zR (some p)] h = gd (zob h (some 0) 11) (zY 164 87 [some (zR (some 0)), some (zI x1), some (zI x2)] [zR (hR h 0 13), zR (some p)] h) from zGo 2 164 83 _ _ _).trans ?_
          refine (gd_t (⟨rfl, (PTC KC 0 _ rfl rfl), (PNC KC 0 rfl)⟩) _).trans ?_
          refine (congrArg (fun rz => zY 164 87 [some (zR (some 0)), some (zI x1), some (zI x2)] (zR rz :: zR (some p) :: []) h) rp).trans ?_
          refine (show zY 164 87 [some (zR (some 0)), some (zI x1), some (zI x2)] [zR (some p), zR (some p)] h = gd (false = zctor 41 ∧ zcs [zR (some p)] ≤ 8 ∧ zrm 164 (zrf 41 + 1) (8 + (zmaxl 41 + 11) + zrl 41) = true ∧ zcs [zR (some p), zI x1] ≤ zmaxl 41) (gd (zob h (some p) 5) (zBack zY 164 88 91 [some (zR (some 0)), some (zI x1), some (zI x2)] [zR (some p)] (zC 41 [zR (some p), zI x1] h))) from zGo 2 164 87 _ _ _).trans ?_
          refine (gd_t (⟨rfl, Nat.le_of_ble_eq_true rfl, rfl, Nat.le_of_ble_eq_true rfl⟩) _).trans ?_
          refine (gd_t (⟨rfl, hp.1, (PS_n hp)⟩) _).trans ?_
          refine (congrArg (zBack zY 164 88 91 [some (zR (some 0)), some (zI x1), some (zI x2)] [zR (some p)]) (e_P_firstOf hp)).trans ?_
          refine (show zY 164 91 [some (zR (some 0)), some (zI x1), some (zI x2)] [zI (f_P_firstOf h p x1), zR (some p)] h = gd (false = zctor 56 ∧ zcs [] ≤ 8 ∧ zrm 164 (zrf 56 + 1) (8 + (zmaxl 56 + 11) + zrl 56) = true ∧ zcs [zR (some p), zI (f_P_firstOf h p x1)] ≤ zmaxl 56) (gd (zob h (some p) 5) (zBack zY 164 91 94 [some (zR (some 0)), some (zI x1), some (zI x2)] [] (zC 56 [zR (some p), zI (f_P_firstOf h p x1)] h))) from zGo 1 164 91 _ _ _).trans ?_
          refine (gd_t (⟨rfl, Nat.le_of_ble_eq_true rfl, rfl, Nat.le_of_ble_eq_true rfl⟩) _).trans ?_
          refine (gd_t (⟨rfl, hp.1, (PS_n hp)⟩) _).trans ?_
          rfl
        · skip
          refine iteC (fun c4 => ?_) (fun c4 => ?_)
          · skip
            refine (show zY 164 95 [some (zR (some 0)), some (zI x1), some (zI x2)] [] h = gd (zob h (some 0) 11) (zY 164 99 [some (zR (some 0)), some (zI x1), some (zI x2)] [zR (hR h 0 13)] h) from zGo 2 164 95 _ _ _).trans ?_
            refine (gd_t (⟨rfl, (PTC KC 0 _ rfl rfl), (PNC KC 0 rfl)⟩) _).trans ?_
            refine (congrArg (fun rz => zY 164 99 [some (zR (some 0)), some (zI x1), some (zI x2)] (zR rz :: []) h) rp).trans ?_
            refine (show zY 164 99 [some (zR (some 0)), some (zI x1), some (zI x2)] [zR (some p)] h = gd (zob h (some 0) 11) (zY 164 103 [some (zR (some 0)), some (zI x1), some (zI x2)] [zR (hR h 0 13), zR (some p)] h) from zGo 2 164 99 _ _ _).trans ?_
            refine (gd_t (⟨rfl, (PTC KC 0 _ rfl rfl), (PNC KC 0 rfl)⟩) _).trans ?_
            refine (congrArg (fun rz => zY 164 103 [some (zR (some 0)), some (zI x1), some (zI x2)] (zR rz :: zR (some p) :: []) h) rp).trans ?_
            refine (show zY 164 103 [some (zR (some 0)), some (zI x1), some (zI x2)] [zR (some p), zR (some p)] h = gd (false = zctor 40 ∧ zcs [zR (some p)] ≤ 8 ∧ zrm 164 (zrf 40 + 1) (8 + (zmaxl 40 + 11) + zrl 40) = true ∧ zcs [zR (some p), zI x1] ≤ zmaxl 40) (gd (zob h (some p) 5) (zBack zY 164 104 107 [some (zR (some 0)), some (zI x1), some (zI x2)] [zR (some p)] (zC 40 [zR (some p), zI x1] h))) from zGo 2 164 103 _ _ _).trans ?_
            refine (gd_t (⟨rfl, Nat.le_of_ble_eq_true rfl, rfl, Nat.le_of_ble_eq_true rfl⟩) _).trans ?_
            refine (gd_t (⟨rfl, hp.1, (PS_n hp)⟩) _).trans ?_
            refine (congrArg (zBack zY 164 104 107 [some (zR (some 0)), some (zI x1), some (zI x2)] [zR (some p)]) (e_P_secondOf hp)).trans ?_
            refine (show zY 164 107 [some (zR (some 0)), some (zI x1), some (zI x2)] [zI (f_P_secondOf h p x1), zR (some p)] h = gd (false = zctor 56 ∧ zcs [] ≤ 8 ∧ zrm 164 (zrf 56 + 1) (8 + (zmaxl 56 + 11) + zrl 56) = true ∧ zcs [zR (some p), zI (f_P_secondOf h p x1)] ≤ zmaxl 56) (gd (zob h (some p) 5) (zBack zY 164 107 110 [some (zR (some 0)), some (zI x1), some (zI x2)] [] (zC 56 [zR (some p), zI (f_P_secondOf h p x1)] h))) from zGo 1 164 107 _ _ _).trans ?_
            refine (gd_t (⟨rfl, Nat.le_of_ble_eq_true rfl, rfl, Nat.le_of_ble_eq_true rfl⟩) _).trans ?_
            refine (gd_t (⟨rfl, hp.1, (PS_n hp)⟩) _).trans ?_
            rfl
          · skip
            refine iteC (fun c5 => ?_) (fun c5 => ?_)
            · skip
              refine (show zY 164 111 [some (zR (some 0)), some (zI x1), some (zI x2)] [] h = gd (zob h (some 0) 11) (zY 164 115 [some (zR (some 0)), some (zI x1), some (zI x2)] [zR (hR h 0 14)] h) from zGo 2 164 111 _ _ _).trans ?_
              refine (gd_t (⟨rfl, (PTC KC 0 _ rfl rfl), (PNC KC 0 rfl)⟩) _).trans ?_
              refine (congrArg (fun rz => zY 164 115 [some (zR (some 0)), some (zI x1), some (zI x2)] (zR rz :: []) h) rv).trans ?_
              refine (show zY 164 115 [some (zR (some 0)), some (zI x1), some (zI x2)] [zR (some v)] h = gd (false = zctor 131 ∧ zcs [] ≤ 8 ∧ zrm 164 (zrf 131 + 1) (8 + (zmaxl 131 + 11) + zrl 131) = true ∧ zcs [zR (some v), zI x1] ≤ zmaxl 131) (gd (zob h (some v) 10) (zBack zY 164 116 119 [some (zR (some 0)), some (zI x1), some (zI x2)] [] (zC 131 [zR (some v), zI x1] h))) from zGo 2 164 115 _ _ _).trans ?_
              refine (gd_t (⟨rfl, Nat.le_of_ble_eq_true rfl, rfl, Nat.le_of_ble_eq_true rfl⟩) _).trans ?_
              refine (gd_t (⟨rfl, hv.1, (VS_n hv)⟩) _).trans ?_
              refine (congrArg (zBack zY 164 116 119 [some (zR (some 0)), some (zI x1), some (zI x2)] []) (e_V_priceOf hv)).trans ?_
              refine (show zY 164 119 [some (zR (some 0)), some (zI x1), some (zI x2)] [zI (f_V_priceOf h v x1)] h = gd (([] : List zV).isEmpty = true ∧ (zrk 164 = 1 ∨ zrk 164 = 6 ∧ (((f_V_priceOf h v x1) : Int) = 0 ∨ ((f_V_priceOf h v x1) : Int) = 1))) (some (.inl (some (zI (f_V_priceOf h v x1))), h)) from zGo 1 164 119 _ _ _).trans ?_
              refine (gd_t (⟨rfl, Or.inl rfl⟩) _).trans ?_
              rfl
            · skip
              refine iteC (fun c6 => ?_) (fun c6 => ?_)
              · skip
                refine (show zY 164 120 [some (zR (some 0)), some (zI x1), some (zI x2)] [] h = gd (false = zctor 166 ∧ zcs [] ≤ 8 ∧ zrm 164 (zrf 166 + 1) (8 + (zmaxl 166 + 11) + zrl 166) = true ∧ zcs [zR (some 0), zI x1] ≤ zmaxl 166) (gd (zob h (some 0) 11) (zBack zY 164 122 125 [some (zR (some 0)), some (zI x1), some (zI x2)] [] (zC 166 [zR (some 0), zI x1] h))) from zGo 3 164 120 _ _ _).trans ?_
                refine (gd_t (⟨rfl, Nat.le_of_ble_eq_true rfl, rfl, Nat.le_of_ble_eq_true rfl⟩) _).trans ?_
                refine (gd_t (⟨rfl, (PTC KC 0 _ rfl rfl), (PNC KC 0 rfl)⟩) _).trans ?_
                rfl
              · skip
                refine iteC (fun c7 => ?_) (fun c7 => ?_)
                · skip
                  refine (show zY 164 126 [some (zR (some 0)), some (zI x1), some (zI x2)] [] h = gd (zob h (some 0) 11) (zY 164 130 [some (zR (some 0)), some (zI x1), some (zI x2)] [zR (hR h 0 13)] h) from zGo 2 164 126 _ _ _).trans ?_
                  refine (gd_t (⟨rfl, (PTC KC 0 _ rfl rfl), (PNC KC 0 rfl)⟩) _).trans ?_
                  refine (congrArg (fun rz => zY 164 130 [some (zR (some 0)), some (zI x1), some (zI x2)] (zR rz :: []) h) rp).trans ?_
                  refine (show zY 164 130 [some (zR (some 0)), some (zI x1), some (zI x2)] [zR (some p)] h = gd (false = zctor 46 ∧ zcs [] ≤ 8 ∧ zrm 164 (zrf 46 + 1) (8 + (zmaxl 46 + 11) + zrl 46) = true ∧ zcs [zR (some p), zI x1] ≤ zmaxl 46) (gd (zob h (some p) 5) (zBack zY 164 131 134 [some (zR (some 0)), some (zI x1), some (zI x2)] [] (zC 46 [zR (some p), zI x1] h))) from zGo 2 164 130 _ _ _).trans ?_
                  refine (gd_t (⟨rfl, Nat.le_of_ble_eq_true rfl, rfl, Nat.le_of_ble_eq_true rfl⟩) _).trans ?_
                  refine (gd_t (⟨rfl, hp.1, (PS_n hp)⟩) _).trans ?_
                  refine (congrArg (zBack zY 164 131 134 [some (zR (some 0)), some (zI x1), some (zI x2)] []) (e_P_numberOf hp)).trans ?_
                  refine (show zY 164 134 [some (zR (some 0)), some (zI x1), some (zI x2)] [zI (f_P_numberOf h p x1)] h = gd (([] : List zV).isEmpty = true ∧ (zrk 164 = 1 ∨ zrk 164 = 6 ∧ (((f_P_numberOf h p x1) : Int) = 0 ∨ ((f_P_numberOf h p x1) : Int) = 1))) (some (.inl (some (zI (f_P_numberOf h p x1))), h)) from zGo 1 164 134 _ _ _).trans ?_
                  refine (gd_t (⟨rfl, Or.inl rfl⟩) _).trans ?_
                  rfl
                · skip
                  refine (show zY 164 135 [some (zR (some 0)), some (zI x1), some (zI x2)] [] h = some (.inr 0, (hNew h 0 6)) from zGo 1 164 135 _ _ _).trans ?_
                  rfl
theorem q_B_statement_r78 {h : zH} {x1 : Int} {x2 : Int} {y : Int} (KC : KC h) : zBack zY 164 75 78 [some (zR (some 0)), some (zI x1), some (zI x2)] [] (some (.inl (some (zI y)), h)) =
    some (.inl (some (zI y)), h) := by
  refine (show zBack zY 164 75 78 [some (zR (some 0)), some (zI x1), some (zI x2)] [] (some (.inl (some (zI y)), h)) = gd (([] : List zV).isEmpty = true ∧ (zrk 164 = 1 ∨ zrk 164 = 6 ∧ ((y : Int) = 0 ∨ (y : Int) = 1))) (some (.inl (some (zI y)), h)) from zGo 1 164 78 _ _ _).trans ?_
  refine (gd_t (⟨rfl, Or.inl rfl⟩) _).trans ?_
  rfl
theorem q_B_statement_r94 {h : zH} {x1 : Int} {x2 : Int} {y : Int} (KC : KC h) : zBack zY 164 91 94 [some (zR (some 0)), some (zI x1), some (zI x2)] [] (some (.inl (some (zI y)), h)) =
    some (.inl (some (zI y)), h) := by
  refine (show zBack zY 164 91 94 [some (zR (some 0)), some (zI x1), some (zI x2)] [] (some (.inl (some (zI y)), h)) = gd (([] : List zV).isEmpty = true ∧ (zrk 164 = 1 ∨ zrk 164 = 6 ∧ ((y : Int) = 0 ∨ (y : Int) = 1))) (some (.inl (some (zI y)), h)) from zGo 1 164 94 _ _ _).trans ?_
  refine (gd_t (⟨rfl, Or.inl rfl⟩) _).trans ?_
  rfl
theorem q_B_statement_r110 {h : zH} {x1 : Int} {x2 : Int} {y : Int} (KC : KC h) : zBack zY 164 107 110 [some (zR (some 0)), some (zI x1), some (zI x2)] [] (some (.inl (some (zI y)), h)) =
    some (.inl (some (zI y)), h) := by
  refine (show zBack zY 164 107 110 [some (zR (some 0)), some (zI x1), some (zI x2)] [] (some (.inl (some (zI y)), h)) = gd (([] : List zV).isEmpty = true ∧ (zrk 164 = 1 ∨ zrk 164 = 6 ∧ ((y : Int) = 0 ∨ (y : Int) = 1))) (some (.inl (some (zI y)), h)) from zGo 1 164 110 _ _ _).trans ?_
  refine (gd_t (⟨rfl, Or.inl rfl⟩) _).trans ?_
  rfl
theorem q_B_statement_r125 {h : zH} {x1 : Int} {x2 : Int} {y : Int} (KC : KC h) : zBack zY 164 122 125 [some (zR (some 0)), some (zI x1), some (zI x2)] [] (some (.inl (some (zI y)), h)) =
    some (.inl (some (zI y)), h) := by
  refine (show zBack zY 164 122 125 [some (zR (some 0)), some (zI x1), some (zI x2)] [] (some (.inl (some (zI y)), h)) = gd (([] : List zV).isEmpty = true ∧ (zrk 164 = 1 ∨ zrk 164 = 6 ∧ ((y : Int) = 0 ∨ (y : Int) = 1))) (some (.inl (some (zI y)), h)) from zGo 1 164 125 _ _ _).trans ?_
  refine (gd_t (⟨rfl, Or.inl rfl⟩) _).trans ?_
  rfl
theorem q_B_value {h : zH} {x1 : Int} {p : Nat} {v : Nat} {p2 : Nat} (KC : KC h) (rp : hR h 0 13 = some p) (hp : PS h p) (rv : hR h 0 14 = some v) (hv : VS h v) (rp2 : hR h 132 2 = some p2) (hp2 : PS h p2) (g0 : (¬ (x1 = 0)) → (¬ (x1 = 1)) → (¬ (x1 = 2)) → (¬ (x1 = 3)) → (x1 = 4) → (-2147483648 ≤ 3 * (hI h p2 1) ∧ 3 * (hI h p2 1) < 2147483648) := by omega) (g1 : (¬ (x1 = 0)) → (¬ (x1 = 1)) → (¬ (x1 = 2)) → (¬ (x1 = 3)) → (x1 = 4) → (-2147483648 ≤ 1 + (3 * (hI h p2 1)) ∧ 1 + (3 * (hI h p2 1)) < 2147483648) := by omega) : zC 163 [zR (some 0), zI x1] h =
    if x1 = 0 then
      some (.inl (some (zI (hI h p 0))), h)
    else
      if x1 = 1 then
        some (.inl (some (zI (hI h p 1))), h)
      else
        if x1 = 2 then
          some (.inl (some (zI (hI h p 2))), h)
        else
          if x1 = 3 then
            zBack zY 163 83 86 [some (zR (some 0)), some (zI x1)] [] (zC 132 [zR (some v), zI (hI h p 2)] h)
          else
            if x1 = 4 then
              some (.inl (some (zI (f_D_count h p2))), h)
            else
              if x1 = 5 then
                zBack zY 163 99 102 [some (zR (some 0)), some (zI x1)] [] (zC 11 [zR (some 132)] h)
              else
                if x1 = 6 then
                  zBack zY 163 107 110 [some (zR (some 0)), some (zI x1)] [] (zC 11 [zR (some 132)] h)
                else
                  if x1 = 7 then
                    some (.inl (some (zI (hI h 10 0))), h)
                  else
                    some (.inr 0, (hNew h 0 6)) := by
  refine (show zC 163 [zR (some 0), zI x1] h = if x1 = 0 then zY 163 48 [some (zR (some 0)), some (zI x1)] [] h else if x1 = 1 then zY 163 56 [some (zR (some 0)), some (zI x1)] [] h else if x1 = 2 then zY 163 64 [some (zR (some 0)), some (zI x1)] [] h else if x1 = 3 then zY 163 72 [some (zR (some 0)), some (zI x1)] [] h else if x1 = 4 then zY 163 87 [some (zR (some 0)), some (zI x1)] [] h else if x1 = 5 then zY 163 95 [some (zR (some 0)), some (zI x1)] [] h else if x1 = 6 then zY 163 103 [some (zR (some 0)), some (zI x1)] [] h else if x1 = 7 then zY 163 119 [some (zR (some 0)), some (zI x1)] [] h else zY 163 127 [some (zR (some 0)), some (zI x1)] [] h from zGo 2 163 0 _ _ _).trans ?_
  refine iteC (fun c0 => ?_) (fun c0 => ?_)
  · skip
    refine (show zY 163 48 [some (zR (some 0)), some (zI x1)] [] h = gd (zob h (some 0) 11) (zY 163 52 [some (zR (some 0)), some (zI x1)] [zR (hR h 0 13)] h) from zGo 2 163 48 _ _ _).trans ?_
    refine (gd_t (⟨rfl, (PTC KC 0 _ rfl rfl), (PNC KC 0 rfl)⟩) _).trans ?_
    refine (congrArg (fun rz => zY 163 52 [some (zR (some 0)), some (zI x1)] (zR rz :: []) h) rp).trans ?_
    refine (show zY 163 52 [some (zR (some 0)), some (zI x1)] [zR (some p)] h = gd (zob h (some p) 5) (gd (([] : List zV).isEmpty = true ∧ (zrk 163 = 1 ∨ zrk 163 = 6 ∧ (((hI h p 0) : Int) = 0 ∨ ((hI h p 0) : Int) = 1))) (some (.inl (some (zI (hI h p 0))), h))) from zGo 2 163 52 _ _ _).trans ?_
    refine (gd_t (⟨rfl, hp.1, (PS_n hp)⟩) _).trans ?_
    refine (gd_t (⟨rfl, Or.inl rfl⟩) _).trans ?_
    rfl
  · skip
    refine iteC (fun c1 => ?_) (fun c1 => ?_)
    · skip
      refine (show zY 163 56 [some (zR (some 0)), some (zI x1)] [] h = gd (zob h (some 0) 11) (zY 163 60 [some (zR (some 0)), some (zI x1)] [zR (hR h 0 13)] h) from zGo 2 163 56 _ _ _).trans ?_
      refine (gd_t (⟨rfl, (PTC KC 0 _ rfl rfl), (PNC KC 0 rfl)⟩) _).trans ?_
      refine (congrArg (fun rz => zY 163 60 [some (zR (some 0)), some (zI x1)] (zR rz :: []) h) rp).trans ?_
      refine (show zY 163 60 [some (zR (some 0)), some (zI x1)] [zR (some p)] h = gd (zob h (some p) 5) (gd (([] : List zV).isEmpty = true ∧ (zrk 163 = 1 ∨ zrk 163 = 6 ∧ (((hI h p 1) : Int) = 0 ∨ ((hI h p 1) : Int) = 1))) (some (.inl (some (zI (hI h p 1))), h))) from zGo 2 163 60 _ _ _).trans ?_
      refine (gd_t (⟨rfl, hp.1, (PS_n hp)⟩) _).trans ?_
      refine (gd_t (⟨rfl, Or.inl rfl⟩) _).trans ?_
      rfl
    · skip
      refine iteC (fun c2 => ?_) (fun c2 => ?_)
      · skip
        refine (show zY 163 64 [some (zR (some 0)), some (zI x1)] [] h = gd (zob h (some 0) 11) (zY 163 68 [some (zR (some 0)), some (zI x1)] [zR (hR h 0 13)] h) from zGo 2 163 64 _ _ _).trans ?_
        refine (gd_t (⟨rfl, (PTC KC 0 _ rfl rfl), (PNC KC 0 rfl)⟩) _).trans ?_
        refine (congrArg (fun rz => zY 163 68 [some (zR (some 0)), some (zI x1)] (zR rz :: []) h) rp).trans ?_
        refine (show zY 163 68 [some (zR (some 0)), some (zI x1)] [zR (some p)] h = gd (zob h (some p) 5) (gd (([] : List zV).isEmpty = true ∧ (zrk 163 = 1 ∨ zrk 163 = 6 ∧ (((hI h p 2) : Int) = 0 ∨ ((hI h p 2) : Int) = 1))) (some (.inl (some (zI (hI h p 2))), h))) from zGo 2 163 68 _ _ _).trans ?_
        refine (gd_t (⟨rfl, hp.1, (PS_n hp)⟩) _).trans ?_
        refine (gd_t (⟨rfl, Or.inl rfl⟩) _).trans ?_
        rfl
      · skip
        refine iteC (fun c3 => ?_) (fun c3 => ?_)
        · skip
          refine (show zY 163 72 [some (zR (some 0)), some (zI x1)] [] h = gd (zob h (some 0) 11) (zY 163 76 [some (zR (some 0)), some (zI x1)] [zR (hR h 0 14)] h) from zGo 2 163 72 _ _ _).trans ?_
          refine (gd_t (⟨rfl, (PTC KC 0 _ rfl rfl), (PNC KC 0 rfl)⟩) _).trans ?_
          refine (congrArg (fun rz => zY 163 76 [some (zR (some 0)), some (zI x1)] (zR rz :: []) h) rv).trans ?_
          refine (show zY 163 76 [some (zR (some 0)), some (zI x1)] [zR (some v)] h = gd (zob h (some 0) 11) (zY 163 80 [some (zR (some 0)), some (zI x1)] [zR (hR h 0 13), zR (some v)] h) from zGo 2 163 76 _ _ _).trans ?_
          refine (gd_t (⟨rfl, (PTC KC 0 _ rfl rfl), (PNC KC 0 rfl)⟩) _).trans ?_
          refine (congrArg (fun rz => zY 163 80 [some (zR (some 0)), some (zI x1)] (zR rz :: zR (some v) :: []) h) rp).trans ?_
          refine (show zY 163 80 [some (zR (some 0)), some (zI x1)] [zR (some p), zR (some v)] h = gd (zob h (some p) 5) (gd (false = zctor 132 ∧ zcs [] ≤ 8 ∧ zrm 163 (zrf 132 + 1) (8 + (zmaxl 132 + 11) + zrl 132) = true ∧ zcs [zR (some v), zI (hI h p 2)] ≤ zmaxl 132) (gd (zob h (some v) 10) (zBack zY 163 83 86 [some (zR (some 0)), some (zI x1)] [] (zC 132 [zR (some v), zI (hI h p 2)] h)))) from zGo 2 163 80 _ _ _).trans ?_
          refine (gd_t (⟨rfl, hp.1, (PS_n hp)⟩) _).trans ?_
          refine (gd_t (⟨rfl, Nat.le_of_ble_eq_true rfl, rfl, Nat.le_of_ble_eq_true rfl⟩) _).trans ?_
          refine (gd_t (⟨rfl, hv.1, (VS_n hv)⟩) _).trans ?_
          rfl
        · skip
          refine iteC (fun c4 => ?_) (fun c4 => ?_)
          · skip
            refine (show zY 163 87 [some (zR (some 0)), some (zI x1)] [] h = gd (zob h (some 0) 11) (zY 163 91 [some (zR (some 0)), some (zI x1)] [zR (hR h 0 11)] h) from zGo 2 163 87 _ _ _).trans ?_
            refine (gd_t (⟨rfl, (PTC KC 0 _ rfl rfl), (PNC KC 0 rfl)⟩) _).trans ?_
            refine (congrArg (fun rz => zY 163 91 [some (zR (some 0)), some (zI x1)] (zR rz :: []) h) (PRC KC 0 11 _ rfl)).trans ?_
            refine (show zY 163 91 [some (zR (some 0)), some (zI x1)] [zR (some 132)] h = gd (false = zctor 10 ∧ zcs [] ≤ 8 ∧ zrm 163 (zrf 10 + 1) (8 + (zmaxl 10 + 11) + zrl 10) = true ∧ zcs [zR (some 132)] ≤ zmaxl 10) (gd (zob h (some 132) 1) (zBack zY 163 91 94 [some (zR (some 0)), some (zI x1)] [] (zC 10 [zR (some 132)] h))) from zGo 1 163 91 _ _ _).trans ?_
            refine (gd_t (⟨rfl, Nat.le_of_ble_eq_true rfl, rfl, Nat.le_of_ble_eq_true rfl⟩) _).trans ?_
            refine (gd_t (⟨rfl, (PTC KC 132 _ rfl rfl), (PNC KC 132 rfl)⟩) _).trans ?_
            refine (congrArg (zBack zY 163 91 94 [some (zR (some 0)), some (zI x1)] []) (e_D_count KC rp2 hp2 (g0 c0 c1 c2 c3 c4) (g1 c0 c1 c2 c3 c4))).trans ?_
            refine (show zY 163 94 [some (zR (some 0)), some (zI x1)] [zI (f_D_count h p2)] h = gd (([] : List zV).isEmpty = true ∧ (zrk 163 = 1 ∨ zrk 163 = 6 ∧ (((f_D_count h p2) : Int) = 0 ∨ ((f_D_count h p2) : Int) = 1))) (some (.inl (some (zI (f_D_count h p2))), h)) from zGo 1 163 94 _ _ _).trans ?_
            refine (gd_t (⟨rfl, Or.inl rfl⟩) _).trans ?_
            rfl
          · skip
            refine iteC (fun c5 => ?_) (fun c5 => ?_)
            · skip
              refine (show zY 163 95 [some (zR (some 0)), some (zI x1)] [] h = gd (zob h (some 0) 11) (zY 163 99 [some (zR (some 0)), some (zI x1)] [zR (hR h 0 11)] h) from zGo 2 163 95 _ _ _).trans ?_
              refine (gd_t (⟨rfl, (PTC KC 0 _ rfl rfl), (PNC KC 0 rfl)⟩) _).trans ?_
              refine (congrArg (fun rz => zY 163 99 [some (zR (some 0)), some (zI x1)] (zR rz :: []) h) (PRC KC 0 11 _ rfl)).trans ?_
              refine (show zY 163 99 [some (zR (some 0)), some (zI x1)] [zR (some 132)] h = gd (false = zctor 11 ∧ zcs [] ≤ 8 ∧ zrm 163 (zrf 11 + 1) (8 + (zmaxl 11 + 11) + zrl 11) = true ∧ zcs [zR (some 132)] ≤ zmaxl 11) (gd (zob h (some 132) 1) (zBack zY 163 99 102 [some (zR (some 0)), some (zI x1)] [] (zC 11 [zR (some 132)] h))) from zGo 1 163 99 _ _ _).trans ?_
              refine (gd_t (⟨rfl, Nat.le_of_ble_eq_true rfl, rfl, Nat.le_of_ble_eq_true rfl⟩) _).trans ?_
              refine (gd_t (⟨rfl, (PTC KC 132 _ rfl rfl), (PNC KC 132 rfl)⟩) _).trans ?_
              rfl
            · skip
              refine iteC (fun c6 => ?_) (fun c6 => ?_)
              · skip
                refine (show zY 163 103 [some (zR (some 0)), some (zI x1)] [] h = gd (zob h (some 0) 11) (zY 163 107 [some (zR (some 0)), some (zI x1)] [zR (hR h 0 11)] h) from zGo 2 163 103 _ _ _).trans ?_
                refine (gd_t (⟨rfl, (PTC KC 0 _ rfl rfl), (PNC KC 0 rfl)⟩) _).trans ?_
                refine (congrArg (fun rz => zY 163 107 [some (zR (some 0)), some (zI x1)] (zR rz :: []) h) (PRC KC 0 11 _ rfl)).trans ?_
                refine (show zY 163 107 [some (zR (some 0)), some (zI x1)] [zR (some 132)] h = gd (false = zctor 11 ∧ zcs [] ≤ 8 ∧ zrm 163 (zrf 11 + 1) (8 + (zmaxl 11 + 11) + zrl 11) = true ∧ zcs [zR (some 132)] ≤ zmaxl 11) (gd (zob h (some 132) 1) (zBack zY 163 107 110 [some (zR (some 0)), some (zI x1)] [] (zC 11 [zR (some 132)] h))) from zGo 1 163 107 _ _ _).trans ?_
                refine (gd_t (⟨rfl, Nat.le_of_ble_eq_true rfl, rfl, Nat.le_of_ble_eq_true rfl⟩) _).trans ?_
                refine (gd_t (⟨rfl, (PTC KC 132 _ rfl rfl), (PNC KC 132 rfl)⟩) _).trans ?_
                rfl
              · skip
                refine iteC (fun c7 => ?_) (fun c7 => ?_)
                · skip
                  refine (show zY 163 119 [some (zR (some 0)), some (zI x1)] [] h = gd (zob h (some 0) 11) (zY 163 123 [some (zR (some 0)), some (zI x1)] [zR (hR h 0 8)] h) from zGo 2 163 119 _ _ _).trans ?_
                  refine (gd_t (⟨rfl, (PTC KC 0 _ rfl rfl), (PNC KC 0 rfl)⟩) _).trans ?_
                  refine (congrArg (fun rz => zY 163 123 [some (zR (some 0)), some (zI x1)] (zR rz :: []) h) (PRC KC 0 8 _ rfl)).trans ?_
                  refine (show zY 163 123 [some (zR (some 0)), some (zI x1)] [zR (some 10)] h = gd (zob h (some 10) 3) (gd (([] : List zV).isEmpty = true ∧ (zrk 163 = 1 ∨ zrk 163 = 6 ∧ (((hI h 10 0) : Int) = 0 ∨ ((hI h 10 0) : Int) = 1))) (some (.inl (some (zI (hI h 10 0))), h))) from zGo 2 163 123 _ _ _).trans ?_
                  refine (gd_t (⟨rfl, (PTC KC 10 _ rfl rfl), (PNC KC 10 rfl)⟩) _).trans ?_
                  refine (gd_t (⟨rfl, Or.inl rfl⟩) _).trans ?_
                  rfl
                · skip
                  refine (show zY 163 127 [some (zR (some 0)), some (zI x1)] [] h = some (.inr 0, (hNew h 0 6)) from zGo 1 163 127 _ _ _).trans ?_
                  rfl
theorem q_B_value_r86 {h : zH} {x1 : Int} {y : Int} (KC : KC h) : zBack zY 163 83 86 [some (zR (some 0)), some (zI x1)] [] (some (.inl (some (zI y)), h)) =
    some (.inl (some (zI y)), h) := by
  refine (show zBack zY 163 83 86 [some (zR (some 0)), some (zI x1)] [] (some (.inl (some (zI y)), h)) = gd (([] : List zV).isEmpty = true ∧ (zrk 163 = 1 ∨ zrk 163 = 6 ∧ ((y : Int) = 0 ∨ (y : Int) = 1))) (some (.inl (some (zI y)), h)) from zGo 1 163 86 _ _ _).trans ?_
  refine (gd_t (⟨rfl, Or.inl rfl⟩) _).trans ?_
  rfl
theorem q_B_value_r102 {h : zH} {x1 : Int} {y : Int} (KC : KC h) : zBack zY 163 99 102 [some (zR (some 0)), some (zI x1)] [] (some (.inl (some (zI y)), h)) =
    some (.inl (some (zI y)), h) := by
  refine (show zBack zY 163 99 102 [some (zR (some 0)), some (zI x1)] [] (some (.inl (some (zI y)), h)) = gd (([] : List zV).isEmpty = true ∧ (zrk 163 = 1 ∨ zrk 163 = 6 ∧ ((y : Int) = 0 ∨ (y : Int) = 1))) (some (.inl (some (zI y)), h)) from zGo 1 163 102 _ _ _).trans ?_
  refine (gd_t (⟨rfl, Or.inl rfl⟩) _).trans ?_
  rfl
theorem q_B_value_r110 {h : zH} {x1 : Int} {y : Int} (KC : KC h) : zBack zY 163 107 110 [some (zR (some 0)), some (zI x1)] [] (some (.inl (some (zI y)), h)) =
    if y = 0 then
      some (.inl (some (zI 1)), h)
    else
      some (.inl (some (zI 0)), h) := by
  refine (show zBack zY 163 107 110 [some (zR (some 0)), some (zI x1)] [] (some (.inl (some (zI y)), h)) = if y = 0 then zY 163 113 [some (zR (some 0)), some (zI x1)] [] h else zY 163 117 [some (zR (some 0)), some (zI x1)] [] h from zGo 1 163 110 _ _ _).trans ?_
  refine iteC (fun c0 => ?_) (fun c0 => ?_)
  · skip
    refine (show zY 163 113 [some (zR (some 0)), some (zI x1)] [] h = gd (inR (1)) (gd (([] : List zV).isEmpty = true ∧ (zrk 163 = 1 ∨ zrk 163 = 6 ∧ ((1 : Int) = 0 ∨ (1 : Int) = 1))) (some (.inl (some (zI 1)), h))) from zGo 3 163 113 _ _ _).trans ?_
    refine (gd_t (by decide) _).trans ?_
    refine (gd_t (⟨rfl, Or.inl rfl⟩) _).trans ?_
    rfl
  · skip
    refine (show zY 163 117 [some (zR (some 0)), some (zI x1)] [] h = gd (inR (0)) (gd (([] : List zV).isEmpty = true ∧ (zrk 163 = 1 ∨ zrk 163 = 6 ∧ ((0 : Int) = 0 ∨ (0 : Int) = 1))) (some (.inl (some (zI 0)), h))) from zGo 2 163 117 _ _ _).trans ?_
    refine (gd_t (by decide) _).trans ?_
    refine (gd_t (⟨rfl, Or.inl rfl⟩) _).trans ?_
    rfl
theorem q_B_loopSet {h : zH} {x1 : Int} {x2 : Int} (KC : KC h) : zC 167 [zR (some 0), zI x1, zI x2] h =
    zBack zY 167 2 5 [some (zR (some 0)), some (zI x1), some (zI x2)] [] (zC 168 [zR (some 0), zI x1] h) := by
  refine (show zC 167 [zR (some 0), zI x1, zI x2] h = gd (false = zctor 168 ∧ zcs [] ≤ 8 ∧ zrm 167 (zrf 168 + 1) (8 + (zmaxl 168 + 11) + zrl 168) = true ∧ zcs [zR (some 0), zI x1] ≤ zmaxl 168) (gd (zob h (some 0) 11) (zBack zY 167 2 5 [some (zR (some 0)), some (zI x1), some (zI x2)] [] (zC 168 [zR (some 0), zI x1] h))) from zGo 3 167 0 _ _ _).trans ?_
  refine (gd_t (⟨rfl, Nat.le_of_ble_eq_true rfl, rfl, Nat.le_of_ble_eq_true rfl⟩) _).trans ?_
  refine (gd_t (⟨rfl, (PTC KC 0 _ rfl rfl), (PNC KC 0 rfl)⟩) _).trans ?_
  rfl
theorem q_B_loopSet_r5 {h : zH} {x1 : Int} {x2 : Int} {p : Nat} (KC : KC h) (rp : hR h 0 13 = some p) (hp : PS h p) : zBack zY 167 2 5 [some (zR (some 0)), some (zI x1), some (zI x2)] [] (some (.inl (none), h)) =
    if x2 = 0 then
      some (.inl (some (zJ (f_S_conditionOf h (f_P_loopAt h p x1)))), h)
    else
      if x2 = 1 then
        some (.inl (some (zJ (f_S_keepOf h x1))), h)
      else
        some (.inr 0, (hNew h 0 6)) := by
  refine (show zBack zY 167 2 5 [some (zR (some 0)), some (zI x1), some (zI x2)] [] (some (.inl (none), h)) = if x2 = 0 then zY 167 9 [some (zR (some 0)), some (zI x1), some (zI x2)] [] h else zY 167 25 [some (zR (some 0)), some (zI x1), some (zI x2)] [] h from zGo 2 167 5 _ _ _).trans ?_
  refine iteC (fun c0 => ?_) (fun c0 => ?_)
  · skip
    refine (show zY 167 9 [some (zR (some 0)), some (zI x1), some (zI x2)] [] h = gd (zob h (some 0) 11) (zY 167 13 [some (zR (some 0)), some (zI x1), some (zI x2)] [zR (hR h 0 9)] h) from zGo 2 167 9 _ _ _).trans ?_
    refine (gd_t (⟨rfl, (PTC KC 0 _ rfl rfl), (PNC KC 0 rfl)⟩) _).trans ?_
    refine (congrArg (fun rz => zY 167 13 [some (zR (some 0)), some (zI x1), some (zI x2)] (zR rz :: []) h) (PRC KC 0 9 _ rfl)).trans ?_
    refine (show zY 167 13 [some (zR (some 0)), some (zI x1), some (zI x2)] [zR (some 90)] h = gd (zob h (some 0) 11) (zY 167 17 [some (zR (some 0)), some (zI x1), some (zI x2)] [zR (hR h 0 13), zR (some 90)] h) from zGo 2 167 13 _ _ _).trans ?_
    refine (gd_t (⟨rfl, (PTC KC 0 _ rfl rfl), (PNC KC 0 rfl)⟩) _).trans ?_
    refine (congrArg (fun rz => zY 167 17 [some (zR (some 0)), some (zI x1), some (zI x2)] (zR rz :: zR (some 90) :: []) h) rp).trans ?_
    refine (show zY 167 17 [some (zR (some 0)), some (zI x1), some (zI x2)] [zR (some p), zR (some 90)] h = gd (false = zctor 53 ∧ zcs [zR (some 90)] ≤ 8 ∧ zrm 167 (zrf 53 + 1) (8 + (zmaxl 53 + 11) + zrl 53) = true ∧ zcs [zR (some p), zI x1] ≤ zmaxl 53) (gd (zob h (some p) 5) (zBack zY 167 18 21 [some (zR (some 0)), some (zI x1), some (zI x2)] [zR (some 90)] (zC 53 [zR (some p), zI x1] h))) from zGo 2 167 17 _ _ _).trans ?_
    refine (gd_t (⟨rfl, Nat.le_of_ble_eq_true rfl, rfl, Nat.le_of_ble_eq_true rfl⟩) _).trans ?_
    refine (gd_t (⟨rfl, hp.1, (PS_n hp)⟩) _).trans ?_
    refine (congrArg (zBack zY 167 18 21 [some (zR (some 0)), some (zI x1), some (zI x2)] [zR (some 90)]) (e_P_loopAt hp)).trans ?_
    refine (show zY 167 21 [some (zR (some 0)), some (zI x1), some (zI x2)] [zI (f_P_loopAt h p x1), zR (some 90)] h = gd (false = zctor 103 ∧ zcs [] ≤ 8 ∧ zrm 167 (zrf 103 + 1) (8 + (zmaxl 103 + 11) + zrl 103) = true ∧ zcs [zR (some 90), zI (f_P_loopAt h p x1)] ≤ zmaxl 103) (gd (zob h (some 90) 8) (zBack zY 167 21 24 [some (zR (some 0)), some (zI x1), some (zI x2)] [] (zC 103 [zR (some 90), zI (f_P_loopAt h p x1)] h))) from zGo 1 167 21 _ _ _).trans ?_
    refine (gd_t (⟨rfl, Nat.le_of_ble_eq_true rfl, rfl, Nat.le_of_ble_eq_true rfl⟩) _).trans ?_
    refine (gd_t (⟨rfl, (PTC KC 90 _ rfl rfl), (PNC KC 90 rfl)⟩) _).trans ?_
    refine (congrArg (zBack zY 167 21 24 [some (zR (some 0)), some (zI x1), some (zI x2)] []) (e_S_conditionOf KC)).trans ?_
    refine (show zY 167 24 [some (zR (some 0)), some (zI x1), some (zI x2)] [zJ (f_S_conditionOf h (f_P_loopAt h p x1))] h = gd (([] : List zV).isEmpty = true ∧ zrk 167 = 2) (some (.inl (some (zJ (f_S_conditionOf h (f_P_loopAt h p x1)))), h)) from zGo 1 167 24 _ _ _).trans ?_
    refine (gd_t (⟨rfl, rfl⟩) _).trans ?_
    rfl
  · skip
    refine (show zY 167 25 [some (zR (some 0)), some (zI x1), some (zI x2)] [] h = gd (inR (1)) (if x2 = 1 then zY 167 30 [some (zR (some 0)), some (zI x1), some (zI x2)] [] h else zY 167 39 [some (zR (some 0)), some (zI x1), some (zI x2)] [] h) from zGo 3 167 25 _ _ _).trans ?_
    refine (gd_t (by decide) _).trans ?_
    refine iteC (fun c1 => ?_) (fun c1 => ?_)
    · skip
      refine (show zY 167 30 [some (zR (some 0)), some (zI x1), some (zI x2)] [] h = gd (zob h (some 0) 11) (zY 167 34 [some (zR (some 0)), some (zI x1), some (zI x2)] [zR (hR h 0 9)] h) from zGo 2 167 30 _ _ _).trans ?_
      refine (gd_t (⟨rfl, (PTC KC 0 _ rfl rfl), (PNC KC 0 rfl)⟩) _).trans ?_
      refine (congrArg (fun rz => zY 167 34 [some (zR (some 0)), some (zI x1), some (zI x2)] (zR rz :: []) h) (PRC KC 0 9 _ rfl)).trans ?_
      refine (show zY 167 34 [some (zR (some 0)), some (zI x1), some (zI x2)] [zR (some 90)] h = gd (false = zctor 107 ∧ zcs [] ≤ 8 ∧ zrm 167 (zrf 107 + 1) (8 + (zmaxl 107 + 11) + zrl 107) = true ∧ zcs [zR (some 90), zI x1] ≤ zmaxl 107) (gd (zob h (some 90) 8) (zBack zY 167 35 38 [some (zR (some 0)), some (zI x1), some (zI x2)] [] (zC 107 [zR (some 90), zI x1] h))) from zGo 2 167 34 _ _ _).trans ?_
      refine (gd_t (⟨rfl, Nat.le_of_ble_eq_true rfl, rfl, Nat.le_of_ble_eq_true rfl⟩) _).trans ?_
      refine (gd_t (⟨rfl, (PTC KC 90 _ rfl rfl), (PNC KC 90 rfl)⟩) _).trans ?_
      refine (congrArg (zBack zY 167 35 38 [some (zR (some 0)), some (zI x1), some (zI x2)] []) (e_S_keepOf KC)).trans ?_
      refine (show zY 167 38 [some (zR (some 0)), some (zI x1), some (zI x2)] [zJ (f_S_keepOf h x1)] h = gd (([] : List zV).isEmpty = true ∧ zrk 167 = 2) (some (.inl (some (zJ (f_S_keepOf h x1))), h)) from zGo 1 167 38 _ _ _).trans ?_
      refine (gd_t (⟨rfl, rfl⟩) _).trans ?_
      rfl
    · skip
      refine (show zY 167 39 [some (zR (some 0)), some (zI x1), some (zI x2)] [] h = some (.inr 0, (hNew h 0 6)) from zGo 1 167 39 _ _ _).trans ?_
      rfl
theorem q_B_less {h : zH} {x1 : Int} {x2 : Int} (KC : KC h) : zC 169 [zR (some 0), zI x1, zI x2] h =
    zBack zY 169 2 5 [some (zR (some 0)), some (zI x1), some (zI x2)] [] (zC 168 [zR (some 0), zI x1] h) := by
  refine (show zC 169 [zR (some 0), zI x1, zI x2] h = gd (false = zctor 168 ∧ zcs [] ≤ 8 ∧ zrm 169 (zrf 168 + 1) (8 + (zmaxl 168 + 11) + zrl 168) = true ∧ zcs [zR (some 0), zI x1] ≤ zmaxl 168) (gd (zob h (some 0) 11) (zBack zY 169 2 5 [some (zR (some 0)), some (zI x1), some (zI x2)] [] (zC 168 [zR (some 0), zI x1] h))) from zGo 3 169 0 _ _ _).trans ?_
  refine (gd_t (⟨rfl, Nat.le_of_ble_eq_true rfl, rfl, Nat.le_of_ble_eq_true rfl⟩) _).trans ?_
  refine (gd_t (⟨rfl, (PTC KC 0 _ rfl rfl), (PNC KC 0 rfl)⟩) _).trans ?_
  rfl
theorem q_B_less_r5 {h : zH} {x1 : Int} {x2 : Int} (KC : KC h) : zBack zY 169 2 5 [some (zR (some 0)), some (zI x1), some (zI x2)] [] (some (.inl (none), h)) =
    zBack zY 169 7 10 [some (zR (some 0)), some (zI x1), some (zI x2)] [] (zC 170 [zR (some 0), zI x2] h) := by
  refine (show zBack zY 169 2 5 [some (zR (some 0)), some (zI x1), some (zI x2)] [] (some (.inl (none), h)) = gd (false = zctor 170 ∧ zcs [] ≤ 8 ∧ zrm 169 (zrf 170 + 1) (8 + (zmaxl 170 + 11) + zrl 170) = true ∧ zcs [zR (some 0), zI x2] ≤ zmaxl 170) (gd (zob h (some 0) 11) (zBack zY 169 7 10 [some (zR (some 0)), some (zI x1), some (zI x2)] [] (zC 170 [zR (some 0), zI x2] h))) from zGo 3 169 5 _ _ _).trans ?_
  refine (gd_t (⟨rfl, Nat.le_of_ble_eq_true rfl, rfl, Nat.le_of_ble_eq_true rfl⟩) _).trans ?_
  refine (gd_t (⟨rfl, (PTC KC 0 _ rfl rfl), (PNC KC 0 rfl)⟩) _).trans ?_
  rfl
theorem q_B_less_r10 {h : zH} {x1 : Int} {x2 : Int} (KC : KC h) : zBack zY 169 7 10 [some (zR (some 0)), some (zI x1), some (zI x2)] [] (some (.inl (none), h)) =
    some (.inl (some (zI (f_S_lessOf h x1 x2))), h) := by
  refine (show zBack zY 169 7 10 [some (zR (some 0)), some (zI x1), some (zI x2)] [] (some (.inl (none), h)) = gd (zob h (some 0) 11) (zY 169 14 [some (zR (some 0)), some (zI x1), some (zI x2)] [zR (hR h 0 9)] h) from zGo 2 169 10 _ _ _).trans ?_
  refine (gd_t (⟨rfl, (PTC KC 0 _ rfl rfl), (PNC KC 0 rfl)⟩) _).trans ?_
  refine (congrArg (fun rz => zY 169 14 [some (zR (some 0)), some (zI x1), some (zI x2)] (zR rz :: []) h) (PRC KC 0 9 _ rfl)).trans ?_
  refine (show zY 169 14 [some (zR (some 0)), some (zI x1), some (zI x2)] [zR (some 90)] h = gd (false = zctor 108 ∧ zcs [] ≤ 8 ∧ zrm 169 (zrf 108 + 1) (8 + (zmaxl 108 + 11) + zrl 108) = true ∧ zcs [zR (some 90), zI x1, zI x2] ≤ zmaxl 108) (gd (zob h (some 90) 8) (zBack zY 169 16 19 [some (zR (some 0)), some (zI x1), some (zI x2)] [] (zC 108 [zR (some 90), zI x1, zI x2] h))) from zGo 3 169 14 _ _ _).trans ?_
  refine (gd_t (⟨rfl, Nat.le_of_ble_eq_true rfl, rfl, Nat.le_of_ble_eq_true rfl⟩) _).trans ?_
  refine (gd_t (⟨rfl, (PTC KC 90 _ rfl rfl), (PNC KC 90 rfl)⟩) _).trans ?_
  refine (congrArg (zBack zY 169 16 19 [some (zR (some 0)), some (zI x1), some (zI x2)] []) (e_S_lessOf KC)).trans ?_
  refine (show zY 169 19 [some (zR (some 0)), some (zI x1), some (zI x2)] [zI (f_S_lessOf h x1 x2)] h = gd (([] : List zV).isEmpty = true ∧ (zrk 169 = 1 ∨ zrk 169 = 6 ∧ (((f_S_lessOf h x1 x2) : Int) = 0 ∨ ((f_S_lessOf h x1 x2) : Int) = 1))) (some (.inl (some (zI (f_S_lessOf h x1 x2))), h)) from zGo 1 169 19 _ _ _).trans ?_
  refine (gd_t (⟨rfl, Or.inl rfl⟩) _).trans ?_
  rfl
theorem q_B_need {h : zH} {x1 : Int} (KC : KC h) : zC 171 [zR (some 0), zI x1] h =
    zBack zY 171 2 5 [some (zR (some 0)), some (zI x1)] [] (zC 165 [zR (some 0), zI x1] h) := by
  refine (show zC 171 [zR (some 0), zI x1] h = gd (false = zctor 165 ∧ zcs [] ≤ 8 ∧ zrm 171 (zrf 165 + 1) (8 + (zmaxl 165 + 11) + zrl 165) = true ∧ zcs [zR (some 0), zI x1] ≤ zmaxl 165) (gd (zob h (some 0) 11) (zBack zY 171 2 5 [some (zR (some 0)), some (zI x1)] [] (zC 165 [zR (some 0), zI x1] h))) from zGo 3 171 0 _ _ _).trans ?_
  refine (gd_t (⟨rfl, Nat.le_of_ble_eq_true rfl, rfl, Nat.le_of_ble_eq_true rfl⟩) _).trans ?_
  refine (gd_t (⟨rfl, (PTC KC 0 _ rfl rfl), (PNC KC 0 rfl)⟩) _).trans ?_
  rfl
theorem q_B_need_r5 {h : zH} {x1 : Int} (KC : KC h) : zBack zY 171 2 5 [some (zR (some 0)), some (zI x1)] [] (some (.inl (none), h)) =
    some (.inl (some (zJ (f_D_ahead h x1))), h) := by
  refine (show zBack zY 171 2 5 [some (zR (some 0)), some (zI x1)] [] (some (.inl (none), h)) = gd (zob h (some 0) 11) (zY 171 9 [some (zR (some 0)), some (zI x1)] [zR (hR h 0 11)] h) from zGo 2 171 5 _ _ _).trans ?_
  refine (gd_t (⟨rfl, (PTC KC 0 _ rfl rfl), (PNC KC 0 rfl)⟩) _).trans ?_
  refine (congrArg (fun rz => zY 171 9 [some (zR (some 0)), some (zI x1)] (zR rz :: []) h) (PRC KC 0 11 _ rfl)).trans ?_
  refine (show zY 171 9 [some (zR (some 0)), some (zI x1)] [zR (some 132)] h = gd (false = zctor 4 ∧ zcs [] ≤ 8 ∧ zrm 171 (zrf 4 + 1) (8 + (zmaxl 4 + 11) + zrl 4) = true ∧ zcs [zR (some 132), zI x1] ≤ zmaxl 4) (gd (zob h (some 132) 1) (zBack zY 171 10 13 [some (zR (some 0)), some (zI x1)] [] (zC 4 [zR (some 132), zI x1] h))) from zGo 2 171 9 _ _ _).trans ?_
  refine (gd_t (⟨rfl, Nat.le_of_ble_eq_true rfl, rfl, Nat.le_of_ble_eq_true rfl⟩) _).trans ?_
  refine (gd_t (⟨rfl, (PTC KC 132 _ rfl rfl), (PNC KC 132 rfl)⟩) _).trans ?_
  refine (congrArg (zBack zY 171 10 13 [some (zR (some 0)), some (zI x1)] []) (e_D_ahead KC)).trans ?_
  refine (show zY 171 13 [some (zR (some 0)), some (zI x1)] [zJ (f_D_ahead h x1)] h = gd (([] : List zV).isEmpty = true ∧ zrk 171 = 2) (some (.inl (some (zJ (f_D_ahead h x1))), h)) from zGo 1 171 13 _ _ _).trans ?_
  refine (gd_t (⟨rfl, rfl⟩) _).trans ?_
  rfl
theorem q_B_duty {h : zH} {x1 : Int} {x2 : Int} (KC : KC h) : zC 172 [zR (some 0), zI x1, zI x2] h =
    zBack zY 172 2 5 [some (zR (some 0)), some (zI x1), some (zI x2)] [] (zC 173 [zR (some 0), zI x1] h) := by
  refine (show zC 172 [zR (some 0), zI x1, zI x2] h = gd (false = zctor 173 ∧ zcs [] ≤ 8 ∧ zrm 172 (zrf 173 + 1) (8 + (zmaxl 173 + 11) + zrl 173) = true ∧ zcs [zR (some 0), zI x1] ≤ zmaxl 173) (gd (zob h (some 0) 11) (zBack zY 172 2 5 [some (zR (some 0)), some (zI x1), some (zI x2)] [] (zC 173 [zR (some 0), zI x1] h))) from zGo 3 172 0 _ _ _).trans ?_
  refine (gd_t (⟨rfl, Nat.le_of_ble_eq_true rfl, rfl, Nat.le_of_ble_eq_true rfl⟩) _).trans ?_
  refine (gd_t (⟨rfl, (PTC KC 0 _ rfl rfl), (PNC KC 0 rfl)⟩) _).trans ?_
  rfl
theorem q_B_duty_r5 {h : zH} {x1 : Int} {x2 : Int} {p : Nat} (KC : KC h) (rp : hR h 0 13 = some p) (hp : PS h p) : zBack zY 172 2 5 [some (zR (some 0)), some (zI x1), some (zI x2)] [] (some (.inl (none), h)) =
    if x2 = 0 then
      if x1 = 0 then
        some (.inl (some (zI 0)), h)
      else
        gd (-2147483648 ≤ x1 - 1 ∧ x1 - 1 < 2147483648) (
        gd (-2147483648 < (x1 - 1)) (
        gd (-2147483648 ≤ 1 + (Int.tmod (x1 - 1) 3) ∧ 1 + (Int.tmod (x1 - 1) 3) < 2147483648) (
        some (.inl (some (zI (1 + (Int.tmod (x1 - 1) 3)))), h))))
    else
      if x2 = 1 then
        if x1 = 0 then
          some (.inl (some (zI (-1))), h)
        else
          gd (-2147483648 ≤ x1 - 1 ∧ x1 - 1 < 2147483648) (
          gd (0 ≤ (x1 - 1)) (
          some (.inl (some (zI (f_P_loopAt h p ((x1 - 1) / 3)))), h)))
      else
        if x2 = 2 then
          some (.inl (some (zI (f_Lo_bitCount (f_D_failingStates h x1)))), h)
        else
          if x2 = 3 then
            some (.inl (some (zI (f_S_least (f_D_failingStates h x1)))), h)
          else
            some (.inr 0, (hNew h 0 6)) := by
  refine (show zBack zY 172 2 5 [some (zR (some 0)), some (zI x1), some (zI x2)] [] (some (.inl (none), h)) = if x2 = 0 then zY 172 36 [some (zR (some 0)), some (zI x1), some (zI x2)] [] h else if x2 = 1 then zY 172 52 [some (zR (some 0)), some (zI x1), some (zI x2)] [] h else if x2 = 2 then zY 172 73 [some (zR (some 0)), some (zI x1), some (zI x2)] [] h else if x2 = 3 then zY 172 85 [some (zR (some 0)), some (zI x1), some (zI x2)] [] h else zY 172 97 [some (zR (some 0)), some (zI x1), some (zI x2)] [] h from zGo 2 172 5 _ _ _).trans ?_
  refine iteC (fun c0 => ?_) (fun c0 => ?_)
  · skip
    refine (show zY 172 36 [some (zR (some 0)), some (zI x1), some (zI x2)] [] h = if x1 = 0 then zY 172 40 [some (zR (some 0)), some (zI x1), some (zI x2)] [] h else zY 172 44 [some (zR (some 0)), some (zI x1), some (zI x2)] [] h from zGo 2 172 36 _ _ _).trans ?_
    refine iteC (fun c1 => ?_) (fun c1 => ?_)
    · skip
      refine (show zY 172 40 [some (zR (some 0)), some (zI x1), some (zI x2)] [] h = gd (inR (0)) (gd (([] : List zV).isEmpty = true ∧ (zrk 172 = 1 ∨ zrk 172 = 6 ∧ ((0 : Int) = 0 ∨ (0 : Int) = 1))) (some (.inl (some (zI 0)), h))) from zGo 3 172 40 _ _ _).trans ?_
      refine (gd_t (by decide) _).trans ?_
      refine (gd_t (⟨rfl, Or.inl rfl⟩) _).trans ?_
      rfl
    · skip
      refine (show zY 172 44 [some (zR (some 0)), some (zI x1), some (zI x2)] [] h = gd (inR (1)) (gd (inR (1)) (gd (inR (x1 - 1)) (gd (inR (3)) (gd ((0 : Int) ≤ (x1 - 1) ∧ (0 : Int) < 3 ∨ (-2147483648 : Int) < (x1 - 1) ∧ (0 : Int) < 3) (gd (inR (1 + (Int.tmod (x1 - 1) 3))) (gd (([] : List zV).isEmpty = true ∧ (zrk 172 = 1 ∨ zrk 172 = 6 ∧ (((1 + (Int.tmod (x1 - 1) 3)) : Int) = 0 ∨ ((1 + (Int.tmod (x1 - 1) 3)) : Int) = 1))) (some (.inl (some (zI (1 + (Int.tmod (x1 - 1) 3)))), h)))))))) from zGo 8 172 44 _ _ _).trans ?_
      refine (gd_t (by decide) _).trans ?_
      refine (gd_t (by decide) _).trans ?_
      refine gd_c Iff.rfl (fun c2 => ?_)
      refine (gd_t (by decide) _).trans ?_
      refine gd_c (irem_c1 (by decide)) (fun c3 => ?_)
      refine gd_c Iff.rfl (fun c4 => ?_)
      refine (gd_t (⟨rfl, Or.inl rfl⟩) _).trans ?_
      rfl
  · skip
    refine iteC (fun c5 => ?_) (fun c5 => ?_)
    · skip
      refine (show zY 172 52 [some (zR (some 0)), some (zI x1), some (zI x2)] [] h = if x1 = 0 then zY 172 56 [some (zR (some 0)), some (zI x1), some (zI x2)] [] h else zY 172 60 [some (zR (some 0)), some (zI x1), some (zI x2)] [] h from zGo 2 172 52 _ _ _).trans ?_
      refine iteC (fun c6 => ?_) (fun c6 => ?_)
      · skip
        refine (show zY 172 56 [some (zR (some 0)), some (zI x1), some (zI x2)] [] h = gd (inR (-1)) (gd (([] : List zV).isEmpty = true ∧ (zrk 172 = 1 ∨ zrk 172 = 6 ∧ (((-1) : Int) = 0 ∨ ((-1) : Int) = 1))) (some (.inl (some (zI (-1))), h))) from zGo 3 172 56 _ _ _).trans ?_
        refine (gd_t (by decide) _).trans ?_
        refine (gd_t (⟨rfl, Or.inl rfl⟩) _).trans ?_
        rfl
      · skip
        refine (show zY 172 60 [some (zR (some 0)), some (zI x1), some (zI x2)] [] h = gd (zob h (some 0) 11) (zY 172 64 [some (zR (some 0)), some (zI x1), some (zI x2)] [zR (hR h 0 13)] h) from zGo 2 172 60 _ _ _).trans ?_
        refine (gd_t (⟨rfl, (PTC KC 0 _ rfl rfl), (PNC KC 0 rfl)⟩) _).trans ?_
        refine (congrArg (fun rz => zY 172 64 [some (zR (some 0)), some (zI x1), some (zI x2)] (zR rz :: []) h) rp).trans ?_
        refine (show zY 172 64 [some (zR (some 0)), some (zI x1), some (zI x2)] [zR (some p)] h = gd (inR (1)) (gd (inR (x1 - 1)) (gd (inR (3)) (gd ((0 : Int) ≤ (x1 - 1) ∧ (0 : Int) < 3) (gd (false = zctor 53 ∧ zcs [] ≤ 8 ∧ zrm 172 (zrf 53 + 1) (8 + (zmaxl 53 + 11) + zrl 53) = true ∧ zcs [zR (some p), zI ((x1 - 1) / 3)] ≤ zmaxl 53) (gd (zob h (some p) 5) (zBack zY 172 69 72 [some (zR (some 0)), some (zI x1), some (zI x2)] [] (zC 53 [zR (some p), zI ((x1 - 1) / 3)] h))))))) from zGo 6 172 64 _ _ _).trans ?_
        refine (gd_t (by decide) _).trans ?_
        refine gd_c Iff.rfl (fun c7 => ?_)
        refine (gd_t (by decide) _).trans ?_
        refine gd_c (idiv_c1 (by decide)) (fun c8 => ?_)
        refine (gd_t (⟨rfl, Nat.le_of_ble_eq_true rfl, rfl, Nat.le_of_ble_eq_true rfl⟩) _).trans ?_
        refine (gd_t (⟨rfl, hp.1, (PS_n hp)⟩) _).trans ?_
        refine (congrArg (zBack zY 172 69 72 [some (zR (some 0)), some (zI x1), some (zI x2)] []) (e_P_loopAt hp)).trans ?_
        refine (show zY 172 72 [some (zR (some 0)), some (zI x1), some (zI x2)] [zI (f_P_loopAt h p ((x1 - 1) / 3))] h = gd (([] : List zV).isEmpty = true ∧ (zrk 172 = 1 ∨ zrk 172 = 6 ∧ (((f_P_loopAt h p ((x1 - 1) / 3)) : Int) = 0 ∨ ((f_P_loopAt h p ((x1 - 1) / 3)) : Int) = 1))) (some (.inl (some (zI (f_P_loopAt h p ((x1 - 1) / 3)))), h)) from zGo 1 172 72 _ _ _).trans ?_
        refine (gd_t (⟨rfl, Or.inl rfl⟩) _).trans ?_
        rfl
    · skip
      refine iteC (fun c9 => ?_) (fun c9 => ?_)
      · skip
        refine (show zY 172 73 [some (zR (some 0)), some (zI x1), some (zI x2)] [] h = gd (zob h (some 0) 11) (zY 172 77 [some (zR (some 0)), some (zI x1), some (zI x2)] [zR (hR h 0 11)] h) from zGo 2 172 73 _ _ _).trans ?_
        refine (gd_t (⟨rfl, (PTC KC 0 _ rfl rfl), (PNC KC 0 rfl)⟩) _).trans ?_
        refine (congrArg (fun rz => zY 172 77 [some (zR (some 0)), some (zI x1), some (zI x2)] (zR rz :: []) h) (PRC KC 0 11 _ rfl)).trans ?_
        refine (show zY 172 77 [some (zR (some 0)), some (zI x1), some (zI x2)] [zR (some 132)] h = gd (false = zctor 9 ∧ zcs [] ≤ 8 ∧ zrm 172 (zrf 9 + 1) (8 + (zmaxl 9 + 11) + zrl 9) = true ∧ zcs [zR (some 132), zI x1] ≤ zmaxl 9) (gd (zob h (some 132) 1) (zBack zY 172 78 81 [some (zR (some 0)), some (zI x1), some (zI x2)] [] (zC 9 [zR (some 132), zI x1] h))) from zGo 2 172 77 _ _ _).trans ?_
        refine (gd_t (⟨rfl, Nat.le_of_ble_eq_true rfl, rfl, Nat.le_of_ble_eq_true rfl⟩) _).trans ?_
        refine (gd_t (⟨rfl, (PTC KC 132 _ rfl rfl), (PNC KC 132 rfl)⟩) _).trans ?_
        refine (congrArg (zBack zY 172 78 81 [some (zR (some 0)), some (zI x1), some (zI x2)] []) (e_D_failingStates KC)).trans ?_
        refine (show zY 172 81 [some (zR (some 0)), some (zI x1), some (zI x2)] [zJ (f_D_failingStates h x1)] h = gd (false = zctor 226 ∧ zcs [] ≤ 8 ∧ zrm 172 (zrf 226 + 1) (8 + (zmaxl 226 + 11) + zrl 226) = true ∧ zcs [zJ (f_D_failingStates h x1)] ≤ zmaxl 226) (zBack zY 172 81 84 [some (zR (some 0)), some (zI x1), some (zI x2)] [] (zC 226 [zJ (f_D_failingStates h x1)] h)) from zGo 1 172 81 _ _ _).trans ?_
        refine (gd_t (⟨rfl, Nat.le_of_ble_eq_true rfl, rfl, Nat.le_of_ble_eq_true rfl⟩) _).trans ?_
        refine (congrArg (zBack zY 172 81 84 [some (zR (some 0)), some (zI x1), some (zI x2)] []) (e_Lo_bitCount)).trans ?_
        refine (show zY 172 84 [some (zR (some 0)), some (zI x1), some (zI x2)] [zI (f_Lo_bitCount (f_D_failingStates h x1))] h = gd (([] : List zV).isEmpty = true ∧ (zrk 172 = 1 ∨ zrk 172 = 6 ∧ (((f_Lo_bitCount (f_D_failingStates h x1)) : Int) = 0 ∨ ((f_Lo_bitCount (f_D_failingStates h x1)) : Int) = 1))) (some (.inl (some (zI (f_Lo_bitCount (f_D_failingStates h x1)))), h)) from zGo 1 172 84 _ _ _).trans ?_
        refine (gd_t (⟨rfl, Or.inl rfl⟩) _).trans ?_
        rfl
      · skip
        refine iteC (fun c10 => ?_) (fun c10 => ?_)
        · skip
          refine (show zY 172 85 [some (zR (some 0)), some (zI x1), some (zI x2)] [] h = gd (zob h (some 0) 11) (zY 172 89 [some (zR (some 0)), some (zI x1), some (zI x2)] [zR (hR h 0 11)] h) from zGo 2 172 85 _ _ _).trans ?_
          refine (gd_t (⟨rfl, (PTC KC 0 _ rfl rfl), (PNC KC 0 rfl)⟩) _).trans ?_
          refine (congrArg (fun rz => zY 172 89 [some (zR (some 0)), some (zI x1), some (zI x2)] (zR rz :: []) h) (PRC KC 0 11 _ rfl)).trans ?_
          refine (show zY 172 89 [some (zR (some 0)), some (zI x1), some (zI x2)] [zR (some 132)] h = gd (false = zctor 9 ∧ zcs [] ≤ 8 ∧ zrm 172 (zrf 9 + 1) (8 + (zmaxl 9 + 11) + zrl 9) = true ∧ zcs [zR (some 132), zI x1] ≤ zmaxl 9) (gd (zob h (some 132) 1) (zBack zY 172 90 93 [some (zR (some 0)), some (zI x1), some (zI x2)] [] (zC 9 [zR (some 132), zI x1] h))) from zGo 2 172 89 _ _ _).trans ?_
          refine (gd_t (⟨rfl, Nat.le_of_ble_eq_true rfl, rfl, Nat.le_of_ble_eq_true rfl⟩) _).trans ?_
          refine (gd_t (⟨rfl, (PTC KC 132 _ rfl rfl), (PNC KC 132 rfl)⟩) _).trans ?_
          refine (congrArg (zBack zY 172 90 93 [some (zR (some 0)), some (zI x1), some (zI x2)] []) (e_D_failingStates KC)).trans ?_
          refine (show zY 172 93 [some (zR (some 0)), some (zI x1), some (zI x2)] [zJ (f_D_failingStates h x1)] h = gd (false = zctor 110 ∧ zcs [] ≤ 8 ∧ zrm 172 (zrf 110 + 1) (8 + (zmaxl 110 + 11) + zrl 110) = true ∧ zcs [zJ (f_D_failingStates h x1)] ≤ zmaxl 110) (zBack zY 172 93 96 [some (zR (some 0)), some (zI x1), some (zI x2)] [] (zC 110 [zJ (f_D_failingStates h x1)] h)) from zGo 1 172 93 _ _ _).trans ?_
          refine (gd_t (⟨rfl, Nat.le_of_ble_eq_true rfl, rfl, Nat.le_of_ble_eq_true rfl⟩) _).trans ?_
          refine (congrArg (zBack zY 172 93 96 [some (zR (some 0)), some (zI x1), some (zI x2)] []) (e_S_least)).trans ?_
          refine (show zY 172 96 [some (zR (some 0)), some (zI x1), some (zI x2)] [zI (f_S_least (f_D_failingStates h x1))] h = gd (([] : List zV).isEmpty = true ∧ (zrk 172 = 1 ∨ zrk 172 = 6 ∧ (((f_S_least (f_D_failingStates h x1)) : Int) = 0 ∨ ((f_S_least (f_D_failingStates h x1)) : Int) = 1))) (some (.inl (some (zI (f_S_least (f_D_failingStates h x1)))), h)) from zGo 1 172 96 _ _ _).trans ?_
          refine (gd_t (⟨rfl, Or.inl rfl⟩) _).trans ?_
          rfl
        · skip
          refine (show zY 172 97 [some (zR (some 0)), some (zI x1), some (zI x2)] [] h = some (.inr 0, (hNew h 0 6)) from zGo 1 172 97 _ _ _).trans ?_
          rfl
theorem q_B_failing {h : zH} {x1 : Int} (KC : KC h) : zC 174 [zR (some 0), zI x1] h =
    zBack zY 174 2 5 [some (zR (some 0)), some (zI x1)] [] (zC 173 [zR (some 0), zI x1] h) := by
  refine (show zC 174 [zR (some 0), zI x1] h = gd (false = zctor 173 ∧ zcs [] ≤ 8 ∧ zrm 174 (zrf 173 + 1) (8 + (zmaxl 173 + 11) + zrl 173) = true ∧ zcs [zR (some 0), zI x1] ≤ zmaxl 173) (gd (zob h (some 0) 11) (zBack zY 174 2 5 [some (zR (some 0)), some (zI x1)] [] (zC 173 [zR (some 0), zI x1] h))) from zGo 3 174 0 _ _ _).trans ?_
  refine (gd_t (⟨rfl, Nat.le_of_ble_eq_true rfl, rfl, Nat.le_of_ble_eq_true rfl⟩) _).trans ?_
  refine (gd_t (⟨rfl, (PTC KC 0 _ rfl rfl), (PNC KC 0 rfl)⟩) _).trans ?_
  rfl
theorem q_B_failing_r5 {h : zH} {x1 : Int} (KC : KC h) : zBack zY 174 2 5 [some (zR (some 0)), some (zI x1)] [] (some (.inl (none), h)) =
    some (.inl (some (zJ (f_D_failingStates h x1))), h) := by
  refine (show zBack zY 174 2 5 [some (zR (some 0)), some (zI x1)] [] (some (.inl (none), h)) = gd (zob h (some 0) 11) (zY 174 9 [some (zR (some 0)), some (zI x1)] [zR (hR h 0 11)] h) from zGo 2 174 5 _ _ _).trans ?_
  refine (gd_t (⟨rfl, (PTC KC 0 _ rfl rfl), (PNC KC 0 rfl)⟩) _).trans ?_
  refine (congrArg (fun rz => zY 174 9 [some (zR (some 0)), some (zI x1)] (zR rz :: []) h) (PRC KC 0 11 _ rfl)).trans ?_
  refine (show zY 174 9 [some (zR (some 0)), some (zI x1)] [zR (some 132)] h = gd (false = zctor 9 ∧ zcs [] ≤ 8 ∧ zrm 174 (zrf 9 + 1) (8 + (zmaxl 9 + 11) + zrl 9) = true ∧ zcs [zR (some 132), zI x1] ≤ zmaxl 9) (gd (zob h (some 132) 1) (zBack zY 174 10 13 [some (zR (some 0)), some (zI x1)] [] (zC 9 [zR (some 132), zI x1] h))) from zGo 2 174 9 _ _ _).trans ?_
  refine (gd_t (⟨rfl, Nat.le_of_ble_eq_true rfl, rfl, Nat.le_of_ble_eq_true rfl⟩) _).trans ?_
  refine (gd_t (⟨rfl, (PTC KC 132 _ rfl rfl), (PNC KC 132 rfl)⟩) _).trans ?_
  refine (congrArg (zBack zY 174 10 13 [some (zR (some 0)), some (zI x1)] []) (e_D_failingStates KC)).trans ?_
  refine (show zY 174 13 [some (zR (some 0)), some (zI x1)] [zJ (f_D_failingStates h x1)] h = gd (([] : List zV).isEmpty = true ∧ zrk 174 = 2) (some (.inl (some (zJ (f_D_failingStates h x1))), h)) from zGo 1 174 13 _ _ _).trans ?_
  refine (gd_t (⟨rfl, rfl⟩) _).trans ?_
  rfl
theorem q_B_run {h : zH} {x1 : Int} (KC : KC h) : zC 175 [zR (some 0), zI x1] h =
    zBack zY 175 2 5 [some (zR (some 0)), some (zI x1)] [] (zC 170 [zR (some 0), zI x1] h) := by
  refine (show zC 175 [zR (some 0), zI x1] h = gd (false = zctor 170 ∧ zcs [] ≤ 8 ∧ zrm 175 (zrf 170 + 1) (8 + (zmaxl 170 + 11) + zrl 170) = true ∧ zcs [zR (some 0), zI x1] ≤ zmaxl 170) (gd (zob h (some 0) 11) (zBack zY 175 2 5 [some (zR (some 0)), some (zI x1)] [] (zC 170 [zR (some 0), zI x1] h))) from zGo 3 175 0 _ _ _).trans ?_
  refine (gd_t (⟨rfl, Nat.le_of_ble_eq_true rfl, rfl, Nat.le_of_ble_eq_true rfl⟩) _).trans ?_
  refine (gd_t (⟨rfl, (PTC KC 0 _ rfl rfl), (PNC KC 0 rfl)⟩) _).trans ?_
  rfl
theorem q_B_run_r5 {h : zH} {x1 : Int} {p : Nat} (KC : KC h) (rp : hR h 0 13 = some p) (hp : PS h p) : zBack zY 175 2 5 [some (zR (some 0)), some (zI x1)] [] (some (.inl (none), h)) =
    zBack zY 175 17 20 [some (zR (some 0)), some (zI x1)] [] (zC 60 [zR (some 128), zI (f_P_start h p), zI x1] h) := by
  refine (show zBack zY 175 2 5 [some (zR (some 0)), some (zI x1)] [] (some (.inl (none), h)) = gd (zob h (some 0) 11) (zY 175 9 [some (zR (some 0)), some (zI x1)] [zR (hR h 0 10)] h) from zGo 2 175 5 _ _ _).trans ?_
  refine (gd_t (⟨rfl, (PTC KC 0 _ rfl rfl), (PNC KC 0 rfl)⟩) _).trans ?_
  refine (congrArg (fun rz => zY 175 9 [some (zR (some 0)), some (zI x1)] (zR rz :: []) h) (PRC KC 0 10 _ rfl)).trans ?_
  refine (show zY 175 9 [some (zR (some 0)), some (zI x1)] [zR (some 128)] h = gd (zob h (some 0) 11) (zY 175 13 [some (zR (some 0)), some (zI x1)] [zR (hR h 0 13), zR (some 128)] h) from zGo 2 175 9 _ _ _).trans ?_
  refine (gd_t (⟨rfl, (PTC KC 0 _ rfl rfl), (PNC KC 0 rfl)⟩) _).trans ?_
  refine (congrArg (fun rz => zY 175 13 [some (zR (some 0)), some (zI x1)] (zR rz :: zR (some 128) :: []) h) rp).trans ?_
  refine (show zY 175 13 [some (zR (some 0)), some (zI x1)] [zR (some p), zR (some 128)] h = gd (false = zctor 39 ∧ zcs [zR (some 128)] ≤ 8 ∧ zrm 175 (zrf 39 + 1) (8 + (zmaxl 39 + 11) + zrl 39) = true ∧ zcs [zR (some p)] ≤ zmaxl 39) (gd (zob h (some p) 5) (zBack zY 175 13 16 [some (zR (some 0)), some (zI x1)] [zR (some 128)] (zC 39 [zR (some p)] h))) from zGo 1 175 13 _ _ _).trans ?_
  refine (gd_t (⟨rfl, Nat.le_of_ble_eq_true rfl, rfl, Nat.le_of_ble_eq_true rfl⟩) _).trans ?_
  refine (gd_t (⟨rfl, hp.1, (PS_n hp)⟩) _).trans ?_
  refine (congrArg (zBack zY 175 13 16 [some (zR (some 0)), some (zI x1)] [zR (some 128)]) (e_P_start hp)).trans ?_
  refine (show zY 175 16 [some (zR (some 0)), some (zI x1)] [zI (f_P_start h p), zR (some 128)] h = gd (false = zctor 60 ∧ zcs [] ≤ 8 ∧ zrm 175 (zrf 60 + 1) (8 + (zmaxl 60 + 11) + zrl 60) = true ∧ zcs [zR (some 128), zI (f_P_start h p), zI x1] ≤ zmaxl 60) (gd (zob h (some 128) 6) (zBack zY 175 17 20 [some (zR (some 0)), some (zI x1)] [] (zC 60 [zR (some 128), zI (f_P_start h p), zI x1] h))) from zGo 2 175 16 _ _ _).trans ?_
  refine (gd_t (⟨rfl, Nat.le_of_ble_eq_true rfl, rfl, Nat.le_of_ble_eq_true rfl⟩) _).trans ?_
  refine (gd_t (⟨rfl, (PTC KC 128 _ rfl rfl), (PNC KC 128 rfl)⟩) _).trans ?_
  rfl
theorem q_B_run_r20 {h : zH} {x1 : Int} {y : Int} (KC : KC h) : zBack zY 175 17 20 [some (zR (some 0)), some (zI x1)] [] (some (.inl (some (zI y)), h)) =
    some (.inl (some (zI y)), h) := by
  refine (show zBack zY 175 17 20 [some (zR (some 0)), some (zI x1)] [] (some (.inl (some (zI y)), h)) = gd (([] : List zV).isEmpty = true ∧ (zrk 175 = 1 ∨ zrk 175 = 6 ∧ ((y : Int) = 0 ∨ (y : Int) = 1))) (some (.inl (some (zI y)), h)) from zGo 1 175 20 _ _ _).trans ?_
  refine (gd_t (⟨rfl, Or.inl rfl⟩) _).trans ?_
  rfl
theorem q_B_steps {h : zH} {x1 : Int} (KC : KC h) : zC 176 [zR (some 0), zI x1] h =
    zBack zY 176 2 5 [some (zR (some 0)), some (zI x1)] [] (zC 170 [zR (some 0), zI x1] h) := by
  refine (show zC 176 [zR (some 0), zI x1] h = gd (false = zctor 170 ∧ zcs [] ≤ 8 ∧ zrm 176 (zrf 170 + 1) (8 + (zmaxl 170 + 11) + zrl 170) = true ∧ zcs [zR (some 0), zI x1] ≤ zmaxl 170) (gd (zob h (some 0) 11) (zBack zY 176 2 5 [some (zR (some 0)), some (zI x1)] [] (zC 170 [zR (some 0), zI x1] h))) from zGo 3 176 0 _ _ _).trans ?_
  refine (gd_t (⟨rfl, Nat.le_of_ble_eq_true rfl, rfl, Nat.le_of_ble_eq_true rfl⟩) _).trans ?_
  refine (gd_t (⟨rfl, (PTC KC 0 _ rfl rfl), (PNC KC 0 rfl)⟩) _).trans ?_
  rfl
theorem q_B_steps_r5 {h : zH} {x1 : Int} (KC : KC h) : zBack zY 176 2 5 [some (zR (some 0)), some (zI x1)] [] (some (.inl (none), h)) =
    zBack zY 176 10 13 [some (zR (some 0)), some (zI x1)] [] (zC 75 [zR (some 128), zI x1] h) := by
  refine (show zBack zY 176 2 5 [some (zR (some 0)), some (zI x1)] [] (some (.inl (none), h)) = gd (zob h (some 0) 11) (zY 176 9 [some (zR (some 0)), some (zI x1)] [zR (hR h 0 10)] h) from zGo 2 176 5 _ _ _).trans ?_
  refine (gd_t (⟨rfl, (PTC KC 0 _ rfl rfl), (PNC KC 0 rfl)⟩) _).trans ?_
  refine (congrArg (fun rz => zY 176 9 [some (zR (some 0)), some (zI x1)] (zR rz :: []) h) (PRC KC 0 10 _ rfl)).trans ?_
  refine (show zY 176 9 [some (zR (some 0)), some (zI x1)] [zR (some 128)] h = gd (false = zctor 75 ∧ zcs [] ≤ 8 ∧ zrm 176 (zrf 75 + 1) (8 + (zmaxl 75 + 11) + zrl 75) = true ∧ zcs [zR (some 128), zI x1] ≤ zmaxl 75) (gd (zob h (some 128) 6) (zBack zY 176 10 13 [some (zR (some 0)), some (zI x1)] [] (zC 75 [zR (some 128), zI x1] h))) from zGo 2 176 9 _ _ _).trans ?_
  refine (gd_t (⟨rfl, Nat.le_of_ble_eq_true rfl, rfl, Nat.le_of_ble_eq_true rfl⟩) _).trans ?_
  refine (gd_t (⟨rfl, (PTC KC 128 _ rfl rfl), (PNC KC 128 rfl)⟩) _).trans ?_
  rfl
theorem q_B_steps_r13 {h : zH} {x1 : Int} {y : Int} (KC : KC h) : zBack zY 176 10 13 [some (zR (some 0)), some (zI x1)] [] (some (.inl (some (zI y)), h)) =
    some (.inl (some (zI y)), h) := by
  refine (show zBack zY 176 10 13 [some (zR (some 0)), some (zI x1)] [] (some (.inl (some (zI y)), h)) = gd (([] : List zV).isEmpty = true ∧ (zrk 176 = 1 ∨ zrk 176 = 6 ∧ ((y : Int) = 0 ∨ (y : Int) = 1))) (some (.inl (some (zI y)), h)) from zGo 1 176 13 _ _ _).trans ?_
  refine (gd_t (⟨rfl, Or.inl rfl⟩) _).trans ?_
  rfl
theorem q_B_cost {h : zH} {x1 : Int} (KC : KC h) : zC 177 [zR (some 0), zI x1] h =
    zBack zY 177 2 5 [some (zR (some 0)), some (zI x1)] [] (zC 170 [zR (some 0), zI x1] h) := by
  refine (show zC 177 [zR (some 0), zI x1] h = gd (false = zctor 170 ∧ zcs [] ≤ 8 ∧ zrm 177 (zrf 170 + 1) (8 + (zmaxl 170 + 11) + zrl 170) = true ∧ zcs [zR (some 0), zI x1] ≤ zmaxl 170) (gd (zob h (some 0) 11) (zBack zY 177 2 5 [some (zR (some 0)), some (zI x1)] [] (zC 170 [zR (some 0), zI x1] h))) from zGo 3 177 0 _ _ _).trans ?_
  refine (gd_t (⟨rfl, Nat.le_of_ble_eq_true rfl, rfl, Nat.le_of_ble_eq_true rfl⟩) _).trans ?_
  refine (gd_t (⟨rfl, (PTC KC 0 _ rfl rfl), (PNC KC 0 rfl)⟩) _).trans ?_
  rfl
theorem q_B_cost_r5 {h : zH} {x1 : Int} (KC : KC h) : zBack zY 177 2 5 [some (zR (some 0)), some (zI x1)] [] (some (.inl (none), h)) =
    zBack zY 177 10 13 [some (zR (some 0)), some (zI x1)] [] (zC 76 [zR (some 128), zI x1] h) := by
  refine (show zBack zY 177 2 5 [some (zR (some 0)), some (zI x1)] [] (some (.inl (none), h)) = gd (zob h (some 0) 11) (zY 177 9 [some (zR (some 0)), some (zI x1)] [zR (hR h 0 10)] h) from zGo 2 177 5 _ _ _).trans ?_
  refine (gd_t (⟨rfl, (PTC KC 0 _ rfl rfl), (PNC KC 0 rfl)⟩) _).trans ?_
  refine (congrArg (fun rz => zY 177 9 [some (zR (some 0)), some (zI x1)] (zR rz :: []) h) (PRC KC 0 10 _ rfl)).trans ?_
  refine (show zY 177 9 [some (zR (some 0)), some (zI x1)] [zR (some 128)] h = gd (false = zctor 76 ∧ zcs [] ≤ 8 ∧ zrm 177 (zrf 76 + 1) (8 + (zmaxl 76 + 11) + zrl 76) = true ∧ zcs [zR (some 128), zI x1] ≤ zmaxl 76) (gd (zob h (some 128) 6) (zBack zY 177 10 13 [some (zR (some 0)), some (zI x1)] [] (zC 76 [zR (some 128), zI x1] h))) from zGo 2 177 9 _ _ _).trans ?_
  refine (gd_t (⟨rfl, Nat.le_of_ble_eq_true rfl, rfl, Nat.le_of_ble_eq_true rfl⟩) _).trans ?_
  refine (gd_t (⟨rfl, (PTC KC 128 _ rfl rfl), (PNC KC 128 rfl)⟩) _).trans ?_
  rfl
theorem q_B_cost_r13 {h : zH} {x1 : Int} {y : UInt32} (KC : KC h) : zBack zY 177 10 13 [some (zR (some 0)), some (zI x1)] [] (some (.inl (some (zF y)), h)) =
    some (.inl (some (zF y)), h) := by
  refine (show zBack zY 177 10 13 [some (zR (some 0)), some (zI x1)] [] (some (.inl (some (zF y)), h)) = gd (([] : List zV).isEmpty = true ∧ zrk 177 = 3) (some (.inl (some (zF y)), h)) from zGo 1 177 13 _ _ _).trans ?_
  refine (gd_t (⟨rfl, rfl⟩) _).trans ?_
  rfl
theorem q_B_costBits {h : zH} {x1 : Int} (KC : KC h) : zC 178 [zR (some 0), zI x1] h =
    zBack zY 178 2 5 [some (zR (some 0)), some (zI x1)] [] (zC 170 [zR (some 0), zI x1] h) := by
  refine (show zC 178 [zR (some 0), zI x1] h = gd (false = zctor 170 ∧ zcs [] ≤ 8 ∧ zrm 178 (zrf 170 + 1) (8 + (zmaxl 170 + 11) + zrl 170) = true ∧ zcs [zR (some 0), zI x1] ≤ zmaxl 170) (gd (zob h (some 0) 11) (zBack zY 178 2 5 [some (zR (some 0)), some (zI x1)] [] (zC 170 [zR (some 0), zI x1] h))) from zGo 3 178 0 _ _ _).trans ?_
  refine (gd_t (⟨rfl, Nat.le_of_ble_eq_true rfl, rfl, Nat.le_of_ble_eq_true rfl⟩) _).trans ?_
  refine (gd_t (⟨rfl, (PTC KC 0 _ rfl rfl), (PNC KC 0 rfl)⟩) _).trans ?_
  rfl
theorem q_B_costBits_r5 {h : zH} {x1 : Int} (KC : KC h) : zBack zY 178 2 5 [some (zR (some 0)), some (zI x1)] [] (some (.inl (none), h)) =
    zBack zY 178 10 13 [some (zR (some 0)), some (zI x1)] [] (zC 76 [zR (some 128), zI x1] h) := by
  refine (show zBack zY 178 2 5 [some (zR (some 0)), some (zI x1)] [] (some (.inl (none), h)) = gd (zob h (some 0) 11) (zY 178 9 [some (zR (some 0)), some (zI x1)] [zR (hR h 0 10)] h) from zGo 2 178 5 _ _ _).trans ?_
  refine (gd_t (⟨rfl, (PTC KC 0 _ rfl rfl), (PNC KC 0 rfl)⟩) _).trans ?_
  refine (congrArg (fun rz => zY 178 9 [some (zR (some 0)), some (zI x1)] (zR rz :: []) h) (PRC KC 0 10 _ rfl)).trans ?_
  refine (show zY 178 9 [some (zR (some 0)), some (zI x1)] [zR (some 128)] h = gd (false = zctor 76 ∧ zcs [] ≤ 8 ∧ zrm 178 (zrf 76 + 1) (8 + (zmaxl 76 + 11) + zrl 76) = true ∧ zcs [zR (some 128), zI x1] ≤ zmaxl 76) (gd (zob h (some 128) 6) (zBack zY 178 10 13 [some (zR (some 0)), some (zI x1)] [] (zC 76 [zR (some 128), zI x1] h))) from zGo 2 178 9 _ _ _).trans ?_
  refine (gd_t (⟨rfl, Nat.le_of_ble_eq_true rfl, rfl, Nat.le_of_ble_eq_true rfl⟩) _).trans ?_
  refine (gd_t (⟨rfl, (PTC KC 128 _ rfl rfl), (PNC KC 128 rfl)⟩) _).trans ?_
  rfl
theorem q_B_costBits_r13 {h : zH} {x1 : Int} {y : UInt32} (KC : KC h) : zBack zY 178 10 13 [some (zR (some 0)), some (zI x1)] [] (some (.inl (some (zF y)), h)) =
    zBack zY 178 13 16 [some (zR (some 0)), some (zI x1)] [] (zC 77 [zF y] h) := by
  refine (show zBack zY 178 10 13 [some (zR (some 0)), some (zI x1)] [] (some (.inl (some (zF y)), h)) = gd (false = zctor 77 ∧ zcs [] ≤ 8 ∧ zrm 178 (zrf 77 + 1) (8 + (zmaxl 77 + 11) + zrl 77) = true ∧ zcs [zF y] ≤ zmaxl 77) (zBack zY 178 13 16 [some (zR (some 0)), some (zI x1)] [] (zC 77 [zF y] h)) from zGo 1 178 13 _ _ _).trans ?_
  refine (gd_t (⟨rfl, Nat.le_of_ble_eq_true rfl, rfl, Nat.le_of_ble_eq_true rfl⟩) _).trans ?_
  rfl
theorem q_B_costBits_r16 {h : zH} {x1 : Int} {y : Int} (KC : KC h) : zBack zY 178 13 16 [some (zR (some 0)), some (zI x1)] [] (some (.inl (some (zI y)), h)) =
    some (.inl (some (zI y)), h) := by
  refine (show zBack zY 178 13 16 [some (zR (some 0)), some (zI x1)] [] (some (.inl (some (zI y)), h)) = gd (([] : List zV).isEmpty = true ∧ (zrk 178 = 1 ∨ zrk 178 = 6 ∧ ((y : Int) = 0 ∨ (y : Int) = 1))) (some (.inl (some (zI y)), h)) from zGo 1 178 16 _ _ _).trans ?_
  refine (gd_t (⟨rfl, Or.inl rfl⟩) _).trans ?_
  rfl
theorem q_B_met {h : zH} {x1 : Int} (KC : KC h) : zC 179 [zR (some 0), zI x1] h =
    zBack zY 179 2 5 [some (zR (some 0)), some (zI x1)] [] (zC 165 [zR (some 0), zI x1] h) := by
  refine (show zC 179 [zR (some 0), zI x1] h = gd (false = zctor 165 ∧ zcs [] ≤ 8 ∧ zrm 179 (zrf 165 + 1) (8 + (zmaxl 165 + 11) + zrl 165) = true ∧ zcs [zR (some 0), zI x1] ≤ zmaxl 165) (gd (zob h (some 0) 11) (zBack zY 179 2 5 [some (zR (some 0)), some (zI x1)] [] (zC 165 [zR (some 0), zI x1] h))) from zGo 3 179 0 _ _ _).trans ?_
  refine (gd_t (⟨rfl, Nat.le_of_ble_eq_true rfl, rfl, Nat.le_of_ble_eq_true rfl⟩) _).trans ?_
  refine (gd_t (⟨rfl, (PTC KC 0 _ rfl rfl), (PNC KC 0 rfl)⟩) _).trans ?_
  rfl
theorem q_B_met_r5 {h : zH} {x1 : Int} (KC : KC h) : zBack zY 179 2 5 [some (zR (some 0)), some (zI x1)] [] (some (.inl (none), h)) =
    zBack zY 179 10 13 [some (zR (some 0)), some (zI x1)] [] (zC 78 [zR (some 128), zI x1] h) := by
  refine (show zBack zY 179 2 5 [some (zR (some 0)), some (zI x1)] [] (some (.inl (none), h)) = gd (zob h (some 0) 11) (zY 179 9 [some (zR (some 0)), some (zI x1)] [zR (hR h 0 10)] h) from zGo 2 179 5 _ _ _).trans ?_
  refine (gd_t (⟨rfl, (PTC KC 0 _ rfl rfl), (PNC KC 0 rfl)⟩) _).trans ?_
  refine (congrArg (fun rz => zY 179 9 [some (zR (some 0)), some (zI x1)] (zR rz :: []) h) (PRC KC 0 10 _ rfl)).trans ?_
  refine (show zY 179 9 [some (zR (some 0)), some (zI x1)] [zR (some 128)] h = gd (false = zctor 78 ∧ zcs [] ≤ 8 ∧ zrm 179 (zrf 78 + 1) (8 + (zmaxl 78 + 11) + zrl 78) = true ∧ zcs [zR (some 128), zI x1] ≤ zmaxl 78) (gd (zob h (some 128) 6) (zBack zY 179 10 13 [some (zR (some 0)), some (zI x1)] [] (zC 78 [zR (some 128), zI x1] h))) from zGo 2 179 9 _ _ _).trans ?_
  refine (gd_t (⟨rfl, Nat.le_of_ble_eq_true rfl, rfl, Nat.le_of_ble_eq_true rfl⟩) _).trans ?_
  refine (gd_t (⟨rfl, (PTC KC 128 _ rfl rfl), (PNC KC 128 rfl)⟩) _).trans ?_
  rfl
theorem q_B_met_r13 {h : zH} {x1 : Int} {y : BitVec 64} (KC : KC h) : zBack zY 179 10 13 [some (zR (some 0)), some (zI x1)] [] (some (.inl (some (zJ y)), h)) =
    some (.inl (some (zJ y)), h) := by
  refine (show zBack zY 179 10 13 [some (zR (some 0)), some (zI x1)] [] (some (.inl (some (zJ y)), h)) = gd (([] : List zV).isEmpty = true ∧ zrk 179 = 2) (some (.inl (some (zJ y)), h)) from zGo 1 179 13 _ _ _).trans ?_
  refine (gd_t (⟨rfl, rfl⟩) _).trans ?_
  rfl
theorem q_B_leastFilling {h : zH} {x1 : Int} {x2 : Int} {v : Nat} (KC : KC h) (rv : hR h 0 14 = some v) (hv : VS h v) : zC 183 [zR (some 0), zI x1, zI x2] h =
    zY 183 15 [some (zR (some 0)), some (zI x1), some (zI x2), some (zI (f_V_fillingOf h v x1)), some (zI (-1)), some (zI 0)] [] h := by
  refine (show zC 183 [zR (some 0), zI x1, zI x2] h = gd (zob h (some 0) 11) (zY 183 4 [some (zR (some 0)), some (zI x1), some (zI x2), none, none, none] [zR (hR h 0 14)] h) from zGo 2 183 0 _ _ _).trans ?_
  refine (gd_t (⟨rfl, (PTC KC 0 _ rfl rfl), (PNC KC 0 rfl)⟩) _).trans ?_
  refine (congrArg (fun rz => zY 183 4 [some (zR (some 0)), some (zI x1), some (zI x2), none, none, none] (zR rz :: []) h) rv).trans ?_
  refine (show zY 183 4 [some (zR (some 0)), some (zI x1), some (zI x2), none, none, none] [zR (some v)] h = gd (false = zctor 128 ∧ zcs [] ≤ 8 ∧ zrm 183 (zrf 128 + 1) (8 + (zmaxl 128 + 11) + zrl 128) = true ∧ zcs [zR (some v), zI x1] ≤ zmaxl 128) (gd (zob h (some v) 10) (zBack zY 183 5 8 [some (zR (some 0)), some (zI x1), some (zI x2), none, none, none] [] (zC 128 [zR (some v), zI x1] h))) from zGo 2 183 4 _ _ _).trans ?_
  refine (gd_t (⟨rfl, Nat.le_of_ble_eq_true rfl, rfl, Nat.le_of_ble_eq_true rfl⟩) _).trans ?_
  refine (gd_t (⟨rfl, hv.1, (VS_n hv)⟩) _).trans ?_
  refine (congrArg (zBack zY 183 5 8 [some (zR (some 0)), some (zI x1), some (zI x2), none, none, none] []) (e_V_fillingOf hv)).trans ?_
  refine (show zY 183 8 [some (zR (some 0)), some (zI x1), some (zI x2), none, none, none] [zI (f_V_fillingOf h v x1)] h = gd (inR (-1)) (gd (inR (0)) (zY 183 15 [some (zR (some 0)), some (zI x1), some (zI x2), some (zI (f_V_fillingOf h v x1)), some (zI (-1)), some (zI 0)] [] h)) from zGo 5 183 8 _ _ _).trans ?_
  refine (gd_t (by decide) _).trans ?_
  refine (gd_t (by decide) _).trans ?_
  rfl
theorem q_B_leastFilling_15 {h : zH} {x1 : Int} {x2 : Int} {x3 : Int} {x4 : Int} {x5 : Int} {v : Nat} (KC : KC h) (rv : hR h 0 14 = some v) (hv : VS h v) : zY 183 15 [some (zR (some 0)), some (zI x1), some (zI x2), some (zI x3), some (zI x4), some (zI x5)] [] h =
    if x5 < 39 then
      if x4 = (-1) then
        zBack zY 183 35 38 [some (zR (some 0)), some (zI x1), some (zI x2), some (zI x3), some (zI x4), some (zI x5)] [] (zC 133 [zR (some v), zI x1, zI x5] h)
      else
        zBack zY 183 98 101 [some (zR (some 0)), some (zI x1), some (zI x2), some (zI x3), some (zI x4), some (zI x5)] [] (zC 133 [zR (some v), zI x1, zI x3] h)
    else
      zBack zY 183 98 101 [some (zR (some 0)), some (zI x1), some (zI x2), some (zI x3), some (zI x4), some (zI x5)] [] (zC 133 [zR (some v), zI x1, zI x3] h) := by
  refine (show zY 183 15 [some (zR (some 0)), some (zI x1), some (zI x2), some (zI x3), some (zI x4), some (zI x5)] [] h = gd (-128 ≤ (39 : Int) ∧ (39 : Int) < 128) (if x5 < 39 then zY 183 22 [some (zR (some 0)), some (zI x1), some (zI x2), some (zI x3), some (zI x4), some (zI x5)] [] h else zY 183 92 [some (zR (some 0)), some (zI x1), some (zI x2), some (zI x3), some (zI x4), some (zI x5)] [] h) from zGo 3 183 15 _ _ _).trans ?_
  refine (gd_t (by decide) _).trans ?_
  refine iteC (fun c0 => ?_) (fun c0 => ?_)
  · skip
    refine (show zY 183 22 [some (zR (some 0)), some (zI x1), some (zI x2), some (zI x3), some (zI x4), some (zI x5)] [] h = gd (inR (-1)) (if x4 = (-1) then zY 183 28 [some (zR (some 0)), some (zI x1), some (zI x2), some (zI x3), some (zI x4), some (zI x5)] [] h else zY 183 92 [some (zR (some 0)), some (zI x1), some (zI x2), some (zI x3), some (zI x4), some (zI x5)] [] h) from zGo 3 183 22 _ _ _).trans ?_
    refine (gd_t (by decide) _).trans ?_
    refine iteC (fun c1 => ?_) (fun c1 => ?_)
    · skip
      refine (show zY 183 28 [some (zR (some 0)), some (zI x1), some (zI x2), some (zI x3), some (zI x4), some (zI x5)] [] h = gd (zob h (some 0) 11) (zY 183 32 [some (zR (some 0)), some (zI x1), some (zI x2), some (zI x3), some (zI x4), some (zI x5)] [zR (hR h 0 14)] h) from zGo 2 183 28 _ _ _).trans ?_
      refine (gd_t (⟨rfl, (PTC KC 0 _ rfl rfl), (PNC KC 0 rfl)⟩) _).trans ?_
      refine (congrArg (fun rz => zY 183 32 [some (zR (some 0)), some (zI x1), some (zI x2), some (zI x3), some (zI x4), some (zI x5)] (zR rz :: []) h) rv).trans ?_
      refine (show zY 183 32 [some (zR (some 0)), some (zI x1), some (zI x2), some (zI x3), some (zI x4), some (zI x5)] [zR (some v)] h = gd (false = zctor 133 ∧ zcs [] ≤ 8 ∧ zrm 183 (zrf 133 + 1) (8 + (zmaxl 133 + 11) + zrl 133) = true ∧ zcs [zR (some v), zI x1, zI x5] ≤ zmaxl 133) (gd (zob h (some v) 10) (zBack zY 183 35 38 [some (zR (some 0)), some (zI x1), some (zI x2), some (zI x3), some (zI x4), some (zI x5)] [] (zC 133 [zR (some v), zI x1, zI x5] h))) from zGo 3 183 32 _ _ _).trans ?_
      refine (gd_t (⟨rfl, Nat.le_of_ble_eq_true rfl, rfl, Nat.le_of_ble_eq_true rfl⟩) _).trans ?_
      refine (gd_t (⟨rfl, hv.1, (VS_n hv)⟩) _).trans ?_
      rfl
    · skip
      refine (show zY 183 92 [some (zR (some 0)), some (zI x1), some (zI x2), some (zI x3), some (zI x4), some (zI x5)] [] h = gd (zob h (some 0) 11) (zY 183 96 [some (zR (some 0)), some (zI x1), some (zI x2), some (zI x3), some (zI x4), some (zI x5)] [zR (hR h 0 14)] h) from zGo 2 183 92 _ _ _).trans ?_
      refine (gd_t (⟨rfl, (PTC KC 0 _ rfl rfl), (PNC KC 0 rfl)⟩) _).trans ?_
      refine (congrArg (fun rz => zY 183 96 [some (zR (some 0)), some (zI x1), some (zI x2), some (zI x3), some (zI x4), some (zI x5)] (zR rz :: []) h) rv).trans ?_
      refine (show zY 183 96 [some (zR (some 0)), some (zI x1), some (zI x2), some (zI x3), some (zI x4), some (zI x5)] [zR (some v)] h = gd (false = zctor 133 ∧ zcs [] ≤ 8 ∧ zrm 183 (zrf 133 + 1) (8 + (zmaxl 133 + 11) + zrl 133) = true ∧ zcs [zR (some v), zI x1, zI x3] ≤ zmaxl 133) (gd (zob h (some v) 10) (zBack zY 183 98 101 [some (zR (some 0)), some (zI x1), some (zI x2), some (zI x3), some (zI x4), some (zI x5)] [] (zC 133 [zR (some v), zI x1, zI x3] h))) from zGo 3 183 96 _ _ _).trans ?_
      refine (gd_t (⟨rfl, Nat.le_of_ble_eq_true rfl, rfl, Nat.le_of_ble_eq_true rfl⟩) _).trans ?_
      refine (gd_t (⟨rfl, hv.1, (VS_n hv)⟩) _).trans ?_
      rfl
  · skip
    refine (show zY 183 92 [some (zR (some 0)), some (zI x1), some (zI x2), some (zI x3), some (zI x4), some (zI x5)] [] h = gd (zob h (some 0) 11) (zY 183 96 [some (zR (some 0)), some (zI x1), some (zI x2), some (zI x3), some (zI x4), some (zI x5)] [zR (hR h 0 14)] h) from zGo 2 183 92 _ _ _).trans ?_
    refine (gd_t (⟨rfl, (PTC KC 0 _ rfl rfl), (PNC KC 0 rfl)⟩) _).trans ?_
    refine (congrArg (fun rz => zY 183 96 [some (zR (some 0)), some (zI x1), some (zI x2), some (zI x3), some (zI x4), some (zI x5)] (zR rz :: []) h) rv).trans ?_
    refine (show zY 183 96 [some (zR (some 0)), some (zI x1), some (zI x2), some (zI x3), some (zI x4), some (zI x5)] [zR (some v)] h = gd (false = zctor 133 ∧ zcs [] ≤ 8 ∧ zrm 183 (zrf 133 + 1) (8 + (zmaxl 133 + 11) + zrl 133) = true ∧ zcs [zR (some v), zI x1, zI x3] ≤ zmaxl 133) (gd (zob h (some v) 10) (zBack zY 183 98 101 [some (zR (some 0)), some (zI x1), some (zI x2), some (zI x3), some (zI x4), some (zI x5)] [] (zC 133 [zR (some v), zI x1, zI x3] h))) from zGo 3 183 96 _ _ _).trans ?_
    refine (gd_t (⟨rfl, Nat.le_of_ble_eq_true rfl, rfl, Nat.le_of_ble_eq_true rfl⟩) _).trans ?_
    refine (gd_t (⟨rfl, hv.1, (VS_n hv)⟩) _).trans ?_
    rfl
theorem q_B_leastFilling_r38 {h : zH} {x1 : Int} {x2 : Int} {x3 : Int} {x4 : Int} {x5 : Int} {p : Nat} {v : Nat} (KC : KC h) (rp : hR h 0 13 = some p) (hp : PS h p) (rv : hR h 0 14 = some v) (hv : VS h v) : zBack zY 183 35 38 [some (zR (some 0)), some (zI x1), some (zI x2), some (zI x3), some (zI x4), some (zI x5)] [] (some (.inl (none), h)) =
    zBack zY 183 50 53 [some (zR (some 0)), some (zI x1), some (zI x2), some (zI x3), some (zI x4), some (zI x5)] [] (zC 1 [zR (some 132), zR (some p), zR (some v)] h) := by
  refine (show zBack zY 183 35 38 [some (zR (some 0)), some (zI x1), some (zI x2), some (zI x3), some (zI x4), some (zI x5)] [] (some (.inl (none), h)) = gd (zob h (some 0) 11) (zY 183 42 [some (zR (some 0)), some (zI x1), some (zI x2), some (zI x3), some (zI x4), some (zI x5)] [zR (hR h 0 11)] h) from zGo 2 183 38 _ _ _).trans ?_
  refine (gd_t (⟨rfl, (PTC KC 0 _ rfl rfl), (PNC KC 0 rfl)⟩) _).trans ?_
  refine (congrArg (fun rz => zY 183 42 [some (zR (some 0)), some (zI x1), some (zI x2), some (zI x3), some (zI x4), some (zI x5)] (zR rz :: []) h) (PRC KC 0 11 _ rfl)).trans ?_
  refine (show zY 183 42 [some (zR (some 0)), some (zI x1), some (zI x2), some (zI x3), some (zI x4), some (zI x5)] [zR (some 132)] h = gd (zob h (some 0) 11) (zY 183 46 [some (zR (some 0)), some (zI x1), some (zI x2), some (zI x3), some (zI x4), some (zI x5)] [zR (hR h 0 13), zR (some 132)] h) from zGo 2 183 42 _ _ _).trans ?_
  refine (gd_t (⟨rfl, (PTC KC 0 _ rfl rfl), (PNC KC 0 rfl)⟩) _).trans ?_
  refine (congrArg (fun rz => zY 183 46 [some (zR (some 0)), some (zI x1), some (zI x2), some (zI x3), some (zI x4), some (zI x5)] (zR rz :: zR (some 132) :: []) h) rp).trans ?_
  refine (show zY 183 46 [some (zR (some 0)), some (zI x1), some (zI x2), some (zI x3), some (zI x4), some (zI x5)] [zR (some p), zR (some 132)] h = gd (zob h (some 0) 11) (zY 183 50 [some (zR (some 0)), some (zI x1), some (zI x2), some (zI x3), some (zI x4), some (zI x5)] [zR (hR h 0 14), zR (some p), zR (some 132)] h) from zGo 2 183 46 _ _ _).trans ?_
  refine (gd_t (⟨rfl, (PTC KC 0 _ rfl rfl), (PNC KC 0 rfl)⟩) _).trans ?_
  refine (congrArg (fun rz => zY 183 50 [some (zR (some 0)), some (zI x1), some (zI x2), some (zI x3), some (zI x4), some (zI x5)] (zR rz :: zR (some p) :: zR (some 132) :: []) h) rv).trans ?_
  refine (show zY 183 50 [some (zR (some 0)), some (zI x1), some (zI x2), some (zI x3), some (zI x4), some (zI x5)] [zR (some v), zR (some p), zR (some 132)] h = gd (false = zctor 1 ∧ zcs [] ≤ 8 ∧ zrm 183 (zrf 1 + 1) (8 + (zmaxl 1 + 11) + zrl 1) = true ∧ zcs [zR (some 132), zR (some p), zR (some v)] ≤ zmaxl 1) (gd (zob h (some 132) 1) (zBack zY 183 50 53 [some (zR (some 0)), some (zI x1), some (zI x2), some (zI x3), some (zI x4), some (zI x5)] [] (zC 1 [zR (some 132), zR (some p), zR (some v)] h))) from zGo 1 183 50 _ _ _).trans ?_
  refine (gd_t (⟨rfl, Nat.le_of_ble_eq_true rfl, rfl, Nat.le_of_ble_eq_true rfl⟩) _).trans ?_
  refine (gd_t (⟨rfl, (PTC KC 132 _ rfl rfl), (PNC KC 132 rfl)⟩) _).trans ?_
  rfl
theorem q_B_leastFilling_r53 {h : zH} {x1 : Int} {x2 : Int} {x3 : Int} {x4 : Int} {x5 : Int} (KC : KC h) : zBack zY 183 50 53 [some (zR (some 0)), some (zI x1), some (zI x2), some (zI x3), some (zI x4), some (zI x5)] [] (some (.inl (none), h)) =
    if x2 = 0 then
      zBack zY 183 74 77 [some (zR (some 0)), some (zI x1), some (zI x2), some (zI x3), some (zI x4), some (zI x5)] [] (zC 64 [zR (some 128)] h)
    else
      zBack zY 183 61 64 [some (zR (some 0)), some (zI x1), some (zI x2), some (zI x3), some (zI x4), some (zI x5)] [] (zC 11 [zR (some 132)] h) := by
  refine (show zBack zY 183 50 53 [some (zR (some 0)), some (zI x1), some (zI x2), some (zI x3), some (zI x4), some (zI x5)] [] (some (.inl (none), h)) = if x2 = 0 then zY 183 70 [some (zR (some 0)), some (zI x1), some (zI x2), some (zI x3), some (zI x4), some (zI x5)] [] h else zY 183 57 [some (zR (some 0)), some (zI x1), some (zI x2), some (zI x3), some (zI x4), some (zI x5)] [] h from zGo 2 183 53 _ _ _).trans ?_
  refine iteC (fun c0 => ?_) (fun c0 => ?_)
  · skip
    refine (show zY 183 70 [some (zR (some 0)), some (zI x1), some (zI x2), some (zI x3), some (zI x4), some (zI x5)] [] h = gd (zob h (some 0) 11) (zY 183 74 [some (zR (some 0)), some (zI x1), some (zI x2), some (zI x3), some (zI x4), some (zI x5)] [zR (hR h 0 10)] h) from zGo 2 183 70 _ _ _).trans ?_
    refine (gd_t (⟨rfl, (PTC KC 0 _ rfl rfl), (PNC KC 0 rfl)⟩) _).trans ?_
    refine (congrArg (fun rz => zY 183 74 [some (zR (some 0)), some (zI x1), some (zI x2), some (zI x3), some (zI x4), some (zI x5)] (zR rz :: []) h) (PRC KC 0 10 _ rfl)).trans ?_
    refine (show zY 183 74 [some (zR (some 0)), some (zI x1), some (zI x2), some (zI x3), some (zI x4), some (zI x5)] [zR (some 128)] h = gd (false = zctor 64 ∧ zcs [] ≤ 8 ∧ zrm 183 (zrf 64 + 1) (8 + (zmaxl 64 + 11) + zrl 64) = true ∧ zcs [zR (some 128)] ≤ zmaxl 64) (gd (zob h (some 128) 6) (zBack zY 183 74 77 [some (zR (some 0)), some (zI x1), some (zI x2), some (zI x3), some (zI x4), some (zI x5)] [] (zC 64 [zR (some 128)] h))) from zGo 1 183 74 _ _ _).trans ?_
    refine (gd_t (⟨rfl, Nat.le_of_ble_eq_true rfl, rfl, Nat.le_of_ble_eq_true rfl⟩) _).trans ?_
    refine (gd_t (⟨rfl, (PTC KC 128 _ rfl rfl), (PNC KC 128 rfl)⟩) _).trans ?_
    rfl
  · skip
    refine (show zY 183 57 [some (zR (some 0)), some (zI x1), some (zI x2), some (zI x3), some (zI x4), some (zI x5)] [] h = gd (zob h (some 0) 11) (zY 183 61 [some (zR (some 0)), some (zI x1), some (zI x2), some (zI x3), some (zI x4), some (zI x5)] [zR (hR h 0 11)] h) from zGo 2 183 57 _ _ _).trans ?_
    refine (gd_t (⟨rfl, (PTC KC 0 _ rfl rfl), (PNC KC 0 rfl)⟩) _).trans ?_
    refine (congrArg (fun rz => zY 183 61 [some (zR (some 0)), some (zI x1), some (zI x2), some (zI x3), some (zI x4), some (zI x5)] (zR rz :: []) h) (PRC KC 0 11 _ rfl)).trans ?_
    refine (show zY 183 61 [some (zR (some 0)), some (zI x1), some (zI x2), some (zI x3), some (zI x4), some (zI x5)] [zR (some 132)] h = gd (false = zctor 11 ∧ zcs [] ≤ 8 ∧ zrm 183 (zrf 11 + 1) (8 + (zmaxl 11 + 11) + zrl 11) = true ∧ zcs [zR (some 132)] ≤ zmaxl 11) (gd (zob h (some 132) 1) (zBack zY 183 61 64 [some (zR (some 0)), some (zI x1), some (zI x2), some (zI x3), some (zI x4), some (zI x5)] [] (zC 11 [zR (some 132)] h))) from zGo 1 183 61 _ _ _).trans ?_
    refine (gd_t (⟨rfl, Nat.le_of_ble_eq_true rfl, rfl, Nat.le_of_ble_eq_true rfl⟩) _).trans ?_
    refine (gd_t (⟨rfl, (PTC KC 132 _ rfl rfl), (PNC KC 132 rfl)⟩) _).trans ?_
    rfl
theorem q_B_leastFilling_r64 {h : zH} {x1 : Int} {x2 : Int} {x3 : Int} {x4 : Int} {x5 : Int} {y : Int} (KC : KC h) : zBack zY 183 61 64 [some (zR (some 0)), some (zI x1), some (zI x2), some (zI x3), some (zI x4), some (zI x5)] [] (some (.inl (some (zI y)), h)) =
    if y = 0 then
      gd (-2147483648 ≤ x5 + 1 ∧ x5 + 1 < 2147483648) (
      zY 183 15 [some (zR (some 0)), some (zI x1), some (zI x2), some (zI x3), some (zI x5), some (zI (x5 + 1))] [] h)
    else
      gd (-2147483648 ≤ x5 + 1 ∧ x5 + 1 < 2147483648) (
      zY 183 15 [some (zR (some 0)), some (zI x1), some (zI x2), some (zI x3), some (zI x4), some (zI (x5 + 1))] [] h) := by
  refine (show zBack zY 183 61 64 [some (zR (some 0)), some (zI x1), some (zI x2), some (zI x3), some (zI x4), some (zI x5)] [] (some (.inl (some (zI y)), h)) = if y = 0 then zY 183 67 [some (zR (some 0)), some (zI x1), some (zI x2), some (zI x3), some (zI x4), some (zI x5)] [] h else zY 183 86 [some (zR (some 0)), some (zI x1), some (zI x2), some (zI x3), some (zI x4), some (zI x5)] [] h from zGo 1 183 64 _ _ _).trans ?_
  refine iteC (fun c0 => ?_) (fun c0 => ?_)
  · skip
    refine (show zY 183 67 [some (zR (some 0)), some (zI x1), some (zI x2), some (zI x3), some (zI x4), some (zI x5)] [] h = gd (inR (x5 + 1)) (gd (inR (1)) (zY 183 15 [some (zR (some 0)), some (zI x1), some (zI x2), some (zI x3), some (zI x5), some (zI (x5 + 1))] [] h)) from zGo 5 183 67 _ _ _).trans ?_
    refine gd_c Iff.rfl (fun c1 => ?_)
    refine (gd_t (by decide) _).trans ?_
    rfl
  · skip
    refine (show zY 183 86 [some (zR (some 0)), some (zI x1), some (zI x2), some (zI x3), some (zI x4), some (zI x5)] [] h = gd (inR (x5 + 1)) (gd (inR (1)) (zY 183 15 [some (zR (some 0)), some (zI x1), some (zI x2), some (zI x3), some (zI x4), some (zI (x5 + 1))] [] h)) from zGo 2 183 86 _ _ _).trans ?_
    refine gd_c Iff.rfl (fun c2 => ?_)
    refine (gd_t (by decide) _).trans ?_
    rfl
theorem q_B_leastFilling_r77 {h : zH} {x1 : Int} {x2 : Int} {x3 : Int} {x4 : Int} {x5 : Int} {y : BitVec 64} (KC : KC h) : zBack zY 183 74 77 [some (zR (some 0)), some (zI x1), some (zI x2), some (zI x3), some (zI x4), some (zI x5)] [] (some (.inl (some (zJ y)), h)) =
    if y = 0#64 then
      gd (-2147483648 ≤ x5 + 1 ∧ x5 + 1 < 2147483648) (
      zY 183 15 [some (zR (some 0)), some (zI x1), some (zI x2), some (zI x3), some (zI x5), some (zI (x5 + 1))] [] h)
    else
      gd (-2147483648 ≤ x5 + 1 ∧ x5 + 1 < 2147483648) (
      zY 183 15 [some (zR (some 0)), some (zI x1), some (zI x2), some (zI x3), some (zI x4), some (zI (x5 + 1))] [] h) := by
  refine (show zBack zY 183 74 77 [some (zR (some 0)), some (zI x1), some (zI x2), some (zI x3), some (zI x4), some (zI x5)] [] (some (.inl (some (zJ y)), h)) = if (zlcmp y (0#64)) = 0 then zY 183 82 [some (zR (some 0)), some (zI x1), some (zI x2), some (zI x3), some (zI x4), some (zI x5)] [] h else zY 183 86 [some (zR (some 0)), some (zI x1), some (zI x2), some (zI x3), some (zI x4), some (zI x5)] [] h from zGo 3 183 77 _ _ _).trans ?_
  refine iteL (fun c0 => ?_) (fun c0 => ?_)
  · skip
    refine (show zY 183 82 [some (zR (some 0)), some (zI x1), some (zI x2), some (zI x3), some (zI x4), some (zI x5)] [] h = gd (inR (x5 + 1)) (gd (inR (1)) (zY 183 15 [some (zR (some 0)), some (zI x1), some (zI x2), some (zI x3), some (zI x5), some (zI (x5 + 1))] [] h)) from zGo 4 183 82 _ _ _).trans ?_
    refine gd_c Iff.rfl (fun c1 => ?_)
    refine (gd_t (by decide) _).trans ?_
    rfl
  · skip
    refine (show zY 183 86 [some (zR (some 0)), some (zI x1), some (zI x2), some (zI x3), some (zI x4), some (zI x5)] [] h = gd (inR (x5 + 1)) (gd (inR (1)) (zY 183 15 [some (zR (some 0)), some (zI x1), some (zI x2), some (zI x3), some (zI x4), some (zI (x5 + 1))] [] h)) from zGo 2 183 86 _ _ _).trans ?_
    refine gd_c Iff.rfl (fun c2 => ?_)
    refine (gd_t (by decide) _).trans ?_
    rfl
theorem q_B_leastFilling_r101 {h : zH} {x1 : Int} {x2 : Int} {x3 : Int} {x4 : Int} {x5 : Int} {p : Nat} {v : Nat} (KC : KC h) (rp : hR h 0 13 = some p) (hp : PS h p) (rv : hR h 0 14 = some v) (hv : VS h v) : zBack zY 183 98 101 [some (zR (some 0)), some (zI x1), some (zI x2), some (zI x3), some (zI x4), some (zI x5)] [] (some (.inl (none), h)) =
    zBack zY 183 113 116 [some (zR (some 0)), some (zI x1), some (zI x2), some (zI x3), some (zI x4), some (zI x5)] [] (zC 1 [zR (some 132), zR (some p), zR (some v)] h) := by
  refine (show zBack zY 183 98 101 [some (zR (some 0)), some (zI x1), some (zI x2), some (zI x3), some (zI x4), some (zI x5)] [] (some (.inl (none), h)) = gd (zob h (some 0) 11) (zY 183 105 [some (zR (some 0)), some (zI x1), some (zI x2), some (zI x3), some (zI x4), some (zI x5)] [zR (hR h 0 11)] h) from zGo 2 183 101 _ _ _).trans ?_
  refine (gd_t (⟨rfl, (PTC KC 0 _ rfl rfl), (PNC KC 0 rfl)⟩) _).trans ?_
  refine (congrArg (fun rz => zY 183 105 [some (zR (some 0)), some (zI x1), some (zI x2), some (zI x3), some (zI x4), some (zI x5)] (zR rz :: []) h) (PRC KC 0 11 _ rfl)).trans ?_
  refine (show zY 183 105 [some (zR (some 0)), some (zI x1), some (zI x2), some (zI x3), some (zI x4), some (zI x5)] [zR (some 132)] h = gd (zob h (some 0) 11) (zY 183 109 [some (zR (some 0)), some (zI x1), some (zI x2), some (zI x3), some (zI x4), some (zI x5)] [zR (hR h 0 13), zR (some 132)] h) from zGo 2 183 105 _ _ _).trans ?_
  refine (gd_t (⟨rfl, (PTC KC 0 _ rfl rfl), (PNC KC 0 rfl)⟩) _).trans ?_
  refine (congrArg (fun rz => zY 183 109 [some (zR (some 0)), some (zI x1), some (zI x2), some (zI x3), some (zI x4), some (zI x5)] (zR rz :: zR (some 132) :: []) h) rp).trans ?_
  refine (show zY 183 109 [some (zR (some 0)), some (zI x1), some (zI x2), some (zI x3), some (zI x4), some (zI x5)] [zR (some p), zR (some 132)] h = gd (zob h (some 0) 11) (zY 183 113 [some (zR (some 0)), some (zI x1), some (zI x2), some (zI x3), some (zI x4), some (zI x5)] [zR (hR h 0 14), zR (some p), zR (some 132)] h) from zGo 2 183 109 _ _ _).trans ?_
  refine (gd_t (⟨rfl, (PTC KC 0 _ rfl rfl), (PNC KC 0 rfl)⟩) _).trans ?_
  refine (congrArg (fun rz => zY 183 113 [some (zR (some 0)), some (zI x1), some (zI x2), some (zI x3), some (zI x4), some (zI x5)] (zR rz :: zR (some p) :: zR (some 132) :: []) h) rv).trans ?_
  refine (show zY 183 113 [some (zR (some 0)), some (zI x1), some (zI x2), some (zI x3), some (zI x4), some (zI x5)] [zR (some v), zR (some p), zR (some 132)] h = gd (false = zctor 1 ∧ zcs [] ≤ 8 ∧ zrm 183 (zrf 1 + 1) (8 + (zmaxl 1 + 11) + zrl 1) = true ∧ zcs [zR (some 132), zR (some p), zR (some v)] ≤ zmaxl 1) (gd (zob h (some 132) 1) (zBack zY 183 113 116 [some (zR (some 0)), some (zI x1), some (zI x2), some (zI x3), some (zI x4), some (zI x5)] [] (zC 1 [zR (some 132), zR (some p), zR (some v)] h))) from zGo 1 183 113 _ _ _).trans ?_
  refine (gd_t (⟨rfl, Nat.le_of_ble_eq_true rfl, rfl, Nat.le_of_ble_eq_true rfl⟩) _).trans ?_
  refine (gd_t (⟨rfl, (PTC KC 132 _ rfl rfl), (PNC KC 132 rfl)⟩) _).trans ?_
  rfl
theorem q_B_leastFilling_r116 {h : zH} {x1 : Int} {x2 : Int} {x3 : Int} {x4 : Int} {x5 : Int} (KC : KC h) : zBack zY 183 113 116 [some (zR (some 0)), some (zI x1), some (zI x2), some (zI x3), some (zI x4), some (zI x5)] [] (some (.inl (none), h)) =
    some (.inl (some (zI x4)), h) := by
  refine (show zBack zY 183 113 116 [some (zR (some 0)), some (zI x1), some (zI x2), some (zI x3), some (zI x4), some (zI x5)] [] (some (.inl (none), h)) = gd (([] : List zV).isEmpty = true ∧ (zrk 183 = 1 ∨ zrk 183 = 6 ∧ ((x4 : Int) = 0 ∨ (x4 : Int) = 1))) (some (.inl (some (zI x4)), h)) from zGo 2 183 116 _ _ _).trans ?_
  refine (gd_t (⟨rfl, Or.inl rfl⟩) _).trans ?_
  rfl
theorem q_B_proves {h : zH} {x1 : Int} (KC : KC h) : zC 181 [zR (some 0), zI x1] h =
    zBack zY 181 2 5 [some (zR (some 0)), some (zI x1)] [] (zC 182 [zR (some 0), zI x1] h) := by
  refine (show zC 181 [zR (some 0), zI x1] h = gd (false = zctor 182 ∧ zcs [] ≤ 8 ∧ zrm 181 (zrf 182 + 1) (8 + (zmaxl 182 + 11) + zrl 182) = true ∧ zcs [zR (some 0), zI x1] ≤ zmaxl 182) (gd (zob h (some 0) 11) (zBack zY 181 2 5 [some (zR (some 0)), some (zI x1)] [] (zC 182 [zR (some 0), zI x1] h))) from zGo 3 181 0 _ _ _).trans ?_
  refine (gd_t (⟨rfl, Nat.le_of_ble_eq_true rfl, rfl, Nat.le_of_ble_eq_true rfl⟩) _).trans ?_
  refine (gd_t (⟨rfl, (PTC KC 0 _ rfl rfl), (PNC KC 0 rfl)⟩) _).trans ?_
  rfl
theorem q_B_proves_r5 {h : zH} {x1 : Int} (KC : KC h) : zBack zY 181 2 5 [some (zR (some 0)), some (zI x1)] [] (some (.inl (none), h)) =
    zBack zY 181 8 11 [some (zR (some 0)), some (zI x1)] [] (zC 183 [zR (some 0), zI x1, zI 1] h) := by
  refine (show zBack zY 181 2 5 [some (zR (some 0)), some (zI x1)] [] (some (.inl (none), h)) = gd (inR (1)) (gd (false = zctor 183 ∧ zcs [] ≤ 8 ∧ zrm 181 (zrf 183 + 1) (8 + (zmaxl 183 + 11) + zrl 183) = true ∧ zcs [zR (some 0), zI x1, zI 1] ≤ zmaxl 183) (gd (zob h (some 0) 11) (zBack zY 181 8 11 [some (zR (some 0)), some (zI x1)] [] (zC 183 [zR (some 0), zI x1, zI 1] h)))) from zGo 4 181 5 _ _ _).trans ?_
  refine (gd_t (by decide) _).trans ?_
  refine (gd_t (⟨rfl, Nat.le_of_ble_eq_true rfl, rfl, Nat.le_of_ble_eq_true rfl⟩) _).trans ?_
  refine (gd_t (⟨rfl, (PTC KC 0 _ rfl rfl), (PNC KC 0 rfl)⟩) _).trans ?_
  rfl
theorem q_B_proves_r11 {h : zH} {x1 : Int} {y : Int} (KC : KC h) : zBack zY 181 8 11 [some (zR (some 0)), some (zI x1)] [] (some (.inl (some (zI y)), h)) =
    some (.inl (some (zI y)), h) := by
  refine (show zBack zY 181 8 11 [some (zR (some 0)), some (zI x1)] [] (some (.inl (some (zI y)), h)) = gd (([] : List zV).isEmpty = true ∧ (zrk 181 = 1 ∨ zrk 181 = 6 ∧ ((y : Int) = 0 ∨ (y : Int) = 1))) (some (.inl (some (zI y)), h)) from zGo 1 181 11 _ _ _).trans ?_
  refine (gd_t (⟨rfl, Or.inl rfl⟩) _).trans ?_
  rfl
theorem q_B_rights {h : zH} {x1 : Int} (KC : KC h) : zC 184 [zR (some 0), zI x1] h =
    zBack zY 184 2 5 [some (zR (some 0)), some (zI x1)] [] (zC 182 [zR (some 0), zI x1] h) := by
  refine (show zC 184 [zR (some 0), zI x1] h = gd (false = zctor 182 ∧ zcs [] ≤ 8 ∧ zrm 184 (zrf 182 + 1) (8 + (zmaxl 182 + 11) + zrl 182) = true ∧ zcs [zR (some 0), zI x1] ≤ zmaxl 182) (gd (zob h (some 0) 11) (zBack zY 184 2 5 [some (zR (some 0)), some (zI x1)] [] (zC 182 [zR (some 0), zI x1] h))) from zGo 3 184 0 _ _ _).trans ?_
  refine (gd_t (⟨rfl, Nat.le_of_ble_eq_true rfl, rfl, Nat.le_of_ble_eq_true rfl⟩) _).trans ?_
  refine (gd_t (⟨rfl, (PTC KC 0 _ rfl rfl), (PNC KC 0 rfl)⟩) _).trans ?_
  rfl
theorem q_B_rights_r5 {h : zH} {x1 : Int} (KC : KC h) : zBack zY 184 2 5 [some (zR (some 0)), some (zI x1)] [] (some (.inl (none), h)) =
    zBack zY 184 8 11 [some (zR (some 0)), some (zI x1)] [] (zC 183 [zR (some 0), zI x1, zI 0] h) := by
  refine (show zBack zY 184 2 5 [some (zR (some 0)), some (zI x1)] [] (some (.inl (none), h)) = gd (inR (0)) (gd (false = zctor 183 ∧ zcs [] ≤ 8 ∧ zrm 184 (zrf 183 + 1) (8 + (zmaxl 183 + 11) + zrl 183) = true ∧ zcs [zR (some 0), zI x1, zI 0] ≤ zmaxl 183) (gd (zob h (some 0) 11) (zBack zY 184 8 11 [some (zR (some 0)), some (zI x1)] [] (zC 183 [zR (some 0), zI x1, zI 0] h)))) from zGo 4 184 5 _ _ _).trans ?_
  refine (gd_t (by decide) _).trans ?_
  refine (gd_t (⟨rfl, Nat.le_of_ble_eq_true rfl, rfl, Nat.le_of_ble_eq_true rfl⟩) _).trans ?_
  refine (gd_t (⟨rfl, (PTC KC 0 _ rfl rfl), (PNC KC 0 rfl)⟩) _).trans ?_
  rfl
theorem q_B_rights_r11 {h : zH} {x1 : Int} {y : Int} (KC : KC h) : zBack zY 184 8 11 [some (zR (some 0)), some (zI x1)] [] (some (.inl (some (zI y)), h)) =
    some (.inl (some (zI y)), h) := by
  refine (show zBack zY 184 8 11 [some (zR (some 0)), some (zI x1)] [] (some (.inl (some (zI y)), h)) = gd (([] : List zV).isEmpty = true ∧ (zrk 184 = 1 ∨ zrk 184 = 6 ∧ ((y : Int) = 0 ∨ (y : Int) = 1))) (some (.inl (some (zI y)), h)) from zGo 1 184 11 _ _ _).trans ?_
  refine (gd_t (⟨rfl, Or.inl rfl⟩) _).trans ?_
  rfl
theorem q_B_safe {h : zH} {x1 : Int} (KC : KC h) : zC 185 [zR (some 0), zI x1] h =
    zBack zY 185 2 5 [some (zR (some 0)), some (zI x1)] [] (zC 168 [zR (some 0), zI x1] h) := by
  refine (show zC 185 [zR (some 0), zI x1] h = gd (false = zctor 168 ∧ zcs [] ≤ 8 ∧ zrm 185 (zrf 168 + 1) (8 + (zmaxl 168 + 11) + zrl 168) = true ∧ zcs [zR (some 0), zI x1] ≤ zmaxl 168) (gd (zob h (some 0) 11) (zBack zY 185 2 5 [some (zR (some 0)), some (zI x1)] [] (zC 168 [zR (some 0), zI x1] h))) from zGo 3 185 0 _ _ _).trans ?_
  refine (gd_t (⟨rfl, Nat.le_of_ble_eq_true rfl, rfl, Nat.le_of_ble_eq_true rfl⟩) _).trans ?_
  refine (gd_t (⟨rfl, (PTC KC 0 _ rfl rfl), (PNC KC 0 rfl)⟩) _).trans ?_
  rfl
theorem q_B_safe_r5 {h : zH} {x1 : Int} (KC : KC h) : zBack zY 185 2 5 [some (zR (some 0)), some (zI x1)] [] (some (.inl (none), h)) =
    zBack zY 185 10 13 [some (zR (some 0)), some (zI x1)] [] (zC 12 [zR (some 132), zI x1] h) := by
  refine (show zBack zY 185 2 5 [some (zR (some 0)), some (zI x1)] [] (some (.inl (none), h)) = gd (zob h (some 0) 11) (zY 185 9 [some (zR (some 0)), some (zI x1)] [zR (hR h 0 11)] h) from zGo 2 185 5 _ _ _).trans ?_
  refine (gd_t (⟨rfl, (PTC KC 0 _ rfl rfl), (PNC KC 0 rfl)⟩) _).trans ?_
  refine (congrArg (fun rz => zY 185 9 [some (zR (some 0)), some (zI x1)] (zR rz :: []) h) (PRC KC 0 11 _ rfl)).trans ?_
  refine (show zY 185 9 [some (zR (some 0)), some (zI x1)] [zR (some 132)] h = gd (false = zctor 12 ∧ zcs [] ≤ 8 ∧ zrm 185 (zrf 12 + 1) (8 + (zmaxl 12 + 11) + zrl 12) = true ∧ zcs [zR (some 132), zI x1] ≤ zmaxl 12) (gd (zob h (some 132) 1) (zBack zY 185 10 13 [some (zR (some 0)), some (zI x1)] [] (zC 12 [zR (some 132), zI x1] h))) from zGo 2 185 9 _ _ _).trans ?_
  refine (gd_t (⟨rfl, Nat.le_of_ble_eq_true rfl, rfl, Nat.le_of_ble_eq_true rfl⟩) _).trans ?_
  refine (gd_t (⟨rfl, (PTC KC 132 _ rfl rfl), (PNC KC 132 rfl)⟩) _).trans ?_
  rfl
theorem q_B_safe_r13 {h : zH} {x1 : Int} {y : BitVec 64} (KC : KC h) : zBack zY 185 10 13 [some (zR (some 0)), some (zI x1)] [] (some (.inl (some (zJ y)), h)) =
    some (.inl (some (zJ y)), h) := by
  refine (show zBack zY 185 10 13 [some (zR (some 0)), some (zI x1)] [] (some (.inl (some (zJ y)), h)) = gd (([] : List zV).isEmpty = true ∧ zrk 185 = 2) (some (.inl (some (zJ y)), h)) from zGo 1 185 13 _ _ _).trans ?_
  refine (gd_t (⟨rfl, rfl⟩) _).trans ?_
  rfl
theorem q_B_unsf {h : zH} {x1 : Int} (KC : KC h) : zC 186 [zR (some 0), zI x1] h =
    zBack zY 186 2 5 [some (zR (some 0)), some (zI x1)] [] (zC 168 [zR (some 0), zI x1] h) := by
  refine (show zC 186 [zR (some 0), zI x1] h = gd (false = zctor 168 ∧ zcs [] ≤ 8 ∧ zrm 186 (zrf 168 + 1) (8 + (zmaxl 168 + 11) + zrl 168) = true ∧ zcs [zR (some 0), zI x1] ≤ zmaxl 168) (gd (zob h (some 0) 11) (zBack zY 186 2 5 [some (zR (some 0)), some (zI x1)] [] (zC 168 [zR (some 0), zI x1] h))) from zGo 3 186 0 _ _ _).trans ?_
  refine (gd_t (⟨rfl, Nat.le_of_ble_eq_true rfl, rfl, Nat.le_of_ble_eq_true rfl⟩) _).trans ?_
  refine (gd_t (⟨rfl, (PTC KC 0 _ rfl rfl), (PNC KC 0 rfl)⟩) _).trans ?_
  rfl
theorem q_B_unsf_r5 {h : zH} {x1 : Int} (KC : KC h) : zBack zY 186 2 5 [some (zR (some 0)), some (zI x1)] [] (some (.inl (none), h)) =
    zBack zY 186 18 21 [some (zR (some 0)), some (zI x1)] [zJ (f_S_keepOf h x1)] (zC 12 [zR (some 132), zI x1] h) := by
  refine (show zBack zY 186 2 5 [some (zR (some 0)), some (zI x1)] [] (some (.inl (none), h)) = gd (zob h (some 0) 11) (zY 186 9 [some (zR (some 0)), some (zI x1)] [zR (hR h 0 9)] h) from zGo 2 186 5 _ _ _).trans ?_
  refine (gd_t (⟨rfl, (PTC KC 0 _ rfl rfl), (PNC KC 0 rfl)⟩) _).trans ?_
  refine (congrArg (fun rz => zY 186 9 [some (zR (some 0)), some (zI x1)] (zR rz :: []) h) (PRC KC 0 9 _ rfl)).trans ?_
  refine (show zY 186 9 [some (zR (some 0)), some (zI x1)] [zR (some 90)] h = gd (false = zctor 107 ∧ zcs [] ≤ 8 ∧ zrm 186 (zrf 107 + 1) (8 + (zmaxl 107 + 11) + zrl 107) = true ∧ zcs [zR (some 90), zI x1] ≤ zmaxl 107) (gd (zob h (some 90) 8) (zBack zY 186 10 13 [some (zR (some 0)), some (zI x1)] [] (zC 107 [zR (some 90), zI x1] h))) from zGo 2 186 9 _ _ _).trans ?_
  refine (gd_t (⟨rfl, Nat.le_of_ble_eq_true rfl, rfl, Nat.le_of_ble_eq_true rfl⟩) _).trans ?_
  refine (gd_t (⟨rfl, (PTC KC 90 _ rfl rfl), (PNC KC 90 rfl)⟩) _).trans ?_
  refine (congrArg (zBack zY 186 10 13 [some (zR (some 0)), some (zI x1)] []) (e_S_keepOf KC)).trans ?_
  refine (show zY 186 13 [some (zR (some 0)), some (zI x1)] [zJ (f_S_keepOf h x1)] h = gd (zob h (some 0) 11) (zY 186 17 [some (zR (some 0)), some (zI x1)] [zR (hR h 0 11), zJ (f_S_keepOf h x1)] h) from zGo 2 186 13 _ _ _).trans ?_
  refine (gd_t (⟨rfl, (PTC KC 0 _ rfl rfl), (PNC KC 0 rfl)⟩) _).trans ?_
  refine (congrArg (fun rz => zY 186 17 [some (zR (some 0)), some (zI x1)] (zR rz :: zJ (f_S_keepOf h x1) :: []) h) (PRC KC 0 11 _ rfl)).trans ?_
  refine (show zY 186 17 [some (zR (some 0)), some (zI x1)] [zR (some 132), zJ (f_S_keepOf h x1)] h = gd (false = zctor 12 ∧ zcs [zJ (f_S_keepOf h x1)] ≤ 8 ∧ zrm 186 (zrf 12 + 1) (8 + (zmaxl 12 + 11) + zrl 12) = true ∧ zcs [zR (some 132), zI x1] ≤ zmaxl 12) (gd (zob h (some 132) 1) (zBack zY 186 18 21 [some (zR (some 0)), some (zI x1)] [zJ (f_S_keepOf h x1)] (zC 12 [zR (some 132), zI x1] h))) from zGo 2 186 17 _ _ _).trans ?_
  refine (gd_t (⟨rfl, Nat.le_of_ble_eq_true rfl, rfl, Nat.le_of_ble_eq_true rfl⟩) _).trans ?_
  refine (gd_t (⟨rfl, (PTC KC 132 _ rfl rfl), (PNC KC 132 rfl)⟩) _).trans ?_
  rfl
theorem q_B_unsf_r21 {h : zH} {x1 : Int} {y0 : BitVec 64} {y : BitVec 64} (KC : KC h) : zBack zY 186 18 21 [some (zR (some 0)), some (zI x1)] [zJ y0] (some (.inl (some (zJ y)), h)) =
    some (.inl (some (zJ (y0 &&& (y ^^^ (18446744073709551615#64))))), h) := by
  refine (show zBack zY 186 18 21 [some (zR (some 0)), some (zI x1)] [zJ y0] (some (.inl (some (zJ y)), h)) = gd (([] : List zV).isEmpty = true ∧ zrk 186 = 2) (some (.inl (some (zJ (y0 &&& (y ^^^ (18446744073709551615#64))))), h)) from zGo 4 186 21 _ _ _).trans ?_
  refine (gd_t (⟨rfl, rfl⟩) _).trans ?_
  rfl
theorem q_B_writeWords {h : zH} {a1 : Nat} {x2 : Int} (KC : KC h) (ta1 : hT h a1 = 21) (na1 : a1 < hN h) : zC 188 [zR (some 0), zR (some a1), zI x2] h =
    zY 188 7 [some (zR (some 0)), some (zR (some a1)), some (zI x2), some (zI 0)] [] (sI h 0 3 0) := by
  refine (show zC 188 [zR (some 0), zR (some a1), zI x2] h = gd (inR (0)) (gd (zob h (some 0) 11) (gd (inR (0)) (zY 188 7 [some (zR (some 0)), some (zR (some a1)), some (zI x2), some (zI 0)] [] (sI h 0 3 0)))) from zGo 5 188 0 _ _ _).trans ?_
  refine (gd_t (by decide) _).trans ?_
  refine (gd_t (⟨rfl, (PTC KC 0 _ rfl rfl), (PNC KC 0 rfl)⟩) _).trans ?_
  refine (gd_t (by decide) _).trans ?_
  rfl
theorem q_B_writeWords_7 {h : zH} {a1 : Nat} {x2 : Int} {x3 : Int} {t : Nat} (KC : KC h) (ta1 : hT h a1 = 21) (na1 : a1 < hN h) (rt : (f_W_text (hI h a1 x3.toNat)) = some t) (tt : hT h t = 40) : zY 188 7 [some (zR (some 0)), some (zR (some a1)), some (zI x2), some (zI x3)] [] h =
    if x3 < x2 then
      if x3 < (hL h a1 : Int) then
        if 0 < x3 then
          zBack zY 188 34 37 [some (zR (some 0)), some (zR (some a1)), some (zI x2), some (zI x3)] [zR (some 0)] (zC 136 [zR (some (zVB + 31)), zR (some 2), zI (hI h 0 3)] h)
        else
          gd (0 ≤ x3 ∧ x3 < (hL h a1 : Int)) (
          zBack zY 188 55 58 [some (zR (some 0)), some (zR (some a1)), some (zI x2), some (zI x3)] [zR (some 0)] (zC 136 [zR (some t), zR (some 2), zI (hI h 0 3)] h))
      else
        some (.inl (none), h)
    else
      some (.inl (none), h) := by
  refine (show zY 188 7 [some (zR (some 0)), some (zR (some a1)), some (zI x2), some (zI x3)] [] h = if x3 < x2 then zY 188 12 [some (zR (some 0)), some (zR (some a1)), some (zI x2), some (zI x3)] [] h else zY 188 67 [some (zR (some 0)), some (zR (some a1)), some (zI x2), some (zI x3)] [] h from zGo 3 188 7 _ _ _).trans ?_
  refine iteC (fun c0 => ?_) (fun c0 => ?_)
  · skip
    refine (show zY 188 12 [some (zR (some 0)), some (zR (some a1)), some (zI x2), some (zI x3)] [] h = gd ((some a1).isSome = true ∧ 20 ≤ hT h (zdr (some a1)) ∧ hT h (zdr (some a1)) < 40) (if x3 < (hL h a1 : Int) then zY 188 18 [some (zR (some 0)), some (zR (some a1)), some (zI x2), some (zI x3)] [] h else zY 188 67 [some (zR (some 0)), some (zR (some a1)), some (zI x2), some (zI x3)] [] h) from zGo 4 188 12 _ _ _).trans ?_
    refine (gd_t (al ta1 (by decide) (by decide)) _).trans ?_
    refine iteC (fun c1 => ?_) (fun c1 => ?_)
    · skip
      refine (show zY 188 18 [some (zR (some 0)), some (zR (some a1)), some (zI x2), some (zI x3)] [] h = if 0 < x3 then zY 188 22 [some (zR (some 0)), some (zR (some a1)), some (zI x2), some (zI x3)] [] h else zY 188 40 [some (zR (some 0)), some (zR (some a1)), some (zI x2), some (zI x3)] [] h from zGo 2 188 18 _ _ _).trans ?_
      refine iteC (fun c2 => ?_) (fun c2 => ?_)
      · skip
        refine (show zY 188 22 [some (zR (some 0)), some (zR (some a1)), some (zI x2), some (zI x3)] [] h = gd (zob h (some 0) 11) (zY 188 30 [some (zR (some 0)), some (zR (some a1)), some (zI x2), some (zI x3)] [zR (hR h 0 2), zR (some (zVB + 31)), zR (some 0)] h) from zGo 4 188 22 _ _ _).trans ?_
        refine (gd_t (⟨rfl, (PTC KC 0 _ rfl rfl), (PNC KC 0 rfl)⟩) _).trans ?_
        refine (congrArg (fun rz => zY 188 30 [some (zR (some 0)), some (zR (some a1)), some (zI x2), some (zI x3)] (zR rz :: zR (some (zVB + 31)) :: zR (some 0) :: []) h) (PRC KC 0 2 _ rfl)).trans ?_
        refine (show zY 188 30 [some (zR (some 0)), some (zR (some a1)), some (zI x2), some (zI x3)] [zR (some 2), zR (some (zVB + 31)), zR (some 0)] h = gd (zob h (some 0) 11) (gd (false = zctor 136 ∧ zcs [zR (some 0)] ≤ 8 ∧ zrm 188 (zrf 136 + 1) (8 + (zmaxl 136 + 11) + zrl 136) = true ∧ zcs [zR (some (zVB + 31)), zR (some 2), zI (hI h 0 3)] ≤ zmaxl 136) (zBack zY 188 34 37 [some (zR (some 0)), some (zR (some a1)), some (zI x2), some (zI x3)] [zR (some 0)] (zC 136 [zR (some (zVB + 31)), zR (some 2), zI (hI h 0 3)] h))) from zGo 3 188 30 _ _ _).trans ?_
        refine (gd_t (⟨rfl, (PTC KC 0 _ rfl rfl), (PNC KC 0 rfl)⟩) _).trans ?_
        refine (gd_t (⟨rfl, Nat.le_of_ble_eq_true rfl, rfl, Nat.le_of_ble_eq_true rfl⟩) _).trans ?_
        rfl
      · skip
        refine (show zY 188 40 [some (zR (some 0)), some (zR (some a1)), some (zI x2), some (zI x3)] [] h = gd (zokw h (some a1) 21 x3 ∨ zokw h (some a1) 20 x3) (gd (false = zctor 138 ∧ zcs [zR (some 0)] ≤ 8 ∧ zrm 188 (zrf 138 + 1) (8 + (zmaxl 138 + 11) + zrl 138) = true ∧ zcs [zI (hI h a1 x3.toNat)] ≤ zmaxl 138) (zBack zY 188 44 47 [some (zR (some 0)), some (zR (some a1)), some (zI x2), some (zI x3)] [zR (some 0)] (zC 138 [zI (hI h a1 x3.toNat)] h))) from zGo 5 188 40 _ _ _).trans ?_
        refine gd_c (cib21 ta1 na1 rfl) (fun c3 => ?_)
        refine (gd_t (⟨rfl, Nat.le_of_ble_eq_true rfl, rfl, Nat.le_of_ble_eq_true rfl⟩) _).trans ?_
        refine (congrArg (zBack zY 188 44 47 [some (zR (some 0)), some (zR (some a1)), some (zI x2), some (zI x3)] [zR (some 0)]) (e_W_text)).trans ?_
        refine (congrArg (fun rz => zBack zY 188 44 47 [some (zR (some 0)), some (zR (some a1)), some (zI x2), some (zI x3)] [zR (some 0)] (some (.inl (some (zR rz)), h))) rt).trans ?_
        refine (show zY 188 47 [some (zR (some 0)), some (zR (some a1)), some (zI x2), some (zI x3)] [zR (some t), zR (some 0)] h = gd (zob h (some 0) 11) (zY 188 51 [some (zR (some 0)), some (zR (some a1)), some (zI x2), some (zI x3)] [zR (hR h 0 2), zR (some t), zR (some 0)] h) from zGo 2 188 47 _ _ _).trans ?_
        refine (gd_t (⟨rfl, (PTC KC 0 _ rfl rfl), (PNC KC 0 rfl)⟩) _).trans ?_
        refine (congrArg (fun rz => zY 188 51 [some (zR (some 0)), some (zR (some a1)), some (zI x2), some (zI x3)] (zR rz :: zR (some t) :: zR (some 0) :: []) h) (PRC KC 0 2 _ rfl)).trans ?_
        refine (show zY 188 51 [some (zR (some 0)), some (zR (some a1)), some (zI x2), some (zI x3)] [zR (some 2), zR (some t), zR (some 0)] h = gd (zob h (some 0) 11) (gd (false = zctor 136 ∧ zcs [zR (some 0)] ≤ 8 ∧ zrm 188 (zrf 136 + 1) (8 + (zmaxl 136 + 11) + zrl 136) = true ∧ zcs [zR (some t), zR (some 2), zI (hI h 0 3)] ≤ zmaxl 136) (zBack zY 188 55 58 [some (zR (some 0)), some (zR (some a1)), some (zI x2), some (zI x3)] [zR (some 0)] (zC 136 [zR (some t), zR (some 2), zI (hI h 0 3)] h))) from zGo 3 188 51 _ _ _).trans ?_
        refine (gd_t (⟨rfl, (PTC KC 0 _ rfl rfl), (PNC KC 0 rfl)⟩) _).trans ?_
        refine (gd_t (⟨rfl, Nat.le_of_ble_eq_true rfl, rfl, Nat.le_of_ble_eq_true rfl⟩) _).trans ?_
        rfl
    · skip
      refine (show zY 188 67 [some (zR (some 0)), some (zR (some a1)), some (zI x2), some (zI x3)] [] h = gd (([] : List zV).isEmpty = true ∧ zrk 188 = 0) (some (.inl (none), h)) from zGo 1 188 67 _ _ _).trans ?_
      refine (gd_t (⟨rfl, rfl⟩) _).trans ?_
      rfl
  · skip
    refine (show zY 188 67 [some (zR (some 0)), some (zR (some a1)), some (zI x2), some (zI x3)] [] h = gd (([] : List zV).isEmpty = true ∧ zrk 188 = 0) (some (.inl (none), h)) from zGo 1 188 67 _ _ _).trans ?_
    refine (gd_t (⟨rfl, rfl⟩) _).trans ?_
    rfl
theorem q_B_writeWords_r37 {h : zH} {a1 : Nat} {x2 : Int} {x3 : Int} {y : Int} {t : Nat} (KC : KC h) (ta1 : hT h a1 = 21) (na1 : a1 < hN h) (rt : (f_W_text (hI (sI h 0 3 y) a1 x3.toNat)) = some t) (tt : hT h t = 40) : zBack zY 188 34 37 [some (zR (some 0)), some (zR (some a1)), some (zI x2), some (zI x3)] [zR (some 0)] (some (.inl (some (zI y)), h)) =
    gd (0 ≤ x3 ∧ x3 < (hL h a1 : Int)) (
    zBack zY 188 55 58 [some (zR (some 0)), some (zR (some a1)), some (zI x2), some (zI x3)] [zR (some 0)] (zC 136 [zR (some t), zR (some 2), zI y] (sI h 0 3 y))) := by
  refine (show zBack zY 188 34 37 [some (zR (some 0)), some (zR (some a1)), some (zI x2), some (zI x3)] [zR (some 0)] (some (.inl (some (zI y)), h)) = gd (zob h (some 0) 11) (gd (zokw (sI h 0 3 y) (some a1) 21 x3 ∨ zokw (sI h 0 3 y) (some a1) 20 x3) (gd (false = zctor 138 ∧ zcs [zR (some 0)] ≤ 8 ∧ zrm 188 (zrf 138 + 1) (8 + (zmaxl 138 + 11) + zrl 138) = true ∧ zcs [zI (hI (sI h 0 3 y) a1 x3.toNat)] ≤ zmaxl 138) (zBack zY 188 44 47 [some (zR (some 0)), some (zR (some a1)), some (zI x2), some (zI x3)] [zR (some 0)] (zC 138 [zI (hI (sI h 0 3 y) a1 x3.toNat)] (sI h 0 3 y))))) from zGo 6 188 37 _ _ _).trans ?_
  refine (gd_t (⟨rfl, (PTC KC 0 _ rfl rfl), (PNC KC 0 rfl)⟩) _).trans ?_
  refine gd_c (cib21 ta1 na1 rfl) (fun c0 => ?_)
  refine (gd_t (⟨rfl, Nat.le_of_ble_eq_true rfl, rfl, Nat.le_of_ble_eq_true rfl⟩) _).trans ?_
  refine (congrArg (zBack zY 188 44 47 [some (zR (some 0)), some (zR (some a1)), some (zI x2), some (zI x3)] [zR (some 0)]) (e_W_text (h := (sI h 0 3 y)))).trans ?_
  refine (congrArg (fun rz => zBack zY 188 44 47 [some (zR (some 0)), some (zR (some a1)), some (zI x2), some (zI x3)] [zR (some 0)] (some (.inl (some (zR rz)), (sI h 0 3 y)))) rt).trans ?_
  refine (show zY 188 47 [some (zR (some 0)), some (zR (some a1)), some (zI x2), some (zI x3)] [zR (some t), zR (some 0)] (sI h 0 3 y) = gd (zob (sI h 0 3 y) (some 0) 11) (zY 188 51 [some (zR (some 0)), some (zR (some a1)), some (zI x2), some (zI x3)] [zR (hR h 0 2), zR (some t), zR (some 0)] (sI h 0 3 y)) from zGo 2 188 47 _ _ _).trans ?_
  refine (gd_t (⟨rfl, (PTC KC 0 _ rfl rfl), (PNC KC 0 rfl)⟩) _).trans ?_
  refine (congrArg (fun rz => zY 188 51 [some (zR (some 0)), some (zR (some a1)), some (zI x2), some (zI x3)] (zR rz :: zR (some t) :: zR (some 0) :: []) (sI h 0 3 y)) (PRC KC 0 2 _ rfl)).trans ?_
  refine (show zY 188 51 [some (zR (some 0)), some (zR (some a1)), some (zI x2), some (zI x3)] [zR (some 2), zR (some t), zR (some 0)] (sI h 0 3 y) = gd (zob (sI h 0 3 y) (some 0) 11) (gd (false = zctor 136 ∧ zcs [zR (some 0)] ≤ 8 ∧ zrm 188 (zrf 136 + 1) (8 + (zmaxl 136 + 11) + zrl 136) = true ∧ zcs [zR (some t), zR (some 2), zI y] ≤ zmaxl 136) (zBack zY 188 55 58 [some (zR (some 0)), some (zR (some a1)), some (zI x2), some (zI x3)] [zR (some 0)] (zC 136 [zR (some t), zR (some 2), zI y] (sI h 0 3 y)))) from zGo 3 188 51 _ _ _).trans ?_
  refine (gd_t (⟨rfl, (PTC KC 0 _ rfl rfl), (PNC KC 0 rfl)⟩) _).trans ?_
  refine (gd_t (⟨rfl, Nat.le_of_ble_eq_true rfl, rfl, Nat.le_of_ble_eq_true rfl⟩) _).trans ?_
  rfl
theorem q_B_writeWords_r58 {h : zH} {a1 : Nat} {x2 : Int} {x3 : Int} {y : Int} (KC : KC h) (ta1 : hT h a1 = 21) (na1 : a1 < hN h) : zBack zY 188 55 58 [some (zR (some 0)), some (zR (some a1)), some (zI x2), some (zI x3)] [zR (some 0)] (some (.inl (some (zI y)), h)) =
    gd (-2147483648 ≤ x3 + 1 ∧ x3 + 1 < 2147483648) (
    zY 188 7 [some (zR (some 0)), some (zR (some a1)), some (zI x2), some (zI (x3 + 1))] [] (sI h 0 3 y)) := by
  refine (show zBack zY 188 55 58 [some (zR (some 0)), some (zR (some a1)), some (zI x2), some (zI x3)] [zR (some 0)] (some (.inl (some (zI y)), h)) = gd (zob h (some 0) 11) (gd (inR (x3 + 1)) (gd (inR (1)) (zY 188 7 [some (zR (some 0)), some (zR (some a1)), some (zI x2), some (zI (x3 + 1))] [] (sI h 0 3 y)))) from zGo 3 188 58 _ _ _).trans ?_
  refine (gd_t (⟨rfl, (PTC KC 0 _ rfl rfl), (PNC KC 0 rfl)⟩) _).trans ?_
  refine gd_c Iff.rfl (fun c0 => ?_)
  refine (gd_t (by decide) _).trans ?_
  rfl
theorem q_B_writeNeed {h : zH} {x1 : Int} (KC : KC h) : zC 187 [zR (some 0), zI x1] h =
    zBack zY 187 2 5 [some (zR (some 0)), some (zI x1), none] [] (zC 165 [zR (some 0), zI x1] h) := by
  refine (show zC 187 [zR (some 0), zI x1] h = gd (false = zctor 165 ∧ zcs [] ≤ 8 ∧ zrm 187 (zrf 165 + 1) (8 + (zmaxl 165 + 11) + zrl 165) = true ∧ zcs [zR (some 0), zI x1] ≤ zmaxl 165) (gd (zob h (some 0) 11) (zBack zY 187 2 5 [some (zR (some 0)), some (zI x1), none] [] (zC 165 [zR (some 0), zI x1] h))) from zGo 3 187 0 _ _ _).trans ?_
  refine (gd_t (⟨rfl, Nat.le_of_ble_eq_true rfl, rfl, Nat.le_of_ble_eq_true rfl⟩) _).trans ?_
  refine (gd_t (⟨rfl, (PTC KC 0 _ rfl rfl), (PNC KC 0 rfl)⟩) _).trans ?_
  rfl
theorem q_B_writeNeed_r5 {h : zH} {x1 : Int} {p : Nat} {v : Nat} (KC : KC h) (rp : hR h 0 13 = some p) (hp : PS h p) (rv : hR h 0 14 = some v) (hv : VS h v) : zBack zY 187 2 5 [some (zR (some 0)), some (zI x1), none] [] (some (.inl (none), h)) =
    zBack zY 187 17 20 [some (zR (some 0)), some (zI x1), none] [] (zC 114 [zR (some 135), zR (some p), zR (some v)] h) := by
  refine (show zBack zY 187 2 5 [some (zR (some 0)), some (zI x1), none] [] (some (.inl (none), h)) = gd (zob h (some 0) 11) (zY 187 9 [some (zR (some 0)), some (zI x1), none] [zR (hR h 0 12)] h) from zGo 2 187 5 _ _ _).trans ?_
  refine (gd_t (⟨rfl, (PTC KC 0 _ rfl rfl), (PNC KC 0 rfl)⟩) _).trans ?_
  refine (congrArg (fun rz => zY 187 9 [some (zR (some 0)), some (zI x1), none] (zR rz :: []) h) (PRC KC 0 12 _ rfl)).trans ?_
  refine (show zY 187 9 [some (zR (some 0)), some (zI x1), none] [zR (some 135)] h = gd (zob h (some 0) 11) (zY 187 13 [some (zR (some 0)), some (zI x1), none] [zR (hR h 0 13), zR (some 135)] h) from zGo 2 187 9 _ _ _).trans ?_
  refine (gd_t (⟨rfl, (PTC KC 0 _ rfl rfl), (PNC KC 0 rfl)⟩) _).trans ?_
  refine (congrArg (fun rz => zY 187 13 [some (zR (some 0)), some (zI x1), none] (zR rz :: zR (some 135) :: []) h) rp).trans ?_
  refine (show zY 187 13 [some (zR (some 0)), some (zI x1), none] [zR (some p), zR (some 135)] h = gd (zob h (some 0) 11) (zY 187 17 [some (zR (some 0)), some (zI x1), none] [zR (hR h 0 14), zR (some p), zR (some 135)] h) from zGo 2 187 13 _ _ _).trans ?_
  refine (gd_t (⟨rfl, (PTC KC 0 _ rfl rfl), (PNC KC 0 rfl)⟩) _).trans ?_
  refine (congrArg (fun rz => zY 187 17 [some (zR (some 0)), some (zI x1), none] (zR rz :: zR (some p) :: zR (some 135) :: []) h) rv).trans ?_
  refine (show zY 187 17 [some (zR (some 0)), some (zI x1), none] [zR (some v), zR (some p), zR (some 135)] h = gd (false = zctor 114 ∧ zcs [] ≤ 8 ∧ zrm 187 (zrf 114 + 1) (8 + (zmaxl 114 + 11) + zrl 114) = true ∧ zcs [zR (some 135), zR (some p), zR (some v)] ≤ zmaxl 114) (gd (zob h (some 135) 9) (zBack zY 187 17 20 [some (zR (some 0)), some (zI x1), none] [] (zC 114 [zR (some 135), zR (some p), zR (some v)] h))) from zGo 1 187 17 _ _ _).trans ?_
  refine (gd_t (⟨rfl, Nat.le_of_ble_eq_true rfl, rfl, Nat.le_of_ble_eq_true rfl⟩) _).trans ?_
  refine (gd_t (⟨rfl, (PTC KC 135 _ rfl rfl), (PNC KC 135 rfl)⟩) _).trans ?_
  rfl
theorem q_B_writeNeed_r20 {h : zH} {x1 : Int} {a : Nat} (KC : KC h) (ra : (f_Sh_rowOf h x1) = some a) (ta : hT h a = 21) (na : a < hN h) : zBack zY 187 17 20 [some (zR (some 0)), some (zI x1), none] [] (some (.inl (none), h)) =
    if (f_Sh_sizeOf h x1) = (-1) then
      some (.inl (some (zI (-1))), h)
    else
      zBack zY 187 46 49 [some (zR (some 0)), some (zI x1), some (zI (f_Sh_sizeOf h x1))] [] (zC 188 [zR (some 0), zR (some a), zI (f_Sh_sizeOf h x1)] h) := by
  refine (show zBack zY 187 17 20 [some (zR (some 0)), some (zI x1), none] [] (some (.inl (none), h)) = gd (zob h (some 0) 11) (zY 187 24 [some (zR (some 0)), some (zI x1), none] [zR (hR h 0 12)] h) from zGo 2 187 20 _ _ _).trans ?_
  refine (gd_t (⟨rfl, (PTC KC 0 _ rfl rfl), (PNC KC 0 rfl)⟩) _).trans ?_
  refine (congrArg (fun rz => zY 187 24 [some (zR (some 0)), some (zI x1), none] (zR rz :: []) h) (PRC KC 0 12 _ rfl)).trans ?_
  refine (show zY 187 24 [some (zR (some 0)), some (zI x1), none] [zR (some 135)] h = gd (false = zctor 117 ∧ zcs [] ≤ 8 ∧ zrm 187 (zrf 117 + 1) (8 + (zmaxl 117 + 11) + zrl 117) = true ∧ zcs [zR (some 135), zI x1] ≤ zmaxl 117) (gd (zob h (some 135) 9) (zBack zY 187 25 28 [some (zR (some 0)), some (zI x1), none] [] (zC 117 [zR (some 135), zI x1] h))) from zGo 2 187 24 _ _ _).trans ?_
  refine (gd_t (⟨rfl, Nat.le_of_ble_eq_true rfl, rfl, Nat.le_of_ble_eq_true rfl⟩) _).trans ?_
  refine (gd_t (⟨rfl, (PTC KC 135 _ rfl rfl), (PNC KC 135 rfl)⟩) _).trans ?_
  refine (congrArg (zBack zY 187 25 28 [some (zR (some 0)), some (zI x1), none] []) (e_Sh_sizeOf KC)).trans ?_
  refine (show zY 187 28 [some (zR (some 0)), some (zI x1), none] [zI (f_Sh_sizeOf h x1)] h = gd (inR (-1)) (if (f_Sh_sizeOf h x1) = (-1) then zY 187 34 [some (zR (some 0)), some (zI x1), some (zI (f_Sh_sizeOf h x1))] [] h else zY 187 36 [some (zR (some 0)), some (zI x1), some (zI (f_Sh_sizeOf h x1))] [] h) from zGo 4 187 28 _ _ _).trans ?_
  refine (gd_t (by decide) _).trans ?_
  refine iteC (fun c0 => ?_) (fun c0 => ?_)
  · skip
    refine (show zY 187 34 [some (zR (some 0)), some (zI x1), some (zI (f_Sh_sizeOf h x1))] [] h = gd (inR (-1)) (gd (([] : List zV).isEmpty = true ∧ (zrk 187 = 1 ∨ zrk 187 = 6 ∧ (((-1) : Int) = 0 ∨ ((-1) : Int) = 1))) (some (.inl (some (zI (-1))), h))) from zGo 2 187 34 _ _ _).trans ?_
    refine (gd_t (by decide) _).trans ?_
    refine (gd_t (⟨rfl, Or.inl rfl⟩) _).trans ?_
    rfl
  · skip
    refine (show zY 187 36 [some (zR (some 0)), some (zI x1), some (zI (f_Sh_sizeOf h x1))] [] h = gd (zob h (some 0) 11) (zY 187 41 [some (zR (some 0)), some (zI x1), some (zI (f_Sh_sizeOf h x1))] [zR (hR h 0 12), zR (some 0)] h) from zGo 3 187 36 _ _ _).trans ?_
    refine (gd_t (⟨rfl, (PTC KC 0 _ rfl rfl), (PNC KC 0 rfl)⟩) _).trans ?_
    refine (congrArg (fun rz => zY 187 41 [some (zR (some 0)), some (zI x1), some (zI (f_Sh_sizeOf h x1))] (zR rz :: zR (some 0) :: []) h) (PRC KC 0 12 _ rfl)).trans ?_
    refine (show zY 187 41 [some (zR (some 0)), some (zI x1), some (zI (f_Sh_sizeOf h x1))] [zR (some 135), zR (some 0)] h = gd (false = zctor 122 ∧ zcs [zR (some 0)] ≤ 8 ∧ zrm 187 (zrf 122 + 1) (8 + (zmaxl 122 + 11) + zrl 122) = true ∧ zcs [zR (some 135), zI x1] ≤ zmaxl 122) (gd (zob h (some 135) 9) (zBack zY 187 42 45 [some (zR (some 0)), some (zI x1), some (zI (f_Sh_sizeOf h x1))] [zR (some 0)] (zC 122 [zR (some 135), zI x1] h))) from zGo 2 187 41 _ _ _).trans ?_
    refine (gd_t (⟨rfl, Nat.le_of_ble_eq_true rfl, rfl, Nat.le_of_ble_eq_true rfl⟩) _).trans ?_
    refine (gd_t (⟨rfl, (PTC KC 135 _ rfl rfl), (PNC KC 135 rfl)⟩) _).trans ?_
    refine (congrArg (zBack zY 187 42 45 [some (zR (some 0)), some (zI x1), some (zI (f_Sh_sizeOf h x1))] [zR (some 0)]) (e_Sh_rowOf KC)).trans ?_
    refine (congrArg (fun rz => zBack zY 187 42 45 [some (zR (some 0)), some (zI x1), some (zI (f_Sh_sizeOf h x1))] [zR (some 0)] (some (.inl (some (zR rz)), h))) ra).trans ?_
    refine (show zY 187 45 [some (zR (some 0)), some (zI x1), some (zI (f_Sh_sizeOf h x1))] [zR (some a), zR (some 0)] h = gd (false = zctor 188 ∧ zcs [] ≤ 8 ∧ zrm 187 (zrf 188 + 1) (8 + (zmaxl 188 + 11) + zrl 188) = true ∧ zcs [zR (some 0), zR (some a), zI (f_Sh_sizeOf h x1)] ≤ zmaxl 188) (gd (zob h (some 0) 11) (zBack zY 187 46 49 [some (zR (some 0)), some (zI x1), some (zI (f_Sh_sizeOf h x1))] [] (zC 188 [zR (some 0), zR (some a), zI (f_Sh_sizeOf h x1)] h))) from zGo 2 187 45 _ _ _).trans ?_
    refine (gd_t (⟨rfl, Nat.le_of_ble_eq_true rfl, rfl, Nat.le_of_ble_eq_true rfl⟩) _).trans ?_
    refine (gd_t (⟨rfl, (PTC KC 0 _ rfl rfl), (PNC KC 0 rfl)⟩) _).trans ?_
    rfl
theorem q_B_writeNeed_r49 {h : zH} {x1 : Int} {x2 : Int} (KC : KC h) : zBack zY 187 46 49 [some (zR (some 0)), some (zI x1), some (zI x2)] [] (some (.inl (none), h)) =
    some (.inl (some (zI (hI h 0 3))), h) := by
  refine (show zBack zY 187 46 49 [some (zR (some 0)), some (zI x1), some (zI x2)] [] (some (.inl (none), h)) = gd (zob h (some 0) 11) (gd (([] : List zV).isEmpty = true ∧ (zrk 187 = 1 ∨ zrk 187 = 6 ∧ (((hI h 0 3) : Int) = 0 ∨ ((hI h 0 3) : Int) = 1))) (some (.inl (some (zI (hI h 0 3))), h))) from zGo 3 187 49 _ _ _).trans ?_
  refine (gd_t (⟨rfl, (PTC KC 0 _ rfl rfl), (PNC KC 0 rfl)⟩) _).trans ?_
  refine (gd_t (⟨rfl, Or.inl rfl⟩) _).trans ?_
  rfl
theorem q_B_needNodes {h : zH} {x1 : Int} (KC : KC h) : zC 190 [zR (some 0), zI x1] h =
    zBack zY 190 2 5 [some (zR (some 0)), some (zI x1)] [] (zC 165 [zR (some 0), zI x1] h) := by
  refine (show zC 190 [zR (some 0), zI x1] h = gd (false = zctor 165 ∧ zcs [] ≤ 8 ∧ zrm 190 (zrf 165 + 1) (8 + (zmaxl 165 + 11) + zrl 165) = true ∧ zcs [zR (some 0), zI x1] ≤ zmaxl 165) (gd (zob h (some 0) 11) (zBack zY 190 2 5 [some (zR (some 0)), some (zI x1)] [] (zC 165 [zR (some 0), zI x1] h))) from zGo 3 190 0 _ _ _).trans ?_
  refine (gd_t (⟨rfl, Nat.le_of_ble_eq_true rfl, rfl, Nat.le_of_ble_eq_true rfl⟩) _).trans ?_
  refine (gd_t (⟨rfl, (PTC KC 0 _ rfl rfl), (PNC KC 0 rfl)⟩) _).trans ?_
  rfl
theorem q_B_needNodes_r5 {h : zH} {x1 : Int} {p : Nat} {v : Nat} (KC : KC h) (rp : hR h 0 13 = some p) (hp : PS h p) (rv : hR h 0 14 = some v) (hv : VS h v) : zBack zY 190 2 5 [some (zR (some 0)), some (zI x1)] [] (some (.inl (none), h)) =
    zBack zY 190 17 20 [some (zR (some 0)), some (zI x1)] [] (zC 114 [zR (some 135), zR (some p), zR (some v)] h) := by
  refine (show zBack zY 190 2 5 [some (zR (some 0)), some (zI x1)] [] (some (.inl (none), h)) = gd (zob h (some 0) 11) (zY 190 9 [some (zR (some 0)), some (zI x1)] [zR (hR h 0 12)] h) from zGo 2 190 5 _ _ _).trans ?_
  refine (gd_t (⟨rfl, (PTC KC 0 _ rfl rfl), (PNC KC 0 rfl)⟩) _).trans ?_
  refine (congrArg (fun rz => zY 190 9 [some (zR (some 0)), some (zI x1)] (zR rz :: []) h) (PRC KC 0 12 _ rfl)).trans ?_
  refine (show zY 190 9 [some (zR (some 0)), some (zI x1)] [zR (some 135)] h = gd (zob h (some 0) 11) (zY 190 13 [some (zR (some 0)), some (zI x1)] [zR (hR h 0 13), zR (some 135)] h) from zGo 2 190 9 _ _ _).trans ?_
  refine (gd_t (⟨rfl, (PTC KC 0 _ rfl rfl), (PNC KC 0 rfl)⟩) _).trans ?_
  refine (congrArg (fun rz => zY 190 13 [some (zR (some 0)), some (zI x1)] (zR rz :: zR (some 135) :: []) h) rp).trans ?_
  refine (show zY 190 13 [some (zR (some 0)), some (zI x1)] [zR (some p), zR (some 135)] h = gd (zob h (some 0) 11) (zY 190 17 [some (zR (some 0)), some (zI x1)] [zR (hR h 0 14), zR (some p), zR (some 135)] h) from zGo 2 190 13 _ _ _).trans ?_
  refine (gd_t (⟨rfl, (PTC KC 0 _ rfl rfl), (PNC KC 0 rfl)⟩) _).trans ?_
  refine (congrArg (fun rz => zY 190 17 [some (zR (some 0)), some (zI x1)] (zR rz :: zR (some p) :: zR (some 135) :: []) h) rv).trans ?_
  refine (show zY 190 17 [some (zR (some 0)), some (zI x1)] [zR (some v), zR (some p), zR (some 135)] h = gd (false = zctor 114 ∧ zcs [] ≤ 8 ∧ zrm 190 (zrf 114 + 1) (8 + (zmaxl 114 + 11) + zrl 114) = true ∧ zcs [zR (some 135), zR (some p), zR (some v)] ≤ zmaxl 114) (gd (zob h (some 135) 9) (zBack zY 190 17 20 [some (zR (some 0)), some (zI x1)] [] (zC 114 [zR (some 135), zR (some p), zR (some v)] h))) from zGo 1 190 17 _ _ _).trans ?_
  refine (gd_t (⟨rfl, Nat.le_of_ble_eq_true rfl, rfl, Nat.le_of_ble_eq_true rfl⟩) _).trans ?_
  refine (gd_t (⟨rfl, (PTC KC 135 _ rfl rfl), (PNC KC 135 rfl)⟩) _).trans ?_
  rfl
theorem q_B_needNodes_r20 {h : zH} {x1 : Int} (KC : KC h) : zBack zY 190 17 20 [some (zR (some 0)), some (zI x1)] [] (some (.inl (none), h)) =
    some (.inl (some (zI (f_Sh_sizeOf h x1))), h) := by
  refine (show zBack zY 190 17 20 [some (zR (some 0)), some (zI x1)] [] (some (.inl (none), h)) = gd (zob h (some 0) 11) (zY 190 24 [some (zR (some 0)), some (zI x1)] [zR (hR h 0 12)] h) from zGo 2 190 20 _ _ _).trans ?_
  refine (gd_t (⟨rfl, (PTC KC 0 _ rfl rfl), (PNC KC 0 rfl)⟩) _).trans ?_
  refine (congrArg (fun rz => zY 190 24 [some (zR (some 0)), some (zI x1)] (zR rz :: []) h) (PRC KC 0 12 _ rfl)).trans ?_
  refine (show zY 190 24 [some (zR (some 0)), some (zI x1)] [zR (some 135)] h = gd (false = zctor 117 ∧ zcs [] ≤ 8 ∧ zrm 190 (zrf 117 + 1) (8 + (zmaxl 117 + 11) + zrl 117) = true ∧ zcs [zR (some 135), zI x1] ≤ zmaxl 117) (gd (zob h (some 135) 9) (zBack zY 190 25 28 [some (zR (some 0)), some (zI x1)] [] (zC 117 [zR (some 135), zI x1] h))) from zGo 2 190 24 _ _ _).trans ?_
  refine (gd_t (⟨rfl, Nat.le_of_ble_eq_true rfl, rfl, Nat.le_of_ble_eq_true rfl⟩) _).trans ?_
  refine (gd_t (⟨rfl, (PTC KC 135 _ rfl rfl), (PNC KC 135 rfl)⟩) _).trans ?_
  refine (congrArg (zBack zY 190 25 28 [some (zR (some 0)), some (zI x1)] []) (e_Sh_sizeOf KC)).trans ?_
  refine (show zY 190 28 [some (zR (some 0)), some (zI x1)] [zI (f_Sh_sizeOf h x1)] h = gd (([] : List zV).isEmpty = true ∧ (zrk 190 = 1 ∨ zrk 190 = 6 ∧ (((f_Sh_sizeOf h x1) : Int) = 0 ∨ ((f_Sh_sizeOf h x1) : Int) = 1))) (some (.inl (some (zI (f_Sh_sizeOf h x1))), h)) from zGo 1 190 28 _ _ _).trans ?_
  refine (gd_t (⟨rfl, Or.inl rfl⟩) _).trans ?_
  rfl
theorem q_B_gap {h : zH} {x1 : Int} (KC : KC h) : zC 191 [zR (some 0), zI x1] h =
    zBack zY 191 2 5 [some (zR (some 0)), some (zI x1), none] [] (zC 165 [zR (some 0), zI x1] h) := by
  refine (show zC 191 [zR (some 0), zI x1] h = gd (false = zctor 165 ∧ zcs [] ≤ 8 ∧ zrm 191 (zrf 165 + 1) (8 + (zmaxl 165 + 11) + zrl 165) = true ∧ zcs [zR (some 0), zI x1] ≤ zmaxl 165) (gd (zob h (some 0) 11) (zBack zY 191 2 5 [some (zR (some 0)), some (zI x1), none] [] (zC 165 [zR (some 0), zI x1] h))) from zGo 3 191 0 _ _ _).trans ?_
  refine (gd_t (⟨rfl, Nat.le_of_ble_eq_true rfl, rfl, Nat.le_of_ble_eq_true rfl⟩) _).trans ?_
  refine (gd_t (⟨rfl, (PTC KC 0 _ rfl rfl), (PNC KC 0 rfl)⟩) _).trans ?_
  rfl
theorem q_B_gap_r5 {h : zH} {x1 : Int} {p : Nat} {v : Nat} (KC : KC h) (rp : hR h 0 13 = some p) (hp : PS h p) (rv : hR h 0 14 = some v) (hv : VS h v) : zBack zY 191 2 5 [some (zR (some 0)), some (zI x1), none] [] (some (.inl (none), h)) =
    zBack zY 191 17 20 [some (zR (some 0)), some (zI x1), none] [] (zC 114 [zR (some 135), zR (some p), zR (some v)] h) := by
  refine (show zBack zY 191 2 5 [some (zR (some 0)), some (zI x1), none] [] (some (.inl (none), h)) = gd (zob h (some 0) 11) (zY 191 9 [some (zR (some 0)), some (zI x1), none] [zR (hR h 0 12)] h) from zGo 2 191 5 _ _ _).trans ?_
  refine (gd_t (⟨rfl, (PTC KC 0 _ rfl rfl), (PNC KC 0 rfl)⟩) _).trans ?_
  refine (congrArg (fun rz => zY 191 9 [some (zR (some 0)), some (zI x1), none] (zR rz :: []) h) (PRC KC 0 12 _ rfl)).trans ?_
  refine (show zY 191 9 [some (zR (some 0)), some (zI x1), none] [zR (some 135)] h = gd (zob h (some 0) 11) (zY 191 13 [some (zR (some 0)), some (zI x1), none] [zR (hR h 0 13), zR (some 135)] h) from zGo 2 191 9 _ _ _).trans ?_
  refine (gd_t (⟨rfl, (PTC KC 0 _ rfl rfl), (PNC KC 0 rfl)⟩) _).trans ?_
  refine (congrArg (fun rz => zY 191 13 [some (zR (some 0)), some (zI x1), none] (zR rz :: zR (some 135) :: []) h) rp).trans ?_
  refine (show zY 191 13 [some (zR (some 0)), some (zI x1), none] [zR (some p), zR (some 135)] h = gd (zob h (some 0) 11) (zY 191 17 [some (zR (some 0)), some (zI x1), none] [zR (hR h 0 14), zR (some p), zR (some 135)] h) from zGo 2 191 13 _ _ _).trans ?_
  refine (gd_t (⟨rfl, (PTC KC 0 _ rfl rfl), (PNC KC 0 rfl)⟩) _).trans ?_
  refine (congrArg (fun rz => zY 191 17 [some (zR (some 0)), some (zI x1), none] (zR rz :: zR (some p) :: zR (some 135) :: []) h) rv).trans ?_
  refine (show zY 191 17 [some (zR (some 0)), some (zI x1), none] [zR (some v), zR (some p), zR (some 135)] h = gd (false = zctor 114 ∧ zcs [] ≤ 8 ∧ zrm 191 (zrf 114 + 1) (8 + (zmaxl 114 + 11) + zrl 114) = true ∧ zcs [zR (some 135), zR (some p), zR (some v)] ≤ zmaxl 114) (gd (zob h (some 135) 9) (zBack zY 191 17 20 [some (zR (some 0)), some (zI x1), none] [] (zC 114 [zR (some 135), zR (some p), zR (some v)] h))) from zGo 1 191 17 _ _ _).trans ?_
  refine (gd_t (⟨rfl, Nat.le_of_ble_eq_true rfl, rfl, Nat.le_of_ble_eq_true rfl⟩) _).trans ?_
  refine (gd_t (⟨rfl, (PTC KC 135 _ rfl rfl), (PNC KC 135 rfl)⟩) _).trans ?_
  rfl
theorem q_B_gap_r20 {h : zH} {x1 : Int} {a : Nat} (KC : KC h) (ra : (f_Sh_rowOf h x1) = some a) (ta : hT h a = 21) (na : a < hN h) : zBack zY 191 17 20 [some (zR (some 0)), some (zI x1), none] [] (some (.inl (none), h)) =
    if (f_Sh_sizeOf h x1) = (-1) then
      some (.inl (some (zI 0)), h)
    else
      zBack zY 191 49 52 [some (zR (some 0)), some (zI x1), some (zI (f_Sh_sizeOf h x1))] [] (zC 95 [zR (some 90), zR (some a), zI (f_Sh_sizeOf h x1)] h) := by
  refine (show zBack zY 191 17 20 [some (zR (some 0)), some (zI x1), none] [] (some (.inl (none), h)) = gd (zob h (some 0) 11) (zY 191 24 [some (zR (some 0)), some (zI x1), none] [zR (hR h 0 12)] h) from zGo 2 191 20 _ _ _).trans ?_
  refine (gd_t (⟨rfl, (PTC KC 0 _ rfl rfl), (PNC KC 0 rfl)⟩) _).trans ?_
  refine (congrArg (fun rz => zY 191 24 [some (zR (some 0)), some (zI x1), none] (zR rz :: []) h) (PRC KC 0 12 _ rfl)).trans ?_
  refine (show zY 191 24 [some (zR (some 0)), some (zI x1), none] [zR (some 135)] h = gd (false = zctor 117 ∧ zcs [] ≤ 8 ∧ zrm 191 (zrf 117 + 1) (8 + (zmaxl 117 + 11) + zrl 117) = true ∧ zcs [zR (some 135), zI x1] ≤ zmaxl 117) (gd (zob h (some 135) 9) (zBack zY 191 25 28 [some (zR (some 0)), some (zI x1), none] [] (zC 117 [zR (some 135), zI x1] h))) from zGo 2 191 24 _ _ _).trans ?_
  refine (gd_t (⟨rfl, Nat.le_of_ble_eq_true rfl, rfl, Nat.le_of_ble_eq_true rfl⟩) _).trans ?_
  refine (gd_t (⟨rfl, (PTC KC 135 _ rfl rfl), (PNC KC 135 rfl)⟩) _).trans ?_
  refine (congrArg (zBack zY 191 25 28 [some (zR (some 0)), some (zI x1), none] []) (e_Sh_sizeOf KC)).trans ?_
  refine (show zY 191 28 [some (zR (some 0)), some (zI x1), none] [zI (f_Sh_sizeOf h x1)] h = gd (inR (-1)) (if (f_Sh_sizeOf h x1) = (-1) then zY 191 34 [some (zR (some 0)), some (zI x1), some (zI (f_Sh_sizeOf h x1))] [] h else zY 191 36 [some (zR (some 0)), some (zI x1), some (zI (f_Sh_sizeOf h x1))] [] h) from zGo 4 191 28 _ _ _).trans ?_
  refine (gd_t (by decide) _).trans ?_
  refine iteC (fun c0 => ?_) (fun c0 => ?_)
  · skip
    refine (show zY 191 34 [some (zR (some 0)), some (zI x1), some (zI (f_Sh_sizeOf h x1))] [] h = gd (inR (0)) (gd (([] : List zV).isEmpty = true ∧ (zrk 191 = 1 ∨ zrk 191 = 6 ∧ ((0 : Int) = 0 ∨ (0 : Int) = 1))) (some (.inl (some (zI 0)), h))) from zGo 2 191 34 _ _ _).trans ?_
    refine (gd_t (by decide) _).trans ?_
    refine (gd_t (⟨rfl, Or.inl rfl⟩) _).trans ?_
    rfl
  · skip
    refine (show zY 191 36 [some (zR (some 0)), some (zI x1), some (zI (f_Sh_sizeOf h x1))] [] h = gd (zob h (some 0) 11) (zY 191 40 [some (zR (some 0)), some (zI x1), some (zI (f_Sh_sizeOf h x1))] [zR (hR h 0 9)] h) from zGo 2 191 36 _ _ _).trans ?_
    refine (gd_t (⟨rfl, (PTC KC 0 _ rfl rfl), (PNC KC 0 rfl)⟩) _).trans ?_
    refine (congrArg (fun rz => zY 191 40 [some (zR (some 0)), some (zI x1), some (zI (f_Sh_sizeOf h x1))] (zR rz :: []) h) (PRC KC 0 9 _ rfl)).trans ?_
    refine (show zY 191 40 [some (zR (some 0)), some (zI x1), some (zI (f_Sh_sizeOf h x1))] [zR (some 90)] h = gd (zob h (some 0) 11) (zY 191 44 [some (zR (some 0)), some (zI x1), some (zI (f_Sh_sizeOf h x1))] [zR (hR h 0 12), zR (some 90)] h) from zGo 2 191 40 _ _ _).trans ?_
    refine (gd_t (⟨rfl, (PTC KC 0 _ rfl rfl), (PNC KC 0 rfl)⟩) _).trans ?_
    refine (congrArg (fun rz => zY 191 44 [some (zR (some 0)), some (zI x1), some (zI (f_Sh_sizeOf h x1))] (zR rz :: zR (some 90) :: []) h) (PRC KC 0 12 _ rfl)).trans ?_
    refine (show zY 191 44 [some (zR (some 0)), some (zI x1), some (zI (f_Sh_sizeOf h x1))] [zR (some 135), zR (some 90)] h = gd (false = zctor 122 ∧ zcs [zR (some 90)] ≤ 8 ∧ zrm 191 (zrf 122 + 1) (8 + (zmaxl 122 + 11) + zrl 122) = true ∧ zcs [zR (some 135), zI x1] ≤ zmaxl 122) (gd (zob h (some 135) 9) (zBack zY 191 45 48 [some (zR (some 0)), some (zI x1), some (zI (f_Sh_sizeOf h x1))] [zR (some 90)] (zC 122 [zR (some 135), zI x1] h))) from zGo 2 191 44 _ _ _).trans ?_
    refine (gd_t (⟨rfl, Nat.le_of_ble_eq_true rfl, rfl, Nat.le_of_ble_eq_true rfl⟩) _).trans ?_
    refine (gd_t (⟨rfl, (PTC KC 135 _ rfl rfl), (PNC KC 135 rfl)⟩) _).trans ?_
    refine (congrArg (zBack zY 191 45 48 [some (zR (some 0)), some (zI x1), some (zI (f_Sh_sizeOf h x1))] [zR (some 90)]) (e_Sh_rowOf KC)).trans ?_
    refine (congrArg (fun rz => zBack zY 191 45 48 [some (zR (some 0)), some (zI x1), some (zI (f_Sh_sizeOf h x1))] [zR (some 90)] (some (.inl (some (zR rz)), h))) ra).trans ?_
    refine (show zY 191 48 [some (zR (some 0)), some (zI x1), some (zI (f_Sh_sizeOf h x1))] [zR (some a), zR (some 90)] h = gd (false = zctor 95 ∧ zcs [] ≤ 8 ∧ zrm 191 (zrf 95 + 1) (8 + (zmaxl 95 + 11) + zrl 95) = true ∧ zcs [zR (some 90), zR (some a), zI (f_Sh_sizeOf h x1)] ≤ zmaxl 95) (gd (zob h (some 90) 8) (zBack zY 191 49 52 [some (zR (some 0)), some (zI x1), some (zI (f_Sh_sizeOf h x1))] [] (zC 95 [zR (some 90), zR (some a), zI (f_Sh_sizeOf h x1)] h))) from zGo 2 191 48 _ _ _).trans ?_
    refine (gd_t (⟨rfl, Nat.le_of_ble_eq_true rfl, rfl, Nat.le_of_ble_eq_true rfl⟩) _).trans ?_
    refine (gd_t (⟨rfl, (PTC KC 90 _ rfl rfl), (PNC KC 90 rfl)⟩) _).trans ?_
    rfl
theorem q_B_gap_r52 {h : zH} {x1 : Int} {x2 : Int} (KC : KC h) : zBack zY 191 49 52 [some (zR (some 0)), some (zI x1), some (zI x2)] [] (some (.inl (none), h)) =
    some (.inl (some (zI (f_Lo_bitCount ((f_S_holding h) ^^^ (f_D_ahead h x1))))), h) := by
  refine (show zBack zY 191 49 52 [some (zR (some 0)), some (zI x1), some (zI x2)] [] (some (.inl (none), h)) = gd (zob h (some 0) 11) (zY 191 56 [some (zR (some 0)), some (zI x1), some (zI x2)] [zR (hR h 0 9)] h) from zGo 2 191 52 _ _ _).trans ?_
  refine (gd_t (⟨rfl, (PTC KC 0 _ rfl rfl), (PNC KC 0 rfl)⟩) _).trans ?_
  refine (congrArg (fun rz => zY 191 56 [some (zR (some 0)), some (zI x1), some (zI x2)] (zR rz :: []) h) (PRC KC 0 9 _ rfl)).trans ?_
  refine (show zY 191 56 [some (zR (some 0)), some (zI x1), some (zI x2)] [zR (some 90)] h = gd (false = zctor 99 ∧ zcs [] ≤ 8 ∧ zrm 191 (zrf 99 + 1) (8 + (zmaxl 99 + 11) + zrl 99) = true ∧ zcs [zR (some 90)] ≤ zmaxl 99) (gd (zob h (some 90) 8) (zBack zY 191 56 59 [some (zR (some 0)), some (zI x1), some (zI x2)] [] (zC 99 [zR (some 90)] h))) from zGo 1 191 56 _ _ _).trans ?_
  refine (gd_t (⟨rfl, Nat.le_of_ble_eq_true rfl, rfl, Nat.le_of_ble_eq_true rfl⟩) _).trans ?_
  refine (gd_t (⟨rfl, (PTC KC 90 _ rfl rfl), (PNC KC 90 rfl)⟩) _).trans ?_
  refine (congrArg (zBack zY 191 56 59 [some (zR (some 0)), some (zI x1), some (zI x2)] []) (e_S_holding KC)).trans ?_
  refine (show zY 191 59 [some (zR (some 0)), some (zI x1), some (zI x2)] [zJ (f_S_holding h)] h = gd (zob h (some 0) 11) (zY 191 63 [some (zR (some 0)), some (zI x1), some (zI x2)] [zR (hR h 0 11), zJ (f_S_holding h)] h) from zGo 2 191 59 _ _ _).trans ?_
  refine (gd_t (⟨rfl, (PTC KC 0 _ rfl rfl), (PNC KC 0 rfl)⟩) _).trans ?_
  refine (congrArg (fun rz => zY 191 63 [some (zR (some 0)), some (zI x1), some (zI x2)] (zR rz :: zJ (f_S_holding h) :: []) h) (PRC KC 0 11 _ rfl)).trans ?_
  refine (show zY 191 63 [some (zR (some 0)), some (zI x1), some (zI x2)] [zR (some 132), zJ (f_S_holding h)] h = gd (false = zctor 4 ∧ zcs [zJ (f_S_holding h)] ≤ 8 ∧ zrm 191 (zrf 4 + 1) (8 + (zmaxl 4 + 11) + zrl 4) = true ∧ zcs [zR (some 132), zI x1] ≤ zmaxl 4) (gd (zob h (some 132) 1) (zBack zY 191 64 67 [some (zR (some 0)), some (zI x1), some (zI x2)] [zJ (f_S_holding h)] (zC 4 [zR (some 132), zI x1] h))) from zGo 2 191 63 _ _ _).trans ?_
  refine (gd_t (⟨rfl, Nat.le_of_ble_eq_true rfl, rfl, Nat.le_of_ble_eq_true rfl⟩) _).trans ?_
  refine (gd_t (⟨rfl, (PTC KC 132 _ rfl rfl), (PNC KC 132 rfl)⟩) _).trans ?_
  refine (congrArg (zBack zY 191 64 67 [some (zR (some 0)), some (zI x1), some (zI x2)] [zJ (f_S_holding h)]) (e_D_ahead KC)).trans ?_
  refine (show zY 191 67 [some (zR (some 0)), some (zI x1), some (zI x2)] [zJ (f_D_ahead h x1), zJ (f_S_holding h)] h = gd (false = zctor 226 ∧ zcs [] ≤ 8 ∧ zrm 191 (zrf 226 + 1) (8 + (zmaxl 226 + 11) + zrl 226) = true ∧ zcs [zJ ((f_S_holding h) ^^^ (f_D_ahead h x1))] ≤ zmaxl 226) (zBack zY 191 68 71 [some (zR (some 0)), some (zI x1), some (zI x2)] [] (zC 226 [zJ ((f_S_holding h) ^^^ (f_D_ahead h x1))] h)) from zGo 2 191 67 _ _ _).trans ?_
  refine (gd_t (⟨rfl, Nat.le_of_ble_eq_true rfl, rfl, Nat.le_of_ble_eq_true rfl⟩) _).trans ?_
  refine (congrArg (zBack zY 191 68 71 [some (zR (some 0)), some (zI x1), some (zI x2)] []) (e_Lo_bitCount)).trans ?_
  refine (show zY 191 71 [some (zR (some 0)), some (zI x1), some (zI x2)] [zI (f_Lo_bitCount ((f_S_holding h) ^^^ (f_D_ahead h x1)))] h = gd (([] : List zV).isEmpty = true ∧ (zrk 191 = 1 ∨ zrk 191 = 6 ∧ (((f_Lo_bitCount ((f_S_holding h) ^^^ (f_D_ahead h x1))) : Int) = 0 ∨ ((f_Lo_bitCount ((f_S_holding h) ^^^ (f_D_ahead h x1))) : Int) = 1))) (some (.inl (some (zI (f_Lo_bitCount ((f_S_holding h) ^^^ (f_D_ahead h x1))))), h)) from zGo 1 191 71 _ _ _).trans ?_
  refine (gd_t (⟨rfl, Or.inl rfl⟩) _).trans ?_
  rfl
theorem q_B_parseAlone {h : zH} {x1 : Int} {x2 : Int} (KC : KC h) : zC 193 [zR (some 0), zI x1, zI x2] h =
    zBack zY 193 5 8 [some (zR (some 0)), some (zI x1), some (zI x2), none] [] (zC 24 [zR (some 5), zI x1] h) := by
  refine (show zC 193 [zR (some 0), zI x1, zI x2] h = gd (zob h (some 0) 11) (zY 193 4 [some (zR (some 0)), some (zI x1), some (zI x2), none] [zR (hR h 0 7)] h) from zGo 2 193 0 _ _ _).trans ?_
  refine (gd_t (⟨rfl, (PTC KC 0 _ rfl rfl), (PNC KC 0 rfl)⟩) _).trans ?_
  refine (congrArg (fun rz => zY 193 4 [some (zR (some 0)), some (zI x1), some (zI x2), none] (zR rz :: []) h) (PRC KC 0 7 _ rfl)).trans ?_
  refine (show zY 193 4 [some (zR (some 0)), some (zI x1), some (zI x2), none] [zR (some 5)] h = gd (false = zctor 24 ∧ zcs [] ≤ 8 ∧ zrm 193 (zrf 24 + 1) (8 + (zmaxl 24 + 11) + zrl 24) = true ∧ zcs [zR (some 5), zI x1] ≤ zmaxl 24) (gd (zob h (some 5) 4) (zBack zY 193 5 8 [some (zR (some 0)), some (zI x1), some (zI x2), none] [] (zC 24 [zR (some 5), zI x1] h))) from zGo 2 193 4 _ _ _).trans ?_
  refine (gd_t (⟨rfl, Nat.le_of_ble_eq_true rfl, rfl, Nat.le_of_ble_eq_true rfl⟩) _).trans ?_
  refine (gd_t (⟨rfl, (PTC KC 5 _ rfl rfl), (PNC KC 5 rfl)⟩) _).trans ?_
  rfl
theorem q_B_parseAlone_r8 {h : zH} {x1 : Int} {x2 : Int} (KC : KC h) : zBack zY 193 5 8 [some (zR (some 0)), some (zI x1), some (zI x2), none] [] (some (.inl (none), h)) =
    zBack zY 193 13 16 [some (zR (some 0)), some (zI x1), some (zI x2), none] [] (zC 34 [zR (some 5), zI x2] h) := by
  refine (show zBack zY 193 5 8 [some (zR (some 0)), some (zI x1), some (zI x2), none] [] (some (.inl (none), h)) = gd (zob h (some 0) 11) (zY 193 12 [some (zR (some 0)), some (zI x1), some (zI x2), none] [zR (hR h 0 7)] h) from zGo 2 193 8 _ _ _).trans ?_
  refine (gd_t (⟨rfl, (PTC KC 0 _ rfl rfl), (PNC KC 0 rfl)⟩) _).trans ?_
  refine (congrArg (fun rz => zY 193 12 [some (zR (some 0)), some (zI x1), some (zI x2), none] (zR rz :: []) h) (PRC KC 0 7 _ rfl)).trans ?_
  refine (show zY 193 12 [some (zR (some 0)), some (zI x1), some (zI x2), none] [zR (some 5)] h = gd (false = zctor 34 ∧ zcs [] ≤ 8 ∧ zrm 193 (zrf 34 + 1) (8 + (zmaxl 34 + 11) + zrl 34) = true ∧ zcs [zR (some 5), zI x2] ≤ zmaxl 34) (gd (zob h (some 5) 4) (zBack zY 193 13 16 [some (zR (some 0)), some (zI x1), some (zI x2), none] [] (zC 34 [zR (some 5), zI x2] h))) from zGo 2 193 12 _ _ _).trans ?_
  refine (gd_t (⟨rfl, Nat.le_of_ble_eq_true rfl, rfl, Nat.le_of_ble_eq_true rfl⟩) _).trans ?_
  refine (gd_t (⟨rfl, (PTC KC 5 _ rfl rfl), (PNC KC 5 rfl)⟩) _).trans ?_
  rfl
theorem q_B_parseAlone_r16 {h : zH} {x1 : Int} {x2 : Int} {r : Nat} (KC : KC h) (hr : FS h r) : zBack zY 193 13 16 [some (zR (some 0)), some (zI x1), some (zI x2), none] [] (some (.inl (some (zR (some r))), h)) =
    zBack zY 193 18 21 [some (zR (some 0)), some (zI x1), some (zI x2), some (zR (some r))] [] (zC 162 [zR (some 0)] h) := by
  refine (show zBack zY 193 13 16 [some (zR (some 0)), some (zI x1), some (zI x2), none] [] (some (.inl (some (zR (some r))), h)) = gd (false = zctor 162 ∧ zcs [] ≤ 8 ∧ zrm 193 (zrf 162 + 1) (8 + (zmaxl 162 + 11) + zrl 162) = true ∧ zcs [zR (some 0)] ≤ zmaxl 162) (gd (zob h (some 0) 11) (zBack zY 193 18 21 [some (zR (some 0)), some (zI x1), some (zI x2), some (zR (some r))] [] (zC 162 [zR (some 0)] h))) from zGo 3 193 16 _ _ _).trans ?_
  refine (gd_t (⟨rfl, Nat.le_of_ble_eq_true rfl, rfl, Nat.le_of_ble_eq_true rfl⟩) _).trans ?_
  refine (gd_t (⟨rfl, (PTC KC 0 _ rfl rfl), (PNC KC 0 rfl)⟩) _).trans ?_
  rfl
theorem q_B_parseAlone_r21 {h : zH} {x1 : Int} {x2 : Int} {f3 : Nat} (KC : KC h) (hf3 : FS h f3) : zBack zY 193 18 21 [some (zR (some 0)), some (zI x1), some (zI x2), some (zR (some f3))] [] (some (.inl (none), h)) =
    some (.inl (some (zR (some f3))), h) := by
  refine (show zBack zY 193 18 21 [some (zR (some 0)), some (zI x1), some (zI x2), some (zR (some f3))] [] (some (.inl (none), h)) = gd (([] : List zV).isEmpty = true ∧ zrk 193 = 5) (some (.inl (some (zR (some f3))), h)) from zGo 2 193 21 _ _ _).trans ?_
  refine (gd_t (⟨rfl, rfl⟩) _).trans ?_
  rfl
theorem q_B_setBefore {h : zH} {x1 : Int} (KC : KC h) : zC 192 [zR (some 0), zI x1] h =
    zBack zY 192 2 5 [some (zR (some 0)), some (zI x1), none] [] (zC 161 [zR (some 0), zI x1] h) := by
  refine (show zC 192 [zR (some 0), zI x1] h = gd (false = zctor 161 ∧ zcs [] ≤ 8 ∧ zrm 192 (zrf 161 + 1) (8 + (zmaxl 161 + 11) + zrl 161) = true ∧ zcs [zR (some 0), zI x1] ≤ zmaxl 161) (gd (zob h (some 0) 11) (zBack zY 192 2 5 [some (zR (some 0)), some (zI x1), none] [] (zC 161 [zR (some 0), zI x1] h))) from zGo 3 192 0 _ _ _).trans ?_
  refine (gd_t (⟨rfl, Nat.le_of_ble_eq_true rfl, rfl, Nat.le_of_ble_eq_true rfl⟩) _).trans ?_
  refine (gd_t (⟨rfl, (PTC KC 0 _ rfl rfl), (PNC KC 0 rfl)⟩) _).trans ?_
  rfl
theorem q_B_setBefore_r5 {h : zH} {x1 : Int} (KC : KC h) : zBack zY 192 2 5 [some (zR (some 0)), some (zI x1), none] [] (some (.inl (none), h)) =
    zBack zY 192 8 11 [some (zR (some 0)), some (zI x1), none] [] (zC 193 [zR (some 0), zI x1, zI 1] h) := by
  refine (show zBack zY 192 2 5 [some (zR (some 0)), some (zI x1), none] [] (some (.inl (none), h)) = gd (inR (1)) (gd (false = zctor 193 ∧ zcs [] ≤ 8 ∧ zrm 192 (zrf 193 + 1) (8 + (zmaxl 193 + 11) + zrl 193) = true ∧ zcs [zR (some 0), zI x1, zI 1] ≤ zmaxl 193) (gd (zob h (some 0) 11) (zBack zY 192 8 11 [some (zR (some 0)), some (zI x1), none] [] (zC 193 [zR (some 0), zI x1, zI 1] h)))) from zGo 4 192 5 _ _ _).trans ?_
  refine (gd_t (by decide) _).trans ?_
  refine (gd_t (⟨rfl, Nat.le_of_ble_eq_true rfl, rfl, Nat.le_of_ble_eq_true rfl⟩) _).trans ?_
  refine (gd_t (⟨rfl, (PTC KC 0 _ rfl rfl), (PNC KC 0 rfl)⟩) _).trans ?_
  rfl
theorem q_B_setBefore_r11 {h : zH} {x1 : Int} {r : Nat} {v : Nat} (KC : KC h) (hr : FS h r) (rv : hR h 0 14 = some v) (hv : VS h v) : zBack zY 192 8 11 [some (zR (some 0)), some (zI x1), none] [] (some (.inl (some (zR (some r))), h)) =
    zBack zY 192 20 23 [some (zR (some 0)), some (zI x1), some (zR (some r))] [] (zC 17 [zR (some 10), zR (some v)] h) := by
  refine (show zBack zY 192 8 11 [some (zR (some 0)), some (zI x1), none] [] (some (.inl (some (zR (some r))), h)) = gd (zob h (some 0) 11) (zY 192 16 [some (zR (some 0)), some (zI x1), some (zR (some r))] [zR (hR h 0 8)] h) from zGo 3 192 11 _ _ _).trans ?_
  refine (gd_t (⟨rfl, (PTC KC 0 _ rfl rfl), (PNC KC 0 rfl)⟩) _).trans ?_
  refine (congrArg (fun rz => zY 192 16 [some (zR (some 0)), some (zI x1), some (zR (some r))] (zR rz :: []) h) (PRC KC 0 8 _ rfl)).trans ?_
  refine (show zY 192 16 [some (zR (some 0)), some (zI x1), some (zR (some r))] [zR (some 10)] h = gd (zob h (some 0) 11) (zY 192 20 [some (zR (some 0)), some (zI x1), some (zR (some r))] [zR (hR h 0 14), zR (some 10)] h) from zGo 2 192 16 _ _ _).trans ?_
  refine (gd_t (⟨rfl, (PTC KC 0 _ rfl rfl), (PNC KC 0 rfl)⟩) _).trans ?_
  refine (congrArg (fun rz => zY 192 20 [some (zR (some 0)), some (zI x1), some (zR (some r))] (zR rz :: zR (some 10) :: []) h) rv).trans ?_
  refine (show zY 192 20 [some (zR (some 0)), some (zI x1), some (zR (some r))] [zR (some v), zR (some 10)] h = gd (false = zctor 17 ∧ zcs [] ≤ 8 ∧ zrm 192 (zrf 17 + 1) (8 + (zmaxl 17 + 11) + zrl 17) = true ∧ zcs [zR (some 10), zR (some v)] ≤ zmaxl 17) (gd (zob h (some 10) 3) (zBack zY 192 20 23 [some (zR (some 0)), some (zI x1), some (zR (some r))] [] (zC 17 [zR (some 10), zR (some v)] h))) from zGo 1 192 20 _ _ _).trans ?_
  refine (gd_t (⟨rfl, Nat.le_of_ble_eq_true rfl, rfl, Nat.le_of_ble_eq_true rfl⟩) _).trans ?_
  refine (gd_t (⟨rfl, (PTC KC 10 _ rfl rfl), (PNC KC 10 rfl)⟩) _).trans ?_
  rfl
theorem q_B_setBefore_r23 {h : zH} {x1 : Int} {f2 : Nat} {v : Nat} (KC : KC h) (hf2 : FS h f2) (rv : hR h 0 14 = some v) (hv : VS h v) : zBack zY 192 20 23 [some (zR (some 0)), some (zI x1), some (zR (some f2))] [] (some (.inl (none), h)) =
    zY 192 31 [some (zR (some 0)), some (zI x1), some (zR (some f2))] [] (sR h v 0 (some f2)) := by
  refine (show zBack zY 192 20 23 [some (zR (some 0)), some (zI x1), some (zR (some f2))] [] (some (.inl (none), h)) = gd (zob h (some 0) 11) (zY 192 27 [some (zR (some 0)), some (zI x1), some (zR (some f2))] [zR (hR h 0 14)] h) from zGo 2 192 23 _ _ _).trans ?_
  refine (gd_t (⟨rfl, (PTC KC 0 _ rfl rfl), (PNC KC 0 rfl)⟩) _).trans ?_
  refine (congrArg (fun rz => zY 192 27 [some (zR (some 0)), some (zI x1), some (zR (some f2))] (zR rz :: []) h) rv).trans ?_
  refine (show zY 192 27 [some (zR (some 0)), some (zI x1), some (zR (some f2))] [zR (some v)] h = gd (zob h (some v) 10) (zY 192 31 [some (zR (some 0)), some (zI x1), some (zR (some f2))] [] (sR h v 0 (some f2))) from zGo 2 192 27 _ _ _).trans ?_
  refine (gd_t (⟨rfl, hv.1, (VS_n hv)⟩) _).trans ?_
  rfl
theorem q_B_setBefore_31 {h : zH} {x1 : Int} {f2 : Nat} {p : Nat} {v : Nat} (KC : KC h) (hf2 : FS h f2) (rp : hR h 0 13 = some p) (hp : PS h p) (rv : hR h 0 14 = some v) (hv : VS h v) : zY 192 31 [some (zR (some 0)), some (zI x1), some (zR (some f2))] [] h =
    zBack zY 192 43 46 [some (zR (some 0)), some (zI x1), some (zR (some f2))] [] (zC 1 [zR (some 132), zR (some p), zR (some v)] h) := by
  refine (show zY 192 31 [some (zR (some 0)), some (zI x1), some (zR (some f2))] [] h = gd (zob h (some 0) 11) (zY 192 35 [some (zR (some 0)), some (zI x1), some (zR (some f2))] [zR (hR h 0 11)] h) from zGo 2 192 31 _ _ _).trans ?_
  refine (gd_t (⟨rfl, (PTC KC 0 _ rfl rfl), (PNC KC 0 rfl)⟩) _).trans ?_
  refine (congrArg (fun rz => zY 192 35 [some (zR (some 0)), some (zI x1), some (zR (some f2))] (zR rz :: []) h) (PRC KC 0 11 _ rfl)).trans ?_
  refine (show zY 192 35 [some (zR (some 0)), some (zI x1), some (zR (some f2))] [zR (some 132)] h = gd (zob h (some 0) 11) (zY 192 39 [some (zR (some 0)), some (zI x1), some (zR (some f2))] [zR (hR h 0 13), zR (some 132)] h) from zGo 2 192 35 _ _ _).trans ?_
  refine (gd_t (⟨rfl, (PTC KC 0 _ rfl rfl), (PNC KC 0 rfl)⟩) _).trans ?_
  refine (congrArg (fun rz => zY 192 39 [some (zR (some 0)), some (zI x1), some (zR (some f2))] (zR rz :: zR (some 132) :: []) h) rp).trans ?_
  refine (show zY 192 39 [some (zR (some 0)), some (zI x1), some (zR (some f2))] [zR (some p), zR (some 132)] h = gd (zob h (some 0) 11) (zY 192 43 [some (zR (some 0)), some (zI x1), some (zR (some f2))] [zR (hR h 0 14), zR (some p), zR (some 132)] h) from zGo 2 192 39 _ _ _).trans ?_
  refine (gd_t (⟨rfl, (PTC KC 0 _ rfl rfl), (PNC KC 0 rfl)⟩) _).trans ?_
  refine (congrArg (fun rz => zY 192 43 [some (zR (some 0)), some (zI x1), some (zR (some f2))] (zR rz :: zR (some p) :: zR (some 132) :: []) h) rv).trans ?_
  refine (show zY 192 43 [some (zR (some 0)), some (zI x1), some (zR (some f2))] [zR (some v), zR (some p), zR (some 132)] h = gd (false = zctor 1 ∧ zcs [] ≤ 8 ∧ zrm 192 (zrf 1 + 1) (8 + (zmaxl 1 + 11) + zrl 1) = true ∧ zcs [zR (some 132), zR (some p), zR (some v)] ≤ zmaxl 1) (gd (zob h (some 132) 1) (zBack zY 192 43 46 [some (zR (some 0)), some (zI x1), some (zR (some f2))] [] (zC 1 [zR (some 132), zR (some p), zR (some v)] h))) from zGo 1 192 43 _ _ _).trans ?_
  refine (gd_t (⟨rfl, Nat.le_of_ble_eq_true rfl, rfl, Nat.le_of_ble_eq_true rfl⟩) _).trans ?_
  refine (gd_t (⟨rfl, (PTC KC 132 _ rfl rfl), (PNC KC 132 rfl)⟩) _).trans ?_
  rfl
theorem q_B_setBefore_r46 {h : zH} {x1 : Int} {f2 : Nat} (KC : KC h) (hf2 : FS h f2) : zBack zY 192 43 46 [some (zR (some 0)), some (zI x1), some (zR (some f2))] [] (some (.inl (none), h)) =
    some (.inl (some (zI (f_Lo_bitCount (hJ h 90 0)))), h) := by
  refine (show zBack zY 192 43 46 [some (zR (some 0)), some (zI x1), some (zR (some f2))] [] (some (.inl (none), h)) = gd (zob h (some 0) 11) (zY 192 50 [some (zR (some 0)), some (zI x1), some (zR (some f2))] [zR (hR h 0 9)] h) from zGo 2 192 46 _ _ _).trans ?_
  refine (gd_t (⟨rfl, (PTC KC 0 _ rfl rfl), (PNC KC 0 rfl)⟩) _).trans ?_
  refine (congrArg (fun rz => zY 192 50 [some (zR (some 0)), some (zI x1), some (zR (some f2))] (zR rz :: []) h) (PRC KC 0 9 _ rfl)).trans ?_
  refine (show zY 192 50 [some (zR (some 0)), some (zI x1), some (zR (some f2))] [zR (some 90)] h = gd (zob h (some 90) 8) (gd (false = zctor 226 ∧ zcs [] ≤ 8 ∧ zrm 192 (zrf 226 + 1) (8 + (zmaxl 226 + 11) + zrl 226) = true ∧ zcs [zJ (hJ h 90 0)] ≤ zmaxl 226) (zBack zY 192 53 56 [some (zR (some 0)), some (zI x1), some (zR (some f2))] [] (zC 226 [zJ (hJ h 90 0)] h))) from zGo 2 192 50 _ _ _).trans ?_
  refine (gd_t (⟨rfl, (PTC KC 90 _ rfl rfl), (PNC KC 90 rfl)⟩) _).trans ?_
  refine (gd_t (⟨rfl, Nat.le_of_ble_eq_true rfl, rfl, Nat.le_of_ble_eq_true rfl⟩) _).trans ?_
  refine (congrArg (zBack zY 192 53 56 [some (zR (some 0)), some (zI x1), some (zR (some f2))] []) (e_Lo_bitCount)).trans ?_
  refine (show zY 192 56 [some (zR (some 0)), some (zI x1), some (zR (some f2))] [zI (f_Lo_bitCount (hJ h 90 0))] h = gd (([] : List zV).isEmpty = true ∧ (zrk 192 = 1 ∨ zrk 192 = 6 ∧ (((f_Lo_bitCount (hJ h 90 0)) : Int) = 0 ∨ ((f_Lo_bitCount (hJ h 90 0)) : Int) = 1))) (some (.inl (some (zI (f_Lo_bitCount (hJ h 90 0)))), h)) from zGo 1 192 56 _ _ _).trans ?_
  refine (gd_t (⟨rfl, Or.inl rfl⟩) _).trans ?_
  rfl
theorem q_B_setAfter {h : zH} {x1 : Int} (KC : KC h) : zC 194 [zR (some 0), zI x1] h =
    zBack zY 194 2 5 [some (zR (some 0)), some (zI x1), none] [] (zC 161 [zR (some 0), zI x1] h) := by
  refine (show zC 194 [zR (some 0), zI x1] h = gd (false = zctor 161 ∧ zcs [] ≤ 8 ∧ zrm 194 (zrf 161 + 1) (8 + (zmaxl 161 + 11) + zrl 161) = true ∧ zcs [zR (some 0), zI x1] ≤ zmaxl 161) (gd (zob h (some 0) 11) (zBack zY 194 2 5 [some (zR (some 0)), some (zI x1), none] [] (zC 161 [zR (some 0), zI x1] h))) from zGo 3 194 0 _ _ _).trans ?_
  refine (gd_t (⟨rfl, Nat.le_of_ble_eq_true rfl, rfl, Nat.le_of_ble_eq_true rfl⟩) _).trans ?_
  refine (gd_t (⟨rfl, (PTC KC 0 _ rfl rfl), (PNC KC 0 rfl)⟩) _).trans ?_
  rfl
theorem q_B_setAfter_r5 {h : zH} {x1 : Int} (KC : KC h) : zBack zY 194 2 5 [some (zR (some 0)), some (zI x1), none] [] (some (.inl (none), h)) =
    zBack zY 194 8 11 [some (zR (some 0)), some (zI x1), none] [] (zC 193 [zR (some 0), zI x1, zI 1] h) := by
  refine (show zBack zY 194 2 5 [some (zR (some 0)), some (zI x1), none] [] (some (.inl (none), h)) = gd (inR (1)) (gd (false = zctor 193 ∧ zcs [] ≤ 8 ∧ zrm 194 (zrf 193 + 1) (8 + (zmaxl 193 + 11) + zrl 193) = true ∧ zcs [zR (some 0), zI x1, zI 1] ≤ zmaxl 193) (gd (zob h (some 0) 11) (zBack zY 194 8 11 [some (zR (some 0)), some (zI x1), none] [] (zC 193 [zR (some 0), zI x1, zI 1] h)))) from zGo 4 194 5 _ _ _).trans ?_
  refine (gd_t (by decide) _).trans ?_
  refine (gd_t (⟨rfl, Nat.le_of_ble_eq_true rfl, rfl, Nat.le_of_ble_eq_true rfl⟩) _).trans ?_
  refine (gd_t (⟨rfl, (PTC KC 0 _ rfl rfl), (PNC KC 0 rfl)⟩) _).trans ?_
  rfl
theorem q_B_setAfter_r11 {h : zH} {x1 : Int} {r : Nat} {v : Nat} (KC : KC h) (hr : FS h r) (rv : hR h 0 14 = some v) (hv : VS h v) : zBack zY 194 8 11 [some (zR (some 0)), some (zI x1), none] [] (some (.inl (some (zR (some r))), h)) =
    zBack zY 194 20 23 [some (zR (some 0)), some (zI x1), some (zR (some r))] [] (zC 17 [zR (some 10), zR (some v)] h) := by
  refine (show zBack zY 194 8 11 [some (zR (some 0)), some (zI x1), none] [] (some (.inl (some (zR (some r))), h)) = gd (zob h (some 0) 11) (zY 194 16 [some (zR (some 0)), some (zI x1), some (zR (some r))] [zR (hR h 0 8)] h) from zGo 3 194 11 _ _ _).trans ?_
  refine (gd_t (⟨rfl, (PTC KC 0 _ rfl rfl), (PNC KC 0 rfl)⟩) _).trans ?_
  refine (congrArg (fun rz => zY 194 16 [some (zR (some 0)), some (zI x1), some (zR (some r))] (zR rz :: []) h) (PRC KC 0 8 _ rfl)).trans ?_
  refine (show zY 194 16 [some (zR (some 0)), some (zI x1), some (zR (some r))] [zR (some 10)] h = gd (zob h (some 0) 11) (zY 194 20 [some (zR (some 0)), some (zI x1), some (zR (some r))] [zR (hR h 0 14), zR (some 10)] h) from zGo 2 194 16 _ _ _).trans ?_
  refine (gd_t (⟨rfl, (PTC KC 0 _ rfl rfl), (PNC KC 0 rfl)⟩) _).trans ?_
  refine (congrArg (fun rz => zY 194 20 [some (zR (some 0)), some (zI x1), some (zR (some r))] (zR rz :: zR (some 10) :: []) h) rv).trans ?_
  refine (show zY 194 20 [some (zR (some 0)), some (zI x1), some (zR (some r))] [zR (some v), zR (some 10)] h = gd (false = zctor 17 ∧ zcs [] ≤ 8 ∧ zrm 194 (zrf 17 + 1) (8 + (zmaxl 17 + 11) + zrl 17) = true ∧ zcs [zR (some 10), zR (some v)] ≤ zmaxl 17) (gd (zob h (some 10) 3) (zBack zY 194 20 23 [some (zR (some 0)), some (zI x1), some (zR (some r))] [] (zC 17 [zR (some 10), zR (some v)] h))) from zGo 1 194 20 _ _ _).trans ?_
  refine (gd_t (⟨rfl, Nat.le_of_ble_eq_true rfl, rfl, Nat.le_of_ble_eq_true rfl⟩) _).trans ?_
  refine (gd_t (⟨rfl, (PTC KC 10 _ rfl rfl), (PNC KC 10 rfl)⟩) _).trans ?_
  rfl
theorem q_B_setAfter_r23 {h : zH} {x1 : Int} {f2 : Nat} {v : Nat} (KC : KC h) (hf2 : FS h f2) (rv : hR h 0 14 = some v) (hv : VS h v) : zBack zY 194 20 23 [some (zR (some 0)), some (zI x1), some (zR (some f2))] [] (some (.inl (none), h)) =
    zY 194 31 [some (zR (some 0)), some (zI x1), some (zR (some f2))] [] (sR h v 1 (some f2)) := by
  refine (show zBack zY 194 20 23 [some (zR (some 0)), some (zI x1), some (zR (some f2))] [] (some (.inl (none), h)) = gd (zob h (some 0) 11) (zY 194 27 [some (zR (some 0)), some (zI x1), some (zR (some f2))] [zR (hR h 0 14)] h) from zGo 2 194 23 _ _ _).trans ?_
  refine (gd_t (⟨rfl, (PTC KC 0 _ rfl rfl), (PNC KC 0 rfl)⟩) _).trans ?_
  refine (congrArg (fun rz => zY 194 27 [some (zR (some 0)), some (zI x1), some (zR (some f2))] (zR rz :: []) h) rv).trans ?_
  refine (show zY 194 27 [some (zR (some 0)), some (zI x1), some (zR (some f2))] [zR (some v)] h = gd (zob h (some v) 10) (zY 194 31 [some (zR (some 0)), some (zI x1), some (zR (some f2))] [] (sR h v 1 (some f2))) from zGo 2 194 27 _ _ _).trans ?_
  refine (gd_t (⟨rfl, hv.1, (VS_n hv)⟩) _).trans ?_
  rfl
theorem q_B_setAfter_31 {h : zH} {x1 : Int} {f2 : Nat} {p : Nat} {v : Nat} (KC : KC h) (hf2 : FS h f2) (rp : hR h 0 13 = some p) (hp : PS h p) (rv : hR h 0 14 = some v) (hv : VS h v) : zY 194 31 [some (zR (some 0)), some (zI x1), some (zR (some f2))] [] h =
    zBack zY 194 43 46 [some (zR (some 0)), some (zI x1), some (zR (some f2))] [] (zC 1 [zR (some 132), zR (some p), zR (some v)] h) := by
  refine (show zY 194 31 [some (zR (some 0)), some (zI x1), some (zR (some f2))] [] h = gd (zob h (some 0) 11) (zY 194 35 [some (zR (some 0)), some (zI x1), some (zR (some f2))] [zR (hR h 0 11)] h) from zGo 2 194 31 _ _ _).trans ?_
  refine (gd_t (⟨rfl, (PTC KC 0 _ rfl rfl), (PNC KC 0 rfl)⟩) _).trans ?_
  refine (congrArg (fun rz => zY 194 35 [some (zR (some 0)), some (zI x1), some (zR (some f2))] (zR rz :: []) h) (PRC KC 0 11 _ rfl)).trans ?_
  refine (show zY 194 35 [some (zR (some 0)), some (zI x1), some (zR (some f2))] [zR (some 132)] h = gd (zob h (some 0) 11) (zY 194 39 [some (zR (some 0)), some (zI x1), some (zR (some f2))] [zR (hR h 0 13), zR (some 132)] h) from zGo 2 194 35 _ _ _).trans ?_
  refine (gd_t (⟨rfl, (PTC KC 0 _ rfl rfl), (PNC KC 0 rfl)⟩) _).trans ?_
  refine (congrArg (fun rz => zY 194 39 [some (zR (some 0)), some (zI x1), some (zR (some f2))] (zR rz :: zR (some 132) :: []) h) rp).trans ?_
  refine (show zY 194 39 [some (zR (some 0)), some (zI x1), some (zR (some f2))] [zR (some p), zR (some 132)] h = gd (zob h (some 0) 11) (zY 194 43 [some (zR (some 0)), some (zI x1), some (zR (some f2))] [zR (hR h 0 14), zR (some p), zR (some 132)] h) from zGo 2 194 39 _ _ _).trans ?_
  refine (gd_t (⟨rfl, (PTC KC 0 _ rfl rfl), (PNC KC 0 rfl)⟩) _).trans ?_
  refine (congrArg (fun rz => zY 194 43 [some (zR (some 0)), some (zI x1), some (zR (some f2))] (zR rz :: zR (some p) :: zR (some 132) :: []) h) rv).trans ?_
  refine (show zY 194 43 [some (zR (some 0)), some (zI x1), some (zR (some f2))] [zR (some v), zR (some p), zR (some 132)] h = gd (false = zctor 1 ∧ zcs [] ≤ 8 ∧ zrm 194 (zrf 1 + 1) (8 + (zmaxl 1 + 11) + zrl 1) = true ∧ zcs [zR (some 132), zR (some p), zR (some v)] ≤ zmaxl 1) (gd (zob h (some 132) 1) (zBack zY 194 43 46 [some (zR (some 0)), some (zI x1), some (zR (some f2))] [] (zC 1 [zR (some 132), zR (some p), zR (some v)] h))) from zGo 1 194 43 _ _ _).trans ?_
  refine (gd_t (⟨rfl, Nat.le_of_ble_eq_true rfl, rfl, Nat.le_of_ble_eq_true rfl⟩) _).trans ?_
  refine (gd_t (⟨rfl, (PTC KC 132 _ rfl rfl), (PNC KC 132 rfl)⟩) _).trans ?_
  rfl
theorem q_B_setAfter_r46 {h : zH} {x1 : Int} {f2 : Nat} (KC : KC h) (hf2 : FS h f2) : zBack zY 194 43 46 [some (zR (some 0)), some (zI x1), some (zR (some f2))] [] (some (.inl (none), h)) =
    some (.inl (some (zI (f_Lo_bitCount (hJ h 90 1)))), h) := by
  refine (show zBack zY 194 43 46 [some (zR (some 0)), some (zI x1), some (zR (some f2))] [] (some (.inl (none), h)) = gd (zob h (some 0) 11) (zY 194 50 [some (zR (some 0)), some (zI x1), some (zR (some f2))] [zR (hR h 0 9)] h) from zGo 2 194 46 _ _ _).trans ?_
  refine (gd_t (⟨rfl, (PTC KC 0 _ rfl rfl), (PNC KC 0 rfl)⟩) _).trans ?_
  refine (congrArg (fun rz => zY 194 50 [some (zR (some 0)), some (zI x1), some (zR (some f2))] (zR rz :: []) h) (PRC KC 0 9 _ rfl)).trans ?_
  refine (show zY 194 50 [some (zR (some 0)), some (zI x1), some (zR (some f2))] [zR (some 90)] h = gd (zob h (some 90) 8) (gd (false = zctor 226 ∧ zcs [] ≤ 8 ∧ zrm 194 (zrf 226 + 1) (8 + (zmaxl 226 + 11) + zrl 226) = true ∧ zcs [zJ (hJ h 90 1)] ≤ zmaxl 226) (zBack zY 194 53 56 [some (zR (some 0)), some (zI x1), some (zR (some f2))] [] (zC 226 [zJ (hJ h 90 1)] h))) from zGo 2 194 50 _ _ _).trans ?_
  refine (gd_t (⟨rfl, (PTC KC 90 _ rfl rfl), (PNC KC 90 rfl)⟩) _).trans ?_
  refine (gd_t (⟨rfl, Nat.le_of_ble_eq_true rfl, rfl, Nat.le_of_ble_eq_true rfl⟩) _).trans ?_
  refine (congrArg (zBack zY 194 53 56 [some (zR (some 0)), some (zI x1), some (zR (some f2))] []) (e_Lo_bitCount)).trans ?_
  refine (show zY 194 56 [some (zR (some 0)), some (zI x1), some (zR (some f2))] [zI (f_Lo_bitCount (hJ h 90 1))] h = gd (([] : List zV).isEmpty = true ∧ (zrk 194 = 1 ∨ zrk 194 = 6 ∧ (((f_Lo_bitCount (hJ h 90 1)) : Int) = 0 ∨ ((f_Lo_bitCount (hJ h 90 1)) : Int) = 1))) (some (.inl (some (zI (f_Lo_bitCount (hJ h 90 1)))), h)) from zGo 1 194 56 _ _ _).trans ?_
  refine (gd_t (⟨rfl, Or.inl rfl⟩) _).trans ?_
  rfl
theorem q_B_setKeep {h : zH} {x1 : Int} {x2 : Int} (KC : KC h) : zC 195 [zR (some 0), zI x1, zI x2] h =
    zBack zY 195 2 5 [some (zR (some 0)), some (zI x1), some (zI x2), none] [] (zC 168 [zR (some 0), zI x1] h) := by
  refine (show zC 195 [zR (some 0), zI x1, zI x2] h = gd (false = zctor 168 ∧ zcs [] ≤ 8 ∧ zrm 195 (zrf 168 + 1) (8 + (zmaxl 168 + 11) + zrl 168) = true ∧ zcs [zR (some 0), zI x1] ≤ zmaxl 168) (gd (zob h (some 0) 11) (zBack zY 195 2 5 [some (zR (some 0)), some (zI x1), some (zI x2), none] [] (zC 168 [zR (some 0), zI x1] h))) from zGo 3 195 0 _ _ _).trans ?_
  refine (gd_t (⟨rfl, Nat.le_of_ble_eq_true rfl, rfl, Nat.le_of_ble_eq_true rfl⟩) _).trans ?_
  refine (gd_t (⟨rfl, (PTC KC 0 _ rfl rfl), (PNC KC 0 rfl)⟩) _).trans ?_
  rfl
theorem q_B_setKeep_r5 {h : zH} {x1 : Int} {x2 : Int} (KC : KC h) : zBack zY 195 2 5 [some (zR (some 0)), some (zI x1), some (zI x2), none] [] (some (.inl (none), h)) =
    zBack zY 195 7 10 [some (zR (some 0)), some (zI x1), some (zI x2), none] [] (zC 161 [zR (some 0), zI x2] h) := by
  refine (show zBack zY 195 2 5 [some (zR (some 0)), some (zI x1), some (zI x2), none] [] (some (.inl (none), h)) = gd (false = zctor 161 ∧ zcs [] ≤ 8 ∧ zrm 195 (zrf 161 + 1) (8 + (zmaxl 161 + 11) + zrl 161) = true ∧ zcs [zR (some 0), zI x2] ≤ zmaxl 161) (gd (zob h (some 0) 11) (zBack zY 195 7 10 [some (zR (some 0)), some (zI x1), some (zI x2), none] [] (zC 161 [zR (some 0), zI x2] h))) from zGo 3 195 5 _ _ _).trans ?_
  refine (gd_t (⟨rfl, Nat.le_of_ble_eq_true rfl, rfl, Nat.le_of_ble_eq_true rfl⟩) _).trans ?_
  refine (gd_t (⟨rfl, (PTC KC 0 _ rfl rfl), (PNC KC 0 rfl)⟩) _).trans ?_
  rfl
theorem q_B_setKeep_r10 {h : zH} {x1 : Int} {x2 : Int} (KC : KC h) : zBack zY 195 7 10 [some (zR (some 0)), some (zI x1), some (zI x2), none] [] (some (.inl (none), h)) =
    zBack zY 195 13 16 [some (zR (some 0)), some (zI x1), some (zI x2), none] [] (zC 193 [zR (some 0), zI x2, zI 1] h) := by
  refine (show zBack zY 195 7 10 [some (zR (some 0)), some (zI x1), some (zI x2), none] [] (some (.inl (none), h)) = gd (inR (1)) (gd (false = zctor 193 ∧ zcs [] ≤ 8 ∧ zrm 195 (zrf 193 + 1) (8 + (zmaxl 193 + 11) + zrl 193) = true ∧ zcs [zR (some 0), zI x2, zI 1] ≤ zmaxl 193) (gd (zob h (some 0) 11) (zBack zY 195 13 16 [some (zR (some 0)), some (zI x1), some (zI x2), none] [] (zC 193 [zR (some 0), zI x2, zI 1] h)))) from zGo 4 195 10 _ _ _).trans ?_
  refine (gd_t (by decide) _).trans ?_
  refine (gd_t (⟨rfl, Nat.le_of_ble_eq_true rfl, rfl, Nat.le_of_ble_eq_true rfl⟩) _).trans ?_
  refine (gd_t (⟨rfl, (PTC KC 0 _ rfl rfl), (PNC KC 0 rfl)⟩) _).trans ?_
  rfl
theorem q_B_setKeep_r16 {h : zH} {x1 : Int} {x2 : Int} {r : Nat} {v : Nat} (KC : KC h) (hr : FS h r) (rv : hR h 0 14 = some v) (hv : VS h v) : zBack zY 195 13 16 [some (zR (some 0)), some (zI x1), some (zI x2), none] [] (some (.inl (some (zR (some r))), h)) =
    zBack zY 195 25 28 [some (zR (some 0)), some (zI x1), some (zI x2), some (zR (some r))] [] (zC 17 [zR (some 10), zR (some v)] h) := by
  refine (show zBack zY 195 13 16 [some (zR (some 0)), some (zI x1), some (zI x2), none] [] (some (.inl (some (zR (some r))), h)) = gd (zob h (some 0) 11) (zY 195 21 [some (zR (some 0)), some (zI x1), some (zI x2), some (zR (some r))] [zR (hR h 0 8)] h) from zGo 3 195 16 _ _ _).trans ?_
  refine (gd_t (⟨rfl, (PTC KC 0 _ rfl rfl), (PNC KC 0 rfl)⟩) _).trans ?_
  refine (congrArg (fun rz => zY 195 21 [some (zR (some 0)), some (zI x1), some (zI x2), some (zR (some r))] (zR rz :: []) h) (PRC KC 0 8 _ rfl)).trans ?_
  refine (show zY 195 21 [some (zR (some 0)), some (zI x1), some (zI x2), some (zR (some r))] [zR (some 10)] h = gd (zob h (some 0) 11) (zY 195 25 [some (zR (some 0)), some (zI x1), some (zI x2), some (zR (some r))] [zR (hR h 0 14), zR (some 10)] h) from zGo 2 195 21 _ _ _).trans ?_
  refine (gd_t (⟨rfl, (PTC KC 0 _ rfl rfl), (PNC KC 0 rfl)⟩) _).trans ?_
  refine (congrArg (fun rz => zY 195 25 [some (zR (some 0)), some (zI x1), some (zI x2), some (zR (some r))] (zR rz :: zR (some 10) :: []) h) rv).trans ?_
  refine (show zY 195 25 [some (zR (some 0)), some (zI x1), some (zI x2), some (zR (some r))] [zR (some v), zR (some 10)] h = gd (false = zctor 17 ∧ zcs [] ≤ 8 ∧ zrm 195 (zrf 17 + 1) (8 + (zmaxl 17 + 11) + zrl 17) = true ∧ zcs [zR (some 10), zR (some v)] ≤ zmaxl 17) (gd (zob h (some 10) 3) (zBack zY 195 25 28 [some (zR (some 0)), some (zI x1), some (zI x2), some (zR (some r))] [] (zC 17 [zR (some 10), zR (some v)] h))) from zGo 1 195 25 _ _ _).trans ?_
  refine (gd_t (⟨rfl, Nat.le_of_ble_eq_true rfl, rfl, Nat.le_of_ble_eq_true rfl⟩) _).trans ?_
  refine (gd_t (⟨rfl, (PTC KC 10 _ rfl rfl), (PNC KC 10 rfl)⟩) _).trans ?_
  rfl
theorem q_B_setKeep_r28 {h : zH} {x1 : Int} {x2 : Int} {f3 : Nat} {v : Nat} (KC : KC h) (hf3 : FS h f3) (rv : hR h 0 14 = some v) (hv : VS h v) : zBack zY 195 25 28 [some (zR (some 0)), some (zI x1), some (zI x2), some (zR (some f3))] [] (some (.inl (none), h)) =
    zBack zY 195 34 37 [some (zR (some 0)), some (zI x1), some (zI x2), some (zR (some f3))] [] (zC 125 [zR (some v), zI x1, zR (some f3)] h) := by
  refine (show zBack zY 195 25 28 [some (zR (some 0)), some (zI x1), some (zI x2), some (zR (some f3))] [] (some (.inl (none), h)) = gd (zob h (some 0) 11) (zY 195 32 [some (zR (some 0)), some (zI x1), some (zI x2), some (zR (some f3))] [zR (hR h 0 14)] h) from zGo 2 195 28 _ _ _).trans ?_
  refine (gd_t (⟨rfl, (PTC KC 0 _ rfl rfl), (PNC KC 0 rfl)⟩) _).trans ?_
  refine (congrArg (fun rz => zY 195 32 [some (zR (some 0)), some (zI x1), some (zI x2), some (zR (some f3))] (zR rz :: []) h) rv).trans ?_
  refine (show zY 195 32 [some (zR (some 0)), some (zI x1), some (zI x2), some (zR (some f3))] [zR (some v)] h = gd (false = zctor 125 ∧ zcs [] ≤ 8 ∧ zrm 195 (zrf 125 + 1) (8 + (zmaxl 125 + 11) + zrl 125) = true ∧ zcs [zR (some v), zI x1, zR (some f3)] ≤ zmaxl 125) (gd (zob h (some v) 10) (zBack zY 195 34 37 [some (zR (some 0)), some (zI x1), some (zI x2), some (zR (some f3))] [] (zC 125 [zR (some v), zI x1, zR (some f3)] h))) from zGo 3 195 32 _ _ _).trans ?_
  refine (gd_t (⟨rfl, Nat.le_of_ble_eq_true rfl, rfl, Nat.le_of_ble_eq_true rfl⟩) _).trans ?_
  refine (gd_t (⟨rfl, hv.1, (VS_n hv)⟩) _).trans ?_
  rfl
theorem q_B_setKeep_r37 {h : zH} {x1 : Int} {x2 : Int} {f3 : Nat} {p : Nat} {v : Nat} (KC : KC h) (hf3 : FS h f3) (rp : hR h 0 13 = some p) (hp : PS h p) (rv : hR h 0 14 = some v) (hv : VS h v) : zBack zY 195 34 37 [some (zR (some 0)), some (zI x1), some (zI x2), some (zR (some f3))] [] (some (.inl (none), h)) =
    zBack zY 195 49 52 [some (zR (some 0)), some (zI x1), some (zI x2), some (zR (some f3))] [] (zC 1 [zR (some 132), zR (some p), zR (some v)] h) := by
  refine (show zBack zY 195 34 37 [some (zR (some 0)), some (zI x1), some (zI x2), some (zR (some f3))] [] (some (.inl (none), h)) = gd (zob h (some 0) 11) (zY 195 41 [some (zR (some 0)), some (zI x1), some (zI x2), some (zR (some f3))] [zR (hR h 0 11)] h) from zGo 2 195 37 _ _ _).trans ?_
  refine (gd_t (⟨rfl, (PTC KC 0 _ rfl rfl), (PNC KC 0 rfl)⟩) _).trans ?_
  refine (congrArg (fun rz => zY 195 41 [some (zR (some 0)), some (zI x1), some (zI x2), some (zR (some f3))] (zR rz :: []) h) (PRC KC 0 11 _ rfl)).trans ?_
  refine (show zY 195 41 [some (zR (some 0)), some (zI x1), some (zI x2), some (zR (some f3))] [zR (some 132)] h = gd (zob h (some 0) 11) (zY 195 45 [some (zR (some 0)), some (zI x1), some (zI x2), some (zR (some f3))] [zR (hR h 0 13), zR (some 132)] h) from zGo 2 195 41 _ _ _).trans ?_
  refine (gd_t (⟨rfl, (PTC KC 0 _ rfl rfl), (PNC KC 0 rfl)⟩) _).trans ?_
  refine (congrArg (fun rz => zY 195 45 [some (zR (some 0)), some (zI x1), some (zI x2), some (zR (some f3))] (zR rz :: zR (some 132) :: []) h) rp).trans ?_
  refine (show zY 195 45 [some (zR (some 0)), some (zI x1), some (zI x2), some (zR (some f3))] [zR (some p), zR (some 132)] h = gd (zob h (some 0) 11) (zY 195 49 [some (zR (some 0)), some (zI x1), some (zI x2), some (zR (some f3))] [zR (hR h 0 14), zR (some p), zR (some 132)] h) from zGo 2 195 45 _ _ _).trans ?_
  refine (gd_t (⟨rfl, (PTC KC 0 _ rfl rfl), (PNC KC 0 rfl)⟩) _).trans ?_
  refine (congrArg (fun rz => zY 195 49 [some (zR (some 0)), some (zI x1), some (zI x2), some (zR (some f3))] (zR rz :: zR (some p) :: zR (some 132) :: []) h) rv).trans ?_
  refine (show zY 195 49 [some (zR (some 0)), some (zI x1), some (zI x2), some (zR (some f3))] [zR (some v), zR (some p), zR (some 132)] h = gd (false = zctor 1 ∧ zcs [] ≤ 8 ∧ zrm 195 (zrf 1 + 1) (8 + (zmaxl 1 + 11) + zrl 1) = true ∧ zcs [zR (some 132), zR (some p), zR (some v)] ≤ zmaxl 1) (gd (zob h (some 132) 1) (zBack zY 195 49 52 [some (zR (some 0)), some (zI x1), some (zI x2), some (zR (some f3))] [] (zC 1 [zR (some 132), zR (some p), zR (some v)] h))) from zGo 1 195 49 _ _ _).trans ?_
  refine (gd_t (⟨rfl, Nat.le_of_ble_eq_true rfl, rfl, Nat.le_of_ble_eq_true rfl⟩) _).trans ?_
  refine (gd_t (⟨rfl, (PTC KC 132 _ rfl rfl), (PNC KC 132 rfl)⟩) _).trans ?_
  rfl
theorem q_B_setKeep_r52 {h : zH} {x1 : Int} {x2 : Int} {f3 : Nat} (KC : KC h) (hf3 : FS h f3) : zBack zY 195 49 52 [some (zR (some 0)), some (zI x1), some (zI x2), some (zR (some f3))] [] (some (.inl (none), h)) =
    some (.inl (some (zI (f_Lo_bitCount (f_S_keepOf h x1)))), h) := by
  refine (show zBack zY 195 49 52 [some (zR (some 0)), some (zI x1), some (zI x2), some (zR (some f3))] [] (some (.inl (none), h)) = gd (zob h (some 0) 11) (zY 195 56 [some (zR (some 0)), some (zI x1), some (zI x2), some (zR (some f3))] [zR (hR h 0 9)] h) from zGo 2 195 52 _ _ _).trans ?_
  refine (gd_t (⟨rfl, (PTC KC 0 _ rfl rfl), (PNC KC 0 rfl)⟩) _).trans ?_
  refine (congrArg (fun rz => zY 195 56 [some (zR (some 0)), some (zI x1), some (zI x2), some (zR (some f3))] (zR rz :: []) h) (PRC KC 0 9 _ rfl)).trans ?_
  refine (show zY 195 56 [some (zR (some 0)), some (zI x1), some (zI x2), some (zR (some f3))] [zR (some 90)] h = gd (false = zctor 107 ∧ zcs [] ≤ 8 ∧ zrm 195 (zrf 107 + 1) (8 + (zmaxl 107 + 11) + zrl 107) = true ∧ zcs [zR (some 90), zI x1] ≤ zmaxl 107) (gd (zob h (some 90) 8) (zBack zY 195 57 60 [some (zR (some 0)), some (zI x1), some (zI x2), some (zR (some f3))] [] (zC 107 [zR (some 90), zI x1] h))) from zGo 2 195 56 _ _ _).trans ?_
  refine (gd_t (⟨rfl, Nat.le_of_ble_eq_true rfl, rfl, Nat.le_of_ble_eq_true rfl⟩) _).trans ?_
  refine (gd_t (⟨rfl, (PTC KC 90 _ rfl rfl), (PNC KC 90 rfl)⟩) _).trans ?_
  refine (congrArg (zBack zY 195 57 60 [some (zR (some 0)), some (zI x1), some (zI x2), some (zR (some f3))] []) (e_S_keepOf KC)).trans ?_
  refine (show zY 195 60 [some (zR (some 0)), some (zI x1), some (zI x2), some (zR (some f3))] [zJ (f_S_keepOf h x1)] h = gd (false = zctor 226 ∧ zcs [] ≤ 8 ∧ zrm 195 (zrf 226 + 1) (8 + (zmaxl 226 + 11) + zrl 226) = true ∧ zcs [zJ (f_S_keepOf h x1)] ≤ zmaxl 226) (zBack zY 195 60 63 [some (zR (some 0)), some (zI x1), some (zI x2), some (zR (some f3))] [] (zC 226 [zJ (f_S_keepOf h x1)] h)) from zGo 1 195 60 _ _ _).trans ?_
  refine (gd_t (⟨rfl, Nat.le_of_ble_eq_true rfl, rfl, Nat.le_of_ble_eq_true rfl⟩) _).trans ?_
  refine (congrArg (zBack zY 195 60 63 [some (zR (some 0)), some (zI x1), some (zI x2), some (zR (some f3))] []) (e_Lo_bitCount)).trans ?_
  refine (show zY 195 63 [some (zR (some 0)), some (zI x1), some (zI x2), some (zR (some f3))] [zI (f_Lo_bitCount (f_S_keepOf h x1))] h = gd (([] : List zV).isEmpty = true ∧ (zrk 195 = 1 ∨ zrk 195 = 6 ∧ (((f_Lo_bitCount (f_S_keepOf h x1)) : Int) = 0 ∨ ((f_Lo_bitCount (f_S_keepOf h x1)) : Int) = 1))) (some (.inl (some (zI (f_Lo_bitCount (f_S_keepOf h x1)))), h)) from zGo 1 195 63 _ _ _).trans ?_
  refine (gd_t (⟨rfl, Or.inl rfl⟩) _).trans ?_
  rfl
theorem q_B_setLess {h : zH} {x1 : Int} {x2 : Int} (KC : KC h) : zC 196 [zR (some 0), zI x1, zI x2] h =
    zBack zY 196 2 5 [some (zR (some 0)), some (zI x1), some (zI x2), none] [] (zC 168 [zR (some 0), zI x1] h) := by
  refine (show zC 196 [zR (some 0), zI x1, zI x2] h = gd (false = zctor 168 ∧ zcs [] ≤ 8 ∧ zrm 196 (zrf 168 + 1) (8 + (zmaxl 168 + 11) + zrl 168) = true ∧ zcs [zR (some 0), zI x1] ≤ zmaxl 168) (gd (zob h (some 0) 11) (zBack zY 196 2 5 [some (zR (some 0)), some (zI x1), some (zI x2), none] [] (zC 168 [zR (some 0), zI x1] h))) from zGo 3 196 0 _ _ _).trans ?_
  refine (gd_t (⟨rfl, Nat.le_of_ble_eq_true rfl, rfl, Nat.le_of_ble_eq_true rfl⟩) _).trans ?_
  refine (gd_t (⟨rfl, (PTC KC 0 _ rfl rfl), (PNC KC 0 rfl)⟩) _).trans ?_
  rfl
theorem q_B_setLess_r5 {h : zH} {x1 : Int} {x2 : Int} (KC : KC h) : zBack zY 196 2 5 [some (zR (some 0)), some (zI x1), some (zI x2), none] [] (some (.inl (none), h)) =
    zBack zY 196 7 10 [some (zR (some 0)), some (zI x1), some (zI x2), none] [] (zC 161 [zR (some 0), zI x2] h) := by
  refine (show zBack zY 196 2 5 [some (zR (some 0)), some (zI x1), some (zI x2), none] [] (some (.inl (none), h)) = gd (false = zctor 161 ∧ zcs [] ≤ 8 ∧ zrm 196 (zrf 161 + 1) (8 + (zmaxl 161 + 11) + zrl 161) = true ∧ zcs [zR (some 0), zI x2] ≤ zmaxl 161) (gd (zob h (some 0) 11) (zBack zY 196 7 10 [some (zR (some 0)), some (zI x1), some (zI x2), none] [] (zC 161 [zR (some 0), zI x2] h))) from zGo 3 196 5 _ _ _).trans ?_
  refine (gd_t (⟨rfl, Nat.le_of_ble_eq_true rfl, rfl, Nat.le_of_ble_eq_true rfl⟩) _).trans ?_
  refine (gd_t (⟨rfl, (PTC KC 0 _ rfl rfl), (PNC KC 0 rfl)⟩) _).trans ?_
  rfl
theorem q_B_setLess_r10 {h : zH} {x1 : Int} {x2 : Int} (KC : KC h) : zBack zY 196 7 10 [some (zR (some 0)), some (zI x1), some (zI x2), none] [] (some (.inl (none), h)) =
    zBack zY 196 13 16 [some (zR (some 0)), some (zI x1), some (zI x2), none] [] (zC 193 [zR (some 0), zI x2, zI 0] h) := by
  refine (show zBack zY 196 7 10 [some (zR (some 0)), some (zI x1), some (zI x2), none] [] (some (.inl (none), h)) = gd (inR (0)) (gd (false = zctor 193 ∧ zcs [] ≤ 8 ∧ zrm 196 (zrf 193 + 1) (8 + (zmaxl 193 + 11) + zrl 193) = true ∧ zcs [zR (some 0), zI x2, zI 0] ≤ zmaxl 193) (gd (zob h (some 0) 11) (zBack zY 196 13 16 [some (zR (some 0)), some (zI x1), some (zI x2), none] [] (zC 193 [zR (some 0), zI x2, zI 0] h)))) from zGo 4 196 10 _ _ _).trans ?_
  refine (gd_t (by decide) _).trans ?_
  refine (gd_t (⟨rfl, Nat.le_of_ble_eq_true rfl, rfl, Nat.le_of_ble_eq_true rfl⟩) _).trans ?_
  refine (gd_t (⟨rfl, (PTC KC 0 _ rfl rfl), (PNC KC 0 rfl)⟩) _).trans ?_
  rfl
theorem q_B_setLess_r16 {h : zH} {x1 : Int} {x2 : Int} {r : Nat} {v : Nat} (KC : KC h) (hr : FS h r) (rv : hR h 0 14 = some v) (hv : VS h v) : zBack zY 196 13 16 [some (zR (some 0)), some (zI x1), some (zI x2), none] [] (some (.inl (some (zR (some r))), h)) =
    zBack zY 196 25 28 [some (zR (some 0)), some (zI x1), some (zI x2), some (zR (some r))] [] (zC 17 [zR (some 10), zR (some v)] h) := by
  refine (show zBack zY 196 13 16 [some (zR (some 0)), some (zI x1), some (zI x2), none] [] (some (.inl (some (zR (some r))), h)) = gd (zob h (some 0) 11) (zY 196 21 [some (zR (some 0)), some (zI x1), some (zI x2), some (zR (some r))] [zR (hR h 0 8)] h) from zGo 3 196 16 _ _ _).trans ?_
  refine (gd_t (⟨rfl, (PTC KC 0 _ rfl rfl), (PNC KC 0 rfl)⟩) _).trans ?_
  refine (congrArg (fun rz => zY 196 21 [some (zR (some 0)), some (zI x1), some (zI x2), some (zR (some r))] (zR rz :: []) h) (PRC KC 0 8 _ rfl)).trans ?_
  refine (show zY 196 21 [some (zR (some 0)), some (zI x1), some (zI x2), some (zR (some r))] [zR (some 10)] h = gd (zob h (some 0) 11) (zY 196 25 [some (zR (some 0)), some (zI x1), some (zI x2), some (zR (some r))] [zR (hR h 0 14), zR (some 10)] h) from zGo 2 196 21 _ _ _).trans ?_
  refine (gd_t (⟨rfl, (PTC KC 0 _ rfl rfl), (PNC KC 0 rfl)⟩) _).trans ?_
  refine (congrArg (fun rz => zY 196 25 [some (zR (some 0)), some (zI x1), some (zI x2), some (zR (some r))] (zR rz :: zR (some 10) :: []) h) rv).trans ?_
  refine (show zY 196 25 [some (zR (some 0)), some (zI x1), some (zI x2), some (zR (some r))] [zR (some v), zR (some 10)] h = gd (false = zctor 17 ∧ zcs [] ≤ 8 ∧ zrm 196 (zrf 17 + 1) (8 + (zmaxl 17 + 11) + zrl 17) = true ∧ zcs [zR (some 10), zR (some v)] ≤ zmaxl 17) (gd (zob h (some 10) 3) (zBack zY 196 25 28 [some (zR (some 0)), some (zI x1), some (zI x2), some (zR (some r))] [] (zC 17 [zR (some 10), zR (some v)] h))) from zGo 1 196 25 _ _ _).trans ?_
  refine (gd_t (⟨rfl, Nat.le_of_ble_eq_true rfl, rfl, Nat.le_of_ble_eq_true rfl⟩) _).trans ?_
  refine (gd_t (⟨rfl, (PTC KC 10 _ rfl rfl), (PNC KC 10 rfl)⟩) _).trans ?_
  rfl
theorem q_B_setLess_r28 {h : zH} {x1 : Int} {x2 : Int} {f3 : Nat} {v : Nat} (KC : KC h) (hf3 : FS h f3) (rv : hR h 0 14 = some v) (hv : VS h v) : zBack zY 196 25 28 [some (zR (some 0)), some (zI x1), some (zI x2), some (zR (some f3))] [] (some (.inl (none), h)) =
    zBack zY 196 34 37 [some (zR (some 0)), some (zI x1), some (zI x2), some (zR (some f3))] [] (zC 127 [zR (some v), zI x1, zR (some f3)] h) := by
  refine (show zBack zY 196 25 28 [some (zR (some 0)), some (zI x1), some (zI x2), some (zR (some f3))] [] (some (.inl (none), h)) = gd (zob h (some 0) 11) (zY 196 32 [some (zR (some 0)), some (zI x1), some (zI x2), some (zR (some f3))] [zR (hR h 0 14)] h) from zGo 2 196 28 _ _ _).trans ?_
  refine (gd_t (⟨rfl, (PTC KC 0 _ rfl rfl), (PNC KC 0 rfl)⟩) _).trans ?_
  refine (congrArg (fun rz => zY 196 32 [some (zR (some 0)), some (zI x1), some (zI x2), some (zR (some f3))] (zR rz :: []) h) rv).trans ?_
  refine (show zY 196 32 [some (zR (some 0)), some (zI x1), some (zI x2), some (zR (some f3))] [zR (some v)] h = gd (false = zctor 127 ∧ zcs [] ≤ 8 ∧ zrm 196 (zrf 127 + 1) (8 + (zmaxl 127 + 11) + zrl 127) = true ∧ zcs [zR (some v), zI x1, zR (some f3)] ≤ zmaxl 127) (gd (zob h (some v) 10) (zBack zY 196 34 37 [some (zR (some 0)), some (zI x1), some (zI x2), some (zR (some f3))] [] (zC 127 [zR (some v), zI x1, zR (some f3)] h))) from zGo 3 196 32 _ _ _).trans ?_
  refine (gd_t (⟨rfl, Nat.le_of_ble_eq_true rfl, rfl, Nat.le_of_ble_eq_true rfl⟩) _).trans ?_
  refine (gd_t (⟨rfl, hv.1, (VS_n hv)⟩) _).trans ?_
  rfl
theorem q_B_setLess_r37 {h : zH} {x1 : Int} {x2 : Int} {f3 : Nat} {p : Nat} {v : Nat} (KC : KC h) (hf3 : FS h f3) (rp : hR h 0 13 = some p) (hp : PS h p) (rv : hR h 0 14 = some v) (hv : VS h v) : zBack zY 196 34 37 [some (zR (some 0)), some (zI x1), some (zI x2), some (zR (some f3))] [] (some (.inl (none), h)) =
    zBack zY 196 49 52 [some (zR (some 0)), some (zI x1), some (zI x2), some (zR (some f3))] [] (zC 1 [zR (some 132), zR (some p), zR (some v)] h) := by
  refine (show zBack zY 196 34 37 [some (zR (some 0)), some (zI x1), some (zI x2), some (zR (some f3))] [] (some (.inl (none), h)) = gd (zob h (some 0) 11) (zY 196 41 [some (zR (some 0)), some (zI x1), some (zI x2), some (zR (some f3))] [zR (hR h 0 11)] h) from zGo 2 196 37 _ _ _).trans ?_
  refine (gd_t (⟨rfl, (PTC KC 0 _ rfl rfl), (PNC KC 0 rfl)⟩) _).trans ?_
  refine (congrArg (fun rz => zY 196 41 [some (zR (some 0)), some (zI x1), some (zI x2), some (zR (some f3))] (zR rz :: []) h) (PRC KC 0 11 _ rfl)).trans ?_
  refine (show zY 196 41 [some (zR (some 0)), some (zI x1), some (zI x2), some (zR (some f3))] [zR (some 132)] h = gd (zob h (some 0) 11) (zY 196 45 [some (zR (some 0)), some (zI x1), some (zI x2), some (zR (some f3))] [zR (hR h 0 13), zR (some 132)] h) from zGo 2 196 41 _ _ _).trans ?_
  refine (gd_t (⟨rfl, (PTC KC 0 _ rfl rfl), (PNC KC 0 rfl)⟩) _).trans ?_
  refine (congrArg (fun rz => zY 196 45 [some (zR (some 0)), some (zI x1), some (zI x2), some (zR (some f3))] (zR rz :: zR (some 132) :: []) h) rp).trans ?_
  refine (show zY 196 45 [some (zR (some 0)), some (zI x1), some (zI x2), some (zR (some f3))] [zR (some p), zR (some 132)] h = gd (zob h (some 0) 11) (zY 196 49 [some (zR (some 0)), some (zI x1), some (zI x2), some (zR (some f3))] [zR (hR h 0 14), zR (some p), zR (some 132)] h) from zGo 2 196 45 _ _ _).trans ?_
  refine (gd_t (⟨rfl, (PTC KC 0 _ rfl rfl), (PNC KC 0 rfl)⟩) _).trans ?_
  refine (congrArg (fun rz => zY 196 49 [some (zR (some 0)), some (zI x1), some (zI x2), some (zR (some f3))] (zR rz :: zR (some p) :: zR (some 132) :: []) h) rv).trans ?_
  refine (show zY 196 49 [some (zR (some 0)), some (zI x1), some (zI x2), some (zR (some f3))] [zR (some v), zR (some p), zR (some 132)] h = gd (false = zctor 1 ∧ zcs [] ≤ 8 ∧ zrm 196 (zrf 1 + 1) (8 + (zmaxl 1 + 11) + zrl 1) = true ∧ zcs [zR (some 132), zR (some p), zR (some v)] ≤ zmaxl 1) (gd (zob h (some 132) 1) (zBack zY 196 49 52 [some (zR (some 0)), some (zI x1), some (zI x2), some (zR (some f3))] [] (zC 1 [zR (some 132), zR (some p), zR (some v)] h))) from zGo 1 196 49 _ _ _).trans ?_
  refine (gd_t (⟨rfl, Nat.le_of_ble_eq_true rfl, rfl, Nat.le_of_ble_eq_true rfl⟩) _).trans ?_
  refine (gd_t (⟨rfl, (PTC KC 132 _ rfl rfl), (PNC KC 132 rfl)⟩) _).trans ?_
  rfl
theorem q_B_setLess_r52 {h : zH} {x1 : Int} {x2 : Int} {f3 : Nat} (KC : KC h) (hf3 : FS h f3) : zBack zY 196 49 52 [some (zR (some 0)), some (zI x1), some (zI x2), some (zR (some f3))] [] (some (.inl (none), h)) =
    zBack zY 196 57 60 [some (zR (some 0)), some (zI x1), some (zI x2), some (zR (some f3))] [] (zC 112 [zR (some 90), zI x1] h) := by
  refine (show zBack zY 196 49 52 [some (zR (some 0)), some (zI x1), some (zI x2), some (zR (some f3))] [] (some (.inl (none), h)) = gd (zob h (some 0) 11) (zY 196 56 [some (zR (some 0)), some (zI x1), some (zI x2), some (zR (some f3))] [zR (hR h 0 9)] h) from zGo 2 196 52 _ _ _).trans ?_
  refine (gd_t (⟨rfl, (PTC KC 0 _ rfl rfl), (PNC KC 0 rfl)⟩) _).trans ?_
  refine (congrArg (fun rz => zY 196 56 [some (zR (some 0)), some (zI x1), some (zI x2), some (zR (some f3))] (zR rz :: []) h) (PRC KC 0 9 _ rfl)).trans ?_
  refine (show zY 196 56 [some (zR (some 0)), some (zI x1), some (zI x2), some (zR (some f3))] [zR (some 90)] h = gd (false = zctor 112 ∧ zcs [] ≤ 8 ∧ zrm 196 (zrf 112 + 1) (8 + (zmaxl 112 + 11) + zrl 112) = true ∧ zcs [zR (some 90), zI x1] ≤ zmaxl 112) (gd (zob h (some 90) 8) (zBack zY 196 57 60 [some (zR (some 0)), some (zI x1), some (zI x2), some (zR (some f3))] [] (zC 112 [zR (some 90), zI x1] h))) from zGo 2 196 56 _ _ _).trans ?_
  refine (gd_t (⟨rfl, Nat.le_of_ble_eq_true rfl, rfl, Nat.le_of_ble_eq_true rfl⟩) _).trans ?_
  refine (gd_t (⟨rfl, (PTC KC 90 _ rfl rfl), (PNC KC 90 rfl)⟩) _).trans ?_
  rfl
theorem q_B_setLess_r60 {h : zH} {x1 : Int} {x2 : Int} {f3 : Nat} {y : Int} (KC : KC h) (hf3 : FS h f3) : zBack zY 196 57 60 [some (zR (some 0)), some (zI x1), some (zI x2), some (zR (some f3))] [] (some (.inl (some (zI y)), h)) =
    some (.inl (some (zI y)), h) := by
  refine (show zBack zY 196 57 60 [some (zR (some 0)), some (zI x1), some (zI x2), some (zR (some f3))] [] (some (.inl (some (zI y)), h)) = gd (([] : List zV).isEmpty = true ∧ (zrk 196 = 1 ∨ zrk 196 = 6 ∧ ((y : Int) = 0 ∨ (y : Int) = 1))) (some (.inl (some (zI y)), h)) from zGo 1 196 60 _ _ _).trans ?_
  refine (gd_t (⟨rfl, Or.inl rfl⟩) _).trans ?_
  rfl
theorem q_B_fill {h : zH} {x1 : Int} {x2 : Int} (KC : KC h) : zC 197 [zR (some 0), zI x1, zI x2] h =
    zBack zY 197 2 5 [some (zR (some 0)), some (zI x1), some (zI x2)] [] (zC 182 [zR (some 0), zI x1] h) := by
  refine (show zC 197 [zR (some 0), zI x1, zI x2] h = gd (false = zctor 182 ∧ zcs [] ≤ 8 ∧ zrm 197 (zrf 182 + 1) (8 + (zmaxl 182 + 11) + zrl 182) = true ∧ zcs [zR (some 0), zI x1] ≤ zmaxl 182) (gd (zob h (some 0) 11) (zBack zY 197 2 5 [some (zR (some 0)), some (zI x1), some (zI x2)] [] (zC 182 [zR (some 0), zI x1] h))) from zGo 3 197 0 _ _ _).trans ?_
  refine (gd_t (⟨rfl, Nat.le_of_ble_eq_true rfl, rfl, Nat.le_of_ble_eq_true rfl⟩) _).trans ?_
  refine (gd_t (⟨rfl, (PTC KC 0 _ rfl rfl), (PNC KC 0 rfl)⟩) _).trans ?_
  rfl
theorem q_B_fill_r5 {h : zH} {x1 : Int} {x2 : Int} {v : Nat} (KC : KC h) (rv : hR h 0 14 = some v) (hv : VS h v) : zBack zY 197 2 5 [some (zR (some 0)), some (zI x1), some (zI x2)] [] (some (.inl (none), h)) =
    if x2 < (-1) then
      some (.inr 0, (hNew h 0 6))
    else
      if x2 < 39 then
        zBack zY 197 32 35 [some (zR (some 0)), some (zI x1), some (zI x2)] [] (zC 17 [zR (some 10), zR (some v)] h)
      else
        some (.inr 0, (hNew h 0 6)) := by
  refine (show zBack zY 197 2 5 [some (zR (some 0)), some (zI x1), some (zI x2)] [] (some (.inl (none), h)) = gd (inR (-1)) (if x2 < (-1) then zY 197 16 [some (zR (some 0)), some (zI x1), some (zI x2)] [] h else zY 197 10 [some (zR (some 0)), some (zI x1), some (zI x2)] [] h) from zGo 3 197 5 _ _ _).trans ?_
  refine (gd_t (by decide) _).trans ?_
  refine iteC (fun c0 => ?_) (fun c0 => ?_)
  · skip
    refine (show zY 197 16 [some (zR (some 0)), some (zI x1), some (zI x2)] [] h = some (.inr 0, (hNew h 0 6)) from zGo 1 197 16 _ _ _).trans ?_
    rfl
  · skip
    refine (show zY 197 10 [some (zR (some 0)), some (zI x1), some (zI x2)] [] h = gd (-128 ≤ (39 : Int) ∧ (39 : Int) < 128) (if x2 < 39 then zY 197 24 [some (zR (some 0)), some (zI x1), some (zI x2)] [] h else zY 197 16 [some (zR (some 0)), some (zI x1), some (zI x2)] [] h) from zGo 3 197 10 _ _ _).trans ?_
    refine (gd_t (by decide) _).trans ?_
    refine iteC (fun c1 => ?_) (fun c1 => ?_)
    · skip
      refine (show zY 197 24 [some (zR (some 0)), some (zI x1), some (zI x2)] [] h = gd (zob h (some 0) 11) (zY 197 28 [some (zR (some 0)), some (zI x1), some (zI x2)] [zR (hR h 0 8)] h) from zGo 2 197 24 _ _ _).trans ?_
      refine (gd_t (⟨rfl, (PTC KC 0 _ rfl rfl), (PNC KC 0 rfl)⟩) _).trans ?_
      refine (congrArg (fun rz => zY 197 28 [some (zR (some 0)), some (zI x1), some (zI x2)] (zR rz :: []) h) (PRC KC 0 8 _ rfl)).trans ?_
      refine (show zY 197 28 [some (zR (some 0)), some (zI x1), some (zI x2)] [zR (some 10)] h = gd (zob h (some 0) 11) (zY 197 32 [some (zR (some 0)), some (zI x1), some (zI x2)] [zR (hR h 0 14), zR (some 10)] h) from zGo 2 197 28 _ _ _).trans ?_
      refine (gd_t (⟨rfl, (PTC KC 0 _ rfl rfl), (PNC KC 0 rfl)⟩) _).trans ?_
      refine (congrArg (fun rz => zY 197 32 [some (zR (some 0)), some (zI x1), some (zI x2)] (zR rz :: zR (some 10) :: []) h) rv).trans ?_
      refine (show zY 197 32 [some (zR (some 0)), some (zI x1), some (zI x2)] [zR (some v), zR (some 10)] h = gd (false = zctor 17 ∧ zcs [] ≤ 8 ∧ zrm 197 (zrf 17 + 1) (8 + (zmaxl 17 + 11) + zrl 17) = true ∧ zcs [zR (some 10), zR (some v)] ≤ zmaxl 17) (gd (zob h (some 10) 3) (zBack zY 197 32 35 [some (zR (some 0)), some (zI x1), some (zI x2)] [] (zC 17 [zR (some 10), zR (some v)] h))) from zGo 1 197 32 _ _ _).trans ?_
      refine (gd_t (⟨rfl, Nat.le_of_ble_eq_true rfl, rfl, Nat.le_of_ble_eq_true rfl⟩) _).trans ?_
      refine (gd_t (⟨rfl, (PTC KC 10 _ rfl rfl), (PNC KC 10 rfl)⟩) _).trans ?_
      rfl
    · skip
      refine (show zY 197 16 [some (zR (some 0)), some (zI x1), some (zI x2)] [] h = some (.inr 0, (hNew h 0 6)) from zGo 1 197 16 _ _ _).trans ?_
      rfl
theorem q_B_fill_r35 {h : zH} {x1 : Int} {x2 : Int} {v : Nat} (KC : KC h) (rv : hR h 0 14 = some v) (hv : VS h v) : zBack zY 197 32 35 [some (zR (some 0)), some (zI x1), some (zI x2)] [] (some (.inl (none), h)) =
    zBack zY 197 41 44 [some (zR (some 0)), some (zI x1), some (zI x2)] [] (zC 133 [zR (some v), zI x1, zI x2] h) := by
  refine (show zBack zY 197 32 35 [some (zR (some 0)), some (zI x1), some (zI x2)] [] (some (.inl (none), h)) = gd (zob h (some 0) 11) (zY 197 39 [some (zR (some 0)), some (zI x1), some (zI x2)] [zR (hR h 0 14)] h) from zGo 2 197 35 _ _ _).trans ?_
  refine (gd_t (⟨rfl, (PTC KC 0 _ rfl rfl), (PNC KC 0 rfl)⟩) _).trans ?_
  refine (congrArg (fun rz => zY 197 39 [some (zR (some 0)), some (zI x1), some (zI x2)] (zR rz :: []) h) rv).trans ?_
  refine (show zY 197 39 [some (zR (some 0)), some (zI x1), some (zI x2)] [zR (some v)] h = gd (false = zctor 133 ∧ zcs [] ≤ 8 ∧ zrm 197 (zrf 133 + 1) (8 + (zmaxl 133 + 11) + zrl 133) = true ∧ zcs [zR (some v), zI x1, zI x2] ≤ zmaxl 133) (gd (zob h (some v) 10) (zBack zY 197 41 44 [some (zR (some 0)), some (zI x1), some (zI x2)] [] (zC 133 [zR (some v), zI x1, zI x2] h))) from zGo 3 197 39 _ _ _).trans ?_
  refine (gd_t (⟨rfl, Nat.le_of_ble_eq_true rfl, rfl, Nat.le_of_ble_eq_true rfl⟩) _).trans ?_
  refine (gd_t (⟨rfl, hv.1, (VS_n hv)⟩) _).trans ?_
  rfl
theorem q_B_fill_r44 {h : zH} {x1 : Int} {x2 : Int} {p : Nat} {v : Nat} (KC : KC h) (rp : hR h 0 13 = some p) (hp : PS h p) (rv : hR h 0 14 = some v) (hv : VS h v) : zBack zY 197 41 44 [some (zR (some 0)), some (zI x1), some (zI x2)] [] (some (.inl (none), h)) =
    zBack zY 197 56 59 [some (zR (some 0)), some (zI x1), some (zI x2)] [] (zC 1 [zR (some 132), zR (some p), zR (some v)] h) := by
  refine (show zBack zY 197 41 44 [some (zR (some 0)), some (zI x1), some (zI x2)] [] (some (.inl (none), h)) = gd (zob h (some 0) 11) (zY 197 48 [some (zR (some 0)), some (zI x1), some (zI x2)] [zR (hR h 0 11)] h) from zGo 2 197 44 _ _ _).trans ?_
  refine (gd_t (⟨rfl, (PTC KC 0 _ rfl rfl), (PNC KC 0 rfl)⟩) _).trans ?_
  refine (congrArg (fun rz => zY 197 48 [some (zR (some 0)), some (zI x1), some (zI x2)] (zR rz :: []) h) (PRC KC 0 11 _ rfl)).trans ?_
  refine (show zY 197 48 [some (zR (some 0)), some (zI x1), some (zI x2)] [zR (some 132)] h = gd (zob h (some 0) 11) (zY 197 52 [some (zR (some 0)), some (zI x1), some (zI x2)] [zR (hR h 0 13), zR (some 132)] h) from zGo 2 197 48 _ _ _).trans ?_
  refine (gd_t (⟨rfl, (PTC KC 0 _ rfl rfl), (PNC KC 0 rfl)⟩) _).trans ?_
  refine (congrArg (fun rz => zY 197 52 [some (zR (some 0)), some (zI x1), some (zI x2)] (zR rz :: zR (some 132) :: []) h) rp).trans ?_
  refine (show zY 197 52 [some (zR (some 0)), some (zI x1), some (zI x2)] [zR (some p), zR (some 132)] h = gd (zob h (some 0) 11) (zY 197 56 [some (zR (some 0)), some (zI x1), some (zI x2)] [zR (hR h 0 14), zR (some p), zR (some 132)] h) from zGo 2 197 52 _ _ _).trans ?_
  refine (gd_t (⟨rfl, (PTC KC 0 _ rfl rfl), (PNC KC 0 rfl)⟩) _).trans ?_
  refine (congrArg (fun rz => zY 197 56 [some (zR (some 0)), some (zI x1), some (zI x2)] (zR rz :: zR (some p) :: zR (some 132) :: []) h) rv).trans ?_
  refine (show zY 197 56 [some (zR (some 0)), some (zI x1), some (zI x2)] [zR (some v), zR (some p), zR (some 132)] h = gd (false = zctor 1 ∧ zcs [] ≤ 8 ∧ zrm 197 (zrf 1 + 1) (8 + (zmaxl 1 + 11) + zrl 1) = true ∧ zcs [zR (some 132), zR (some p), zR (some v)] ≤ zmaxl 1) (gd (zob h (some 132) 1) (zBack zY 197 56 59 [some (zR (some 0)), some (zI x1), some (zI x2)] [] (zC 1 [zR (some 132), zR (some p), zR (some v)] h))) from zGo 1 197 56 _ _ _).trans ?_
  refine (gd_t (⟨rfl, Nat.le_of_ble_eq_true rfl, rfl, Nat.le_of_ble_eq_true rfl⟩) _).trans ?_
  refine (gd_t (⟨rfl, (PTC KC 132 _ rfl rfl), (PNC KC 132 rfl)⟩) _).trans ?_
  rfl
theorem q_B_fill_r59 {h : zH} {x1 : Int} {x2 : Int} (KC : KC h) : zBack zY 197 56 59 [some (zR (some 0)), some (zI x1), some (zI x2)] [] (some (.inl (none), h)) =
    zBack zY 197 63 66 [some (zR (some 0)), some (zI x1), some (zI x2)] [] (zC 11 [zR (some 132)] h) := by
  refine (show zBack zY 197 56 59 [some (zR (some 0)), some (zI x1), some (zI x2)] [] (some (.inl (none), h)) = gd (zob h (some 0) 11) (zY 197 63 [some (zR (some 0)), some (zI x1), some (zI x2)] [zR (hR h 0 11)] h) from zGo 2 197 59 _ _ _).trans ?_
  refine (gd_t (⟨rfl, (PTC KC 0 _ rfl rfl), (PNC KC 0 rfl)⟩) _).trans ?_
  refine (congrArg (fun rz => zY 197 63 [some (zR (some 0)), some (zI x1), some (zI x2)] (zR rz :: []) h) (PRC KC 0 11 _ rfl)).trans ?_
  refine (show zY 197 63 [some (zR (some 0)), some (zI x1), some (zI x2)] [zR (some 132)] h = gd (false = zctor 11 ∧ zcs [] ≤ 8 ∧ zrm 197 (zrf 11 + 1) (8 + (zmaxl 11 + 11) + zrl 11) = true ∧ zcs [zR (some 132)] ≤ zmaxl 11) (gd (zob h (some 132) 1) (zBack zY 197 63 66 [some (zR (some 0)), some (zI x1), some (zI x2)] [] (zC 11 [zR (some 132)] h))) from zGo 1 197 63 _ _ _).trans ?_
  refine (gd_t (⟨rfl, Nat.le_of_ble_eq_true rfl, rfl, Nat.le_of_ble_eq_true rfl⟩) _).trans ?_
  refine (gd_t (⟨rfl, (PTC KC 132 _ rfl rfl), (PNC KC 132 rfl)⟩) _).trans ?_
  rfl
theorem q_B_fill_r66 {h : zH} {x1 : Int} {x2 : Int} {y : Int} (KC : KC h) : zBack zY 197 63 66 [some (zR (some 0)), some (zI x1), some (zI x2)] [] (some (.inl (some (zI y)), h)) =
    some (.inl (some (zI y)), h) := by
  refine (show zBack zY 197 63 66 [some (zR (some 0)), some (zI x1), some (zI x2)] [] (some (.inl (some (zI y)), h)) = gd (([] : List zV).isEmpty = true ∧ (zrk 197 = 1 ∨ zrk 197 = 6 ∧ ((y : Int) = 0 ∨ (y : Int) = 1))) (some (.inl (some (zI y)), h)) from zGo 1 197 66 _ _ _).trans ?_
  refine (gd_t (⟨rfl, Or.inl rfl⟩) _).trans ?_
  rfl
theorem q_B_setPrice {h : zH} {x1 : Int} {x2 : Int} (KC : KC h) : zC 198 [zR (some 0), zI x1, zI x2] h =
    zBack zY 198 2 5 [some (zR (some 0)), some (zI x1), some (zI x2), none] [] (zC 165 [zR (some 0), zI x1] h) := by
  refine (show zC 198 [zR (some 0), zI x1, zI x2] h = gd (false = zctor 165 ∧ zcs [] ≤ 8 ∧ zrm 198 (zrf 165 + 1) (8 + (zmaxl 165 + 11) + zrl 165) = true ∧ zcs [zR (some 0), zI x1] ≤ zmaxl 165) (gd (zob h (some 0) 11) (zBack zY 198 2 5 [some (zR (some 0)), some (zI x1), some (zI x2), none] [] (zC 165 [zR (some 0), zI x1] h))) from zGo 3 198 0 _ _ _).trans ?_
  refine (gd_t (⟨rfl, Nat.le_of_ble_eq_true rfl, rfl, Nat.le_of_ble_eq_true rfl⟩) _).trans ?_
  refine (gd_t (⟨rfl, (PTC KC 0 _ rfl rfl), (PNC KC 0 rfl)⟩) _).trans ?_
  rfl
theorem q_B_setPrice_r5 {h : zH} {x1 : Int} {x2 : Int} {v : Nat} (KC : KC h) (rv : hR h 0 14 = some v) (hv : VS h v) : zBack zY 198 2 5 [some (zR (some 0)), some (zI x1), some (zI x2), none] [] (some (.inl (none), h)) =
    if x2 < 0 then
      some (.inr 0, (hNew h 0 6))
    else
      if 99 < x2 then
        some (.inr 0, (hNew h 0 6))
      else
        zBack zY 198 31 34 [some (zR (some 0)), some (zI x1), some (zI x2), none] [] (zC 17 [zR (some 10), zR (some v)] h) := by
  refine (show zBack zY 198 2 5 [some (zR (some 0)), some (zI x1), some (zI x2), none] [] (some (.inl (none), h)) = if x2 < 0 then zY 198 15 [some (zR (some 0)), some (zI x1), some (zI x2), none] [] h else zY 198 9 [some (zR (some 0)), some (zI x1), some (zI x2), none] [] h from zGo 2 198 5 _ _ _).trans ?_
  refine iteC (fun c0 => ?_) (fun c0 => ?_)
  · skip
    refine (show zY 198 15 [some (zR (some 0)), some (zI x1), some (zI x2), none] [] h = some (.inr 0, (hNew h 0 6)) from zGo 1 198 15 _ _ _).trans ?_
    rfl
  · skip
    refine (show zY 198 9 [some (zR (some 0)), some (zI x1), some (zI x2), none] [] h = gd (-128 ≤ (99 : Int) ∧ (99 : Int) < 128) (if 99 < x2 then zY 198 15 [some (zR (some 0)), some (zI x1), some (zI x2), none] [] h else zY 198 23 [some (zR (some 0)), some (zI x1), some (zI x2), none] [] h) from zGo 3 198 9 _ _ _).trans ?_
    refine (gd_t (by decide) _).trans ?_
    refine iteC (fun c1 => ?_) (fun c1 => ?_)
    · skip
      refine (show zY 198 15 [some (zR (some 0)), some (zI x1), some (zI x2), none] [] h = some (.inr 0, (hNew h 0 6)) from zGo 1 198 15 _ _ _).trans ?_
      rfl
    · skip
      refine (show zY 198 23 [some (zR (some 0)), some (zI x1), some (zI x2), none] [] h = gd (zob h (some 0) 11) (zY 198 27 [some (zR (some 0)), some (zI x1), some (zI x2), none] [zR (hR h 0 8)] h) from zGo 2 198 23 _ _ _).trans ?_
      refine (gd_t (⟨rfl, (PTC KC 0 _ rfl rfl), (PNC KC 0 rfl)⟩) _).trans ?_
      refine (congrArg (fun rz => zY 198 27 [some (zR (some 0)), some (zI x1), some (zI x2), none] (zR rz :: []) h) (PRC KC 0 8 _ rfl)).trans ?_
      refine (show zY 198 27 [some (zR (some 0)), some (zI x1), some (zI x2), none] [zR (some 10)] h = gd (zob h (some 0) 11) (zY 198 31 [some (zR (some 0)), some (zI x1), some (zI x2), none] [zR (hR h 0 14), zR (some 10)] h) from zGo 2 198 27 _ _ _).trans ?_
      refine (gd_t (⟨rfl, (PTC KC 0 _ rfl rfl), (PNC KC 0 rfl)⟩) _).trans ?_
      refine (congrArg (fun rz => zY 198 31 [some (zR (some 0)), some (zI x1), some (zI x2), none] (zR rz :: zR (some 10) :: []) h) rv).trans ?_
      refine (show zY 198 31 [some (zR (some 0)), some (zI x1), some (zI x2), none] [zR (some v), zR (some 10)] h = gd (false = zctor 17 ∧ zcs [] ≤ 8 ∧ zrm 198 (zrf 17 + 1) (8 + (zmaxl 17 + 11) + zrl 17) = true ∧ zcs [zR (some 10), zR (some v)] ≤ zmaxl 17) (gd (zob h (some 10) 3) (zBack zY 198 31 34 [some (zR (some 0)), some (zI x1), some (zI x2), none] [] (zC 17 [zR (some 10), zR (some v)] h))) from zGo 1 198 31 _ _ _).trans ?_
      refine (gd_t (⟨rfl, Nat.le_of_ble_eq_true rfl, rfl, Nat.le_of_ble_eq_true rfl⟩) _).trans ?_
      refine (gd_t (⟨rfl, (PTC KC 10 _ rfl rfl), (PNC KC 10 rfl)⟩) _).trans ?_
      rfl
theorem q_B_setPrice_r34 {h : zH} {x1 : Int} {x2 : Int} {v : Nat} (KC : KC h) (rv : hR h 0 14 = some v) (hv : VS h v) : zBack zY 198 31 34 [some (zR (some 0)), some (zI x1), some (zI x2), none] [] (some (.inl (none), h)) =
    zBack zY 198 49 52 [some (zR (some 0)), some (zI x1), some (zI x2), some (zI (f_V_priceOf h v x1))] [] (zC 135 [zR (some v), zI x1, zI x2] h) := by
  refine (show zBack zY 198 31 34 [some (zR (some 0)), some (zI x1), some (zI x2), none] [] (some (.inl (none), h)) = gd (zob h (some 0) 11) (zY 198 38 [some (zR (some 0)), some (zI x1), some (zI x2), none] [zR (hR h 0 14)] h) from zGo 2 198 34 _ _ _).trans ?_
  refine (gd_t (⟨rfl, (PTC KC 0 _ rfl rfl), (PNC KC 0 rfl)⟩) _).trans ?_
  refine (congrArg (fun rz => zY 198 38 [some (zR (some 0)), some (zI x1), some (zI x2), none] (zR rz :: []) h) rv).trans ?_
  refine (show zY 198 38 [some (zR (some 0)), some (zI x1), some (zI x2), none] [zR (some v)] h = gd (false = zctor 131 ∧ zcs [] ≤ 8 ∧ zrm 198 (zrf 131 + 1) (8 + (zmaxl 131 + 11) + zrl 131) = true ∧ zcs [zR (some v), zI x1] ≤ zmaxl 131) (gd (zob h (some v) 10) (zBack zY 198 39 42 [some (zR (some 0)), some (zI x1), some (zI x2), none] [] (zC 131 [zR (some v), zI x1] h))) from zGo 2 198 38 _ _ _).trans ?_
  refine (gd_t (⟨rfl, Nat.le_of_ble_eq_true rfl, rfl, Nat.le_of_ble_eq_true rfl⟩) _).trans ?_
  refine (gd_t (⟨rfl, hv.1, (VS_n hv)⟩) _).trans ?_
  refine (congrArg (zBack zY 198 39 42 [some (zR (some 0)), some (zI x1), some (zI x2), none] []) (e_V_priceOf hv)).trans ?_
  refine (show zY 198 42 [some (zR (some 0)), some (zI x1), some (zI x2), none] [zI (f_V_priceOf h v x1)] h = gd (zob h (some 0) 11) (zY 198 47 [some (zR (some 0)), some (zI x1), some (zI x2), some (zI (f_V_priceOf h v x1))] [zR (hR h 0 14)] h) from zGo 3 198 42 _ _ _).trans ?_
  refine (gd_t (⟨rfl, (PTC KC 0 _ rfl rfl), (PNC KC 0 rfl)⟩) _).trans ?_
  refine (congrArg (fun rz => zY 198 47 [some (zR (some 0)), some (zI x1), some (zI x2), some (zI (f_V_priceOf h v x1))] (zR rz :: []) h) rv).trans ?_
  refine (show zY 198 47 [some (zR (some 0)), some (zI x1), some (zI x2), some (zI (f_V_priceOf h v x1))] [zR (some v)] h = gd (false = zctor 135 ∧ zcs [] ≤ 8 ∧ zrm 198 (zrf 135 + 1) (8 + (zmaxl 135 + 11) + zrl 135) = true ∧ zcs [zR (some v), zI x1, zI x2] ≤ zmaxl 135) (gd (zob h (some v) 10) (zBack zY 198 49 52 [some (zR (some 0)), some (zI x1), some (zI x2), some (zI (f_V_priceOf h v x1))] [] (zC 135 [zR (some v), zI x1, zI x2] h))) from zGo 3 198 47 _ _ _).trans ?_
  refine (gd_t (⟨rfl, Nat.le_of_ble_eq_true rfl, rfl, Nat.le_of_ble_eq_true rfl⟩) _).trans ?_
  refine (gd_t (⟨rfl, hv.1, (VS_n hv)⟩) _).trans ?_
  rfl
theorem q_B_setPrice_r52 {h : zH} {x1 : Int} {x2 : Int} {x3 : Int} (KC : KC h) : zBack zY 198 49 52 [some (zR (some 0)), some (zI x1), some (zI x2), some (zI x3)] [] (some (.inl (none), h)) =
    some (.inl (some (zI x3)), h) := by
  refine (show zBack zY 198 49 52 [some (zR (some 0)), some (zI x1), some (zI x2), some (zI x3)] [] (some (.inl (none), h)) = gd (([] : List zV).isEmpty = true ∧ (zrk 198 = 1 ∨ zrk 198 = 6 ∧ ((x3 : Int) = 0 ∨ (x3 : Int) = 1))) (some (.inl (some (zI x3)), h)) from zGo 2 198 52 _ _ _).trans ?_
  refine (gd_t (⟨rfl, Or.inl rfl⟩) _).trans ?_
  rfl
theorem q_B_restore {h : zH} {x1 : Int} (KC : KC h) : zC 199 [zR (some 0), zI x1] h =
    zBack zY 199 2 5 [some (zR (some 0)), some (zI x1)] [] (zC 200 [zR (some 0), zI x1] h) := by
  refine (show zC 199 [zR (some 0), zI x1] h = gd (false = zctor 200 ∧ zcs [] ≤ 8 ∧ zrm 199 (zrf 200 + 1) (8 + (zmaxl 200 + 11) + zrl 200) = true ∧ zcs [zR (some 0), zI x1] ≤ zmaxl 200) (gd (zob h (some 0) 11) (zBack zY 199 2 5 [some (zR (some 0)), some (zI x1)] [] (zC 200 [zR (some 0), zI x1] h))) from zGo 3 199 0 _ _ _).trans ?_
  refine (gd_t (⟨rfl, Nat.le_of_ble_eq_true rfl, rfl, Nat.le_of_ble_eq_true rfl⟩) _).trans ?_
  refine (gd_t (⟨rfl, (PTC KC 0 _ rfl rfl), (PNC KC 0 rfl)⟩) _).trans ?_
  rfl
theorem q_B_restore_r5 {h : zH} {x1 : Int} {v : Nat} (KC : KC h) (rv : hR h 0 14 = some v) (hv : VS h v) : zBack zY 199 2 5 [some (zR (some 0)), some (zI x1)] [] (some (.inl (none), h)) =
    if b_H_holds h x1 then
      zBack zY 199 32 35 [some (zR (some 0)), some (zI x1)] [] (zC 17 [zR (some 10), zR (some v)] h)
    else
      some (.inr 1, (hNew h 0 6)) := by
  refine (show zBack zY 199 2 5 [some (zR (some 0)), some (zI x1)] [] (some (.inl (none), h)) = gd (zob h (some 0) 11) (zY 199 9 [some (zR (some 0)), some (zI x1)] [zR (hR h 0 8)] h) from zGo 2 199 5 _ _ _).trans ?_
  refine (gd_t (⟨rfl, (PTC KC 0 _ rfl rfl), (PNC KC 0 rfl)⟩) _).trans ?_
  refine (congrArg (fun rz => zY 199 9 [some (zR (some 0)), some (zI x1)] (zR rz :: []) h) (PRC KC 0 8 _ rfl)).trans ?_
  refine (show zY 199 9 [some (zR (some 0)), some (zI x1)] [zR (some 10)] h = gd (false = zctor 18 ∧ zcs [] ≤ 8 ∧ zrm 199 (zrf 18 + 1) (8 + (zmaxl 18 + 11) + zrl 18) = true ∧ zcs [zR (some 10), zI x1] ≤ zmaxl 18) (gd (zob h (some 10) 3) (zBack zY 199 10 13 [some (zR (some 0)), some (zI x1)] [] (zC 18 [zR (some 10), zI x1] h))) from zGo 2 199 9 _ _ _).trans ?_
  refine (gd_t (⟨rfl, Nat.le_of_ble_eq_true rfl, rfl, Nat.le_of_ble_eq_true rfl⟩) _).trans ?_
  refine (gd_t (⟨rfl, (PTC KC 10 _ rfl rfl), (PNC KC 10 rfl)⟩) _).trans ?_
  refine (congrArg (zBack zY 199 10 13 [some (zR (some 0)), some (zI x1)] []) (e_H_holds KC)).trans ?_
  refine (show zY 199 13 [some (zR (some 0)), some (zI x1)] [zI (if b_H_holds h x1 then (1 : Int) else 0)] h = if (if b_H_holds h x1 then (1 : Int) else 0) = 0 then zY 199 16 [some (zR (some 0)), some (zI x1)] [] h else zY 199 24 [some (zR (some 0)), some (zI x1)] [] h from zGo 1 199 13 _ _ _).trans ?_
  refine iteB (fun c0 => ?_) (fun c0 => ?_)
  · skip
    refine (show zY 199 24 [some (zR (some 0)), some (zI x1)] [] h = gd (zob h (some 0) 11) (zY 199 28 [some (zR (some 0)), some (zI x1)] [zR (hR h 0 8)] h) from zGo 2 199 24 _ _ _).trans ?_
    refine (gd_t (⟨rfl, (PTC KC 0 _ rfl rfl), (PNC KC 0 rfl)⟩) _).trans ?_
    refine (congrArg (fun rz => zY 199 28 [some (zR (some 0)), some (zI x1)] (zR rz :: []) h) (PRC KC 0 8 _ rfl)).trans ?_
    refine (show zY 199 28 [some (zR (some 0)), some (zI x1)] [zR (some 10)] h = gd (zob h (some 0) 11) (zY 199 32 [some (zR (some 0)), some (zI x1)] [zR (hR h 0 14), zR (some 10)] h) from zGo 2 199 28 _ _ _).trans ?_
    refine (gd_t (⟨rfl, (PTC KC 0 _ rfl rfl), (PNC KC 0 rfl)⟩) _).trans ?_
    refine (congrArg (fun rz => zY 199 32 [some (zR (some 0)), some (zI x1)] (zR rz :: zR (some 10) :: []) h) rv).trans ?_
    refine (show zY 199 32 [some (zR (some 0)), some (zI x1)] [zR (some v), zR (some 10)] h = gd (false = zctor 17 ∧ zcs [] ≤ 8 ∧ zrm 199 (zrf 17 + 1) (8 + (zmaxl 17 + 11) + zrl 17) = true ∧ zcs [zR (some 10), zR (some v)] ≤ zmaxl 17) (gd (zob h (some 10) 3) (zBack zY 199 32 35 [some (zR (some 0)), some (zI x1)] [] (zC 17 [zR (some 10), zR (some v)] h))) from zGo 1 199 32 _ _ _).trans ?_
    refine (gd_t (⟨rfl, Nat.le_of_ble_eq_true rfl, rfl, Nat.le_of_ble_eq_true rfl⟩) _).trans ?_
    refine (gd_t (⟨rfl, (PTC KC 10 _ rfl rfl), (PNC KC 10 rfl)⟩) _).trans ?_
    rfl
  · skip
    refine (show zY 199 16 [some (zR (some 0)), some (zI x1)] [] h = some (.inr 1, (hNew h 0 6)) from zGo 1 199 16 _ _ _).trans ?_
    rfl
theorem q_B_restore_r35 {h : zH} {x1 : Int} {v : Nat} (KC : KC h) (rv : hR h 0 14 = some v) (hv : VS h v) : zBack zY 199 32 35 [some (zR (some 0)), some (zI x1)] [] (some (.inl (none), h)) =
    zBack zY 199 44 47 [some (zR (some 0)), some (zI x1)] [] (zC 19 [zR (some 10), zI x1, zR (some v)] h) := by
  refine (show zBack zY 199 32 35 [some (zR (some 0)), some (zI x1)] [] (some (.inl (none), h)) = gd (zob h (some 0) 11) (zY 199 39 [some (zR (some 0)), some (zI x1)] [zR (hR h 0 8)] h) from zGo 2 199 35 _ _ _).trans ?_
  refine (gd_t (⟨rfl, (PTC KC 0 _ rfl rfl), (PNC KC 0 rfl)⟩) _).trans ?_
  refine (congrArg (fun rz => zY 199 39 [some (zR (some 0)), some (zI x1)] (zR rz :: []) h) (PRC KC 0 8 _ rfl)).trans ?_
  refine (show zY 199 39 [some (zR (some 0)), some (zI x1)] [zR (some 10)] h = gd (zob h (some 0) 11) (zY 199 44 [some (zR (some 0)), some (zI x1)] [zR (hR h 0 14), zI x1, zR (some 10)] h) from zGo 3 199 39 _ _ _).trans ?_
  refine (gd_t (⟨rfl, (PTC KC 0 _ rfl rfl), (PNC KC 0 rfl)⟩) _).trans ?_
  refine (congrArg (fun rz => zY 199 44 [some (zR (some 0)), some (zI x1)] (zR rz :: zI x1 :: zR (some 10) :: []) h) rv).trans ?_
  refine (show zY 199 44 [some (zR (some 0)), some (zI x1)] [zR (some v), zI x1, zR (some 10)] h = gd (false = zctor 19 ∧ zcs [] ≤ 8 ∧ zrm 199 (zrf 19 + 1) (8 + (zmaxl 19 + 11) + zrl 19) = true ∧ zcs [zR (some 10), zI x1, zR (some v)] ≤ zmaxl 19) (gd (zob h (some 10) 3) (zBack zY 199 44 47 [some (zR (some 0)), some (zI x1)] [] (zC 19 [zR (some 10), zI x1, zR (some v)] h))) from zGo 1 199 44 _ _ _).trans ?_
  refine (gd_t (⟨rfl, Nat.le_of_ble_eq_true rfl, rfl, Nat.le_of_ble_eq_true rfl⟩) _).trans ?_
  refine (gd_t (⟨rfl, (PTC KC 10 _ rfl rfl), (PNC KC 10 rfl)⟩) _).trans ?_
  rfl
theorem q_B_restore_r47 {h : zH} {x1 : Int} {p : Nat} {v : Nat} (KC : KC h) (rp : hR h 0 13 = some p) (hp : PS h p) (rv : hR h 0 14 = some v) (hv : VS h v) : zBack zY 199 44 47 [some (zR (some 0)), some (zI x1)] [] (some (.inl (none), h)) =
    zBack zY 199 59 62 [some (zR (some 0)), some (zI x1)] [] (zC 1 [zR (some 132), zR (some p), zR (some v)] h) := by
  refine (show zBack zY 199 44 47 [some (zR (some 0)), some (zI x1)] [] (some (.inl (none), h)) = gd (zob h (some 0) 11) (zY 199 51 [some (zR (some 0)), some (zI x1)] [zR (hR h 0 11)] h) from zGo 2 199 47 _ _ _).trans ?_
  refine (gd_t (⟨rfl, (PTC KC 0 _ rfl rfl), (PNC KC 0 rfl)⟩) _).trans ?_
  refine (congrArg (fun rz => zY 199 51 [some (zR (some 0)), some (zI x1)] (zR rz :: []) h) (PRC KC 0 11 _ rfl)).trans ?_
  refine (show zY 199 51 [some (zR (some 0)), some (zI x1)] [zR (some 132)] h = gd (zob h (some 0) 11) (zY 199 55 [some (zR (some 0)), some (zI x1)] [zR (hR h 0 13), zR (some 132)] h) from zGo 2 199 51 _ _ _).trans ?_
  refine (gd_t (⟨rfl, (PTC KC 0 _ rfl rfl), (PNC KC 0 rfl)⟩) _).trans ?_
  refine (congrArg (fun rz => zY 199 55 [some (zR (some 0)), some (zI x1)] (zR rz :: zR (some 132) :: []) h) rp).trans ?_
  refine (show zY 199 55 [some (zR (some 0)), some (zI x1)] [zR (some p), zR (some 132)] h = gd (zob h (some 0) 11) (zY 199 59 [some (zR (some 0)), some (zI x1)] [zR (hR h 0 14), zR (some p), zR (some 132)] h) from zGo 2 199 55 _ _ _).trans ?_
  refine (gd_t (⟨rfl, (PTC KC 0 _ rfl rfl), (PNC KC 0 rfl)⟩) _).trans ?_
  refine (congrArg (fun rz => zY 199 59 [some (zR (some 0)), some (zI x1)] (zR rz :: zR (some p) :: zR (some 132) :: []) h) rv).trans ?_
  refine (show zY 199 59 [some (zR (some 0)), some (zI x1)] [zR (some v), zR (some p), zR (some 132)] h = gd (false = zctor 1 ∧ zcs [] ≤ 8 ∧ zrm 199 (zrf 1 + 1) (8 + (zmaxl 1 + 11) + zrl 1) = true ∧ zcs [zR (some 132), zR (some p), zR (some v)] ≤ zmaxl 1) (gd (zob h (some 132) 1) (zBack zY 199 59 62 [some (zR (some 0)), some (zI x1)] [] (zC 1 [zR (some 132), zR (some p), zR (some v)] h))) from zGo 1 199 59 _ _ _).trans ?_
  refine (gd_t (⟨rfl, Nat.le_of_ble_eq_true rfl, rfl, Nat.le_of_ble_eq_true rfl⟩) _).trans ?_
  refine (gd_t (⟨rfl, (PTC KC 132 _ rfl rfl), (PNC KC 132 rfl)⟩) _).trans ?_
  rfl
theorem q_B_restore_r62 {h : zH} {x1 : Int} (KC : KC h) : zBack zY 199 59 62 [some (zR (some 0)), some (zI x1)] [] (some (.inl (none), h)) =
    zBack zY 199 66 69 [some (zR (some 0)), some (zI x1)] [] (zC 11 [zR (some 132)] h) := by
  refine (show zBack zY 199 59 62 [some (zR (some 0)), some (zI x1)] [] (some (.inl (none), h)) = gd (zob h (some 0) 11) (zY 199 66 [some (zR (some 0)), some (zI x1)] [zR (hR h 0 11)] h) from zGo 2 199 62 _ _ _).trans ?_
  refine (gd_t (⟨rfl, (PTC KC 0 _ rfl rfl), (PNC KC 0 rfl)⟩) _).trans ?_
  refine (congrArg (fun rz => zY 199 66 [some (zR (some 0)), some (zI x1)] (zR rz :: []) h) (PRC KC 0 11 _ rfl)).trans ?_
  refine (show zY 199 66 [some (zR (some 0)), some (zI x1)] [zR (some 132)] h = gd (false = zctor 11 ∧ zcs [] ≤ 8 ∧ zrm 199 (zrf 11 + 1) (8 + (zmaxl 11 + 11) + zrl 11) = true ∧ zcs [zR (some 132)] ≤ zmaxl 11) (gd (zob h (some 132) 1) (zBack zY 199 66 69 [some (zR (some 0)), some (zI x1)] [] (zC 11 [zR (some 132)] h))) from zGo 1 199 66 _ _ _).trans ?_
  refine (gd_t (⟨rfl, Nat.le_of_ble_eq_true rfl, rfl, Nat.le_of_ble_eq_true rfl⟩) _).trans ?_
  refine (gd_t (⟨rfl, (PTC KC 132 _ rfl rfl), (PNC KC 132 rfl)⟩) _).trans ?_
  rfl
theorem q_B_restore_r69 {h : zH} {x1 : Int} {y : Int} (KC : KC h) : zBack zY 199 66 69 [some (zR (some 0)), some (zI x1)] [] (some (.inl (some (zI y)), h)) =
    some (.inl (some (zI y)), h) := by
  refine (show zBack zY 199 66 69 [some (zR (some 0)), some (zI x1)] [] (some (.inl (some (zI y)), h)) = gd (([] : List zV).isEmpty = true ∧ (zrk 199 = 1 ∨ zrk 199 = 6 ∧ ((y : Int) = 0 ∨ (y : Int) = 1))) (some (.inl (some (zI y)), h)) from zGo 1 199 69 _ _ _).trans ?_
  refine (gd_t (⟨rfl, Or.inl rfl⟩) _).trans ?_
  rfl
theorem q_B_undo {h : zH} {v : Nat} (KC : KC h) (rv : hR h 0 14 = some v) (hv : VS h v) : zC 201 [zR (some 0)] h =
    if (hI h 10 0) = 0 then
      some (.inr 1, (hNew h 0 6))
    else
      zBack zY 201 26 29 [some (zR (some 0))] [] (zC 20 [zR (some 10), zR (some v)] h) := by
  refine (show zC 201 [zR (some 0)] h = gd (zob h (some 0) 11) (zY 201 4 [some (zR (some 0))] [zR (hR h 0 8)] h) from zGo 2 201 0 _ _ _).trans ?_
  refine (gd_t (⟨rfl, (PTC KC 0 _ rfl rfl), (PNC KC 0 rfl)⟩) _).trans ?_
  refine (congrArg (fun rz => zY 201 4 [some (zR (some 0))] (zR rz :: []) h) (PRC KC 0 8 _ rfl)).trans ?_
  refine (show zY 201 4 [some (zR (some 0))] [zR (some 10)] h = gd (zob h (some 10) 3) (if (hI h 10 0) = 0 then zY 201 10 [some (zR (some 0))] [] h else zY 201 18 [some (zR (some 0))] [] h) from zGo 2 201 4 _ _ _).trans ?_
  refine (gd_t (⟨rfl, (PTC KC 10 _ rfl rfl), (PNC KC 10 rfl)⟩) _).trans ?_
  refine iteC (fun c0 => ?_) (fun c0 => ?_)
  · skip
    refine (show zY 201 10 [some (zR (some 0))] [] h = some (.inr 1, (hNew h 0 6)) from zGo 1 201 10 _ _ _).trans ?_
    rfl
  · skip
    refine (show zY 201 18 [some (zR (some 0))] [] h = gd (zob h (some 0) 11) (zY 201 22 [some (zR (some 0))] [zR (hR h 0 8)] h) from zGo 2 201 18 _ _ _).trans ?_
    refine (gd_t (⟨rfl, (PTC KC 0 _ rfl rfl), (PNC KC 0 rfl)⟩) _).trans ?_
    refine (congrArg (fun rz => zY 201 22 [some (zR (some 0))] (zR rz :: []) h) (PRC KC 0 8 _ rfl)).trans ?_
    refine (show zY 201 22 [some (zR (some 0))] [zR (some 10)] h = gd (zob h (some 0) 11) (zY 201 26 [some (zR (some 0))] [zR (hR h 0 14), zR (some 10)] h) from zGo 2 201 22 _ _ _).trans ?_
    refine (gd_t (⟨rfl, (PTC KC 0 _ rfl rfl), (PNC KC 0 rfl)⟩) _).trans ?_
    refine (congrArg (fun rz => zY 201 26 [some (zR (some 0))] (zR rz :: zR (some 10) :: []) h) rv).trans ?_
    refine (show zY 201 26 [some (zR (some 0))] [zR (some v), zR (some 10)] h = gd (false = zctor 20 ∧ zcs [] ≤ 8 ∧ zrm 201 (zrf 20 + 1) (8 + (zmaxl 20 + 11) + zrl 20) = true ∧ zcs [zR (some 10), zR (some v)] ≤ zmaxl 20) (gd (zob h (some 10) 3) (zBack zY 201 26 29 [some (zR (some 0))] [] (zC 20 [zR (some 10), zR (some v)] h))) from zGo 1 201 26 _ _ _).trans ?_
    refine (gd_t (⟨rfl, Nat.le_of_ble_eq_true rfl, rfl, Nat.le_of_ble_eq_true rfl⟩) _).trans ?_
    refine (gd_t (⟨rfl, (PTC KC 10 _ rfl rfl), (PNC KC 10 rfl)⟩) _).trans ?_
    rfl
theorem q_B_undo_r29 {h : zH} {p : Nat} {v : Nat} (KC : KC h) (rp : hR h 0 13 = some p) (hp : PS h p) (rv : hR h 0 14 = some v) (hv : VS h v) : zBack zY 201 26 29 [some (zR (some 0))] [] (some (.inl (none), h)) =
    zBack zY 201 41 44 [some (zR (some 0))] [] (zC 1 [zR (some 132), zR (some p), zR (some v)] h) := by
  refine (show zBack zY 201 26 29 [some (zR (some 0))] [] (some (.inl (none), h)) = gd (zob h (some 0) 11) (zY 201 33 [some (zR (some 0))] [zR (hR h 0 11)] h) from zGo 2 201 29 _ _ _).trans ?_
  refine (gd_t (⟨rfl, (PTC KC 0 _ rfl rfl), (PNC KC 0 rfl)⟩) _).trans ?_
  refine (congrArg (fun rz => zY 201 33 [some (zR (some 0))] (zR rz :: []) h) (PRC KC 0 11 _ rfl)).trans ?_
  refine (show zY 201 33 [some (zR (some 0))] [zR (some 132)] h = gd (zob h (some 0) 11) (zY 201 37 [some (zR (some 0))] [zR (hR h 0 13), zR (some 132)] h) from zGo 2 201 33 _ _ _).trans ?_
  refine (gd_t (⟨rfl, (PTC KC 0 _ rfl rfl), (PNC KC 0 rfl)⟩) _).trans ?_
  refine (congrArg (fun rz => zY 201 37 [some (zR (some 0))] (zR rz :: zR (some 132) :: []) h) rp).trans ?_
  refine (show zY 201 37 [some (zR (some 0))] [zR (some p), zR (some 132)] h = gd (zob h (some 0) 11) (zY 201 41 [some (zR (some 0))] [zR (hR h 0 14), zR (some p), zR (some 132)] h) from zGo 2 201 37 _ _ _).trans ?_
  refine (gd_t (⟨rfl, (PTC KC 0 _ rfl rfl), (PNC KC 0 rfl)⟩) _).trans ?_
  refine (congrArg (fun rz => zY 201 41 [some (zR (some 0))] (zR rz :: zR (some p) :: zR (some 132) :: []) h) rv).trans ?_
  refine (show zY 201 41 [some (zR (some 0))] [zR (some v), zR (some p), zR (some 132)] h = gd (false = zctor 1 ∧ zcs [] ≤ 8 ∧ zrm 201 (zrf 1 + 1) (8 + (zmaxl 1 + 11) + zrl 1) = true ∧ zcs [zR (some 132), zR (some p), zR (some v)] ≤ zmaxl 1) (gd (zob h (some 132) 1) (zBack zY 201 41 44 [some (zR (some 0))] [] (zC 1 [zR (some 132), zR (some p), zR (some v)] h))) from zGo 1 201 41 _ _ _).trans ?_
  refine (gd_t (⟨rfl, Nat.le_of_ble_eq_true rfl, rfl, Nat.le_of_ble_eq_true rfl⟩) _).trans ?_
  refine (gd_t (⟨rfl, (PTC KC 132 _ rfl rfl), (PNC KC 132 rfl)⟩) _).trans ?_
  rfl
theorem q_B_undo_r44 {h : zH} (KC : KC h) : zBack zY 201 41 44 [some (zR (some 0))] [] (some (.inl (none), h)) =
    some (.inl (some (zI (hI h 10 0))), h) := by
  refine (show zBack zY 201 41 44 [some (zR (some 0))] [] (some (.inl (none), h)) = gd (zob h (some 0) 11) (zY 201 48 [some (zR (some 0))] [zR (hR h 0 8)] h) from zGo 2 201 44 _ _ _).trans ?_
  refine (gd_t (⟨rfl, (PTC KC 0 _ rfl rfl), (PNC KC 0 rfl)⟩) _).trans ?_
  refine (congrArg (fun rz => zY 201 48 [some (zR (some 0))] (zR rz :: []) h) (PRC KC 0 8 _ rfl)).trans ?_
  refine (show zY 201 48 [some (zR (some 0))] [zR (some 10)] h = gd (zob h (some 10) 3) (gd (([] : List zV).isEmpty = true ∧ (zrk 201 = 1 ∨ zrk 201 = 6 ∧ (((hI h 10 0) : Int) = 0 ∨ ((hI h 10 0) : Int) = 1))) (some (.inl (some (zI (hI h 10 0))), h))) from zGo 2 201 48 _ _ _).trans ?_
  refine (gd_t (⟨rfl, (PTC KC 10 _ rfl rfl), (PNC KC 10 rfl)⟩) _).trans ?_
  refine (gd_t (⟨rfl, Or.inl rfl⟩) _).trans ?_
  rfl
theorem q_B_save {h : zH} {x1 : Int} (KC : KC h) : zC 202 [zR (some 0), zI x1] h =
    zBack zY 202 2 5 [some (zR (some 0)), some (zI x1)] [] (zC 200 [zR (some 0), zI x1] h) := by
  refine (show zC 202 [zR (some 0), zI x1] h = gd (false = zctor 200 ∧ zcs [] ≤ 8 ∧ zrm 202 (zrf 200 + 1) (8 + (zmaxl 200 + 11) + zrl 200) = true ∧ zcs [zR (some 0), zI x1] ≤ zmaxl 200) (gd (zob h (some 0) 11) (zBack zY 202 2 5 [some (zR (some 0)), some (zI x1)] [] (zC 200 [zR (some 0), zI x1] h))) from zGo 3 202 0 _ _ _).trans ?_
  refine (gd_t (⟨rfl, Nat.le_of_ble_eq_true rfl, rfl, Nat.le_of_ble_eq_true rfl⟩) _).trans ?_
  refine (gd_t (⟨rfl, (PTC KC 0 _ rfl rfl), (PNC KC 0 rfl)⟩) _).trans ?_
  rfl
theorem q_B_save_r5 {h : zH} {x1 : Int} {v : Nat} (KC : KC h) (rv : hR h 0 14 = some v) (hv : VS h v) : zBack zY 202 2 5 [some (zR (some 0)), some (zI x1)] [] (some (.inl (none), h)) =
    zBack zY 202 14 17 [some (zR (some 0)), some (zI x1)] [] (zC 21 [zR (some 10), zI x1, zR (some v)] h) := by
  refine (show zBack zY 202 2 5 [some (zR (some 0)), some (zI x1)] [] (some (.inl (none), h)) = gd (zob h (some 0) 11) (zY 202 9 [some (zR (some 0)), some (zI x1)] [zR (hR h 0 8)] h) from zGo 2 202 5 _ _ _).trans ?_
  refine (gd_t (⟨rfl, (PTC KC 0 _ rfl rfl), (PNC KC 0 rfl)⟩) _).trans ?_
  refine (congrArg (fun rz => zY 202 9 [some (zR (some 0)), some (zI x1)] (zR rz :: []) h) (PRC KC 0 8 _ rfl)).trans ?_
  refine (show zY 202 9 [some (zR (some 0)), some (zI x1)] [zR (some 10)] h = gd (zob h (some 0) 11) (zY 202 14 [some (zR (some 0)), some (zI x1)] [zR (hR h 0 14), zI x1, zR (some 10)] h) from zGo 3 202 9 _ _ _).trans ?_
  refine (gd_t (⟨rfl, (PTC KC 0 _ rfl rfl), (PNC KC 0 rfl)⟩) _).trans ?_
  refine (congrArg (fun rz => zY 202 14 [some (zR (some 0)), some (zI x1)] (zR rz :: zI x1 :: zR (some 10) :: []) h) rv).trans ?_
  refine (show zY 202 14 [some (zR (some 0)), some (zI x1)] [zR (some v), zI x1, zR (some 10)] h = gd (false = zctor 21 ∧ zcs [] ≤ 8 ∧ zrm 202 (zrf 21 + 1) (8 + (zmaxl 21 + 11) + zrl 21) = true ∧ zcs [zR (some 10), zI x1, zR (some v)] ≤ zmaxl 21) (gd (zob h (some 10) 3) (zBack zY 202 14 17 [some (zR (some 0)), some (zI x1)] [] (zC 21 [zR (some 10), zI x1, zR (some v)] h))) from zGo 1 202 14 _ _ _).trans ?_
  refine (gd_t (⟨rfl, Nat.le_of_ble_eq_true rfl, rfl, Nat.le_of_ble_eq_true rfl⟩) _).trans ?_
  refine (gd_t (⟨rfl, (PTC KC 10 _ rfl rfl), (PNC KC 10 rfl)⟩) _).trans ?_
  rfl
theorem q_B_save_r17 {h : zH} {x1 : Int} (KC : KC h) : zBack zY 202 14 17 [some (zR (some 0)), some (zI x1)] [] (some (.inl (none), h)) =
    zBack zY 202 21 24 [some (zR (some 0)), some (zI x1)] [] (zC 22 [zR (some 10)] h) := by
  refine (show zBack zY 202 14 17 [some (zR (some 0)), some (zI x1)] [] (some (.inl (none), h)) = gd (zob h (some 0) 11) (zY 202 21 [some (zR (some 0)), some (zI x1)] [zR (hR h 0 8)] h) from zGo 2 202 17 _ _ _).trans ?_
  refine (gd_t (⟨rfl, (PTC KC 0 _ rfl rfl), (PNC KC 0 rfl)⟩) _).trans ?_
  refine (congrArg (fun rz => zY 202 21 [some (zR (some 0)), some (zI x1)] (zR rz :: []) h) (PRC KC 0 8 _ rfl)).trans ?_
  refine (show zY 202 21 [some (zR (some 0)), some (zI x1)] [zR (some 10)] h = gd (false = zctor 22 ∧ zcs [] ≤ 8 ∧ zrm 202 (zrf 22 + 1) (8 + (zmaxl 22 + 11) + zrl 22) = true ∧ zcs [zR (some 10)] ≤ zmaxl 22) (gd (zob h (some 10) 3) (zBack zY 202 21 24 [some (zR (some 0)), some (zI x1)] [] (zC 22 [zR (some 10)] h))) from zGo 1 202 21 _ _ _).trans ?_
  refine (gd_t (⟨rfl, Nat.le_of_ble_eq_true rfl, rfl, Nat.le_of_ble_eq_true rfl⟩) _).trans ?_
  refine (gd_t (⟨rfl, (PTC KC 10 _ rfl rfl), (PNC KC 10 rfl)⟩) _).trans ?_
  rfl
theorem q_B_save_r24 {h : zH} {x1 : Int} {y : Int} (KC : KC h) : zBack zY 202 21 24 [some (zR (some 0)), some (zI x1)] [] (some (.inl (some (zI y)), h)) =
    some (.inl (some (zI y)), h) := by
  refine (show zBack zY 202 21 24 [some (zR (some 0)), some (zI x1)] [] (some (.inl (some (zI y)), h)) = gd (([] : List zV).isEmpty = true ∧ (zrk 202 = 1 ∨ zrk 202 = 6 ∧ ((y : Int) = 0 ∨ (y : Int) = 1))) (some (.inl (some (zI y)), h)) from zGo 1 202 24 _ _ _).trans ?_
  refine (gd_t (⟨rfl, Or.inl rfl⟩) _).trans ?_
  rfl
theorem q_B_load {h : zH} {x1 : Int} (KC : KC h) : zC 160 [zR (some 0), zI x1] h =
    zBack zY 160 2 5 [some (zR (some 0)), some (zI x1), none, none] [] (zC 161 [zR (some 0), zI x1] h) := by
  refine (show zC 160 [zR (some 0), zI x1] h = gd (false = zctor 161 ∧ zcs [] ≤ 8 ∧ zrm 160 (zrf 161 + 1) (8 + (zmaxl 161 + 11) + zrl 161) = true ∧ zcs [zR (some 0), zI x1] ≤ zmaxl 161) (gd (zob h (some 0) 11) (zBack zY 160 2 5 [some (zR (some 0)), some (zI x1), none, none] [] (zC 161 [zR (some 0), zI x1] h))) from zGo 3 160 0 _ _ _).trans ?_
  refine (gd_t (⟨rfl, Nat.le_of_ble_eq_true rfl, rfl, Nat.le_of_ble_eq_true rfl⟩) _).trans ?_
  refine (gd_t (⟨rfl, (PTC KC 0 _ rfl rfl), (PNC KC 0 rfl)⟩) _).trans ?_
  rfl
theorem q_B_load_r5 {h : zH} {x1 : Int} (KC : KC h) : zBack zY 160 2 5 [some (zR (some 0)), some (zI x1), none, none] [] (some (.inl (none), h)) =
    zY 160 5 [some (zR (some 0)), some (zI x1), none, none] [] h := by
  rfl
theorem q_B_load_5 {h : zH} {x1 : Int} (KC : KC h) (hz : hN h < zVB) : zY 160 5 [some (zR (some 0)), some (zI x1), none, none] [] h =
    zBack zY 160 13 16 [some (zR (some 0)), some (zI x1), none, none] [zR (some (hN h))] (zC 35 [zR (some (hN h)), zR (some 3)] (hNew h 5 14)) := by
  refine (show zY 160 5 [some (zR (some 0)), some (zI x1), none, none] [] h = gd (zob (hNew h 5 14) (some 0) 11) (zY 160 13 [some (zR (some 0)), some (zI x1), none, none] [zR (hR (hNew h 5 14) 0 6), zR (some (hN h)), zR (some (hN h))] (hNew h 5 14)) from zGo 4 160 5 _ _ _).trans ?_
  refine (gd_t (⟨rfl, (PTC (KC_0 KC (Gw_new W0 h 5 14 hz)) 0 _ rfl rfl), (PNC (KC_0 KC (Gw_new W0 h 5 14 hz)) 0 rfl)⟩) _).trans ?_
  refine (congrArg (fun rz => zY 160 13 [some (zR (some 0)), some (zI x1), none, none] (zR rz :: zR (some (hN h)) :: zR (some (hN h)) :: []) (hNew h 5 14)) (PRC (KC_0 KC (Gw_new W0 h 5 14 hz)) 0 6 _ rfl)).trans ?_
  refine (show zY 160 13 [some (zR (some 0)), some (zI x1), none, none] [zR (some 3), zR (some (hN h)), zR (some (hN h))] (hNew h 5 14) = gd (true = zctor 35 ∧ zcs [zR (some (hN h))] ≤ 8 ∧ zrm 160 (zrf 35 + 1) (8 + (zmaxl 35 + 11) + zrl 35) = true ∧ zcs [zR (some (hN h)), zR (some 3)] ≤ zmaxl 35) (gd (zob (hNew h 5 14) (some (hN h)) 5) (zBack zY 160 13 16 [some (zR (some 0)), some (zI x1), none, none] [zR (some (hN h))] (zC 35 [zR (some (hN h)), zR (some 3)] (hNew h 5 14)))) from zGo 1 160 13 _ _ _).trans ?_
  refine (gd_t (⟨rfl, Nat.le_of_ble_eq_true rfl, rfl, Nat.le_of_ble_eq_true rfl⟩) _).trans ?_
  refine (gd_t (⟨rfl, if_pos rfl, Nat.lt_succ_self _⟩) _).trans ?_
  rfl
theorem q_B_load_r16 {h : zH} {x1 : Int} {py0 : Nat} (KC : KC h) (hpy0 : PS h py0) : zBack zY 160 13 16 [some (zR (some 0)), some (zI x1), none, none] [zR (some py0)] (some (.inl (none), h)) =
    zY 160 17 [some (zR (some 0)), some (zI x1), some (zR (some py0)), none] [] h := by
  refine (show zBack zY 160 13 16 [some (zR (some 0)), some (zI x1), none, none] [zR (some py0)] (some (.inl (none), h)) = zY 160 17 [some (zR (some 0)), some (zI x1), some (zR (some py0)), none] [] h from zGo 1 160 16 _ _ _).trans ?_
  rfl
theorem q_B_load_17 {h : zH} {x1 : Int} {p2 : Nat} (KC : KC h) (hz : hN h < zVB) (hp2 : PS h p2) : zY 160 17 [some (zR (some 0)), some (zI x1), some (zR (some p2)), none] [] h =
    zBack zY 160 25 28 [some (zR (some 0)), some (zI x1), some (zR (some p2)), none] [zR (some (hN h))] (zC 124 [zR (some (hN h)), zR (some 3)] (hNew h 10 7)) := by
  refine (show zY 160 17 [some (zR (some 0)), some (zI x1), some (zR (some p2)), none] [] h = gd (zob (hNew h 10 7) (some 0) 11) (zY 160 25 [some (zR (some 0)), some (zI x1), some (zR (some p2)), none] [zR (hR (hNew h 10 7) 0 6), zR (some (hN h)), zR (some (hN h))] (hNew h 10 7)) from zGo 4 160 17 _ _ _).trans ?_
  refine (gd_t (⟨rfl, (PTC (KC_0 KC (Gw_new W0 h 10 7 hz)) 0 _ rfl rfl), (PNC (KC_0 KC (Gw_new W0 h 10 7 hz)) 0 rfl)⟩) _).trans ?_
  refine (congrArg (fun rz => zY 160 25 [some (zR (some 0)), some (zI x1), some (zR (some p2)), none] (zR rz :: zR (some (hN h)) :: zR (some (hN h)) :: []) (hNew h 10 7)) (PRC (KC_0 KC (Gw_new W0 h 10 7 hz)) 0 6 _ rfl)).trans ?_
  refine (show zY 160 25 [some (zR (some 0)), some (zI x1), some (zR (some p2)), none] [zR (some 3), zR (some (hN h)), zR (some (hN h))] (hNew h 10 7) = gd (true = zctor 124 ∧ zcs [zR (some (hN h))] ≤ 8 ∧ zrm 160 (zrf 124 + 1) (8 + (zmaxl 124 + 11) + zrl 124) = true ∧ zcs [zR (some (hN h)), zR (some 3)] ≤ zmaxl 124) (gd (zob (hNew h 10 7) (some (hN h)) 10) (zBack zY 160 25 28 [some (zR (some 0)), some (zI x1), some (zR (some p2)), none] [zR (some (hN h))] (zC 124 [zR (some (hN h)), zR (some 3)] (hNew h 10 7)))) from zGo 1 160 25 _ _ _).trans ?_
  refine (gd_t (⟨rfl, Nat.le_of_ble_eq_true rfl, rfl, Nat.le_of_ble_eq_true rfl⟩) _).trans ?_
  refine (gd_t (⟨rfl, if_pos rfl, Nat.lt_succ_self _⟩) _).trans ?_
  rfl
theorem q_B_load_r28 {h : zH} {x1 : Int} {p2 : Nat} {vy0 : Nat} (KC : KC h) (hp2 : PS h p2) (hvy0 : VS h vy0) : zBack zY 160 25 28 [some (zR (some 0)), some (zI x1), some (zR (some p2)), none] [zR (some vy0)] (some (.inl (none), h)) =
    zBack zY 160 34 37 [some (zR (some 0)), some (zI x1), some (zR (some p2)), some (zR (some vy0))] [] (zC 24 [zR (some 5), zI x1] h) := by
  refine (show zBack zY 160 25 28 [some (zR (some 0)), some (zI x1), some (zR (some p2)), none] [zR (some vy0)] (some (.inl (none), h)) = gd (zob h (some 0) 11) (zY 160 33 [some (zR (some 0)), some (zI x1), some (zR (some p2)), some (zR (some vy0))] [zR (hR h 0 7)] h) from zGo 3 160 28 _ _ _).trans ?_
  refine (gd_t (⟨rfl, (PTC KC 0 _ rfl rfl), (PNC KC 0 rfl)⟩) _).trans ?_
  refine (congrArg (fun rz => zY 160 33 [some (zR (some 0)), some (zI x1), some (zR (some p2)), some (zR (some vy0))] (zR rz :: []) h) (PRC KC 0 7 _ rfl)).trans ?_
  refine (show zY 160 33 [some (zR (some 0)), some (zI x1), some (zR (some p2)), some (zR (some vy0))] [zR (some 5)] h = gd (false = zctor 24 ∧ zcs [] ≤ 8 ∧ zrm 160 (zrf 24 + 1) (8 + (zmaxl 24 + 11) + zrl 24) = true ∧ zcs [zR (some 5), zI x1] ≤ zmaxl 24) (gd (zob h (some 5) 4) (zBack zY 160 34 37 [some (zR (some 0)), some (zI x1), some (zR (some p2)), some (zR (some vy0))] [] (zC 24 [zR (some 5), zI x1] h))) from zGo 2 160 33 _ _ _).trans ?_
  refine (gd_t (⟨rfl, Nat.le_of_ble_eq_true rfl, rfl, Nat.le_of_ble_eq_true rfl⟩) _).trans ?_
  refine (gd_t (⟨rfl, (PTC KC 5 _ rfl rfl), (PNC KC 5 rfl)⟩) _).trans ?_
  rfl
theorem q_B_load_r37 {h : zH} {x1 : Int} {p2 : Nat} {v3 : Nat} (KC : KC h) (hp2 : PS h p2) (hv3 : VS h v3) : zBack zY 160 34 37 [some (zR (some 0)), some (zI x1), some (zR (some p2)), some (zR (some v3))] [] (some (.inl (none), h)) =
    zBack zY 160 43 46 [some (zR (some 0)), some (zI x1), some (zR (some p2)), some (zR (some v3))] [] (zC 25 [zR (some 5), zR (some p2), zR (some v3)] h) := by
  refine (show zBack zY 160 34 37 [some (zR (some 0)), some (zI x1), some (zR (some p2)), some (zR (some v3))] [] (some (.inl (none), h)) = gd (zob h (some 0) 11) (zY 160 41 [some (zR (some 0)), some (zI x1), some (zR (some p2)), some (zR (some v3))] [zR (hR h 0 7)] h) from zGo 2 160 37 _ _ _).trans ?_
  refine (gd_t (⟨rfl, (PTC KC 0 _ rfl rfl), (PNC KC 0 rfl)⟩) _).trans ?_
  refine (congrArg (fun rz => zY 160 41 [some (zR (some 0)), some (zI x1), some (zR (some p2)), some (zR (some v3))] (zR rz :: []) h) (PRC KC 0 7 _ rfl)).trans ?_
  refine (show zY 160 41 [some (zR (some 0)), some (zI x1), some (zR (some p2)), some (zR (some v3))] [zR (some 5)] h = gd (false = zctor 25 ∧ zcs [] ≤ 8 ∧ zrm 160 (zrf 25 + 1) (8 + (zmaxl 25 + 11) + zrl 25) = true ∧ zcs [zR (some 5), zR (some p2), zR (some v3)] ≤ zmaxl 25) (gd (zob h (some 5) 4) (zBack zY 160 43 46 [some (zR (some 0)), some (zI x1), some (zR (some p2)), some (zR (some v3))] [] (zC 25 [zR (some 5), zR (some p2), zR (some v3)] h))) from zGo 3 160 41 _ _ _).trans ?_
  refine (gd_t (⟨rfl, Nat.le_of_ble_eq_true rfl, rfl, Nat.le_of_ble_eq_true rfl⟩) _).trans ?_
  refine (gd_t (⟨rfl, (PTC KC 5 _ rfl rfl), (PNC KC 5 rfl)⟩) _).trans ?_
  rfl
theorem q_B_load_r46 {h : zH} {x1 : Int} {p2 : Nat} {v3 : Nat} (KC : KC h) (hp2 : PS h p2) (hv3 : VS h v3) : zBack zY 160 43 46 [some (zR (some 0)), some (zI x1), some (zR (some p2)), some (zR (some v3))] [] (some (.inl (none), h)) =
    zBack zY 160 47 50 [some (zR (some 0)), some (zI x1), some (zR (some p2)), some (zR (some v3))] [] (zC 162 [zR (some 0)] h) := by
  refine (show zBack zY 160 43 46 [some (zR (some 0)), some (zI x1), some (zR (some p2)), some (zR (some v3))] [] (some (.inl (none), h)) = gd (false = zctor 162 ∧ zcs [] ≤ 8 ∧ zrm 160 (zrf 162 + 1) (8 + (zmaxl 162 + 11) + zrl 162) = true ∧ zcs [zR (some 0)] ≤ zmaxl 162) (gd (zob h (some 0) 11) (zBack zY 160 47 50 [some (zR (some 0)), some (zI x1), some (zR (some p2)), some (zR (some v3))] [] (zC 162 [zR (some 0)] h))) from zGo 2 160 46 _ _ _).trans ?_
  refine (gd_t (⟨rfl, Nat.le_of_ble_eq_true rfl, rfl, Nat.le_of_ble_eq_true rfl⟩) _).trans ?_
  refine (gd_t (⟨rfl, (PTC KC 0 _ rfl rfl), (PNC KC 0 rfl)⟩) _).trans ?_
  rfl
theorem q_B_load_r50 {h : zH} {x1 : Int} {p2 : Nat} {v3 : Nat} (KC : KC h) (hp2 : PS h p2) (hv3 : VS h v3) : zBack zY 160 47 50 [some (zR (some 0)), some (zI x1), some (zR (some p2)), some (zR (some v3))] [] (some (.inl (none), h)) =
    zBack zY 160 64 67 [some (zR (some 0)), some (zI x1), some (zR (some p2)), some (zR (some v3))] [] (zC 16 [zR (some 10)] (sR (sR h 0 13 (some p2)) 0 14 (some v3))) := by
  refine (show zBack zY 160 47 50 [some (zR (some 0)), some (zI x1), some (zR (some p2)), some (zR (some v3))] [] (some (.inl (none), h)) = gd (zob h (some 0) 11) (gd (zob (sR h 0 13 (some p2)) (some 0) 11) (gd (zob (sR (sR h 0 13 (some p2)) 0 14 (some v3)) (some 0) 11) (zY 160 64 [some (zR (some 0)), some (zI x1), some (zR (some p2)), some (zR (some v3))] [zR (hR h 0 8)] (sR (sR h 0 13 (some p2)) 0 14 (some v3))))) from zGo 8 160 50 _ _ _).trans ?_
  refine (gd_t (⟨rfl, (PTC KC 0 _ rfl rfl), (PNC KC 0 rfl)⟩) _).trans ?_
  refine (gd_t (⟨rfl, (PTC KC 0 _ rfl rfl), (PNC KC 0 rfl)⟩) _).trans ?_
  refine (gd_t (⟨rfl, (PTC KC 0 _ rfl rfl), (PNC KC 0 rfl)⟩) _).trans ?_
  refine (congrArg (fun rz => zY 160 64 [some (zR (some 0)), some (zI x1), some (zR (some p2)), some (zR (some v3))] (zR rz :: []) (sR (sR h 0 13 (some p2)) 0 14 (some v3))) (PRC KC 0 8 _ rfl)).trans ?_
  refine (show zY 160 64 [some (zR (some 0)), some (zI x1), some (zR (some p2)), some (zR (some v3))] [zR (some 10)] (sR (sR h 0 13 (some p2)) 0 14 (some v3)) = gd (false = zctor 16 ∧ zcs [] ≤ 8 ∧ zrm 160 (zrf 16 + 1) (8 + (zmaxl 16 + 11) + zrl 16) = true ∧ zcs [zR (some 10)] ≤ zmaxl 16) (gd (zob (sR (sR h 0 13 (some p2)) 0 14 (some v3)) (some 10) 3) (zBack zY 160 64 67 [some (zR (some 0)), some (zI x1), some (zR (some p2)), some (zR (some v3))] [] (zC 16 [zR (some 10)] (sR (sR h 0 13 (some p2)) 0 14 (some v3))))) from zGo 1 160 64 _ _ _).trans ?_
  refine (gd_t (⟨rfl, Nat.le_of_ble_eq_true rfl, rfl, Nat.le_of_ble_eq_true rfl⟩) _).trans ?_
  refine (gd_t (⟨rfl, (PTC KC 10 _ rfl rfl), (PNC KC 10 rfl)⟩) _).trans ?_
  rfl
theorem q_B_load_r67 {h : zH} {x1 : Int} {p2 : Nat} {v3 : Nat} {p : Nat} {v : Nat} (KC : KC h) (hp2 : PS h p2) (hv3 : VS h v3) (rp : hR h 0 13 = some p) (hp : PS h p) (rv : hR h 0 14 = some v) (hv : VS h v) : zBack zY 160 64 67 [some (zR (some 0)), some (zI x1), some (zR (some p2)), some (zR (some v3))] [] (some (.inl (none), h)) =
    zBack zY 160 79 82 [some (zR (some 0)), some (zI x1), some (zR (some p2)), some (zR (some v3))] [] (zC 1 [zR (some 132), zR (some p), zR (some v)] h) := by
  refine (show zBack zY 160 64 67 [some (zR (some 0)), some (zI x1), some (zR (some p2)), some (zR (some v3))] [] (some (.inl (none), h)) = gd (zob h (some 0) 11) (zY 160 71 [some (zR (some 0)), some (zI x1), some (zR (some p2)), some (zR (some v3))] [zR (hR h 0 11)] h) from zGo 2 160 67 _ _ _).trans ?_
  refine (gd_t (⟨rfl, (PTC KC 0 _ rfl rfl), (PNC KC 0 rfl)⟩) _).trans ?_
  refine (congrArg (fun rz => zY 160 71 [some (zR (some 0)), some (zI x1), some (zR (some p2)), some (zR (some v3))] (zR rz :: []) h) (PRC KC 0 11 _ rfl)).trans ?_
  refine (show zY 160 71 [some (zR (some 0)), some (zI x1), some (zR (some p2)), some (zR (some v3))] [zR (some 132)] h = gd (zob h (some 0) 11) (zY 160 75 [some (zR (some 0)), some (zI x1), some (zR (some p2)), some (zR (some v3))] [zR (hR h 0 13), zR (some 132)] h) from zGo 2 160 71 _ _ _).trans ?_
  refine (gd_t (⟨rfl, (PTC KC 0 _ rfl rfl), (PNC KC 0 rfl)⟩) _).trans ?_
  refine (congrArg (fun rz => zY 160 75 [some (zR (some 0)), some (zI x1), some (zR (some p2)), some (zR (some v3))] (zR rz :: zR (some 132) :: []) h) rp).trans ?_
  refine (show zY 160 75 [some (zR (some 0)), some (zI x1), some (zR (some p2)), some (zR (some v3))] [zR (some p), zR (some 132)] h = gd (zob h (some 0) 11) (zY 160 79 [some (zR (some 0)), some (zI x1), some (zR (some p2)), some (zR (some v3))] [zR (hR h 0 14), zR (some p), zR (some 132)] h) from zGo 2 160 75 _ _ _).trans ?_
  refine (gd_t (⟨rfl, (PTC KC 0 _ rfl rfl), (PNC KC 0 rfl)⟩) _).trans ?_
  refine (congrArg (fun rz => zY 160 79 [some (zR (some 0)), some (zI x1), some (zR (some p2)), some (zR (some v3))] (zR rz :: zR (some p) :: zR (some 132) :: []) h) rv).trans ?_
  refine (show zY 160 79 [some (zR (some 0)), some (zI x1), some (zR (some p2)), some (zR (some v3))] [zR (some v), zR (some p), zR (some 132)] h = gd (false = zctor 1 ∧ zcs [] ≤ 8 ∧ zrm 160 (zrf 1 + 1) (8 + (zmaxl 1 + 11) + zrl 1) = true ∧ zcs [zR (some 132), zR (some p), zR (some v)] ≤ zmaxl 1) (gd (zob h (some 132) 1) (zBack zY 160 79 82 [some (zR (some 0)), some (zI x1), some (zR (some p2)), some (zR (some v3))] [] (zC 1 [zR (some 132), zR (some p), zR (some v)] h))) from zGo 1 160 79 _ _ _).trans ?_
  refine (gd_t (⟨rfl, Nat.le_of_ble_eq_true rfl, rfl, Nat.le_of_ble_eq_true rfl⟩) _).trans ?_
  refine (gd_t (⟨rfl, (PTC KC 132 _ rfl rfl), (PNC KC 132 rfl)⟩) _).trans ?_
  rfl
theorem q_B_load_r82 {h : zH} {x1 : Int} {p2 : Nat} {v3 : Nat} {p : Nat} (KC : KC h) (hp2 : PS h p2) (hv3 : VS h v3) (rp : hR h 0 13 = some p) (hp : PS h p) : zBack zY 160 79 82 [some (zR (some 0)), some (zI x1), some (zR (some p2)), some (zR (some v3))] [] (some (.inl (none), h)) =
    some (.inl (some (zI (hI h p 0))), h) := by
  refine (show zBack zY 160 79 82 [some (zR (some 0)), some (zI x1), some (zR (some p2)), some (zR (some v3))] [] (some (.inl (none), h)) = gd (zob h (some 0) 11) (zY 160 86 [some (zR (some 0)), some (zI x1), some (zR (some p2)), some (zR (some v3))] [zR (hR h 0 13)] h) from zGo 2 160 82 _ _ _).trans ?_
  refine (gd_t (⟨rfl, (PTC KC 0 _ rfl rfl), (PNC KC 0 rfl)⟩) _).trans ?_
  refine (congrArg (fun rz => zY 160 86 [some (zR (some 0)), some (zI x1), some (zR (some p2)), some (zR (some v3))] (zR rz :: []) h) rp).trans ?_
  refine (show zY 160 86 [some (zR (some 0)), some (zI x1), some (zR (some p2)), some (zR (some v3))] [zR (some p)] h = gd (zob h (some p) 5) (gd (([] : List zV).isEmpty = true ∧ (zrk 160 = 1 ∨ zrk 160 = 6 ∧ (((hI h p 0) : Int) = 0 ∨ ((hI h p 0) : Int) = 1))) (some (.inl (some (zI (hI h p 0))), h))) from zGo 2 160 86 _ _ _).trans ?_
  refine (gd_t (⟨rfl, hp.1, (PS_n hp)⟩) _).trans ?_
  refine (gd_t (⟨rfl, Or.inl rfl⟩) _).trans ?_
  rfl
theorem q_P_depthOf {h : zH} {p : Nat} {x1 : Int} (hp : PS h p) : zC 55 [zR (some p), zI x1] h =
    zY 55 11 [some (zR (some p)), some (zI x1), some (zI 0), some (zI (f_P_parentOf h p x1)), some (zI 0)] [] h := by
  refine (show zC 55 [zR (some p), zI x1] h = gd (inR (0)) (gd (false = zctor 47 ∧ zcs [] ≤ 8 ∧ zrm 55 (zrf 47 + 1) (8 + (zmaxl 47 + 11) + zrl 47) = true ∧ zcs [zR (some p), zI x1] ≤ zmaxl 47) (gd (zob h (some p) 5) (zBack zY 55 4 7 [some (zR (some p)), some (zI x1), some (zI 0), none, none] [] (zC 47 [zR (some p), zI x1] h)))) from zGo 5 55 0 _ _ _).trans ?_
  refine (gd_t (by decide) _).trans ?_
  refine (gd_t (⟨rfl, Nat.le_of_ble_eq_true rfl, rfl, Nat.le_of_ble_eq_true rfl⟩) _).trans ?_
  refine (gd_t (⟨rfl, hp.1, (PS_n hp)⟩) _).trans ?_
  refine (congrArg (zBack zY 55 4 7 [some (zR (some p)), some (zI x1), some (zI 0), none, none] []) (e_P_parentOf hp)).trans ?_
  refine (show zY 55 7 [some (zR (some p)), some (zI x1), some (zI 0), none, none] [zI (f_P_parentOf h p x1)] h = gd (inR (0)) (zY 55 11 [some (zR (some p)), some (zI x1), some (zI 0), some (zI (f_P_parentOf h p x1)), some (zI 0)] [] h) from zGo 3 55 7 _ _ _).trans ?_
  refine (gd_t (by decide) _).trans ?_
  rfl
theorem q_P_depthOf_11 {h : zH} {p : Nat} {x1 : Int} {x2 : Int} {x3 : Int} {x4 : Int} (hp : PS h p) : zY 55 11 [some (zR (some p)), some (zI x1), some (zI x2), some (zI x3), some (zI x4)] [] h =
    if x4 < 24 then
      if x3 = (-1) then
        some (.inl (some (zI x2)), h)
      else
        gd (-2147483648 ≤ x2 + 1 ∧ x2 + 1 < 2147483648) (
        gd (-2147483648 ≤ x4 + 1 ∧ x4 + 1 < 2147483648) (
        zY 55 11 [some (zR (some p)), some (zI x1), some (zI (x2 + 1)), some (zI (f_P_parentOf h p x3)), some (zI (x4 + 1))] [] h))
    else
      some (.inl (some (zI x2)), h) := by
  refine (show zY 55 11 [some (zR (some p)), some (zI x1), some (zI x2), some (zI x3), some (zI x4)] [] h = gd (-128 ≤ (24 : Int) ∧ (24 : Int) < 128) (if x4 < 24 then zY 55 18 [some (zR (some p)), some (zI x1), some (zI x2), some (zI x3), some (zI x4)] [] h else zY 55 38 [some (zR (some p)), some (zI x1), some (zI x2), some (zI x3), some (zI x4)] [] h) from zGo 3 55 11 _ _ _).trans ?_
  refine (gd_t (by decide) _).trans ?_
  refine iteC (fun c0 => ?_) (fun c0 => ?_)
  · skip
    refine (show zY 55 18 [some (zR (some p)), some (zI x1), some (zI x2), some (zI x3), some (zI x4)] [] h = gd (inR (-1)) (if x3 = (-1) then zY 55 38 [some (zR (some p)), some (zI x1), some (zI x2), some (zI x3), some (zI x4)] [] h else zY 55 23 [some (zR (some p)), some (zI x1), some (zI x2), some (zI x3), some (zI x4)] [] h) from zGo 3 55 18 _ _ _).trans ?_
    refine (gd_t (by decide) _).trans ?_
    refine iteC (fun c1 => ?_) (fun c1 => ?_)
    · skip
      refine (show zY 55 38 [some (zR (some p)), some (zI x1), some (zI x2), some (zI x3), some (zI x4)] [] h = gd (([] : List zV).isEmpty = true ∧ (zrk 55 = 1 ∨ zrk 55 = 6 ∧ ((x2 : Int) = 0 ∨ (x2 : Int) = 1))) (some (.inl (some (zI x2)), h)) from zGo 2 55 38 _ _ _).trans ?_
      refine (gd_t (⟨rfl, Or.inl rfl⟩) _).trans ?_
      rfl
    · skip
      refine (show zY 55 23 [some (zR (some p)), some (zI x1), some (zI x2), some (zI x3), some (zI x4)] [] h = gd (inR (x2 + 1)) (gd (inR (1)) (gd (false = zctor 47 ∧ zcs [] ≤ 8 ∧ zrm 55 (zrf 47 + 1) (8 + (zmaxl 47 + 11) + zrl 47) = true ∧ zcs [zR (some p), zI x3] ≤ zmaxl 47) (gd (zob h (some p) 5) (zBack zY 55 28 31 [some (zR (some p)), some (zI x1), some (zI (x2 + 1)), some (zI x3), some (zI x4)] [] (zC 47 [zR (some p), zI x3] h))))) from zGo 4 55 23 _ _ _).trans ?_
      refine gd_c Iff.rfl (fun c2 => ?_)
      refine (gd_t (by decide) _).trans ?_
      refine (gd_t (⟨rfl, Nat.le_of_ble_eq_true rfl, rfl, Nat.le_of_ble_eq_true rfl⟩) _).trans ?_
      refine (gd_t (⟨rfl, hp.1, (PS_n hp)⟩) _).trans ?_
      refine (congrArg (zBack zY 55 28 31 [some (zR (some p)), some (zI x1), some (zI (x2 + 1)), some (zI x3), some (zI x4)] []) (e_P_parentOf hp)).trans ?_
      refine (show zY 55 31 [some (zR (some p)), some (zI x1), some (zI (x2 + 1)), some (zI x3), some (zI x4)] [zI (f_P_parentOf h p x3)] h = gd (inR (x4 + 1)) (gd (inR (1)) (zY 55 11 [some (zR (some p)), some (zI x1), some (zI (x2 + 1)), some (zI (f_P_parentOf h p x3)), some (zI (x4 + 1))] [] h)) from zGo 3 55 31 _ _ _).trans ?_
      refine gd_c Iff.rfl (fun c3 => ?_)
      refine (gd_t (by decide) _).trans ?_
      rfl
  · skip
    refine (show zY 55 38 [some (zR (some p)), some (zI x1), some (zI x2), some (zI x3), some (zI x4)] [] h = gd (([] : List zV).isEmpty = true ∧ (zrk 55 = 1 ∨ zrk 55 = 6 ∧ ((x2 : Int) = 0 ∨ (x2 : Int) = 1))) (some (.inl (some (zI x2)), h)) from zGo 2 55 38 _ _ _).trans ?_
    refine (gd_t (⟨rfl, Or.inl rfl⟩) _).trans ?_
    rfl
theorem q_P_inRow {h : zH} {p : Nat} {x1 : Int} (hp : PS h p) : zC 56 [zR (some p), zI x1] h =
    zY 56 7 [some (zR (some p)), some (zI x1), some (zI 0), some (zI x1), some (zI 0)] [] h := by
  refine (show zC 56 [zR (some p), zI x1] h = gd (inR (0)) (gd (inR (0)) (zY 56 7 [some (zR (some p)), some (zI x1), some (zI 0), some (zI x1), some (zI 0)] [] h)) from zGo 6 56 0 _ _ _).trans ?_
  refine (gd_t (by decide) _).trans ?_
  refine (gd_t (by decide) _).trans ?_
  rfl
theorem q_P_inRow_7 {h : zH} {p : Nat} {x1 : Int} {x2 : Int} {x3 : Int} {x4 : Int} (hp : PS h p) : zY 56 7 [some (zR (some p)), some (zI x1), some (zI x2), some (zI x3), some (zI x4)] [] h =
    if x4 < 24 then
      if x3 = (-1) then
        some (.inl (some (zI x2)), h)
      else
        gd (-2147483648 ≤ x2 + 1 ∧ x2 + 1 < 2147483648) (
        gd (-2147483648 ≤ x4 + 1 ∧ x4 + 1 < 2147483648) (
        zY 56 7 [some (zR (some p)), some (zI x1), some (zI (x2 + 1)), some (zI (f_P_nextOf h p x3)), some (zI (x4 + 1))] [] h))
    else
      some (.inl (some (zI x2)), h) := by
  refine (show zY 56 7 [some (zR (some p)), some (zI x1), some (zI x2), some (zI x3), some (zI x4)] [] h = gd (-128 ≤ (24 : Int) ∧ (24 : Int) < 128) (if x4 < 24 then zY 56 14 [some (zR (some p)), some (zI x1), some (zI x2), some (zI x3), some (zI x4)] [] h else zY 56 34 [some (zR (some p)), some (zI x1), some (zI x2), some (zI x3), some (zI x4)] [] h) from zGo 3 56 7 _ _ _).trans ?_
  refine (gd_t (by decide) _).trans ?_
  refine iteC (fun c0 => ?_) (fun c0 => ?_)
  · skip
    refine (show zY 56 14 [some (zR (some p)), some (zI x1), some (zI x2), some (zI x3), some (zI x4)] [] h = gd (inR (-1)) (if x3 = (-1) then zY 56 34 [some (zR (some p)), some (zI x1), some (zI x2), some (zI x3), some (zI x4)] [] h else zY 56 19 [some (zR (some p)), some (zI x1), some (zI x2), some (zI x3), some (zI x4)] [] h) from zGo 3 56 14 _ _ _).trans ?_
    refine (gd_t (by decide) _).trans ?_
    refine iteC (fun c1 => ?_) (fun c1 => ?_)
    · skip
      refine (show zY 56 34 [some (zR (some p)), some (zI x1), some (zI x2), some (zI x3), some (zI x4)] [] h = gd (([] : List zV).isEmpty = true ∧ (zrk 56 = 1 ∨ zrk 56 = 6 ∧ ((x2 : Int) = 0 ∨ (x2 : Int) = 1))) (some (.inl (some (zI x2)), h)) from zGo 2 56 34 _ _ _).trans ?_
      refine (gd_t (⟨rfl, Or.inl rfl⟩) _).trans ?_
      rfl
    · skip
      refine (show zY 56 19 [some (zR (some p)), some (zI x1), some (zI x2), some (zI x3), some (zI x4)] [] h = gd (inR (x2 + 1)) (gd (inR (1)) (gd (false = zctor 48 ∧ zcs [] ≤ 8 ∧ zrm 56 (zrf 48 + 1) (8 + (zmaxl 48 + 11) + zrl 48) = true ∧ zcs [zR (some p), zI x3] ≤ zmaxl 48) (gd (zob h (some p) 5) (zBack zY 56 24 27 [some (zR (some p)), some (zI x1), some (zI (x2 + 1)), some (zI x3), some (zI x4)] [] (zC 48 [zR (some p), zI x3] h))))) from zGo 4 56 19 _ _ _).trans ?_
      refine gd_c Iff.rfl (fun c2 => ?_)
      refine (gd_t (by decide) _).trans ?_
      refine (gd_t (⟨rfl, Nat.le_of_ble_eq_true rfl, rfl, Nat.le_of_ble_eq_true rfl⟩) _).trans ?_
      refine (gd_t (⟨rfl, hp.1, (PS_n hp)⟩) _).trans ?_
      refine (congrArg (zBack zY 56 24 27 [some (zR (some p)), some (zI x1), some (zI (x2 + 1)), some (zI x3), some (zI x4)] []) (e_P_nextOf hp)).trans ?_
      refine (show zY 56 27 [some (zR (some p)), some (zI x1), some (zI (x2 + 1)), some (zI x3), some (zI x4)] [zI (f_P_nextOf h p x3)] h = gd (inR (x4 + 1)) (gd (inR (1)) (zY 56 7 [some (zR (some p)), some (zI x1), some (zI (x2 + 1)), some (zI (f_P_nextOf h p x3)), some (zI (x4 + 1))] [] h)) from zGo 3 56 27 _ _ _).trans ?_
      refine gd_c Iff.rfl (fun c3 => ?_)
      refine (gd_t (by decide) _).trans ?_
      rfl
  · skip
    refine (show zY 56 34 [some (zR (some p)), some (zI x1), some (zI x2), some (zI x3), some (zI x4)] [] h = gd (([] : List zV).isEmpty = true ∧ (zrk 56 = 1 ∨ zrk 56 = 6 ∧ ((x2 : Int) = 0 ∨ (x2 : Int) = 1))) (some (.inl (some (zI x2)), h)) from zGo 2 56 34 _ _ _).trans ?_
    refine (gd_t (⟨rfl, Or.inl rfl⟩) _).trans ?_
    rfl
theorem q_V_filledHoles {h : zH} {v : Nat} {x1 : Int} (hv : VS h v) : zC 132 [zR (some v), zI x1] h =
    zY 132 4 [some (zR (some v)), some (zI x1), some (zI 0), some (zI 0)] [] h := by
  refine (show zC 132 [zR (some v), zI x1] h = gd (inR (0)) (gd (inR (0)) (zY 132 4 [some (zR (some v)), some (zI x1), some (zI 0), some (zI 0)] [] h)) from zGo 4 132 0 _ _ _).trans ?_
  refine (gd_t (by decide) _).trans ?_
  refine (gd_t (by decide) _).trans ?_
  rfl
theorem q_V_filledHoles_4 {h : zH} {v : Nat} {x1 : Int} {x2 : Int} {x3 : Int} (hv : VS h v) : zY 132 4 [some (zR (some v)), some (zI x1), some (zI x2), some (zI x3)] [] h =
    if x3 < x1 then
      if x3 < 24 then
        gd (0 ≤ x3 ∧ x3 < 24) (
        if (hI h (v + 3) x3.toNat) = (-1) then
          gd (-2147483648 ≤ x3 + 1 ∧ x3 + 1 < 2147483648) (
          zY 132 4 [some (zR (some v)), some (zI x1), some (zI x2), some (zI (x3 + 1))] [] h)
        else
          gd (-2147483648 ≤ x2 + 1 ∧ x2 + 1 < 2147483648) (
          gd (-2147483648 ≤ x3 + 1 ∧ x3 + 1 < 2147483648) (
          zY 132 4 [some (zR (some v)), some (zI x1), some (zI (x2 + 1)), some (zI (x3 + 1))] [] h)))
      else
        some (.inl (some (zI x2)), h)
    else
      some (.inl (some (zI x2)), h) := by
  refine (show zY 132 4 [some (zR (some v)), some (zI x1), some (zI x2), some (zI x3)] [] h = if x3 < x1 then zY 132 9 [some (zR (some v)), some (zI x1), some (zI x2), some (zI x3)] [] h else zY 132 34 [some (zR (some v)), some (zI x1), some (zI x2), some (zI x3)] [] h from zGo 3 132 4 _ _ _).trans ?_
  refine iteC (fun c0 => ?_) (fun c0 => ?_)
  · skip
    refine (show zY 132 9 [some (zR (some v)), some (zI x1), some (zI x2), some (zI x3)] [] h = gd (-128 ≤ (24 : Int) ∧ (24 : Int) < 128) (if x3 < 24 then zY 132 15 [some (zR (some v)), some (zI x1), some (zI x2), some (zI x3)] [] h else zY 132 34 [some (zR (some v)), some (zI x1), some (zI x2), some (zI x3)] [] h) from zGo 3 132 9 _ _ _).trans ?_
    refine (gd_t (by decide) _).trans ?_
    refine iteC (fun c1 => ?_) (fun c1 => ?_)
    · skip
      refine (show zY 132 15 [some (zR (some v)), some (zI x1), some (zI x2), some (zI x3)] [] h = gd (zob h (some v) 10) (zY 132 19 [some (zR (some v)), some (zI x1), some (zI x2), some (zI x3)] [zR (hR h v 5)] h) from zGo 2 132 15 _ _ _).trans ?_
      refine (gd_t (⟨rfl, hv.1, (VS_n hv)⟩) _).trans ?_
      refine (congrArg (fun rz => zY 132 19 [some (zR (some v)), some (zI x1), some (zI x2), some (zI x3)] (zR rz :: []) h) (VS_r hv 5 rfl)).trans ?_
      refine (show zY 132 19 [some (zR (some v)), some (zI x1), some (zI x2), some (zI x3)] [zR (some (v + 3))] h = gd (zok h (some (v + 3)) 22 x3) (gd (inR (-1)) (if (hI h (v + 3) x3.toNat) = (-1) then zY 132 28 [some (zR (some v)), some (zI x1), some (zI x2), some (zI x3)] [] h else zY 132 25 [some (zR (some v)), some (zI x1), some (zI x2), some (zI x3)] [] h)) from zGo 4 132 19 _ _ _).trans ?_
      refine gd_c (ci (VS_t hv 3 _ rfl rfl) (VS_l hv 3 rfl)) (fun c2 => ?_)
      refine (gd_t (by decide) _).trans ?_
      refine iteC (fun c3 => ?_) (fun c3 => ?_)
      · skip
        refine (show zY 132 28 [some (zR (some v)), some (zI x1), some (zI x2), some (zI x3)] [] h = gd (inR (x3 + 1)) (gd (inR (1)) (zY 132 4 [some (zR (some v)), some (zI x1), some (zI x2), some (zI (x3 + 1))] [] h)) from zGo 2 132 28 _ _ _).trans ?_
        refine gd_c Iff.rfl (fun c4 => ?_)
        refine (gd_t (by decide) _).trans ?_
        rfl
      · skip
        refine (show zY 132 25 [some (zR (some v)), some (zI x1), some (zI x2), some (zI x3)] [] h = gd (inR (x2 + 1)) (gd (inR (1)) (gd (inR (x3 + 1)) (gd (inR (1)) (zY 132 4 [some (zR (some v)), some (zI x1), some (zI (x2 + 1)), some (zI (x3 + 1))] [] h)))) from zGo 3 132 25 _ _ _).trans ?_
        refine gd_c Iff.rfl (fun c5 => ?_)
        refine (gd_t (by decide) _).trans ?_
        refine gd_c Iff.rfl (fun c6 => ?_)
        refine (gd_t (by decide) _).trans ?_
        rfl
    · skip
      refine (show zY 132 34 [some (zR (some v)), some (zI x1), some (zI x2), some (zI x3)] [] h = gd (([] : List zV).isEmpty = true ∧ (zrk 132 = 1 ∨ zrk 132 = 6 ∧ ((x2 : Int) = 0 ∨ (x2 : Int) = 1))) (some (.inl (some (zI x2)), h)) from zGo 2 132 34 _ _ _).trans ?_
      refine (gd_t (⟨rfl, Or.inl rfl⟩) _).trans ?_
      rfl
  · skip
    refine (show zY 132 34 [some (zR (some v)), some (zI x1), some (zI x2), some (zI x3)] [] h = gd (([] : List zV).isEmpty = true ∧ (zrk 132 = 1 ∨ zrk 132 = 6 ∧ ((x2 : Int) = 0 ∨ (x2 : Int) = 1))) (some (.inl (some (zI x2)), h)) from zGo 2 132 34 _ _ _).trans ?_
    refine (gd_t (⟨rfl, Or.inl rfl⟩) _).trans ?_
    rfl

