/-! The class: needs as conditions. -/
theorem q_Sh_giveUp {h : zH} {x1 : Int} (KC : KC h) : zC 118 [zR (some 135), zI x1] h =
    if x1 < 0 then
      some (.inl (none), h)
    else
      if x1 < 25 then
        some (.inl (none), (sI h 162 x1.toNat (-1)))
      else
        some (.inl (none), h) := by
  refine (show zC 118 [zR (some 135), zI x1] h = if x1 < 0 then zY 118 17 [some (zR (some 135)), some (zI x1)] [] h else zY 118 4 [some (zR (some 135)), some (zI x1)] [] h from zGo 2 118 0 _ _ _).trans ?_
  refine iteC (fun c0 => ?_) (fun c0 => ?_)
  · skip
    refine (show zY 118 17 [some (zR (some 135)), some (zI x1)] [] h = gd (([] : List zV).isEmpty = true ∧ zrk 118 = 0) (some (.inl (none), h)) from zGo 1 118 17 _ _ _).trans ?_
    refine (gd_t (⟨rfl, rfl⟩) _).trans ?_
    rfl
  · skip
    refine (show zY 118 4 [some (zR (some 135)), some (zI x1)] [] h = gd (-128 ≤ (25 : Int) ∧ (25 : Int) < 128) (if x1 < 25 then zY 118 10 [some (zR (some 135)), some (zI x1)] [] h else zY 118 17 [some (zR (some 135)), some (zI x1)] [] h) from zGo 3 118 4 _ _ _).trans ?_
    refine (gd_t (by decide) _).trans ?_
    refine iteC (fun c1 => ?_) (fun c1 => ?_)
    · skip
      refine (show zY 118 10 [some (zR (some 135)), some (zI x1)] [] h = gd (zob h (some 135) 9) (zY 118 14 [some (zR (some 135)), some (zI x1)] [zR (hR h 135 3)] h) from zGo 2 118 10 _ _ _).trans ?_
      refine (gd_t (⟨rfl, (PTC KC 135 _ rfl rfl), (PNC KC 135 rfl)⟩) _).trans ?_
      refine (congrArg (fun r => zY 118 14 [some (zR (some 135)), some (zI x1)] (zR r :: []) h) (PRC KC 135 3 _ rfl)).trans ?_
      refine (show zY 118 14 [some (zR (some 135)), some (zI x1)] [zR (some 162)] h = gd (inR (-1)) (gd (zokw h (some 162) 22 x1) (gd (([] : List zV).isEmpty = true ∧ zrk 118 = 0) (some (.inl (none), (sI h 162 x1.toNat (-1)))))) from zGo 4 118 14 _ _ _).trans ?_
      refine (gd_t (by decide) _).trans ?_
      refine (gd_t ((ciw (PTC KC 162 _ rfl rfl) (PNC KC 162 rfl) (PLC KC 162 25 rfl rfl)).2 (by omega)) _).trans ?_
      refine (gd_t (⟨rfl, rfl⟩) _).trans ?_
      rfl
    · skip
      refine (show zY 118 17 [some (zR (some 135)), some (zI x1)] [] h = gd (([] : List zV).isEmpty = true ∧ zrk 118 = 0) (some (.inl (none), h)) from zGo 1 118 17 _ _ _).trans ?_
      refine (gd_t (⟨rfl, rfl⟩) _).trans ?_
      rfl
theorem q_Sh_appendNode {h : zH} {x1 : Int} {x2 : Int} {a : Nat} (KC : KC h) (ra : hR h 136 x1.toNat = some a) (ta : hT h a = 21) (na : a < hN h) : zC 116 [zR (some 135), zI x1, zI x2] h =
    if (f_Sh_sizeOf h x1) < 200 then
      if (f_Sh_sizeOf h x1) < 0 then
        some (.inl (none), h)
      else
        if x1 < 0 then
          some (.inl (none), h)
        else
          if x1 < 25 then
            gd (0 ≤ (f_Sh_sizeOf h x1) ∧ (f_Sh_sizeOf h x1) < (hL h a : Int)) (
            gd (-2147483648 ≤ (f_Sh_sizeOf h x1) + 1 ∧ (f_Sh_sizeOf h x1) + 1 < 2147483648) (
            some (.inl (none), (sI (sI h a (f_Sh_sizeOf h x1).toNat (zi2b x2)) 162 x1.toNat ((f_Sh_sizeOf h x1) + 1)))))
          else
            some (.inl (none), h)
    else
      zBack zY 116 15 18 [some (zR (some 135)), some (zI x1), some (zI x2), some (zI (f_Sh_sizeOf h x1))] [] (zC 118 [zR (some 135), zI x1] h) := by
  refine (show zC 116 [zR (some 135), zI x1, zI x2] h = gd (false = zctor 117 ∧ zcs [] ≤ 8 ∧ zrm 116 (zrf 117 + 1) (8 + (zmaxl 117 + 11) + zrl 117) = true ∧ zcs [zR (some 135), zI x1] ≤ zmaxl 117) (gd (zob h (some 135) 9) (zBack zY 116 2 5 [some (zR (some 135)), some (zI x1), some (zI x2), none] [] (zC 117 [zR (some 135), zI x1] h))) from zGo 3 116 0 _ _ _).trans ?_
  refine (gd_t (⟨rfl, Nat.le_of_ble_eq_true rfl, rfl, Nat.le_of_ble_eq_true rfl⟩) _).trans ?_
  refine (gd_t (⟨rfl, (PTC KC 135 _ rfl rfl), (PNC KC 135 rfl)⟩) _).trans ?_
  refine (congrArg (zBack zY 116 2 5 [some (zR (some 135)), some (zI x1), some (zI x2), none] []) (e_Sh_sizeOf KC)).trans ?_
  refine (show zY 116 5 [some (zR (some 135)), some (zI x1), some (zI x2), none] [zI (f_Sh_sizeOf h x1)] h = gd (-32768 ≤ (200 : Int) ∧ (200 : Int) < 32768) (if (f_Sh_sizeOf h x1) < 200 then zY 116 21 [some (zR (some 135)), some (zI x1), some (zI x2), some (zI (f_Sh_sizeOf h x1))] [] h else zY 116 13 [some (zR (some 135)), some (zI x1), some (zI x2), some (zI (f_Sh_sizeOf h x1))] [] h) from zGo 4 116 5 _ _ _).trans ?_
  refine (gd_t (by decide) _).trans ?_
  refine iteC (fun c0 => ?_) (fun c0 => ?_)
  · skip
    refine (show zY 116 21 [some (zR (some 135)), some (zI x1), some (zI x2), some (zI (f_Sh_sizeOf h x1))] [] h = if (f_Sh_sizeOf h x1) < 0 then zY 116 54 [some (zR (some 135)), some (zI x1), some (zI x2), some (zI (f_Sh_sizeOf h x1))] [] h else zY 116 25 [some (zR (some 135)), some (zI x1), some (zI x2), some (zI (f_Sh_sizeOf h x1))] [] h from zGo 2 116 21 _ _ _).trans ?_
    refine iteC (fun c1 => ?_) (fun c1 => ?_)
    · skip
      refine (show zY 116 54 [some (zR (some 135)), some (zI x1), some (zI x2), some (zI (f_Sh_sizeOf h x1))] [] h = gd (([] : List zV).isEmpty = true ∧ zrk 116 = 0) (some (.inl (none), h)) from zGo 1 116 54 _ _ _).trans ?_
      refine (gd_t (⟨rfl, rfl⟩) _).trans ?_
      rfl
    · skip
      refine (show zY 116 25 [some (zR (some 135)), some (zI x1), some (zI x2), some (zI (f_Sh_sizeOf h x1))] [] h = if x1 < 0 then zY 116 54 [some (zR (some 135)), some (zI x1), some (zI x2), some (zI (f_Sh_sizeOf h x1))] [] h else zY 116 29 [some (zR (some 135)), some (zI x1), some (zI x2), some (zI (f_Sh_sizeOf h x1))] [] h from zGo 2 116 25 _ _ _).trans ?_
      refine iteC (fun c2 => ?_) (fun c2 => ?_)
      · skip
        refine (show zY 116 54 [some (zR (some 135)), some (zI x1), some (zI x2), some (zI (f_Sh_sizeOf h x1))] [] h = gd (([] : List zV).isEmpty = true ∧ zrk 116 = 0) (some (.inl (none), h)) from zGo 1 116 54 _ _ _).trans ?_
        refine (gd_t (⟨rfl, rfl⟩) _).trans ?_
        rfl
      · skip
        refine (show zY 116 29 [some (zR (some 135)), some (zI x1), some (zI x2), some (zI (f_Sh_sizeOf h x1))] [] h = gd (-128 ≤ (25 : Int) ∧ (25 : Int) < 128) (if x1 < 25 then zY 116 35 [some (zR (some 135)), some (zI x1), some (zI x2), some (zI (f_Sh_sizeOf h x1))] [] h else zY 116 54 [some (zR (some 135)), some (zI x1), some (zI x2), some (zI (f_Sh_sizeOf h x1))] [] h) from zGo 3 116 29 _ _ _).trans ?_
        refine (gd_t (by decide) _).trans ?_
        refine iteC (fun c3 => ?_) (fun c3 => ?_)
        · skip
          refine (show zY 116 35 [some (zR (some 135)), some (zI x1), some (zI x2), some (zI (f_Sh_sizeOf h x1))] [] h = gd (zob h (some 135) 9) (zY 116 39 [some (zR (some 135)), some (zI x1), some (zI x2), some (zI (f_Sh_sizeOf h x1))] [zR (hR h 135 2)] h) from zGo 2 116 35 _ _ _).trans ?_
          refine (gd_t (⟨rfl, (PTC KC 135 _ rfl rfl), (PNC KC 135 rfl)⟩) _).trans ?_
          refine (congrArg (fun r => zY 116 39 [some (zR (some 135)), some (zI x1), some (zI x2), some (zI (f_Sh_sizeOf h x1))] (zR r :: []) h) (PRC KC 135 2 _ rfl)).trans ?_
          refine (show zY 116 39 [some (zR (some 135)), some (zI x1), some (zI x2), some (zI (f_Sh_sizeOf h x1))] [zR (some 136)] h = gd (zokw h (some 136) 25 x1 ∨ zokw h (some 136) 26 x1 ∨ zokw h (some 136) 27 x1) (zY 116 41 [some (zR (some 135)), some (zI x1), some (zI x2), some (zI (f_Sh_sizeOf h x1))] [zR (hR h 136 x1.toNat)] h) from zGo 2 116 39 _ _ _).trans ?_
          refine (gd_t ((cia27 (PTC KC 136 _ rfl rfl) (PNC KC 136 rfl) (PLC KC 136 25 rfl rfl)).2 (by omega)) _).trans ?_
          refine (congrArg (fun r => zY 116 41 [some (zR (some 135)), some (zI x1), some (zI x2), some (zI (f_Sh_sizeOf h x1))] (zR r :: []) h) ra).trans ?_
          refine (show zY 116 41 [some (zR (some 135)), some (zI x1), some (zI x2), some (zI (f_Sh_sizeOf h x1))] [zR (some a)] h = gd (zokw h (some a) 21 (f_Sh_sizeOf h x1) ∨ zokw h (some a) 20 (f_Sh_sizeOf h x1)) (gd (-128 ≤ ((zi2b x2) : Int) ∧ ((zi2b x2) : Int) < 128 ∧ (hT h (zdr (some a)) = 20 → ((zi2b x2) : Int) = 0 ∨ ((zi2b x2) : Int) = 1)) (gd (zob (sI h a (f_Sh_sizeOf h x1).toNat (zi2b x2)) (some 135) 9) (zY 116 49 [some (zR (some 135)), some (zI x1), some (zI x2), some (zI (f_Sh_sizeOf h x1))] [zR (hR h 135 3)] (sI h a (f_Sh_sizeOf h x1).toNat (zi2b x2))))) from zGo 6 116 41 _ _ _).trans ?_
          refine gd_c (cib21 ta na rfl) (fun c4 => ?_)
          refine (gd_t (⟨zi2b_l _, zi2b_u _, fun e => absurd (e.symm.trans ta) (by decide)⟩) _).trans ?_
          refine (gd_t (⟨rfl, (PTC KC 135 _ rfl rfl), (PNC KC 135 rfl)⟩) _).trans ?_
          refine (congrArg (fun r => zY 116 49 [some (zR (some 135)), some (zI x1), some (zI x2), some (zI (f_Sh_sizeOf h x1))] (zR r :: []) (sI h a (f_Sh_sizeOf h x1).toNat (zi2b x2))) (PRC KC 135 3 _ rfl)).trans ?_
          refine (show zY 116 49 [some (zR (some 135)), some (zI x1), some (zI x2), some (zI (f_Sh_sizeOf h x1))] [zR (some 162)] (sI h a (f_Sh_sizeOf h x1).toNat (zi2b x2)) = gd (inR (1)) (gd (inR ((f_Sh_sizeOf h x1) + 1)) (gd (zokw (sI h a (f_Sh_sizeOf h x1).toNat (zi2b x2)) (some 162) 22 x1) (gd (([] : List zV).isEmpty = true ∧ zrk 116 = 0) (some (.inl (none), (sI (sI h a (f_Sh_sizeOf h x1).toNat (zi2b x2)) 162 x1.toNat ((f_Sh_sizeOf h x1) + 1))))))) from zGo 6 116 49 _ _ _).trans ?_
          refine (gd_t (by decide) _).trans ?_
          refine gd_c Iff.rfl (fun c5 => ?_)
          refine (gd_t ((ciw (PTC KC 162 _ rfl rfl) (PNC KC 162 rfl) (PLC KC 162 25 rfl rfl)).2 (by omega)) _).trans ?_
          refine (gd_t (⟨rfl, rfl⟩) _).trans ?_
          rfl
        · skip
          refine (show zY 116 54 [some (zR (some 135)), some (zI x1), some (zI x2), some (zI (f_Sh_sizeOf h x1))] [] h = gd (([] : List zV).isEmpty = true ∧ zrk 116 = 0) (some (.inl (none), h)) from zGo 1 116 54 _ _ _).trans ?_
          refine (gd_t (⟨rfl, rfl⟩) _).trans ?_
          rfl
  · skip
    refine (show zY 116 13 [some (zR (some 135)), some (zI x1), some (zI x2), some (zI (f_Sh_sizeOf h x1))] [] h = gd (false = zctor 118 ∧ zcs [] ≤ 8 ∧ zrm 116 (zrf 118 + 1) (8 + (zmaxl 118 + 11) + zrl 118) = true ∧ zcs [zR (some 135), zI x1] ≤ zmaxl 118) (gd (zob h (some 135) 9) (zBack zY 116 15 18 [some (zR (some 135)), some (zI x1), some (zI x2), some (zI (f_Sh_sizeOf h x1))] [] (zC 118 [zR (some 135), zI x1] h))) from zGo 3 116 13 _ _ _).trans ?_
    refine (gd_t (⟨rfl, Nat.le_of_ble_eq_true rfl, rfl, Nat.le_of_ble_eq_true rfl⟩) _).trans ?_
    refine (gd_t (⟨rfl, (PTC KC 135 _ rfl rfl), (PNC KC 135 rfl)⟩) _).trans ?_
    rfl
theorem q_Sh_appendNode_r18 {h : zH} {x1 : Int} {x2 : Int} {x3 : Int} (KC : KC h) : zBack zY 116 15 18 [some (zR (some 135)), some (zI x1), some (zI x2), some (zI x3)] [] (some (.inl (none), h)) =
    some (.inl (none), h) := by
  refine (show zBack zY 116 15 18 [some (zR (some 135)), some (zI x1), some (zI x2), some (zI x3)] [] (some (.inl (none), h)) = gd (([] : List zV).isEmpty = true ∧ zrk 116 = 0) (some (.inl (none), h)) from zGo 2 116 18 _ _ _).trans ?_
  refine (gd_t (⟨rfl, rfl⟩) _).trans ?_
  rfl
theorem q_Sh_appendFormula {h : zH} {x1 : Int} {f : Nat} (KC : KC h) (hf : FS h f) : zC 115 [zR (some 135), zI x1, zR (some f)] h =
    zY 115 2 [some (zR (some 135)), some (zI x1), some (zR (some f)), some (zI 0)] [] h := by
  refine (show zC 115 [zR (some 135), zI x1, zR (some f)] h = gd (inR (0)) (zY 115 2 [some (zR (some 135)), some (zI x1), some (zR (some f)), some (zI 0)] [] h) from zGo 2 115 0 _ _ _).trans ?_
  refine (gd_t (by decide) _).trans ?_
  rfl
theorem q_Sh_appendFormula_2 {h : zH} {x1 : Int} {f : Nat} {x3 : Int} (KC : KC h) (hf : FS h f) : zY 115 2 [some (zR (some 135)), some (zI x1), some (zR (some f)), some (zI x3)] [] h =
    if x3 < (hL h (f + 1) : Int) then
      gd (0 ≤ x3 ∧ x3 < (hL h (f + 1) : Int)) (
      zBack zY 115 19 22 [some (zR (some 135)), some (zI x1), some (zR (some f)), some (zI x3)] [] (zC 116 [zR (some 135), zI x1, zI (hI h (f + 1) x3.toNat)] h))
    else
      some (.inl (none), h) := by
  refine (show zY 115 2 [some (zR (some 135)), some (zI x1), some (zR (some f)), some (zI x3)] [] h = gd (zob h (some f) 2) (zY 115 7 [some (zR (some 135)), some (zI x1), some (zR (some f)), some (zI x3)] [zR (hR h f 0), zI x3] h) from zGo 3 115 2 _ _ _).trans ?_
  refine (gd_t (⟨rfl, hf.1, (FS_n hf)⟩) _).trans ?_
  refine (congrArg (fun r => zY 115 7 [some (zR (some 135)), some (zI x1), some (zR (some f)), some (zI x3)] (zR r :: zI x3 :: []) h) hf.2.1).trans ?_
  refine (show zY 115 7 [some (zR (some 135)), some (zI x1), some (zR (some f)), some (zI x3)] [zR (some (f + 1)), zI x3] h = gd ((some (f + 1)).isSome = true ∧ 20 ≤ hT h (zdr (some (f + 1))) ∧ hT h (zdr (some (f + 1))) < 40) (if x3 < (hL h (f + 1) : Int) then zY 115 11 [some (zR (some 135)), some (zI x1), some (zR (some f)), some (zI x3)] [] h else zY 115 28 [some (zR (some 135)), some (zI x1), some (zR (some f)), some (zI x3)] [] h) from zGo 2 115 7 _ _ _).trans ?_
  refine (gd_t (al hf.2.2.1 (by decide) (by decide)) _).trans ?_
  refine iteC (fun c0 => ?_) (fun c0 => ?_)
  · skip
    refine (show zY 115 11 [some (zR (some 135)), some (zI x1), some (zR (some f)), some (zI x3)] [] h = gd (zob h (some f) 2) (zY 115 17 [some (zR (some 135)), some (zI x1), some (zR (some f)), some (zI x3)] [zR (hR h f 0), zI x1, zR (some 135)] h) from zGo 4 115 11 _ _ _).trans ?_
    refine (gd_t (⟨rfl, hf.1, (FS_n hf)⟩) _).trans ?_
    refine (congrArg (fun r => zY 115 17 [some (zR (some 135)), some (zI x1), some (zR (some f)), some (zI x3)] (zR r :: zI x1 :: zR (some 135) :: []) h) hf.2.1).trans ?_
    refine (show zY 115 17 [some (zR (some 135)), some (zI x1), some (zR (some f)), some (zI x3)] [zR (some (f + 1)), zI x1, zR (some 135)] h = gd (zokw h (some (f + 1)) 21 x3 ∨ zokw h (some (f + 1)) 20 x3) (gd (false = zctor 116 ∧ zcs [] ≤ 8 ∧ zrm 115 (zrf 116 + 1) (8 + (zmaxl 116 + 11) + zrl 116) = true ∧ zcs [zR (some 135), zI x1, zI (hI h (f + 1) x3.toNat)] ≤ zmaxl 116) (gd (zob h (some 135) 9) (zBack zY 115 19 22 [some (zR (some 135)), some (zI x1), some (zR (some f)), some (zI x3)] [] (zC 116 [zR (some 135), zI x1, zI (hI h (f + 1) x3.toNat)] h)))) from zGo 3 115 17 _ _ _).trans ?_
    refine gd_c (cib21 hf.2.2.1 (FS_n1 hf) rfl) (fun c1 => ?_)
    refine (gd_t (⟨rfl, Nat.le_of_ble_eq_true rfl, rfl, Nat.le_of_ble_eq_true rfl⟩) _).trans ?_
    refine (gd_t (⟨rfl, (PTC KC 135 _ rfl rfl), (PNC KC 135 rfl)⟩) _).trans ?_
    rfl
  · skip
    refine (show zY 115 28 [some (zR (some 135)), some (zI x1), some (zR (some f)), some (zI x3)] [] h = gd (([] : List zV).isEmpty = true ∧ zrk 115 = 0) (some (.inl (none), h)) from zGo 1 115 28 _ _ _).trans ?_
    refine (gd_t (⟨rfl, rfl⟩) _).trans ?_
    rfl
theorem q_Sh_appendFormula_r22 {h : zH} {x1 : Int} {f : Nat} {x3 : Int} (KC : KC h) (hf : FS h f) : zBack zY 115 19 22 [some (zR (some 135)), some (zI x1), some (zR (some f)), some (zI x3)] [] (some (.inl (none), h)) =
    gd (-2147483648 ≤ x3 + 1 ∧ x3 + 1 < 2147483648) (
    zY 115 2 [some (zR (some 135)), some (zI x1), some (zR (some f)), some (zI (x3 + 1))] [] h) := by
  refine (show zBack zY 115 19 22 [some (zR (some 135)), some (zI x1), some (zR (some f)), some (zI x3)] [] (some (.inl (none), h)) = gd (inR (x3 + 1)) (gd (inR (1)) (zY 115 2 [some (zR (some 135)), some (zI x1), some (zR (some f)), some (zI (x3 + 1))] [] h)) from zGo 2 115 22 _ _ _).trans ?_
  refine gd_c Iff.rfl (fun c0 => ?_)
  refine (gd_t (by decide) _).trans ?_
  rfl
theorem q_Sh_appendRow {h : zH} {x1 : Int} {x2 : Int} {a : Nat} (KC : KC h) (ra : (f_Sh_rowOf h x2) = some a) (ta : hT h a = 21) (na : a < hN h) : zC 121 [zR (some 135), zI x1, zI x2] h =
    if (f_Sh_sizeOf h x2) = (-1) then
      zBack zY 121 11 14 [some (zR (some 135)), some (zI x1), some (zI x2), none, none] [] (zC 118 [zR (some 135), zI x1] h)
    else
      zY 121 24 [some (zR (some 135)), some (zI x1), some (zI x2), some (zR (some a)), some (zI 0)] [] h := by
  refine (show zC 121 [zR (some 135), zI x1, zI x2] h = gd (false = zctor 117 ∧ zcs [] ≤ 8 ∧ zrm 121 (zrf 117 + 1) (8 + (zmaxl 117 + 11) + zrl 117) = true ∧ zcs [zR (some 135), zI x2] ≤ zmaxl 117) (gd (zob h (some 135) 9) (zBack zY 121 2 5 [some (zR (some 135)), some (zI x1), some (zI x2), none, none] [] (zC 117 [zR (some 135), zI x2] h))) from zGo 3 121 0 _ _ _).trans ?_
  refine (gd_t (⟨rfl, Nat.le_of_ble_eq_true rfl, rfl, Nat.le_of_ble_eq_true rfl⟩) _).trans ?_
  refine (gd_t (⟨rfl, (PTC KC 135 _ rfl rfl), (PNC KC 135 rfl)⟩) _).trans ?_
  refine (congrArg (zBack zY 121 2 5 [some (zR (some 135)), some (zI x1), some (zI x2), none, none] []) (e_Sh_sizeOf KC)).trans ?_
  refine (show zY 121 5 [some (zR (some 135)), some (zI x1), some (zI x2), none, none] [zI (f_Sh_sizeOf h x2)] h = gd (inR (-1)) (if (f_Sh_sizeOf h x2) = (-1) then zY 121 9 [some (zR (some 135)), some (zI x1), some (zI x2), none, none] [] h else zY 121 15 [some (zR (some 135)), some (zI x1), some (zI x2), none, none] [] h) from zGo 2 121 5 _ _ _).trans ?_
  refine (gd_t (by decide) _).trans ?_
  refine iteC (fun c0 => ?_) (fun c0 => ?_)
  · skip
    refine (show zY 121 9 [some (zR (some 135)), some (zI x1), some (zI x2), none, none] [] h = gd (false = zctor 118 ∧ zcs [] ≤ 8 ∧ zrm 121 (zrf 118 + 1) (8 + (zmaxl 118 + 11) + zrl 118) = true ∧ zcs [zR (some 135), zI x1] ≤ zmaxl 118) (gd (zob h (some 135) 9) (zBack zY 121 11 14 [some (zR (some 135)), some (zI x1), some (zI x2), none, none] [] (zC 118 [zR (some 135), zI x1] h))) from zGo 3 121 9 _ _ _).trans ?_
    refine (gd_t (⟨rfl, Nat.le_of_ble_eq_true rfl, rfl, Nat.le_of_ble_eq_true rfl⟩) _).trans ?_
    refine (gd_t (⟨rfl, (PTC KC 135 _ rfl rfl), (PNC KC 135 rfl)⟩) _).trans ?_
    rfl
  · skip
    refine (show zY 121 15 [some (zR (some 135)), some (zI x1), some (zI x2), none, none] [] h = gd (false = zctor 122 ∧ zcs [] ≤ 8 ∧ zrm 121 (zrf 122 + 1) (8 + (zmaxl 122 + 11) + zrl 122) = true ∧ zcs [zR (some 135), zI x2] ≤ zmaxl 122) (gd (zob h (some 135) 9) (zBack zY 121 17 20 [some (zR (some 135)), some (zI x1), some (zI x2), none, none] [] (zC 122 [zR (some 135), zI x2] h))) from zGo 3 121 15 _ _ _).trans ?_
    refine (gd_t (⟨rfl, Nat.le_of_ble_eq_true rfl, rfl, Nat.le_of_ble_eq_true rfl⟩) _).trans ?_
    refine (gd_t (⟨rfl, (PTC KC 135 _ rfl rfl), (PNC KC 135 rfl)⟩) _).trans ?_
    refine (congrArg (zBack zY 121 17 20 [some (zR (some 135)), some (zI x1), some (zI x2), none, none] []) (e_Sh_rowOf KC)).trans ?_
    refine (congrArg (fun r => zBack zY 121 17 20 [some (zR (some 135)), some (zI x1), some (zI x2), none, none] [] (some (.inl (some (zR r)), h))) ra).trans ?_
    refine (show zY 121 20 [some (zR (some 135)), some (zI x1), some (zI x2), none, none] [zR (some a)] h = gd (inR (0)) (zY 121 24 [some (zR (some 135)), some (zI x1), some (zI x2), some (zR (some a)), some (zI 0)] [] h) from zGo 3 121 20 _ _ _).trans ?_
    refine (gd_t (by decide) _).trans ?_
    rfl
theorem q_Sh_appendRow_r14 {h : zH} {x1 : Int} {x2 : Int} (KC : KC h) : zBack zY 121 11 14 [some (zR (some 135)), some (zI x1), some (zI x2), none, none] [] (some (.inl (none), h)) =
    some (.inl (none), h) := by
  refine (show zBack zY 121 11 14 [some (zR (some 135)), some (zI x1), some (zI x2), none, none] [] (some (.inl (none), h)) = gd (([] : List zV).isEmpty = true ∧ zrk 121 = 0) (some (.inl (none), h)) from zGo 1 121 14 _ _ _).trans ?_
  refine (gd_t (⟨rfl, rfl⟩) _).trans ?_
  rfl
theorem q_Sh_appendRow_24 {h : zH} {x1 : Int} {x2 : Int} {a3 : Nat} {x4 : Int} (KC : KC h) (ta3 : hT h a3 = 21) (na3 : a3 < hN h) : zY 121 24 [some (zR (some 135)), some (zI x1), some (zI x2), some (zR (some a3)), some (zI x4)] [] h =
    if x4 < (f_Sh_sizeOf h x2) then
      if x4 < (hL h a3 : Int) then
        gd (0 ≤ x4 ∧ x4 < (hL h a3 : Int)) (
        zBack zY 121 47 50 [some (zR (some 135)), some (zI x1), some (zI x2), some (zR (some a3)), some (zI x4)] [] (zC 116 [zR (some 135), zI x1, zI (hI h a3 x4.toNat)] h))
      else
        some (.inl (none), h)
    else
      some (.inl (none), h) := by
  refine (show zY 121 24 [some (zR (some 135)), some (zI x1), some (zI x2), some (zR (some a3)), some (zI x4)] [] h = gd (false = zctor 117 ∧ zcs [zI x4] ≤ 8 ∧ zrm 121 (zrf 117 + 1) (8 + (zmaxl 117 + 11) + zrl 117) = true ∧ zcs [zR (some 135), zI x2] ≤ zmaxl 117) (gd (zob h (some 135) 9) (zBack zY 121 28 31 [some (zR (some 135)), some (zI x1), some (zI x2), some (zR (some a3)), some (zI x4)] [zI x4] (zC 117 [zR (some 135), zI x2] h))) from zGo 4 121 24 _ _ _).trans ?_
  refine (gd_t (⟨rfl, Nat.le_of_ble_eq_true rfl, rfl, Nat.le_of_ble_eq_true rfl⟩) _).trans ?_
  refine (gd_t (⟨rfl, (PTC KC 135 _ rfl rfl), (PNC KC 135 rfl)⟩) _).trans ?_
  refine (congrArg (zBack zY 121 28 31 [some (zR (some 135)), some (zI x1), some (zI x2), some (zR (some a3)), some (zI x4)] [zI x4]) (e_Sh_sizeOf KC)).trans ?_
  refine (show zY 121 31 [some (zR (some 135)), some (zI x1), some (zI x2), some (zR (some a3)), some (zI x4)] [zI (f_Sh_sizeOf h x2), zI x4] h = if x4 < (f_Sh_sizeOf h x2) then zY 121 34 [some (zR (some 135)), some (zI x1), some (zI x2), some (zR (some a3)), some (zI x4)] [] h else zY 121 56 [some (zR (some 135)), some (zI x1), some (zI x2), some (zR (some a3)), some (zI x4)] [] h from zGo 1 121 31 _ _ _).trans ?_
  refine iteC (fun c0 => ?_) (fun c0 => ?_)
  · skip
    refine (show zY 121 34 [some (zR (some 135)), some (zI x1), some (zI x2), some (zR (some a3)), some (zI x4)] [] h = gd ((some a3).isSome = true ∧ 20 ≤ hT h (zdr (some a3)) ∧ hT h (zdr (some a3)) < 40) (if x4 < (hL h a3 : Int) then zY 121 41 [some (zR (some 135)), some (zI x1), some (zI x2), some (zR (some a3)), some (zI x4)] [] h else zY 121 56 [some (zR (some 135)), some (zI x1), some (zI x2), some (zR (some a3)), some (zI x4)] [] h) from zGo 4 121 34 _ _ _).trans ?_
    refine (gd_t (al ta3 (by decide) (by decide)) _).trans ?_
    refine iteC (fun c1 => ?_) (fun c1 => ?_)
    · skip
      refine (show zY 121 41 [some (zR (some 135)), some (zI x1), some (zI x2), some (zR (some a3)), some (zI x4)] [] h = gd (zokw h (some a3) 21 x4 ∨ zokw h (some a3) 20 x4) (gd (false = zctor 116 ∧ zcs [] ≤ 8 ∧ zrm 121 (zrf 116 + 1) (8 + (zmaxl 116 + 11) + zrl 116) = true ∧ zcs [zR (some 135), zI x1, zI (hI h a3 x4.toNat)] ≤ zmaxl 116) (gd (zob h (some 135) 9) (zBack zY 121 47 50 [some (zR (some 135)), some (zI x1), some (zI x2), some (zR (some a3)), some (zI x4)] [] (zC 116 [zR (some 135), zI x1, zI (hI h a3 x4.toNat)] h)))) from zGo 6 121 41 _ _ _).trans ?_
      refine gd_c (cib21 ta3 na3 rfl) (fun c2 => ?_)
      refine (gd_t (⟨rfl, Nat.le_of_ble_eq_true rfl, rfl, Nat.le_of_ble_eq_true rfl⟩) _).trans ?_
      refine (gd_t (⟨rfl, (PTC KC 135 _ rfl rfl), (PNC KC 135 rfl)⟩) _).trans ?_
      rfl
    · skip
      refine (show zY 121 56 [some (zR (some 135)), some (zI x1), some (zI x2), some (zR (some a3)), some (zI x4)] [] h = gd (([] : List zV).isEmpty = true ∧ zrk 121 = 0) (some (.inl (none), h)) from zGo 1 121 56 _ _ _).trans ?_
      refine (gd_t (⟨rfl, rfl⟩) _).trans ?_
      rfl
  · skip
    refine (show zY 121 56 [some (zR (some 135)), some (zI x1), some (zI x2), some (zR (some a3)), some (zI x4)] [] h = gd (([] : List zV).isEmpty = true ∧ zrk 121 = 0) (some (.inl (none), h)) from zGo 1 121 56 _ _ _).trans ?_
    refine (gd_t (⟨rfl, rfl⟩) _).trans ?_
    rfl
theorem q_Sh_appendRow_r50 {h : zH} {x1 : Int} {x2 : Int} {a3 : Nat} {x4 : Int} (KC : KC h) (ta3 : hT h a3 = 21) (na3 : a3 < hN h) : zBack zY 121 47 50 [some (zR (some 135)), some (zI x1), some (zI x2), some (zR (some a3)), some (zI x4)] [] (some (.inl (none), h)) =
    gd (-2147483648 ≤ x4 + 1 ∧ x4 + 1 < 2147483648) (
    zY 121 24 [some (zR (some 135)), some (zI x1), some (zI x2), some (zR (some a3)), some (zI (x4 + 1))] [] h) := by
  refine (show zBack zY 121 47 50 [some (zR (some 135)), some (zI x1), some (zI x2), some (zR (some a3)), some (zI x4)] [] (some (.inl (none), h)) = gd (inR (x4 + 1)) (gd (inR (1)) (zY 121 24 [some (zR (some 135)), some (zI x1), some (zI x2), some (zR (some a3)), some (zI (x4 + 1))] [] h)) from zGo 2 121 50 _ _ _).trans ?_
  refine gd_c Iff.rfl (fun c0 => ?_)
  refine (gd_t (by decide) _).trans ?_
  rfl
theorem q_Sh_writeBranch {h : zH} {x1 : Int} {p : Nat} {f : Nat} (KC : KC h) (rp : hR h 135 1 = some p) (hp : PS h p) (rf : (f_P_partOf h p x1) = some f) (hf : FS h f) : zC 119 [zR (some 135), zI x1] h =
    zBack zY 119 13 16 [some (zR (some 135)), some (zI x1), some (zR (some f))] [] (zC 116 [zR (some 135), zI x1, zI 16] h) := by
  refine (show zC 119 [zR (some 135), zI x1] h = gd (zob h (some 135) 9) (zY 119 4 [some (zR (some 135)), some (zI x1), none] [zR (hR h 135 1)] h) from zGo 2 119 0 _ _ _).trans ?_
  refine (gd_t (⟨rfl, (PTC KC 135 _ rfl rfl), (PNC KC 135 rfl)⟩) _).trans ?_
  refine (congrArg (fun r => zY 119 4 [some (zR (some 135)), some (zI x1), none] (zR r :: []) h) rp).trans ?_
  refine (show zY 119 4 [some (zR (some 135)), some (zI x1), none] [zR (some p)] h = gd (false = zctor 52 ∧ zcs [] ≤ 8 ∧ zrm 119 (zrf 52 + 1) (8 + (zmaxl 52 + 11) + zrl 52) = true ∧ zcs [zR (some p), zI x1] ≤ zmaxl 52) (gd (zob h (some p) 5) (zBack zY 119 5 8 [some (zR (some 135)), some (zI x1), none] [] (zC 52 [zR (some p), zI x1] h))) from zGo 2 119 4 _ _ _).trans ?_
  refine (gd_t (⟨rfl, Nat.le_of_ble_eq_true rfl, rfl, Nat.le_of_ble_eq_true rfl⟩) _).trans ?_
  refine (gd_t (⟨rfl, hp.1, (PS_n hp)⟩) _).trans ?_
  refine (congrArg (zBack zY 119 5 8 [some (zR (some 135)), some (zI x1), none] []) (e_P_partOf hp)).trans ?_
  refine (congrArg (fun r => zBack zY 119 5 8 [some (zR (some 135)), some (zI x1), none] [] (some (.inl (some (zR r)), h))) rf).trans ?_
  refine (show zY 119 8 [some (zR (some 135)), some (zI x1), none] [zR (some f)] h = gd (-128 ≤ (16 : Int) ∧ (16 : Int) < 128) (gd (false = zctor 116 ∧ zcs [] ≤ 8 ∧ zrm 119 (zrf 116 + 1) (8 + (zmaxl 116 + 11) + zrl 116) = true ∧ zcs [zR (some 135), zI x1, zI 16] ≤ zmaxl 116) (gd (zob h (some 135) 9) (zBack zY 119 13 16 [some (zR (some 135)), some (zI x1), some (zR (some f))] [] (zC 116 [zR (some 135), zI x1, zI 16] h)))) from zGo 5 119 8 _ _ _).trans ?_
  refine (gd_t (by decide) _).trans ?_
  refine (gd_t (⟨rfl, Nat.le_of_ble_eq_true rfl, rfl, Nat.le_of_ble_eq_true rfl⟩) _).trans ?_
  refine (gd_t (⟨rfl, (PTC KC 135 _ rfl rfl), (PNC KC 135 rfl)⟩) _).trans ?_
  rfl
theorem q_Sh_writeBranch_r16 {h : zH} {x1 : Int} {f2 : Nat} (KC : KC h) (hf2 : FS h f2) : zBack zY 119 13 16 [some (zR (some 135)), some (zI x1), some (zR (some f2))] [] (some (.inl (none), h)) =
    zBack zY 119 20 23 [some (zR (some 135)), some (zI x1), some (zR (some f2))] [] (zC 116 [zR (some 135), zI x1, zI 15] h) := by
  refine (show zBack zY 119 13 16 [some (zR (some 135)), some (zI x1), some (zR (some f2))] [] (some (.inl (none), h)) = gd (-128 ≤ (15 : Int) ∧ (15 : Int) < 128) (gd (false = zctor 116 ∧ zcs [] ≤ 8 ∧ zrm 119 (zrf 116 + 1) (8 + (zmaxl 116 + 11) + zrl 116) = true ∧ zcs [zR (some 135), zI x1, zI 15] ≤ zmaxl 116) (gd (zob h (some 135) 9) (zBack zY 119 20 23 [some (zR (some 135)), some (zI x1), some (zR (some f2))] [] (zC 116 [zR (some 135), zI x1, zI 15] h)))) from zGo 4 119 16 _ _ _).trans ?_
  refine (gd_t (by decide) _).trans ?_
  refine (gd_t (⟨rfl, Nat.le_of_ble_eq_true rfl, rfl, Nat.le_of_ble_eq_true rfl⟩) _).trans ?_
  refine (gd_t (⟨rfl, (PTC KC 135 _ rfl rfl), (PNC KC 135 rfl)⟩) _).trans ?_
  rfl
theorem q_Sh_writeBranch_r23 {h : zH} {x1 : Int} {f2 : Nat} (KC : KC h) (hf2 : FS h f2) : zBack zY 119 20 23 [some (zR (some 135)), some (zI x1), some (zR (some f2))] [] (some (.inl (none), h)) =
    zBack zY 119 26 29 [some (zR (some 135)), some (zI x1), some (zR (some f2))] [] (zC 115 [zR (some 135), zI x1, zR (some f2)] h) := by
  refine (show zBack zY 119 20 23 [some (zR (some 135)), some (zI x1), some (zR (some f2))] [] (some (.inl (none), h)) = gd (false = zctor 115 ∧ zcs [] ≤ 8 ∧ zrm 119 (zrf 115 + 1) (8 + (zmaxl 115 + 11) + zrl 115) = true ∧ zcs [zR (some 135), zI x1, zR (some f2)] ≤ zmaxl 115) (gd (zob h (some 135) 9) (zBack zY 119 26 29 [some (zR (some 135)), some (zI x1), some (zR (some f2))] [] (zC 115 [zR (some 135), zI x1, zR (some f2)] h))) from zGo 4 119 23 _ _ _).trans ?_
  refine (gd_t (⟨rfl, Nat.le_of_ble_eq_true rfl, rfl, Nat.le_of_ble_eq_true rfl⟩) _).trans ?_
  refine (gd_t (⟨rfl, (PTC KC 135 _ rfl rfl), (PNC KC 135 rfl)⟩) _).trans ?_
  rfl
theorem q_Sh_writeBranch_r29 {h : zH} {x1 : Int} {f2 : Nat} {p : Nat} (KC : KC h) (hf2 : FS h f2) (rp : hR h 135 1 = some p) (hp : PS h p) : zBack zY 119 26 29 [some (zR (some 135)), some (zI x1), some (zR (some f2))] [] (some (.inl (none), h)) =
    zBack zY 119 43 46 [some (zR (some 135)), some (zI x1), some (zR (some f2))] [] (zC 121 [zR (some 135), zI x1, zI (f_Sh_rowAt (f_P_entry h p x1 1))] h) := by
  refine (show zBack zY 119 26 29 [some (zR (some 135)), some (zI x1), some (zR (some f2))] [] (some (.inl (none), h)) = gd (zob h (some 135) 9) (zY 119 35 [some (zR (some 135)), some (zI x1), some (zR (some f2))] [zR (hR h 135 1), zI x1, zR (some 135)] h) from zGo 4 119 29 _ _ _).trans ?_
  refine (gd_t (⟨rfl, (PTC KC 135 _ rfl rfl), (PNC KC 135 rfl)⟩) _).trans ?_
  refine (congrArg (fun r => zY 119 35 [some (zR (some 135)), some (zI x1), some (zR (some f2))] (zR r :: zI x1 :: zR (some 135) :: []) h) rp).trans ?_
  refine (show zY 119 35 [some (zR (some 135)), some (zI x1), some (zR (some f2))] [zR (some p), zI x1, zR (some 135)] h = gd (inR (1)) (gd (false = zctor 54 ∧ zcs [zI x1, zR (some 135)] ≤ 8 ∧ zrm 119 (zrf 54 + 1) (8 + (zmaxl 54 + 11) + zrl 54) = true ∧ zcs [zR (some p), zI x1, zI 1] ≤ zmaxl 54) (gd (zob h (some p) 5) (zBack zY 119 37 40 [some (zR (some 135)), some (zI x1), some (zR (some f2))] [zI x1, zR (some 135)] (zC 54 [zR (some p), zI x1, zI 1] h)))) from zGo 3 119 35 _ _ _).trans ?_
  refine (gd_t (by decide) _).trans ?_
  refine (gd_t (⟨rfl, Nat.le_of_ble_eq_true rfl, rfl, Nat.le_of_ble_eq_true rfl⟩) _).trans ?_
  refine (gd_t (⟨rfl, hp.1, (PS_n hp)⟩) _).trans ?_
  refine (congrArg (zBack zY 119 37 40 [some (zR (some 135)), some (zI x1), some (zR (some f2))] [zI x1, zR (some 135)]) (e_P_entry hp)).trans ?_
  refine (show zY 119 40 [some (zR (some 135)), some (zI x1), some (zR (some f2))] [zI (f_P_entry h p x1 1), zI x1, zR (some 135)] h = gd (false = zctor 120 ∧ zcs [zI x1, zR (some 135)] ≤ 8 ∧ zrm 119 (zrf 120 + 1) (8 + (zmaxl 120 + 11) + zrl 120) = true ∧ zcs [zI (f_P_entry h p x1 1)] ≤ zmaxl 120) (zBack zY 119 40 43 [some (zR (some 135)), some (zI x1), some (zR (some f2))] [zI x1, zR (some 135)] (zC 120 [zI (f_P_entry h p x1 1)] h)) from zGo 1 119 40 _ _ _).trans ?_
  refine (gd_t (⟨rfl, Nat.le_of_ble_eq_true rfl, rfl, Nat.le_of_ble_eq_true rfl⟩) _).trans ?_
  refine (congrArg (zBack zY 119 40 43 [some (zR (some 135)), some (zI x1), some (zR (some f2))] [zI x1, zR (some 135)]) (e_Sh_rowAt)).trans ?_
  refine (show zY 119 43 [some (zR (some 135)), some (zI x1), some (zR (some f2))] [zI (f_Sh_rowAt (f_P_entry h p x1 1)), zI x1, zR (some 135)] h = gd (false = zctor 121 ∧ zcs [] ≤ 8 ∧ zrm 119 (zrf 121 + 1) (8 + (zmaxl 121 + 11) + zrl 121) = true ∧ zcs [zR (some 135), zI x1, zI (f_Sh_rowAt (f_P_entry h p x1 1))] ≤ zmaxl 121) (gd (zob h (some 135) 9) (zBack zY 119 43 46 [some (zR (some 135)), some (zI x1), some (zR (some f2))] [] (zC 121 [zR (some 135), zI x1, zI (f_Sh_rowAt (f_P_entry h p x1 1))] h))) from zGo 1 119 43 _ _ _).trans ?_
  refine (gd_t (⟨rfl, Nat.le_of_ble_eq_true rfl, rfl, Nat.le_of_ble_eq_true rfl⟩) _).trans ?_
  refine (gd_t (⟨rfl, (PTC KC 135 _ rfl rfl), (PNC KC 135 rfl)⟩) _).trans ?_
  rfl
theorem q_Sh_writeBranch_r46 {h : zH} {x1 : Int} {f2 : Nat} (KC : KC h) (hf2 : FS h f2) : zBack zY 119 43 46 [some (zR (some 135)), some (zI x1), some (zR (some f2))] [] (some (.inl (none), h)) =
    zBack zY 119 50 53 [some (zR (some 135)), some (zI x1), some (zR (some f2))] [] (zC 116 [zR (some 135), zI x1, zI 15] h) := by
  refine (show zBack zY 119 43 46 [some (zR (some 135)), some (zI x1), some (zR (some f2))] [] (some (.inl (none), h)) = gd (-128 ≤ (15 : Int) ∧ (15 : Int) < 128) (gd (false = zctor 116 ∧ zcs [] ≤ 8 ∧ zrm 119 (zrf 116 + 1) (8 + (zmaxl 116 + 11) + zrl 116) = true ∧ zcs [zR (some 135), zI x1, zI 15] ≤ zmaxl 116) (gd (zob h (some 135) 9) (zBack zY 119 50 53 [some (zR (some 135)), some (zI x1), some (zR (some f2))] [] (zC 116 [zR (some 135), zI x1, zI 15] h)))) from zGo 4 119 46 _ _ _).trans ?_
  refine (gd_t (by decide) _).trans ?_
  refine (gd_t (⟨rfl, Nat.le_of_ble_eq_true rfl, rfl, Nat.le_of_ble_eq_true rfl⟩) _).trans ?_
  refine (gd_t (⟨rfl, (PTC KC 135 _ rfl rfl), (PNC KC 135 rfl)⟩) _).trans ?_
  rfl
theorem q_Sh_writeBranch_r53 {h : zH} {x1 : Int} {f2 : Nat} (KC : KC h) (hf2 : FS h f2) : zBack zY 119 50 53 [some (zR (some 135)), some (zI x1), some (zR (some f2))] [] (some (.inl (none), h)) =
    zBack zY 119 57 60 [some (zR (some 135)), some (zI x1), some (zR (some f2))] [] (zC 116 [zR (some 135), zI x1, zI 14] h) := by
  refine (show zBack zY 119 50 53 [some (zR (some 135)), some (zI x1), some (zR (some f2))] [] (some (.inl (none), h)) = gd (-128 ≤ (14 : Int) ∧ (14 : Int) < 128) (gd (false = zctor 116 ∧ zcs [] ≤ 8 ∧ zrm 119 (zrf 116 + 1) (8 + (zmaxl 116 + 11) + zrl 116) = true ∧ zcs [zR (some 135), zI x1, zI 14] ≤ zmaxl 116) (gd (zob h (some 135) 9) (zBack zY 119 57 60 [some (zR (some 135)), some (zI x1), some (zR (some f2))] [] (zC 116 [zR (some 135), zI x1, zI 14] h)))) from zGo 4 119 53 _ _ _).trans ?_
  refine (gd_t (by decide) _).trans ?_
  refine (gd_t (⟨rfl, Nat.le_of_ble_eq_true rfl, rfl, Nat.le_of_ble_eq_true rfl⟩) _).trans ?_
  refine (gd_t (⟨rfl, (PTC KC 135 _ rfl rfl), (PNC KC 135 rfl)⟩) _).trans ?_
  rfl
theorem q_Sh_writeBranch_r60 {h : zH} {x1 : Int} {f2 : Nat} (KC : KC h) (hf2 : FS h f2) : zBack zY 119 57 60 [some (zR (some 135)), some (zI x1), some (zR (some f2))] [] (some (.inl (none), h)) =
    zBack zY 119 63 66 [some (zR (some 135)), some (zI x1), some (zR (some f2))] [] (zC 115 [zR (some 135), zI x1, zR (some f2)] h) := by
  refine (show zBack zY 119 57 60 [some (zR (some 135)), some (zI x1), some (zR (some f2))] [] (some (.inl (none), h)) = gd (false = zctor 115 ∧ zcs [] ≤ 8 ∧ zrm 119 (zrf 115 + 1) (8 + (zmaxl 115 + 11) + zrl 115) = true ∧ zcs [zR (some 135), zI x1, zR (some f2)] ≤ zmaxl 115) (gd (zob h (some 135) 9) (zBack zY 119 63 66 [some (zR (some 135)), some (zI x1), some (zR (some f2))] [] (zC 115 [zR (some 135), zI x1, zR (some f2)] h))) from zGo 4 119 60 _ _ _).trans ?_
  refine (gd_t (⟨rfl, Nat.le_of_ble_eq_true rfl, rfl, Nat.le_of_ble_eq_true rfl⟩) _).trans ?_
  refine (gd_t (⟨rfl, (PTC KC 135 _ rfl rfl), (PNC KC 135 rfl)⟩) _).trans ?_
  rfl
theorem q_Sh_writeBranch_r66 {h : zH} {x1 : Int} {f2 : Nat} {p : Nat} (KC : KC h) (hf2 : FS h f2) (rp : hR h 135 1 = some p) (hp : PS h p) : zBack zY 119 63 66 [some (zR (some 135)), some (zI x1), some (zR (some f2))] [] (some (.inl (none), h)) =
    zBack zY 119 80 83 [some (zR (some 135)), some (zI x1), some (zR (some f2))] [] (zC 121 [zR (some 135), zI x1, zI (f_Sh_rowAt (f_P_entry h p x1 0))] h) := by
  refine (show zBack zY 119 63 66 [some (zR (some 135)), some (zI x1), some (zR (some f2))] [] (some (.inl (none), h)) = gd (zob h (some 135) 9) (zY 119 72 [some (zR (some 135)), some (zI x1), some (zR (some f2))] [zR (hR h 135 1), zI x1, zR (some 135)] h) from zGo 4 119 66 _ _ _).trans ?_
  refine (gd_t (⟨rfl, (PTC KC 135 _ rfl rfl), (PNC KC 135 rfl)⟩) _).trans ?_
  refine (congrArg (fun r => zY 119 72 [some (zR (some 135)), some (zI x1), some (zR (some f2))] (zR r :: zI x1 :: zR (some 135) :: []) h) rp).trans ?_
  refine (show zY 119 72 [some (zR (some 135)), some (zI x1), some (zR (some f2))] [zR (some p), zI x1, zR (some 135)] h = gd (inR (0)) (gd (false = zctor 54 ∧ zcs [zI x1, zR (some 135)] ≤ 8 ∧ zrm 119 (zrf 54 + 1) (8 + (zmaxl 54 + 11) + zrl 54) = true ∧ zcs [zR (some p), zI x1, zI 0] ≤ zmaxl 54) (gd (zob h (some p) 5) (zBack zY 119 74 77 [some (zR (some 135)), some (zI x1), some (zR (some f2))] [zI x1, zR (some 135)] (zC 54 [zR (some p), zI x1, zI 0] h)))) from zGo 3 119 72 _ _ _).trans ?_
  refine (gd_t (by decide) _).trans ?_
  refine (gd_t (⟨rfl, Nat.le_of_ble_eq_true rfl, rfl, Nat.le_of_ble_eq_true rfl⟩) _).trans ?_
  refine (gd_t (⟨rfl, hp.1, (PS_n hp)⟩) _).trans ?_
  refine (congrArg (zBack zY 119 74 77 [some (zR (some 135)), some (zI x1), some (zR (some f2))] [zI x1, zR (some 135)]) (e_P_entry hp)).trans ?_
  refine (show zY 119 77 [some (zR (some 135)), some (zI x1), some (zR (some f2))] [zI (f_P_entry h p x1 0), zI x1, zR (some 135)] h = gd (false = zctor 120 ∧ zcs [zI x1, zR (some 135)] ≤ 8 ∧ zrm 119 (zrf 120 + 1) (8 + (zmaxl 120 + 11) + zrl 120) = true ∧ zcs [zI (f_P_entry h p x1 0)] ≤ zmaxl 120) (zBack zY 119 77 80 [some (zR (some 135)), some (zI x1), some (zR (some f2))] [zI x1, zR (some 135)] (zC 120 [zI (f_P_entry h p x1 0)] h)) from zGo 1 119 77 _ _ _).trans ?_
  refine (gd_t (⟨rfl, Nat.le_of_ble_eq_true rfl, rfl, Nat.le_of_ble_eq_true rfl⟩) _).trans ?_
  refine (congrArg (zBack zY 119 77 80 [some (zR (some 135)), some (zI x1), some (zR (some f2))] [zI x1, zR (some 135)]) (e_Sh_rowAt)).trans ?_
  refine (show zY 119 80 [some (zR (some 135)), some (zI x1), some (zR (some f2))] [zI (f_Sh_rowAt (f_P_entry h p x1 0)), zI x1, zR (some 135)] h = gd (false = zctor 121 ∧ zcs [] ≤ 8 ∧ zrm 119 (zrf 121 + 1) (8 + (zmaxl 121 + 11) + zrl 121) = true ∧ zcs [zR (some 135), zI x1, zI (f_Sh_rowAt (f_P_entry h p x1 0))] ≤ zmaxl 121) (gd (zob h (some 135) 9) (zBack zY 119 80 83 [some (zR (some 135)), some (zI x1), some (zR (some f2))] [] (zC 121 [zR (some 135), zI x1, zI (f_Sh_rowAt (f_P_entry h p x1 0))] h))) from zGo 1 119 80 _ _ _).trans ?_
  refine (gd_t (⟨rfl, Nat.le_of_ble_eq_true rfl, rfl, Nat.le_of_ble_eq_true rfl⟩) _).trans ?_
  refine (gd_t (⟨rfl, (PTC KC 135 _ rfl rfl), (PNC KC 135 rfl)⟩) _).trans ?_
  rfl
theorem q_Sh_writeBranch_r83 {h : zH} {x1 : Int} {f2 : Nat} (KC : KC h) (hf2 : FS h f2) : zBack zY 119 80 83 [some (zR (some 135)), some (zI x1), some (zR (some f2))] [] (some (.inl (none), h)) =
    some (.inl (none), h) := by
  refine (show zBack zY 119 80 83 [some (zR (some 135)), some (zI x1), some (zR (some f2))] [] (some (.inl (none), h)) = gd (([] : List zV).isEmpty = true ∧ zrk 119 = 0) (some (.inl (none), h)) from zGo 1 119 83 _ _ _).trans ?_
  refine (gd_t (⟨rfl, rfl⟩) _).trans ?_
  rfl
theorem q_Sh_writeSwapped {h : zH} {x1 : Int} {x2 : Int} {a : Nat} (KC : KC h) (ra : (f_Sh_rowOf h x2) = some a) (ta : hT h a = 21) (na : a < hN h) : zC 123 [zR (some 135), zI x1, zI x2] h =
    if (f_S_targetOf h x1) = (-1) then
      zBack zY 123 26 29 [some (zR (some 135)), some (zI x1), some (zI x2), some (zI (f_S_targetOf h x1)), none, none] [] (zC 121 [zR (some 135), zI x1, zI x2] h)
    else
      if (f_Sh_sizeOf h x2) = (-1) then
        zBack zY 123 26 29 [some (zR (some 135)), some (zI x1), some (zI x2), some (zI (f_S_targetOf h x1)), none, none] [] (zC 121 [zR (some 135), zI x1, zI x2] h)
      else
        zY 123 40 [some (zR (some 135)), some (zI x1), some (zI x2), some (zI (f_S_targetOf h x1)), some (zR (some a)), some (zI 0)] [] h := by
  refine (show zC 123 [zR (some 135), zI x1, zI x2] h = gd (zob h (some 135) 9) (zY 123 4 [some (zR (some 135)), some (zI x1), some (zI x2), none, none, none] [zR (hR h 135 0)] h) from zGo 2 123 0 _ _ _).trans ?_
  refine (gd_t (⟨rfl, (PTC KC 135 _ rfl rfl), (PNC KC 135 rfl)⟩) _).trans ?_
  refine (congrArg (fun r => zY 123 4 [some (zR (some 135)), some (zI x1), some (zI x2), none, none, none] (zR r :: []) h) (PRC KC 135 0 _ rfl)).trans ?_
  refine (show zY 123 4 [some (zR (some 135)), some (zI x1), some (zI x2), none, none, none] [zR (some 90)] h = gd (false = zctor 109 ∧ zcs [] ≤ 8 ∧ zrm 123 (zrf 109 + 1) (8 + (zmaxl 109 + 11) + zrl 109) = true ∧ zcs [zR (some 90), zI x1] ≤ zmaxl 109) (gd (zob h (some 90) 8) (zBack zY 123 5 8 [some (zR (some 135)), some (zI x1), some (zI x2), none, none, none] [] (zC 109 [zR (some 90), zI x1] h))) from zGo 2 123 4 _ _ _).trans ?_
  refine (gd_t (⟨rfl, Nat.le_of_ble_eq_true rfl, rfl, Nat.le_of_ble_eq_true rfl⟩) _).trans ?_
  refine (gd_t (⟨rfl, (PTC KC 90 _ rfl rfl), (PNC KC 90 rfl)⟩) _).trans ?_
  refine (congrArg (zBack zY 123 5 8 [some (zR (some 135)), some (zI x1), some (zI x2), none, none, none] []) (e_S_targetOf KC)).trans ?_
  refine (show zY 123 8 [some (zR (some 135)), some (zI x1), some (zI x2), none, none, none] [zI (f_S_targetOf h x1)] h = gd (inR (-1)) (if (f_S_targetOf h x1) = (-1) then zY 123 23 [some (zR (some 135)), some (zI x1), some (zI x2), some (zI (f_S_targetOf h x1)), none, none] [] h else zY 123 14 [some (zR (some 135)), some (zI x1), some (zI x2), some (zI (f_S_targetOf h x1)), none, none] [] h) from zGo 4 123 8 _ _ _).trans ?_
  refine (gd_t (by decide) _).trans ?_
  refine iteC (fun c0 => ?_) (fun c0 => ?_)
  · skip
    refine (show zY 123 23 [some (zR (some 135)), some (zI x1), some (zI x2), some (zI (f_S_targetOf h x1)), none, none] [] h = gd (false = zctor 121 ∧ zcs [] ≤ 8 ∧ zrm 123 (zrf 121 + 1) (8 + (zmaxl 121 + 11) + zrl 121) = true ∧ zcs [zR (some 135), zI x1, zI x2] ≤ zmaxl 121) (gd (zob h (some 135) 9) (zBack zY 123 26 29 [some (zR (some 135)), some (zI x1), some (zI x2), some (zI (f_S_targetOf h x1)), none, none] [] (zC 121 [zR (some 135), zI x1, zI x2] h))) from zGo 4 123 23 _ _ _).trans ?_
    refine (gd_t (⟨rfl, Nat.le_of_ble_eq_true rfl, rfl, Nat.le_of_ble_eq_true rfl⟩) _).trans ?_
    refine (gd_t (⟨rfl, (PTC KC 135 _ rfl rfl), (PNC KC 135 rfl)⟩) _).trans ?_
    rfl
  · skip
    refine (show zY 123 14 [some (zR (some 135)), some (zI x1), some (zI x2), some (zI (f_S_targetOf h x1)), none, none] [] h = gd (false = zctor 117 ∧ zcs [] ≤ 8 ∧ zrm 123 (zrf 117 + 1) (8 + (zmaxl 117 + 11) + zrl 117) = true ∧ zcs [zR (some 135), zI x2] ≤ zmaxl 117) (gd (zob h (some 135) 9) (zBack zY 123 16 19 [some (zR (some 135)), some (zI x1), some (zI x2), some (zI (f_S_targetOf h x1)), none, none] [] (zC 117 [zR (some 135), zI x2] h))) from zGo 3 123 14 _ _ _).trans ?_
    refine (gd_t (⟨rfl, Nat.le_of_ble_eq_true rfl, rfl, Nat.le_of_ble_eq_true rfl⟩) _).trans ?_
    refine (gd_t (⟨rfl, (PTC KC 135 _ rfl rfl), (PNC KC 135 rfl)⟩) _).trans ?_
    refine (congrArg (zBack zY 123 16 19 [some (zR (some 135)), some (zI x1), some (zI x2), some (zI (f_S_targetOf h x1)), none, none] []) (e_Sh_sizeOf KC)).trans ?_
    refine (show zY 123 19 [some (zR (some 135)), some (zI x1), some (zI x2), some (zI (f_S_targetOf h x1)), none, none] [zI (f_Sh_sizeOf h x2)] h = gd (inR (-1)) (if (f_Sh_sizeOf h x2) = (-1) then zY 123 23 [some (zR (some 135)), some (zI x1), some (zI x2), some (zI (f_S_targetOf h x1)), none, none] [] h else zY 123 30 [some (zR (some 135)), some (zI x1), some (zI x2), some (zI (f_S_targetOf h x1)), none, none] [] h) from zGo 2 123 19 _ _ _).trans ?_
    refine (gd_t (by decide) _).trans ?_
    refine iteC (fun c1 => ?_) (fun c1 => ?_)
    · skip
      refine (show zY 123 23 [some (zR (some 135)), some (zI x1), some (zI x2), some (zI (f_S_targetOf h x1)), none, none] [] h = gd (false = zctor 121 ∧ zcs [] ≤ 8 ∧ zrm 123 (zrf 121 + 1) (8 + (zmaxl 121 + 11) + zrl 121) = true ∧ zcs [zR (some 135), zI x1, zI x2] ≤ zmaxl 121) (gd (zob h (some 135) 9) (zBack zY 123 26 29 [some (zR (some 135)), some (zI x1), some (zI x2), some (zI (f_S_targetOf h x1)), none, none] [] (zC 121 [zR (some 135), zI x1, zI x2] h))) from zGo 4 123 23 _ _ _).trans ?_
      refine (gd_t (⟨rfl, Nat.le_of_ble_eq_true rfl, rfl, Nat.le_of_ble_eq_true rfl⟩) _).trans ?_
      refine (gd_t (⟨rfl, (PTC KC 135 _ rfl rfl), (PNC KC 135 rfl)⟩) _).trans ?_
      rfl
    · skip
      refine (show zY 123 30 [some (zR (some 135)), some (zI x1), some (zI x2), some (zI (f_S_targetOf h x1)), none, none] [] h = gd (false = zctor 122 ∧ zcs [] ≤ 8 ∧ zrm 123 (zrf 122 + 1) (8 + (zmaxl 122 + 11) + zrl 122) = true ∧ zcs [zR (some 135), zI x2] ≤ zmaxl 122) (gd (zob h (some 135) 9) (zBack zY 123 32 35 [some (zR (some 135)), some (zI x1), some (zI x2), some (zI (f_S_targetOf h x1)), none, none] [] (zC 122 [zR (some 135), zI x2] h))) from zGo 3 123 30 _ _ _).trans ?_
      refine (gd_t (⟨rfl, Nat.le_of_ble_eq_true rfl, rfl, Nat.le_of_ble_eq_true rfl⟩) _).trans ?_
      refine (gd_t (⟨rfl, (PTC KC 135 _ rfl rfl), (PNC KC 135 rfl)⟩) _).trans ?_
      refine (congrArg (zBack zY 123 32 35 [some (zR (some 135)), some (zI x1), some (zI x2), some (zI (f_S_targetOf h x1)), none, none] []) (e_Sh_rowOf KC)).trans ?_
      refine (congrArg (fun r => zBack zY 123 32 35 [some (zR (some 135)), some (zI x1), some (zI x2), some (zI (f_S_targetOf h x1)), none, none] [] (some (.inl (some (zR r)), h))) ra).trans ?_
      refine (show zY 123 35 [some (zR (some 135)), some (zI x1), some (zI x2), some (zI (f_S_targetOf h x1)), none, none] [zR (some a)] h = gd (inR (0)) (zY 123 40 [some (zR (some 135)), some (zI x1), some (zI x2), some (zI (f_S_targetOf h x1)), some (zR (some a)), some (zI 0)] [] h) from zGo 3 123 35 _ _ _).trans ?_
      refine (gd_t (by decide) _).trans ?_
      rfl
theorem q_Sh_writeSwapped_r29 {h : zH} {x1 : Int} {x2 : Int} {x3 : Int} (KC : KC h) : zBack zY 123 26 29 [some (zR (some 135)), some (zI x1), some (zI x2), some (zI x3), none, none] [] (some (.inl (none), h)) =
    some (.inl (none), h) := by
  refine (show zBack zY 123 26 29 [some (zR (some 135)), some (zI x1), some (zI x2), some (zI x3), none, none] [] (some (.inl (none), h)) = gd (([] : List zV).isEmpty = true ∧ zrk 123 = 0) (some (.inl (none), h)) from zGo 1 123 29 _ _ _).trans ?_
  refine (gd_t (⟨rfl, rfl⟩) _).trans ?_
  rfl
theorem q_Sh_writeSwapped_40 {h : zH} {x1 : Int} {x2 : Int} {x3 : Int} {a4 : Nat} {x5 : Int} {f : Nat} (KC : KC h) (ta4 : hT h a4 = 21) (na4 : a4 < hN h) (rf : (f_S_formulaOf h x1) = some f) (hf : FS h f) : zY 123 40 [some (zR (some 135)), some (zI x1), some (zI x2), some (zI x3), some (zR (some a4)), some (zI x5)] [] h =
    if x5 < (f_Sh_sizeOf h x2) then
      if x5 < (hL h a4 : Int) then
        gd (0 ≤ x5 ∧ x5 < (hL h a4 : Int)) (
        gd (-2147483648 ≤ 4 + x3 ∧ 4 + x3 < 2147483648) (
        if (hI h a4 x5.toNat) = (4 + x3) then
          zBack zY 123 79 82 [some (zR (some 135)), some (zI x1), some (zI x2), some (zI x3), some (zR (some a4)), some (zI x5)] [] (zC 115 [zR (some 135), zI x1, zR (some f)] h)
        else
          zBack zY 123 92 95 [some (zR (some 135)), some (zI x1), some (zI x2), some (zI x3), some (zR (some a4)), some (zI x5)] [] (zC 116 [zR (some 135), zI x1, zI (hI h a4 x5.toNat)] h)))
      else
        some (.inl (none), h)
    else
      some (.inl (none), h) := by
  refine (show zY 123 40 [some (zR (some 135)), some (zI x1), some (zI x2), some (zI x3), some (zR (some a4)), some (zI x5)] [] h = gd (false = zctor 117 ∧ zcs [zI x5] ≤ 8 ∧ zrm 123 (zrf 117 + 1) (8 + (zmaxl 117 + 11) + zrl 117) = true ∧ zcs [zR (some 135), zI x2] ≤ zmaxl 117) (gd (zob h (some 135) 9) (zBack zY 123 44 47 [some (zR (some 135)), some (zI x1), some (zI x2), some (zI x3), some (zR (some a4)), some (zI x5)] [zI x5] (zC 117 [zR (some 135), zI x2] h))) from zGo 4 123 40 _ _ _).trans ?_
  refine (gd_t (⟨rfl, Nat.le_of_ble_eq_true rfl, rfl, Nat.le_of_ble_eq_true rfl⟩) _).trans ?_
  refine (gd_t (⟨rfl, (PTC KC 135 _ rfl rfl), (PNC KC 135 rfl)⟩) _).trans ?_
  refine (congrArg (zBack zY 123 44 47 [some (zR (some 135)), some (zI x1), some (zI x2), some (zI x3), some (zR (some a4)), some (zI x5)] [zI x5]) (e_Sh_sizeOf KC)).trans ?_
  refine (show zY 123 47 [some (zR (some 135)), some (zI x1), some (zI x2), some (zI x3), some (zR (some a4)), some (zI x5)] [zI (f_Sh_sizeOf h x2), zI x5] h = if x5 < (f_Sh_sizeOf h x2) then zY 123 50 [some (zR (some 135)), some (zI x1), some (zI x2), some (zI x3), some (zR (some a4)), some (zI x5)] [] h else zY 123 101 [some (zR (some 135)), some (zI x1), some (zI x2), some (zI x3), some (zR (some a4)), some (zI x5)] [] h from zGo 1 123 47 _ _ _).trans ?_
  refine iteC (fun c0 => ?_) (fun c0 => ?_)
  · skip
    refine (show zY 123 50 [some (zR (some 135)), some (zI x1), some (zI x2), some (zI x3), some (zR (some a4)), some (zI x5)] [] h = gd ((some a4).isSome = true ∧ 20 ≤ hT h (zdr (some a4)) ∧ hT h (zdr (some a4)) < 40) (if x5 < (hL h a4 : Int) then zY 123 58 [some (zR (some 135)), some (zI x1), some (zI x2), some (zI x3), some (zR (some a4)), some (zI x5)] [] h else zY 123 101 [some (zR (some 135)), some (zI x1), some (zI x2), some (zI x3), some (zR (some a4)), some (zI x5)] [] h) from zGo 4 123 50 _ _ _).trans ?_
    refine (gd_t (al ta4 (by decide) (by decide)) _).trans ?_
    refine iteC (fun c1 => ?_) (fun c1 => ?_)
    · skip
      refine (show zY 123 58 [some (zR (some 135)), some (zI x1), some (zI x2), some (zI x3), some (zR (some a4)), some (zI x5)] [] h = gd (zokw h (some a4) 21 x5 ∨ zokw h (some a4) 20 x5) (gd (inR (4)) (gd (inR (4 + x3)) (if (hI h a4 x5.toNat) = (4 + x3) then zY 123 69 [some (zR (some 135)), some (zI x1), some (zI x2), some (zI x3), some (zR (some a4)), some (zI x5)] [] h else zY 123 85 [some (zR (some 135)), some (zI x1), some (zI x2), some (zI x3), some (zR (some a4)), some (zI x5)] [] h))) from zGo 7 123 58 _ _ _).trans ?_
      refine gd_c (cib21 ta4 na4 rfl) (fun c2 => ?_)
      refine (gd_t (by decide) _).trans ?_
      refine gd_c Iff.rfl (fun c3 => ?_)
      refine iteC (fun c4 => ?_) (fun c4 => ?_)
      · skip
        refine (show zY 123 69 [some (zR (some 135)), some (zI x1), some (zI x2), some (zI x3), some (zR (some a4)), some (zI x5)] [] h = gd (zob h (some 135) 9) (zY 123 75 [some (zR (some 135)), some (zI x1), some (zI x2), some (zI x3), some (zR (some a4)), some (zI x5)] [zR (hR h 135 0), zI x1, zR (some 135)] h) from zGo 4 123 69 _ _ _).trans ?_
        refine (gd_t (⟨rfl, (PTC KC 135 _ rfl rfl), (PNC KC 135 rfl)⟩) _).trans ?_
        refine (congrArg (fun r => zY 123 75 [some (zR (some 135)), some (zI x1), some (zI x2), some (zI x3), some (zR (some a4)), some (zI x5)] (zR r :: zI x1 :: zR (some 135) :: []) h) (PRC KC 135 0 _ rfl)).trans ?_
        refine (show zY 123 75 [some (zR (some 135)), some (zI x1), some (zI x2), some (zI x3), some (zR (some a4)), some (zI x5)] [zR (some 90), zI x1, zR (some 135)] h = gd (false = zctor 111 ∧ zcs [zI x1, zR (some 135)] ≤ 8 ∧ zrm 123 (zrf 111 + 1) (8 + (zmaxl 111 + 11) + zrl 111) = true ∧ zcs [zR (some 90), zI x1] ≤ zmaxl 111) (gd (zob h (some 90) 8) (zBack zY 123 76 79 [some (zR (some 135)), some (zI x1), some (zI x2), some (zI x3), some (zR (some a4)), some (zI x5)] [zI x1, zR (some 135)] (zC 111 [zR (some 90), zI x1] h))) from zGo 2 123 75 _ _ _).trans ?_
        refine (gd_t (⟨rfl, Nat.le_of_ble_eq_true rfl, rfl, Nat.le_of_ble_eq_true rfl⟩) _).trans ?_
        refine (gd_t (⟨rfl, (PTC KC 90 _ rfl rfl), (PNC KC 90 rfl)⟩) _).trans ?_
        refine (congrArg (zBack zY 123 76 79 [some (zR (some 135)), some (zI x1), some (zI x2), some (zI x3), some (zR (some a4)), some (zI x5)] [zI x1, zR (some 135)]) (e_S_formulaOf KC)).trans ?_
        refine (congrArg (fun r => zBack zY 123 76 79 [some (zR (some 135)), some (zI x1), some (zI x2), some (zI x3), some (zR (some a4)), some (zI x5)] [zI x1, zR (some 135)] (some (.inl (some (zR r)), h))) rf).trans ?_
        refine (show zY 123 79 [some (zR (some 135)), some (zI x1), some (zI x2), some (zI x3), some (zR (some a4)), some (zI x5)] [zR (some f), zI x1, zR (some 135)] h = gd (false = zctor 115 ∧ zcs [] ≤ 8 ∧ zrm 123 (zrf 115 + 1) (8 + (zmaxl 115 + 11) + zrl 115) = true ∧ zcs [zR (some 135), zI x1, zR (some f)] ≤ zmaxl 115) (gd (zob h (some 135) 9) (zBack zY 123 79 82 [some (zR (some 135)), some (zI x1), some (zI x2), some (zI x3), some (zR (some a4)), some (zI x5)] [] (zC 115 [zR (some 135), zI x1, zR (some f)] h))) from zGo 1 123 79 _ _ _).trans ?_
        refine (gd_t (⟨rfl, Nat.le_of_ble_eq_true rfl, rfl, Nat.le_of_ble_eq_true rfl⟩) _).trans ?_
        refine (gd_t (⟨rfl, (PTC KC 135 _ rfl rfl), (PNC KC 135 rfl)⟩) _).trans ?_
        rfl
      · skip
        refine (show zY 123 85 [some (zR (some 135)), some (zI x1), some (zI x2), some (zI x3), some (zR (some a4)), some (zI x5)] [] h = gd (zokw h (some a4) 21 x5 ∨ zokw h (some a4) 20 x5) (gd (false = zctor 116 ∧ zcs [] ≤ 8 ∧ zrm 123 (zrf 116 + 1) (8 + (zmaxl 116 + 11) + zrl 116) = true ∧ zcs [zR (some 135), zI x1, zI (hI h a4 x5.toNat)] ≤ zmaxl 116) (gd (zob h (some 135) 9) (zBack zY 123 92 95 [some (zR (some 135)), some (zI x1), some (zI x2), some (zI x3), some (zR (some a4)), some (zI x5)] [] (zC 116 [zR (some 135), zI x1, zI (hI h a4 x5.toNat)] h)))) from zGo 6 123 85 _ _ _).trans ?_
        refine (gd_t ((cib21 ta4 na4 rfl).2 (by omega)) _).trans ?_
        refine (gd_t (⟨rfl, Nat.le_of_ble_eq_true rfl, rfl, Nat.le_of_ble_eq_true rfl⟩) _).trans ?_
        refine (gd_t (⟨rfl, (PTC KC 135 _ rfl rfl), (PNC KC 135 rfl)⟩) _).trans ?_
        rfl
    · skip
      refine (show zY 123 101 [some (zR (some 135)), some (zI x1), some (zI x2), some (zI x3), some (zR (some a4)), some (zI x5)] [] h = gd (([] : List zV).isEmpty = true ∧ zrk 123 = 0) (some (.inl (none), h)) from zGo 1 123 101 _ _ _).trans ?_
      refine (gd_t (⟨rfl, rfl⟩) _).trans ?_
      rfl
  · skip
    refine (show zY 123 101 [some (zR (some 135)), some (zI x1), some (zI x2), some (zI x3), some (zR (some a4)), some (zI x5)] [] h = gd (([] : List zV).isEmpty = true ∧ zrk 123 = 0) (some (.inl (none), h)) from zGo 1 123 101 _ _ _).trans ?_
    refine (gd_t (⟨rfl, rfl⟩) _).trans ?_
    rfl
theorem q_Sh_writeSwapped_r82 {h : zH} {x1 : Int} {x2 : Int} {x3 : Int} {a4 : Nat} {x5 : Int} (KC : KC h) (ta4 : hT h a4 = 21) (na4 : a4 < hN h) : zBack zY 123 79 82 [some (zR (some 135)), some (zI x1), some (zI x2), some (zI x3), some (zR (some a4)), some (zI x5)] [] (some (.inl (none), h)) =
    gd (-2147483648 ≤ x5 + 1 ∧ x5 + 1 < 2147483648) (
    zY 123 40 [some (zR (some 135)), some (zI x1), some (zI x2), some (zI x3), some (zR (some a4)), some (zI (x5 + 1))] [] h) := by
  refine (show zBack zY 123 79 82 [some (zR (some 135)), some (zI x1), some (zI x2), some (zI x3), some (zR (some a4)), some (zI x5)] [] (some (.inl (none), h)) = gd (inR (x5 + 1)) (gd (inR (1)) (zY 123 40 [some (zR (some 135)), some (zI x1), some (zI x2), some (zI x3), some (zR (some a4)), some (zI (x5 + 1))] [] h)) from zGo 3 123 82 _ _ _).trans ?_
  refine gd_c Iff.rfl (fun c0 => ?_)
  refine (gd_t (by decide) _).trans ?_
  rfl
theorem q_Sh_writeSwapped_r95 {h : zH} {x1 : Int} {x2 : Int} {x3 : Int} {a4 : Nat} {x5 : Int} (KC : KC h) (ta4 : hT h a4 = 21) (na4 : a4 < hN h) : zBack zY 123 92 95 [some (zR (some 135)), some (zI x1), some (zI x2), some (zI x3), some (zR (some a4)), some (zI x5)] [] (some (.inl (none), h)) =
    gd (-2147483648 ≤ x5 + 1 ∧ x5 + 1 < 2147483648) (
    zY 123 40 [some (zR (some 135)), some (zI x1), some (zI x2), some (zI x3), some (zR (some a4)), some (zI (x5 + 1))] [] h) := by
  refine (show zBack zY 123 92 95 [some (zR (some 135)), some (zI x1), some (zI x2), some (zI x3), some (zR (some a4)), some (zI x5)] [] (some (.inl (none), h)) = gd (inR (x5 + 1)) (gd (inR (1)) (zY 123 40 [some (zR (some 135)), some (zI x1), some (zI x2), some (zI x3), some (zR (some a4)), some (zI (x5 + 1))] [] h)) from zGo 2 123 95 _ _ _).trans ?_
  refine gd_c Iff.rfl (fun c0 => ?_)
  refine (gd_t (by decide) _).trans ?_
  rfl
theorem q_Ar_fill_aII {h : zH} {a0 : Nat} {x1 : Int} (ta0 : hT h a0 = 22) (na0 : a0 < hN h) : zC 232 [zR (some a0), zI x1] h =
    zY 232 5 [some (zR (some a0)), some (zI x1), some (zI 0), some (zI (hL h a0 : Int))] [] h := by
  refine (show zC 232 [zR (some a0), zI x1] h = gd (inR (0)) (gd ((some a0).isSome = true ∧ 20 ≤ hT h (zdr (some a0)) ∧ hT h (zdr (some a0)) < 40) (zY 232 5 [some (zR (some a0)), some (zI x1), some (zI 0), some (zI (hL h a0 : Int))] [] h)) from zGo 5 232 0 _ _ _).trans ?_
  refine (gd_t (by decide) _).trans ?_
  refine (gd_t (al ta0 (by decide) (by decide)) _).trans ?_
  rfl
theorem q_Ar_fill_aII_5 {h : zH} {a0 : Nat} {x1 : Int} {x2 : Int} {x3 : Int} (ta0 : hT h a0 = 22) (na0 : a0 < hN h) : zY 232 5 [some (zR (some a0)), some (zI x1), some (zI x2), some (zI x3)] [] h =
    if x2 < x3 then
      gd (0 ≤ x2 ∧ x2 < (hL h a0 : Int)) (
      gd (-2147483648 ≤ x2 + 1 ∧ x2 + 1 < 2147483648) (
      zY 232 5 [some (zR (some a0)), some (zI x1), some (zI (x2 + 1)), some (zI x3)] [] (sI h a0 x2.toNat x1)))
    else
      some (.inl (none), h) := by
  refine (show zY 232 5 [some (zR (some a0)), some (zI x1), some (zI x2), some (zI x3)] [] h = if x2 < x3 then zY 232 10 [some (zR (some a0)), some (zI x1), some (zI x2), some (zI x3)] [] h else zY 232 20 [some (zR (some a0)), some (zI x1), some (zI x2), some (zI x3)] [] h from zGo 3 232 5 _ _ _).trans ?_
  refine iteC (fun c0 => ?_) (fun c0 => ?_)
  · skip
    refine (show zY 232 10 [some (zR (some a0)), some (zI x1), some (zI x2), some (zI x3)] [] h = gd (zokw h (some a0) 22 x2) (gd (inR (x2 + 1)) (gd (inR (1)) (zY 232 5 [some (zR (some a0)), some (zI x1), some (zI (x2 + 1)), some (zI x3)] [] (sI h a0 x2.toNat x1)))) from zGo 6 232 10 _ _ _).trans ?_
    refine gd_c (ciw ta0 na0 rfl) (fun c1 => ?_)
    refine gd_c Iff.rfl (fun c2 => ?_)
    refine (gd_t (by decide) _).trans ?_
    rfl
  · skip
    refine (show zY 232 20 [some (zR (some a0)), some (zI x1), some (zI x2), some (zI x3)] [] h = gd (([] : List zV).isEmpty = true ∧ zrk 232 = 0) (some (.inl (none), h)) from zGo 1 232 20 _ _ _).trans ?_
    refine (gd_t (⟨rfl, rfl⟩) _).trans ?_
    rfl
theorem q_Sh_write {h : zH} {p : Nat} {v : Nat} (KC : KC h) (hp : PS h p) (hv : VS h v) : zC 114 [zR (some 135), zR (some p), zR (some v)] h =
    zBack zY 114 10 13 [some (zR (some 135)), some (zR (some p)), some (zR (some v)), none] [] (zC 232 [zR (some 162), zI 0] (sR h 135 1 (some p))) := by
  refine (show zC 114 [zR (some 135), zR (some p), zR (some v)] h = gd (zob h (some 135) 9) (gd (zob (sR h 135 1 (some p)) (some 135) 9) (zY 114 9 [some (zR (some 135)), some (zR (some p)), some (zR (some v)), none] [zR (hR h 135 3)] (sR h 135 1 (some p)))) from zGo 5 114 0 _ _ _).trans ?_
  refine (gd_t (⟨rfl, (PTC KC 135 _ rfl rfl), (PNC KC 135 rfl)⟩) _).trans ?_
  refine (gd_t (⟨rfl, (PTC KC 135 _ rfl rfl), (PNC KC 135 rfl)⟩) _).trans ?_
  refine (congrArg (fun r => zY 114 9 [some (zR (some 135)), some (zR (some p)), some (zR (some v)), none] (zR r :: []) (sR h 135 1 (some p))) (PRC KC 135 3 _ rfl)).trans ?_
  refine (show zY 114 9 [some (zR (some 135)), some (zR (some p)), some (zR (some v)), none] [zR (some 162)] (sR h 135 1 (some p)) = gd (inR (0)) (gd (false = zctor 232 ∧ zcs [] ≤ 8 ∧ zrm 114 (zrf 232 + 1) (8 + (zmaxl 232 + 11) + zrl 232) = true ∧ zcs [zR (some 162), zI 0] ≤ zmaxl 232) (zBack zY 114 10 13 [some (zR (some 135)), some (zR (some p)), some (zR (some v)), none] [] (zC 232 [zR (some 162), zI 0] (sR h 135 1 (some p))))) from zGo 2 114 9 _ _ _).trans ?_
  refine (gd_t (by decide) _).trans ?_
  refine (gd_t (⟨rfl, Nat.le_of_ble_eq_true rfl, rfl, Nat.le_of_ble_eq_true rfl⟩) _).trans ?_
  rfl
theorem q_Sh_write_r13 {h : zH} {p : Nat} {v : Nat} {f : Nat} (KC : KC h) (hp : PS h p) (hv : VS h v) (rf : hR h v 1 = some f) (hf : FS h f) : zBack zY 114 10 13 [some (zR (some 135)), some (zR (some p)), some (zR (some v)), none] [] (some (.inl (none), h)) =
    zBack zY 114 20 23 [some (zR (some 135)), some (zR (some p)), some (zR (some v)), none] [] (zC 115 [zR (some 135), zI 24, zR (some f)] h) := by
  refine (show zBack zY 114 10 13 [some (zR (some 135)), some (zR (some p)), some (zR (some v)), none] [] (some (.inl (none), h)) = gd (-128 ≤ (24 : Int) ∧ (24 : Int) < 128) (gd (zob h (some v) 10) (zY 114 20 [some (zR (some 135)), some (zR (some p)), some (zR (some v)), none] [zR (hR h v 1), zI 24, zR (some 135)] h)) from zGo 4 114 13 _ _ _).trans ?_
  refine (gd_t (by decide) _).trans ?_
  refine (gd_t (⟨rfl, hv.1, (VS_n hv)⟩) _).trans ?_
  refine (congrArg (fun r => zY 114 20 [some (zR (some 135)), some (zR (some p)), some (zR (some v)), none] (zR r :: zI 24 :: zR (some 135) :: []) h) rf).trans ?_
  refine (show zY 114 20 [some (zR (some 135)), some (zR (some p)), some (zR (some v)), none] [zR (some f), zI 24, zR (some 135)] h = gd (false = zctor 115 ∧ zcs [] ≤ 8 ∧ zrm 114 (zrf 115 + 1) (8 + (zmaxl 115 + 11) + zrl 115) = true ∧ zcs [zR (some 135), zI 24, zR (some f)] ≤ zmaxl 115) (gd (zob h (some 135) 9) (zBack zY 114 20 23 [some (zR (some 135)), some (zR (some p)), some (zR (some v)), none] [] (zC 115 [zR (some 135), zI 24, zR (some f)] h))) from zGo 1 114 20 _ _ _).trans ?_
  refine (gd_t (⟨rfl, Nat.le_of_ble_eq_true rfl, rfl, Nat.le_of_ble_eq_true rfl⟩) _).trans ?_
  refine (gd_t (⟨rfl, (PTC KC 135 _ rfl rfl), (PNC KC 135 rfl)⟩) _).trans ?_
  rfl
theorem q_Sh_write_r23 {h : zH} {p : Nat} {v : Nat} (KC : KC h) (hp : PS h p) (hv : VS h v) : zBack zY 114 20 23 [some (zR (some 135)), some (zR (some p)), some (zR (some v)), none] [] (some (.inl (none), h)) =
    zY 114 25 [some (zR (some 135)), some (zR (some p)), some (zR (some v)), some (zI 0)] [] h := by
  refine (show zBack zY 114 20 23 [some (zR (some 135)), some (zR (some p)), some (zR (some v)), none] [] (some (.inl (none), h)) = gd (inR (0)) (zY 114 25 [some (zR (some 135)), some (zR (some p)), some (zR (some v)), some (zI 0)] [] h) from zGo 2 114 23 _ _ _).trans ?_
  refine (gd_t (by decide) _).trans ?_
  rfl
theorem q_Sh_write_25 {h : zH} {p : Nat} {v : Nat} {x3 : Int} {p2 : Nat} {f : Nat} (KC : KC h) (hp : PS h p) (hv : VS h v) (rp2 : hR h 135 1 = some p2) (hp2 : PS h p2) (rf : (f_V_keepOf h v x3) = some f) (hf : FS h f) : zY 114 25 [some (zR (some 135)), some (zR (some p)), some (zR (some v)), some (zI x3)] [] h =
    if x3 < (hI h p2 1) then
      zBack zY 114 50 53 [some (zR (some 135)), some (zR (some p)), some (zR (some v)), some (zI x3)] [] (zC 115 [zR (some 135), zI (f_P_loopAt h p2 x3), zR (some f)] h)
    else
      gd (-2147483648 ≤ (hI h p2 0) - 1 ∧ (hI h p2 0) - 1 < 2147483648) (
      zY 114 69 [some (zR (some 135)), some (zR (some p)), some (zR (some v)), some (zI ((hI h p2 0) - 1))] [] h) := by
  refine (show zY 114 25 [some (zR (some 135)), some (zR (some p)), some (zR (some v)), some (zI x3)] [] h = gd (zob h (some 135) 9) (zY 114 30 [some (zR (some 135)), some (zR (some p)), some (zR (some v)), some (zI x3)] [zR (hR h 135 1), zI x3] h) from zGo 3 114 25 _ _ _).trans ?_
  refine (gd_t (⟨rfl, (PTC KC 135 _ rfl rfl), (PNC KC 135 rfl)⟩) _).trans ?_
  refine (congrArg (fun r => zY 114 30 [some (zR (some 135)), some (zR (some p)), some (zR (some v)), some (zI x3)] (zR r :: zI x3 :: []) h) rp2).trans ?_
  refine (show zY 114 30 [some (zR (some 135)), some (zR (some p)), some (zR (some v)), some (zI x3)] [zR (some p2), zI x3] h = gd (zob h (some p2) 5) (if x3 < (hI h p2 1) then zY 114 36 [some (zR (some 135)), some (zR (some p)), some (zR (some v)), some (zI x3)] [] h else zY 114 59 [some (zR (some 135)), some (zR (some p)), some (zR (some v)), some (zI x3)] [] h) from zGo 2 114 30 _ _ _).trans ?_
  refine (gd_t (⟨rfl, hp2.1, (PS_n hp2)⟩) _).trans ?_
  refine iteC (fun c0 => ?_) (fun c0 => ?_)
  · skip
    refine (show zY 114 36 [some (zR (some 135)), some (zR (some p)), some (zR (some v)), some (zI x3)] [] h = gd (zob h (some 135) 9) (zY 114 41 [some (zR (some 135)), some (zR (some p)), some (zR (some v)), some (zI x3)] [zR (hR h 135 1), zR (some 135)] h) from zGo 3 114 36 _ _ _).trans ?_
    refine (gd_t (⟨rfl, (PTC KC 135 _ rfl rfl), (PNC KC 135 rfl)⟩) _).trans ?_
    refine (congrArg (fun r => zY 114 41 [some (zR (some 135)), some (zR (some p)), some (zR (some v)), some (zI x3)] (zR r :: zR (some 135) :: []) h) rp2).trans ?_
    refine (show zY 114 41 [some (zR (some 135)), some (zR (some p)), some (zR (some v)), some (zI x3)] [zR (some p2), zR (some 135)] h = gd (false = zctor 53 ∧ zcs [zR (some 135)] ≤ 8 ∧ zrm 114 (zrf 53 + 1) (8 + (zmaxl 53 + 11) + zrl 53) = true ∧ zcs [zR (some p2), zI x3] ≤ zmaxl 53) (gd (zob h (some p2) 5) (zBack zY 114 42 45 [some (zR (some 135)), some (zR (some p)), some (zR (some v)), some (zI x3)] [zR (some 135)] (zC 53 [zR (some p2), zI x3] h))) from zGo 2 114 41 _ _ _).trans ?_
    refine (gd_t (⟨rfl, Nat.le_of_ble_eq_true rfl, rfl, Nat.le_of_ble_eq_true rfl⟩) _).trans ?_
    refine (gd_t (⟨rfl, hp2.1, (PS_n hp2)⟩) _).trans ?_
    refine (congrArg (zBack zY 114 42 45 [some (zR (some 135)), some (zR (some p)), some (zR (some v)), some (zI x3)] [zR (some 135)]) (e_P_loopAt hp2)).trans ?_
    refine (show zY 114 45 [some (zR (some 135)), some (zR (some p)), some (zR (some v)), some (zI x3)] [zI (f_P_loopAt h p2 x3), zR (some 135)] h = gd (false = zctor 129 ∧ zcs [zI (f_P_loopAt h p2 x3), zR (some 135)] ≤ 8 ∧ zrm 114 (zrf 129 + 1) (8 + (zmaxl 129 + 11) + zrl 129) = true ∧ zcs [zR (some v), zI x3] ≤ zmaxl 129) (gd (zob h (some v) 10) (zBack zY 114 47 50 [some (zR (some 135)), some (zR (some p)), some (zR (some v)), some (zI x3)] [zI (f_P_loopAt h p2 x3), zR (some 135)] (zC 129 [zR (some v), zI x3] h))) from zGo 3 114 45 _ _ _).trans ?_
    refine (gd_t (⟨rfl, Nat.le_of_ble_eq_true rfl, rfl, Nat.le_of_ble_eq_true rfl⟩) _).trans ?_
    refine (gd_t (⟨rfl, hv.1, (VS_n hv)⟩) _).trans ?_
    refine (congrArg (zBack zY 114 47 50 [some (zR (some 135)), some (zR (some p)), some (zR (some v)), some (zI x3)] [zI (f_P_loopAt h p2 x3), zR (some 135)]) (e_V_keepOf hv)).trans ?_
    refine (congrArg (fun r => zBack zY 114 47 50 [some (zR (some 135)), some (zR (some p)), some (zR (some v)), some (zI x3)] [zI (f_P_loopAt h p2 x3), zR (some 135)] (some (.inl (some (zR r)), h))) rf).trans ?_
    refine (show zY 114 50 [some (zR (some 135)), some (zR (some p)), some (zR (some v)), some (zI x3)] [zR (some f), zI (f_P_loopAt h p2 x3), zR (some 135)] h = gd (false = zctor 115 ∧ zcs [] ≤ 8 ∧ zrm 114 (zrf 115 + 1) (8 + (zmaxl 115 + 11) + zrl 115) = true ∧ zcs [zR (some 135), zI (f_P_loopAt h p2 x3), zR (some f)] ≤ zmaxl 115) (gd (zob h (some 135) 9) (zBack zY 114 50 53 [some (zR (some 135)), some (zR (some p)), some (zR (some v)), some (zI x3)] [] (zC 115 [zR (some 135), zI (f_P_loopAt h p2 x3), zR (some f)] h))) from zGo 1 114 50 _ _ _).trans ?_
    refine (gd_t (⟨rfl, Nat.le_of_ble_eq_true rfl, rfl, Nat.le_of_ble_eq_true rfl⟩) _).trans ?_
    refine (gd_t (⟨rfl, (PTC KC 135 _ rfl rfl), (PNC KC 135 rfl)⟩) _).trans ?_
    rfl
  · skip
    refine (show zY 114 59 [some (zR (some 135)), some (zR (some p)), some (zR (some v)), some (zI x3)] [] h = gd (zob h (some 135) 9) (zY 114 63 [some (zR (some 135)), some (zR (some p)), some (zR (some v)), some (zI x3)] [zR (hR h 135 1)] h) from zGo 2 114 59 _ _ _).trans ?_
    refine (gd_t (⟨rfl, (PTC KC 135 _ rfl rfl), (PNC KC 135 rfl)⟩) _).trans ?_
    refine (congrArg (fun r => zY 114 63 [some (zR (some 135)), some (zR (some p)), some (zR (some v)), some (zI x3)] (zR r :: []) h) rp2).trans ?_
    refine (show zY 114 63 [some (zR (some 135)), some (zR (some p)), some (zR (some v)), some (zI x3)] [zR (some p2)] h = gd (zob h (some p2) 5) (gd (inR (1)) (gd (inR ((hI h p2 0) - 1)) (zY 114 69 [some (zR (some 135)), some (zR (some p)), some (zR (some v)), some (zI ((hI h p2 0) - 1))] [] h))) from zGo 4 114 63 _ _ _).trans ?_
    refine (gd_t (⟨rfl, hp2.1, (PS_n hp2)⟩) _).trans ?_
    refine (gd_t (by decide) _).trans ?_
    refine gd_c Iff.rfl (fun c1 => ?_)
    rfl
theorem q_Sh_write_r53 {h : zH} {p : Nat} {v : Nat} {x3 : Int} (KC : KC h) (hp : PS h p) (hv : VS h v) : zBack zY 114 50 53 [some (zR (some 135)), some (zR (some p)), some (zR (some v)), some (zI x3)] [] (some (.inl (none), h)) =
    gd (-2147483648 ≤ x3 + 1 ∧ x3 + 1 < 2147483648) (
    zY 114 25 [some (zR (some 135)), some (zR (some p)), some (zR (some v)), some (zI (x3 + 1))] [] h) := by
  refine (show zBack zY 114 50 53 [some (zR (some 135)), some (zR (some p)), some (zR (some v)), some (zI x3)] [] (some (.inl (none), h)) = gd (inR (x3 + 1)) (gd (inR (1)) (zY 114 25 [some (zR (some 135)), some (zR (some p)), some (zR (some v)), some (zI (x3 + 1))] [] h)) from zGo 2 114 53 _ _ _).trans ?_
  refine gd_c Iff.rfl (fun c0 => ?_)
  refine (gd_t (by decide) _).trans ?_
  rfl
theorem q_Sh_write_69 {h : zH} {p : Nat} {v : Nat} {x3 : Int} {p2 : Nat} (KC : KC h) (hp : PS h p) (hv : VS h v) (rp2 : hR h 135 1 = some p2) (hp2 : PS h p2) : zY 114 69 [some (zR (some 135)), some (zR (some p)), some (zR (some v)), some (zI x3)] [] h =
    if x3 < 0 then
      some (.inl (none), h)
    else
      if (f_P_kindOf h p2 x3) = 1 then
        zBack zY 114 87 90 [some (zR (some 135)), some (zR (some p)), some (zR (some v)), some (zI x3)] [] (zC 119 [zR (some 135), zI x3] h)
      else
        if (f_P_kindOf h p2 x3) = 2 then
          gd (-2147483648 ≤ x3 + (-1) ∧ x3 + (-1) < 2147483648) (
          zY 114 69 [some (zR (some 135)), some (zR (some p)), some (zR (some v)), some (zI (x3 + (-1)))] [] h)
        else
          zBack zY 114 118 121 [some (zR (some 135)), some (zR (some p)), some (zR (some v)), some (zI x3)] [] (zC 123 [zR (some 135), zI x3, zI (f_Sh_rowAt (f_P_thenOf h p2 x3))] h) := by
  refine (show zY 114 69 [some (zR (some 135)), some (zR (some p)), some (zR (some v)), some (zI x3)] [] h = if x3 < 0 then zY 114 127 [some (zR (some 135)), some (zR (some p)), some (zR (some v)), some (zI x3)] [] h else zY 114 73 [some (zR (some 135)), some (zR (some p)), some (zR (some v)), some (zI x3)] [] h from zGo 2 114 69 _ _ _).trans ?_
  refine iteC (fun c0 => ?_) (fun c0 => ?_)
  · skip
    refine (show zY 114 127 [some (zR (some 135)), some (zR (some p)), some (zR (some v)), some (zI x3)] [] h = gd (([] : List zV).isEmpty = true ∧ zrk 114 = 0) (some (.inl (none), h)) from zGo 1 114 127 _ _ _).trans ?_
    refine (gd_t (⟨rfl, rfl⟩) _).trans ?_
    rfl
  · skip
    refine (show zY 114 73 [some (zR (some 135)), some (zR (some p)), some (zR (some v)), some (zI x3)] [] h = gd (zob h (some 135) 9) (zY 114 77 [some (zR (some 135)), some (zR (some p)), some (zR (some v)), some (zI x3)] [zR (hR h 135 1)] h) from zGo 2 114 73 _ _ _).trans ?_
    refine (gd_t (⟨rfl, (PTC KC 135 _ rfl rfl), (PNC KC 135 rfl)⟩) _).trans ?_
    refine (congrArg (fun r => zY 114 77 [some (zR (some 135)), some (zR (some p)), some (zR (some v)), some (zI x3)] (zR r :: []) h) rp2).trans ?_
    refine (show zY 114 77 [some (zR (some 135)), some (zR (some p)), some (zR (some v)), some (zI x3)] [zR (some p2)] h = gd (false = zctor 36 ∧ zcs [] ≤ 8 ∧ zrm 114 (zrf 36 + 1) (8 + (zmaxl 36 + 11) + zrl 36) = true ∧ zcs [zR (some p2), zI x3] ≤ zmaxl 36) (gd (zob h (some p2) 5) (zBack zY 114 78 81 [some (zR (some 135)), some (zR (some p)), some (zR (some v)), some (zI x3)] [] (zC 36 [zR (some p2), zI x3] h))) from zGo 2 114 77 _ _ _).trans ?_
    refine (gd_t (⟨rfl, Nat.le_of_ble_eq_true rfl, rfl, Nat.le_of_ble_eq_true rfl⟩) _).trans ?_
    refine (gd_t (⟨rfl, hp2.1, (PS_n hp2)⟩) _).trans ?_
    refine (congrArg (zBack zY 114 78 81 [some (zR (some 135)), some (zR (some p)), some (zR (some v)), some (zI x3)] []) (e_P_kindOf hp2)).trans ?_
    refine (show zY 114 81 [some (zR (some 135)), some (zR (some p)), some (zR (some v)), some (zI x3)] [zI (f_P_kindOf h p2 x3)] h = gd (inR (1)) (if (f_P_kindOf h p2 x3) = 1 then zY 114 85 [some (zR (some 135)), some (zR (some p)), some (zR (some v)), some (zI x3)] [] h else zY 114 93 [some (zR (some 135)), some (zR (some p)), some (zR (some v)), some (zI x3)] [] h) from zGo 2 114 81 _ _ _).trans ?_
    refine (gd_t (by decide) _).trans ?_
    refine iteC (fun c1 => ?_) (fun c1 => ?_)
    · skip
      refine (show zY 114 85 [some (zR (some 135)), some (zR (some p)), some (zR (some v)), some (zI x3)] [] h = gd (false = zctor 119 ∧ zcs [] ≤ 8 ∧ zrm 114 (zrf 119 + 1) (8 + (zmaxl 119 + 11) + zrl 119) = true ∧ zcs [zR (some 135), zI x3] ≤ zmaxl 119) (gd (zob h (some 135) 9) (zBack zY 114 87 90 [some (zR (some 135)), some (zR (some p)), some (zR (some v)), some (zI x3)] [] (zC 119 [zR (some 135), zI x3] h))) from zGo 3 114 85 _ _ _).trans ?_
      refine (gd_t (⟨rfl, Nat.le_of_ble_eq_true rfl, rfl, Nat.le_of_ble_eq_true rfl⟩) _).trans ?_
      refine (gd_t (⟨rfl, (PTC KC 135 _ rfl rfl), (PNC KC 135 rfl)⟩) _).trans ?_
      rfl
    · skip
      refine (show zY 114 93 [some (zR (some 135)), some (zR (some p)), some (zR (some v)), some (zI x3)] [] h = gd (zob h (some 135) 9) (zY 114 97 [some (zR (some 135)), some (zR (some p)), some (zR (some v)), some (zI x3)] [zR (hR h 135 1)] h) from zGo 2 114 93 _ _ _).trans ?_
      refine (gd_t (⟨rfl, (PTC KC 135 _ rfl rfl), (PNC KC 135 rfl)⟩) _).trans ?_
      refine (congrArg (fun r => zY 114 97 [some (zR (some 135)), some (zR (some p)), some (zR (some v)), some (zI x3)] (zR r :: []) h) rp2).trans ?_
      refine (show zY 114 97 [some (zR (some 135)), some (zR (some p)), some (zR (some v)), some (zI x3)] [zR (some p2)] h = gd (false = zctor 36 ∧ zcs [] ≤ 8 ∧ zrm 114 (zrf 36 + 1) (8 + (zmaxl 36 + 11) + zrl 36) = true ∧ zcs [zR (some p2), zI x3] ≤ zmaxl 36) (gd (zob h (some p2) 5) (zBack zY 114 98 101 [some (zR (some 135)), some (zR (some p)), some (zR (some v)), some (zI x3)] [] (zC 36 [zR (some p2), zI x3] h))) from zGo 2 114 97 _ _ _).trans ?_
      refine (gd_t (⟨rfl, Nat.le_of_ble_eq_true rfl, rfl, Nat.le_of_ble_eq_true rfl⟩) _).trans ?_
      refine (gd_t (⟨rfl, hp2.1, (PS_n hp2)⟩) _).trans ?_
      refine (congrArg (zBack zY 114 98 101 [some (zR (some 135)), some (zR (some p)), some (zR (some v)), some (zI x3)] []) (e_P_kindOf hp2)).trans ?_
      refine (show zY 114 101 [some (zR (some 135)), some (zR (some p)), some (zR (some v)), some (zI x3)] [zI (f_P_kindOf h p2 x3)] h = gd (inR (2)) (if (f_P_kindOf h p2 x3) = 2 then zY 114 121 [some (zR (some 135)), some (zR (some p)), some (zR (some v)), some (zI x3)] [] h else zY 114 105 [some (zR (some 135)), some (zR (some p)), some (zR (some v)), some (zI x3)] [] h) from zGo 2 114 101 _ _ _).trans ?_
      refine (gd_t (by decide) _).trans ?_
      refine iteC (fun c2 => ?_) (fun c2 => ?_)
      · skip
        refine (show zY 114 121 [some (zR (some 135)), some (zR (some p)), some (zR (some v)), some (zI x3)] [] h = gd (inR (x3 + (-1))) (gd (inR (-1)) (zY 114 69 [some (zR (some 135)), some (zR (some p)), some (zR (some v)), some (zI (x3 + (-1)))] [] h)) from zGo 2 114 121 _ _ _).trans ?_
        refine gd_c Iff.rfl (fun c3 => ?_)
        refine (gd_t (by decide) _).trans ?_
        rfl
      · skip
        refine (show zY 114 105 [some (zR (some 135)), some (zR (some p)), some (zR (some v)), some (zI x3)] [] h = gd (zob h (some 135) 9) (zY 114 111 [some (zR (some 135)), some (zR (some p)), some (zR (some v)), some (zI x3)] [zR (hR h 135 1), zI x3, zR (some 135)] h) from zGo 4 114 105 _ _ _).trans ?_
        refine (gd_t (⟨rfl, (PTC KC 135 _ rfl rfl), (PNC KC 135 rfl)⟩) _).trans ?_
        refine (congrArg (fun r => zY 114 111 [some (zR (some 135)), some (zR (some p)), some (zR (some v)), some (zI x3)] (zR r :: zI x3 :: zR (some 135) :: []) h) rp2).trans ?_
        refine (show zY 114 111 [some (zR (some 135)), some (zR (some p)), some (zR (some v)), some (zI x3)] [zR (some p2), zI x3, zR (some 135)] h = gd (false = zctor 50 ∧ zcs [zI x3, zR (some 135)] ≤ 8 ∧ zrm 114 (zrf 50 + 1) (8 + (zmaxl 50 + 11) + zrl 50) = true ∧ zcs [zR (some p2), zI x3] ≤ zmaxl 50) (gd (zob h (some p2) 5) (zBack zY 114 112 115 [some (zR (some 135)), some (zR (some p)), some (zR (some v)), some (zI x3)] [zI x3, zR (some 135)] (zC 50 [zR (some p2), zI x3] h))) from zGo 2 114 111 _ _ _).trans ?_
        refine (gd_t (⟨rfl, Nat.le_of_ble_eq_true rfl, rfl, Nat.le_of_ble_eq_true rfl⟩) _).trans ?_
        refine (gd_t (⟨rfl, hp2.1, (PS_n hp2)⟩) _).trans ?_
        refine (congrArg (zBack zY 114 112 115 [some (zR (some 135)), some (zR (some p)), some (zR (some v)), some (zI x3)] [zI x3, zR (some 135)]) (e_P_thenOf hp2)).trans ?_
        refine (show zY 114 115 [some (zR (some 135)), some (zR (some p)), some (zR (some v)), some (zI x3)] [zI (f_P_thenOf h p2 x3), zI x3, zR (some 135)] h = gd (false = zctor 120 ∧ zcs [zI x3, zR (some 135)] ≤ 8 ∧ zrm 114 (zrf 120 + 1) (8 + (zmaxl 120 + 11) + zrl 120) = true ∧ zcs [zI (f_P_thenOf h p2 x3)] ≤ zmaxl 120) (zBack zY 114 115 118 [some (zR (some 135)), some (zR (some p)), some (zR (some v)), some (zI x3)] [zI x3, zR (some 135)] (zC 120 [zI (f_P_thenOf h p2 x3)] h)) from zGo 1 114 115 _ _ _).trans ?_
        refine (gd_t (⟨rfl, Nat.le_of_ble_eq_true rfl, rfl, Nat.le_of_ble_eq_true rfl⟩) _).trans ?_
        refine (congrArg (zBack zY 114 115 118 [some (zR (some 135)), some (zR (some p)), some (zR (some v)), some (zI x3)] [zI x3, zR (some 135)]) (e_Sh_rowAt)).trans ?_
        refine (show zY 114 118 [some (zR (some 135)), some (zR (some p)), some (zR (some v)), some (zI x3)] [zI (f_Sh_rowAt (f_P_thenOf h p2 x3)), zI x3, zR (some 135)] h = gd (false = zctor 123 ∧ zcs [] ≤ 8 ∧ zrm 114 (zrf 123 + 1) (8 + (zmaxl 123 + 11) + zrl 123) = true ∧ zcs [zR (some 135), zI x3, zI (f_Sh_rowAt (f_P_thenOf h p2 x3))] ≤ zmaxl 123) (gd (zob h (some 135) 9) (zBack zY 114 118 121 [some (zR (some 135)), some (zR (some p)), some (zR (some v)), some (zI x3)] [] (zC 123 [zR (some 135), zI x3, zI (f_Sh_rowAt (f_P_thenOf h p2 x3))] h))) from zGo 1 114 118 _ _ _).trans ?_
        refine (gd_t (⟨rfl, Nat.le_of_ble_eq_true rfl, rfl, Nat.le_of_ble_eq_true rfl⟩) _).trans ?_
        refine (gd_t (⟨rfl, (PTC KC 135 _ rfl rfl), (PNC KC 135 rfl)⟩) _).trans ?_
        rfl
theorem q_Sh_write_r90 {h : zH} {p : Nat} {v : Nat} {x3 : Int} (KC : KC h) (hp : PS h p) (hv : VS h v) : zBack zY 114 87 90 [some (zR (some 135)), some (zR (some p)), some (zR (some v)), some (zI x3)] [] (some (.inl (none), h)) =
    gd (-2147483648 ≤ x3 + (-1) ∧ x3 + (-1) < 2147483648) (
    zY 114 69 [some (zR (some 135)), some (zR (some p)), some (zR (some v)), some (zI (x3 + (-1)))] [] h) := by
  refine (show zBack zY 114 87 90 [some (zR (some 135)), some (zR (some p)), some (zR (some v)), some (zI x3)] [] (some (.inl (none), h)) = gd (inR (x3 + (-1))) (gd (inR (-1)) (zY 114 69 [some (zR (some 135)), some (zR (some p)), some (zR (some v)), some (zI (x3 + (-1)))] [] h)) from zGo 3 114 90 _ _ _).trans ?_
  refine gd_c Iff.rfl (fun c0 => ?_)
  refine (gd_t (by decide) _).trans ?_
  rfl
theorem q_Sh_write_r121 {h : zH} {p : Nat} {v : Nat} {x3 : Int} (KC : KC h) (hp : PS h p) (hv : VS h v) : zBack zY 114 118 121 [some (zR (some 135)), some (zR (some p)), some (zR (some v)), some (zI x3)] [] (some (.inl (none), h)) =
    gd (-2147483648 ≤ x3 + (-1) ∧ x3 + (-1) < 2147483648) (
    zY 114 69 [some (zR (some 135)), some (zR (some p)), some (zR (some v)), some (zI (x3 + (-1)))] [] h) := by
  refine (show zBack zY 114 118 121 [some (zR (some 135)), some (zR (some p)), some (zR (some v)), some (zI x3)] [] (some (.inl (none), h)) = gd (inR (x3 + (-1))) (gd (inR (-1)) (zY 114 69 [some (zR (some 135)), some (zR (some p)), some (zR (some v)), some (zI (x3 + (-1)))] [] h)) from zGo 2 114 121 _ _ _).trans ?_
  refine gd_c Iff.rfl (fun c0 => ?_)
  refine (gd_t (by decide) _).trans ?_
  rfl

