/-! The class: ends of runs. -/
theorem q_R_putEnd {h : zH} {x1 : Int} {x2 : Int} {x3 : Int} (KC : KC h) : zC 61 [zR (some 128), zI x1, zI x2, zI x3] h =
    gd (-2147483648 ≤ x1 * 64 ∧ x1 * 64 < 2147483648) (
    gd (-2147483648 ≤ (x1 * 64) + x2 ∧ (x1 * 64) + x2 < 2147483648) (
    if ((x1 * 64) + x2) < 0 then
      some (.inl (none), h)
    else
      if ((x1 * 64) + x2) < 1536 then
        some (.inl (none), (sI h 129 ((x1 * 64) + x2).toNat x3))
      else
        some (.inl (none), h))) := by
  refine (show zC 61 [zR (some 128), zI x1, zI x2, zI x3] h = gd (-128 ≤ (64 : Int) ∧ (64 : Int) < 128) (gd (inR (x1 * 64)) (gd (inR ((x1 * 64) + x2)) (if ((x1 * 64) + x2) < 0 then zY 61 31 [some (zR (some 128)), some (zI x1), some (zI x2), some (zI x3), some (zI ((x1 * 64) + x2))] [] h else zY 61 13 [some (zR (some 128)), some (zI x1), some (zI x2), some (zI x3), some (zI ((x1 * 64) + x2))] [] h))) from zGo 8 61 0 _ _ _).trans ?_
  refine (gd_t (by decide) _).trans ?_
  refine gd_c Iff.rfl (fun c0 => ?_)
  refine gd_c Iff.rfl (fun c1 => ?_)
  refine iteC (fun c2 => ?_) (fun c2 => ?_)
  · skip
    refine (show zY 61 31 [some (zR (some 128)), some (zI x1), some (zI x2), some (zI x3), some (zI ((x1 * 64) + x2))] [] h = gd (([] : List zV).isEmpty = true ∧ zrk 61 = 0) (some (.inl (none), h)) from zGo 1 61 31 _ _ _).trans ?_
    refine (gd_t (⟨rfl, rfl⟩) _).trans ?_
    rfl
  · skip
    refine (show zY 61 13 [some (zR (some 128)), some (zI x1), some (zI x2), some (zI x3), some (zI ((x1 * 64) + x2))] [] h = gd (zob h (some 128) 6) (zY 61 19 [some (zR (some 128)), some (zI x1), some (zI x2), some (zI x3), some (zI ((x1 * 64) + x2))] [zR (hR h 128 3), zI ((x1 * 64) + x2)] h) from zGo 3 61 13 _ _ _).trans ?_
    refine (gd_t (⟨rfl, (PTC KC 128 _ rfl rfl), (PNC KC 128 rfl)⟩) _).trans ?_
    refine (congrArg (fun r => zY 61 19 [some (zR (some 128)), some (zI x1), some (zI x2), some (zI x3), some (zI ((x1 * 64) + x2))] (zR r :: zI ((x1 * 64) + x2) :: []) h) (PRC KC 128 3 _ rfl)).trans ?_
    refine (show zY 61 19 [some (zR (some 128)), some (zI x1), some (zI x2), some (zI x3), some (zI ((x1 * 64) + x2))] [zR (some 129), zI ((x1 * 64) + x2)] h = gd ((some 129).isSome = true ∧ 20 ≤ hT h (zdr (some 129)) ∧ hT h (zdr (some 129)) < 40) (zY 61 20 [some (zR (some 128)), some (zI x1), some (zI x2), some (zI x3), some (zI ((x1 * 64) + x2))] (zI (hL h 129 : Int) :: zI ((x1 * 64) + x2) :: []) h) from zGo 1 61 19 _ _ _).trans ?_
    refine (gd_t (al (PTC KC 129 _ rfl rfl) (by decide) (by decide)) _).trans ?_
    refine (congrArg (fun r => zY 61 20 [some (zR (some 128)), some (zI x1), some (zI x2), some (zI x3), some (zI ((x1 * 64) + x2))] (zI r :: zI ((x1 * 64) + x2) :: []) h) (PLC KC 129 1536 rfl rfl)).trans ?_
    refine (show zY 61 20 [some (zR (some 128)), some (zI x1), some (zI x2), some (zI x3), some (zI ((x1 * 64) + x2))] [zI 1536, zI ((x1 * 64) + x2)] h = if ((x1 * 64) + x2) < 1536 then zY 61 23 [some (zR (some 128)), some (zI x1), some (zI x2), some (zI x3), some (zI ((x1 * 64) + x2))] [] h else zY 61 31 [some (zR (some 128)), some (zI x1), some (zI x2), some (zI x3), some (zI ((x1 * 64) + x2))] [] h from zGo 1 61 20 _ _ _).trans ?_
    refine iteC (fun c3 => ?_) (fun c3 => ?_)
    · skip
      refine (show zY 61 23 [some (zR (some 128)), some (zI x1), some (zI x2), some (zI x3), some (zI ((x1 * 64) + x2))] [] h = gd (zob h (some 128) 6) (zY 61 27 [some (zR (some 128)), some (zI x1), some (zI x2), some (zI x3), some (zI ((x1 * 64) + x2))] [zR (hR h 128 3)] h) from zGo 2 61 23 _ _ _).trans ?_
      refine (gd_t (⟨rfl, (PTC KC 128 _ rfl rfl), (PNC KC 128 rfl)⟩) _).trans ?_
      refine (congrArg (fun r => zY 61 27 [some (zR (some 128)), some (zI x1), some (zI x2), some (zI x3), some (zI ((x1 * 64) + x2))] (zR r :: []) h) (PRC KC 128 3 _ rfl)).trans ?_
      refine (show zY 61 27 [some (zR (some 128)), some (zI x1), some (zI x2), some (zI x3), some (zI ((x1 * 64) + x2))] [zR (some 129)] h = gd (zokw h (some 129) 22 ((x1 * 64) + x2)) (gd (([] : List zV).isEmpty = true ∧ zrk 61 = 0) (some (.inl (none), (sI h 129 ((x1 * 64) + x2).toNat x3)))) from zGo 4 61 27 _ _ _).trans ?_
      refine (gd_t ((ciw (PTC KC 129 _ rfl rfl) (PNC KC 129 rfl) (PLC KC 129 1536 rfl rfl)).2 (by omega)) _).trans ?_
      refine (gd_t (⟨rfl, rfl⟩) _).trans ?_
      rfl
    · skip
      refine (show zY 61 31 [some (zR (some 128)), some (zI x1), some (zI x2), some (zI x3), some (zI ((x1 * 64) + x2))] [] h = gd (([] : List zV).isEmpty = true ∧ zrk 61 = 0) (some (.inl (none), h)) from zGo 1 61 31 _ _ _).trans ?_
      refine (gd_t (⟨rfl, rfl⟩) _).trans ?_
      rfl
theorem q_R_endOfRow {h : zH} {x1 : Int} {x2 : Int} (KC : KC h) : zC 60 [zR (some 128), zI x1, zI x2] h =
    zY 60 8 [some (zR (some 128)), some (zI x1), some (zI x2), some (zI x2), some (zI x1), some (zI 0)] [] h := by
  refine (show zC 60 [zR (some 128), zI x1, zI x2] h = gd (inR (0)) (zY 60 8 [some (zR (some 128)), some (zI x1), some (zI x2), some (zI x2), some (zI x1), some (zI 0)] [] h) from zGo 6 60 0 _ _ _).trans ?_
  refine (gd_t (by decide) _).trans ?_
  rfl
theorem q_R_endOfRow_8 {h : zH} {x1 : Int} {x2 : Int} {x3 : Int} {x4 : Int} {x5 : Int} {p : Nat} (KC : KC h) (rp : hR h 128 1 = some p) (hp : PS h p) : zY 60 8 [some (zR (some 128)), some (zI x1), some (zI x2), some (zI x3), some (zI x4), some (zI x5)] [] h =
    if x5 < 24 then
      if b_P_has h p x4 then
        if x3 < 0 then
          some (.inl (some (zI x3)), h)
        else
          if x3 < 64 then
            gd (-2147483648 ≤ x4 * 64 ∧ x4 * 64 < 2147483648) (
            gd (-2147483648 ≤ (x4 * 64) + x3 ∧ (x4 * 64) + x3 < 2147483648) (
            gd (0 ≤ ((x4 * 64) + x3) ∧ ((x4 * 64) + x3) < 1536) (
            gd (-2147483648 ≤ x5 + 1 ∧ x5 + 1 < 2147483648) (
            zY 60 8 [some (zR (some 128)), some (zI x1), some (zI x2), some (zI (hI h 129 ((x4 * 64) + x3).toNat)), some (zI (hI h (p + 5) x4.toNat)), some (zI (x5 + 1))] [] h))))
          else
            some (.inl (some (zI x3)), h)
      else
        some (.inl (some (zI x3)), h)
    else
      some (.inl (some (zI x3)), h) := by
  refine (show zY 60 8 [some (zR (some 128)), some (zI x1), some (zI x2), some (zI x3), some (zI x4), some (zI x5)] [] h = gd (-128 ≤ (24 : Int) ∧ (24 : Int) < 128) (if x5 < 24 then zY 60 15 [some (zR (some 128)), some (zI x1), some (zI x2), some (zI x3), some (zI x4), some (zI x5)] [] h else zY 60 68 [some (zR (some 128)), some (zI x1), some (zI x2), some (zI x3), some (zI x4), some (zI x5)] [] h) from zGo 3 60 8 _ _ _).trans ?_
  refine (gd_t (by decide) _).trans ?_
  refine iteC (fun c0 => ?_) (fun c0 => ?_)
  · skip
    refine (show zY 60 15 [some (zR (some 128)), some (zI x1), some (zI x2), some (zI x3), some (zI x4), some (zI x5)] [] h = gd (zob h (some 128) 6) (zY 60 19 [some (zR (some 128)), some (zI x1), some (zI x2), some (zI x3), some (zI x4), some (zI x5)] [zR (hR h 128 1)] h) from zGo 2 60 15 _ _ _).trans ?_
    refine (gd_t (⟨rfl, (PTC KC 128 _ rfl rfl), (PNC KC 128 rfl)⟩) _).trans ?_
    refine (congrArg (fun r => zY 60 19 [some (zR (some 128)), some (zI x1), some (zI x2), some (zI x3), some (zI x4), some (zI x5)] (zR r :: []) h) rp).trans ?_
    refine (show zY 60 19 [some (zR (some 128)), some (zI x1), some (zI x2), some (zI x3), some (zI x4), some (zI x5)] [zR (some p)] h = gd (false = zctor 37 ∧ zcs [] ≤ 8 ∧ zrm 60 (zrf 37 + 1) (8 + (zmaxl 37 + 11) + zrl 37) = true ∧ zcs [zR (some p), zI x4] ≤ zmaxl 37) (gd (zob h (some p) 5) (zBack zY 60 21 24 [some (zR (some 128)), some (zI x1), some (zI x2), some (zI x3), some (zI x4), some (zI x5)] [] (zC 37 [zR (some p), zI x4] h))) from zGo 2 60 19 _ _ _).trans ?_
    refine (gd_t (⟨rfl, Nat.le_of_ble_eq_true rfl, rfl, Nat.le_of_ble_eq_true rfl⟩) _).trans ?_
    refine (gd_t (⟨rfl, hp.1, (PS_n hp)⟩) _).trans ?_
    refine (congrArg (zBack zY 60 21 24 [some (zR (some 128)), some (zI x1), some (zI x2), some (zI x3), some (zI x4), some (zI x5)] []) (e_P_has hp)).trans ?_
    refine (show zY 60 24 [some (zR (some 128)), some (zI x1), some (zI x2), some (zI x3), some (zI x4), some (zI x5)] [zI (if b_P_has h p x4 then (1 : Int) else 0)] h = if (if b_P_has h p x4 then (1 : Int) else 0) = 0 then zY 60 68 [some (zR (some 128)), some (zI x1), some (zI x2), some (zI x3), some (zI x4), some (zI x5)] [] h else zY 60 27 [some (zR (some 128)), some (zI x1), some (zI x2), some (zI x3), some (zI x4), some (zI x5)] [] h from zGo 1 60 24 _ _ _).trans ?_
    refine iteB (fun c1 => ?_) (fun c1 => ?_)
    · skip
      refine (show zY 60 27 [some (zR (some 128)), some (zI x1), some (zI x2), some (zI x3), some (zI x4), some (zI x5)] [] h = if x3 < 0 then zY 60 68 [some (zR (some 128)), some (zI x1), some (zI x2), some (zI x3), some (zI x4), some (zI x5)] [] h else zY 60 31 [some (zR (some 128)), some (zI x1), some (zI x2), some (zI x3), some (zI x4), some (zI x5)] [] h from zGo 2 60 27 _ _ _).trans ?_
      refine iteC (fun c2 => ?_) (fun c2 => ?_)
      · skip
        refine (show zY 60 68 [some (zR (some 128)), some (zI x1), some (zI x2), some (zI x3), some (zI x4), some (zI x5)] [] h = gd (([] : List zV).isEmpty = true ∧ (zrk 60 = 1 ∨ zrk 60 = 6 ∧ ((x3 : Int) = 0 ∨ (x3 : Int) = 1))) (some (.inl (some (zI x3)), h)) from zGo 2 60 68 _ _ _).trans ?_
        refine (gd_t (⟨rfl, Or.inl rfl⟩) _).trans ?_
        rfl
      · skip
        refine (show zY 60 31 [some (zR (some 128)), some (zI x1), some (zI x2), some (zI x3), some (zI x4), some (zI x5)] [] h = gd (-128 ≤ (64 : Int) ∧ (64 : Int) < 128) (if x3 < 64 then zY 60 37 [some (zR (some 128)), some (zI x1), some (zI x2), some (zI x3), some (zI x4), some (zI x5)] [] h else zY 60 68 [some (zR (some 128)), some (zI x1), some (zI x2), some (zI x3), some (zI x4), some (zI x5)] [] h) from zGo 3 60 31 _ _ _).trans ?_
        refine (gd_t (by decide) _).trans ?_
        refine iteC (fun c3 => ?_) (fun c3 => ?_)
        · skip
          refine (show zY 60 37 [some (zR (some 128)), some (zI x1), some (zI x2), some (zI x3), some (zI x4), some (zI x5)] [] h = gd (zob h (some 128) 6) (zY 60 41 [some (zR (some 128)), some (zI x1), some (zI x2), some (zI x3), some (zI x4), some (zI x5)] [zR (hR h 128 3)] h) from zGo 2 60 37 _ _ _).trans ?_
          refine (gd_t (⟨rfl, (PTC KC 128 _ rfl rfl), (PNC KC 128 rfl)⟩) _).trans ?_
          refine (congrArg (fun r => zY 60 41 [some (zR (some 128)), some (zI x1), some (zI x2), some (zI x3), some (zI x4), some (zI x5)] (zR r :: []) h) (PRC KC 128 3 _ rfl)).trans ?_
          refine (show zY 60 41 [some (zR (some 128)), some (zI x1), some (zI x2), some (zI x3), some (zI x4), some (zI x5)] [zR (some 129)] h = gd (-128 ≤ (64 : Int) ∧ (64 : Int) < 128) (gd (inR (x4 * 64)) (gd (inR ((x4 * 64) + x3)) (gd (zok h (some 129) 22 ((x4 * 64) + x3)) (gd (zob h (some 128) 6) (zY 60 54 [some (zR (some 128)), some (zI x1), some (zI x2), some (zI (hI h 129 ((x4 * 64) + x3).toNat)), some (zI x4), some (zI x5)] [zR (hR h 128 1)] h))))) from zGo 9 60 41 _ _ _).trans ?_
          refine (gd_t (by decide) _).trans ?_
          refine gd_c Iff.rfl (fun c4 => ?_)
          refine gd_c Iff.rfl (fun c5 => ?_)
          refine gd_c (ci (PTC KC 129 _ rfl rfl) (PLC KC 129 1536 rfl rfl)) (fun c6 => ?_)
          refine (gd_t (⟨rfl, (PTC KC 128 _ rfl rfl), (PNC KC 128 rfl)⟩) _).trans ?_
          refine (congrArg (fun r => zY 60 54 [some (zR (some 128)), some (zI x1), some (zI x2), some (zI (hI h 129 ((x4 * 64) + x3).toNat)), some (zI x4), some (zI x5)] (zR r :: []) h) rp).trans ?_
          refine (show zY 60 54 [some (zR (some 128)), some (zI x1), some (zI x2), some (zI (hI h 129 ((x4 * 64) + x3).toNat)), some (zI x4), some (zI x5)] [zR (some p)] h = gd (zob h (some p) 5) (zY 60 57 [some (zR (some 128)), some (zI x1), some (zI x2), some (zI (hI h 129 ((x4 * 64) + x3).toNat)), some (zI x4), some (zI x5)] [zR (hR h p 7)] h) from zGo 1 60 54 _ _ _).trans ?_
          refine (gd_t (⟨rfl, hp.1, (PS_n hp)⟩) _).trans ?_
          refine (congrArg (fun r => zY 60 57 [some (zR (some 128)), some (zI x1), some (zI x2), some (zI (hI h 129 ((x4 * 64) + x3).toNat)), some (zI x4), some (zI x5)] (zR r :: []) h) (PS_r hp 7 rfl)).trans ?_
          refine (show zY 60 57 [some (zR (some 128)), some (zI x1), some (zI x2), some (zI (hI h 129 ((x4 * 64) + x3).toNat)), some (zI x4), some (zI x5)] [zR (some (p + 5))] h = gd (zok h (some (p + 5)) 22 x4) (gd (inR (x5 + 1)) (gd (inR (1)) (zY 60 8 [some (zR (some 128)), some (zI x1), some (zI x2), some (zI (hI h 129 ((x4 * 64) + x3).toNat)), some (zI (hI h (p + 5) x4.toNat)), some (zI (x5 + 1))] [] h))) from zGo 5 60 57 _ _ _).trans ?_
          refine (gd_t ((ci (PS_t hp 5 _ rfl rfl) (PS_l hp 5 rfl)).2 (by (try simp only [b_P_has] at *); omega)) _).trans ?_
          refine gd_c Iff.rfl (fun c7 => ?_)
          refine (gd_t (by decide) _).trans ?_
          rfl
        · skip
          refine (show zY 60 68 [some (zR (some 128)), some (zI x1), some (zI x2), some (zI x3), some (zI x4), some (zI x5)] [] h = gd (([] : List zV).isEmpty = true ∧ (zrk 60 = 1 ∨ zrk 60 = 6 ∧ ((x3 : Int) = 0 ∨ (x3 : Int) = 1))) (some (.inl (some (zI x3)), h)) from zGo 2 60 68 _ _ _).trans ?_
          refine (gd_t (⟨rfl, Or.inl rfl⟩) _).trans ?_
          rfl
    · skip
      refine (show zY 60 68 [some (zR (some 128)), some (zI x1), some (zI x2), some (zI x3), some (zI x4), some (zI x5)] [] h = gd (([] : List zV).isEmpty = true ∧ (zrk 60 = 1 ∨ zrk 60 = 6 ∧ ((x3 : Int) = 0 ∨ (x3 : Int) = 1))) (some (.inl (some (zI x3)), h)) from zGo 2 60 68 _ _ _).trans ?_
      refine (gd_t (⟨rfl, Or.inl rfl⟩) _).trans ?_
      rfl
  · skip
    refine (show zY 60 68 [some (zR (some 128)), some (zI x1), some (zI x2), some (zI x3), some (zI x4), some (zI x5)] [] h = gd (([] : List zV).isEmpty = true ∧ (zrk 60 = 1 ∨ zrk 60 = 6 ∧ ((x3 : Int) = 0 ∨ (x3 : Int) = 1))) (some (.inl (some (zI x3)), h)) from zGo 2 60 68 _ _ _).trans ?_
    refine (gd_t (⟨rfl, Or.inl rfl⟩) _).trans ?_
    rfl
theorem q_R_lookAtOther {h : zH} {x1 : Int} {p : Nat} (KC : KC h) (rp : hR h 128 1 = some p) (hp : PS h p) : zC 62 [zR (some 128), zI x1] h =
    if (f_P_kindOf h p x1) = 1 then
      zY 62 20 [some (zR (some 128)), some (zI x1), some (zI 1), some (zI 0)] [] h
    else
      zY 62 20 [some (zR (some 128)), some (zI x1), some (zI 0), some (zI 0)] [] h := by
  refine (show zC 62 [zR (some 128), zI x1] h = gd (zob h (some 128) 6) (zY 62 4 [some (zR (some 128)), some (zI x1), none, none] [zR (hR h 128 1)] h) from zGo 2 62 0 _ _ _).trans ?_
  refine (gd_t (⟨rfl, (PTC KC 128 _ rfl rfl), (PNC KC 128 rfl)⟩) _).trans ?_
  refine (congrArg (fun r => zY 62 4 [some (zR (some 128)), some (zI x1), none, none] (zR r :: []) h) rp).trans ?_
  refine (show zY 62 4 [some (zR (some 128)), some (zI x1), none, none] [zR (some p)] h = gd (false = zctor 36 ∧ zcs [] ≤ 8 ∧ zrm 62 (zrf 36 + 1) (8 + (zmaxl 36 + 11) + zrl 36) = true ∧ zcs [zR (some p), zI x1] ≤ zmaxl 36) (gd (zob h (some p) 5) (zBack zY 62 5 8 [some (zR (some 128)), some (zI x1), none, none] [] (zC 36 [zR (some p), zI x1] h))) from zGo 2 62 4 _ _ _).trans ?_
  refine (gd_t (⟨rfl, Nat.le_of_ble_eq_true rfl, rfl, Nat.le_of_ble_eq_true rfl⟩) _).trans ?_
  refine (gd_t (⟨rfl, hp.1, (PS_n hp)⟩) _).trans ?_
  refine (congrArg (zBack zY 62 5 8 [some (zR (some 128)), some (zI x1), none, none] []) (e_P_kindOf hp)).trans ?_
  refine (show zY 62 8 [some (zR (some 128)), some (zI x1), none, none] [zI (f_P_kindOf h p x1)] h = gd (inR (1)) (if (f_P_kindOf h p x1) = 1 then zY 62 12 [some (zR (some 128)), some (zI x1), none, none] [] h else zY 62 16 [some (zR (some 128)), some (zI x1), none, none] [] h) from zGo 2 62 8 _ _ _).trans ?_
  refine (gd_t (by decide) _).trans ?_
  refine iteC (fun c0 => ?_) (fun c0 => ?_)
  · skip
    refine (show zY 62 12 [some (zR (some 128)), some (zI x1), none, none] [] h = gd (inR (1)) (gd (inR (0)) (zY 62 20 [some (zR (some 128)), some (zI x1), some (zI 1), some (zI 0)] [] h)) from zGo 5 62 12 _ _ _).trans ?_
    refine (gd_t (by decide) _).trans ?_
    refine (gd_t (by decide) _).trans ?_
    rfl
  · skip
    refine (show zY 62 16 [some (zR (some 128)), some (zI x1), none, none] [] h = gd (inR (0)) (gd (inR (0)) (zY 62 20 [some (zR (some 128)), some (zI x1), some (zI 0), some (zI 0)] [] h)) from zGo 4 62 16 _ _ _).trans ?_
    refine (gd_t (by decide) _).trans ?_
    refine (gd_t (by decide) _).trans ?_
    rfl
theorem q_R_lookAtOther_20 {h : zH} {x1 : Int} {x2 : Int} {x3 : Int} {p : Nat} (KC : KC h) (g0 : (x3 < 64) → (x2 = 0) → ((¬ (x1 < 0)) → (x1 < 24) → (¬ ((hI h 96 x1.toNat) = (-1))) → (-2147483648 ≤ 2 * (hI h 96 x1.toNat) ∧ 2 * (hI h 96 x1.toNat) < 2147483648)) := by omega) (rp : hR h 128 1 = some p) (hp : PS h p) : zY 62 20 [some (zR (some 128)), some (zI x1), some (zI x2), some (zI x3)] [] h =
    if x3 < 64 then
      if x2 = 0 then
        zBack zY 62 42 45 [some (zR (some 128)), some (zI x1), some (zI x2), some (zI x3)] [] (zC 61 [zR (some 128), zI x1, zI x3, zI (f_S_moved h x1 x3)] h)
      else
        if b_S_holdsIn h x1 x3 then
          zBack zY 62 73 76 [some (zR (some 128)), some (zI x1), some (zI x2), some (zI x3)] [zI x3, zI x1, zR (some 128)] (zC 60 [zR (some 128), zI (f_P_firstOf h p x1), zI x3] h)
        else
          zBack zY 62 95 98 [some (zR (some 128)), some (zI x1), some (zI x2), some (zI x3)] [zI x3, zI x1, zR (some 128)] (zC 60 [zR (some 128), zI (f_P_secondOf h p x1), zI x3] h)
    else
      some (.inl (none), h) := by
  refine (show zY 62 20 [some (zR (some 128)), some (zI x1), some (zI x2), some (zI x3)] [] h = gd (-128 ≤ (64 : Int) ∧ (64 : Int) < 128) (if x3 < 64 then zY 62 26 [some (zR (some 128)), some (zI x1), some (zI x2), some (zI x3)] [] h else zY 62 107 [some (zR (some 128)), some (zI x1), some (zI x2), some (zI x3)] [] h) from zGo 3 62 20 _ _ _).trans ?_
  refine (gd_t (by decide) _).trans ?_
  refine iteC (fun c0 => ?_) (fun c0 => ?_)
  · skip
    refine (show zY 62 26 [some (zR (some 128)), some (zI x1), some (zI x2), some (zI x3)] [] h = if x2 = 0 then zY 62 30 [some (zR (some 128)), some (zI x1), some (zI x2), some (zI x3)] [] h else zY 62 48 [some (zR (some 128)), some (zI x1), some (zI x2), some (zI x3)] [] h from zGo 2 62 26 _ _ _).trans ?_
    refine iteC (fun c1 => ?_) (fun c1 => ?_)
    · skip
      refine (show zY 62 30 [some (zR (some 128)), some (zI x1), some (zI x2), some (zI x3)] [] h = gd (zob h (some 128) 6) (zY 62 37 [some (zR (some 128)), some (zI x1), some (zI x2), some (zI x3)] [zR (hR h 128 0), zI x3, zI x1, zR (some 128)] h) from zGo 5 62 30 _ _ _).trans ?_
      refine (gd_t (⟨rfl, (PTC KC 128 _ rfl rfl), (PNC KC 128 rfl)⟩) _).trans ?_
      refine (congrArg (fun r => zY 62 37 [some (zR (some 128)), some (zI x1), some (zI x2), some (zI x3)] (zR r :: zI x3 :: zI x1 :: zR (some 128) :: []) h) (PRC KC 128 0 _ rfl)).trans ?_
      refine (show zY 62 37 [some (zR (some 128)), some (zI x1), some (zI x2), some (zI x3)] [zR (some 90), zI x3, zI x1, zR (some 128)] h = gd (false = zctor 105 ∧ zcs [zI x3, zI x1, zR (some 128)] ≤ 8 ∧ zrm 62 (zrf 105 + 1) (8 + (zmaxl 105 + 11) + zrl 105) = true ∧ zcs [zR (some 90), zI x1, zI x3] ≤ zmaxl 105) (gd (zob h (some 90) 8) (zBack zY 62 39 42 [some (zR (some 128)), some (zI x1), some (zI x2), some (zI x3)] [zI x3, zI x1, zR (some 128)] (zC 105 [zR (some 90), zI x1, zI x3] h))) from zGo 3 62 37 _ _ _).trans ?_
      refine (gd_t (⟨rfl, Nat.le_of_ble_eq_true rfl, rfl, Nat.le_of_ble_eq_true rfl⟩) _).trans ?_
      refine (gd_t (⟨rfl, (PTC KC 90 _ rfl rfl), (PNC KC 90 rfl)⟩) _).trans ?_
      refine (congrArg (zBack zY 62 39 42 [some (zR (some 128)), some (zI x1), some (zI x2), some (zI x3)] [zI x3, zI x1, zR (some 128)]) (e_S_moved KC (g0 c0 c1))).trans ?_
      refine (show zY 62 42 [some (zR (some 128)), some (zI x1), some (zI x2), some (zI x3)] [zI (f_S_moved h x1 x3), zI x3, zI x1, zR (some 128)] h = gd (false = zctor 61 ∧ zcs [] ≤ 8 ∧ zrm 62 (zrf 61 + 1) (8 + (zmaxl 61 + 11) + zrl 61) = true ∧ zcs [zR (some 128), zI x1, zI x3, zI (f_S_moved h x1 x3)] ≤ zmaxl 61) (gd (zob h (some 128) 6) (zBack zY 62 42 45 [some (zR (some 128)), some (zI x1), some (zI x2), some (zI x3)] [] (zC 61 [zR (some 128), zI x1, zI x3, zI (f_S_moved h x1 x3)] h))) from zGo 1 62 42 _ _ _).trans ?_
      refine (gd_t (⟨rfl, Nat.le_of_ble_eq_true rfl, rfl, Nat.le_of_ble_eq_true rfl⟩) _).trans ?_
      refine (gd_t (⟨rfl, (PTC KC 128 _ rfl rfl), (PNC KC 128 rfl)⟩) _).trans ?_
      rfl
    · skip
      refine (show zY 62 48 [some (zR (some 128)), some (zI x1), some (zI x2), some (zI x3)] [] h = gd (zob h (some 128) 6) (zY 62 52 [some (zR (some 128)), some (zI x1), some (zI x2), some (zI x3)] [zR (hR h 128 0)] h) from zGo 2 62 48 _ _ _).trans ?_
      refine (gd_t (⟨rfl, (PTC KC 128 _ rfl rfl), (PNC KC 128 rfl)⟩) _).trans ?_
      refine (congrArg (fun r => zY 62 52 [some (zR (some 128)), some (zI x1), some (zI x2), some (zI x3)] (zR r :: []) h) (PRC KC 128 0 _ rfl)).trans ?_
      refine (show zY 62 52 [some (zR (some 128)), some (zI x1), some (zI x2), some (zI x3)] [zR (some 90)] h = gd (false = zctor 102 ∧ zcs [] ≤ 8 ∧ zrm 62 (zrf 102 + 1) (8 + (zmaxl 102 + 11) + zrl 102) = true ∧ zcs [zR (some 90), zI x1, zI x3] ≤ zmaxl 102) (gd (zob h (some 90) 8) (zBack zY 62 54 57 [some (zR (some 128)), some (zI x1), some (zI x2), some (zI x3)] [] (zC 102 [zR (some 90), zI x1, zI x3] h))) from zGo 3 62 52 _ _ _).trans ?_
      refine (gd_t (⟨rfl, Nat.le_of_ble_eq_true rfl, rfl, Nat.le_of_ble_eq_true rfl⟩) _).trans ?_
      refine (gd_t (⟨rfl, (PTC KC 90 _ rfl rfl), (PNC KC 90 rfl)⟩) _).trans ?_
      refine (congrArg (zBack zY 62 54 57 [some (zR (some 128)), some (zI x1), some (zI x2), some (zI x3)] []) (e_S_holdsIn KC)).trans ?_
      refine (show zY 62 57 [some (zR (some 128)), some (zI x1), some (zI x2), some (zI x3)] [zI (if b_S_holdsIn h x1 x3 then (1 : Int) else 0)] h = if (if b_S_holdsIn h x1 x3 then (1 : Int) else 0) = 0 then zY 62 82 [some (zR (some 128)), some (zI x1), some (zI x2), some (zI x3)] [] h else zY 62 60 [some (zR (some 128)), some (zI x1), some (zI x2), some (zI x3)] [] h from zGo 1 62 57 _ _ _).trans ?_
      refine iteB (fun c2 => ?_) (fun c2 => ?_)
      · skip
        refine (show zY 62 60 [some (zR (some 128)), some (zI x1), some (zI x2), some (zI x3)] [] h = gd (zob h (some 128) 6) (zY 62 68 [some (zR (some 128)), some (zI x1), some (zI x2), some (zI x3)] [zR (hR h 128 1), zR (some 128), zI x3, zI x1, zR (some 128)] h) from zGo 6 62 60 _ _ _).trans ?_
        refine (gd_t (⟨rfl, (PTC KC 128 _ rfl rfl), (PNC KC 128 rfl)⟩) _).trans ?_
        refine (congrArg (fun r => zY 62 68 [some (zR (some 128)), some (zI x1), some (zI x2), some (zI x3)] (zR r :: zR (some 128) :: zI x3 :: zI x1 :: zR (some 128) :: []) h) rp).trans ?_
        refine (show zY 62 68 [some (zR (some 128)), some (zI x1), some (zI x2), some (zI x3)] [zR (some p), zR (some 128), zI x3, zI x1, zR (some 128)] h = gd (false = zctor 41 ∧ zcs [zR (some 128), zI x3, zI x1, zR (some 128)] ≤ 8 ∧ zrm 62 (zrf 41 + 1) (8 + (zmaxl 41 + 11) + zrl 41) = true ∧ zcs [zR (some p), zI x1] ≤ zmaxl 41) (gd (zob h (some p) 5) (zBack zY 62 69 72 [some (zR (some 128)), some (zI x1), some (zI x2), some (zI x3)] [zR (some 128), zI x3, zI x1, zR (some 128)] (zC 41 [zR (some p), zI x1] h))) from zGo 2 62 68 _ _ _).trans ?_
        refine (gd_t (⟨rfl, Nat.le_of_ble_eq_true rfl, rfl, Nat.le_of_ble_eq_true rfl⟩) _).trans ?_
        refine (gd_t (⟨rfl, hp.1, (PS_n hp)⟩) _).trans ?_
        refine (congrArg (zBack zY 62 69 72 [some (zR (some 128)), some (zI x1), some (zI x2), some (zI x3)] [zR (some 128), zI x3, zI x1, zR (some 128)]) (e_P_firstOf hp)).trans ?_
        refine (show zY 62 72 [some (zR (some 128)), some (zI x1), some (zI x2), some (zI x3)] [zI (f_P_firstOf h p x1), zR (some 128), zI x3, zI x1, zR (some 128)] h = gd (false = zctor 60 ∧ zcs [zI x3, zI x1, zR (some 128)] ≤ 8 ∧ zrm 62 (zrf 60 + 1) (8 + (zmaxl 60 + 11) + zrl 60) = true ∧ zcs [zR (some 128), zI (f_P_firstOf h p x1), zI x3] ≤ zmaxl 60) (gd (zob h (some 128) 6) (zBack zY 62 73 76 [some (zR (some 128)), some (zI x1), some (zI x2), some (zI x3)] [zI x3, zI x1, zR (some 128)] (zC 60 [zR (some 128), zI (f_P_firstOf h p x1), zI x3] h))) from zGo 2 62 72 _ _ _).trans ?_
        refine (gd_t (⟨rfl, Nat.le_of_ble_eq_true rfl, rfl, Nat.le_of_ble_eq_true rfl⟩) _).trans ?_
        refine (gd_t (⟨rfl, (PTC KC 128 _ rfl rfl), (PNC KC 128 rfl)⟩) _).trans ?_
        rfl
      · skip
        refine (show zY 62 82 [some (zR (some 128)), some (zI x1), some (zI x2), some (zI x3)] [] h = gd (zob h (some 128) 6) (zY 62 90 [some (zR (some 128)), some (zI x1), some (zI x2), some (zI x3)] [zR (hR h 128 1), zR (some 128), zI x3, zI x1, zR (some 128)] h) from zGo 6 62 82 _ _ _).trans ?_
        refine (gd_t (⟨rfl, (PTC KC 128 _ rfl rfl), (PNC KC 128 rfl)⟩) _).trans ?_
        refine (congrArg (fun r => zY 62 90 [some (zR (some 128)), some (zI x1), some (zI x2), some (zI x3)] (zR r :: zR (some 128) :: zI x3 :: zI x1 :: zR (some 128) :: []) h) rp).trans ?_
        refine (show zY 62 90 [some (zR (some 128)), some (zI x1), some (zI x2), some (zI x3)] [zR (some p), zR (some 128), zI x3, zI x1, zR (some 128)] h = gd (false = zctor 40 ∧ zcs [zR (some 128), zI x3, zI x1, zR (some 128)] ≤ 8 ∧ zrm 62 (zrf 40 + 1) (8 + (zmaxl 40 + 11) + zrl 40) = true ∧ zcs [zR (some p), zI x1] ≤ zmaxl 40) (gd (zob h (some p) 5) (zBack zY 62 91 94 [some (zR (some 128)), some (zI x1), some (zI x2), some (zI x3)] [zR (some 128), zI x3, zI x1, zR (some 128)] (zC 40 [zR (some p), zI x1] h))) from zGo 2 62 90 _ _ _).trans ?_
        refine (gd_t (⟨rfl, Nat.le_of_ble_eq_true rfl, rfl, Nat.le_of_ble_eq_true rfl⟩) _).trans ?_
        refine (gd_t (⟨rfl, hp.1, (PS_n hp)⟩) _).trans ?_
        refine (congrArg (zBack zY 62 91 94 [some (zR (some 128)), some (zI x1), some (zI x2), some (zI x3)] [zR (some 128), zI x3, zI x1, zR (some 128)]) (e_P_secondOf hp)).trans ?_
        refine (show zY 62 94 [some (zR (some 128)), some (zI x1), some (zI x2), some (zI x3)] [zI (f_P_secondOf h p x1), zR (some 128), zI x3, zI x1, zR (some 128)] h = gd (false = zctor 60 ∧ zcs [zI x3, zI x1, zR (some 128)] ≤ 8 ∧ zrm 62 (zrf 60 + 1) (8 + (zmaxl 60 + 11) + zrl 60) = true ∧ zcs [zR (some 128), zI (f_P_secondOf h p x1), zI x3] ≤ zmaxl 60) (gd (zob h (some 128) 6) (zBack zY 62 95 98 [some (zR (some 128)), some (zI x1), some (zI x2), some (zI x3)] [zI x3, zI x1, zR (some 128)] (zC 60 [zR (some 128), zI (f_P_secondOf h p x1), zI x3] h))) from zGo 2 62 94 _ _ _).trans ?_
        refine (gd_t (⟨rfl, Nat.le_of_ble_eq_true rfl, rfl, Nat.le_of_ble_eq_true rfl⟩) _).trans ?_
        refine (gd_t (⟨rfl, (PTC KC 128 _ rfl rfl), (PNC KC 128 rfl)⟩) _).trans ?_
        rfl
  · skip
    refine (show zY 62 107 [some (zR (some 128)), some (zI x1), some (zI x2), some (zI x3)] [] h = gd (([] : List zV).isEmpty = true ∧ zrk 62 = 0) (some (.inl (none), h)) from zGo 1 62 107 _ _ _).trans ?_
    refine (gd_t (⟨rfl, rfl⟩) _).trans ?_
    rfl
theorem q_R_lookAtOther_r45 {h : zH} {x1 : Int} {x2 : Int} {x3 : Int} (KC : KC h) : zBack zY 62 42 45 [some (zR (some 128)), some (zI x1), some (zI x2), some (zI x3)] [] (some (.inl (none), h)) =
    gd (-2147483648 ≤ x3 + 1 ∧ x3 + 1 < 2147483648) (
    zY 62 20 [some (zR (some 128)), some (zI x1), some (zI x2), some (zI (x3 + 1))] [] h) := by
  refine (show zBack zY 62 42 45 [some (zR (some 128)), some (zI x1), some (zI x2), some (zI x3)] [] (some (.inl (none), h)) = gd (inR (x3 + 1)) (gd (inR (1)) (zY 62 20 [some (zR (some 128)), some (zI x1), some (zI x2), some (zI (x3 + 1))] [] h)) from zGo 3 62 45 _ _ _).trans ?_
  refine gd_c Iff.rfl (fun c0 => ?_)
  refine (gd_t (by decide) _).trans ?_
  rfl
theorem q_R_lookAtOther_r76 {h : zH} {x1 : Int} {x2 : Int} {x3 : Int} {y1 : Int} {y2 : Int} {y : Int} (KC : KC h) : zBack zY 62 73 76 [some (zR (some 128)), some (zI x1), some (zI x2), some (zI x3)] [zI y2, zI y1, zR (some 128)] (some (.inl (some (zI y)), h)) =
    zBack zY 62 76 79 [some (zR (some 128)), some (zI x1), some (zI x2), some (zI x3)] [] (zC 61 [zR (some 128), zI y1, zI y2, zI y] h) := by
  refine (show zBack zY 62 73 76 [some (zR (some 128)), some (zI x1), some (zI x2), some (zI x3)] [zI y2, zI y1, zR (some 128)] (some (.inl (some (zI y)), h)) = gd (false = zctor 61 ∧ zcs [] ≤ 8 ∧ zrm 62 (zrf 61 + 1) (8 + (zmaxl 61 + 11) + zrl 61) = true ∧ zcs [zR (some 128), zI y1, zI y2, zI y] ≤ zmaxl 61) (gd (zob h (some 128) 6) (zBack zY 62 76 79 [some (zR (some 128)), some (zI x1), some (zI x2), some (zI x3)] [] (zC 61 [zR (some 128), zI y1, zI y2, zI y] h))) from zGo 1 62 76 _ _ _).trans ?_
  refine (gd_t (⟨rfl, Nat.le_of_ble_eq_true rfl, rfl, Nat.le_of_ble_eq_true rfl⟩) _).trans ?_
  refine (gd_t (⟨rfl, (PTC KC 128 _ rfl rfl), (PNC KC 128 rfl)⟩) _).trans ?_
  rfl
theorem q_R_lookAtOther_r79 {h : zH} {x1 : Int} {x2 : Int} {x3 : Int} (KC : KC h) : zBack zY 62 76 79 [some (zR (some 128)), some (zI x1), some (zI x2), some (zI x3)] [] (some (.inl (none), h)) =
    gd (-2147483648 ≤ x3 + 1 ∧ x3 + 1 < 2147483648) (
    zY 62 20 [some (zR (some 128)), some (zI x1), some (zI x2), some (zI (x3 + 1))] [] h) := by
  refine (show zBack zY 62 76 79 [some (zR (some 128)), some (zI x1), some (zI x2), some (zI x3)] [] (some (.inl (none), h)) = gd (inR (x3 + 1)) (gd (inR (1)) (zY 62 20 [some (zR (some 128)), some (zI x1), some (zI x2), some (zI (x3 + 1))] [] h)) from zGo 3 62 79 _ _ _).trans ?_
  refine gd_c Iff.rfl (fun c0 => ?_)
  refine (gd_t (by decide) _).trans ?_
  rfl
theorem q_R_lookAtOther_r98 {h : zH} {x1 : Int} {x2 : Int} {x3 : Int} {y1 : Int} {y2 : Int} {y : Int} (KC : KC h) : zBack zY 62 95 98 [some (zR (some 128)), some (zI x1), some (zI x2), some (zI x3)] [zI y2, zI y1, zR (some 128)] (some (.inl (some (zI y)), h)) =
    zBack zY 62 98 101 [some (zR (some 128)), some (zI x1), some (zI x2), some (zI x3)] [] (zC 61 [zR (some 128), zI y1, zI y2, zI y] h) := by
  refine (show zBack zY 62 95 98 [some (zR (some 128)), some (zI x1), some (zI x2), some (zI x3)] [zI y2, zI y1, zR (some 128)] (some (.inl (some (zI y)), h)) = gd (false = zctor 61 ∧ zcs [] ≤ 8 ∧ zrm 62 (zrf 61 + 1) (8 + (zmaxl 61 + 11) + zrl 61) = true ∧ zcs [zR (some 128), zI y1, zI y2, zI y] ≤ zmaxl 61) (gd (zob h (some 128) 6) (zBack zY 62 98 101 [some (zR (some 128)), some (zI x1), some (zI x2), some (zI x3)] [] (zC 61 [zR (some 128), zI y1, zI y2, zI y] h))) from zGo 1 62 98 _ _ _).trans ?_
  refine (gd_t (⟨rfl, Nat.le_of_ble_eq_true rfl, rfl, Nat.le_of_ble_eq_true rfl⟩) _).trans ?_
  refine (gd_t (⟨rfl, (PTC KC 128 _ rfl rfl), (PNC KC 128 rfl)⟩) _).trans ?_
  rfl
theorem q_R_lookAtOther_r101 {h : zH} {x1 : Int} {x2 : Int} {x3 : Int} (KC : KC h) : zBack zY 62 98 101 [some (zR (some 128)), some (zI x1), some (zI x2), some (zI x3)] [] (some (.inl (none), h)) =
    gd (-2147483648 ≤ x3 + 1 ∧ x3 + 1 < 2147483648) (
    zY 62 20 [some (zR (some 128)), some (zI x1), some (zI x2), some (zI (x3 + 1))] [] h) := by
  refine (show zBack zY 62 98 101 [some (zR (some 128)), some (zI x1), some (zI x2), some (zI x3)] [] (some (.inl (none), h)) = gd (inR (x3 + 1)) (gd (inR (1)) (zY 62 20 [some (zR (some 128)), some (zI x1), some (zI x2), some (zI (x3 + 1))] [] h)) from zGo 2 62 101 _ _ _).trans ?_
  refine gd_c Iff.rfl (fun c0 => ?_)
  refine (gd_t (by decide) _).trans ?_
  rfl
theorem q_R_lookAtLoop {h : zH} {x1 : Int} (KC : KC h) : zC 59 [zR (some 128), zI x1] h =
    zY 59 2 [some (zR (some 128)), some (zI x1), some (zI 0), none, none] [] h := by
  refine (show zC 59 [zR (some 128), zI x1] h = gd (inR (0)) (zY 59 2 [some (zR (some 128)), some (zI x1), some (zI 0), none, none] [] h) from zGo 2 59 0 _ _ _).trans ?_
  refine (gd_t (by decide) _).trans ?_
  rfl
theorem q_R_lookAtLoop_2 {h : zH} {x1 : Int} {x2 : Int} {p : Nat} (KC : KC h) (rp : hR h 128 1 = some p) (hp : PS h p) : zY 59 2 [some (zR (some 128)), some (zI x1), some (zI x2), none, none] [] h =
    if x2 < 64 then
      if b_S_holdsIn h x1 x2 then
        zBack zY 59 37 40 [some (zR (some 128)), some (zI x1), some (zI x2), some (zI (if b_S_holdsIn h x1 x2 then (1 : Int) else 0)), none] [zI x2, zR (some 130)] (zC 60 [zR (some 128), zI (f_P_firstOf h p x1), zI x2] h)
      else
        gd (0 ≤ x2 ∧ x2 < 64) (
        gd (-2147483648 ≤ x2 + 1 ∧ x2 + 1 < 2147483648) (
        zY 59 2 [some (zR (some 128)), some (zI x1), some (zI (x2 + 1)), some (zI (if b_S_holdsIn h x1 x2 then (1 : Int) else 0)), none] [] (sI h 130 x2.toNat x2)))
    else
      zY 59 53 [some (zR (some 128)), some (zI x1), some (zI 1), none, none] [] h := by
  refine (show zY 59 2 [some (zR (some 128)), some (zI x1), some (zI x2), none, none] [] h = gd (-128 ≤ (64 : Int) ∧ (64 : Int) < 128) (if x2 < 64 then zY 59 8 [some (zR (some 128)), some (zI x1), some (zI x2), none, none] [] h else zY 59 51 [some (zR (some 128)), some (zI x1), some (zI x2), none, none] [] h) from zGo 3 59 2 _ _ _).trans ?_
  refine (gd_t (by decide) _).trans ?_
  refine iteC (fun c0 => ?_) (fun c0 => ?_)
  · skip
    refine (show zY 59 8 [some (zR (some 128)), some (zI x1), some (zI x2), none, none] [] h = gd (zob h (some 128) 6) (zY 59 12 [some (zR (some 128)), some (zI x1), some (zI x2), none, none] [zR (hR h 128 0)] h) from zGo 2 59 8 _ _ _).trans ?_
    refine (gd_t (⟨rfl, (PTC KC 128 _ rfl rfl), (PNC KC 128 rfl)⟩) _).trans ?_
    refine (congrArg (fun r => zY 59 12 [some (zR (some 128)), some (zI x1), some (zI x2), none, none] (zR r :: []) h) (PRC KC 128 0 _ rfl)).trans ?_
    refine (show zY 59 12 [some (zR (some 128)), some (zI x1), some (zI x2), none, none] [zR (some 90)] h = gd (false = zctor 102 ∧ zcs [] ≤ 8 ∧ zrm 59 (zrf 102 + 1) (8 + (zmaxl 102 + 11) + zrl 102) = true ∧ zcs [zR (some 90), zI x1, zI x2] ≤ zmaxl 102) (gd (zob h (some 90) 8) (zBack zY 59 14 17 [some (zR (some 128)), some (zI x1), some (zI x2), none, none] [] (zC 102 [zR (some 90), zI x1, zI x2] h))) from zGo 3 59 12 _ _ _).trans ?_
    refine (gd_t (⟨rfl, Nat.le_of_ble_eq_true rfl, rfl, Nat.le_of_ble_eq_true rfl⟩) _).trans ?_
    refine (gd_t (⟨rfl, (PTC KC 90 _ rfl rfl), (PNC KC 90 rfl)⟩) _).trans ?_
    refine (congrArg (zBack zY 59 14 17 [some (zR (some 128)), some (zI x1), some (zI x2), none, none] []) (e_S_holdsIn KC)).trans ?_
    refine (show zY 59 17 [some (zR (some 128)), some (zI x1), some (zI x2), none, none] [zI (if b_S_holdsIn h x1 x2 then (1 : Int) else 0)] h = gd (zob h (some 128) 6) (zY 59 22 [some (zR (some 128)), some (zI x1), some (zI x2), some (zI (if b_S_holdsIn h x1 x2 then (1 : Int) else 0)), none] [zR (hR h 128 4)] h) from zGo 3 59 17 _ _ _).trans ?_
    refine (gd_t (⟨rfl, (PTC KC 128 _ rfl rfl), (PNC KC 128 rfl)⟩) _).trans ?_
    refine (congrArg (fun r => zY 59 22 [some (zR (some 128)), some (zI x1), some (zI x2), some (zI (if b_S_holdsIn h x1 x2 then (1 : Int) else 0)), none] (zR r :: []) h) (PRC KC 128 4 _ rfl)).trans ?_
    refine (show zY 59 22 [some (zR (some 128)), some (zI x1), some (zI x2), some (zI (if b_S_holdsIn h x1 x2 then (1 : Int) else 0)), none] [zR (some 130)] h = if (if b_S_holdsIn h x1 x2 then (1 : Int) else 0) = 0 then zY 59 43 [some (zR (some 128)), some (zI x1), some (zI x2), some (zI (if b_S_holdsIn h x1 x2 then (1 : Int) else 0)), none] [zI x2, zR (some 130)] h else zY 59 27 [some (zR (some 128)), some (zI x1), some (zI x2), some (zI (if b_S_holdsIn h x1 x2 then (1 : Int) else 0)), none] [zI x2, zR (some 130)] h from zGo 3 59 22 _ _ _).trans ?_
    refine iteB (fun c1 => ?_) (fun c1 => ?_)
    · skip
      refine (show zY 59 27 [some (zR (some 128)), some (zI x1), some (zI x2), some (zI (if b_S_holdsIn h x1 x2 then (1 : Int) else 0)), none] [zI x2, zR (some 130)] h = gd (zob h (some 128) 6) (zY 59 32 [some (zR (some 128)), some (zI x1), some (zI x2), some (zI (if b_S_holdsIn h x1 x2 then (1 : Int) else 0)), none] [zR (hR h 128 1), zR (some 128), zI x2, zR (some 130)] h) from zGo 3 59 27 _ _ _).trans ?_
      refine (gd_t (⟨rfl, (PTC KC 128 _ rfl rfl), (PNC KC 128 rfl)⟩) _).trans ?_
      refine (congrArg (fun r => zY 59 32 [some (zR (some 128)), some (zI x1), some (zI x2), some (zI (if b_S_holdsIn h x1 x2 then (1 : Int) else 0)), none] (zR r :: zR (some 128) :: zI x2 :: zR (some 130) :: []) h) rp).trans ?_
      refine (show zY 59 32 [some (zR (some 128)), some (zI x1), some (zI x2), some (zI (if b_S_holdsIn h x1 x2 then (1 : Int) else 0)), none] [zR (some p), zR (some 128), zI x2, zR (some 130)] h = gd (false = zctor 41 ∧ zcs [zR (some 128), zI x2, zR (some 130)] ≤ 8 ∧ zrm 59 (zrf 41 + 1) (8 + (zmaxl 41 + 11) + zrl 41) = true ∧ zcs [zR (some p), zI x1] ≤ zmaxl 41) (gd (zob h (some p) 5) (zBack zY 59 33 36 [some (zR (some 128)), some (zI x1), some (zI x2), some (zI (if b_S_holdsIn h x1 x2 then (1 : Int) else 0)), none] [zR (some 128), zI x2, zR (some 130)] (zC 41 [zR (some p), zI x1] h))) from zGo 2 59 32 _ _ _).trans ?_
      refine (gd_t (⟨rfl, Nat.le_of_ble_eq_true rfl, rfl, Nat.le_of_ble_eq_true rfl⟩) _).trans ?_
      refine (gd_t (⟨rfl, hp.1, (PS_n hp)⟩) _).trans ?_
      refine (congrArg (zBack zY 59 33 36 [some (zR (some 128)), some (zI x1), some (zI x2), some (zI (if b_S_holdsIn h x1 x2 then (1 : Int) else 0)), none] [zR (some 128), zI x2, zR (some 130)]) (e_P_firstOf hp)).trans ?_
      refine (show zY 59 36 [some (zR (some 128)), some (zI x1), some (zI x2), some (zI (if b_S_holdsIn h x1 x2 then (1 : Int) else 0)), none] [zI (f_P_firstOf h p x1), zR (some 128), zI x2, zR (some 130)] h = gd (false = zctor 60 ∧ zcs [zI x2, zR (some 130)] ≤ 8 ∧ zrm 59 (zrf 60 + 1) (8 + (zmaxl 60 + 11) + zrl 60) = true ∧ zcs [zR (some 128), zI (f_P_firstOf h p x1), zI x2] ≤ zmaxl 60) (gd (zob h (some 128) 6) (zBack zY 59 37 40 [some (zR (some 128)), some (zI x1), some (zI x2), some (zI (if b_S_holdsIn h x1 x2 then (1 : Int) else 0)), none] [zI x2, zR (some 130)] (zC 60 [zR (some 128), zI (f_P_firstOf h p x1), zI x2] h))) from zGo 2 59 36 _ _ _).trans ?_
      refine (gd_t (⟨rfl, Nat.le_of_ble_eq_true rfl, rfl, Nat.le_of_ble_eq_true rfl⟩) _).trans ?_
      refine (gd_t (⟨rfl, (PTC KC 128 _ rfl rfl), (PNC KC 128 rfl)⟩) _).trans ?_
      rfl
    · skip
      refine (show zY 59 43 [some (zR (some 128)), some (zI x1), some (zI x2), some (zI (if b_S_holdsIn h x1 x2 then (1 : Int) else 0)), none] [zI x2, zR (some 130)] h = gd (zokw h (some 130) 22 x2) (gd (inR (x2 + 1)) (gd (inR (1)) (zY 59 2 [some (zR (some 128)), some (zI x1), some (zI (x2 + 1)), some (zI (if b_S_holdsIn h x1 x2 then (1 : Int) else 0)), none] [] (sI h 130 x2.toNat x2)))) from zGo 4 59 43 _ _ _).trans ?_
      refine gd_c (ciw (PTC KC 130 _ rfl rfl) (PNC KC 130 rfl) (PLC KC 130 64 rfl rfl)) (fun c2 => ?_)
      refine gd_c Iff.rfl (fun c3 => ?_)
      refine (gd_t (by decide) _).trans ?_
      rfl
  · skip
    refine (show zY 59 51 [some (zR (some 128)), some (zI x1), some (zI x2), none, none] [] h = gd (inR (1)) (zY 59 53 [some (zR (some 128)), some (zI x1), some (zI 1), none, none] [] h) from zGo 2 59 51 _ _ _).trans ?_
    refine (gd_t (by decide) _).trans ?_
    rfl
theorem q_R_lookAtLoop_r40 {h : zH} {x1 : Int} {x2 : Int} {x3 : Int} {y1 : Int} {y : Int} (KC : KC h) : zBack zY 59 37 40 [some (zR (some 128)), some (zI x1), some (zI x2), some (zI x3), none] [zI y1, zR (some 130)] (some (.inl (some (zI y)), h)) =
    gd (0 ≤ y1 ∧ y1 < 64) (
    gd (-2147483648 ≤ x2 + 1 ∧ x2 + 1 < 2147483648) (
    zY 59 2 [some (zR (some 128)), some (zI x1), some (zI (x2 + 1)), some (zI x3), none] [] (sI h 130 y1.toNat y))) := by
  refine (show zBack zY 59 37 40 [some (zR (some 128)), some (zI x1), some (zI x2), some (zI x3), none] [zI y1, zR (some 130)] (some (.inl (some (zI y)), h)) = gd (zokw h (some 130) 22 y1) (gd (inR (x2 + 1)) (gd (inR (1)) (zY 59 2 [some (zR (some 128)), some (zI x1), some (zI (x2 + 1)), some (zI x3), none] [] (sI h 130 y1.toNat y)))) from zGo 4 59 40 _ _ _).trans ?_
  refine gd_c (ciw (PTC KC 130 _ rfl rfl) (PNC KC 130 rfl) (PLC KC 130 64 rfl rfl)) (fun c0 => ?_)
  refine gd_c Iff.rfl (fun c1 => ?_)
  refine (gd_t (by decide) _).trans ?_
  rfl
theorem q_R_lookAtLoop_53 {h : zH} {x1 : Int} {x2 : Int} (KC : KC h) : zY 59 53 [some (zR (some 128)), some (zI x1), some (zI x2), none, none] [] h =
    if x2 < 64 then
      zY 59 61 [some (zR (some 128)), some (zI x1), some (zI x2), some (zI 0), none] [] h
    else
      zY 59 119 [some (zR (some 128)), some (zI x1), some (zI 0), none, none] [] h := by
  refine (show zY 59 53 [some (zR (some 128)), some (zI x1), some (zI x2), none, none] [] h = gd (-128 ≤ (64 : Int) ∧ (64 : Int) < 128) (if x2 < 64 then zY 59 59 [some (zR (some 128)), some (zI x1), some (zI x2), none, none] [] h else zY 59 117 [some (zR (some 128)), some (zI x1), some (zI x2), none, none] [] h) from zGo 3 59 53 _ _ _).trans ?_
  refine (gd_t (by decide) _).trans ?_
  refine iteC (fun c0 => ?_) (fun c0 => ?_)
  · skip
    refine (show zY 59 59 [some (zR (some 128)), some (zI x1), some (zI x2), none, none] [] h = gd (inR (0)) (zY 59 61 [some (zR (some 128)), some (zI x1), some (zI x2), some (zI 0), none] [] h) from zGo 2 59 59 _ _ _).trans ?_
    refine (gd_t (by decide) _).trans ?_
    rfl
  · skip
    refine (show zY 59 117 [some (zR (some 128)), some (zI x1), some (zI x2), none, none] [] h = gd (inR (0)) (zY 59 119 [some (zR (some 128)), some (zI x1), some (zI 0), none, none] [] h) from zGo 2 59 117 _ _ _).trans ?_
    refine (gd_t (by decide) _).trans ?_
    rfl
theorem q_R_lookAtLoop_61 {h : zH} {x1 : Int} {x2 : Int} {x3 : Int} (KC : KC h) : zY 59 61 [some (zR (some 128)), some (zI x1), some (zI x2), some (zI x3), none] [] h =
    if x3 < 64 then
      gd (0 ≤ x3 ∧ x3 < 64) (
      if (hI h 130 x3.toNat) < 0 then
        gd (-2147483648 ≤ x3 + 1 ∧ x3 + 1 < 2147483648) (
        zY 59 61 [some (zR (some 128)), some (zI x1), some (zI x2), some (zI (x3 + 1)), some (zI (hI h 130 x3.toNat))] [] (sI h 130 x3.toNat (-1)))
      else
        if (hI h 130 x3.toNat) < 64 then
          gd (-2147483648 ≤ x3 + 1 ∧ x3 + 1 < 2147483648) (
          zY 59 61 [some (zR (some 128)), some (zI x1), some (zI x2), some (zI (x3 + 1)), some (zI (hI h 130 x3.toNat))] [] (sI h 130 x3.toNat (hI h 130 (hI h 130 x3.toNat).toNat)))
        else
          gd (-2147483648 ≤ x3 + 1 ∧ x3 + 1 < 2147483648) (
          zY 59 61 [some (zR (some 128)), some (zI x1), some (zI x2), some (zI (x3 + 1)), some (zI (hI h 130 x3.toNat))] [] (sI h 130 x3.toNat (-1))))
    else
      gd (-2147483648 ≤ x2 * 2 ∧ x2 * 2 < 2147483648) (
      zY 59 53 [some (zR (some 128)), some (zI x1), some (zI (x2 * 2)), some (zI x3), none] [] h) := by
  refine (show zY 59 61 [some (zR (some 128)), some (zI x1), some (zI x2), some (zI x3), none] [] h = gd (-128 ≤ (64 : Int) ∧ (64 : Int) < 128) (if x3 < 64 then zY 59 67 [some (zR (some 128)), some (zI x1), some (zI x2), some (zI x3), none] [] h else zY 59 110 [some (zR (some 128)), some (zI x1), some (zI x2), some (zI x3), none] [] h) from zGo 3 59 61 _ _ _).trans ?_
  refine (gd_t (by decide) _).trans ?_
  refine iteC (fun c0 => ?_) (fun c0 => ?_)
  · skip
    refine (show zY 59 67 [some (zR (some 128)), some (zI x1), some (zI x2), some (zI x3), none] [] h = gd (zob h (some 128) 6) (zY 59 71 [some (zR (some 128)), some (zI x1), some (zI x2), some (zI x3), none] [zR (hR h 128 4)] h) from zGo 2 59 67 _ _ _).trans ?_
    refine (gd_t (⟨rfl, (PTC KC 128 _ rfl rfl), (PNC KC 128 rfl)⟩) _).trans ?_
    refine (congrArg (fun r => zY 59 71 [some (zR (some 128)), some (zI x1), some (zI x2), some (zI x3), none] (zR r :: []) h) (PRC KC 128 4 _ rfl)).trans ?_
    refine (show zY 59 71 [some (zR (some 128)), some (zI x1), some (zI x2), some (zI x3), none] [zR (some 130)] h = gd (zok h (some 130) 22 x3) (gd (zob h (some 128) 6) (zY 59 79 [some (zR (some 128)), some (zI x1), some (zI x2), some (zI x3), some (zI (hI h 130 x3.toNat))] [zR (hR h 128 4)] h)) from zGo 5 59 71 _ _ _).trans ?_
    refine gd_c (ci (PTC KC 130 _ rfl rfl) (PLC KC 130 64 rfl rfl)) (fun c1 => ?_)
    refine (gd_t (⟨rfl, (PTC KC 128 _ rfl rfl), (PNC KC 128 rfl)⟩) _).trans ?_
    refine (congrArg (fun r => zY 59 79 [some (zR (some 128)), some (zI x1), some (zI x2), some (zI x3), some (zI (hI h 130 x3.toNat))] (zR r :: []) h) (PRC KC 128 4 _ rfl)).trans ?_
    refine (show zY 59 79 [some (zR (some 128)), some (zI x1), some (zI x2), some (zI x3), some (zI (hI h 130 x3.toNat))] [zR (some 130)] h = if (hI h 130 x3.toNat) < 0 then zY 59 102 [some (zR (some 128)), some (zI x1), some (zI x2), some (zI x3), some (zI (hI h 130 x3.toNat))] [zI x3, zR (some 130)] h else zY 59 85 [some (zR (some 128)), some (zI x1), some (zI x2), some (zI x3), some (zI (hI h 130 x3.toNat))] [zI x3, zR (some 130)] h from zGo 3 59 79 _ _ _).trans ?_
    refine iteC (fun c2 => ?_) (fun c2 => ?_)
    · skip
      refine (show zY 59 102 [some (zR (some 128)), some (zI x1), some (zI x2), some (zI x3), some (zI (hI h 130 x3.toNat))] [zI x3, zR (some 130)] h = gd (inR (-1)) (gd (zokw h (some 130) 22 x3) (gd (inR (x3 + 1)) (gd (inR (1)) (zY 59 61 [some (zR (some 128)), some (zI x1), some (zI x2), some (zI (x3 + 1)), some (zI (hI h 130 x3.toNat))] [] (sI h 130 x3.toNat (-1)))))) from zGo 4 59 102 _ _ _).trans ?_
      refine (gd_t (by decide) _).trans ?_
      refine (gd_t ((ciw (PTC KC 130 _ rfl rfl) (PNC KC 130 rfl) (PLC KC 130 64 rfl rfl)).2 (by omega)) _).trans ?_
      refine gd_c Iff.rfl (fun c3 => ?_)
      refine (gd_t (by decide) _).trans ?_
      rfl
    · skip
      refine (show zY 59 85 [some (zR (some 128)), some (zI x1), some (zI x2), some (zI x3), some (zI (hI h 130 x3.toNat))] [zI x3, zR (some 130)] h = gd (-128 ≤ (64 : Int) ∧ (64 : Int) < 128) (if (hI h 130 x3.toNat) < 64 then zY 59 92 [some (zR (some 128)), some (zI x1), some (zI x2), some (zI x3), some (zI (hI h 130 x3.toNat))] [zI x3, zR (some 130)] h else zY 59 102 [some (zR (some 128)), some (zI x1), some (zI x2), some (zI x3), some (zI (hI h 130 x3.toNat))] [zI x3, zR (some 130)] h) from zGo 3 59 85 _ _ _).trans ?_
      refine (gd_t (by decide) _).trans ?_
      refine iteC (fun c4 => ?_) (fun c4 => ?_)
      · skip
        refine (show zY 59 92 [some (zR (some 128)), some (zI x1), some (zI x2), some (zI x3), some (zI (hI h 130 x3.toNat))] [zI x3, zR (some 130)] h = gd (zob h (some 128) 6) (zY 59 96 [some (zR (some 128)), some (zI x1), some (zI x2), some (zI x3), some (zI (hI h 130 x3.toNat))] [zR (hR h 128 4), zI x3, zR (some 130)] h) from zGo 2 59 92 _ _ _).trans ?_
        refine (gd_t (⟨rfl, (PTC KC 128 _ rfl rfl), (PNC KC 128 rfl)⟩) _).trans ?_
        refine (congrArg (fun r => zY 59 96 [some (zR (some 128)), some (zI x1), some (zI x2), some (zI x3), some (zI (hI h 130 x3.toNat))] (zR r :: zI x3 :: zR (some 130) :: []) h) (PRC KC 128 4 _ rfl)).trans ?_
        refine (show zY 59 96 [some (zR (some 128)), some (zI x1), some (zI x2), some (zI x3), some (zI (hI h 130 x3.toNat))] [zR (some 130), zI x3, zR (some 130)] h = gd (zok h (some 130) 22 (hI h 130 x3.toNat)) (gd (zokw h (some 130) 22 x3) (gd (inR (x3 + 1)) (gd (inR (1)) (zY 59 61 [some (zR (some 128)), some (zI x1), some (zI x2), some (zI (x3 + 1)), some (zI (hI h 130 x3.toNat))] [] (sI h 130 x3.toNat (hI h 130 (hI h 130 x3.toNat).toNat)))))) from zGo 6 59 96 _ _ _).trans ?_
        refine (gd_t ((ci (PTC KC 130 _ rfl rfl) (PLC KC 130 64 rfl rfl)).2 (by omega)) _).trans ?_
        refine (gd_t ((ciw (PTC KC 130 _ rfl rfl) (PNC KC 130 rfl) (PLC KC 130 64 rfl rfl)).2 (by omega)) _).trans ?_
        refine gd_c Iff.rfl (fun c5 => ?_)
        refine (gd_t (by decide) _).trans ?_
        rfl
      · skip
        refine (show zY 59 102 [some (zR (some 128)), some (zI x1), some (zI x2), some (zI x3), some (zI (hI h 130 x3.toNat))] [zI x3, zR (some 130)] h = gd (inR (-1)) (gd (zokw h (some 130) 22 x3) (gd (inR (x3 + 1)) (gd (inR (1)) (zY 59 61 [some (zR (some 128)), some (zI x1), some (zI x2), some (zI (x3 + 1)), some (zI (hI h 130 x3.toNat))] [] (sI h 130 x3.toNat (-1)))))) from zGo 4 59 102 _ _ _).trans ?_
        refine (gd_t (by decide) _).trans ?_
        refine (gd_t ((ciw (PTC KC 130 _ rfl rfl) (PNC KC 130 rfl) (PLC KC 130 64 rfl rfl)).2 (by omega)) _).trans ?_
        refine gd_c Iff.rfl (fun c6 => ?_)
        refine (gd_t (by decide) _).trans ?_
        rfl
  · skip
    refine (show zY 59 110 [some (zR (some 128)), some (zI x1), some (zI x2), some (zI x3), none] [] h = gd (inR (2)) (gd (inR (x2 * 2)) (zY 59 53 [some (zR (some 128)), some (zI x1), some (zI (x2 * 2)), some (zI x3), none] [] h)) from zGo 5 59 110 _ _ _).trans ?_
    refine (gd_t (by decide) _).trans ?_
    refine gd_c Iff.rfl (fun c7 => ?_)
    rfl
theorem q_R_lookAtLoop_119 {h : zH} {x1 : Int} {x2 : Int} (KC : KC h) : zY 59 119 [some (zR (some 128)), some (zI x1), some (zI x2), none, none] [] h =
    if x2 < 64 then
      gd (0 ≤ x2 ∧ x2 < 64) (
      if (hI h 130 x2.toNat) = (-1) then
        zBack zY 59 157 160 [some (zR (some 128)), some (zI x1), some (zI x2), some (zI (hI h 130 x2.toNat)), none] [] (zC 61 [zR (some 128), zI x1, zI x2, zI (-1)] h)
      else
        if b_S_holdsIn h x1 (hI h 130 x2.toNat) then
          zBack zY 59 157 160 [some (zR (some 128)), some (zI x1), some (zI x2), some (zI (hI h 130 x2.toNat)), none] [] (zC 61 [zR (some 128), zI x1, zI x2, zI (-1)] h)
        else
          zBack zY 59 157 160 [some (zR (some 128)), some (zI x1), some (zI x2), some (zI (hI h 130 x2.toNat)), none] [] (zC 61 [zR (some 128), zI x1, zI x2, zI (hI h 130 x2.toNat)] h))
    else
      some (.inl (none), h) := by
  refine (show zY 59 119 [some (zR (some 128)), some (zI x1), some (zI x2), none, none] [] h = gd (-128 ≤ (64 : Int) ∧ (64 : Int) < 128) (if x2 < 64 then zY 59 125 [some (zR (some 128)), some (zI x1), some (zI x2), none, none] [] h else zY 59 166 [some (zR (some 128)), some (zI x1), some (zI x2), none, none] [] h) from zGo 3 59 119 _ _ _).trans ?_
  refine (gd_t (by decide) _).trans ?_
  refine iteC (fun c0 => ?_) (fun c0 => ?_)
  · skip
    refine (show zY 59 125 [some (zR (some 128)), some (zI x1), some (zI x2), none, none] [] h = gd (zob h (some 128) 6) (zY 59 129 [some (zR (some 128)), some (zI x1), some (zI x2), none, none] [zR (hR h 128 4)] h) from zGo 2 59 125 _ _ _).trans ?_
    refine (gd_t (⟨rfl, (PTC KC 128 _ rfl rfl), (PNC KC 128 rfl)⟩) _).trans ?_
    refine (congrArg (fun r => zY 59 129 [some (zR (some 128)), some (zI x1), some (zI x2), none, none] (zR r :: []) h) (PRC KC 128 4 _ rfl)).trans ?_
    refine (show zY 59 129 [some (zR (some 128)), some (zI x1), some (zI x2), none, none] [zR (some 130)] h = gd (zok h (some 130) 22 x2) (gd (inR (-1)) (if (hI h 130 x2.toNat) = (-1) then zY 59 152 [some (zR (some 128)), some (zI x1), some (zI x2), some (zI (hI h 130 x2.toNat)), none] [zI x2, zI x1, zR (some 128)] h else zY 59 140 [some (zR (some 128)), some (zI x1), some (zI x2), some (zI (hI h 130 x2.toNat)), none] [zI x2, zI x1, zR (some 128)] h)) from zGo 9 59 129 _ _ _).trans ?_
    refine gd_c (ci (PTC KC 130 _ rfl rfl) (PLC KC 130 64 rfl rfl)) (fun c1 => ?_)
    refine (gd_t (by decide) _).trans ?_
    refine iteC (fun c2 => ?_) (fun c2 => ?_)
    · skip
      refine (show zY 59 152 [some (zR (some 128)), some (zI x1), some (zI x2), some (zI (hI h 130 x2.toNat)), none] [zI x2, zI x1, zR (some 128)] h = gd (inR (-1)) (gd (false = zctor 61 ∧ zcs [] ≤ 8 ∧ zrm 59 (zrf 61 + 1) (8 + (zmaxl 61 + 11) + zrl 61) = true ∧ zcs [zR (some 128), zI x1, zI x2, zI (-1)] ≤ zmaxl 61) (gd (zob h (some 128) 6) (zBack zY 59 157 160 [some (zR (some 128)), some (zI x1), some (zI x2), some (zI (hI h 130 x2.toNat)), none] [] (zC 61 [zR (some 128), zI x1, zI x2, zI (-1)] h)))) from zGo 3 59 152 _ _ _).trans ?_
      refine (gd_t (by decide) _).trans ?_
      refine (gd_t (⟨rfl, Nat.le_of_ble_eq_true rfl, rfl, Nat.le_of_ble_eq_true rfl⟩) _).trans ?_
      refine (gd_t (⟨rfl, (PTC KC 128 _ rfl rfl), (PNC KC 128 rfl)⟩) _).trans ?_
      rfl
    · skip
      refine (show zY 59 140 [some (zR (some 128)), some (zI x1), some (zI x2), some (zI (hI h 130 x2.toNat)), none] [zI x2, zI x1, zR (some 128)] h = gd (zob h (some 128) 6) (zY 59 144 [some (zR (some 128)), some (zI x1), some (zI x2), some (zI (hI h 130 x2.toNat)), none] [zR (hR h 128 0), zI x2, zI x1, zR (some 128)] h) from zGo 2 59 140 _ _ _).trans ?_
      refine (gd_t (⟨rfl, (PTC KC 128 _ rfl rfl), (PNC KC 128 rfl)⟩) _).trans ?_
      refine (congrArg (fun r => zY 59 144 [some (zR (some 128)), some (zI x1), some (zI x2), some (zI (hI h 130 x2.toNat)), none] (zR r :: zI x2 :: zI x1 :: zR (some 128) :: []) h) (PRC KC 128 0 _ rfl)).trans ?_
      refine (show zY 59 144 [some (zR (some 128)), some (zI x1), some (zI x2), some (zI (hI h 130 x2.toNat)), none] [zR (some 90), zI x2, zI x1, zR (some 128)] h = gd (false = zctor 102 ∧ zcs [zI x2, zI x1, zR (some 128)] ≤ 8 ∧ zrm 59 (zrf 102 + 1) (8 + (zmaxl 102 + 11) + zrl 102) = true ∧ zcs [zR (some 90), zI x1, zI (hI h 130 x2.toNat)] ≤ zmaxl 102) (gd (zob h (some 90) 8) (zBack zY 59 146 149 [some (zR (some 128)), some (zI x1), some (zI x2), some (zI (hI h 130 x2.toNat)), none] [zI x2, zI x1, zR (some 128)] (zC 102 [zR (some 90), zI x1, zI (hI h 130 x2.toNat)] h))) from zGo 3 59 144 _ _ _).trans ?_
      refine (gd_t (⟨rfl, Nat.le_of_ble_eq_true rfl, rfl, Nat.le_of_ble_eq_true rfl⟩) _).trans ?_
      refine (gd_t (⟨rfl, (PTC KC 90 _ rfl rfl), (PNC KC 90 rfl)⟩) _).trans ?_
      refine (congrArg (zBack zY 59 146 149 [some (zR (some 128)), some (zI x1), some (zI x2), some (zI (hI h 130 x2.toNat)), none] [zI x2, zI x1, zR (some 128)]) (e_S_holdsIn KC)).trans ?_
      refine (show zY 59 149 [some (zR (some 128)), some (zI x1), some (zI x2), some (zI (hI h 130 x2.toNat)), none] [zI (if b_S_holdsIn h x1 (hI h 130 x2.toNat) then (1 : Int) else 0), zI x2, zI x1, zR (some 128)] h = if (if b_S_holdsIn h x1 (hI h 130 x2.toNat) then (1 : Int) else 0) = 0 then zY 59 156 [some (zR (some 128)), some (zI x1), some (zI x2), some (zI (hI h 130 x2.toNat)), none] [zI x2, zI x1, zR (some 128)] h else zY 59 152 [some (zR (some 128)), some (zI x1), some (zI x2), some (zI (hI h 130 x2.toNat)), none] [zI x2, zI x1, zR (some 128)] h from zGo 1 59 149 _ _ _).trans ?_
      refine iteB (fun c3 => ?_) (fun c3 => ?_)
      · skip
        refine (show zY 59 152 [some (zR (some 128)), some (zI x1), some (zI x2), some (zI (hI h 130 x2.toNat)), none] [zI x2, zI x1, zR (some 128)] h = gd (inR (-1)) (gd (false = zctor 61 ∧ zcs [] ≤ 8 ∧ zrm 59 (zrf 61 + 1) (8 + (zmaxl 61 + 11) + zrl 61) = true ∧ zcs [zR (some 128), zI x1, zI x2, zI (-1)] ≤ zmaxl 61) (gd (zob h (some 128) 6) (zBack zY 59 157 160 [some (zR (some 128)), some (zI x1), some (zI x2), some (zI (hI h 130 x2.toNat)), none] [] (zC 61 [zR (some 128), zI x1, zI x2, zI (-1)] h)))) from zGo 3 59 152 _ _ _).trans ?_
        refine (gd_t (by decide) _).trans ?_
        refine (gd_t (⟨rfl, Nat.le_of_ble_eq_true rfl, rfl, Nat.le_of_ble_eq_true rfl⟩) _).trans ?_
        refine (gd_t (⟨rfl, (PTC KC 128 _ rfl rfl), (PNC KC 128 rfl)⟩) _).trans ?_
        rfl
      · skip
        refine (show zY 59 156 [some (zR (some 128)), some (zI x1), some (zI x2), some (zI (hI h 130 x2.toNat)), none] [zI x2, zI x1, zR (some 128)] h = gd (false = zctor 61 ∧ zcs [] ≤ 8 ∧ zrm 59 (zrf 61 + 1) (8 + (zmaxl 61 + 11) + zrl 61) = true ∧ zcs [zR (some 128), zI x1, zI x2, zI (hI h 130 x2.toNat)] ≤ zmaxl 61) (gd (zob h (some 128) 6) (zBack zY 59 157 160 [some (zR (some 128)), some (zI x1), some (zI x2), some (zI (hI h 130 x2.toNat)), none] [] (zC 61 [zR (some 128), zI x1, zI x2, zI (hI h 130 x2.toNat)] h))) from zGo 2 59 156 _ _ _).trans ?_
        refine (gd_t (⟨rfl, Nat.le_of_ble_eq_true rfl, rfl, Nat.le_of_ble_eq_true rfl⟩) _).trans ?_
        refine (gd_t (⟨rfl, (PTC KC 128 _ rfl rfl), (PNC KC 128 rfl)⟩) _).trans ?_
        rfl
  · skip
    refine (show zY 59 166 [some (zR (some 128)), some (zI x1), some (zI x2), none, none] [] h = gd (([] : List zV).isEmpty = true ∧ zrk 59 = 0) (some (.inl (none), h)) from zGo 1 59 166 _ _ _).trans ?_
    refine (gd_t (⟨rfl, rfl⟩) _).trans ?_
    rfl
theorem q_R_lookAtLoop_r160 {h : zH} {x1 : Int} {x2 : Int} {x3 : Int} (KC : KC h) : zBack zY 59 157 160 [some (zR (some 128)), some (zI x1), some (zI x2), some (zI x3), none] [] (some (.inl (none), h)) =
    gd (-2147483648 ≤ x2 + 1 ∧ x2 + 1 < 2147483648) (
    zY 59 119 [some (zR (some 128)), some (zI x1), some (zI (x2 + 1)), some (zI x3), none] [] h) := by
  refine (show zBack zY 59 157 160 [some (zR (some 128)), some (zI x1), some (zI x2), some (zI x3), none] [] (some (.inl (none), h)) = gd (inR (x2 + 1)) (gd (inR (1)) (zY 59 119 [some (zR (some 128)), some (zI x1), some (zI (x2 + 1)), some (zI x3), none] [] h)) from zGo 2 59 160 _ _ _).trans ?_
  refine gd_c Iff.rfl (fun c0 => ?_)
  refine (gd_t (by decide) _).trans ?_
  rfl
theorem q_R_look {h : zH} {p : Nat} {v : Nat} {p2 : Nat} (KC : KC h) (hp : PS h p) (hv : VS h v) (rp2 : (some p) = some p2) (hp2 : PS (sR (sR h 128 1 (some p)) 128 2 (some v)) p2) : zC 58 [zR (some 128), zR (some p), zR (some v)] h =
    gd (-2147483648 ≤ (f_Ma_min (hI h p2 0) 24) - 1 ∧ (f_Ma_min (hI h p2 0) 24) - 1 < 2147483648) (
    zY 58 25 [some (zR (some 128)), some (zR (some p)), some (zR (some v)), some (zI ((f_Ma_min (hI h p2 0) 24) - 1))] [] (sR (sR h 128 1 (some p)) 128 2 (some v))) := by
  refine (show zC 58 [zR (some 128), zR (some p), zR (some v)] h = gd (zob h (some 128) 6) (gd (zob (sR h 128 1 (some p)) (some 128) 6) (gd (zob (sR (sR h 128 1 (some p)) 128 2 (some v)) (some 128) 6) (zY 58 14 [some (zR (some 128)), some (zR (some p)), some (zR (some v)), none] [zR (some p)] (sR (sR h 128 1 (some p)) 128 2 (some v))))) from zGo 8 58 0 _ _ _).trans ?_
  refine (gd_t (⟨rfl, (PTC KC 128 _ rfl rfl), (PNC KC 128 rfl)⟩) _).trans ?_
  refine (gd_t (⟨rfl, (PTC KC 128 _ rfl rfl), (PNC KC 128 rfl)⟩) _).trans ?_
  refine (gd_t (⟨rfl, (PTC KC 128 _ rfl rfl), (PNC KC 128 rfl)⟩) _).trans ?_
  refine (congrArg (fun r => zY 58 14 [some (zR (some 128)), some (zR (some p)), some (zR (some v)), none] (zR r :: []) (sR (sR h 128 1 (some p)) 128 2 (some v))) rp2).trans ?_
  refine (show zY 58 14 [some (zR (some 128)), some (zR (some p)), some (zR (some v)), none] [zR (some p2)] (sR (sR h 128 1 (some p)) 128 2 (some v)) = gd (zob (sR (sR h 128 1 (some p)) 128 2 (some v)) (some p2) 5) (gd (-128 ≤ (24 : Int) ∧ (24 : Int) < 128) (gd (false = zctor 224 ∧ zcs [] ≤ 8 ∧ zrm 58 (zrf 224 + 1) (8 + (zmaxl 224 + 11) + zrl 224) = true ∧ zcs [zI (hI h p2 0), zI 24] ≤ zmaxl 224) (zBack zY 58 19 22 [some (zR (some 128)), some (zR (some p)), some (zR (some v)), none] [] (zC 224 [zI (hI h p2 0), zI 24] (sR (sR h 128 1 (some p)) 128 2 (some v)))))) from zGo 3 58 14 _ _ _).trans ?_
  refine (gd_t (⟨rfl, hp2.1, (PS_n hp2)⟩) _).trans ?_
  refine (gd_t (by decide) _).trans ?_
  refine (gd_t (⟨rfl, Nat.le_of_ble_eq_true rfl, rfl, Nat.le_of_ble_eq_true rfl⟩) _).trans ?_
  refine (congrArg (zBack zY 58 19 22 [some (zR (some 128)), some (zR (some p)), some (zR (some v)), none] []) (e_Ma_min (h := (sR (sR h 128 1 (some p)) 128 2 (some v))))).trans ?_
  refine (show zY 58 22 [some (zR (some 128)), some (zR (some p)), some (zR (some v)), none] [zI (f_Ma_min (hI h p2 0) 24)] (sR (sR h 128 1 (some p)) 128 2 (some v)) = gd (inR (1)) (gd (inR ((f_Ma_min (hI h p2 0) 24) - 1)) (zY 58 25 [some (zR (some 128)), some (zR (some p)), some (zR (some v)), some (zI ((f_Ma_min (hI h p2 0) 24) - 1))] [] (sR (sR h 128 1 (some p)) 128 2 (some v)))) from zGo 3 58 22 _ _ _).trans ?_
  refine (gd_t (by decide) _).trans ?_
  refine gd_c Iff.rfl (fun c0 => ?_)
  rfl
theorem q_R_look_25 {h : zH} {p : Nat} {v : Nat} {x3 : Int} {p2 : Nat} (KC : KC h) (hp : PS h p) (hv : VS h v) (rp2 : hR h 128 1 = some p2) (hp2 : PS h p2) : zY 58 25 [some (zR (some 128)), some (zR (some p)), some (zR (some v)), some (zI x3)] [] h =
    if x3 < 0 then
      some (.inl (none), h)
    else
      if (f_P_kindOf h p2 x3) = 2 then
        zBack zY 58 43 46 [some (zR (some 128)), some (zR (some p)), some (zR (some v)), some (zI x3)] [] (zC 59 [zR (some 128), zI x3] h)
      else
        zBack zY 58 51 54 [some (zR (some 128)), some (zR (some p)), some (zR (some v)), some (zI x3)] [] (zC 62 [zR (some 128), zI x3] h) := by
  refine (show zY 58 25 [some (zR (some 128)), some (zR (some p)), some (zR (some v)), some (zI x3)] [] h = if x3 < 0 then zY 58 60 [some (zR (some 128)), some (zR (some p)), some (zR (some v)), some (zI x3)] [] h else zY 58 29 [some (zR (some 128)), some (zR (some p)), some (zR (some v)), some (zI x3)] [] h from zGo 2 58 25 _ _ _).trans ?_
  refine iteC (fun c0 => ?_) (fun c0 => ?_)
  · skip
    refine (show zY 58 60 [some (zR (some 128)), some (zR (some p)), some (zR (some v)), some (zI x3)] [] h = gd (([] : List zV).isEmpty = true ∧ zrk 58 = 0) (some (.inl (none), h)) from zGo 1 58 60 _ _ _).trans ?_
    refine (gd_t (⟨rfl, rfl⟩) _).trans ?_
    rfl
  · skip
    refine (show zY 58 29 [some (zR (some 128)), some (zR (some p)), some (zR (some v)), some (zI x3)] [] h = gd (zob h (some 128) 6) (zY 58 33 [some (zR (some 128)), some (zR (some p)), some (zR (some v)), some (zI x3)] [zR (hR h 128 1)] h) from zGo 2 58 29 _ _ _).trans ?_
    refine (gd_t (⟨rfl, (PTC KC 128 _ rfl rfl), (PNC KC 128 rfl)⟩) _).trans ?_
    refine (congrArg (fun r => zY 58 33 [some (zR (some 128)), some (zR (some p)), some (zR (some v)), some (zI x3)] (zR r :: []) h) rp2).trans ?_
    refine (show zY 58 33 [some (zR (some 128)), some (zR (some p)), some (zR (some v)), some (zI x3)] [zR (some p2)] h = gd (false = zctor 36 ∧ zcs [] ≤ 8 ∧ zrm 58 (zrf 36 + 1) (8 + (zmaxl 36 + 11) + zrl 36) = true ∧ zcs [zR (some p2), zI x3] ≤ zmaxl 36) (gd (zob h (some p2) 5) (zBack zY 58 34 37 [some (zR (some 128)), some (zR (some p)), some (zR (some v)), some (zI x3)] [] (zC 36 [zR (some p2), zI x3] h))) from zGo 2 58 33 _ _ _).trans ?_
    refine (gd_t (⟨rfl, Nat.le_of_ble_eq_true rfl, rfl, Nat.le_of_ble_eq_true rfl⟩) _).trans ?_
    refine (gd_t (⟨rfl, hp2.1, (PS_n hp2)⟩) _).trans ?_
    refine (congrArg (zBack zY 58 34 37 [some (zR (some 128)), some (zR (some p)), some (zR (some v)), some (zI x3)] []) (e_P_kindOf hp2)).trans ?_
    refine (show zY 58 37 [some (zR (some 128)), some (zR (some p)), some (zR (some v)), some (zI x3)] [zI (f_P_kindOf h p2 x3)] h = gd (inR (2)) (if (f_P_kindOf h p2 x3) = 2 then zY 58 41 [some (zR (some 128)), some (zR (some p)), some (zR (some v)), some (zI x3)] [] h else zY 58 49 [some (zR (some 128)), some (zR (some p)), some (zR (some v)), some (zI x3)] [] h) from zGo 2 58 37 _ _ _).trans ?_
    refine (gd_t (by decide) _).trans ?_
    refine iteC (fun c1 => ?_) (fun c1 => ?_)
    · skip
      refine (show zY 58 41 [some (zR (some 128)), some (zR (some p)), some (zR (some v)), some (zI x3)] [] h = gd (false = zctor 59 ∧ zcs [] ≤ 8 ∧ zrm 58 (zrf 59 + 1) (8 + (zmaxl 59 + 11) + zrl 59) = true ∧ zcs [zR (some 128), zI x3] ≤ zmaxl 59) (gd (zob h (some 128) 6) (zBack zY 58 43 46 [some (zR (some 128)), some (zR (some p)), some (zR (some v)), some (zI x3)] [] (zC 59 [zR (some 128), zI x3] h))) from zGo 3 58 41 _ _ _).trans ?_
      refine (gd_t (⟨rfl, Nat.le_of_ble_eq_true rfl, rfl, Nat.le_of_ble_eq_true rfl⟩) _).trans ?_
      refine (gd_t (⟨rfl, (PTC KC 128 _ rfl rfl), (PNC KC 128 rfl)⟩) _).trans ?_
      rfl
    · skip
      refine (show zY 58 49 [some (zR (some 128)), some (zR (some p)), some (zR (some v)), some (zI x3)] [] h = gd (false = zctor 62 ∧ zcs [] ≤ 8 ∧ zrm 58 (zrf 62 + 1) (8 + (zmaxl 62 + 11) + zrl 62) = true ∧ zcs [zR (some 128), zI x3] ≤ zmaxl 62) (gd (zob h (some 128) 6) (zBack zY 58 51 54 [some (zR (some 128)), some (zR (some p)), some (zR (some v)), some (zI x3)] [] (zC 62 [zR (some 128), zI x3] h))) from zGo 3 58 49 _ _ _).trans ?_
      refine (gd_t (⟨rfl, Nat.le_of_ble_eq_true rfl, rfl, Nat.le_of_ble_eq_true rfl⟩) _).trans ?_
      refine (gd_t (⟨rfl, (PTC KC 128 _ rfl rfl), (PNC KC 128 rfl)⟩) _).trans ?_
      rfl
theorem q_R_look_r46 {h : zH} {p : Nat} {v : Nat} {x3 : Int} (KC : KC h) (hp : PS h p) (hv : VS h v) : zBack zY 58 43 46 [some (zR (some 128)), some (zR (some p)), some (zR (some v)), some (zI x3)] [] (some (.inl (none), h)) =
    gd (-2147483648 ≤ x3 + (-1) ∧ x3 + (-1) < 2147483648) (
    zY 58 25 [some (zR (some 128)), some (zR (some p)), some (zR (some v)), some (zI (x3 + (-1)))] [] h) := by
  refine (show zBack zY 58 43 46 [some (zR (some 128)), some (zR (some p)), some (zR (some v)), some (zI x3)] [] (some (.inl (none), h)) = gd (inR (x3 + (-1))) (gd (inR (-1)) (zY 58 25 [some (zR (some 128)), some (zR (some p)), some (zR (some v)), some (zI (x3 + (-1)))] [] h)) from zGo 3 58 46 _ _ _).trans ?_
  refine gd_c Iff.rfl (fun c0 => ?_)
  refine (gd_t (by decide) _).trans ?_
  rfl
theorem q_R_look_r54 {h : zH} {p : Nat} {v : Nat} {x3 : Int} (KC : KC h) (hp : PS h p) (hv : VS h v) : zBack zY 58 51 54 [some (zR (some 128)), some (zR (some p)), some (zR (some v)), some (zI x3)] [] (some (.inl (none), h)) =
    gd (-2147483648 ≤ x3 + (-1) ∧ x3 + (-1) < 2147483648) (
    zY 58 25 [some (zR (some 128)), some (zR (some p)), some (zR (some v)), some (zI (x3 + (-1)))] [] h) := by
  refine (show zBack zY 58 51 54 [some (zR (some 128)), some (zR (some p)), some (zR (some v)), some (zI x3)] [] (some (.inl (none), h)) = gd (inR (x3 + (-1))) (gd (inR (-1)) (zY 58 25 [some (zR (some 128)), some (zR (some p)), some (zR (some v)), some (zI (x3 + (-1)))] [] h)) from zGo 2 58 54 _ _ _).trans ?_
  refine gd_c Iff.rfl (fun c0 => ?_)
  refine (gd_t (by decide) _).trans ?_
  rfl

