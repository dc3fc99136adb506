/-! The class: parser, program, version. -/
/-- what floorMod by 10 answers near 0 to 9 -/
def flm10 (x : Int) : Int := if x = -1 then 9 else if x = 10 then 0 else x
theorem flm10_e {x : Int} (h0 : -1 ≤ x) (h1 : x ≤ 10) : f_Ma_floorMod x 10 = flm10 x := by
  have H := (show ∀ x : Fin 12, f_Ma_floorMod ((x.val : Int) - 1) 10 = flm10 ((x.val : Int) - 1) by decide +kernel) ⟨(x + 1).toNat, by omega⟩
  simp only at H
  rw [show (((x + 1).toNat : Nat) : Int) - 1 = x by omega] at H
  exact H
theorem e_flm10 {h : zH} {x0 : Int} (g0 : -1 ≤ x0 ∧ x0 ≤ 10 := by omega) : zC 225 [zI x0, zI 10] h = some (.inl (some (zI (flm10 x0))), h) := by
  rw [← flm10_e g0.1 g0.2]
  exact e_Ma_floorMod (g0 := by omega) (g1 := fun a b => by
    have := Int.tmod_lt_of_pos x0 (show (0 : Int) < 10 by decide)
    have := Int.lt_tmod_of_pos x0 (show (0 : Int) < 10 by decide)
    omega)

theorem q_Pa_begin {h : zH} {x1 : Int} (KC : KC h) : zC 24 [zR (some 5), zI x1] h =
    zBack zY 24 15 18 [some (zR (some 5)), some (zI x1)] [] (zC 82 [zR (some 7), zI x1] (sI (sI h 5 0 0) 5 1 (-1))) := by
  refine (show zC 24 [zR (some 5), zI x1] h = gd (inR (0)) (gd (zob h (some 5) 4) (gd (inR (-1)) (gd (zob (sI h 5 0 0) (some 5) 4) (gd (zob (sI (sI h 5 0 0) 5 1 (-1)) (some 5) 4) (zY 24 14 [some (zR (some 5)), some (zI x1)] [zR (hR h 5 2)] (sI (sI h 5 0 0) 5 1 (-1))))))) from zGo 8 24 0 _ _ _).trans ?_
  refine (gd_t (by decide) _).trans ?_
  refine (gd_t (⟨rfl, (PTC KC 5 _ rfl rfl), (PNC KC 5 rfl)⟩) _).trans ?_
  refine (gd_t (by decide) _).trans ?_
  refine (gd_t (⟨rfl, (PTC KC 5 _ rfl rfl), (PNC KC 5 rfl)⟩) _).trans ?_
  refine (gd_t (⟨rfl, (PTC KC 5 _ rfl rfl), (PNC KC 5 rfl)⟩) _).trans ?_
  refine (congrArg (fun rz => zY 24 14 [some (zR (some 5)), some (zI x1)] (zR rz :: []) (sI (sI h 5 0 0) 5 1 (-1))) (PRC KC 5 2 _ rfl)).trans ?_
  refine (show zY 24 14 [some (zR (some 5)), some (zI x1)] [zR (some 7)] (sI (sI h 5 0 0) 5 1 (-1)) = gd (false = zctor 82 ∧ zcs [] ≤ 8 ∧ zrm 24 (zrf 82 + 1) (8 + (zmaxl 82 + 11) + zrl 82) = true ∧ zcs [zR (some 7), zI x1] ≤ zmaxl 82) (gd (zob (sI (sI h 5 0 0) 5 1 (-1)) (some 7) 7) (zBack zY 24 15 18 [some (zR (some 5)), some (zI x1)] [] (zC 82 [zR (some 7), zI x1] (sI (sI h 5 0 0) 5 1 (-1))))) from zGo 2 24 14 _ _ _).trans ?_
  refine (gd_t (⟨rfl, Nat.le_of_ble_eq_true rfl, rfl, Nat.le_of_ble_eq_true rfl⟩) _).trans ?_
  refine (gd_t (⟨rfl, (PTC KC 7 _ rfl rfl), (PNC KC 7 rfl)⟩) _).trans ?_
  rfl
theorem q_Pa_begin_r18 {h : zH} {x1 : Int} (KC : KC h) : zBack zY 24 15 18 [some (zR (some 5)), some (zI x1)] [] (some (.inl (none), h)) =
    some (.inl (none), h) := by
  refine (show zBack zY 24 15 18 [some (zR (some 5)), some (zI x1)] [] (some (.inl (none), h)) = gd (([] : List zV).isEmpty = true ∧ zrk 24 = 0) (some (.inl (none), h)) from zGo 1 24 18 _ _ _).trans ?_
  refine (gd_t (⟨rfl, rfl⟩) _).trans ?_
  rfl
theorem q_Pa_refuse {h : zH} {x1 : Int} (KC : KC h) : zC 27 [zR (some 5), zI x1] h =
    if (hI h 5 0) = 0 then
      some (.inl (none), (sI (sI h 5 0 x1) 5 1 (hI h 7 1)))
    else
      some (.inl (none), h) := by
  refine (show zC 27 [zR (some 5), zI x1] h = gd (zob h (some 5) 4) (if (hI h 5 0) = 0 then zY 27 7 [some (zR (some 5)), some (zI x1)] [] h else zY 27 23 [some (zR (some 5)), some (zI x1)] [] h) from zGo 3 27 0 _ _ _).trans ?_
  refine (gd_t (⟨rfl, (PTC KC 5 _ rfl rfl), (PNC KC 5 rfl)⟩) _).trans ?_
  refine iteC (fun c0 => ?_) (fun c0 => ?_)
  · skip
    refine (show zY 27 7 [some (zR (some 5)), some (zI x1)] [] h = gd (zob h (some 5) 4) (gd (zob (sI h 5 0 x1) (some 5) 4) (zY 27 17 [some (zR (some 5)), some (zI x1)] [zR (hR h 5 2), zR (some 5)] (sI h 5 0 x1))) from zGo 6 27 7 _ _ _).trans ?_
    refine (gd_t (⟨rfl, (PTC KC 5 _ rfl rfl), (PNC KC 5 rfl)⟩) _).trans ?_
    refine (gd_t (⟨rfl, (PTC KC 5 _ rfl rfl), (PNC KC 5 rfl)⟩) _).trans ?_
    refine (congrArg (fun rz => zY 27 17 [some (zR (some 5)), some (zI x1)] (zR rz :: zR (some 5) :: []) (sI h 5 0 x1)) (PRC KC 5 2 _ rfl)).trans ?_
    refine (show zY 27 17 [some (zR (some 5)), some (zI x1)] [zR (some 7), zR (some 5)] (sI h 5 0 x1) = gd (zob (sI h 5 0 x1) (some 7) 7) (gd (zob (sI h 5 0 x1) (some 5) 4) (gd (([] : List zV).isEmpty = true ∧ zrk 27 = 0) (some (.inl (none), (sI (sI h 5 0 x1) 5 1 (hI h 7 1)))))) from zGo 3 27 17 _ _ _).trans ?_
    refine (gd_t (⟨rfl, (PTC KC 7 _ rfl rfl), (PNC KC 7 rfl)⟩) _).trans ?_
    refine (gd_t (⟨rfl, (PTC KC 5 _ rfl rfl), (PNC KC 5 rfl)⟩) _).trans ?_
    refine (gd_t (⟨rfl, rfl⟩) _).trans ?_
    rfl
  · skip
    refine (show zY 27 23 [some (zR (some 5)), some (zI x1)] [] h = gd (([] : List zV).isEmpty = true ∧ zrk 27 = 0) (some (.inl (none), h)) from zGo 1 27 23 _ _ _).trans ?_
    refine (gd_t (⟨rfl, rfl⟩) _).trans ?_
    rfl
theorem q_Pa_take {h : zH} {x1 : Int} (KC : KC h) : zC 26 [zR (some 5), zI x1] h =
    if (hI h 5 0) = 0 then
      if (hI h 7 0) = x1 then
        zBack zY 26 23 26 [some (zR (some 5)), some (zI x1)] [] (zC 91 [zR (some 7)] h)
      else
        zBack zY 26 31 34 [some (zR (some 5)), some (zI x1)] [] (zC 27 [zR (some 5), zI 1] h)
    else
      some (.inl (none), h) := by
  refine (show zC 26 [zR (some 5), zI x1] h = gd (zob h (some 5) 4) (if (hI h 5 0) = 0 then zY 26 8 [some (zR (some 5)), some (zI x1)] [] h else zY 26 7 [some (zR (some 5)), some (zI x1)] [] h) from zGo 3 26 0 _ _ _).trans ?_
  refine (gd_t (⟨rfl, (PTC KC 5 _ rfl rfl), (PNC KC 5 rfl)⟩) _).trans ?_
  refine iteC (fun c0 => ?_) (fun c0 => ?_)
  · skip
    refine (show zY 26 8 [some (zR (some 5)), some (zI x1)] [] h = gd (zob h (some 5) 4) (zY 26 12 [some (zR (some 5)), some (zI x1)] [zR (hR h 5 2)] h) from zGo 2 26 8 _ _ _).trans ?_
    refine (gd_t (⟨rfl, (PTC KC 5 _ rfl rfl), (PNC KC 5 rfl)⟩) _).trans ?_
    refine (congrArg (fun rz => zY 26 12 [some (zR (some 5)), some (zI x1)] (zR rz :: []) h) (PRC KC 5 2 _ rfl)).trans ?_
    refine (show zY 26 12 [some (zR (some 5)), some (zI x1)] [zR (some 7)] h = gd (zob h (some 7) 7) (if (hI h 7 0) = x1 then zY 26 19 [some (zR (some 5)), some (zI x1)] [] h else zY 26 29 [some (zR (some 5)), some (zI x1)] [] h) from zGo 3 26 12 _ _ _).trans ?_
    refine (gd_t (⟨rfl, (PTC KC 7 _ rfl rfl), (PNC KC 7 rfl)⟩) _).trans ?_
    refine iteC (fun c1 => ?_) (fun c1 => ?_)
    · skip
      refine (show zY 26 19 [some (zR (some 5)), some (zI x1)] [] h = gd (zob h (some 5) 4) (zY 26 23 [some (zR (some 5)), some (zI x1)] [zR (hR h 5 2)] h) from zGo 2 26 19 _ _ _).trans ?_
      refine (gd_t (⟨rfl, (PTC KC 5 _ rfl rfl), (PNC KC 5 rfl)⟩) _).trans ?_
      refine (congrArg (fun rz => zY 26 23 [some (zR (some 5)), some (zI x1)] (zR rz :: []) h) (PRC KC 5 2 _ rfl)).trans ?_
      refine (show zY 26 23 [some (zR (some 5)), some (zI x1)] [zR (some 7)] h = gd (false = zctor 91 ∧ zcs [] ≤ 8 ∧ zrm 26 (zrf 91 + 1) (8 + (zmaxl 91 + 11) + zrl 91) = true ∧ zcs [zR (some 7)] ≤ zmaxl 91) (gd (zob h (some 7) 7) (zBack zY 26 23 26 [some (zR (some 5)), some (zI x1)] [] (zC 91 [zR (some 7)] h))) from zGo 1 26 23 _ _ _).trans ?_
      refine (gd_t (⟨rfl, Nat.le_of_ble_eq_true rfl, rfl, Nat.le_of_ble_eq_true rfl⟩) _).trans ?_
      refine (gd_t (⟨rfl, (PTC KC 7 _ rfl rfl), (PNC KC 7 rfl)⟩) _).trans ?_
      rfl
    · skip
      refine (show zY 26 29 [some (zR (some 5)), some (zI x1)] [] h = gd (inR (1)) (gd (false = zctor 27 ∧ zcs [] ≤ 8 ∧ zrm 26 (zrf 27 + 1) (8 + (zmaxl 27 + 11) + zrl 27) = true ∧ zcs [zR (some 5), zI 1] ≤ zmaxl 27) (gd (zob h (some 5) 4) (zBack zY 26 31 34 [some (zR (some 5)), some (zI x1)] [] (zC 27 [zR (some 5), zI 1] h)))) from zGo 3 26 29 _ _ _).trans ?_
      refine (gd_t (by decide) _).trans ?_
      refine (gd_t (⟨rfl, Nat.le_of_ble_eq_true rfl, rfl, Nat.le_of_ble_eq_true rfl⟩) _).trans ?_
      refine (gd_t (⟨rfl, (PTC KC 5 _ rfl rfl), (PNC KC 5 rfl)⟩) _).trans ?_
      rfl
  · skip
    refine (show zY 26 7 [some (zR (some 5)), some (zI x1)] [] h = gd (([] : List zV).isEmpty = true ∧ zrk 26 = 0) (some (.inl (none), h)) from zGo 1 26 7 _ _ _).trans ?_
    refine (gd_t (⟨rfl, rfl⟩) _).trans ?_
    rfl
theorem q_Pa_take_r26 {h : zH} {x1 : Int} (KC : KC h) : zBack zY 26 23 26 [some (zR (some 5)), some (zI x1)] [] (some (.inl (none), h)) =
    some (.inl (none), h) := by
  refine (show zBack zY 26 23 26 [some (zR (some 5)), some (zI x1)] [] (some (.inl (none), h)) = gd (([] : List zV).isEmpty = true ∧ zrk 26 = 0) (some (.inl (none), h)) from zGo 2 26 26 _ _ _).trans ?_
  refine (gd_t (⟨rfl, rfl⟩) _).trans ?_
  rfl
theorem q_Pa_take_r34 {h : zH} {x1 : Int} (KC : KC h) : zBack zY 26 31 34 [some (zR (some 5)), some (zI x1)] [] (some (.inl (none), h)) =
    some (.inl (none), h) := by
  refine (show zBack zY 26 31 34 [some (zR (some 5)), some (zI x1)] [] (some (.inl (none), h)) = gd (([] : List zV).isEmpty = true ∧ zrk 26 = 0) (some (.inl (none), h)) from zGo 1 26 34 _ _ _).trans ?_
  refine (gd_t (⟨rfl, rfl⟩) _).trans ?_
  rfl
theorem q_Pa_checkNode {h : zH} {x1 : Int} {x2 : Int} (KC : KC h) : zC 29 [zR (some 5), zI x1, zI x2] h =
    if x1 = 0 then
      if b_W_isOfConditions (hI h 7 0) then
        if x2 < 30 then
          if (hI h 5 0) = 0 then
            some (.inl (some (zI 1)), h)
          else
            some (.inl (some (zI 0)), h)
        else
          zBack zY 29 63 66 [some (zR (some 5)), some (zI x1), some (zI x2), some (zI (hI h 7 0))] [] (zC 27 [zR (some 5), zI 4] h)
      else
        zBack zY 29 49 52 [some (zR (some 5)), some (zI x1), some (zI x2), some (zI (hI h 7 0))] [] (zC 27 [zR (some 5), zI 1] h)
    else
      if (hI h 7 0) = (-4) then
        zBack zY 29 20 23 [some (zR (some 5)), some (zI x1), some (zI x2), some (zI (hI h 7 0))] [] (zC 27 [zR (some 5), zI 2] h)
      else
        if b_W_isOfExpressions (hI h 7 0) then
          if x2 < 30 then
            if (hI h 5 0) = 0 then
              some (.inl (some (zI 1)), h)
            else
              some (.inl (some (zI 0)), h)
          else
            zBack zY 29 63 66 [some (zR (some 5)), some (zI x1), some (zI x2), some (zI (hI h 7 0))] [] (zC 27 [zR (some 5), zI 4] h)
        else
          zBack zY 29 49 52 [some (zR (some 5)), some (zI x1), some (zI x2), some (zI (hI h 7 0))] [] (zC 27 [zR (some 5), zI 1] h) := by
  refine (show zC 29 [zR (some 5), zI x1, zI x2] h = gd (zob h (some 5) 4) (zY 29 4 [some (zR (some 5)), some (zI x1), some (zI x2), none] [zR (hR h 5 2)] h) from zGo 2 29 0 _ _ _).trans ?_
  refine (gd_t (⟨rfl, (PTC KC 5 _ rfl rfl), (PNC KC 5 rfl)⟩) _).trans ?_
  refine (congrArg (fun rz => zY 29 4 [some (zR (some 5)), some (zI x1), some (zI x2), none] (zR rz :: []) h) (PRC KC 5 2 _ rfl)).trans ?_
  refine (show zY 29 4 [some (zR (some 5)), some (zI x1), some (zI x2), none] [zR (some 7)] h = gd (zob h (some 7) 7) (if x1 = 0 then zY 29 26 [some (zR (some 5)), some (zI x1), some (zI x2), some (zI (hI h 7 0))] [] h else zY 29 12 [some (zR (some 5)), some (zI x1), some (zI x2), some (zI (hI h 7 0))] [] h) from zGo 4 29 4 _ _ _).trans ?_
  refine (gd_t (⟨rfl, (PTC KC 7 _ rfl rfl), (PNC KC 7 rfl)⟩) _).trans ?_
  refine iteC (fun c0 => ?_) (fun c0 => ?_)
  · skip
    refine (show zY 29 26 [some (zR (some 5)), some (zI x1), some (zI x2), some (zI (hI h 7 0))] [] h = if x1 = 0 then zY 29 40 [some (zR (some 5)), some (zI x1), some (zI x2), some (zI (hI h 7 0))] [] h else zY 29 30 [some (zR (some 5)), some (zI x1), some (zI x2), some (zI (hI h 7 0))] [] h from zGo 2 29 26 _ _ _).trans ?_
    refine ite_p c0 ?_
    refine (show zY 29 40 [some (zR (some 5)), some (zI x1), some (zI x2), some (zI (hI h 7 0))] [] h = gd (false = zctor 141 ∧ zcs [] ≤ 8 ∧ zrm 29 (zrf 141 + 1) (8 + (zmaxl 141 + 11) + zrl 141) = true ∧ zcs [zI (hI h 7 0)] ≤ zmaxl 141) (zBack zY 29 41 44 [some (zR (some 5)), some (zI x1), some (zI x2), some (zI (hI h 7 0))] [] (zC 141 [zI (hI h 7 0)] h)) from zGo 2 29 40 _ _ _).trans ?_
    refine (gd_t (⟨rfl, Nat.le_of_ble_eq_true rfl, rfl, Nat.le_of_ble_eq_true rfl⟩) _).trans ?_
    refine (congrArg (zBack zY 29 41 44 [some (zR (some 5)), some (zI x1), some (zI x2), some (zI (hI h 7 0))] []) (e_W_isOfConditions)).trans ?_
    refine (show zY 29 44 [some (zR (some 5)), some (zI x1), some (zI x2), some (zI (hI h 7 0))] [zI (if b_W_isOfConditions (hI h 7 0) then (1 : Int) else 0)] h = if (if b_W_isOfConditions (hI h 7 0) then (1 : Int) else 0) = 0 then zY 29 47 [some (zR (some 5)), some (zI x1), some (zI x2), some (zI (hI h 7 0))] [] h else zY 29 55 [some (zR (some 5)), some (zI x1), some (zI x2), some (zI (hI h 7 0))] [] h from zGo 1 29 44 _ _ _).trans ?_
    refine iteB (fun c2 => ?_) (fun c2 => ?_)
    · skip
      refine (show zY 29 55 [some (zR (some 5)), some (zI x1), some (zI x2), some (zI (hI h 7 0))] [] h = gd (-128 ≤ (30 : Int) ∧ (30 : Int) < 128) (if x2 < 30 then zY 29 66 [some (zR (some 5)), some (zI x1), some (zI x2), some (zI (hI h 7 0))] [] h else zY 29 61 [some (zR (some 5)), some (zI x1), some (zI x2), some (zI (hI h 7 0))] [] h) from zGo 3 29 55 _ _ _).trans ?_
      refine (gd_t (by decide) _).trans ?_
      refine iteC (fun c3 => ?_) (fun c3 => ?_)
      · skip
        refine (show zY 29 66 [some (zR (some 5)), some (zI x1), some (zI x2), some (zI (hI h 7 0))] [] h = gd (zob h (some 5) 4) (if (hI h 5 0) = 0 then zY 29 73 [some (zR (some 5)), some (zI x1), some (zI x2), some (zI (hI h 7 0))] [] h else zY 29 77 [some (zR (some 5)), some (zI x1), some (zI x2), some (zI (hI h 7 0))] [] h) from zGo 3 29 66 _ _ _).trans ?_
        refine (gd_t (⟨rfl, (PTC KC 5 _ rfl rfl), (PNC KC 5 rfl)⟩) _).trans ?_
        refine iteC (fun c4 => ?_) (fun c4 => ?_)
        · skip
          refine (show zY 29 73 [some (zR (some 5)), some (zI x1), some (zI x2), some (zI (hI h 7 0))] [] h = gd (inR (1)) (gd (([] : List zV).isEmpty = true ∧ (zrk 29 = 1 ∨ zrk 29 = 6 ∧ ((1 : Int) = 0 ∨ (1 : Int) = 1))) (some (.inl (some (zI 1)), h))) from zGo 3 29 73 _ _ _).trans ?_
          refine (gd_t (by decide) _).trans ?_
          refine (gd_t (⟨rfl, Or.inr ⟨rfl, by decide⟩⟩) _).trans ?_
          rfl
        · skip
          refine (show zY 29 77 [some (zR (some 5)), some (zI x1), some (zI x2), some (zI (hI h 7 0))] [] h = gd (inR (0)) (gd (([] : List zV).isEmpty = true ∧ (zrk 29 = 1 ∨ zrk 29 = 6 ∧ ((0 : Int) = 0 ∨ (0 : Int) = 1))) (some (.inl (some (zI 0)), h))) from zGo 2 29 77 _ _ _).trans ?_
          refine (gd_t (by decide) _).trans ?_
          refine (gd_t (⟨rfl, Or.inr ⟨rfl, by decide⟩⟩) _).trans ?_
          rfl
      · skip
        refine (show zY 29 61 [some (zR (some 5)), some (zI x1), some (zI x2), some (zI (hI h 7 0))] [] h = gd (inR (4)) (gd (false = zctor 27 ∧ zcs [] ≤ 8 ∧ zrm 29 (zrf 27 + 1) (8 + (zmaxl 27 + 11) + zrl 27) = true ∧ zcs [zR (some 5), zI 4] ≤ zmaxl 27) (gd (zob h (some 5) 4) (zBack zY 29 63 66 [some (zR (some 5)), some (zI x1), some (zI x2), some (zI (hI h 7 0))] [] (zC 27 [zR (some 5), zI 4] h)))) from zGo 3 29 61 _ _ _).trans ?_
        refine (gd_t (by decide) _).trans ?_
        refine (gd_t (⟨rfl, Nat.le_of_ble_eq_true rfl, rfl, Nat.le_of_ble_eq_true rfl⟩) _).trans ?_
        refine (gd_t (⟨rfl, (PTC KC 5 _ rfl rfl), (PNC KC 5 rfl)⟩) _).trans ?_
        rfl
    · skip
      refine (show zY 29 47 [some (zR (some 5)), some (zI x1), some (zI x2), some (zI (hI h 7 0))] [] h = gd (inR (1)) (gd (false = zctor 27 ∧ zcs [] ≤ 8 ∧ zrm 29 (zrf 27 + 1) (8 + (zmaxl 27 + 11) + zrl 27) = true ∧ zcs [zR (some 5), zI 1] ≤ zmaxl 27) (gd (zob h (some 5) 4) (zBack zY 29 49 52 [some (zR (some 5)), some (zI x1), some (zI x2), some (zI (hI h 7 0))] [] (zC 27 [zR (some 5), zI 1] h)))) from zGo 3 29 47 _ _ _).trans ?_
      refine (gd_t (by decide) _).trans ?_
      refine (gd_t (⟨rfl, Nat.le_of_ble_eq_true rfl, rfl, Nat.le_of_ble_eq_true rfl⟩) _).trans ?_
      refine (gd_t (⟨rfl, (PTC KC 5 _ rfl rfl), (PNC KC 5 rfl)⟩) _).trans ?_
      rfl
  · skip
    refine (show zY 29 12 [some (zR (some 5)), some (zI x1), some (zI x2), some (zI (hI h 7 0))] [] h = gd (-128 ≤ (-4 : Int) ∧ (-4 : Int) < 128) (if (hI h 7 0) = (-4) then zY 29 18 [some (zR (some 5)), some (zI x1), some (zI x2), some (zI (hI h 7 0))] [] h else zY 29 26 [some (zR (some 5)), some (zI x1), some (zI x2), some (zI (hI h 7 0))] [] h) from zGo 3 29 12 _ _ _).trans ?_
    refine (gd_t (by decide) _).trans ?_
    refine iteC (fun c5 => ?_) (fun c5 => ?_)
    · skip
      refine (show zY 29 18 [some (zR (some 5)), some (zI x1), some (zI x2), some (zI (hI h 7 0))] [] h = gd (inR (2)) (gd (false = zctor 27 ∧ zcs [] ≤ 8 ∧ zrm 29 (zrf 27 + 1) (8 + (zmaxl 27 + 11) + zrl 27) = true ∧ zcs [zR (some 5), zI 2] ≤ zmaxl 27) (gd (zob h (some 5) 4) (zBack zY 29 20 23 [some (zR (some 5)), some (zI x1), some (zI x2), some (zI (hI h 7 0))] [] (zC 27 [zR (some 5), zI 2] h)))) from zGo 3 29 18 _ _ _).trans ?_
      refine (gd_t (by decide) _).trans ?_
      refine (gd_t (⟨rfl, Nat.le_of_ble_eq_true rfl, rfl, Nat.le_of_ble_eq_true rfl⟩) _).trans ?_
      refine (gd_t (⟨rfl, (PTC KC 5 _ rfl rfl), (PNC KC 5 rfl)⟩) _).trans ?_
      rfl
    · skip
      refine (show zY 29 26 [some (zR (some 5)), some (zI x1), some (zI x2), some (zI (hI h 7 0))] [] h = if x1 = 0 then zY 29 40 [some (zR (some 5)), some (zI x1), some (zI x2), some (zI (hI h 7 0))] [] h else zY 29 30 [some (zR (some 5)), some (zI x1), some (zI x2), some (zI (hI h 7 0))] [] h from zGo 2 29 26 _ _ _).trans ?_
      refine ite_n c0 ?_
      refine (show zY 29 30 [some (zR (some 5)), some (zI x1), some (zI x2), some (zI (hI h 7 0))] [] h = gd (false = zctor 140 ∧ zcs [] ≤ 8 ∧ zrm 29 (zrf 140 + 1) (8 + (zmaxl 140 + 11) + zrl 140) = true ∧ zcs [zI (hI h 7 0)] ≤ zmaxl 140) (zBack zY 29 31 34 [some (zR (some 5)), some (zI x1), some (zI x2), some (zI (hI h 7 0))] [] (zC 140 [zI (hI h 7 0)] h)) from zGo 2 29 30 _ _ _).trans ?_
      refine (gd_t (⟨rfl, Nat.le_of_ble_eq_true rfl, rfl, Nat.le_of_ble_eq_true rfl⟩) _).trans ?_
      refine (congrArg (zBack zY 29 31 34 [some (zR (some 5)), some (zI x1), some (zI x2), some (zI (hI h 7 0))] []) (e_W_isOfExpressions)).trans ?_
      refine (show zY 29 34 [some (zR (some 5)), some (zI x1), some (zI x2), some (zI (hI h 7 0))] [zI (if b_W_isOfExpressions (hI h 7 0) then (1 : Int) else 0)] h = if (if b_W_isOfExpressions (hI h 7 0) then (1 : Int) else 0) = 0 then zY 29 37 [some (zR (some 5)), some (zI x1), some (zI x2), some (zI (hI h 7 0))] [] h else zY 29 55 [some (zR (some 5)), some (zI x1), some (zI x2), some (zI (hI h 7 0))] [] h from zGo 1 29 34 _ _ _).trans ?_
      refine iteB (fun c7 => ?_) (fun c7 => ?_)
      · skip
        refine (show zY 29 55 [some (zR (some 5)), some (zI x1), some (zI x2), some (zI (hI h 7 0))] [] h = gd (-128 ≤ (30 : Int) ∧ (30 : Int) < 128) (if x2 < 30 then zY 29 66 [some (zR (some 5)), some (zI x1), some (zI x2), some (zI (hI h 7 0))] [] h else zY 29 61 [some (zR (some 5)), some (zI x1), some (zI x2), some (zI (hI h 7 0))] [] h) from zGo 3 29 55 _ _ _).trans ?_
        refine (gd_t (by decide) _).trans ?_
        refine iteC (fun c8 => ?_) (fun c8 => ?_)
        · skip
          refine (show zY 29 66 [some (zR (some 5)), some (zI x1), some (zI x2), some (zI (hI h 7 0))] [] h = gd (zob h (some 5) 4) (if (hI h 5 0) = 0 then zY 29 73 [some (zR (some 5)), some (zI x1), some (zI x2), some (zI (hI h 7 0))] [] h else zY 29 77 [some (zR (some 5)), some (zI x1), some (zI x2), some (zI (hI h 7 0))] [] h) from zGo 3 29 66 _ _ _).trans ?_
          refine (gd_t (⟨rfl, (PTC KC 5 _ rfl rfl), (PNC KC 5 rfl)⟩) _).trans ?_
          refine iteC (fun c9 => ?_) (fun c9 => ?_)
          · skip
            refine (show zY 29 73 [some (zR (some 5)), some (zI x1), some (zI x2), some (zI (hI h 7 0))] [] h = gd (inR (1)) (gd (([] : List zV).isEmpty = true ∧ (zrk 29 = 1 ∨ zrk 29 = 6 ∧ ((1 : Int) = 0 ∨ (1 : Int) = 1))) (some (.inl (some (zI 1)), h))) from zGo 3 29 73 _ _ _).trans ?_
            refine (gd_t (by decide) _).trans ?_
            refine (gd_t (⟨rfl, Or.inr ⟨rfl, by decide⟩⟩) _).trans ?_
            rfl
          · skip
            refine (show zY 29 77 [some (zR (some 5)), some (zI x1), some (zI x2), some (zI (hI h 7 0))] [] h = gd (inR (0)) (gd (([] : List zV).isEmpty = true ∧ (zrk 29 = 1 ∨ zrk 29 = 6 ∧ ((0 : Int) = 0 ∨ (0 : Int) = 1))) (some (.inl (some (zI 0)), h))) from zGo 2 29 77 _ _ _).trans ?_
            refine (gd_t (by decide) _).trans ?_
            refine (gd_t (⟨rfl, Or.inr ⟨rfl, by decide⟩⟩) _).trans ?_
            rfl
        · skip
          refine (show zY 29 61 [some (zR (some 5)), some (zI x1), some (zI x2), some (zI (hI h 7 0))] [] h = gd (inR (4)) (gd (false = zctor 27 ∧ zcs [] ≤ 8 ∧ zrm 29 (zrf 27 + 1) (8 + (zmaxl 27 + 11) + zrl 27) = true ∧ zcs [zR (some 5), zI 4] ≤ zmaxl 27) (gd (zob h (some 5) 4) (zBack zY 29 63 66 [some (zR (some 5)), some (zI x1), some (zI x2), some (zI (hI h 7 0))] [] (zC 27 [zR (some 5), zI 4] h)))) from zGo 3 29 61 _ _ _).trans ?_
          refine (gd_t (by decide) _).trans ?_
          refine (gd_t (⟨rfl, Nat.le_of_ble_eq_true rfl, rfl, Nat.le_of_ble_eq_true rfl⟩) _).trans ?_
          refine (gd_t (⟨rfl, (PTC KC 5 _ rfl rfl), (PNC KC 5 rfl)⟩) _).trans ?_
          rfl
      · skip
        refine (show zY 29 37 [some (zR (some 5)), some (zI x1), some (zI x2), some (zI (hI h 7 0))] [] h = gd (inR (1)) (gd (false = zctor 27 ∧ zcs [] ≤ 8 ∧ zrm 29 (zrf 27 + 1) (8 + (zmaxl 27 + 11) + zrl 27) = true ∧ zcs [zR (some 5), zI 1] ≤ zmaxl 27) (gd (zob h (some 5) 4) (zBack zY 29 49 52 [some (zR (some 5)), some (zI x1), some (zI x2), some (zI (hI h 7 0))] [] (zC 27 [zR (some 5), zI 1] h)))) from zGo 4 29 37 _ _ _).trans ?_
        refine (gd_t (by decide) _).trans ?_
        refine (gd_t (⟨rfl, Nat.le_of_ble_eq_true rfl, rfl, Nat.le_of_ble_eq_true rfl⟩) _).trans ?_
        refine (gd_t (⟨rfl, (PTC KC 5 _ rfl rfl), (PNC KC 5 rfl)⟩) _).trans ?_
        rfl
theorem q_Pa_checkNode_r23 {h : zH} {x1 : Int} {x2 : Int} {x3 : Int} (KC : KC h) : zBack zY 29 20 23 [some (zR (some 5)), some (zI x1), some (zI x2), some (zI x3)] [] (some (.inl (none), h)) =
    if (hI h 5 0) = 0 then
      some (.inl (some (zI 1)), h)
    else
      some (.inl (some (zI 0)), h) := by
  refine (show zBack zY 29 20 23 [some (zR (some 5)), some (zI x1), some (zI x2), some (zI x3)] [] (some (.inl (none), h)) = gd (zob h (some 5) 4) (if (hI h 5 0) = 0 then zY 29 73 [some (zR (some 5)), some (zI x1), some (zI x2), some (zI x3)] [] h else zY 29 77 [some (zR (some 5)), some (zI x1), some (zI x2), some (zI x3)] [] h) from zGo 4 29 23 _ _ _).trans ?_
  refine (gd_t (⟨rfl, (PTC KC 5 _ rfl rfl), (PNC KC 5 rfl)⟩) _).trans ?_
  refine iteC (fun c0 => ?_) (fun c0 => ?_)
  · skip
    refine (show zY 29 73 [some (zR (some 5)), some (zI x1), some (zI x2), some (zI x3)] [] h = gd (inR (1)) (gd (([] : List zV).isEmpty = true ∧ (zrk 29 = 1 ∨ zrk 29 = 6 ∧ ((1 : Int) = 0 ∨ (1 : Int) = 1))) (some (.inl (some (zI 1)), h))) from zGo 3 29 73 _ _ _).trans ?_
    refine (gd_t (by decide) _).trans ?_
    refine (gd_t (⟨rfl, Or.inr ⟨rfl, by decide⟩⟩) _).trans ?_
    rfl
  · skip
    refine (show zY 29 77 [some (zR (some 5)), some (zI x1), some (zI x2), some (zI x3)] [] h = gd (inR (0)) (gd (([] : List zV).isEmpty = true ∧ (zrk 29 = 1 ∨ zrk 29 = 6 ∧ ((0 : Int) = 0 ∨ (0 : Int) = 1))) (some (.inl (some (zI 0)), h))) from zGo 2 29 77 _ _ _).trans ?_
    refine (gd_t (by decide) _).trans ?_
    refine (gd_t (⟨rfl, Or.inr ⟨rfl, by decide⟩⟩) _).trans ?_
    rfl
theorem q_Pa_checkNode_r52 {h : zH} {x1 : Int} {x2 : Int} {x3 : Int} (KC : KC h) : zBack zY 29 49 52 [some (zR (some 5)), some (zI x1), some (zI x2), some (zI x3)] [] (some (.inl (none), h)) =
    if (hI h 5 0) = 0 then
      some (.inl (some (zI 1)), h)
    else
      some (.inl (some (zI 0)), h) := by
  refine (show zBack zY 29 49 52 [some (zR (some 5)), some (zI x1), some (zI x2), some (zI x3)] [] (some (.inl (none), h)) = gd (zob h (some 5) 4) (if (hI h 5 0) = 0 then zY 29 73 [some (zR (some 5)), some (zI x1), some (zI x2), some (zI x3)] [] h else zY 29 77 [some (zR (some 5)), some (zI x1), some (zI x2), some (zI x3)] [] h) from zGo 4 29 52 _ _ _).trans ?_
  refine (gd_t (⟨rfl, (PTC KC 5 _ rfl rfl), (PNC KC 5 rfl)⟩) _).trans ?_
  refine iteC (fun c0 => ?_) (fun c0 => ?_)
  · skip
    refine (show zY 29 73 [some (zR (some 5)), some (zI x1), some (zI x2), some (zI x3)] [] h = gd (inR (1)) (gd (([] : List zV).isEmpty = true ∧ (zrk 29 = 1 ∨ zrk 29 = 6 ∧ ((1 : Int) = 0 ∨ (1 : Int) = 1))) (some (.inl (some (zI 1)), h))) from zGo 3 29 73 _ _ _).trans ?_
    refine (gd_t (by decide) _).trans ?_
    refine (gd_t (⟨rfl, Or.inr ⟨rfl, by decide⟩⟩) _).trans ?_
    rfl
  · skip
    refine (show zY 29 77 [some (zR (some 5)), some (zI x1), some (zI x2), some (zI x3)] [] h = gd (inR (0)) (gd (([] : List zV).isEmpty = true ∧ (zrk 29 = 1 ∨ zrk 29 = 6 ∧ ((0 : Int) = 0 ∨ (0 : Int) = 1))) (some (.inl (some (zI 0)), h))) from zGo 2 29 77 _ _ _).trans ?_
    refine (gd_t (by decide) _).trans ?_
    refine (gd_t (⟨rfl, Or.inr ⟨rfl, by decide⟩⟩) _).trans ?_
    rfl
theorem q_Pa_checkNode_r66 {h : zH} {x1 : Int} {x2 : Int} {x3 : Int} (KC : KC h) : zBack zY 29 63 66 [some (zR (some 5)), some (zI x1), some (zI x2), some (zI x3)] [] (some (.inl (none), h)) =
    if (hI h 5 0) = 0 then
      some (.inl (some (zI 1)), h)
    else
      some (.inl (some (zI 0)), h) := by
  refine (show zBack zY 29 63 66 [some (zR (some 5)), some (zI x1), some (zI x2), some (zI x3)] [] (some (.inl (none), h)) = gd (zob h (some 5) 4) (if (hI h 5 0) = 0 then zY 29 73 [some (zR (some 5)), some (zI x1), some (zI x2), some (zI x3)] [] h else zY 29 77 [some (zR (some 5)), some (zI x1), some (zI x2), some (zI x3)] [] h) from zGo 3 29 66 _ _ _).trans ?_
  refine (gd_t (⟨rfl, (PTC KC 5 _ rfl rfl), (PNC KC 5 rfl)⟩) _).trans ?_
  refine iteC (fun c0 => ?_) (fun c0 => ?_)
  · skip
    refine (show zY 29 73 [some (zR (some 5)), some (zI x1), some (zI x2), some (zI x3)] [] h = gd (inR (1)) (gd (([] : List zV).isEmpty = true ∧ (zrk 29 = 1 ∨ zrk 29 = 6 ∧ ((1 : Int) = 0 ∨ (1 : Int) = 1))) (some (.inl (some (zI 1)), h))) from zGo 3 29 73 _ _ _).trans ?_
    refine (gd_t (by decide) _).trans ?_
    refine (gd_t (⟨rfl, Or.inr ⟨rfl, by decide⟩⟩) _).trans ?_
    rfl
  · skip
    refine (show zY 29 77 [some (zR (some 5)), some (zI x1), some (zI x2), some (zI x3)] [] h = gd (inR (0)) (gd (([] : List zV).isEmpty = true ∧ (zrk 29 = 1 ∨ zrk 29 = 6 ∧ ((0 : Int) = 0 ∨ (0 : Int) = 1))) (some (.inl (some (zI 0)), h))) from zGo 2 29 77 _ _ _).trans ?_
    refine (gd_t (by decide) _).trans ?_
    refine (gd_t (⟨rfl, Or.inr ⟨rfl, by decide⟩⟩) _).trans ?_
    rfl
theorem q_Pa_parseFormula {h : zH} {x1 : Int} (KC : KC h) : zC 28 [zR (some 5), zI x1] h =
    if x1 = 0 then
      zY 28 26 [some (zR (some 5)), some (zI x1), some (zI 0), some (zI 1), some (zI 0), some (zI 0), none, none] [] h
    else
      zY 28 26 [some (zR (some 5)), some (zI x1), some (zI 1), some (zI 0), some (zI 0), some (zI 0), none, none] [] h := by
  refine (show zC 28 [zR (some 5), zI x1] h = if x1 = 0 then zY 28 8 [some (zR (some 5)), some (zI x1), none, none, none, none, none, none] [] h else zY 28 4 [some (zR (some 5)), some (zI x1), none, none, none, none, none, none] [] h from zGo 2 28 0 _ _ _).trans ?_
  refine iteC (fun c0 => ?_) (fun c0 => ?_)
  · skip
    refine (show zY 28 8 [some (zR (some 5)), some (zI x1), none, none, none, none, none, none] [] h = gd (inR (0)) (if x1 = 0 then zY 28 18 [some (zR (some 5)), some (zI x1), some (zI 0), none, none, none, none, none] [] h else zY 28 14 [some (zR (some 5)), some (zI x1), some (zI 0), none, none, none, none, none] [] h) from zGo 4 28 8 _ _ _).trans ?_
    refine (gd_t (by decide) _).trans ?_
    refine ite_p c0 ?_
    refine (show zY 28 18 [some (zR (some 5)), some (zI x1), some (zI 0), none, none, none, none, none] [] h = gd (inR (1)) (gd (inR (0)) (gd (inR (0)) (zY 28 26 [some (zR (some 5)), some (zI x1), some (zI 0), some (zI 1), some (zI 0), some (zI 0), none, none] [] h))) from zGo 6 28 18 _ _ _).trans ?_
    refine (gd_t (by decide) _).trans ?_
    refine (gd_t (by decide) _).trans ?_
    refine (gd_t (by decide) _).trans ?_
    rfl
  · skip
    refine (show zY 28 4 [some (zR (some 5)), some (zI x1), none, none, none, none, none, none] [] h = gd (inR (1)) (if x1 = 0 then zY 28 18 [some (zR (some 5)), some (zI x1), some (zI 1), none, none, none, none, none] [] h else zY 28 14 [some (zR (some 5)), some (zI x1), some (zI 1), none, none, none, none, none] [] h) from zGo 5 28 4 _ _ _).trans ?_
    refine (gd_t (by decide) _).trans ?_
    refine ite_n c0 ?_
    refine (show zY 28 14 [some (zR (some 5)), some (zI x1), some (zI 1), none, none, none, none, none] [] h = gd (inR (0)) (gd (inR (0)) (gd (inR (0)) (zY 28 26 [some (zR (some 5)), some (zI x1), some (zI 1), some (zI 0), some (zI 0), some (zI 0), none, none] [] h))) from zGo 7 28 14 _ _ _).trans ?_
    refine (gd_t (by decide) _).trans ?_
    refine (gd_t (by decide) _).trans ?_
    refine (gd_t (by decide) _).trans ?_
    rfl
theorem q_Pa_parseFormula_26 {h : zH} {x1 : Int} {x2 : Int} {x3 : Int} {x4 : Int} {x5 : Int} (KC : KC h) : zY 28 26 [some (zR (some 5)), some (zI x1), some (zI x2), some (zI x3), some (zI x4), some (zI x5), none, none] [] h =
    if 30 < x5 then
      zY 28 148 [some (zR (some 5)), some (zI x1), some (zI x2), some (zI x3), some (zI x4), some (zI x5), none, none] [] h
    else
      if (hI h 5 0) = 0 then
        gd (-2147483648 ≤ x2 + x3 ∧ x2 + x3 < 2147483648) (
        if 0 < (x2 + x3) then
          if 0 < x3 then
            zBack zY 28 62 65 [some (zR (some 5)), some (zI x1), some (zI x2), some (zI x3), some (zI x4), some (zI x5), some (zI 1), none] [] (zC 29 [zR (some 5), zI 1, zI x4] h)
          else
            zBack zY 28 62 65 [some (zR (some 5)), some (zI x1), some (zI x2), some (zI x3), some (zI x4), some (zI x5), some (zI 0), none] [] (zC 29 [zR (some 5), zI 0, zI x4] h)
        else
          zY 28 148 [some (zR (some 5)), some (zI x1), some (zI x2), some (zI x3), some (zI x4), some (zI x5), none, none] [] h)
      else
        zY 28 148 [some (zR (some 5)), some (zI x1), some (zI x2), some (zI x3), some (zI x4), some (zI x5), none, none] [] h := by
  refine (show zY 28 26 [some (zR (some 5)), some (zI x1), some (zI x2), some (zI x3), some (zI x4), some (zI x5), none, none] [] h = gd (-128 ≤ (30 : Int) ∧ (30 : Int) < 128) (if 30 < x5 then zY 28 148 [some (zR (some 5)), some (zI x1), some (zI x2), some (zI x3), some (zI x4), some (zI x5), none, none] [] h else zY 28 33 [some (zR (some 5)), some (zI x1), some (zI x2), some (zI x3), some (zI x4), some (zI x5), none, none] [] h) from zGo 3 28 26 _ _ _).trans ?_
  refine (gd_t (by decide) _).trans ?_
  refine iteC (fun c0 => ?_) (fun c0 => ?_)
  · skip
    rfl
  · skip
    refine (show zY 28 33 [some (zR (some 5)), some (zI x1), some (zI x2), some (zI x3), some (zI x4), some (zI x5), none, none] [] h = gd (zob h (some 5) 4) (if (hI h 5 0) = 0 then zY 28 40 [some (zR (some 5)), some (zI x1), some (zI x2), some (zI x3), some (zI x4), some (zI x5), none, none] [] h else zY 28 148 [some (zR (some 5)), some (zI x1), some (zI x2), some (zI x3), some (zI x4), some (zI x5), none, none] [] h) from zGo 3 28 33 _ _ _).trans ?_
    refine (gd_t (⟨rfl, (PTC KC 5 _ rfl rfl), (PNC KC 5 rfl)⟩) _).trans ?_
    refine iteC (fun c1 => ?_) (fun c1 => ?_)
    · skip
      refine (show zY 28 40 [some (zR (some 5)), some (zI x1), some (zI x2), some (zI x3), some (zI x4), some (zI x5), none, none] [] h = gd (inR (x2 + x3)) (if 0 < (x2 + x3) then zY 28 46 [some (zR (some 5)), some (zI x1), some (zI x2), some (zI x3), some (zI x4), some (zI x5), none, none] [] h else zY 28 148 [some (zR (some 5)), some (zI x1), some (zI x2), some (zI x3), some (zI x4), some (zI x5), none, none] [] h) from zGo 4 28 40 _ _ _).trans ?_
      refine gd_c Iff.rfl (fun c2 => ?_)
      refine iteC (fun c3 => ?_) (fun c3 => ?_)
      · skip
        refine (show zY 28 46 [some (zR (some 5)), some (zI x1), some (zI x2), some (zI x3), some (zI x4), some (zI x5), none, none] [] h = if 0 < x3 then zY 28 50 [some (zR (some 5)), some (zI x1), some (zI x2), some (zI x3), some (zI x4), some (zI x5), none, none] [] h else zY 28 54 [some (zR (some 5)), some (zI x1), some (zI x2), some (zI x3), some (zI x4), some (zI x5), none, none] [] h from zGo 2 28 46 _ _ _).trans ?_
        refine iteC (fun c4 => ?_) (fun c4 => ?_)
        · skip
          refine (show zY 28 50 [some (zR (some 5)), some (zI x1), some (zI x2), some (zI x3), some (zI x4), some (zI x5), none, none] [] h = gd (inR (1)) (gd (false = zctor 29 ∧ zcs [] ≤ 8 ∧ zrm 28 (zrf 29 + 1) (8 + (zmaxl 29 + 11) + zrl 29) = true ∧ zcs [zR (some 5), zI 1, zI x4] ≤ zmaxl 29) (gd (zob h (some 5) 4) (zBack zY 28 62 65 [some (zR (some 5)), some (zI x1), some (zI x2), some (zI x3), some (zI x4), some (zI x5), some (zI 1), none] [] (zC 29 [zR (some 5), zI 1, zI x4] h)))) from zGo 7 28 50 _ _ _).trans ?_
          refine (gd_t (by decide) _).trans ?_
          refine (gd_t (⟨rfl, Nat.le_of_ble_eq_true rfl, rfl, Nat.le_of_ble_eq_true rfl⟩) _).trans ?_
          refine (gd_t (⟨rfl, (PTC KC 5 _ rfl rfl), (PNC KC 5 rfl)⟩) _).trans ?_
          rfl
        · skip
          refine (show zY 28 54 [some (zR (some 5)), some (zI x1), some (zI x2), some (zI x3), some (zI x4), some (zI x5), none, none] [] h = gd (inR (0)) (gd (false = zctor 29 ∧ zcs [] ≤ 8 ∧ zrm 28 (zrf 29 + 1) (8 + (zmaxl 29 + 11) + zrl 29) = true ∧ zcs [zR (some 5), zI 0, zI x4] ≤ zmaxl 29) (gd (zob h (some 5) 4) (zBack zY 28 62 65 [some (zR (some 5)), some (zI x1), some (zI x2), some (zI x3), some (zI x4), some (zI x5), some (zI 0), none] [] (zC 29 [zR (some 5), zI 0, zI x4] h)))) from zGo 6 28 54 _ _ _).trans ?_
          refine (gd_t (by decide) _).trans ?_
          refine (gd_t (⟨rfl, Nat.le_of_ble_eq_true rfl, rfl, Nat.le_of_ble_eq_true rfl⟩) _).trans ?_
          refine (gd_t (⟨rfl, (PTC KC 5 _ rfl rfl), (PNC KC 5 rfl)⟩) _).trans ?_
          rfl
      · skip
        rfl
    · skip
      rfl
theorem q_Pa_parseFormula_r65 {h : zH} {x1 : Int} {x2 : Int} {x3 : Int} {x4 : Int} {x5 : Int} {x6 : Int} {y : Int} (KC : KC h) : zBack zY 28 62 65 [some (zR (some 5)), some (zI x1), some (zI x2), some (zI x3), some (zI x4), some (zI x5), some (zI x6), none] [] (some (.inl (some (zI y)), h)) =
    if y = 0 then
      gd (-2147483648 ≤ x5 + 1 ∧ x5 + 1 < 2147483648) (
      zY 28 26 [some (zR (some 5)), some (zI x1), some (zI x2), some (zI x3), some (zI x4), some (zI (x5 + 1)), some (zI x6), none] [] h)
    else
      if x4 < 30 then
        gd (0 ≤ x4 ∧ x4 < 30) (
        gd (-2147483648 ≤ x4 + 1 ∧ x4 + 1 < 2147483648) (
        if x6 = 0 then
          gd (-2147483648 ≤ (f_W_expressionsBehind (hI h 7 0)) - 0 ∧ (f_W_expressionsBehind (hI h 7 0)) - 0 < 2147483648) (
          gd (-2147483648 ≤ x3 + ((f_W_expressionsBehind (hI h 7 0)) - 0) ∧ x3 + ((f_W_expressionsBehind (hI h 7 0)) - 0) < 2147483648) (
          gd (-2147483648 ≤ (f_W_conditionsBehind (hI h 7 0)) - 1 ∧ (f_W_conditionsBehind (hI h 7 0)) - 1 < 2147483648) (
          gd (-2147483648 ≤ x2 + ((f_W_conditionsBehind (hI h 7 0)) - 1) ∧ x2 + ((f_W_conditionsBehind (hI h 7 0)) - 1) < 2147483648) (
          zBack zY 28 139 142 [some (zR (some 5)), some (zI x1), some (zI (x2 + ((f_W_conditionsBehind (hI h 7 0)) - 1))), some (zI (x3 + ((f_W_expressionsBehind (hI h 7 0)) - 0))), some (zI (x4 + 1)), some (zI x5), some (zI x6), some (zI (hI h 7 0))] [] (zC 91 [zR (some 7)] (sI h 6 x4.toNat (zi2b (hI h 7 0))))))))
        else
          gd (-2147483648 ≤ (f_W_expressionsBehind (hI h 7 0)) - 1 ∧ (f_W_expressionsBehind (hI h 7 0)) - 1 < 2147483648) (
          gd (-2147483648 ≤ x3 + ((f_W_expressionsBehind (hI h 7 0)) - 1) ∧ x3 + ((f_W_expressionsBehind (hI h 7 0)) - 1) < 2147483648) (
          gd (-2147483648 ≤ (f_W_conditionsBehind (hI h 7 0)) - 0 ∧ (f_W_conditionsBehind (hI h 7 0)) - 0 < 2147483648) (
          gd (-2147483648 ≤ x2 + ((f_W_conditionsBehind (hI h 7 0)) - 0) ∧ x2 + ((f_W_conditionsBehind (hI h 7 0)) - 0) < 2147483648) (
          zBack zY 28 139 142 [some (zR (some 5)), some (zI x1), some (zI (x2 + ((f_W_conditionsBehind (hI h 7 0)) - 0))), some (zI (x3 + ((f_W_expressionsBehind (hI h 7 0)) - 1))), some (zI (x4 + 1)), some (zI x5), some (zI x6), some (zI (hI h 7 0))] [] (zC 91 [zR (some 7)] (sI h 6 x4.toNat (zi2b (hI h 7 0))))))))))
      else
        gd (-2147483648 ≤ x5 + 1 ∧ x5 + 1 < 2147483648) (
        zY 28 26 [some (zR (some 5)), some (zI x1), some (zI x2), some (zI x3), some (zI x4), some (zI (x5 + 1)), some (zI x6), none] [] h) := by
  refine (show zBack zY 28 62 65 [some (zR (some 5)), some (zI x1), some (zI x2), some (zI x3), some (zI x4), some (zI x5), some (zI x6), none] [] (some (.inl (some (zI y)), h)) = if y = 0 then zY 28 142 [some (zR (some 5)), some (zI x1), some (zI x2), some (zI x3), some (zI x4), some (zI x5), some (zI x6), none] [] h else zY 28 68 [some (zR (some 5)), some (zI x1), some (zI x2), some (zI x3), some (zI x4), some (zI x5), some (zI x6), none] [] h from zGo 1 28 65 _ _ _).trans ?_
  refine iteC (fun c0 => ?_) (fun c0 => ?_)
  · skip
    refine (show zY 28 142 [some (zR (some 5)), some (zI x1), some (zI x2), some (zI x3), some (zI x4), some (zI x5), some (zI x6), none] [] h = gd (inR (x5 + 1)) (gd (inR (1)) (zY 28 26 [some (zR (some 5)), some (zI x1), some (zI x2), some (zI x3), some (zI x4), some (zI (x5 + 1)), some (zI x6), none] [] h)) from zGo 2 28 142 _ _ _).trans ?_
    refine gd_c Iff.rfl (fun c1 => ?_)
    refine (gd_t (by decide) _).trans ?_
    rfl
  · skip
    refine (show zY 28 68 [some (zR (some 5)), some (zI x1), some (zI x2), some (zI x3), some (zI x4), some (zI x5), some (zI x6), none] [] h = gd (-128 ≤ (30 : Int) ∧ (30 : Int) < 128) (if x4 < 30 then zY 28 75 [some (zR (some 5)), some (zI x1), some (zI x2), some (zI x3), some (zI x4), some (zI x5), some (zI x6), none] [] h else zY 28 142 [some (zR (some 5)), some (zI x1), some (zI x2), some (zI x3), some (zI x4), some (zI x5), some (zI x6), none] [] h) from zGo 3 28 68 _ _ _).trans ?_
    refine (gd_t (by decide) _).trans ?_
    refine iteC (fun c2 => ?_) (fun c2 => ?_)
    · skip
      refine (show zY 28 75 [some (zR (some 5)), some (zI x1), some (zI x2), some (zI x3), some (zI x4), some (zI x5), some (zI x6), none] [] h = gd (zob h (some 5) 4) (zY 28 79 [some (zR (some 5)), some (zI x1), some (zI x2), some (zI x3), some (zI x4), some (zI x5), some (zI x6), none] [zR (hR h 5 2)] h) from zGo 2 28 75 _ _ _).trans ?_
      refine (gd_t (⟨rfl, (PTC KC 5 _ rfl rfl), (PNC KC 5 rfl)⟩) _).trans ?_
      refine (congrArg (fun rz => zY 28 79 [some (zR (some 5)), some (zI x1), some (zI x2), some (zI x3), some (zI x4), some (zI x5), some (zI x6), none] (zR rz :: []) h) (PRC KC 5 2 _ rfl)).trans ?_
      refine (show zY 28 79 [some (zR (some 5)), some (zI x1), some (zI x2), some (zI x3), some (zI x4), some (zI x5), some (zI x6), none] [zR (some 7)] h = gd (zob h (some 7) 7) (gd (zob h (some 5) 4) (zY 28 88 [some (zR (some 5)), some (zI x1), some (zI x2), some (zI x3), some (zI x4), some (zI x5), some (zI x6), some (zI (hI h 7 0))] [zR (hR h 5 3)] h)) from zGo 4 28 79 _ _ _).trans ?_
      refine (gd_t (⟨rfl, (PTC KC 7 _ rfl rfl), (PNC KC 7 rfl)⟩) _).trans ?_
      refine (gd_t (⟨rfl, (PTC KC 5 _ rfl rfl), (PNC KC 5 rfl)⟩) _).trans ?_
      refine (congrArg (fun rz => zY 28 88 [some (zR (some 5)), some (zI x1), some (zI x2), some (zI x3), some (zI x4), some (zI x5), some (zI x6), some (zI (hI h 7 0))] (zR rz :: []) h) (PRC KC 5 3 _ rfl)).trans ?_
      refine (show zY 28 88 [some (zR (some 5)), some (zI x1), some (zI x2), some (zI x3), some (zI x4), some (zI x5), some (zI x6), some (zI (hI h 7 0))] [zR (some 6)] h = gd (zokw h (some 6) 21 x4 ∨ zokw h (some 6) 20 x4) (gd (-128 ≤ ((zi2b (hI h 7 0)) : Int) ∧ ((zi2b (hI h 7 0)) : Int) < 128 ∧ (hT h (zdr (some 6)) = 20 → ((zi2b (hI h 7 0)) : Int) = 0 ∨ ((zi2b (hI h 7 0)) : Int) = 1)) (gd (inR (x4 + 1)) (gd (inR (1)) (gd (false = zctor 142 ∧ zcs [zI x3] ≤ 8 ∧ zrm 28 (zrf 142 + 1) (8 + (zmaxl 142 + 11) + zrl 142) = true ∧ zcs [zI (hI h 7 0)] ≤ zmaxl 142) (zBack zY 28 100 103 [some (zR (some 5)), some (zI x1), some (zI x2), some (zI x3), some (zI (x4 + 1)), some (zI x5), some (zI x6), some (zI (hI h 7 0))] [zI x3] (zC 142 [zI (hI h 7 0)] (sI h 6 x4.toNat (zi2b (hI h 7 0))))))))) from zGo 8 28 88 _ _ _).trans ?_
      refine gd_c (cib21 (PTC KC 6 _ rfl rfl) (PNC KC 6 rfl) (PLC KC 6 30 rfl rfl)) (fun c3 => ?_)
      refine (gd_t (⟨zi2b_l _, zi2b_u _, fun e => absurd (e.symm.trans (PTC KC 6 _ rfl rfl)) (by decide)⟩) _).trans ?_
      refine gd_c Iff.rfl (fun c4 => ?_)
      refine (gd_t (by decide) _).trans ?_
      refine (gd_t (⟨rfl, Nat.le_of_ble_eq_true rfl, rfl, Nat.le_of_ble_eq_true rfl⟩) _).trans ?_
      refine (congrArg (zBack zY 28 100 103 [some (zR (some 5)), some (zI x1), some (zI x2), some (zI x3), some (zI (x4 + 1)), some (zI x5), some (zI x6), some (zI (hI h 7 0))] [zI x3]) (e_W_expressionsBehind (h := (sI h 6 x4.toNat (zi2b (hI h 7 0)))))).trans ?_
      refine (show zY 28 103 [some (zR (some 5)), some (zI x1), some (zI x2), some (zI x3), some (zI (x4 + 1)), some (zI x5), some (zI x6), some (zI (hI h 7 0))] [zI (f_W_expressionsBehind (hI h 7 0)), zI x3] (sI h 6 x4.toNat (zi2b (hI h 7 0))) = if x6 = 0 then zY 28 112 [some (zR (some 5)), some (zI x1), some (zI x2), some (zI x3), some (zI (x4 + 1)), some (zI x5), some (zI x6), some (zI (hI h 7 0))] [zI (f_W_expressionsBehind (hI h 7 0)), zI x3] (sI h 6 x4.toNat (zi2b (hI h 7 0))) else zY 28 108 [some (zR (some 5)), some (zI x1), some (zI x2), some (zI x3), some (zI (x4 + 1)), some (zI x5), some (zI x6), some (zI (hI h 7 0))] [zI (f_W_expressionsBehind (hI h 7 0)), zI x3] (sI h 6 x4.toNat (zi2b (hI h 7 0))) from zGo 2 28 103 _ _ _).trans ?_
      refine iteC (fun c5 => ?_) (fun c5 => ?_)
      · skip
        refine (show zY 28 112 [some (zR (some 5)), some (zI x1), some (zI x2), some (zI x3), some (zI (x4 + 1)), some (zI x5), some (zI x6), some (zI (hI h 7 0))] [zI (f_W_expressionsBehind (hI h 7 0)), zI x3] (sI h 6 x4.toNat (zi2b (hI h 7 0))) = gd (inR (0)) (gd (inR ((f_W_expressionsBehind (hI h 7 0)) - 0)) (gd (inR (x3 + ((f_W_expressionsBehind (hI h 7 0)) - 0))) (gd (false = zctor 143 ∧ zcs [zI x2] ≤ 8 ∧ zrm 28 (zrf 143 + 1) (8 + (zmaxl 143 + 11) + zrl 143) = true ∧ zcs [zI (hI h 7 0)] ≤ zmaxl 143) (zBack zY 28 119 122 [some (zR (some 5)), some (zI x1), some (zI x2), some (zI (x3 + ((f_W_expressionsBehind (hI h 7 0)) - 0))), some (zI (x4 + 1)), some (zI x5), some (zI x6), some (zI (hI h 7 0))] [zI x2] (zC 143 [zI (hI h 7 0)] (sI h 6 x4.toNat (zi2b (hI h 7 0)))))))) from zGo 7 28 112 _ _ _).trans ?_
        refine (gd_t (by decide) _).trans ?_
        refine gd_c Iff.rfl (fun c6 => ?_)
        refine gd_c Iff.rfl (fun c7 => ?_)
        refine (gd_t (⟨rfl, Nat.le_of_ble_eq_true rfl, rfl, Nat.le_of_ble_eq_true rfl⟩) _).trans ?_
        refine (congrArg (zBack zY 28 119 122 [some (zR (some 5)), some (zI x1), some (zI x2), some (zI (x3 + ((f_W_expressionsBehind (hI h 7 0)) - 0))), some (zI (x4 + 1)), some (zI x5), some (zI x6), some (zI (hI h 7 0))] [zI x2]) (e_W_conditionsBehind (h := (sI h 6 x4.toNat (zi2b (hI h 7 0)))))).trans ?_
        refine (show zY 28 122 [some (zR (some 5)), some (zI x1), some (zI x2), some (zI (x3 + ((f_W_expressionsBehind (hI h 7 0)) - 0))), some (zI (x4 + 1)), some (zI x5), some (zI x6), some (zI (hI h 7 0))] [zI (f_W_conditionsBehind (hI h 7 0)), zI x2] (sI h 6 x4.toNat (zi2b (hI h 7 0))) = if x6 = 0 then zY 28 131 [some (zR (some 5)), some (zI x1), some (zI x2), some (zI (x3 + ((f_W_expressionsBehind (hI h 7 0)) - 0))), some (zI (x4 + 1)), some (zI x5), some (zI x6), some (zI (hI h 7 0))] [zI (f_W_conditionsBehind (hI h 7 0)), zI x2] (sI h 6 x4.toNat (zi2b (hI h 7 0))) else zY 28 127 [some (zR (some 5)), some (zI x1), some (zI x2), some (zI (x3 + ((f_W_expressionsBehind (hI h 7 0)) - 0))), some (zI (x4 + 1)), some (zI x5), some (zI x6), some (zI (hI h 7 0))] [zI (f_W_conditionsBehind (hI h 7 0)), zI x2] (sI h 6 x4.toNat (zi2b (hI h 7 0))) from zGo 2 28 122 _ _ _).trans ?_
        refine ite_p c5 ?_
        refine (show zY 28 131 [some (zR (some 5)), some (zI x1), some (zI x2), some (zI (x3 + ((f_W_expressionsBehind (hI h 7 0)) - 0))), some (zI (x4 + 1)), some (zI x5), some (zI x6), some (zI (hI h 7 0))] [zI (f_W_conditionsBehind (hI h 7 0)), zI x2] (sI h 6 x4.toNat (zi2b (hI h 7 0))) = gd (inR (1)) (gd (inR ((f_W_conditionsBehind (hI h 7 0)) - 1)) (gd (inR (x2 + ((f_W_conditionsBehind (hI h 7 0)) - 1))) (gd (zob (sI h 6 x4.toNat (zi2b (hI h 7 0))) (some 5) 4) (zY 28 139 [some (zR (some 5)), some (zI x1), some (zI (x2 + ((f_W_conditionsBehind (hI h 7 0)) - 1))), some (zI (x3 + ((f_W_expressionsBehind (hI h 7 0)) - 0))), some (zI (x4 + 1)), some (zI x5), some (zI x6), some (zI (hI h 7 0))] [zR (hR h 5 2)] (sI h 6 x4.toNat (zi2b (hI h 7 0))))))) from zGo 6 28 131 _ _ _).trans ?_
        refine (gd_t (by decide) _).trans ?_
        refine gd_c Iff.rfl (fun c9 => ?_)
        refine gd_c Iff.rfl (fun c10 => ?_)
        refine (gd_t (⟨rfl, (PTC KC 5 _ rfl rfl), (PNC KC 5 rfl)⟩) _).trans ?_
        refine (congrArg (fun rz => zY 28 139 [some (zR (some 5)), some (zI x1), some (zI (x2 + ((f_W_conditionsBehind (hI h 7 0)) - 1))), some (zI (x3 + ((f_W_expressionsBehind (hI h 7 0)) - 0))), some (zI (x4 + 1)), some (zI x5), some (zI x6), some (zI (hI h 7 0))] (zR rz :: []) (sI h 6 x4.toNat (zi2b (hI h 7 0)))) (PRC KC 5 2 _ rfl)).trans ?_
        refine (show zY 28 139 [some (zR (some 5)), some (zI x1), some (zI (x2 + ((f_W_conditionsBehind (hI h 7 0)) - 1))), some (zI (x3 + ((f_W_expressionsBehind (hI h 7 0)) - 0))), some (zI (x4 + 1)), some (zI x5), some (zI x6), some (zI (hI h 7 0))] [zR (some 7)] (sI h 6 x4.toNat (zi2b (hI h 7 0))) = gd (false = zctor 91 ∧ zcs [] ≤ 8 ∧ zrm 28 (zrf 91 + 1) (8 + (zmaxl 91 + 11) + zrl 91) = true ∧ zcs [zR (some 7)] ≤ zmaxl 91) (gd (zob (sI h 6 x4.toNat (zi2b (hI h 7 0))) (some 7) 7) (zBack zY 28 139 142 [some (zR (some 5)), some (zI x1), some (zI (x2 + ((f_W_conditionsBehind (hI h 7 0)) - 1))), some (zI (x3 + ((f_W_expressionsBehind (hI h 7 0)) - 0))), some (zI (x4 + 1)), some (zI x5), some (zI x6), some (zI (hI h 7 0))] [] (zC 91 [zR (some 7)] (sI h 6 x4.toNat (zi2b (hI h 7 0)))))) from zGo 1 28 139 _ _ _).trans ?_
        refine (gd_t (⟨rfl, Nat.le_of_ble_eq_true rfl, rfl, Nat.le_of_ble_eq_true rfl⟩) _).trans ?_
        refine (gd_t (⟨rfl, (PTC KC 7 _ rfl rfl), (PNC KC 7 rfl)⟩) _).trans ?_
        rfl
      · skip
        refine (show zY 28 108 [some (zR (some 5)), some (zI x1), some (zI x2), some (zI x3), some (zI (x4 + 1)), some (zI x5), some (zI x6), some (zI (hI h 7 0))] [zI (f_W_expressionsBehind (hI h 7 0)), zI x3] (sI h 6 x4.toNat (zi2b (hI h 7 0))) = gd (inR (1)) (gd (inR ((f_W_expressionsBehind (hI h 7 0)) - 1)) (gd (inR (x3 + ((f_W_expressionsBehind (hI h 7 0)) - 1))) (gd (false = zctor 143 ∧ zcs [zI x2] ≤ 8 ∧ zrm 28 (zrf 143 + 1) (8 + (zmaxl 143 + 11) + zrl 143) = true ∧ zcs [zI (hI h 7 0)] ≤ zmaxl 143) (zBack zY 28 119 122 [some (zR (some 5)), some (zI x1), some (zI x2), some (zI (x3 + ((f_W_expressionsBehind (hI h 7 0)) - 1))), some (zI (x4 + 1)), some (zI x5), some (zI x6), some (zI (hI h 7 0))] [zI x2] (zC 143 [zI (hI h 7 0)] (sI h 6 x4.toNat (zi2b (hI h 7 0)))))))) from zGo 8 28 108 _ _ _).trans ?_
        refine (gd_t (by decide) _).trans ?_
        refine gd_c Iff.rfl (fun c11 => ?_)
        refine gd_c Iff.rfl (fun c12 => ?_)
        refine (gd_t (⟨rfl, Nat.le_of_ble_eq_true rfl, rfl, Nat.le_of_ble_eq_true rfl⟩) _).trans ?_
        refine (congrArg (zBack zY 28 119 122 [some (zR (some 5)), some (zI x1), some (zI x2), some (zI (x3 + ((f_W_expressionsBehind (hI h 7 0)) - 1))), some (zI (x4 + 1)), some (zI x5), some (zI x6), some (zI (hI h 7 0))] [zI x2]) (e_W_conditionsBehind (h := (sI h 6 x4.toNat (zi2b (hI h 7 0)))))).trans ?_
        refine (show zY 28 122 [some (zR (some 5)), some (zI x1), some (zI x2), some (zI (x3 + ((f_W_expressionsBehind (hI h 7 0)) - 1))), some (zI (x4 + 1)), some (zI x5), some (zI x6), some (zI (hI h 7 0))] [zI (f_W_conditionsBehind (hI h 7 0)), zI x2] (sI h 6 x4.toNat (zi2b (hI h 7 0))) = if x6 = 0 then zY 28 131 [some (zR (some 5)), some (zI x1), some (zI x2), some (zI (x3 + ((f_W_expressionsBehind (hI h 7 0)) - 1))), some (zI (x4 + 1)), some (zI x5), some (zI x6), some (zI (hI h 7 0))] [zI (f_W_conditionsBehind (hI h 7 0)), zI x2] (sI h 6 x4.toNat (zi2b (hI h 7 0))) else zY 28 127 [some (zR (some 5)), some (zI x1), some (zI x2), some (zI (x3 + ((f_W_expressionsBehind (hI h 7 0)) - 1))), some (zI (x4 + 1)), some (zI x5), some (zI x6), some (zI (hI h 7 0))] [zI (f_W_conditionsBehind (hI h 7 0)), zI x2] (sI h 6 x4.toNat (zi2b (hI h 7 0))) from zGo 2 28 122 _ _ _).trans ?_
        refine ite_n c5 ?_
        refine (show zY 28 127 [some (zR (some 5)), some (zI x1), some (zI x2), some (zI (x3 + ((f_W_expressionsBehind (hI h 7 0)) - 1))), some (zI (x4 + 1)), some (zI x5), some (zI x6), some (zI (hI h 7 0))] [zI (f_W_conditionsBehind (hI h 7 0)), zI x2] (sI h 6 x4.toNat (zi2b (hI h 7 0))) = gd (inR (0)) (gd (inR ((f_W_conditionsBehind (hI h 7 0)) - 0)) (gd (inR (x2 + ((f_W_conditionsBehind (hI h 7 0)) - 0))) (gd (zob (sI h 6 x4.toNat (zi2b (hI h 7 0))) (some 5) 4) (zY 28 139 [some (zR (some 5)), some (zI x1), some (zI (x2 + ((f_W_conditionsBehind (hI h 7 0)) - 0))), some (zI (x3 + ((f_W_expressionsBehind (hI h 7 0)) - 1))), some (zI (x4 + 1)), some (zI x5), some (zI x6), some (zI (hI h 7 0))] [zR (hR h 5 2)] (sI h 6 x4.toNat (zi2b (hI h 7 0))))))) from zGo 7 28 127 _ _ _).trans ?_
        refine (gd_t (by decide) _).trans ?_
        refine gd_c Iff.rfl (fun c14 => ?_)
        refine gd_c Iff.rfl (fun c15 => ?_)
        refine (gd_t (⟨rfl, (PTC KC 5 _ rfl rfl), (PNC KC 5 rfl)⟩) _).trans ?_
        refine (congrArg (fun rz => zY 28 139 [some (zR (some 5)), some (zI x1), some (zI (x2 + ((f_W_conditionsBehind (hI h 7 0)) - 0))), some (zI (x3 + ((f_W_expressionsBehind (hI h 7 0)) - 1))), some (zI (x4 + 1)), some (zI x5), some (zI x6), some (zI (hI h 7 0))] (zR rz :: []) (sI h 6 x4.toNat (zi2b (hI h 7 0)))) (PRC KC 5 2 _ rfl)).trans ?_
        refine (show zY 28 139 [some (zR (some 5)), some (zI x1), some (zI (x2 + ((f_W_conditionsBehind (hI h 7 0)) - 0))), some (zI (x3 + ((f_W_expressionsBehind (hI h 7 0)) - 1))), some (zI (x4 + 1)), some (zI x5), some (zI x6), some (zI (hI h 7 0))] [zR (some 7)] (sI h 6 x4.toNat (zi2b (hI h 7 0))) = gd (false = zctor 91 ∧ zcs [] ≤ 8 ∧ zrm 28 (zrf 91 + 1) (8 + (zmaxl 91 + 11) + zrl 91) = true ∧ zcs [zR (some 7)] ≤ zmaxl 91) (gd (zob (sI h 6 x4.toNat (zi2b (hI h 7 0))) (some 7) 7) (zBack zY 28 139 142 [some (zR (some 5)), some (zI x1), some (zI (x2 + ((f_W_conditionsBehind (hI h 7 0)) - 0))), some (zI (x3 + ((f_W_expressionsBehind (hI h 7 0)) - 1))), some (zI (x4 + 1)), some (zI x5), some (zI x6), some (zI (hI h 7 0))] [] (zC 91 [zR (some 7)] (sI h 6 x4.toNat (zi2b (hI h 7 0)))))) from zGo 1 28 139 _ _ _).trans ?_
        refine (gd_t (⟨rfl, Nat.le_of_ble_eq_true rfl, rfl, Nat.le_of_ble_eq_true rfl⟩) _).trans ?_
        refine (gd_t (⟨rfl, (PTC KC 7 _ rfl rfl), (PNC KC 7 rfl)⟩) _).trans ?_
        rfl
    · skip
      refine (show zY 28 142 [some (zR (some 5)), some (zI x1), some (zI x2), some (zI x3), some (zI x4), some (zI x5), some (zI x6), none] [] h = gd (inR (x5 + 1)) (gd (inR (1)) (zY 28 26 [some (zR (some 5)), some (zI x1), some (zI x2), some (zI x3), some (zI x4), some (zI (x5 + 1)), some (zI x6), none] [] h)) from zGo 2 28 142 _ _ _).trans ?_
      refine gd_c Iff.rfl (fun c16 => ?_)
      refine (gd_t (by decide) _).trans ?_
      rfl
theorem q_Pa_parseFormula_r142 {h : zH} {x1 : Int} {x2 : Int} {x3 : Int} {x4 : Int} {x5 : Int} {x6 : Int} {x7 : Int} (KC : KC h) : zBack zY 28 139 142 [some (zR (some 5)), some (zI x1), some (zI x2), some (zI x3), some (zI x4), some (zI x5), some (zI x6), some (zI x7)] [] (some (.inl (none), h)) =
    gd (-2147483648 ≤ x5 + 1 ∧ x5 + 1 < 2147483648) (
    zY 28 26 [some (zR (some 5)), some (zI x1), some (zI x2), some (zI x3), some (zI x4), some (zI (x5 + 1)), some (zI x6), some (zI x7)] [] h) := by
  refine (show zBack zY 28 139 142 [some (zR (some 5)), some (zI x1), some (zI x2), some (zI x3), some (zI x4), some (zI x5), some (zI x6), some (zI x7)] [] (some (.inl (none), h)) = gd (inR (x5 + 1)) (gd (inR (1)) (zY 28 26 [some (zR (some 5)), some (zI x1), some (zI x2), some (zI x3), some (zI x4), some (zI (x5 + 1)), some (zI x6), some (zI x7)] [] h)) from zGo 2 28 142 _ _ _).trans ?_
  refine gd_c Iff.rfl (fun c0 => ?_)
  refine (gd_t (by decide) _).trans ?_
  rfl
theorem q_Pa_parseFormula_r161 {h : zH} {x1 : Int} {x2 : Int} {x3 : Int} {x4 : Int} {x5 : Int} {fy0 : Nat} (KC : KC h) (hfy0 : FS h fy0) : zBack zY 28 158 161 [some (zR (some 5)), some (zI x1), some (zI x2), some (zI x3), some (zI x4), some (zI x5), none, none] [zR (some fy0)] (some (.inl (none), h)) =
    some (.inl (some (zR (some fy0))), h) := by
  refine (show zBack zY 28 158 161 [some (zR (some 5)), some (zI x1), some (zI x2), some (zI x3), some (zI x4), some (zI x5), none, none] [zR (some fy0)] (some (.inl (none), h)) = gd (([] : List zV).isEmpty = true ∧ zrk 28 = 5) (some (.inl (some (zR (some fy0))), h)) from zGo 1 28 161 _ _ _).trans ?_
  refine (gd_t (⟨rfl, rfl⟩) _).trans ?_
  rfl
theorem q_P_lastOfRow {h : zH} {p : Nat} {x1 : Int} (hp : PS h p) : zC 42 [zR (some p), zI x1] h =
    zY 42 7 [some (zR (some p)), some (zI x1), some (zI (-1)), some (zI x1), some (zI 0)] [] h := by
  refine (show zC 42 [zR (some p), zI x1] h = gd (inR (-1)) (gd (inR (0)) (zY 42 7 [some (zR (some p)), some (zI x1), some (zI (-1)), some (zI x1), some (zI 0)] [] h)) from zGo 6 42 0 _ _ _).trans ?_
  refine (gd_t (by decide) _).trans ?_
  refine (gd_t (by decide) _).trans ?_
  rfl
theorem q_P_lastOfRow_7 {h : zH} {p : Nat} {x1 : Int} {x2 : Int} {x3 : Int} {x4 : Int} (hp : PS h p) : zY 42 7 [some (zR (some p)), some (zI x1), some (zI x2), some (zI x3), some (zI x4)] [] h =
    if x4 < 24 then
      if x3 < 0 then
        some (.inl (some (zI x2)), h)
      else
        if x3 < 24 then
          gd (-2147483648 ≤ x4 + 1 ∧ x4 + 1 < 2147483648) (
          zY 42 7 [some (zR (some p)), some (zI x1), some (zI x3), some (zI (hI h (p + 5) x3.toNat)), some (zI (x4 + 1))] [] h)
        else
          some (.inl (some (zI x2)), h)
    else
      some (.inl (some (zI x2)), h) := by
  refine (show zY 42 7 [some (zR (some p)), some (zI x1), some (zI x2), some (zI x3), some (zI x4)] [] h = gd (-128 ≤ (24 : Int) ∧ (24 : Int) < 128) (if x4 < 24 then zY 42 14 [some (zR (some p)), some (zI x1), some (zI x2), some (zI x3), some (zI x4)] [] h else zY 42 39 [some (zR (some p)), some (zI x1), some (zI x2), some (zI x3), some (zI x4)] [] h) from zGo 3 42 7 _ _ _).trans ?_
  refine (gd_t (by decide) _).trans ?_
  refine iteC (fun c0 => ?_) (fun c0 => ?_)
  · skip
    refine (show zY 42 14 [some (zR (some p)), some (zI x1), some (zI x2), some (zI x3), some (zI x4)] [] h = if x3 < 0 then zY 42 39 [some (zR (some p)), some (zI x1), some (zI x2), some (zI x3), some (zI x4)] [] h else zY 42 18 [some (zR (some p)), some (zI x1), some (zI x2), some (zI x3), some (zI x4)] [] h from zGo 2 42 14 _ _ _).trans ?_
    refine iteC (fun c1 => ?_) (fun c1 => ?_)
    · skip
      refine (show zY 42 39 [some (zR (some p)), some (zI x1), some (zI x2), some (zI x3), some (zI x4)] [] h = gd (([] : List zV).isEmpty = true ∧ (zrk 42 = 1 ∨ zrk 42 = 6 ∧ ((x2 : Int) = 0 ∨ (x2 : Int) = 1))) (some (.inl (some (zI x2)), h)) from zGo 2 42 39 _ _ _).trans ?_
      refine (gd_t (⟨rfl, Or.inl rfl⟩) _).trans ?_
      rfl
    · skip
      refine (show zY 42 18 [some (zR (some p)), some (zI x1), some (zI x2), some (zI x3), some (zI x4)] [] h = gd (-128 ≤ (24 : Int) ∧ (24 : Int) < 128) (if x3 < 24 then zY 42 24 [some (zR (some p)), some (zI x1), some (zI x2), some (zI x3), some (zI x4)] [] h else zY 42 39 [some (zR (some p)), some (zI x1), some (zI x2), some (zI x3), some (zI x4)] [] h) from zGo 3 42 18 _ _ _).trans ?_
      refine (gd_t (by decide) _).trans ?_
      refine iteC (fun c2 => ?_) (fun c2 => ?_)
      · skip
        refine (show zY 42 24 [some (zR (some p)), some (zI x1), some (zI x2), some (zI x3), some (zI x4)] [] h = gd (zob h (some p) 5) (zY 42 30 [some (zR (some p)), some (zI x1), some (zI x3), some (zI x3), some (zI x4)] [zR (hR h p 7)] h) from zGo 4 42 24 _ _ _).trans ?_
        refine (gd_t (⟨rfl, hp.1, (PS_n hp)⟩) _).trans ?_
        refine (congrArg (fun rz => zY 42 30 [some (zR (some p)), some (zI x1), some (zI x3), some (zI x3), some (zI x4)] (zR rz :: []) h) (PS_r hp 7 rfl)).trans ?_
        refine (show zY 42 30 [some (zR (some p)), some (zI x1), some (zI x3), some (zI x3), some (zI x4)] [zR (some (p + 5))] h = gd (zok h (some (p + 5)) 22 x3) (gd (inR (x4 + 1)) (gd (inR (1)) (zY 42 7 [some (zR (some p)), some (zI x1), some (zI x3), some (zI (hI h (p + 5) x3.toNat)), some (zI (x4 + 1))] [] h))) from zGo 5 42 30 _ _ _).trans ?_
        refine (gd_t ((ci (PS_t hp 5 _ rfl rfl) (PS_l hp 5 rfl)).2 (by omega)) _).trans ?_
        refine gd_c Iff.rfl (fun c3 => ?_)
        refine (gd_t (by decide) _).trans ?_
        rfl
      · skip
        refine (show zY 42 39 [some (zR (some p)), some (zI x1), some (zI x2), some (zI x3), some (zI x4)] [] h = gd (([] : List zV).isEmpty = true ∧ (zrk 42 = 1 ∨ zrk 42 = 6 ∧ ((x2 : Int) = 0 ∨ (x2 : Int) = 1))) (some (.inl (some (zI x2)), h)) from zGo 2 42 39 _ _ _).trans ?_
        refine (gd_t (⟨rfl, Or.inl rfl⟩) _).trans ?_
        rfl
  · skip
    refine (show zY 42 39 [some (zR (some p)), some (zI x1), some (zI x2), some (zI x3), some (zI x4)] [] h = gd (([] : List zV).isEmpty = true ∧ (zrk 42 = 1 ∨ zrk 42 = 6 ∧ ((x2 : Int) = 0 ∨ (x2 : Int) = 1))) (some (.inl (some (zI x2)), h)) from zGo 2 42 39 _ _ _).trans ?_
    refine (gd_t (⟨rfl, Or.inl rfl⟩) _).trans ?_
    rfl
theorem q_P_takeNumber {h : zH} {p : Nat} {x1 : Int} {x2 : Int} (hp : PS h p) : zC 43 [zR (some p), zI x1, zI x2] h =
    if x1 = 2 then
      if (hI h p 1) < 0 then
        if x1 = 3 then
          gd (-2147483648 ≤ (hI h p 2) + 1 ∧ (hI h p 2) + 1 < 2147483648) (
          gd (-2147483648 ≤ (hI (sI h p 2 ((hI h p 2) + 1)) p 2) - 1 ∧ (hI (sI h p 2 ((hI h p 2) + 1)) p 2) - 1 < 2147483648) (
          some (.inl (some (zI ((hI (sI h p 2 ((hI h p 2) + 1)) p 2) - 1))), (sI h p 2 ((hI h p 2) + 1)))))
        else
          some (.inl (some (zI (-1))), h)
      else
        if (hI h p 1) < 24 then
          gd (-2147483648 ≤ (hI (sI h (p + 9) (hI h p 1).toNat x2) p 1) + 1 ∧ (hI (sI h (p + 9) (hI h p 1).toNat x2) p 1) + 1 < 2147483648) (
          gd (-2147483648 ≤ (hI (sI (sI h (p + 9) (hI h p 1).toNat x2) p 1 ((hI (sI h (p + 9) (hI h p 1).toNat x2) p 1) + 1)) p 1) - 1 ∧ (hI (sI (sI h (p + 9) (hI h p 1).toNat x2) p 1 ((hI (sI h (p + 9) (hI h p 1).toNat x2) p 1) + 1)) p 1) - 1 < 2147483648) (
          some (.inl (some (zI ((hI (sI (sI h (p + 9) (hI h p 1).toNat x2) p 1 ((hI (sI h (p + 9) (hI h p 1).toNat x2) p 1) + 1)) p 1) - 1))), (sI (sI h (p + 9) (hI h p 1).toNat x2) p 1 ((hI (sI h (p + 9) (hI h p 1).toNat x2) p 1) + 1)))))
        else
          if x1 = 3 then
            gd (-2147483648 ≤ (hI h p 2) + 1 ∧ (hI h p 2) + 1 < 2147483648) (
            gd (-2147483648 ≤ (hI (sI h p 2 ((hI h p 2) + 1)) p 2) - 1 ∧ (hI (sI h p 2 ((hI h p 2) + 1)) p 2) - 1 < 2147483648) (
            some (.inl (some (zI ((hI (sI h p 2 ((hI h p 2) + 1)) p 2) - 1))), (sI h p 2 ((hI h p 2) + 1)))))
          else
            some (.inl (some (zI (-1))), h)
    else
      if x1 = 3 then
        gd (-2147483648 ≤ (hI h p 2) + 1 ∧ (hI h p 2) + 1 < 2147483648) (
        gd (-2147483648 ≤ (hI (sI h p 2 ((hI h p 2) + 1)) p 2) - 1 ∧ (hI (sI h p 2 ((hI h p 2) + 1)) p 2) - 1 < 2147483648) (
        some (.inl (some (zI ((hI (sI h p 2 ((hI h p 2) + 1)) p 2) - 1))), (sI h p 2 ((hI h p 2) + 1)))))
      else
        some (.inl (some (zI (-1))), h) := by
  refine (show zC 43 [zR (some p), zI x1, zI x2] h = gd (inR (2)) (if x1 = 2 then zY 43 5 [some (zR (some p)), some (zI x1), some (zI x2)] [] h else zY 43 48 [some (zR (some p)), some (zI x1), some (zI x2)] [] h) from zGo 3 43 0 _ _ _).trans ?_
  refine (gd_t (by decide) _).trans ?_
  refine iteC (fun c0 => ?_) (fun c0 => ?_)
  · skip
    refine (show zY 43 5 [some (zR (some p)), some (zI x1), some (zI x2)] [] h = gd (zob h (some p) 5) (if (hI h p 1) < 0 then zY 43 48 [some (zR (some p)), some (zI x1), some (zI x2)] [] h else zY 43 12 [some (zR (some p)), some (zI x1), some (zI x2)] [] h) from zGo 3 43 5 _ _ _).trans ?_
    refine (gd_t (⟨rfl, hp.1, (PS_n hp)⟩) _).trans ?_
    refine iteC (fun c1 => ?_) (fun c1 => ?_)
    · skip
      refine (show zY 43 48 [some (zR (some p)), some (zI x1), some (zI x2)] [] h = gd (inR (3)) (if x1 = 3 then zY 43 53 [some (zR (some p)), some (zI x1), some (zI x2)] [] h else zY 43 70 [some (zR (some p)), some (zI x1), some (zI x2)] [] h) from zGo 3 43 48 _ _ _).trans ?_
      refine (gd_t (by decide) _).trans ?_
      refine iteC (fun c2 => ?_) (fun c2 => ?_)
      · skip
        refine (show zY 43 53 [some (zR (some p)), some (zI x1), some (zI x2)] [] h = gd (zob h (some p) 5) (gd (inR (1)) (gd (inR ((hI h p 2) + 1)) (gd (zob h (some p) 5) (gd (zob (sI h p 2 ((hI h p 2) + 1)) (some p) 5) (gd (inR (1)) (gd (inR ((hI (sI h p 2 ((hI h p 2) + 1)) p 2) - 1)) (gd (([] : List zV).isEmpty = true ∧ (zrk 43 = 1 ∨ zrk 43 = 6 ∧ ((((hI (sI h p 2 ((hI h p 2) + 1)) p 2) - 1) : Int) = 0 ∨ (((hI (sI h p 2 ((hI h p 2) + 1)) p 2) - 1) : Int) = 1))) (some (.inl (some (zI ((hI (sI h p 2 ((hI h p 2) + 1)) p 2) - 1))), (sI h p 2 ((hI h p 2) + 1))))))))))) from zGo 11 43 53 _ _ _).trans ?_
        refine (gd_t (⟨rfl, hp.1, (PS_n hp)⟩) _).trans ?_
        refine (gd_t (by decide) _).trans ?_
        refine gd_c Iff.rfl (fun c3 => ?_)
        refine (gd_t (⟨rfl, hp.1, (PS_n hp)⟩) _).trans ?_
        refine (gd_t (⟨rfl, hp.1, (PS_n hp)⟩) _).trans ?_
        refine (gd_t (by decide) _).trans ?_
        refine gd_c Iff.rfl (fun c4 => ?_)
        refine (gd_t (⟨rfl, Or.inl rfl⟩) _).trans ?_
        rfl
      · skip
        refine (show zY 43 70 [some (zR (some p)), some (zI x1), some (zI x2)] [] h = gd (inR (-1)) (gd (([] : List zV).isEmpty = true ∧ (zrk 43 = 1 ∨ zrk 43 = 6 ∧ (((-1) : Int) = 0 ∨ ((-1) : Int) = 1))) (some (.inl (some (zI (-1))), h))) from zGo 2 43 70 _ _ _).trans ?_
        refine (gd_t (by decide) _).trans ?_
        refine (gd_t (⟨rfl, Or.inl rfl⟩) _).trans ?_
        rfl
    · skip
      refine (show zY 43 12 [some (zR (some p)), some (zI x1), some (zI x2)] [] h = gd (zob h (some p) 5) (gd (-128 ≤ (24 : Int) ∧ (24 : Int) < 128) (if (hI h p 1) < 24 then zY 43 21 [some (zR (some p)), some (zI x1), some (zI x2)] [] h else zY 43 48 [some (zR (some p)), some (zI x1), some (zI x2)] [] h)) from zGo 4 43 12 _ _ _).trans ?_
      refine (gd_t (⟨rfl, hp.1, (PS_n hp)⟩) _).trans ?_
      refine (gd_t (by decide) _).trans ?_
      refine iteC (fun c5 => ?_) (fun c5 => ?_)
      · skip
        refine (show zY 43 21 [some (zR (some p)), some (zI x1), some (zI x2)] [] h = gd (zob h (some p) 5) (zY 43 25 [some (zR (some p)), some (zI x1), some (zI x2)] [zR (hR h p 11)] h) from zGo 2 43 21 _ _ _).trans ?_
        refine (gd_t (⟨rfl, hp.1, (PS_n hp)⟩) _).trans ?_
        refine (congrArg (fun rz => zY 43 25 [some (zR (some p)), some (zI x1), some (zI x2)] (zR rz :: []) h) (PS_r hp 11 rfl)).trans ?_
        refine (show zY 43 25 [some (zR (some p)), some (zI x1), some (zI x2)] [zR (some (p + 9))] h = gd (zob h (some p) 5) (gd (zokw h (some (p + 9)) 22 (hI h p 1)) (gd (zob (sI h (p + 9) (hI h p 1).toNat x2) (some p) 5) (gd (inR (1)) (gd (inR ((hI (sI h (p + 9) (hI h p 1).toNat x2) p 1) + 1)) (gd (zob (sI h (p + 9) (hI h p 1).toNat x2) (some p) 5) (gd (zob (sI (sI h (p + 9) (hI h p 1).toNat x2) p 1 ((hI (sI h (p + 9) (hI h p 1).toNat x2) p 1) + 1)) (some p) 5) (gd (inR (1)) (gd (inR ((hI (sI (sI h (p + 9) (hI h p 1).toNat x2) p 1 ((hI (sI h (p + 9) (hI h p 1).toNat x2) p 1) + 1)) p 1) - 1)) (gd (([] : List zV).isEmpty = true ∧ (zrk 43 = 1 ∨ zrk 43 = 6 ∧ ((((hI (sI (sI h (p + 9) (hI h p 1).toNat x2) p 1 ((hI (sI h (p + 9) (hI h p 1).toNat x2) p 1) + 1)) p 1) - 1) : Int) = 0 ∨ (((hI (sI (sI h (p + 9) (hI h p 1).toNat x2) p 1 ((hI (sI h (p + 9) (hI h p 1).toNat x2) p 1) + 1)) p 1) - 1) : Int) = 1))) (some (.inl (some (zI ((hI (sI (sI h (p + 9) (hI h p 1).toNat x2) p 1 ((hI (sI h (p + 9) (hI h p 1).toNat x2) p 1) + 1)) p 1) - 1))), (sI (sI h (p + 9) (hI h p 1).toNat x2) p 1 ((hI (sI h (p + 9) (hI h p 1).toNat x2) p 1) + 1))))))))))))) from zGo 15 43 25 _ _ _).trans ?_
        refine (gd_t (⟨rfl, hp.1, (PS_n hp)⟩) _).trans ?_
        refine (gd_t ((ciw (PS_t hp 9 _ rfl rfl) (PS_ni hp 9 rfl) (PS_l hp 9 rfl)).2 (by omega)) _).trans ?_
        refine (gd_t (⟨rfl, hp.1, (PS_n hp)⟩) _).trans ?_
        refine (gd_t (by decide) _).trans ?_
        refine gd_c Iff.rfl (fun c6 => ?_)
        refine (gd_t (⟨rfl, hp.1, (PS_n hp)⟩) _).trans ?_
        refine (gd_t (⟨rfl, hp.1, (PS_n hp)⟩) _).trans ?_
        refine (gd_t (by decide) _).trans ?_
        refine gd_c Iff.rfl (fun c7 => ?_)
        refine (gd_t (⟨rfl, Or.inl rfl⟩) _).trans ?_
        rfl
      · skip
        refine (show zY 43 48 [some (zR (some p)), some (zI x1), some (zI x2)] [] h = gd (inR (3)) (if x1 = 3 then zY 43 53 [some (zR (some p)), some (zI x1), some (zI x2)] [] h else zY 43 70 [some (zR (some p)), some (zI x1), some (zI x2)] [] h) from zGo 3 43 48 _ _ _).trans ?_
        refine (gd_t (by decide) _).trans ?_
        refine iteC (fun c8 => ?_) (fun c8 => ?_)
        · skip
          refine (show zY 43 53 [some (zR (some p)), some (zI x1), some (zI x2)] [] h = gd (zob h (some p) 5) (gd (inR (1)) (gd (inR ((hI h p 2) + 1)) (gd (zob h (some p) 5) (gd (zob (sI h p 2 ((hI h p 2) + 1)) (some p) 5) (gd (inR (1)) (gd (inR ((hI (sI h p 2 ((hI h p 2) + 1)) p 2) - 1)) (gd (([] : List zV).isEmpty = true ∧ (zrk 43 = 1 ∨ zrk 43 = 6 ∧ ((((hI (sI h p 2 ((hI h p 2) + 1)) p 2) - 1) : Int) = 0 ∨ (((hI (sI h p 2 ((hI h p 2) + 1)) p 2) - 1) : Int) = 1))) (some (.inl (some (zI ((hI (sI h p 2 ((hI h p 2) + 1)) p 2) - 1))), (sI h p 2 ((hI h p 2) + 1))))))))))) from zGo 11 43 53 _ _ _).trans ?_
          refine (gd_t (⟨rfl, hp.1, (PS_n hp)⟩) _).trans ?_
          refine (gd_t (by decide) _).trans ?_
          refine gd_c Iff.rfl (fun c9 => ?_)
          refine (gd_t (⟨rfl, hp.1, (PS_n hp)⟩) _).trans ?_
          refine (gd_t (⟨rfl, hp.1, (PS_n hp)⟩) _).trans ?_
          refine (gd_t (by decide) _).trans ?_
          refine gd_c Iff.rfl (fun c10 => ?_)
          refine (gd_t (⟨rfl, Or.inl rfl⟩) _).trans ?_
          rfl
        · skip
          refine (show zY 43 70 [some (zR (some p)), some (zI x1), some (zI x2)] [] h = gd (inR (-1)) (gd (([] : List zV).isEmpty = true ∧ (zrk 43 = 1 ∨ zrk 43 = 6 ∧ (((-1) : Int) = 0 ∨ ((-1) : Int) = 1))) (some (.inl (some (zI (-1))), h))) from zGo 2 43 70 _ _ _).trans ?_
          refine (gd_t (by decide) _).trans ?_
          refine (gd_t (⟨rfl, Or.inl rfl⟩) _).trans ?_
          rfl
  · skip
    refine (show zY 43 48 [some (zR (some p)), some (zI x1), some (zI x2)] [] h = gd (inR (3)) (if x1 = 3 then zY 43 53 [some (zR (some p)), some (zI x1), some (zI x2)] [] h else zY 43 70 [some (zR (some p)), some (zI x1), some (zI x2)] [] h) from zGo 3 43 48 _ _ _).trans ?_
    refine (gd_t (by decide) _).trans ?_
    refine iteC (fun c11 => ?_) (fun c11 => ?_)
    · skip
      refine (show zY 43 53 [some (zR (some p)), some (zI x1), some (zI x2)] [] h = gd (zob h (some p) 5) (gd (inR (1)) (gd (inR ((hI h p 2) + 1)) (gd (zob h (some p) 5) (gd (zob (sI h p 2 ((hI h p 2) + 1)) (some p) 5) (gd (inR (1)) (gd (inR ((hI (sI h p 2 ((hI h p 2) + 1)) p 2) - 1)) (gd (([] : List zV).isEmpty = true ∧ (zrk 43 = 1 ∨ zrk 43 = 6 ∧ ((((hI (sI h p 2 ((hI h p 2) + 1)) p 2) - 1) : Int) = 0 ∨ (((hI (sI h p 2 ((hI h p 2) + 1)) p 2) - 1) : Int) = 1))) (some (.inl (some (zI ((hI (sI h p 2 ((hI h p 2) + 1)) p 2) - 1))), (sI h p 2 ((hI h p 2) + 1))))))))))) from zGo 11 43 53 _ _ _).trans ?_
      refine (gd_t (⟨rfl, hp.1, (PS_n hp)⟩) _).trans ?_
      refine (gd_t (by decide) _).trans ?_
      refine gd_c Iff.rfl (fun c12 => ?_)
      refine (gd_t (⟨rfl, hp.1, (PS_n hp)⟩) _).trans ?_
      refine (gd_t (⟨rfl, hp.1, (PS_n hp)⟩) _).trans ?_
      refine (gd_t (by decide) _).trans ?_
      refine gd_c Iff.rfl (fun c13 => ?_)
      refine (gd_t (⟨rfl, Or.inl rfl⟩) _).trans ?_
      rfl
    · skip
      refine (show zY 43 70 [some (zR (some p)), some (zI x1), some (zI x2)] [] h = gd (inR (-1)) (gd (([] : List zV).isEmpty = true ∧ (zrk 43 = 1 ∨ zrk 43 = 6 ∧ (((-1) : Int) = 0 ∨ ((-1) : Int) = 1))) (some (.inl (some (zI (-1))), h))) from zGo 2 43 70 _ _ _).trans ?_
      refine (gd_t (by decide) _).trans ?_
      refine (gd_t (⟨rfl, Or.inl rfl⟩) _).trans ?_
      rfl
theorem q_P_add {h : zH} {p : Nat} {x1 : Int} {x2 : Int} {x3 : Int} (hp : PS h p) : zC 38 [zR (some p), zI x1, zI x2, zI x3] h =
    if (hI h p 0) < 0 then
      some (.inl (some (zI (-1))), h)
    else
      if (hI h p 0) < 24 then
        if x2 = (-1) then
          zBack zY 38 54 57 [some (zR (some p)), some (zI x1), some (zI x2), some (zI x3), some (zI (hI h p 0)), none] [] (zC 42 [zR (some p), zI (f_P_start h p)] h)
        else
          if x3 = 0 then
            zBack zY 38 54 57 [some (zR (some p)), some (zI x1), some (zI x2), some (zI x3), some (zI (hI h p 0)), none] [] (zC 42 [zR (some p), zI (f_P_firstOf h p x2)] h)
          else
            zBack zY 38 54 57 [some (zR (some p)), some (zI x1), some (zI x2), some (zI x3), some (zI (hI h p 0)), none] [] (zC 42 [zR (some p), zI (f_P_secondOf h p x2)] h)
      else
        some (.inl (some (zI (-1))), h) := by
  refine (show zC 38 [zR (some p), zI x1, zI x2, zI x3] h = gd (zob h (some p) 5) (if (hI h p 0) < 0 then zY 38 16 [some (zR (some p)), some (zI x1), some (zI x2), some (zI x3), none, none] [] h else zY 38 7 [some (zR (some p)), some (zI x1), some (zI x2), some (zI x3), none, none] [] h) from zGo 3 38 0 _ _ _).trans ?_
  refine (gd_t (⟨rfl, hp.1, (PS_n hp)⟩) _).trans ?_
  refine iteC (fun c0 => ?_) (fun c0 => ?_)
  · skip
    refine (show zY 38 16 [some (zR (some p)), some (zI x1), some (zI x2), some (zI x3), none, none] [] h = gd (inR (-1)) (gd (([] : List zV).isEmpty = true ∧ (zrk 38 = 1 ∨ zrk 38 = 6 ∧ (((-1) : Int) = 0 ∨ ((-1) : Int) = 1))) (some (.inl (some (zI (-1))), h))) from zGo 2 38 16 _ _ _).trans ?_
    refine (gd_t (by decide) _).trans ?_
    refine (gd_t (⟨rfl, Or.inl rfl⟩) _).trans ?_
    rfl
  · skip
    refine (show zY 38 7 [some (zR (some p)), some (zI x1), some (zI x2), some (zI x3), none, none] [] h = gd (zob h (some p) 5) (gd (-128 ≤ (24 : Int) ∧ (24 : Int) < 128) (if (hI h p 0) < 24 then zY 38 18 [some (zR (some p)), some (zI x1), some (zI x2), some (zI x3), none, none] [] h else zY 38 16 [some (zR (some p)), some (zI x1), some (zI x2), some (zI x3), none, none] [] h)) from zGo 4 38 7 _ _ _).trans ?_
    refine (gd_t (⟨rfl, hp.1, (PS_n hp)⟩) _).trans ?_
    refine (gd_t (by decide) _).trans ?_
    refine iteC (fun c1 => ?_) (fun c1 => ?_)
    · skip
      refine (show zY 38 18 [some (zR (some p)), some (zI x1), some (zI x2), some (zI x3), none, none] [] h = gd (zob h (some p) 5) (gd (inR (-1)) (if x2 = (-1) then zY 38 30 [some (zR (some p)), some (zI x1), some (zI x2), some (zI x3), some (zI (hI h p 0)), none] [zR (some p)] h else zY 38 37 [some (zR (some p)), some (zI x1), some (zI x2), some (zI x3), some (zI (hI h p 0)), none] [zR (some p)] h)) from zGo 7 38 18 _ _ _).trans ?_
      refine (gd_t (⟨rfl, hp.1, (PS_n hp)⟩) _).trans ?_
      refine (gd_t (by decide) _).trans ?_
      refine iteC (fun c2 => ?_) (fun c2 => ?_)
      · skip
        refine (show zY 38 30 [some (zR (some p)), some (zI x1), some (zI x2), some (zI x3), some (zI (hI h p 0)), none] [zR (some p)] h = gd (false = zctor 39 ∧ zcs [zR (some p)] ≤ 8 ∧ zrm 38 (zrf 39 + 1) (8 + (zmaxl 39 + 11) + zrl 39) = true ∧ zcs [zR (some p)] ≤ zmaxl 39) (gd (zob h (some p) 5) (zBack zY 38 31 34 [some (zR (some p)), some (zI x1), some (zI x2), some (zI x3), some (zI (hI h p 0)), none] [zR (some p)] (zC 39 [zR (some p)] h))) from zGo 2 38 30 _ _ _).trans ?_
        refine (gd_t (⟨rfl, Nat.le_of_ble_eq_true rfl, rfl, Nat.le_of_ble_eq_true rfl⟩) _).trans ?_
        refine (gd_t (⟨rfl, hp.1, (PS_n hp)⟩) _).trans ?_
        refine (congrArg (zBack zY 38 31 34 [some (zR (some p)), some (zI x1), some (zI x2), some (zI x3), some (zI (hI h p 0)), none] [zR (some p)]) (e_P_start hp)).trans ?_
        refine (show zY 38 34 [some (zR (some p)), some (zI x1), some (zI x2), some (zI x3), some (zI (hI h p 0)), none] [zI (f_P_start h p), zR (some p)] h = gd (false = zctor 42 ∧ zcs [] ≤ 8 ∧ zrm 38 (zrf 42 + 1) (8 + (zmaxl 42 + 11) + zrl 42) = true ∧ zcs [zR (some p), zI (f_P_start h p)] ≤ zmaxl 42) (gd (zob h (some p) 5) (zBack zY 38 54 57 [some (zR (some p)), some (zI x1), some (zI x2), some (zI x3), some (zI (hI h p 0)), none] [] (zC 42 [zR (some p), zI (f_P_start h p)] h))) from zGo 2 38 34 _ _ _).trans ?_
        refine (gd_t (⟨rfl, Nat.le_of_ble_eq_true rfl, rfl, Nat.le_of_ble_eq_true rfl⟩) _).trans ?_
        refine (gd_t (⟨rfl, hp.1, (PS_n hp)⟩) _).trans ?_
        rfl
      · skip
        refine (show zY 38 37 [some (zR (some p)), some (zI x1), some (zI x2), some (zI x3), some (zI (hI h p 0)), none] [zR (some p)] h = if x3 = 0 then zY 38 49 [some (zR (some p)), some (zI x1), some (zI x2), some (zI x3), some (zI (hI h p 0)), none] [zR (some p)] h else zY 38 41 [some (zR (some p)), some (zI x1), some (zI x2), some (zI x3), some (zI (hI h p 0)), none] [zR (some p)] h from zGo 2 38 37 _ _ _).trans ?_
        refine iteC (fun c3 => ?_) (fun c3 => ?_)
        · skip
          refine (show zY 38 49 [some (zR (some p)), some (zI x1), some (zI x2), some (zI x3), some (zI (hI h p 0)), none] [zR (some p)] h = gd (false = zctor 41 ∧ zcs [zR (some p)] ≤ 8 ∧ zrm 38 (zrf 41 + 1) (8 + (zmaxl 41 + 11) + zrl 41) = true ∧ zcs [zR (some p), zI x2] ≤ zmaxl 41) (gd (zob h (some p) 5) (zBack zY 38 51 54 [some (zR (some p)), some (zI x1), some (zI x2), some (zI x3), some (zI (hI h p 0)), none] [zR (some p)] (zC 41 [zR (some p), zI x2] h))) from zGo 3 38 49 _ _ _).trans ?_
          refine (gd_t (⟨rfl, Nat.le_of_ble_eq_true rfl, rfl, Nat.le_of_ble_eq_true rfl⟩) _).trans ?_
          refine (gd_t (⟨rfl, hp.1, (PS_n hp)⟩) _).trans ?_
          refine (congrArg (zBack zY 38 51 54 [some (zR (some p)), some (zI x1), some (zI x2), some (zI x3), some (zI (hI h p 0)), none] [zR (some p)]) (e_P_firstOf hp)).trans ?_
          refine (show zY 38 54 [some (zR (some p)), some (zI x1), some (zI x2), some (zI x3), some (zI (hI h p 0)), none] [zI (f_P_firstOf h p x2), zR (some p)] h = gd (false = zctor 42 ∧ zcs [] ≤ 8 ∧ zrm 38 (zrf 42 + 1) (8 + (zmaxl 42 + 11) + zrl 42) = true ∧ zcs [zR (some p), zI (f_P_firstOf h p x2)] ≤ zmaxl 42) (gd (zob h (some p) 5) (zBack zY 38 54 57 [some (zR (some p)), some (zI x1), some (zI x2), some (zI x3), some (zI (hI h p 0)), none] [] (zC 42 [zR (some p), zI (f_P_firstOf h p x2)] h))) from zGo 1 38 54 _ _ _).trans ?_
          refine (gd_t (⟨rfl, Nat.le_of_ble_eq_true rfl, rfl, Nat.le_of_ble_eq_true rfl⟩) _).trans ?_
          refine (gd_t (⟨rfl, hp.1, (PS_n hp)⟩) _).trans ?_
          rfl
        · skip
          refine (show zY 38 41 [some (zR (some p)), some (zI x1), some (zI x2), some (zI x3), some (zI (hI h p 0)), none] [zR (some p)] h = gd (false = zctor 40 ∧ zcs [zR (some p)] ≤ 8 ∧ zrm 38 (zrf 40 + 1) (8 + (zmaxl 40 + 11) + zrl 40) = true ∧ zcs [zR (some p), zI x2] ≤ zmaxl 40) (gd (zob h (some p) 5) (zBack zY 38 43 46 [some (zR (some p)), some (zI x1), some (zI x2), some (zI x3), some (zI (hI h p 0)), none] [zR (some p)] (zC 40 [zR (some p), zI x2] h))) from zGo 3 38 41 _ _ _).trans ?_
          refine (gd_t (⟨rfl, Nat.le_of_ble_eq_true rfl, rfl, Nat.le_of_ble_eq_true rfl⟩) _).trans ?_
          refine (gd_t (⟨rfl, hp.1, (PS_n hp)⟩) _).trans ?_
          refine (congrArg (zBack zY 38 43 46 [some (zR (some p)), some (zI x1), some (zI x2), some (zI x3), some (zI (hI h p 0)), none] [zR (some p)]) (e_P_secondOf hp)).trans ?_
          refine (show zY 38 46 [some (zR (some p)), some (zI x1), some (zI x2), some (zI x3), some (zI (hI h p 0)), none] [zI (f_P_secondOf h p x2), zR (some p)] h = gd (false = zctor 42 ∧ zcs [] ≤ 8 ∧ zrm 38 (zrf 42 + 1) (8 + (zmaxl 42 + 11) + zrl 42) = true ∧ zcs [zR (some p), zI (f_P_secondOf h p x2)] ≤ zmaxl 42) (gd (zob h (some p) 5) (zBack zY 38 54 57 [some (zR (some p)), some (zI x1), some (zI x2), some (zI x3), some (zI (hI h p 0)), none] [] (zC 42 [zR (some p), zI (f_P_secondOf h p x2)] h))) from zGo 2 38 46 _ _ _).trans ?_
          refine (gd_t (⟨rfl, Nat.le_of_ble_eq_true rfl, rfl, Nat.le_of_ble_eq_true rfl⟩) _).trans ?_
          refine (gd_t (⟨rfl, hp.1, (PS_n hp)⟩) _).trans ?_
          rfl
    · skip
      refine (show zY 38 16 [some (zR (some p)), some (zI x1), some (zI x2), some (zI x3), none, none] [] h = gd (inR (-1)) (gd (([] : List zV).isEmpty = true ∧ (zrk 38 = 1 ∨ zrk 38 = 6 ∧ (((-1) : Int) = 0 ∨ ((-1) : Int) = 1))) (some (.inl (some (zI (-1))), h))) from zGo 2 38 16 _ _ _).trans ?_
      refine (gd_t (by decide) _).trans ?_
      refine (gd_t (⟨rfl, Or.inl rfl⟩) _).trans ?_
      rfl
theorem q_P_add_r57 {h : zH} {p : Nat} {x1 : Int} {x2 : Int} {x3 : Int} {x4 : Int} {y : Int} (hp : PS h p) : zBack zY 38 54 57 [some (zR (some p)), some (zI x1), some (zI x2), some (zI x3), some (zI x4), none] [] (some (.inl (some (zI y)), h)) =
    if b_P_has h p y then
      gd (0 ≤ x4 ∧ x4 < 24) (
      zBack zY 38 153 156 [some (zR (some p)), some (zI x1), some (zI x2), some (zI x3), some (zI x4), some (zI y)] [zI x4, zR (some (p + 4))] (zC 43 [zR (some p), zI x1, zI x4] (sI (sI (sI (sI h (p + 5) y.toNat x4) (p + 1) x4.toNat x1) (p + 2) x4.toNat (-1)) (p + 3) x4.toNat x2)))
    else
      if b_P_has h p x2 then
        if x3 = 0 then
          gd (0 ≤ x4 ∧ x4 < 24) (
          zBack zY 38 153 156 [some (zR (some p)), some (zI x1), some (zI x2), some (zI x3), some (zI x4), some (zI y)] [zI x4, zR (some (p + 4))] (zC 43 [zR (some p), zI x1, zI x4] (sI (sI (sI (sI h (p + 6) x2.toNat x4) (p + 1) x4.toNat x1) (p + 2) x4.toNat (-1)) (p + 3) x4.toNat x2)))
        else
          gd (0 ≤ x4 ∧ x4 < 24) (
          zBack zY 38 153 156 [some (zR (some p)), some (zI x1), some (zI x2), some (zI x3), some (zI x4), some (zI y)] [zI x4, zR (some (p + 4))] (zC 43 [zR (some p), zI x1, zI x4] (sI (sI (sI (sI h (p + 7) x2.toNat x4) (p + 1) x4.toNat x1) (p + 2) x4.toNat (-1)) (p + 3) x4.toNat x2)))
      else
        gd (0 ≤ x4 ∧ x4 < 24) (
        zBack zY 38 153 156 [some (zR (some p)), some (zI x1), some (zI x2), some (zI x3), some (zI x4), some (zI y)] [zI x4, zR (some (p + 4))] (zC 43 [zR (some p), zI x1, zI x4] (sI (sI (sI h (p + 1) x4.toNat x1) (p + 2) x4.toNat (-1)) (p + 3) x4.toNat x2))) := by
  refine (show zBack zY 38 54 57 [some (zR (some p)), some (zI x1), some (zI x2), some (zI x3), some (zI x4), none] [] (some (.inl (some (zI y)), h)) = gd (false = zctor 37 ∧ zcs [] ≤ 8 ∧ zrm 38 (zrf 37 + 1) (8 + (zmaxl 37 + 11) + zrl 37) = true ∧ zcs [zR (some p), zI y] ≤ zmaxl 37) (gd (zob h (some p) 5) (zBack zY 38 62 65 [some (zR (some p)), some (zI x1), some (zI x2), some (zI x3), some (zI x4), some (zI y)] [] (zC 37 [zR (some p), zI y] h))) from zGo 4 38 57 _ _ _).trans ?_
  refine (gd_t (⟨rfl, Nat.le_of_ble_eq_true rfl, rfl, Nat.le_of_ble_eq_true rfl⟩) _).trans ?_
  refine (gd_t (⟨rfl, hp.1, (PS_n hp)⟩) _).trans ?_
  refine (congrArg (zBack zY 38 62 65 [some (zR (some p)), some (zI x1), some (zI x2), some (zI x3), some (zI x4), some (zI y)] []) (e_P_has hp)).trans ?_
  refine (show zY 38 65 [some (zR (some p)), some (zI x1), some (zI x2), some (zI x3), some (zI x4), some (zI y)] [zI (if b_P_has h p y then (1 : Int) else 0)] h = if (if b_P_has h p y then (1 : Int) else 0) = 0 then zY 38 80 [some (zR (some p)), some (zI x1), some (zI x2), some (zI x3), some (zI x4), some (zI y)] [] h else zY 38 68 [some (zR (some p)), some (zI x1), some (zI x2), some (zI x3), some (zI x4), some (zI y)] [] h from zGo 1 38 65 _ _ _).trans ?_
  refine iteB (fun c0 => ?_) (fun c0 => ?_)
  · skip
    refine (show zY 38 68 [some (zR (some p)), some (zI x1), some (zI x2), some (zI x3), some (zI x4), some (zI y)] [] h = gd (zob h (some p) 5) (zY 38 72 [some (zR (some p)), some (zI x1), some (zI x2), some (zI x3), some (zI x4), some (zI y)] [zR (hR h p 7)] h) from zGo 2 38 68 _ _ _).trans ?_
    refine (gd_t (⟨rfl, hp.1, (PS_n hp)⟩) _).trans ?_
    refine (congrArg (fun rz => zY 38 72 [some (zR (some p)), some (zI x1), some (zI x2), some (zI x3), some (zI x4), some (zI y)] (zR rz :: []) h) (PS_r hp 7 rfl)).trans ?_
    refine (show zY 38 72 [some (zR (some p)), some (zI x1), some (zI x2), some (zI x3), some (zI x4), some (zI y)] [zR (some (p + 5))] h = gd (zokw h (some (p + 5)) 22 y) (gd (zob (sI h (p + 5) y.toNat x4) (some p) 5) (zY 38 123 [some (zR (some p)), some (zI x1), some (zI x2), some (zI x3), some (zI x4), some (zI y)] [zR (hR h p 3)] (sI h (p + 5) y.toNat x4))) from zGo 6 38 72 _ _ _).trans ?_
    refine (gd_t ((ciw (PS_t hp 5 _ rfl rfl) (PS_ni hp 5 rfl) (PS_l hp 5 rfl)).2 (by (try simp only [b_P_has] at *); omega)) _).trans ?_
    refine (gd_t (⟨rfl, hp.1, (PS_n hp)⟩) _).trans ?_
    refine (congrArg (fun rz => zY 38 123 [some (zR (some p)), some (zI x1), some (zI x2), some (zI x3), some (zI x4), some (zI y)] (zR rz :: []) (sI h (p + 5) y.toNat x4)) (PS_r hp 3 rfl)).trans ?_
    refine (show zY 38 123 [some (zR (some p)), some (zI x1), some (zI x2), some (zI x3), some (zI x4), some (zI y)] [zR (some (p + 1))] (sI h (p + 5) y.toNat x4) = gd (zokw (sI h (p + 5) y.toNat x4) (some (p + 1)) 22 x4) (gd (zob (sI (sI h (p + 5) y.toNat x4) (p + 1) x4.toNat x1) (some p) 5) (zY 38 131 [some (zR (some p)), some (zI x1), some (zI x2), some (zI x3), some (zI x4), some (zI y)] [zR (hR h p 4)] (sI (sI h (p + 5) y.toNat x4) (p + 1) x4.toNat x1))) from zGo 5 38 123 _ _ _).trans ?_
    refine gd_c (ciw (PS_t hp 1 _ rfl rfl) (PS_ni hp 1 rfl) (PS_l hp 1 rfl)) (fun c1 => ?_)
    refine (gd_t (⟨rfl, hp.1, (PS_n hp)⟩) _).trans ?_
    refine (congrArg (fun rz => zY 38 131 [some (zR (some p)), some (zI x1), some (zI x2), some (zI x3), some (zI x4), some (zI y)] (zR rz :: []) (sI (sI h (p + 5) y.toNat x4) (p + 1) x4.toNat x1)) (PS_r hp 4 rfl)).trans ?_
    refine (show zY 38 131 [some (zR (some p)), some (zI x1), some (zI x2), some (zI x3), some (zI x4), some (zI y)] [zR (some (p + 2))] (sI (sI h (p + 5) y.toNat x4) (p + 1) x4.toNat x1) = gd (inR (-1)) (gd (zokw (sI (sI h (p + 5) y.toNat x4) (p + 1) x4.toNat x1) (some (p + 2)) 22 x4) (gd (zob (sI (sI (sI h (p + 5) y.toNat x4) (p + 1) x4.toNat x1) (p + 2) x4.toNat (-1)) (some p) 5) (zY 38 139 [some (zR (some p)), some (zI x1), some (zI x2), some (zI x3), some (zI x4), some (zI y)] [zR (hR h p 5)] (sI (sI (sI h (p + 5) y.toNat x4) (p + 1) x4.toNat x1) (p + 2) x4.toNat (-1))))) from zGo 5 38 131 _ _ _).trans ?_
    refine (gd_t (by decide) _).trans ?_
    refine (gd_t ((ciw (PS_t hp 2 _ rfl rfl) (PS_ni hp 2 rfl) (PS_l hp 2 rfl)).2 (by (try simp only [b_P_has] at *); omega)) _).trans ?_
    refine (gd_t (⟨rfl, hp.1, (PS_n hp)⟩) _).trans ?_
    refine (congrArg (fun rz => zY 38 139 [some (zR (some p)), some (zI x1), some (zI x2), some (zI x3), some (zI x4), some (zI y)] (zR rz :: []) (sI (sI (sI h (p + 5) y.toNat x4) (p + 1) x4.toNat x1) (p + 2) x4.toNat (-1))) (PS_r hp 5 rfl)).trans ?_
    refine (show zY 38 139 [some (zR (some p)), some (zI x1), some (zI x2), some (zI x3), some (zI x4), some (zI y)] [zR (some (p + 3))] (sI (sI (sI h (p + 5) y.toNat x4) (p + 1) x4.toNat x1) (p + 2) x4.toNat (-1)) = gd (zokw (sI (sI (sI h (p + 5) y.toNat x4) (p + 1) x4.toNat x1) (p + 2) x4.toNat (-1)) (some (p + 3)) 22 x4) (gd (zob (sI (sI (sI (sI h (p + 5) y.toNat x4) (p + 1) x4.toNat x1) (p + 2) x4.toNat (-1)) (p + 3) x4.toNat x2) (some p) 5) (zY 38 147 [some (zR (some p)), some (zI x1), some (zI x2), some (zI x3), some (zI x4), some (zI y)] [zR (hR h p 6)] (sI (sI (sI (sI h (p + 5) y.toNat x4) (p + 1) x4.toNat x1) (p + 2) x4.toNat (-1)) (p + 3) x4.toNat x2))) from zGo 5 38 139 _ _ _).trans ?_
    refine (gd_t ((ciw (PS_t hp 3 _ rfl rfl) (PS_ni hp 3 rfl) (PS_l hp 3 rfl)).2 (by (try simp only [b_P_has] at *); omega)) _).trans ?_
    refine (gd_t (⟨rfl, hp.1, (PS_n hp)⟩) _).trans ?_
    refine (congrArg (fun rz => zY 38 147 [some (zR (some p)), some (zI x1), some (zI x2), some (zI x3), some (zI x4), some (zI y)] (zR rz :: []) (sI (sI (sI (sI h (p + 5) y.toNat x4) (p + 1) x4.toNat x1) (p + 2) x4.toNat (-1)) (p + 3) x4.toNat x2)) (PS_r hp 6 rfl)).trans ?_
    refine (show zY 38 147 [some (zR (some p)), some (zI x1), some (zI x2), some (zI x3), some (zI x4), some (zI y)] [zR (some (p + 4))] (sI (sI (sI (sI h (p + 5) y.toNat x4) (p + 1) x4.toNat x1) (p + 2) x4.toNat (-1)) (p + 3) x4.toNat x2) = gd (false = zctor 43 ∧ zcs [zI x4, zR (some (p + 4))] ≤ 8 ∧ zrm 38 (zrf 43 + 1) (8 + (zmaxl 43 + 11) + zrl 43) = true ∧ zcs [zR (some p), zI x1, zI x4] ≤ zmaxl 43) (gd (zob (sI (sI (sI (sI h (p + 5) y.toNat x4) (p + 1) x4.toNat x1) (p + 2) x4.toNat (-1)) (p + 3) x4.toNat x2) (some p) 5) (zBack zY 38 153 156 [some (zR (some p)), some (zI x1), some (zI x2), some (zI x3), some (zI x4), some (zI y)] [zI x4, zR (some (p + 4))] (zC 43 [zR (some p), zI x1, zI x4] (sI (sI (sI (sI h (p + 5) y.toNat x4) (p + 1) x4.toNat x1) (p + 2) x4.toNat (-1)) (p + 3) x4.toNat x2)))) from zGo 5 38 147 _ _ _).trans ?_
    refine (gd_t (⟨rfl, Nat.le_of_ble_eq_true rfl, rfl, Nat.le_of_ble_eq_true rfl⟩) _).trans ?_
    refine (gd_t (⟨rfl, hp.1, (PS_n hp)⟩) _).trans ?_
    rfl
  · skip
    refine (show zY 38 80 [some (zR (some p)), some (zI x1), some (zI x2), some (zI x3), some (zI x4), some (zI y)] [] h = gd (false = zctor 37 ∧ zcs [] ≤ 8 ∧ zrm 38 (zrf 37 + 1) (8 + (zmaxl 37 + 11) + zrl 37) = true ∧ zcs [zR (some p), zI x2] ≤ zmaxl 37) (gd (zob h (some p) 5) (zBack zY 38 82 85 [some (zR (some p)), some (zI x1), some (zI x2), some (zI x3), some (zI x4), some (zI y)] [] (zC 37 [zR (some p), zI x2] h))) from zGo 3 38 80 _ _ _).trans ?_
    refine (gd_t (⟨rfl, Nat.le_of_ble_eq_true rfl, rfl, Nat.le_of_ble_eq_true rfl⟩) _).trans ?_
    refine (gd_t (⟨rfl, hp.1, (PS_n hp)⟩) _).trans ?_
    refine (congrArg (zBack zY 38 82 85 [some (zR (some p)), some (zI x1), some (zI x2), some (zI x3), some (zI x4), some (zI y)] []) (e_P_has hp)).trans ?_
    refine (show zY 38 85 [some (zR (some p)), some (zI x1), some (zI x2), some (zI x3), some (zI x4), some (zI y)] [zI (if b_P_has h p x2 then (1 : Int) else 0)] h = if (if b_P_has h p x2 then (1 : Int) else 0) = 0 then zY 38 103 [some (zR (some p)), some (zI x1), some (zI x2), some (zI x3), some (zI x4), some (zI y)] [] h else zY 38 88 [some (zR (some p)), some (zI x1), some (zI x2), some (zI x3), some (zI x4), some (zI y)] [] h from zGo 1 38 85 _ _ _).trans ?_
    refine iteB (fun c2 => ?_) (fun c2 => ?_)
    · skip
      refine (show zY 38 88 [some (zR (some p)), some (zI x1), some (zI x2), some (zI x3), some (zI x4), some (zI y)] [] h = if x3 = 0 then zY 38 103 [some (zR (some p)), some (zI x1), some (zI x2), some (zI x3), some (zI x4), some (zI y)] [] h else zY 38 92 [some (zR (some p)), some (zI x1), some (zI x2), some (zI x3), some (zI x4), some (zI y)] [] h from zGo 2 38 88 _ _ _).trans ?_
      refine iteC (fun c3 => ?_) (fun c3 => ?_)
      · skip
        refine (show zY 38 103 [some (zR (some p)), some (zI x1), some (zI x2), some (zI x3), some (zI x4), some (zI y)] [] h = gd (false = zctor 37 ∧ zcs [] ≤ 8 ∧ zrm 38 (zrf 37 + 1) (8 + (zmaxl 37 + 11) + zrl 37) = true ∧ zcs [zR (some p), zI x2] ≤ zmaxl 37) (gd (zob h (some p) 5) (zBack zY 38 105 108 [some (zR (some p)), some (zI x1), some (zI x2), some (zI x3), some (zI x4), some (zI y)] [] (zC 37 [zR (some p), zI x2] h))) from zGo 3 38 103 _ _ _).trans ?_
        refine (gd_t (⟨rfl, Nat.le_of_ble_eq_true rfl, rfl, Nat.le_of_ble_eq_true rfl⟩) _).trans ?_
        refine (gd_t (⟨rfl, hp.1, (PS_n hp)⟩) _).trans ?_
        refine (congrArg (zBack zY 38 105 108 [some (zR (some p)), some (zI x1), some (zI x2), some (zI x3), some (zI x4), some (zI y)] []) (e_P_has hp)).trans ?_
        refine (show zY 38 108 [some (zR (some p)), some (zI x1), some (zI x2), some (zI x3), some (zI x4), some (zI y)] [zI (if b_P_has h p x2 then (1 : Int) else 0)] h = if (if b_P_has h p x2 then (1 : Int) else 0) = 0 then zY 38 119 [some (zR (some p)), some (zI x1), some (zI x2), some (zI x3), some (zI x4), some (zI y)] [] h else zY 38 111 [some (zR (some p)), some (zI x1), some (zI x2), some (zI x3), some (zI x4), some (zI y)] [] h from zGo 1 38 108 _ _ _).trans ?_
        refine iteB_p c2 ?_
        refine (show zY 38 111 [some (zR (some p)), some (zI x1), some (zI x2), some (zI x3), some (zI x4), some (zI y)] [] h = gd (zob h (some p) 5) (zY 38 115 [some (zR (some p)), some (zI x1), some (zI x2), some (zI x3), some (zI x4), some (zI y)] [zR (hR h p 8)] h) from zGo 2 38 111 _ _ _).trans ?_
        refine (gd_t (⟨rfl, hp.1, (PS_n hp)⟩) _).trans ?_
        refine (congrArg (fun rz => zY 38 115 [some (zR (some p)), some (zI x1), some (zI x2), some (zI x3), some (zI x4), some (zI y)] (zR rz :: []) h) (PS_r hp 8 rfl)).trans ?_
        refine (show zY 38 115 [some (zR (some p)), some (zI x1), some (zI x2), some (zI x3), some (zI x4), some (zI y)] [zR (some (p + 6))] h = gd (zokw h (some (p + 6)) 22 x2) (gd (zob (sI h (p + 6) x2.toNat x4) (some p) 5) (zY 38 123 [some (zR (some p)), some (zI x1), some (zI x2), some (zI x3), some (zI x4), some (zI y)] [zR (hR h p 3)] (sI h (p + 6) x2.toNat x4))) from zGo 5 38 115 _ _ _).trans ?_
        refine (gd_t ((ciw (PS_t hp 6 _ rfl rfl) (PS_ni hp 6 rfl) (PS_l hp 6 rfl)).2 (by (try simp only [b_P_has] at *); omega)) _).trans ?_
        refine (gd_t (⟨rfl, hp.1, (PS_n hp)⟩) _).trans ?_
        refine (congrArg (fun rz => zY 38 123 [some (zR (some p)), some (zI x1), some (zI x2), some (zI x3), some (zI x4), some (zI y)] (zR rz :: []) (sI h (p + 6) x2.toNat x4)) (PS_r hp 3 rfl)).trans ?_
        refine (show zY 38 123 [some (zR (some p)), some (zI x1), some (zI x2), some (zI x3), some (zI x4), some (zI y)] [zR (some (p + 1))] (sI h (p + 6) x2.toNat x4) = gd (zokw (sI h (p + 6) x2.toNat x4) (some (p + 1)) 22 x4) (gd (zob (sI (sI h (p + 6) x2.toNat x4) (p + 1) x4.toNat x1) (some p) 5) (zY 38 131 [some (zR (some p)), some (zI x1), some (zI x2), some (zI x3), some (zI x4), some (zI y)] [zR (hR h p 4)] (sI (sI h (p + 6) x2.toNat x4) (p + 1) x4.toNat x1))) from zGo 5 38 123 _ _ _).trans ?_
        refine gd_c (ciw (PS_t hp 1 _ rfl rfl) (PS_ni hp 1 rfl) (PS_l hp 1 rfl)) (fun c5 => ?_)
        refine (gd_t (⟨rfl, hp.1, (PS_n hp)⟩) _).trans ?_
        refine (congrArg (fun rz => zY 38 131 [some (zR (some p)), some (zI x1), some (zI x2), some (zI x3), some (zI x4), some (zI y)] (zR rz :: []) (sI (sI h (p + 6) x2.toNat x4) (p + 1) x4.toNat x1)) (PS_r hp 4 rfl)).trans ?_
        refine (show zY 38 131 [some (zR (some p)), some (zI x1), some (zI x2), some (zI x3), some (zI x4), some (zI y)] [zR (some (p + 2))] (sI (sI h (p + 6) x2.toNat x4) (p + 1) x4.toNat x1) = gd (inR (-1)) (gd (zokw (sI (sI h (p + 6) x2.toNat x4) (p + 1) x4.toNat x1) (some (p + 2)) 22 x4) (gd (zob (sI (sI (sI h (p + 6) x2.toNat x4) (p + 1) x4.toNat x1) (p + 2) x4.toNat (-1)) (some p) 5) (zY 38 139 [some (zR (some p)), some (zI x1), some (zI x2), some (zI x3), some (zI x4), some (zI y)] [zR (hR h p 5)] (sI (sI (sI h (p + 6) x2.toNat x4) (p + 1) x4.toNat x1) (p + 2) x4.toNat (-1))))) from zGo 5 38 131 _ _ _).trans ?_
        refine (gd_t (by decide) _).trans ?_
        refine (gd_t ((ciw (PS_t hp 2 _ rfl rfl) (PS_ni hp 2 rfl) (PS_l hp 2 rfl)).2 (by (try simp only [b_P_has] at *); omega)) _).trans ?_
        refine (gd_t (⟨rfl, hp.1, (PS_n hp)⟩) _).trans ?_
        refine (congrArg (fun rz => zY 38 139 [some (zR (some p)), some (zI x1), some (zI x2), some (zI x3), some (zI x4), some (zI y)] (zR rz :: []) (sI (sI (sI h (p + 6) x2.toNat x4) (p + 1) x4.toNat x1) (p + 2) x4.toNat (-1))) (PS_r hp 5 rfl)).trans ?_
        refine (show zY 38 139 [some (zR (some p)), some (zI x1), some (zI x2), some (zI x3), some (zI x4), some (zI y)] [zR (some (p + 3))] (sI (sI (sI h (p + 6) x2.toNat x4) (p + 1) x4.toNat x1) (p + 2) x4.toNat (-1)) = gd (zokw (sI (sI (sI h (p + 6) x2.toNat x4) (p + 1) x4.toNat x1) (p + 2) x4.toNat (-1)) (some (p + 3)) 22 x4) (gd (zob (sI (sI (sI (sI h (p + 6) x2.toNat x4) (p + 1) x4.toNat x1) (p + 2) x4.toNat (-1)) (p + 3) x4.toNat x2) (some p) 5) (zY 38 147 [some (zR (some p)), some (zI x1), some (zI x2), some (zI x3), some (zI x4), some (zI y)] [zR (hR h p 6)] (sI (sI (sI (sI h (p + 6) x2.toNat x4) (p + 1) x4.toNat x1) (p + 2) x4.toNat (-1)) (p + 3) x4.toNat x2))) from zGo 5 38 139 _ _ _).trans ?_
        refine (gd_t ((ciw (PS_t hp 3 _ rfl rfl) (PS_ni hp 3 rfl) (PS_l hp 3 rfl)).2 (by (try simp only [b_P_has] at *); omega)) _).trans ?_
        refine (gd_t (⟨rfl, hp.1, (PS_n hp)⟩) _).trans ?_
        refine (congrArg (fun rz => zY 38 147 [some (zR (some p)), some (zI x1), some (zI x2), some (zI x3), some (zI x4), some (zI y)] (zR rz :: []) (sI (sI (sI (sI h (p + 6) x2.toNat x4) (p + 1) x4.toNat x1) (p + 2) x4.toNat (-1)) (p + 3) x4.toNat x2)) (PS_r hp 6 rfl)).trans ?_
        refine (show zY 38 147 [some (zR (some p)), some (zI x1), some (zI x2), some (zI x3), some (zI x4), some (zI y)] [zR (some (p + 4))] (sI (sI (sI (sI h (p + 6) x2.toNat x4) (p + 1) x4.toNat x1) (p + 2) x4.toNat (-1)) (p + 3) x4.toNat x2) = gd (false = zctor 43 ∧ zcs [zI x4, zR (some (p + 4))] ≤ 8 ∧ zrm 38 (zrf 43 + 1) (8 + (zmaxl 43 + 11) + zrl 43) = true ∧ zcs [zR (some p), zI x1, zI x4] ≤ zmaxl 43) (gd (zob (sI (sI (sI (sI h (p + 6) x2.toNat x4) (p + 1) x4.toNat x1) (p + 2) x4.toNat (-1)) (p + 3) x4.toNat x2) (some p) 5) (zBack zY 38 153 156 [some (zR (some p)), some (zI x1), some (zI x2), some (zI x3), some (zI x4), some (zI y)] [zI x4, zR (some (p + 4))] (zC 43 [zR (some p), zI x1, zI x4] (sI (sI (sI (sI h (p + 6) x2.toNat x4) (p + 1) x4.toNat x1) (p + 2) x4.toNat (-1)) (p + 3) x4.toNat x2)))) from zGo 5 38 147 _ _ _).trans ?_
        refine (gd_t (⟨rfl, Nat.le_of_ble_eq_true rfl, rfl, Nat.le_of_ble_eq_true rfl⟩) _).trans ?_
        refine (gd_t (⟨rfl, hp.1, (PS_n hp)⟩) _).trans ?_
        rfl
      · skip
        refine (show zY 38 92 [some (zR (some p)), some (zI x1), some (zI x2), some (zI x3), some (zI x4), some (zI y)] [] h = gd (zob h (some p) 5) (zY 38 96 [some (zR (some p)), some (zI x1), some (zI x2), some (zI x3), some (zI x4), some (zI y)] [zR (hR h p 9)] h) from zGo 2 38 92 _ _ _).trans ?_
        refine (gd_t (⟨rfl, hp.1, (PS_n hp)⟩) _).trans ?_
        refine (congrArg (fun rz => zY 38 96 [some (zR (some p)), some (zI x1), some (zI x2), some (zI x3), some (zI x4), some (zI y)] (zR rz :: []) h) (PS_r hp 9 rfl)).trans ?_
        refine (show zY 38 96 [some (zR (some p)), some (zI x1), some (zI x2), some (zI x3), some (zI x4), some (zI y)] [zR (some (p + 7))] h = gd (zokw h (some (p + 7)) 22 x2) (gd (zob (sI h (p + 7) x2.toNat x4) (some p) 5) (zY 38 123 [some (zR (some p)), some (zI x1), some (zI x2), some (zI x3), some (zI x4), some (zI y)] [zR (hR h p 3)] (sI h (p + 7) x2.toNat x4))) from zGo 6 38 96 _ _ _).trans ?_
        refine (gd_t ((ciw (PS_t hp 7 _ rfl rfl) (PS_ni hp 7 rfl) (PS_l hp 7 rfl)).2 (by (try simp only [b_P_has] at *); omega)) _).trans ?_
        refine (gd_t (⟨rfl, hp.1, (PS_n hp)⟩) _).trans ?_
        refine (congrArg (fun rz => zY 38 123 [some (zR (some p)), some (zI x1), some (zI x2), some (zI x3), some (zI x4), some (zI y)] (zR rz :: []) (sI h (p + 7) x2.toNat x4)) (PS_r hp 3 rfl)).trans ?_
        refine (show zY 38 123 [some (zR (some p)), some (zI x1), some (zI x2), some (zI x3), some (zI x4), some (zI y)] [zR (some (p + 1))] (sI h (p + 7) x2.toNat x4) = gd (zokw (sI h (p + 7) x2.toNat x4) (some (p + 1)) 22 x4) (gd (zob (sI (sI h (p + 7) x2.toNat x4) (p + 1) x4.toNat x1) (some p) 5) (zY 38 131 [some (zR (some p)), some (zI x1), some (zI x2), some (zI x3), some (zI x4), some (zI y)] [zR (hR h p 4)] (sI (sI h (p + 7) x2.toNat x4) (p + 1) x4.toNat x1))) from zGo 5 38 123 _ _ _).trans ?_
        refine gd_c (ciw (PS_t hp 1 _ rfl rfl) (PS_ni hp 1 rfl) (PS_l hp 1 rfl)) (fun c6 => ?_)
        refine (gd_t (⟨rfl, hp.1, (PS_n hp)⟩) _).trans ?_
        refine (congrArg (fun rz => zY 38 131 [some (zR (some p)), some (zI x1), some (zI x2), some (zI x3), some (zI x4), some (zI y)] (zR rz :: []) (sI (sI h (p + 7) x2.toNat x4) (p + 1) x4.toNat x1)) (PS_r hp 4 rfl)).trans ?_
        refine (show zY 38 131 [some (zR (some p)), some (zI x1), some (zI x2), some (zI x3), some (zI x4), some (zI y)] [zR (some (p + 2))] (sI (sI h (p + 7) x2.toNat x4) (p + 1) x4.toNat x1) = gd (inR (-1)) (gd (zokw (sI (sI h (p + 7) x2.toNat x4) (p + 1) x4.toNat x1) (some (p + 2)) 22 x4) (gd (zob (sI (sI (sI h (p + 7) x2.toNat x4) (p + 1) x4.toNat x1) (p + 2) x4.toNat (-1)) (some p) 5) (zY 38 139 [some (zR (some p)), some (zI x1), some (zI x2), some (zI x3), some (zI x4), some (zI y)] [zR (hR h p 5)] (sI (sI (sI h (p + 7) x2.toNat x4) (p + 1) x4.toNat x1) (p + 2) x4.toNat (-1))))) from zGo 5 38 131 _ _ _).trans ?_
        refine (gd_t (by decide) _).trans ?_
        refine (gd_t ((ciw (PS_t hp 2 _ rfl rfl) (PS_ni hp 2 rfl) (PS_l hp 2 rfl)).2 (by (try simp only [b_P_has] at *); omega)) _).trans ?_
        refine (gd_t (⟨rfl, hp.1, (PS_n hp)⟩) _).trans ?_
        refine (congrArg (fun rz => zY 38 139 [some (zR (some p)), some (zI x1), some (zI x2), some (zI x3), some (zI x4), some (zI y)] (zR rz :: []) (sI (sI (sI h (p + 7) x2.toNat x4) (p + 1) x4.toNat x1) (p + 2) x4.toNat (-1))) (PS_r hp 5 rfl)).trans ?_
        refine (show zY 38 139 [some (zR (some p)), some (zI x1), some (zI x2), some (zI x3), some (zI x4), some (zI y)] [zR (some (p + 3))] (sI (sI (sI h (p + 7) x2.toNat x4) (p + 1) x4.toNat x1) (p + 2) x4.toNat (-1)) = gd (zokw (sI (sI (sI h (p + 7) x2.toNat x4) (p + 1) x4.toNat x1) (p + 2) x4.toNat (-1)) (some (p + 3)) 22 x4) (gd (zob (sI (sI (sI (sI h (p + 7) x2.toNat x4) (p + 1) x4.toNat x1) (p + 2) x4.toNat (-1)) (p + 3) x4.toNat x2) (some p) 5) (zY 38 147 [some (zR (some p)), some (zI x1), some (zI x2), some (zI x3), some (zI x4), some (zI y)] [zR (hR h p 6)] (sI (sI (sI (sI h (p + 7) x2.toNat x4) (p + 1) x4.toNat x1) (p + 2) x4.toNat (-1)) (p + 3) x4.toNat x2))) from zGo 5 38 139 _ _ _).trans ?_
        refine (gd_t ((ciw (PS_t hp 3 _ rfl rfl) (PS_ni hp 3 rfl) (PS_l hp 3 rfl)).2 (by (try simp only [b_P_has] at *); omega)) _).trans ?_
        refine (gd_t (⟨rfl, hp.1, (PS_n hp)⟩) _).trans ?_
        refine (congrArg (fun rz => zY 38 147 [some (zR (some p)), some (zI x1), some (zI x2), some (zI x3), some (zI x4), some (zI y)] (zR rz :: []) (sI (sI (sI (sI h (p + 7) x2.toNat x4) (p + 1) x4.toNat x1) (p + 2) x4.toNat (-1)) (p + 3) x4.toNat x2)) (PS_r hp 6 rfl)).trans ?_
        refine (show zY 38 147 [some (zR (some p)), some (zI x1), some (zI x2), some (zI x3), some (zI x4), some (zI y)] [zR (some (p + 4))] (sI (sI (sI (sI h (p + 7) x2.toNat x4) (p + 1) x4.toNat x1) (p + 2) x4.toNat (-1)) (p + 3) x4.toNat x2) = gd (false = zctor 43 ∧ zcs [zI x4, zR (some (p + 4))] ≤ 8 ∧ zrm 38 (zrf 43 + 1) (8 + (zmaxl 43 + 11) + zrl 43) = true ∧ zcs [zR (some p), zI x1, zI x4] ≤ zmaxl 43) (gd (zob (sI (sI (sI (sI h (p + 7) x2.toNat x4) (p + 1) x4.toNat x1) (p + 2) x4.toNat (-1)) (p + 3) x4.toNat x2) (some p) 5) (zBack zY 38 153 156 [some (zR (some p)), some (zI x1), some (zI x2), some (zI x3), some (zI x4), some (zI y)] [zI x4, zR (some (p + 4))] (zC 43 [zR (some p), zI x1, zI x4] (sI (sI (sI (sI h (p + 7) x2.toNat x4) (p + 1) x4.toNat x1) (p + 2) x4.toNat (-1)) (p + 3) x4.toNat x2)))) from zGo 5 38 147 _ _ _).trans ?_
        refine (gd_t (⟨rfl, Nat.le_of_ble_eq_true rfl, rfl, Nat.le_of_ble_eq_true rfl⟩) _).trans ?_
        refine (gd_t (⟨rfl, hp.1, (PS_n hp)⟩) _).trans ?_
        rfl
    · skip
      refine (show zY 38 103 [some (zR (some p)), some (zI x1), some (zI x2), some (zI x3), some (zI x4), some (zI y)] [] h = gd (false = zctor 37 ∧ zcs [] ≤ 8 ∧ zrm 38 (zrf 37 + 1) (8 + (zmaxl 37 + 11) + zrl 37) = true ∧ zcs [zR (some p), zI x2] ≤ zmaxl 37) (gd (zob h (some p) 5) (zBack zY 38 105 108 [some (zR (some p)), some (zI x1), some (zI x2), some (zI x3), some (zI x4), some (zI y)] [] (zC 37 [zR (some p), zI x2] h))) from zGo 3 38 103 _ _ _).trans ?_
      refine (gd_t (⟨rfl, Nat.le_of_ble_eq_true rfl, rfl, Nat.le_of_ble_eq_true rfl⟩) _).trans ?_
      refine (gd_t (⟨rfl, hp.1, (PS_n hp)⟩) _).trans ?_
      refine (congrArg (zBack zY 38 105 108 [some (zR (some p)), some (zI x1), some (zI x2), some (zI x3), some (zI x4), some (zI y)] []) (e_P_has hp)).trans ?_
      refine (show zY 38 108 [some (zR (some p)), some (zI x1), some (zI x2), some (zI x3), some (zI x4), some (zI y)] [zI (if b_P_has h p x2 then (1 : Int) else 0)] h = if (if b_P_has h p x2 then (1 : Int) else 0) = 0 then zY 38 119 [some (zR (some p)), some (zI x1), some (zI x2), some (zI x3), some (zI x4), some (zI y)] [] h else zY 38 111 [some (zR (some p)), some (zI x1), some (zI x2), some (zI x3), some (zI x4), some (zI y)] [] h from zGo 1 38 108 _ _ _).trans ?_
      refine iteB_n c2 ?_
      refine (show zY 38 119 [some (zR (some p)), some (zI x1), some (zI x2), some (zI x3), some (zI x4), some (zI y)] [] h = gd (zob h (some p) 5) (zY 38 123 [some (zR (some p)), some (zI x1), some (zI x2), some (zI x3), some (zI x4), some (zI y)] [zR (hR h p 3)] h) from zGo 2 38 119 _ _ _).trans ?_
      refine (gd_t (⟨rfl, hp.1, (PS_n hp)⟩) _).trans ?_
      refine (congrArg (fun rz => zY 38 123 [some (zR (some p)), some (zI x1), some (zI x2), some (zI x3), some (zI x4), some (zI y)] (zR rz :: []) h) (PS_r hp 3 rfl)).trans ?_
      refine (show zY 38 123 [some (zR (some p)), some (zI x1), some (zI x2), some (zI x3), some (zI x4), some (zI y)] [zR (some (p + 1))] h = gd (zokw h (some (p + 1)) 22 x4) (gd (zob (sI h (p + 1) x4.toNat x1) (some p) 5) (zY 38 131 [some (zR (some p)), some (zI x1), some (zI x2), some (zI x3), some (zI x4), some (zI y)] [zR (hR h p 4)] (sI h (p + 1) x4.toNat x1))) from zGo 5 38 123 _ _ _).trans ?_
      refine gd_c (ciw (PS_t hp 1 _ rfl rfl) (PS_ni hp 1 rfl) (PS_l hp 1 rfl)) (fun c8 => ?_)
      refine (gd_t (⟨rfl, hp.1, (PS_n hp)⟩) _).trans ?_
      refine (congrArg (fun rz => zY 38 131 [some (zR (some p)), some (zI x1), some (zI x2), some (zI x3), some (zI x4), some (zI y)] (zR rz :: []) (sI h (p + 1) x4.toNat x1)) (PS_r hp 4 rfl)).trans ?_
      refine (show zY 38 131 [some (zR (some p)), some (zI x1), some (zI x2), some (zI x3), some (zI x4), some (zI y)] [zR (some (p + 2))] (sI h (p + 1) x4.toNat x1) = gd (inR (-1)) (gd (zokw (sI h (p + 1) x4.toNat x1) (some (p + 2)) 22 x4) (gd (zob (sI (sI h (p + 1) x4.toNat x1) (p + 2) x4.toNat (-1)) (some p) 5) (zY 38 139 [some (zR (some p)), some (zI x1), some (zI x2), some (zI x3), some (zI x4), some (zI y)] [zR (hR h p 5)] (sI (sI h (p + 1) x4.toNat x1) (p + 2) x4.toNat (-1))))) from zGo 5 38 131 _ _ _).trans ?_
      refine (gd_t (by decide) _).trans ?_
      refine (gd_t ((ciw (PS_t hp 2 _ rfl rfl) (PS_ni hp 2 rfl) (PS_l hp 2 rfl)).2 (by (try simp only [b_P_has] at *); omega)) _).trans ?_
      refine (gd_t (⟨rfl, hp.1, (PS_n hp)⟩) _).trans ?_
      refine (congrArg (fun rz => zY 38 139 [some (zR (some p)), some (zI x1), some (zI x2), some (zI x3), some (zI x4), some (zI y)] (zR rz :: []) (sI (sI h (p + 1) x4.toNat x1) (p + 2) x4.toNat (-1))) (PS_r hp 5 rfl)).trans ?_
      refine (show zY 38 139 [some (zR (some p)), some (zI x1), some (zI x2), some (zI x3), some (zI x4), some (zI y)] [zR (some (p + 3))] (sI (sI h (p + 1) x4.toNat x1) (p + 2) x4.toNat (-1)) = gd (zokw (sI (sI h (p + 1) x4.toNat x1) (p + 2) x4.toNat (-1)) (some (p + 3)) 22 x4) (gd (zob (sI (sI (sI h (p + 1) x4.toNat x1) (p + 2) x4.toNat (-1)) (p + 3) x4.toNat x2) (some p) 5) (zY 38 147 [some (zR (some p)), some (zI x1), some (zI x2), some (zI x3), some (zI x4), some (zI y)] [zR (hR h p 6)] (sI (sI (sI h (p + 1) x4.toNat x1) (p + 2) x4.toNat (-1)) (p + 3) x4.toNat x2))) from zGo 5 38 139 _ _ _).trans ?_
      refine (gd_t ((ciw (PS_t hp 3 _ rfl rfl) (PS_ni hp 3 rfl) (PS_l hp 3 rfl)).2 (by (try simp only [b_P_has] at *); omega)) _).trans ?_
      refine (gd_t (⟨rfl, hp.1, (PS_n hp)⟩) _).trans ?_
      refine (congrArg (fun rz => zY 38 147 [some (zR (some p)), some (zI x1), some (zI x2), some (zI x3), some (zI x4), some (zI y)] (zR rz :: []) (sI (sI (sI h (p + 1) x4.toNat x1) (p + 2) x4.toNat (-1)) (p + 3) x4.toNat x2)) (PS_r hp 6 rfl)).trans ?_
      refine (show zY 38 147 [some (zR (some p)), some (zI x1), some (zI x2), some (zI x3), some (zI x4), some (zI y)] [zR (some (p + 4))] (sI (sI (sI h (p + 1) x4.toNat x1) (p + 2) x4.toNat (-1)) (p + 3) x4.toNat x2) = gd (false = zctor 43 ∧ zcs [zI x4, zR (some (p + 4))] ≤ 8 ∧ zrm 38 (zrf 43 + 1) (8 + (zmaxl 43 + 11) + zrl 43) = true ∧ zcs [zR (some p), zI x1, zI x4] ≤ zmaxl 43) (gd (zob (sI (sI (sI h (p + 1) x4.toNat x1) (p + 2) x4.toNat (-1)) (p + 3) x4.toNat x2) (some p) 5) (zBack zY 38 153 156 [some (zR (some p)), some (zI x1), some (zI x2), some (zI x3), some (zI x4), some (zI y)] [zI x4, zR (some (p + 4))] (zC 43 [zR (some p), zI x1, zI x4] (sI (sI (sI h (p + 1) x4.toNat x1) (p + 2) x4.toNat (-1)) (p + 3) x4.toNat x2)))) from zGo 5 38 147 _ _ _).trans ?_
      refine (gd_t (⟨rfl, Nat.le_of_ble_eq_true rfl, rfl, Nat.le_of_ble_eq_true rfl⟩) _).trans ?_
      refine (gd_t (⟨rfl, hp.1, (PS_n hp)⟩) _).trans ?_
      rfl
theorem q_P_add_r156 {h : zH} {p : Nat} {x1 : Int} {x2 : Int} {x3 : Int} {x4 : Int} {x5 : Int} {ay0 : Nat} {y1 : Int} {y : Int} (hp : PS h p) (tay0 : hT h ay0 = 22) (nay0 : ay0 < hN h) : zBack zY 38 153 156 [some (zR (some p)), some (zI x1), some (zI x2), some (zI x3), some (zI x4), some (zI x5)] [zI y1, zR (some ay0)] (some (.inl (some (zI y)), h)) =
    gd (0 ≤ y1 ∧ y1 < (hL h ay0 : Int)) (
    gd (0 ≤ x4 ∧ x4 < 24) (
    gd (-2147483648 ≤ (hI (sI (sI (sI (sI (sI h ay0 y1.toNat y) (p + 5) x4.toNat (-1)) (p + 6) x4.toNat (-1)) (p + 7) x4.toNat (-1)) (p + 8) x4.toNat (-1)) p 0) + 1 ∧ (hI (sI (sI (sI (sI (sI h ay0 y1.toNat y) (p + 5) x4.toNat (-1)) (p + 6) x4.toNat (-1)) (p + 7) x4.toNat (-1)) (p + 8) x4.toNat (-1)) p 0) + 1 < 2147483648) (
    some (.inl (some (zI x4)), (sI (sI (sI (sI (sI (sI h ay0 y1.toNat y) (p + 5) x4.toNat (-1)) (p + 6) x4.toNat (-1)) (p + 7) x4.toNat (-1)) (p + 8) x4.toNat (-1)) p 0 ((hI (sI (sI (sI (sI (sI h ay0 y1.toNat y) (p + 5) x4.toNat (-1)) (p + 6) x4.toNat (-1)) (p + 7) x4.toNat (-1)) (p + 8) x4.toNat (-1)) p 0) + 1)))))) := by
  refine (show zBack zY 38 153 156 [some (zR (some p)), some (zI x1), some (zI x2), some (zI x3), some (zI x4), some (zI x5)] [zI y1, zR (some ay0)] (some (.inl (some (zI y)), h)) = gd (zokw h (some ay0) 22 y1) (gd (zob (sI h ay0 y1.toNat y) (some p) 5) (zY 38 161 [some (zR (some p)), some (zI x1), some (zI x2), some (zI x3), some (zI x4), some (zI x5)] [zR (hR h p 7)] (sI h ay0 y1.toNat y))) from zGo 3 38 156 _ _ _).trans ?_
  refine gd_c (ciw tay0 nay0 rfl) (fun c0 => ?_)
  refine (gd_t (⟨rfl, hp.1, (PS_n hp)⟩) _).trans ?_
  refine (congrArg (fun rz => zY 38 161 [some (zR (some p)), some (zI x1), some (zI x2), some (zI x3), some (zI x4), some (zI x5)] (zR rz :: []) (sI h ay0 y1.toNat y)) (PS_r hp 7 rfl)).trans ?_
  refine (show zY 38 161 [some (zR (some p)), some (zI x1), some (zI x2), some (zI x3), some (zI x4), some (zI x5)] [zR (some (p + 5))] (sI h ay0 y1.toNat y) = gd (inR (-1)) (gd (zokw (sI h ay0 y1.toNat y) (some (p + 5)) 22 x4) (gd (zob (sI (sI h ay0 y1.toNat y) (p + 5) x4.toNat (-1)) (some p) 5) (zY 38 169 [some (zR (some p)), some (zI x1), some (zI x2), some (zI x3), some (zI x4), some (zI x5)] [zR (hR h p 8)] (sI (sI h ay0 y1.toNat y) (p + 5) x4.toNat (-1))))) from zGo 5 38 161 _ _ _).trans ?_
  refine (gd_t (by decide) _).trans ?_
  refine gd_c (ciw (PS_t hp 5 _ rfl rfl) (PS_ni hp 5 rfl) (PS_l hp 5 rfl)) (fun c1 => ?_)
  refine (gd_t (⟨rfl, hp.1, (PS_n hp)⟩) _).trans ?_
  refine (congrArg (fun rz => zY 38 169 [some (zR (some p)), some (zI x1), some (zI x2), some (zI x3), some (zI x4), some (zI x5)] (zR rz :: []) (sI (sI h ay0 y1.toNat y) (p + 5) x4.toNat (-1))) (PS_r hp 8 rfl)).trans ?_
  refine (show zY 38 169 [some (zR (some p)), some (zI x1), some (zI x2), some (zI x3), some (zI x4), some (zI x5)] [zR (some (p + 6))] (sI (sI h ay0 y1.toNat y) (p + 5) x4.toNat (-1)) = gd (inR (-1)) (gd (zokw (sI (sI h ay0 y1.toNat y) (p + 5) x4.toNat (-1)) (some (p + 6)) 22 x4) (gd (zob (sI (sI (sI h ay0 y1.toNat y) (p + 5) x4.toNat (-1)) (p + 6) x4.toNat (-1)) (some p) 5) (zY 38 177 [some (zR (some p)), some (zI x1), some (zI x2), some (zI x3), some (zI x4), some (zI x5)] [zR (hR h p 9)] (sI (sI (sI h ay0 y1.toNat y) (p + 5) x4.toNat (-1)) (p + 6) x4.toNat (-1))))) from zGo 5 38 169 _ _ _).trans ?_
  refine (gd_t (by decide) _).trans ?_
  refine (gd_t ((ciw (PS_t hp 6 _ rfl rfl) (PS_ni hp 6 rfl) (PS_l hp 6 rfl)).2 (by omega)) _).trans ?_
  refine (gd_t (⟨rfl, hp.1, (PS_n hp)⟩) _).trans ?_
  refine (congrArg (fun rz => zY 38 177 [some (zR (some p)), some (zI x1), some (zI x2), some (zI x3), some (zI x4), some (zI x5)] (zR rz :: []) (sI (sI (sI h ay0 y1.toNat y) (p + 5) x4.toNat (-1)) (p + 6) x4.toNat (-1))) (PS_r hp 9 rfl)).trans ?_
  refine (show zY 38 177 [some (zR (some p)), some (zI x1), some (zI x2), some (zI x3), some (zI x4), some (zI x5)] [zR (some (p + 7))] (sI (sI (sI h ay0 y1.toNat y) (p + 5) x4.toNat (-1)) (p + 6) x4.toNat (-1)) = gd (inR (-1)) (gd (zokw (sI (sI (sI h ay0 y1.toNat y) (p + 5) x4.toNat (-1)) (p + 6) x4.toNat (-1)) (some (p + 7)) 22 x4) (gd (zob (sI (sI (sI (sI h ay0 y1.toNat y) (p + 5) x4.toNat (-1)) (p + 6) x4.toNat (-1)) (p + 7) x4.toNat (-1)) (some p) 5) (zY 38 185 [some (zR (some p)), some (zI x1), some (zI x2), some (zI x3), some (zI x4), some (zI x5)] [zR (hR h p 10)] (sI (sI (sI (sI h ay0 y1.toNat y) (p + 5) x4.toNat (-1)) (p + 6) x4.toNat (-1)) (p + 7) x4.toNat (-1))))) from zGo 5 38 177 _ _ _).trans ?_
  refine (gd_t (by decide) _).trans ?_
  refine (gd_t ((ciw (PS_t hp 7 _ rfl rfl) (PS_ni hp 7 rfl) (PS_l hp 7 rfl)).2 (by omega)) _).trans ?_
  refine (gd_t (⟨rfl, hp.1, (PS_n hp)⟩) _).trans ?_
  refine (congrArg (fun rz => zY 38 185 [some (zR (some p)), some (zI x1), some (zI x2), some (zI x3), some (zI x4), some (zI x5)] (zR rz :: []) (sI (sI (sI (sI h ay0 y1.toNat y) (p + 5) x4.toNat (-1)) (p + 6) x4.toNat (-1)) (p + 7) x4.toNat (-1))) (PS_r hp 10 rfl)).trans ?_
  refine (show zY 38 185 [some (zR (some p)), some (zI x1), some (zI x2), some (zI x3), some (zI x4), some (zI x5)] [zR (some (p + 8))] (sI (sI (sI (sI h ay0 y1.toNat y) (p + 5) x4.toNat (-1)) (p + 6) x4.toNat (-1)) (p + 7) x4.toNat (-1)) = gd (inR (-1)) (gd (zokw (sI (sI (sI (sI h ay0 y1.toNat y) (p + 5) x4.toNat (-1)) (p + 6) x4.toNat (-1)) (p + 7) x4.toNat (-1)) (some (p + 8)) 22 x4) (gd (zob (sI (sI (sI (sI (sI h ay0 y1.toNat y) (p + 5) x4.toNat (-1)) (p + 6) x4.toNat (-1)) (p + 7) x4.toNat (-1)) (p + 8) x4.toNat (-1)) (some p) 5) (gd (inR (1)) (gd (inR ((hI (sI (sI (sI (sI (sI h ay0 y1.toNat y) (p + 5) x4.toNat (-1)) (p + 6) x4.toNat (-1)) (p + 7) x4.toNat (-1)) (p + 8) x4.toNat (-1)) p 0) + 1)) (gd (zob (sI (sI (sI (sI (sI h ay0 y1.toNat y) (p + 5) x4.toNat (-1)) (p + 6) x4.toNat (-1)) (p + 7) x4.toNat (-1)) (p + 8) x4.toNat (-1)) (some p) 5) (gd (([] : List zV).isEmpty = true ∧ (zrk 38 = 1 ∨ zrk 38 = 6 ∧ ((x4 : Int) = 0 ∨ (x4 : Int) = 1))) (some (.inl (some (zI x4)), (sI (sI (sI (sI (sI (sI h ay0 y1.toNat y) (p + 5) x4.toNat (-1)) (p + 6) x4.toNat (-1)) (p + 7) x4.toNat (-1)) (p + 8) x4.toNat (-1)) p 0 ((hI (sI (sI (sI (sI (sI h ay0 y1.toNat y) (p + 5) x4.toNat (-1)) (p + 6) x4.toNat (-1)) (p + 7) x4.toNat (-1)) (p + 8) x4.toNat (-1)) p 0) + 1)))))))))) from zGo 11 38 185 _ _ _).trans ?_
  refine (gd_t (by decide) _).trans ?_
  refine (gd_t ((ciw (PS_t hp 8 _ rfl rfl) (PS_ni hp 8 rfl) (PS_l hp 8 rfl)).2 (by omega)) _).trans ?_
  refine (gd_t (⟨rfl, hp.1, (PS_n hp)⟩) _).trans ?_
  refine (gd_t (by decide) _).trans ?_
  refine gd_c Iff.rfl (fun c2 => ?_)
  refine (gd_t (⟨rfl, hp.1, (PS_n hp)⟩) _).trans ?_
  refine (gd_t (⟨rfl, Or.inl rfl⟩) _).trans ?_
  rfl
theorem q_P_putVariable {h : zH} {p : Nat} {x1 : Int} {x2 : Int} (hp : PS h p) : zC 44 [zR (some p), zI x1, zI x2] h =
    if b_P_has h p x1 then
      some (.inl (none), (sI h (p + 2) x1.toNat x2))
    else
      some (.inl (none), h) := by
  refine (show zC 44 [zR (some p), zI x1, zI x2] h = gd (false = zctor 37 ∧ zcs [] ≤ 8 ∧ zrm 44 (zrf 37 + 1) (8 + (zmaxl 37 + 11) + zrl 37) = true ∧ zcs [zR (some p), zI x1] ≤ zmaxl 37) (gd (zob h (some p) 5) (zBack zY 44 2 5 [some (zR (some p)), some (zI x1), some (zI x2)] [] (zC 37 [zR (some p), zI x1] h))) from zGo 3 44 0 _ _ _).trans ?_
  refine (gd_t (⟨rfl, Nat.le_of_ble_eq_true rfl, rfl, Nat.le_of_ble_eq_true rfl⟩) _).trans ?_
  refine (gd_t (⟨rfl, hp.1, (PS_n hp)⟩) _).trans ?_
  refine (congrArg (zBack zY 44 2 5 [some (zR (some p)), some (zI x1), some (zI x2)] []) (e_P_has hp)).trans ?_
  refine (show zY 44 5 [some (zR (some p)), some (zI x1), some (zI x2)] [zI (if b_P_has h p x1 then (1 : Int) else 0)] h = if (if b_P_has h p x1 then (1 : Int) else 0) = 0 then zY 44 15 [some (zR (some p)), some (zI x1), some (zI x2)] [] h else zY 44 8 [some (zR (some p)), some (zI x1), some (zI x2)] [] h from zGo 1 44 5 _ _ _).trans ?_
  refine iteB (fun c0 => ?_) (fun c0 => ?_)
  · skip
    refine (show zY 44 8 [some (zR (some p)), some (zI x1), some (zI x2)] [] h = gd (zob h (some p) 5) (zY 44 12 [some (zR (some p)), some (zI x1), some (zI x2)] [zR (hR h p 4)] h) from zGo 2 44 8 _ _ _).trans ?_
    refine (gd_t (⟨rfl, hp.1, (PS_n hp)⟩) _).trans ?_
    refine (congrArg (fun rz => zY 44 12 [some (zR (some p)), some (zI x1), some (zI x2)] (zR rz :: []) h) (PS_r hp 4 rfl)).trans ?_
    refine (show zY 44 12 [some (zR (some p)), some (zI x1), some (zI x2)] [zR (some (p + 2))] h = gd (zokw h (some (p + 2)) 22 x1) (gd (([] : List zV).isEmpty = true ∧ zrk 44 = 0) (some (.inl (none), (sI h (p + 2) x1.toNat x2)))) from zGo 4 44 12 _ _ _).trans ?_
    refine (gd_t ((ciw (PS_t hp 2 _ rfl rfl) (PS_ni hp 2 rfl) (PS_l hp 2 rfl)).2 (by (try simp only [b_P_has] at *); omega)) _).trans ?_
    refine (gd_t (⟨rfl, rfl⟩) _).trans ?_
    rfl
  · skip
    refine (show zY 44 15 [some (zR (some p)), some (zI x1), some (zI x2)] [] h = gd (([] : List zV).isEmpty = true ∧ zrk 44 = 0) (some (.inl (none), h)) from zGo 1 44 15 _ _ _).trans ?_
    refine (gd_t (⟨rfl, rfl⟩) _).trans ?_
    rfl
theorem q_P_putPart {h : zH} {p : Nat} {x1 : Int} {f : Nat} (hp : PS h p) (hf : FS h f) : zC 45 [zR (some p), zI x1, zR (some f)] h =
    if b_P_has h p x1 then
      some (.inl (none), (sR h (p + 10) x1.toNat (some f)))
    else
      some (.inl (none), h) := by
  refine (show zC 45 [zR (some p), zI x1, zR (some f)] h = gd (false = zctor 37 ∧ zcs [] ≤ 8 ∧ zrm 45 (zrf 37 + 1) (8 + (zmaxl 37 + 11) + zrl 37) = true ∧ zcs [zR (some p), zI x1] ≤ zmaxl 37) (gd (zob h (some p) 5) (zBack zY 45 2 5 [some (zR (some p)), some (zI x1), some (zR (some f))] [] (zC 37 [zR (some p), zI x1] h))) from zGo 3 45 0 _ _ _).trans ?_
  refine (gd_t (⟨rfl, Nat.le_of_ble_eq_true rfl, rfl, Nat.le_of_ble_eq_true rfl⟩) _).trans ?_
  refine (gd_t (⟨rfl, hp.1, (PS_n hp)⟩) _).trans ?_
  refine (congrArg (zBack zY 45 2 5 [some (zR (some p)), some (zI x1), some (zR (some f))] []) (e_P_has hp)).trans ?_
  refine (show zY 45 5 [some (zR (some p)), some (zI x1), some (zR (some f))] [zI (if b_P_has h p x1 then (1 : Int) else 0)] h = if (if b_P_has h p x1 then (1 : Int) else 0) = 0 then zY 45 15 [some (zR (some p)), some (zI x1), some (zR (some f))] [] h else zY 45 8 [some (zR (some p)), some (zI x1), some (zR (some f))] [] h from zGo 1 45 5 _ _ _).trans ?_
  refine iteB (fun c0 => ?_) (fun c0 => ?_)
  · skip
    refine (show zY 45 8 [some (zR (some p)), some (zI x1), some (zR (some f))] [] h = gd (zob h (some p) 5) (zY 45 12 [some (zR (some p)), some (zI x1), some (zR (some f))] [zR (hR h p 12)] h) from zGo 2 45 8 _ _ _).trans ?_
    refine (gd_t (⟨rfl, hp.1, (PS_n hp)⟩) _).trans ?_
    refine (congrArg (fun rz => zY 45 12 [some (zR (some p)), some (zI x1), some (zR (some f))] (zR rz :: []) h) (PS_r hp 12 rfl)).trans ?_
    refine (show zY 45 12 [some (zR (some p)), some (zI x1), some (zR (some f))] [zR (some (p + 10))] h = gd (zokw h (some (p + 10)) 25 x1 ∧ zob h (some f) 2 ∨ zokw h (some (p + 10)) 26 x1 ∧ zob h (some f) 10) (gd (([] : List zV).isEmpty = true ∧ zrk 45 = 0) (some (.inl (none), (sR h (p + 10) x1.toNat (some f))))) from zGo 4 45 12 _ _ _).trans ?_
    refine (gd_t ((caa25 (v := some f) (PS_t hp 10 _ rfl rfl) (PS_ni hp 10 rfl) (PS_l hp 10 rfl) ⟨rfl, hf.1, (FS_n hf)⟩).2 (by (try simp only [b_P_has] at *); omega)) _).trans ?_
    refine (gd_t (⟨rfl, rfl⟩) _).trans ?_
    rfl
  · skip
    refine (show zY 45 15 [some (zR (some p)), some (zI x1), some (zR (some f))] [] h = gd (([] : List zV).isEmpty = true ∧ zrk 45 = 0) (some (.inl (none), h)) from zGo 1 45 15 _ _ _).trans ?_
    refine (gd_t (⟨rfl, rfl⟩) _).trans ?_
    rfl
theorem q_P_connect {h : zH} {p : Nat} (hp : PS h p) : zC 49 [zR (some p)] h =
    zY 49 2 [some (zR (some p)), some (zI 0), none] [] h := by
  refine (show zC 49 [zR (some p)] h = gd (inR (0)) (zY 49 2 [some (zR (some p)), some (zI 0), none] [] h) from zGo 2 49 0 _ _ _).trans ?_
  refine (gd_t (by decide) _).trans ?_
  rfl
theorem q_P_connect_2 {h : zH} {p : Nat} {x1 : Int} (hp : PS h p) : zY 49 2 [some (zR (some p)), some (zI x1), none] [] h =
    if x1 < (hI h p 0) then
      if x1 < 24 then
        gd (0 ≤ x1 ∧ x1 < 24) (
        if (hI h (p + 5) x1.toNat) = (-1) then
          if (f_P_kindOf h p (f_P_parentOf h p x1)) = 2 then
            gd (-2147483648 ≤ x1 + 1 ∧ x1 + 1 < 2147483648) (
            zY 49 2 [some (zR (some p)), some (zI (x1 + 1)), some (zI (f_P_parentOf h p x1))] [] (sI h (p + 8) x1.toNat (f_P_parentOf h p x1)))
          else
            gd (-2147483648 ≤ x1 + 1 ∧ x1 + 1 < 2147483648) (
            zY 49 2 [some (zR (some p)), some (zI (x1 + 1)), some (zI (f_P_parentOf h p x1))] [] (sI h (p + 8) x1.toNat (f_P_thenOf h p (f_P_parentOf h p x1))))
        else
          gd (-2147483648 ≤ x1 + 1 ∧ x1 + 1 < 2147483648) (
          zY 49 2 [some (zR (some p)), some (zI (x1 + 1)), some (zI (f_P_parentOf h p x1))] [] (sI h (p + 8) x1.toNat (hI h (p + 5) x1.toNat))))
      else
        some (.inl (none), h)
    else
      some (.inl (none), h) := by
  refine (show zY 49 2 [some (zR (some p)), some (zI x1), none] [] h = gd (zob h (some p) 5) (if x1 < (hI h p 0) then zY 49 10 [some (zR (some p)), some (zI x1), none] [] h else zY 49 83 [some (zR (some p)), some (zI x1), none] [] h) from zGo 4 49 2 _ _ _).trans ?_
  refine (gd_t (⟨rfl, hp.1, (PS_n hp)⟩) _).trans ?_
  refine iteC (fun c0 => ?_) (fun c0 => ?_)
  · skip
    refine (show zY 49 10 [some (zR (some p)), some (zI x1), none] [] h = gd (-128 ≤ (24 : Int) ∧ (24 : Int) < 128) (if x1 < 24 then zY 49 16 [some (zR (some p)), some (zI x1), none] [] h else zY 49 83 [some (zR (some p)), some (zI x1), none] [] h) from zGo 3 49 10 _ _ _).trans ?_
    refine (gd_t (by decide) _).trans ?_
    refine iteC (fun c1 => ?_) (fun c1 => ?_)
    · skip
      refine (show zY 49 16 [some (zR (some p)), some (zI x1), none] [] h = gd (false = zctor 47 ∧ zcs [] ≤ 8 ∧ zrm 49 (zrf 47 + 1) (8 + (zmaxl 47 + 11) + zrl 47) = true ∧ zcs [zR (some p), zI x1] ≤ zmaxl 47) (gd (zob h (some p) 5) (zBack zY 49 18 21 [some (zR (some p)), some (zI x1), none] [] (zC 47 [zR (some p), zI x1] h))) from zGo 3 49 16 _ _ _).trans ?_
      refine (gd_t (⟨rfl, Nat.le_of_ble_eq_true rfl, rfl, Nat.le_of_ble_eq_true rfl⟩) _).trans ?_
      refine (gd_t (⟨rfl, hp.1, (PS_n hp)⟩) _).trans ?_
      refine (congrArg (zBack zY 49 18 21 [some (zR (some p)), some (zI x1), none] []) (e_P_parentOf hp)).trans ?_
      refine (show zY 49 21 [some (zR (some p)), some (zI x1), none] [zI (f_P_parentOf h p x1)] h = gd (zob h (some p) 5) (zY 49 26 [some (zR (some p)), some (zI x1), some (zI (f_P_parentOf h p x1))] [zR (hR h p 7)] h) from zGo 3 49 21 _ _ _).trans ?_
      refine (gd_t (⟨rfl, hp.1, (PS_n hp)⟩) _).trans ?_
      refine (congrArg (fun rz => zY 49 26 [some (zR (some p)), some (zI x1), some (zI (f_P_parentOf h p x1))] (zR rz :: []) h) (PS_r hp 7 rfl)).trans ?_
      refine (show zY 49 26 [some (zR (some p)), some (zI x1), some (zI (f_P_parentOf h p x1))] [zR (some (p + 5))] h = gd (zok h (some (p + 5)) 22 x1) (gd (inR (-1)) (if (hI h (p + 5) x1.toNat) = (-1) then zY 49 47 [some (zR (some p)), some (zI x1), some (zI (f_P_parentOf h p x1))] [] h else zY 49 32 [some (zR (some p)), some (zI x1), some (zI (f_P_parentOf h p x1))] [] h)) from zGo 4 49 26 _ _ _).trans ?_
      refine gd_c (ci (PS_t hp 5 _ rfl rfl) (PS_l hp 5 rfl)) (fun c2 => ?_)
      refine (gd_t (by decide) _).trans ?_
      refine iteC (fun c3 => ?_) (fun c3 => ?_)
      · skip
        refine (show zY 49 47 [some (zR (some p)), some (zI x1), some (zI (f_P_parentOf h p x1))] [] h = gd (false = zctor 36 ∧ zcs [] ≤ 8 ∧ zrm 49 (zrf 36 + 1) (8 + (zmaxl 36 + 11) + zrl 36) = true ∧ zcs [zR (some p), zI (f_P_parentOf h p x1)] ≤ zmaxl 36) (gd (zob h (some p) 5) (zBack zY 49 49 52 [some (zR (some p)), some (zI x1), some (zI (f_P_parentOf h p x1))] [] (zC 36 [zR (some p), zI (f_P_parentOf h p x1)] h))) from zGo 3 49 47 _ _ _).trans ?_
        refine (gd_t (⟨rfl, Nat.le_of_ble_eq_true rfl, rfl, Nat.le_of_ble_eq_true rfl⟩) _).trans ?_
        refine (gd_t (⟨rfl, hp.1, (PS_n hp)⟩) _).trans ?_
        refine (congrArg (zBack zY 49 49 52 [some (zR (some p)), some (zI x1), some (zI (f_P_parentOf h p x1))] []) (e_P_kindOf hp)).trans ?_
        refine (show zY 49 52 [some (zR (some p)), some (zI x1), some (zI (f_P_parentOf h p x1))] [zI (f_P_kindOf h p (f_P_parentOf h p x1))] h = gd (inR (2)) (if (f_P_kindOf h p (f_P_parentOf h p x1)) = 2 then zY 49 56 [some (zR (some p)), some (zI x1), some (zI (f_P_parentOf h p x1))] [] h else zY 49 66 [some (zR (some p)), some (zI x1), some (zI (f_P_parentOf h p x1))] [] h) from zGo 2 49 52 _ _ _).trans ?_
        refine (gd_t (by decide) _).trans ?_
        refine iteC (fun c4 => ?_) (fun c4 => ?_)
        · skip
          refine (show zY 49 56 [some (zR (some p)), some (zI x1), some (zI (f_P_parentOf h p x1))] [] h = gd (zob h (some p) 5) (zY 49 60 [some (zR (some p)), some (zI x1), some (zI (f_P_parentOf h p x1))] [zR (hR h p 10)] h) from zGo 2 49 56 _ _ _).trans ?_
          refine (gd_t (⟨rfl, hp.1, (PS_n hp)⟩) _).trans ?_
          refine (congrArg (fun rz => zY 49 60 [some (zR (some p)), some (zI x1), some (zI (f_P_parentOf h p x1))] (zR rz :: []) h) (PS_r hp 10 rfl)).trans ?_
          refine (show zY 49 60 [some (zR (some p)), some (zI x1), some (zI (f_P_parentOf h p x1))] [zR (some (p + 8))] h = gd (zokw h (some (p + 8)) 22 x1) (gd (inR (x1 + 1)) (gd (inR (1)) (zY 49 2 [some (zR (some p)), some (zI (x1 + 1)), some (zI (f_P_parentOf h p x1))] [] (sI h (p + 8) x1.toNat (f_P_parentOf h p x1))))) from zGo 6 49 60 _ _ _).trans ?_
          refine (gd_t ((ciw (PS_t hp 8 _ rfl rfl) (PS_ni hp 8 rfl) (PS_l hp 8 rfl)).2 (by omega)) _).trans ?_
          refine gd_c Iff.rfl (fun c5 => ?_)
          refine (gd_t (by decide) _).trans ?_
          rfl
        · skip
          refine (show zY 49 66 [some (zR (some p)), some (zI x1), some (zI (f_P_parentOf h p x1))] [] h = gd (zob h (some p) 5) (zY 49 70 [some (zR (some p)), some (zI x1), some (zI (f_P_parentOf h p x1))] [zR (hR h p 10)] h) from zGo 2 49 66 _ _ _).trans ?_
          refine (gd_t (⟨rfl, hp.1, (PS_n hp)⟩) _).trans ?_
          refine (congrArg (fun rz => zY 49 70 [some (zR (some p)), some (zI x1), some (zI (f_P_parentOf h p x1))] (zR rz :: []) h) (PS_r hp 10 rfl)).trans ?_
          refine (show zY 49 70 [some (zR (some p)), some (zI x1), some (zI (f_P_parentOf h p x1))] [zR (some (p + 8))] h = gd (false = zctor 50 ∧ zcs [zI x1, zR (some (p + 8))] ≤ 8 ∧ zrm 49 (zrf 50 + 1) (8 + (zmaxl 50 + 11) + zrl 50) = true ∧ zcs [zR (some p), zI (f_P_parentOf h p x1)] ≤ zmaxl 50) (gd (zob h (some p) 5) (zBack zY 49 73 76 [some (zR (some p)), some (zI x1), some (zI (f_P_parentOf h p x1))] [zI x1, zR (some (p + 8))] (zC 50 [zR (some p), zI (f_P_parentOf h p x1)] h))) from zGo 4 49 70 _ _ _).trans ?_
          refine (gd_t (⟨rfl, Nat.le_of_ble_eq_true rfl, rfl, Nat.le_of_ble_eq_true rfl⟩) _).trans ?_
          refine (gd_t (⟨rfl, hp.1, (PS_n hp)⟩) _).trans ?_
          refine (congrArg (zBack zY 49 73 76 [some (zR (some p)), some (zI x1), some (zI (f_P_parentOf h p x1))] [zI x1, zR (some (p + 8))]) (e_P_thenOf hp)).trans ?_
          refine (show zY 49 76 [some (zR (some p)), some (zI x1), some (zI (f_P_parentOf h p x1))] [zI (f_P_thenOf h p (f_P_parentOf h p x1)), zI x1, zR (some (p + 8))] h = gd (zokw h (some (p + 8)) 22 x1) (gd (inR (x1 + 1)) (gd (inR (1)) (zY 49 2 [some (zR (some p)), some (zI (x1 + 1)), some (zI (f_P_parentOf h p x1))] [] (sI h (p + 8) x1.toNat (f_P_thenOf h p (f_P_parentOf h p x1)))))) from zGo 3 49 76 _ _ _).trans ?_
          refine (gd_t ((ciw (PS_t hp 8 _ rfl rfl) (PS_ni hp 8 rfl) (PS_l hp 8 rfl)).2 (by omega)) _).trans ?_
          refine gd_c Iff.rfl (fun c6 => ?_)
          refine (gd_t (by decide) _).trans ?_
          rfl
      · skip
        refine (show zY 49 32 [some (zR (some p)), some (zI x1), some (zI (f_P_parentOf h p x1))] [] h = gd (zob h (some p) 5) (zY 49 36 [some (zR (some p)), some (zI x1), some (zI (f_P_parentOf h p x1))] [zR (hR h p 10)] h) from zGo 2 49 32 _ _ _).trans ?_
        refine (gd_t (⟨rfl, hp.1, (PS_n hp)⟩) _).trans ?_
        refine (congrArg (fun rz => zY 49 36 [some (zR (some p)), some (zI x1), some (zI (f_P_parentOf h p x1))] (zR rz :: []) h) (PS_r hp 10 rfl)).trans ?_
        refine (show zY 49 36 [some (zR (some p)), some (zI x1), some (zI (f_P_parentOf h p x1))] [zR (some (p + 8))] h = gd (zob h (some p) 5) (zY 49 41 [some (zR (some p)), some (zI x1), some (zI (f_P_parentOf h p x1))] [zR (hR h p 7), zI x1, zR (some (p + 8))] h) from zGo 3 49 36 _ _ _).trans ?_
        refine (gd_t (⟨rfl, hp.1, (PS_n hp)⟩) _).trans ?_
        refine (congrArg (fun rz => zY 49 41 [some (zR (some p)), some (zI x1), some (zI (f_P_parentOf h p x1))] (zR rz :: zI x1 :: zR (some (p + 8)) :: []) h) (PS_r hp 7 rfl)).trans ?_
        refine (show zY 49 41 [some (zR (some p)), some (zI x1), some (zI (f_P_parentOf h p x1))] [zR (some (p + 5)), zI x1, zR (some (p + 8))] h = gd (zok h (some (p + 5)) 22 x1) (gd (zokw h (some (p + 8)) 22 x1) (gd (inR (x1 + 1)) (gd (inR (1)) (zY 49 2 [some (zR (some p)), some (zI (x1 + 1)), some (zI (f_P_parentOf h p x1))] [] (sI h (p + 8) x1.toNat (hI h (p + 5) x1.toNat)))))) from zGo 6 49 41 _ _ _).trans ?_
        refine (gd_t ((ci (PS_t hp 5 _ rfl rfl) (PS_l hp 5 rfl)).2 (by omega)) _).trans ?_
        refine (gd_t ((ciw (PS_t hp 8 _ rfl rfl) (PS_ni hp 8 rfl) (PS_l hp 8 rfl)).2 (by omega)) _).trans ?_
        refine gd_c Iff.rfl (fun c7 => ?_)
        refine (gd_t (by decide) _).trans ?_
        rfl
    · skip
      refine (show zY 49 83 [some (zR (some p)), some (zI x1), none] [] h = gd (([] : List zV).isEmpty = true ∧ zrk 49 = 0) (some (.inl (none), h)) from zGo 1 49 83 _ _ _).trans ?_
      refine (gd_t (⟨rfl, rfl⟩) _).trans ?_
      rfl
  · skip
    refine (show zY 49 83 [some (zR (some p)), some (zI x1), none] [] h = gd (([] : List zV).isEmpty = true ∧ zrk 49 = 0) (some (.inl (none), h)) from zGo 1 49 83 _ _ _).trans ?_
    refine (gd_t (⟨rfl, rfl⟩) _).trans ?_
    rfl
theorem q_V_putKeep {h : zH} {v : Nat} {x1 : Int} {f : Nat} (hv : VS h v) (hf : FS h f) : zC 125 [zR (some v), zI x1, zR (some f)] h =
    if b_V_fits x1 then
      some (.inl (none), (sR h (v + 1) x1.toNat (some f)))
    else
      some (.inl (none), h) := by
  refine (show zC 125 [zR (some v), zI x1, zR (some f)] h = gd (false = zctor 126 ∧ zcs [] ≤ 8 ∧ zrm 125 (zrf 126 + 1) (8 + (zmaxl 126 + 11) + zrl 126) = true ∧ zcs [zI x1] ≤ zmaxl 126) (zBack zY 125 1 4 [some (zR (some v)), some (zI x1), some (zR (some f))] [] (zC 126 [zI x1] h)) from zGo 2 125 0 _ _ _).trans ?_
  refine (gd_t (⟨rfl, Nat.le_of_ble_eq_true rfl, rfl, Nat.le_of_ble_eq_true rfl⟩) _).trans ?_
  refine (congrArg (zBack zY 125 1 4 [some (zR (some v)), some (zI x1), some (zR (some f))] []) (e_V_fits)).trans ?_
  refine (show zY 125 4 [some (zR (some v)), some (zI x1), some (zR (some f))] [zI (if b_V_fits x1 then (1 : Int) else 0)] h = if (if b_V_fits x1 then (1 : Int) else 0) = 0 then zY 125 14 [some (zR (some v)), some (zI x1), some (zR (some f))] [] h else zY 125 7 [some (zR (some v)), some (zI x1), some (zR (some f))] [] h from zGo 1 125 4 _ _ _).trans ?_
  refine iteB (fun c0 => ?_) (fun c0 => ?_)
  · skip
    refine (show zY 125 7 [some (zR (some v)), some (zI x1), some (zR (some f))] [] h = gd (zob h (some v) 10) (zY 125 11 [some (zR (some v)), some (zI x1), some (zR (some f))] [zR (hR h v 3)] h) from zGo 2 125 7 _ _ _).trans ?_
    refine (gd_t (⟨rfl, hv.1, (VS_n hv)⟩) _).trans ?_
    refine (congrArg (fun rz => zY 125 11 [some (zR (some v)), some (zI x1), some (zR (some f))] (zR rz :: []) h) (VS_r hv 3 rfl)).trans ?_
    refine (show zY 125 11 [some (zR (some v)), some (zI x1), some (zR (some f))] [zR (some (v + 1))] h = gd (zokw h (some (v + 1)) 25 x1 ∧ zob h (some f) 2 ∨ zokw h (some (v + 1)) 26 x1 ∧ zob h (some f) 10) (gd (([] : List zV).isEmpty = true ∧ zrk 125 = 0) (some (.inl (none), (sR h (v + 1) x1.toNat (some f))))) from zGo 4 125 11 _ _ _).trans ?_
    refine (gd_t ((caa25 (v := some f) (VS_t hv 1 _ rfl rfl) (VS_ni hv 1 rfl) (VS_l hv 1 rfl) ⟨rfl, hf.1, (FS_n hf)⟩).2 (by (try simp only [b_V_fits] at *); omega)) _).trans ?_
    refine (gd_t (⟨rfl, rfl⟩) _).trans ?_
    rfl
  · skip
    refine (show zY 125 14 [some (zR (some v)), some (zI x1), some (zR (some f))] [] h = gd (([] : List zV).isEmpty = true ∧ zrk 125 = 0) (some (.inl (none), h)) from zGo 1 125 14 _ _ _).trans ?_
    refine (gd_t (⟨rfl, rfl⟩) _).trans ?_
    rfl
theorem q_V_putLess {h : zH} {v : Nat} {x1 : Int} {f : Nat} (hv : VS h v) (hf : FS h f) : zC 127 [zR (some v), zI x1, zR (some f)] h =
    if b_V_fits x1 then
      some (.inl (none), (sR h (v + 2) x1.toNat (some f)))
    else
      some (.inl (none), h) := by
  refine (show zC 127 [zR (some v), zI x1, zR (some f)] h = gd (false = zctor 126 ∧ zcs [] ≤ 8 ∧ zrm 127 (zrf 126 + 1) (8 + (zmaxl 126 + 11) + zrl 126) = true ∧ zcs [zI x1] ≤ zmaxl 126) (zBack zY 127 1 4 [some (zR (some v)), some (zI x1), some (zR (some f))] [] (zC 126 [zI x1] h)) from zGo 2 127 0 _ _ _).trans ?_
  refine (gd_t (⟨rfl, Nat.le_of_ble_eq_true rfl, rfl, Nat.le_of_ble_eq_true rfl⟩) _).trans ?_
  refine (congrArg (zBack zY 127 1 4 [some (zR (some v)), some (zI x1), some (zR (some f))] []) (e_V_fits)).trans ?_
  refine (show zY 127 4 [some (zR (some v)), some (zI x1), some (zR (some f))] [zI (if b_V_fits x1 then (1 : Int) else 0)] h = if (if b_V_fits x1 then (1 : Int) else 0) = 0 then zY 127 14 [some (zR (some v)), some (zI x1), some (zR (some f))] [] h else zY 127 7 [some (zR (some v)), some (zI x1), some (zR (some f))] [] h from zGo 1 127 4 _ _ _).trans ?_
  refine iteB (fun c0 => ?_) (fun c0 => ?_)
  · skip
    refine (show zY 127 7 [some (zR (some v)), some (zI x1), some (zR (some f))] [] h = gd (zob h (some v) 10) (zY 127 11 [some (zR (some v)), some (zI x1), some (zR (some f))] [zR (hR h v 4)] h) from zGo 2 127 7 _ _ _).trans ?_
    refine (gd_t (⟨rfl, hv.1, (VS_n hv)⟩) _).trans ?_
    refine (congrArg (fun rz => zY 127 11 [some (zR (some v)), some (zI x1), some (zR (some f))] (zR rz :: []) h) (VS_r hv 4 rfl)).trans ?_
    refine (show zY 127 11 [some (zR (some v)), some (zI x1), some (zR (some f))] [zR (some (v + 2))] h = gd (zokw h (some (v + 2)) 25 x1 ∧ zob h (some f) 2 ∨ zokw h (some (v + 2)) 26 x1 ∧ zob h (some f) 10) (gd (([] : List zV).isEmpty = true ∧ zrk 127 = 0) (some (.inl (none), (sR h (v + 2) x1.toNat (some f))))) from zGo 4 127 11 _ _ _).trans ?_
    refine (gd_t ((caa25 (v := some f) (VS_t hv 2 _ rfl rfl) (VS_ni hv 2 rfl) (VS_l hv 2 rfl) ⟨rfl, hf.1, (FS_n hf)⟩).2 (by (try simp only [b_V_fits] at *); omega)) _).trans ?_
    refine (gd_t (⟨rfl, rfl⟩) _).trans ?_
    rfl
  · skip
    refine (show zY 127 14 [some (zR (some v)), some (zI x1), some (zR (some f))] [] h = gd (([] : List zV).isEmpty = true ∧ zrk 127 = 0) (some (.inl (none), h)) from zGo 1 127 14 _ _ _).trans ?_
    refine (gd_t (⟨rfl, rfl⟩) _).trans ?_
    rfl
theorem q_V_putFilling {h : zH} {v : Nat} {x1 : Int} {x2 : Int} (hv : VS h v) : zC 133 [zR (some v), zI x1, zI x2] h =
    if b_V_fits x1 then
      some (.inl (none), (sI h (v + 3) x1.toNat x2))
    else
      some (.inl (none), h) := by
  refine (show zC 133 [zR (some v), zI x1, zI x2] h = gd (false = zctor 126 ∧ zcs [] ≤ 8 ∧ zrm 133 (zrf 126 + 1) (8 + (zmaxl 126 + 11) + zrl 126) = true ∧ zcs [zI x1] ≤ zmaxl 126) (zBack zY 133 1 4 [some (zR (some v)), some (zI x1), some (zI x2)] [] (zC 126 [zI x1] h)) from zGo 2 133 0 _ _ _).trans ?_
  refine (gd_t (⟨rfl, Nat.le_of_ble_eq_true rfl, rfl, Nat.le_of_ble_eq_true rfl⟩) _).trans ?_
  refine (congrArg (zBack zY 133 1 4 [some (zR (some v)), some (zI x1), some (zI x2)] []) (e_V_fits)).trans ?_
  refine (show zY 133 4 [some (zR (some v)), some (zI x1), some (zI x2)] [zI (if b_V_fits x1 then (1 : Int) else 0)] h = if (if b_V_fits x1 then (1 : Int) else 0) = 0 then zY 133 14 [some (zR (some v)), some (zI x1), some (zI x2)] [] h else zY 133 7 [some (zR (some v)), some (zI x1), some (zI x2)] [] h from zGo 1 133 4 _ _ _).trans ?_
  refine iteB (fun c0 => ?_) (fun c0 => ?_)
  · skip
    refine (show zY 133 7 [some (zR (some v)), some (zI x1), some (zI x2)] [] h = gd (zob h (some v) 10) (zY 133 11 [some (zR (some v)), some (zI x1), some (zI x2)] [zR (hR h v 5)] h) from zGo 2 133 7 _ _ _).trans ?_
    refine (gd_t (⟨rfl, hv.1, (VS_n hv)⟩) _).trans ?_
    refine (congrArg (fun rz => zY 133 11 [some (zR (some v)), some (zI x1), some (zI x2)] (zR rz :: []) h) (VS_r hv 5 rfl)).trans ?_
    refine (show zY 133 11 [some (zR (some v)), some (zI x1), some (zI x2)] [zR (some (v + 3))] h = gd (zokw h (some (v + 3)) 22 x1) (gd (([] : List zV).isEmpty = true ∧ zrk 133 = 0) (some (.inl (none), (sI h (v + 3) x1.toNat x2)))) from zGo 4 133 11 _ _ _).trans ?_
    refine (gd_t ((ciw (VS_t hv 3 _ rfl rfl) (VS_ni hv 3 rfl) (VS_l hv 3 rfl)).2 (by (try simp only [b_V_fits] at *); omega)) _).trans ?_
    refine (gd_t (⟨rfl, rfl⟩) _).trans ?_
    rfl
  · skip
    refine (show zY 133 14 [some (zR (some v)), some (zI x1), some (zI x2)] [] h = gd (([] : List zV).isEmpty = true ∧ zrk 133 = 0) (some (.inl (none), h)) from zGo 1 133 14 _ _ _).trans ?_
    refine (gd_t (⟨rfl, rfl⟩) _).trans ?_
    rfl
theorem q_V_putPrice {h : zH} {v : Nat} {x1 : Int} {x2 : Int} (hv : VS h v) : zC 135 [zR (some v), zI x1, zI x2] h =
    if b_V_fits x1 then
      some (.inl (none), (sI h (v + 4) x1.toNat x2))
    else
      some (.inl (none), h) := by
  refine (show zC 135 [zR (some v), zI x1, zI x2] h = gd (false = zctor 126 ∧ zcs [] ≤ 8 ∧ zrm 135 (zrf 126 + 1) (8 + (zmaxl 126 + 11) + zrl 126) = true ∧ zcs [zI x1] ≤ zmaxl 126) (zBack zY 135 1 4 [some (zR (some v)), some (zI x1), some (zI x2)] [] (zC 126 [zI x1] h)) from zGo 2 135 0 _ _ _).trans ?_
  refine (gd_t (⟨rfl, Nat.le_of_ble_eq_true rfl, rfl, Nat.le_of_ble_eq_true rfl⟩) _).trans ?_
  refine (congrArg (zBack zY 135 1 4 [some (zR (some v)), some (zI x1), some (zI x2)] []) (e_V_fits)).trans ?_
  refine (show zY 135 4 [some (zR (some v)), some (zI x1), some (zI x2)] [zI (if b_V_fits x1 then (1 : Int) else 0)] h = if (if b_V_fits x1 then (1 : Int) else 0) = 0 then zY 135 14 [some (zR (some v)), some (zI x1), some (zI x2)] [] h else zY 135 7 [some (zR (some v)), some (zI x1), some (zI x2)] [] h from zGo 1 135 4 _ _ _).trans ?_
  refine iteB (fun c0 => ?_) (fun c0 => ?_)
  · skip
    refine (show zY 135 7 [some (zR (some v)), some (zI x1), some (zI x2)] [] h = gd (zob h (some v) 10) (zY 135 11 [some (zR (some v)), some (zI x1), some (zI x2)] [zR (hR h v 6)] h) from zGo 2 135 7 _ _ _).trans ?_
    refine (gd_t (⟨rfl, hv.1, (VS_n hv)⟩) _).trans ?_
    refine (congrArg (fun rz => zY 135 11 [some (zR (some v)), some (zI x1), some (zI x2)] (zR rz :: []) h) (VS_r hv 6 rfl)).trans ?_
    refine (show zY 135 11 [some (zR (some v)), some (zI x1), some (zI x2)] [zR (some (v + 4))] h = gd (zokw h (some (v + 4)) 22 x1) (gd (([] : List zV).isEmpty = true ∧ zrk 135 = 0) (some (.inl (none), (sI h (v + 4) x1.toNat x2)))) from zGo 4 135 11 _ _ _).trans ?_
    refine (gd_t ((ciw (VS_t hv 4 _ rfl rfl) (VS_ni hv 4 rfl) (VS_l hv 4 rfl)).2 (by (try simp only [b_V_fits] at *); omega)) _).trans ?_
    refine (gd_t (⟨rfl, rfl⟩) _).trans ?_
    rfl
  · skip
    refine (show zY 135 14 [some (zR (some v)), some (zI x1), some (zI x2)] [] h = gd (([] : List zV).isEmpty = true ∧ zrk 135 = 0) (some (.inl (none), h)) from zGo 1 135 14 _ _ _).trans ?_
    refine (gd_t (⟨rfl, rfl⟩) _).trans ?_
    rfl
theorem q_Pa_parseVariable {h : zH} {x1 : Int} {p : Nat} (KC : KC h) (rp : hR h 5 4 = some p) (hp : PS h p) : zC 32 [zR (some 5), zI x1] h =
    if b_W_isVariable (hI h 7 0) then
      gd (-2147483648 ≤ (hI h 7 0) - 4 ∧ (hI h 7 0) - 4 < 2147483648) (
      zBack zY 32 27 30 [some (zR (some 5)), some (zI x1)] [] (zC 44 [zR (some p), zI x1, zI ((hI h 7 0) - 4)] h))
    else
      zBack zY 32 42 45 [some (zR (some 5)), some (zI x1)] [] (zC 27 [zR (some 5), zI 1] h) := by
  refine (show zC 32 [zR (some 5), zI x1] h = gd (zob h (some 5) 4) (zY 32 4 [some (zR (some 5)), some (zI x1)] [zR (hR h 5 2)] h) from zGo 2 32 0 _ _ _).trans ?_
  refine (gd_t (⟨rfl, (PTC KC 5 _ rfl rfl), (PNC KC 5 rfl)⟩) _).trans ?_
  refine (congrArg (fun rz => zY 32 4 [some (zR (some 5)), some (zI x1)] (zR rz :: []) h) (PRC KC 5 2 _ rfl)).trans ?_
  refine (show zY 32 4 [some (zR (some 5)), some (zI x1)] [zR (some 7)] h = gd (zob h (some 7) 7) (gd (false = zctor 145 ∧ zcs [] ≤ 8 ∧ zrm 32 (zrf 145 + 1) (8 + (zmaxl 145 + 11) + zrl 145) = true ∧ zcs [zI (hI h 7 0)] ≤ zmaxl 145) (zBack zY 32 7 10 [some (zR (some 5)), some (zI x1)] [] (zC 145 [zI (hI h 7 0)] h))) from zGo 2 32 4 _ _ _).trans ?_
  refine (gd_t (⟨rfl, (PTC KC 7 _ rfl rfl), (PNC KC 7 rfl)⟩) _).trans ?_
  refine (gd_t (⟨rfl, Nat.le_of_ble_eq_true rfl, rfl, Nat.le_of_ble_eq_true rfl⟩) _).trans ?_
  refine (congrArg (zBack zY 32 7 10 [some (zR (some 5)), some (zI x1)] []) (e_W_isVariable)).trans ?_
  refine (show zY 32 10 [some (zR (some 5)), some (zI x1)] [zI (if b_W_isVariable (hI h 7 0) then (1 : Int) else 0)] h = if (if b_W_isVariable (hI h 7 0) then (1 : Int) else 0) = 0 then zY 32 40 [some (zR (some 5)), some (zI x1)] [] h else zY 32 13 [some (zR (some 5)), some (zI x1)] [] h from zGo 1 32 10 _ _ _).trans ?_
  refine iteB (fun c0 => ?_) (fun c0 => ?_)
  · skip
    refine (show zY 32 13 [some (zR (some 5)), some (zI x1)] [] h = gd (zob h (some 5) 4) (zY 32 17 [some (zR (some 5)), some (zI x1)] [zR (hR h 5 4)] h) from zGo 2 32 13 _ _ _).trans ?_
    refine (gd_t (⟨rfl, (PTC KC 5 _ rfl rfl), (PNC KC 5 rfl)⟩) _).trans ?_
    refine (congrArg (fun rz => zY 32 17 [some (zR (some 5)), some (zI x1)] (zR rz :: []) h) rp).trans ?_
    refine (show zY 32 17 [some (zR (some 5)), some (zI x1)] [zR (some p)] h = gd (zob h (some 5) 4) (zY 32 22 [some (zR (some 5)), some (zI x1)] [zR (hR h 5 2), zI x1, zR (some p)] h) from zGo 3 32 17 _ _ _).trans ?_
    refine (gd_t (⟨rfl, (PTC KC 5 _ rfl rfl), (PNC KC 5 rfl)⟩) _).trans ?_
    refine (congrArg (fun rz => zY 32 22 [some (zR (some 5)), some (zI x1)] (zR rz :: zI x1 :: zR (some p) :: []) h) (PRC KC 5 2 _ rfl)).trans ?_
    refine (show zY 32 22 [some (zR (some 5)), some (zI x1)] [zR (some 7), zI x1, zR (some p)] h = gd (zob h (some 7) 7) (gd (inR (4)) (gd (inR ((hI h 7 0) - 4)) (gd (false = zctor 44 ∧ zcs [] ≤ 8 ∧ zrm 32 (zrf 44 + 1) (8 + (zmaxl 44 + 11) + zrl 44) = true ∧ zcs [zR (some p), zI x1, zI ((hI h 7 0) - 4)] ≤ zmaxl 44) (gd (zob h (some p) 5) (zBack zY 32 27 30 [some (zR (some 5)), some (zI x1)] [] (zC 44 [zR (some p), zI x1, zI ((hI h 7 0) - 4)] h)))))) from zGo 4 32 22 _ _ _).trans ?_
    refine (gd_t (⟨rfl, (PTC KC 7 _ rfl rfl), (PNC KC 7 rfl)⟩) _).trans ?_
    refine (gd_t (by decide) _).trans ?_
    refine gd_c Iff.rfl (fun c1 => ?_)
    refine (gd_t (⟨rfl, Nat.le_of_ble_eq_true rfl, rfl, Nat.le_of_ble_eq_true rfl⟩) _).trans ?_
    refine (gd_t (⟨rfl, hp.1, (PS_n hp)⟩) _).trans ?_
    rfl
  · skip
    refine (show zY 32 40 [some (zR (some 5)), some (zI x1)] [] h = gd (inR (1)) (gd (false = zctor 27 ∧ zcs [] ≤ 8 ∧ zrm 32 (zrf 27 + 1) (8 + (zmaxl 27 + 11) + zrl 27) = true ∧ zcs [zR (some 5), zI 1] ≤ zmaxl 27) (gd (zob h (some 5) 4) (zBack zY 32 42 45 [some (zR (some 5)), some (zI x1)] [] (zC 27 [zR (some 5), zI 1] h)))) from zGo 3 32 40 _ _ _).trans ?_
    refine (gd_t (by decide) _).trans ?_
    refine (gd_t (⟨rfl, Nat.le_of_ble_eq_true rfl, rfl, Nat.le_of_ble_eq_true rfl⟩) _).trans ?_
    refine (gd_t (⟨rfl, (PTC KC 5 _ rfl rfl), (PNC KC 5 rfl)⟩) _).trans ?_
    rfl
theorem q_Pa_parseVariable_r30 {h : zH} {x1 : Int} (KC : KC h) : zBack zY 32 27 30 [some (zR (some 5)), some (zI x1)] [] (some (.inl (none), h)) =
    zBack zY 32 34 37 [some (zR (some 5)), some (zI x1)] [] (zC 91 [zR (some 7)] h) := by
  refine (show zBack zY 32 27 30 [some (zR (some 5)), some (zI x1)] [] (some (.inl (none), h)) = gd (zob h (some 5) 4) (zY 32 34 [some (zR (some 5)), some (zI x1)] [zR (hR h 5 2)] h) from zGo 2 32 30 _ _ _).trans ?_
  refine (gd_t (⟨rfl, (PTC KC 5 _ rfl rfl), (PNC KC 5 rfl)⟩) _).trans ?_
  refine (congrArg (fun rz => zY 32 34 [some (zR (some 5)), some (zI x1)] (zR rz :: []) h) (PRC KC 5 2 _ rfl)).trans ?_
  refine (show zY 32 34 [some (zR (some 5)), some (zI x1)] [zR (some 7)] h = gd (false = zctor 91 ∧ zcs [] ≤ 8 ∧ zrm 32 (zrf 91 + 1) (8 + (zmaxl 91 + 11) + zrl 91) = true ∧ zcs [zR (some 7)] ≤ zmaxl 91) (gd (zob h (some 7) 7) (zBack zY 32 34 37 [some (zR (some 5)), some (zI x1)] [] (zC 91 [zR (some 7)] h))) from zGo 1 32 34 _ _ _).trans ?_
  refine (gd_t (⟨rfl, Nat.le_of_ble_eq_true rfl, rfl, Nat.le_of_ble_eq_true rfl⟩) _).trans ?_
  refine (gd_t (⟨rfl, (PTC KC 7 _ rfl rfl), (PNC KC 7 rfl)⟩) _).trans ?_
  rfl
theorem q_Pa_parseVariable_r37 {h : zH} {x1 : Int} (KC : KC h) : zBack zY 32 34 37 [some (zR (some 5)), some (zI x1)] [] (some (.inl (none), h)) =
    some (.inl (none), h) := by
  refine (show zBack zY 32 34 37 [some (zR (some 5)), some (zI x1)] [] (some (.inl (none), h)) = gd (([] : List zV).isEmpty = true ∧ zrk 32 = 0) (some (.inl (none), h)) from zGo 2 32 37 _ _ _).trans ?_
  refine (gd_t (⟨rfl, rfl⟩) _).trans ?_
  rfl
theorem q_Pa_parseVariable_r45 {h : zH} {x1 : Int} (KC : KC h) : zBack zY 32 42 45 [some (zR (some 5)), some (zI x1)] [] (some (.inl (none), h)) =
    some (.inl (none), h) := by
  refine (show zBack zY 32 42 45 [some (zR (some 5)), some (zI x1)] [] (some (.inl (none), h)) = gd (([] : List zV).isEmpty = true ∧ zrk 32 = 0) (some (.inl (none), h)) from zGo 1 32 45 _ _ _).trans ?_
  refine (gd_t (⟨rfl, rfl⟩) _).trans ?_
  rfl
theorem q_Pa_closeStatement {h : zH} {p : Nat} (KC : KC h) (rp : hR h 5 4 = some p) (hp : PS h p) : zC 33 [zR (some 5)] h =
    zY 33 31 [some (zR (some 5)), some (zI (f_P_parentOf h p (hI h 5 6))), some (zI (f_P_secondOf h p (f_P_parentOf h p (hI h 5 6)))), some (zI 0), some (zI (f_P_secondOf h p (f_P_parentOf h p (hI h 5 6))))] [] (sI h 5 7 0) := by
  refine (show zC 33 [zR (some 5)] h = gd (zob h (some 5) 4) (zY 33 4 [some (zR (some 5)), none, none, none, none] [zR (hR h 5 4)] h) from zGo 2 33 0 _ _ _).trans ?_
  refine (gd_t (⟨rfl, (PTC KC 5 _ rfl rfl), (PNC KC 5 rfl)⟩) _).trans ?_
  refine (congrArg (fun rz => zY 33 4 [some (zR (some 5)), none, none, none, none] (zR rz :: []) h) rp).trans ?_
  refine (show zY 33 4 [some (zR (some 5)), none, none, none, none] [zR (some p)] h = gd (zob h (some 5) 4) (gd (false = zctor 47 ∧ zcs [] ≤ 8 ∧ zrm 33 (zrf 47 + 1) (8 + (zmaxl 47 + 11) + zrl 47) = true ∧ zcs [zR (some p), zI (hI h 5 6)] ≤ zmaxl 47) (gd (zob h (some p) 5) (zBack zY 33 8 11 [some (zR (some 5)), none, none, none, none] [] (zC 47 [zR (some p), zI (hI h 5 6)] h)))) from zGo 3 33 4 _ _ _).trans ?_
  refine (gd_t (⟨rfl, (PTC KC 5 _ rfl rfl), (PNC KC 5 rfl)⟩) _).trans ?_
  refine (gd_t (⟨rfl, Nat.le_of_ble_eq_true rfl, rfl, Nat.le_of_ble_eq_true rfl⟩) _).trans ?_
  refine (gd_t (⟨rfl, hp.1, (PS_n hp)⟩) _).trans ?_
  refine (congrArg (zBack zY 33 8 11 [some (zR (some 5)), none, none, none, none] []) (e_P_parentOf hp)).trans ?_
  refine (show zY 33 11 [some (zR (some 5)), none, none, none, none] [zI (f_P_parentOf h p (hI h 5 6))] h = gd (zob h (some 5) 4) (zY 33 16 [some (zR (some 5)), some (zI (f_P_parentOf h p (hI h 5 6))), none, none, none] [zR (hR h 5 4)] h) from zGo 3 33 11 _ _ _).trans ?_
  refine (gd_t (⟨rfl, (PTC KC 5 _ rfl rfl), (PNC KC 5 rfl)⟩) _).trans ?_
  refine (congrArg (fun rz => zY 33 16 [some (zR (some 5)), some (zI (f_P_parentOf h p (hI h 5 6))), none, none, none] (zR rz :: []) h) rp).trans ?_
  refine (show zY 33 16 [some (zR (some 5)), some (zI (f_P_parentOf h p (hI h 5 6))), none, none, none] [zR (some p)] h = gd (false = zctor 40 ∧ zcs [] ≤ 8 ∧ zrm 33 (zrf 40 + 1) (8 + (zmaxl 40 + 11) + zrl 40) = true ∧ zcs [zR (some p), zI (f_P_parentOf h p (hI h 5 6))] ≤ zmaxl 40) (gd (zob h (some p) 5) (zBack zY 33 17 20 [some (zR (some 5)), some (zI (f_P_parentOf h p (hI h 5 6))), none, none, none] [] (zC 40 [zR (some p), zI (f_P_parentOf h p (hI h 5 6))] h))) from zGo 2 33 16 _ _ _).trans ?_
  refine (gd_t (⟨rfl, Nat.le_of_ble_eq_true rfl, rfl, Nat.le_of_ble_eq_true rfl⟩) _).trans ?_
  refine (gd_t (⟨rfl, hp.1, (PS_n hp)⟩) _).trans ?_
  refine (congrArg (zBack zY 33 17 20 [some (zR (some 5)), some (zI (f_P_parentOf h p (hI h 5 6))), none, none, none] []) (e_P_secondOf hp)).trans ?_
  refine (show zY 33 20 [some (zR (some 5)), some (zI (f_P_parentOf h p (hI h 5 6))), none, none, none] [zI (f_P_secondOf h p (f_P_parentOf h p (hI h 5 6)))] h = gd (inR (0)) (gd (zob h (some 5) 4) (gd ((0 : Int) = 0 ∨ (0 : Int) = 1) (gd (inR (0)) (zY 33 31 [some (zR (some 5)), some (zI (f_P_parentOf h p (hI h 5 6))), some (zI (f_P_secondOf h p (f_P_parentOf h p (hI h 5 6)))), some (zI 0), some (zI (f_P_secondOf h p (f_P_parentOf h p (hI h 5 6))))] [] (sI h 5 7 0))))) from zGo 8 33 20 _ _ _).trans ?_
  refine (gd_t (by decide) _).trans ?_
  refine (gd_t (⟨rfl, (PTC KC 5 _ rfl rfl), (PNC KC 5 rfl)⟩) _).trans ?_
  refine (gd_t (by decide) _).trans ?_
  refine (gd_t (by decide) _).trans ?_
  rfl
theorem q_Pa_closeStatement_31 {h : zH} {x1 : Int} {x2 : Int} {x3 : Int} {x4 : Int} {p : Nat} (KC : KC h) (rp : hR h 5 4 = some p) (hp : PS h p) : zY 33 31 [some (zR (some 5)), some (zI x1), some (zI x2), some (zI x3), some (zI x4)] [] h =
    if x3 < 24 then
      if x4 = (-1) then
        some (.inl (none), (sI h 5 6 x1))
      else
        if x4 = (hI h 5 6) then
          gd (-2147483648 ≤ x3 + 1 ∧ x3 + 1 < 2147483648) (
          zY 33 31 [some (zR (some 5)), some (zI x1), some (zI x2), some (zI (x3 + 1)), some (zI (f_P_nextOf (sI h 5 7 1) p x4))] [] (sI h 5 7 1))
        else
          gd (-2147483648 ≤ x3 + 1 ∧ x3 + 1 < 2147483648) (
          zY 33 31 [some (zR (some 5)), some (zI x1), some (zI x2), some (zI (x3 + 1)), some (zI (f_P_nextOf h p x4))] [] h)
    else
      some (.inl (none), (sI h 5 6 x1)) := by
  refine (show zY 33 31 [some (zR (some 5)), some (zI x1), some (zI x2), some (zI x3), some (zI x4)] [] h = gd (-128 ≤ (24 : Int) ∧ (24 : Int) < 128) (if x3 < 24 then zY 33 37 [some (zR (some 5)), some (zI x1), some (zI x2), some (zI x3), some (zI x4)] [] h else zY 33 74 [some (zR (some 5)), some (zI x1), some (zI x2), some (zI x3), some (zI x4)] [] h) from zGo 3 33 31 _ _ _).trans ?_
  refine (gd_t (by decide) _).trans ?_
  refine iteC (fun c0 => ?_) (fun c0 => ?_)
  · skip
    refine (show zY 33 37 [some (zR (some 5)), some (zI x1), some (zI x2), some (zI x3), some (zI x4)] [] h = gd (inR (-1)) (if x4 = (-1) then zY 33 74 [some (zR (some 5)), some (zI x1), some (zI x2), some (zI x3), some (zI x4)] [] h else zY 33 43 [some (zR (some 5)), some (zI x1), some (zI x2), some (zI x3), some (zI x4)] [] h) from zGo 3 33 37 _ _ _).trans ?_
    refine (gd_t (by decide) _).trans ?_
    refine iteC (fun c1 => ?_) (fun c1 => ?_)
    · skip
      refine (show zY 33 74 [some (zR (some 5)), some (zI x1), some (zI x2), some (zI x3), some (zI x4)] [] h = gd (zob h (some 5) 4) (gd (([] : List zV).isEmpty = true ∧ zrk 33 = 0) (some (.inl (none), (sI h 5 6 x1)))) from zGo 4 33 74 _ _ _).trans ?_
      refine (gd_t (⟨rfl, (PTC KC 5 _ rfl rfl), (PNC KC 5 rfl)⟩) _).trans ?_
      refine (gd_t (⟨rfl, rfl⟩) _).trans ?_
      rfl
    · skip
      refine (show zY 33 43 [some (zR (some 5)), some (zI x1), some (zI x2), some (zI x3), some (zI x4)] [] h = gd (zob h (some 5) 4) (if x4 = (hI h 5 6) then zY 33 52 [some (zR (some 5)), some (zI x1), some (zI x2), some (zI x3), some (zI x4)] [] h else zY 33 57 [some (zR (some 5)), some (zI x1), some (zI x2), some (zI x3), some (zI x4)] [] h) from zGo 4 33 43 _ _ _).trans ?_
      refine (gd_t (⟨rfl, (PTC KC 5 _ rfl rfl), (PNC KC 5 rfl)⟩) _).trans ?_
      refine iteC (fun c2 => ?_) (fun c2 => ?_)
      · skip
        refine (show zY 33 52 [some (zR (some 5)), some (zI x1), some (zI x2), some (zI x3), some (zI x4)] [] h = gd (inR (1)) (gd (zob h (some 5) 4) (gd ((1 : Int) = 0 ∨ (1 : Int) = 1) (gd (zob (sI h 5 7 1) (some 5) 4) (zY 33 61 [some (zR (some 5)), some (zI x1), some (zI x2), some (zI x3), some (zI x4)] [zR (hR h 5 4)] (sI h 5 7 1))))) from zGo 5 33 52 _ _ _).trans ?_
        refine (gd_t (by decide) _).trans ?_
        refine (gd_t (⟨rfl, (PTC KC 5 _ rfl rfl), (PNC KC 5 rfl)⟩) _).trans ?_
        refine (gd_t (by decide) _).trans ?_
        refine (gd_t (⟨rfl, (PTC KC 5 _ rfl rfl), (PNC KC 5 rfl)⟩) _).trans ?_
        refine (congrArg (fun rz => zY 33 61 [some (zR (some 5)), some (zI x1), some (zI x2), some (zI x3), some (zI x4)] (zR rz :: []) (sI h 5 7 1)) rp).trans ?_
        refine (show zY 33 61 [some (zR (some 5)), some (zI x1), some (zI x2), some (zI x3), some (zI x4)] [zR (some p)] (sI h 5 7 1) = gd (false = zctor 48 ∧ zcs [] ≤ 8 ∧ zrm 33 (zrf 48 + 1) (8 + (zmaxl 48 + 11) + zrl 48) = true ∧ zcs [zR (some p), zI x4] ≤ zmaxl 48) (gd (zob (sI h 5 7 1) (some p) 5) (zBack zY 33 63 66 [some (zR (some 5)), some (zI x1), some (zI x2), some (zI x3), some (zI x4)] [] (zC 48 [zR (some p), zI x4] (sI h 5 7 1)))) from zGo 2 33 61 _ _ _).trans ?_
        refine (gd_t (⟨rfl, Nat.le_of_ble_eq_true rfl, rfl, Nat.le_of_ble_eq_true rfl⟩) _).trans ?_
        refine (gd_t (⟨rfl, hp.1, (PS_n hp)⟩) _).trans ?_
        refine (congrArg (zBack zY 33 63 66 [some (zR (some 5)), some (zI x1), some (zI x2), some (zI x3), some (zI x4)] []) (e_P_nextOf (h := (sI h 5 7 1)) hp)).trans ?_
        refine (show zY 33 66 [some (zR (some 5)), some (zI x1), some (zI x2), some (zI x3), some (zI x4)] [zI (f_P_nextOf (sI h 5 7 1) p x4)] (sI h 5 7 1) = gd (inR (x3 + 1)) (gd (inR (1)) (zY 33 31 [some (zR (some 5)), some (zI x1), some (zI x2), some (zI (x3 + 1)), some (zI (f_P_nextOf (sI h 5 7 1) p x4))] [] (sI h 5 7 1))) from zGo 3 33 66 _ _ _).trans ?_
        refine gd_c Iff.rfl (fun c3 => ?_)
        refine (gd_t (by decide) _).trans ?_
        rfl
      · skip
        refine (show zY 33 57 [some (zR (some 5)), some (zI x1), some (zI x2), some (zI x3), some (zI x4)] [] h = gd (zob h (some 5) 4) (zY 33 61 [some (zR (some 5)), some (zI x1), some (zI x2), some (zI x3), some (zI x4)] [zR (hR h 5 4)] h) from zGo 2 33 57 _ _ _).trans ?_
        refine (gd_t (⟨rfl, (PTC KC 5 _ rfl rfl), (PNC KC 5 rfl)⟩) _).trans ?_
        refine (congrArg (fun rz => zY 33 61 [some (zR (some 5)), some (zI x1), some (zI x2), some (zI x3), some (zI x4)] (zR rz :: []) h) rp).trans ?_
        refine (show zY 33 61 [some (zR (some 5)), some (zI x1), some (zI x2), some (zI x3), some (zI x4)] [zR (some p)] h = gd (false = zctor 48 ∧ zcs [] ≤ 8 ∧ zrm 33 (zrf 48 + 1) (8 + (zmaxl 48 + 11) + zrl 48) = true ∧ zcs [zR (some p), zI x4] ≤ zmaxl 48) (gd (zob h (some p) 5) (zBack zY 33 63 66 [some (zR (some 5)), some (zI x1), some (zI x2), some (zI x3), some (zI x4)] [] (zC 48 [zR (some p), zI x4] h))) from zGo 2 33 61 _ _ _).trans ?_
        refine (gd_t (⟨rfl, Nat.le_of_ble_eq_true rfl, rfl, Nat.le_of_ble_eq_true rfl⟩) _).trans ?_
        refine (gd_t (⟨rfl, hp.1, (PS_n hp)⟩) _).trans ?_
        refine (congrArg (zBack zY 33 63 66 [some (zR (some 5)), some (zI x1), some (zI x2), some (zI x3), some (zI x4)] []) (e_P_nextOf hp)).trans ?_
        refine (show zY 33 66 [some (zR (some 5)), some (zI x1), some (zI x2), some (zI x3), some (zI x4)] [zI (f_P_nextOf h p x4)] h = gd (inR (x3 + 1)) (gd (inR (1)) (zY 33 31 [some (zR (some 5)), some (zI x1), some (zI x2), some (zI (x3 + 1)), some (zI (f_P_nextOf h p x4))] [] h)) from zGo 3 33 66 _ _ _).trans ?_
        refine gd_c Iff.rfl (fun c4 => ?_)
        refine (gd_t (by decide) _).trans ?_
        rfl
  · skip
    refine (show zY 33 74 [some (zR (some 5)), some (zI x1), some (zI x2), some (zI x3), some (zI x4)] [] h = gd (zob h (some 5) 4) (gd (([] : List zV).isEmpty = true ∧ zrk 33 = 0) (some (.inl (none), (sI h 5 6 x1)))) from zGo 4 33 74 _ _ _).trans ?_
    refine (gd_t (⟨rfl, (PTC KC 5 _ rfl rfl), (PNC KC 5 rfl)⟩) _).trans ?_
    refine (gd_t (⟨rfl, rfl⟩) _).trans ?_
    rfl
theorem q_Pa_parseStatement {h : zH} {x1 : Int} {p : Nat} (KC : KC h) (rp : hR h 5 4 = some p) (hp : PS h p) : zC 31 [zR (some 5), zI x1] h =
    if (hI h p 0) < 24 then
      zBack zY 31 31 34 [some (zR (some 5)), some (zI x1), none] [] (zC 38 [zR (some p), zI x1, zI (hI h 5 6), zI (hI h 5 7)] h)
    else
      zBack zY 31 14 17 [some (zR (some 5)), some (zI x1), none] [] (zC 27 [zR (some 5), zI 3] h) := by
  refine (show zC 31 [zR (some 5), zI x1] h = gd (zob h (some 5) 4) (zY 31 4 [some (zR (some 5)), some (zI x1), none] [zR (hR h 5 4)] h) from zGo 2 31 0 _ _ _).trans ?_
  refine (gd_t (⟨rfl, (PTC KC 5 _ rfl rfl), (PNC KC 5 rfl)⟩) _).trans ?_
  refine (congrArg (fun rz => zY 31 4 [some (zR (some 5)), some (zI x1), none] (zR rz :: []) h) rp).trans ?_
  refine (show zY 31 4 [some (zR (some 5)), some (zI x1), none] [zR (some p)] h = gd (zob h (some p) 5) (gd (-128 ≤ (24 : Int) ∧ (24 : Int) < 128) (if (hI h p 0) < 24 then zY 31 18 [some (zR (some 5)), some (zI x1), none] [] h else zY 31 12 [some (zR (some 5)), some (zI x1), none] [] h)) from zGo 3 31 4 _ _ _).trans ?_
  refine (gd_t (⟨rfl, hp.1, (PS_n hp)⟩) _).trans ?_
  refine (gd_t (by decide) _).trans ?_
  refine iteC (fun c0 => ?_) (fun c0 => ?_)
  · skip
    refine (show zY 31 18 [some (zR (some 5)), some (zI x1), none] [] h = gd (zob h (some 5) 4) (zY 31 22 [some (zR (some 5)), some (zI x1), none] [zR (hR h 5 4)] h) from zGo 2 31 18 _ _ _).trans ?_
    refine (gd_t (⟨rfl, (PTC KC 5 _ rfl rfl), (PNC KC 5 rfl)⟩) _).trans ?_
    refine (congrArg (fun rz => zY 31 22 [some (zR (some 5)), some (zI x1), none] (zR rz :: []) h) rp).trans ?_
    refine (show zY 31 22 [some (zR (some 5)), some (zI x1), none] [zR (some p)] h = gd (zob h (some 5) 4) (gd (zob h (some 5) 4) (gd (false = zctor 38 ∧ zcs [] ≤ 8 ∧ zrm 31 (zrf 38 + 1) (8 + (zmaxl 38 + 11) + zrl 38) = true ∧ zcs [zR (some p), zI x1, zI (hI h 5 6), zI (hI h 5 7)] ≤ zmaxl 38) (gd (zob h (some p) 5) (zBack zY 31 31 34 [some (zR (some 5)), some (zI x1), none] [] (zC 38 [zR (some p), zI x1, zI (hI h 5 6), zI (hI h 5 7)] h))))) from zGo 6 31 22 _ _ _).trans ?_
    refine (gd_t (⟨rfl, (PTC KC 5 _ rfl rfl), (PNC KC 5 rfl)⟩) _).trans ?_
    refine (gd_t (⟨rfl, (PTC KC 5 _ rfl rfl), (PNC KC 5 rfl)⟩) _).trans ?_
    refine (gd_t (⟨rfl, Nat.le_of_ble_eq_true rfl, rfl, Nat.le_of_ble_eq_true rfl⟩) _).trans ?_
    refine (gd_t (⟨rfl, hp.1, (PS_n hp)⟩) _).trans ?_
    rfl
  · skip
    refine (show zY 31 12 [some (zR (some 5)), some (zI x1), none] [] h = gd (inR (3)) (gd (false = zctor 27 ∧ zcs [] ≤ 8 ∧ zrm 31 (zrf 27 + 1) (8 + (zmaxl 27 + 11) + zrl 27) = true ∧ zcs [zR (some 5), zI 3] ≤ zmaxl 27) (gd (zob h (some 5) 4) (zBack zY 31 14 17 [some (zR (some 5)), some (zI x1), none] [] (zC 27 [zR (some 5), zI 3] h)))) from zGo 3 31 12 _ _ _).trans ?_
    refine (gd_t (by decide) _).trans ?_
    refine (gd_t (⟨rfl, Nat.le_of_ble_eq_true rfl, rfl, Nat.le_of_ble_eq_true rfl⟩) _).trans ?_
    refine (gd_t (⟨rfl, (PTC KC 5 _ rfl rfl), (PNC KC 5 rfl)⟩) _).trans ?_
    rfl
theorem q_Pa_parseStatement_r17 {h : zH} {x1 : Int} (KC : KC h) : zBack zY 31 14 17 [some (zR (some 5)), some (zI x1), none] [] (some (.inl (none), h)) =
    some (.inl (none), h) := by
  refine (show zBack zY 31 14 17 [some (zR (some 5)), some (zI x1), none] [] (some (.inl (none), h)) = gd (([] : List zV).isEmpty = true ∧ zrk 31 = 0) (some (.inl (none), h)) from zGo 1 31 17 _ _ _).trans ?_
  refine (gd_t (⟨rfl, rfl⟩) _).trans ?_
  rfl
theorem q_Pa_parseStatement_r34 {h : zH} {x1 : Int} {y : Int} (KC : KC h) : zBack zY 31 31 34 [some (zR (some 5)), some (zI x1), none] [] (some (.inl (some (zI y)), h)) =
    zBack zY 31 39 42 [some (zR (some 5)), some (zI x1), some (zI y)] [] (zC 91 [zR (some 7)] h) := by
  refine (show zBack zY 31 31 34 [some (zR (some 5)), some (zI x1), none] [] (some (.inl (some (zI y)), h)) = gd (zob h (some 5) 4) (zY 31 39 [some (zR (some 5)), some (zI x1), some (zI y)] [zR (hR h 5 2)] h) from zGo 3 31 34 _ _ _).trans ?_
  refine (gd_t (⟨rfl, (PTC KC 5 _ rfl rfl), (PNC KC 5 rfl)⟩) _).trans ?_
  refine (congrArg (fun rz => zY 31 39 [some (zR (some 5)), some (zI x1), some (zI y)] (zR rz :: []) h) (PRC KC 5 2 _ rfl)).trans ?_
  refine (show zY 31 39 [some (zR (some 5)), some (zI x1), some (zI y)] [zR (some 7)] h = gd (false = zctor 91 ∧ zcs [] ≤ 8 ∧ zrm 31 (zrf 91 + 1) (8 + (zmaxl 91 + 11) + zrl 91) = true ∧ zcs [zR (some 7)] ≤ zmaxl 91) (gd (zob h (some 7) 7) (zBack zY 31 39 42 [some (zR (some 5)), some (zI x1), some (zI y)] [] (zC 91 [zR (some 7)] h))) from zGo 1 31 39 _ _ _).trans ?_
  refine (gd_t (⟨rfl, Nat.le_of_ble_eq_true rfl, rfl, Nat.le_of_ble_eq_true rfl⟩) _).trans ?_
  refine (gd_t (⟨rfl, (PTC KC 7 _ rfl rfl), (PNC KC 7 rfl)⟩) _).trans ?_
  rfl
theorem q_Pa_parseStatement_r42 {h : zH} {x1 : Int} {x2 : Int} {p : Nat} (KC : KC h) (rp : hR h 5 4 = some p) (hp : PS h p) : zBack zY 31 39 42 [some (zR (some 5)), some (zI x1), some (zI x2)] [] (some (.inl (none), h)) =
    if x1 = 3 then
      some (.inl (none), h)
    else
      if x1 = 0 then
        zBack zY 31 54 57 [some (zR (some 5)), some (zI x1), some (zI x2)] [] (zC 32 [zR (some 5), zI x2] h)
      else
        zBack zY 31 78 81 [some (zR (some 5)), some (zI x1), some (zI x2)] [zI x2, zR (some p)] (zC 28 [zR (some 5), zI 1] h) := by
  refine (show zBack zY 31 39 42 [some (zR (some 5)), some (zI x1), some (zI x2)] [] (some (.inl (none), h)) = gd (inR (3)) (if x1 = 3 then zY 31 47 [some (zR (some 5)), some (zI x1), some (zI x2)] [] h else zY 31 48 [some (zR (some 5)), some (zI x1), some (zI x2)] [] h) from zGo 3 31 42 _ _ _).trans ?_
  refine (gd_t (by decide) _).trans ?_
  refine iteC (fun c0 => ?_) (fun c0 => ?_)
  · skip
    refine (show zY 31 47 [some (zR (some 5)), some (zI x1), some (zI x2)] [] h = gd (([] : List zV).isEmpty = true ∧ zrk 31 = 0) (some (.inl (none), h)) from zGo 1 31 47 _ _ _).trans ?_
    refine (gd_t (⟨rfl, rfl⟩) _).trans ?_
    rfl
  · skip
    refine (show zY 31 48 [some (zR (some 5)), some (zI x1), some (zI x2)] [] h = if x1 = 0 then zY 31 52 [some (zR (some 5)), some (zI x1), some (zI x2)] [] h else zY 31 71 [some (zR (some 5)), some (zI x1), some (zI x2)] [] h from zGo 2 31 48 _ _ _).trans ?_
    refine iteC (fun c1 => ?_) (fun c1 => ?_)
    · skip
      refine (show zY 31 52 [some (zR (some 5)), some (zI x1), some (zI x2)] [] h = gd (false = zctor 32 ∧ zcs [] ≤ 8 ∧ zrm 31 (zrf 32 + 1) (8 + (zmaxl 32 + 11) + zrl 32) = true ∧ zcs [zR (some 5), zI x2] ≤ zmaxl 32) (gd (zob h (some 5) 4) (zBack zY 31 54 57 [some (zR (some 5)), some (zI x1), some (zI x2)] [] (zC 32 [zR (some 5), zI x2] h))) from zGo 3 31 52 _ _ _).trans ?_
      refine (gd_t (⟨rfl, Nat.le_of_ble_eq_true rfl, rfl, Nat.le_of_ble_eq_true rfl⟩) _).trans ?_
      refine (gd_t (⟨rfl, (PTC KC 5 _ rfl rfl), (PNC KC 5 rfl)⟩) _).trans ?_
      rfl
    · skip
      refine (show zY 31 71 [some (zR (some 5)), some (zI x1), some (zI x2)] [] h = gd (zob h (some 5) 4) (zY 31 75 [some (zR (some 5)), some (zI x1), some (zI x2)] [zR (hR h 5 4)] h) from zGo 2 31 71 _ _ _).trans ?_
      refine (gd_t (⟨rfl, (PTC KC 5 _ rfl rfl), (PNC KC 5 rfl)⟩) _).trans ?_
      refine (congrArg (fun rz => zY 31 75 [some (zR (some 5)), some (zI x1), some (zI x2)] (zR rz :: []) h) rp).trans ?_
      refine (show zY 31 75 [some (zR (some 5)), some (zI x1), some (zI x2)] [zR (some p)] h = gd (inR (1)) (gd (false = zctor 28 ∧ zcs [zI x2, zR (some p)] ≤ 8 ∧ zrm 31 (zrf 28 + 1) (8 + (zmaxl 28 + 11) + zrl 28) = true ∧ zcs [zR (some 5), zI 1] ≤ zmaxl 28) (gd (zob h (some 5) 4) (zBack zY 31 78 81 [some (zR (some 5)), some (zI x1), some (zI x2)] [zI x2, zR (some p)] (zC 28 [zR (some 5), zI 1] h)))) from zGo 4 31 75 _ _ _).trans ?_
      refine (gd_t (by decide) _).trans ?_
      refine (gd_t (⟨rfl, Nat.le_of_ble_eq_true rfl, rfl, Nat.le_of_ble_eq_true rfl⟩) _).trans ?_
      refine (gd_t (⟨rfl, (PTC KC 5 _ rfl rfl), (PNC KC 5 rfl)⟩) _).trans ?_
      rfl
theorem q_Pa_parseStatement_r57 {h : zH} {x1 : Int} {x2 : Int} {p : Nat} (KC : KC h) (rp : hR h 5 4 = some p) (hp : PS h p) : zBack zY 31 54 57 [some (zR (some 5)), some (zI x1), some (zI x2)] [] (some (.inl (none), h)) =
    zBack zY 31 64 67 [some (zR (some 5)), some (zI x1), some (zI x2)] [zI x2, zR (some p)] (zC 28 [zR (some 5), zI 0] h) := by
  refine (show zBack zY 31 54 57 [some (zR (some 5)), some (zI x1), some (zI x2)] [] (some (.inl (none), h)) = gd (zob h (some 5) 4) (zY 31 61 [some (zR (some 5)), some (zI x1), some (zI x2)] [zR (hR h 5 4)] h) from zGo 2 31 57 _ _ _).trans ?_
  refine (gd_t (⟨rfl, (PTC KC 5 _ rfl rfl), (PNC KC 5 rfl)⟩) _).trans ?_
  refine (congrArg (fun rz => zY 31 61 [some (zR (some 5)), some (zI x1), some (zI x2)] (zR rz :: []) h) rp).trans ?_
  refine (show zY 31 61 [some (zR (some 5)), some (zI x1), some (zI x2)] [zR (some p)] h = gd (inR (0)) (gd (false = zctor 28 ∧ zcs [zI x2, zR (some p)] ≤ 8 ∧ zrm 31 (zrf 28 + 1) (8 + (zmaxl 28 + 11) + zrl 28) = true ∧ zcs [zR (some 5), zI 0] ≤ zmaxl 28) (gd (zob h (some 5) 4) (zBack zY 31 64 67 [some (zR (some 5)), some (zI x1), some (zI x2)] [zI x2, zR (some p)] (zC 28 [zR (some 5), zI 0] h)))) from zGo 4 31 61 _ _ _).trans ?_
  refine (gd_t (by decide) _).trans ?_
  refine (gd_t (⟨rfl, Nat.le_of_ble_eq_true rfl, rfl, Nat.le_of_ble_eq_true rfl⟩) _).trans ?_
  refine (gd_t (⟨rfl, (PTC KC 5 _ rfl rfl), (PNC KC 5 rfl)⟩) _).trans ?_
  rfl
theorem q_Pa_parseStatement_r67 {h : zH} {x1 : Int} {x2 : Int} {py0 : Nat} {y1 : Int} {r : Nat} (KC : KC h) (hpy0 : PS h py0) (hr : FS h r) : zBack zY 31 64 67 [some (zR (some 5)), some (zI x1), some (zI x2)] [zI y1, zR (some py0)] (some (.inl (some (zR (some r))), h)) =
    zBack zY 31 67 70 [some (zR (some 5)), some (zI x1), some (zI x2)] [] (zC 45 [zR (some py0), zI y1, zR (some r)] h) := by
  refine (show zBack zY 31 64 67 [some (zR (some 5)), some (zI x1), some (zI x2)] [zI y1, zR (some py0)] (some (.inl (some (zR (some r))), h)) = gd (false = zctor 45 ∧ zcs [] ≤ 8 ∧ zrm 31 (zrf 45 + 1) (8 + (zmaxl 45 + 11) + zrl 45) = true ∧ zcs [zR (some py0), zI y1, zR (some r)] ≤ zmaxl 45) (gd (zob h (some py0) 5) (zBack zY 31 67 70 [some (zR (some 5)), some (zI x1), some (zI x2)] [] (zC 45 [zR (some py0), zI y1, zR (some r)] h))) from zGo 1 31 67 _ _ _).trans ?_
  refine (gd_t (⟨rfl, Nat.le_of_ble_eq_true rfl, rfl, Nat.le_of_ble_eq_true rfl⟩) _).trans ?_
  refine (gd_t (⟨rfl, hpy0.1, (PS_n hpy0)⟩) _).trans ?_
  rfl
theorem q_Pa_parseStatement_r70 {h : zH} {x1 : Int} {x2 : Int} (KC : KC h) : zBack zY 31 67 70 [some (zR (some 5)), some (zI x1), some (zI x2)] [] (some (.inl (none), h)) =
    some (.inl (none), h) := by
  refine (show zBack zY 31 67 70 [some (zR (some 5)), some (zI x1), some (zI x2)] [] (some (.inl (none), h)) = gd (([] : List zV).isEmpty = true ∧ zrk 31 = 0) (some (.inl (none), h)) from zGo 1 31 70 _ _ _).trans ?_
  refine (gd_t (⟨rfl, rfl⟩) _).trans ?_
  rfl
theorem q_Pa_parseStatement_r81 {h : zH} {x1 : Int} {x2 : Int} {py0 : Nat} {y1 : Int} {r : Nat} (KC : KC h) (hpy0 : PS h py0) (hr : FS h r) : zBack zY 31 78 81 [some (zR (some 5)), some (zI x1), some (zI x2)] [zI y1, zR (some py0)] (some (.inl (some (zR (some r))), h)) =
    zBack zY 31 81 84 [some (zR (some 5)), some (zI x1), some (zI x2)] [] (zC 45 [zR (some py0), zI y1, zR (some r)] h) := by
  refine (show zBack zY 31 78 81 [some (zR (some 5)), some (zI x1), some (zI x2)] [zI y1, zR (some py0)] (some (.inl (some (zR (some r))), h)) = gd (false = zctor 45 ∧ zcs [] ≤ 8 ∧ zrm 31 (zrf 45 + 1) (8 + (zmaxl 45 + 11) + zrl 45) = true ∧ zcs [zR (some py0), zI y1, zR (some r)] ≤ zmaxl 45) (gd (zob h (some py0) 5) (zBack zY 31 81 84 [some (zR (some 5)), some (zI x1), some (zI x2)] [] (zC 45 [zR (some py0), zI y1, zR (some r)] h))) from zGo 1 31 81 _ _ _).trans ?_
  refine (gd_t (⟨rfl, Nat.le_of_ble_eq_true rfl, rfl, Nat.le_of_ble_eq_true rfl⟩) _).trans ?_
  refine (gd_t (⟨rfl, hpy0.1, (PS_n hpy0)⟩) _).trans ?_
  rfl
theorem q_Pa_parseStatement_r84 {h : zH} {x1 : Int} {x2 : Int} (KC : KC h) : zBack zY 31 81 84 [some (zR (some 5)), some (zI x1), some (zI x2)] [] (some (.inl (none), h)) =
    if x1 = 2 then
      zBack zY 31 92 95 [some (zR (some 5)), some (zI x1), some (zI x2)] [] (zC 26 [zR (some 5), zI 23] h)
    else
      some (.inl (none), (sI (sI h 5 6 x2) 5 7 0)) := by
  refine (show zBack zY 31 81 84 [some (zR (some 5)), some (zI x1), some (zI x2)] [] (some (.inl (none), h)) = gd (inR (2)) (if x1 = 2 then zY 31 89 [some (zR (some 5)), some (zI x1), some (zI x2)] [] h else zY 31 141 [some (zR (some 5)), some (zI x1), some (zI x2)] [] h) from zGo 3 31 84 _ _ _).trans ?_
  refine (gd_t (by decide) _).trans ?_
  refine iteC (fun c0 => ?_) (fun c0 => ?_)
  · skip
    refine (show zY 31 89 [some (zR (some 5)), some (zI x1), some (zI x2)] [] h = gd (-128 ≤ (23 : Int) ∧ (23 : Int) < 128) (gd (false = zctor 26 ∧ zcs [] ≤ 8 ∧ zrm 31 (zrf 26 + 1) (8 + (zmaxl 26 + 11) + zrl 26) = true ∧ zcs [zR (some 5), zI 23] ≤ zmaxl 26) (gd (zob h (some 5) 4) (zBack zY 31 92 95 [some (zR (some 5)), some (zI x1), some (zI x2)] [] (zC 26 [zR (some 5), zI 23] h)))) from zGo 3 31 89 _ _ _).trans ?_
    refine (gd_t (by decide) _).trans ?_
    refine (gd_t (⟨rfl, Nat.le_of_ble_eq_true rfl, rfl, Nat.le_of_ble_eq_true rfl⟩) _).trans ?_
    refine (gd_t (⟨rfl, (PTC KC 5 _ rfl rfl), (PNC KC 5 rfl)⟩) _).trans ?_
    rfl
  · skip
    refine (show zY 31 141 [some (zR (some 5)), some (zI x1), some (zI x2)] [] h = gd (zob h (some 5) 4) (gd (inR (0)) (gd (zob (sI h 5 6 x2) (some 5) 4) (gd ((0 : Int) = 0 ∨ (0 : Int) = 1) (gd (([] : List zV).isEmpty = true ∧ zrk 31 = 0) (some (.inl (none), (sI (sI h 5 6 x2) 5 7 0))))))) from zGo 7 31 141 _ _ _).trans ?_
    refine (gd_t (⟨rfl, (PTC KC 5 _ rfl rfl), (PNC KC 5 rfl)⟩) _).trans ?_
    refine (gd_t (by decide) _).trans ?_
    refine (gd_t (⟨rfl, (PTC KC 5 _ rfl rfl), (PNC KC 5 rfl)⟩) _).trans ?_
    refine (gd_t (by decide) _).trans ?_
    refine (gd_t (⟨rfl, rfl⟩) _).trans ?_
    rfl
theorem q_Pa_parseStatement_r95 {h : zH} {x1 : Int} {x2 : Int} {v : Nat} {p : Nat} (KC : KC h) (rv : hR h 5 5 = some v) (hv : VS h v) (rp : hR h 5 4 = some p) (hp : PS h p) : zBack zY 31 92 95 [some (zR (some 5)), some (zI x1), some (zI x2)] [] (some (.inl (none), h)) =
    zBack zY 31 109 112 [some (zR (some 5)), some (zI x1), some (zI x2)] [zI (f_P_numberOf h p x2), zR (some v)] (zC 28 [zR (some 5), zI 1] h) := by
  refine (show zBack zY 31 92 95 [some (zR (some 5)), some (zI x1), some (zI x2)] [] (some (.inl (none), h)) = gd (zob h (some 5) 4) (zY 31 99 [some (zR (some 5)), some (zI x1), some (zI x2)] [zR (hR h 5 5)] h) from zGo 2 31 95 _ _ _).trans ?_
  refine (gd_t (⟨rfl, (PTC KC 5 _ rfl rfl), (PNC KC 5 rfl)⟩) _).trans ?_
  refine (congrArg (fun rz => zY 31 99 [some (zR (some 5)), some (zI x1), some (zI x2)] (zR rz :: []) h) rv).trans ?_
  refine (show zY 31 99 [some (zR (some 5)), some (zI x1), some (zI x2)] [zR (some v)] h = gd (zob h (some 5) 4) (zY 31 103 [some (zR (some 5)), some (zI x1), some (zI x2)] [zR (hR h 5 4), zR (some v)] h) from zGo 2 31 99 _ _ _).trans ?_
  refine (gd_t (⟨rfl, (PTC KC 5 _ rfl rfl), (PNC KC 5 rfl)⟩) _).trans ?_
  refine (congrArg (fun rz => zY 31 103 [some (zR (some 5)), some (zI x1), some (zI x2)] (zR rz :: zR (some v) :: []) h) rp).trans ?_
  refine (show zY 31 103 [some (zR (some 5)), some (zI x1), some (zI x2)] [zR (some p), zR (some v)] h = gd (false = zctor 46 ∧ zcs [zR (some v)] ≤ 8 ∧ zrm 31 (zrf 46 + 1) (8 + (zmaxl 46 + 11) + zrl 46) = true ∧ zcs [zR (some p), zI x2] ≤ zmaxl 46) (gd (zob h (some p) 5) (zBack zY 31 104 107 [some (zR (some 5)), some (zI x1), some (zI x2)] [zR (some v)] (zC 46 [zR (some p), zI x2] h))) from zGo 2 31 103 _ _ _).trans ?_
  refine (gd_t (⟨rfl, Nat.le_of_ble_eq_true rfl, rfl, Nat.le_of_ble_eq_true rfl⟩) _).trans ?_
  refine (gd_t (⟨rfl, hp.1, (PS_n hp)⟩) _).trans ?_
  refine (congrArg (zBack zY 31 104 107 [some (zR (some 5)), some (zI x1), some (zI x2)] [zR (some v)]) (e_P_numberOf hp)).trans ?_
  refine (show zY 31 107 [some (zR (some 5)), some (zI x1), some (zI x2)] [zI (f_P_numberOf h p x2), zR (some v)] h = gd (inR (1)) (gd (false = zctor 28 ∧ zcs [zI (f_P_numberOf h p x2), zR (some v)] ≤ 8 ∧ zrm 31 (zrf 28 + 1) (8 + (zmaxl 28 + 11) + zrl 28) = true ∧ zcs [zR (some 5), zI 1] ≤ zmaxl 28) (gd (zob h (some 5) 4) (zBack zY 31 109 112 [some (zR (some 5)), some (zI x1), some (zI x2)] [zI (f_P_numberOf h p x2), zR (some v)] (zC 28 [zR (some 5), zI 1] h)))) from zGo 3 31 107 _ _ _).trans ?_
  refine (gd_t (by decide) _).trans ?_
  refine (gd_t (⟨rfl, Nat.le_of_ble_eq_true rfl, rfl, Nat.le_of_ble_eq_true rfl⟩) _).trans ?_
  refine (gd_t (⟨rfl, (PTC KC 5 _ rfl rfl), (PNC KC 5 rfl)⟩) _).trans ?_
  rfl
theorem q_Pa_parseStatement_r112 {h : zH} {x1 : Int} {x2 : Int} {vy0 : Nat} {y1 : Int} {r : Nat} (KC : KC h) (hvy0 : VS h vy0) (hr : FS h r) : zBack zY 31 109 112 [some (zR (some 5)), some (zI x1), some (zI x2)] [zI y1, zR (some vy0)] (some (.inl (some (zR (some r))), h)) =
    zBack zY 31 112 115 [some (zR (some 5)), some (zI x1), some (zI x2)] [] (zC 125 [zR (some vy0), zI y1, zR (some r)] h) := by
  refine (show zBack zY 31 109 112 [some (zR (some 5)), some (zI x1), some (zI x2)] [zI y1, zR (some vy0)] (some (.inl (some (zR (some r))), h)) = gd (false = zctor 125 ∧ zcs [] ≤ 8 ∧ zrm 31 (zrf 125 + 1) (8 + (zmaxl 125 + 11) + zrl 125) = true ∧ zcs [zR (some vy0), zI y1, zR (some r)] ≤ zmaxl 125) (gd (zob h (some vy0) 10) (zBack zY 31 112 115 [some (zR (some 5)), some (zI x1), some (zI x2)] [] (zC 125 [zR (some vy0), zI y1, zR (some r)] h))) from zGo 1 31 112 _ _ _).trans ?_
  refine (gd_t (⟨rfl, Nat.le_of_ble_eq_true rfl, rfl, Nat.le_of_ble_eq_true rfl⟩) _).trans ?_
  refine (gd_t (⟨rfl, hvy0.1, (VS_n hvy0)⟩) _).trans ?_
  rfl
theorem q_Pa_parseStatement_r115 {h : zH} {x1 : Int} {x2 : Int} (KC : KC h) : zBack zY 31 112 115 [some (zR (some 5)), some (zI x1), some (zI x2)] [] (some (.inl (none), h)) =
    zBack zY 31 118 121 [some (zR (some 5)), some (zI x1), some (zI x2)] [] (zC 26 [zR (some 5), zI 24] h) := by
  refine (show zBack zY 31 112 115 [some (zR (some 5)), some (zI x1), some (zI x2)] [] (some (.inl (none), h)) = gd (-128 ≤ (24 : Int) ∧ (24 : Int) < 128) (gd (false = zctor 26 ∧ zcs [] ≤ 8 ∧ zrm 31 (zrf 26 + 1) (8 + (zmaxl 26 + 11) + zrl 26) = true ∧ zcs [zR (some 5), zI 24] ≤ zmaxl 26) (gd (zob h (some 5) 4) (zBack zY 31 118 121 [some (zR (some 5)), some (zI x1), some (zI x2)] [] (zC 26 [zR (some 5), zI 24] h)))) from zGo 3 31 115 _ _ _).trans ?_
  refine (gd_t (by decide) _).trans ?_
  refine (gd_t (⟨rfl, Nat.le_of_ble_eq_true rfl, rfl, Nat.le_of_ble_eq_true rfl⟩) _).trans ?_
  refine (gd_t (⟨rfl, (PTC KC 5 _ rfl rfl), (PNC KC 5 rfl)⟩) _).trans ?_
  rfl
theorem q_Pa_parseStatement_r121 {h : zH} {x1 : Int} {x2 : Int} {v : Nat} {p : Nat} (KC : KC h) (rv : hR h 5 5 = some v) (hv : VS h v) (rp : hR h 5 4 = some p) (hp : PS h p) : zBack zY 31 118 121 [some (zR (some 5)), some (zI x1), some (zI x2)] [] (some (.inl (none), h)) =
    zBack zY 31 135 138 [some (zR (some 5)), some (zI x1), some (zI x2)] [zI (f_P_numberOf h p x2), zR (some v)] (zC 28 [zR (some 5), zI 0] h) := by
  refine (show zBack zY 31 118 121 [some (zR (some 5)), some (zI x1), some (zI x2)] [] (some (.inl (none), h)) = gd (zob h (some 5) 4) (zY 31 125 [some (zR (some 5)), some (zI x1), some (zI x2)] [zR (hR h 5 5)] h) from zGo 2 31 121 _ _ _).trans ?_
  refine (gd_t (⟨rfl, (PTC KC 5 _ rfl rfl), (PNC KC 5 rfl)⟩) _).trans ?_
  refine (congrArg (fun rz => zY 31 125 [some (zR (some 5)), some (zI x1), some (zI x2)] (zR rz :: []) h) rv).trans ?_
  refine (show zY 31 125 [some (zR (some 5)), some (zI x1), some (zI x2)] [zR (some v)] h = gd (zob h (some 5) 4) (zY 31 129 [some (zR (some 5)), some (zI x1), some (zI x2)] [zR (hR h 5 4), zR (some v)] h) from zGo 2 31 125 _ _ _).trans ?_
  refine (gd_t (⟨rfl, (PTC KC 5 _ rfl rfl), (PNC KC 5 rfl)⟩) _).trans ?_
  refine (congrArg (fun rz => zY 31 129 [some (zR (some 5)), some (zI x1), some (zI x2)] (zR rz :: zR (some v) :: []) h) rp).trans ?_
  refine (show zY 31 129 [some (zR (some 5)), some (zI x1), some (zI x2)] [zR (some p), zR (some v)] h = gd (false = zctor 46 ∧ zcs [zR (some v)] ≤ 8 ∧ zrm 31 (zrf 46 + 1) (8 + (zmaxl 46 + 11) + zrl 46) = true ∧ zcs [zR (some p), zI x2] ≤ zmaxl 46) (gd (zob h (some p) 5) (zBack zY 31 130 133 [some (zR (some 5)), some (zI x1), some (zI x2)] [zR (some v)] (zC 46 [zR (some p), zI x2] h))) from zGo 2 31 129 _ _ _).trans ?_
  refine (gd_t (⟨rfl, Nat.le_of_ble_eq_true rfl, rfl, Nat.le_of_ble_eq_true rfl⟩) _).trans ?_
  refine (gd_t (⟨rfl, hp.1, (PS_n hp)⟩) _).trans ?_
  refine (congrArg (zBack zY 31 130 133 [some (zR (some 5)), some (zI x1), some (zI x2)] [zR (some v)]) (e_P_numberOf hp)).trans ?_
  refine (show zY 31 133 [some (zR (some 5)), some (zI x1), some (zI x2)] [zI (f_P_numberOf h p x2), zR (some v)] h = gd (inR (0)) (gd (false = zctor 28 ∧ zcs [zI (f_P_numberOf h p x2), zR (some v)] ≤ 8 ∧ zrm 31 (zrf 28 + 1) (8 + (zmaxl 28 + 11) + zrl 28) = true ∧ zcs [zR (some 5), zI 0] ≤ zmaxl 28) (gd (zob h (some 5) 4) (zBack zY 31 135 138 [some (zR (some 5)), some (zI x1), some (zI x2)] [zI (f_P_numberOf h p x2), zR (some v)] (zC 28 [zR (some 5), zI 0] h)))) from zGo 3 31 133 _ _ _).trans ?_
  refine (gd_t (by decide) _).trans ?_
  refine (gd_t (⟨rfl, Nat.le_of_ble_eq_true rfl, rfl, Nat.le_of_ble_eq_true rfl⟩) _).trans ?_
  refine (gd_t (⟨rfl, (PTC KC 5 _ rfl rfl), (PNC KC 5 rfl)⟩) _).trans ?_
  rfl
theorem q_Pa_parseStatement_r138 {h : zH} {x1 : Int} {x2 : Int} {vy0 : Nat} {y1 : Int} {r : Nat} (KC : KC h) (hvy0 : VS h vy0) (hr : FS h r) : zBack zY 31 135 138 [some (zR (some 5)), some (zI x1), some (zI x2)] [zI y1, zR (some vy0)] (some (.inl (some (zR (some r))), h)) =
    zBack zY 31 138 141 [some (zR (some 5)), some (zI x1), some (zI x2)] [] (zC 127 [zR (some vy0), zI y1, zR (some r)] h) := by
  refine (show zBack zY 31 135 138 [some (zR (some 5)), some (zI x1), some (zI x2)] [zI y1, zR (some vy0)] (some (.inl (some (zR (some r))), h)) = gd (false = zctor 127 ∧ zcs [] ≤ 8 ∧ zrm 31 (zrf 127 + 1) (8 + (zmaxl 127 + 11) + zrl 127) = true ∧ zcs [zR (some vy0), zI y1, zR (some r)] ≤ zmaxl 127) (gd (zob h (some vy0) 10) (zBack zY 31 138 141 [some (zR (some 5)), some (zI x1), some (zI x2)] [] (zC 127 [zR (some vy0), zI y1, zR (some r)] h))) from zGo 1 31 138 _ _ _).trans ?_
  refine (gd_t (⟨rfl, Nat.le_of_ble_eq_true rfl, rfl, Nat.le_of_ble_eq_true rfl⟩) _).trans ?_
  refine (gd_t (⟨rfl, hvy0.1, (VS_n hvy0)⟩) _).trans ?_
  rfl
theorem q_Pa_parseStatement_r141 {h : zH} {x1 : Int} {x2 : Int} (KC : KC h) : zBack zY 31 138 141 [some (zR (some 5)), some (zI x1), some (zI x2)] [] (some (.inl (none), h)) =
    some (.inl (none), (sI (sI h 5 6 x2) 5 7 0)) := by
  refine (show zBack zY 31 138 141 [some (zR (some 5)), some (zI x1), some (zI x2)] [] (some (.inl (none), h)) = gd (zob h (some 5) 4) (gd (inR (0)) (gd (zob (sI h 5 6 x2) (some 5) 4) (gd ((0 : Int) = 0 ∨ (0 : Int) = 1) (gd (([] : List zV).isEmpty = true ∧ zrk 31 = 0) (some (.inl (none), (sI (sI h 5 6 x2) 5 7 0))))))) from zGo 7 31 141 _ _ _).trans ?_
  refine (gd_t (⟨rfl, (PTC KC 5 _ rfl rfl), (PNC KC 5 rfl)⟩) _).trans ?_
  refine (gd_t (by decide) _).trans ?_
  refine (gd_t (⟨rfl, (PTC KC 5 _ rfl rfl), (PNC KC 5 rfl)⟩) _).trans ?_
  refine (gd_t (by decide) _).trans ?_
  refine (gd_t (⟨rfl, rfl⟩) _).trans ?_
  rfl
theorem q_Pa_parseRowWord {h : zH} {p : Nat} (KC : KC h) (rp : hR h 5 4 = some p) (hp : PS h p) : zC 30 [zR (some 5)] h =
    if (f_P_kindOf h p (hI h 5 6)) = 1 then
      if b_W_isStatement (hI h 7 0) then
        gd (-2147483648 ≤ (hI h 7 0) - 17 ∧ (hI h 7 0) - 17 < 2147483648) (
        zBack zY 30 41 44 [some (zR (some 5)), some (zI (hI h 7 0)), some (zI 1)] [] (zC 31 [zR (some 5), zI ((hI h 7 0) - 17)] h))
      else
        if (hI h 7 0) = 21 then
          if (hI h 5 7) = 0 then
            zBack zY 30 73 76 [some (zR (some 5)), some (zI (hI h 7 0)), some (zI 1)] [] (zC 91 [zR (some 7)] (sI h 5 7 1))
          else
            if (hI h 7 0) = 22 then
              if (hI h 5 6) = (-1) then
                zBack zY 30 120 123 [some (zR (some 5)), some (zI (hI h 7 0)), some (zI 1)] [] (zC 27 [zR (some 5), zI 1] h)
              else
                zBack zY 30 105 108 [some (zR (some 5)), some (zI (hI h 7 0)), some (zI 1)] [] (zC 33 [zR (some 5)] h)
            else
              zBack zY 30 120 123 [some (zR (some 5)), some (zI (hI h 7 0)), some (zI 1)] [] (zC 27 [zR (some 5), zI 1] h)
        else
          if (hI h 7 0) = 22 then
            if (hI h 5 6) = (-1) then
              zBack zY 30 120 123 [some (zR (some 5)), some (zI (hI h 7 0)), some (zI 1)] [] (zC 27 [zR (some 5), zI 1] h)
            else
              if (hI h 5 7) = 0 then
                zBack zY 30 120 123 [some (zR (some 5)), some (zI (hI h 7 0)), some (zI 1)] [] (zC 27 [zR (some 5), zI 1] h)
              else
                zBack zY 30 105 108 [some (zR (some 5)), some (zI (hI h 7 0)), some (zI 1)] [] (zC 33 [zR (some 5)] h)
          else
            zBack zY 30 120 123 [some (zR (some 5)), some (zI (hI h 7 0)), some (zI 1)] [] (zC 27 [zR (some 5), zI 1] h)
    else
      if b_W_isStatement (hI h 7 0) then
        gd (-2147483648 ≤ (hI h 7 0) - 17 ∧ (hI h 7 0) - 17 < 2147483648) (
        zBack zY 30 41 44 [some (zR (some 5)), some (zI (hI h 7 0)), some (zI 0)] [] (zC 31 [zR (some 5), zI ((hI h 7 0) - 17)] h))
      else
        if (hI h 7 0) = 21 then
          if (hI h 7 0) = 22 then
            if (hI h 5 6) = (-1) then
              zBack zY 30 120 123 [some (zR (some 5)), some (zI (hI h 7 0)), some (zI 0)] [] (zC 27 [zR (some 5), zI 1] h)
            else
              zBack zY 30 105 108 [some (zR (some 5)), some (zI (hI h 7 0)), some (zI 0)] [] (zC 33 [zR (some 5)] h)
          else
            zBack zY 30 120 123 [some (zR (some 5)), some (zI (hI h 7 0)), some (zI 0)] [] (zC 27 [zR (some 5), zI 1] h)
        else
          if (hI h 7 0) = 22 then
            if (hI h 5 6) = (-1) then
              zBack zY 30 120 123 [some (zR (some 5)), some (zI (hI h 7 0)), some (zI 0)] [] (zC 27 [zR (some 5), zI 1] h)
            else
              zBack zY 30 105 108 [some (zR (some 5)), some (zI (hI h 7 0)), some (zI 0)] [] (zC 33 [zR (some 5)] h)
          else
            zBack zY 30 120 123 [some (zR (some 5)), some (zI (hI h 7 0)), some (zI 0)] [] (zC 27 [zR (some 5), zI 1] h) := by
  refine (show zC 30 [zR (some 5)] h = gd (zob h (some 5) 4) (zY 30 4 [some (zR (some 5)), none, none] [zR (hR h 5 2)] h) from zGo 2 30 0 _ _ _).trans ?_
  refine (gd_t (⟨rfl, (PTC KC 5 _ rfl rfl), (PNC KC 5 rfl)⟩) _).trans ?_
  refine (congrArg (fun rz => zY 30 4 [some (zR (some 5)), none, none] (zR rz :: []) h) (PRC KC 5 2 _ rfl)).trans ?_
  refine (show zY 30 4 [some (zR (some 5)), none, none] [zR (some 7)] h = gd (zob h (some 7) 7) (gd (zob h (some 5) 4) (zY 30 12 [some (zR (some 5)), some (zI (hI h 7 0)), none] [zR (hR h 5 4)] h)) from zGo 4 30 4 _ _ _).trans ?_
  refine (gd_t (⟨rfl, (PTC KC 7 _ rfl rfl), (PNC KC 7 rfl)⟩) _).trans ?_
  refine (gd_t (⟨rfl, (PTC KC 5 _ rfl rfl), (PNC KC 5 rfl)⟩) _).trans ?_
  refine (congrArg (fun rz => zY 30 12 [some (zR (some 5)), some (zI (hI h 7 0)), none] (zR rz :: []) h) rp).trans ?_
  refine (show zY 30 12 [some (zR (some 5)), some (zI (hI h 7 0)), none] [zR (some p)] h = gd (zob h (some 5) 4) (gd (false = zctor 36 ∧ zcs [] ≤ 8 ∧ zrm 30 (zrf 36 + 1) (8 + (zmaxl 36 + 11) + zrl 36) = true ∧ zcs [zR (some p), zI (hI h 5 6)] ≤ zmaxl 36) (gd (zob h (some p) 5) (zBack zY 30 16 19 [some (zR (some 5)), some (zI (hI h 7 0)), none] [] (zC 36 [zR (some p), zI (hI h 5 6)] h)))) from zGo 3 30 12 _ _ _).trans ?_
  refine (gd_t (⟨rfl, (PTC KC 5 _ rfl rfl), (PNC KC 5 rfl)⟩) _).trans ?_
  refine (gd_t (⟨rfl, Nat.le_of_ble_eq_true rfl, rfl, Nat.le_of_ble_eq_true rfl⟩) _).trans ?_
  refine (gd_t (⟨rfl, hp.1, (PS_n hp)⟩) _).trans ?_
  refine (congrArg (zBack zY 30 16 19 [some (zR (some 5)), some (zI (hI h 7 0)), none] []) (e_P_kindOf hp)).trans ?_
  refine (show zY 30 19 [some (zR (some 5)), some (zI (hI h 7 0)), none] [zI (f_P_kindOf h p (hI h 5 6))] h = gd (inR (1)) (if (f_P_kindOf h p (hI h 5 6)) = 1 then zY 30 23 [some (zR (some 5)), some (zI (hI h 7 0)), none] [] h else zY 30 27 [some (zR (some 5)), some (zI (hI h 7 0)), none] [] h) from zGo 2 30 19 _ _ _).trans ?_
  refine (gd_t (by decide) _).trans ?_
  refine iteC (fun c0 => ?_) (fun c0 => ?_)
  · skip
    refine (show zY 30 23 [some (zR (some 5)), some (zI (hI h 7 0)), none] [] h = gd (inR (1)) (gd (false = zctor 144 ∧ zcs [] ≤ 8 ∧ zrm 30 (zrf 144 + 1) (8 + (zmaxl 144 + 11) + zrl 144) = true ∧ zcs [zI (hI h 7 0)] ≤ zmaxl 144) (zBack zY 30 30 33 [some (zR (some 5)), some (zI (hI h 7 0)), some (zI 1)] [] (zC 144 [zI (hI h 7 0)] h))) from zGo 5 30 23 _ _ _).trans ?_
    refine (gd_t (by decide) _).trans ?_
    refine (gd_t (⟨rfl, Nat.le_of_ble_eq_true rfl, rfl, Nat.le_of_ble_eq_true rfl⟩) _).trans ?_
    refine (congrArg (zBack zY 30 30 33 [some (zR (some 5)), some (zI (hI h 7 0)), some (zI 1)] []) (e_W_isStatement)).trans ?_
    refine (show zY 30 33 [some (zR (some 5)), some (zI (hI h 7 0)), some (zI 1)] [zI (if b_W_isStatement (hI h 7 0) then (1 : Int) else 0)] h = if (if b_W_isStatement (hI h 7 0) then (1 : Int) else 0) = 0 then zY 30 47 [some (zR (some 5)), some (zI (hI h 7 0)), some (zI 1)] [] h else zY 30 36 [some (zR (some 5)), some (zI (hI h 7 0)), some (zI 1)] [] h from zGo 1 30 33 _ _ _).trans ?_
    refine iteB (fun c1 => ?_) (fun c1 => ?_)
    · skip
      refine (show zY 30 36 [some (zR (some 5)), some (zI (hI h 7 0)), some (zI 1)] [] h = gd (-128 ≤ (17 : Int) ∧ (17 : Int) < 128) (gd (inR ((hI h 7 0) - 17)) (gd (false = zctor 31 ∧ zcs [] ≤ 8 ∧ zrm 30 (zrf 31 + 1) (8 + (zmaxl 31 + 11) + zrl 31) = true ∧ zcs [zR (some 5), zI ((hI h 7 0) - 17)] ≤ zmaxl 31) (gd (zob h (some 5) 4) (zBack zY 30 41 44 [some (zR (some 5)), some (zI (hI h 7 0)), some (zI 1)] [] (zC 31 [zR (some 5), zI ((hI h 7 0) - 17)] h))))) from zGo 5 30 36 _ _ _).trans ?_
      refine (gd_t (by decide) _).trans ?_
      refine gd_c Iff.rfl (fun c2 => ?_)
      refine (gd_t (⟨rfl, Nat.le_of_ble_eq_true rfl, rfl, Nat.le_of_ble_eq_true rfl⟩) _).trans ?_
      refine (gd_t (⟨rfl, (PTC KC 5 _ rfl rfl), (PNC KC 5 rfl)⟩) _).trans ?_
      rfl
    · skip
      refine (show zY 30 47 [some (zR (some 5)), some (zI (hI h 7 0)), some (zI 1)] [] h = gd (-128 ≤ (21 : Int) ∧ (21 : Int) < 128) (if (hI h 7 0) = 21 then zY 30 53 [some (zR (some 5)), some (zI (hI h 7 0)), some (zI 1)] [] h else zY 30 79 [some (zR (some 5)), some (zI (hI h 7 0)), some (zI 1)] [] h) from zGo 3 30 47 _ _ _).trans ?_
      refine (gd_t (by decide) _).trans ?_
      refine iteC (fun c3 => ?_) (fun c3 => ?_)
      · skip
        refine (show zY 30 53 [some (zR (some 5)), some (zI (hI h 7 0)), some (zI 1)] [] h = if 1 = 0 then zY 30 79 [some (zR (some 5)), some (zI (hI h 7 0)), some (zI 1)] [] h else zY 30 57 [some (zR (some 5)), some (zI (hI h 7 0)), some (zI 1)] [] h from zGo 2 30 53 _ _ _).trans ?_
        refine (if_neg (by decide)).trans ?_
        refine (show zY 30 57 [some (zR (some 5)), some (zI (hI h 7 0)), some (zI 1)] [] h = gd (zob h (some 5) 4) (if (hI h 5 7) = 0 then zY 30 64 [some (zR (some 5)), some (zI (hI h 7 0)), some (zI 1)] [] h else zY 30 79 [some (zR (some 5)), some (zI (hI h 7 0)), some (zI 1)] [] h) from zGo 3 30 57 _ _ _).trans ?_
        refine (gd_t (⟨rfl, (PTC KC 5 _ rfl rfl), (PNC KC 5 rfl)⟩) _).trans ?_
        refine iteC (fun c4 => ?_) (fun c4 => ?_)
        · skip
          refine (show zY 30 64 [some (zR (some 5)), some (zI (hI h 7 0)), some (zI 1)] [] h = gd (inR (1)) (gd (zob h (some 5) 4) (gd ((1 : Int) = 0 ∨ (1 : Int) = 1) (gd (zob (sI h 5 7 1) (some 5) 4) (zY 30 73 [some (zR (some 5)), some (zI (hI h 7 0)), some (zI 1)] [zR (hR h 5 2)] (sI h 5 7 1))))) from zGo 5 30 64 _ _ _).trans ?_
          refine (gd_t (by decide) _).trans ?_
          refine (gd_t (⟨rfl, (PTC KC 5 _ rfl rfl), (PNC KC 5 rfl)⟩) _).trans ?_
          refine (gd_t (by decide) _).trans ?_
          refine (gd_t (⟨rfl, (PTC KC 5 _ rfl rfl), (PNC KC 5 rfl)⟩) _).trans ?_
          refine (congrArg (fun rz => zY 30 73 [some (zR (some 5)), some (zI (hI h 7 0)), some (zI 1)] (zR rz :: []) (sI h 5 7 1)) (PRC KC 5 2 _ rfl)).trans ?_
          refine (show zY 30 73 [some (zR (some 5)), some (zI (hI h 7 0)), some (zI 1)] [zR (some 7)] (sI h 5 7 1) = gd (false = zctor 91 ∧ zcs [] ≤ 8 ∧ zrm 30 (zrf 91 + 1) (8 + (zmaxl 91 + 11) + zrl 91) = true ∧ zcs [zR (some 7)] ≤ zmaxl 91) (gd (zob (sI h 5 7 1) (some 7) 7) (zBack zY 30 73 76 [some (zR (some 5)), some (zI (hI h 7 0)), some (zI 1)] [] (zC 91 [zR (some 7)] (sI h 5 7 1)))) from zGo 1 30 73 _ _ _).trans ?_
          refine (gd_t (⟨rfl, Nat.le_of_ble_eq_true rfl, rfl, Nat.le_of_ble_eq_true rfl⟩) _).trans ?_
          refine (gd_t (⟨rfl, (PTC KC 7 _ rfl rfl), (PNC KC 7 rfl)⟩) _).trans ?_
          rfl
        · skip
          refine (show zY 30 79 [some (zR (some 5)), some (zI (hI h 7 0)), some (zI 1)] [] h = gd (-128 ≤ (22 : Int) ∧ (22 : Int) < 128) (if (hI h 7 0) = 22 then zY 30 85 [some (zR (some 5)), some (zI (hI h 7 0)), some (zI 1)] [] h else zY 30 118 [some (zR (some 5)), some (zI (hI h 7 0)), some (zI 1)] [] h) from zGo 3 30 79 _ _ _).trans ?_
          refine (gd_t (by decide) _).trans ?_
          refine iteC (fun c5 => ?_) (fun c5 => ?_)
          · skip
            refine (show zY 30 85 [some (zR (some 5)), some (zI (hI h 7 0)), some (zI 1)] [] h = gd (zob h (some 5) 4) (gd (inR (-1)) (if (hI h 5 6) = (-1) then zY 30 118 [some (zR (some 5)), some (zI (hI h 7 0)), some (zI 1)] [] h else zY 30 93 [some (zR (some 5)), some (zI (hI h 7 0)), some (zI 1)] [] h)) from zGo 4 30 85 _ _ _).trans ?_
            refine (gd_t (⟨rfl, (PTC KC 5 _ rfl rfl), (PNC KC 5 rfl)⟩) _).trans ?_
            refine (gd_t (by decide) _).trans ?_
            refine iteC (fun c6 => ?_) (fun c6 => ?_)
            · skip
              refine (show zY 30 118 [some (zR (some 5)), some (zI (hI h 7 0)), some (zI 1)] [] h = gd (inR (1)) (gd (false = zctor 27 ∧ zcs [] ≤ 8 ∧ zrm 30 (zrf 27 + 1) (8 + (zmaxl 27 + 11) + zrl 27) = true ∧ zcs [zR (some 5), zI 1] ≤ zmaxl 27) (gd (zob h (some 5) 4) (zBack zY 30 120 123 [some (zR (some 5)), some (zI (hI h 7 0)), some (zI 1)] [] (zC 27 [zR (some 5), zI 1] h)))) from zGo 3 30 118 _ _ _).trans ?_
              refine (gd_t (by decide) _).trans ?_
              refine (gd_t (⟨rfl, Nat.le_of_ble_eq_true rfl, rfl, Nat.le_of_ble_eq_true rfl⟩) _).trans ?_
              refine (gd_t (⟨rfl, (PTC KC 5 _ rfl rfl), (PNC KC 5 rfl)⟩) _).trans ?_
              rfl
            · skip
              refine (show zY 30 93 [some (zR (some 5)), some (zI (hI h 7 0)), some (zI 1)] [] h = if 1 = 0 then zY 30 104 [some (zR (some 5)), some (zI (hI h 7 0)), some (zI 1)] [] h else zY 30 97 [some (zR (some 5)), some (zI (hI h 7 0)), some (zI 1)] [] h from zGo 2 30 93 _ _ _).trans ?_
              refine (if_neg (by decide)).trans ?_
              refine (show zY 30 97 [some (zR (some 5)), some (zI (hI h 7 0)), some (zI 1)] [] h = gd (zob h (some 5) 4) (if (hI h 5 7) = 0 then zY 30 118 [some (zR (some 5)), some (zI (hI h 7 0)), some (zI 1)] [] h else zY 30 104 [some (zR (some 5)), some (zI (hI h 7 0)), some (zI 1)] [] h) from zGo 3 30 97 _ _ _).trans ?_
              refine (gd_t (⟨rfl, (PTC KC 5 _ rfl rfl), (PNC KC 5 rfl)⟩) _).trans ?_
              refine ite_n c4 ?_
              refine (show zY 30 104 [some (zR (some 5)), some (zI (hI h 7 0)), some (zI 1)] [] h = gd (false = zctor 33 ∧ zcs [] ≤ 8 ∧ zrm 30 (zrf 33 + 1) (8 + (zmaxl 33 + 11) + zrl 33) = true ∧ zcs [zR (some 5)] ≤ zmaxl 33) (gd (zob h (some 5) 4) (zBack zY 30 105 108 [some (zR (some 5)), some (zI (hI h 7 0)), some (zI 1)] [] (zC 33 [zR (some 5)] h))) from zGo 2 30 104 _ _ _).trans ?_
              refine (gd_t (⟨rfl, Nat.le_of_ble_eq_true rfl, rfl, Nat.le_of_ble_eq_true rfl⟩) _).trans ?_
              refine (gd_t (⟨rfl, (PTC KC 5 _ rfl rfl), (PNC KC 5 rfl)⟩) _).trans ?_
              rfl
          · skip
            refine (show zY 30 118 [some (zR (some 5)), some (zI (hI h 7 0)), some (zI 1)] [] h = gd (inR (1)) (gd (false = zctor 27 ∧ zcs [] ≤ 8 ∧ zrm 30 (zrf 27 + 1) (8 + (zmaxl 27 + 11) + zrl 27) = true ∧ zcs [zR (some 5), zI 1] ≤ zmaxl 27) (gd (zob h (some 5) 4) (zBack zY 30 120 123 [some (zR (some 5)), some (zI (hI h 7 0)), some (zI 1)] [] (zC 27 [zR (some 5), zI 1] h)))) from zGo 3 30 118 _ _ _).trans ?_
            refine (gd_t (by decide) _).trans ?_
            refine (gd_t (⟨rfl, Nat.le_of_ble_eq_true rfl, rfl, Nat.le_of_ble_eq_true rfl⟩) _).trans ?_
            refine (gd_t (⟨rfl, (PTC KC 5 _ rfl rfl), (PNC KC 5 rfl)⟩) _).trans ?_
            rfl
      · skip
        refine (show zY 30 79 [some (zR (some 5)), some (zI (hI h 7 0)), some (zI 1)] [] h = gd (-128 ≤ (22 : Int) ∧ (22 : Int) < 128) (if (hI h 7 0) = 22 then zY 30 85 [some (zR (some 5)), some (zI (hI h 7 0)), some (zI 1)] [] h else zY 30 118 [some (zR (some 5)), some (zI (hI h 7 0)), some (zI 1)] [] h) from zGo 3 30 79 _ _ _).trans ?_
        refine (gd_t (by decide) _).trans ?_
        refine iteC (fun c8 => ?_) (fun c8 => ?_)
        · skip
          refine (show zY 30 85 [some (zR (some 5)), some (zI (hI h 7 0)), some (zI 1)] [] h = gd (zob h (some 5) 4) (gd (inR (-1)) (if (hI h 5 6) = (-1) then zY 30 118 [some (zR (some 5)), some (zI (hI h 7 0)), some (zI 1)] [] h else zY 30 93 [some (zR (some 5)), some (zI (hI h 7 0)), some (zI 1)] [] h)) from zGo 4 30 85 _ _ _).trans ?_
          refine (gd_t (⟨rfl, (PTC KC 5 _ rfl rfl), (PNC KC 5 rfl)⟩) _).trans ?_
          refine (gd_t (by decide) _).trans ?_
          refine iteC (fun c9 => ?_) (fun c9 => ?_)
          · skip
            refine (show zY 30 118 [some (zR (some 5)), some (zI (hI h 7 0)), some (zI 1)] [] h = gd (inR (1)) (gd (false = zctor 27 ∧ zcs [] ≤ 8 ∧ zrm 30 (zrf 27 + 1) (8 + (zmaxl 27 + 11) + zrl 27) = true ∧ zcs [zR (some 5), zI 1] ≤ zmaxl 27) (gd (zob h (some 5) 4) (zBack zY 30 120 123 [some (zR (some 5)), some (zI (hI h 7 0)), some (zI 1)] [] (zC 27 [zR (some 5), zI 1] h)))) from zGo 3 30 118 _ _ _).trans ?_
            refine (gd_t (by decide) _).trans ?_
            refine (gd_t (⟨rfl, Nat.le_of_ble_eq_true rfl, rfl, Nat.le_of_ble_eq_true rfl⟩) _).trans ?_
            refine (gd_t (⟨rfl, (PTC KC 5 _ rfl rfl), (PNC KC 5 rfl)⟩) _).trans ?_
            rfl
          · skip
            refine (show zY 30 93 [some (zR (some 5)), some (zI (hI h 7 0)), some (zI 1)] [] h = if 1 = 0 then zY 30 104 [some (zR (some 5)), some (zI (hI h 7 0)), some (zI 1)] [] h else zY 30 97 [some (zR (some 5)), some (zI (hI h 7 0)), some (zI 1)] [] h from zGo 2 30 93 _ _ _).trans ?_
            refine (if_neg (by decide)).trans ?_
            refine (show zY 30 97 [some (zR (some 5)), some (zI (hI h 7 0)), some (zI 1)] [] h = gd (zob h (some 5) 4) (if (hI h 5 7) = 0 then zY 30 118 [some (zR (some 5)), some (zI (hI h 7 0)), some (zI 1)] [] h else zY 30 104 [some (zR (some 5)), some (zI (hI h 7 0)), some (zI 1)] [] h) from zGo 3 30 97 _ _ _).trans ?_
            refine (gd_t (⟨rfl, (PTC KC 5 _ rfl rfl), (PNC KC 5 rfl)⟩) _).trans ?_
            refine iteC (fun c10 => ?_) (fun c10 => ?_)
            · skip
              refine (show zY 30 118 [some (zR (some 5)), some (zI (hI h 7 0)), some (zI 1)] [] h = gd (inR (1)) (gd (false = zctor 27 ∧ zcs [] ≤ 8 ∧ zrm 30 (zrf 27 + 1) (8 + (zmaxl 27 + 11) + zrl 27) = true ∧ zcs [zR (some 5), zI 1] ≤ zmaxl 27) (gd (zob h (some 5) 4) (zBack zY 30 120 123 [some (zR (some 5)), some (zI (hI h 7 0)), some (zI 1)] [] (zC 27 [zR (some 5), zI 1] h)))) from zGo 3 30 118 _ _ _).trans ?_
              refine (gd_t (by decide) _).trans ?_
              refine (gd_t (⟨rfl, Nat.le_of_ble_eq_true rfl, rfl, Nat.le_of_ble_eq_true rfl⟩) _).trans ?_
              refine (gd_t (⟨rfl, (PTC KC 5 _ rfl rfl), (PNC KC 5 rfl)⟩) _).trans ?_
              rfl
            · skip
              refine (show zY 30 104 [some (zR (some 5)), some (zI (hI h 7 0)), some (zI 1)] [] h = gd (false = zctor 33 ∧ zcs [] ≤ 8 ∧ zrm 30 (zrf 33 + 1) (8 + (zmaxl 33 + 11) + zrl 33) = true ∧ zcs [zR (some 5)] ≤ zmaxl 33) (gd (zob h (some 5) 4) (zBack zY 30 105 108 [some (zR (some 5)), some (zI (hI h 7 0)), some (zI 1)] [] (zC 33 [zR (some 5)] h))) from zGo 2 30 104 _ _ _).trans ?_
              refine (gd_t (⟨rfl, Nat.le_of_ble_eq_true rfl, rfl, Nat.le_of_ble_eq_true rfl⟩) _).trans ?_
              refine (gd_t (⟨rfl, (PTC KC 5 _ rfl rfl), (PNC KC 5 rfl)⟩) _).trans ?_
              rfl
        · skip
          refine (show zY 30 118 [some (zR (some 5)), some (zI (hI h 7 0)), some (zI 1)] [] h = gd (inR (1)) (gd (false = zctor 27 ∧ zcs [] ≤ 8 ∧ zrm 30 (zrf 27 + 1) (8 + (zmaxl 27 + 11) + zrl 27) = true ∧ zcs [zR (some 5), zI 1] ≤ zmaxl 27) (gd (zob h (some 5) 4) (zBack zY 30 120 123 [some (zR (some 5)), some (zI (hI h 7 0)), some (zI 1)] [] (zC 27 [zR (some 5), zI 1] h)))) from zGo 3 30 118 _ _ _).trans ?_
          refine (gd_t (by decide) _).trans ?_
          refine (gd_t (⟨rfl, Nat.le_of_ble_eq_true rfl, rfl, Nat.le_of_ble_eq_true rfl⟩) _).trans ?_
          refine (gd_t (⟨rfl, (PTC KC 5 _ rfl rfl), (PNC KC 5 rfl)⟩) _).trans ?_
          rfl
  · skip
    refine (show zY 30 27 [some (zR (some 5)), some (zI (hI h 7 0)), none] [] h = gd (inR (0)) (gd (false = zctor 144 ∧ zcs [] ≤ 8 ∧ zrm 30 (zrf 144 + 1) (8 + (zmaxl 144 + 11) + zrl 144) = true ∧ zcs [zI (hI h 7 0)] ≤ zmaxl 144) (zBack zY 30 30 33 [some (zR (some 5)), some (zI (hI h 7 0)), some (zI 0)] [] (zC 144 [zI (hI h 7 0)] h))) from zGo 4 30 27 _ _ _).trans ?_
    refine (gd_t (by decide) _).trans ?_
    refine (gd_t (⟨rfl, Nat.le_of_ble_eq_true rfl, rfl, Nat.le_of_ble_eq_true rfl⟩) _).trans ?_
    refine (congrArg (zBack zY 30 30 33 [some (zR (some 5)), some (zI (hI h 7 0)), some (zI 0)] []) (e_W_isStatement)).trans ?_
    refine (show zY 30 33 [some (zR (some 5)), some (zI (hI h 7 0)), some (zI 0)] [zI (if b_W_isStatement (hI h 7 0) then (1 : Int) else 0)] h = if (if b_W_isStatement (hI h 7 0) then (1 : Int) else 0) = 0 then zY 30 47 [some (zR (some 5)), some (zI (hI h 7 0)), some (zI 0)] [] h else zY 30 36 [some (zR (some 5)), some (zI (hI h 7 0)), some (zI 0)] [] h from zGo 1 30 33 _ _ _).trans ?_
    refine iteB (fun c11 => ?_) (fun c11 => ?_)
    · skip
      refine (show zY 30 36 [some (zR (some 5)), some (zI (hI h 7 0)), some (zI 0)] [] h = gd (-128 ≤ (17 : Int) ∧ (17 : Int) < 128) (gd (inR ((hI h 7 0) - 17)) (gd (false = zctor 31 ∧ zcs [] ≤ 8 ∧ zrm 30 (zrf 31 + 1) (8 + (zmaxl 31 + 11) + zrl 31) = true ∧ zcs [zR (some 5), zI ((hI h 7 0) - 17)] ≤ zmaxl 31) (gd (zob h (some 5) 4) (zBack zY 30 41 44 [some (zR (some 5)), some (zI (hI h 7 0)), some (zI 0)] [] (zC 31 [zR (some 5), zI ((hI h 7 0) - 17)] h))))) from zGo 5 30 36 _ _ _).trans ?_
      refine (gd_t (by decide) _).trans ?_
      refine gd_c Iff.rfl (fun c12 => ?_)
      refine (gd_t (⟨rfl, Nat.le_of_ble_eq_true rfl, rfl, Nat.le_of_ble_eq_true rfl⟩) _).trans ?_
      refine (gd_t (⟨rfl, (PTC KC 5 _ rfl rfl), (PNC KC 5 rfl)⟩) _).trans ?_
      rfl
    · skip
      refine (show zY 30 47 [some (zR (some 5)), some (zI (hI h 7 0)), some (zI 0)] [] h = gd (-128 ≤ (21 : Int) ∧ (21 : Int) < 128) (if (hI h 7 0) = 21 then zY 30 53 [some (zR (some 5)), some (zI (hI h 7 0)), some (zI 0)] [] h else zY 30 79 [some (zR (some 5)), some (zI (hI h 7 0)), some (zI 0)] [] h) from zGo 3 30 47 _ _ _).trans ?_
      refine (gd_t (by decide) _).trans ?_
      refine iteC (fun c13 => ?_) (fun c13 => ?_)
      · skip
        refine (show zY 30 53 [some (zR (some 5)), some (zI (hI h 7 0)), some (zI 0)] [] h = if 0 = 0 then zY 30 79 [some (zR (some 5)), some (zI (hI h 7 0)), some (zI 0)] [] h else zY 30 57 [some (zR (some 5)), some (zI (hI h 7 0)), some (zI 0)] [] h from zGo 2 30 53 _ _ _).trans ?_
        refine (if_pos (by decide)).trans ?_
        refine (show zY 30 79 [some (zR (some 5)), some (zI (hI h 7 0)), some (zI 0)] [] h = gd (-128 ≤ (22 : Int) ∧ (22 : Int) < 128) (if (hI h 7 0) = 22 then zY 30 85 [some (zR (some 5)), some (zI (hI h 7 0)), some (zI 0)] [] h else zY 30 118 [some (zR (some 5)), some (zI (hI h 7 0)), some (zI 0)] [] h) from zGo 3 30 79 _ _ _).trans ?_
        refine (gd_t (by decide) _).trans ?_
        refine iteC (fun c14 => ?_) (fun c14 => ?_)
        · skip
          refine (show zY 30 85 [some (zR (some 5)), some (zI (hI h 7 0)), some (zI 0)] [] h = gd (zob h (some 5) 4) (gd (inR (-1)) (if (hI h 5 6) = (-1) then zY 30 118 [some (zR (some 5)), some (zI (hI h 7 0)), some (zI 0)] [] h else zY 30 93 [some (zR (some 5)), some (zI (hI h 7 0)), some (zI 0)] [] h)) from zGo 4 30 85 _ _ _).trans ?_
          refine (gd_t (⟨rfl, (PTC KC 5 _ rfl rfl), (PNC KC 5 rfl)⟩) _).trans ?_
          refine (gd_t (by decide) _).trans ?_
          refine iteC (fun c15 => ?_) (fun c15 => ?_)
          · skip
            refine (show zY 30 118 [some (zR (some 5)), some (zI (hI h 7 0)), some (zI 0)] [] h = gd (inR (1)) (gd (false = zctor 27 ∧ zcs [] ≤ 8 ∧ zrm 30 (zrf 27 + 1) (8 + (zmaxl 27 + 11) + zrl 27) = true ∧ zcs [zR (some 5), zI 1] ≤ zmaxl 27) (gd (zob h (some 5) 4) (zBack zY 30 120 123 [some (zR (some 5)), some (zI (hI h 7 0)), some (zI 0)] [] (zC 27 [zR (some 5), zI 1] h)))) from zGo 3 30 118 _ _ _).trans ?_
            refine (gd_t (by decide) _).trans ?_
            refine (gd_t (⟨rfl, Nat.le_of_ble_eq_true rfl, rfl, Nat.le_of_ble_eq_true rfl⟩) _).trans ?_
            refine (gd_t (⟨rfl, (PTC KC 5 _ rfl rfl), (PNC KC 5 rfl)⟩) _).trans ?_
            rfl
          · skip
            refine (show zY 30 93 [some (zR (some 5)), some (zI (hI h 7 0)), some (zI 0)] [] h = if 0 = 0 then zY 30 104 [some (zR (some 5)), some (zI (hI h 7 0)), some (zI 0)] [] h else zY 30 97 [some (zR (some 5)), some (zI (hI h 7 0)), some (zI 0)] [] h from zGo 2 30 93 _ _ _).trans ?_
            refine (if_pos (by decide)).trans ?_
            refine (show zY 30 104 [some (zR (some 5)), some (zI (hI h 7 0)), some (zI 0)] [] h = gd (false = zctor 33 ∧ zcs [] ≤ 8 ∧ zrm 30 (zrf 33 + 1) (8 + (zmaxl 33 + 11) + zrl 33) = true ∧ zcs [zR (some 5)] ≤ zmaxl 33) (gd (zob h (some 5) 4) (zBack zY 30 105 108 [some (zR (some 5)), some (zI (hI h 7 0)), some (zI 0)] [] (zC 33 [zR (some 5)] h))) from zGo 2 30 104 _ _ _).trans ?_
            refine (gd_t (⟨rfl, Nat.le_of_ble_eq_true rfl, rfl, Nat.le_of_ble_eq_true rfl⟩) _).trans ?_
            refine (gd_t (⟨rfl, (PTC KC 5 _ rfl rfl), (PNC KC 5 rfl)⟩) _).trans ?_
            rfl
        · skip
          refine (show zY 30 118 [some (zR (some 5)), some (zI (hI h 7 0)), some (zI 0)] [] h = gd (inR (1)) (gd (false = zctor 27 ∧ zcs [] ≤ 8 ∧ zrm 30 (zrf 27 + 1) (8 + (zmaxl 27 + 11) + zrl 27) = true ∧ zcs [zR (some 5), zI 1] ≤ zmaxl 27) (gd (zob h (some 5) 4) (zBack zY 30 120 123 [some (zR (some 5)), some (zI (hI h 7 0)), some (zI 0)] [] (zC 27 [zR (some 5), zI 1] h)))) from zGo 3 30 118 _ _ _).trans ?_
          refine (gd_t (by decide) _).trans ?_
          refine (gd_t (⟨rfl, Nat.le_of_ble_eq_true rfl, rfl, Nat.le_of_ble_eq_true rfl⟩) _).trans ?_
          refine (gd_t (⟨rfl, (PTC KC 5 _ rfl rfl), (PNC KC 5 rfl)⟩) _).trans ?_
          rfl
      · skip
        refine (show zY 30 79 [some (zR (some 5)), some (zI (hI h 7 0)), some (zI 0)] [] h = gd (-128 ≤ (22 : Int) ∧ (22 : Int) < 128) (if (hI h 7 0) = 22 then zY 30 85 [some (zR (some 5)), some (zI (hI h 7 0)), some (zI 0)] [] h else zY 30 118 [some (zR (some 5)), some (zI (hI h 7 0)), some (zI 0)] [] h) from zGo 3 30 79 _ _ _).trans ?_
        refine (gd_t (by decide) _).trans ?_
        refine iteC (fun c16 => ?_) (fun c16 => ?_)
        · skip
          refine (show zY 30 85 [some (zR (some 5)), some (zI (hI h 7 0)), some (zI 0)] [] h = gd (zob h (some 5) 4) (gd (inR (-1)) (if (hI h 5 6) = (-1) then zY 30 118 [some (zR (some 5)), some (zI (hI h 7 0)), some (zI 0)] [] h else zY 30 93 [some (zR (some 5)), some (zI (hI h 7 0)), some (zI 0)] [] h)) from zGo 4 30 85 _ _ _).trans ?_
          refine (gd_t (⟨rfl, (PTC KC 5 _ rfl rfl), (PNC KC 5 rfl)⟩) _).trans ?_
          refine (gd_t (by decide) _).trans ?_
          refine iteC (fun c17 => ?_) (fun c17 => ?_)
          · skip
            refine (show zY 30 118 [some (zR (some 5)), some (zI (hI h 7 0)), some (zI 0)] [] h = gd (inR (1)) (gd (false = zctor 27 ∧ zcs [] ≤ 8 ∧ zrm 30 (zrf 27 + 1) (8 + (zmaxl 27 + 11) + zrl 27) = true ∧ zcs [zR (some 5), zI 1] ≤ zmaxl 27) (gd (zob h (some 5) 4) (zBack zY 30 120 123 [some (zR (some 5)), some (zI (hI h 7 0)), some (zI 0)] [] (zC 27 [zR (some 5), zI 1] h)))) from zGo 3 30 118 _ _ _).trans ?_
            refine (gd_t (by decide) _).trans ?_
            refine (gd_t (⟨rfl, Nat.le_of_ble_eq_true rfl, rfl, Nat.le_of_ble_eq_true rfl⟩) _).trans ?_
            refine (gd_t (⟨rfl, (PTC KC 5 _ rfl rfl), (PNC KC 5 rfl)⟩) _).trans ?_
            rfl
          · skip
            refine (show zY 30 93 [some (zR (some 5)), some (zI (hI h 7 0)), some (zI 0)] [] h = if 0 = 0 then zY 30 104 [some (zR (some 5)), some (zI (hI h 7 0)), some (zI 0)] [] h else zY 30 97 [some (zR (some 5)), some (zI (hI h 7 0)), some (zI 0)] [] h from zGo 2 30 93 _ _ _).trans ?_
            refine (if_pos (by decide)).trans ?_
            refine (show zY 30 104 [some (zR (some 5)), some (zI (hI h 7 0)), some (zI 0)] [] h = gd (false = zctor 33 ∧ zcs [] ≤ 8 ∧ zrm 30 (zrf 33 + 1) (8 + (zmaxl 33 + 11) + zrl 33) = true ∧ zcs [zR (some 5)] ≤ zmaxl 33) (gd (zob h (some 5) 4) (zBack zY 30 105 108 [some (zR (some 5)), some (zI (hI h 7 0)), some (zI 0)] [] (zC 33 [zR (some 5)] h))) from zGo 2 30 104 _ _ _).trans ?_
            refine (gd_t (⟨rfl, Nat.le_of_ble_eq_true rfl, rfl, Nat.le_of_ble_eq_true rfl⟩) _).trans ?_
            refine (gd_t (⟨rfl, (PTC KC 5 _ rfl rfl), (PNC KC 5 rfl)⟩) _).trans ?_
            rfl
        · skip
          refine (show zY 30 118 [some (zR (some 5)), some (zI (hI h 7 0)), some (zI 0)] [] h = gd (inR (1)) (gd (false = zctor 27 ∧ zcs [] ≤ 8 ∧ zrm 30 (zrf 27 + 1) (8 + (zmaxl 27 + 11) + zrl 27) = true ∧ zcs [zR (some 5), zI 1] ≤ zmaxl 27) (gd (zob h (some 5) 4) (zBack zY 30 120 123 [some (zR (some 5)), some (zI (hI h 7 0)), some (zI 0)] [] (zC 27 [zR (some 5), zI 1] h)))) from zGo 3 30 118 _ _ _).trans ?_
          refine (gd_t (by decide) _).trans ?_
          refine (gd_t (⟨rfl, Nat.le_of_ble_eq_true rfl, rfl, Nat.le_of_ble_eq_true rfl⟩) _).trans ?_
          refine (gd_t (⟨rfl, (PTC KC 5 _ rfl rfl), (PNC KC 5 rfl)⟩) _).trans ?_
          rfl
theorem q_Pa_parseRowWord_r44 {h : zH} {x1 : Int} {x2 : Int} (KC : KC h) : zBack zY 30 41 44 [some (zR (some 5)), some (zI x1), some (zI x2)] [] (some (.inl (none), h)) =
    some (.inl (none), h) := by
  refine (show zBack zY 30 41 44 [some (zR (some 5)), some (zI x1), some (zI x2)] [] (some (.inl (none), h)) = gd (([] : List zV).isEmpty = true ∧ zrk 30 = 0) (some (.inl (none), h)) from zGo 2 30 44 _ _ _).trans ?_
  refine (gd_t (⟨rfl, rfl⟩) _).trans ?_
  rfl
theorem q_Pa_parseRowWord_r76 {h : zH} {x1 : Int} {x2 : Int} (KC : KC h) : zBack zY 30 73 76 [some (zR (some 5)), some (zI x1), some (zI x2)] [] (some (.inl (none), h)) =
    some (.inl (none), h) := by
  refine (show zBack zY 30 73 76 [some (zR (some 5)), some (zI x1), some (zI x2)] [] (some (.inl (none), h)) = gd (([] : List zV).isEmpty = true ∧ zrk 30 = 0) (some (.inl (none), h)) from zGo 2 30 76 _ _ _).trans ?_
  refine (gd_t (⟨rfl, rfl⟩) _).trans ?_
  rfl
theorem q_Pa_parseRowWord_r108 {h : zH} {x1 : Int} {x2 : Int} (KC : KC h) : zBack zY 30 105 108 [some (zR (some 5)), some (zI x1), some (zI x2)] [] (some (.inl (none), h)) =
    zBack zY 30 112 115 [some (zR (some 5)), some (zI x1), some (zI x2)] [] (zC 91 [zR (some 7)] h) := by
  refine (show zBack zY 30 105 108 [some (zR (some 5)), some (zI x1), some (zI x2)] [] (some (.inl (none), h)) = gd (zob h (some 5) 4) (zY 30 112 [some (zR (some 5)), some (zI x1), some (zI x2)] [zR (hR h 5 2)] h) from zGo 2 30 108 _ _ _).trans ?_
  refine (gd_t (⟨rfl, (PTC KC 5 _ rfl rfl), (PNC KC 5 rfl)⟩) _).trans ?_
  refine (congrArg (fun rz => zY 30 112 [some (zR (some 5)), some (zI x1), some (zI x2)] (zR rz :: []) h) (PRC KC 5 2 _ rfl)).trans ?_
  refine (show zY 30 112 [some (zR (some 5)), some (zI x1), some (zI x2)] [zR (some 7)] h = gd (false = zctor 91 ∧ zcs [] ≤ 8 ∧ zrm 30 (zrf 91 + 1) (8 + (zmaxl 91 + 11) + zrl 91) = true ∧ zcs [zR (some 7)] ≤ zmaxl 91) (gd (zob h (some 7) 7) (zBack zY 30 112 115 [some (zR (some 5)), some (zI x1), some (zI x2)] [] (zC 91 [zR (some 7)] h))) from zGo 1 30 112 _ _ _).trans ?_
  refine (gd_t (⟨rfl, Nat.le_of_ble_eq_true rfl, rfl, Nat.le_of_ble_eq_true rfl⟩) _).trans ?_
  refine (gd_t (⟨rfl, (PTC KC 7 _ rfl rfl), (PNC KC 7 rfl)⟩) _).trans ?_
  rfl
theorem q_Pa_parseRowWord_r115 {h : zH} {x1 : Int} {x2 : Int} (KC : KC h) : zBack zY 30 112 115 [some (zR (some 5)), some (zI x1), some (zI x2)] [] (some (.inl (none), h)) =
    some (.inl (none), h) := by
  refine (show zBack zY 30 112 115 [some (zR (some 5)), some (zI x1), some (zI x2)] [] (some (.inl (none), h)) = gd (([] : List zV).isEmpty = true ∧ zrk 30 = 0) (some (.inl (none), h)) from zGo 2 30 115 _ _ _).trans ?_
  refine (gd_t (⟨rfl, rfl⟩) _).trans ?_
  rfl
theorem q_Pa_parseRowWord_r123 {h : zH} {x1 : Int} {x2 : Int} (KC : KC h) : zBack zY 30 120 123 [some (zR (some 5)), some (zI x1), some (zI x2)] [] (some (.inl (none), h)) =
    some (.inl (none), h) := by
  refine (show zBack zY 30 120 123 [some (zR (some 5)), some (zI x1), some (zI x2)] [] (some (.inl (none), h)) = gd (([] : List zV).isEmpty = true ∧ zrk 30 = 0) (some (.inl (none), h)) from zGo 1 30 123 _ _ _).trans ?_
  refine (gd_t (⟨rfl, rfl⟩) _).trans ?_
  rfl
theorem q_Pa_parseDescription {h : zH} {p : Nat} {v : Nat} (KC : KC h) (hp : PS h p) (hv : VS h v) : zC 25 [zR (some 5), zR (some p), zR (some v)] h =
    zBack zY 25 23 26 [some (zR (some 5)), some (zR (some p)), some (zR (some v)), none] [] (zC 26 [zR (some 5), zI 25] (sI (sI (sR (sR h 5 4 (some p)) 5 5 (some v)) 5 6 (-1)) 5 7 0)) := by
  refine (show zC 25 [zR (some 5), zR (some p), zR (some v)] h = gd (zob h (some 5) 4) (gd (zob (sR h 5 4 (some p)) (some 5) 4) (gd (inR (-1)) (gd (zob (sR (sR h 5 4 (some p)) 5 5 (some v)) (some 5) 4) (gd (inR (0)) (gd (zob (sI (sR (sR h 5 4 (some p)) 5 5 (some v)) 5 6 (-1)) (some 5) 4) (gd ((0 : Int) = 0 ∨ (0 : Int) = 1) (gd (-128 ≤ (25 : Int) ∧ (25 : Int) < 128) (gd (false = zctor 26 ∧ zcs [] ≤ 8 ∧ zrm 25 (zrf 26 + 1) (8 + (zmaxl 26 + 11) + zrl 26) = true ∧ zcs [zR (some 5), zI 25] ≤ zmaxl 26) (gd (zob (sI (sI (sR (sR h 5 4 (some p)) 5 5 (some v)) 5 6 (-1)) 5 7 0) (some 5) 4) (zBack zY 25 23 26 [some (zR (some 5)), some (zR (some p)), some (zR (some v)), none] [] (zC 26 [zR (some 5), zI 25] (sI (sI (sR (sR h 5 4 (some p)) 5 5 (some v)) 5 6 (-1)) 5 7 0)))))))))))) from zGo 15 25 0 _ _ _).trans ?_
  refine (gd_t (⟨rfl, (PTC KC 5 _ rfl rfl), (PNC KC 5 rfl)⟩) _).trans ?_
  refine (gd_t (⟨rfl, (PTC KC 5 _ rfl rfl), (PNC KC 5 rfl)⟩) _).trans ?_
  refine (gd_t (by decide) _).trans ?_
  refine (gd_t (⟨rfl, (PTC KC 5 _ rfl rfl), (PNC KC 5 rfl)⟩) _).trans ?_
  refine (gd_t (by decide) _).trans ?_
  refine (gd_t (⟨rfl, (PTC KC 5 _ rfl rfl), (PNC KC 5 rfl)⟩) _).trans ?_
  refine (gd_t (by decide) _).trans ?_
  refine (gd_t (by decide) _).trans ?_
  refine (gd_t (⟨rfl, Nat.le_of_ble_eq_true rfl, rfl, Nat.le_of_ble_eq_true rfl⟩) _).trans ?_
  refine (gd_t (⟨rfl, (PTC KC 5 _ rfl rfl), (PNC KC 5 rfl)⟩) _).trans ?_
  rfl
theorem q_Pa_parseDescription_r26 {h : zH} {p : Nat} {v : Nat} {v2 : Nat} (KC : KC h) (hp : PS h p) (hv : VS h v) (rv2 : hR h 5 5 = some v2) (hv2 : VS h v2) : zBack zY 25 23 26 [some (zR (some 5)), some (zR (some p)), some (zR (some v)), none] [] (some (.inl (none), h)) =
    zBack zY 25 32 35 [some (zR (some 5)), some (zR (some p)), some (zR (some v)), none] [zR (some v2)] (zC 28 [zR (some 5), zI 1] h) := by
  refine (show zBack zY 25 23 26 [some (zR (some 5)), some (zR (some p)), some (zR (some v)), none] [] (some (.inl (none), h)) = gd (zob h (some 5) 4) (zY 25 30 [some (zR (some 5)), some (zR (some p)), some (zR (some v)), none] [zR (hR h 5 5)] h) from zGo 2 25 26 _ _ _).trans ?_
  refine (gd_t (⟨rfl, (PTC KC 5 _ rfl rfl), (PNC KC 5 rfl)⟩) _).trans ?_
  refine (congrArg (fun rz => zY 25 30 [some (zR (some 5)), some (zR (some p)), some (zR (some v)), none] (zR rz :: []) h) rv2).trans ?_
  refine (show zY 25 30 [some (zR (some 5)), some (zR (some p)), some (zR (some v)), none] [zR (some v2)] h = gd (inR (1)) (gd (false = zctor 28 ∧ zcs [zR (some v2)] ≤ 8 ∧ zrm 25 (zrf 28 + 1) (8 + (zmaxl 28 + 11) + zrl 28) = true ∧ zcs [zR (some 5), zI 1] ≤ zmaxl 28) (gd (zob h (some 5) 4) (zBack zY 25 32 35 [some (zR (some 5)), some (zR (some p)), some (zR (some v)), none] [zR (some v2)] (zC 28 [zR (some 5), zI 1] h)))) from zGo 3 25 30 _ _ _).trans ?_
  refine (gd_t (by decide) _).trans ?_
  refine (gd_t (⟨rfl, Nat.le_of_ble_eq_true rfl, rfl, Nat.le_of_ble_eq_true rfl⟩) _).trans ?_
  refine (gd_t (⟨rfl, (PTC KC 5 _ rfl rfl), (PNC KC 5 rfl)⟩) _).trans ?_
  rfl
theorem q_Pa_parseDescription_r35 {h : zH} {p : Nat} {v : Nat} {vy0 : Nat} {r : Nat} (KC : KC h) (hp : PS h p) (hv : VS h v) (hvy0 : VS h vy0) (hr : FS h r) : zBack zY 25 32 35 [some (zR (some 5)), some (zR (some p)), some (zR (some v)), none] [zR (some vy0)] (some (.inl (some (zR (some r))), h)) =
    zY 25 38 [some (zR (some 5)), some (zR (some p)), some (zR (some v)), none] [] (sR h vy0 0 (some r)) := by
  refine (show zBack zY 25 32 35 [some (zR (some 5)), some (zR (some p)), some (zR (some v)), none] [zR (some vy0)] (some (.inl (some (zR (some r))), h)) = gd (zob h (some vy0) 10) (zY 25 38 [some (zR (some 5)), some (zR (some p)), some (zR (some v)), none] [] (sR h vy0 0 (some r))) from zGo 1 25 35 _ _ _).trans ?_
  refine (gd_t (⟨rfl, hvy0.1, (VS_n hvy0)⟩) _).trans ?_
  rfl
theorem q_Pa_parseDescription_38 {h : zH} {p : Nat} {v : Nat} {v2 : Nat} (KC : KC h) (hp : PS h p) (hv : VS h v) (rv2 : hR h 5 5 = some v2) (hv2 : VS h v2) : zY 25 38 [some (zR (some 5)), some (zR (some p)), some (zR (some v)), none] [] h =
    zBack zY 25 44 47 [some (zR (some 5)), some (zR (some p)), some (zR (some v)), none] [zR (some v2)] (zC 28 [zR (some 5), zI 1] h) := by
  refine (show zY 25 38 [some (zR (some 5)), some (zR (some p)), some (zR (some v)), none] [] h = gd (zob h (some 5) 4) (zY 25 42 [some (zR (some 5)), some (zR (some p)), some (zR (some v)), none] [zR (hR h 5 5)] h) from zGo 2 25 38 _ _ _).trans ?_
  refine (gd_t (⟨rfl, (PTC KC 5 _ rfl rfl), (PNC KC 5 rfl)⟩) _).trans ?_
  refine (congrArg (fun rz => zY 25 42 [some (zR (some 5)), some (zR (some p)), some (zR (some v)), none] (zR rz :: []) h) rv2).trans ?_
  refine (show zY 25 42 [some (zR (some 5)), some (zR (some p)), some (zR (some v)), none] [zR (some v2)] h = gd (inR (1)) (gd (false = zctor 28 ∧ zcs [zR (some v2)] ≤ 8 ∧ zrm 25 (zrf 28 + 1) (8 + (zmaxl 28 + 11) + zrl 28) = true ∧ zcs [zR (some 5), zI 1] ≤ zmaxl 28) (gd (zob h (some 5) 4) (zBack zY 25 44 47 [some (zR (some 5)), some (zR (some p)), some (zR (some v)), none] [zR (some v2)] (zC 28 [zR (some 5), zI 1] h)))) from zGo 3 25 42 _ _ _).trans ?_
  refine (gd_t (by decide) _).trans ?_
  refine (gd_t (⟨rfl, Nat.le_of_ble_eq_true rfl, rfl, Nat.le_of_ble_eq_true rfl⟩) _).trans ?_
  refine (gd_t (⟨rfl, (PTC KC 5 _ rfl rfl), (PNC KC 5 rfl)⟩) _).trans ?_
  rfl
theorem q_Pa_parseDescription_r47 {h : zH} {p : Nat} {v : Nat} {vy0 : Nat} {r : Nat} (KC : KC h) (hp : PS h p) (hv : VS h v) (hvy0 : VS h vy0) (hr : FS h r) : zBack zY 25 44 47 [some (zR (some 5)), some (zR (some p)), some (zR (some v)), none] [zR (some vy0)] (some (.inl (some (zR (some r))), h)) =
    zY 25 50 [some (zR (some 5)), some (zR (some p)), some (zR (some v)), none] [] (sR h vy0 1 (some r)) := by
  refine (show zBack zY 25 44 47 [some (zR (some 5)), some (zR (some p)), some (zR (some v)), none] [zR (some vy0)] (some (.inl (some (zR (some r))), h)) = gd (zob h (some vy0) 10) (zY 25 50 [some (zR (some 5)), some (zR (some p)), some (zR (some v)), none] [] (sR h vy0 1 (some r))) from zGo 1 25 47 _ _ _).trans ?_
  refine (gd_t (⟨rfl, hvy0.1, (VS_n hvy0)⟩) _).trans ?_
  rfl
theorem q_Pa_parseDescription_50 {h : zH} {p : Nat} {v : Nat} (KC : KC h) (hp : PS h p) (hv : VS h v) : zY 25 50 [some (zR (some 5)), some (zR (some p)), some (zR (some v)), none] [] h =
    zY 25 52 [some (zR (some 5)), some (zR (some p)), some (zR (some v)), some (zI 0)] [] h := by
  refine (show zY 25 50 [some (zR (some 5)), some (zR (some p)), some (zR (some v)), none] [] h = gd (inR (0)) (zY 25 52 [some (zR (some 5)), some (zR (some p)), some (zR (some v)), some (zI 0)] [] h) from zGo 2 25 50 _ _ _).trans ?_
  refine (gd_t (by decide) _).trans ?_
  rfl
theorem q_Pa_parseDescription_52 {h : zH} {p : Nat} {v : Nat} {x3 : Int} {p2 : Nat} (KC : KC h) (hp : PS h p) (hv : VS h v) (rp2 : hR h 5 4 = some p2) (hp2 : PS h p2) : zY 25 52 [some (zR (some 5)), some (zR (some p)), some (zR (some v)), some (zI x3)] [] h =
    if x3 < 800 then
      if (hI h 5 0) = 0 then
        if (hI h 7 0) = (-2) then
          if (hI h 5 6) = (-1) then
            zBack zY 25 105 108 [some (zR (some 5)), some (zR (some p)), some (zR (some v)), some (zI x3)] [] (zC 49 [zR (some p2)] h)
          else
            zBack zY 25 98 101 [some (zR (some 5)), some (zR (some p)), some (zR (some v)), some (zI x3)] [] (zC 27 [zR (some 5), zI 1] h)
        else
          zBack zY 25 79 82 [some (zR (some 5)), some (zR (some p)), some (zR (some v)), some (zI x3)] [] (zC 30 [zR (some 5)] h)
      else
        if (hI h 5 6) = (-1) then
          zBack zY 25 105 108 [some (zR (some 5)), some (zR (some p)), some (zR (some v)), some (zI x3)] [] (zC 49 [zR (some p2)] h)
        else
          zBack zY 25 98 101 [some (zR (some 5)), some (zR (some p)), some (zR (some v)), some (zI x3)] [] (zC 27 [zR (some 5), zI 1] h)
    else
      if (hI h 5 6) = (-1) then
        zBack zY 25 105 108 [some (zR (some 5)), some (zR (some p)), some (zR (some v)), some (zI x3)] [] (zC 49 [zR (some p2)] h)
      else
        zBack zY 25 98 101 [some (zR (some 5)), some (zR (some p)), some (zR (some v)), some (zI x3)] [] (zC 27 [zR (some 5), zI 1] h) := by
  refine (show zY 25 52 [some (zR (some 5)), some (zR (some p)), some (zR (some v)), some (zI x3)] [] h = gd (-32768 ≤ (800 : Int) ∧ (800 : Int) < 32768) (if x3 < 800 then zY 25 59 [some (zR (some 5)), some (zR (some p)), some (zR (some v)), some (zI x3)] [] h else zY 25 88 [some (zR (some 5)), some (zR (some p)), some (zR (some v)), some (zI x3)] [] h) from zGo 3 25 52 _ _ _).trans ?_
  refine (gd_t (by decide) _).trans ?_
  refine iteC (fun c0 => ?_) (fun c0 => ?_)
  · skip
    refine (show zY 25 59 [some (zR (some 5)), some (zR (some p)), some (zR (some v)), some (zI x3)] [] h = gd (zob h (some 5) 4) (if (hI h 5 0) = 0 then zY 25 66 [some (zR (some 5)), some (zR (some p)), some (zR (some v)), some (zI x3)] [] h else zY 25 88 [some (zR (some 5)), some (zR (some p)), some (zR (some v)), some (zI x3)] [] h) from zGo 3 25 59 _ _ _).trans ?_
    refine (gd_t (⟨rfl, (PTC KC 5 _ rfl rfl), (PNC KC 5 rfl)⟩) _).trans ?_
    refine iteC (fun c1 => ?_) (fun c1 => ?_)
    · skip
      refine (show zY 25 66 [some (zR (some 5)), some (zR (some p)), some (zR (some v)), some (zI x3)] [] h = gd (zob h (some 5) 4) (zY 25 70 [some (zR (some 5)), some (zR (some p)), some (zR (some v)), some (zI x3)] [zR (hR h 5 2)] h) from zGo 2 25 66 _ _ _).trans ?_
      refine (gd_t (⟨rfl, (PTC KC 5 _ rfl rfl), (PNC KC 5 rfl)⟩) _).trans ?_
      refine (congrArg (fun rz => zY 25 70 [some (zR (some 5)), some (zR (some p)), some (zR (some v)), some (zI x3)] (zR rz :: []) h) (PRC KC 5 2 _ rfl)).trans ?_
      refine (show zY 25 70 [some (zR (some 5)), some (zR (some p)), some (zR (some v)), some (zI x3)] [zR (some 7)] h = gd (zob h (some 7) 7) (gd (-128 ≤ (-2 : Int) ∧ (-2 : Int) < 128) (if (hI h 7 0) = (-2) then zY 25 88 [some (zR (some 5)), some (zR (some p)), some (zR (some v)), some (zI x3)] [] h else zY 25 78 [some (zR (some 5)), some (zR (some p)), some (zR (some v)), some (zI x3)] [] h)) from zGo 3 25 70 _ _ _).trans ?_
      refine (gd_t (⟨rfl, (PTC KC 7 _ rfl rfl), (PNC KC 7 rfl)⟩) _).trans ?_
      refine (gd_t (by decide) _).trans ?_
      refine iteC (fun c2 => ?_) (fun c2 => ?_)
      · skip
        refine (show zY 25 88 [some (zR (some 5)), some (zR (some p)), some (zR (some v)), some (zI x3)] [] h = gd (zob h (some 5) 4) (gd (inR (-1)) (if (hI h 5 6) = (-1) then zY 25 101 [some (zR (some 5)), some (zR (some p)), some (zR (some v)), some (zI x3)] [] h else zY 25 96 [some (zR (some 5)), some (zR (some p)), some (zR (some v)), some (zI x3)] [] h)) from zGo 4 25 88 _ _ _).trans ?_
        refine (gd_t (⟨rfl, (PTC KC 5 _ rfl rfl), (PNC KC 5 rfl)⟩) _).trans ?_
        refine (gd_t (by decide) _).trans ?_
        refine iteC (fun c3 => ?_) (fun c3 => ?_)
        · skip
          refine (show zY 25 101 [some (zR (some 5)), some (zR (some p)), some (zR (some v)), some (zI x3)] [] h = gd (zob h (some 5) 4) (zY 25 105 [some (zR (some 5)), some (zR (some p)), some (zR (some v)), some (zI x3)] [zR (hR h 5 4)] h) from zGo 2 25 101 _ _ _).trans ?_
          refine (gd_t (⟨rfl, (PTC KC 5 _ rfl rfl), (PNC KC 5 rfl)⟩) _).trans ?_
          refine (congrArg (fun rz => zY 25 105 [some (zR (some 5)), some (zR (some p)), some (zR (some v)), some (zI x3)] (zR rz :: []) h) rp2).trans ?_
          refine (show zY 25 105 [some (zR (some 5)), some (zR (some p)), some (zR (some v)), some (zI x3)] [zR (some p2)] h = gd (false = zctor 49 ∧ zcs [] ≤ 8 ∧ zrm 25 (zrf 49 + 1) (8 + (zmaxl 49 + 11) + zrl 49) = true ∧ zcs [zR (some p2)] ≤ zmaxl 49) (gd (zob h (some p2) 5) (zBack zY 25 105 108 [some (zR (some 5)), some (zR (some p)), some (zR (some v)), some (zI x3)] [] (zC 49 [zR (some p2)] h))) from zGo 1 25 105 _ _ _).trans ?_
          refine (gd_t (⟨rfl, Nat.le_of_ble_eq_true rfl, rfl, Nat.le_of_ble_eq_true rfl⟩) _).trans ?_
          refine (gd_t (⟨rfl, hp2.1, (PS_n hp2)⟩) _).trans ?_
          rfl
        · skip
          refine (show zY 25 96 [some (zR (some 5)), some (zR (some p)), some (zR (some v)), some (zI x3)] [] h = gd (inR (1)) (gd (false = zctor 27 ∧ zcs [] ≤ 8 ∧ zrm 25 (zrf 27 + 1) (8 + (zmaxl 27 + 11) + zrl 27) = true ∧ zcs [zR (some 5), zI 1] ≤ zmaxl 27) (gd (zob h (some 5) 4) (zBack zY 25 98 101 [some (zR (some 5)), some (zR (some p)), some (zR (some v)), some (zI x3)] [] (zC 27 [zR (some 5), zI 1] h)))) from zGo 3 25 96 _ _ _).trans ?_
          refine (gd_t (by decide) _).trans ?_
          refine (gd_t (⟨rfl, Nat.le_of_ble_eq_true rfl, rfl, Nat.le_of_ble_eq_true rfl⟩) _).trans ?_
          refine (gd_t (⟨rfl, (PTC KC 5 _ rfl rfl), (PNC KC 5 rfl)⟩) _).trans ?_
          rfl
      · skip
        refine (show zY 25 78 [some (zR (some 5)), some (zR (some p)), some (zR (some v)), some (zI x3)] [] h = gd (false = zctor 30 ∧ zcs [] ≤ 8 ∧ zrm 25 (zrf 30 + 1) (8 + (zmaxl 30 + 11) + zrl 30) = true ∧ zcs [zR (some 5)] ≤ zmaxl 30) (gd (zob h (some 5) 4) (zBack zY 25 79 82 [some (zR (some 5)), some (zR (some p)), some (zR (some v)), some (zI x3)] [] (zC 30 [zR (some 5)] h))) from zGo 2 25 78 _ _ _).trans ?_
        refine (gd_t (⟨rfl, Nat.le_of_ble_eq_true rfl, rfl, Nat.le_of_ble_eq_true rfl⟩) _).trans ?_
        refine (gd_t (⟨rfl, (PTC KC 5 _ rfl rfl), (PNC KC 5 rfl)⟩) _).trans ?_
        rfl
    · skip
      refine (show zY 25 88 [some (zR (some 5)), some (zR (some p)), some (zR (some v)), some (zI x3)] [] h = gd (zob h (some 5) 4) (gd (inR (-1)) (if (hI h 5 6) = (-1) then zY 25 101 [some (zR (some 5)), some (zR (some p)), some (zR (some v)), some (zI x3)] [] h else zY 25 96 [some (zR (some 5)), some (zR (some p)), some (zR (some v)), some (zI x3)] [] h)) from zGo 4 25 88 _ _ _).trans ?_
      refine (gd_t (⟨rfl, (PTC KC 5 _ rfl rfl), (PNC KC 5 rfl)⟩) _).trans ?_
      refine (gd_t (by decide) _).trans ?_
      refine iteC (fun c4 => ?_) (fun c4 => ?_)
      · skip
        refine (show zY 25 101 [some (zR (some 5)), some (zR (some p)), some (zR (some v)), some (zI x3)] [] h = gd (zob h (some 5) 4) (zY 25 105 [some (zR (some 5)), some (zR (some p)), some (zR (some v)), some (zI x3)] [zR (hR h 5 4)] h) from zGo 2 25 101 _ _ _).trans ?_
        refine (gd_t (⟨rfl, (PTC KC 5 _ rfl rfl), (PNC KC 5 rfl)⟩) _).trans ?_
        refine (congrArg (fun rz => zY 25 105 [some (zR (some 5)), some (zR (some p)), some (zR (some v)), some (zI x3)] (zR rz :: []) h) rp2).trans ?_
        refine (show zY 25 105 [some (zR (some 5)), some (zR (some p)), some (zR (some v)), some (zI x3)] [zR (some p2)] h = gd (false = zctor 49 ∧ zcs [] ≤ 8 ∧ zrm 25 (zrf 49 + 1) (8 + (zmaxl 49 + 11) + zrl 49) = true ∧ zcs [zR (some p2)] ≤ zmaxl 49) (gd (zob h (some p2) 5) (zBack zY 25 105 108 [some (zR (some 5)), some (zR (some p)), some (zR (some v)), some (zI x3)] [] (zC 49 [zR (some p2)] h))) from zGo 1 25 105 _ _ _).trans ?_
        refine (gd_t (⟨rfl, Nat.le_of_ble_eq_true rfl, rfl, Nat.le_of_ble_eq_true rfl⟩) _).trans ?_
        refine (gd_t (⟨rfl, hp2.1, (PS_n hp2)⟩) _).trans ?_
        rfl
      · skip
        refine (show zY 25 96 [some (zR (some 5)), some (zR (some p)), some (zR (some v)), some (zI x3)] [] h = gd (inR (1)) (gd (false = zctor 27 ∧ zcs [] ≤ 8 ∧ zrm 25 (zrf 27 + 1) (8 + (zmaxl 27 + 11) + zrl 27) = true ∧ zcs [zR (some 5), zI 1] ≤ zmaxl 27) (gd (zob h (some 5) 4) (zBack zY 25 98 101 [some (zR (some 5)), some (zR (some p)), some (zR (some v)), some (zI x3)] [] (zC 27 [zR (some 5), zI 1] h)))) from zGo 3 25 96 _ _ _).trans ?_
        refine (gd_t (by decide) _).trans ?_
        refine (gd_t (⟨rfl, Nat.le_of_ble_eq_true rfl, rfl, Nat.le_of_ble_eq_true rfl⟩) _).trans ?_
        refine (gd_t (⟨rfl, (PTC KC 5 _ rfl rfl), (PNC KC 5 rfl)⟩) _).trans ?_
        rfl
  · skip
    refine (show zY 25 88 [some (zR (some 5)), some (zR (some p)), some (zR (some v)), some (zI x3)] [] h = gd (zob h (some 5) 4) (gd (inR (-1)) (if (hI h 5 6) = (-1) then zY 25 101 [some (zR (some 5)), some (zR (some p)), some (zR (some v)), some (zI x3)] [] h else zY 25 96 [some (zR (some 5)), some (zR (some p)), some (zR (some v)), some (zI x3)] [] h)) from zGo 4 25 88 _ _ _).trans ?_
    refine (gd_t (⟨rfl, (PTC KC 5 _ rfl rfl), (PNC KC 5 rfl)⟩) _).trans ?_
    refine (gd_t (by decide) _).trans ?_
    refine iteC (fun c5 => ?_) (fun c5 => ?_)
    · skip
      refine (show zY 25 101 [some (zR (some 5)), some (zR (some p)), some (zR (some v)), some (zI x3)] [] h = gd (zob h (some 5) 4) (zY 25 105 [some (zR (some 5)), some (zR (some p)), some (zR (some v)), some (zI x3)] [zR (hR h 5 4)] h) from zGo 2 25 101 _ _ _).trans ?_
      refine (gd_t (⟨rfl, (PTC KC 5 _ rfl rfl), (PNC KC 5 rfl)⟩) _).trans ?_
      refine (congrArg (fun rz => zY 25 105 [some (zR (some 5)), some (zR (some p)), some (zR (some v)), some (zI x3)] (zR rz :: []) h) rp2).trans ?_
      refine (show zY 25 105 [some (zR (some 5)), some (zR (some p)), some (zR (some v)), some (zI x3)] [zR (some p2)] h = gd (false = zctor 49 ∧ zcs [] ≤ 8 ∧ zrm 25 (zrf 49 + 1) (8 + (zmaxl 49 + 11) + zrl 49) = true ∧ zcs [zR (some p2)] ≤ zmaxl 49) (gd (zob h (some p2) 5) (zBack zY 25 105 108 [some (zR (some 5)), some (zR (some p)), some (zR (some v)), some (zI x3)] [] (zC 49 [zR (some p2)] h))) from zGo 1 25 105 _ _ _).trans ?_
      refine (gd_t (⟨rfl, Nat.le_of_ble_eq_true rfl, rfl, Nat.le_of_ble_eq_true rfl⟩) _).trans ?_
      refine (gd_t (⟨rfl, hp2.1, (PS_n hp2)⟩) _).trans ?_
      rfl
    · skip
      refine (show zY 25 96 [some (zR (some 5)), some (zR (some p)), some (zR (some v)), some (zI x3)] [] h = gd (inR (1)) (gd (false = zctor 27 ∧ zcs [] ≤ 8 ∧ zrm 25 (zrf 27 + 1) (8 + (zmaxl 27 + 11) + zrl 27) = true ∧ zcs [zR (some 5), zI 1] ≤ zmaxl 27) (gd (zob h (some 5) 4) (zBack zY 25 98 101 [some (zR (some 5)), some (zR (some p)), some (zR (some v)), some (zI x3)] [] (zC 27 [zR (some 5), zI 1] h)))) from zGo 3 25 96 _ _ _).trans ?_
      refine (gd_t (by decide) _).trans ?_
      refine (gd_t (⟨rfl, Nat.le_of_ble_eq_true rfl, rfl, Nat.le_of_ble_eq_true rfl⟩) _).trans ?_
      refine (gd_t (⟨rfl, (PTC KC 5 _ rfl rfl), (PNC KC 5 rfl)⟩) _).trans ?_
      rfl
theorem q_Pa_parseDescription_r82 {h : zH} {p : Nat} {v : Nat} {x3 : Int} (KC : KC h) (hp : PS h p) (hv : VS h v) : zBack zY 25 79 82 [some (zR (some 5)), some (zR (some p)), some (zR (some v)), some (zI x3)] [] (some (.inl (none), h)) =
    gd (-2147483648 ≤ x3 + 1 ∧ x3 + 1 < 2147483648) (
    zY 25 52 [some (zR (some 5)), some (zR (some p)), some (zR (some v)), some (zI (x3 + 1))] [] h) := by
  refine (show zBack zY 25 79 82 [some (zR (some 5)), some (zR (some p)), some (zR (some v)), some (zI x3)] [] (some (.inl (none), h)) = gd (inR (x3 + 1)) (gd (inR (1)) (zY 25 52 [some (zR (some 5)), some (zR (some p)), some (zR (some v)), some (zI (x3 + 1))] [] h)) from zGo 2 25 82 _ _ _).trans ?_
  refine gd_c Iff.rfl (fun c0 => ?_)
  refine (gd_t (by decide) _).trans ?_
  rfl
theorem q_Pa_parseDescription_r101 {h : zH} {p : Nat} {v : Nat} {x3 : Int} {p2 : Nat} (KC : KC h) (hp : PS h p) (hv : VS h v) (rp2 : hR h 5 4 = some p2) (hp2 : PS h p2) : zBack zY 25 98 101 [some (zR (some 5)), some (zR (some p)), some (zR (some v)), some (zI x3)] [] (some (.inl (none), h)) =
    zBack zY 25 105 108 [some (zR (some 5)), some (zR (some p)), some (zR (some v)), some (zI x3)] [] (zC 49 [zR (some p2)] h) := by
  refine (show zBack zY 25 98 101 [some (zR (some 5)), some (zR (some p)), some (zR (some v)), some (zI x3)] [] (some (.inl (none), h)) = gd (zob h (some 5) 4) (zY 25 105 [some (zR (some 5)), some (zR (some p)), some (zR (some v)), some (zI x3)] [zR (hR h 5 4)] h) from zGo 2 25 101 _ _ _).trans ?_
  refine (gd_t (⟨rfl, (PTC KC 5 _ rfl rfl), (PNC KC 5 rfl)⟩) _).trans ?_
  refine (congrArg (fun rz => zY 25 105 [some (zR (some 5)), some (zR (some p)), some (zR (some v)), some (zI x3)] (zR rz :: []) h) rp2).trans ?_
  refine (show zY 25 105 [some (zR (some 5)), some (zR (some p)), some (zR (some v)), some (zI x3)] [zR (some p2)] h = gd (false = zctor 49 ∧ zcs [] ≤ 8 ∧ zrm 25 (zrf 49 + 1) (8 + (zmaxl 49 + 11) + zrl 49) = true ∧ zcs [zR (some p2)] ≤ zmaxl 49) (gd (zob h (some p2) 5) (zBack zY 25 105 108 [some (zR (some 5)), some (zR (some p)), some (zR (some v)), some (zI x3)] [] (zC 49 [zR (some p2)] h))) from zGo 1 25 105 _ _ _).trans ?_
  refine (gd_t (⟨rfl, Nat.le_of_ble_eq_true rfl, rfl, Nat.le_of_ble_eq_true rfl⟩) _).trans ?_
  refine (gd_t (⟨rfl, hp2.1, (PS_n hp2)⟩) _).trans ?_
  rfl
theorem q_Pa_parseDescription_r108 {h : zH} {p : Nat} {v : Nat} {x3 : Int} (KC : KC h) (hp : PS h p) (hv : VS h v) : zBack zY 25 105 108 [some (zR (some 5)), some (zR (some p)), some (zR (some v)), some (zI x3)] [] (some (.inl (none), h)) =
    some (.inl (none), h) := by
  refine (show zBack zY 25 105 108 [some (zR (some 5)), some (zR (some p)), some (zR (some v)), some (zI x3)] [] (some (.inl (none), h)) = gd (([] : List zV).isEmpty = true ∧ zrk 25 = 0) (some (.inl (none), h)) from zGo 1 25 108 _ _ _).trans ?_
  refine (gd_t (⟨rfl, rfl⟩) _).trans ?_
  rfl
theorem q_Pa_parseAlone {h : zH} {x1 : Int} (KC : KC h) : zC 34 [zR (some 5), zI x1] h =
    zBack zY 34 2 5 [some (zR (some 5)), some (zI x1), none] [] (zC 28 [zR (some 5), zI x1] h) := by
  refine (show zC 34 [zR (some 5), zI x1] h = gd (false = zctor 28 ∧ zcs [] ≤ 8 ∧ zrm 34 (zrf 28 + 1) (8 + (zmaxl 28 + 11) + zrl 28) = true ∧ zcs [zR (some 5), zI x1] ≤ zmaxl 28) (gd (zob h (some 5) 4) (zBack zY 34 2 5 [some (zR (some 5)), some (zI x1), none] [] (zC 28 [zR (some 5), zI x1] h))) from zGo 3 34 0 _ _ _).trans ?_
  refine (gd_t (⟨rfl, Nat.le_of_ble_eq_true rfl, rfl, Nat.le_of_ble_eq_true rfl⟩) _).trans ?_
  refine (gd_t (⟨rfl, (PTC KC 5 _ rfl rfl), (PNC KC 5 rfl)⟩) _).trans ?_
  rfl
theorem q_Pa_parseAlone_r5 {h : zH} {x1 : Int} {r : Nat} (KC : KC h) (hr : FS h r) : zBack zY 34 2 5 [some (zR (some 5)), some (zI x1), none] [] (some (.inl (some (zR (some r))), h)) =
    if (hI h 7 0) = (-2) then
      some (.inl (some (zR (some r))), h)
    else
      zBack zY 34 20 23 [some (zR (some 5)), some (zI x1), some (zR (some r))] [] (zC 27 [zR (some 5), zI 1] h) := by
  refine (show zBack zY 34 2 5 [some (zR (some 5)), some (zI x1), none] [] (some (.inl (some (zR (some r))), h)) = gd (zob h (some 5) 4) (zY 34 10 [some (zR (some 5)), some (zI x1), some (zR (some r))] [zR (hR h 5 2)] h) from zGo 3 34 5 _ _ _).trans ?_
  refine (gd_t (⟨rfl, (PTC KC 5 _ rfl rfl), (PNC KC 5 rfl)⟩) _).trans ?_
  refine (congrArg (fun rz => zY 34 10 [some (zR (some 5)), some (zI x1), some (zR (some r))] (zR rz :: []) h) (PRC KC 5 2 _ rfl)).trans ?_
  refine (show zY 34 10 [some (zR (some 5)), some (zI x1), some (zR (some r))] [zR (some 7)] h = gd (zob h (some 7) 7) (gd (-128 ≤ (-2 : Int) ∧ (-2 : Int) < 128) (if (hI h 7 0) = (-2) then zY 34 23 [some (zR (some 5)), some (zI x1), some (zR (some r))] [] h else zY 34 18 [some (zR (some 5)), some (zI x1), some (zR (some r))] [] h)) from zGo 3 34 10 _ _ _).trans ?_
  refine (gd_t (⟨rfl, (PTC KC 7 _ rfl rfl), (PNC KC 7 rfl)⟩) _).trans ?_
  refine (gd_t (by decide) _).trans ?_
  refine iteC (fun c0 => ?_) (fun c0 => ?_)
  · skip
    refine (show zY 34 23 [some (zR (some 5)), some (zI x1), some (zR (some r))] [] h = gd (([] : List zV).isEmpty = true ∧ zrk 34 = 5) (some (.inl (some (zR (some r))), h)) from zGo 2 34 23 _ _ _).trans ?_
    refine (gd_t (⟨rfl, rfl⟩) _).trans ?_
    rfl
  · skip
    refine (show zY 34 18 [some (zR (some 5)), some (zI x1), some (zR (some r))] [] h = gd (inR (1)) (gd (false = zctor 27 ∧ zcs [] ≤ 8 ∧ zrm 34 (zrf 27 + 1) (8 + (zmaxl 27 + 11) + zrl 27) = true ∧ zcs [zR (some 5), zI 1] ≤ zmaxl 27) (gd (zob h (some 5) 4) (zBack zY 34 20 23 [some (zR (some 5)), some (zI x1), some (zR (some r))] [] (zC 27 [zR (some 5), zI 1] h)))) from zGo 3 34 18 _ _ _).trans ?_
    refine (gd_t (by decide) _).trans ?_
    refine (gd_t (⟨rfl, Nat.le_of_ble_eq_true rfl, rfl, Nat.le_of_ble_eq_true rfl⟩) _).trans ?_
    refine (gd_t (⟨rfl, (PTC KC 5 _ rfl rfl), (PNC KC 5 rfl)⟩) _).trans ?_
    rfl
theorem q_Pa_parseAlone_r23 {h : zH} {x1 : Int} {f2 : Nat} (KC : KC h) (hf2 : FS h f2) : zBack zY 34 20 23 [some (zR (some 5)), some (zI x1), some (zR (some f2))] [] (some (.inl (none), h)) =
    some (.inl (some (zR (some f2))), h) := by
  refine (show zBack zY 34 20 23 [some (zR (some 5)), some (zI x1), some (zR (some f2))] [] (some (.inl (none), h)) = gd (([] : List zV).isEmpty = true ∧ zrk 34 = 5) (some (.inl (some (zR (some f2))), h)) from zGo 2 34 23 _ _ _).trans ?_
  refine (gd_t (⟨rfl, rfl⟩) _).trans ?_
  rfl
theorem q_V_copy {h : zH} {v : Nat} {v2 : Nat} {f : Nat} (hv : VS h v) (hv2 : VS h v2) (rf : hR h v2 0 = some f) (hf : FS h f) : zC 134 [zR (some v), zR (some v2)] h =
    zY 134 8 [some (zR (some v)), some (zR (some v2)), none] [] (sR h v 0 (some f)) := by
  refine (show zC 134 [zR (some v), zR (some v2)] h = gd (zob h (some v2) 10) (zY 134 5 [some (zR (some v)), some (zR (some v2)), none] [zR (hR h v2 0), zR (some v)] h) from zGo 3 134 0 _ _ _).trans ?_
  refine (gd_t (⟨rfl, hv2.1, (VS_n hv2)⟩) _).trans ?_
  refine (congrArg (fun rz => zY 134 5 [some (zR (some v)), some (zR (some v2)), none] (zR rz :: zR (some v) :: []) h) rf).trans ?_
  refine (show zY 134 5 [some (zR (some v)), some (zR (some v2)), none] [zR (some f), zR (some v)] h = gd (zob h (some v) 10) (zY 134 8 [some (zR (some v)), some (zR (some v2)), none] [] (sR h v 0 (some f))) from zGo 1 134 5 _ _ _).trans ?_
  refine (gd_t (⟨rfl, hv.1, (VS_n hv)⟩) _).trans ?_
  rfl
theorem q_V_copy_8 {h : zH} {v : Nat} {v2 : Nat} {f : Nat} (hv : VS h v) (hv2 : VS h v2) (rf : hR h v2 1 = some f) (hf : FS h f) : zY 134 8 [some (zR (some v)), some (zR (some v2)), none] [] h =
    zY 134 16 [some (zR (some v)), some (zR (some v2)), none] [] (sR h v 1 (some f)) := by
  refine (show zY 134 8 [some (zR (some v)), some (zR (some v2)), none] [] h = gd (zob h (some v2) 10) (zY 134 13 [some (zR (some v)), some (zR (some v2)), none] [zR (hR h v2 1), zR (some v)] h) from zGo 3 134 8 _ _ _).trans ?_
  refine (gd_t (⟨rfl, hv2.1, (VS_n hv2)⟩) _).trans ?_
  refine (congrArg (fun rz => zY 134 13 [some (zR (some v)), some (zR (some v2)), none] (zR rz :: zR (some v) :: []) h) rf).trans ?_
  refine (show zY 134 13 [some (zR (some v)), some (zR (some v2)), none] [zR (some f), zR (some v)] h = gd (zob h (some v) 10) (zY 134 16 [some (zR (some v)), some (zR (some v2)), none] [] (sR h v 1 (some f))) from zGo 1 134 13 _ _ _).trans ?_
  refine (gd_t (⟨rfl, hv.1, (VS_n hv)⟩) _).trans ?_
  rfl
theorem q_V_copy_16 {h : zH} {v : Nat} {v2 : Nat} (hv : VS h v) (hv2 : VS h v2) : zY 134 16 [some (zR (some v)), some (zR (some v2)), none] [] h =
    zY 134 18 [some (zR (some v)), some (zR (some v2)), some (zI 0)] [] h := by
  refine (show zY 134 16 [some (zR (some v)), some (zR (some v2)), none] [] h = gd (inR (0)) (zY 134 18 [some (zR (some v)), some (zR (some v2)), some (zI 0)] [] h) from zGo 2 134 16 _ _ _).trans ?_
  refine (gd_t (by decide) _).trans ?_
  rfl
theorem q_V_copy_18 {h : zH} {v : Nat} {v2 : Nat} {x2 : Int} {f : Nat} (hv : VS h v) (hv2 : VS h v2) (rf : hR h (v2 + 1) x2.toNat = some f) (hf : FS h f) : zY 134 18 [some (zR (some v)), some (zR (some v2)), some (zI x2)] [] h =
    if x2 < 24 then
      gd (0 ≤ x2 ∧ x2 < 24) (
      zY 134 36 [some (zR (some v)), some (zR (some v2)), some (zI x2)] [] (sR h (v + 1) x2.toNat (some f)))
    else
      some (.inl (none), h) := by
  refine (show zY 134 18 [some (zR (some v)), some (zR (some v2)), some (zI x2)] [] h = gd (-128 ≤ (24 : Int) ∧ (24 : Int) < 128) (if x2 < 24 then zY 134 24 [some (zR (some v)), some (zR (some v2)), some (zI x2)] [] h else zY 134 78 [some (zR (some v)), some (zR (some v2)), some (zI x2)] [] h) from zGo 3 134 18 _ _ _).trans ?_
  refine (gd_t (by decide) _).trans ?_
  refine iteC (fun c0 => ?_) (fun c0 => ?_)
  · skip
    refine (show zY 134 24 [some (zR (some v)), some (zR (some v2)), some (zI x2)] [] h = gd (zob h (some v) 10) (zY 134 28 [some (zR (some v)), some (zR (some v2)), some (zI x2)] [zR (hR h v 3)] h) from zGo 2 134 24 _ _ _).trans ?_
    refine (gd_t (⟨rfl, hv.1, (VS_n hv)⟩) _).trans ?_
    refine (congrArg (fun rz => zY 134 28 [some (zR (some v)), some (zR (some v2)), some (zI x2)] (zR rz :: []) h) (VS_r hv 3 rfl)).trans ?_
    refine (show zY 134 28 [some (zR (some v)), some (zR (some v2)), some (zI x2)] [zR (some (v + 1))] h = gd (zob h (some v2) 10) (zY 134 33 [some (zR (some v)), some (zR (some v2)), some (zI x2)] [zR (hR h v2 3), zI x2, zR (some (v + 1))] h) from zGo 3 134 28 _ _ _).trans ?_
    refine (gd_t (⟨rfl, hv2.1, (VS_n hv2)⟩) _).trans ?_
    refine (congrArg (fun rz => zY 134 33 [some (zR (some v)), some (zR (some v2)), some (zI x2)] (zR rz :: zI x2 :: zR (some (v + 1)) :: []) h) (VS_r hv2 3 rfl)).trans ?_
    refine (show zY 134 33 [some (zR (some v)), some (zR (some v2)), some (zI x2)] [zR (some (v2 + 1)), zI x2, zR (some (v + 1))] h = gd (zokw h (some (v2 + 1)) 25 x2 ∨ zokw h (some (v2 + 1)) 26 x2 ∨ zokw h (some (v2 + 1)) 27 x2) (zY 134 35 [some (zR (some v)), some (zR (some v2)), some (zI x2)] [zR (hR h (v2 + 1) x2.toNat), zI x2, zR (some (v + 1))] h) from zGo 2 134 33 _ _ _).trans ?_
    refine gd_c (cia25 (VS_t hv2 1 _ rfl rfl) (VS_ni hv2 1 rfl) (VS_l hv2 1 rfl)) (fun c1 => ?_)
    refine (congrArg (fun rz => zY 134 35 [some (zR (some v)), some (zR (some v2)), some (zI x2)] (zR rz :: zI x2 :: zR (some (v + 1)) :: []) h) rf).trans ?_
    refine (show zY 134 35 [some (zR (some v)), some (zR (some v2)), some (zI x2)] [zR (some f), zI x2, zR (some (v + 1))] h = gd (zokw h (some (v + 1)) 25 x2 ∧ zob h (some f) 2 ∨ zokw h (some (v + 1)) 26 x2 ∧ zob h (some f) 10) (zY 134 36 [some (zR (some v)), some (zR (some v2)), some (zI x2)] [] (sR h (v + 1) x2.toNat (some f))) from zGo 1 134 35 _ _ _).trans ?_
    refine (gd_t ((caa25 (v := some f) (VS_t hv 1 _ rfl rfl) (VS_ni hv 1 rfl) (VS_l hv 1 rfl) ⟨rfl, hf.1, (FS_n hf)⟩).2 (by omega)) _).trans ?_
    rfl
  · skip
    refine (show zY 134 78 [some (zR (some v)), some (zR (some v2)), some (zI x2)] [] h = gd (([] : List zV).isEmpty = true ∧ zrk 134 = 0) (some (.inl (none), h)) from zGo 1 134 78 _ _ _).trans ?_
    refine (gd_t (⟨rfl, rfl⟩) _).trans ?_
    rfl
theorem q_V_copy_36 {h : zH} {v : Nat} {v2 : Nat} {x2 : Int} {f : Nat} (hv : VS h v) (hv2 : VS h v2) (rf : hR h (v2 + 2) x2.toNat = some f) (hf : FS h f) : zY 134 36 [some (zR (some v)), some (zR (some v2)), some (zI x2)] [] h =
    gd (0 ≤ x2 ∧ x2 < 24) (
    zY 134 48 [some (zR (some v)), some (zR (some v2)), some (zI x2)] [] (sR h (v + 2) x2.toNat (some f))) := by
  refine (show zY 134 36 [some (zR (some v)), some (zR (some v2)), some (zI x2)] [] h = gd (zob h (some v) 10) (zY 134 40 [some (zR (some v)), some (zR (some v2)), some (zI x2)] [zR (hR h v 4)] h) from zGo 2 134 36 _ _ _).trans ?_
  refine (gd_t (⟨rfl, hv.1, (VS_n hv)⟩) _).trans ?_
  refine (congrArg (fun rz => zY 134 40 [some (zR (some v)), some (zR (some v2)), some (zI x2)] (zR rz :: []) h) (VS_r hv 4 rfl)).trans ?_
  refine (show zY 134 40 [some (zR (some v)), some (zR (some v2)), some (zI x2)] [zR (some (v + 2))] h = gd (zob h (some v2) 10) (zY 134 45 [some (zR (some v)), some (zR (some v2)), some (zI x2)] [zR (hR h v2 4), zI x2, zR (some (v + 2))] h) from zGo 3 134 40 _ _ _).trans ?_
  refine (gd_t (⟨rfl, hv2.1, (VS_n hv2)⟩) _).trans ?_
  refine (congrArg (fun rz => zY 134 45 [some (zR (some v)), some (zR (some v2)), some (zI x2)] (zR rz :: zI x2 :: zR (some (v + 2)) :: []) h) (VS_r hv2 4 rfl)).trans ?_
  refine (show zY 134 45 [some (zR (some v)), some (zR (some v2)), some (zI x2)] [zR (some (v2 + 2)), zI x2, zR (some (v + 2))] h = gd (zokw h (some (v2 + 2)) 25 x2 ∨ zokw h (some (v2 + 2)) 26 x2 ∨ zokw h (some (v2 + 2)) 27 x2) (zY 134 47 [some (zR (some v)), some (zR (some v2)), some (zI x2)] [zR (hR h (v2 + 2) x2.toNat), zI x2, zR (some (v + 2))] h) from zGo 2 134 45 _ _ _).trans ?_
  refine gd_c (cia25 (VS_t hv2 2 _ rfl rfl) (VS_ni hv2 2 rfl) (VS_l hv2 2 rfl)) (fun c0 => ?_)
  refine (congrArg (fun rz => zY 134 47 [some (zR (some v)), some (zR (some v2)), some (zI x2)] (zR rz :: zI x2 :: zR (some (v + 2)) :: []) h) rf).trans ?_
  refine (show zY 134 47 [some (zR (some v)), some (zR (some v2)), some (zI x2)] [zR (some f), zI x2, zR (some (v + 2))] h = gd (zokw h (some (v + 2)) 25 x2 ∧ zob h (some f) 2 ∨ zokw h (some (v + 2)) 26 x2 ∧ zob h (some f) 10) (zY 134 48 [some (zR (some v)), some (zR (some v2)), some (zI x2)] [] (sR h (v + 2) x2.toNat (some f))) from zGo 1 134 47 _ _ _).trans ?_
  refine (gd_t ((caa25 (v := some f) (VS_t hv 2 _ rfl rfl) (VS_ni hv 2 rfl) (VS_l hv 2 rfl) ⟨rfl, hf.1, (FS_n hf)⟩).2 (by omega)) _).trans ?_
  rfl
theorem q_V_copy_48 {h : zH} {v : Nat} {v2 : Nat} {x2 : Int} (hv : VS h v) (hv2 : VS h v2) : zY 134 48 [some (zR (some v)), some (zR (some v2)), some (zI x2)] [] h =
    gd (0 ≤ x2 ∧ x2 < 24) (
    gd (-2147483648 ≤ x2 + 1 ∧ x2 + 1 < 2147483648) (
    zY 134 18 [some (zR (some v)), some (zR (some v2)), some (zI (x2 + 1))] [] (sI (sI h (v + 3) x2.toNat (hI h (v2 + 3) x2.toNat)) (v + 4) x2.toNat (hI (sI h (v + 3) x2.toNat (hI h (v2 + 3) x2.toNat)) (v2 + 4) x2.toNat)))) := by
  refine (show zY 134 48 [some (zR (some v)), some (zR (some v2)), some (zI x2)] [] h = gd (zob h (some v) 10) (zY 134 52 [some (zR (some v)), some (zR (some v2)), some (zI x2)] [zR (hR h v 5)] h) from zGo 2 134 48 _ _ _).trans ?_
  refine (gd_t (⟨rfl, hv.1, (VS_n hv)⟩) _).trans ?_
  refine (congrArg (fun rz => zY 134 52 [some (zR (some v)), some (zR (some v2)), some (zI x2)] (zR rz :: []) h) (VS_r hv 5 rfl)).trans ?_
  refine (show zY 134 52 [some (zR (some v)), some (zR (some v2)), some (zI x2)] [zR (some (v + 3))] h = gd (zob h (some v2) 10) (zY 134 57 [some (zR (some v)), some (zR (some v2)), some (zI x2)] [zR (hR h v2 5), zI x2, zR (some (v + 3))] h) from zGo 3 134 52 _ _ _).trans ?_
  refine (gd_t (⟨rfl, hv2.1, (VS_n hv2)⟩) _).trans ?_
  refine (congrArg (fun rz => zY 134 57 [some (zR (some v)), some (zR (some v2)), some (zI x2)] (zR rz :: zI x2 :: zR (some (v + 3)) :: []) h) (VS_r hv2 5 rfl)).trans ?_
  refine (show zY 134 57 [some (zR (some v)), some (zR (some v2)), some (zI x2)] [zR (some (v2 + 3)), zI x2, zR (some (v + 3))] h = gd (zok h (some (v2 + 3)) 22 x2) (gd (zokw h (some (v + 3)) 22 x2) (gd (zob (sI h (v + 3) x2.toNat (hI h (v2 + 3) x2.toNat)) (some v) 10) (zY 134 64 [some (zR (some v)), some (zR (some v2)), some (zI x2)] [zR (hR h v 6)] (sI h (v + 3) x2.toNat (hI h (v2 + 3) x2.toNat))))) from zGo 5 134 57 _ _ _).trans ?_
  refine gd_c (ci (VS_t hv2 3 _ rfl rfl) (VS_l hv2 3 rfl)) (fun c0 => ?_)
  refine (gd_t ((ciw (VS_t hv 3 _ rfl rfl) (VS_ni hv 3 rfl) (VS_l hv 3 rfl)).2 (by omega)) _).trans ?_
  refine (gd_t (⟨rfl, hv.1, (VS_n hv)⟩) _).trans ?_
  refine (congrArg (fun rz => zY 134 64 [some (zR (some v)), some (zR (some v2)), some (zI x2)] (zR rz :: []) (sI h (v + 3) x2.toNat (hI h (v2 + 3) x2.toNat))) (VS_r hv 6 rfl)).trans ?_
  refine (show zY 134 64 [some (zR (some v)), some (zR (some v2)), some (zI x2)] [zR (some (v + 4))] (sI h (v + 3) x2.toNat (hI h (v2 + 3) x2.toNat)) = gd (zob (sI h (v + 3) x2.toNat (hI h (v2 + 3) x2.toNat)) (some v2) 10) (zY 134 69 [some (zR (some v)), some (zR (some v2)), some (zI x2)] [zR (hR h v2 6), zI x2, zR (some (v + 4))] (sI h (v + 3) x2.toNat (hI h (v2 + 3) x2.toNat))) from zGo 3 134 64 _ _ _).trans ?_
  refine (gd_t (⟨rfl, hv2.1, (VS_n hv2)⟩) _).trans ?_
  refine (congrArg (fun rz => zY 134 69 [some (zR (some v)), some (zR (some v2)), some (zI x2)] (zR rz :: zI x2 :: zR (some (v + 4)) :: []) (sI h (v + 3) x2.toNat (hI h (v2 + 3) x2.toNat))) (VS_r hv2 6 rfl)).trans ?_
  refine (show zY 134 69 [some (zR (some v)), some (zR (some v2)), some (zI x2)] [zR (some (v2 + 4)), zI x2, zR (some (v + 4))] (sI h (v + 3) x2.toNat (hI h (v2 + 3) x2.toNat)) = gd (zok (sI h (v + 3) x2.toNat (hI h (v2 + 3) x2.toNat)) (some (v2 + 4)) 22 x2) (gd (zokw (sI h (v + 3) x2.toNat (hI h (v2 + 3) x2.toNat)) (some (v + 4)) 22 x2) (gd (inR (x2 + 1)) (gd (inR (1)) (zY 134 18 [some (zR (some v)), some (zR (some v2)), some (zI (x2 + 1))] [] (sI (sI h (v + 3) x2.toNat (hI h (v2 + 3) x2.toNat)) (v + 4) x2.toNat (hI (sI h (v + 3) x2.toNat (hI h (v2 + 3) x2.toNat)) (v2 + 4) x2.toNat)))))) from zGo 5 134 69 _ _ _).trans ?_
  refine (gd_t ((ci (VS_t hv2 4 _ rfl rfl) (VS_l hv2 4 rfl)).2 (by omega)) _).trans ?_
  refine (gd_t ((ciw (VS_t hv 4 _ rfl rfl) (VS_ni hv 4 rfl) (VS_l hv 4 rfl)).2 (by omega)) _).trans ?_
  refine gd_c Iff.rfl (fun c1 => ?_)
  refine (gd_t (by decide) _).trans ?_
  rfl
theorem q_H_forget {h : zH} (KC : KC h) : zC 16 [zR (some 10)] h =
    zY 16 7 [some (zR (some 10)), some (zI 0)] [] (sI h 10 0 0) := by
  refine (show zC 16 [zR (some 10)] h = gd (inR (0)) (gd (zob h (some 10) 3) (gd (inR (0)) (zY 16 7 [some (zR (some 10)), some (zI 0)] [] (sI h 10 0 0)))) from zGo 5 16 0 _ _ _).trans ?_
  refine (gd_t (by decide) _).trans ?_
  refine (gd_t (⟨rfl, (PTC KC 10 _ rfl rfl), (PNC KC 10 rfl)⟩) _).trans ?_
  refine (gd_t (by decide) _).trans ?_
  rfl
theorem q_H_forget_7 {h : zH} {x1 : Int} (KC : KC h) : zY 16 7 [some (zR (some 10)), some (zI x1)] [] h =
    if x1 < 2 then
      gd (0 ≤ x1 ∧ x1 < 2) (
      gd (-2147483648 ≤ x1 + 1 ∧ x1 + 1 < 2147483648) (
      zY 16 7 [some (zR (some 10)), some (zI (x1 + 1))] [] (sI h 13 x1.toNat 0)))
    else
      some (.inl (none), h) := by
  refine (show zY 16 7 [some (zR (some 10)), some (zI x1)] [] h = gd (inR (2)) (if x1 < 2 then zY 16 12 [some (zR (some 10)), some (zI x1)] [] h else zY 16 25 [some (zR (some 10)), some (zI x1)] [] h) from zGo 3 16 7 _ _ _).trans ?_
  refine (gd_t (by decide) _).trans ?_
  refine iteC (fun c0 => ?_) (fun c0 => ?_)
  · skip
    refine (show zY 16 12 [some (zR (some 10)), some (zI x1)] [] h = gd (zob h (some 10) 3) (zY 16 16 [some (zR (some 10)), some (zI x1)] [zR (hR h 10 4)] h) from zGo 2 16 12 _ _ _).trans ?_
    refine (gd_t (⟨rfl, (PTC KC 10 _ rfl rfl), (PNC KC 10 rfl)⟩) _).trans ?_
    refine (congrArg (fun rz => zY 16 16 [some (zR (some 10)), some (zI x1)] (zR rz :: []) h) (PRC KC 10 4 _ rfl)).trans ?_
    refine (show zY 16 16 [some (zR (some 10)), some (zI x1)] [zR (some 13)] h = gd (inR (0)) (gd (zokw h (some 13) 21 x1 ∨ zokw h (some 13) 20 x1) (gd (-128 ≤ (0 : Int) ∧ (0 : Int) < 128 ∧ (hT h (zdr (some 13)) = 20 → (0 : Int) = 0 ∨ (0 : Int) = 1)) (gd (inR (x1 + 1)) (gd (inR (1)) (zY 16 7 [some (zR (some 10)), some (zI (x1 + 1))] [] (sI h 13 x1.toNat 0)))))) from zGo 5 16 16 _ _ _).trans ?_
    refine (gd_t (by decide) _).trans ?_
    refine gd_c (cib20 (PTC KC 13 _ rfl rfl) (PNC KC 13 rfl) (PLC KC 13 2 rfl rfl)) (fun c1 => ?_)
    refine (gd_t (⟨by decide, by decide, fun _ => by decide⟩) _).trans ?_
    refine gd_c Iff.rfl (fun c2 => ?_)
    refine (gd_t (by decide) _).trans ?_
    rfl
  · skip
    refine (show zY 16 25 [some (zR (some 10)), some (zI x1)] [] h = gd (([] : List zV).isEmpty = true ∧ zrk 16 = 0) (some (.inl (none), h)) from zGo 1 16 25 _ _ _).trans ?_
    refine (gd_t (⟨rfl, rfl⟩) _).trans ?_
    rfl
theorem q_H_remember {h : zH} {v : Nat} {v2 : Nat} (KC : KC h) (hv : VS h v) (g0 : (-2147483648 ≤ (hI h 10 1) + 1 ∧ (hI h 10 1) + 1 < 2147483648) → (-1 ≤ ((hI h 10 1) + 1) ∧ ((hI h 10 1) + 1) ≤ 10) := by omega) (rv2 : hR h 11 (flm10 ((hI h 10 1) + 1)).toNat = some v2) (hv2 : VS h v2) : zC 17 [zR (some 10), zR (some v)] h =
    gd (-2147483648 ≤ (hI h 10 1) + 1 ∧ (hI h 10 1) + 1 < 2147483648) (
    gd (0 ≤ (flm10 ((hI h 10 1) + 1)) ∧ (flm10 ((hI h 10 1) + 1)) < 10) (
    zBack zY 17 25 28 [some (zR (some 10)), some (zR (some v))] [] (zC 134 [zR (some v2), zR (some v)] (sI h 10 1 (flm10 ((hI h 10 1) + 1)))))) := by
  refine (show zC 17 [zR (some 10), zR (some v)] h = gd (zob h (some 10) 3) (gd (inR (1)) (gd (inR ((hI h 10 1) + 1)) (gd (-128 ≤ (10 : Int) ∧ (10 : Int) < 128) (gd (false = zctor 225 ∧ zcs [zR (some 10)] ≤ 8 ∧ zrm 17 (zrf 225 + 1) (8 + (zmaxl 225 + 11) + zrl 225) = true ∧ zcs [zI ((hI h 10 1) + 1), zI 10] ≤ zmaxl 225) (zBack zY 17 9 12 [some (zR (some 10)), some (zR (some v))] [zR (some 10)] (zC 225 [zI ((hI h 10 1) + 1), zI 10] h)))))) from zGo 7 17 0 _ _ _).trans ?_
  refine (gd_t (⟨rfl, (PTC KC 10 _ rfl rfl), (PNC KC 10 rfl)⟩) _).trans ?_
  refine (gd_t (by decide) _).trans ?_
  refine gd_c Iff.rfl (fun c0 => ?_)
  refine (gd_t (by decide) _).trans ?_
  refine (gd_t (⟨rfl, Nat.le_of_ble_eq_true rfl, rfl, Nat.le_of_ble_eq_true rfl⟩) _).trans ?_
  refine (congrArg (zBack zY 17 9 12 [some (zR (some 10)), some (zR (some v))] [zR (some 10)]) (e_flm10 (g0 c0))).trans ?_
  refine (show zY 17 12 [some (zR (some 10)), some (zR (some v))] [zI (flm10 ((hI h 10 1) + 1)), zR (some 10)] h = gd (zob h (some 10) 3) (gd (zob (sI h 10 1 (flm10 ((hI h 10 1) + 1))) (some 10) 3) (zY 17 19 [some (zR (some 10)), some (zR (some v))] [zR (hR h 10 2)] (sI h 10 1 (flm10 ((hI h 10 1) + 1))))) from zGo 3 17 12 _ _ _).trans ?_
  refine (gd_t (⟨rfl, (PTC KC 10 _ rfl rfl), (PNC KC 10 rfl)⟩) _).trans ?_
  refine (gd_t (⟨rfl, (PTC KC 10 _ rfl rfl), (PNC KC 10 rfl)⟩) _).trans ?_
  refine (congrArg (fun rz => zY 17 19 [some (zR (some 10)), some (zR (some v))] (zR rz :: []) (sI h 10 1 (flm10 ((hI h 10 1) + 1)))) (PRC KC 10 2 _ rfl)).trans ?_
  refine (show zY 17 19 [some (zR (some 10)), some (zR (some v))] [zR (some 11)] (sI h 10 1 (flm10 ((hI h 10 1) + 1))) = gd (zob (sI h 10 1 (flm10 ((hI h 10 1) + 1))) (some 10) 3) (gd (zokw (sI h 10 1 (flm10 ((hI h 10 1) + 1))) (some 11) 25 (flm10 ((hI h 10 1) + 1)) ∨ zokw (sI h 10 1 (flm10 ((hI h 10 1) + 1))) (some 11) 26 (flm10 ((hI h 10 1) + 1)) ∨ zokw (sI h 10 1 (flm10 ((hI h 10 1) + 1))) (some 11) 27 (flm10 ((hI h 10 1) + 1))) (zY 17 24 [some (zR (some 10)), some (zR (some v))] [zR (hR h 11 (flm10 ((hI h 10 1) + 1)).toNat)] (sI h 10 1 (flm10 ((hI h 10 1) + 1))))) from zGo 3 17 19 _ _ _).trans ?_
  refine (gd_t (⟨rfl, (PTC KC 10 _ rfl rfl), (PNC KC 10 rfl)⟩) _).trans ?_
  refine gd_c (cia26 (PTC KC 11 _ rfl rfl) (PNC KC 11 rfl) (PLC KC 11 10 rfl rfl)) (fun c1 => ?_)
  refine (congrArg (fun rz => zY 17 24 [some (zR (some 10)), some (zR (some v))] (zR rz :: []) (sI h 10 1 (flm10 ((hI h 10 1) + 1)))) rv2).trans ?_
  refine (show zY 17 24 [some (zR (some 10)), some (zR (some v))] [zR (some v2)] (sI h 10 1 (flm10 ((hI h 10 1) + 1))) = gd (false = zctor 134 ∧ zcs [] ≤ 8 ∧ zrm 17 (zrf 134 + 1) (8 + (zmaxl 134 + 11) + zrl 134) = true ∧ zcs [zR (some v2), zR (some v)] ≤ zmaxl 134) (gd (zob (sI h 10 1 (flm10 ((hI h 10 1) + 1))) (some v2) 10) (zBack zY 17 25 28 [some (zR (some 10)), some (zR (some v))] [] (zC 134 [zR (some v2), zR (some v)] (sI h 10 1 (flm10 ((hI h 10 1) + 1)))))) from zGo 2 17 24 _ _ _).trans ?_
  refine (gd_t (⟨rfl, Nat.le_of_ble_eq_true rfl, rfl, Nat.le_of_ble_eq_true rfl⟩) _).trans ?_
  refine (gd_t (⟨rfl, hv2.1, (VS_n hv2)⟩) _).trans ?_
  rfl
theorem q_H_remember_r28 {h : zH} {v : Nat} (KC : KC h) (hv : VS h v) : zBack zY 17 25 28 [some (zR (some 10)), some (zR (some v))] [] (some (.inl (none), h)) =
    gd (-2147483648 ≤ (hI h 10 0) + 1 ∧ (hI h 10 0) + 1 < 2147483648) (
    some (.inl (none), (sI h 10 0 (f_Ma_min ((hI h 10 0) + 1) 10)))) := by
  refine (show zBack zY 17 25 28 [some (zR (some 10)), some (zR (some v))] [] (some (.inl (none), h)) = gd (zob h (some 10) 3) (gd (inR (1)) (gd (inR ((hI h 10 0) + 1)) (gd (-128 ≤ (10 : Int) ∧ (10 : Int) < 128) (gd (false = zctor 224 ∧ zcs [zR (some 10)] ≤ 8 ∧ zrm 17 (zrf 224 + 1) (8 + (zmaxl 224 + 11) + zrl 224) = true ∧ zcs [zI ((hI h 10 0) + 1), zI 10] ≤ zmaxl 224) (zBack zY 17 37 40 [some (zR (some 10)), some (zR (some v))] [zR (some 10)] (zC 224 [zI ((hI h 10 0) + 1), zI 10] h)))))) from zGo 7 17 28 _ _ _).trans ?_
  refine (gd_t (⟨rfl, (PTC KC 10 _ rfl rfl), (PNC KC 10 rfl)⟩) _).trans ?_
  refine (gd_t (by decide) _).trans ?_
  refine gd_c Iff.rfl (fun c0 => ?_)
  refine (gd_t (by decide) _).trans ?_
  refine (gd_t (⟨rfl, Nat.le_of_ble_eq_true rfl, rfl, Nat.le_of_ble_eq_true rfl⟩) _).trans ?_
  refine (congrArg (zBack zY 17 37 40 [some (zR (some 10)), some (zR (some v))] [zR (some 10)]) (e_Ma_min)).trans ?_
  refine (show zY 17 40 [some (zR (some 10)), some (zR (some v))] [zI (f_Ma_min ((hI h 10 0) + 1) 10), zR (some 10)] h = gd (zob h (some 10) 3) (gd (([] : List zV).isEmpty = true ∧ zrk 17 = 0) (some (.inl (none), (sI h 10 0 (f_Ma_min ((hI h 10 0) + 1) 10))))) from zGo 2 17 40 _ _ _).trans ?_
  refine (gd_t (⟨rfl, (PTC KC 10 _ rfl rfl), (PNC KC 10 rfl)⟩) _).trans ?_
  refine (gd_t (⟨rfl, rfl⟩) _).trans ?_
  rfl
theorem q_H_takeBack {h : zH} {v : Nat} {v2 : Nat} (KC : KC h) (hv : VS h v) (g0 : (-1 ≤ (hI h 10 1) ∧ (hI h 10 1) ≤ 10) := by omega) (rv2 : hR h 11 (flm10 (hI h 10 1)).toNat = some v2) (hv2 : VS h v2) : zC 20 [zR (some 10), zR (some v)] h =
    gd (0 ≤ (flm10 (hI h 10 1)) ∧ (flm10 (hI h 10 1)) < 10) (
    zBack zY 20 15 18 [some (zR (some 10)), some (zR (some v))] [] (zC 134 [zR (some v), zR (some v2)] h)) := by
  refine (show zC 20 [zR (some 10), zR (some v)] h = gd (zob h (some 10) 3) (zY 20 5 [some (zR (some 10)), some (zR (some v))] [zR (hR h 10 2), zR (some v)] h) from zGo 3 20 0 _ _ _).trans ?_
  refine (gd_t (⟨rfl, (PTC KC 10 _ rfl rfl), (PNC KC 10 rfl)⟩) _).trans ?_
  refine (congrArg (fun rz => zY 20 5 [some (zR (some 10)), some (zR (some v))] (zR rz :: zR (some v) :: []) h) (PRC KC 10 2 _ rfl)).trans ?_
  refine (show zY 20 5 [some (zR (some 10)), some (zR (some v))] [zR (some 11), zR (some v)] h = gd (zob h (some 10) 3) (gd (-128 ≤ (10 : Int) ∧ (10 : Int) < 128) (gd (false = zctor 225 ∧ zcs [zR (some 11), zR (some v)] ≤ 8 ∧ zrm 20 (zrf 225 + 1) (8 + (zmaxl 225 + 11) + zrl 225) = true ∧ zcs [zI (hI h 10 1), zI 10] ≤ zmaxl 225) (zBack zY 20 11 14 [some (zR (some 10)), some (zR (some v))] [zR (some 11), zR (some v)] (zC 225 [zI (hI h 10 1), zI 10] h)))) from zGo 4 20 5 _ _ _).trans ?_
  refine (gd_t (⟨rfl, (PTC KC 10 _ rfl rfl), (PNC KC 10 rfl)⟩) _).trans ?_
  refine (gd_t (by decide) _).trans ?_
  refine (gd_t (⟨rfl, Nat.le_of_ble_eq_true rfl, rfl, Nat.le_of_ble_eq_true rfl⟩) _).trans ?_
  refine (congrArg (zBack zY 20 11 14 [some (zR (some 10)), some (zR (some v))] [zR (some 11), zR (some v)]) (e_flm10 (g0))).trans ?_
  refine (show zY 20 14 [some (zR (some 10)), some (zR (some v))] [zI (flm10 (hI h 10 1)), zR (some 11), zR (some v)] h = gd (zokw h (some 11) 25 (flm10 (hI h 10 1)) ∨ zokw h (some 11) 26 (flm10 (hI h 10 1)) ∨ zokw h (some 11) 27 (flm10 (hI h 10 1))) (zY 20 15 [some (zR (some 10)), some (zR (some v))] [zR (hR h 11 (flm10 (hI h 10 1)).toNat), zR (some v)] h) from zGo 1 20 14 _ _ _).trans ?_
  refine gd_c (cia26 (PTC KC 11 _ rfl rfl) (PNC KC 11 rfl) (PLC KC 11 10 rfl rfl)) (fun c0 => ?_)
  refine (congrArg (fun rz => zY 20 15 [some (zR (some 10)), some (zR (some v))] (zR rz :: zR (some v) :: []) h) rv2).trans ?_
  refine (show zY 20 15 [some (zR (some 10)), some (zR (some v))] [zR (some v2), zR (some v)] h = gd (false = zctor 134 ∧ zcs [] ≤ 8 ∧ zrm 20 (zrf 134 + 1) (8 + (zmaxl 134 + 11) + zrl 134) = true ∧ zcs [zR (some v), zR (some v2)] ≤ zmaxl 134) (gd (zob h (some v) 10) (zBack zY 20 15 18 [some (zR (some 10)), some (zR (some v))] [] (zC 134 [zR (some v), zR (some v2)] h))) from zGo 1 20 15 _ _ _).trans ?_
  refine (gd_t (⟨rfl, Nat.le_of_ble_eq_true rfl, rfl, Nat.le_of_ble_eq_true rfl⟩) _).trans ?_
  refine (gd_t (⟨rfl, hv.1, (VS_n hv)⟩) _).trans ?_
  rfl
theorem q_H_takeBack_r18 {h : zH} {v : Nat} (KC : KC h) (hv : VS h v) (g0 : (-2147483648 ≤ (hI h 10 1) - 1 ∧ (hI h 10 1) - 1 < 2147483648) → (-1 ≤ ((hI h 10 1) - 1) ∧ ((hI h 10 1) - 1) ≤ 10) := by omega) : zBack zY 20 15 18 [some (zR (some 10)), some (zR (some v))] [] (some (.inl (none), h)) =
    gd (-2147483648 ≤ (hI h 10 1) - 1 ∧ (hI h 10 1) - 1 < 2147483648) (
    gd (-2147483648 ≤ (hI h 10 0) - 1 ∧ (hI h 10 0) - 1 < 2147483648) (
    some (.inl (none), (sI (sI h 10 1 (flm10 ((hI h 10 1) - 1))) 10 0 ((hI h 10 0) - 1))))) := by
  refine (show zBack zY 20 15 18 [some (zR (some 10)), some (zR (some v))] [] (some (.inl (none), h)) = gd (zob h (some 10) 3) (gd (inR (1)) (gd (inR ((hI h 10 1) - 1)) (gd (-128 ≤ (10 : Int) ∧ (10 : Int) < 128) (gd (false = zctor 225 ∧ zcs [zR (some 10)] ≤ 8 ∧ zrm 20 (zrf 225 + 1) (8 + (zmaxl 225 + 11) + zrl 225) = true ∧ zcs [zI ((hI h 10 1) - 1), zI 10] ≤ zmaxl 225) (zBack zY 20 27 30 [some (zR (some 10)), some (zR (some v))] [zR (some 10)] (zC 225 [zI ((hI h 10 1) - 1), zI 10] h)))))) from zGo 7 20 18 _ _ _).trans ?_
  refine (gd_t (⟨rfl, (PTC KC 10 _ rfl rfl), (PNC KC 10 rfl)⟩) _).trans ?_
  refine (gd_t (by decide) _).trans ?_
  refine gd_c Iff.rfl (fun c0 => ?_)
  refine (gd_t (by decide) _).trans ?_
  refine (gd_t (⟨rfl, Nat.le_of_ble_eq_true rfl, rfl, Nat.le_of_ble_eq_true rfl⟩) _).trans ?_
  refine (congrArg (zBack zY 20 27 30 [some (zR (some 10)), some (zR (some v))] [zR (some 10)]) (e_flm10 (g0 c0))).trans ?_
  refine (show zY 20 30 [some (zR (some 10)), some (zR (some v))] [zI (flm10 ((hI h 10 1) - 1)), zR (some 10)] h = gd (zob h (some 10) 3) (gd (zob (sI h 10 1 (flm10 ((hI h 10 1) - 1))) (some 10) 3) (gd (inR (1)) (gd (inR ((hI h 10 0) - 1)) (gd (zob (sI h 10 1 (flm10 ((hI h 10 1) - 1))) (some 10) 3) (gd (([] : List zV).isEmpty = true ∧ zrk 20 = 0) (some (.inl (none), (sI (sI h 10 1 (flm10 ((hI h 10 1) - 1))) 10 0 ((hI h 10 0) - 1))))))))) from zGo 8 20 30 _ _ _).trans ?_
  refine (gd_t (⟨rfl, (PTC KC 10 _ rfl rfl), (PNC KC 10 rfl)⟩) _).trans ?_
  refine (gd_t (⟨rfl, (PTC KC 10 _ rfl rfl), (PNC KC 10 rfl)⟩) _).trans ?_
  refine (gd_t (by decide) _).trans ?_
  refine gd_c Iff.rfl (fun c1 => ?_)
  refine (gd_t (⟨rfl, (PTC KC 10 _ rfl rfl), (PNC KC 10 rfl)⟩) _).trans ?_
  refine (gd_t (⟨rfl, rfl⟩) _).trans ?_
  rfl
theorem q_H_keepIn {h : zH} {x1 : Int} {v : Nat} {v2 : Nat} (KC : KC h) (hv : VS h v) (rv2 : hR h 12 x1.toNat = some v2) (hv2 : VS h v2) : zC 21 [zR (some 10), zI x1, zR (some v)] h =
    if x1 < 0 then
      some (.inl (none), h)
    else
      if x1 < 2 then
        zBack zY 21 16 19 [some (zR (some 10)), some (zI x1), some (zR (some v))] [] (zC 134 [zR (some v2), zR (some v)] h)
      else
        some (.inl (none), h) := by
  refine (show zC 21 [zR (some 10), zI x1, zR (some v)] h = if x1 < 0 then zY 21 26 [some (zR (some 10)), some (zI x1), some (zR (some v))] [] h else zY 21 4 [some (zR (some 10)), some (zI x1), some (zR (some v))] [] h from zGo 2 21 0 _ _ _).trans ?_
  refine iteC (fun c0 => ?_) (fun c0 => ?_)
  · skip
    refine (show zY 21 26 [some (zR (some 10)), some (zI x1), some (zR (some v))] [] h = gd (([] : List zV).isEmpty = true ∧ zrk 21 = 0) (some (.inl (none), h)) from zGo 1 21 26 _ _ _).trans ?_
    refine (gd_t (⟨rfl, rfl⟩) _).trans ?_
    rfl
  · skip
    refine (show zY 21 4 [some (zR (some 10)), some (zI x1), some (zR (some v))] [] h = gd (inR (2)) (if x1 < 2 then zY 21 9 [some (zR (some 10)), some (zI x1), some (zR (some v))] [] h else zY 21 26 [some (zR (some 10)), some (zI x1), some (zR (some v))] [] h) from zGo 3 21 4 _ _ _).trans ?_
    refine (gd_t (by decide) _).trans ?_
    refine iteC (fun c1 => ?_) (fun c1 => ?_)
    · skip
      refine (show zY 21 9 [some (zR (some 10)), some (zI x1), some (zR (some v))] [] h = gd (zob h (some 10) 3) (zY 21 13 [some (zR (some 10)), some (zI x1), some (zR (some v))] [zR (hR h 10 3)] h) from zGo 2 21 9 _ _ _).trans ?_
      refine (gd_t (⟨rfl, (PTC KC 10 _ rfl rfl), (PNC KC 10 rfl)⟩) _).trans ?_
      refine (congrArg (fun rz => zY 21 13 [some (zR (some 10)), some (zI x1), some (zR (some v))] (zR rz :: []) h) (PRC KC 10 3 _ rfl)).trans ?_
      refine (show zY 21 13 [some (zR (some 10)), some (zI x1), some (zR (some v))] [zR (some 12)] h = gd (zokw h (some 12) 25 x1 ∨ zokw h (some 12) 26 x1 ∨ zokw h (some 12) 27 x1) (zY 21 15 [some (zR (some 10)), some (zI x1), some (zR (some v))] [zR (hR h 12 x1.toNat)] h) from zGo 2 21 13 _ _ _).trans ?_
      refine (gd_t ((cia26 (PTC KC 12 _ rfl rfl) (PNC KC 12 rfl) (PLC KC 12 2 rfl rfl)).2 (by omega)) _).trans ?_
      refine (congrArg (fun rz => zY 21 15 [some (zR (some 10)), some (zI x1), some (zR (some v))] (zR rz :: []) h) rv2).trans ?_
      refine (show zY 21 15 [some (zR (some 10)), some (zI x1), some (zR (some v))] [zR (some v2)] h = gd (false = zctor 134 ∧ zcs [] ≤ 8 ∧ zrm 21 (zrf 134 + 1) (8 + (zmaxl 134 + 11) + zrl 134) = true ∧ zcs [zR (some v2), zR (some v)] ≤ zmaxl 134) (gd (zob h (some v2) 10) (zBack zY 21 16 19 [some (zR (some 10)), some (zI x1), some (zR (some v))] [] (zC 134 [zR (some v2), zR (some v)] h))) from zGo 2 21 15 _ _ _).trans ?_
      refine (gd_t (⟨rfl, Nat.le_of_ble_eq_true rfl, rfl, Nat.le_of_ble_eq_true rfl⟩) _).trans ?_
      refine (gd_t (⟨rfl, hv2.1, (VS_n hv2)⟩) _).trans ?_
      rfl
    · skip
      refine (show zY 21 26 [some (zR (some 10)), some (zI x1), some (zR (some v))] [] h = gd (([] : List zV).isEmpty = true ∧ zrk 21 = 0) (some (.inl (none), h)) from zGo 1 21 26 _ _ _).trans ?_
      refine (gd_t (⟨rfl, rfl⟩) _).trans ?_
      rfl
theorem q_H_keepIn_r19 {h : zH} {x1 : Int} {v : Nat} (KC : KC h) (hv : VS h v) : zBack zY 21 16 19 [some (zR (some 10)), some (zI x1), some (zR (some v))] [] (some (.inl (none), h)) =
    gd (0 ≤ x1 ∧ x1 < 2) (
    some (.inl (none), (sI h 13 x1.toNat 1))) := by
  refine (show zBack zY 21 16 19 [some (zR (some 10)), some (zI x1), some (zR (some v))] [] (some (.inl (none), h)) = gd (zob h (some 10) 3) (zY 21 23 [some (zR (some 10)), some (zI x1), some (zR (some v))] [zR (hR h 10 4)] h) from zGo 2 21 19 _ _ _).trans ?_
  refine (gd_t (⟨rfl, (PTC KC 10 _ rfl rfl), (PNC KC 10 rfl)⟩) _).trans ?_
  refine (congrArg (fun rz => zY 21 23 [some (zR (some 10)), some (zI x1), some (zR (some v))] (zR rz :: []) h) (PRC KC 10 4 _ rfl)).trans ?_
  refine (show zY 21 23 [some (zR (some 10)), some (zI x1), some (zR (some v))] [zR (some 13)] h = gd (inR (1)) (gd (zokw h (some 13) 21 x1 ∨ zokw h (some 13) 20 x1) (gd (-128 ≤ (1 : Int) ∧ (1 : Int) < 128 ∧ (hT h (zdr (some 13)) = 20 → (1 : Int) = 0 ∨ (1 : Int) = 1)) (gd (([] : List zV).isEmpty = true ∧ zrk 21 = 0) (some (.inl (none), (sI h 13 x1.toNat 1)))))) from zGo 4 21 23 _ _ _).trans ?_
  refine (gd_t (by decide) _).trans ?_
  refine gd_c (cib20 (PTC KC 13 _ rfl rfl) (PNC KC 13 rfl) (PLC KC 13 2 rfl rfl)) (fun c0 => ?_)
  refine (gd_t (⟨by decide, by decide, fun _ => by decide⟩) _).trans ?_
  refine (gd_t (⟨rfl, rfl⟩) _).trans ?_
  rfl
theorem q_H_bringBack {h : zH} {x1 : Int} {v : Nat} {v2 : Nat} (KC : KC h) (hv : VS h v) (rv2 : hR h 12 x1.toNat = some v2) (hv2 : VS h v2) : zC 19 [zR (some 10), zI x1, zR (some v)] h =
    if b_H_holds h x1 then
      zBack zY 19 15 18 [some (zR (some 10)), some (zI x1), some (zR (some v))] [] (zC 134 [zR (some v), zR (some v2)] h)
    else
      some (.inl (none), h) := by
  refine (show zC 19 [zR (some 10), zI x1, zR (some v)] h = gd (false = zctor 18 ∧ zcs [] ≤ 8 ∧ zrm 19 (zrf 18 + 1) (8 + (zmaxl 18 + 11) + zrl 18) = true ∧ zcs [zR (some 10), zI x1] ≤ zmaxl 18) (gd (zob h (some 10) 3) (zBack zY 19 2 5 [some (zR (some 10)), some (zI x1), some (zR (some v))] [] (zC 18 [zR (some 10), zI x1] h))) from zGo 3 19 0 _ _ _).trans ?_
  refine (gd_t (⟨rfl, Nat.le_of_ble_eq_true rfl, rfl, Nat.le_of_ble_eq_true rfl⟩) _).trans ?_
  refine (gd_t (⟨rfl, (PTC KC 10 _ rfl rfl), (PNC KC 10 rfl)⟩) _).trans ?_
  refine (congrArg (zBack zY 19 2 5 [some (zR (some 10)), some (zI x1), some (zR (some v))] []) (e_H_holds KC)).trans ?_
  refine (show zY 19 5 [some (zR (some 10)), some (zI x1), some (zR (some v))] [zI (if b_H_holds h x1 then (1 : Int) else 0)] h = if (if b_H_holds h x1 then (1 : Int) else 0) = 0 then zY 19 18 [some (zR (some 10)), some (zI x1), some (zR (some v))] [] h else zY 19 8 [some (zR (some 10)), some (zI x1), some (zR (some v))] [] h from zGo 1 19 5 _ _ _).trans ?_
  refine iteB (fun c0 => ?_) (fun c0 => ?_)
  · skip
    refine (show zY 19 8 [some (zR (some 10)), some (zI x1), some (zR (some v))] [] h = gd (zob h (some 10) 3) (zY 19 13 [some (zR (some 10)), some (zI x1), some (zR (some v))] [zR (hR h 10 3), zR (some v)] h) from zGo 3 19 8 _ _ _).trans ?_
    refine (gd_t (⟨rfl, (PTC KC 10 _ rfl rfl), (PNC KC 10 rfl)⟩) _).trans ?_
    refine (congrArg (fun rz => zY 19 13 [some (zR (some 10)), some (zI x1), some (zR (some v))] (zR rz :: zR (some v) :: []) h) (PRC KC 10 3 _ rfl)).trans ?_
    refine (show zY 19 13 [some (zR (some 10)), some (zI x1), some (zR (some v))] [zR (some 12), zR (some v)] h = gd (zokw h (some 12) 25 x1 ∨ zokw h (some 12) 26 x1 ∨ zokw h (some 12) 27 x1) (zY 19 15 [some (zR (some 10)), some (zI x1), some (zR (some v))] [zR (hR h 12 x1.toNat), zR (some v)] h) from zGo 2 19 13 _ _ _).trans ?_
    refine (gd_t ((cia26 (PTC KC 12 _ rfl rfl) (PNC KC 12 rfl) (PLC KC 12 2 rfl rfl)).2 (by (try simp only [b_H_holds] at *); omega)) _).trans ?_
    refine (congrArg (fun rz => zY 19 15 [some (zR (some 10)), some (zI x1), some (zR (some v))] (zR rz :: zR (some v) :: []) h) rv2).trans ?_
    refine (show zY 19 15 [some (zR (some 10)), some (zI x1), some (zR (some v))] [zR (some v2), zR (some v)] h = gd (false = zctor 134 ∧ zcs [] ≤ 8 ∧ zrm 19 (zrf 134 + 1) (8 + (zmaxl 134 + 11) + zrl 134) = true ∧ zcs [zR (some v), zR (some v2)] ≤ zmaxl 134) (gd (zob h (some v) 10) (zBack zY 19 15 18 [some (zR (some 10)), some (zI x1), some (zR (some v))] [] (zC 134 [zR (some v), zR (some v2)] h))) from zGo 1 19 15 _ _ _).trans ?_
    refine (gd_t (⟨rfl, Nat.le_of_ble_eq_true rfl, rfl, Nat.le_of_ble_eq_true rfl⟩) _).trans ?_
    refine (gd_t (⟨rfl, hv.1, (VS_n hv)⟩) _).trans ?_
    rfl
  · skip
    refine (show zY 19 18 [some (zR (some 10)), some (zI x1), some (zR (some v))] [] h = gd (([] : List zV).isEmpty = true ∧ zrk 19 = 0) (some (.inl (none), h)) from zGo 1 19 18 _ _ _).trans ?_
    refine (gd_t (⟨rfl, rfl⟩) _).trans ?_
    rfl
theorem q_H_bringBack_r18 {h : zH} {x1 : Int} {v : Nat} (KC : KC h) (hv : VS h v) : zBack zY 19 15 18 [some (zR (some 10)), some (zI x1), some (zR (some v))] [] (some (.inl (none), h)) =
    some (.inl (none), h) := by
  refine (show zBack zY 19 15 18 [some (zR (some 10)), some (zI x1), some (zR (some v))] [] (some (.inl (none), h)) = gd (([] : List zV).isEmpty = true ∧ zrk 19 = 0) (some (.inl (none), h)) from zGo 1 19 18 _ _ _).trans ?_
  refine (gd_t (⟨rfl, rfl⟩) _).trans ?_
  rfl
theorem q_H_heldSlots {h : zH} (KC : KC h) : zC 22 [zR (some 10)] h =
    zY 22 4 [some (zR (some 10)), some (zI 0), some (zI 0)] [] h := by
  refine (show zC 22 [zR (some 10)] h = gd (inR (0)) (gd (inR (0)) (zY 22 4 [some (zR (some 10)), some (zI 0), some (zI 0)] [] h)) from zGo 4 22 0 _ _ _).trans ?_
  refine (gd_t (by decide) _).trans ?_
  refine (gd_t (by decide) _).trans ?_
  rfl
theorem q_H_heldSlots_4 {h : zH} {x1 : Int} {x2 : Int} (KC : KC h) : zY 22 4 [some (zR (some 10)), some (zI x1), some (zI x2)] [] h =
    if x2 < 2 then
      gd (0 ≤ x2 ∧ x2 < 2) (
      if (hI h 13 x2.toNat) = 0 then
        gd (-2147483648 ≤ x2 + 1 ∧ x2 + 1 < 2147483648) (
        zY 22 4 [some (zR (some 10)), some (zI x1), some (zI (x2 + 1))] [] h)
      else
        gd (-2147483648 ≤ x1 + 1 ∧ x1 + 1 < 2147483648) (
        gd (-2147483648 ≤ x2 + 1 ∧ x2 + 1 < 2147483648) (
        zY 22 4 [some (zR (some 10)), some (zI (x1 + 1)), some (zI (x2 + 1))] [] h)))
    else
      some (.inl (some (zI x1)), h) := by
  refine (show zY 22 4 [some (zR (some 10)), some (zI x1), some (zI x2)] [] h = gd (inR (2)) (if x2 < 2 then zY 22 9 [some (zR (some 10)), some (zI x1), some (zI x2)] [] h else zY 22 27 [some (zR (some 10)), some (zI x1), some (zI x2)] [] h) from zGo 3 22 4 _ _ _).trans ?_
  refine (gd_t (by decide) _).trans ?_
  refine iteC (fun c0 => ?_) (fun c0 => ?_)
  · skip
    refine (show zY 22 9 [some (zR (some 10)), some (zI x1), some (zI x2)] [] h = gd (zob h (some 10) 3) (zY 22 13 [some (zR (some 10)), some (zI x1), some (zI x2)] [zR (hR h 10 4)] h) from zGo 2 22 9 _ _ _).trans ?_
    refine (gd_t (⟨rfl, (PTC KC 10 _ rfl rfl), (PNC KC 10 rfl)⟩) _).trans ?_
    refine (congrArg (fun rz => zY 22 13 [some (zR (some 10)), some (zI x1), some (zI x2)] (zR rz :: []) h) (PRC KC 10 4 _ rfl)).trans ?_
    refine (show zY 22 13 [some (zR (some 10)), some (zI x1), some (zI x2)] [zR (some 13)] h = gd (zokw h (some 13) 21 x2 ∨ zokw h (some 13) 20 x2) (if (hI h 13 x2.toNat) = 0 then zY 22 21 [some (zR (some 10)), some (zI x1), some (zI x2)] [] h else zY 22 18 [some (zR (some 10)), some (zI x1), some (zI x2)] [] h) from zGo 3 22 13 _ _ _).trans ?_
    refine gd_c (cib20 (PTC KC 13 _ rfl rfl) (PNC KC 13 rfl) (PLC KC 13 2 rfl rfl)) (fun c1 => ?_)
    refine iteC (fun c2 => ?_) (fun c2 => ?_)
    · skip
      refine (show zY 22 21 [some (zR (some 10)), some (zI x1), some (zI x2)] [] h = gd (inR (x2 + 1)) (gd (inR (1)) (zY 22 4 [some (zR (some 10)), some (zI x1), some (zI (x2 + 1))] [] h)) from zGo 2 22 21 _ _ _).trans ?_
      refine gd_c Iff.rfl (fun c3 => ?_)
      refine (gd_t (by decide) _).trans ?_
      rfl
    · skip
      refine (show zY 22 18 [some (zR (some 10)), some (zI x1), some (zI x2)] [] h = gd (inR (x1 + 1)) (gd (inR (1)) (gd (inR (x2 + 1)) (gd (inR (1)) (zY 22 4 [some (zR (some 10)), some (zI (x1 + 1)), some (zI (x2 + 1))] [] h)))) from zGo 3 22 18 _ _ _).trans ?_
      refine gd_c Iff.rfl (fun c4 => ?_)
      refine (gd_t (by decide) _).trans ?_
      refine gd_c Iff.rfl (fun c5 => ?_)
      refine (gd_t (by decide) _).trans ?_
      rfl
  · skip
    refine (show zY 22 27 [some (zR (some 10)), some (zI x1), some (zI x2)] [] h = gd (([] : List zV).isEmpty = true ∧ (zrk 22 = 1 ∨ zrk 22 = 6 ∧ ((x1 : Int) = 0 ∨ (x1 : Int) = 1))) (some (.inl (some (zI x1)), h)) from zGo 2 22 27 _ _ _).trans ?_
    refine (gd_t (⟨rfl, Or.inl rfl⟩) _).trans ?_
    rfl

