/-! The reference: the reading of texts, and changes. -/
theorem q_M_comes {h : zH} {x1 : Int} (KM : KM h) (g0 : (-2147483648 ≤ 10 * (hI h 177 10) ∧ 10 * (hI h 177 10) < 2147483648) → (-2147483648 ≤ (10 * (hI h 177 10)) + 7 ∧ (10 * (hI h 177 10)) + 7 < 2147483648) → (x1 = 2) → (hI h 177 10 ≤ 24) := by omega) (g1 : (-2147483648 ≤ 10 * (hI h 177 10) ∧ 10 * (hI h 177 10) < 2147483648) → (-2147483648 ≤ (10 * (hI h 177 10)) + 7 ∧ (10 * (hI h 177 10)) + 7 < 2147483648) → (¬ (x1 = 2)) → (x1 = 3) → (hI h 177 10 ≤ 24) := by omega) : zC 205 [zR (some 177), zI x1] h =
    gd (-2147483648 ≤ 10 * (hI h 177 10) ∧ 10 * (hI h 177 10) < 2147483648) (
    gd (-2147483648 ≤ (10 * (hI h 177 10)) + 7 ∧ (10 * (hI h 177 10)) + 7 < 2147483648) (
    if x1 = 2 then
      gd (0 ≤ ((10 * (hI h 177 10)) + 7) ∧ ((10 * (hI h 177 10)) + 7) < 240) (
      zY 205 38 [some (zR (some 177)), some (zI x1), some (zI (hI h 177 10)), some (zI (10 * (hI h 177 10)))] [] (sI h 183 ((10 * (hI h 177 10)) + 7).toNat (f_M_manyOf h x1)))
    else
      if x1 = 3 then
        gd (0 ≤ ((10 * (hI h 177 10)) + 7) ∧ ((10 * (hI h 177 10)) + 7) < 240) (
        zY 205 38 [some (zR (some 177)), some (zI x1), some (zI (hI h 177 10)), some (zI (10 * (hI h 177 10)))] [] (sI h 183 ((10 * (hI h 177 10)) + 7).toNat (f_M_manyOf h x1)))
      else
        gd (0 ≤ ((10 * (hI h 177 10)) + 7) ∧ ((10 * (hI h 177 10)) + 7) < 240) (
        zY 205 38 [some (zR (some 177)), some (zI x1), some (zI (hI h 177 10)), some (zI (10 * (hI h 177 10)))] [] (sI h 183 ((10 * (hI h 177 10)) + 7).toNat (-1))))) := by
  refine (show zC 205 [zR (some 177), zI x1] h = gd (zob h (some 177) 12) (gd (-128 ≤ (10 : Int) ∧ (10 : Int) < 128) (gd (inR (10 * (hI h 177 10))) (gd (zob h (some 177) 12) (zY 205 14 [some (zR (some 177)), some (zI x1), some (zI (hI h 177 10)), some (zI (10 * (hI h 177 10)))] [zR (hR h 177 8)] h)))) from zGo 9 205 0 _ _ _).trans ?_
  refine (gd_t (⟨rfl, (PTM KM 177 _ rfl rfl), (PNM KM 177 rfl)⟩) _).trans ?_
  refine (gd_t (by decide) _).trans ?_
  refine gd_c Iff.rfl (fun c0 => ?_)
  refine (gd_t (⟨rfl, (PTM KM 177 _ rfl rfl), (PNM KM 177 rfl)⟩) _).trans ?_
  refine (congrArg (fun r => zY 205 14 [some (zR (some 177)), some (zI x1), some (zI (hI h 177 10)), some (zI (10 * (hI h 177 10)))] (zR r :: []) h) (PRM KM 177 8 _ rfl)).trans ?_
  refine (show zY 205 14 [some (zR (some 177)), some (zI x1), some (zI (hI h 177 10)), some (zI (10 * (hI h 177 10)))] [zR (some 183)] h = gd (-128 ≤ (7 : Int) ∧ (7 : Int) < 128) (gd (inR ((10 * (hI h 177 10)) + 7)) (gd (inR (2)) (if x1 = 2 then zY 205 28 [some (zR (some 177)), some (zI x1), some (zI (hI h 177 10)), some (zI (10 * (hI h 177 10)))] [zI ((10 * (hI h 177 10)) + 7), zR (some 183)] h else zY 205 23 [some (zR (some 177)), some (zI x1), some (zI (hI h 177 10)), some (zI (10 * (hI h 177 10)))] [zI ((10 * (hI h 177 10)) + 7), zR (some 183)] h))) from zGo 6 205 14 _ _ _).trans ?_
  refine (gd_t (by decide) _).trans ?_
  refine gd_c Iff.rfl (fun c1 => ?_)
  refine (gd_t (by decide) _).trans ?_
  refine iteC (fun c2 => ?_) (fun c2 => ?_)
  · skip
    refine (show zY 205 28 [some (zR (some 177)), some (zI x1), some (zI (hI h 177 10)), some (zI (10 * (hI h 177 10)))] [zI ((10 * (hI h 177 10)) + 7), zR (some 183)] h = gd (false = zctor 206 ∧ zcs [zI ((10 * (hI h 177 10)) + 7), zR (some 183)] ≤ 8 ∧ zrm 205 (zrf 206 + 1) (8 + (zmaxl 206 + 11) + zrl 206) = true ∧ zcs [zR (some 177), zI x1] ≤ zmaxl 206) (gd (zob h (some 177) 12) (zBack zY 205 30 33 [some (zR (some 177)), some (zI x1), some (zI (hI h 177 10)), some (zI (10 * (hI h 177 10)))] [zI ((10 * (hI h 177 10)) + 7), zR (some 183)] (zC 206 [zR (some 177), zI x1] h))) from zGo 3 205 28 _ _ _).trans ?_
    refine (gd_t (⟨rfl, Nat.le_of_ble_eq_true rfl, rfl, Nat.le_of_ble_eq_true rfl⟩) _).trans ?_
    refine (gd_t (⟨rfl, (PTM KM 177 _ rfl rfl), (PNM KM 177 rfl)⟩) _).trans ?_
    refine (congrArg (zBack zY 205 30 33 [some (zR (some 177)), some (zI x1), some (zI (hI h 177 10)), some (zI (10 * (hI h 177 10)))] [zI ((10 * (hI h 177 10)) + 7), zR (some 183)]) (e_M_manyOf KM (g0 c0 c1 c2))).trans ?_
    refine (show zY 205 33 [some (zR (some 177)), some (zI x1), some (zI (hI h 177 10)), some (zI (10 * (hI h 177 10)))] [zI (f_M_manyOf h x1), zI ((10 * (hI h 177 10)) + 7), zR (some 183)] h = gd (zokw h (some 183) 22 ((10 * (hI h 177 10)) + 7)) (zY 205 38 [some (zR (some 177)), some (zI x1), some (zI (hI h 177 10)), some (zI (10 * (hI h 177 10)))] [] (sI h 183 ((10 * (hI h 177 10)) + 7).toNat (f_M_manyOf h x1))) from zGo 2 205 33 _ _ _).trans ?_
    refine gd_c (ciw (PTM KM 183 _ rfl rfl) (PNM KM 183 rfl) (PLM KM 183 240 rfl rfl)) (fun c3 => ?_)
    rfl
  · skip
    refine (show zY 205 23 [some (zR (some 177)), some (zI x1), some (zI (hI h 177 10)), some (zI (10 * (hI h 177 10)))] [zI ((10 * (hI h 177 10)) + 7), zR (some 183)] h = gd (inR (3)) (if x1 = 3 then zY 205 28 [some (zR (some 177)), some (zI x1), some (zI (hI h 177 10)), some (zI (10 * (hI h 177 10)))] [zI ((10 * (hI h 177 10)) + 7), zR (some 183)] h else zY 205 36 [some (zR (some 177)), some (zI x1), some (zI (hI h 177 10)), some (zI (10 * (hI h 177 10)))] [zI ((10 * (hI h 177 10)) + 7), zR (some 183)] h) from zGo 3 205 23 _ _ _).trans ?_
    refine (gd_t (by decide) _).trans ?_
    refine iteC (fun c4 => ?_) (fun c4 => ?_)
    · skip
      refine (show zY 205 28 [some (zR (some 177)), some (zI x1), some (zI (hI h 177 10)), some (zI (10 * (hI h 177 10)))] [zI ((10 * (hI h 177 10)) + 7), zR (some 183)] h = gd (false = zctor 206 ∧ zcs [zI ((10 * (hI h 177 10)) + 7), zR (some 183)] ≤ 8 ∧ zrm 205 (zrf 206 + 1) (8 + (zmaxl 206 + 11) + zrl 206) = true ∧ zcs [zR (some 177), zI x1] ≤ zmaxl 206) (gd (zob h (some 177) 12) (zBack zY 205 30 33 [some (zR (some 177)), some (zI x1), some (zI (hI h 177 10)), some (zI (10 * (hI h 177 10)))] [zI ((10 * (hI h 177 10)) + 7), zR (some 183)] (zC 206 [zR (some 177), zI x1] h))) from zGo 3 205 28 _ _ _).trans ?_
      refine (gd_t (⟨rfl, Nat.le_of_ble_eq_true rfl, rfl, Nat.le_of_ble_eq_true rfl⟩) _).trans ?_
      refine (gd_t (⟨rfl, (PTM KM 177 _ rfl rfl), (PNM KM 177 rfl)⟩) _).trans ?_
      refine (congrArg (zBack zY 205 30 33 [some (zR (some 177)), some (zI x1), some (zI (hI h 177 10)), some (zI (10 * (hI h 177 10)))] [zI ((10 * (hI h 177 10)) + 7), zR (some 183)]) (e_M_manyOf KM (g1 c0 c1 c2 c4))).trans ?_
      refine (show zY 205 33 [some (zR (some 177)), some (zI x1), some (zI (hI h 177 10)), some (zI (10 * (hI h 177 10)))] [zI (f_M_manyOf h x1), zI ((10 * (hI h 177 10)) + 7), zR (some 183)] h = gd (zokw h (some 183) 22 ((10 * (hI h 177 10)) + 7)) (zY 205 38 [some (zR (some 177)), some (zI x1), some (zI (hI h 177 10)), some (zI (10 * (hI h 177 10)))] [] (sI h 183 ((10 * (hI h 177 10)) + 7).toNat (f_M_manyOf h x1))) from zGo 2 205 33 _ _ _).trans ?_
      refine gd_c (ciw (PTM KM 183 _ rfl rfl) (PNM KM 183 rfl) (PLM KM 183 240 rfl rfl)) (fun c5 => ?_)
      rfl
    · skip
      refine (show zY 205 36 [some (zR (some 177)), some (zI x1), some (zI (hI h 177 10)), some (zI (10 * (hI h 177 10)))] [zI ((10 * (hI h 177 10)) + 7), zR (some 183)] h = gd (inR (-1)) (gd (zokw h (some 183) 22 ((10 * (hI h 177 10)) + 7)) (zY 205 38 [some (zR (some 177)), some (zI x1), some (zI (hI h 177 10)), some (zI (10 * (hI h 177 10)))] [] (sI h 183 ((10 * (hI h 177 10)) + 7).toNat (-1)))) from zGo 2 205 36 _ _ _).trans ?_
      refine (gd_t (by decide) _).trans ?_
      refine gd_c (ciw (PTM KM 183 _ rfl rfl) (PNM KM 183 rfl) (PLM KM 183 240 rfl rfl)) (fun c6 => ?_)
      rfl
theorem q_M_comes_38 {h : zH} {x1 : Int} {x2 : Int} {x3 : Int} (KM : KM h) : zY 205 38 [some (zR (some 177)), some (zI x1), some (zI x2), some (zI x3)] [] h =
    gd (-2147483648 ≤ (hI h 177 10) + 1 ∧ (hI h 177 10) + 1 < 2147483648) (
    zY 205 48 [some (zR (some 177)), some (zI x1), some (zI x2), some (zI x3)] [] (sI h 177 10 ((hI h 177 10) + 1))) := by
  refine (show zY 205 38 [some (zR (some 177)), some (zI x1), some (zI x2), some (zI x3)] [] h = gd (zob h (some 177) 12) (gd (inR (1)) (gd (inR ((hI h 177 10) + 1)) (gd (zob h (some 177) 12) (zY 205 48 [some (zR (some 177)), some (zI x1), some (zI x2), some (zI x3)] [] (sI h 177 10 ((hI h 177 10) + 1)))))) from zGo 6 205 38 _ _ _).trans ?_
  refine (gd_t (⟨rfl, (PTM KM 177 _ rfl rfl), (PNM KM 177 rfl)⟩) _).trans ?_
  refine (gd_t (by decide) _).trans ?_
  refine gd_c Iff.rfl (fun c0 => ?_)
  refine (gd_t (⟨rfl, (PTM KM 177 _ rfl rfl), (PNM KM 177 rfl)⟩) _).trans ?_
  rfl
theorem q_M_comes_48 {h : zH} {x1 : Int} {x2 : Int} {x3 : Int} (KM : KM h) : zY 205 48 [some (zR (some 177)), some (zI x1), some (zI x2), some (zI x3)] [] h =
    gd (-2147483648 ≤ x3 + 0 ∧ x3 + 0 < 2147483648) (
    gd (0 ≤ (x3 + 0) ∧ (x3 + 0) < 240) (
    zY 205 57 [some (zR (some 177)), some (zI x1), some (zI x2), some (zI x3)] [] (sI h 183 (x3 + 0).toNat x1))) := by
  refine (show zY 205 48 [some (zR (some 177)), some (zI x1), some (zI x2), some (zI x3)] [] h = gd (zob h (some 177) 12) (zY 205 52 [some (zR (some 177)), some (zI x1), some (zI x2), some (zI x3)] [zR (hR h 177 8)] h) from zGo 2 205 48 _ _ _).trans ?_
  refine (gd_t (⟨rfl, (PTM KM 177 _ rfl rfl), (PNM KM 177 rfl)⟩) _).trans ?_
  refine (congrArg (fun r => zY 205 52 [some (zR (some 177)), some (zI x1), some (zI x2), some (zI x3)] (zR r :: []) h) (PRM KM 177 8 _ rfl)).trans ?_
  refine (show zY 205 52 [some (zR (some 177)), some (zI x1), some (zI x2), some (zI x3)] [zR (some 183)] h = gd (inR (0)) (gd (inR (x3 + 0)) (gd (zokw h (some 183) 22 (x3 + 0)) (zY 205 57 [some (zR (some 177)), some (zI x1), some (zI x2), some (zI x3)] [] (sI h 183 (x3 + 0).toNat x1)))) from zGo 5 205 52 _ _ _).trans ?_
  refine (gd_t (by decide) _).trans ?_
  refine gd_c Iff.rfl (fun c0 => ?_)
  refine gd_c (ciw (PTM KM 183 _ rfl rfl) (PNM KM 183 rfl) (PLM KM 183 240 rfl rfl)) (fun c1 => ?_)
  rfl
theorem q_M_comes_57 {h : zH} {x1 : Int} {x2 : Int} {x3 : Int} (KM : KM h) : zY 205 57 [some (zR (some 177)), some (zI x1), some (zI x2), some (zI x3)] [] h =
    gd (-2147483648 ≤ x3 + 1 ∧ x3 + 1 < 2147483648) (
    gd (0 ≤ (x3 + 1) ∧ (x3 + 1) < 240) (
    zY 205 66 [some (zR (some 177)), some (zI x1), some (zI x2), some (zI x3)] [] (sI h 183 (x3 + 1).toNat (-1)))) := by
  refine (show zY 205 57 [some (zR (some 177)), some (zI x1), some (zI x2), some (zI x3)] [] h = gd (zob h (some 177) 12) (zY 205 61 [some (zR (some 177)), some (zI x1), some (zI x2), some (zI x3)] [zR (hR h 177 8)] h) from zGo 2 205 57 _ _ _).trans ?_
  refine (gd_t (⟨rfl, (PTM KM 177 _ rfl rfl), (PNM KM 177 rfl)⟩) _).trans ?_
  refine (congrArg (fun r => zY 205 61 [some (zR (some 177)), some (zI x1), some (zI x2), some (zI x3)] (zR r :: []) h) (PRM KM 177 8 _ rfl)).trans ?_
  refine (show zY 205 61 [some (zR (some 177)), some (zI x1), some (zI x2), some (zI x3)] [zR (some 183)] h = gd (inR (1)) (gd (inR (x3 + 1)) (gd (inR (-1)) (gd (zokw h (some 183) 22 (x3 + 1)) (zY 205 66 [some (zR (some 177)), some (zI x1), some (zI x2), some (zI x3)] [] (sI h 183 (x3 + 1).toNat (-1)))))) from zGo 5 205 61 _ _ _).trans ?_
  refine (gd_t (by decide) _).trans ?_
  refine gd_c Iff.rfl (fun c0 => ?_)
  refine (gd_t (by decide) _).trans ?_
  refine gd_c (ciw (PTM KM 183 _ rfl rfl) (PNM KM 183 rfl) (PLM KM 183 240 rfl rfl)) (fun c1 => ?_)
  rfl
theorem q_M_comes_66 {h : zH} {x1 : Int} {x2 : Int} {x3 : Int} (KM : KM h) (g0 : (-2147483648 ≤ x3 + 2 ∧ x3 + 2 < 2147483648) → (¬ ((hI h 177 44) = (-1))) → (0 ≤ (hI h 177 44) ∧ (hI h 177 44) < 24) := by omega) : zY 205 66 [some (zR (some 177)), some (zI x1), some (zI x2), some (zI x3)] [] h =
    gd (-2147483648 ≤ x3 + 2 ∧ x3 + 2 < 2147483648) (
    if (hI h 177 44) = (-1) then
      gd (0 ≤ (x3 + 2) ∧ (x3 + 2) < 240) (
      zY 205 97 [some (zR (some 177)), some (zI x1), some (zI x2), some (zI x3)] [] (sI h 183 (x3 + 2).toNat 0))
    else
      gd (-2147483648 ≤ (f_M_s h (hI h 177 44) 2) + 1 ∧ (f_M_s h (hI h 177 44) 2) + 1 < 2147483648) (
      gd (0 ≤ (x3 + 2) ∧ (x3 + 2) < 240) (
      zY 205 97 [some (zR (some 177)), some (zI x1), some (zI x2), some (zI x3)] [] (sI h 183 (x3 + 2).toNat ((f_M_s h (hI h 177 44) 2) + 1))))) := by
  refine (show zY 205 66 [some (zR (some 177)), some (zI x1), some (zI x2), some (zI x3)] [] h = gd (zob h (some 177) 12) (zY 205 70 [some (zR (some 177)), some (zI x1), some (zI x2), some (zI x3)] [zR (hR h 177 8)] h) from zGo 2 205 66 _ _ _).trans ?_
  refine (gd_t (⟨rfl, (PTM KM 177 _ rfl rfl), (PNM KM 177 rfl)⟩) _).trans ?_
  refine (congrArg (fun r => zY 205 70 [some (zR (some 177)), some (zI x1), some (zI x2), some (zI x3)] (zR r :: []) h) (PRM KM 177 8 _ rfl)).trans ?_
  refine (show zY 205 70 [some (zR (some 177)), some (zI x1), some (zI x2), some (zI x3)] [zR (some 183)] h = gd (inR (2)) (gd (inR (x3 + 2)) (gd (zob h (some 177) 12) (gd (inR (-1)) (if (hI h 177 44) = (-1) then zY 205 81 [some (zR (some 177)), some (zI x1), some (zI x2), some (zI x3)] [zI (x3 + 2), zR (some 183)] h else zY 205 85 [some (zR (some 177)), some (zI x1), some (zI x2), some (zI x3)] [zI (x3 + 2), zR (some 183)] h)))) from zGo 7 205 70 _ _ _).trans ?_
  refine (gd_t (by decide) _).trans ?_
  refine gd_c Iff.rfl (fun c0 => ?_)
  refine (gd_t (⟨rfl, (PTM KM 177 _ rfl rfl), (PNM KM 177 rfl)⟩) _).trans ?_
  refine (gd_t (by decide) _).trans ?_
  refine iteC (fun c1 => ?_) (fun c1 => ?_)
  · skip
    refine (show zY 205 81 [some (zR (some 177)), some (zI x1), some (zI x2), some (zI x3)] [zI (x3 + 2), zR (some 183)] h = gd (inR (0)) (gd (zokw h (some 183) 22 (x3 + 2)) (zY 205 97 [some (zR (some 177)), some (zI x1), some (zI x2), some (zI x3)] [] (sI h 183 (x3 + 2).toNat 0))) from zGo 3 205 81 _ _ _).trans ?_
    refine (gd_t (by decide) _).trans ?_
    refine gd_c (ciw (PTM KM 183 _ rfl rfl) (PNM KM 183 rfl) (PLM KM 183 240 rfl rfl)) (fun c2 => ?_)
    rfl
  · skip
    refine (show zY 205 85 [some (zR (some 177)), some (zI x1), some (zI x2), some (zI x3)] [zI (x3 + 2), zR (some 183)] h = gd (zob h (some 177) 12) (gd (inR (2)) (gd (false = zctor 207 ∧ zcs [zI (x3 + 2), zR (some 183)] ≤ 8 ∧ zrm 205 (zrf 207 + 1) (8 + (zmaxl 207 + 11) + zrl 207) = true ∧ zcs [zR (some 177), zI (hI h 177 44), zI 2] ≤ zmaxl 207) (gd (zob h (some 177) 12) (zBack zY 205 91 94 [some (zR (some 177)), some (zI x1), some (zI x2), some (zI x3)] [zI (x3 + 2), zR (some 183)] (zC 207 [zR (some 177), zI (hI h 177 44), zI 2] h))))) from zGo 5 205 85 _ _ _).trans ?_
    refine (gd_t (⟨rfl, (PTM KM 177 _ rfl rfl), (PNM KM 177 rfl)⟩) _).trans ?_
    refine (gd_t (by decide) _).trans ?_
    refine (gd_t (⟨rfl, Nat.le_of_ble_eq_true rfl, rfl, Nat.le_of_ble_eq_true rfl⟩) _).trans ?_
    refine (gd_t (⟨rfl, (PTM KM 177 _ rfl rfl), (PNM KM 177 rfl)⟩) _).trans ?_
    refine (congrArg (zBack zY 205 91 94 [some (zR (some 177)), some (zI x1), some (zI x2), some (zI x3)] [zI (x3 + 2), zR (some 183)]) (e_M_sx KM (g0 c0 c1) (by omega))).trans ?_
    refine (show zY 205 94 [some (zR (some 177)), some (zI x1), some (zI x2), some (zI x3)] [zI (f_M_s h (hI h 177 44) 2), zI (x3 + 2), zR (some 183)] h = gd (inR (1)) (gd (inR ((f_M_s h (hI h 177 44) 2) + 1)) (gd (zokw h (some 183) 22 (x3 + 2)) (zY 205 97 [some (zR (some 177)), some (zI x1), some (zI x2), some (zI x3)] [] (sI h 183 (x3 + 2).toNat ((f_M_s h (hI h 177 44) 2) + 1))))) from zGo 3 205 94 _ _ _).trans ?_
    refine (gd_t (by decide) _).trans ?_
    refine gd_c Iff.rfl (fun c3 => ?_)
    refine gd_c (ciw (PTM KM 183 _ rfl rfl) (PNM KM 183 rfl) (PLM KM 183 240 rfl rfl)) (fun c4 => ?_)
    rfl
theorem q_M_comes_97 {h : zH} {x1 : Int} {x2 : Int} {x3 : Int} (KM : KM h) : zY 205 97 [some (zR (some 177)), some (zI x1), some (zI x2), some (zI x3)] [] h =
    gd (-2147483648 ≤ x3 + 3 ∧ x3 + 3 < 2147483648) (
    gd (0 ≤ (x3 + 3) ∧ (x3 + 3) < 240) (
    zY 205 109 [some (zR (some 177)), some (zI x1), some (zI x2), some (zI x3)] [] (sI h 183 (x3 + 3).toNat (hI h 177 44)))) := by
  refine (show zY 205 97 [some (zR (some 177)), some (zI x1), some (zI x2), some (zI x3)] [] h = gd (zob h (some 177) 12) (zY 205 101 [some (zR (some 177)), some (zI x1), some (zI x2), some (zI x3)] [zR (hR h 177 8)] h) from zGo 2 205 97 _ _ _).trans ?_
  refine (gd_t (⟨rfl, (PTM KM 177 _ rfl rfl), (PNM KM 177 rfl)⟩) _).trans ?_
  refine (congrArg (fun r => zY 205 101 [some (zR (some 177)), some (zI x1), some (zI x2), some (zI x3)] (zR r :: []) h) (PRM KM 177 8 _ rfl)).trans ?_
  refine (show zY 205 101 [some (zR (some 177)), some (zI x1), some (zI x2), some (zI x3)] [zR (some 183)] h = gd (inR (3)) (gd (inR (x3 + 3)) (gd (zob h (some 177) 12) (gd (zokw h (some 183) 22 (x3 + 3)) (zY 205 109 [some (zR (some 177)), some (zI x1), some (zI x2), some (zI x3)] [] (sI h 183 (x3 + 3).toNat (hI h 177 44)))))) from zGo 6 205 101 _ _ _).trans ?_
  refine (gd_t (by decide) _).trans ?_
  refine gd_c Iff.rfl (fun c0 => ?_)
  refine (gd_t (⟨rfl, (PTM KM 177 _ rfl rfl), (PNM KM 177 rfl)⟩) _).trans ?_
  refine gd_c (ciw (PTM KM 183 _ rfl rfl) (PNM KM 183 rfl) (PLM KM 183 240 rfl rfl)) (fun c1 => ?_)
  rfl
theorem q_M_comes_109 {h : zH} {x1 : Int} {x2 : Int} {x3 : Int} (KM : KM h) : zY 205 109 [some (zR (some 177)), some (zI x1), some (zI x2), some (zI x3)] [] h =
    gd (-2147483648 ≤ x3 + 4 ∧ x3 + 4 < 2147483648) (
    gd (0 ≤ (x3 + 4) ∧ (x3 + 4) < 240) (
    zY 205 118 [some (zR (some 177)), some (zI x1), some (zI x2), some (zI x3)] [] (sI h 183 (x3 + 4).toNat (-1)))) := by
  refine (show zY 205 109 [some (zR (some 177)), some (zI x1), some (zI x2), some (zI x3)] [] h = gd (zob h (some 177) 12) (zY 205 113 [some (zR (some 177)), some (zI x1), some (zI x2), some (zI x3)] [zR (hR h 177 8)] h) from zGo 2 205 109 _ _ _).trans ?_
  refine (gd_t (⟨rfl, (PTM KM 177 _ rfl rfl), (PNM KM 177 rfl)⟩) _).trans ?_
  refine (congrArg (fun r => zY 205 113 [some (zR (some 177)), some (zI x1), some (zI x2), some (zI x3)] (zR r :: []) h) (PRM KM 177 8 _ rfl)).trans ?_
  refine (show zY 205 113 [some (zR (some 177)), some (zI x1), some (zI x2), some (zI x3)] [zR (some 183)] h = gd (inR (4)) (gd (inR (x3 + 4)) (gd (inR (-1)) (gd (zokw h (some 183) 22 (x3 + 4)) (zY 205 118 [some (zR (some 177)), some (zI x1), some (zI x2), some (zI x3)] [] (sI h 183 (x3 + 4).toNat (-1)))))) from zGo 5 205 113 _ _ _).trans ?_
  refine (gd_t (by decide) _).trans ?_
  refine gd_c Iff.rfl (fun c0 => ?_)
  refine (gd_t (by decide) _).trans ?_
  refine gd_c (ciw (PTM KM 183 _ rfl rfl) (PNM KM 183 rfl) (PLM KM 183 240 rfl rfl)) (fun c1 => ?_)
  rfl
theorem q_M_comes_118 {h : zH} {x1 : Int} {x2 : Int} {x3 : Int} (KM : KM h) : zY 205 118 [some (zR (some 177)), some (zI x1), some (zI x2), some (zI x3)] [] h =
    gd (-2147483648 ≤ x3 + 5 ∧ x3 + 5 < 2147483648) (
    gd (0 ≤ (x3 + 5) ∧ (x3 + 5) < 240) (
    zY 205 127 [some (zR (some 177)), some (zI x1), some (zI x2), some (zI x3)] [] (sI h 183 (x3 + 5).toNat (-1)))) := by
  refine (show zY 205 118 [some (zR (some 177)), some (zI x1), some (zI x2), some (zI x3)] [] h = gd (zob h (some 177) 12) (zY 205 122 [some (zR (some 177)), some (zI x1), some (zI x2), some (zI x3)] [zR (hR h 177 8)] h) from zGo 2 205 118 _ _ _).trans ?_
  refine (gd_t (⟨rfl, (PTM KM 177 _ rfl rfl), (PNM KM 177 rfl)⟩) _).trans ?_
  refine (congrArg (fun r => zY 205 122 [some (zR (some 177)), some (zI x1), some (zI x2), some (zI x3)] (zR r :: []) h) (PRM KM 177 8 _ rfl)).trans ?_
  refine (show zY 205 122 [some (zR (some 177)), some (zI x1), some (zI x2), some (zI x3)] [zR (some 183)] h = gd (inR (5)) (gd (inR (x3 + 5)) (gd (inR (-1)) (gd (zokw h (some 183) 22 (x3 + 5)) (zY 205 127 [some (zR (some 177)), some (zI x1), some (zI x2), some (zI x3)] [] (sI h 183 (x3 + 5).toNat (-1)))))) from zGo 5 205 122 _ _ _).trans ?_
  refine (gd_t (by decide) _).trans ?_
  refine gd_c Iff.rfl (fun c0 => ?_)
  refine (gd_t (by decide) _).trans ?_
  refine gd_c (ciw (PTM KM 183 _ rfl rfl) (PNM KM 183 rfl) (PLM KM 183 240 rfl rfl)) (fun c1 => ?_)
  rfl
theorem q_M_comes_127 {h : zH} {x1 : Int} {x2 : Int} {x3 : Int} (KM : KM h) : zY 205 127 [some (zR (some 177)), some (zI x1), some (zI x2), some (zI x3)] [] h =
    gd (-2147483648 ≤ x3 + 6 ∧ x3 + 6 < 2147483648) (
    gd (0 ≤ (x3 + 6) ∧ (x3 + 6) < 240) (
    zY 205 137 [some (zR (some 177)), some (zI x1), some (zI x2), some (zI x3)] [] (sI h 183 (x3 + 6).toNat (-1)))) := by
  refine (show zY 205 127 [some (zR (some 177)), some (zI x1), some (zI x2), some (zI x3)] [] h = gd (zob h (some 177) 12) (zY 205 131 [some (zR (some 177)), some (zI x1), some (zI x2), some (zI x3)] [zR (hR h 177 8)] h) from zGo 2 205 127 _ _ _).trans ?_
  refine (gd_t (⟨rfl, (PTM KM 177 _ rfl rfl), (PNM KM 177 rfl)⟩) _).trans ?_
  refine (congrArg (fun r => zY 205 131 [some (zR (some 177)), some (zI x1), some (zI x2), some (zI x3)] (zR r :: []) h) (PRM KM 177 8 _ rfl)).trans ?_
  refine (show zY 205 131 [some (zR (some 177)), some (zI x1), some (zI x2), some (zI x3)] [zR (some 183)] h = gd (-128 ≤ (6 : Int) ∧ (6 : Int) < 128) (gd (inR (x3 + 6)) (gd (inR (-1)) (gd (zokw h (some 183) 22 (x3 + 6)) (zY 205 137 [some (zR (some 177)), some (zI x1), some (zI x2), some (zI x3)] [] (sI h 183 (x3 + 6).toNat (-1)))))) from zGo 5 205 131 _ _ _).trans ?_
  refine (gd_t (by decide) _).trans ?_
  refine gd_c Iff.rfl (fun c0 => ?_)
  refine (gd_t (by decide) _).trans ?_
  refine gd_c (ciw (PTM KM 183 _ rfl rfl) (PNM KM 183 rfl) (PLM KM 183 240 rfl rfl)) (fun c1 => ?_)
  rfl
theorem q_M_comes_137 {h : zH} {x1 : Int} {x2 : Int} {x3 : Int} (KM : KM h) : zY 205 137 [some (zR (some 177)), some (zI x1), some (zI x2), some (zI x3)] [] h =
    gd (-2147483648 ≤ x3 + 8 ∧ x3 + 8 < 2147483648) (
    gd (0 ≤ (x3 + 8) ∧ (x3 + 8) < 240) (
    zY 205 147 [some (zR (some 177)), some (zI x1), some (zI x2), some (zI x3)] [] (sI h 183 (x3 + 8).toNat 0))) := by
  refine (show zY 205 137 [some (zR (some 177)), some (zI x1), some (zI x2), some (zI x3)] [] h = gd (zob h (some 177) 12) (zY 205 141 [some (zR (some 177)), some (zI x1), some (zI x2), some (zI x3)] [zR (hR h 177 8)] h) from zGo 2 205 137 _ _ _).trans ?_
  refine (gd_t (⟨rfl, (PTM KM 177 _ rfl rfl), (PNM KM 177 rfl)⟩) _).trans ?_
  refine (congrArg (fun r => zY 205 141 [some (zR (some 177)), some (zI x1), some (zI x2), some (zI x3)] (zR r :: []) h) (PRM KM 177 8 _ rfl)).trans ?_
  refine (show zY 205 141 [some (zR (some 177)), some (zI x1), some (zI x2), some (zI x3)] [zR (some 183)] h = gd (-128 ≤ (8 : Int) ∧ (8 : Int) < 128) (gd (inR (x3 + 8)) (gd (inR (0)) (gd (zokw h (some 183) 22 (x3 + 8)) (zY 205 147 [some (zR (some 177)), some (zI x1), some (zI x2), some (zI x3)] [] (sI h 183 (x3 + 8).toNat 0))))) from zGo 5 205 141 _ _ _).trans ?_
  refine (gd_t (by decide) _).trans ?_
  refine gd_c Iff.rfl (fun c0 => ?_)
  refine (gd_t (by decide) _).trans ?_
  refine gd_c (ciw (PTM KM 183 _ rfl rfl) (PNM KM 183 rfl) (PLM KM 183 240 rfl rfl)) (fun c1 => ?_)
  rfl
theorem q_M_comes_147 {h : zH} {x1 : Int} {x2 : Int} {x3 : Int} (KM : KM h) : zY 205 147 [some (zR (some 177)), some (zI x1), some (zI x2), some (zI x3)] [] h =
    gd (-2147483648 ≤ x3 + 9 ∧ x3 + 9 < 2147483648) (
    gd (0 ≤ (x3 + 9) ∧ (x3 + 9) < 240) (
    zY 205 157 [some (zR (some 177)), some (zI x1), some (zI x2), some (zI x3)] [] (sI h 183 (x3 + 9).toNat 0))) := by
  refine (show zY 205 147 [some (zR (some 177)), some (zI x1), some (zI x2), some (zI x3)] [] h = gd (zob h (some 177) 12) (zY 205 151 [some (zR (some 177)), some (zI x1), some (zI x2), some (zI x3)] [zR (hR h 177 8)] h) from zGo 2 205 147 _ _ _).trans ?_
  refine (gd_t (⟨rfl, (PTM KM 177 _ rfl rfl), (PNM KM 177 rfl)⟩) _).trans ?_
  refine (congrArg (fun r => zY 205 151 [some (zR (some 177)), some (zI x1), some (zI x2), some (zI x3)] (zR r :: []) h) (PRM KM 177 8 _ rfl)).trans ?_
  refine (show zY 205 151 [some (zR (some 177)), some (zI x1), some (zI x2), some (zI x3)] [zR (some 183)] h = gd (-128 ≤ (9 : Int) ∧ (9 : Int) < 128) (gd (inR (x3 + 9)) (gd (inR (0)) (gd (zokw h (some 183) 22 (x3 + 9)) (zY 205 157 [some (zR (some 177)), some (zI x1), some (zI x2), some (zI x3)] [] (sI h 183 (x3 + 9).toNat 0))))) from zGo 5 205 151 _ _ _).trans ?_
  refine (gd_t (by decide) _).trans ?_
  refine gd_c Iff.rfl (fun c0 => ?_)
  refine (gd_t (by decide) _).trans ?_
  refine gd_c (ciw (PTM KM 183 _ rfl rfl) (PNM KM 183 rfl) (PLM KM 183 240 rfl rfl)) (fun c1 => ?_)
  rfl
theorem q_M_comes_157 {h : zH} {x1 : Int} {x2 : Int} {x3 : Int} (KM : KM h) : zY 205 157 [some (zR (some 177)), some (zI x1), some (zI x2), some (zI x3)] [] h =
    if (hI h 177 46) = (-1) then
      if (hI h 177 44) = (-1) then
        zY 205 226 [some (zR (some 177)), some (zI x1), some (zI x2), some (zI x3)] [] (sI h 177 12 x2)
      else
        gd (-2147483648 ≤ 10 * (hI h 177 44) ∧ 10 * (hI h 177 44) < 2147483648) (
        if (hI h 177 45) = 0 then
          gd (-2147483648 ≤ (10 * (hI h 177 44)) + 5 ∧ (10 * (hI h 177 44)) + 5 < 2147483648) (
          gd (0 ≤ ((10 * (hI h 177 44)) + 5) ∧ ((10 * (hI h 177 44)) + 5) < 240) (
          zY 205 226 [some (zR (some 177)), some (zI x1), some (zI x2), some (zI x3)] [] (sI h 183 ((10 * (hI h 177 44)) + 5).toNat x2)))
        else
          gd (-2147483648 ≤ (10 * (hI h 177 44)) + 6 ∧ (10 * (hI h 177 44)) + 6 < 2147483648) (
          gd (0 ≤ ((10 * (hI h 177 44)) + 6) ∧ ((10 * (hI h 177 44)) + 6) < 240) (
          zY 205 226 [some (zR (some 177)), some (zI x1), some (zI x2), some (zI x3)] [] (sI h 183 ((10 * (hI h 177 44)) + 6).toNat x2))))
    else
      gd (-2147483648 ≤ 10 * (hI h 177 46) ∧ 10 * (hI h 177 46) < 2147483648) (
      gd (-2147483648 ≤ (10 * (hI h 177 46)) + 4 ∧ (10 * (hI h 177 46)) + 4 < 2147483648) (
      gd (0 ≤ ((10 * (hI h 177 46)) + 4) ∧ ((10 * (hI h 177 46)) + 4) < 240) (
      zY 205 226 [some (zR (some 177)), some (zI x1), some (zI x2), some (zI x3)] [] (sI h 183 ((10 * (hI h 177 46)) + 4).toNat x2)))) := by
  refine (show zY 205 157 [some (zR (some 177)), some (zI x1), some (zI x2), some (zI x3)] [] h = gd (zob h (some 177) 12) (gd (inR (-1)) (if (hI h 177 46) = (-1) then zY 205 183 [some (zR (some 177)), some (zI x1), some (zI x2), some (zI x3)] [] h else zY 205 165 [some (zR (some 177)), some (zI x1), some (zI x2), some (zI x3)] [] h)) from zGo 4 205 157 _ _ _).trans ?_
  refine (gd_t (⟨rfl, (PTM KM 177 _ rfl rfl), (PNM KM 177 rfl)⟩) _).trans ?_
  refine (gd_t (by decide) _).trans ?_
  refine iteC (fun c0 => ?_) (fun c0 => ?_)
  · skip
    refine (show zY 205 183 [some (zR (some 177)), some (zI x1), some (zI x2), some (zI x3)] [] h = gd (zob h (some 177) 12) (gd (inR (-1)) (if (hI h 177 44) = (-1) then zY 205 191 [some (zR (some 177)), some (zI x1), some (zI x2), some (zI x3)] [] h else zY 205 199 [some (zR (some 177)), some (zI x1), some (zI x2), some (zI x3)] [] h)) from zGo 4 205 183 _ _ _).trans ?_
    refine (gd_t (⟨rfl, (PTM KM 177 _ rfl rfl), (PNM KM 177 rfl)⟩) _).trans ?_
    refine (gd_t (by decide) _).trans ?_
    refine iteC (fun c1 => ?_) (fun c1 => ?_)
    · skip
      refine (show zY 205 191 [some (zR (some 177)), some (zI x1), some (zI x2), some (zI x3)] [] h = gd (zob h (some 177) 12) (zY 205 226 [some (zR (some 177)), some (zI x1), some (zI x2), some (zI x3)] [] (sI h 177 12 x2)) from zGo 4 205 191 _ _ _).trans ?_
      refine (gd_t (⟨rfl, (PTM KM 177 _ rfl rfl), (PNM KM 177 rfl)⟩) _).trans ?_
      rfl
    · skip
      refine (show zY 205 199 [some (zR (some 177)), some (zI x1), some (zI x2), some (zI x3)] [] h = gd (zob h (some 177) 12) (zY 205 203 [some (zR (some 177)), some (zI x1), some (zI x2), some (zI x3)] [zR (hR h 177 8)] h) from zGo 2 205 199 _ _ _).trans ?_
      refine (gd_t (⟨rfl, (PTM KM 177 _ rfl rfl), (PNM KM 177 rfl)⟩) _).trans ?_
      refine (congrArg (fun r => zY 205 203 [some (zR (some 177)), some (zI x1), some (zI x2), some (zI x3)] (zR r :: []) h) (PRM KM 177 8 _ rfl)).trans ?_
      refine (show zY 205 203 [some (zR (some 177)), some (zI x1), some (zI x2), some (zI x3)] [zR (some 183)] h = gd (-128 ≤ (10 : Int) ∧ (10 : Int) < 128) (gd (zob h (some 177) 12) (gd (inR (10 * (hI h 177 44))) (gd (zob h (some 177) 12) (if (hI h 177 45) = 0 then zY 205 222 [some (zR (some 177)), some (zI x1), some (zI x2), some (zI x3)] [zI (10 * (hI h 177 44)), zR (some 183)] h else zY 205 217 [some (zR (some 177)), some (zI x1), some (zI x2), some (zI x3)] [zI (10 * (hI h 177 44)), zR (some 183)] h)))) from zGo 7 205 203 _ _ _).trans ?_
      refine (gd_t (by decide) _).trans ?_
      refine (gd_t (⟨rfl, (PTM KM 177 _ rfl rfl), (PNM KM 177 rfl)⟩) _).trans ?_
      refine gd_c Iff.rfl (fun c2 => ?_)
      refine (gd_t (⟨rfl, (PTM KM 177 _ rfl rfl), (PNM KM 177 rfl)⟩) _).trans ?_
      refine iteC (fun c3 => ?_) (fun c3 => ?_)
      · skip
        refine (show zY 205 222 [some (zR (some 177)), some (zI x1), some (zI x2), some (zI x3)] [zI (10 * (hI h 177 44)), zR (some 183)] h = gd (inR (5)) (gd (inR ((10 * (hI h 177 44)) + 5)) (gd (zokw h (some 183) 22 ((10 * (hI h 177 44)) + 5)) (zY 205 226 [some (zR (some 177)), some (zI x1), some (zI x2), some (zI x3)] [] (sI h 183 ((10 * (hI h 177 44)) + 5).toNat x2)))) from zGo 4 205 222 _ _ _).trans ?_
        refine (gd_t (by decide) _).trans ?_
        refine gd_c Iff.rfl (fun c4 => ?_)
        refine gd_c (ciw (PTM KM 183 _ rfl rfl) (PNM KM 183 rfl) (PLM KM 183 240 rfl rfl)) (fun c5 => ?_)
        rfl
      · skip
        refine (show zY 205 217 [some (zR (some 177)), some (zI x1), some (zI x2), some (zI x3)] [zI (10 * (hI h 177 44)), zR (some 183)] h = gd (-128 ≤ (6 : Int) ∧ (6 : Int) < 128) (gd (inR ((10 * (hI h 177 44)) + 6)) (gd (zokw h (some 183) 22 ((10 * (hI h 177 44)) + 6)) (zY 205 226 [some (zR (some 177)), some (zI x1), some (zI x2), some (zI x3)] [] (sI h 183 ((10 * (hI h 177 44)) + 6).toNat x2)))) from zGo 5 205 217 _ _ _).trans ?_
        refine (gd_t (by decide) _).trans ?_
        refine gd_c Iff.rfl (fun c6 => ?_)
        refine gd_c (ciw (PTM KM 183 _ rfl rfl) (PNM KM 183 rfl) (PLM KM 183 240 rfl rfl)) (fun c7 => ?_)
        rfl
  · skip
    refine (show zY 205 165 [some (zR (some 177)), some (zI x1), some (zI x2), some (zI x3)] [] h = gd (zob h (some 177) 12) (zY 205 169 [some (zR (some 177)), some (zI x1), some (zI x2), some (zI x3)] [zR (hR h 177 8)] h) from zGo 2 205 165 _ _ _).trans ?_
    refine (gd_t (⟨rfl, (PTM KM 177 _ rfl rfl), (PNM KM 177 rfl)⟩) _).trans ?_
    refine (congrArg (fun r => zY 205 169 [some (zR (some 177)), some (zI x1), some (zI x2), some (zI x3)] (zR r :: []) h) (PRM KM 177 8 _ rfl)).trans ?_
    refine (show zY 205 169 [some (zR (some 177)), some (zI x1), some (zI x2), some (zI x3)] [zR (some 183)] h = gd (-128 ≤ (10 : Int) ∧ (10 : Int) < 128) (gd (zob h (some 177) 12) (gd (inR (10 * (hI h 177 46))) (gd (inR (4)) (gd (inR ((10 * (hI h 177 46)) + 4)) (gd (zokw h (some 183) 22 ((10 * (hI h 177 46)) + 4)) (zY 205 226 [some (zR (some 177)), some (zI x1), some (zI x2), some (zI x3)] [] (sI h 183 ((10 * (hI h 177 46)) + 4).toNat x2))))))) from zGo 9 205 169 _ _ _).trans ?_
    refine (gd_t (by decide) _).trans ?_
    refine (gd_t (⟨rfl, (PTM KM 177 _ rfl rfl), (PNM KM 177 rfl)⟩) _).trans ?_
    refine gd_c Iff.rfl (fun c8 => ?_)
    refine (gd_t (by decide) _).trans ?_
    refine gd_c Iff.rfl (fun c9 => ?_)
    refine gd_c (ciw (PTM KM 183 _ rfl rfl) (PNM KM 183 rfl) (PLM KM 183 240 rfl rfl)) (fun c10 => ?_)
    rfl
theorem q_M_comes_226 {h : zH} {x1 : Int} {x2 : Int} {x3 : Int} (KM : KM h) : zY 205 226 [some (zR (some 177)), some (zI x1), some (zI x2), some (zI x3)] [] h =
    if (hI h 177 44) = (-1) then
      zY 205 265 [some (zR (some 177)), some (zI x1), some (zI x2), some (zI x3)] [] h
    else
      gd (-2147483648 ≤ 10 * (hI h 177 44) ∧ 10 * (hI h 177 44) < 2147483648) (
      if (hI h 177 45) = 0 then
        gd (-2147483648 ≤ (10 * (hI h 177 44)) + 8 ∧ (10 * (hI h 177 44)) + 8 < 2147483648) (
        gd (0 ≤ ((10 * (hI h 177 44)) + 8) ∧ ((10 * (hI h 177 44)) + 8) < 240) (
        gd (-2147483648 ≤ (hI h 183 ((10 * (hI h 177 44)) + 8).toNat) + 1 ∧ (hI h 183 ((10 * (hI h 177 44)) + 8).toNat) + 1 < 2147483648) (
        zY 205 265 [some (zR (some 177)), some (zI x1), some (zI x2), some (zI x3)] [] (sI h 183 ((10 * (hI h 177 44)) + 8).toNat ((hI h 183 ((10 * (hI h 177 44)) + 8).toNat) + 1)))))
      else
        gd (-2147483648 ≤ (10 * (hI h 177 44)) + 9 ∧ (10 * (hI h 177 44)) + 9 < 2147483648) (
        gd (0 ≤ ((10 * (hI h 177 44)) + 9) ∧ ((10 * (hI h 177 44)) + 9) < 240) (
        gd (-2147483648 ≤ (hI h 183 ((10 * (hI h 177 44)) + 9).toNat) + 1 ∧ (hI h 183 ((10 * (hI h 177 44)) + 9).toNat) + 1 < 2147483648) (
        zY 205 265 [some (zR (some 177)), some (zI x1), some (zI x2), some (zI x3)] [] (sI h 183 ((10 * (hI h 177 44)) + 9).toNat ((hI h 183 ((10 * (hI h 177 44)) + 9).toNat) + 1)))))) := by
  refine (show zY 205 226 [some (zR (some 177)), some (zI x1), some (zI x2), some (zI x3)] [] h = gd (zob h (some 177) 12) (gd (inR (-1)) (if (hI h 177 44) = (-1) then zY 205 265 [some (zR (some 177)), some (zI x1), some (zI x2), some (zI x3)] [] h else zY 205 234 [some (zR (some 177)), some (zI x1), some (zI x2), some (zI x3)] [] h)) from zGo 4 205 226 _ _ _).trans ?_
  refine (gd_t (⟨rfl, (PTM KM 177 _ rfl rfl), (PNM KM 177 rfl)⟩) _).trans ?_
  refine (gd_t (by decide) _).trans ?_
  refine iteC (fun c0 => ?_) (fun c0 => ?_)
  · skip
    rfl
  · skip
    refine (show zY 205 234 [some (zR (some 177)), some (zI x1), some (zI x2), some (zI x3)] [] h = gd (zob h (some 177) 12) (zY 205 238 [some (zR (some 177)), some (zI x1), some (zI x2), some (zI x3)] [zR (hR h 177 8)] h) from zGo 2 205 234 _ _ _).trans ?_
    refine (gd_t (⟨rfl, (PTM KM 177 _ rfl rfl), (PNM KM 177 rfl)⟩) _).trans ?_
    refine (congrArg (fun r => zY 205 238 [some (zR (some 177)), some (zI x1), some (zI x2), some (zI x3)] (zR r :: []) h) (PRM KM 177 8 _ rfl)).trans ?_
    refine (show zY 205 238 [some (zR (some 177)), some (zI x1), some (zI x2), some (zI x3)] [zR (some 183)] h = gd (-128 ≤ (10 : Int) ∧ (10 : Int) < 128) (gd (zob h (some 177) 12) (gd (inR (10 * (hI h 177 44))) (gd (zob h (some 177) 12) (if (hI h 177 45) = 0 then zY 205 257 [some (zR (some 177)), some (zI x1), some (zI x2), some (zI x3)] [zI (10 * (hI h 177 44)), zR (some 183)] h else zY 205 252 [some (zR (some 177)), some (zI x1), some (zI x2), some (zI x3)] [zI (10 * (hI h 177 44)), zR (some 183)] h)))) from zGo 7 205 238 _ _ _).trans ?_
    refine (gd_t (by decide) _).trans ?_
    refine (gd_t (⟨rfl, (PTM KM 177 _ rfl rfl), (PNM KM 177 rfl)⟩) _).trans ?_
    refine gd_c Iff.rfl (fun c1 => ?_)
    refine (gd_t (⟨rfl, (PTM KM 177 _ rfl rfl), (PNM KM 177 rfl)⟩) _).trans ?_
    refine iteC (fun c2 => ?_) (fun c2 => ?_)
    · skip
      refine (show zY 205 257 [some (zR (some 177)), some (zI x1), some (zI x2), some (zI x3)] [zI (10 * (hI h 177 44)), zR (some 183)] h = gd (-128 ≤ (8 : Int) ∧ (8 : Int) < 128) (gd (inR ((10 * (hI h 177 44)) + 8)) (gd (zok h (some 183) 22 ((10 * (hI h 177 44)) + 8)) (gd (inR (1)) (gd (inR ((hI h 183 ((10 * (hI h 177 44)) + 8).toNat) + 1)) (gd (zokw h (some 183) 22 ((10 * (hI h 177 44)) + 8)) (zY 205 265 [some (zR (some 177)), some (zI x1), some (zI x2), some (zI x3)] [] (sI h 183 ((10 * (hI h 177 44)) + 8).toNat ((hI h 183 ((10 * (hI h 177 44)) + 8).toNat) + 1)))))))) from zGo 7 205 257 _ _ _).trans ?_
      refine (gd_t (by decide) _).trans ?_
      refine gd_c Iff.rfl (fun c3 => ?_)
      refine gd_c (ci (PTM KM 183 _ rfl rfl) (PLM KM 183 240 rfl rfl)) (fun c4 => ?_)
      refine (gd_t (by decide) _).trans ?_
      refine gd_c Iff.rfl (fun c5 => ?_)
      refine (gd_t ((ciw (PTM KM 183 _ rfl rfl) (PNM KM 183 rfl) (PLM KM 183 240 rfl rfl)).2 (by omega)) _).trans ?_
      rfl
    · skip
      refine (show zY 205 252 [some (zR (some 177)), some (zI x1), some (zI x2), some (zI x3)] [zI (10 * (hI h 177 44)), zR (some 183)] h = gd (-128 ≤ (9 : Int) ∧ (9 : Int) < 128) (gd (inR ((10 * (hI h 177 44)) + 9)) (gd (zok h (some 183) 22 ((10 * (hI h 177 44)) + 9)) (gd (inR (1)) (gd (inR ((hI h 183 ((10 * (hI h 177 44)) + 9).toNat) + 1)) (gd (zokw h (some 183) 22 ((10 * (hI h 177 44)) + 9)) (zY 205 265 [some (zR (some 177)), some (zI x1), some (zI x2), some (zI x3)] [] (sI h 183 ((10 * (hI h 177 44)) + 9).toNat ((hI h 183 ((10 * (hI h 177 44)) + 9).toNat) + 1)))))))) from zGo 8 205 252 _ _ _).trans ?_
      refine (gd_t (by decide) _).trans ?_
      refine gd_c Iff.rfl (fun c6 => ?_)
      refine gd_c (ci (PTM KM 183 _ rfl rfl) (PLM KM 183 240 rfl rfl)) (fun c7 => ?_)
      refine (gd_t (by decide) _).trans ?_
      refine gd_c Iff.rfl (fun c8 => ?_)
      refine (gd_t ((ciw (PTM KM 183 _ rfl rfl) (PNM KM 183 rfl) (PLM KM 183 240 rfl rfl)).2 (by omega)) _).trans ?_
      rfl
theorem q_M_comes_265 {h : zH} {x1 : Int} {x2 : Int} {x3 : Int} (KM : KM h) : zY 205 265 [some (zR (some 177)), some (zI x1), some (zI x2), some (zI x3)] [] h =
    gd (-2147483648 ≤ 2294 + x2 ∧ 2294 + x2 < 2147483648) (
    gd (0 ≤ (2294 + x2) ∧ (2294 + x2) < 2342) (
    zY 205 276 [some (zR (some 177)), some (zI x1), some (zI x2), some (zI x3)] [] (sI h 179 (2294 + x2).toNat (-1)))) := by
  refine (show zY 205 265 [some (zR (some 177)), some (zI x1), some (zI x2), some (zI x3)] [] h = gd (zob h (some 177) 12) (zY 205 269 [some (zR (some 177)), some (zI x1), some (zI x2), some (zI x3)] [zR (hR h 177 2)] h) from zGo 2 205 265 _ _ _).trans ?_
  refine (gd_t (⟨rfl, (PTM KM 177 _ rfl rfl), (PNM KM 177 rfl)⟩) _).trans ?_
  refine (congrArg (fun r => zY 205 269 [some (zR (some 177)), some (zI x1), some (zI x2), some (zI x3)] (zR r :: []) h) (PRM KM 177 2 _ rfl)).trans ?_
  refine (show zY 205 269 [some (zR (some 177)), some (zI x1), some (zI x2), some (zI x3)] [zR (some 179)] h = gd (-32768 ≤ (2294 : Int) ∧ (2294 : Int) < 32768) (gd (inR (2294 + x2)) (gd (inR (-1)) (gd (zokw h (some 179) 22 (2294 + x2)) (zY 205 276 [some (zR (some 177)), some (zI x1), some (zI x2), some (zI x3)] [] (sI h 179 (2294 + x2).toNat (-1)))))) from zGo 5 205 269 _ _ _).trans ?_
  refine (gd_t (by decide) _).trans ?_
  refine gd_c Iff.rfl (fun c0 => ?_)
  refine (gd_t (by decide) _).trans ?_
  refine gd_c (ciw (PTM KM 179 _ rfl rfl) (PNM KM 179 rfl) (PLM KM 179 2342 rfl rfl)) (fun c1 => ?_)
  rfl
theorem q_M_comes_276 {h : zH} {x1 : Int} {x2 : Int} {x3 : Int} (KM : KM h) : zY 205 276 [some (zR (some 177)), some (zI x1), some (zI x2), some (zI x3)] [] h =
    gd (-2147483648 ≤ 2318 + x2 ∧ 2318 + x2 < 2147483648) (
    gd (0 ≤ (2318 + x2) ∧ (2318 + x2) < 2342) (
    zY 205 288 [some (zR (some 177)), some (zI x1), some (zI x2), some (zI x3)] [] (sI h 179 (2318 + x2).toNat 10))) := by
  refine (show zY 205 276 [some (zR (some 177)), some (zI x1), some (zI x2), some (zI x3)] [] h = gd (zob h (some 177) 12) (zY 205 280 [some (zR (some 177)), some (zI x1), some (zI x2), some (zI x3)] [zR (hR h 177 2)] h) from zGo 2 205 276 _ _ _).trans ?_
  refine (gd_t (⟨rfl, (PTM KM 177 _ rfl rfl), (PNM KM 177 rfl)⟩) _).trans ?_
  refine (congrArg (fun r => zY 205 280 [some (zR (some 177)), some (zI x1), some (zI x2), some (zI x3)] (zR r :: []) h) (PRM KM 177 2 _ rfl)).trans ?_
  refine (show zY 205 280 [some (zR (some 177)), some (zI x1), some (zI x2), some (zI x3)] [zR (some 179)] h = gd (-32768 ≤ (2318 : Int) ∧ (2318 : Int) < 32768) (gd (inR (2318 + x2)) (gd (-128 ≤ (10 : Int) ∧ (10 : Int) < 128) (gd (zokw h (some 179) 22 (2318 + x2)) (zY 205 288 [some (zR (some 177)), some (zI x1), some (zI x2), some (zI x3)] [] (sI h 179 (2318 + x2).toNat 10))))) from zGo 5 205 280 _ _ _).trans ?_
  refine (gd_t (by decide) _).trans ?_
  refine gd_c Iff.rfl (fun c0 => ?_)
  refine (gd_t (by decide) _).trans ?_
  refine gd_c (ciw (PTM KM 179 _ rfl rfl) (PNM KM 179 rfl) (PLM KM 179 2342 rfl rfl)) (fun c1 => ?_)
  rfl
theorem q_M_comes_288 {h : zH} {x1 : Int} {x2 : Int} {x3 : Int} (KM : KM h) : zY 205 288 [some (zR (some 177)), some (zI x1), some (zI x2), some (zI x3)] [] h =
    some (.inl (some (zI x2)), (sI h 177 46 x2)) := by
  refine (show zY 205 288 [some (zR (some 177)), some (zI x1), some (zI x2), some (zI x3)] [] h = gd (zob h (some 177) 12) (gd (([] : List zV).isEmpty = true ∧ (zrk 205 = 1 ∨ zrk 205 = 6 ∧ ((x2 : Int) = 0 ∨ (x2 : Int) = 1))) (some (.inl (some (zI x2)), (sI h 177 46 x2)))) from zGo 5 205 288 _ _ _).trans ?_
  refine (gd_t (⟨rfl, (PTM KM 177 _ rfl rfl), (PNM KM 177 rfl)⟩) _).trans ?_
  refine (gd_t (⟨rfl, Or.inl rfl⟩) _).trans ?_
  rfl
theorem q_M_readsSet {h : zH} (KM : KM h) : zC 230 [zR (some 177)] h =
    zBack zY 230 2 5 [some (zR (some 177)), none, none] [] (zC 205 [zR (some 177), zI 0] h) := by
  refine (show zC 230 [zR (some 177)] h = gd (inR (0)) (gd (false = zctor 205 ∧ zcs [] ≤ 8 ∧ zrm 230 (zrf 205 + 1) (8 + (zmaxl 205 + 11) + zrl 205) = true ∧ zcs [zR (some 177), zI 0] ≤ zmaxl 205) (gd (zob h (some 177) 12) (zBack zY 230 2 5 [some (zR (some 177)), none, none] [] (zC 205 [zR (some 177), zI 0] h)))) from zGo 3 230 0 _ _ _).trans ?_
  refine (gd_t (by decide) _).trans ?_
  refine (gd_t (⟨rfl, Nat.le_of_ble_eq_true rfl, rfl, Nat.le_of_ble_eq_true rfl⟩) _).trans ?_
  refine (gd_t (⟨rfl, (PTM KM 177 _ rfl rfl), (PNM KM 177 rfl)⟩) _).trans ?_
  rfl
theorem q_M_readsSet_r5 {h : zH} {y : Int} (KM : KM h) : zBack zY 230 2 5 [some (zR (some 177)), none, none] [] (some (.inl (some (zI y)), h)) =
    zBack zY 230 7 10 [some (zR (some 177)), some (zI y), none] [] (zC 218 [zR (some 177)] h) := by
  refine (show zBack zY 230 2 5 [some (zR (some 177)), none, none] [] (some (.inl (some (zI y)), h)) = gd (false = zctor 218 ∧ zcs [] ≤ 8 ∧ zrm 230 (zrf 218 + 1) (8 + (zmaxl 218 + 11) + zrl 218) = true ∧ zcs [zR (some 177)] ≤ zmaxl 218) (gd (zob h (some 177) 12) (zBack zY 230 7 10 [some (zR (some 177)), some (zI y), none] [] (zC 218 [zR (some 177)] h))) from zGo 3 230 5 _ _ _).trans ?_
  refine (gd_t (⟨rfl, Nat.le_of_ble_eq_true rfl, rfl, Nat.le_of_ble_eq_true rfl⟩) _).trans ?_
  refine (gd_t (⟨rfl, (PTM KM 177 _ rfl rfl), (PNM KM 177 rfl)⟩) _).trans ?_
  rfl
theorem q_M_readsSet_r10 {h : zH} {x1 : Int} (KM : KM h) : zBack zY 230 7 10 [some (zR (some 177)), some (zI x1), none] [] (some (.inl (none), h)) =
    zBack zY 230 11 14 [some (zR (some 177)), some (zI x1), none] [] (zC 231 [zR (some 177)] h) := by
  refine (show zBack zY 230 7 10 [some (zR (some 177)), some (zI x1), none] [] (some (.inl (none), h)) = gd (false = zctor 231 ∧ zcs [] ≤ 8 ∧ zrm 230 (zrf 231 + 1) (8 + (zmaxl 231 + 11) + zrl 231) = true ∧ zcs [zR (some 177)] ≤ zmaxl 231) (gd (zob h (some 177) 12) (zBack zY 230 11 14 [some (zR (some 177)), some (zI x1), none] [] (zC 231 [zR (some 177)] h))) from zGo 2 230 10 _ _ _).trans ?_
  refine (gd_t (⟨rfl, Nat.le_of_ble_eq_true rfl, rfl, Nat.le_of_ble_eq_true rfl⟩) _).trans ?_
  refine (gd_t (⟨rfl, (PTM KM 177 _ rfl rfl), (PNM KM 177 rfl)⟩) _).trans ?_
  rfl
theorem q_M_readsSet_r14 {h : zH} {x1 : Int} {y : Int} (KM : KM h) : zBack zY 230 11 14 [some (zR (some 177)), some (zI x1), none] [] (some (.inl (some (zI y)), h)) =
    if y = (-1) then
      zBack zY 230 22 25 [some (zR (some 177)), some (zI x1), some (zI y)] [] (zC 223 [zR (some 177), zI 1] h)
    else
      gd (-2147483648 ≤ 10 * x1 ∧ 10 * x1 < 2147483648) (
      gd (-2147483648 ≤ (10 * x1) + 1 ∧ (10 * x1) + 1 < 2147483648) (
      gd (0 ≤ ((10 * x1) + 1) ∧ ((10 * x1) + 1) < 240) (
      zBack zY 230 39 42 [some (zR (some 177)), some (zI x1), some (zI y)] [] (zC 218 [zR (some 177)] (sI h 183 ((10 * x1) + 1).toNat y))))) := by
  refine (show zBack zY 230 11 14 [some (zR (some 177)), some (zI x1), none] [] (some (.inl (some (zI y)), h)) = gd (inR (-1)) (if y = (-1) then zY 230 20 [some (zR (some 177)), some (zI x1), some (zI y)] [] h else zY 230 26 [some (zR (some 177)), some (zI x1), some (zI y)] [] h) from zGo 4 230 14 _ _ _).trans ?_
  refine (gd_t (by decide) _).trans ?_
  refine iteC (fun c0 => ?_) (fun c0 => ?_)
  · skip
    refine (show zY 230 20 [some (zR (some 177)), some (zI x1), some (zI y)] [] h = gd (inR (1)) (gd (false = zctor 223 ∧ zcs [] ≤ 8 ∧ zrm 230 (zrf 223 + 1) (8 + (zmaxl 223 + 11) + zrl 223) = true ∧ zcs [zR (some 177), zI 1] ≤ zmaxl 223) (gd (zob h (some 177) 12) (zBack zY 230 22 25 [some (zR (some 177)), some (zI x1), some (zI y)] [] (zC 223 [zR (some 177), zI 1] h)))) from zGo 3 230 20 _ _ _).trans ?_
    refine (gd_t (by decide) _).trans ?_
    refine (gd_t (⟨rfl, Nat.le_of_ble_eq_true rfl, rfl, Nat.le_of_ble_eq_true rfl⟩) _).trans ?_
    refine (gd_t (⟨rfl, (PTM KM 177 _ rfl rfl), (PNM KM 177 rfl)⟩) _).trans ?_
    rfl
  · skip
    refine (show zY 230 26 [some (zR (some 177)), some (zI x1), some (zI y)] [] h = gd (zob h (some 177) 12) (zY 230 30 [some (zR (some 177)), some (zI x1), some (zI y)] [zR (hR h 177 8)] h) from zGo 2 230 26 _ _ _).trans ?_
    refine (gd_t (⟨rfl, (PTM KM 177 _ rfl rfl), (PNM KM 177 rfl)⟩) _).trans ?_
    refine (congrArg (fun r => zY 230 30 [some (zR (some 177)), some (zI x1), some (zI y)] (zR r :: []) h) (PRM KM 177 8 _ rfl)).trans ?_
    refine (show zY 230 30 [some (zR (some 177)), some (zI x1), some (zI y)] [zR (some 183)] h = gd (-128 ≤ (10 : Int) ∧ (10 : Int) < 128) (gd (inR (10 * x1)) (gd (inR (1)) (gd (inR ((10 * x1) + 1)) (gd (zokw h (some 183) 22 ((10 * x1) + 1)) (gd (false = zctor 218 ∧ zcs [] ≤ 8 ∧ zrm 230 (zrf 218 + 1) (8 + (zmaxl 218 + 11) + zrl 218) = true ∧ zcs [zR (some 177)] ≤ zmaxl 218) (gd (zob (sI h 183 ((10 * x1) + 1).toNat y) (some 177) 12) (zBack zY 230 39 42 [some (zR (some 177)), some (zI x1), some (zI y)] [] (zC 218 [zR (some 177)] (sI h 183 ((10 * x1) + 1).toNat y))))))))) from zGo 9 230 30 _ _ _).trans ?_
    refine (gd_t (by decide) _).trans ?_
    refine gd_c Iff.rfl (fun c1 => ?_)
    refine (gd_t (by decide) _).trans ?_
    refine gd_c Iff.rfl (fun c2 => ?_)
    refine gd_c (ciw (PTM KM 183 _ rfl rfl) (PNM KM 183 rfl) (PLM KM 183 240 rfl rfl)) (fun c3 => ?_)
    refine (gd_t (⟨rfl, Nat.le_of_ble_eq_true rfl, rfl, Nat.le_of_ble_eq_true rfl⟩) _).trans ?_
    refine (gd_t (⟨rfl, (PTM KM 177 _ rfl rfl), (PNM KM 177 rfl)⟩) _).trans ?_
    rfl
theorem q_M_readsSet_r25 {h : zH} {x1 : Int} {x2 : Int} (KM : KM h) : zBack zY 230 22 25 [some (zR (some 177)), some (zI x1), some (zI x2)] [] (some (.inl (none), h)) =
    some (.inl (none), h) := by
  refine (show zBack zY 230 22 25 [some (zR (some 177)), some (zI x1), some (zI x2)] [] (some (.inl (none), h)) = gd (([] : List zV).isEmpty = true ∧ zrk 230 = 0) (some (.inl (none), h)) from zGo 1 230 25 _ _ _).trans ?_
  refine (gd_t (⟨rfl, rfl⟩) _).trans ?_
  rfl
theorem q_M_readsSet_r42 {h : zH} {x1 : Int} {x2 : Int} (KM : KM h) : zBack zY 230 39 42 [some (zR (some 177)), some (zI x1), some (zI x2)] [] (some (.inl (none), h)) =
    gd (-2147483648 ≤ 2 + x1 ∧ 2 + x1 < 2147483648) (
    zBack zY 230 47 50 [some (zR (some 177)), some (zI x1), some (zI x2)] [] (zC 224 [zR (some 177), zI (2 + x1), zI 0] h)) := by
  refine (show zBack zY 230 39 42 [some (zR (some 177)), some (zI x1), some (zI x2)] [] (some (.inl (none), h)) = gd (inR (2)) (gd (inR (2 + x1)) (gd (inR (0)) (gd (false = zctor 224 ∧ zcs [] ≤ 8 ∧ zrm 230 (zrf 224 + 1) (8 + (zmaxl 224 + 11) + zrl 224) = true ∧ zcs [zR (some 177), zI (2 + x1), zI 0] ≤ zmaxl 224) (gd (zob h (some 177) 12) (zBack zY 230 47 50 [some (zR (some 177)), some (zI x1), some (zI x2)] [] (zC 224 [zR (some 177), zI (2 + x1), zI 0] h)))))) from zGo 6 230 42 _ _ _).trans ?_
  refine (gd_t (by decide) _).trans ?_
  refine gd_c Iff.rfl (fun c0 => ?_)
  refine (gd_t (by decide) _).trans ?_
  refine (gd_t (⟨rfl, Nat.le_of_ble_eq_true rfl, rfl, Nat.le_of_ble_eq_true rfl⟩) _).trans ?_
  refine (gd_t (⟨rfl, (PTM KM 177 _ rfl rfl), (PNM KM 177 rfl)⟩) _).trans ?_
  rfl
theorem q_M_readsSet_r50 {h : zH} {x1 : Int} {x2 : Int} (KM : KM h) : zBack zY 230 47 50 [some (zR (some 177)), some (zI x1), some (zI x2)] [] (some (.inl (none), h)) =
    some (.inl (none), h) := by
  refine (show zBack zY 230 47 50 [some (zR (some 177)), some (zI x1), some (zI x2)] [] (some (.inl (none), h)) = gd (([] : List zV).isEmpty = true ∧ zrk 230 = 0) (some (.inl (none), h)) from zGo 1 230 50 _ _ _).trans ?_
  refine (gd_t (⟨rfl, rfl⟩) _).trans ?_
  rfl
theorem q_M_opens {h : zH} {x1 : Int} (KM : KM h) : zC 233 [zR (some 177), zI x1] h =
    some (.inl (none), (sI (sI (sI h 177 44 x1) 177 45 0) 177 46 (-1))) := by
  refine (show zC 233 [zR (some 177), zI x1] h = gd (zob h (some 177) 12) (gd (inR (0)) (gd (zob (sI h 177 44 x1) (some 177) 12) (gd ((0 : Int) = 0 ∨ (0 : Int) = 1) (gd (inR (-1)) (gd (zob (sI (sI h 177 44 x1) 177 45 0) (some 177) 12) (gd (([] : List zV).isEmpty = true ∧ zrk 233 = 0) (some (.inl (none), (sI (sI (sI h 177 44 x1) 177 45 0) 177 46 (-1)))))))))) from zGo 10 233 0 _ _ _).trans ?_
  refine (gd_t (⟨rfl, (PTM KM 177 _ rfl rfl), (PNM KM 177 rfl)⟩) _).trans ?_
  refine (gd_t (by decide) _).trans ?_
  refine (gd_t (⟨rfl, (PTM KM 177 _ rfl rfl), (PNM KM 177 rfl)⟩) _).trans ?_
  refine (gd_t (by decide) _).trans ?_
  refine (gd_t (by decide) _).trans ?_
  refine (gd_t (⟨rfl, (PTM KM 177 _ rfl rfl), (PNM KM 177 rfl)⟩) _).trans ?_
  refine (gd_t (⟨rfl, rfl⟩) _).trans ?_
  rfl
theorem q_M_readsIf {h : zH} (KM : KM h) : zC 232 [zR (some 177)] h =
    zBack zY 232 2 5 [some (zR (some 177)), none] [] (zC 205 [zR (some 177), zI 1] h) := by
  refine (show zC 232 [zR (some 177)] h = gd (inR (1)) (gd (false = zctor 205 ∧ zcs [] ≤ 8 ∧ zrm 232 (zrf 205 + 1) (8 + (zmaxl 205 + 11) + zrl 205) = true ∧ zcs [zR (some 177), zI 1] ≤ zmaxl 205) (gd (zob h (some 177) 12) (zBack zY 232 2 5 [some (zR (some 177)), none] [] (zC 205 [zR (some 177), zI 1] h)))) from zGo 3 232 0 _ _ _).trans ?_
  refine (gd_t (by decide) _).trans ?_
  refine (gd_t (⟨rfl, Nat.le_of_ble_eq_true rfl, rfl, Nat.le_of_ble_eq_true rfl⟩) _).trans ?_
  refine (gd_t (⟨rfl, (PTM KM 177 _ rfl rfl), (PNM KM 177 rfl)⟩) _).trans ?_
  rfl
theorem q_M_readsIf_r5 {h : zH} {y : Int} (KM : KM h) : zBack zY 232 2 5 [some (zR (some 177)), none] [] (some (.inl (some (zI y)), h)) =
    zBack zY 232 7 10 [some (zR (some 177)), some (zI y)] [] (zC 218 [zR (some 177)] h) := by
  refine (show zBack zY 232 2 5 [some (zR (some 177)), none] [] (some (.inl (some (zI y)), h)) = gd (false = zctor 218 ∧ zcs [] ≤ 8 ∧ zrm 232 (zrf 218 + 1) (8 + (zmaxl 218 + 11) + zrl 218) = true ∧ zcs [zR (some 177)] ≤ zmaxl 218) (gd (zob h (some 177) 12) (zBack zY 232 7 10 [some (zR (some 177)), some (zI y)] [] (zC 218 [zR (some 177)] h))) from zGo 3 232 5 _ _ _).trans ?_
  refine (gd_t (⟨rfl, Nat.le_of_ble_eq_true rfl, rfl, Nat.le_of_ble_eq_true rfl⟩) _).trans ?_
  refine (gd_t (⟨rfl, (PTM KM 177 _ rfl rfl), (PNM KM 177 rfl)⟩) _).trans ?_
  rfl
theorem q_M_readsIf_r10 {h : zH} {x1 : Int} (KM : KM h) : zBack zY 232 7 10 [some (zR (some 177)), some (zI x1)] [] (some (.inl (none), h)) =
    gd (-2147483648 ≤ 2 + x1 ∧ 2 + x1 < 2147483648) (
    zBack zY 232 15 18 [some (zR (some 177)), some (zI x1)] [] (zC 224 [zR (some 177), zI (2 + x1), zI 1] h)) := by
  refine (show zBack zY 232 7 10 [some (zR (some 177)), some (zI x1)] [] (some (.inl (none), h)) = gd (inR (2)) (gd (inR (2 + x1)) (gd (inR (1)) (gd (false = zctor 224 ∧ zcs [] ≤ 8 ∧ zrm 232 (zrf 224 + 1) (8 + (zmaxl 224 + 11) + zrl 224) = true ∧ zcs [zR (some 177), zI (2 + x1), zI 1] ≤ zmaxl 224) (gd (zob h (some 177) 12) (zBack zY 232 15 18 [some (zR (some 177)), some (zI x1)] [] (zC 224 [zR (some 177), zI (2 + x1), zI 1] h)))))) from zGo 6 232 10 _ _ _).trans ?_
  refine (gd_t (by decide) _).trans ?_
  refine gd_c Iff.rfl (fun c0 => ?_)
  refine (gd_t (by decide) _).trans ?_
  refine (gd_t (⟨rfl, Nat.le_of_ble_eq_true rfl, rfl, Nat.le_of_ble_eq_true rfl⟩) _).trans ?_
  refine (gd_t (⟨rfl, (PTM KM 177 _ rfl rfl), (PNM KM 177 rfl)⟩) _).trans ?_
  rfl
theorem q_M_readsIf_r18 {h : zH} {x1 : Int} (KM : KM h) : zBack zY 232 15 18 [some (zR (some 177)), some (zI x1)] [] (some (.inl (none), h)) =
    zBack zY 232 20 23 [some (zR (some 177)), some (zI x1)] [] (zC 233 [zR (some 177), zI x1] h) := by
  refine (show zBack zY 232 15 18 [some (zR (some 177)), some (zI x1)] [] (some (.inl (none), h)) = gd (false = zctor 233 ∧ zcs [] ≤ 8 ∧ zrm 232 (zrf 233 + 1) (8 + (zmaxl 233 + 11) + zrl 233) = true ∧ zcs [zR (some 177), zI x1] ≤ zmaxl 233) (gd (zob h (some 177) 12) (zBack zY 232 20 23 [some (zR (some 177)), some (zI x1)] [] (zC 233 [zR (some 177), zI x1] h))) from zGo 3 232 18 _ _ _).trans ?_
  refine (gd_t (⟨rfl, Nat.le_of_ble_eq_true rfl, rfl, Nat.le_of_ble_eq_true rfl⟩) _).trans ?_
  refine (gd_t (⟨rfl, (PTM KM 177 _ rfl rfl), (PNM KM 177 rfl)⟩) _).trans ?_
  rfl
theorem q_M_readsIf_r23 {h : zH} {x1 : Int} (KM : KM h) : zBack zY 232 20 23 [some (zR (some 177)), some (zI x1)] [] (some (.inl (none), h)) =
    some (.inl (none), h) := by
  refine (show zBack zY 232 20 23 [some (zR (some 177)), some (zI x1)] [] (some (.inl (none), h)) = gd (([] : List zV).isEmpty = true ∧ zrk 232 = 0) (some (.inl (none), h)) from zGo 1 232 23 _ _ _).trans ?_
  refine (gd_t (⟨rfl, rfl⟩) _).trans ?_
  rfl
theorem q_M_readsWhile {h : zH} (KM : KM h) : zC 234 [zR (some 177)] h =
    zBack zY 234 2 5 [some (zR (some 177)), none] [] (zC 205 [zR (some 177), zI 2] h) := by
  refine (show zC 234 [zR (some 177)] h = gd (inR (2)) (gd (false = zctor 205 ∧ zcs [] ≤ 8 ∧ zrm 234 (zrf 205 + 1) (8 + (zmaxl 205 + 11) + zrl 205) = true ∧ zcs [zR (some 177), zI 2] ≤ zmaxl 205) (gd (zob h (some 177) 12) (zBack zY 234 2 5 [some (zR (some 177)), none] [] (zC 205 [zR (some 177), zI 2] h)))) from zGo 3 234 0 _ _ _).trans ?_
  refine (gd_t (by decide) _).trans ?_
  refine (gd_t (⟨rfl, Nat.le_of_ble_eq_true rfl, rfl, Nat.le_of_ble_eq_true rfl⟩) _).trans ?_
  refine (gd_t (⟨rfl, (PTM KM 177 _ rfl rfl), (PNM KM 177 rfl)⟩) _).trans ?_
  rfl
theorem q_M_readsWhile_r5 {h : zH} {y : Int} (KM : KM h) : zBack zY 234 2 5 [some (zR (some 177)), none] [] (some (.inl (some (zI y)), h)) =
    zBack zY 234 7 10 [some (zR (some 177)), some (zI y)] [] (zC 218 [zR (some 177)] h) := by
  refine (show zBack zY 234 2 5 [some (zR (some 177)), none] [] (some (.inl (some (zI y)), h)) = gd (false = zctor 218 ∧ zcs [] ≤ 8 ∧ zrm 234 (zrf 218 + 1) (8 + (zmaxl 218 + 11) + zrl 218) = true ∧ zcs [zR (some 177)] ≤ zmaxl 218) (gd (zob h (some 177) 12) (zBack zY 234 7 10 [some (zR (some 177)), some (zI y)] [] (zC 218 [zR (some 177)] h))) from zGo 3 234 5 _ _ _).trans ?_
  refine (gd_t (⟨rfl, Nat.le_of_ble_eq_true rfl, rfl, Nat.le_of_ble_eq_true rfl⟩) _).trans ?_
  refine (gd_t (⟨rfl, (PTM KM 177 _ rfl rfl), (PNM KM 177 rfl)⟩) _).trans ?_
  rfl
theorem q_M_readsWhile_r10 {h : zH} {x1 : Int} (KM : KM h) : zBack zY 234 7 10 [some (zR (some 177)), some (zI x1)] [] (some (.inl (none), h)) =
    gd (-2147483648 ≤ 2 + x1 ∧ 2 + x1 < 2147483648) (
    zBack zY 234 15 18 [some (zR (some 177)), some (zI x1)] [] (zC 224 [zR (some 177), zI (2 + x1), zI 1] h)) := by
  refine (show zBack zY 234 7 10 [some (zR (some 177)), some (zI x1)] [] (some (.inl (none), h)) = gd (inR (2)) (gd (inR (2 + x1)) (gd (inR (1)) (gd (false = zctor 224 ∧ zcs [] ≤ 8 ∧ zrm 234 (zrf 224 + 1) (8 + (zmaxl 224 + 11) + zrl 224) = true ∧ zcs [zR (some 177), zI (2 + x1), zI 1] ≤ zmaxl 224) (gd (zob h (some 177) 12) (zBack zY 234 15 18 [some (zR (some 177)), some (zI x1)] [] (zC 224 [zR (some 177), zI (2 + x1), zI 1] h)))))) from zGo 6 234 10 _ _ _).trans ?_
  refine (gd_t (by decide) _).trans ?_
  refine gd_c Iff.rfl (fun c0 => ?_)
  refine (gd_t (by decide) _).trans ?_
  refine (gd_t (⟨rfl, Nat.le_of_ble_eq_true rfl, rfl, Nat.le_of_ble_eq_true rfl⟩) _).trans ?_
  refine (gd_t (⟨rfl, (PTM KM 177 _ rfl rfl), (PNM KM 177 rfl)⟩) _).trans ?_
  rfl
theorem q_M_readsWhile_r18 {h : zH} {x1 : Int} (KM : KM h) : zBack zY 234 15 18 [some (zR (some 177)), some (zI x1)] [] (some (.inl (none), h)) =
    zBack zY 234 21 24 [some (zR (some 177)), some (zI x1)] [] (zC 221 [zR (some 177), zI 19] h) := by
  refine (show zBack zY 234 15 18 [some (zR (some 177)), some (zI x1)] [] (some (.inl (none), h)) = gd (-128 ≤ (19 : Int) ∧ (19 : Int) < 128) (gd (false = zctor 221 ∧ zcs [] ≤ 8 ∧ zrm 234 (zrf 221 + 1) (8 + (zmaxl 221 + 11) + zrl 221) = true ∧ zcs [zR (some 177), zI 19] ≤ zmaxl 221) (gd (zob h (some 177) 12) (zBack zY 234 21 24 [some (zR (some 177)), some (zI x1)] [] (zC 221 [zR (some 177), zI 19] h)))) from zGo 3 234 18 _ _ _).trans ?_
  refine (gd_t (by decide) _).trans ?_
  refine (gd_t (⟨rfl, Nat.le_of_ble_eq_true rfl, rfl, Nat.le_of_ble_eq_true rfl⟩) _).trans ?_
  refine (gd_t (⟨rfl, (PTM KM 177 _ rfl rfl), (PNM KM 177 rfl)⟩) _).trans ?_
  rfl
theorem q_M_readsWhile_r24 {h : zH} {x1 : Int} (KM : KM h) : zBack zY 234 21 24 [some (zR (some 177)), some (zI x1)] [] (some (.inl (none), h)) =
    if (hI h 177 41) = 0 then
      gd (-2147483648 ≤ 26 + x1 ∧ 26 + x1 < 2147483648) (
      zBack zY 234 37 40 [some (zR (some 177)), some (zI x1)] [] (zC 224 [zR (some 177), zI (26 + x1), zI 1] h))
    else
      zBack zY 234 43 46 [some (zR (some 177)), some (zI x1)] [] (zC 221 [zR (some 177), zI 20] h) := by
  refine (show zBack zY 234 21 24 [some (zR (some 177)), some (zI x1)] [] (some (.inl (none), h)) = gd (zob h (some 177) 12) (if (hI h 177 41) = 0 then zY 234 31 [some (zR (some 177)), some (zI x1)] [] h else zY 234 40 [some (zR (some 177)), some (zI x1)] [] h) from zGo 3 234 24 _ _ _).trans ?_
  refine (gd_t (⟨rfl, (PTM KM 177 _ rfl rfl), (PNM KM 177 rfl)⟩) _).trans ?_
  refine iteC (fun c0 => ?_) (fun c0 => ?_)
  · skip
    refine (show zY 234 31 [some (zR (some 177)), some (zI x1)] [] h = gd (-128 ≤ (26 : Int) ∧ (26 : Int) < 128) (gd (inR (26 + x1)) (gd (inR (1)) (gd (false = zctor 224 ∧ zcs [] ≤ 8 ∧ zrm 234 (zrf 224 + 1) (8 + (zmaxl 224 + 11) + zrl 224) = true ∧ zcs [zR (some 177), zI (26 + x1), zI 1] ≤ zmaxl 224) (gd (zob h (some 177) 12) (zBack zY 234 37 40 [some (zR (some 177)), some (zI x1)] [] (zC 224 [zR (some 177), zI (26 + x1), zI 1] h)))))) from zGo 6 234 31 _ _ _).trans ?_
    refine (gd_t (by decide) _).trans ?_
    refine gd_c Iff.rfl (fun c1 => ?_)
    refine (gd_t (by decide) _).trans ?_
    refine (gd_t (⟨rfl, Nat.le_of_ble_eq_true rfl, rfl, Nat.le_of_ble_eq_true rfl⟩) _).trans ?_
    refine (gd_t (⟨rfl, (PTM KM 177 _ rfl rfl), (PNM KM 177 rfl)⟩) _).trans ?_
    rfl
  · skip
    refine (show zY 234 40 [some (zR (some 177)), some (zI x1)] [] h = gd (-128 ≤ (20 : Int) ∧ (20 : Int) < 128) (gd (false = zctor 221 ∧ zcs [] ≤ 8 ∧ zrm 234 (zrf 221 + 1) (8 + (zmaxl 221 + 11) + zrl 221) = true ∧ zcs [zR (some 177), zI 20] ≤ zmaxl 221) (gd (zob h (some 177) 12) (zBack zY 234 43 46 [some (zR (some 177)), some (zI x1)] [] (zC 221 [zR (some 177), zI 20] h)))) from zGo 3 234 40 _ _ _).trans ?_
    refine (gd_t (by decide) _).trans ?_
    refine (gd_t (⟨rfl, Nat.le_of_ble_eq_true rfl, rfl, Nat.le_of_ble_eq_true rfl⟩) _).trans ?_
    refine (gd_t (⟨rfl, (PTM KM 177 _ rfl rfl), (PNM KM 177 rfl)⟩) _).trans ?_
    rfl
theorem q_M_readsWhile_r40 {h : zH} {x1 : Int} (KM : KM h) : zBack zY 234 37 40 [some (zR (some 177)), some (zI x1)] [] (some (.inl (none), h)) =
    zBack zY 234 43 46 [some (zR (some 177)), some (zI x1)] [] (zC 221 [zR (some 177), zI 20] h) := by
  refine (show zBack zY 234 37 40 [some (zR (some 177)), some (zI x1)] [] (some (.inl (none), h)) = gd (-128 ≤ (20 : Int) ∧ (20 : Int) < 128) (gd (false = zctor 221 ∧ zcs [] ≤ 8 ∧ zrm 234 (zrf 221 + 1) (8 + (zmaxl 221 + 11) + zrl 221) = true ∧ zcs [zR (some 177), zI 20] ≤ zmaxl 221) (gd (zob h (some 177) 12) (zBack zY 234 43 46 [some (zR (some 177)), some (zI x1)] [] (zC 221 [zR (some 177), zI 20] h)))) from zGo 3 234 40 _ _ _).trans ?_
  refine (gd_t (by decide) _).trans ?_
  refine (gd_t (⟨rfl, Nat.le_of_ble_eq_true rfl, rfl, Nat.le_of_ble_eq_true rfl⟩) _).trans ?_
  refine (gd_t (⟨rfl, (PTM KM 177 _ rfl rfl), (PNM KM 177 rfl)⟩) _).trans ?_
  rfl
theorem q_M_readsWhile_r46 {h : zH} {x1 : Int} (KM : KM h) : zBack zY 234 43 46 [some (zR (some 177)), some (zI x1)] [] (some (.inl (none), h)) =
    if (hI h 177 41) = 0 then
      gd (-2147483648 ≤ 50 + x1 ∧ 50 + x1 < 2147483648) (
      zBack zY 234 59 62 [some (zR (some 177)), some (zI x1)] [] (zC 224 [zR (some 177), zI (50 + x1), zI 0] h))
    else
      zBack zY 234 64 67 [some (zR (some 177)), some (zI x1)] [] (zC 233 [zR (some 177), zI x1] h) := by
  refine (show zBack zY 234 43 46 [some (zR (some 177)), some (zI x1)] [] (some (.inl (none), h)) = gd (zob h (some 177) 12) (if (hI h 177 41) = 0 then zY 234 53 [some (zR (some 177)), some (zI x1)] [] h else zY 234 62 [some (zR (some 177)), some (zI x1)] [] h) from zGo 3 234 46 _ _ _).trans ?_
  refine (gd_t (⟨rfl, (PTM KM 177 _ rfl rfl), (PNM KM 177 rfl)⟩) _).trans ?_
  refine iteC (fun c0 => ?_) (fun c0 => ?_)
  · skip
    refine (show zY 234 53 [some (zR (some 177)), some (zI x1)] [] h = gd (-128 ≤ (50 : Int) ∧ (50 : Int) < 128) (gd (inR (50 + x1)) (gd (inR (0)) (gd (false = zctor 224 ∧ zcs [] ≤ 8 ∧ zrm 234 (zrf 224 + 1) (8 + (zmaxl 224 + 11) + zrl 224) = true ∧ zcs [zR (some 177), zI (50 + x1), zI 0] ≤ zmaxl 224) (gd (zob h (some 177) 12) (zBack zY 234 59 62 [some (zR (some 177)), some (zI x1)] [] (zC 224 [zR (some 177), zI (50 + x1), zI 0] h)))))) from zGo 6 234 53 _ _ _).trans ?_
    refine (gd_t (by decide) _).trans ?_
    refine gd_c Iff.rfl (fun c1 => ?_)
    refine (gd_t (by decide) _).trans ?_
    refine (gd_t (⟨rfl, Nat.le_of_ble_eq_true rfl, rfl, Nat.le_of_ble_eq_true rfl⟩) _).trans ?_
    refine (gd_t (⟨rfl, (PTM KM 177 _ rfl rfl), (PNM KM 177 rfl)⟩) _).trans ?_
    rfl
  · skip
    refine (show zY 234 62 [some (zR (some 177)), some (zI x1)] [] h = gd (false = zctor 233 ∧ zcs [] ≤ 8 ∧ zrm 234 (zrf 233 + 1) (8 + (zmaxl 233 + 11) + zrl 233) = true ∧ zcs [zR (some 177), zI x1] ≤ zmaxl 233) (gd (zob h (some 177) 12) (zBack zY 234 64 67 [some (zR (some 177)), some (zI x1)] [] (zC 233 [zR (some 177), zI x1] h))) from zGo 3 234 62 _ _ _).trans ?_
    refine (gd_t (⟨rfl, Nat.le_of_ble_eq_true rfl, rfl, Nat.le_of_ble_eq_true rfl⟩) _).trans ?_
    refine (gd_t (⟨rfl, (PTM KM 177 _ rfl rfl), (PNM KM 177 rfl)⟩) _).trans ?_
    rfl
theorem q_M_readsWhile_r62 {h : zH} {x1 : Int} (KM : KM h) : zBack zY 234 59 62 [some (zR (some 177)), some (zI x1)] [] (some (.inl (none), h)) =
    zBack zY 234 64 67 [some (zR (some 177)), some (zI x1)] [] (zC 233 [zR (some 177), zI x1] h) := by
  refine (show zBack zY 234 59 62 [some (zR (some 177)), some (zI x1)] [] (some (.inl (none), h)) = gd (false = zctor 233 ∧ zcs [] ≤ 8 ∧ zrm 234 (zrf 233 + 1) (8 + (zmaxl 233 + 11) + zrl 233) = true ∧ zcs [zR (some 177), zI x1] ≤ zmaxl 233) (gd (zob h (some 177) 12) (zBack zY 234 64 67 [some (zR (some 177)), some (zI x1)] [] (zC 233 [zR (some 177), zI x1] h))) from zGo 3 234 62 _ _ _).trans ?_
  refine (gd_t (⟨rfl, Nat.le_of_ble_eq_true rfl, rfl, Nat.le_of_ble_eq_true rfl⟩) _).trans ?_
  refine (gd_t (⟨rfl, (PTM KM 177 _ rfl rfl), (PNM KM 177 rfl)⟩) _).trans ?_
  rfl
theorem q_M_readsWhile_r67 {h : zH} {x1 : Int} (KM : KM h) : zBack zY 234 64 67 [some (zR (some 177)), some (zI x1)] [] (some (.inl (none), h)) =
    some (.inl (none), h) := by
  refine (show zBack zY 234 64 67 [some (zR (some 177)), some (zI x1)] [] (some (.inl (none), h)) = gd (([] : List zV).isEmpty = true ∧ zrk 234 = 0) (some (.inl (none), h)) from zGo 1 234 67 _ _ _).trans ?_
  refine (gd_t (⟨rfl, rfl⟩) _).trans ?_
  rfl
theorem q_M_beginsStatement {h : zH} (KM : KM h) : zC 228 [zR (some 177)] h =
    zBack zY 228 3 6 [some (zR (some 177))] [] (zC 222 [zR (some 177), zI 14] h) := by
  refine (show zC 228 [zR (some 177)] h = gd (-128 ≤ (14 : Int) ∧ (14 : Int) < 128) (gd (false = zctor 222 ∧ zcs [] ≤ 8 ∧ zrm 228 (zrf 222 + 1) (8 + (zmaxl 222 + 11) + zrl 222) = true ∧ zcs [zR (some 177), zI 14] ≤ zmaxl 222) (gd (zob h (some 177) 12) (zBack zY 228 3 6 [some (zR (some 177))] [] (zC 222 [zR (some 177), zI 14] h)))) from zGo 3 228 0 _ _ _).trans ?_
  refine (gd_t (by decide) _).trans ?_
  refine (gd_t (⟨rfl, Nat.le_of_ble_eq_true rfl, rfl, Nat.le_of_ble_eq_true rfl⟩) _).trans ?_
  refine (gd_t (⟨rfl, (PTM KM 177 _ rfl rfl), (PNM KM 177 rfl)⟩) _).trans ?_
  rfl
theorem q_M_beginsStatement_r6 {h : zH} {y : Int} (KM : KM h) : zBack zY 228 3 6 [some (zR (some 177))] [] (some (.inl (some (zI y)), h)) =
    if y = 0 then
      zBack zY 228 12 15 [some (zR (some 177))] [] (zC 222 [zR (some 177), zI 15] h)
    else
      some (.inl (some (zI 1)), h) := by
  refine (show zBack zY 228 3 6 [some (zR (some 177))] [] (some (.inl (some (zI y)), h)) = if y = 0 then zY 228 9 [some (zR (some 177))] [] h else zY 228 36 [some (zR (some 177))] [] h from zGo 1 228 6 _ _ _).trans ?_
  refine iteC (fun c0 => ?_) (fun c0 => ?_)
  · skip
    refine (show zY 228 9 [some (zR (some 177))] [] h = gd (-128 ≤ (15 : Int) ∧ (15 : Int) < 128) (gd (false = zctor 222 ∧ zcs [] ≤ 8 ∧ zrm 228 (zrf 222 + 1) (8 + (zmaxl 222 + 11) + zrl 222) = true ∧ zcs [zR (some 177), zI 15] ≤ zmaxl 222) (gd (zob h (some 177) 12) (zBack zY 228 12 15 [some (zR (some 177))] [] (zC 222 [zR (some 177), zI 15] h)))) from zGo 3 228 9 _ _ _).trans ?_
    refine (gd_t (by decide) _).trans ?_
    refine (gd_t (⟨rfl, Nat.le_of_ble_eq_true rfl, rfl, Nat.le_of_ble_eq_true rfl⟩) _).trans ?_
    refine (gd_t (⟨rfl, (PTM KM 177 _ rfl rfl), (PNM KM 177 rfl)⟩) _).trans ?_
    rfl
  · skip
    refine (show zY 228 36 [some (zR (some 177))] [] h = gd (inR (1)) (gd (([] : List zV).isEmpty = true ∧ (zrk 228 = 1 ∨ zrk 228 = 6 ∧ ((1 : Int) = 0 ∨ (1 : Int) = 1))) (some (.inl (some (zI 1)), h))) from zGo 3 228 36 _ _ _).trans ?_
    refine (gd_t (by decide) _).trans ?_
    refine (gd_t (⟨rfl, Or.inr ⟨rfl, by decide⟩⟩) _).trans ?_
    rfl
theorem q_M_beginsStatement_r15 {h : zH} {y : Int} (KM : KM h) : zBack zY 228 12 15 [some (zR (some 177))] [] (some (.inl (some (zI y)), h)) =
    if y = 0 then
      zBack zY 228 21 24 [some (zR (some 177))] [] (zC 222 [zR (some 177), zI 18] h)
    else
      some (.inl (some (zI 1)), h) := by
  refine (show zBack zY 228 12 15 [some (zR (some 177))] [] (some (.inl (some (zI y)), h)) = if y = 0 then zY 228 18 [some (zR (some 177))] [] h else zY 228 36 [some (zR (some 177))] [] h from zGo 1 228 15 _ _ _).trans ?_
  refine iteC (fun c0 => ?_) (fun c0 => ?_)
  · skip
    refine (show zY 228 18 [some (zR (some 177))] [] h = gd (-128 ≤ (18 : Int) ∧ (18 : Int) < 128) (gd (false = zctor 222 ∧ zcs [] ≤ 8 ∧ zrm 228 (zrf 222 + 1) (8 + (zmaxl 222 + 11) + zrl 222) = true ∧ zcs [zR (some 177), zI 18] ≤ zmaxl 222) (gd (zob h (some 177) 12) (zBack zY 228 21 24 [some (zR (some 177))] [] (zC 222 [zR (some 177), zI 18] h)))) from zGo 3 228 18 _ _ _).trans ?_
    refine (gd_t (by decide) _).trans ?_
    refine (gd_t (⟨rfl, Nat.le_of_ble_eq_true rfl, rfl, Nat.le_of_ble_eq_true rfl⟩) _).trans ?_
    refine (gd_t (⟨rfl, (PTM KM 177 _ rfl rfl), (PNM KM 177 rfl)⟩) _).trans ?_
    rfl
  · skip
    refine (show zY 228 36 [some (zR (some 177))] [] h = gd (inR (1)) (gd (([] : List zV).isEmpty = true ∧ (zrk 228 = 1 ∨ zrk 228 = 6 ∧ ((1 : Int) = 0 ∨ (1 : Int) = 1))) (some (.inl (some (zI 1)), h))) from zGo 3 228 36 _ _ _).trans ?_
    refine (gd_t (by decide) _).trans ?_
    refine (gd_t (⟨rfl, Or.inr ⟨rfl, by decide⟩⟩) _).trans ?_
    rfl
theorem q_M_beginsStatement_r24 {h : zH} {y : Int} (KM : KM h) : zBack zY 228 21 24 [some (zR (some 177))] [] (some (.inl (some (zI y)), h)) =
    if y = 0 then
      zBack zY 228 30 33 [some (zR (some 177))] [] (zC 222 [zR (some 177), zI 21] h)
    else
      some (.inl (some (zI 1)), h) := by
  refine (show zBack zY 228 21 24 [some (zR (some 177))] [] (some (.inl (some (zI y)), h)) = if y = 0 then zY 228 27 [some (zR (some 177))] [] h else zY 228 36 [some (zR (some 177))] [] h from zGo 1 228 24 _ _ _).trans ?_
  refine iteC (fun c0 => ?_) (fun c0 => ?_)
  · skip
    refine (show zY 228 27 [some (zR (some 177))] [] h = gd (-128 ≤ (21 : Int) ∧ (21 : Int) < 128) (gd (false = zctor 222 ∧ zcs [] ≤ 8 ∧ zrm 228 (zrf 222 + 1) (8 + (zmaxl 222 + 11) + zrl 222) = true ∧ zcs [zR (some 177), zI 21] ≤ zmaxl 222) (gd (zob h (some 177) 12) (zBack zY 228 30 33 [some (zR (some 177))] [] (zC 222 [zR (some 177), zI 21] h)))) from zGo 3 228 27 _ _ _).trans ?_
    refine (gd_t (by decide) _).trans ?_
    refine (gd_t (⟨rfl, Nat.le_of_ble_eq_true rfl, rfl, Nat.le_of_ble_eq_true rfl⟩) _).trans ?_
    refine (gd_t (⟨rfl, (PTM KM 177 _ rfl rfl), (PNM KM 177 rfl)⟩) _).trans ?_
    rfl
  · skip
    refine (show zY 228 36 [some (zR (some 177))] [] h = gd (inR (1)) (gd (([] : List zV).isEmpty = true ∧ (zrk 228 = 1 ∨ zrk 228 = 6 ∧ ((1 : Int) = 0 ∨ (1 : Int) = 1))) (some (.inl (some (zI 1)), h))) from zGo 3 228 36 _ _ _).trans ?_
    refine (gd_t (by decide) _).trans ?_
    refine (gd_t (⟨rfl, Or.inr ⟨rfl, by decide⟩⟩) _).trans ?_
    rfl
theorem q_M_beginsStatement_r33 {h : zH} {y : Int} (KM : KM h) : zBack zY 228 30 33 [some (zR (some 177))] [] (some (.inl (some (zI y)), h)) =
    if y = 0 then
      some (.inl (some (zI 0)), h)
    else
      some (.inl (some (zI 1)), h) := by
  refine (show zBack zY 228 30 33 [some (zR (some 177))] [] (some (.inl (some (zI y)), h)) = if y = 0 then zY 228 40 [some (zR (some 177))] [] h else zY 228 36 [some (zR (some 177))] [] h from zGo 1 228 33 _ _ _).trans ?_
  refine iteC (fun c0 => ?_) (fun c0 => ?_)
  · skip
    refine (show zY 228 40 [some (zR (some 177))] [] h = gd (inR (0)) (gd (([] : List zV).isEmpty = true ∧ (zrk 228 = 1 ∨ zrk 228 = 6 ∧ ((0 : Int) = 0 ∨ (0 : Int) = 1))) (some (.inl (some (zI 0)), h))) from zGo 2 228 40 _ _ _).trans ?_
    refine (gd_t (by decide) _).trans ?_
    refine (gd_t (⟨rfl, Or.inr ⟨rfl, by decide⟩⟩) _).trans ?_
    rfl
  · skip
    refine (show zY 228 36 [some (zR (some 177))] [] h = gd (inR (1)) (gd (([] : List zV).isEmpty = true ∧ (zrk 228 = 1 ∨ zrk 228 = 6 ∧ ((1 : Int) = 0 ∨ (1 : Int) = 1))) (some (.inl (some (zI 1)), h))) from zGo 3 228 36 _ _ _).trans ?_
    refine (gd_t (by decide) _).trans ?_
    refine (gd_t (⟨rfl, Or.inr ⟨rfl, by decide⟩⟩) _).trans ?_
    rfl
theorem q_M_readsStatement {h : zH} (KM : KM h) : zC 229 [zR (some 177)] h =
    if (hI h 177 10) = 24 then
      zBack zY 229 11 14 [some (zR (some 177)), none] [] (zC 223 [zR (some 177), zI 3] h)
    else
      zBack zY 229 20 23 [some (zR (some 177)), none] [] (zC 222 [zR (some 177), zI 14] h) := by
  refine (show zC 229 [zR (some 177)] h = gd (zob h (some 177) 12) (gd (-128 ≤ (24 : Int) ∧ (24 : Int) < 128) (if (hI h 177 10) = 24 then zY 229 9 [some (zR (some 177)), none] [] h else zY 229 17 [some (zR (some 177)), none] [] h)) from zGo 4 229 0 _ _ _).trans ?_
  refine (gd_t (⟨rfl, (PTM KM 177 _ rfl rfl), (PNM KM 177 rfl)⟩) _).trans ?_
  refine (gd_t (by decide) _).trans ?_
  refine iteC (fun c0 => ?_) (fun c0 => ?_)
  · skip
    refine (show zY 229 9 [some (zR (some 177)), none] [] h = gd (inR (3)) (gd (false = zctor 223 ∧ zcs [] ≤ 8 ∧ zrm 229 (zrf 223 + 1) (8 + (zmaxl 223 + 11) + zrl 223) = true ∧ zcs [zR (some 177), zI 3] ≤ zmaxl 223) (gd (zob h (some 177) 12) (zBack zY 229 11 14 [some (zR (some 177)), none] [] (zC 223 [zR (some 177), zI 3] h)))) from zGo 3 229 9 _ _ _).trans ?_
    refine (gd_t (by decide) _).trans ?_
    refine (gd_t (⟨rfl, Nat.le_of_ble_eq_true rfl, rfl, Nat.le_of_ble_eq_true rfl⟩) _).trans ?_
    refine (gd_t (⟨rfl, (PTM KM 177 _ rfl rfl), (PNM KM 177 rfl)⟩) _).trans ?_
    rfl
  · skip
    refine (show zY 229 17 [some (zR (some 177)), none] [] h = gd (-128 ≤ (14 : Int) ∧ (14 : Int) < 128) (gd (false = zctor 222 ∧ zcs [] ≤ 8 ∧ zrm 229 (zrf 222 + 1) (8 + (zmaxl 222 + 11) + zrl 222) = true ∧ zcs [zR (some 177), zI 14] ≤ zmaxl 222) (gd (zob h (some 177) 12) (zBack zY 229 20 23 [some (zR (some 177)), none] [] (zC 222 [zR (some 177), zI 14] h)))) from zGo 3 229 17 _ _ _).trans ?_
    refine (gd_t (by decide) _).trans ?_
    refine (gd_t (⟨rfl, Nat.le_of_ble_eq_true rfl, rfl, Nat.le_of_ble_eq_true rfl⟩) _).trans ?_
    refine (gd_t (⟨rfl, (PTM KM 177 _ rfl rfl), (PNM KM 177 rfl)⟩) _).trans ?_
    rfl
theorem q_M_readsStatement_r14 {h : zH} (KM : KM h) : zBack zY 229 11 14 [some (zR (some 177)), none] [] (some (.inl (none), h)) =
    some (.inl (none), h) := by
  refine (show zBack zY 229 11 14 [some (zR (some 177)), none] [] (some (.inl (none), h)) = gd (([] : List zV).isEmpty = true ∧ zrk 229 = 0) (some (.inl (none), h)) from zGo 2 229 14 _ _ _).trans ?_
  refine (gd_t (⟨rfl, rfl⟩) _).trans ?_
  rfl
theorem q_M_readsStatement_r23 {h : zH} {y : Int} (KM : KM h) : zBack zY 229 20 23 [some (zR (some 177)), none] [] (some (.inl (some (zI y)), h)) =
    if y = 0 then
      zBack zY 229 36 39 [some (zR (some 177)), none] [] (zC 222 [zR (some 177), zI 15] h)
    else
      zBack zY 229 27 30 [some (zR (some 177)), none] [] (zC 230 [zR (some 177)] h) := by
  refine (show zBack zY 229 20 23 [some (zR (some 177)), none] [] (some (.inl (some (zI y)), h)) = if y = 0 then zY 229 33 [some (zR (some 177)), none] [] h else zY 229 26 [some (zR (some 177)), none] [] h from zGo 1 229 23 _ _ _).trans ?_
  refine iteC (fun c0 => ?_) (fun c0 => ?_)
  · skip
    refine (show zY 229 33 [some (zR (some 177)), none] [] h = gd (-128 ≤ (15 : Int) ∧ (15 : Int) < 128) (gd (false = zctor 222 ∧ zcs [] ≤ 8 ∧ zrm 229 (zrf 222 + 1) (8 + (zmaxl 222 + 11) + zrl 222) = true ∧ zcs [zR (some 177), zI 15] ≤ zmaxl 222) (gd (zob h (some 177) 12) (zBack zY 229 36 39 [some (zR (some 177)), none] [] (zC 222 [zR (some 177), zI 15] h)))) from zGo 3 229 33 _ _ _).trans ?_
    refine (gd_t (by decide) _).trans ?_
    refine (gd_t (⟨rfl, Nat.le_of_ble_eq_true rfl, rfl, Nat.le_of_ble_eq_true rfl⟩) _).trans ?_
    refine (gd_t (⟨rfl, (PTM KM 177 _ rfl rfl), (PNM KM 177 rfl)⟩) _).trans ?_
    rfl
  · skip
    refine (show zY 229 26 [some (zR (some 177)), none] [] h = gd (false = zctor 230 ∧ zcs [] ≤ 8 ∧ zrm 229 (zrf 230 + 1) (8 + (zmaxl 230 + 11) + zrl 230) = true ∧ zcs [zR (some 177)] ≤ zmaxl 230) (gd (zob h (some 177) 12) (zBack zY 229 27 30 [some (zR (some 177)), none] [] (zC 230 [zR (some 177)] h))) from zGo 2 229 26 _ _ _).trans ?_
    refine (gd_t (⟨rfl, Nat.le_of_ble_eq_true rfl, rfl, Nat.le_of_ble_eq_true rfl⟩) _).trans ?_
    refine (gd_t (⟨rfl, (PTM KM 177 _ rfl rfl), (PNM KM 177 rfl)⟩) _).trans ?_
    rfl
theorem q_M_readsStatement_r30 {h : zH} (KM : KM h) : zBack zY 229 27 30 [some (zR (some 177)), none] [] (some (.inl (none), h)) =
    some (.inl (none), h) := by
  refine (show zBack zY 229 27 30 [some (zR (some 177)), none] [] (some (.inl (none), h)) = gd (([] : List zV).isEmpty = true ∧ zrk 229 = 0) (some (.inl (none), h)) from zGo 2 229 30 _ _ _).trans ?_
  refine (gd_t (⟨rfl, rfl⟩) _).trans ?_
  rfl
theorem q_M_readsStatement_r39 {h : zH} {y : Int} (KM : KM h) : zBack zY 229 36 39 [some (zR (some 177)), none] [] (some (.inl (some (zI y)), h)) =
    if y = 0 then
      zBack zY 229 52 55 [some (zR (some 177)), none] [] (zC 222 [zR (some 177), zI 18] h)
    else
      zBack zY 229 43 46 [some (zR (some 177)), none] [] (zC 232 [zR (some 177)] h) := by
  refine (show zBack zY 229 36 39 [some (zR (some 177)), none] [] (some (.inl (some (zI y)), h)) = if y = 0 then zY 229 49 [some (zR (some 177)), none] [] h else zY 229 42 [some (zR (some 177)), none] [] h from zGo 1 229 39 _ _ _).trans ?_
  refine iteC (fun c0 => ?_) (fun c0 => ?_)
  · skip
    refine (show zY 229 49 [some (zR (some 177)), none] [] h = gd (-128 ≤ (18 : Int) ∧ (18 : Int) < 128) (gd (false = zctor 222 ∧ zcs [] ≤ 8 ∧ zrm 229 (zrf 222 + 1) (8 + (zmaxl 222 + 11) + zrl 222) = true ∧ zcs [zR (some 177), zI 18] ≤ zmaxl 222) (gd (zob h (some 177) 12) (zBack zY 229 52 55 [some (zR (some 177)), none] [] (zC 222 [zR (some 177), zI 18] h)))) from zGo 3 229 49 _ _ _).trans ?_
    refine (gd_t (by decide) _).trans ?_
    refine (gd_t (⟨rfl, Nat.le_of_ble_eq_true rfl, rfl, Nat.le_of_ble_eq_true rfl⟩) _).trans ?_
    refine (gd_t (⟨rfl, (PTM KM 177 _ rfl rfl), (PNM KM 177 rfl)⟩) _).trans ?_
    rfl
  · skip
    refine (show zY 229 42 [some (zR (some 177)), none] [] h = gd (false = zctor 232 ∧ zcs [] ≤ 8 ∧ zrm 229 (zrf 232 + 1) (8 + (zmaxl 232 + 11) + zrl 232) = true ∧ zcs [zR (some 177)] ≤ zmaxl 232) (gd (zob h (some 177) 12) (zBack zY 229 43 46 [some (zR (some 177)), none] [] (zC 232 [zR (some 177)] h))) from zGo 2 229 42 _ _ _).trans ?_
    refine (gd_t (⟨rfl, Nat.le_of_ble_eq_true rfl, rfl, Nat.le_of_ble_eq_true rfl⟩) _).trans ?_
    refine (gd_t (⟨rfl, (PTM KM 177 _ rfl rfl), (PNM KM 177 rfl)⟩) _).trans ?_
    rfl
theorem q_M_readsStatement_r46 {h : zH} (KM : KM h) : zBack zY 229 43 46 [some (zR (some 177)), none] [] (some (.inl (none), h)) =
    some (.inl (none), h) := by
  refine (show zBack zY 229 43 46 [some (zR (some 177)), none] [] (some (.inl (none), h)) = gd (([] : List zV).isEmpty = true ∧ zrk 229 = 0) (some (.inl (none), h)) from zGo 2 229 46 _ _ _).trans ?_
  refine (gd_t (⟨rfl, rfl⟩) _).trans ?_
  rfl
theorem q_M_readsStatement_r55 {h : zH} {y : Int} (KM : KM h) : zBack zY 229 52 55 [some (zR (some 177)), none] [] (some (.inl (some (zI y)), h)) =
    if y = 0 then
      zBack zY 229 67 70 [some (zR (some 177)), none] [] (zC 205 [zR (some 177), zI 3] h)
    else
      zBack zY 229 59 62 [some (zR (some 177)), none] [] (zC 234 [zR (some 177)] h) := by
  refine (show zBack zY 229 52 55 [some (zR (some 177)), none] [] (some (.inl (some (zI y)), h)) = if y = 0 then zY 229 65 [some (zR (some 177)), none] [] h else zY 229 58 [some (zR (some 177)), none] [] h from zGo 1 229 55 _ _ _).trans ?_
  refine iteC (fun c0 => ?_) (fun c0 => ?_)
  · skip
    refine (show zY 229 65 [some (zR (some 177)), none] [] h = gd (inR (3)) (gd (false = zctor 205 ∧ zcs [] ≤ 8 ∧ zrm 229 (zrf 205 + 1) (8 + (zmaxl 205 + 11) + zrl 205) = true ∧ zcs [zR (some 177), zI 3] ≤ zmaxl 205) (gd (zob h (some 177) 12) (zBack zY 229 67 70 [some (zR (some 177)), none] [] (zC 205 [zR (some 177), zI 3] h)))) from zGo 3 229 65 _ _ _).trans ?_
    refine (gd_t (by decide) _).trans ?_
    refine (gd_t (⟨rfl, Nat.le_of_ble_eq_true rfl, rfl, Nat.le_of_ble_eq_true rfl⟩) _).trans ?_
    refine (gd_t (⟨rfl, (PTM KM 177 _ rfl rfl), (PNM KM 177 rfl)⟩) _).trans ?_
    rfl
  · skip
    refine (show zY 229 58 [some (zR (some 177)), none] [] h = gd (false = zctor 234 ∧ zcs [] ≤ 8 ∧ zrm 229 (zrf 234 + 1) (8 + (zmaxl 234 + 11) + zrl 234) = true ∧ zcs [zR (some 177)] ≤ zmaxl 234) (gd (zob h (some 177) 12) (zBack zY 229 59 62 [some (zR (some 177)), none] [] (zC 234 [zR (some 177)] h))) from zGo 2 229 58 _ _ _).trans ?_
    refine (gd_t (⟨rfl, Nat.le_of_ble_eq_true rfl, rfl, Nat.le_of_ble_eq_true rfl⟩) _).trans ?_
    refine (gd_t (⟨rfl, (PTM KM 177 _ rfl rfl), (PNM KM 177 rfl)⟩) _).trans ?_
    rfl
theorem q_M_readsStatement_r62 {h : zH} (KM : KM h) : zBack zY 229 59 62 [some (zR (some 177)), none] [] (some (.inl (none), h)) =
    some (.inl (none), h) := by
  refine (show zBack zY 229 59 62 [some (zR (some 177)), none] [] (some (.inl (none), h)) = gd (([] : List zV).isEmpty = true ∧ zrk 229 = 0) (some (.inl (none), h)) from zGo 2 229 62 _ _ _).trans ?_
  refine (gd_t (⟨rfl, rfl⟩) _).trans ?_
  rfl
theorem q_M_readsStatement_r70 {h : zH} {y : Int} (KM : KM h) : zBack zY 229 67 70 [some (zR (some 177)), none] [] (some (.inl (some (zI y)), h)) =
    zBack zY 229 72 75 [some (zR (some 177)), some (zI y)] [] (zC 218 [zR (some 177)] h) := by
  refine (show zBack zY 229 67 70 [some (zR (some 177)), none] [] (some (.inl (some (zI y)), h)) = gd (false = zctor 218 ∧ zcs [] ≤ 8 ∧ zrm 229 (zrf 218 + 1) (8 + (zmaxl 218 + 11) + zrl 218) = true ∧ zcs [zR (some 177)] ≤ zmaxl 218) (gd (zob h (some 177) 12) (zBack zY 229 72 75 [some (zR (some 177)), some (zI y)] [] (zC 218 [zR (some 177)] h))) from zGo 3 229 70 _ _ _).trans ?_
  refine (gd_t (⟨rfl, Nat.le_of_ble_eq_true rfl, rfl, Nat.le_of_ble_eq_true rfl⟩) _).trans ?_
  refine (gd_t (⟨rfl, (PTM KM 177 _ rfl rfl), (PNM KM 177 rfl)⟩) _).trans ?_
  rfl
theorem q_M_readsStatement_r75 {h : zH} {x1 : Int} (KM : KM h) : zBack zY 229 72 75 [some (zR (some 177)), some (zI x1)] [] (some (.inl (none), h)) =
    some (.inl (none), h) := by
  refine (show zBack zY 229 72 75 [some (zR (some 177)), some (zI x1)] [] (some (.inl (none), h)) = gd (([] : List zV).isEmpty = true ∧ zrk 229 = 0) (some (.inl (none), h)) from zGo 1 229 75 _ _ _).trans ?_
  refine (gd_t (⟨rfl, rfl⟩) _).trans ?_
  rfl
theorem q_M_closes {h : zH} (KM : KM h) (g0 : (¬ ((hI h 177 44) = (-1))) → (0 ≤ (hI h 177 44) ∧ (hI h 177 44) < 24) := by omega) : zC 235 [zR (some 177)] h =
    if (hI h 177 44) = (-1) then
      some (.inl (some (zI 0)), h)
    else
      if (f_M_s h (hI h 177 44) 0) = 1 then
        if (hI h 177 45) = 0 then
          zBack zY 235 43 46 [some (zR (some 177)), some (zI 1)] [] (zC 222 [zR (some 177), zI 16] h)
        else
          zBack zY 235 72 75 [some (zR (some 177)), some (zI 0)] [] (zC 222 [zR (some 177), zI 17] h)
      else
        zBack zY 235 72 75 [some (zR (some 177)), some (zI 0)] [] (zC 222 [zR (some 177), zI 17] h) := by
  refine (show zC 235 [zR (some 177)] h = gd (zob h (some 177) 12) (gd (inR (-1)) (if (hI h 177 44) = (-1) then zY 235 8 [some (zR (some 177)), none] [] h else zY 235 10 [some (zR (some 177)), none] [] h)) from zGo 4 235 0 _ _ _).trans ?_
  refine (gd_t (⟨rfl, (PTM KM 177 _ rfl rfl), (PNM KM 177 rfl)⟩) _).trans ?_
  refine (gd_t (by decide) _).trans ?_
  refine iteC (fun c0 => ?_) (fun c0 => ?_)
  · skip
    refine (show zY 235 8 [some (zR (some 177)), none] [] h = gd (inR (0)) (gd (([] : List zV).isEmpty = true ∧ (zrk 235 = 1 ∨ zrk 235 = 6 ∧ ((0 : Int) = 0 ∨ (0 : Int) = 1))) (some (.inl (some (zI 0)), h))) from zGo 2 235 8 _ _ _).trans ?_
    refine (gd_t (by decide) _).trans ?_
    refine (gd_t (⟨rfl, Or.inr ⟨rfl, by decide⟩⟩) _).trans ?_
    rfl
  · skip
    refine (show zY 235 10 [some (zR (some 177)), none] [] h = gd (zob h (some 177) 12) (gd (inR (0)) (gd (false = zctor 207 ∧ zcs [] ≤ 8 ∧ zrm 235 (zrf 207 + 1) (8 + (zmaxl 207 + 11) + zrl 207) = true ∧ zcs [zR (some 177), zI (hI h 177 44), zI 0] ≤ zmaxl 207) (gd (zob h (some 177) 12) (zBack zY 235 16 19 [some (zR (some 177)), none] [] (zC 207 [zR (some 177), zI (hI h 177 44), zI 0] h))))) from zGo 5 235 10 _ _ _).trans ?_
    refine (gd_t (⟨rfl, (PTM KM 177 _ rfl rfl), (PNM KM 177 rfl)⟩) _).trans ?_
    refine (gd_t (by decide) _).trans ?_
    refine (gd_t (⟨rfl, Nat.le_of_ble_eq_true rfl, rfl, Nat.le_of_ble_eq_true rfl⟩) _).trans ?_
    refine (gd_t (⟨rfl, (PTM KM 177 _ rfl rfl), (PNM KM 177 rfl)⟩) _).trans ?_
    refine (congrArg (zBack zY 235 16 19 [some (zR (some 177)), none] []) (e_M_sx KM (g0 c0) (by omega))).trans ?_
    refine (show zY 235 19 [some (zR (some 177)), none] [zI (f_M_s h (hI h 177 44) 0)] h = gd (inR (1)) (if (f_M_s h (hI h 177 44) 0) = 1 then zY 235 23 [some (zR (some 177)), none] [] h else zY 235 34 [some (zR (some 177)), none] [] h) from zGo 2 235 19 _ _ _).trans ?_
    refine (gd_t (by decide) _).trans ?_
    refine iteC (fun c1 => ?_) (fun c1 => ?_)
    · skip
      refine (show zY 235 23 [some (zR (some 177)), none] [] h = gd (zob h (some 177) 12) (if (hI h 177 45) = 0 then zY 235 30 [some (zR (some 177)), none] [] h else zY 235 34 [some (zR (some 177)), none] [] h) from zGo 3 235 23 _ _ _).trans ?_
      refine (gd_t (⟨rfl, (PTM KM 177 _ rfl rfl), (PNM KM 177 rfl)⟩) _).trans ?_
      refine iteC (fun c2 => ?_) (fun c2 => ?_)
      · skip
        refine (show zY 235 30 [some (zR (some 177)), none] [] h = gd (inR (1)) (if 1 = 0 then zY 235 65 [some (zR (some 177)), some (zI 1)] [] h else zY 235 40 [some (zR (some 177)), some (zI 1)] [] h) from zGo 5 235 30 _ _ _).trans ?_
        refine (gd_t (by decide) _).trans ?_
        refine (if_neg (by decide)).trans ?_
        refine (show zY 235 40 [some (zR (some 177)), some (zI 1)] [] h = gd (-128 ≤ (16 : Int) ∧ (16 : Int) < 128) (gd (false = zctor 222 ∧ zcs [] ≤ 8 ∧ zrm 235 (zrf 222 + 1) (8 + (zmaxl 222 + 11) + zrl 222) = true ∧ zcs [zR (some 177), zI 16] ≤ zmaxl 222) (gd (zob h (some 177) 12) (zBack zY 235 43 46 [some (zR (some 177)), some (zI 1)] [] (zC 222 [zR (some 177), zI 16] h)))) from zGo 3 235 40 _ _ _).trans ?_
        refine (gd_t (by decide) _).trans ?_
        refine (gd_t (⟨rfl, Nat.le_of_ble_eq_true rfl, rfl, Nat.le_of_ble_eq_true rfl⟩) _).trans ?_
        refine (gd_t (⟨rfl, (PTM KM 177 _ rfl rfl), (PNM KM 177 rfl)⟩) _).trans ?_
        rfl
      · skip
        refine (show zY 235 34 [some (zR (some 177)), none] [] h = gd (inR (0)) (if 0 = 0 then zY 235 65 [some (zR (some 177)), some (zI 0)] [] h else zY 235 40 [some (zR (some 177)), some (zI 0)] [] h) from zGo 4 235 34 _ _ _).trans ?_
        refine (gd_t (by decide) _).trans ?_
        refine (if_pos (by decide)).trans ?_
        refine (show zY 235 65 [some (zR (some 177)), some (zI 0)] [] h = if 0 = 0 then zY 235 69 [some (zR (some 177)), some (zI 0)] [] h else zY 235 133 [some (zR (some 177)), some (zI 0)] [] h from zGo 2 235 65 _ _ _).trans ?_
        refine (if_pos (by decide)).trans ?_
        refine (show zY 235 69 [some (zR (some 177)), some (zI 0)] [] h = gd (-128 ≤ (17 : Int) ∧ (17 : Int) < 128) (gd (false = zctor 222 ∧ zcs [] ≤ 8 ∧ zrm 235 (zrf 222 + 1) (8 + (zmaxl 222 + 11) + zrl 222) = true ∧ zcs [zR (some 177), zI 17] ≤ zmaxl 222) (gd (zob h (some 177) 12) (zBack zY 235 72 75 [some (zR (some 177)), some (zI 0)] [] (zC 222 [zR (some 177), zI 17] h)))) from zGo 3 235 69 _ _ _).trans ?_
        refine (gd_t (by decide) _).trans ?_
        refine (gd_t (⟨rfl, Nat.le_of_ble_eq_true rfl, rfl, Nat.le_of_ble_eq_true rfl⟩) _).trans ?_
        refine (gd_t (⟨rfl, (PTM KM 177 _ rfl rfl), (PNM KM 177 rfl)⟩) _).trans ?_
        rfl
    · skip
      refine (show zY 235 34 [some (zR (some 177)), none] [] h = gd (inR (0)) (if 0 = 0 then zY 235 65 [some (zR (some 177)), some (zI 0)] [] h else zY 235 40 [some (zR (some 177)), some (zI 0)] [] h) from zGo 4 235 34 _ _ _).trans ?_
      refine (gd_t (by decide) _).trans ?_
      refine (if_pos (by decide)).trans ?_
      refine (show zY 235 65 [some (zR (some 177)), some (zI 0)] [] h = if 0 = 0 then zY 235 69 [some (zR (some 177)), some (zI 0)] [] h else zY 235 133 [some (zR (some 177)), some (zI 0)] [] h from zGo 2 235 65 _ _ _).trans ?_
      refine (if_pos (by decide)).trans ?_
      refine (show zY 235 69 [some (zR (some 177)), some (zI 0)] [] h = gd (-128 ≤ (17 : Int) ∧ (17 : Int) < 128) (gd (false = zctor 222 ∧ zcs [] ≤ 8 ∧ zrm 235 (zrf 222 + 1) (8 + (zmaxl 222 + 11) + zrl 222) = true ∧ zcs [zR (some 177), zI 17] ≤ zmaxl 222) (gd (zob h (some 177) 12) (zBack zY 235 72 75 [some (zR (some 177)), some (zI 0)] [] (zC 222 [zR (some 177), zI 17] h)))) from zGo 3 235 69 _ _ _).trans ?_
      refine (gd_t (by decide) _).trans ?_
      refine (gd_t (⟨rfl, Nat.le_of_ble_eq_true rfl, rfl, Nat.le_of_ble_eq_true rfl⟩) _).trans ?_
      refine (gd_t (⟨rfl, (PTM KM 177 _ rfl rfl), (PNM KM 177 rfl)⟩) _).trans ?_
      rfl
theorem q_M_closes_r46 {h : zH} {x1 : Int} {y : Int} (KM : KM h) : zBack zY 235 43 46 [some (zR (some 177)), some (zI x1)] [] (some (.inl (some (zI y)), h)) =
    if y = 0 then
      if x1 = 0 then
        zBack zY 235 72 75 [some (zR (some 177)), some (zI x1)] [] (zC 222 [zR (some 177), zI 17] h)
      else
        some (.inl (some (zI 0)), h)
    else
      zBack zY 235 60 63 [some (zR (some 177)), some (zI x1)] [] (zC 218 [zR (some 177)] (sI (sI h 177 45 1) 177 46 (-1))) := by
  refine (show zBack zY 235 43 46 [some (zR (some 177)), some (zI x1)] [] (some (.inl (some (zI y)), h)) = if y = 0 then zY 235 65 [some (zR (some 177)), some (zI x1)] [] h else zY 235 49 [some (zR (some 177)), some (zI x1)] [] h from zGo 1 235 46 _ _ _).trans ?_
  refine iteC (fun c0 => ?_) (fun c0 => ?_)
  · skip
    refine (show zY 235 65 [some (zR (some 177)), some (zI x1)] [] h = if x1 = 0 then zY 235 69 [some (zR (some 177)), some (zI x1)] [] h else zY 235 133 [some (zR (some 177)), some (zI x1)] [] h from zGo 2 235 65 _ _ _).trans ?_
    refine iteC (fun c1 => ?_) (fun c1 => ?_)
    · skip
      refine (show zY 235 69 [some (zR (some 177)), some (zI x1)] [] h = gd (-128 ≤ (17 : Int) ∧ (17 : Int) < 128) (gd (false = zctor 222 ∧ zcs [] ≤ 8 ∧ zrm 235 (zrf 222 + 1) (8 + (zmaxl 222 + 11) + zrl 222) = true ∧ zcs [zR (some 177), zI 17] ≤ zmaxl 222) (gd (zob h (some 177) 12) (zBack zY 235 72 75 [some (zR (some 177)), some (zI x1)] [] (zC 222 [zR (some 177), zI 17] h)))) from zGo 3 235 69 _ _ _).trans ?_
      refine (gd_t (by decide) _).trans ?_
      refine (gd_t (⟨rfl, Nat.le_of_ble_eq_true rfl, rfl, Nat.le_of_ble_eq_true rfl⟩) _).trans ?_
      refine (gd_t (⟨rfl, (PTM KM 177 _ rfl rfl), (PNM KM 177 rfl)⟩) _).trans ?_
      rfl
    · skip
      refine (show zY 235 133 [some (zR (some 177)), some (zI x1)] [] h = gd (inR (0)) (gd (([] : List zV).isEmpty = true ∧ (zrk 235 = 1 ∨ zrk 235 = 6 ∧ ((0 : Int) = 0 ∨ (0 : Int) = 1))) (some (.inl (some (zI 0)), h))) from zGo 2 235 133 _ _ _).trans ?_
      refine (gd_t (by decide) _).trans ?_
      refine (gd_t (⟨rfl, Or.inr ⟨rfl, by decide⟩⟩) _).trans ?_
      rfl
  · skip
    refine (show zY 235 49 [some (zR (some 177)), some (zI x1)] [] h = gd (inR (1)) (gd (zob h (some 177) 12) (gd ((1 : Int) = 0 ∨ (1 : Int) = 1) (gd (inR (-1)) (gd (zob (sI h 177 45 1) (some 177) 12) (gd (false = zctor 218 ∧ zcs [] ≤ 8 ∧ zrm 235 (zrf 218 + 1) (8 + (zmaxl 218 + 11) + zrl 218) = true ∧ zcs [zR (some 177)] ≤ zmaxl 218) (gd (zob (sI (sI h 177 45 1) 177 46 (-1)) (some 177) 12) (zBack zY 235 60 63 [some (zR (some 177)), some (zI x1)] [] (zC 218 [zR (some 177)] (sI (sI h 177 45 1) 177 46 (-1)))))))))) from zGo 8 235 49 _ _ _).trans ?_
    refine (gd_t (by decide) _).trans ?_
    refine (gd_t (⟨rfl, (PTM KM 177 _ rfl rfl), (PNM KM 177 rfl)⟩) _).trans ?_
    refine (gd_t (by decide) _).trans ?_
    refine (gd_t (by decide) _).trans ?_
    refine (gd_t (⟨rfl, (PTM KM 177 _ rfl rfl), (PNM KM 177 rfl)⟩) _).trans ?_
    refine (gd_t (⟨rfl, Nat.le_of_ble_eq_true rfl, rfl, Nat.le_of_ble_eq_true rfl⟩) _).trans ?_
    refine (gd_t (⟨rfl, (PTM KM 177 _ rfl rfl), (PNM KM 177 rfl)⟩) _).trans ?_
    rfl
theorem q_M_closes_r63 {h : zH} {x1 : Int} (KM : KM h) : zBack zY 235 60 63 [some (zR (some 177)), some (zI x1)] [] (some (.inl (none), h)) =
    some (.inl (some (zI 1)), h) := by
  refine (show zBack zY 235 60 63 [some (zR (some 177)), some (zI x1)] [] (some (.inl (none), h)) = gd (inR (1)) (gd (([] : List zV).isEmpty = true ∧ (zrk 235 = 1 ∨ zrk 235 = 6 ∧ ((1 : Int) = 0 ∨ (1 : Int) = 1))) (some (.inl (some (zI 1)), h))) from zGo 2 235 63 _ _ _).trans ?_
  refine (gd_t (by decide) _).trans ?_
  refine (gd_t (⟨rfl, Or.inr ⟨rfl, by decide⟩⟩) _).trans ?_
  rfl
theorem q_M_closes_r75 {h : zH} {x1 : Int} {y : Int} (KM : KM h) : zBack zY 235 72 75 [some (zR (some 177)), some (zI x1)] [] (some (.inl (some (zI y)), h)) =
    if y = 0 then
      some (.inl (some (zI 0)), h)
    else
      zY 235 78 [some (zR (some 177)), some (zI x1)] [] h := by
  refine (show zBack zY 235 72 75 [some (zR (some 177)), some (zI x1)] [] (some (.inl (some (zI y)), h)) = if y = 0 then zY 235 133 [some (zR (some 177)), some (zI x1)] [] h else zY 235 78 [some (zR (some 177)), some (zI x1)] [] h from zGo 1 235 75 _ _ _).trans ?_
  refine iteC (fun c0 => ?_) (fun c0 => ?_)
  · skip
    refine (show zY 235 133 [some (zR (some 177)), some (zI x1)] [] h = gd (inR (0)) (gd (([] : List zV).isEmpty = true ∧ (zrk 235 = 1 ∨ zrk 235 = 6 ∧ ((0 : Int) = 0 ∨ (0 : Int) = 1))) (some (.inl (some (zI 0)), h))) from zGo 2 235 133 _ _ _).trans ?_
    refine (gd_t (by decide) _).trans ?_
    refine (gd_t (⟨rfl, Or.inr ⟨rfl, by decide⟩⟩) _).trans ?_
    rfl
  · skip
    rfl
theorem q_M_closes_78 {h : zH} {x1 : Int} (KM : KM h) (g0 : (0 ≤ (hI h 177 44) ∧ (hI h 177 44) < 24) := by omega) : zY 235 78 [some (zR (some 177)), some (zI x1)] [] h =
    zY 235 99 [some (zR (some 177)), some (zI x1)] [] (sI (sI h 177 46 (hI h 177 44)) 177 44 (f_M_s (sI h 177 46 (hI h 177 44)) (hI h 177 44) 3)) := by
  refine (show zY 235 78 [some (zR (some 177)), some (zI x1)] [] h = gd (zob h (some 177) 12) (gd (zob h (some 177) 12) (gd (zob (sI h 177 46 (hI h 177 44)) (some 177) 12) (gd (inR (3)) (gd (false = zctor 207 ∧ zcs [zR (some 177)] ≤ 8 ∧ zrm 235 (zrf 207 + 1) (8 + (zmaxl 207 + 11) + zrl 207) = true ∧ zcs [zR (some 177), zI (hI h 177 44), zI 3] ≤ zmaxl 207) (gd (zob (sI h 177 46 (hI h 177 44)) (some 177) 12) (zBack zY 235 93 96 [some (zR (some 177)), some (zI x1)] [zR (some 177)] (zC 207 [zR (some 177), zI (hI h 177 44), zI 3] (sI h 177 46 (hI h 177 44))))))))) from zGo 10 235 78 _ _ _).trans ?_
  refine (gd_t (⟨rfl, (PTM KM 177 _ rfl rfl), (PNM KM 177 rfl)⟩) _).trans ?_
  refine (gd_t (⟨rfl, (PTM KM 177 _ rfl rfl), (PNM KM 177 rfl)⟩) _).trans ?_
  refine (gd_t (⟨rfl, (PTM KM 177 _ rfl rfl), (PNM KM 177 rfl)⟩) _).trans ?_
  refine (gd_t (by decide) _).trans ?_
  refine (gd_t (⟨rfl, Nat.le_of_ble_eq_true rfl, rfl, Nat.le_of_ble_eq_true rfl⟩) _).trans ?_
  refine (gd_t (⟨rfl, (PTM KM 177 _ rfl rfl), (PNM KM 177 rfl)⟩) _).trans ?_
  refine (congrArg (zBack zY 235 93 96 [some (zR (some 177)), some (zI x1)] [zR (some 177)]) (e_M_sx (h := (sI h 177 46 (hI h 177 44))) KM (g0) (by omega))).trans ?_
  refine (show zY 235 96 [some (zR (some 177)), some (zI x1)] [zI (f_M_s (sI h 177 46 (hI h 177 44)) (hI h 177 44) 3), zR (some 177)] (sI h 177 46 (hI h 177 44)) = gd (zob (sI h 177 46 (hI h 177 44)) (some 177) 12) (zY 235 99 [some (zR (some 177)), some (zI x1)] [] (sI (sI h 177 46 (hI h 177 44)) 177 44 (f_M_s (sI h 177 46 (hI h 177 44)) (hI h 177 44) 3))) from zGo 1 235 96 _ _ _).trans ?_
  refine (gd_t (⟨rfl, (PTM KM 177 _ rfl rfl), (PNM KM 177 rfl)⟩) _).trans ?_
  rfl
theorem q_M_closes_99 {h : zH} {x1 : Int} (KM : KM h) : zY 235 99 [some (zR (some 177)), some (zI x1)] [] h =
    if (hI h 177 44) = (-1) then
      zBack zY 235 128 131 [some (zR (some 177)), some (zI x1)] [] (zC 218 [zR (some 177)] (sI h 177 45 0))
    else
      zBack zY 235 113 116 [some (zR (some 177)), some (zI x1)] [zR (some 177)] (zC 236 [zR (some 177), zI (hI h 177 46)] h) := by
  refine (show zY 235 99 [some (zR (some 177)), some (zI x1)] [] h = gd (zob h (some 177) 12) (gd (inR (-1)) (if (hI h 177 44) = (-1) then zY 235 123 [some (zR (some 177)), some (zI x1)] [zR (some 177)] h else zY 235 108 [some (zR (some 177)), some (zI x1)] [zR (some 177)] h)) from zGo 5 235 99 _ _ _).trans ?_
  refine (gd_t (⟨rfl, (PTM KM 177 _ rfl rfl), (PNM KM 177 rfl)⟩) _).trans ?_
  refine (gd_t (by decide) _).trans ?_
  refine iteC (fun c0 => ?_) (fun c0 => ?_)
  · skip
    refine (show zY 235 123 [some (zR (some 177)), some (zI x1)] [zR (some 177)] h = gd (inR (0)) (gd (zob h (some 177) 12) (gd ((0 : Int) = 0 ∨ (0 : Int) = 1) (gd (false = zctor 218 ∧ zcs [] ≤ 8 ∧ zrm 235 (zrf 218 + 1) (8 + (zmaxl 218 + 11) + zrl 218) = true ∧ zcs [zR (some 177)] ≤ zmaxl 218) (gd (zob (sI h 177 45 0) (some 177) 12) (zBack zY 235 128 131 [some (zR (some 177)), some (zI x1)] [] (zC 218 [zR (some 177)] (sI h 177 45 0))))))) from zGo 4 235 123 _ _ _).trans ?_
    refine (gd_t (by decide) _).trans ?_
    refine (gd_t (⟨rfl, (PTM KM 177 _ rfl rfl), (PNM KM 177 rfl)⟩) _).trans ?_
    refine (gd_t (by decide) _).trans ?_
    refine (gd_t (⟨rfl, Nat.le_of_ble_eq_true rfl, rfl, Nat.le_of_ble_eq_true rfl⟩) _).trans ?_
    refine (gd_t (⟨rfl, (PTM KM 177 _ rfl rfl), (PNM KM 177 rfl)⟩) _).trans ?_
    rfl
  · skip
    refine (show zY 235 108 [some (zR (some 177)), some (zI x1)] [zR (some 177)] h = gd (zob h (some 177) 12) (gd (false = zctor 236 ∧ zcs [zR (some 177)] ≤ 8 ∧ zrm 235 (zrf 236 + 1) (8 + (zmaxl 236 + 11) + zrl 236) = true ∧ zcs [zR (some 177), zI (hI h 177 46)] ≤ zmaxl 236) (gd (zob h (some 177) 12) (zBack zY 235 113 116 [some (zR (some 177)), some (zI x1)] [zR (some 177)] (zC 236 [zR (some 177), zI (hI h 177 46)] h)))) from zGo 4 235 108 _ _ _).trans ?_
    refine (gd_t (⟨rfl, (PTM KM 177 _ rfl rfl), (PNM KM 177 rfl)⟩) _).trans ?_
    refine (gd_t (⟨rfl, Nat.le_of_ble_eq_true rfl, rfl, Nat.le_of_ble_eq_true rfl⟩) _).trans ?_
    refine (gd_t (⟨rfl, (PTM KM 177 _ rfl rfl), (PNM KM 177 rfl)⟩) _).trans ?_
    rfl
theorem q_M_closes_r116 {h : zH} {x1 : Int} {y : Int} (KM : KM h) : zBack zY 235 113 116 [some (zR (some 177)), some (zI x1)] [zR (some 177)] (some (.inl (some (zI y)), h)) =
    if y = 0 then
      zBack zY 235 128 131 [some (zR (some 177)), some (zI x1)] [] (zC 218 [zR (some 177)] (sI h 177 45 0))
    else
      zBack zY 235 128 131 [some (zR (some 177)), some (zI x1)] [] (zC 218 [zR (some 177)] (sI h 177 45 1)) := by
  refine (show zBack zY 235 113 116 [some (zR (some 177)), some (zI x1)] [zR (some 177)] (some (.inl (some (zI y)), h)) = if y = 0 then zY 235 123 [some (zR (some 177)), some (zI x1)] [zR (some 177)] h else zY 235 119 [some (zR (some 177)), some (zI x1)] [zR (some 177)] h from zGo 1 235 116 _ _ _).trans ?_
  refine iteC (fun c0 => ?_) (fun c0 => ?_)
  · skip
    refine (show zY 235 123 [some (zR (some 177)), some (zI x1)] [zR (some 177)] h = gd (inR (0)) (gd (zob h (some 177) 12) (gd ((0 : Int) = 0 ∨ (0 : Int) = 1) (gd (false = zctor 218 ∧ zcs [] ≤ 8 ∧ zrm 235 (zrf 218 + 1) (8 + (zmaxl 218 + 11) + zrl 218) = true ∧ zcs [zR (some 177)] ≤ zmaxl 218) (gd (zob (sI h 177 45 0) (some 177) 12) (zBack zY 235 128 131 [some (zR (some 177)), some (zI x1)] [] (zC 218 [zR (some 177)] (sI h 177 45 0))))))) from zGo 4 235 123 _ _ _).trans ?_
    refine (gd_t (by decide) _).trans ?_
    refine (gd_t (⟨rfl, (PTM KM 177 _ rfl rfl), (PNM KM 177 rfl)⟩) _).trans ?_
    refine (gd_t (by decide) _).trans ?_
    refine (gd_t (⟨rfl, Nat.le_of_ble_eq_true rfl, rfl, Nat.le_of_ble_eq_true rfl⟩) _).trans ?_
    refine (gd_t (⟨rfl, (PTM KM 177 _ rfl rfl), (PNM KM 177 rfl)⟩) _).trans ?_
    rfl
  · skip
    refine (show zY 235 119 [some (zR (some 177)), some (zI x1)] [zR (some 177)] h = gd (inR (1)) (gd (zob h (some 177) 12) (gd ((1 : Int) = 0 ∨ (1 : Int) = 1) (gd (false = zctor 218 ∧ zcs [] ≤ 8 ∧ zrm 235 (zrf 218 + 1) (8 + (zmaxl 218 + 11) + zrl 218) = true ∧ zcs [zR (some 177)] ≤ zmaxl 218) (gd (zob (sI h 177 45 1) (some 177) 12) (zBack zY 235 128 131 [some (zR (some 177)), some (zI x1)] [] (zC 218 [zR (some 177)] (sI h 177 45 1))))))) from zGo 5 235 119 _ _ _).trans ?_
    refine (gd_t (by decide) _).trans ?_
    refine (gd_t (⟨rfl, (PTM KM 177 _ rfl rfl), (PNM KM 177 rfl)⟩) _).trans ?_
    refine (gd_t (by decide) _).trans ?_
    refine (gd_t (⟨rfl, Nat.le_of_ble_eq_true rfl, rfl, Nat.le_of_ble_eq_true rfl⟩) _).trans ?_
    refine (gd_t (⟨rfl, (PTM KM 177 _ rfl rfl), (PNM KM 177 rfl)⟩) _).trans ?_
    rfl
theorem q_M_closes_r131 {h : zH} {x1 : Int} (KM : KM h) : zBack zY 235 128 131 [some (zR (some 177)), some (zI x1)] [] (some (.inl (none), h)) =
    some (.inl (some (zI 1)), h) := by
  refine (show zBack zY 235 128 131 [some (zR (some 177)), some (zI x1)] [] (some (.inl (none), h)) = gd (inR (1)) (gd (([] : List zV).isEmpty = true ∧ (zrk 235 = 1 ∨ zrk 235 = 6 ∧ ((1 : Int) = 0 ∨ (1 : Int) = 1))) (some (.inl (some (zI 1)), h))) from zGo 2 235 131 _ _ _).trans ?_
  refine (gd_t (by decide) _).trans ?_
  refine (gd_t (⟨rfl, Or.inr ⟨rfl, by decide⟩⟩) _).trans ?_
  rfl
theorem q_M_begins {h : zH} {x1 : Int} (KM : KM h) : zC 217 [zR (some 177), zI x1] h =
    zBack zY 217 21 24 [some (zR (some 177)), some (zI x1)] [] (zC 218 [zR (some 177)] (sI (sI (sI (sI h 177 36 x1) 177 41 0) 177 37 0) 177 39 0)) := by
  refine (show zC 217 [zR (some 177), zI x1] h = gd (zob h (some 177) 12) (gd (inR (0)) (gd (zob (sI h 177 36 x1) (some 177) 12) (gd (inR (0)) (gd (zob (sI (sI h 177 36 x1) 177 41 0) (some 177) 12) (gd (inR (0)) (gd (zob (sI (sI (sI h 177 36 x1) 177 41 0) 177 37 0) (some 177) 12) (gd (false = zctor 218 ∧ zcs [] ≤ 8 ∧ zrm 217 (zrf 218 + 1) (8 + (zmaxl 218 + 11) + zrl 218) = true ∧ zcs [zR (some 177)] ≤ zmaxl 218) (gd (zob (sI (sI (sI (sI h 177 36 x1) 177 41 0) 177 37 0) 177 39 0) (some 177) 12) (zBack zY 217 21 24 [some (zR (some 177)), some (zI x1)] [] (zC 218 [zR (some 177)] (sI (sI (sI (sI h 177 36 x1) 177 41 0) 177 37 0) 177 39 0))))))))))) from zGo 14 217 0 _ _ _).trans ?_
  refine (gd_t (⟨rfl, (PTM KM 177 _ rfl rfl), (PNM KM 177 rfl)⟩) _).trans ?_
  refine (gd_t (by decide) _).trans ?_
  refine (gd_t (⟨rfl, (PTM KM 177 _ rfl rfl), (PNM KM 177 rfl)⟩) _).trans ?_
  refine (gd_t (by decide) _).trans ?_
  refine (gd_t (⟨rfl, (PTM KM 177 _ rfl rfl), (PNM KM 177 rfl)⟩) _).trans ?_
  refine (gd_t (by decide) _).trans ?_
  refine (gd_t (⟨rfl, (PTM KM 177 _ rfl rfl), (PNM KM 177 rfl)⟩) _).trans ?_
  refine (gd_t (⟨rfl, Nat.le_of_ble_eq_true rfl, rfl, Nat.le_of_ble_eq_true rfl⟩) _).trans ?_
  refine (gd_t (⟨rfl, (PTM KM 177 _ rfl rfl), (PNM KM 177 rfl)⟩) _).trans ?_
  rfl
theorem q_M_begins_r24 {h : zH} {x1 : Int} (KM : KM h) : zBack zY 217 21 24 [some (zR (some 177)), some (zI x1)] [] (some (.inl (none), h)) =
    some (.inl (none), h) := by
  refine (show zBack zY 217 21 24 [some (zR (some 177)), some (zI x1)] [] (some (.inl (none), h)) = gd (([] : List zV).isEmpty = true ∧ zrk 217 = 0) (some (.inl (none), h)) from zGo 1 217 24 _ _ _).trans ?_
  refine (gd_t (⟨rfl, rfl⟩) _).trans ?_
  rfl
theorem q_M_readsText {h : zH} {x1 : Int} (KM : KM h) : zC 216 [zR (some 177), zI x1] h =
    zY 216 2 [some (zR (some 177)), some (zI x1), some (zI 0)] [] h := by
  refine (show zC 216 [zR (some 177), zI x1] h = gd (inR (0)) (zY 216 2 [some (zR (some 177)), some (zI x1), some (zI 0)] [] h) from zGo 2 216 0 _ _ _).trans ?_
  refine (gd_t (by decide) _).trans ?_
  rfl
theorem q_M_readsText_2 {h : zH} {x1 : Int} {x2 : Int} (KM : KM h) : zY 216 2 [some (zR (some 177)), some (zI x1), some (zI x2)] [] h =
    if x2 < 2342 then
      gd (0 ≤ x2 ∧ x2 < 2342) (
      gd (-2147483648 ≤ x2 + 1 ∧ x2 + 1 < 2147483648) (
      zY 216 2 [some (zR (some 177)), some (zI x1), some (zI (x2 + 1))] [] (sI h 179 x2.toNat 0)))
    else
      zBack zY 216 49 52 [some (zR (some 177)), some (zI x1), some (zI x2)] [] (zC 217 [zR (some 177), zI x1] (sI (sI (sI (sI (sI h 177 10 0) 177 12 (-1)) 177 44 (-1)) 177 45 0) 177 46 (-1))) := by
  refine (show zY 216 2 [some (zR (some 177)), some (zI x1), some (zI x2)] [] h = gd (-32768 ≤ (2342 : Int) ∧ (2342 : Int) < 32768) (if x2 < 2342 then zY 216 9 [some (zR (some 177)), some (zI x1), some (zI x2)] [] h else zY 216 22 [some (zR (some 177)), some (zI x1), some (zI x2)] [] h) from zGo 3 216 2 _ _ _).trans ?_
  refine (gd_t (by decide) _).trans ?_
  refine iteC (fun c0 => ?_) (fun c0 => ?_)
  · skip
    refine (show zY 216 9 [some (zR (some 177)), some (zI x1), some (zI x2)] [] h = gd (zob h (some 177) 12) (zY 216 13 [some (zR (some 177)), some (zI x1), some (zI x2)] [zR (hR h 177 2)] h) from zGo 2 216 9 _ _ _).trans ?_
    refine (gd_t (⟨rfl, (PTM KM 177 _ rfl rfl), (PNM KM 177 rfl)⟩) _).trans ?_
    refine (congrArg (fun r => zY 216 13 [some (zR (some 177)), some (zI x1), some (zI x2)] (zR r :: []) h) (PRM KM 177 2 _ rfl)).trans ?_
    refine (show zY 216 13 [some (zR (some 177)), some (zI x1), some (zI x2)] [zR (some 179)] h = gd (inR (0)) (gd (zokw h (some 179) 22 x2) (gd (inR (x2 + 1)) (gd (inR (1)) (zY 216 2 [some (zR (some 177)), some (zI x1), some (zI (x2 + 1))] [] (sI h 179 x2.toNat 0))))) from zGo 5 216 13 _ _ _).trans ?_
    refine (gd_t (by decide) _).trans ?_
    refine gd_c (ciw (PTM KM 179 _ rfl rfl) (PNM KM 179 rfl) (PLM KM 179 2342 rfl rfl)) (fun c1 => ?_)
    refine gd_c Iff.rfl (fun c2 => ?_)
    refine (gd_t (by decide) _).trans ?_
    rfl
  · skip
    refine (show zY 216 22 [some (zR (some 177)), some (zI x1), some (zI x2)] [] h = gd (inR (0)) (gd (zob h (some 177) 12) (gd (inR (-1)) (gd (zob (sI h 177 10 0) (some 177) 12) (gd (inR (-1)) (gd (zob (sI (sI h 177 10 0) 177 12 (-1)) (some 177) 12) (gd (inR (0)) (gd (zob (sI (sI (sI h 177 10 0) 177 12 (-1)) 177 44 (-1)) (some 177) 12) (gd ((0 : Int) = 0 ∨ (0 : Int) = 1) (gd (inR (-1)) (gd (zob (sI (sI (sI (sI h 177 10 0) 177 12 (-1)) 177 44 (-1)) 177 45 0) (some 177) 12) (gd (false = zctor 217 ∧ zcs [] ≤ 8 ∧ zrm 216 (zrf 217 + 1) (8 + (zmaxl 217 + 11) + zrl 217) = true ∧ zcs [zR (some 177), zI x1] ≤ zmaxl 217) (gd (zob (sI (sI (sI (sI (sI h 177 10 0) 177 12 (-1)) 177 44 (-1)) 177 45 0) 177 46 (-1)) (some 177) 12) (zBack zY 216 49 52 [some (zR (some 177)), some (zI x1), some (zI x2)] [] (zC 217 [zR (some 177), zI x1] (sI (sI (sI (sI (sI h 177 10 0) 177 12 (-1)) 177 44 (-1)) 177 45 0) 177 46 (-1)))))))))))))))) from zGo 18 216 22 _ _ _).trans ?_
    refine (gd_t (by decide) _).trans ?_
    refine (gd_t (⟨rfl, (PTM KM 177 _ rfl rfl), (PNM KM 177 rfl)⟩) _).trans ?_
    refine (gd_t (by decide) _).trans ?_
    refine (gd_t (⟨rfl, (PTM KM 177 _ rfl rfl), (PNM KM 177 rfl)⟩) _).trans ?_
    refine (gd_t (by decide) _).trans ?_
    refine (gd_t (⟨rfl, (PTM KM 177 _ rfl rfl), (PNM KM 177 rfl)⟩) _).trans ?_
    refine (gd_t (by decide) _).trans ?_
    refine (gd_t (⟨rfl, (PTM KM 177 _ rfl rfl), (PNM KM 177 rfl)⟩) _).trans ?_
    refine (gd_t (by decide) _).trans ?_
    refine (gd_t (by decide) _).trans ?_
    refine (gd_t (⟨rfl, (PTM KM 177 _ rfl rfl), (PNM KM 177 rfl)⟩) _).trans ?_
    refine (gd_t (⟨rfl, Nat.le_of_ble_eq_true rfl, rfl, Nat.le_of_ble_eq_true rfl⟩) _).trans ?_
    refine (gd_t (⟨rfl, (PTM KM 177 _ rfl rfl), (PNM KM 177 rfl)⟩) _).trans ?_
    rfl
theorem q_M_readsText_r52 {h : zH} {x1 : Int} {x2 : Int} (KM : KM h) : zBack zY 216 49 52 [some (zR (some 177)), some (zI x1), some (zI x2)] [] (some (.inl (none), h)) =
    zBack zY 216 55 58 [some (zR (some 177)), some (zI x1), some (zI x2)] [] (zC 221 [zR (some 177), zI 13] h) := by
  refine (show zBack zY 216 49 52 [some (zR (some 177)), some (zI x1), some (zI x2)] [] (some (.inl (none), h)) = gd (-128 ≤ (13 : Int) ∧ (13 : Int) < 128) (gd (false = zctor 221 ∧ zcs [] ≤ 8 ∧ zrm 216 (zrf 221 + 1) (8 + (zmaxl 221 + 11) + zrl 221) = true ∧ zcs [zR (some 177), zI 13] ≤ zmaxl 221) (gd (zob h (some 177) 12) (zBack zY 216 55 58 [some (zR (some 177)), some (zI x1), some (zI x2)] [] (zC 221 [zR (some 177), zI 13] h)))) from zGo 3 216 52 _ _ _).trans ?_
  refine (gd_t (by decide) _).trans ?_
  refine (gd_t (⟨rfl, Nat.le_of_ble_eq_true rfl, rfl, Nat.le_of_ble_eq_true rfl⟩) _).trans ?_
  refine (gd_t (⟨rfl, (PTM KM 177 _ rfl rfl), (PNM KM 177 rfl)⟩) _).trans ?_
  rfl
theorem q_M_readsText_r58 {h : zH} {x1 : Int} {x2 : Int} (KM : KM h) : zBack zY 216 55 58 [some (zR (some 177)), some (zI x1), some (zI x2)] [] (some (.inl (none), h)) =
    zY 216 58 [some (zR (some 177)), some (zI x1), some (zI x2)] [] h := by
  rfl
theorem q_M_readsText_58 {h : zH} {x1 : Int} {x2 : Int} (KM : KM h) : zY 216 58 [some (zR (some 177)), some (zI x1), some (zI x2)] [] h =
    if (hI h 177 41) = 0 then
      zBack zY 216 68 71 [some (zR (some 177)), some (zI x1), some (zI x2)] [] (zC 224 [zR (some 177), zI 0, zI 1] h)
    else
      zY 216 71 [some (zR (some 177)), some (zI x1), some (zI x2)] [] h := by
  refine (show zY 216 58 [some (zR (some 177)), some (zI x1), some (zI x2)] [] h = gd (zob h (some 177) 12) (if (hI h 177 41) = 0 then zY 216 65 [some (zR (some 177)), some (zI x1), some (zI x2)] [] h else zY 216 71 [some (zR (some 177)), some (zI x1), some (zI x2)] [] h) from zGo 3 216 58 _ _ _).trans ?_
  refine (gd_t (⟨rfl, (PTM KM 177 _ rfl rfl), (PNM KM 177 rfl)⟩) _).trans ?_
  refine iteC (fun c0 => ?_) (fun c0 => ?_)
  · skip
    refine (show zY 216 65 [some (zR (some 177)), some (zI x1), some (zI x2)] [] h = gd (inR (0)) (gd (inR (1)) (gd (false = zctor 224 ∧ zcs [] ≤ 8 ∧ zrm 216 (zrf 224 + 1) (8 + (zmaxl 224 + 11) + zrl 224) = true ∧ zcs [zR (some 177), zI 0, zI 1] ≤ zmaxl 224) (gd (zob h (some 177) 12) (zBack zY 216 68 71 [some (zR (some 177)), some (zI x1), some (zI x2)] [] (zC 224 [zR (some 177), zI 0, zI 1] h))))) from zGo 4 216 65 _ _ _).trans ?_
    refine (gd_t (by decide) _).trans ?_
    refine (gd_t (by decide) _).trans ?_
    refine (gd_t (⟨rfl, Nat.le_of_ble_eq_true rfl, rfl, Nat.le_of_ble_eq_true rfl⟩) _).trans ?_
    refine (gd_t (⟨rfl, (PTM KM 177 _ rfl rfl), (PNM KM 177 rfl)⟩) _).trans ?_
    rfl
  · skip
    rfl
theorem q_M_readsText_71 {h : zH} {x1 : Int} {x2 : Int} (KM : KM h) : zY 216 71 [some (zR (some 177)), some (zI x1), some (zI x2)] [] h =
    if (hI h 177 41) = 0 then
      zBack zY 216 81 84 [some (zR (some 177)), some (zI x1), some (zI x2)] [] (zC 224 [zR (some 177), zI 1, zI 1] h)
    else
      zY 216 84 [some (zR (some 177)), some (zI x1), some (zI x2)] [] h := by
  refine (show zY 216 71 [some (zR (some 177)), some (zI x1), some (zI x2)] [] h = gd (zob h (some 177) 12) (if (hI h 177 41) = 0 then zY 216 78 [some (zR (some 177)), some (zI x1), some (zI x2)] [] h else zY 216 84 [some (zR (some 177)), some (zI x1), some (zI x2)] [] h) from zGo 3 216 71 _ _ _).trans ?_
  refine (gd_t (⟨rfl, (PTM KM 177 _ rfl rfl), (PNM KM 177 rfl)⟩) _).trans ?_
  refine iteC (fun c0 => ?_) (fun c0 => ?_)
  · skip
    refine (show zY 216 78 [some (zR (some 177)), some (zI x1), some (zI x2)] [] h = gd (inR (1)) (gd (inR (1)) (gd (false = zctor 224 ∧ zcs [] ≤ 8 ∧ zrm 216 (zrf 224 + 1) (8 + (zmaxl 224 + 11) + zrl 224) = true ∧ zcs [zR (some 177), zI 1, zI 1] ≤ zmaxl 224) (gd (zob h (some 177) 12) (zBack zY 216 81 84 [some (zR (some 177)), some (zI x1), some (zI x2)] [] (zC 224 [zR (some 177), zI 1, zI 1] h))))) from zGo 4 216 78 _ _ _).trans ?_
    refine (gd_t (by decide) _).trans ?_
    refine (gd_t (by decide) _).trans ?_
    refine (gd_t (⟨rfl, Nat.le_of_ble_eq_true rfl, rfl, Nat.le_of_ble_eq_true rfl⟩) _).trans ?_
    refine (gd_t (⟨rfl, (PTM KM 177 _ rfl rfl), (PNM KM 177 rfl)⟩) _).trans ?_
    rfl
  · skip
    rfl
theorem q_M_readsText_r71 {h : zH} {x1 : Int} {x2 : Int} (KM : KM h) : zBack zY 216 68 71 [some (zR (some 177)), some (zI x1), some (zI x2)] [] (some (.inl (none), h)) =
    zY 216 71 [some (zR (some 177)), some (zI x1), some (zI x2)] [] h := by
  rfl
theorem q_M_readsText_84 {h : zH} {x1 : Int} {x2 : Int} (KM : KM h) : zY 216 84 [some (zR (some 177)), some (zI x1), some (zI x2)] [] h =
    if (hI h 177 41) = 0 then
      if (hI h 177 37) = 0 then
        zY 216 127 [some (zR (some 177)), some (zI x1), some (zI x2)] [] h
      else
        zBack zY 216 99 102 [some (zR (some 177)), some (zI x1), some (zI x2)] [] (zC 228 [zR (some 177)] h)
    else
      zY 216 127 [some (zR (some 177)), some (zI x1), some (zI x2)] [] h := by
  refine (show zY 216 84 [some (zR (some 177)), some (zI x1), some (zI x2)] [] h = gd (zob h (some 177) 12) (if (hI h 177 41) = 0 then zY 216 91 [some (zR (some 177)), some (zI x1), some (zI x2)] [] h else zY 216 127 [some (zR (some 177)), some (zI x1), some (zI x2)] [] h) from zGo 3 216 84 _ _ _).trans ?_
  refine (gd_t (⟨rfl, (PTM KM 177 _ rfl rfl), (PNM KM 177 rfl)⟩) _).trans ?_
  refine iteC (fun c0 => ?_) (fun c0 => ?_)
  · skip
    refine (show zY 216 91 [some (zR (some 177)), some (zI x1), some (zI x2)] [] h = gd (zob h (some 177) 12) (if (hI h 177 37) = 0 then zY 216 127 [some (zR (some 177)), some (zI x1), some (zI x2)] [] h else zY 216 98 [some (zR (some 177)), some (zI x1), some (zI x2)] [] h) from zGo 3 216 91 _ _ _).trans ?_
    refine (gd_t (⟨rfl, (PTM KM 177 _ rfl rfl), (PNM KM 177 rfl)⟩) _).trans ?_
    refine iteC (fun c1 => ?_) (fun c1 => ?_)
    · skip
      rfl
    · skip
      refine (show zY 216 98 [some (zR (some 177)), some (zI x1), some (zI x2)] [] h = gd (false = zctor 228 ∧ zcs [] ≤ 8 ∧ zrm 216 (zrf 228 + 1) (8 + (zmaxl 228 + 11) + zrl 228) = true ∧ zcs [zR (some 177)] ≤ zmaxl 228) (gd (zob h (some 177) 12) (zBack zY 216 99 102 [some (zR (some 177)), some (zI x1), some (zI x2)] [] (zC 228 [zR (some 177)] h))) from zGo 2 216 98 _ _ _).trans ?_
      refine (gd_t (⟨rfl, Nat.le_of_ble_eq_true rfl, rfl, Nat.le_of_ble_eq_true rfl⟩) _).trans ?_
      refine (gd_t (⟨rfl, (PTM KM 177 _ rfl rfl), (PNM KM 177 rfl)⟩) _).trans ?_
      rfl
  · skip
    rfl
theorem q_M_readsText_r84 {h : zH} {x1 : Int} {x2 : Int} (KM : KM h) : zBack zY 216 81 84 [some (zR (some 177)), some (zI x1), some (zI x2)] [] (some (.inl (none), h)) =
    zY 216 84 [some (zR (some 177)), some (zI x1), some (zI x2)] [] h := by
  rfl
theorem q_M_readsText_r102 {h : zH} {x1 : Int} {x2 : Int} {y : Int} (KM : KM h) : zBack zY 216 99 102 [some (zR (some 177)), some (zI x1), some (zI x2)] [] (some (.inl (some (zI y)), h)) =
    if y = 0 then
      zY 216 112 [some (zR (some 177)), some (zI x1), some (zI x2)] [] h
    else
      zBack zY 216 106 109 [some (zR (some 177)), some (zI x1), some (zI x2)] [] (zC 229 [zR (some 177)] h) := by
  refine (show zBack zY 216 99 102 [some (zR (some 177)), some (zI x1), some (zI x2)] [] (some (.inl (some (zI y)), h)) = if y = 0 then zY 216 112 [some (zR (some 177)), some (zI x1), some (zI x2)] [] h else zY 216 105 [some (zR (some 177)), some (zI x1), some (zI x2)] [] h from zGo 1 216 102 _ _ _).trans ?_
  refine iteC (fun c0 => ?_) (fun c0 => ?_)
  · skip
    rfl
  · skip
    refine (show zY 216 105 [some (zR (some 177)), some (zI x1), some (zI x2)] [] h = gd (false = zctor 229 ∧ zcs [] ≤ 8 ∧ zrm 216 (zrf 229 + 1) (8 + (zmaxl 229 + 11) + zrl 229) = true ∧ zcs [zR (some 177)] ≤ zmaxl 229) (gd (zob h (some 177) 12) (zBack zY 216 106 109 [some (zR (some 177)), some (zI x1), some (zI x2)] [] (zC 229 [zR (some 177)] h))) from zGo 2 216 105 _ _ _).trans ?_
    refine (gd_t (⟨rfl, Nat.le_of_ble_eq_true rfl, rfl, Nat.le_of_ble_eq_true rfl⟩) _).trans ?_
    refine (gd_t (⟨rfl, (PTM KM 177 _ rfl rfl), (PNM KM 177 rfl)⟩) _).trans ?_
    rfl
theorem q_M_readsText_r109 {h : zH} {x1 : Int} {x2 : Int} (KM : KM h) : zBack zY 216 106 109 [some (zR (some 177)), some (zI x1), some (zI x2)] [] (some (.inl (none), h)) =
    zY 216 84 [some (zR (some 177)), some (zI x1), some (zI x2)] [] h := by
  refine (show zBack zY 216 106 109 [some (zR (some 177)), some (zI x1), some (zI x2)] [] (some (.inl (none), h)) = zY 216 84 [some (zR (some 177)), some (zI x1), some (zI x2)] [] h from zGo 1 216 109 _ _ _).trans ?_
  rfl
theorem q_M_readsText_112 {h : zH} {x1 : Int} {x2 : Int} (KM : KM h) : zY 216 112 [some (zR (some 177)), some (zI x1), some (zI x2)] [] h =
    zBack zY 216 113 116 [some (zR (some 177)), some (zI x1), some (zI x2)] [] (zC 235 [zR (some 177)] h) := by
  refine (show zY 216 112 [some (zR (some 177)), some (zI x1), some (zI x2)] [] h = gd (false = zctor 235 ∧ zcs [] ≤ 8 ∧ zrm 216 (zrf 235 + 1) (8 + (zmaxl 235 + 11) + zrl 235) = true ∧ zcs [zR (some 177)] ≤ zmaxl 235) (gd (zob h (some 177) 12) (zBack zY 216 113 116 [some (zR (some 177)), some (zI x1), some (zI x2)] [] (zC 235 [zR (some 177)] h))) from zGo 2 216 112 _ _ _).trans ?_
  refine (gd_t (⟨rfl, Nat.le_of_ble_eq_true rfl, rfl, Nat.le_of_ble_eq_true rfl⟩) _).trans ?_
  refine (gd_t (⟨rfl, (PTM KM 177 _ rfl rfl), (PNM KM 177 rfl)⟩) _).trans ?_
  rfl
theorem q_M_readsText_r116 {h : zH} {x1 : Int} {x2 : Int} {y : Int} (KM : KM h) : zBack zY 216 113 116 [some (zR (some 177)), some (zI x1), some (zI x2)] [] (some (.inl (some (zI y)), h)) =
    if y = 0 then
      zBack zY 216 121 124 [some (zR (some 177)), some (zI x1), some (zI x2)] [] (zC 223 [zR (some 177), zI 1] h)
    else
      zY 216 84 [some (zR (some 177)), some (zI x1), some (zI x2)] [] h := by
  refine (show zBack zY 216 113 116 [some (zR (some 177)), some (zI x1), some (zI x2)] [] (some (.inl (some (zI y)), h)) = if y = 0 then zY 216 119 [some (zR (some 177)), some (zI x1), some (zI x2)] [] h else zY 216 84 [some (zR (some 177)), some (zI x1), some (zI x2)] [] h from zGo 1 216 116 _ _ _).trans ?_
  refine iteC (fun c0 => ?_) (fun c0 => ?_)
  · skip
    refine (show zY 216 119 [some (zR (some 177)), some (zI x1), some (zI x2)] [] h = gd (inR (1)) (gd (false = zctor 223 ∧ zcs [] ≤ 8 ∧ zrm 216 (zrf 223 + 1) (8 + (zmaxl 223 + 11) + zrl 223) = true ∧ zcs [zR (some 177), zI 1] ≤ zmaxl 223) (gd (zob h (some 177) 12) (zBack zY 216 121 124 [some (zR (some 177)), some (zI x1), some (zI x2)] [] (zC 223 [zR (some 177), zI 1] h)))) from zGo 3 216 119 _ _ _).trans ?_
    refine (gd_t (by decide) _).trans ?_
    refine (gd_t (⟨rfl, Nat.le_of_ble_eq_true rfl, rfl, Nat.le_of_ble_eq_true rfl⟩) _).trans ?_
    refine (gd_t (⟨rfl, (PTM KM 177 _ rfl rfl), (PNM KM 177 rfl)⟩) _).trans ?_
    rfl
  · skip
    rfl
theorem q_M_readsText_r124 {h : zH} {x1 : Int} {x2 : Int} (KM : KM h) : zBack zY 216 121 124 [some (zR (some 177)), some (zI x1), some (zI x2)] [] (some (.inl (none), h)) =
    zY 216 84 [some (zR (some 177)), some (zI x1), some (zI x2)] [] h := by
  refine (show zBack zY 216 121 124 [some (zR (some 177)), some (zI x1), some (zI x2)] [] (some (.inl (none), h)) = zY 216 84 [some (zR (some 177)), some (zI x1), some (zI x2)] [] h from zGo 1 216 124 _ _ _).trans ?_
  rfl
theorem q_M_readsText_127 {h : zH} {x1 : Int} {x2 : Int} (KM : KM h) : zY 216 127 [some (zR (some 177)), some (zI x1), some (zI x2)] [] h =
    if (hI h 177 41) = 0 then
      if (hI h 177 44) = (-1) then
        some (.inl (none), h)
      else
        zBack zY 216 144 147 [some (zR (some 177)), some (zI x1), some (zI x2)] [] (zC 223 [zR (some 177), zI 1] h)
    else
      some (.inl (none), h) := by
  refine (show zY 216 127 [some (zR (some 177)), some (zI x1), some (zI x2)] [] h = gd (zob h (some 177) 12) (if (hI h 177 41) = 0 then zY 216 134 [some (zR (some 177)), some (zI x1), some (zI x2)] [] h else zY 216 147 [some (zR (some 177)), some (zI x1), some (zI x2)] [] h) from zGo 3 216 127 _ _ _).trans ?_
  refine (gd_t (⟨rfl, (PTM KM 177 _ rfl rfl), (PNM KM 177 rfl)⟩) _).trans ?_
  refine iteC (fun c0 => ?_) (fun c0 => ?_)
  · skip
    refine (show zY 216 134 [some (zR (some 177)), some (zI x1), some (zI x2)] [] h = gd (zob h (some 177) 12) (gd (inR (-1)) (if (hI h 177 44) = (-1) then zY 216 147 [some (zR (some 177)), some (zI x1), some (zI x2)] [] h else zY 216 142 [some (zR (some 177)), some (zI x1), some (zI x2)] [] h)) from zGo 4 216 134 _ _ _).trans ?_
    refine (gd_t (⟨rfl, (PTM KM 177 _ rfl rfl), (PNM KM 177 rfl)⟩) _).trans ?_
    refine (gd_t (by decide) _).trans ?_
    refine iteC (fun c1 => ?_) (fun c1 => ?_)
    · skip
      refine (show zY 216 147 [some (zR (some 177)), some (zI x1), some (zI x2)] [] h = gd (([] : List zV).isEmpty = true ∧ zrk 216 = 0) (some (.inl (none), h)) from zGo 1 216 147 _ _ _).trans ?_
      refine (gd_t (⟨rfl, rfl⟩) _).trans ?_
      rfl
    · skip
      refine (show zY 216 142 [some (zR (some 177)), some (zI x1), some (zI x2)] [] h = gd (inR (1)) (gd (false = zctor 223 ∧ zcs [] ≤ 8 ∧ zrm 216 (zrf 223 + 1) (8 + (zmaxl 223 + 11) + zrl 223) = true ∧ zcs [zR (some 177), zI 1] ≤ zmaxl 223) (gd (zob h (some 177) 12) (zBack zY 216 144 147 [some (zR (some 177)), some (zI x1), some (zI x2)] [] (zC 223 [zR (some 177), zI 1] h)))) from zGo 3 216 142 _ _ _).trans ?_
      refine (gd_t (by decide) _).trans ?_
      refine (gd_t (⟨rfl, Nat.le_of_ble_eq_true rfl, rfl, Nat.le_of_ble_eq_true rfl⟩) _).trans ?_
      refine (gd_t (⟨rfl, (PTM KM 177 _ rfl rfl), (PNM KM 177 rfl)⟩) _).trans ?_
      rfl
  · skip
    refine (show zY 216 147 [some (zR (some 177)), some (zI x1), some (zI x2)] [] h = gd (([] : List zV).isEmpty = true ∧ zrk 216 = 0) (some (.inl (none), h)) from zGo 1 216 147 _ _ _).trans ?_
    refine (gd_t (⟨rfl, rfl⟩) _).trans ?_
    rfl
theorem q_M_readsText_r147 {h : zH} {x1 : Int} {x2 : Int} (KM : KM h) : zBack zY 216 144 147 [some (zR (some 177)), some (zI x1), some (zI x2)] [] (some (.inl (none), h)) =
    some (.inl (none), h) := by
  refine (show zBack zY 216 144 147 [some (zR (some 177)), some (zI x1), some (zI x2)] [] (some (.inl (none), h)) = gd (([] : List zV).isEmpty = true ∧ zrk 216 = 0) (some (.inl (none), h)) from zGo 1 216 147 _ _ _).trans ?_
  refine (gd_t (⟨rfl, rfl⟩) _).trans ?_
  rfl
theorem q_M_reports {h : zH} (KM : KM h) : zC 237 [zR (some 177)] h =
    if (hI h 177 41) = 0 then
      some (.inl (none), (sI (sI (sI h 177 15 0) 177 18 (hI h 177 41)) 177 19 (-1)))
    else
      some (.inl (none), (sI (sI (sI h 177 15 0) 177 18 (hI h 177 41)) 177 19 (hI h 177 42))) := by
  refine (show zC 237 [zR (some 177)] h = gd (inR (0)) (gd (zob h (some 177) 12) (gd (zob (sI h 177 15 0) (some 177) 12) (gd (zob (sI h 177 15 0) (some 177) 12) (gd (zob (sI (sI h 177 15 0) 177 18 (hI h 177 41)) (some 177) 12) (if (hI h 177 41) = 0 then zY 237 21 [some (zR (some 177))] [zR (some 177)] (sI (sI h 177 15 0) 177 18 (hI h 177 41)) else zY 237 25 [some (zR (some 177))] [zR (some 177)] (sI (sI h 177 15 0) 177 18 (hI h 177 41))))))) from zGo 11 237 0 _ _ _).trans ?_
  refine (gd_t (by decide) _).trans ?_
  refine (gd_t (⟨rfl, (PTM KM 177 _ rfl rfl), (PNM KM 177 rfl)⟩) _).trans ?_
  refine (gd_t (⟨rfl, (PTM KM 177 _ rfl rfl), (PNM KM 177 rfl)⟩) _).trans ?_
  refine (gd_t (⟨rfl, (PTM KM 177 _ rfl rfl), (PNM KM 177 rfl)⟩) _).trans ?_
  refine (gd_t (⟨rfl, (PTM KM 177 _ rfl rfl), (PNM KM 177 rfl)⟩) _).trans ?_
  refine iteC (fun c0 => ?_) (fun c0 => ?_)
  · skip
    refine (show zY 237 21 [some (zR (some 177))] [zR (some 177)] (sI (sI h 177 15 0) 177 18 (hI h 177 41)) = gd (inR (-1)) (gd (zob (sI (sI h 177 15 0) 177 18 (hI h 177 41)) (some 177) 12) (gd (([] : List zV).isEmpty = true ∧ zrk 237 = 0) (some (.inl (none), (sI (sI (sI h 177 15 0) 177 18 (hI h 177 41)) 177 19 (-1)))))) from zGo 4 237 21 _ _ _).trans ?_
    refine (gd_t (by decide) _).trans ?_
    refine (gd_t (⟨rfl, (PTM KM 177 _ rfl rfl), (PNM KM 177 rfl)⟩) _).trans ?_
    refine (gd_t (⟨rfl, rfl⟩) _).trans ?_
    rfl
  · skip
    refine (show zY 237 25 [some (zR (some 177))] [zR (some 177)] (sI (sI h 177 15 0) 177 18 (hI h 177 41)) = gd (zob (sI (sI h 177 15 0) 177 18 (hI h 177 41)) (some 177) 12) (gd (zob (sI (sI h 177 15 0) 177 18 (hI h 177 41)) (some 177) 12) (gd (([] : List zV).isEmpty = true ∧ zrk 237 = 0) (some (.inl (none), (sI (sI (sI h 177 15 0) 177 18 (hI h 177 41)) 177 19 (hI h 177 42)))))) from zGo 4 237 25 _ _ _).trans ?_
    refine (gd_t (⟨rfl, (PTM KM 177 _ rfl rfl), (PNM KM 177 rfl)⟩) _).trans ?_
    refine (gd_t (⟨rfl, (PTM KM 177 _ rfl rfl), (PNM KM 177 rfl)⟩) _).trans ?_
    refine (gd_t (⟨rfl, rfl⟩) _).trans ?_
    rfl
theorem q_M_feeds {h : zH} {x1 : Int} (KM : KM h) : zC 211 [zR (some 177), zI x1] h =
    gd (0 ≤ (hI h 177 15) ∧ (hI h 177 15) < 800) (
    gd (-2147483648 ≤ (hI h 177 15) + 1 ∧ (hI h 177 15) + 1 < 2147483648) (
    gd (0 ≤ ((hI h 177 15) + 1) ∧ ((hI h 177 15) + 1) < 800) (
    gd (-2147483648 ≤ (hI h 177 15) + 2 ∧ (hI h 177 15) + 2 < 2147483648) (
    gd (0 ≤ ((hI h 177 15) + 2) ∧ ((hI h 177 15) + 2) < 800) (
    gd (-2147483648 ≤ (hI h 177 15) + 3 ∧ (hI h 177 15) + 3 < 2147483648) (
    gd (0 ≤ ((hI h 177 15) + 3) ∧ ((hI h 177 15) + 3) < 800) (
    gd (-2147483648 ≤ (hI h 177 15) + 4 ∧ (hI h 177 15) + 4 < 2147483648) (
    some (.inl (none), (sI (sI (sI (sI (sI h 185 (hI h 177 15).toNat (zi2b (zshr x1 24))) 185 ((hI h 177 15) + 1).toNat (zi2b (zshr x1 16))) 185 ((hI h 177 15) + 2).toNat (zi2b (zshr x1 8))) 185 ((hI h 177 15) + 3).toNat (zi2b x1)) 177 15 ((hI h 177 15) + 4))))))))))) := by
  refine (show zC 211 [zR (some 177), zI x1] h = gd (zob h (some 177) 12) (zY 211 4 [some (zR (some 177)), some (zI x1)] [zR (hR h 177 14)] h) from zGo 2 211 0 _ _ _).trans ?_
  refine (gd_t (⟨rfl, (PTM KM 177 _ rfl rfl), (PNM KM 177 rfl)⟩) _).trans ?_
  refine (congrArg (fun r => zY 211 4 [some (zR (some 177)), some (zI x1)] (zR r :: []) h) (PRM KM 177 14 _ rfl)).trans ?_
  refine (show zY 211 4 [some (zR (some 177)), some (zI x1)] [zR (some 185)] h = gd (zob h (some 177) 12) (gd (-128 ≤ (24 : Int) ∧ (24 : Int) < 128) (gd (zokw h (some 185) 21 (hI h 177 15) ∨ zokw h (some 185) 20 (hI h 177 15)) (gd (-128 ≤ ((zi2b (zshr x1 24)) : Int) ∧ ((zi2b (zshr x1 24)) : Int) < 128 ∧ (hT h (zdr (some 185)) = 20 → ((zi2b (zshr x1 24)) : Int) = 0 ∨ ((zi2b (zshr x1 24)) : Int) = 1)) (gd (zob (sI h 185 (hI h 177 15).toNat (zi2b (zshr x1 24))) (some 177) 12) (zY 211 18 [some (zR (some 177)), some (zI x1)] [zR (hR h 177 14)] (sI h 185 (hI h 177 15).toNat (zi2b (zshr x1 24)))))))) from zGo 9 211 4 _ _ _).trans ?_
  refine (gd_t (⟨rfl, (PTM KM 177 _ rfl rfl), (PNM KM 177 rfl)⟩) _).trans ?_
  refine (gd_t (by decide) _).trans ?_
  refine gd_c (cib21 (PTM KM 185 _ rfl rfl) (PNM KM 185 rfl) (PLM KM 185 800 rfl rfl)) (fun c0 => ?_)
  refine (gd_t (⟨zi2b_l _, zi2b_u _, fun e => absurd (e.symm.trans (PTM KM 185 _ rfl rfl)) (by decide)⟩) _).trans ?_
  refine (gd_t (⟨rfl, (PTM KM 177 _ rfl rfl), (PNM KM 177 rfl)⟩) _).trans ?_
  refine (congrArg (fun r => zY 211 18 [some (zR (some 177)), some (zI x1)] (zR r :: []) (sI h 185 (hI h 177 15).toNat (zi2b (zshr x1 24)))) (PRM KM 177 14 _ rfl)).trans ?_
  refine (show zY 211 18 [some (zR (some 177)), some (zI x1)] [zR (some 185)] (sI h 185 (hI h 177 15).toNat (zi2b (zshr x1 24))) = gd (zob (sI h 185 (hI h 177 15).toNat (zi2b (zshr x1 24))) (some 177) 12) (gd (inR (1)) (gd (inR ((hI h 177 15) + 1)) (gd (-128 ≤ (16 : Int) ∧ (16 : Int) < 128) (gd (zokw (sI h 185 (hI h 177 15).toNat (zi2b (zshr x1 24))) (some 185) 21 ((hI h 177 15) + 1) ∨ zokw (sI h 185 (hI h 177 15).toNat (zi2b (zshr x1 24))) (some 185) 20 ((hI h 177 15) + 1)) (gd (-128 ≤ ((zi2b (zshr x1 16)) : Int) ∧ ((zi2b (zshr x1 16)) : Int) < 128 ∧ (hT (sI h 185 (hI h 177 15).toNat (zi2b (zshr x1 24))) (zdr (some 185)) = 20 → ((zi2b (zshr x1 16)) : Int) = 0 ∨ ((zi2b (zshr x1 16)) : Int) = 1)) (gd (zob (sI (sI h 185 (hI h 177 15).toNat (zi2b (zshr x1 24))) 185 ((hI h 177 15) + 1).toNat (zi2b (zshr x1 16))) (some 177) 12) (zY 211 34 [some (zR (some 177)), some (zI x1)] [zR (hR h 177 14)] (sI (sI h 185 (hI h 177 15).toNat (zi2b (zshr x1 24))) 185 ((hI h 177 15) + 1).toNat (zi2b (zshr x1 16)))))))))) from zGo 11 211 18 _ _ _).trans ?_
  refine (gd_t (⟨rfl, (PTM KM 177 _ rfl rfl), (PNM KM 177 rfl)⟩) _).trans ?_
  refine (gd_t (by decide) _).trans ?_
  refine gd_c Iff.rfl (fun c1 => ?_)
  refine (gd_t (by decide) _).trans ?_
  refine gd_c (cib21 (PTM KM 185 _ rfl rfl) (PNM KM 185 rfl) (PLM KM 185 800 rfl rfl)) (fun c2 => ?_)
  refine (gd_t (⟨zi2b_l _, zi2b_u _, fun e => absurd (e.symm.trans (PTM KM 185 _ rfl rfl)) (by decide)⟩) _).trans ?_
  refine (gd_t (⟨rfl, (PTM KM 177 _ rfl rfl), (PNM KM 177 rfl)⟩) _).trans ?_
  refine (congrArg (fun r => zY 211 34 [some (zR (some 177)), some (zI x1)] (zR r :: []) (sI (sI h 185 (hI h 177 15).toNat (zi2b (zshr x1 24))) 185 ((hI h 177 15) + 1).toNat (zi2b (zshr x1 16)))) (PRM KM 177 14 _ rfl)).trans ?_
  refine (show zY 211 34 [some (zR (some 177)), some (zI x1)] [zR (some 185)] (sI (sI h 185 (hI h 177 15).toNat (zi2b (zshr x1 24))) 185 ((hI h 177 15) + 1).toNat (zi2b (zshr x1 16))) = gd (zob (sI (sI h 185 (hI h 177 15).toNat (zi2b (zshr x1 24))) 185 ((hI h 177 15) + 1).toNat (zi2b (zshr x1 16))) (some 177) 12) (gd (inR (2)) (gd (inR ((hI h 177 15) + 2)) (gd (-128 ≤ (8 : Int) ∧ (8 : Int) < 128) (gd (zokw (sI (sI h 185 (hI h 177 15).toNat (zi2b (zshr x1 24))) 185 ((hI h 177 15) + 1).toNat (zi2b (zshr x1 16))) (some 185) 21 ((hI h 177 15) + 2) ∨ zokw (sI (sI h 185 (hI h 177 15).toNat (zi2b (zshr x1 24))) 185 ((hI h 177 15) + 1).toNat (zi2b (zshr x1 16))) (some 185) 20 ((hI h 177 15) + 2)) (gd (-128 ≤ ((zi2b (zshr x1 8)) : Int) ∧ ((zi2b (zshr x1 8)) : Int) < 128 ∧ (hT (sI (sI h 185 (hI h 177 15).toNat (zi2b (zshr x1 24))) 185 ((hI h 177 15) + 1).toNat (zi2b (zshr x1 16))) (zdr (some 185)) = 20 → ((zi2b (zshr x1 8)) : Int) = 0 ∨ ((zi2b (zshr x1 8)) : Int) = 1)) (gd (zob (sI (sI (sI h 185 (hI h 177 15).toNat (zi2b (zshr x1 24))) 185 ((hI h 177 15) + 1).toNat (zi2b (zshr x1 16))) 185 ((hI h 177 15) + 2).toNat (zi2b (zshr x1 8))) (some 177) 12) (zY 211 50 [some (zR (some 177)), some (zI x1)] [zR (hR h 177 14)] (sI (sI (sI h 185 (hI h 177 15).toNat (zi2b (zshr x1 24))) 185 ((hI h 177 15) + 1).toNat (zi2b (zshr x1 16))) 185 ((hI h 177 15) + 2).toNat (zi2b (zshr x1 8)))))))))) from zGo 11 211 34 _ _ _).trans ?_
  refine (gd_t (⟨rfl, (PTM KM 177 _ rfl rfl), (PNM KM 177 rfl)⟩) _).trans ?_
  refine (gd_t (by decide) _).trans ?_
  refine gd_c Iff.rfl (fun c3 => ?_)
  refine (gd_t (by decide) _).trans ?_
  refine gd_c (cib21 (PTM KM 185 _ rfl rfl) (PNM KM 185 rfl) (PLM KM 185 800 rfl rfl)) (fun c4 => ?_)
  refine (gd_t (⟨zi2b_l _, zi2b_u _, fun e => absurd (e.symm.trans (PTM KM 185 _ rfl rfl)) (by decide)⟩) _).trans ?_
  refine (gd_t (⟨rfl, (PTM KM 177 _ rfl rfl), (PNM KM 177 rfl)⟩) _).trans ?_
  refine (congrArg (fun r => zY 211 50 [some (zR (some 177)), some (zI x1)] (zR r :: []) (sI (sI (sI h 185 (hI h 177 15).toNat (zi2b (zshr x1 24))) 185 ((hI h 177 15) + 1).toNat (zi2b (zshr x1 16))) 185 ((hI h 177 15) + 2).toNat (zi2b (zshr x1 8)))) (PRM KM 177 14 _ rfl)).trans ?_
  refine (show zY 211 50 [some (zR (some 177)), some (zI x1)] [zR (some 185)] (sI (sI (sI h 185 (hI h 177 15).toNat (zi2b (zshr x1 24))) 185 ((hI h 177 15) + 1).toNat (zi2b (zshr x1 16))) 185 ((hI h 177 15) + 2).toNat (zi2b (zshr x1 8))) = gd (zob (sI (sI (sI h 185 (hI h 177 15).toNat (zi2b (zshr x1 24))) 185 ((hI h 177 15) + 1).toNat (zi2b (zshr x1 16))) 185 ((hI h 177 15) + 2).toNat (zi2b (zshr x1 8))) (some 177) 12) (gd (inR (3)) (gd (inR ((hI h 177 15) + 3)) (gd (zokw (sI (sI (sI h 185 (hI h 177 15).toNat (zi2b (zshr x1 24))) 185 ((hI h 177 15) + 1).toNat (zi2b (zshr x1 16))) 185 ((hI h 177 15) + 2).toNat (zi2b (zshr x1 8))) (some 185) 21 ((hI h 177 15) + 3) ∨ zokw (sI (sI (sI h 185 (hI h 177 15).toNat (zi2b (zshr x1 24))) 185 ((hI h 177 15) + 1).toNat (zi2b (zshr x1 16))) 185 ((hI h 177 15) + 2).toNat (zi2b (zshr x1 8))) (some 185) 20 ((hI h 177 15) + 3)) (gd (-128 ≤ ((zi2b x1) : Int) ∧ ((zi2b x1) : Int) < 128 ∧ (hT (sI (sI (sI h 185 (hI h 177 15).toNat (zi2b (zshr x1 24))) 185 ((hI h 177 15) + 1).toNat (zi2b (zshr x1 16))) 185 ((hI h 177 15) + 2).toNat (zi2b (zshr x1 8))) (zdr (some 185)) = 20 → ((zi2b x1) : Int) = 0 ∨ ((zi2b x1) : Int) = 1)) (gd (zob (sI (sI (sI (sI h 185 (hI h 177 15).toNat (zi2b (zshr x1 24))) 185 ((hI h 177 15) + 1).toNat (zi2b (zshr x1 16))) 185 ((hI h 177 15) + 2).toNat (zi2b (zshr x1 8))) 185 ((hI h 177 15) + 3).toNat (zi2b x1)) (some 177) 12) (gd (inR (4)) (gd (inR ((hI h 177 15) + 4)) (gd (zob (sI (sI (sI (sI h 185 (hI h 177 15).toNat (zi2b (zshr x1 24))) 185 ((hI h 177 15) + 1).toNat (zi2b (zshr x1 16))) 185 ((hI h 177 15) + 2).toNat (zi2b (zshr x1 8))) 185 ((hI h 177 15) + 3).toNat (zi2b x1)) (some 177) 12) (gd (([] : List zV).isEmpty = true ∧ zrk 211 = 0) (some (.inl (none), (sI (sI (sI (sI (sI h 185 (hI h 177 15).toNat (zi2b (zshr x1 24))) 185 ((hI h 177 15) + 1).toNat (zi2b (zshr x1 16))) 185 ((hI h 177 15) + 2).toNat (zi2b (zshr x1 8))) 185 ((hI h 177 15) + 3).toNat (zi2b x1)) 177 15 ((hI h 177 15) + 4))))))))))))) from zGo 14 211 50 _ _ _).trans ?_
  refine (gd_t (⟨rfl, (PTM KM 177 _ rfl rfl), (PNM KM 177 rfl)⟩) _).trans ?_
  refine (gd_t (by decide) _).trans ?_
  refine gd_c Iff.rfl (fun c5 => ?_)
  refine gd_c (cib21 (PTM KM 185 _ rfl rfl) (PNM KM 185 rfl) (PLM KM 185 800 rfl rfl)) (fun c6 => ?_)
  refine (gd_t (⟨zi2b_l _, zi2b_u _, fun e => absurd (e.symm.trans (PTM KM 185 _ rfl rfl)) (by decide)⟩) _).trans ?_
  refine (gd_t (⟨rfl, (PTM KM 177 _ rfl rfl), (PNM KM 177 rfl)⟩) _).trans ?_
  refine (gd_t (by decide) _).trans ?_
  refine gd_c Iff.rfl (fun c7 => ?_)
  refine (gd_t (⟨rfl, (PTM KM 177 _ rfl rfl), (PNM KM 177 rfl)⟩) _).trans ?_
  refine (gd_t (⟨rfl, rfl⟩) _).trans ?_
  rfl
theorem q_M_feed {h : zH} {x1 : Int} {x2 : Int} {x3 : Int} {x4 : Int} {x5 : Int} (KM : KM h) : zC 209 [zR (some 177), zI x1, zI x2, zI x3, zI x4, zI x5] h =
    if 780 < (hI h 177 15) then
      some (.inl (some (zI 0)), (sI h 177 1 1))
    else
      zBack zY 209 18 21 [some (zR (some 177)), some (zI x1), some (zI x2), some (zI x3), some (zI x4), some (zI x5)] [] (zC 211 [zR (some 177), zI x1] h) := by
  refine (show zC 209 [zR (some 177), zI x1, zI x2, zI x3, zI x4, zI x5] h = gd (zob h (some 177) 12) (gd (-32768 ≤ (780 : Int) ∧ (780 : Int) < 32768) (if 780 < (hI h 177 15) then zY 209 10 [some (zR (some 177)), some (zI x1), some (zI x2), some (zI x3), some (zI x4), some (zI x5)] [] h else zY 209 16 [some (zR (some 177)), some (zI x1), some (zI x2), some (zI x3), some (zI x4), some (zI x5)] [] h)) from zGo 4 209 0 _ _ _).trans ?_
  refine (gd_t (⟨rfl, (PTM KM 177 _ rfl rfl), (PNM KM 177 rfl)⟩) _).trans ?_
  refine (gd_t (by decide) _).trans ?_
  refine iteC (fun c0 => ?_) (fun c0 => ?_)
  · skip
    refine (show zY 209 10 [some (zR (some 177)), some (zI x1), some (zI x2), some (zI x3), some (zI x4), some (zI x5)] [] h = gd (inR (1)) (gd (false = zctor 210 ∧ zcs [] ≤ 8 ∧ zrm 209 (zrf 210 + 1) (8 + (zmaxl 210 + 11) + zrl 210) = true ∧ zcs [zR (some 177), zI 1] ≤ zmaxl 210) (gd (zob h (some 177) 12) (zBack zY 209 12 15 [some (zR (some 177)), some (zI x1), some (zI x2), some (zI x3), some (zI x4), some (zI x5)] [] (zC 210 [zR (some 177), zI 1] h)))) from zGo 3 209 10 _ _ _).trans ?_
    refine (gd_t (by decide) _).trans ?_
    refine (gd_t (⟨rfl, Nat.le_of_ble_eq_true rfl, rfl, Nat.le_of_ble_eq_true rfl⟩) _).trans ?_
    refine (gd_t (⟨rfl, (PTM KM 177 _ rfl rfl), (PNM KM 177 rfl)⟩) _).trans ?_
    refine (congrArg (zBack zY 209 12 15 [some (zR (some 177)), some (zI x1), some (zI x2), some (zI x3), some (zI x4), some (zI x5)] []) (q_M_refuse KM)).trans ?_
    refine (show zY 209 15 [some (zR (some 177)), some (zI x1), some (zI x2), some (zI x3), some (zI x4), some (zI x5)] [zI 0] (sI h 177 1 1) = gd (([] : List zV).isEmpty = true ∧ (zrk 209 = 1 ∨ zrk 209 = 6 ∧ ((0 : Int) = 0 ∨ (0 : Int) = 1))) (some (.inl (some (zI 0)), (sI h 177 1 1))) from zGo 1 209 15 _ _ _).trans ?_
    refine (gd_t (⟨rfl, Or.inl rfl⟩) _).trans ?_
    rfl
  · skip
    refine (show zY 209 16 [some (zR (some 177)), some (zI x1), some (zI x2), some (zI x3), some (zI x4), some (zI x5)] [] h = gd (false = zctor 211 ∧ zcs [] ≤ 8 ∧ zrm 209 (zrf 211 + 1) (8 + (zmaxl 211 + 11) + zrl 211) = true ∧ zcs [zR (some 177), zI x1] ≤ zmaxl 211) (gd (zob h (some 177) 12) (zBack zY 209 18 21 [some (zR (some 177)), some (zI x1), some (zI x2), some (zI x3), some (zI x4), some (zI x5)] [] (zC 211 [zR (some 177), zI x1] h))) from zGo 3 209 16 _ _ _).trans ?_
    refine (gd_t (⟨rfl, Nat.le_of_ble_eq_true rfl, rfl, Nat.le_of_ble_eq_true rfl⟩) _).trans ?_
    refine (gd_t (⟨rfl, (PTM KM 177 _ rfl rfl), (PNM KM 177 rfl)⟩) _).trans ?_
    rfl
theorem q_M_feed_r21 {h : zH} {x1 : Int} {x2 : Int} {x3 : Int} {x4 : Int} {x5 : Int} (KM : KM h) : zBack zY 209 18 21 [some (zR (some 177)), some (zI x1), some (zI x2), some (zI x3), some (zI x4), some (zI x5)] [] (some (.inl (none), h)) =
    zBack zY 209 23 26 [some (zR (some 177)), some (zI x1), some (zI x2), some (zI x3), some (zI x4), some (zI x5)] [] (zC 211 [zR (some 177), zI x2] h) := by
  refine (show zBack zY 209 18 21 [some (zR (some 177)), some (zI x1), some (zI x2), some (zI x3), some (zI x4), some (zI x5)] [] (some (.inl (none), h)) = gd (false = zctor 211 ∧ zcs [] ≤ 8 ∧ zrm 209 (zrf 211 + 1) (8 + (zmaxl 211 + 11) + zrl 211) = true ∧ zcs [zR (some 177), zI x2] ≤ zmaxl 211) (gd (zob h (some 177) 12) (zBack zY 209 23 26 [some (zR (some 177)), some (zI x1), some (zI x2), some (zI x3), some (zI x4), some (zI x5)] [] (zC 211 [zR (some 177), zI x2] h))) from zGo 3 209 21 _ _ _).trans ?_
  refine (gd_t (⟨rfl, Nat.le_of_ble_eq_true rfl, rfl, Nat.le_of_ble_eq_true rfl⟩) _).trans ?_
  refine (gd_t (⟨rfl, (PTM KM 177 _ rfl rfl), (PNM KM 177 rfl)⟩) _).trans ?_
  rfl
theorem q_M_feed_r26 {h : zH} {x1 : Int} {x2 : Int} {x3 : Int} {x4 : Int} {x5 : Int} (KM : KM h) : zBack zY 209 23 26 [some (zR (some 177)), some (zI x1), some (zI x2), some (zI x3), some (zI x4), some (zI x5)] [] (some (.inl (none), h)) =
    zBack zY 209 28 31 [some (zR (some 177)), some (zI x1), some (zI x2), some (zI x3), some (zI x4), some (zI x5)] [] (zC 211 [zR (some 177), zI x3] h) := by
  refine (show zBack zY 209 23 26 [some (zR (some 177)), some (zI x1), some (zI x2), some (zI x3), some (zI x4), some (zI x5)] [] (some (.inl (none), h)) = gd (false = zctor 211 ∧ zcs [] ≤ 8 ∧ zrm 209 (zrf 211 + 1) (8 + (zmaxl 211 + 11) + zrl 211) = true ∧ zcs [zR (some 177), zI x3] ≤ zmaxl 211) (gd (zob h (some 177) 12) (zBack zY 209 28 31 [some (zR (some 177)), some (zI x1), some (zI x2), some (zI x3), some (zI x4), some (zI x5)] [] (zC 211 [zR (some 177), zI x3] h))) from zGo 3 209 26 _ _ _).trans ?_
  refine (gd_t (⟨rfl, Nat.le_of_ble_eq_true rfl, rfl, Nat.le_of_ble_eq_true rfl⟩) _).trans ?_
  refine (gd_t (⟨rfl, (PTM KM 177 _ rfl rfl), (PNM KM 177 rfl)⟩) _).trans ?_
  rfl
theorem q_M_feed_r31 {h : zH} {x1 : Int} {x2 : Int} {x3 : Int} {x4 : Int} {x5 : Int} (KM : KM h) : zBack zY 209 28 31 [some (zR (some 177)), some (zI x1), some (zI x2), some (zI x3), some (zI x4), some (zI x5)] [] (some (.inl (none), h)) =
    zBack zY 209 34 37 [some (zR (some 177)), some (zI x1), some (zI x2), some (zI x3), some (zI x4), some (zI x5)] [] (zC 211 [zR (some 177), zI x4] h) := by
  refine (show zBack zY 209 28 31 [some (zR (some 177)), some (zI x1), some (zI x2), some (zI x3), some (zI x4), some (zI x5)] [] (some (.inl (none), h)) = gd (false = zctor 211 ∧ zcs [] ≤ 8 ∧ zrm 209 (zrf 211 + 1) (8 + (zmaxl 211 + 11) + zrl 211) = true ∧ zcs [zR (some 177), zI x4] ≤ zmaxl 211) (gd (zob h (some 177) 12) (zBack zY 209 34 37 [some (zR (some 177)), some (zI x1), some (zI x2), some (zI x3), some (zI x4), some (zI x5)] [] (zC 211 [zR (some 177), zI x4] h))) from zGo 3 209 31 _ _ _).trans ?_
  refine (gd_t (⟨rfl, Nat.le_of_ble_eq_true rfl, rfl, Nat.le_of_ble_eq_true rfl⟩) _).trans ?_
  refine (gd_t (⟨rfl, (PTM KM 177 _ rfl rfl), (PNM KM 177 rfl)⟩) _).trans ?_
  rfl
theorem q_M_feed_r37 {h : zH} {x1 : Int} {x2 : Int} {x3 : Int} {x4 : Int} {x5 : Int} (KM : KM h) : zBack zY 209 34 37 [some (zR (some 177)), some (zI x1), some (zI x2), some (zI x3), some (zI x4), some (zI x5)] [] (some (.inl (none), h)) =
    zBack zY 209 40 43 [some (zR (some 177)), some (zI x1), some (zI x2), some (zI x3), some (zI x4), some (zI x5)] [] (zC 211 [zR (some 177), zI x5] h) := by
  refine (show zBack zY 209 34 37 [some (zR (some 177)), some (zI x1), some (zI x2), some (zI x3), some (zI x4), some (zI x5)] [] (some (.inl (none), h)) = gd (false = zctor 211 ∧ zcs [] ≤ 8 ∧ zrm 209 (zrf 211 + 1) (8 + (zmaxl 211 + 11) + zrl 211) = true ∧ zcs [zR (some 177), zI x5] ≤ zmaxl 211) (gd (zob h (some 177) 12) (zBack zY 209 40 43 [some (zR (some 177)), some (zI x1), some (zI x2), some (zI x3), some (zI x4), some (zI x5)] [] (zC 211 [zR (some 177), zI x5] h))) from zGo 3 209 37 _ _ _).trans ?_
  refine (gd_t (⟨rfl, Nat.le_of_ble_eq_true rfl, rfl, Nat.le_of_ble_eq_true rfl⟩) _).trans ?_
  refine (gd_t (⟨rfl, (PTM KM 177 _ rfl rfl), (PNM KM 177 rfl)⟩) _).trans ?_
  rfl
theorem q_M_feed_r43 {h : zH} {x1 : Int} {x2 : Int} {x3 : Int} {x4 : Int} {x5 : Int} (KM : KM h) : zBack zY 209 40 43 [some (zR (some 177)), some (zI x1), some (zI x2), some (zI x3), some (zI x4), some (zI x5)] [] (some (.inl (none), h)) =
    some (.inl (some (zI (hI h 177 15))), (sI h 177 1 0)) := by
  refine (show zBack zY 209 40 43 [some (zR (some 177)), some (zI x1), some (zI x2), some (zI x3), some (zI x4), some (zI x5)] [] (some (.inl (none), h)) = gd (zob h (some 177) 12) (gd (false = zctor 212 ∧ zcs [] ≤ 8 ∧ zrm 209 (zrf 212 + 1) (8 + (zmaxl 212 + 11) + zrl 212) = true ∧ zcs [zR (some 177), zI (hI h 177 15)] ≤ zmaxl 212) (gd (zob h (some 177) 12) (zBack zY 209 48 51 [some (zR (some 177)), some (zI x1), some (zI x2), some (zI x3), some (zI x4), some (zI x5)] [] (zC 212 [zR (some 177), zI (hI h 177 15)] h)))) from zGo 4 209 43 _ _ _).trans ?_
  refine (gd_t (⟨rfl, (PTM KM 177 _ rfl rfl), (PNM KM 177 rfl)⟩) _).trans ?_
  refine (gd_t (⟨rfl, Nat.le_of_ble_eq_true rfl, rfl, Nat.le_of_ble_eq_true rfl⟩) _).trans ?_
  refine (gd_t (⟨rfl, (PTM KM 177 _ rfl rfl), (PNM KM 177 rfl)⟩) _).trans ?_
  refine (congrArg (zBack zY 209 48 51 [some (zR (some 177)), some (zI x1), some (zI x2), some (zI x3), some (zI x4), some (zI x5)] []) (q_M_told KM)).trans ?_
  refine (show zY 209 51 [some (zR (some 177)), some (zI x1), some (zI x2), some (zI x3), some (zI x4), some (zI x5)] [zI (hI h 177 15)] (sI h 177 1 0) = gd (([] : List zV).isEmpty = true ∧ (zrk 209 = 1 ∨ zrk 209 = 6 ∧ (((hI h 177 15) : Int) = 0 ∨ ((hI h 177 15) : Int) = 1))) (some (.inl (some (zI (hI h 177 15))), (sI h 177 1 0))) from zGo 1 209 51 _ _ _).trans ?_
  refine (gd_t (⟨rfl, Or.inl rfl⟩) _).trans ?_
  rfl
theorem q_M_load {h : zH} {x1 : Int} (KM : KM h) : zC 213 [zR (some 177), zI x1] h =
    if b_M_in x1 0 (hI h 177 15) then
      zBack zY 213 19 22 [some (zR (some 177)), some (zI x1)] [] (zC 215 [zR (some 177)] h)
    else
      some (.inl (some (zI 0)), (sI h 177 1 1)) := by
  refine (show zC 213 [zR (some 177), zI x1] h = gd (inR (0)) (gd (zob h (some 177) 12) (gd (false = zctor 214 ∧ zcs [] ≤ 8 ∧ zrm 213 (zrf 214 + 1) (8 + (zmaxl 214 + 11) + zrl 214) = true ∧ zcs [zI x1, zI 0, zI (hI h 177 15)] ≤ zmaxl 214) (zBack zY 213 6 9 [some (zR (some 177)), some (zI x1)] [] (zC 214 [zI x1, zI 0, zI (hI h 177 15)] h)))) from zGo 5 213 0 _ _ _).trans ?_
  refine (gd_t (by decide) _).trans ?_
  refine (gd_t (⟨rfl, (PTM KM 177 _ rfl rfl), (PNM KM 177 rfl)⟩) _).trans ?_
  refine (gd_t (⟨rfl, Nat.le_of_ble_eq_true rfl, rfl, Nat.le_of_ble_eq_true rfl⟩) _).trans ?_
  refine (congrArg (zBack zY 213 6 9 [some (zR (some 177)), some (zI x1)] []) (e_M_in)).trans ?_
  refine (show zY 213 9 [some (zR (some 177)), some (zI x1)] [zI (if b_M_in x1 0 (hI h 177 15) then (1 : Int) else 0)] h = if (if b_M_in x1 0 (hI h 177 15) then (1 : Int) else 0) = 0 then zY 213 12 [some (zR (some 177)), some (zI x1)] [] h else zY 213 18 [some (zR (some 177)), some (zI x1)] [] h from zGo 1 213 9 _ _ _).trans ?_
  refine iteB (fun c0 => ?_) (fun c0 => ?_)
  · skip
    refine (show zY 213 18 [some (zR (some 177)), some (zI x1)] [] h = gd (false = zctor 215 ∧ zcs [] ≤ 8 ∧ zrm 213 (zrf 215 + 1) (8 + (zmaxl 215 + 11) + zrl 215) = true ∧ zcs [zR (some 177)] ≤ zmaxl 215) (gd (zob h (some 177) 12) (zBack zY 213 19 22 [some (zR (some 177)), some (zI x1)] [] (zC 215 [zR (some 177)] h))) from zGo 2 213 18 _ _ _).trans ?_
    refine (gd_t (⟨rfl, Nat.le_of_ble_eq_true rfl, rfl, Nat.le_of_ble_eq_true rfl⟩) _).trans ?_
    refine (gd_t (⟨rfl, (PTM KM 177 _ rfl rfl), (PNM KM 177 rfl)⟩) _).trans ?_
    rfl
  · skip
    refine (show zY 213 12 [some (zR (some 177)), some (zI x1)] [] h = gd (inR (1)) (gd (false = zctor 210 ∧ zcs [] ≤ 8 ∧ zrm 213 (zrf 210 + 1) (8 + (zmaxl 210 + 11) + zrl 210) = true ∧ zcs [zR (some 177), zI 1] ≤ zmaxl 210) (gd (zob h (some 177) 12) (zBack zY 213 14 17 [some (zR (some 177)), some (zI x1)] [] (zC 210 [zR (some 177), zI 1] h)))) from zGo 3 213 12 _ _ _).trans ?_
    refine (gd_t (by decide) _).trans ?_
    refine (gd_t (⟨rfl, Nat.le_of_ble_eq_true rfl, rfl, Nat.le_of_ble_eq_true rfl⟩) _).trans ?_
    refine (gd_t (⟨rfl, (PTM KM 177 _ rfl rfl), (PNM KM 177 rfl)⟩) _).trans ?_
    refine (congrArg (zBack zY 213 14 17 [some (zR (some 177)), some (zI x1)] []) (q_M_refuse KM)).trans ?_
    refine (show zY 213 17 [some (zR (some 177)), some (zI x1)] [zI 0] (sI h 177 1 1) = gd (([] : List zV).isEmpty = true ∧ (zrk 213 = 1 ∨ zrk 213 = 6 ∧ ((0 : Int) = 0 ∨ (0 : Int) = 1))) (some (.inl (some (zI 0)), (sI h 177 1 1))) from zGo 1 213 17 _ _ _).trans ?_
    refine (gd_t (⟨rfl, Or.inl rfl⟩) _).trans ?_
    rfl
theorem q_M_load_r22 {h : zH} {x1 : Int} (KM : KM h) : zBack zY 213 19 22 [some (zR (some 177)), some (zI x1)] [] (some (.inl (none), h)) =
    zBack zY 213 24 27 [some (zR (some 177)), some (zI x1)] [] (zC 216 [zR (some 177), zI x1] h) := by
  refine (show zBack zY 213 19 22 [some (zR (some 177)), some (zI x1)] [] (some (.inl (none), h)) = gd (false = zctor 216 ∧ zcs [] ≤ 8 ∧ zrm 213 (zrf 216 + 1) (8 + (zmaxl 216 + 11) + zrl 216) = true ∧ zcs [zR (some 177), zI x1] ≤ zmaxl 216) (gd (zob h (some 177) 12) (zBack zY 213 24 27 [some (zR (some 177)), some (zI x1)] [] (zC 216 [zR (some 177), zI x1] h))) from zGo 3 213 22 _ _ _).trans ?_
  refine (gd_t (⟨rfl, Nat.le_of_ble_eq_true rfl, rfl, Nat.le_of_ble_eq_true rfl⟩) _).trans ?_
  refine (gd_t (⟨rfl, (PTM KM 177 _ rfl rfl), (PNM KM 177 rfl)⟩) _).trans ?_
  rfl
theorem q_M_load_r27 {h : zH} {x1 : Int} (KM : KM h) : zBack zY 213 24 27 [some (zR (some 177)), some (zI x1)] [] (some (.inl (none), h)) =
    zBack zY 213 28 31 [some (zR (some 177)), some (zI x1)] [] (zC 237 [zR (some 177)] h) := by
  refine (show zBack zY 213 24 27 [some (zR (some 177)), some (zI x1)] [] (some (.inl (none), h)) = gd (false = zctor 237 ∧ zcs [] ≤ 8 ∧ zrm 213 (zrf 237 + 1) (8 + (zmaxl 237 + 11) + zrl 237) = true ∧ zcs [zR (some 177)] ≤ zmaxl 237) (gd (zob h (some 177) 12) (zBack zY 213 28 31 [some (zR (some 177)), some (zI x1)] [] (zC 237 [zR (some 177)] h))) from zGo 2 213 27 _ _ _).trans ?_
  refine (gd_t (⟨rfl, Nat.le_of_ble_eq_true rfl, rfl, Nat.le_of_ble_eq_true rfl⟩) _).trans ?_
  refine (gd_t (⟨rfl, (PTM KM 177 _ rfl rfl), (PNM KM 177 rfl)⟩) _).trans ?_
  rfl
theorem q_M_load_r31 {h : zH} {x1 : Int} (KM : KM h) : zBack zY 213 28 31 [some (zR (some 177)), some (zI x1)] [] (some (.inl (none), h)) =
    if (hI h 177 41) = 0 then
      some (.inl (some (zI (hI h 177 10))), (sI (sI (sI h 177 5 0) 177 7 0) 177 1 0))
    else
      zBack zY 213 39 42 [some (zR (some 177)), some (zI x1)] [] (zC 238 [zR (some 177)] h) := by
  refine (show zBack zY 213 28 31 [some (zR (some 177)), some (zI x1)] [] (some (.inl (none), h)) = gd (zob h (some 177) 12) (if (hI h 177 41) = 0 then zY 213 48 [some (zR (some 177)), some (zI x1)] [] h else zY 213 38 [some (zR (some 177)), some (zI x1)] [] h) from zGo 3 213 31 _ _ _).trans ?_
  refine (gd_t (⟨rfl, (PTM KM 177 _ rfl rfl), (PNM KM 177 rfl)⟩) _).trans ?_
  refine iteC (fun c0 => ?_) (fun c0 => ?_)
  · skip
    refine (show zY 213 48 [some (zR (some 177)), some (zI x1)] [] h = gd (inR (0)) (gd (zob h (some 177) 12) (gd (inR (0)) (gd (zob (sI h 177 5 0) (some 177) 12) (gd (zob (sI (sI h 177 5 0) 177 7 0) (some 177) 12) (gd (false = zctor 212 ∧ zcs [] ≤ 8 ∧ zrm 213 (zrf 212 + 1) (8 + (zmaxl 212 + 11) + zrl 212) = true ∧ zcs [zR (some 177), zI (hI h 177 10)] ≤ zmaxl 212) (gd (zob (sI (sI h 177 5 0) 177 7 0) (some 177) 12) (zBack zY 213 63 66 [some (zR (some 177)), some (zI x1)] [] (zC 212 [zR (some 177), zI (hI h 177 10)] (sI (sI h 177 5 0) 177 7 0))))))))) from zGo 10 213 48 _ _ _).trans ?_
    refine (gd_t (by decide) _).trans ?_
    refine (gd_t (⟨rfl, (PTM KM 177 _ rfl rfl), (PNM KM 177 rfl)⟩) _).trans ?_
    refine (gd_t (by decide) _).trans ?_
    refine (gd_t (⟨rfl, (PTM KM 177 _ rfl rfl), (PNM KM 177 rfl)⟩) _).trans ?_
    refine (gd_t (⟨rfl, (PTM KM 177 _ rfl rfl), (PNM KM 177 rfl)⟩) _).trans ?_
    refine (gd_t (⟨rfl, Nat.le_of_ble_eq_true rfl, rfl, Nat.le_of_ble_eq_true rfl⟩) _).trans ?_
    refine (gd_t (⟨rfl, (PTM KM 177 _ rfl rfl), (PNM KM 177 rfl)⟩) _).trans ?_
    refine (congrArg (zBack zY 213 63 66 [some (zR (some 177)), some (zI x1)] []) (q_M_told (h := (sI (sI h 177 5 0) 177 7 0)) KM)).trans ?_
    refine (show zY 213 66 [some (zR (some 177)), some (zI x1)] [zI (hI h 177 10)] (sI (sI (sI h 177 5 0) 177 7 0) 177 1 0) = gd (([] : List zV).isEmpty = true ∧ (zrk 213 = 1 ∨ zrk 213 = 6 ∧ (((hI h 177 10) : Int) = 0 ∨ ((hI h 177 10) : Int) = 1))) (some (.inl (some (zI (hI h 177 10))), (sI (sI (sI h 177 5 0) 177 7 0) 177 1 0))) from zGo 1 213 66 _ _ _).trans ?_
    refine (gd_t (⟨rfl, Or.inl rfl⟩) _).trans ?_
    rfl
  · skip
    refine (show zY 213 38 [some (zR (some 177)), some (zI x1)] [] h = gd (false = zctor 238 ∧ zcs [] ≤ 8 ∧ zrm 213 (zrf 238 + 1) (8 + (zmaxl 238 + 11) + zrl 238) = true ∧ zcs [zR (some 177)] ≤ zmaxl 238) (gd (zob h (some 177) 12) (zBack zY 213 39 42 [some (zR (some 177)), some (zI x1)] [] (zC 238 [zR (some 177)] h))) from zGo 2 213 38 _ _ _).trans ?_
    refine (gd_t (⟨rfl, Nat.le_of_ble_eq_true rfl, rfl, Nat.le_of_ble_eq_true rfl⟩) _).trans ?_
    refine (gd_t (⟨rfl, (PTM KM 177 _ rfl rfl), (PNM KM 177 rfl)⟩) _).trans ?_
    rfl
theorem q_M_load_r42 {h : zH} {x1 : Int} (KM : KM h) : zBack zY 213 39 42 [some (zR (some 177)), some (zI x1)] [] (some (.inl (none), h)) =
    some (.inl (some (zI 0)), (sI h 177 1 2)) := by
  refine (show zBack zY 213 39 42 [some (zR (some 177)), some (zI x1)] [] (some (.inl (none), h)) = gd (inR (2)) (gd (false = zctor 210 ∧ zcs [] ≤ 8 ∧ zrm 213 (zrf 210 + 1) (8 + (zmaxl 210 + 11) + zrl 210) = true ∧ zcs [zR (some 177), zI 2] ≤ zmaxl 210) (gd (zob h (some 177) 12) (zBack zY 213 44 47 [some (zR (some 177)), some (zI x1)] [] (zC 210 [zR (some 177), zI 2] h)))) from zGo 3 213 42 _ _ _).trans ?_
  refine (gd_t (by decide) _).trans ?_
  refine (gd_t (⟨rfl, Nat.le_of_ble_eq_true rfl, rfl, Nat.le_of_ble_eq_true rfl⟩) _).trans ?_
  refine (gd_t (⟨rfl, (PTM KM 177 _ rfl rfl), (PNM KM 177 rfl)⟩) _).trans ?_
  refine (congrArg (zBack zY 213 44 47 [some (zR (some 177)), some (zI x1)] []) (q_M_refuse KM)).trans ?_
  refine (show zY 213 47 [some (zR (some 177)), some (zI x1)] [zI 0] (sI h 177 1 2) = gd (([] : List zV).isEmpty = true ∧ (zrk 213 = 1 ∨ zrk 213 = 6 ∧ ((0 : Int) = 0 ∨ (0 : Int) = 1))) (some (.inl (some (zI 0)), (sI h 177 1 2))) from zGo 1 213 47 _ _ _).trans ?_
  refine (gd_t (⟨rfl, Or.inl rfl⟩) _).trans ?_
  rfl
theorem q_M_setsForm {h : zH} {x1 : Int} {x2 : Int} {x3 : Int} (KM : KM h) : zC 340 [zR (some 177), zI x1, zI x2, zI x3] h =
    zBack zY 340 1 4 [some (zR (some 177)), some (zI x1), some (zI x2), some (zI x3), none] [] (zC 215 [zR (some 177)] h) := by
  refine (show zC 340 [zR (some 177), zI x1, zI x2, zI x3] h = gd (false = zctor 215 ∧ zcs [] ≤ 8 ∧ zrm 340 (zrf 215 + 1) (8 + (zmaxl 215 + 11) + zrl 215) = true ∧ zcs [zR (some 177)] ≤ zmaxl 215) (gd (zob h (some 177) 12) (zBack zY 340 1 4 [some (zR (some 177)), some (zI x1), some (zI x2), some (zI x3), none] [] (zC 215 [zR (some 177)] h))) from zGo 2 340 0 _ _ _).trans ?_
  refine (gd_t (⟨rfl, Nat.le_of_ble_eq_true rfl, rfl, Nat.le_of_ble_eq_true rfl⟩) _).trans ?_
  refine (gd_t (⟨rfl, (PTM KM 177 _ rfl rfl), (PNM KM 177 rfl)⟩) _).trans ?_
  rfl
theorem q_M_setsForm_r4 {h : zH} {x1 : Int} {x2 : Int} {x3 : Int} (KM : KM h) : zBack zY 340 1 4 [some (zR (some 177)), some (zI x1), some (zI x2), some (zI x3), none] [] (some (.inl (none), h)) =
    zBack zY 340 6 9 [some (zR (some 177)), some (zI x1), some (zI x2), some (zI x3), none] [] (zC 217 [zR (some 177), zI x3] h) := by
  refine (show zBack zY 340 1 4 [some (zR (some 177)), some (zI x1), some (zI x2), some (zI x3), none] [] (some (.inl (none), h)) = gd (false = zctor 217 ∧ zcs [] ≤ 8 ∧ zrm 340 (zrf 217 + 1) (8 + (zmaxl 217 + 11) + zrl 217) = true ∧ zcs [zR (some 177), zI x3] ≤ zmaxl 217) (gd (zob h (some 177) 12) (zBack zY 340 6 9 [some (zR (some 177)), some (zI x1), some (zI x2), some (zI x3), none] [] (zC 217 [zR (some 177), zI x3] h))) from zGo 3 340 4 _ _ _).trans ?_
  refine (gd_t (⟨rfl, Nat.le_of_ble_eq_true rfl, rfl, Nat.le_of_ble_eq_true rfl⟩) _).trans ?_
  refine (gd_t (⟨rfl, (PTM KM 177 _ rfl rfl), (PNM KM 177 rfl)⟩) _).trans ?_
  rfl
theorem q_M_setsForm_r9 {h : zH} {x1 : Int} {x2 : Int} {x3 : Int} (KM : KM h) : zBack zY 340 6 9 [some (zR (some 177)), some (zI x1), some (zI x2), some (zI x3), none] [] (some (.inl (none), h)) =
    zBack zY 340 12 15 [some (zR (some 177)), some (zI x1), some (zI x2), some (zI x3), none] [] (zC 224 [zR (some 177), zI x1, zI x2] h) := by
  refine (show zBack zY 340 6 9 [some (zR (some 177)), some (zI x1), some (zI x2), some (zI x3), none] [] (some (.inl (none), h)) = gd (false = zctor 224 ∧ zcs [] ≤ 8 ∧ zrm 340 (zrf 224 + 1) (8 + (zmaxl 224 + 11) + zrl 224) = true ∧ zcs [zR (some 177), zI x1, zI x2] ≤ zmaxl 224) (gd (zob h (some 177) 12) (zBack zY 340 12 15 [some (zR (some 177)), some (zI x1), some (zI x2), some (zI x3), none] [] (zC 224 [zR (some 177), zI x1, zI x2] h))) from zGo 4 340 9 _ _ _).trans ?_
  refine (gd_t (⟨rfl, Nat.le_of_ble_eq_true rfl, rfl, Nat.le_of_ble_eq_true rfl⟩) _).trans ?_
  refine (gd_t (⟨rfl, (PTM KM 177 _ rfl rfl), (PNM KM 177 rfl)⟩) _).trans ?_
  rfl
theorem q_M_setsForm_r15 {h : zH} {x1 : Int} {x2 : Int} {x3 : Int} (KM : KM h) : zBack zY 340 12 15 [some (zR (some 177)), some (zI x1), some (zI x2), some (zI x3), none] [] (some (.inl (none), h)) =
    if (hI h 177 41) = 0 then
      if (hI h 177 37) = 0 then
        zBack zY 340 35 38 [some (zR (some 177)), some (zI x1), some (zI x2), some (zI x3), none] [] (zC 237 [zR (some 177)] h)
      else
        zBack zY 340 31 34 [some (zR (some 177)), some (zI x1), some (zI x2), some (zI x3), none] [] (zC 223 [zR (some 177), zI 1] h)
    else
      zBack zY 340 35 38 [some (zR (some 177)), some (zI x1), some (zI x2), some (zI x3), none] [] (zC 237 [zR (some 177)] h) := by
  refine (show zBack zY 340 12 15 [some (zR (some 177)), some (zI x1), some (zI x2), some (zI x3), none] [] (some (.inl (none), h)) = gd (zob h (some 177) 12) (if (hI h 177 41) = 0 then zY 340 22 [some (zR (some 177)), some (zI x1), some (zI x2), some (zI x3), none] [] h else zY 340 34 [some (zR (some 177)), some (zI x1), some (zI x2), some (zI x3), none] [] h) from zGo 3 340 15 _ _ _).trans ?_
  refine (gd_t (⟨rfl, (PTM KM 177 _ rfl rfl), (PNM KM 177 rfl)⟩) _).trans ?_
  refine iteC (fun c0 => ?_) (fun c0 => ?_)
  · skip
    refine (show zY 340 22 [some (zR (some 177)), some (zI x1), some (zI x2), some (zI x3), none] [] h = gd (zob h (some 177) 12) (if (hI h 177 37) = 0 then zY 340 34 [some (zR (some 177)), some (zI x1), some (zI x2), some (zI x3), none] [] h else zY 340 29 [some (zR (some 177)), some (zI x1), some (zI x2), some (zI x3), none] [] h) from zGo 3 340 22 _ _ _).trans ?_
    refine (gd_t (⟨rfl, (PTM KM 177 _ rfl rfl), (PNM KM 177 rfl)⟩) _).trans ?_
    refine iteC (fun c1 => ?_) (fun c1 => ?_)
    · skip
      refine (show zY 340 34 [some (zR (some 177)), some (zI x1), some (zI x2), some (zI x3), none] [] h = gd (false = zctor 237 ∧ zcs [] ≤ 8 ∧ zrm 340 (zrf 237 + 1) (8 + (zmaxl 237 + 11) + zrl 237) = true ∧ zcs [zR (some 177)] ≤ zmaxl 237) (gd (zob h (some 177) 12) (zBack zY 340 35 38 [some (zR (some 177)), some (zI x1), some (zI x2), some (zI x3), none] [] (zC 237 [zR (some 177)] h))) from zGo 2 340 34 _ _ _).trans ?_
      refine (gd_t (⟨rfl, Nat.le_of_ble_eq_true rfl, rfl, Nat.le_of_ble_eq_true rfl⟩) _).trans ?_
      refine (gd_t (⟨rfl, (PTM KM 177 _ rfl rfl), (PNM KM 177 rfl)⟩) _).trans ?_
      rfl
    · skip
      refine (show zY 340 29 [some (zR (some 177)), some (zI x1), some (zI x2), some (zI x3), none] [] h = gd (inR (1)) (gd (false = zctor 223 ∧ zcs [] ≤ 8 ∧ zrm 340 (zrf 223 + 1) (8 + (zmaxl 223 + 11) + zrl 223) = true ∧ zcs [zR (some 177), zI 1] ≤ zmaxl 223) (gd (zob h (some 177) 12) (zBack zY 340 31 34 [some (zR (some 177)), some (zI x1), some (zI x2), some (zI x3), none] [] (zC 223 [zR (some 177), zI 1] h)))) from zGo 3 340 29 _ _ _).trans ?_
      refine (gd_t (by decide) _).trans ?_
      refine (gd_t (⟨rfl, Nat.le_of_ble_eq_true rfl, rfl, Nat.le_of_ble_eq_true rfl⟩) _).trans ?_
      refine (gd_t (⟨rfl, (PTM KM 177 _ rfl rfl), (PNM KM 177 rfl)⟩) _).trans ?_
      rfl
  · skip
    refine (show zY 340 34 [some (zR (some 177)), some (zI x1), some (zI x2), some (zI x3), none] [] h = gd (false = zctor 237 ∧ zcs [] ≤ 8 ∧ zrm 340 (zrf 237 + 1) (8 + (zmaxl 237 + 11) + zrl 237) = true ∧ zcs [zR (some 177)] ≤ zmaxl 237) (gd (zob h (some 177) 12) (zBack zY 340 35 38 [some (zR (some 177)), some (zI x1), some (zI x2), some (zI x3), none] [] (zC 237 [zR (some 177)] h))) from zGo 2 340 34 _ _ _).trans ?_
    refine (gd_t (⟨rfl, Nat.le_of_ble_eq_true rfl, rfl, Nat.le_of_ble_eq_true rfl⟩) _).trans ?_
    refine (gd_t (⟨rfl, (PTM KM 177 _ rfl rfl), (PNM KM 177 rfl)⟩) _).trans ?_
    rfl
theorem q_M_setsForm_r34 {h : zH} {x1 : Int} {x2 : Int} {x3 : Int} (KM : KM h) : zBack zY 340 31 34 [some (zR (some 177)), some (zI x1), some (zI x2), some (zI x3), none] [] (some (.inl (none), h)) =
    zBack zY 340 35 38 [some (zR (some 177)), some (zI x1), some (zI x2), some (zI x3), none] [] (zC 237 [zR (some 177)] h) := by
  refine (show zBack zY 340 31 34 [some (zR (some 177)), some (zI x1), some (zI x2), some (zI x3), none] [] (some (.inl (none), h)) = gd (false = zctor 237 ∧ zcs [] ≤ 8 ∧ zrm 340 (zrf 237 + 1) (8 + (zmaxl 237 + 11) + zrl 237) = true ∧ zcs [zR (some 177)] ≤ zmaxl 237) (gd (zob h (some 177) 12) (zBack zY 340 35 38 [some (zR (some 177)), some (zI x1), some (zI x2), some (zI x3), none] [] (zC 237 [zR (some 177)] h))) from zGo 2 340 34 _ _ _).trans ?_
  refine (gd_t (⟨rfl, Nat.le_of_ble_eq_true rfl, rfl, Nat.le_of_ble_eq_true rfl⟩) _).trans ?_
  refine (gd_t (⟨rfl, (PTM KM 177 _ rfl rfl), (PNM KM 177 rfl)⟩) _).trans ?_
  rfl
theorem q_M_setsForm_r38 {h : zH} {x1 : Int} {x2 : Int} {x3 : Int} (KM : KM h) : zBack zY 340 35 38 [some (zR (some 177)), some (zI x1), some (zI x2), some (zI x3), none] [] (some (.inl (none), h)) =
    zY 340 41 [some (zR (some 177)), some (zI x1), some (zI x2), some (zI x3), some (zI 0)] [] h := by
  refine (show zBack zY 340 35 38 [some (zR (some 177)), some (zI x1), some (zI x2), some (zI x3), none] [] (some (.inl (none), h)) = gd (inR (0)) (zY 340 41 [some (zR (some 177)), some (zI x1), some (zI x2), some (zI x3), some (zI 0)] [] h) from zGo 2 340 38 _ _ _).trans ?_
  refine (gd_t (by decide) _).trans ?_
  rfl
theorem q_M_setsForm_41 {h : zH} {x1 : Int} {x2 : Int} {x3 : Int} {x4 : Int} (KM : KM h) : zY 340 41 [some (zR (some 177)), some (zI x1), some (zI x2), some (zI x3), some (zI x4)] [] h =
    if x4 < 31 then
      gd (-2147483648 ≤ 31 * x1 ∧ 31 * x1 < 2147483648) (
      gd (-2147483648 ≤ (31 * x1) + x4 ∧ (31 * x1) + x4 < 2147483648) (
      gd (0 ≤ ((31 * x1) + x4) ∧ ((31 * x1) + x4) < 2342) (
      gd (0 ≤ x4 ∧ x4 < 201) (
      gd (-2147483648 ≤ x4 + 1 ∧ x4 + 1 < 2147483648) (
      zY 340 41 [some (zR (some 177)), some (zI x1), some (zI x2), some (zI x3), some (zI (x4 + 1))] [] (sI h 191 x4.toNat (hI h 179 ((31 * x1) + x4).toNat)))))))
    else
      zBack zY 340 74 77 [some (zR (some 177)), some (zI x1), some (zI x2), some (zI x3), some (zI x4)] [] (zC 238 [zR (some 177)] h) := by
  refine (show zY 340 41 [some (zR (some 177)), some (zI x1), some (zI x2), some (zI x3), some (zI x4)] [] h = gd (-128 ≤ (31 : Int) ∧ (31 : Int) < 128) (if x4 < 31 then zY 340 48 [some (zR (some 177)), some (zI x1), some (zI x2), some (zI x3), some (zI x4)] [] h else zY 340 73 [some (zR (some 177)), some (zI x1), some (zI x2), some (zI x3), some (zI x4)] [] h) from zGo 3 340 41 _ _ _).trans ?_
  refine (gd_t (by decide) _).trans ?_
  refine iteC (fun c0 => ?_) (fun c0 => ?_)
  · skip
    refine (show zY 340 48 [some (zR (some 177)), some (zI x1), some (zI x2), some (zI x3), some (zI x4)] [] h = gd (zob h (some 177) 12) (zY 340 52 [some (zR (some 177)), some (zI x1), some (zI x2), some (zI x3), some (zI x4)] [zR (hR h 177 25)] h) from zGo 2 340 48 _ _ _).trans ?_
    refine (gd_t (⟨rfl, (PTM KM 177 _ rfl rfl), (PNM KM 177 rfl)⟩) _).trans ?_
    refine (congrArg (fun r => zY 340 52 [some (zR (some 177)), some (zI x1), some (zI x2), some (zI x3), some (zI x4)] (zR r :: []) h) (PRM KM 177 25 _ rfl)).trans ?_
    refine (show zY 340 52 [some (zR (some 177)), some (zI x1), some (zI x2), some (zI x3), some (zI x4)] [zR (some 191)] h = gd (zob h (some 177) 12) (zY 340 58 [some (zR (some 177)), some (zI x1), some (zI x2), some (zI x3), some (zI x4)] [zR (hR h 177 2), zI x4, zR (some 191)] h) from zGo 3 340 52 _ _ _).trans ?_
    refine (gd_t (⟨rfl, (PTM KM 177 _ rfl rfl), (PNM KM 177 rfl)⟩) _).trans ?_
    refine (congrArg (fun r => zY 340 58 [some (zR (some 177)), some (zI x1), some (zI x2), some (zI x3), some (zI x4)] (zR r :: zI x4 :: zR (some 191) :: []) h) (PRM KM 177 2 _ rfl)).trans ?_
    refine (show zY 340 58 [some (zR (some 177)), some (zI x1), some (zI x2), some (zI x3), some (zI x4)] [zR (some 179), zI x4, zR (some 191)] h = gd (-128 ≤ (31 : Int) ∧ (31 : Int) < 128) (gd (inR (31 * x1)) (gd (inR ((31 * x1) + x4)) (gd (zok h (some 179) 22 ((31 * x1) + x4)) (gd (zokw h (some 191) 22 x4) (gd (inR (x4 + 1)) (gd (inR (1)) (zY 340 41 [some (zR (some 177)), some (zI x1), some (zI x2), some (zI x3), some (zI (x4 + 1))] [] (sI h 191 x4.toNat (hI h 179 ((31 * x1) + x4).toNat))))))))) from zGo 9 340 58 _ _ _).trans ?_
    refine (gd_t (by decide) _).trans ?_
    refine gd_c Iff.rfl (fun c1 => ?_)
    refine gd_c Iff.rfl (fun c2 => ?_)
    refine gd_c (ci (PTM KM 179 _ rfl rfl) (PLM KM 179 2342 rfl rfl)) (fun c3 => ?_)
    refine gd_c (ciw (PTM KM 191 _ rfl rfl) (PNM KM 191 rfl) (PLM KM 191 201 rfl rfl)) (fun c4 => ?_)
    refine gd_c Iff.rfl (fun c5 => ?_)
    refine (gd_t (by decide) _).trans ?_
    rfl
  · skip
    refine (show zY 340 73 [some (zR (some 177)), some (zI x1), some (zI x2), some (zI x3), some (zI x4)] [] h = gd (false = zctor 238 ∧ zcs [] ≤ 8 ∧ zrm 340 (zrf 238 + 1) (8 + (zmaxl 238 + 11) + zrl 238) = true ∧ zcs [zR (some 177)] ≤ zmaxl 238) (gd (zob h (some 177) 12) (zBack zY 340 74 77 [some (zR (some 177)), some (zI x1), some (zI x2), some (zI x3), some (zI x4)] [] (zC 238 [zR (some 177)] h))) from zGo 2 340 73 _ _ _).trans ?_
    refine (gd_t (⟨rfl, Nat.le_of_ble_eq_true rfl, rfl, Nat.le_of_ble_eq_true rfl⟩) _).trans ?_
    refine (gd_t (⟨rfl, (PTM KM 177 _ rfl rfl), (PNM KM 177 rfl)⟩) _).trans ?_
    rfl
theorem q_M_setsForm_r77 {h : zH} {x1 : Int} {x2 : Int} {x3 : Int} {x4 : Int} (KM : KM h) : zBack zY 340 74 77 [some (zR (some 177)), some (zI x1), some (zI x2), some (zI x3), some (zI x4)] [] (some (.inl (none), h)) =
    if (hI h 177 41) = 0 then
      zBack zY 340 87 90 [some (zR (some 177)), some (zI x1), some (zI x2), some (zI x3), some (zI x4)] [] (zC 341 [zR (some 177)] h)
    else
      some (.inl (some (zI 0)), h) := by
  refine (show zBack zY 340 74 77 [some (zR (some 177)), some (zI x1), some (zI x2), some (zI x3), some (zI x4)] [] (some (.inl (none), h)) = gd (zob h (some 177) 12) (if (hI h 177 41) = 0 then zY 340 86 [some (zR (some 177)), some (zI x1), some (zI x2), some (zI x3), some (zI x4)] [] h else zY 340 84 [some (zR (some 177)), some (zI x1), some (zI x2), some (zI x3), some (zI x4)] [] h) from zGo 3 340 77 _ _ _).trans ?_
  refine (gd_t (⟨rfl, (PTM KM 177 _ rfl rfl), (PNM KM 177 rfl)⟩) _).trans ?_
  refine iteC (fun c0 => ?_) (fun c0 => ?_)
  · skip
    refine (show zY 340 86 [some (zR (some 177)), some (zI x1), some (zI x2), some (zI x3), some (zI x4)] [] h = gd (false = zctor 341 ∧ zcs [] ≤ 8 ∧ zrm 340 (zrf 341 + 1) (8 + (zmaxl 341 + 11) + zrl 341) = true ∧ zcs [zR (some 177)] ≤ zmaxl 341) (gd (zob h (some 177) 12) (zBack zY 340 87 90 [some (zR (some 177)), some (zI x1), some (zI x2), some (zI x3), some (zI x4)] [] (zC 341 [zR (some 177)] h))) from zGo 2 340 86 _ _ _).trans ?_
    refine (gd_t (⟨rfl, Nat.le_of_ble_eq_true rfl, rfl, Nat.le_of_ble_eq_true rfl⟩) _).trans ?_
    refine (gd_t (⟨rfl, (PTM KM 177 _ rfl rfl), (PNM KM 177 rfl)⟩) _).trans ?_
    rfl
  · skip
    refine (show zY 340 84 [some (zR (some 177)), some (zI x1), some (zI x2), some (zI x3), some (zI x4)] [] h = gd (inR (0)) (gd (([] : List zV).isEmpty = true ∧ (zrk 340 = 1 ∨ zrk 340 = 6 ∧ ((0 : Int) = 0 ∨ (0 : Int) = 1))) (some (.inl (some (zI 0)), h))) from zGo 2 340 84 _ _ _).trans ?_
    refine (gd_t (by decide) _).trans ?_
    refine (gd_t (⟨rfl, Or.inr ⟨rfl, by decide⟩⟩) _).trans ?_
    rfl
theorem q_M_setsForm_r90 {h : zH} {x1 : Int} {x2 : Int} {x3 : Int} {x4 : Int} (KM : KM h) : zBack zY 340 87 90 [some (zR (some 177)), some (zI x1), some (zI x2), some (zI x3), some (zI x4)] [] (some (.inl (none), h)) =
    zY 340 93 [some (zR (some 177)), some (zI x1), some (zI x2), some (zI x3), some (zI 0)] [] h := by
  refine (show zBack zY 340 87 90 [some (zR (some 177)), some (zI x1), some (zI x2), some (zI x3), some (zI x4)] [] (some (.inl (none), h)) = gd (inR (0)) (zY 340 93 [some (zR (some 177)), some (zI x1), some (zI x2), some (zI x3), some (zI 0)] [] h) from zGo 2 340 90 _ _ _).trans ?_
  refine (gd_t (by decide) _).trans ?_
  rfl
theorem q_M_setsForm_93 {h : zH} {x1 : Int} {x2 : Int} {x3 : Int} {x4 : Int} (KM : KM h) : zY 340 93 [some (zR (some 177)), some (zI x1), some (zI x2), some (zI x3), some (zI x4)] [] h =
    if x4 < 31 then
      gd (-2147483648 ≤ 31 * x1 ∧ 31 * x1 < 2147483648) (
      gd (-2147483648 ≤ (31 * x1) + x4 ∧ (31 * x1) + x4 < 2147483648) (
      gd (0 ≤ x4 ∧ x4 < 201) (
      gd (0 ≤ ((31 * x1) + x4) ∧ ((31 * x1) + x4) < 2342) (
      gd (-2147483648 ≤ x4 + 1 ∧ x4 + 1 < 2147483648) (
      zY 340 93 [some (zR (some 177)), some (zI x1), some (zI x2), some (zI x3), some (zI (x4 + 1))] [] (sI h 179 ((31 * x1) + x4).toNat (hI h 191 x4.toNat)))))))
    else
      some (.inl (some (zI 1)), h) := by
  refine (show zY 340 93 [some (zR (some 177)), some (zI x1), some (zI x2), some (zI x3), some (zI x4)] [] h = gd (-128 ≤ (31 : Int) ∧ (31 : Int) < 128) (if x4 < 31 then zY 340 100 [some (zR (some 177)), some (zI x1), some (zI x2), some (zI x3), some (zI x4)] [] h else zY 340 125 [some (zR (some 177)), some (zI x1), some (zI x2), some (zI x3), some (zI x4)] [] h) from zGo 3 340 93 _ _ _).trans ?_
  refine (gd_t (by decide) _).trans ?_
  refine iteC (fun c0 => ?_) (fun c0 => ?_)
  · skip
    refine (show zY 340 100 [some (zR (some 177)), some (zI x1), some (zI x2), some (zI x3), some (zI x4)] [] h = gd (zob h (some 177) 12) (zY 340 104 [some (zR (some 177)), some (zI x1), some (zI x2), some (zI x3), some (zI x4)] [zR (hR h 177 2)] h) from zGo 2 340 100 _ _ _).trans ?_
    refine (gd_t (⟨rfl, (PTM KM 177 _ rfl rfl), (PNM KM 177 rfl)⟩) _).trans ?_
    refine (congrArg (fun r => zY 340 104 [some (zR (some 177)), some (zI x1), some (zI x2), some (zI x3), some (zI x4)] (zR r :: []) h) (PRM KM 177 2 _ rfl)).trans ?_
    refine (show zY 340 104 [some (zR (some 177)), some (zI x1), some (zI x2), some (zI x3), some (zI x4)] [zR (some 179)] h = gd (-128 ≤ (31 : Int) ∧ (31 : Int) < 128) (gd (inR (31 * x1)) (gd (inR ((31 * x1) + x4)) (gd (zob h (some 177) 12) (zY 340 115 [some (zR (some 177)), some (zI x1), some (zI x2), some (zI x3), some (zI x4)] [zR (hR h 177 25), zI ((31 * x1) + x4), zR (some 179)] h)))) from zGo 7 340 104 _ _ _).trans ?_
    refine (gd_t (by decide) _).trans ?_
    refine gd_c Iff.rfl (fun c1 => ?_)
    refine gd_c Iff.rfl (fun c2 => ?_)
    refine (gd_t (⟨rfl, (PTM KM 177 _ rfl rfl), (PNM KM 177 rfl)⟩) _).trans ?_
    refine (congrArg (fun r => zY 340 115 [some (zR (some 177)), some (zI x1), some (zI x2), some (zI x3), some (zI x4)] (zR r :: zI ((31 * x1) + x4) :: zR (some 179) :: []) h) (PRM KM 177 25 _ rfl)).trans ?_
    refine (show zY 340 115 [some (zR (some 177)), some (zI x1), some (zI x2), some (zI x3), some (zI x4)] [zR (some 191), zI ((31 * x1) + x4), zR (some 179)] h = gd (zok h (some 191) 22 x4) (gd (zokw h (some 179) 22 ((31 * x1) + x4)) (gd (inR (x4 + 1)) (gd (inR (1)) (zY 340 93 [some (zR (some 177)), some (zI x1), some (zI x2), some (zI x3), some (zI (x4 + 1))] [] (sI h 179 ((31 * x1) + x4).toNat (hI h 191 x4.toNat)))))) from zGo 5 340 115 _ _ _).trans ?_
    refine gd_c (ci (PTM KM 191 _ rfl rfl) (PLM KM 191 201 rfl rfl)) (fun c3 => ?_)
    refine gd_c (ciw (PTM KM 179 _ rfl rfl) (PNM KM 179 rfl) (PLM KM 179 2342 rfl rfl)) (fun c4 => ?_)
    refine gd_c Iff.rfl (fun c5 => ?_)
    refine (gd_t (by decide) _).trans ?_
    rfl
  · skip
    refine (show zY 340 125 [some (zR (some 177)), some (zI x1), some (zI x2), some (zI x3), some (zI x4)] [] h = gd (inR (1)) (gd (([] : List zV).isEmpty = true ∧ (zrk 340 = 1 ∨ zrk 340 = 6 ∧ ((1 : Int) = 0 ∨ (1 : Int) = 1))) (some (.inl (some (zI 1)), h))) from zGo 2 340 125 _ _ _).trans ?_
    refine (gd_t (by decide) _).trans ?_
    refine (gd_t (⟨rfl, Or.inr ⟨rfl, by decide⟩⟩) _).trans ?_
    rfl
theorem q_M_setBefore {h : zH} {x1 : Int} (KM : KM h) : zC 338 [zR (some 177), zI x1] h =
    if b_M_isLength h x1 then
      zBack zY 338 18 21 [some (zR (some 177)), some (zI x1)] [] (zC 340 [zR (some 177), zI 0, zI 1, zI x1] h)
    else
      some (.inl (some (zI 0)), (sI h 177 1 1)) := by
  refine (show zC 338 [zR (some 177), zI x1] h = gd (false = zctor 339 ∧ zcs [] ≤ 8 ∧ zrm 338 (zrf 339 + 1) (8 + (zmaxl 339 + 11) + zrl 339) = true ∧ zcs [zR (some 177), zI x1] ≤ zmaxl 339) (gd (zob h (some 177) 12) (zBack zY 338 2 5 [some (zR (some 177)), some (zI x1)] [] (zC 339 [zR (some 177), zI x1] h))) from zGo 3 338 0 _ _ _).trans ?_
  refine (gd_t (⟨rfl, Nat.le_of_ble_eq_true rfl, rfl, Nat.le_of_ble_eq_true rfl⟩) _).trans ?_
  refine (gd_t (⟨rfl, (PTM KM 177 _ rfl rfl), (PNM KM 177 rfl)⟩) _).trans ?_
  refine (congrArg (zBack zY 338 2 5 [some (zR (some 177)), some (zI x1)] []) (e_M_isLength KM)).trans ?_
  refine (show zY 338 5 [some (zR (some 177)), some (zI x1)] [zI (if b_M_isLength h x1 then (1 : Int) else 0)] h = if (if b_M_isLength h x1 then (1 : Int) else 0) = 0 then zY 338 8 [some (zR (some 177)), some (zI x1)] [] h else zY 338 14 [some (zR (some 177)), some (zI x1)] [] h from zGo 1 338 5 _ _ _).trans ?_
  refine iteB (fun c0 => ?_) (fun c0 => ?_)
  · skip
    refine (show zY 338 14 [some (zR (some 177)), some (zI x1)] [] h = gd (inR (0)) (gd (inR (1)) (gd (false = zctor 340 ∧ zcs [] ≤ 8 ∧ zrm 338 (zrf 340 + 1) (8 + (zmaxl 340 + 11) + zrl 340) = true ∧ zcs [zR (some 177), zI 0, zI 1, zI x1] ≤ zmaxl 340) (gd (zob h (some 177) 12) (zBack zY 338 18 21 [some (zR (some 177)), some (zI x1)] [] (zC 340 [zR (some 177), zI 0, zI 1, zI x1] h))))) from zGo 5 338 14 _ _ _).trans ?_
    refine (gd_t (by decide) _).trans ?_
    refine (gd_t (by decide) _).trans ?_
    refine (gd_t (⟨rfl, Nat.le_of_ble_eq_true rfl, rfl, Nat.le_of_ble_eq_true rfl⟩) _).trans ?_
    refine (gd_t (⟨rfl, (PTM KM 177 _ rfl rfl), (PNM KM 177 rfl)⟩) _).trans ?_
    rfl
  · skip
    refine (show zY 338 8 [some (zR (some 177)), some (zI x1)] [] h = gd (inR (1)) (gd (false = zctor 210 ∧ zcs [] ≤ 8 ∧ zrm 338 (zrf 210 + 1) (8 + (zmaxl 210 + 11) + zrl 210) = true ∧ zcs [zR (some 177), zI 1] ≤ zmaxl 210) (gd (zob h (some 177) 12) (zBack zY 338 10 13 [some (zR (some 177)), some (zI x1)] [] (zC 210 [zR (some 177), zI 1] h)))) from zGo 3 338 8 _ _ _).trans ?_
    refine (gd_t (by decide) _).trans ?_
    refine (gd_t (⟨rfl, Nat.le_of_ble_eq_true rfl, rfl, Nat.le_of_ble_eq_true rfl⟩) _).trans ?_
    refine (gd_t (⟨rfl, (PTM KM 177 _ rfl rfl), (PNM KM 177 rfl)⟩) _).trans ?_
    refine (congrArg (zBack zY 338 10 13 [some (zR (some 177)), some (zI x1)] []) (q_M_refuse KM)).trans ?_
    refine (show zY 338 13 [some (zR (some 177)), some (zI x1)] [zI 0] (sI h 177 1 1) = gd (([] : List zV).isEmpty = true ∧ (zrk 338 = 1 ∨ zrk 338 = 6 ∧ ((0 : Int) = 0 ∨ (0 : Int) = 1))) (some (.inl (some (zI 0)), (sI h 177 1 1))) from zGo 1 338 13 _ _ _).trans ?_
    refine (gd_t (⟨rfl, Or.inl rfl⟩) _).trans ?_
    rfl
theorem q_M_setBefore_r21 {h : zH} {x1 : Int} {y : Int} (KM : KM h) : zBack zY 338 18 21 [some (zR (some 177)), some (zI x1)] [] (some (.inl (some (zI y)), h)) =
    if y = 0 then
      some (.inl (some (zI 0)), (sI h 177 1 2))
    else
      zBack zY 338 33 36 [some (zR (some 177)), some (zI x1)] [zR (some 177)] (zC 248 [zR (some 177), zI 0] h) := by
  refine (show zBack zY 338 18 21 [some (zR (some 177)), some (zI x1)] [] (some (.inl (some (zI y)), h)) = if y = 0 then zY 338 24 [some (zR (some 177)), some (zI x1)] [] h else zY 338 30 [some (zR (some 177)), some (zI x1)] [] h from zGo 1 338 21 _ _ _).trans ?_
  refine iteC (fun c0 => ?_) (fun c0 => ?_)
  · skip
    refine (show zY 338 24 [some (zR (some 177)), some (zI x1)] [] h = gd (inR (2)) (gd (false = zctor 210 ∧ zcs [] ≤ 8 ∧ zrm 338 (zrf 210 + 1) (8 + (zmaxl 210 + 11) + zrl 210) = true ∧ zcs [zR (some 177), zI 2] ≤ zmaxl 210) (gd (zob h (some 177) 12) (zBack zY 338 26 29 [some (zR (some 177)), some (zI x1)] [] (zC 210 [zR (some 177), zI 2] h)))) from zGo 3 338 24 _ _ _).trans ?_
    refine (gd_t (by decide) _).trans ?_
    refine (gd_t (⟨rfl, Nat.le_of_ble_eq_true rfl, rfl, Nat.le_of_ble_eq_true rfl⟩) _).trans ?_
    refine (gd_t (⟨rfl, (PTM KM 177 _ rfl rfl), (PNM KM 177 rfl)⟩) _).trans ?_
    refine (congrArg (zBack zY 338 26 29 [some (zR (some 177)), some (zI x1)] []) (q_M_refuse KM)).trans ?_
    refine (show zY 338 29 [some (zR (some 177)), some (zI x1)] [zI 0] (sI h 177 1 2) = gd (([] : List zV).isEmpty = true ∧ (zrk 338 = 1 ∨ zrk 338 = 6 ∧ ((0 : Int) = 0 ∨ (0 : Int) = 1))) (some (.inl (some (zI 0)), (sI h 177 1 2))) from zGo 1 338 29 _ _ _).trans ?_
    refine (gd_t (⟨rfl, Or.inl rfl⟩) _).trans ?_
    rfl
  · skip
    refine (show zY 338 30 [some (zR (some 177)), some (zI x1)] [] h = gd (inR (0)) (gd (false = zctor 248 ∧ zcs [zR (some 177)] ≤ 8 ∧ zrm 338 (zrf 248 + 1) (8 + (zmaxl 248 + 11) + zrl 248) = true ∧ zcs [zR (some 177), zI 0] ≤ zmaxl 248) (gd (zob h (some 177) 12) (zBack zY 338 33 36 [some (zR (some 177)), some (zI x1)] [zR (some 177)] (zC 248 [zR (some 177), zI 0] h)))) from zGo 4 338 30 _ _ _).trans ?_
    refine (gd_t (by decide) _).trans ?_
    refine (gd_t (⟨rfl, Nat.le_of_ble_eq_true rfl, rfl, Nat.le_of_ble_eq_true rfl⟩) _).trans ?_
    refine (gd_t (⟨rfl, (PTM KM 177 _ rfl rfl), (PNM KM 177 rfl)⟩) _).trans ?_
    rfl
theorem q_M_setBefore_r36 {h : zH} {x1 : Int} {y : BitVec 64} (KM : KM h) : zBack zY 338 33 36 [some (zR (some 177)), some (zI x1)] [zR (some 177)] (some (.inl (some (zJ y)), h)) =
    some (.inl (some (zI (f_M_ones y))), (sI h 177 1 0)) := by
  refine (show zBack zY 338 33 36 [some (zR (some 177)), some (zI x1)] [zR (some 177)] (some (.inl (some (zJ y)), h)) = gd (false = zctor 291 ∧ zcs [zR (some 177)] ≤ 8 ∧ zrm 338 (zrf 291 + 1) (8 + (zmaxl 291 + 11) + zrl 291) = true ∧ zcs [zJ y] ≤ zmaxl 291) (zBack zY 338 36 39 [some (zR (some 177)), some (zI x1)] [zR (some 177)] (zC 291 [zJ y] h)) from zGo 1 338 36 _ _ _).trans ?_
  refine (gd_t (⟨rfl, Nat.le_of_ble_eq_true rfl, rfl, Nat.le_of_ble_eq_true rfl⟩) _).trans ?_
  refine (congrArg (zBack zY 338 36 39 [some (zR (some 177)), some (zI x1)] [zR (some 177)]) (e_M_ones)).trans ?_
  refine (show zY 338 39 [some (zR (some 177)), some (zI x1)] [zI (f_M_ones y), zR (some 177)] h = gd (false = zctor 212 ∧ zcs [] ≤ 8 ∧ zrm 338 (zrf 212 + 1) (8 + (zmaxl 212 + 11) + zrl 212) = true ∧ zcs [zR (some 177), zI (f_M_ones y)] ≤ zmaxl 212) (gd (zob h (some 177) 12) (zBack zY 338 39 42 [some (zR (some 177)), some (zI x1)] [] (zC 212 [zR (some 177), zI (f_M_ones y)] h))) from zGo 1 338 39 _ _ _).trans ?_
  refine (gd_t (⟨rfl, Nat.le_of_ble_eq_true rfl, rfl, Nat.le_of_ble_eq_true rfl⟩) _).trans ?_
  refine (gd_t (⟨rfl, (PTM KM 177 _ rfl rfl), (PNM KM 177 rfl)⟩) _).trans ?_
  refine (congrArg (zBack zY 338 39 42 [some (zR (some 177)), some (zI x1)] []) (q_M_told KM)).trans ?_
  refine (show zY 338 42 [some (zR (some 177)), some (zI x1)] [zI (f_M_ones y)] (sI h 177 1 0) = gd (([] : List zV).isEmpty = true ∧ (zrk 338 = 1 ∨ zrk 338 = 6 ∧ (((f_M_ones y) : Int) = 0 ∨ ((f_M_ones y) : Int) = 1))) (some (.inl (some (zI (f_M_ones y))), (sI h 177 1 0))) from zGo 1 338 42 _ _ _).trans ?_
  refine (gd_t (⟨rfl, Or.inl rfl⟩) _).trans ?_
  rfl
theorem q_M_setAfter {h : zH} {x1 : Int} (KM : KM h) : zC 342 [zR (some 177), zI x1] h =
    if b_M_isLength h x1 then
      zBack zY 342 18 21 [some (zR (some 177)), some (zI x1)] [] (zC 340 [zR (some 177), zI 1, zI 1, zI x1] h)
    else
      some (.inl (some (zI 0)), (sI h 177 1 1)) := by
  refine (show zC 342 [zR (some 177), zI x1] h = gd (false = zctor 339 ∧ zcs [] ≤ 8 ∧ zrm 342 (zrf 339 + 1) (8 + (zmaxl 339 + 11) + zrl 339) = true ∧ zcs [zR (some 177), zI x1] ≤ zmaxl 339) (gd (zob h (some 177) 12) (zBack zY 342 2 5 [some (zR (some 177)), some (zI x1)] [] (zC 339 [zR (some 177), zI x1] h))) from zGo 3 342 0 _ _ _).trans ?_
  refine (gd_t (⟨rfl, Nat.le_of_ble_eq_true rfl, rfl, Nat.le_of_ble_eq_true rfl⟩) _).trans ?_
  refine (gd_t (⟨rfl, (PTM KM 177 _ rfl rfl), (PNM KM 177 rfl)⟩) _).trans ?_
  refine (congrArg (zBack zY 342 2 5 [some (zR (some 177)), some (zI x1)] []) (e_M_isLength KM)).trans ?_
  refine (show zY 342 5 [some (zR (some 177)), some (zI x1)] [zI (if b_M_isLength h x1 then (1 : Int) else 0)] h = if (if b_M_isLength h x1 then (1 : Int) else 0) = 0 then zY 342 8 [some (zR (some 177)), some (zI x1)] [] h else zY 342 14 [some (zR (some 177)), some (zI x1)] [] h from zGo 1 342 5 _ _ _).trans ?_
  refine iteB (fun c0 => ?_) (fun c0 => ?_)
  · skip
    refine (show zY 342 14 [some (zR (some 177)), some (zI x1)] [] h = gd (inR (1)) (gd (inR (1)) (gd (false = zctor 340 ∧ zcs [] ≤ 8 ∧ zrm 342 (zrf 340 + 1) (8 + (zmaxl 340 + 11) + zrl 340) = true ∧ zcs [zR (some 177), zI 1, zI 1, zI x1] ≤ zmaxl 340) (gd (zob h (some 177) 12) (zBack zY 342 18 21 [some (zR (some 177)), some (zI x1)] [] (zC 340 [zR (some 177), zI 1, zI 1, zI x1] h))))) from zGo 5 342 14 _ _ _).trans ?_
    refine (gd_t (by decide) _).trans ?_
    refine (gd_t (by decide) _).trans ?_
    refine (gd_t (⟨rfl, Nat.le_of_ble_eq_true rfl, rfl, Nat.le_of_ble_eq_true rfl⟩) _).trans ?_
    refine (gd_t (⟨rfl, (PTM KM 177 _ rfl rfl), (PNM KM 177 rfl)⟩) _).trans ?_
    rfl
  · skip
    refine (show zY 342 8 [some (zR (some 177)), some (zI x1)] [] h = gd (inR (1)) (gd (false = zctor 210 ∧ zcs [] ≤ 8 ∧ zrm 342 (zrf 210 + 1) (8 + (zmaxl 210 + 11) + zrl 210) = true ∧ zcs [zR (some 177), zI 1] ≤ zmaxl 210) (gd (zob h (some 177) 12) (zBack zY 342 10 13 [some (zR (some 177)), some (zI x1)] [] (zC 210 [zR (some 177), zI 1] h)))) from zGo 3 342 8 _ _ _).trans ?_
    refine (gd_t (by decide) _).trans ?_
    refine (gd_t (⟨rfl, Nat.le_of_ble_eq_true rfl, rfl, Nat.le_of_ble_eq_true rfl⟩) _).trans ?_
    refine (gd_t (⟨rfl, (PTM KM 177 _ rfl rfl), (PNM KM 177 rfl)⟩) _).trans ?_
    refine (congrArg (zBack zY 342 10 13 [some (zR (some 177)), some (zI x1)] []) (q_M_refuse KM)).trans ?_
    refine (show zY 342 13 [some (zR (some 177)), some (zI x1)] [zI 0] (sI h 177 1 1) = gd (([] : List zV).isEmpty = true ∧ (zrk 342 = 1 ∨ zrk 342 = 6 ∧ ((0 : Int) = 0 ∨ (0 : Int) = 1))) (some (.inl (some (zI 0)), (sI h 177 1 1))) from zGo 1 342 13 _ _ _).trans ?_
    refine (gd_t (⟨rfl, Or.inl rfl⟩) _).trans ?_
    rfl
theorem q_M_setAfter_r21 {h : zH} {x1 : Int} {y : Int} (KM : KM h) : zBack zY 342 18 21 [some (zR (some 177)), some (zI x1)] [] (some (.inl (some (zI y)), h)) =
    if y = 0 then
      some (.inl (some (zI 0)), (sI h 177 1 2))
    else
      zBack zY 342 33 36 [some (zR (some 177)), some (zI x1)] [zR (some 177)] (zC 248 [zR (some 177), zI 1] h) := by
  refine (show zBack zY 342 18 21 [some (zR (some 177)), some (zI x1)] [] (some (.inl (some (zI y)), h)) = if y = 0 then zY 342 24 [some (zR (some 177)), some (zI x1)] [] h else zY 342 30 [some (zR (some 177)), some (zI x1)] [] h from zGo 1 342 21 _ _ _).trans ?_
  refine iteC (fun c0 => ?_) (fun c0 => ?_)
  · skip
    refine (show zY 342 24 [some (zR (some 177)), some (zI x1)] [] h = gd (inR (2)) (gd (false = zctor 210 ∧ zcs [] ≤ 8 ∧ zrm 342 (zrf 210 + 1) (8 + (zmaxl 210 + 11) + zrl 210) = true ∧ zcs [zR (some 177), zI 2] ≤ zmaxl 210) (gd (zob h (some 177) 12) (zBack zY 342 26 29 [some (zR (some 177)), some (zI x1)] [] (zC 210 [zR (some 177), zI 2] h)))) from zGo 3 342 24 _ _ _).trans ?_
    refine (gd_t (by decide) _).trans ?_
    refine (gd_t (⟨rfl, Nat.le_of_ble_eq_true rfl, rfl, Nat.le_of_ble_eq_true rfl⟩) _).trans ?_
    refine (gd_t (⟨rfl, (PTM KM 177 _ rfl rfl), (PNM KM 177 rfl)⟩) _).trans ?_
    refine (congrArg (zBack zY 342 26 29 [some (zR (some 177)), some (zI x1)] []) (q_M_refuse KM)).trans ?_
    refine (show zY 342 29 [some (zR (some 177)), some (zI x1)] [zI 0] (sI h 177 1 2) = gd (([] : List zV).isEmpty = true ∧ (zrk 342 = 1 ∨ zrk 342 = 6 ∧ ((0 : Int) = 0 ∨ (0 : Int) = 1))) (some (.inl (some (zI 0)), (sI h 177 1 2))) from zGo 1 342 29 _ _ _).trans ?_
    refine (gd_t (⟨rfl, Or.inl rfl⟩) _).trans ?_
    rfl
  · skip
    refine (show zY 342 30 [some (zR (some 177)), some (zI x1)] [] h = gd (inR (1)) (gd (false = zctor 248 ∧ zcs [zR (some 177)] ≤ 8 ∧ zrm 342 (zrf 248 + 1) (8 + (zmaxl 248 + 11) + zrl 248) = true ∧ zcs [zR (some 177), zI 1] ≤ zmaxl 248) (gd (zob h (some 177) 12) (zBack zY 342 33 36 [some (zR (some 177)), some (zI x1)] [zR (some 177)] (zC 248 [zR (some 177), zI 1] h)))) from zGo 4 342 30 _ _ _).trans ?_
    refine (gd_t (by decide) _).trans ?_
    refine (gd_t (⟨rfl, Nat.le_of_ble_eq_true rfl, rfl, Nat.le_of_ble_eq_true rfl⟩) _).trans ?_
    refine (gd_t (⟨rfl, (PTM KM 177 _ rfl rfl), (PNM KM 177 rfl)⟩) _).trans ?_
    rfl
theorem q_M_setAfter_r36 {h : zH} {x1 : Int} {y : BitVec 64} (KM : KM h) : zBack zY 342 33 36 [some (zR (some 177)), some (zI x1)] [zR (some 177)] (some (.inl (some (zJ y)), h)) =
    some (.inl (some (zI (f_M_ones y))), (sI h 177 1 0)) := by
  refine (show zBack zY 342 33 36 [some (zR (some 177)), some (zI x1)] [zR (some 177)] (some (.inl (some (zJ y)), h)) = gd (false = zctor 291 ∧ zcs [zR (some 177)] ≤ 8 ∧ zrm 342 (zrf 291 + 1) (8 + (zmaxl 291 + 11) + zrl 291) = true ∧ zcs [zJ y] ≤ zmaxl 291) (zBack zY 342 36 39 [some (zR (some 177)), some (zI x1)] [zR (some 177)] (zC 291 [zJ y] h)) from zGo 1 342 36 _ _ _).trans ?_
  refine (gd_t (⟨rfl, Nat.le_of_ble_eq_true rfl, rfl, Nat.le_of_ble_eq_true rfl⟩) _).trans ?_
  refine (congrArg (zBack zY 342 36 39 [some (zR (some 177)), some (zI x1)] [zR (some 177)]) (e_M_ones)).trans ?_
  refine (show zY 342 39 [some (zR (some 177)), some (zI x1)] [zI (f_M_ones y), zR (some 177)] h = gd (false = zctor 212 ∧ zcs [] ≤ 8 ∧ zrm 342 (zrf 212 + 1) (8 + (zmaxl 212 + 11) + zrl 212) = true ∧ zcs [zR (some 177), zI (f_M_ones y)] ≤ zmaxl 212) (gd (zob h (some 177) 12) (zBack zY 342 39 42 [some (zR (some 177)), some (zI x1)] [] (zC 212 [zR (some 177), zI (f_M_ones y)] h))) from zGo 1 342 39 _ _ _).trans ?_
  refine (gd_t (⟨rfl, Nat.le_of_ble_eq_true rfl, rfl, Nat.le_of_ble_eq_true rfl⟩) _).trans ?_
  refine (gd_t (⟨rfl, (PTM KM 177 _ rfl rfl), (PNM KM 177 rfl)⟩) _).trans ?_
  refine (congrArg (zBack zY 342 39 42 [some (zR (some 177)), some (zI x1)] []) (q_M_told KM)).trans ?_
  refine (show zY 342 42 [some (zR (some 177)), some (zI x1)] [zI (f_M_ones y)] (sI h 177 1 0) = gd (([] : List zV).isEmpty = true ∧ (zrk 342 = 1 ∨ zrk 342 = 6 ∧ (((f_M_ones y) : Int) = 0 ∨ ((f_M_ones y) : Int) = 1))) (some (.inl (some (zI (f_M_ones y))), (sI h 177 1 0))) from zGo 1 342 42 _ _ _).trans ?_
  refine (gd_t (⟨rfl, Or.inl rfl⟩) _).trans ?_
  rfl
theorem q_M_setKeep {h : zH} {x1 : Int} {x2 : Int} (KM : KM h) (g0 : ((¬ (x1 < 0)) → (hI h 177 10 ≤ 24)) := by omega) : zC 343 [zR (some 177), zI x1, zI x2] h =
    if (f_M_loopAt h x1) = (-1) then
      some (.inl (some (zI 0)), (sI h 177 1 1))
    else
      if b_M_isLength h x2 then
        gd (-2147483648 ≤ 26 + (f_M_loopAt h x1) ∧ 26 + (f_M_loopAt h x1) < 2147483648) (
        zBack zY 343 38 41 [some (zR (some 177)), some (zI x1), some (zI x2), some (zI (f_M_loopAt h x1))] [] (zC 340 [zR (some 177), zI (26 + (f_M_loopAt h x1)), zI 1, zI x2] h))
      else
        some (.inl (some (zI 0)), (sI h 177 1 2)) := by
  refine (show zC 343 [zR (some 177), zI x1, zI x2] h = gd (false = zctor 263 ∧ zcs [] ≤ 8 ∧ zrm 343 (zrf 263 + 1) (8 + (zmaxl 263 + 11) + zrl 263) = true ∧ zcs [zR (some 177), zI x1] ≤ zmaxl 263) (gd (zob h (some 177) 12) (zBack zY 343 2 5 [some (zR (some 177)), some (zI x1), some (zI x2), none] [] (zC 263 [zR (some 177), zI x1] h))) from zGo 3 343 0 _ _ _).trans ?_
  refine (gd_t (⟨rfl, Nat.le_of_ble_eq_true rfl, rfl, Nat.le_of_ble_eq_true rfl⟩) _).trans ?_
  refine (gd_t (⟨rfl, (PTM KM 177 _ rfl rfl), (PNM KM 177 rfl)⟩) _).trans ?_
  refine (congrArg (zBack zY 343 2 5 [some (zR (some 177)), some (zI x1), some (zI x2), none] []) (e_M_loopAt KM (g0))).trans ?_
  refine (show zY 343 5 [some (zR (some 177)), some (zI x1), some (zI x2), none] [zI (f_M_loopAt h x1)] h = gd (inR (-1)) (if (f_M_loopAt h x1) = (-1) then zY 343 11 [some (zR (some 177)), some (zI x1), some (zI x2), some (zI (f_M_loopAt h x1))] [] h else zY 343 17 [some (zR (some 177)), some (zI x1), some (zI x2), some (zI (f_M_loopAt h x1))] [] h) from zGo 4 343 5 _ _ _).trans ?_
  refine (gd_t (by decide) _).trans ?_
  refine iteC (fun c0 => ?_) (fun c0 => ?_)
  · skip
    refine (show zY 343 11 [some (zR (some 177)), some (zI x1), some (zI x2), some (zI (f_M_loopAt h x1))] [] h = gd (inR (1)) (gd (false = zctor 210 ∧ zcs [] ≤ 8 ∧ zrm 343 (zrf 210 + 1) (8 + (zmaxl 210 + 11) + zrl 210) = true ∧ zcs [zR (some 177), zI 1] ≤ zmaxl 210) (gd (zob h (some 177) 12) (zBack zY 343 13 16 [some (zR (some 177)), some (zI x1), some (zI x2), some (zI (f_M_loopAt h x1))] [] (zC 210 [zR (some 177), zI 1] h)))) from zGo 3 343 11 _ _ _).trans ?_
    refine (gd_t (by decide) _).trans ?_
    refine (gd_t (⟨rfl, Nat.le_of_ble_eq_true rfl, rfl, Nat.le_of_ble_eq_true rfl⟩) _).trans ?_
    refine (gd_t (⟨rfl, (PTM KM 177 _ rfl rfl), (PNM KM 177 rfl)⟩) _).trans ?_
    refine (congrArg (zBack zY 343 13 16 [some (zR (some 177)), some (zI x1), some (zI x2), some (zI (f_M_loopAt h x1))] []) (q_M_refuse KM)).trans ?_
    refine (show zY 343 16 [some (zR (some 177)), some (zI x1), some (zI x2), some (zI (f_M_loopAt h x1))] [zI 0] (sI h 177 1 1) = gd (([] : List zV).isEmpty = true ∧ (zrk 343 = 1 ∨ zrk 343 = 6 ∧ ((0 : Int) = 0 ∨ (0 : Int) = 1))) (some (.inl (some (zI 0)), (sI h 177 1 1))) from zGo 1 343 16 _ _ _).trans ?_
    refine (gd_t (⟨rfl, Or.inl rfl⟩) _).trans ?_
    rfl
  · skip
    refine (show zY 343 17 [some (zR (some 177)), some (zI x1), some (zI x2), some (zI (f_M_loopAt h x1))] [] h = gd (false = zctor 339 ∧ zcs [] ≤ 8 ∧ zrm 343 (zrf 339 + 1) (8 + (zmaxl 339 + 11) + zrl 339) = true ∧ zcs [zR (some 177), zI x2] ≤ zmaxl 339) (gd (zob h (some 177) 12) (zBack zY 343 19 22 [some (zR (some 177)), some (zI x1), some (zI x2), some (zI (f_M_loopAt h x1))] [] (zC 339 [zR (some 177), zI x2] h))) from zGo 3 343 17 _ _ _).trans ?_
    refine (gd_t (⟨rfl, Nat.le_of_ble_eq_true rfl, rfl, Nat.le_of_ble_eq_true rfl⟩) _).trans ?_
    refine (gd_t (⟨rfl, (PTM KM 177 _ rfl rfl), (PNM KM 177 rfl)⟩) _).trans ?_
    refine (congrArg (zBack zY 343 19 22 [some (zR (some 177)), some (zI x1), some (zI x2), some (zI (f_M_loopAt h x1))] []) (e_M_isLength KM)).trans ?_
    refine (show zY 343 22 [some (zR (some 177)), some (zI x1), some (zI x2), some (zI (f_M_loopAt h x1))] [zI (if b_M_isLength h x2 then (1 : Int) else 0)] h = if (if b_M_isLength h x2 then (1 : Int) else 0) = 0 then zY 343 25 [some (zR (some 177)), some (zI x1), some (zI x2), some (zI (f_M_loopAt h x1))] [] h else zY 343 31 [some (zR (some 177)), some (zI x1), some (zI x2), some (zI (f_M_loopAt h x1))] [] h from zGo 1 343 22 _ _ _).trans ?_
    refine iteB (fun c1 => ?_) (fun c1 => ?_)
    · skip
      refine (show zY 343 31 [some (zR (some 177)), some (zI x1), some (zI x2), some (zI (f_M_loopAt h x1))] [] h = gd (-128 ≤ (26 : Int) ∧ (26 : Int) < 128) (gd (inR (26 + (f_M_loopAt h x1))) (gd (inR (1)) (gd (false = zctor 340 ∧ zcs [] ≤ 8 ∧ zrm 343 (zrf 340 + 1) (8 + (zmaxl 340 + 11) + zrl 340) = true ∧ zcs [zR (some 177), zI (26 + (f_M_loopAt h x1)), zI 1, zI x2] ≤ zmaxl 340) (gd (zob h (some 177) 12) (zBack zY 343 38 41 [some (zR (some 177)), some (zI x1), some (zI x2), some (zI (f_M_loopAt h x1))] [] (zC 340 [zR (some 177), zI (26 + (f_M_loopAt h x1)), zI 1, zI x2] h)))))) from zGo 7 343 31 _ _ _).trans ?_
      refine (gd_t (by decide) _).trans ?_
      refine gd_c Iff.rfl (fun c2 => ?_)
      refine (gd_t (by decide) _).trans ?_
      refine (gd_t (⟨rfl, Nat.le_of_ble_eq_true rfl, rfl, Nat.le_of_ble_eq_true rfl⟩) _).trans ?_
      refine (gd_t (⟨rfl, (PTM KM 177 _ rfl rfl), (PNM KM 177 rfl)⟩) _).trans ?_
      rfl
    · skip
      refine (show zY 343 25 [some (zR (some 177)), some (zI x1), some (zI x2), some (zI (f_M_loopAt h x1))] [] h = gd (inR (2)) (gd (false = zctor 210 ∧ zcs [] ≤ 8 ∧ zrm 343 (zrf 210 + 1) (8 + (zmaxl 210 + 11) + zrl 210) = true ∧ zcs [zR (some 177), zI 2] ≤ zmaxl 210) (gd (zob h (some 177) 12) (zBack zY 343 27 30 [some (zR (some 177)), some (zI x1), some (zI x2), some (zI (f_M_loopAt h x1))] [] (zC 210 [zR (some 177), zI 2] h)))) from zGo 3 343 25 _ _ _).trans ?_
      refine (gd_t (by decide) _).trans ?_
      refine (gd_t (⟨rfl, Nat.le_of_ble_eq_true rfl, rfl, Nat.le_of_ble_eq_true rfl⟩) _).trans ?_
      refine (gd_t (⟨rfl, (PTM KM 177 _ rfl rfl), (PNM KM 177 rfl)⟩) _).trans ?_
      refine (congrArg (zBack zY 343 27 30 [some (zR (some 177)), some (zI x1), some (zI x2), some (zI (f_M_loopAt h x1))] []) (q_M_refuse KM)).trans ?_
      refine (show zY 343 30 [some (zR (some 177)), some (zI x1), some (zI x2), some (zI (f_M_loopAt h x1))] [zI 0] (sI h 177 1 2) = gd (([] : List zV).isEmpty = true ∧ (zrk 343 = 1 ∨ zrk 343 = 6 ∧ ((0 : Int) = 0 ∨ (0 : Int) = 1))) (some (.inl (some (zI 0)), (sI h 177 1 2))) from zGo 1 343 30 _ _ _).trans ?_
      refine (gd_t (⟨rfl, Or.inl rfl⟩) _).trans ?_
      rfl
theorem q_M_setKeep_r41 {h : zH} {x1 : Int} {x2 : Int} {x3 : Int} {y : Int} (KM : KM h) : zBack zY 343 38 41 [some (zR (some 177)), some (zI x1), some (zI x2), some (zI x3)] [] (some (.inl (some (zI y)), h)) =
    if y = 0 then
      some (.inl (some (zI 0)), (sI h 177 1 3))
    else
      gd (-2147483648 ≤ 26 + x3 ∧ 26 + x3 < 2147483648) (
      zBack zY 343 56 59 [some (zR (some 177)), some (zI x1), some (zI x2), some (zI x3)] [zR (some 177)] (zC 248 [zR (some 177), zI (26 + x3)] h)) := by
  refine (show zBack zY 343 38 41 [some (zR (some 177)), some (zI x1), some (zI x2), some (zI x3)] [] (some (.inl (some (zI y)), h)) = if y = 0 then zY 343 44 [some (zR (some 177)), some (zI x1), some (zI x2), some (zI x3)] [] h else zY 343 50 [some (zR (some 177)), some (zI x1), some (zI x2), some (zI x3)] [] h from zGo 1 343 41 _ _ _).trans ?_
  refine iteC (fun c0 => ?_) (fun c0 => ?_)
  · skip
    refine (show zY 343 44 [some (zR (some 177)), some (zI x1), some (zI x2), some (zI x3)] [] h = gd (inR (3)) (gd (false = zctor 210 ∧ zcs [] ≤ 8 ∧ zrm 343 (zrf 210 + 1) (8 + (zmaxl 210 + 11) + zrl 210) = true ∧ zcs [zR (some 177), zI 3] ≤ zmaxl 210) (gd (zob h (some 177) 12) (zBack zY 343 46 49 [some (zR (some 177)), some (zI x1), some (zI x2), some (zI x3)] [] (zC 210 [zR (some 177), zI 3] h)))) from zGo 3 343 44 _ _ _).trans ?_
    refine (gd_t (by decide) _).trans ?_
    refine (gd_t (⟨rfl, Nat.le_of_ble_eq_true rfl, rfl, Nat.le_of_ble_eq_true rfl⟩) _).trans ?_
    refine (gd_t (⟨rfl, (PTM KM 177 _ rfl rfl), (PNM KM 177 rfl)⟩) _).trans ?_
    refine (congrArg (zBack zY 343 46 49 [some (zR (some 177)), some (zI x1), some (zI x2), some (zI x3)] []) (q_M_refuse KM)).trans ?_
    refine (show zY 343 49 [some (zR (some 177)), some (zI x1), some (zI x2), some (zI x3)] [zI 0] (sI h 177 1 3) = gd (([] : List zV).isEmpty = true ∧ (zrk 343 = 1 ∨ zrk 343 = 6 ∧ ((0 : Int) = 0 ∨ (0 : Int) = 1))) (some (.inl (some (zI 0)), (sI h 177 1 3))) from zGo 1 343 49 _ _ _).trans ?_
    refine (gd_t (⟨rfl, Or.inl rfl⟩) _).trans ?_
    rfl
  · skip
    refine (show zY 343 50 [some (zR (some 177)), some (zI x1), some (zI x2), some (zI x3)] [] h = gd (-128 ≤ (26 : Int) ∧ (26 : Int) < 128) (gd (inR (26 + x3)) (gd (false = zctor 248 ∧ zcs [zR (some 177)] ≤ 8 ∧ zrm 343 (zrf 248 + 1) (8 + (zmaxl 248 + 11) + zrl 248) = true ∧ zcs [zR (some 177), zI (26 + x3)] ≤ zmaxl 248) (gd (zob h (some 177) 12) (zBack zY 343 56 59 [some (zR (some 177)), some (zI x1), some (zI x2), some (zI x3)] [zR (some 177)] (zC 248 [zR (some 177), zI (26 + x3)] h))))) from zGo 6 343 50 _ _ _).trans ?_
    refine (gd_t (by decide) _).trans ?_
    refine gd_c Iff.rfl (fun c1 => ?_)
    refine (gd_t (⟨rfl, Nat.le_of_ble_eq_true rfl, rfl, Nat.le_of_ble_eq_true rfl⟩) _).trans ?_
    refine (gd_t (⟨rfl, (PTM KM 177 _ rfl rfl), (PNM KM 177 rfl)⟩) _).trans ?_
    rfl
theorem q_M_setKeep_r59 {h : zH} {x1 : Int} {x2 : Int} {x3 : Int} {y : BitVec 64} (KM : KM h) : zBack zY 343 56 59 [some (zR (some 177)), some (zI x1), some (zI x2), some (zI x3)] [zR (some 177)] (some (.inl (some (zJ y)), h)) =
    some (.inl (some (zI (f_M_ones y))), (sI h 177 1 0)) := by
  refine (show zBack zY 343 56 59 [some (zR (some 177)), some (zI x1), some (zI x2), some (zI x3)] [zR (some 177)] (some (.inl (some (zJ y)), h)) = gd (false = zctor 291 ∧ zcs [zR (some 177)] ≤ 8 ∧ zrm 343 (zrf 291 + 1) (8 + (zmaxl 291 + 11) + zrl 291) = true ∧ zcs [zJ y] ≤ zmaxl 291) (zBack zY 343 59 62 [some (zR (some 177)), some (zI x1), some (zI x2), some (zI x3)] [zR (some 177)] (zC 291 [zJ y] h)) from zGo 1 343 59 _ _ _).trans ?_
  refine (gd_t (⟨rfl, Nat.le_of_ble_eq_true rfl, rfl, Nat.le_of_ble_eq_true rfl⟩) _).trans ?_
  refine (congrArg (zBack zY 343 59 62 [some (zR (some 177)), some (zI x1), some (zI x2), some (zI x3)] [zR (some 177)]) (e_M_ones)).trans ?_
  refine (show zY 343 62 [some (zR (some 177)), some (zI x1), some (zI x2), some (zI x3)] [zI (f_M_ones y), zR (some 177)] h = gd (false = zctor 212 ∧ zcs [] ≤ 8 ∧ zrm 343 (zrf 212 + 1) (8 + (zmaxl 212 + 11) + zrl 212) = true ∧ zcs [zR (some 177), zI (f_M_ones y)] ≤ zmaxl 212) (gd (zob h (some 177) 12) (zBack zY 343 62 65 [some (zR (some 177)), some (zI x1), some (zI x2), some (zI x3)] [] (zC 212 [zR (some 177), zI (f_M_ones y)] h))) from zGo 1 343 62 _ _ _).trans ?_
  refine (gd_t (⟨rfl, Nat.le_of_ble_eq_true rfl, rfl, Nat.le_of_ble_eq_true rfl⟩) _).trans ?_
  refine (gd_t (⟨rfl, (PTM KM 177 _ rfl rfl), (PNM KM 177 rfl)⟩) _).trans ?_
  refine (congrArg (zBack zY 343 62 65 [some (zR (some 177)), some (zI x1), some (zI x2), some (zI x3)] []) (q_M_told KM)).trans ?_
  refine (show zY 343 65 [some (zR (some 177)), some (zI x1), some (zI x2), some (zI x3)] [zI (f_M_ones y)] (sI h 177 1 0) = gd (([] : List zV).isEmpty = true ∧ (zrk 343 = 1 ∨ zrk 343 = 6 ∧ (((f_M_ones y) : Int) = 0 ∨ ((f_M_ones y) : Int) = 1))) (some (.inl (some (zI (f_M_ones y))), (sI h 177 1 0))) from zGo 1 343 65 _ _ _).trans ?_
  refine (gd_t (⟨rfl, Or.inl rfl⟩) _).trans ?_
  rfl
theorem q_M_setLess {h : zH} {x1 : Int} {x2 : Int} (KM : KM h) (g0 : ((¬ (x1 < 0)) → (hI h 177 10 ≤ 24)) := by omega) : zC 344 [zR (some 177), zI x1, zI x2] h =
    if (f_M_loopAt h x1) = (-1) then
      some (.inl (some (zI 0)), (sI h 177 1 1))
    else
      if b_M_isLength h x2 then
        gd (-2147483648 ≤ 50 + (f_M_loopAt h x1) ∧ 50 + (f_M_loopAt h x1) < 2147483648) (
        zBack zY 344 38 41 [some (zR (some 177)), some (zI x1), some (zI x2), some (zI (f_M_loopAt h x1)), none, none, none] [] (zC 340 [zR (some 177), zI (50 + (f_M_loopAt h x1)), zI 0, zI x2] h))
      else
        some (.inl (some (zI 0)), (sI h 177 1 2)) := by
  refine (show zC 344 [zR (some 177), zI x1, zI x2] h = gd (false = zctor 263 ∧ zcs [] ≤ 8 ∧ zrm 344 (zrf 263 + 1) (8 + (zmaxl 263 + 11) + zrl 263) = true ∧ zcs [zR (some 177), zI x1] ≤ zmaxl 263) (gd (zob h (some 177) 12) (zBack zY 344 2 5 [some (zR (some 177)), some (zI x1), some (zI x2), none, none, none, none] [] (zC 263 [zR (some 177), zI x1] h))) from zGo 3 344 0 _ _ _).trans ?_
  refine (gd_t (⟨rfl, Nat.le_of_ble_eq_true rfl, rfl, Nat.le_of_ble_eq_true rfl⟩) _).trans ?_
  refine (gd_t (⟨rfl, (PTM KM 177 _ rfl rfl), (PNM KM 177 rfl)⟩) _).trans ?_
  refine (congrArg (zBack zY 344 2 5 [some (zR (some 177)), some (zI x1), some (zI x2), none, none, none, none] []) (e_M_loopAt KM (g0))).trans ?_
  refine (show zY 344 5 [some (zR (some 177)), some (zI x1), some (zI x2), none, none, none, none] [zI (f_M_loopAt h x1)] h = gd (inR (-1)) (if (f_M_loopAt h x1) = (-1) then zY 344 11 [some (zR (some 177)), some (zI x1), some (zI x2), some (zI (f_M_loopAt h x1)), none, none, none] [] h else zY 344 17 [some (zR (some 177)), some (zI x1), some (zI x2), some (zI (f_M_loopAt h x1)), none, none, none] [] h) from zGo 4 344 5 _ _ _).trans ?_
  refine (gd_t (by decide) _).trans ?_
  refine iteC (fun c0 => ?_) (fun c0 => ?_)
  · skip
    refine (show zY 344 11 [some (zR (some 177)), some (zI x1), some (zI x2), some (zI (f_M_loopAt h x1)), none, none, none] [] h = gd (inR (1)) (gd (false = zctor 210 ∧ zcs [] ≤ 8 ∧ zrm 344 (zrf 210 + 1) (8 + (zmaxl 210 + 11) + zrl 210) = true ∧ zcs [zR (some 177), zI 1] ≤ zmaxl 210) (gd (zob h (some 177) 12) (zBack zY 344 13 16 [some (zR (some 177)), some (zI x1), some (zI x2), some (zI (f_M_loopAt h x1)), none, none, none] [] (zC 210 [zR (some 177), zI 1] h)))) from zGo 3 344 11 _ _ _).trans ?_
    refine (gd_t (by decide) _).trans ?_
    refine (gd_t (⟨rfl, Nat.le_of_ble_eq_true rfl, rfl, Nat.le_of_ble_eq_true rfl⟩) _).trans ?_
    refine (gd_t (⟨rfl, (PTM KM 177 _ rfl rfl), (PNM KM 177 rfl)⟩) _).trans ?_
    refine (congrArg (zBack zY 344 13 16 [some (zR (some 177)), some (zI x1), some (zI x2), some (zI (f_M_loopAt h x1)), none, none, none] []) (q_M_refuse KM)).trans ?_
    refine (show zY 344 16 [some (zR (some 177)), some (zI x1), some (zI x2), some (zI (f_M_loopAt h x1)), none, none, none] [zI 0] (sI h 177 1 1) = gd (([] : List zV).isEmpty = true ∧ (zrk 344 = 1 ∨ zrk 344 = 6 ∧ ((0 : Int) = 0 ∨ (0 : Int) = 1))) (some (.inl (some (zI 0)), (sI h 177 1 1))) from zGo 1 344 16 _ _ _).trans ?_
    refine (gd_t (⟨rfl, Or.inl rfl⟩) _).trans ?_
    rfl
  · skip
    refine (show zY 344 17 [some (zR (some 177)), some (zI x1), some (zI x2), some (zI (f_M_loopAt h x1)), none, none, none] [] h = gd (false = zctor 339 ∧ zcs [] ≤ 8 ∧ zrm 344 (zrf 339 + 1) (8 + (zmaxl 339 + 11) + zrl 339) = true ∧ zcs [zR (some 177), zI x2] ≤ zmaxl 339) (gd (zob h (some 177) 12) (zBack zY 344 19 22 [some (zR (some 177)), some (zI x1), some (zI x2), some (zI (f_M_loopAt h x1)), none, none, none] [] (zC 339 [zR (some 177), zI x2] h))) from zGo 3 344 17 _ _ _).trans ?_
    refine (gd_t (⟨rfl, Nat.le_of_ble_eq_true rfl, rfl, Nat.le_of_ble_eq_true rfl⟩) _).trans ?_
    refine (gd_t (⟨rfl, (PTM KM 177 _ rfl rfl), (PNM KM 177 rfl)⟩) _).trans ?_
    refine (congrArg (zBack zY 344 19 22 [some (zR (some 177)), some (zI x1), some (zI x2), some (zI (f_M_loopAt h x1)), none, none, none] []) (e_M_isLength KM)).trans ?_
    refine (show zY 344 22 [some (zR (some 177)), some (zI x1), some (zI x2), some (zI (f_M_loopAt h x1)), none, none, none] [zI (if b_M_isLength h x2 then (1 : Int) else 0)] h = if (if b_M_isLength h x2 then (1 : Int) else 0) = 0 then zY 344 25 [some (zR (some 177)), some (zI x1), some (zI x2), some (zI (f_M_loopAt h x1)), none, none, none] [] h else zY 344 31 [some (zR (some 177)), some (zI x1), some (zI x2), some (zI (f_M_loopAt h x1)), none, none, none] [] h from zGo 1 344 22 _ _ _).trans ?_
    refine iteB (fun c1 => ?_) (fun c1 => ?_)
    · skip
      refine (show zY 344 31 [some (zR (some 177)), some (zI x1), some (zI x2), some (zI (f_M_loopAt h x1)), none, none, none] [] h = gd (-128 ≤ (50 : Int) ∧ (50 : Int) < 128) (gd (inR (50 + (f_M_loopAt h x1))) (gd (inR (0)) (gd (false = zctor 340 ∧ zcs [] ≤ 8 ∧ zrm 344 (zrf 340 + 1) (8 + (zmaxl 340 + 11) + zrl 340) = true ∧ zcs [zR (some 177), zI (50 + (f_M_loopAt h x1)), zI 0, zI x2] ≤ zmaxl 340) (gd (zob h (some 177) 12) (zBack zY 344 38 41 [some (zR (some 177)), some (zI x1), some (zI x2), some (zI (f_M_loopAt h x1)), none, none, none] [] (zC 340 [zR (some 177), zI (50 + (f_M_loopAt h x1)), zI 0, zI x2] h)))))) from zGo 7 344 31 _ _ _).trans ?_
      refine (gd_t (by decide) _).trans ?_
      refine gd_c Iff.rfl (fun c2 => ?_)
      refine (gd_t (by decide) _).trans ?_
      refine (gd_t (⟨rfl, Nat.le_of_ble_eq_true rfl, rfl, Nat.le_of_ble_eq_true rfl⟩) _).trans ?_
      refine (gd_t (⟨rfl, (PTM KM 177 _ rfl rfl), (PNM KM 177 rfl)⟩) _).trans ?_
      rfl
    · skip
      refine (show zY 344 25 [some (zR (some 177)), some (zI x1), some (zI x2), some (zI (f_M_loopAt h x1)), none, none, none] [] h = gd (inR (2)) (gd (false = zctor 210 ∧ zcs [] ≤ 8 ∧ zrm 344 (zrf 210 + 1) (8 + (zmaxl 210 + 11) + zrl 210) = true ∧ zcs [zR (some 177), zI 2] ≤ zmaxl 210) (gd (zob h (some 177) 12) (zBack zY 344 27 30 [some (zR (some 177)), some (zI x1), some (zI x2), some (zI (f_M_loopAt h x1)), none, none, none] [] (zC 210 [zR (some 177), zI 2] h)))) from zGo 3 344 25 _ _ _).trans ?_
      refine (gd_t (by decide) _).trans ?_
      refine (gd_t (⟨rfl, Nat.le_of_ble_eq_true rfl, rfl, Nat.le_of_ble_eq_true rfl⟩) _).trans ?_
      refine (gd_t (⟨rfl, (PTM KM 177 _ rfl rfl), (PNM KM 177 rfl)⟩) _).trans ?_
      refine (congrArg (zBack zY 344 27 30 [some (zR (some 177)), some (zI x1), some (zI x2), some (zI (f_M_loopAt h x1)), none, none, none] []) (q_M_refuse KM)).trans ?_
      refine (show zY 344 30 [some (zR (some 177)), some (zI x1), some (zI x2), some (zI (f_M_loopAt h x1)), none, none, none] [zI 0] (sI h 177 1 2) = gd (([] : List zV).isEmpty = true ∧ (zrk 344 = 1 ∨ zrk 344 = 6 ∧ ((0 : Int) = 0 ∨ (0 : Int) = 1))) (some (.inl (some (zI 0)), (sI h 177 1 2))) from zGo 1 344 30 _ _ _).trans ?_
      refine (gd_t (⟨rfl, Or.inl rfl⟩) _).trans ?_
      rfl
theorem q_M_setLess_r41 {h : zH} {x1 : Int} {x2 : Int} {x3 : Int} {y : Int} (KM : KM h) : zBack zY 344 38 41 [some (zR (some 177)), some (zI x1), some (zI x2), some (zI x3), none, none, none] [] (some (.inl (some (zI y)), h)) =
    if y = 0 then
      some (.inl (some (zI 0)), (sI h 177 1 3))
    else
      zY 344 56 [some (zR (some 177)), some (zI x1), some (zI x2), some (zI x3), some (zI (-1)), some (zI 0), none] [] h := by
  refine (show zBack zY 344 38 41 [some (zR (some 177)), some (zI x1), some (zI x2), some (zI x3), none, none, none] [] (some (.inl (some (zI y)), h)) = if y = 0 then zY 344 44 [some (zR (some 177)), some (zI x1), some (zI x2), some (zI x3), none, none, none] [] h else zY 344 50 [some (zR (some 177)), some (zI x1), some (zI x2), some (zI x3), none, none, none] [] h from zGo 1 344 41 _ _ _).trans ?_
  refine iteC (fun c0 => ?_) (fun c0 => ?_)
  · skip
    refine (show zY 344 44 [some (zR (some 177)), some (zI x1), some (zI x2), some (zI x3), none, none, none] [] h = gd (inR (3)) (gd (false = zctor 210 ∧ zcs [] ≤ 8 ∧ zrm 344 (zrf 210 + 1) (8 + (zmaxl 210 + 11) + zrl 210) = true ∧ zcs [zR (some 177), zI 3] ≤ zmaxl 210) (gd (zob h (some 177) 12) (zBack zY 344 46 49 [some (zR (some 177)), some (zI x1), some (zI x2), some (zI x3), none, none, none] [] (zC 210 [zR (some 177), zI 3] h)))) from zGo 3 344 44 _ _ _).trans ?_
    refine (gd_t (by decide) _).trans ?_
    refine (gd_t (⟨rfl, Nat.le_of_ble_eq_true rfl, rfl, Nat.le_of_ble_eq_true rfl⟩) _).trans ?_
    refine (gd_t (⟨rfl, (PTM KM 177 _ rfl rfl), (PNM KM 177 rfl)⟩) _).trans ?_
    refine (congrArg (zBack zY 344 46 49 [some (zR (some 177)), some (zI x1), some (zI x2), some (zI x3), none, none, none] []) (q_M_refuse KM)).trans ?_
    refine (show zY 344 49 [some (zR (some 177)), some (zI x1), some (zI x2), some (zI x3), none, none, none] [zI 0] (sI h 177 1 3) = gd (([] : List zV).isEmpty = true ∧ (zrk 344 = 1 ∨ zrk 344 = 6 ∧ ((0 : Int) = 0 ∨ (0 : Int) = 1))) (some (.inl (some (zI 0)), (sI h 177 1 3))) from zGo 1 344 49 _ _ _).trans ?_
    refine (gd_t (⟨rfl, Or.inl rfl⟩) _).trans ?_
    rfl
  · skip
    refine (show zY 344 50 [some (zR (some 177)), some (zI x1), some (zI x2), some (zI x3), none, none, none] [] h = gd (inR (-1)) (gd (inR (0)) (zY 344 56 [some (zR (some 177)), some (zI x1), some (zI x2), some (zI x3), some (zI (-1)), some (zI 0), none] [] h)) from zGo 4 344 50 _ _ _).trans ?_
    refine (gd_t (by decide) _).trans ?_
    refine (gd_t (by decide) _).trans ?_
    rfl
theorem q_M_setLess_56 {h : zH} {x1 : Int} {x2 : Int} {x3 : Int} {x4 : Int} {x5 : Int} (KM : KM h) : zY 344 56 [some (zR (some 177)), some (zI x1), some (zI x2), some (zI x3), some (zI x4), some (zI x5), none] [] h =
    if x5 < 64 then
      gd (-2147483648 ≤ 26 + x3 ∧ 26 + x3 < 2147483648) (
      zBack zY 344 70 73 [some (zR (some 177)), some (zI x1), some (zI x2), some (zI x3), some (zI x4), some (zI x5), none] [] (zC 249 [zR (some 177), zI (26 + x3), zI x5] h))
    else
      some (.inl (some (zI x4)), (sI h 177 1 0)) := by
  refine (show zY 344 56 [some (zR (some 177)), some (zI x1), some (zI x2), some (zI x3), some (zI x4), some (zI x5), none] [] h = gd (-128 ≤ (64 : Int) ∧ (64 : Int) < 128) (if x5 < 64 then zY 344 63 [some (zR (some 177)), some (zI x1), some (zI x2), some (zI x3), some (zI x4), some (zI x5), none] [] h else zY 344 115 [some (zR (some 177)), some (zI x1), some (zI x2), some (zI x3), some (zI x4), some (zI x5), none] [] h) from zGo 3 344 56 _ _ _).trans ?_
  refine (gd_t (by decide) _).trans ?_
  refine iteC (fun c0 => ?_) (fun c0 => ?_)
  · skip
    refine (show zY 344 63 [some (zR (some 177)), some (zI x1), some (zI x2), some (zI x3), some (zI x4), some (zI x5), none] [] h = gd (-128 ≤ (26 : Int) ∧ (26 : Int) < 128) (gd (inR (26 + x3)) (gd (false = zctor 249 ∧ zcs [] ≤ 8 ∧ zrm 344 (zrf 249 + 1) (8 + (zmaxl 249 + 11) + zrl 249) = true ∧ zcs [zR (some 177), zI (26 + x3), zI x5] ≤ zmaxl 249) (gd (zob h (some 177) 12) (zBack zY 344 70 73 [some (zR (some 177)), some (zI x1), some (zI x2), some (zI x3), some (zI x4), some (zI x5), none] [] (zC 249 [zR (some 177), zI (26 + x3), zI x5] h))))) from zGo 6 344 63 _ _ _).trans ?_
    refine (gd_t (by decide) _).trans ?_
    refine gd_c Iff.rfl (fun c1 => ?_)
    refine (gd_t (⟨rfl, Nat.le_of_ble_eq_true rfl, rfl, Nat.le_of_ble_eq_true rfl⟩) _).trans ?_
    refine (gd_t (⟨rfl, (PTM KM 177 _ rfl rfl), (PNM KM 177 rfl)⟩) _).trans ?_
    rfl
  · skip
    refine (show zY 344 115 [some (zR (some 177)), some (zI x1), some (zI x2), some (zI x3), some (zI x4), some (zI x5), none] [] h = gd (false = zctor 212 ∧ zcs [] ≤ 8 ∧ zrm 344 (zrf 212 + 1) (8 + (zmaxl 212 + 11) + zrl 212) = true ∧ zcs [zR (some 177), zI x4] ≤ zmaxl 212) (gd (zob h (some 177) 12) (zBack zY 344 118 121 [some (zR (some 177)), some (zI x1), some (zI x2), some (zI x3), some (zI x4), some (zI x5), none] [] (zC 212 [zR (some 177), zI x4] h))) from zGo 3 344 115 _ _ _).trans ?_
    refine (gd_t (⟨rfl, Nat.le_of_ble_eq_true rfl, rfl, Nat.le_of_ble_eq_true rfl⟩) _).trans ?_
    refine (gd_t (⟨rfl, (PTM KM 177 _ rfl rfl), (PNM KM 177 rfl)⟩) _).trans ?_
    refine (congrArg (zBack zY 344 118 121 [some (zR (some 177)), some (zI x1), some (zI x2), some (zI x3), some (zI x4), some (zI x5), none] []) (q_M_told KM)).trans ?_
    refine (show zY 344 121 [some (zR (some 177)), some (zI x1), some (zI x2), some (zI x3), some (zI x4), some (zI x5), none] [zI x4] (sI h 177 1 0) = gd (([] : List zV).isEmpty = true ∧ (zrk 344 = 1 ∨ zrk 344 = 6 ∧ ((x4 : Int) = 0 ∨ (x4 : Int) = 1))) (some (.inl (some (zI x4)), (sI h 177 1 0))) from zGo 1 344 121 _ _ _).trans ?_
    refine (gd_t (⟨rfl, Or.inl rfl⟩) _).trans ?_
    rfl
theorem q_M_setLess_r73 {h : zH} {x1 : Int} {x2 : Int} {x3 : Int} {x4 : Int} {x5 : Int} {y : Int} (KM : KM h) : zBack zY 344 70 73 [some (zR (some 177)), some (zI x1), some (zI x2), some (zI x3), some (zI x4), some (zI x5), none] [] (some (.inl (some (zI y)), h)) =
    if y = 1 then
      gd (-2147483648 ≤ 50 + x3 ∧ 50 + x3 < 2147483648) (
      zBack zY 344 84 87 [some (zR (some 177)), some (zI x1), some (zI x2), some (zI x3), some (zI x4), some (zI x5), none] [] (zC 249 [zR (some 177), zI (50 + x3), zI x5] h))
    else
      if x4 < (-1) then
        gd (-2147483648 ≤ x5 + 1 ∧ x5 + 1 < 2147483648) (
        zY 344 56 [some (zR (some 177)), some (zI x1), some (zI x2), some (zI x3), some (zI (-1)), some (zI (x5 + 1)), some (zI (-1))] [] h)
      else
        gd (-2147483648 ≤ x5 + 1 ∧ x5 + 1 < 2147483648) (
        zY 344 56 [some (zR (some 177)), some (zI x1), some (zI x2), some (zI x3), some (zI x4), some (zI (x5 + 1)), some (zI (-1))] [] h) := by
  refine (show zBack zY 344 70 73 [some (zR (some 177)), some (zI x1), some (zI x2), some (zI x3), some (zI x4), some (zI x5), none] [] (some (.inl (some (zI y)), h)) = gd (inR (1)) (if y = 1 then zY 344 77 [some (zR (some 177)), some (zI x1), some (zI x2), some (zI x3), some (zI x4), some (zI x5), none] [] h else zY 344 90 [some (zR (some 177)), some (zI x1), some (zI x2), some (zI x3), some (zI x4), some (zI x5), none] [] h) from zGo 2 344 73 _ _ _).trans ?_
  refine (gd_t (by decide) _).trans ?_
  refine iteC (fun c0 => ?_) (fun c0 => ?_)
  · skip
    refine (show zY 344 77 [some (zR (some 177)), some (zI x1), some (zI x2), some (zI x3), some (zI x4), some (zI x5), none] [] h = gd (-128 ≤ (50 : Int) ∧ (50 : Int) < 128) (gd (inR (50 + x3)) (gd (false = zctor 249 ∧ zcs [] ≤ 8 ∧ zrm 344 (zrf 249 + 1) (8 + (zmaxl 249 + 11) + zrl 249) = true ∧ zcs [zR (some 177), zI (50 + x3), zI x5] ≤ zmaxl 249) (gd (zob h (some 177) 12) (zBack zY 344 84 87 [some (zR (some 177)), some (zI x1), some (zI x2), some (zI x3), some (zI x4), some (zI x5), none] [] (zC 249 [zR (some 177), zI (50 + x3), zI x5] h))))) from zGo 6 344 77 _ _ _).trans ?_
    refine (gd_t (by decide) _).trans ?_
    refine gd_c Iff.rfl (fun c1 => ?_)
    refine (gd_t (⟨rfl, Nat.le_of_ble_eq_true rfl, rfl, Nat.le_of_ble_eq_true rfl⟩) _).trans ?_
    refine (gd_t (⟨rfl, (PTM KM 177 _ rfl rfl), (PNM KM 177 rfl)⟩) _).trans ?_
    rfl
  · skip
    refine (show zY 344 90 [some (zR (some 177)), some (zI x1), some (zI x2), some (zI x3), some (zI x4), some (zI x5), none] [] h = gd (inR (-1)) (if x4 < (-1) then zY 344 100 [some (zR (some 177)), some (zI x1), some (zI x2), some (zI x3), some (zI x4), some (zI x5), some (zI (-1))] [] h else zY 344 105 [some (zR (some 177)), some (zI x1), some (zI x2), some (zI x3), some (zI x4), some (zI x5), some (zI (-1))] [] h) from zGo 5 344 90 _ _ _).trans ?_
    refine (gd_t (by decide) _).trans ?_
    refine iteC (fun c2 => ?_) (fun c2 => ?_)
    · skip
      refine (show zY 344 100 [some (zR (some 177)), some (zI x1), some (zI x2), some (zI x3), some (zI x4), some (zI x5), some (zI (-1))] [] h = gd (inR (x5 + 1)) (gd (inR (1)) (zY 344 56 [some (zR (some 177)), some (zI x1), some (zI x2), some (zI x3), some (zI (-1)), some (zI (x5 + 1)), some (zI (-1))] [] h)) from zGo 5 344 100 _ _ _).trans ?_
      refine gd_c Iff.rfl (fun c3 => ?_)
      refine (gd_t (by decide) _).trans ?_
      rfl
    · skip
      refine (show zY 344 105 [some (zR (some 177)), some (zI x1), some (zI x2), some (zI x3), some (zI x4), some (zI x5), some (zI (-1))] [] h = gd (inR (x5 + 1)) (gd (inR (1)) (zY 344 56 [some (zR (some 177)), some (zI x1), some (zI x2), some (zI x3), some (zI x4), some (zI (x5 + 1)), some (zI (-1))] [] h)) from zGo 4 344 105 _ _ _).trans ?_
      refine gd_c Iff.rfl (fun c4 => ?_)
      refine (gd_t (by decide) _).trans ?_
      rfl
theorem q_M_setLess_r87 {h : zH} {x1 : Int} {x2 : Int} {x3 : Int} {x4 : Int} {x5 : Int} {y : Int} (KM : KM h) : zBack zY 344 84 87 [some (zR (some 177)), some (zI x1), some (zI x2), some (zI x3), some (zI x4), some (zI x5), none] [] (some (.inl (some (zI y)), h)) =
    if x4 < y then
      gd (-2147483648 ≤ x5 + 1 ∧ x5 + 1 < 2147483648) (
      zY 344 56 [some (zR (some 177)), some (zI x1), some (zI x2), some (zI x3), some (zI y), some (zI (x5 + 1)), some (zI y)] [] h)
    else
      gd (-2147483648 ≤ x5 + 1 ∧ x5 + 1 < 2147483648) (
      zY 344 56 [some (zR (some 177)), some (zI x1), some (zI x2), some (zI x3), some (zI x4), some (zI (x5 + 1)), some (zI y)] [] h) := by
  refine (show zBack zY 344 84 87 [some (zR (some 177)), some (zI x1), some (zI x2), some (zI x3), some (zI x4), some (zI x5), none] [] (some (.inl (some (zI y)), h)) = if x4 < y then zY 344 100 [some (zR (some 177)), some (zI x1), some (zI x2), some (zI x3), some (zI x4), some (zI x5), some (zI y)] [] h else zY 344 105 [some (zR (some 177)), some (zI x1), some (zI x2), some (zI x3), some (zI x4), some (zI x5), some (zI y)] [] h from zGo 5 344 87 _ _ _).trans ?_
  refine iteC (fun c0 => ?_) (fun c0 => ?_)
  · skip
    refine (show zY 344 100 [some (zR (some 177)), some (zI x1), some (zI x2), some (zI x3), some (zI x4), some (zI x5), some (zI y)] [] h = gd (inR (x5 + 1)) (gd (inR (1)) (zY 344 56 [some (zR (some 177)), some (zI x1), some (zI x2), some (zI x3), some (zI y), some (zI (x5 + 1)), some (zI y)] [] h)) from zGo 5 344 100 _ _ _).trans ?_
    refine gd_c Iff.rfl (fun c1 => ?_)
    refine (gd_t (by decide) _).trans ?_
    rfl
  · skip
    refine (show zY 344 105 [some (zR (some 177)), some (zI x1), some (zI x2), some (zI x3), some (zI x4), some (zI x5), some (zI y)] [] h = gd (inR (x5 + 1)) (gd (inR (1)) (zY 344 56 [some (zR (some 177)), some (zI x1), some (zI x2), some (zI x3), some (zI x4), some (zI (x5 + 1)), some (zI y)] [] h)) from zGo 4 344 105 _ _ _).trans ?_
    refine gd_c Iff.rfl (fun c2 => ?_)
    refine (gd_t (by decide) _).trans ?_
    rfl
theorem q_M_fill {h : zH} {x1 : Int} {x2 : Int} (KM : KM h) (g0 : ((¬ (x1 < 0)) → (hI h 177 10 ≤ 24)) := by omega) : zC 345 [zR (some 177), zI x1, zI x2] h =
    if (f_M_holeAt h x1) = (-1) then
      some (.inl (some (zI 0)), (sI h 177 1 1))
    else
      if b_M_in x2 (-1) 38 then
        zBack zY 345 34 37 [some (zR (some 177)), some (zI x1), some (zI x2), some (zI (f_M_holeAt h x1))] [] (zC 341 [zR (some 177)] h)
      else
        some (.inl (some (zI 0)), (sI h 177 1 2)) := by
  refine (show zC 345 [zR (some 177), zI x1, zI x2] h = gd (false = zctor 313 ∧ zcs [] ≤ 8 ∧ zrm 345 (zrf 313 + 1) (8 + (zmaxl 313 + 11) + zrl 313) = true ∧ zcs [zR (some 177), zI x1] ≤ zmaxl 313) (gd (zob h (some 177) 12) (zBack zY 345 2 5 [some (zR (some 177)), some (zI x1), some (zI x2), none] [] (zC 313 [zR (some 177), zI x1] h))) from zGo 3 345 0 _ _ _).trans ?_
  refine (gd_t (⟨rfl, Nat.le_of_ble_eq_true rfl, rfl, Nat.le_of_ble_eq_true rfl⟩) _).trans ?_
  refine (gd_t (⟨rfl, (PTM KM 177 _ rfl rfl), (PNM KM 177 rfl)⟩) _).trans ?_
  refine (congrArg (zBack zY 345 2 5 [some (zR (some 177)), some (zI x1), some (zI x2), none] []) (e_M_holeAt KM (g0))).trans ?_
  refine (show zY 345 5 [some (zR (some 177)), some (zI x1), some (zI x2), none] [zI (f_M_holeAt h x1)] h = gd (inR (-1)) (if (f_M_holeAt h x1) = (-1) then zY 345 11 [some (zR (some 177)), some (zI x1), some (zI x2), some (zI (f_M_holeAt h x1))] [] h else zY 345 17 [some (zR (some 177)), some (zI x1), some (zI x2), some (zI (f_M_holeAt h x1))] [] h) from zGo 4 345 5 _ _ _).trans ?_
  refine (gd_t (by decide) _).trans ?_
  refine iteC (fun c0 => ?_) (fun c0 => ?_)
  · skip
    refine (show zY 345 11 [some (zR (some 177)), some (zI x1), some (zI x2), some (zI (f_M_holeAt h x1))] [] h = gd (inR (1)) (gd (false = zctor 210 ∧ zcs [] ≤ 8 ∧ zrm 345 (zrf 210 + 1) (8 + (zmaxl 210 + 11) + zrl 210) = true ∧ zcs [zR (some 177), zI 1] ≤ zmaxl 210) (gd (zob h (some 177) 12) (zBack zY 345 13 16 [some (zR (some 177)), some (zI x1), some (zI x2), some (zI (f_M_holeAt h x1))] [] (zC 210 [zR (some 177), zI 1] h)))) from zGo 3 345 11 _ _ _).trans ?_
    refine (gd_t (by decide) _).trans ?_
    refine (gd_t (⟨rfl, Nat.le_of_ble_eq_true rfl, rfl, Nat.le_of_ble_eq_true rfl⟩) _).trans ?_
    refine (gd_t (⟨rfl, (PTM KM 177 _ rfl rfl), (PNM KM 177 rfl)⟩) _).trans ?_
    refine (congrArg (zBack zY 345 13 16 [some (zR (some 177)), some (zI x1), some (zI x2), some (zI (f_M_holeAt h x1))] []) (q_M_refuse KM)).trans ?_
    refine (show zY 345 16 [some (zR (some 177)), some (zI x1), some (zI x2), some (zI (f_M_holeAt h x1))] [zI 0] (sI h 177 1 1) = gd (([] : List zV).isEmpty = true ∧ (zrk 345 = 1 ∨ zrk 345 = 6 ∧ ((0 : Int) = 0 ∨ (0 : Int) = 1))) (some (.inl (some (zI 0)), (sI h 177 1 1))) from zGo 1 345 16 _ _ _).trans ?_
    refine (gd_t (⟨rfl, Or.inl rfl⟩) _).trans ?_
    rfl
  · skip
    refine (show zY 345 17 [some (zR (some 177)), some (zI x1), some (zI x2), some (zI (f_M_holeAt h x1))] [] h = gd (inR (-1)) (gd (-128 ≤ (38 : Int) ∧ (38 : Int) < 128) (gd (false = zctor 214 ∧ zcs [] ≤ 8 ∧ zrm 345 (zrf 214 + 1) (8 + (zmaxl 214 + 11) + zrl 214) = true ∧ zcs [zI x2, zI (-1), zI 38] ≤ zmaxl 214) (zBack zY 345 21 24 [some (zR (some 177)), some (zI x1), some (zI x2), some (zI (f_M_holeAt h x1))] [] (zC 214 [zI x2, zI (-1), zI 38] h)))) from zGo 4 345 17 _ _ _).trans ?_
    refine (gd_t (by decide) _).trans ?_
    refine (gd_t (by decide) _).trans ?_
    refine (gd_t (⟨rfl, Nat.le_of_ble_eq_true rfl, rfl, Nat.le_of_ble_eq_true rfl⟩) _).trans ?_
    refine (congrArg (zBack zY 345 21 24 [some (zR (some 177)), some (zI x1), some (zI x2), some (zI (f_M_holeAt h x1))] []) (e_M_in)).trans ?_
    refine (show zY 345 24 [some (zR (some 177)), some (zI x1), some (zI x2), some (zI (f_M_holeAt h x1))] [zI (if b_M_in x2 (-1) 38 then (1 : Int) else 0)] h = if (if b_M_in x2 (-1) 38 then (1 : Int) else 0) = 0 then zY 345 27 [some (zR (some 177)), some (zI x1), some (zI x2), some (zI (f_M_holeAt h x1))] [] h else zY 345 33 [some (zR (some 177)), some (zI x1), some (zI x2), some (zI (f_M_holeAt h x1))] [] h from zGo 1 345 24 _ _ _).trans ?_
    refine iteB (fun c1 => ?_) (fun c1 => ?_)
    · skip
      refine (show zY 345 33 [some (zR (some 177)), some (zI x1), some (zI x2), some (zI (f_M_holeAt h x1))] [] h = gd (false = zctor 341 ∧ zcs [] ≤ 8 ∧ zrm 345 (zrf 341 + 1) (8 + (zmaxl 341 + 11) + zrl 341) = true ∧ zcs [zR (some 177)] ≤ zmaxl 341) (gd (zob h (some 177) 12) (zBack zY 345 34 37 [some (zR (some 177)), some (zI x1), some (zI x2), some (zI (f_M_holeAt h x1))] [] (zC 341 [zR (some 177)] h))) from zGo 2 345 33 _ _ _).trans ?_
      refine (gd_t (⟨rfl, Nat.le_of_ble_eq_true rfl, rfl, Nat.le_of_ble_eq_true rfl⟩) _).trans ?_
      refine (gd_t (⟨rfl, (PTM KM 177 _ rfl rfl), (PNM KM 177 rfl)⟩) _).trans ?_
      rfl
    · skip
      refine (show zY 345 27 [some (zR (some 177)), some (zI x1), some (zI x2), some (zI (f_M_holeAt h x1))] [] h = gd (inR (2)) (gd (false = zctor 210 ∧ zcs [] ≤ 8 ∧ zrm 345 (zrf 210 + 1) (8 + (zmaxl 210 + 11) + zrl 210) = true ∧ zcs [zR (some 177), zI 2] ≤ zmaxl 210) (gd (zob h (some 177) 12) (zBack zY 345 29 32 [some (zR (some 177)), some (zI x1), some (zI x2), some (zI (f_M_holeAt h x1))] [] (zC 210 [zR (some 177), zI 2] h)))) from zGo 3 345 27 _ _ _).trans ?_
      refine (gd_t (by decide) _).trans ?_
      refine (gd_t (⟨rfl, Nat.le_of_ble_eq_true rfl, rfl, Nat.le_of_ble_eq_true rfl⟩) _).trans ?_
      refine (gd_t (⟨rfl, (PTM KM 177 _ rfl rfl), (PNM KM 177 rfl)⟩) _).trans ?_
      refine (congrArg (zBack zY 345 29 32 [some (zR (some 177)), some (zI x1), some (zI x2), some (zI (f_M_holeAt h x1))] []) (q_M_refuse KM)).trans ?_
      refine (show zY 345 32 [some (zR (some 177)), some (zI x1), some (zI x2), some (zI (f_M_holeAt h x1))] [zI 0] (sI h 177 1 2) = gd (([] : List zV).isEmpty = true ∧ (zrk 345 = 1 ∨ zrk 345 = 6 ∧ ((0 : Int) = 0 ∨ (0 : Int) = 1))) (some (.inl (some (zI 0)), (sI h 177 1 2))) from zGo 1 345 32 _ _ _).trans ?_
      refine (gd_t (⟨rfl, Or.inl rfl⟩) _).trans ?_
      rfl
theorem q_M_fill_r37 {h : zH} {x1 : Int} {x2 : Int} {x3 : Int} (KM : KM h) : zBack zY 345 34 37 [some (zR (some 177)), some (zI x1), some (zI x2), some (zI x3)] [] (some (.inl (none), h)) =
    gd (-2147483648 ≤ 2294 + x3 ∧ 2294 + x3 < 2147483648) (
    gd (0 ≤ (2294 + x3) ∧ (2294 + x3) < 2342) (
    zBack zY 345 50 53 [some (zR (some 177)), some (zI x1), some (zI x2), some (zI x3)] [zR (some 177)] (zC 245 [zR (some 177)] (sI h 179 (2294 + x3).toNat x2)))) := by
  refine (show zBack zY 345 34 37 [some (zR (some 177)), some (zI x1), some (zI x2), some (zI x3)] [] (some (.inl (none), h)) = gd (zob h (some 177) 12) (zY 345 41 [some (zR (some 177)), some (zI x1), some (zI x2), some (zI x3)] [zR (hR h 177 2)] h) from zGo 2 345 37 _ _ _).trans ?_
  refine (gd_t (⟨rfl, (PTM KM 177 _ rfl rfl), (PNM KM 177 rfl)⟩) _).trans ?_
  refine (congrArg (fun r => zY 345 41 [some (zR (some 177)), some (zI x1), some (zI x2), some (zI x3)] (zR r :: []) h) (PRM KM 177 2 _ rfl)).trans ?_
  refine (show zY 345 41 [some (zR (some 177)), some (zI x1), some (zI x2), some (zI x3)] [zR (some 179)] h = gd (-32768 ≤ (2294 : Int) ∧ (2294 : Int) < 32768) (gd (inR (2294 + x3)) (gd (zokw h (some 179) 22 (2294 + x3)) (gd (false = zctor 245 ∧ zcs [zR (some 177)] ≤ 8 ∧ zrm 345 (zrf 245 + 1) (8 + (zmaxl 245 + 11) + zrl 245) = true ∧ zcs [zR (some 177)] ≤ zmaxl 245) (gd (zob (sI h 179 (2294 + x3).toNat x2) (some 177) 12) (zBack zY 345 50 53 [some (zR (some 177)), some (zI x1), some (zI x2), some (zI x3)] [zR (some 177)] (zC 245 [zR (some 177)] (sI h 179 (2294 + x3).toNat x2))))))) from zGo 8 345 41 _ _ _).trans ?_
  refine (gd_t (by decide) _).trans ?_
  refine gd_c Iff.rfl (fun c0 => ?_)
  refine gd_c (ciw (PTM KM 179 _ rfl rfl) (PNM KM 179 rfl) (PLM KM 179 2342 rfl rfl)) (fun c1 => ?_)
  refine (gd_t (⟨rfl, Nat.le_of_ble_eq_true rfl, rfl, Nat.le_of_ble_eq_true rfl⟩) _).trans ?_
  refine (gd_t (⟨rfl, (PTM KM 177 _ rfl rfl), (PNM KM 177 rfl)⟩) _).trans ?_
  rfl
theorem q_M_fill_r53 {h : zH} {x1 : Int} {x2 : Int} {x3 : Int} {y : Int} (KM : KM h) : zBack zY 345 50 53 [some (zR (some 177)), some (zI x1), some (zI x2), some (zI x3)] [zR (some 177)] (some (.inl (some (zI y)), h)) =
    some (.inl (some (zI y)), (sI h 177 1 0)) := by
  refine (show zBack zY 345 50 53 [some (zR (some 177)), some (zI x1), some (zI x2), some (zI x3)] [zR (some 177)] (some (.inl (some (zI y)), h)) = gd (false = zctor 212 ∧ zcs [] ≤ 8 ∧ zrm 345 (zrf 212 + 1) (8 + (zmaxl 212 + 11) + zrl 212) = true ∧ zcs [zR (some 177), zI y] ≤ zmaxl 212) (gd (zob h (some 177) 12) (zBack zY 345 53 56 [some (zR (some 177)), some (zI x1), some (zI x2), some (zI x3)] [] (zC 212 [zR (some 177), zI y] h))) from zGo 1 345 53 _ _ _).trans ?_
  refine (gd_t (⟨rfl, Nat.le_of_ble_eq_true rfl, rfl, Nat.le_of_ble_eq_true rfl⟩) _).trans ?_
  refine (gd_t (⟨rfl, (PTM KM 177 _ rfl rfl), (PNM KM 177 rfl)⟩) _).trans ?_
  refine (congrArg (zBack zY 345 53 56 [some (zR (some 177)), some (zI x1), some (zI x2), some (zI x3)] []) (q_M_told KM)).trans ?_
  refine (show zY 345 56 [some (zR (some 177)), some (zI x1), some (zI x2), some (zI x3)] [zI y] (sI h 177 1 0) = gd (([] : List zV).isEmpty = true ∧ (zrk 345 = 1 ∨ zrk 345 = 6 ∧ ((y : Int) = 0 ∨ (y : Int) = 1))) (some (.inl (some (zI y)), (sI h 177 1 0))) from zGo 1 345 56 _ _ _).trans ?_
  refine (gd_t (⟨rfl, Or.inl rfl⟩) _).trans ?_
  rfl
theorem q_M_setPrice {h : zH} {x1 : Int} {x2 : Int} (KM : KM h) (g0 : (-2147483648 ≤ (hI h 177 10) - 1 ∧ (hI h 177 10) - 1 < 2147483648) := by omega) : zC 346 [zR (some 177), zI x1, zI x2] h =
    if b_M_isStatement h x1 then
      if b_M_in x2 0 99 then
        zBack zY 346 31 34 [some (zR (some 177)), some (zI x1), some (zI x2), none] [] (zC 341 [zR (some 177)] h)
      else
        some (.inl (some (zI 0)), (sI h 177 1 2))
    else
      some (.inl (some (zI 0)), (sI h 177 1 1)) := by
  refine (show zC 346 [zR (some 177), zI x1, zI x2] h = gd (false = zctor 277 ∧ zcs [] ≤ 8 ∧ zrm 346 (zrf 277 + 1) (8 + (zmaxl 277 + 11) + zrl 277) = true ∧ zcs [zR (some 177), zI x1] ≤ zmaxl 277) (gd (zob h (some 177) 12) (zBack zY 346 2 5 [some (zR (some 177)), some (zI x1), some (zI x2), none] [] (zC 277 [zR (some 177), zI x1] h))) from zGo 3 346 0 _ _ _).trans ?_
  refine (gd_t (⟨rfl, Nat.le_of_ble_eq_true rfl, rfl, Nat.le_of_ble_eq_true rfl⟩) _).trans ?_
  refine (gd_t (⟨rfl, (PTM KM 177 _ rfl rfl), (PNM KM 177 rfl)⟩) _).trans ?_
  refine (congrArg (zBack zY 346 2 5 [some (zR (some 177)), some (zI x1), some (zI x2), none] []) (e_M_isStatement KM (g0))).trans ?_
  refine (show zY 346 5 [some (zR (some 177)), some (zI x1), some (zI x2), none] [zI (if b_M_isStatement h x1 then (1 : Int) else 0)] h = if (if b_M_isStatement h x1 then (1 : Int) else 0) = 0 then zY 346 8 [some (zR (some 177)), some (zI x1), some (zI x2), none] [] h else zY 346 14 [some (zR (some 177)), some (zI x1), some (zI x2), none] [] h from zGo 1 346 5 _ _ _).trans ?_
  refine iteB (fun c0 => ?_) (fun c0 => ?_)
  · skip
    refine (show zY 346 14 [some (zR (some 177)), some (zI x1), some (zI x2), none] [] h = gd (inR (0)) (gd (-128 ≤ (99 : Int) ∧ (99 : Int) < 128) (gd (false = zctor 214 ∧ zcs [] ≤ 8 ∧ zrm 346 (zrf 214 + 1) (8 + (zmaxl 214 + 11) + zrl 214) = true ∧ zcs [zI x2, zI 0, zI 99] ≤ zmaxl 214) (zBack zY 346 18 21 [some (zR (some 177)), some (zI x1), some (zI x2), none] [] (zC 214 [zI x2, zI 0, zI 99] h)))) from zGo 4 346 14 _ _ _).trans ?_
    refine (gd_t (by decide) _).trans ?_
    refine (gd_t (by decide) _).trans ?_
    refine (gd_t (⟨rfl, Nat.le_of_ble_eq_true rfl, rfl, Nat.le_of_ble_eq_true rfl⟩) _).trans ?_
    refine (congrArg (zBack zY 346 18 21 [some (zR (some 177)), some (zI x1), some (zI x2), none] []) (e_M_in)).trans ?_
    refine (show zY 346 21 [some (zR (some 177)), some (zI x1), some (zI x2), none] [zI (if b_M_in x2 0 99 then (1 : Int) else 0)] h = if (if b_M_in x2 0 99 then (1 : Int) else 0) = 0 then zY 346 24 [some (zR (some 177)), some (zI x1), some (zI x2), none] [] h else zY 346 30 [some (zR (some 177)), some (zI x1), some (zI x2), none] [] h from zGo 1 346 21 _ _ _).trans ?_
    refine iteB (fun c1 => ?_) (fun c1 => ?_)
    · skip
      refine (show zY 346 30 [some (zR (some 177)), some (zI x1), some (zI x2), none] [] h = gd (false = zctor 341 ∧ zcs [] ≤ 8 ∧ zrm 346 (zrf 341 + 1) (8 + (zmaxl 341 + 11) + zrl 341) = true ∧ zcs [zR (some 177)] ≤ zmaxl 341) (gd (zob h (some 177) 12) (zBack zY 346 31 34 [some (zR (some 177)), some (zI x1), some (zI x2), none] [] (zC 341 [zR (some 177)] h))) from zGo 2 346 30 _ _ _).trans ?_
      refine (gd_t (⟨rfl, Nat.le_of_ble_eq_true rfl, rfl, Nat.le_of_ble_eq_true rfl⟩) _).trans ?_
      refine (gd_t (⟨rfl, (PTM KM 177 _ rfl rfl), (PNM KM 177 rfl)⟩) _).trans ?_
      rfl
    · skip
      refine (show zY 346 24 [some (zR (some 177)), some (zI x1), some (zI x2), none] [] h = gd (inR (2)) (gd (false = zctor 210 ∧ zcs [] ≤ 8 ∧ zrm 346 (zrf 210 + 1) (8 + (zmaxl 210 + 11) + zrl 210) = true ∧ zcs [zR (some 177), zI 2] ≤ zmaxl 210) (gd (zob h (some 177) 12) (zBack zY 346 26 29 [some (zR (some 177)), some (zI x1), some (zI x2), none] [] (zC 210 [zR (some 177), zI 2] h)))) from zGo 3 346 24 _ _ _).trans ?_
      refine (gd_t (by decide) _).trans ?_
      refine (gd_t (⟨rfl, Nat.le_of_ble_eq_true rfl, rfl, Nat.le_of_ble_eq_true rfl⟩) _).trans ?_
      refine (gd_t (⟨rfl, (PTM KM 177 _ rfl rfl), (PNM KM 177 rfl)⟩) _).trans ?_
      refine (congrArg (zBack zY 346 26 29 [some (zR (some 177)), some (zI x1), some (zI x2), none] []) (q_M_refuse KM)).trans ?_
      refine (show zY 346 29 [some (zR (some 177)), some (zI x1), some (zI x2), none] [zI 0] (sI h 177 1 2) = gd (([] : List zV).isEmpty = true ∧ (zrk 346 = 1 ∨ zrk 346 = 6 ∧ ((0 : Int) = 0 ∨ (0 : Int) = 1))) (some (.inl (some (zI 0)), (sI h 177 1 2))) from zGo 1 346 29 _ _ _).trans ?_
      refine (gd_t (⟨rfl, Or.inl rfl⟩) _).trans ?_
      rfl
  · skip
    refine (show zY 346 8 [some (zR (some 177)), some (zI x1), some (zI x2), none] [] h = gd (inR (1)) (gd (false = zctor 210 ∧ zcs [] ≤ 8 ∧ zrm 346 (zrf 210 + 1) (8 + (zmaxl 210 + 11) + zrl 210) = true ∧ zcs [zR (some 177), zI 1] ≤ zmaxl 210) (gd (zob h (some 177) 12) (zBack zY 346 10 13 [some (zR (some 177)), some (zI x1), some (zI x2), none] [] (zC 210 [zR (some 177), zI 1] h)))) from zGo 3 346 8 _ _ _).trans ?_
    refine (gd_t (by decide) _).trans ?_
    refine (gd_t (⟨rfl, Nat.le_of_ble_eq_true rfl, rfl, Nat.le_of_ble_eq_true rfl⟩) _).trans ?_
    refine (gd_t (⟨rfl, (PTM KM 177 _ rfl rfl), (PNM KM 177 rfl)⟩) _).trans ?_
    refine (congrArg (zBack zY 346 10 13 [some (zR (some 177)), some (zI x1), some (zI x2), none] []) (q_M_refuse KM)).trans ?_
    refine (show zY 346 13 [some (zR (some 177)), some (zI x1), some (zI x2), none] [zI 0] (sI h 177 1 1) = gd (([] : List zV).isEmpty = true ∧ (zrk 346 = 1 ∨ zrk 346 = 6 ∧ ((0 : Int) = 0 ∨ (0 : Int) = 1))) (some (.inl (some (zI 0)), (sI h 177 1 1))) from zGo 1 346 13 _ _ _).trans ?_
    refine (gd_t (⟨rfl, Or.inl rfl⟩) _).trans ?_
    rfl
theorem q_M_setPrice_r34 {h : zH} {x1 : Int} {x2 : Int} (KM : KM h) : zBack zY 346 31 34 [some (zR (some 177)), some (zI x1), some (zI x2), none] [] (some (.inl (none), h)) =
    gd (-2147483648 ≤ 2318 + x1 ∧ 2318 + x1 < 2147483648) (
    gd (0 ≤ (2318 + x1) ∧ (2318 + x1) < 2342) (
    some (.inl (some (zI (hI h 179 (2318 + x1).toNat))), (sI (sI h 179 (2318 + x1).toNat x2) 177 1 0)))) := by
  refine (show zBack zY 346 31 34 [some (zR (some 177)), some (zI x1), some (zI x2), none] [] (some (.inl (none), h)) = gd (zob h (some 177) 12) (zY 346 38 [some (zR (some 177)), some (zI x1), some (zI x2), none] [zR (hR h 177 2)] h) from zGo 2 346 34 _ _ _).trans ?_
  refine (gd_t (⟨rfl, (PTM KM 177 _ rfl rfl), (PNM KM 177 rfl)⟩) _).trans ?_
  refine (congrArg (fun r => zY 346 38 [some (zR (some 177)), some (zI x1), some (zI x2), none] (zR r :: []) h) (PRM KM 177 2 _ rfl)).trans ?_
  refine (show zY 346 38 [some (zR (some 177)), some (zI x1), some (zI x2), none] [zR (some 179)] h = gd (-32768 ≤ (2318 : Int) ∧ (2318 : Int) < 32768) (gd (inR (2318 + x1)) (gd (zok h (some 179) 22 (2318 + x1)) (gd (zob h (some 177) 12) (zY 346 49 [some (zR (some 177)), some (zI x1), some (zI x2), some (zI (hI h 179 (2318 + x1).toNat))] [zR (hR h 177 2)] h)))) from zGo 7 346 38 _ _ _).trans ?_
  refine (gd_t (by decide) _).trans ?_
  refine gd_c Iff.rfl (fun c0 => ?_)
  refine gd_c (ci (PTM KM 179 _ rfl rfl) (PLM KM 179 2342 rfl rfl)) (fun c1 => ?_)
  refine (gd_t (⟨rfl, (PTM KM 177 _ rfl rfl), (PNM KM 177 rfl)⟩) _).trans ?_
  refine (congrArg (fun r => zY 346 49 [some (zR (some 177)), some (zI x1), some (zI x2), some (zI (hI h 179 (2318 + x1).toNat))] (zR r :: []) h) (PRM KM 177 2 _ rfl)).trans ?_
  refine (show zY 346 49 [some (zR (some 177)), some (zI x1), some (zI x2), some (zI (hI h 179 (2318 + x1).toNat))] [zR (some 179)] h = gd (-32768 ≤ (2318 : Int) ∧ (2318 : Int) < 32768) (gd (inR (2318 + x1)) (gd (zokw h (some 179) 22 (2318 + x1)) (gd (false = zctor 212 ∧ zcs [] ≤ 8 ∧ zrm 346 (zrf 212 + 1) (8 + (zmaxl 212 + 11) + zrl 212) = true ∧ zcs [zR (some 177), zI (hI h 179 (2318 + x1).toNat)] ≤ zmaxl 212) (gd (zob (sI h 179 (2318 + x1).toNat x2) (some 177) 12) (zBack zY 346 58 61 [some (zR (some 177)), some (zI x1), some (zI x2), some (zI (hI h 179 (2318 + x1).toNat))] [] (zC 212 [zR (some 177), zI (hI h 179 (2318 + x1).toNat)] (sI h 179 (2318 + x1).toNat x2))))))) from zGo 8 346 49 _ _ _).trans ?_
  refine (gd_t (by decide) _).trans ?_
  refine (gd_t ((Iff.rfl).2 (by omega)) _).trans ?_
  refine (gd_t ((ciw (PTM KM 179 _ rfl rfl) (PNM KM 179 rfl) (PLM KM 179 2342 rfl rfl)).2 (by omega)) _).trans ?_
  refine (gd_t (⟨rfl, Nat.le_of_ble_eq_true rfl, rfl, Nat.le_of_ble_eq_true rfl⟩) _).trans ?_
  refine (gd_t (⟨rfl, (PTM KM 177 _ rfl rfl), (PNM KM 177 rfl)⟩) _).trans ?_
  refine (congrArg (zBack zY 346 58 61 [some (zR (some 177)), some (zI x1), some (zI x2), some (zI (hI h 179 (2318 + x1).toNat))] []) (q_M_told (h := (sI h 179 (2318 + x1).toNat x2)) KM)).trans ?_
  refine (show zY 346 61 [some (zR (some 177)), some (zI x1), some (zI x2), some (zI (hI h 179 (2318 + x1).toNat))] [zI (hI h 179 (2318 + x1).toNat)] (sI (sI h 179 (2318 + x1).toNat x2) 177 1 0) = gd (([] : List zV).isEmpty = true ∧ (zrk 346 = 1 ∨ zrk 346 = 6 ∧ (((hI h 179 (2318 + x1).toNat) : Int) = 0 ∨ ((hI h 179 (2318 + x1).toNat) : Int) = 1))) (some (.inl (some (zI (hI h 179 (2318 + x1).toNat))), (sI (sI h 179 (2318 + x1).toNat x2) 177 1 0))) from zGo 1 346 61 _ _ _).trans ?_
  refine (gd_t (⟨rfl, Or.inl rfl⟩) _).trans ?_
  rfl
theorem q_M_restore {h : zH} {x1 : Int} (KM : KM h) : zC 347 [zR (some 177), zI x1] h =
    if b_M_in x1 0 1 then
      if (zand (zshr (hI h 177 7) x1) 1) = 0 then
        some (.inl (some (zI 0)), (sI h 177 1 2))
      else
        zBack zY 347 33 36 [some (zR (some 177)), some (zI x1), none] [] (zC 341 [zR (some 177)] h)
    else
      some (.inl (some (zI 0)), (sI h 177 1 1)) := by
  refine (show zC 347 [zR (some 177), zI x1] h = gd (inR (0)) (gd (inR (1)) (gd (false = zctor 214 ∧ zcs [] ≤ 8 ∧ zrm 347 (zrf 214 + 1) (8 + (zmaxl 214 + 11) + zrl 214) = true ∧ zcs [zI x1, zI 0, zI 1] ≤ zmaxl 214) (zBack zY 347 3 6 [some (zR (some 177)), some (zI x1), none] [] (zC 214 [zI x1, zI 0, zI 1] h)))) from zGo 4 347 0 _ _ _).trans ?_
  refine (gd_t (by decide) _).trans ?_
  refine (gd_t (by decide) _).trans ?_
  refine (gd_t (⟨rfl, Nat.le_of_ble_eq_true rfl, rfl, Nat.le_of_ble_eq_true rfl⟩) _).trans ?_
  refine (congrArg (zBack zY 347 3 6 [some (zR (some 177)), some (zI x1), none] []) (e_M_in)).trans ?_
  refine (show zY 347 6 [some (zR (some 177)), some (zI x1), none] [zI (if b_M_in x1 0 1 then (1 : Int) else 0)] h = if (if b_M_in x1 0 1 then (1 : Int) else 0) = 0 then zY 347 9 [some (zR (some 177)), some (zI x1), none] [] h else zY 347 15 [some (zR (some 177)), some (zI x1), none] [] h from zGo 1 347 6 _ _ _).trans ?_
  refine iteB (fun c0 => ?_) (fun c0 => ?_)
  · skip
    refine (show zY 347 15 [some (zR (some 177)), some (zI x1), none] [] h = gd (zob h (some 177) 12) (gd (inR (1)) (if (zand (zshr (hI h 177 7) x1) 1) = 0 then zY 347 26 [some (zR (some 177)), some (zI x1), none] [] h else zY 347 32 [some (zR (some 177)), some (zI x1), none] [] h)) from zGo 7 347 15 _ _ _).trans ?_
    refine (gd_t (⟨rfl, (PTM KM 177 _ rfl rfl), (PNM KM 177 rfl)⟩) _).trans ?_
    refine (gd_t (by decide) _).trans ?_
    refine iteC (fun c1 => ?_) (fun c1 => ?_)
    · skip
      refine (show zY 347 26 [some (zR (some 177)), some (zI x1), none] [] h = gd (inR (2)) (gd (false = zctor 210 ∧ zcs [] ≤ 8 ∧ zrm 347 (zrf 210 + 1) (8 + (zmaxl 210 + 11) + zrl 210) = true ∧ zcs [zR (some 177), zI 2] ≤ zmaxl 210) (gd (zob h (some 177) 12) (zBack zY 347 28 31 [some (zR (some 177)), some (zI x1), none] [] (zC 210 [zR (some 177), zI 2] h)))) from zGo 3 347 26 _ _ _).trans ?_
      refine (gd_t (by decide) _).trans ?_
      refine (gd_t (⟨rfl, Nat.le_of_ble_eq_true rfl, rfl, Nat.le_of_ble_eq_true rfl⟩) _).trans ?_
      refine (gd_t (⟨rfl, (PTM KM 177 _ rfl rfl), (PNM KM 177 rfl)⟩) _).trans ?_
      refine (congrArg (zBack zY 347 28 31 [some (zR (some 177)), some (zI x1), none] []) (q_M_refuse KM)).trans ?_
      refine (show zY 347 31 [some (zR (some 177)), some (zI x1), none] [zI 0] (sI h 177 1 2) = gd (([] : List zV).isEmpty = true ∧ (zrk 347 = 1 ∨ zrk 347 = 6 ∧ ((0 : Int) = 0 ∨ (0 : Int) = 1))) (some (.inl (some (zI 0)), (sI h 177 1 2))) from zGo 1 347 31 _ _ _).trans ?_
      refine (gd_t (⟨rfl, Or.inl rfl⟩) _).trans ?_
      rfl
    · skip
      refine (show zY 347 32 [some (zR (some 177)), some (zI x1), none] [] h = gd (false = zctor 341 ∧ zcs [] ≤ 8 ∧ zrm 347 (zrf 341 + 1) (8 + (zmaxl 341 + 11) + zrl 341) = true ∧ zcs [zR (some 177)] ≤ zmaxl 341) (gd (zob h (some 177) 12) (zBack zY 347 33 36 [some (zR (some 177)), some (zI x1), none] [] (zC 341 [zR (some 177)] h))) from zGo 2 347 32 _ _ _).trans ?_
      refine (gd_t (⟨rfl, Nat.le_of_ble_eq_true rfl, rfl, Nat.le_of_ble_eq_true rfl⟩) _).trans ?_
      refine (gd_t (⟨rfl, (PTM KM 177 _ rfl rfl), (PNM KM 177 rfl)⟩) _).trans ?_
      rfl
  · skip
    refine (show zY 347 9 [some (zR (some 177)), some (zI x1), none] [] h = gd (inR (1)) (gd (false = zctor 210 ∧ zcs [] ≤ 8 ∧ zrm 347 (zrf 210 + 1) (8 + (zmaxl 210 + 11) + zrl 210) = true ∧ zcs [zR (some 177), zI 1] ≤ zmaxl 210) (gd (zob h (some 177) 12) (zBack zY 347 11 14 [some (zR (some 177)), some (zI x1), none] [] (zC 210 [zR (some 177), zI 1] h)))) from zGo 3 347 9 _ _ _).trans ?_
    refine (gd_t (by decide) _).trans ?_
    refine (gd_t (⟨rfl, Nat.le_of_ble_eq_true rfl, rfl, Nat.le_of_ble_eq_true rfl⟩) _).trans ?_
    refine (gd_t (⟨rfl, (PTM KM 177 _ rfl rfl), (PNM KM 177 rfl)⟩) _).trans ?_
    refine (congrArg (zBack zY 347 11 14 [some (zR (some 177)), some (zI x1), none] []) (q_M_refuse KM)).trans ?_
    refine (show zY 347 14 [some (zR (some 177)), some (zI x1), none] [zI 0] (sI h 177 1 1) = gd (([] : List zV).isEmpty = true ∧ (zrk 347 = 1 ∨ zrk 347 = 6 ∧ ((0 : Int) = 0 ∨ (0 : Int) = 1))) (some (.inl (some (zI 0)), (sI h 177 1 1))) from zGo 1 347 14 _ _ _).trans ?_
    refine (gd_t (⟨rfl, Or.inl rfl⟩) _).trans ?_
    rfl
theorem q_M_restore_r36 {h : zH} {x1 : Int} (KM : KM h) : zBack zY 347 33 36 [some (zR (some 177)), some (zI x1), none] [] (some (.inl (none), h)) =
    zY 347 38 [some (zR (some 177)), some (zI x1), some (zI 0)] [] h := by
  refine (show zBack zY 347 33 36 [some (zR (some 177)), some (zI x1), none] [] (some (.inl (none), h)) = gd (inR (0)) (zY 347 38 [some (zR (some 177)), some (zI x1), some (zI 0)] [] h) from zGo 2 347 36 _ _ _).trans ?_
  refine (gd_t (by decide) _).trans ?_
  rfl
theorem q_M_restore_38 {h : zH} {x1 : Int} {x2 : Int} (KM : KM h) : zY 347 38 [some (zR (some 177)), some (zI x1), some (zI x2)] [] h =
    if x2 < 2342 then
      gd (-2147483648 ≤ x1 * 2342 ∧ x1 * 2342 < 2147483648) (
      gd (-2147483648 ≤ (x1 * 2342) + x2 ∧ (x1 * 2342) + x2 < 2147483648) (
      gd (0 ≤ ((x1 * 2342) + x2) ∧ ((x1 * 2342) + x2) < 4684) (
      gd (0 ≤ x2 ∧ x2 < 2342) (
      gd (-2147483648 ≤ x2 + 1 ∧ x2 + 1 < 2147483648) (
      zY 347 38 [some (zR (some 177)), some (zI x1), some (zI (x2 + 1))] [] (sI h 179 x2.toNat (hI h 182 ((x1 * 2342) + x2).toNat)))))))
    else
      zBack zY 347 71 74 [some (zR (some 177)), some (zI x1), some (zI x2)] [zR (some 177)] (zC 245 [zR (some 177)] h) := by
  refine (show zY 347 38 [some (zR (some 177)), some (zI x1), some (zI x2)] [] h = gd (-32768 ≤ (2342 : Int) ∧ (2342 : Int) < 32768) (if x2 < 2342 then zY 347 45 [some (zR (some 177)), some (zI x1), some (zI x2)] [] h else zY 347 69 [some (zR (some 177)), some (zI x1), some (zI x2)] [] h) from zGo 3 347 38 _ _ _).trans ?_
  refine (gd_t (by decide) _).trans ?_
  refine iteC (fun c0 => ?_) (fun c0 => ?_)
  · skip
    refine (show zY 347 45 [some (zR (some 177)), some (zI x1), some (zI x2)] [] h = gd (zob h (some 177) 12) (zY 347 49 [some (zR (some 177)), some (zI x1), some (zI x2)] [zR (hR h 177 2)] h) from zGo 2 347 45 _ _ _).trans ?_
    refine (gd_t (⟨rfl, (PTM KM 177 _ rfl rfl), (PNM KM 177 rfl)⟩) _).trans ?_
    refine (congrArg (fun r => zY 347 49 [some (zR (some 177)), some (zI x1), some (zI x2)] (zR r :: []) h) (PRM KM 177 2 _ rfl)).trans ?_
    refine (show zY 347 49 [some (zR (some 177)), some (zI x1), some (zI x2)] [zR (some 179)] h = gd (zob h (some 177) 12) (zY 347 54 [some (zR (some 177)), some (zI x1), some (zI x2)] [zR (hR h 177 6), zI x2, zR (some 179)] h) from zGo 3 347 49 _ _ _).trans ?_
    refine (gd_t (⟨rfl, (PTM KM 177 _ rfl rfl), (PNM KM 177 rfl)⟩) _).trans ?_
    refine (congrArg (fun r => zY 347 54 [some (zR (some 177)), some (zI x1), some (zI x2)] (zR r :: zI x2 :: zR (some 179) :: []) h) (PRM KM 177 6 _ rfl)).trans ?_
    refine (show zY 347 54 [some (zR (some 177)), some (zI x1), some (zI x2)] [zR (some 182), zI x2, zR (some 179)] h = gd (-32768 ≤ (2342 : Int) ∧ (2342 : Int) < 32768) (gd (inR (x1 * 2342)) (gd (inR ((x1 * 2342) + x2)) (gd (zok h (some 182) 22 ((x1 * 2342) + x2)) (gd (zokw h (some 179) 22 x2) (gd (inR (x2 + 1)) (gd (inR (1)) (zY 347 38 [some (zR (some 177)), some (zI x1), some (zI (x2 + 1))] [] (sI h 179 x2.toNat (hI h 182 ((x1 * 2342) + x2).toNat))))))))) from zGo 9 347 54 _ _ _).trans ?_
    refine (gd_t (by decide) _).trans ?_
    refine gd_c Iff.rfl (fun c1 => ?_)
    refine gd_c Iff.rfl (fun c2 => ?_)
    refine gd_c (ci (PTM KM 182 _ rfl rfl) (PLM KM 182 4684 rfl rfl)) (fun c3 => ?_)
    refine gd_c (ciw (PTM KM 179 _ rfl rfl) (PNM KM 179 rfl) (PLM KM 179 2342 rfl rfl)) (fun c4 => ?_)
    refine gd_c Iff.rfl (fun c5 => ?_)
    refine (gd_t (by decide) _).trans ?_
    rfl
  · skip
    refine (show zY 347 69 [some (zR (some 177)), some (zI x1), some (zI x2)] [] h = gd (false = zctor 245 ∧ zcs [zR (some 177)] ≤ 8 ∧ zrm 347 (zrf 245 + 1) (8 + (zmaxl 245 + 11) + zrl 245) = true ∧ zcs [zR (some 177)] ≤ zmaxl 245) (gd (zob h (some 177) 12) (zBack zY 347 71 74 [some (zR (some 177)), some (zI x1), some (zI x2)] [zR (some 177)] (zC 245 [zR (some 177)] h))) from zGo 3 347 69 _ _ _).trans ?_
    refine (gd_t (⟨rfl, Nat.le_of_ble_eq_true rfl, rfl, Nat.le_of_ble_eq_true rfl⟩) _).trans ?_
    refine (gd_t (⟨rfl, (PTM KM 177 _ rfl rfl), (PNM KM 177 rfl)⟩) _).trans ?_
    rfl
theorem q_M_restore_r74 {h : zH} {x1 : Int} {x2 : Int} {y : Int} (KM : KM h) : zBack zY 347 71 74 [some (zR (some 177)), some (zI x1), some (zI x2)] [zR (some 177)] (some (.inl (some (zI y)), h)) =
    some (.inl (some (zI y)), (sI h 177 1 0)) := by
  refine (show zBack zY 347 71 74 [some (zR (some 177)), some (zI x1), some (zI x2)] [zR (some 177)] (some (.inl (some (zI y)), h)) = gd (false = zctor 212 ∧ zcs [] ≤ 8 ∧ zrm 347 (zrf 212 + 1) (8 + (zmaxl 212 + 11) + zrl 212) = true ∧ zcs [zR (some 177), zI y] ≤ zmaxl 212) (gd (zob h (some 177) 12) (zBack zY 347 74 77 [some (zR (some 177)), some (zI x1), some (zI x2)] [] (zC 212 [zR (some 177), zI y] h))) from zGo 1 347 74 _ _ _).trans ?_
  refine (gd_t (⟨rfl, Nat.le_of_ble_eq_true rfl, rfl, Nat.le_of_ble_eq_true rfl⟩) _).trans ?_
  refine (gd_t (⟨rfl, (PTM KM 177 _ rfl rfl), (PNM KM 177 rfl)⟩) _).trans ?_
  refine (congrArg (zBack zY 347 74 77 [some (zR (some 177)), some (zI x1), some (zI x2)] []) (q_M_told KM)).trans ?_
  refine (show zY 347 77 [some (zR (some 177)), some (zI x1), some (zI x2)] [zI y] (sI h 177 1 0) = gd (([] : List zV).isEmpty = true ∧ (zrk 347 = 1 ∨ zrk 347 = 6 ∧ ((y : Int) = 0 ∨ (y : Int) = 1))) (some (.inl (some (zI y)), (sI h 177 1 0))) from zGo 1 347 77 _ _ _).trans ?_
  refine (gd_t (⟨rfl, Or.inl rfl⟩) _).trans ?_
  rfl
theorem q_M_undo {h : zH} (KM : KM h) : zC 348 [zR (some 177)] h =
    if (hI h 177 5) = 0 then
      some (.inl (some (zI 0)), (sI h 177 1 1))
    else
      gd (-2147483648 ≤ (hI h 177 5) - 1 ∧ (hI h 177 5) - 1 < 2147483648) (
      zY 348 25 [some (zR (some 177)), some (zI 0)] [] (sI h 177 5 ((hI h 177 5) - 1))) := by
  refine (show zC 348 [zR (some 177)] h = gd (zob h (some 177) 12) (if (hI h 177 5) = 0 then zY 348 7 [some (zR (some 177)), none] [] h else zY 348 13 [some (zR (some 177)), none] [] h) from zGo 3 348 0 _ _ _).trans ?_
  refine (gd_t (⟨rfl, (PTM KM 177 _ rfl rfl), (PNM KM 177 rfl)⟩) _).trans ?_
  refine iteC (fun c0 => ?_) (fun c0 => ?_)
  · skip
    refine (show zY 348 7 [some (zR (some 177)), none] [] h = gd (inR (1)) (gd (false = zctor 210 ∧ zcs [] ≤ 8 ∧ zrm 348 (zrf 210 + 1) (8 + (zmaxl 210 + 11) + zrl 210) = true ∧ zcs [zR (some 177), zI 1] ≤ zmaxl 210) (gd (zob h (some 177) 12) (zBack zY 348 9 12 [some (zR (some 177)), none] [] (zC 210 [zR (some 177), zI 1] h)))) from zGo 3 348 7 _ _ _).trans ?_
    refine (gd_t (by decide) _).trans ?_
    refine (gd_t (⟨rfl, Nat.le_of_ble_eq_true rfl, rfl, Nat.le_of_ble_eq_true rfl⟩) _).trans ?_
    refine (gd_t (⟨rfl, (PTM KM 177 _ rfl rfl), (PNM KM 177 rfl)⟩) _).trans ?_
    refine (congrArg (zBack zY 348 9 12 [some (zR (some 177)), none] []) (q_M_refuse KM)).trans ?_
    refine (show zY 348 12 [some (zR (some 177)), none] [zI 0] (sI h 177 1 1) = gd (([] : List zV).isEmpty = true ∧ (zrk 348 = 1 ∨ zrk 348 = 6 ∧ ((0 : Int) = 0 ∨ (0 : Int) = 1))) (some (.inl (some (zI 0)), (sI h 177 1 1))) from zGo 1 348 12 _ _ _).trans ?_
    refine (gd_t (⟨rfl, Or.inl rfl⟩) _).trans ?_
    rfl
  · skip
    refine (show zY 348 13 [some (zR (some 177)), none] [] h = gd (zob h (some 177) 12) (gd (inR (1)) (gd (inR ((hI h 177 5) - 1)) (gd (zob h (some 177) 12) (gd (inR (0)) (zY 348 25 [some (zR (some 177)), some (zI 0)] [] (sI h 177 5 ((hI h 177 5) - 1))))))) from zGo 8 348 13 _ _ _).trans ?_
    refine (gd_t (⟨rfl, (PTM KM 177 _ rfl rfl), (PNM KM 177 rfl)⟩) _).trans ?_
    refine (gd_t (by decide) _).trans ?_
    refine gd_c Iff.rfl (fun c1 => ?_)
    refine (gd_t (⟨rfl, (PTM KM 177 _ rfl rfl), (PNM KM 177 rfl)⟩) _).trans ?_
    refine (gd_t (by decide) _).trans ?_
    rfl
theorem q_M_undo_25 {h : zH} {x1 : Int} (KM : KM h) : zY 348 25 [some (zR (some 177)), some (zI x1)] [] h =
    if x1 < 2342 then
      gd (-2147483648 ≤ (hI h 177 5) * 2342 ∧ (hI h 177 5) * 2342 < 2147483648) (
      gd (-2147483648 ≤ ((hI h 177 5) * 2342) + x1 ∧ ((hI h 177 5) * 2342) + x1 < 2147483648) (
      gd (0 ≤ (((hI h 177 5) * 2342) + x1) ∧ (((hI h 177 5) * 2342) + x1) < 23420) (
      gd (0 ≤ x1 ∧ x1 < 2342) (
      gd (-2147483648 ≤ x1 + 1 ∧ x1 + 1 < 2147483648) (
      zY 348 25 [some (zR (some 177)), some (zI (x1 + 1))] [] (sI h 179 x1.toNat (hI h 181 (((hI h 177 5) * 2342) + x1).toNat)))))))
    else
      some (.inl (some (zI (hI h 177 5))), (sI h 177 1 0)) := by
  refine (show zY 348 25 [some (zR (some 177)), some (zI x1)] [] h = gd (-32768 ≤ (2342 : Int) ∧ (2342 : Int) < 32768) (if x1 < 2342 then zY 348 32 [some (zR (some 177)), some (zI x1)] [] h else zY 348 59 [some (zR (some 177)), some (zI x1)] [] h) from zGo 3 348 25 _ _ _).trans ?_
  refine (gd_t (by decide) _).trans ?_
  refine iteC (fun c0 => ?_) (fun c0 => ?_)
  · skip
    refine (show zY 348 32 [some (zR (some 177)), some (zI x1)] [] h = gd (zob h (some 177) 12) (zY 348 36 [some (zR (some 177)), some (zI x1)] [zR (hR h 177 2)] h) from zGo 2 348 32 _ _ _).trans ?_
    refine (gd_t (⟨rfl, (PTM KM 177 _ rfl rfl), (PNM KM 177 rfl)⟩) _).trans ?_
    refine (congrArg (fun r => zY 348 36 [some (zR (some 177)), some (zI x1)] (zR r :: []) h) (PRM KM 177 2 _ rfl)).trans ?_
    refine (show zY 348 36 [some (zR (some 177)), some (zI x1)] [zR (some 179)] h = gd (zob h (some 177) 12) (zY 348 41 [some (zR (some 177)), some (zI x1)] [zR (hR h 177 4), zI x1, zR (some 179)] h) from zGo 3 348 36 _ _ _).trans ?_
    refine (gd_t (⟨rfl, (PTM KM 177 _ rfl rfl), (PNM KM 177 rfl)⟩) _).trans ?_
    refine (congrArg (fun r => zY 348 41 [some (zR (some 177)), some (zI x1)] (zR r :: zI x1 :: zR (some 179) :: []) h) (PRM KM 177 4 _ rfl)).trans ?_
    refine (show zY 348 41 [some (zR (some 177)), some (zI x1)] [zR (some 181), zI x1, zR (some 179)] h = gd (zob h (some 177) 12) (gd (-32768 ≤ (2342 : Int) ∧ (2342 : Int) < 32768) (gd (inR ((hI h 177 5) * 2342)) (gd (inR (((hI h 177 5) * 2342) + x1)) (gd (zok h (some 181) 22 (((hI h 177 5) * 2342) + x1)) (gd (zokw h (some 179) 22 x1) (gd (inR (x1 + 1)) (gd (inR (1)) (zY 348 25 [some (zR (some 177)), some (zI (x1 + 1))] [] (sI h 179 x1.toNat (hI h 181 (((hI h 177 5) * 2342) + x1).toNat)))))))))) from zGo 10 348 41 _ _ _).trans ?_
    refine (gd_t (⟨rfl, (PTM KM 177 _ rfl rfl), (PNM KM 177 rfl)⟩) _).trans ?_
    refine (gd_t (by decide) _).trans ?_
    refine gd_c Iff.rfl (fun c1 => ?_)
    refine gd_c Iff.rfl (fun c2 => ?_)
    refine gd_c (ci (PTM KM 181 _ rfl rfl) (PLM KM 181 23420 rfl rfl)) (fun c3 => ?_)
    refine gd_c (ciw (PTM KM 179 _ rfl rfl) (PNM KM 179 rfl) (PLM KM 179 2342 rfl rfl)) (fun c4 => ?_)
    refine gd_c Iff.rfl (fun c5 => ?_)
    refine (gd_t (by decide) _).trans ?_
    rfl
  · skip
    refine (show zY 348 59 [some (zR (some 177)), some (zI x1)] [] h = gd (zob h (some 177) 12) (gd (false = zctor 212 ∧ zcs [] ≤ 8 ∧ zrm 348 (zrf 212 + 1) (8 + (zmaxl 212 + 11) + zrl 212) = true ∧ zcs [zR (some 177), zI (hI h 177 5)] ≤ zmaxl 212) (gd (zob h (some 177) 12) (zBack zY 348 64 67 [some (zR (some 177)), some (zI x1)] [] (zC 212 [zR (some 177), zI (hI h 177 5)] h)))) from zGo 4 348 59 _ _ _).trans ?_
    refine (gd_t (⟨rfl, (PTM KM 177 _ rfl rfl), (PNM KM 177 rfl)⟩) _).trans ?_
    refine (gd_t (⟨rfl, Nat.le_of_ble_eq_true rfl, rfl, Nat.le_of_ble_eq_true rfl⟩) _).trans ?_
    refine (gd_t (⟨rfl, (PTM KM 177 _ rfl rfl), (PNM KM 177 rfl)⟩) _).trans ?_
    refine (congrArg (zBack zY 348 64 67 [some (zR (some 177)), some (zI x1)] []) (q_M_told KM)).trans ?_
    refine (show zY 348 67 [some (zR (some 177)), some (zI x1)] [zI (hI h 177 5)] (sI h 177 1 0) = gd (([] : List zV).isEmpty = true ∧ (zrk 348 = 1 ∨ zrk 348 = 6 ∧ (((hI h 177 5) : Int) = 0 ∨ ((hI h 177 5) : Int) = 1))) (some (.inl (some (zI (hI h 177 5))), (sI h 177 1 0))) from zGo 1 348 67 _ _ _).trans ?_
    refine (gd_t (⟨rfl, Or.inl rfl⟩) _).trans ?_
    rfl
theorem q_M_save {h : zH} {x1 : Int} (KM : KM h) : zC 349 [zR (some 177), zI x1] h =
    if b_M_in x1 0 1 then
      zY 349 17 [some (zR (some 177)), some (zI x1), some (zI 0)] [] h
    else
      some (.inl (some (zI 0)), (sI h 177 1 1)) := by
  refine (show zC 349 [zR (some 177), zI x1] h = gd (inR (0)) (gd (inR (1)) (gd (false = zctor 214 ∧ zcs [] ≤ 8 ∧ zrm 349 (zrf 214 + 1) (8 + (zmaxl 214 + 11) + zrl 214) = true ∧ zcs [zI x1, zI 0, zI 1] ≤ zmaxl 214) (zBack zY 349 3 6 [some (zR (some 177)), some (zI x1), none] [] (zC 214 [zI x1, zI 0, zI 1] h)))) from zGo 4 349 0 _ _ _).trans ?_
  refine (gd_t (by decide) _).trans ?_
  refine (gd_t (by decide) _).trans ?_
  refine (gd_t (⟨rfl, Nat.le_of_ble_eq_true rfl, rfl, Nat.le_of_ble_eq_true rfl⟩) _).trans ?_
  refine (congrArg (zBack zY 349 3 6 [some (zR (some 177)), some (zI x1), none] []) (e_M_in)).trans ?_
  refine (show zY 349 6 [some (zR (some 177)), some (zI x1), none] [zI (if b_M_in x1 0 1 then (1 : Int) else 0)] h = if (if b_M_in x1 0 1 then (1 : Int) else 0) = 0 then zY 349 9 [some (zR (some 177)), some (zI x1), none] [] h else zY 349 15 [some (zR (some 177)), some (zI x1), none] [] h from zGo 1 349 6 _ _ _).trans ?_
  refine iteB (fun c0 => ?_) (fun c0 => ?_)
  · skip
    refine (show zY 349 15 [some (zR (some 177)), some (zI x1), none] [] h = gd (inR (0)) (zY 349 17 [some (zR (some 177)), some (zI x1), some (zI 0)] [] h) from zGo 2 349 15 _ _ _).trans ?_
    refine (gd_t (by decide) _).trans ?_
    rfl
  · skip
    refine (show zY 349 9 [some (zR (some 177)), some (zI x1), none] [] h = gd (inR (1)) (gd (false = zctor 210 ∧ zcs [] ≤ 8 ∧ zrm 349 (zrf 210 + 1) (8 + (zmaxl 210 + 11) + zrl 210) = true ∧ zcs [zR (some 177), zI 1] ≤ zmaxl 210) (gd (zob h (some 177) 12) (zBack zY 349 11 14 [some (zR (some 177)), some (zI x1), none] [] (zC 210 [zR (some 177), zI 1] h)))) from zGo 3 349 9 _ _ _).trans ?_
    refine (gd_t (by decide) _).trans ?_
    refine (gd_t (⟨rfl, Nat.le_of_ble_eq_true rfl, rfl, Nat.le_of_ble_eq_true rfl⟩) _).trans ?_
    refine (gd_t (⟨rfl, (PTM KM 177 _ rfl rfl), (PNM KM 177 rfl)⟩) _).trans ?_
    refine (congrArg (zBack zY 349 11 14 [some (zR (some 177)), some (zI x1), none] []) (q_M_refuse KM)).trans ?_
    refine (show zY 349 14 [some (zR (some 177)), some (zI x1), none] [zI 0] (sI h 177 1 1) = gd (([] : List zV).isEmpty = true ∧ (zrk 349 = 1 ∨ zrk 349 = 6 ∧ ((0 : Int) = 0 ∨ (0 : Int) = 1))) (some (.inl (some (zI 0)), (sI h 177 1 1))) from zGo 1 349 14 _ _ _).trans ?_
    refine (gd_t (⟨rfl, Or.inl rfl⟩) _).trans ?_
    rfl
theorem q_M_save_17 {h : zH} {x1 : Int} {x2 : Int} (KM : KM h) : zY 349 17 [some (zR (some 177)), some (zI x1), some (zI x2)] [] h =
    if x2 < 2342 then
      gd (-2147483648 ≤ x1 * 2342 ∧ x1 * 2342 < 2147483648) (
      gd (-2147483648 ≤ (x1 * 2342) + x2 ∧ (x1 * 2342) + x2 < 2147483648) (
      gd (0 ≤ x2 ∧ x2 < 2342) (
      gd (0 ≤ ((x1 * 2342) + x2) ∧ ((x1 * 2342) + x2) < 4684) (
      gd (-2147483648 ≤ x2 + 1 ∧ x2 + 1 < 2147483648) (
      zY 349 17 [some (zR (some 177)), some (zI x1), some (zI (x2 + 1))] [] (sI h 182 ((x1 * 2342) + x2).toNat (hI h 179 x2.toNat)))))))
    else
      gd (-2147483648 ≤ (zand (zor (hI h 177 7) (zshl 1 x1)) 1) + (zshr (zor (hI h 177 7) (zshl 1 x1)) 1) ∧ (zand (zor (hI h 177 7) (zshl 1 x1)) 1) + (zshr (zor (hI h 177 7) (zshl 1 x1)) 1) < 2147483648) (
      some (.inl (some (zI ((zand (zor (hI h 177 7) (zshl 1 x1)) 1) + (zshr (zor (hI h 177 7) (zshl 1 x1)) 1)))), (sI (sI h 177 7 (zor (hI h 177 7) (zshl 1 x1))) 177 1 0))) := by
  refine (show zY 349 17 [some (zR (some 177)), some (zI x1), some (zI x2)] [] h = gd (-32768 ≤ (2342 : Int) ∧ (2342 : Int) < 32768) (if x2 < 2342 then zY 349 24 [some (zR (some 177)), some (zI x1), some (zI x2)] [] h else zY 349 48 [some (zR (some 177)), some (zI x1), some (zI x2)] [] h) from zGo 3 349 17 _ _ _).trans ?_
  refine (gd_t (by decide) _).trans ?_
  refine iteC (fun c0 => ?_) (fun c0 => ?_)
  · skip
    refine (show zY 349 24 [some (zR (some 177)), some (zI x1), some (zI x2)] [] h = gd (zob h (some 177) 12) (zY 349 28 [some (zR (some 177)), some (zI x1), some (zI x2)] [zR (hR h 177 6)] h) from zGo 2 349 24 _ _ _).trans ?_
    refine (gd_t (⟨rfl, (PTM KM 177 _ rfl rfl), (PNM KM 177 rfl)⟩) _).trans ?_
    refine (congrArg (fun r => zY 349 28 [some (zR (some 177)), some (zI x1), some (zI x2)] (zR r :: []) h) (PRM KM 177 6 _ rfl)).trans ?_
    refine (show zY 349 28 [some (zR (some 177)), some (zI x1), some (zI x2)] [zR (some 182)] h = gd (-32768 ≤ (2342 : Int) ∧ (2342 : Int) < 32768) (gd (inR (x1 * 2342)) (gd (inR ((x1 * 2342) + x2)) (gd (zob h (some 177) 12) (zY 349 39 [some (zR (some 177)), some (zI x1), some (zI x2)] [zR (hR h 177 2), zI ((x1 * 2342) + x2), zR (some 182)] h)))) from zGo 7 349 28 _ _ _).trans ?_
    refine (gd_t (by decide) _).trans ?_
    refine gd_c Iff.rfl (fun c1 => ?_)
    refine gd_c Iff.rfl (fun c2 => ?_)
    refine (gd_t (⟨rfl, (PTM KM 177 _ rfl rfl), (PNM KM 177 rfl)⟩) _).trans ?_
    refine (congrArg (fun r => zY 349 39 [some (zR (some 177)), some (zI x1), some (zI x2)] (zR r :: zI ((x1 * 2342) + x2) :: zR (some 182) :: []) h) (PRM KM 177 2 _ rfl)).trans ?_
    refine (show zY 349 39 [some (zR (some 177)), some (zI x1), some (zI x2)] [zR (some 179), zI ((x1 * 2342) + x2), zR (some 182)] h = gd (zok h (some 179) 22 x2) (gd (zokw h (some 182) 22 ((x1 * 2342) + x2)) (gd (inR (x2 + 1)) (gd (inR (1)) (zY 349 17 [some (zR (some 177)), some (zI x1), some (zI (x2 + 1))] [] (sI h 182 ((x1 * 2342) + x2).toNat (hI h 179 x2.toNat)))))) from zGo 5 349 39 _ _ _).trans ?_
    refine gd_c (ci (PTM KM 179 _ rfl rfl) (PLM KM 179 2342 rfl rfl)) (fun c3 => ?_)
    refine gd_c (ciw (PTM KM 182 _ rfl rfl) (PNM KM 182 rfl) (PLM KM 182 4684 rfl rfl)) (fun c4 => ?_)
    refine gd_c Iff.rfl (fun c5 => ?_)
    refine (gd_t (by decide) _).trans ?_
    rfl
  · skip
    refine (show zY 349 48 [some (zR (some 177)), some (zI x1), some (zI x2)] [] h = gd (zob h (some 177) 12) (gd (inR (1)) (gd (zob h (some 177) 12) (gd (zob (sI h 177 7 (zor (hI h 177 7) (zshl 1 x1))) (some 177) 12) (gd (inR (1)) (gd (zob (sI h 177 7 (zor (hI h 177 7) (zshl 1 x1))) (some 177) 12) (gd (inR (1)) (gd (inR ((zand (zor (hI h 177 7) (zshl 1 x1)) 1) + (zshr (zor (hI h 177 7) (zshl 1 x1)) 1))) (gd (false = zctor 212 ∧ zcs [] ≤ 8 ∧ zrm 349 (zrf 212 + 1) (8 + (zmaxl 212 + 11) + zrl 212) = true ∧ zcs [zR (some 177), zI ((zand (zor (hI h 177 7) (zshl 1 x1)) 1) + (zshr (zor (hI h 177 7) (zshl 1 x1)) 1))] ≤ zmaxl 212) (gd (zob (sI h 177 7 (zor (hI h 177 7) (zshl 1 x1))) (some 177) 12) (zBack zY 349 74 77 [some (zR (some 177)), some (zI x1), some (zI x2)] [] (zC 212 [zR (some 177), zI ((zand (zor (hI h 177 7) (zshl 1 x1)) 1) + (zshr (zor (hI h 177 7) (zshl 1 x1)) 1))] (sI h 177 7 (zor (hI h 177 7) (zshl 1 x1)))))))))))))) from zGo 19 349 48 _ _ _).trans ?_
    refine (gd_t (⟨rfl, (PTM KM 177 _ rfl rfl), (PNM KM 177 rfl)⟩) _).trans ?_
    refine (gd_t (by decide) _).trans ?_
    refine (gd_t (⟨rfl, (PTM KM 177 _ rfl rfl), (PNM KM 177 rfl)⟩) _).trans ?_
    refine (gd_t (⟨rfl, (PTM KM 177 _ rfl rfl), (PNM KM 177 rfl)⟩) _).trans ?_
    refine (gd_t (by decide) _).trans ?_
    refine (gd_t (⟨rfl, (PTM KM 177 _ rfl rfl), (PNM KM 177 rfl)⟩) _).trans ?_
    refine (gd_t (by decide) _).trans ?_
    refine gd_c Iff.rfl (fun c6 => ?_)
    refine (gd_t (⟨rfl, Nat.le_of_ble_eq_true rfl, rfl, Nat.le_of_ble_eq_true rfl⟩) _).trans ?_
    refine (gd_t (⟨rfl, (PTM KM 177 _ rfl rfl), (PNM KM 177 rfl)⟩) _).trans ?_
    refine (congrArg (zBack zY 349 74 77 [some (zR (some 177)), some (zI x1), some (zI x2)] []) (q_M_told (h := (sI h 177 7 (zor (hI h 177 7) (zshl 1 x1)))) KM)).trans ?_
    refine (show zY 349 77 [some (zR (some 177)), some (zI x1), some (zI x2)] [zI ((zand (zor (hI h 177 7) (zshl 1 x1)) 1) + (zshr (zor (hI h 177 7) (zshl 1 x1)) 1))] (sI (sI h 177 7 (zor (hI h 177 7) (zshl 1 x1))) 177 1 0) = gd (([] : List zV).isEmpty = true ∧ (zrk 349 = 1 ∨ zrk 349 = 6 ∧ ((((zand (zor (hI h 177 7) (zshl 1 x1)) 1) + (zshr (zor (hI h 177 7) (zshl 1 x1)) 1)) : Int) = 0 ∨ (((zand (zor (hI h 177 7) (zshl 1 x1)) 1) + (zshr (zor (hI h 177 7) (zshl 1 x1)) 1)) : Int) = 1))) (some (.inl (some (zI ((zand (zor (hI h 177 7) (zshl 1 x1)) 1) + (zshr (zor (hI h 177 7) (zshl 1 x1)) 1)))), (sI (sI h 177 7 (zor (hI h 177 7) (zshl 1 x1))) 177 1 0))) from zGo 1 349 77 _ _ _).trans ?_
    refine (gd_t (⟨rfl, Or.inl rfl⟩) _).trans ?_
    rfl
