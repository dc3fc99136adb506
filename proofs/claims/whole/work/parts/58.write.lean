/-! The reference: needs as conditions. -/
theorem q_M_drafts {h : zH} {x1 : Int} (KM : KM h) : zC 323 [zR (some 177), zI x1] h =
    if (hI h 177 26) = 200 then
      if (-1) = (-1) then
        some (.inl (none), (sI h 177 26 (-1)))
      else
        gd (0 ≤ (-1) ∧ (-1) < 201) (
        gd (-2147483648 ≤ (-1) + 1 ∧ (-1) + 1 < 2147483648) (
        some (.inl (none), (sI (sI (sI h 177 26 (-1)) 191 (-1).toNat x1) 177 26 ((-1) + 1)))))
    else
      if (hI h 177 26) = (-1) then
        some (.inl (none), h)
      else
        gd (0 ≤ (hI h 177 26) ∧ (hI h 177 26) < 201) (
        gd (-2147483648 ≤ (hI h 177 26) + 1 ∧ (hI h 177 26) + 1 < 2147483648) (
        some (.inl (none), (sI (sI h 191 (hI h 177 26).toNat x1) 177 26 ((hI h 177 26) + 1))))) := by
  refine (show zC 323 [zR (some 177), zI x1] h = gd (zob h (some 177) 12) (gd (-32768 ≤ (200 : Int) ∧ (200 : Int) < 32768) (if (hI h 177 26) = 200 then zY 323 10 [some (zR (some 177)), some (zI x1)] [] h else zY 323 15 [some (zR (some 177)), some (zI x1)] [] h)) from zGo 4 323 0 _ _ _).trans ?_
  refine (gd_t (⟨rfl, (PTM KM 177 _ rfl rfl), (PNM KM 177 rfl)⟩) _).trans ?_
  refine (gd_t (by decide) _).trans ?_
  refine iteC (fun c0 => ?_) (fun c0 => ?_)
  · skip
    refine (show zY 323 10 [some (zR (some 177)), some (zI x1)] [] h = gd (inR (-1)) (gd (zob h (some 177) 12) (gd (zob (sI h 177 26 (-1)) (some 177) 12) (gd (inR (-1)) (if (-1) = (-1) then zY 323 43 [some (zR (some 177)), some (zI x1)] [] (sI h 177 26 (-1)) else zY 323 23 [some (zR (some 177)), some (zI x1)] [] (sI h 177 26 (-1)))))) from zGo 7 323 10 _ _ _).trans ?_
    refine (gd_t (by decide) _).trans ?_
    refine (gd_t (⟨rfl, (PTM KM 177 _ rfl rfl), (PNM KM 177 rfl)⟩) _).trans ?_
    refine (gd_t (⟨rfl, (PTM KM 177 _ rfl rfl), (PNM KM 177 rfl)⟩) _).trans ?_
    refine (gd_t (by decide) _).trans ?_
    refine iteC (fun c1 => ?_) (fun c1 => ?_)
    · skip
      refine (show zY 323 43 [some (zR (some 177)), some (zI x1)] [] (sI h 177 26 (-1)) = gd (([] : List zV).isEmpty = true ∧ zrk 323 = 0) (some (.inl (none), (sI h 177 26 (-1)))) from zGo 1 323 43 _ _ _).trans ?_
      refine (gd_t (⟨rfl, rfl⟩) _).trans ?_
      rfl
    · skip
      refine (show zY 323 23 [some (zR (some 177)), some (zI x1)] [] (sI h 177 26 (-1)) = gd (zob (sI h 177 26 (-1)) (some 177) 12) (zY 323 27 [some (zR (some 177)), some (zI x1)] [zR (hR h 177 25)] (sI h 177 26 (-1))) from zGo 2 323 23 _ _ _).trans ?_
      refine (gd_t (⟨rfl, (PTM KM 177 _ rfl rfl), (PNM KM 177 rfl)⟩) _).trans ?_
      refine (congrArg (fun r => zY 323 27 [some (zR (some 177)), some (zI x1)] (zR r :: []) (sI h 177 26 (-1))) (PRM KM 177 25 _ rfl)).trans ?_
      refine (show zY 323 27 [some (zR (some 177)), some (zI x1)] [zR (some 191)] (sI h 177 26 (-1)) = gd (zob (sI h 177 26 (-1)) (some 177) 12) (gd (zokw (sI h 177 26 (-1)) (some 191) 22 (-1)) (gd (zob (sI (sI h 177 26 (-1)) 191 (-1).toNat x1) (some 177) 12) (gd (inR (1)) (gd (inR ((-1) + 1)) (gd (zob (sI (sI h 177 26 (-1)) 191 (-1).toNat x1) (some 177) 12) (gd (([] : List zV).isEmpty = true ∧ zrk 323 = 0) (some (.inl (none), (sI (sI (sI h 177 26 (-1)) 191 (-1).toNat x1) 177 26 ((-1) + 1)))))))))) from zGo 11 323 27 _ _ _).trans ?_
      refine (gd_t (⟨rfl, (PTM KM 177 _ rfl rfl), (PNM KM 177 rfl)⟩) _).trans ?_
      refine gd_c (ciw (PTM KM 191 _ rfl rfl) (PNM KM 191 rfl) (PLM KM 191 201 rfl rfl)) (fun c2 => ?_)
      refine (gd_t (⟨rfl, (PTM KM 177 _ rfl rfl), (PNM KM 177 rfl)⟩) _).trans ?_
      refine (gd_t (by decide) _).trans ?_
      refine gd_c Iff.rfl (fun c3 => ?_)
      refine (gd_t (⟨rfl, (PTM KM 177 _ rfl rfl), (PNM KM 177 rfl)⟩) _).trans ?_
      refine (gd_t (⟨rfl, rfl⟩) _).trans ?_
      rfl
  · skip
    refine (show zY 323 15 [some (zR (some 177)), some (zI x1)] [] h = gd (zob h (some 177) 12) (gd (inR (-1)) (if (hI h 177 26) = (-1) then zY 323 43 [some (zR (some 177)), some (zI x1)] [] h else zY 323 23 [some (zR (some 177)), some (zI x1)] [] h)) from zGo 4 323 15 _ _ _).trans ?_
    refine (gd_t (⟨rfl, (PTM KM 177 _ rfl rfl), (PNM KM 177 rfl)⟩) _).trans ?_
    refine (gd_t (by decide) _).trans ?_
    refine iteC (fun c4 => ?_) (fun c4 => ?_)
    · skip
      refine (show zY 323 43 [some (zR (some 177)), some (zI x1)] [] h = gd (([] : List zV).isEmpty = true ∧ zrk 323 = 0) (some (.inl (none), h)) from zGo 1 323 43 _ _ _).trans ?_
      refine (gd_t (⟨rfl, rfl⟩) _).trans ?_
      rfl
    · skip
      refine (show zY 323 23 [some (zR (some 177)), some (zI x1)] [] h = gd (zob h (some 177) 12) (zY 323 27 [some (zR (some 177)), some (zI x1)] [zR (hR h 177 25)] h) from zGo 2 323 23 _ _ _).trans ?_
      refine (gd_t (⟨rfl, (PTM KM 177 _ rfl rfl), (PNM KM 177 rfl)⟩) _).trans ?_
      refine (congrArg (fun r => zY 323 27 [some (zR (some 177)), some (zI x1)] (zR r :: []) h) (PRM KM 177 25 _ rfl)).trans ?_
      refine (show zY 323 27 [some (zR (some 177)), some (zI x1)] [zR (some 191)] h = gd (zob h (some 177) 12) (gd (zokw h (some 191) 22 (hI h 177 26)) (gd (zob (sI h 191 (hI h 177 26).toNat x1) (some 177) 12) (gd (inR (1)) (gd (inR ((hI h 177 26) + 1)) (gd (zob (sI h 191 (hI h 177 26).toNat x1) (some 177) 12) (gd (([] : List zV).isEmpty = true ∧ zrk 323 = 0) (some (.inl (none), (sI (sI h 191 (hI h 177 26).toNat x1) 177 26 ((hI h 177 26) + 1)))))))))) from zGo 11 323 27 _ _ _).trans ?_
      refine (gd_t (⟨rfl, (PTM KM 177 _ rfl rfl), (PNM KM 177 rfl)⟩) _).trans ?_
      refine gd_c (ciw (PTM KM 191 _ rfl rfl) (PNM KM 191 rfl) (PLM KM 191 201 rfl rfl)) (fun c5 => ?_)
      refine (gd_t (⟨rfl, (PTM KM 177 _ rfl rfl), (PNM KM 177 rfl)⟩) _).trans ?_
      refine (gd_t (by decide) _).trans ?_
      refine gd_c Iff.rfl (fun c6 => ?_)
      refine (gd_t (⟨rfl, (PTM KM 177 _ rfl rfl), (PNM KM 177 rfl)⟩) _).trans ?_
      refine (gd_t (⟨rfl, rfl⟩) _).trans ?_
      rfl
theorem q_M_draftsForm {h : zH} {x1 : Int} (KM : KM h) : zC 322 [zR (some 177), zI x1] h =
    zY 322 2 [some (zR (some 177)), some (zI x1), some (zI 1)] [] h := by
  refine (show zC 322 [zR (some 177), zI x1] h = gd (inR (1)) (zY 322 2 [some (zR (some 177)), some (zI x1), some (zI 1)] [] h) from zGo 2 322 0 _ _ _).trans ?_
  refine (gd_t (by decide) _).trans ?_
  rfl
theorem q_M_draftsForm_2 {h : zH} {x1 : Int} {x2 : Int} (KM : KM h) : zY 322 2 [some (zR (some 177)), some (zI x1), some (zI x2)] [] h =
    gd (-2147483648 ≤ 31 * x1 ∧ 31 * x1 < 2147483648) (
    gd (0 ≤ (31 * x1) ∧ (31 * x1) < 2342) (
    if (hI h 179 (31 * x1).toNat) < x2 then
      some (.inl (none), h)
    else
      gd (-2147483648 ≤ (31 * x1) + x2 ∧ (31 * x1) + x2 < 2147483648) (
      gd (0 ≤ ((31 * x1) + x2) ∧ ((31 * x1) + x2) < 2342) (
      zBack zY 322 27 30 [some (zR (some 177)), some (zI x1), some (zI x2)] [] (zC 323 [zR (some 177), zI (hI h 179 ((31 * x1) + x2).toNat)] h))))) := by
  refine (show zY 322 2 [some (zR (some 177)), some (zI x1), some (zI x2)] [] h = gd (zob h (some 177) 12) (zY 322 7 [some (zR (some 177)), some (zI x1), some (zI x2)] [zR (hR h 177 2), zI x2] h) from zGo 3 322 2 _ _ _).trans ?_
  refine (gd_t (⟨rfl, (PTM KM 177 _ rfl rfl), (PNM KM 177 rfl)⟩) _).trans ?_
  refine (congrArg (fun r => zY 322 7 [some (zR (some 177)), some (zI x1), some (zI x2)] (zR r :: zI x2 :: []) h) (PRM KM 177 2 _ rfl)).trans ?_
  refine (show zY 322 7 [some (zR (some 177)), some (zI x1), some (zI x2)] [zR (some 179), zI x2] h = gd (-128 ≤ (31 : Int) ∧ (31 : Int) < 128) (gd (inR (31 * x1)) (gd (zok h (some 179) 22 (31 * x1)) (if (hI h 179 (31 * x1).toNat) < x2 then zY 322 36 [some (zR (some 177)), some (zI x1), some (zI x2)] [] h else zY 322 15 [some (zR (some 177)), some (zI x1), some (zI x2)] [] h))) from zGo 5 322 7 _ _ _).trans ?_
  refine (gd_t (by decide) _).trans ?_
  refine gd_c Iff.rfl (fun c0 => ?_)
  refine gd_c (ci (PTM KM 179 _ rfl rfl) (PLM KM 179 2342 rfl rfl)) (fun c1 => ?_)
  refine iteC (fun c2 => ?_) (fun c2 => ?_)
  · skip
    refine (show zY 322 36 [some (zR (some 177)), some (zI x1), some (zI x2)] [] h = gd (([] : List zV).isEmpty = true ∧ zrk 322 = 0) (some (.inl (none), h)) from zGo 1 322 36 _ _ _).trans ?_
    refine (gd_t (⟨rfl, rfl⟩) _).trans ?_
    rfl
  · skip
    refine (show zY 322 15 [some (zR (some 177)), some (zI x1), some (zI x2)] [] h = gd (zob h (some 177) 12) (zY 322 20 [some (zR (some 177)), some (zI x1), some (zI x2)] [zR (hR h 177 2), zR (some 177)] h) from zGo 3 322 15 _ _ _).trans ?_
    refine (gd_t (⟨rfl, (PTM KM 177 _ rfl rfl), (PNM KM 177 rfl)⟩) _).trans ?_
    refine (congrArg (fun r => zY 322 20 [some (zR (some 177)), some (zI x1), some (zI x2)] (zR r :: zR (some 177) :: []) h) (PRM KM 177 2 _ rfl)).trans ?_
    refine (show zY 322 20 [some (zR (some 177)), some (zI x1), some (zI x2)] [zR (some 179), zR (some 177)] h = gd (-128 ≤ (31 : Int) ∧ (31 : Int) < 128) (gd (inR (31 * x1)) (gd (inR ((31 * x1) + x2)) (gd (zok h (some 179) 22 ((31 * x1) + x2)) (gd (false = zctor 323 ∧ zcs [] ≤ 8 ∧ zrm 322 (zrf 323 + 1) (8 + (zmaxl 323 + 11) + zrl 323) = true ∧ zcs [zR (some 177), zI (hI h 179 ((31 * x1) + x2).toNat)] ≤ zmaxl 323) (gd (zob h (some 177) 12) (zBack zY 322 27 30 [some (zR (some 177)), some (zI x1), some (zI x2)] [] (zC 323 [zR (some 177), zI (hI h 179 ((31 * x1) + x2).toNat)] h))))))) from zGo 7 322 20 _ _ _).trans ?_
    refine (gd_t (by decide) _).trans ?_
    refine (gd_t ((Iff.rfl).2 (by omega)) _).trans ?_
    refine gd_c Iff.rfl (fun c3 => ?_)
    refine gd_c (ci (PTM KM 179 _ rfl rfl) (PLM KM 179 2342 rfl rfl)) (fun c4 => ?_)
    refine (gd_t (⟨rfl, Nat.le_of_ble_eq_true rfl, rfl, Nat.le_of_ble_eq_true rfl⟩) _).trans ?_
    refine (gd_t (⟨rfl, (PTM KM 177 _ rfl rfl), (PNM KM 177 rfl)⟩) _).trans ?_
    rfl
theorem q_M_draftsForm_r30 {h : zH} {x1 : Int} {x2 : Int} (KM : KM h) : zBack zY 322 27 30 [some (zR (some 177)), some (zI x1), some (zI x2)] [] (some (.inl (none), h)) =
    gd (-2147483648 ≤ x2 + 1 ∧ x2 + 1 < 2147483648) (
    zY 322 2 [some (zR (some 177)), some (zI x1), some (zI (x2 + 1))] [] h) := by
  refine (show zBack zY 322 27 30 [some (zR (some 177)), some (zI x1), some (zI x2)] [] (some (.inl (none), h)) = gd (inR (x2 + 1)) (gd (inR (1)) (zY 322 2 [some (zR (some 177)), some (zI x1), some (zI (x2 + 1))] [] h)) from zGo 2 322 30 _ _ _).trans ?_
  refine gd_c Iff.rfl (fun c0 => ?_)
  refine (gd_t (by decide) _).trans ?_
  rfl
theorem q_M_draftsWritten {h : zH} {x1 : Int} (KM : KM h) : zC 331 [zR (some 177), zI x1] h =
    gd (0 ≤ x1 ∧ x1 < 24) (
    if (hI h 190 x1.toNat) = (-1) then
      zY 331 17 [some (zR (some 177)), some (zI x1), some (zI 0)] [] (sI h 177 26 (-1))
    else
      zY 331 17 [some (zR (some 177)), some (zI x1), some (zI 0)] [] h) := by
  refine (show zC 331 [zR (some 177), zI x1] h = gd (zob h (some 177) 12) (zY 331 4 [some (zR (some 177)), some (zI x1), none] [zR (hR h 177 24)] h) from zGo 2 331 0 _ _ _).trans ?_
  refine (gd_t (⟨rfl, (PTM KM 177 _ rfl rfl), (PNM KM 177 rfl)⟩) _).trans ?_
  refine (congrArg (fun r => zY 331 4 [some (zR (some 177)), some (zI x1), none] (zR r :: []) h) (PRM KM 177 24 _ rfl)).trans ?_
  refine (show zY 331 4 [some (zR (some 177)), some (zI x1), none] [zR (some 190)] h = gd (zok h (some 190) 22 x1) (gd (inR (-1)) (if (hI h 190 x1.toNat) = (-1) then zY 331 10 [some (zR (some 177)), some (zI x1), none] [] h else zY 331 15 [some (zR (some 177)), some (zI x1), none] [] h)) from zGo 4 331 4 _ _ _).trans ?_
  refine gd_c (ci (PTM KM 190 _ rfl rfl) (PLM KM 190 24 rfl rfl)) (fun c0 => ?_)
  refine (gd_t (by decide) _).trans ?_
  refine iteC (fun c1 => ?_) (fun c1 => ?_)
  · skip
    refine (show zY 331 10 [some (zR (some 177)), some (zI x1), none] [] h = gd (inR (-1)) (gd (zob h (some 177) 12) (gd (inR (0)) (zY 331 17 [some (zR (some 177)), some (zI x1), some (zI 0)] [] (sI h 177 26 (-1))))) from zGo 5 331 10 _ _ _).trans ?_
    refine (gd_t (by decide) _).trans ?_
    refine (gd_t (⟨rfl, (PTM KM 177 _ rfl rfl), (PNM KM 177 rfl)⟩) _).trans ?_
    refine (gd_t (by decide) _).trans ?_
    rfl
  · skip
    refine (show zY 331 15 [some (zR (some 177)), some (zI x1), none] [] h = gd (inR (0)) (zY 331 17 [some (zR (some 177)), some (zI x1), some (zI 0)] [] h) from zGo 2 331 15 _ _ _).trans ?_
    refine (gd_t (by decide) _).trans ?_
    rfl
theorem q_M_draftsWritten_17 {h : zH} {x1 : Int} {x2 : Int} (KM : KM h) : zY 331 17 [some (zR (some 177)), some (zI x1), some (zI x2)] [] h =
    gd (0 ≤ x1 ∧ x1 < 24) (
    if x2 < (hI h 190 x1.toNat) then
      gd (-2147483648 ≤ 201 * x1 ∧ 201 * x1 < 2147483648) (
      gd (-2147483648 ≤ (201 * x1) + x2 ∧ (201 * x1) + x2 < 2147483648) (
      gd (0 ≤ ((201 * x1) + x2) ∧ ((201 * x1) + x2) < 4824) (
      zBack zY 331 40 43 [some (zR (some 177)), some (zI x1), some (zI x2)] [] (zC 323 [zR (some 177), zI (hI h 189 ((201 * x1) + x2).toNat)] h))))
    else
      some (.inl (none), h)) := by
  refine (show zY 331 17 [some (zR (some 177)), some (zI x1), some (zI x2)] [] h = gd (zob h (some 177) 12) (zY 331 22 [some (zR (some 177)), some (zI x1), some (zI x2)] [zR (hR h 177 24), zI x2] h) from zGo 3 331 17 _ _ _).trans ?_
  refine (gd_t (⟨rfl, (PTM KM 177 _ rfl rfl), (PNM KM 177 rfl)⟩) _).trans ?_
  refine (congrArg (fun r => zY 331 22 [some (zR (some 177)), some (zI x1), some (zI x2)] (zR r :: zI x2 :: []) h) (PRM KM 177 24 _ rfl)).trans ?_
  refine (show zY 331 22 [some (zR (some 177)), some (zI x1), some (zI x2)] [zR (some 190), zI x2] h = gd (zok h (some 190) 22 x1) (if x2 < (hI h 190 x1.toNat) then zY 331 27 [some (zR (some 177)), some (zI x1), some (zI x2)] [] h else zY 331 49 [some (zR (some 177)), some (zI x1), some (zI x2)] [] h) from zGo 3 331 22 _ _ _).trans ?_
  refine gd_c (ci (PTM KM 190 _ rfl rfl) (PLM KM 190 24 rfl rfl)) (fun c0 => ?_)
  refine iteC (fun c1 => ?_) (fun c1 => ?_)
  · skip
    refine (show zY 331 27 [some (zR (some 177)), some (zI x1), some (zI x2)] [] h = gd (zob h (some 177) 12) (zY 331 32 [some (zR (some 177)), some (zI x1), some (zI x2)] [zR (hR h 177 23), zR (some 177)] h) from zGo 3 331 27 _ _ _).trans ?_
    refine (gd_t (⟨rfl, (PTM KM 177 _ rfl rfl), (PNM KM 177 rfl)⟩) _).trans ?_
    refine (congrArg (fun r => zY 331 32 [some (zR (some 177)), some (zI x1), some (zI x2)] (zR r :: zR (some 177) :: []) h) (PRM KM 177 23 _ rfl)).trans ?_
    refine (show zY 331 32 [some (zR (some 177)), some (zI x1), some (zI x2)] [zR (some 189), zR (some 177)] h = gd (-32768 ≤ (201 : Int) ∧ (201 : Int) < 32768) (gd (inR (201 * x1)) (gd (inR ((201 * x1) + x2)) (gd (zok h (some 189) 22 ((201 * x1) + x2)) (gd (false = zctor 323 ∧ zcs [] ≤ 8 ∧ zrm 331 (zrf 323 + 1) (8 + (zmaxl 323 + 11) + zrl 323) = true ∧ zcs [zR (some 177), zI (hI h 189 ((201 * x1) + x2).toNat)] ≤ zmaxl 323) (gd (zob h (some 177) 12) (zBack zY 331 40 43 [some (zR (some 177)), some (zI x1), some (zI x2)] [] (zC 323 [zR (some 177), zI (hI h 189 ((201 * x1) + x2).toNat)] h))))))) from zGo 7 331 32 _ _ _).trans ?_
    refine (gd_t (by decide) _).trans ?_
    refine gd_c Iff.rfl (fun c2 => ?_)
    refine gd_c Iff.rfl (fun c3 => ?_)
    refine gd_c (ci (PTM KM 189 _ rfl rfl) (PLM KM 189 4824 rfl rfl)) (fun c4 => ?_)
    refine (gd_t (⟨rfl, Nat.le_of_ble_eq_true rfl, rfl, Nat.le_of_ble_eq_true rfl⟩) _).trans ?_
    refine (gd_t (⟨rfl, (PTM KM 177 _ rfl rfl), (PNM KM 177 rfl)⟩) _).trans ?_
    rfl
  · skip
    refine (show zY 331 49 [some (zR (some 177)), some (zI x1), some (zI x2)] [] h = gd (([] : List zV).isEmpty = true ∧ zrk 331 = 0) (some (.inl (none), h)) from zGo 1 331 49 _ _ _).trans ?_
    refine (gd_t (⟨rfl, rfl⟩) _).trans ?_
    rfl
theorem q_M_draftsWritten_r43 {h : zH} {x1 : Int} {x2 : Int} (KM : KM h) : zBack zY 331 40 43 [some (zR (some 177)), some (zI x1), some (zI x2)] [] (some (.inl (none), h)) =
    gd (-2147483648 ≤ x2 + 1 ∧ x2 + 1 < 2147483648) (
    zY 331 17 [some (zR (some 177)), some (zI x1), some (zI (x2 + 1))] [] h) := by
  refine (show zBack zY 331 40 43 [some (zR (some 177)), some (zI x1), some (zI x2)] [] (some (.inl (none), h)) = gd (inR (x2 + 1)) (gd (inR (1)) (zY 331 17 [some (zR (some 177)), some (zI x1), some (zI (x2 + 1))] [] h)) from zGo 2 331 43 _ _ _).trans ?_
  refine gd_c Iff.rfl (fun c0 => ?_)
  refine (gd_t (by decide) _).trans ?_
  rfl
theorem q_M_draftsSwap {h : zH} {x1 : Int} (KM : KM h) (g0 : (0 ≤ x1 ∧ x1 < 24) := by omega) : zC 329 [zR (some 177), zI x1] h =
    if (f_M_s h x1 0) = 0 then
      gd (-2147483648 ≤ 2 + x1 ∧ 2 + x1 < 2147483648) (
      zBack zY 329 13 16 [some (zR (some 177)), some (zI x1), none] [] (zC 322 [zR (some 177), zI (2 + x1)] h))
    else
      gd (-2147483648 < (f_M_filling h x1)) (
      if 6 < (Int.tmod (f_M_filling h x1) 13) then
        if (Int.tmod (f_M_filling h x1) 13) < 10 then
          zBack zY 329 46 49 [some (zR (some 177)), some (zI x1), some (zI (Int.tmod (f_M_filling h x1) 13))] [] (zC 323 [zR (some 177), zI 7] h)
        else
          zBack zY 329 46 49 [some (zR (some 177)), some (zI x1), some (zI (Int.tmod (f_M_filling h x1) 13))] [] (zC 323 [zR (some 177), zI 8] h)
      else
        if (Int.tmod (f_M_filling h x1) 13) < 4 then
          zBack zY 329 94 97 [some (zR (some 177)), some (zI x1), some (zI (Int.tmod (f_M_filling h x1) 13))] [] (zC 323 [zR (some 177), zI (Int.tmod (f_M_filling h x1) 13)] h)
        else
          if (Int.tmod (f_M_filling h x1) 13) < 7 then
            gd (-2147483648 ≤ 4 + (Int.tmod (f_M_filling h x1) 13) ∧ 4 + (Int.tmod (f_M_filling h x1) 13) < 2147483648) (
            gd (-2147483648 ≤ (4 + (Int.tmod (f_M_filling h x1) 13)) - 4 ∧ (4 + (Int.tmod (f_M_filling h x1) 13)) - 4 < 2147483648) (
            zBack zY 329 94 97 [some (zR (some 177)), some (zI x1), some (zI (Int.tmod (f_M_filling h x1) 13))] [] (zC 323 [zR (some 177), zI ((4 + (Int.tmod (f_M_filling h x1) 13)) - 4)] h)))
          else
            if (Int.tmod (f_M_filling h x1) 13) < 10 then
              gd (-2147483648 ≤ 4 + (Int.tmod (f_M_filling h x1) 13) ∧ 4 + (Int.tmod (f_M_filling h x1) 13) < 2147483648) (
              gd (-2147483648 ≤ (4 + (Int.tmod (f_M_filling h x1) 13)) - 7 ∧ (4 + (Int.tmod (f_M_filling h x1) 13)) - 7 < 2147483648) (
              zBack zY 329 94 97 [some (zR (some 177)), some (zI x1), some (zI (Int.tmod (f_M_filling h x1) 13))] [] (zC 323 [zR (some 177), zI ((4 + (Int.tmod (f_M_filling h x1) 13)) - 7)] h)))
            else
              gd (-2147483648 ≤ 4 + (Int.tmod (f_M_filling h x1) 13) ∧ 4 + (Int.tmod (f_M_filling h x1) 13) < 2147483648) (
              gd (-2147483648 ≤ (4 + (Int.tmod (f_M_filling h x1) 13)) - 10 ∧ (4 + (Int.tmod (f_M_filling h x1) 13)) - 10 < 2147483648) (
              zBack zY 329 94 97 [some (zR (some 177)), some (zI x1), some (zI (Int.tmod (f_M_filling h x1) 13))] [] (zC 323 [zR (some 177), zI ((4 + (Int.tmod (f_M_filling h x1) 13)) - 10)] h)))) := by
  refine (show zC 329 [zR (some 177), zI x1] h = gd (inR (0)) (gd (false = zctor 207 ∧ zcs [] ≤ 8 ∧ zrm 329 (zrf 207 + 1) (8 + (zmaxl 207 + 11) + zrl 207) = true ∧ zcs [zR (some 177), zI x1, zI 0] ≤ zmaxl 207) (gd (zob h (some 177) 12) (zBack zY 329 3 6 [some (zR (some 177)), some (zI x1), none] [] (zC 207 [zR (some 177), zI x1, zI 0] h)))) from zGo 4 329 0 _ _ _).trans ?_
  refine (gd_t (by decide) _).trans ?_
  refine (gd_t (⟨rfl, Nat.le_of_ble_eq_true rfl, rfl, Nat.le_of_ble_eq_true rfl⟩) _).trans ?_
  refine (gd_t (⟨rfl, (PTM KM 177 _ rfl rfl), (PNM KM 177 rfl)⟩) _).trans ?_
  refine (congrArg (zBack zY 329 3 6 [some (zR (some 177)), some (zI x1), none] []) (e_M_sx KM (g0) (by omega))).trans ?_
  refine (show zY 329 6 [some (zR (some 177)), some (zI x1), none] [zI (f_M_s h x1 0)] h = if (f_M_s h x1 0) = 0 then zY 329 9 [some (zR (some 177)), some (zI x1), none] [] h else zY 329 17 [some (zR (some 177)), some (zI x1), none] [] h from zGo 1 329 6 _ _ _).trans ?_
  refine iteC (fun c0 => ?_) (fun c0 => ?_)
  · skip
    refine (show zY 329 9 [some (zR (some 177)), some (zI x1), none] [] h = gd (inR (2)) (gd (inR (2 + x1)) (gd (false = zctor 322 ∧ zcs [] ≤ 8 ∧ zrm 329 (zrf 322 + 1) (8 + (zmaxl 322 + 11) + zrl 322) = true ∧ zcs [zR (some 177), zI (2 + x1)] ≤ zmaxl 322) (gd (zob h (some 177) 12) (zBack zY 329 13 16 [some (zR (some 177)), some (zI x1), none] [] (zC 322 [zR (some 177), zI (2 + x1)] h))))) from zGo 5 329 9 _ _ _).trans ?_
    refine (gd_t (by decide) _).trans ?_
    refine gd_c Iff.rfl (fun c1 => ?_)
    refine (gd_t (⟨rfl, Nat.le_of_ble_eq_true rfl, rfl, Nat.le_of_ble_eq_true rfl⟩) _).trans ?_
    refine (gd_t (⟨rfl, (PTM KM 177 _ rfl rfl), (PNM KM 177 rfl)⟩) _).trans ?_
    rfl
  · skip
    refine (show zY 329 17 [some (zR (some 177)), some (zI x1), none] [] h = gd (false = zctor 243 ∧ zcs [] ≤ 8 ∧ zrm 329 (zrf 243 + 1) (8 + (zmaxl 243 + 11) + zrl 243) = true ∧ zcs [zR (some 177), zI x1] ≤ zmaxl 243) (gd (zob h (some 177) 12) (zBack zY 329 19 22 [some (zR (some 177)), some (zI x1), none] [] (zC 243 [zR (some 177), zI x1] h))) from zGo 3 329 17 _ _ _).trans ?_
    refine (gd_t (⟨rfl, Nat.le_of_ble_eq_true rfl, rfl, Nat.le_of_ble_eq_true rfl⟩) _).trans ?_
    refine (gd_t (⟨rfl, (PTM KM 177 _ rfl rfl), (PNM KM 177 rfl)⟩) _).trans ?_
    refine (congrArg (zBack zY 329 19 22 [some (zR (some 177)), some (zI x1), none] []) (e_M_fillingx KM (g0))).trans ?_
    refine (show zY 329 22 [some (zR (some 177)), some (zI x1), none] [zI (f_M_filling h x1)] h = gd (-128 ≤ (13 : Int) ∧ (13 : Int) < 128) (gd ((0 : Int) ≤ (f_M_filling h x1) ∧ (0 : Int) < 13 ∨ (-2147483648 : Int) < (f_M_filling h x1) ∧ (0 : Int) < 13) (gd (-128 ≤ (6 : Int) ∧ (6 : Int) < 128) (if 6 < (Int.tmod (f_M_filling h x1) 13) then zY 329 32 [some (zR (some 177)), some (zI x1), some (zI (Int.tmod (f_M_filling h x1) 13))] [] h else zY 329 49 [some (zR (some 177)), some (zI x1), some (zI (Int.tmod (f_M_filling h x1) 13))] [] h))) from zGo 6 329 22 _ _ _).trans ?_
    refine (gd_t (by decide) _).trans ?_
    refine gd_c (irem_c1 (by decide)) (fun c2 => ?_)
    refine (gd_t (by decide) _).trans ?_
    refine iteC (fun c3 => ?_) (fun c3 => ?_)
    · skip
      refine (show zY 329 32 [some (zR (some 177)), some (zI x1), some (zI (Int.tmod (f_M_filling h x1) 13))] [] h = gd (-128 ≤ (10 : Int) ∧ (10 : Int) < 128) (if (Int.tmod (f_M_filling h x1) 13) < 10 then zY 329 39 [some (zR (some 177)), some (zI x1), some (zI (Int.tmod (f_M_filling h x1) 13))] [zR (some 177)] h else zY 329 44 [some (zR (some 177)), some (zI x1), some (zI (Int.tmod (f_M_filling h x1) 13))] [zR (some 177)] h) from zGo 4 329 32 _ _ _).trans ?_
      refine (gd_t (by decide) _).trans ?_
      refine iteC (fun c4 => ?_) (fun c4 => ?_)
      · skip
        refine (show zY 329 39 [some (zR (some 177)), some (zI x1), some (zI (Int.tmod (f_M_filling h x1) 13))] [zR (some 177)] h = gd (-128 ≤ (7 : Int) ∧ (7 : Int) < 128) (gd (false = zctor 323 ∧ zcs [] ≤ 8 ∧ zrm 329 (zrf 323 + 1) (8 + (zmaxl 323 + 11) + zrl 323) = true ∧ zcs [zR (some 177), zI 7] ≤ zmaxl 323) (gd (zob h (some 177) 12) (zBack zY 329 46 49 [some (zR (some 177)), some (zI x1), some (zI (Int.tmod (f_M_filling h x1) 13))] [] (zC 323 [zR (some 177), zI 7] h)))) from zGo 3 329 39 _ _ _).trans ?_
        refine (gd_t (by decide) _).trans ?_
        refine (gd_t (⟨rfl, Nat.le_of_ble_eq_true rfl, rfl, Nat.le_of_ble_eq_true rfl⟩) _).trans ?_
        refine (gd_t (⟨rfl, (PTM KM 177 _ rfl rfl), (PNM KM 177 rfl)⟩) _).trans ?_
        rfl
      · skip
        refine (show zY 329 44 [some (zR (some 177)), some (zI x1), some (zI (Int.tmod (f_M_filling h x1) 13))] [zR (some 177)] h = gd (-128 ≤ (8 : Int) ∧ (8 : Int) < 128) (gd (false = zctor 323 ∧ zcs [] ≤ 8 ∧ zrm 329 (zrf 323 + 1) (8 + (zmaxl 323 + 11) + zrl 323) = true ∧ zcs [zR (some 177), zI 8] ≤ zmaxl 323) (gd (zob h (some 177) 12) (zBack zY 329 46 49 [some (zR (some 177)), some (zI x1), some (zI (Int.tmod (f_M_filling h x1) 13))] [] (zC 323 [zR (some 177), zI 8] h)))) from zGo 2 329 44 _ _ _).trans ?_
        refine (gd_t (by decide) _).trans ?_
        refine (gd_t (⟨rfl, Nat.le_of_ble_eq_true rfl, rfl, Nat.le_of_ble_eq_true rfl⟩) _).trans ?_
        refine (gd_t (⟨rfl, (PTM KM 177 _ rfl rfl), (PNM KM 177 rfl)⟩) _).trans ?_
        rfl
    · skip
      refine (show zY 329 49 [some (zR (some 177)), some (zI x1), some (zI (Int.tmod (f_M_filling h x1) 13))] [] h = gd (inR (4)) (if (Int.tmod (f_M_filling h x1) 13) < 4 then zY 329 55 [some (zR (some 177)), some (zI x1), some (zI (Int.tmod (f_M_filling h x1) 13))] [zR (some 177)] h else zY 329 59 [some (zR (some 177)), some (zI x1), some (zI (Int.tmod (f_M_filling h x1) 13))] [zR (some 177)] h) from zGo 4 329 49 _ _ _).trans ?_
      refine (gd_t (by decide) _).trans ?_
      refine iteC (fun c5 => ?_) (fun c5 => ?_)
      · skip
        refine (show zY 329 55 [some (zR (some 177)), some (zI x1), some (zI (Int.tmod (f_M_filling h x1) 13))] [zR (some 177)] h = gd (false = zctor 323 ∧ zcs [] ≤ 8 ∧ zrm 329 (zrf 323 + 1) (8 + (zmaxl 323 + 11) + zrl 323) = true ∧ zcs [zR (some 177), zI (Int.tmod (f_M_filling h x1) 13)] ≤ zmaxl 323) (gd (zob h (some 177) 12) (zBack zY 329 94 97 [some (zR (some 177)), some (zI x1), some (zI (Int.tmod (f_M_filling h x1) 13))] [] (zC 323 [zR (some 177), zI (Int.tmod (f_M_filling h x1) 13)] h))) from zGo 3 329 55 _ _ _).trans ?_
        refine (gd_t (⟨rfl, Nat.le_of_ble_eq_true rfl, rfl, Nat.le_of_ble_eq_true rfl⟩) _).trans ?_
        refine (gd_t (⟨rfl, (PTM KM 177 _ rfl rfl), (PNM KM 177 rfl)⟩) _).trans ?_
        rfl
      · skip
        refine (show zY 329 59 [some (zR (some 177)), some (zI x1), some (zI (Int.tmod (f_M_filling h x1) 13))] [zR (some 177)] h = gd (-128 ≤ (7 : Int) ∧ (7 : Int) < 128) (if (Int.tmod (f_M_filling h x1) 13) < 7 then zY 329 65 [some (zR (some 177)), some (zI x1), some (zI (Int.tmod (f_M_filling h x1) 13))] [zR (some 177)] h else zY 329 73 [some (zR (some 177)), some (zI x1), some (zI (Int.tmod (f_M_filling h x1) 13))] [zR (some 177)] h) from zGo 3 329 59 _ _ _).trans ?_
        refine (gd_t (by decide) _).trans ?_
        refine iteC (fun c6 => ?_) (fun c6 => ?_)
        · skip
          refine (show zY 329 65 [some (zR (some 177)), some (zI x1), some (zI (Int.tmod (f_M_filling h x1) 13))] [zR (some 177)] h = gd (inR (4)) (gd (inR (4 + (Int.tmod (f_M_filling h x1) 13))) (gd (inR (4)) (gd (inR ((4 + (Int.tmod (f_M_filling h x1) 13)) - 4)) (gd (false = zctor 323 ∧ zcs [] ≤ 8 ∧ zrm 329 (zrf 323 + 1) (8 + (zmaxl 323 + 11) + zrl 323) = true ∧ zcs [zR (some 177), zI ((4 + (Int.tmod (f_M_filling h x1) 13)) - 4)] ≤ zmaxl 323) (gd (zob h (some 177) 12) (zBack zY 329 94 97 [some (zR (some 177)), some (zI x1), some (zI (Int.tmod (f_M_filling h x1) 13))] [] (zC 323 [zR (some 177), zI ((4 + (Int.tmod (f_M_filling h x1) 13)) - 4)] h))))))) from zGo 7 329 65 _ _ _).trans ?_
          refine (gd_t (by decide) _).trans ?_
          refine gd_c Iff.rfl (fun c7 => ?_)
          refine (gd_t (by decide) _).trans ?_
          refine gd_c Iff.rfl (fun c8 => ?_)
          refine (gd_t (⟨rfl, Nat.le_of_ble_eq_true rfl, rfl, Nat.le_of_ble_eq_true rfl⟩) _).trans ?_
          refine (gd_t (⟨rfl, (PTM KM 177 _ rfl rfl), (PNM KM 177 rfl)⟩) _).trans ?_
          rfl
        · skip
          refine (show zY 329 73 [some (zR (some 177)), some (zI x1), some (zI (Int.tmod (f_M_filling h x1) 13))] [zR (some 177)] h = gd (-128 ≤ (10 : Int) ∧ (10 : Int) < 128) (if (Int.tmod (f_M_filling h x1) 13) < 10 then zY 329 79 [some (zR (some 177)), some (zI x1), some (zI (Int.tmod (f_M_filling h x1) 13))] [zR (some 177)] h else zY 329 88 [some (zR (some 177)), some (zI x1), some (zI (Int.tmod (f_M_filling h x1) 13))] [zR (some 177)] h) from zGo 3 329 73 _ _ _).trans ?_
          refine (gd_t (by decide) _).trans ?_
          refine iteC (fun c9 => ?_) (fun c9 => ?_)
          · skip
            refine (show zY 329 79 [some (zR (some 177)), some (zI x1), some (zI (Int.tmod (f_M_filling h x1) 13))] [zR (some 177)] h = gd (inR (4)) (gd (inR (4 + (Int.tmod (f_M_filling h x1) 13))) (gd (-128 ≤ (7 : Int) ∧ (7 : Int) < 128) (gd (inR ((4 + (Int.tmod (f_M_filling h x1) 13)) - 7)) (gd (false = zctor 323 ∧ zcs [] ≤ 8 ∧ zrm 329 (zrf 323 + 1) (8 + (zmaxl 323 + 11) + zrl 323) = true ∧ zcs [zR (some 177), zI ((4 + (Int.tmod (f_M_filling h x1) 13)) - 7)] ≤ zmaxl 323) (gd (zob h (some 177) 12) (zBack zY 329 94 97 [some (zR (some 177)), some (zI x1), some (zI (Int.tmod (f_M_filling h x1) 13))] [] (zC 323 [zR (some 177), zI ((4 + (Int.tmod (f_M_filling h x1) 13)) - 7)] h))))))) from zGo 7 329 79 _ _ _).trans ?_
            refine (gd_t (by decide) _).trans ?_
            refine gd_c Iff.rfl (fun c10 => ?_)
            refine (gd_t (by decide) _).trans ?_
            refine gd_c Iff.rfl (fun c11 => ?_)
            refine (gd_t (⟨rfl, Nat.le_of_ble_eq_true rfl, rfl, Nat.le_of_ble_eq_true rfl⟩) _).trans ?_
            refine (gd_t (⟨rfl, (PTM KM 177 _ rfl rfl), (PNM KM 177 rfl)⟩) _).trans ?_
            rfl
          · skip
            refine (show zY 329 88 [some (zR (some 177)), some (zI x1), some (zI (Int.tmod (f_M_filling h x1) 13))] [zR (some 177)] h = gd (inR (4)) (gd (inR (4 + (Int.tmod (f_M_filling h x1) 13))) (gd (-128 ≤ (10 : Int) ∧ (10 : Int) < 128) (gd (inR ((4 + (Int.tmod (f_M_filling h x1) 13)) - 10)) (gd (false = zctor 323 ∧ zcs [] ≤ 8 ∧ zrm 329 (zrf 323 + 1) (8 + (zmaxl 323 + 11) + zrl 323) = true ∧ zcs [zR (some 177), zI ((4 + (Int.tmod (f_M_filling h x1) 13)) - 10)] ≤ zmaxl 323) (gd (zob h (some 177) 12) (zBack zY 329 94 97 [some (zR (some 177)), some (zI x1), some (zI (Int.tmod (f_M_filling h x1) 13))] [] (zC 323 [zR (some 177), zI ((4 + (Int.tmod (f_M_filling h x1) 13)) - 10)] h))))))) from zGo 6 329 88 _ _ _).trans ?_
            refine (gd_t (by decide) _).trans ?_
            refine gd_c Iff.rfl (fun c12 => ?_)
            refine (gd_t (by decide) _).trans ?_
            refine gd_c Iff.rfl (fun c13 => ?_)
            refine (gd_t (⟨rfl, Nat.le_of_ble_eq_true rfl, rfl, Nat.le_of_ble_eq_true rfl⟩) _).trans ?_
            refine (gd_t (⟨rfl, (PTM KM 177 _ rfl rfl), (PNM KM 177 rfl)⟩) _).trans ?_
            rfl
theorem q_M_draftsSwap_r16 {h : zH} {x1 : Int} (KM : KM h) : zBack zY 329 13 16 [some (zR (some 177)), some (zI x1), none] [] (some (.inl (none), h)) =
    some (.inl (none), h) := by
  refine (show zBack zY 329 13 16 [some (zR (some 177)), some (zI x1), none] [] (some (.inl (none), h)) = gd (([] : List zV).isEmpty = true ∧ zrk 329 = 0) (some (.inl (none), h)) from zGo 1 329 16 _ _ _).trans ?_
  refine (gd_t (⟨rfl, rfl⟩) _).trans ?_
  rfl
theorem q_M_draftsSwap_r49 {h : zH} {x1 : Int} {x2 : Int} (KM : KM h) : zBack zY 329 46 49 [some (zR (some 177)), some (zI x1), some (zI x2)] [] (some (.inl (none), h)) =
    if x2 < 4 then
      zBack zY 329 94 97 [some (zR (some 177)), some (zI x1), some (zI x2)] [] (zC 323 [zR (some 177), zI x2] h)
    else
      if x2 < 7 then
        gd (-2147483648 ≤ 4 + x2 ∧ 4 + x2 < 2147483648) (
        gd (-2147483648 ≤ (4 + x2) - 4 ∧ (4 + x2) - 4 < 2147483648) (
        zBack zY 329 94 97 [some (zR (some 177)), some (zI x1), some (zI x2)] [] (zC 323 [zR (some 177), zI ((4 + x2) - 4)] h)))
      else
        if x2 < 10 then
          gd (-2147483648 ≤ 4 + x2 ∧ 4 + x2 < 2147483648) (
          gd (-2147483648 ≤ (4 + x2) - 7 ∧ (4 + x2) - 7 < 2147483648) (
          zBack zY 329 94 97 [some (zR (some 177)), some (zI x1), some (zI x2)] [] (zC 323 [zR (some 177), zI ((4 + x2) - 7)] h)))
        else
          gd (-2147483648 ≤ 4 + x2 ∧ 4 + x2 < 2147483648) (
          gd (-2147483648 ≤ (4 + x2) - 10 ∧ (4 + x2) - 10 < 2147483648) (
          zBack zY 329 94 97 [some (zR (some 177)), some (zI x1), some (zI x2)] [] (zC 323 [zR (some 177), zI ((4 + x2) - 10)] h))) := by
  refine (show zBack zY 329 46 49 [some (zR (some 177)), some (zI x1), some (zI x2)] [] (some (.inl (none), h)) = gd (inR (4)) (if x2 < 4 then zY 329 55 [some (zR (some 177)), some (zI x1), some (zI x2)] [zR (some 177)] h else zY 329 59 [some (zR (some 177)), some (zI x1), some (zI x2)] [zR (some 177)] h) from zGo 4 329 49 _ _ _).trans ?_
  refine (gd_t (by decide) _).trans ?_
  refine iteC (fun c0 => ?_) (fun c0 => ?_)
  · skip
    refine (show zY 329 55 [some (zR (some 177)), some (zI x1), some (zI x2)] [zR (some 177)] h = gd (false = zctor 323 ∧ zcs [] ≤ 8 ∧ zrm 329 (zrf 323 + 1) (8 + (zmaxl 323 + 11) + zrl 323) = true ∧ zcs [zR (some 177), zI x2] ≤ zmaxl 323) (gd (zob h (some 177) 12) (zBack zY 329 94 97 [some (zR (some 177)), some (zI x1), some (zI x2)] [] (zC 323 [zR (some 177), zI x2] h))) from zGo 3 329 55 _ _ _).trans ?_
    refine (gd_t (⟨rfl, Nat.le_of_ble_eq_true rfl, rfl, Nat.le_of_ble_eq_true rfl⟩) _).trans ?_
    refine (gd_t (⟨rfl, (PTM KM 177 _ rfl rfl), (PNM KM 177 rfl)⟩) _).trans ?_
    rfl
  · skip
    refine (show zY 329 59 [some (zR (some 177)), some (zI x1), some (zI x2)] [zR (some 177)] h = gd (-128 ≤ (7 : Int) ∧ (7 : Int) < 128) (if x2 < 7 then zY 329 65 [some (zR (some 177)), some (zI x1), some (zI x2)] [zR (some 177)] h else zY 329 73 [some (zR (some 177)), some (zI x1), some (zI x2)] [zR (some 177)] h) from zGo 3 329 59 _ _ _).trans ?_
    refine (gd_t (by decide) _).trans ?_
    refine iteC (fun c1 => ?_) (fun c1 => ?_)
    · skip
      refine (show zY 329 65 [some (zR (some 177)), some (zI x1), some (zI x2)] [zR (some 177)] h = gd (inR (4)) (gd (inR (4 + x2)) (gd (inR (4)) (gd (inR ((4 + x2) - 4)) (gd (false = zctor 323 ∧ zcs [] ≤ 8 ∧ zrm 329 (zrf 323 + 1) (8 + (zmaxl 323 + 11) + zrl 323) = true ∧ zcs [zR (some 177), zI ((4 + x2) - 4)] ≤ zmaxl 323) (gd (zob h (some 177) 12) (zBack zY 329 94 97 [some (zR (some 177)), some (zI x1), some (zI x2)] [] (zC 323 [zR (some 177), zI ((4 + x2) - 4)] h))))))) from zGo 7 329 65 _ _ _).trans ?_
      refine (gd_t (by decide) _).trans ?_
      refine gd_c Iff.rfl (fun c2 => ?_)
      refine (gd_t (by decide) _).trans ?_
      refine gd_c Iff.rfl (fun c3 => ?_)
      refine (gd_t (⟨rfl, Nat.le_of_ble_eq_true rfl, rfl, Nat.le_of_ble_eq_true rfl⟩) _).trans ?_
      refine (gd_t (⟨rfl, (PTM KM 177 _ rfl rfl), (PNM KM 177 rfl)⟩) _).trans ?_
      rfl
    · skip
      refine (show zY 329 73 [some (zR (some 177)), some (zI x1), some (zI x2)] [zR (some 177)] h = gd (-128 ≤ (10 : Int) ∧ (10 : Int) < 128) (if x2 < 10 then zY 329 79 [some (zR (some 177)), some (zI x1), some (zI x2)] [zR (some 177)] h else zY 329 88 [some (zR (some 177)), some (zI x1), some (zI x2)] [zR (some 177)] h) from zGo 3 329 73 _ _ _).trans ?_
      refine (gd_t (by decide) _).trans ?_
      refine iteC (fun c4 => ?_) (fun c4 => ?_)
      · skip
        refine (show zY 329 79 [some (zR (some 177)), some (zI x1), some (zI x2)] [zR (some 177)] h = gd (inR (4)) (gd (inR (4 + x2)) (gd (-128 ≤ (7 : Int) ∧ (7 : Int) < 128) (gd (inR ((4 + x2) - 7)) (gd (false = zctor 323 ∧ zcs [] ≤ 8 ∧ zrm 329 (zrf 323 + 1) (8 + (zmaxl 323 + 11) + zrl 323) = true ∧ zcs [zR (some 177), zI ((4 + x2) - 7)] ≤ zmaxl 323) (gd (zob h (some 177) 12) (zBack zY 329 94 97 [some (zR (some 177)), some (zI x1), some (zI x2)] [] (zC 323 [zR (some 177), zI ((4 + x2) - 7)] h))))))) from zGo 7 329 79 _ _ _).trans ?_
        refine (gd_t (by decide) _).trans ?_
        refine gd_c Iff.rfl (fun c5 => ?_)
        refine (gd_t (by decide) _).trans ?_
        refine gd_c Iff.rfl (fun c6 => ?_)
        refine (gd_t (⟨rfl, Nat.le_of_ble_eq_true rfl, rfl, Nat.le_of_ble_eq_true rfl⟩) _).trans ?_
        refine (gd_t (⟨rfl, (PTM KM 177 _ rfl rfl), (PNM KM 177 rfl)⟩) _).trans ?_
        rfl
      · skip
        refine (show zY 329 88 [some (zR (some 177)), some (zI x1), some (zI x2)] [zR (some 177)] h = gd (inR (4)) (gd (inR (4 + x2)) (gd (-128 ≤ (10 : Int) ∧ (10 : Int) < 128) (gd (inR ((4 + x2) - 10)) (gd (false = zctor 323 ∧ zcs [] ≤ 8 ∧ zrm 329 (zrf 323 + 1) (8 + (zmaxl 323 + 11) + zrl 323) = true ∧ zcs [zR (some 177), zI ((4 + x2) - 10)] ≤ zmaxl 323) (gd (zob h (some 177) 12) (zBack zY 329 94 97 [some (zR (some 177)), some (zI x1), some (zI x2)] [] (zC 323 [zR (some 177), zI ((4 + x2) - 10)] h))))))) from zGo 6 329 88 _ _ _).trans ?_
        refine (gd_t (by decide) _).trans ?_
        refine gd_c Iff.rfl (fun c7 => ?_)
        refine (gd_t (by decide) _).trans ?_
        refine gd_c Iff.rfl (fun c8 => ?_)
        refine (gd_t (⟨rfl, Nat.le_of_ble_eq_true rfl, rfl, Nat.le_of_ble_eq_true rfl⟩) _).trans ?_
        refine (gd_t (⟨rfl, (PTM KM 177 _ rfl rfl), (PNM KM 177 rfl)⟩) _).trans ?_
        rfl
theorem q_M_draftsSwap_r97 {h : zH} {x1 : Int} {x2 : Int} (KM : KM h) : zBack zY 329 94 97 [some (zR (some 177)), some (zI x1), some (zI x2)] [] (some (.inl (none), h)) =
    if 6 < x2 then
      zBack zY 329 105 108 [some (zR (some 177)), some (zI x1), some (zI x2)] [] (zC 323 [zR (some 177), zI 1] h)
    else
      some (.inl (none), h) := by
  refine (show zBack zY 329 94 97 [some (zR (some 177)), some (zI x1), some (zI x2)] [] (some (.inl (none), h)) = gd (-128 ≤ (6 : Int) ∧ (6 : Int) < 128) (if 6 < x2 then zY 329 103 [some (zR (some 177)), some (zI x1), some (zI x2)] [] h else zY 329 108 [some (zR (some 177)), some (zI x1), some (zI x2)] [] h) from zGo 3 329 97 _ _ _).trans ?_
  refine (gd_t (by decide) _).trans ?_
  refine iteC (fun c0 => ?_) (fun c0 => ?_)
  · skip
    refine (show zY 329 103 [some (zR (some 177)), some (zI x1), some (zI x2)] [] h = gd (inR (1)) (gd (false = zctor 323 ∧ zcs [] ≤ 8 ∧ zrm 329 (zrf 323 + 1) (8 + (zmaxl 323 + 11) + zrl 323) = true ∧ zcs [zR (some 177), zI 1] ≤ zmaxl 323) (gd (zob h (some 177) 12) (zBack zY 329 105 108 [some (zR (some 177)), some (zI x1), some (zI x2)] [] (zC 323 [zR (some 177), zI 1] h)))) from zGo 3 329 103 _ _ _).trans ?_
    refine (gd_t (by decide) _).trans ?_
    refine (gd_t (⟨rfl, Nat.le_of_ble_eq_true rfl, rfl, Nat.le_of_ble_eq_true rfl⟩) _).trans ?_
    refine (gd_t (⟨rfl, (PTM KM 177 _ rfl rfl), (PNM KM 177 rfl)⟩) _).trans ?_
    rfl
  · skip
    refine (show zY 329 108 [some (zR (some 177)), some (zI x1), some (zI x2)] [] h = gd (([] : List zV).isEmpty = true ∧ zrk 329 = 0) (some (.inl (none), h)) from zGo 1 329 108 _ _ _).trans ?_
    refine (gd_t (⟨rfl, rfl⟩) _).trans ?_
    rfl
theorem q_M_draftsSwap_r108 {h : zH} {x1 : Int} {x2 : Int} (KM : KM h) : zBack zY 329 105 108 [some (zR (some 177)), some (zI x1), some (zI x2)] [] (some (.inl (none), h)) =
    some (.inl (none), h) := by
  refine (show zBack zY 329 105 108 [some (zR (some 177)), some (zI x1), some (zI x2)] [] (some (.inl (none), h)) = gd (([] : List zV).isEmpty = true ∧ zrk 329 = 0) (some (.inl (none), h)) from zGo 1 329 108 _ _ _).trans ?_
  refine (gd_t (⟨rfl, rfl⟩) _).trans ?_
  rfl
theorem q_M_draftsNode {h : zH} {x1 : Int} {x2 : Int} (KM : KM h) (g0 : (¬ (x1 = (-1))) → (0 ≤ x1 ∧ x1 < 24) := by omega) (g1 : (¬ (x1 = (-1))) → (((f_M_s h x1 0) = 0) → (-2147483648 ≤ 4 + (f_M_s h x1 1) ∧ 4 + (f_M_s h x1 1) < 2147483648)) := by omega) (g2 : (¬ (x1 = (-1))) → ((¬ ((f_M_s h x1 0) = 0)) → (0 ≤ (f_M_filling h x1))) := by omega) (g3 : (¬ (x1 = (-1))) → ((¬ ((f_M_s h x1 0) = 0)) → (-2147483648 ≤ 4 + (f_M_fillVariable h x1) ∧ 4 + (f_M_fillVariable h x1) < 2147483648)) := by omega) : zC 327 [zR (some 177), zI x1, zI x2] h =
    if x1 = (-1) then
      zBack zY 327 24 27 [some (zR (some 177)), some (zI x1), some (zI x2)] [] (zC 323 [zR (some 177), zI x2] h)
    else
      if x2 = (f_M_swappedBy h x1) then
        zBack zY 327 16 19 [some (zR (some 177)), some (zI x1), some (zI x2)] [] (zC 329 [zR (some 177), zI x1] h)
      else
        zBack zY 327 24 27 [some (zR (some 177)), some (zI x1), some (zI x2)] [] (zC 323 [zR (some 177), zI x2] h) := by
  refine (show zC 327 [zR (some 177), zI x1, zI x2] h = gd (inR (-1)) (if x1 = (-1) then zY 327 22 [some (zR (some 177)), some (zI x1), some (zI x2)] [] h else zY 327 5 [some (zR (some 177)), some (zI x1), some (zI x2)] [] h) from zGo 3 327 0 _ _ _).trans ?_
  refine (gd_t (by decide) _).trans ?_
  refine iteC (fun c0 => ?_) (fun c0 => ?_)
  · skip
    refine (show zY 327 22 [some (zR (some 177)), some (zI x1), some (zI x2)] [] h = gd (false = zctor 323 ∧ zcs [] ≤ 8 ∧ zrm 327 (zrf 323 + 1) (8 + (zmaxl 323 + 11) + zrl 323) = true ∧ zcs [zR (some 177), zI x2] ≤ zmaxl 323) (gd (zob h (some 177) 12) (zBack zY 327 24 27 [some (zR (some 177)), some (zI x1), some (zI x2)] [] (zC 323 [zR (some 177), zI x2] h))) from zGo 3 327 22 _ _ _).trans ?_
    refine (gd_t (⟨rfl, Nat.le_of_ble_eq_true rfl, rfl, Nat.le_of_ble_eq_true rfl⟩) _).trans ?_
    refine (gd_t (⟨rfl, (PTM KM 177 _ rfl rfl), (PNM KM 177 rfl)⟩) _).trans ?_
    rfl
  · skip
    refine (show zY 327 5 [some (zR (some 177)), some (zI x1), some (zI x2)] [] h = gd (false = zctor 328 ∧ zcs [zI x2] ≤ 8 ∧ zrm 327 (zrf 328 + 1) (8 + (zmaxl 328 + 11) + zrl 328) = true ∧ zcs [zR (some 177), zI x1] ≤ zmaxl 328) (gd (zob h (some 177) 12) (zBack zY 327 8 11 [some (zR (some 177)), some (zI x1), some (zI x2)] [zI x2] (zC 328 [zR (some 177), zI x1] h))) from zGo 4 327 5 _ _ _).trans ?_
    refine (gd_t (⟨rfl, Nat.le_of_ble_eq_true rfl, rfl, Nat.le_of_ble_eq_true rfl⟩) _).trans ?_
    refine (gd_t (⟨rfl, (PTM KM 177 _ rfl rfl), (PNM KM 177 rfl)⟩) _).trans ?_
    refine (congrArg (zBack zY 327 8 11 [some (zR (some 177)), some (zI x1), some (zI x2)] [zI x2]) (e_M_swappedBy KM (g0 c0) (g1 c0) (g2 c0) (g3 c0))).trans ?_
    refine (show zY 327 11 [some (zR (some 177)), some (zI x1), some (zI x2)] [zI (f_M_swappedBy h x1), zI x2] h = if x2 = (f_M_swappedBy h x1) then zY 327 14 [some (zR (some 177)), some (zI x1), some (zI x2)] [] h else zY 327 22 [some (zR (some 177)), some (zI x1), some (zI x2)] [] h from zGo 1 327 11 _ _ _).trans ?_
    refine iteC (fun c1 => ?_) (fun c1 => ?_)
    · skip
      refine (show zY 327 14 [some (zR (some 177)), some (zI x1), some (zI x2)] [] h = gd (false = zctor 329 ∧ zcs [] ≤ 8 ∧ zrm 327 (zrf 329 + 1) (8 + (zmaxl 329 + 11) + zrl 329) = true ∧ zcs [zR (some 177), zI x1] ≤ zmaxl 329) (gd (zob h (some 177) 12) (zBack zY 327 16 19 [some (zR (some 177)), some (zI x1), some (zI x2)] [] (zC 329 [zR (some 177), zI x1] h))) from zGo 3 327 14 _ _ _).trans ?_
      refine (gd_t (⟨rfl, Nat.le_of_ble_eq_true rfl, rfl, Nat.le_of_ble_eq_true rfl⟩) _).trans ?_
      refine (gd_t (⟨rfl, (PTM KM 177 _ rfl rfl), (PNM KM 177 rfl)⟩) _).trans ?_
      rfl
    · skip
      refine (show zY 327 22 [some (zR (some 177)), some (zI x1), some (zI x2)] [] h = gd (false = zctor 323 ∧ zcs [] ≤ 8 ∧ zrm 327 (zrf 323 + 1) (8 + (zmaxl 323 + 11) + zrl 323) = true ∧ zcs [zR (some 177), zI x2] ≤ zmaxl 323) (gd (zob h (some 177) 12) (zBack zY 327 24 27 [some (zR (some 177)), some (zI x1), some (zI x2)] [] (zC 323 [zR (some 177), zI x2] h))) from zGo 3 327 22 _ _ _).trans ?_
      refine (gd_t (⟨rfl, Nat.le_of_ble_eq_true rfl, rfl, Nat.le_of_ble_eq_true rfl⟩) _).trans ?_
      refine (gd_t (⟨rfl, (PTM KM 177 _ rfl rfl), (PNM KM 177 rfl)⟩) _).trans ?_
      rfl
theorem q_M_draftsNode_r19 {h : zH} {x1 : Int} {x2 : Int} (KM : KM h) : zBack zY 327 16 19 [some (zR (some 177)), some (zI x1), some (zI x2)] [] (some (.inl (none), h)) =
    some (.inl (none), h) := by
  refine (show zBack zY 327 16 19 [some (zR (some 177)), some (zI x1), some (zI x2)] [] (some (.inl (none), h)) = gd (([] : List zV).isEmpty = true ∧ zrk 327 = 0) (some (.inl (none), h)) from zGo 2 327 19 _ _ _).trans ?_
  refine (gd_t (⟨rfl, rfl⟩) _).trans ?_
  rfl
theorem q_M_draftsNode_r27 {h : zH} {x1 : Int} {x2 : Int} (KM : KM h) : zBack zY 327 24 27 [some (zR (some 177)), some (zI x1), some (zI x2)] [] (some (.inl (none), h)) =
    some (.inl (none), h) := by
  refine (show zBack zY 327 24 27 [some (zR (some 177)), some (zI x1), some (zI x2)] [] (some (.inl (none), h)) = gd (([] : List zV).isEmpty = true ∧ zrk 327 = 0) (some (.inl (none), h)) from zGo 1 327 27 _ _ _).trans ?_
  refine (gd_t (⟨rfl, rfl⟩) _).trans ?_
  rfl
theorem q_M_draftsFormBy {h : zH} {x1 : Int} {x2 : Int} (KM : KM h) : zC 326 [zR (some 177), zI x1, zI x2] h =
    zY 326 2 [some (zR (some 177)), some (zI x1), some (zI x2), some (zI 1)] [] h := by
  refine (show zC 326 [zR (some 177), zI x1, zI x2] h = gd (inR (1)) (zY 326 2 [some (zR (some 177)), some (zI x1), some (zI x2), some (zI 1)] [] h) from zGo 2 326 0 _ _ _).trans ?_
  refine (gd_t (by decide) _).trans ?_
  rfl
theorem q_M_draftsFormBy_2 {h : zH} {x1 : Int} {x2 : Int} {x3 : Int} (KM : KM h) : zY 326 2 [some (zR (some 177)), some (zI x1), some (zI x2), some (zI x3)] [] h =
    gd (-2147483648 ≤ 31 * x2 ∧ 31 * x2 < 2147483648) (
    gd (0 ≤ (31 * x2) ∧ (31 * x2) < 2342) (
    if (hI h 179 (31 * x2).toNat) < x3 then
      some (.inl (none), h)
    else
      gd (-2147483648 ≤ (31 * x2) + x3 ∧ (31 * x2) + x3 < 2147483648) (
      gd (0 ≤ ((31 * x2) + x3) ∧ ((31 * x2) + x3) < 2342) (
      zBack zY 326 28 31 [some (zR (some 177)), some (zI x1), some (zI x2), some (zI x3)] [] (zC 327 [zR (some 177), zI x1, zI (hI h 179 ((31 * x2) + x3).toNat)] h))))) := by
  refine (show zY 326 2 [some (zR (some 177)), some (zI x1), some (zI x2), some (zI x3)] [] h = gd (zob h (some 177) 12) (zY 326 7 [some (zR (some 177)), some (zI x1), some (zI x2), some (zI x3)] [zR (hR h 177 2), zI x3] h) from zGo 3 326 2 _ _ _).trans ?_
  refine (gd_t (⟨rfl, (PTM KM 177 _ rfl rfl), (PNM KM 177 rfl)⟩) _).trans ?_
  refine (congrArg (fun r => zY 326 7 [some (zR (some 177)), some (zI x1), some (zI x2), some (zI x3)] (zR r :: zI x3 :: []) h) (PRM KM 177 2 _ rfl)).trans ?_
  refine (show zY 326 7 [some (zR (some 177)), some (zI x1), some (zI x2), some (zI x3)] [zR (some 179), zI x3] h = gd (-128 ≤ (31 : Int) ∧ (31 : Int) < 128) (gd (inR (31 * x2)) (gd (zok h (some 179) 22 (31 * x2)) (if (hI h 179 (31 * x2).toNat) < x3 then zY 326 37 [some (zR (some 177)), some (zI x1), some (zI x2), some (zI x3)] [] h else zY 326 15 [some (zR (some 177)), some (zI x1), some (zI x2), some (zI x3)] [] h))) from zGo 5 326 7 _ _ _).trans ?_
  refine (gd_t (by decide) _).trans ?_
  refine gd_c Iff.rfl (fun c0 => ?_)
  refine gd_c (ci (PTM KM 179 _ rfl rfl) (PLM KM 179 2342 rfl rfl)) (fun c1 => ?_)
  refine iteC (fun c2 => ?_) (fun c2 => ?_)
  · skip
    refine (show zY 326 37 [some (zR (some 177)), some (zI x1), some (zI x2), some (zI x3)] [] h = gd (([] : List zV).isEmpty = true ∧ zrk 326 = 0) (some (.inl (none), h)) from zGo 1 326 37 _ _ _).trans ?_
    refine (gd_t (⟨rfl, rfl⟩) _).trans ?_
    rfl
  · skip
    refine (show zY 326 15 [some (zR (some 177)), some (zI x1), some (zI x2), some (zI x3)] [] h = gd (zob h (some 177) 12) (zY 326 21 [some (zR (some 177)), some (zI x1), some (zI x2), some (zI x3)] [zR (hR h 177 2), zI x1, zR (some 177)] h) from zGo 4 326 15 _ _ _).trans ?_
    refine (gd_t (⟨rfl, (PTM KM 177 _ rfl rfl), (PNM KM 177 rfl)⟩) _).trans ?_
    refine (congrArg (fun r => zY 326 21 [some (zR (some 177)), some (zI x1), some (zI x2), some (zI x3)] (zR r :: zI x1 :: zR (some 177) :: []) h) (PRM KM 177 2 _ rfl)).trans ?_
    refine (show zY 326 21 [some (zR (some 177)), some (zI x1), some (zI x2), some (zI x3)] [zR (some 179), zI x1, zR (some 177)] h = gd (-128 ≤ (31 : Int) ∧ (31 : Int) < 128) (gd (inR (31 * x2)) (gd (inR ((31 * x2) + x3)) (gd (zok h (some 179) 22 ((31 * x2) + x3)) (gd (false = zctor 327 ∧ zcs [] ≤ 8 ∧ zrm 326 (zrf 327 + 1) (8 + (zmaxl 327 + 11) + zrl 327) = true ∧ zcs [zR (some 177), zI x1, zI (hI h 179 ((31 * x2) + x3).toNat)] ≤ zmaxl 327) (gd (zob h (some 177) 12) (zBack zY 326 28 31 [some (zR (some 177)), some (zI x1), some (zI x2), some (zI x3)] [] (zC 327 [zR (some 177), zI x1, zI (hI h 179 ((31 * x2) + x3).toNat)] h))))))) from zGo 7 326 21 _ _ _).trans ?_
    refine (gd_t (by decide) _).trans ?_
    refine (gd_t ((Iff.rfl).2 (by omega)) _).trans ?_
    refine gd_c Iff.rfl (fun c3 => ?_)
    refine gd_c (ci (PTM KM 179 _ rfl rfl) (PLM KM 179 2342 rfl rfl)) (fun c4 => ?_)
    refine (gd_t (⟨rfl, Nat.le_of_ble_eq_true rfl, rfl, Nat.le_of_ble_eq_true rfl⟩) _).trans ?_
    refine (gd_t (⟨rfl, (PTM KM 177 _ rfl rfl), (PNM KM 177 rfl)⟩) _).trans ?_
    rfl
theorem q_M_draftsFormBy_r31 {h : zH} {x1 : Int} {x2 : Int} {x3 : Int} (KM : KM h) : zBack zY 326 28 31 [some (zR (some 177)), some (zI x1), some (zI x2), some (zI x3)] [] (some (.inl (none), h)) =
    gd (-2147483648 ≤ x3 + 1 ∧ x3 + 1 < 2147483648) (
    zY 326 2 [some (zR (some 177)), some (zI x1), some (zI x2), some (zI (x3 + 1))] [] h) := by
  refine (show zBack zY 326 28 31 [some (zR (some 177)), some (zI x1), some (zI x2), some (zI x3)] [] (some (.inl (none), h)) = gd (inR (x3 + 1)) (gd (inR (1)) (zY 326 2 [some (zR (some 177)), some (zI x1), some (zI x2), some (zI (x3 + 1))] [] h)) from zGo 2 326 31 _ _ _).trans ?_
  refine gd_c Iff.rfl (fun c0 => ?_)
  refine (gd_t (by decide) _).trans ?_
  rfl
theorem q_M_draftsWrittenBy {h : zH} {x1 : Int} {x2 : Int} (KM : KM h) : zC 330 [zR (some 177), zI x1, zI x2] h =
    gd (0 ≤ x2 ∧ x2 < 24) (
    if (hI h 190 x2.toNat) = (-1) then
      zY 330 17 [some (zR (some 177)), some (zI x1), some (zI x2), some (zI 0)] [] (sI h 177 26 (-1))
    else
      zY 330 17 [some (zR (some 177)), some (zI x1), some (zI x2), some (zI 0)] [] h) := by
  refine (show zC 330 [zR (some 177), zI x1, zI x2] h = gd (zob h (some 177) 12) (zY 330 4 [some (zR (some 177)), some (zI x1), some (zI x2), none] [zR (hR h 177 24)] h) from zGo 2 330 0 _ _ _).trans ?_
  refine (gd_t (⟨rfl, (PTM KM 177 _ rfl rfl), (PNM KM 177 rfl)⟩) _).trans ?_
  refine (congrArg (fun r => zY 330 4 [some (zR (some 177)), some (zI x1), some (zI x2), none] (zR r :: []) h) (PRM KM 177 24 _ rfl)).trans ?_
  refine (show zY 330 4 [some (zR (some 177)), some (zI x1), some (zI x2), none] [zR (some 190)] h = gd (zok h (some 190) 22 x2) (gd (inR (-1)) (if (hI h 190 x2.toNat) = (-1) then zY 330 10 [some (zR (some 177)), some (zI x1), some (zI x2), none] [] h else zY 330 15 [some (zR (some 177)), some (zI x1), some (zI x2), none] [] h)) from zGo 4 330 4 _ _ _).trans ?_
  refine gd_c (ci (PTM KM 190 _ rfl rfl) (PLM KM 190 24 rfl rfl)) (fun c0 => ?_)
  refine (gd_t (by decide) _).trans ?_
  refine iteC (fun c1 => ?_) (fun c1 => ?_)
  · skip
    refine (show zY 330 10 [some (zR (some 177)), some (zI x1), some (zI x2), none] [] h = gd (inR (-1)) (gd (zob h (some 177) 12) (gd (inR (0)) (zY 330 17 [some (zR (some 177)), some (zI x1), some (zI x2), some (zI 0)] [] (sI h 177 26 (-1))))) from zGo 5 330 10 _ _ _).trans ?_
    refine (gd_t (by decide) _).trans ?_
    refine (gd_t (⟨rfl, (PTM KM 177 _ rfl rfl), (PNM KM 177 rfl)⟩) _).trans ?_
    refine (gd_t (by decide) _).trans ?_
    rfl
  · skip
    refine (show zY 330 15 [some (zR (some 177)), some (zI x1), some (zI x2), none] [] h = gd (inR (0)) (zY 330 17 [some (zR (some 177)), some (zI x1), some (zI x2), some (zI 0)] [] h) from zGo 2 330 15 _ _ _).trans ?_
    refine (gd_t (by decide) _).trans ?_
    rfl
theorem q_M_draftsWrittenBy_17 {h : zH} {x1 : Int} {x2 : Int} {x3 : Int} (KM : KM h) : zY 330 17 [some (zR (some 177)), some (zI x1), some (zI x2), some (zI x3)] [] h =
    gd (0 ≤ x2 ∧ x2 < 24) (
    if x3 < (hI h 190 x2.toNat) then
      gd (-2147483648 ≤ 201 * x2 ∧ 201 * x2 < 2147483648) (
      gd (-2147483648 ≤ (201 * x2) + x3 ∧ (201 * x2) + x3 < 2147483648) (
      gd (0 ≤ ((201 * x2) + x3) ∧ ((201 * x2) + x3) < 4824) (
      zBack zY 330 41 44 [some (zR (some 177)), some (zI x1), some (zI x2), some (zI x3)] [] (zC 327 [zR (some 177), zI x1, zI (hI h 189 ((201 * x2) + x3).toNat)] h))))
    else
      some (.inl (none), h)) := by
  refine (show zY 330 17 [some (zR (some 177)), some (zI x1), some (zI x2), some (zI x3)] [] h = gd (zob h (some 177) 12) (zY 330 22 [some (zR (some 177)), some (zI x1), some (zI x2), some (zI x3)] [zR (hR h 177 24), zI x3] h) from zGo 3 330 17 _ _ _).trans ?_
  refine (gd_t (⟨rfl, (PTM KM 177 _ rfl rfl), (PNM KM 177 rfl)⟩) _).trans ?_
  refine (congrArg (fun r => zY 330 22 [some (zR (some 177)), some (zI x1), some (zI x2), some (zI x3)] (zR r :: zI x3 :: []) h) (PRM KM 177 24 _ rfl)).trans ?_
  refine (show zY 330 22 [some (zR (some 177)), some (zI x1), some (zI x2), some (zI x3)] [zR (some 190), zI x3] h = gd (zok h (some 190) 22 x2) (if x3 < (hI h 190 x2.toNat) then zY 330 27 [some (zR (some 177)), some (zI x1), some (zI x2), some (zI x3)] [] h else zY 330 50 [some (zR (some 177)), some (zI x1), some (zI x2), some (zI x3)] [] h) from zGo 3 330 22 _ _ _).trans ?_
  refine gd_c (ci (PTM KM 190 _ rfl rfl) (PLM KM 190 24 rfl rfl)) (fun c0 => ?_)
  refine iteC (fun c1 => ?_) (fun c1 => ?_)
  · skip
    refine (show zY 330 27 [some (zR (some 177)), some (zI x1), some (zI x2), some (zI x3)] [] h = gd (zob h (some 177) 12) (zY 330 33 [some (zR (some 177)), some (zI x1), some (zI x2), some (zI x3)] [zR (hR h 177 23), zI x1, zR (some 177)] h) from zGo 4 330 27 _ _ _).trans ?_
    refine (gd_t (⟨rfl, (PTM KM 177 _ rfl rfl), (PNM KM 177 rfl)⟩) _).trans ?_
    refine (congrArg (fun r => zY 330 33 [some (zR (some 177)), some (zI x1), some (zI x2), some (zI x3)] (zR r :: zI x1 :: zR (some 177) :: []) h) (PRM KM 177 23 _ rfl)).trans ?_
    refine (show zY 330 33 [some (zR (some 177)), some (zI x1), some (zI x2), some (zI x3)] [zR (some 189), zI x1, zR (some 177)] h = gd (-32768 ≤ (201 : Int) ∧ (201 : Int) < 32768) (gd (inR (201 * x2)) (gd (inR ((201 * x2) + x3)) (gd (zok h (some 189) 22 ((201 * x2) + x3)) (gd (false = zctor 327 ∧ zcs [] ≤ 8 ∧ zrm 330 (zrf 327 + 1) (8 + (zmaxl 327 + 11) + zrl 327) = true ∧ zcs [zR (some 177), zI x1, zI (hI h 189 ((201 * x2) + x3).toNat)] ≤ zmaxl 327) (gd (zob h (some 177) 12) (zBack zY 330 41 44 [some (zR (some 177)), some (zI x1), some (zI x2), some (zI x3)] [] (zC 327 [zR (some 177), zI x1, zI (hI h 189 ((201 * x2) + x3).toNat)] h))))))) from zGo 7 330 33 _ _ _).trans ?_
    refine (gd_t (by decide) _).trans ?_
    refine gd_c Iff.rfl (fun c2 => ?_)
    refine gd_c Iff.rfl (fun c3 => ?_)
    refine gd_c (ci (PTM KM 189 _ rfl rfl) (PLM KM 189 4824 rfl rfl)) (fun c4 => ?_)
    refine (gd_t (⟨rfl, Nat.le_of_ble_eq_true rfl, rfl, Nat.le_of_ble_eq_true rfl⟩) _).trans ?_
    refine (gd_t (⟨rfl, (PTM KM 177 _ rfl rfl), (PNM KM 177 rfl)⟩) _).trans ?_
    rfl
  · skip
    refine (show zY 330 50 [some (zR (some 177)), some (zI x1), some (zI x2), some (zI x3)] [] h = gd (([] : List zV).isEmpty = true ∧ zrk 330 = 0) (some (.inl (none), h)) from zGo 1 330 50 _ _ _).trans ?_
    refine (gd_t (⟨rfl, rfl⟩) _).trans ?_
    rfl
theorem q_M_draftsWrittenBy_r44 {h : zH} {x1 : Int} {x2 : Int} {x3 : Int} (KM : KM h) : zBack zY 330 41 44 [some (zR (some 177)), some (zI x1), some (zI x2), some (zI x3)] [] (some (.inl (none), h)) =
    gd (-2147483648 ≤ x3 + 1 ∧ x3 + 1 < 2147483648) (
    zY 330 17 [some (zR (some 177)), some (zI x1), some (zI x2), some (zI (x3 + 1))] [] h) := by
  refine (show zBack zY 330 41 44 [some (zR (some 177)), some (zI x1), some (zI x2), some (zI x3)] [] (some (.inl (none), h)) = gd (inR (x3 + 1)) (gd (inR (1)) (zY 330 17 [some (zR (some 177)), some (zI x1), some (zI x2), some (zI (x3 + 1))] [] h)) from zGo 2 330 44 _ _ _).trans ?_
  refine gd_c Iff.rfl (fun c0 => ?_)
  refine (gd_t (by decide) _).trans ?_
  rfl
theorem q_M_draftsBehind {h : zH} {x1 : Int} {x2 : Int} (KM : KM h) : zC 325 [zR (some 177), zI x1, zI x2] h =
    zY 325 2 [some (zR (some 177)), some (zI x1), some (zI x2), some (zI x1), none] [] h := by
  refine (show zC 325 [zR (some 177), zI x1, zI x2] h = zY 325 2 [some (zR (some 177)), some (zI x1), some (zI x2), some (zI x1), none] [] h from zGo 2 325 0 _ _ _).trans ?_
  rfl
theorem q_M_draftsBehind_2 {h : zH} {x1 : Int} {x2 : Int} {x3 : Int} (KM : KM h) (g0 : (0 ≤ x3 ∧ x3 < 24) := by omega) (g1 : ((f_M_s h x3 4) = (-1)) → (¬ ((f_M_s h x3 3) = (-1))) → (0 ≤ (f_M_s h x3 3) ∧ (f_M_s h x3 3) < 24) := by omega) : zY 325 2 [some (zR (some 177)), some (zI x1), some (zI x2), some (zI x3), none] [] h =
    if (f_M_s h x3 4) = (-1) then
      if (f_M_s h x3 3) = (-1) then
        zBack zY 325 29 32 [some (zR (some 177)), some (zI x1), some (zI x2), some (zI x3), some (zI (f_M_s h x3 3))] [] (zC 326 [zR (some 177), zI x2, zI 1] h)
      else
        if (f_M_s h (f_M_s h x3 3) 0) = 2 then
          gd (-2147483648 ≤ 26 + (f_M_s h x3 3) ∧ 26 + (f_M_s h x3 3) < 2147483648) (
          zBack zY 325 51 54 [some (zR (some 177)), some (zI x1), some (zI x2), some (zI x3), some (zI (f_M_s h x3 3))] [] (zC 326 [zR (some 177), zI x2, zI (26 + (f_M_s h x3 3))] h))
        else
          zY 325 2 [some (zR (some 177)), some (zI x1), some (zI x2), some (zI (f_M_s h x3 3)), some (zI (f_M_s h x3 3))] [] h
    else
      zBack zY 325 69 72 [some (zR (some 177)), some (zI x1), some (zI x2), some (zI x3), none] [] (zC 330 [zR (some 177), zI x2, zI (f_M_s h x3 4)] h) := by
  refine (show zY 325 2 [some (zR (some 177)), some (zI x1), some (zI x2), some (zI x3), none] [] h = gd (inR (4)) (gd (false = zctor 207 ∧ zcs [] ≤ 8 ∧ zrm 325 (zrf 207 + 1) (8 + (zmaxl 207 + 11) + zrl 207) = true ∧ zcs [zR (some 177), zI x3, zI 4] ≤ zmaxl 207) (gd (zob h (some 177) 12) (zBack zY 325 5 8 [some (zR (some 177)), some (zI x1), some (zI x2), some (zI x3), none] [] (zC 207 [zR (some 177), zI x3, zI 4] h)))) from zGo 4 325 2 _ _ _).trans ?_
  refine (gd_t (by decide) _).trans ?_
  refine (gd_t (⟨rfl, Nat.le_of_ble_eq_true rfl, rfl, Nat.le_of_ble_eq_true rfl⟩) _).trans ?_
  refine (gd_t (⟨rfl, (PTM KM 177 _ rfl rfl), (PNM KM 177 rfl)⟩) _).trans ?_
  refine (congrArg (zBack zY 325 5 8 [some (zR (some 177)), some (zI x1), some (zI x2), some (zI x3), none] []) (e_M_sx KM (g0) (by omega))).trans ?_
  refine (show zY 325 8 [some (zR (some 177)), some (zI x1), some (zI x2), some (zI x3), none] [zI (f_M_s h x3 4)] h = gd (inR (-1)) (if (f_M_s h x3 4) = (-1) then zY 325 12 [some (zR (some 177)), some (zI x1), some (zI x2), some (zI x3), none] [] h else zY 325 61 [some (zR (some 177)), some (zI x1), some (zI x2), some (zI x3), none] [] h) from zGo 2 325 8 _ _ _).trans ?_
  refine (gd_t (by decide) _).trans ?_
  refine iteC (fun c0 => ?_) (fun c0 => ?_)
  · skip
    refine (show zY 325 12 [some (zR (some 177)), some (zI x1), some (zI x2), some (zI x3), none] [] h = gd (inR (3)) (gd (false = zctor 207 ∧ zcs [] ≤ 8 ∧ zrm 325 (zrf 207 + 1) (8 + (zmaxl 207 + 11) + zrl 207) = true ∧ zcs [zR (some 177), zI x3, zI 3] ≤ zmaxl 207) (gd (zob h (some 177) 12) (zBack zY 325 15 18 [some (zR (some 177)), some (zI x1), some (zI x2), some (zI x3), none] [] (zC 207 [zR (some 177), zI x3, zI 3] h)))) from zGo 4 325 12 _ _ _).trans ?_
    refine (gd_t (by decide) _).trans ?_
    refine (gd_t (⟨rfl, Nat.le_of_ble_eq_true rfl, rfl, Nat.le_of_ble_eq_true rfl⟩) _).trans ?_
    refine (gd_t (⟨rfl, (PTM KM 177 _ rfl rfl), (PNM KM 177 rfl)⟩) _).trans ?_
    refine (congrArg (zBack zY 325 15 18 [some (zR (some 177)), some (zI x1), some (zI x2), some (zI x3), none] []) (e_M_sx KM (g0) (by omega))).trans ?_
    refine (show zY 325 18 [some (zR (some 177)), some (zI x1), some (zI x2), some (zI x3), none] [zI (f_M_s h x3 3)] h = gd (inR (-1)) (if (f_M_s h x3 3) = (-1) then zY 325 26 [some (zR (some 177)), some (zI x1), some (zI x2), some (zI x3), some (zI (f_M_s h x3 3))] [] h else zY 325 33 [some (zR (some 177)), some (zI x1), some (zI x2), some (zI x3), some (zI (f_M_s h x3 3))] [] h) from zGo 4 325 18 _ _ _).trans ?_
    refine (gd_t (by decide) _).trans ?_
    refine iteC (fun c1 => ?_) (fun c1 => ?_)
    · skip
      refine (show zY 325 26 [some (zR (some 177)), some (zI x1), some (zI x2), some (zI x3), some (zI (f_M_s h x3 3))] [] h = gd (inR (1)) (gd (false = zctor 326 ∧ zcs [] ≤ 8 ∧ zrm 325 (zrf 326 + 1) (8 + (zmaxl 326 + 11) + zrl 326) = true ∧ zcs [zR (some 177), zI x2, zI 1] ≤ zmaxl 326) (gd (zob h (some 177) 12) (zBack zY 325 29 32 [some (zR (some 177)), some (zI x1), some (zI x2), some (zI x3), some (zI (f_M_s h x3 3))] [] (zC 326 [zR (some 177), zI x2, zI 1] h)))) from zGo 4 325 26 _ _ _).trans ?_
      refine (gd_t (by decide) _).trans ?_
      refine (gd_t (⟨rfl, Nat.le_of_ble_eq_true rfl, rfl, Nat.le_of_ble_eq_true rfl⟩) _).trans ?_
      refine (gd_t (⟨rfl, (PTM KM 177 _ rfl rfl), (PNM KM 177 rfl)⟩) _).trans ?_
      rfl
    · skip
      refine (show zY 325 33 [some (zR (some 177)), some (zI x1), some (zI x2), some (zI x3), some (zI (f_M_s h x3 3))] [] h = gd (inR (0)) (gd (false = zctor 207 ∧ zcs [] ≤ 8 ∧ zrm 325 (zrf 207 + 1) (8 + (zmaxl 207 + 11) + zrl 207) = true ∧ zcs [zR (some 177), zI (f_M_s h x3 3), zI 0] ≤ zmaxl 207) (gd (zob h (some 177) 12) (zBack zY 325 37 40 [some (zR (some 177)), some (zI x1), some (zI x2), some (zI x3), some (zI (f_M_s h x3 3))] [] (zC 207 [zR (some 177), zI (f_M_s h x3 3), zI 0] h)))) from zGo 4 325 33 _ _ _).trans ?_
      refine (gd_t (by decide) _).trans ?_
      refine (gd_t (⟨rfl, Nat.le_of_ble_eq_true rfl, rfl, Nat.le_of_ble_eq_true rfl⟩) _).trans ?_
      refine (gd_t (⟨rfl, (PTM KM 177 _ rfl rfl), (PNM KM 177 rfl)⟩) _).trans ?_
      refine (congrArg (zBack zY 325 37 40 [some (zR (some 177)), some (zI x1), some (zI x2), some (zI x3), some (zI (f_M_s h x3 3))] []) (e_M_sx KM (g1 c0 c1) (by omega))).trans ?_
      refine (show zY 325 40 [some (zR (some 177)), some (zI x1), some (zI x2), some (zI x3), some (zI (f_M_s h x3 3))] [zI (f_M_s h (f_M_s h x3 3) 0)] h = gd (inR (2)) (if (f_M_s h (f_M_s h x3 3) 0) = 2 then zY 325 44 [some (zR (some 177)), some (zI x1), some (zI x2), some (zI x3), some (zI (f_M_s h x3 3))] [] h else zY 325 55 [some (zR (some 177)), some (zI x1), some (zI x2), some (zI x3), some (zI (f_M_s h x3 3))] [] h) from zGo 2 325 40 _ _ _).trans ?_
      refine (gd_t (by decide) _).trans ?_
      refine iteC (fun c2 => ?_) (fun c2 => ?_)
      · skip
        refine (show zY 325 44 [some (zR (some 177)), some (zI x1), some (zI x2), some (zI x3), some (zI (f_M_s h x3 3))] [] h = gd (-128 ≤ (26 : Int) ∧ (26 : Int) < 128) (gd (inR (26 + (f_M_s h x3 3))) (gd (false = zctor 326 ∧ zcs [] ≤ 8 ∧ zrm 325 (zrf 326 + 1) (8 + (zmaxl 326 + 11) + zrl 326) = true ∧ zcs [zR (some 177), zI x2, zI (26 + (f_M_s h x3 3))] ≤ zmaxl 326) (gd (zob h (some 177) 12) (zBack zY 325 51 54 [some (zR (some 177)), some (zI x1), some (zI x2), some (zI x3), some (zI (f_M_s h x3 3))] [] (zC 326 [zR (some 177), zI x2, zI (26 + (f_M_s h x3 3))] h))))) from zGo 6 325 44 _ _ _).trans ?_
        refine (gd_t (by decide) _).trans ?_
        refine gd_c Iff.rfl (fun c3 => ?_)
        refine (gd_t (⟨rfl, Nat.le_of_ble_eq_true rfl, rfl, Nat.le_of_ble_eq_true rfl⟩) _).trans ?_
        refine (gd_t (⟨rfl, (PTM KM 177 _ rfl rfl), (PNM KM 177 rfl)⟩) _).trans ?_
        rfl
      · skip
        refine (show zY 325 55 [some (zR (some 177)), some (zI x1), some (zI x2), some (zI x3), some (zI (f_M_s h x3 3))] [] h = zY 325 2 [some (zR (some 177)), some (zI x1), some (zI x2), some (zI (f_M_s h x3 3)), some (zI (f_M_s h x3 3))] [] h from zGo 3 325 55 _ _ _).trans ?_
        rfl
  · skip
    refine (show zY 325 61 [some (zR (some 177)), some (zI x1), some (zI x2), some (zI x3), none] [] h = gd (inR (4)) (gd (false = zctor 207 ∧ zcs [zI x2, zR (some 177)] ≤ 8 ∧ zrm 325 (zrf 207 + 1) (8 + (zmaxl 207 + 11) + zrl 207) = true ∧ zcs [zR (some 177), zI x3, zI 4] ≤ zmaxl 207) (gd (zob h (some 177) 12) (zBack zY 325 66 69 [some (zR (some 177)), some (zI x1), some (zI x2), some (zI x3), none] [zI x2, zR (some 177)] (zC 207 [zR (some 177), zI x3, zI 4] h)))) from zGo 6 325 61 _ _ _).trans ?_
    refine (gd_t (by decide) _).trans ?_
    refine (gd_t (⟨rfl, Nat.le_of_ble_eq_true rfl, rfl, Nat.le_of_ble_eq_true rfl⟩) _).trans ?_
    refine (gd_t (⟨rfl, (PTM KM 177 _ rfl rfl), (PNM KM 177 rfl)⟩) _).trans ?_
    refine (congrArg (zBack zY 325 66 69 [some (zR (some 177)), some (zI x1), some (zI x2), some (zI x3), none] [zI x2, zR (some 177)]) (e_M_sx KM (g0) (by omega))).trans ?_
    refine (show zY 325 69 [some (zR (some 177)), some (zI x1), some (zI x2), some (zI x3), none] [zI (f_M_s h x3 4), zI x2, zR (some 177)] h = gd (false = zctor 330 ∧ zcs [] ≤ 8 ∧ zrm 325 (zrf 330 + 1) (8 + (zmaxl 330 + 11) + zrl 330) = true ∧ zcs [zR (some 177), zI x2, zI (f_M_s h x3 4)] ≤ zmaxl 330) (gd (zob h (some 177) 12) (zBack zY 325 69 72 [some (zR (some 177)), some (zI x1), some (zI x2), some (zI x3), none] [] (zC 330 [zR (some 177), zI x2, zI (f_M_s h x3 4)] h))) from zGo 1 325 69 _ _ _).trans ?_
    refine (gd_t (⟨rfl, Nat.le_of_ble_eq_true rfl, rfl, Nat.le_of_ble_eq_true rfl⟩) _).trans ?_
    refine (gd_t (⟨rfl, (PTM KM 177 _ rfl rfl), (PNM KM 177 rfl)⟩) _).trans ?_
    rfl
theorem q_M_draftsBehind_r32 {h : zH} {x1 : Int} {x2 : Int} {x3 : Int} {x4 : Int} (KM : KM h) : zBack zY 325 29 32 [some (zR (some 177)), some (zI x1), some (zI x2), some (zI x3), some (zI x4)] [] (some (.inl (none), h)) =
    some (.inl (none), h) := by
  refine (show zBack zY 325 29 32 [some (zR (some 177)), some (zI x1), some (zI x2), some (zI x3), some (zI x4)] [] (some (.inl (none), h)) = gd (([] : List zV).isEmpty = true ∧ zrk 325 = 0) (some (.inl (none), h)) from zGo 1 325 32 _ _ _).trans ?_
  refine (gd_t (⟨rfl, rfl⟩) _).trans ?_
  rfl
theorem q_M_draftsBehind_r54 {h : zH} {x1 : Int} {x2 : Int} {x3 : Int} {x4 : Int} (KM : KM h) : zBack zY 325 51 54 [some (zR (some 177)), some (zI x1), some (zI x2), some (zI x3), some (zI x4)] [] (some (.inl (none), h)) =
    some (.inl (none), h) := by
  refine (show zBack zY 325 51 54 [some (zR (some 177)), some (zI x1), some (zI x2), some (zI x3), some (zI x4)] [] (some (.inl (none), h)) = gd (([] : List zV).isEmpty = true ∧ zrk 325 = 0) (some (.inl (none), h)) from zGo 1 325 54 _ _ _).trans ?_
  refine (gd_t (⟨rfl, rfl⟩) _).trans ?_
  rfl
theorem q_M_draftsBehind_r72 {h : zH} {x1 : Int} {x2 : Int} {x3 : Int} (KM : KM h) : zBack zY 325 69 72 [some (zR (some 177)), some (zI x1), some (zI x2), some (zI x3), none] [] (some (.inl (none), h)) =
    some (.inl (none), h) := by
  refine (show zBack zY 325 69 72 [some (zR (some 177)), some (zI x1), some (zI x2), some (zI x3), none] [] (some (.inl (none), h)) = gd (([] : List zV).isEmpty = true ∧ zrk 325 = 0) (some (.inl (none), h)) from zGo 1 325 72 _ _ _).trans ?_
  refine (gd_t (⟨rfl, rfl⟩) _).trans ?_
  rfl
theorem q_M_draftsRow {h : zH} {x1 : Int} {x2 : Int} (KM : KM h) : zC 324 [zR (some 177), zI x1, zI x2] h =
    if x2 = (-1) then
      zBack zY 324 8 11 [some (zR (some 177)), some (zI x1), some (zI x2)] [] (zC 325 [zR (some 177), zI x1, zI (-1)] h)
    else
      zBack zY 324 16 19 [some (zR (some 177)), some (zI x1), some (zI x2)] [] (zC 331 [zR (some 177), zI x2] h) := by
  refine (show zC 324 [zR (some 177), zI x1, zI x2] h = gd (inR (-1)) (if x2 = (-1) then zY 324 5 [some (zR (some 177)), some (zI x1), some (zI x2)] [] h else zY 324 14 [some (zR (some 177)), some (zI x1), some (zI x2)] [] h) from zGo 3 324 0 _ _ _).trans ?_
  refine (gd_t (by decide) _).trans ?_
  refine iteC (fun c0 => ?_) (fun c0 => ?_)
  · skip
    refine (show zY 324 5 [some (zR (some 177)), some (zI x1), some (zI x2)] [] h = gd (inR (-1)) (gd (false = zctor 325 ∧ zcs [] ≤ 8 ∧ zrm 324 (zrf 325 + 1) (8 + (zmaxl 325 + 11) + zrl 325) = true ∧ zcs [zR (some 177), zI x1, zI (-1)] ≤ zmaxl 325) (gd (zob h (some 177) 12) (zBack zY 324 8 11 [some (zR (some 177)), some (zI x1), some (zI x2)] [] (zC 325 [zR (some 177), zI x1, zI (-1)] h)))) from zGo 4 324 5 _ _ _).trans ?_
    refine (gd_t (by decide) _).trans ?_
    refine (gd_t (⟨rfl, Nat.le_of_ble_eq_true rfl, rfl, Nat.le_of_ble_eq_true rfl⟩) _).trans ?_
    refine (gd_t (⟨rfl, (PTM KM 177 _ rfl rfl), (PNM KM 177 rfl)⟩) _).trans ?_
    rfl
  · skip
    refine (show zY 324 14 [some (zR (some 177)), some (zI x1), some (zI x2)] [] h = gd (false = zctor 331 ∧ zcs [] ≤ 8 ∧ zrm 324 (zrf 331 + 1) (8 + (zmaxl 331 + 11) + zrl 331) = true ∧ zcs [zR (some 177), zI x2] ≤ zmaxl 331) (gd (zob h (some 177) 12) (zBack zY 324 16 19 [some (zR (some 177)), some (zI x1), some (zI x2)] [] (zC 331 [zR (some 177), zI x2] h))) from zGo 3 324 14 _ _ _).trans ?_
    refine (gd_t (⟨rfl, Nat.le_of_ble_eq_true rfl, rfl, Nat.le_of_ble_eq_true rfl⟩) _).trans ?_
    refine (gd_t (⟨rfl, (PTM KM 177 _ rfl rfl), (PNM KM 177 rfl)⟩) _).trans ?_
    rfl
theorem q_M_draftsRow_r11 {h : zH} {x1 : Int} {x2 : Int} (KM : KM h) : zBack zY 324 8 11 [some (zR (some 177)), some (zI x1), some (zI x2)] [] (some (.inl (none), h)) =
    some (.inl (none), h) := by
  refine (show zBack zY 324 8 11 [some (zR (some 177)), some (zI x1), some (zI x2)] [] (some (.inl (none), h)) = gd (([] : List zV).isEmpty = true ∧ zrk 324 = 0) (some (.inl (none), h)) from zGo 2 324 11 _ _ _).trans ?_
  refine (gd_t (⟨rfl, rfl⟩) _).trans ?_
  rfl
theorem q_M_draftsRow_r19 {h : zH} {x1 : Int} {x2 : Int} (KM : KM h) : zBack zY 324 16 19 [some (zR (some 177)), some (zI x1), some (zI x2)] [] (some (.inl (none), h)) =
    some (.inl (none), h) := by
  refine (show zBack zY 324 16 19 [some (zR (some 177)), some (zI x1), some (zI x2)] [] (some (.inl (none), h)) = gd (([] : List zV).isEmpty = true ∧ zrk 324 = 0) (some (.inl (none), h)) from zGo 1 324 19 _ _ _).trans ?_
  refine (gd_t (⟨rfl, rfl⟩) _).trans ?_
  rfl
theorem q_M_draftsNeed {h : zH} {x1 : Int} (KM : KM h) (g0 : (0 ≤ x1 ∧ x1 < 24) := by omega) : zC 321 [zR (some 177), zI x1] h =
    if (f_M_s (sI h 177 26 0) x1 0) = 2 then
      gd (-2147483648 ≤ 26 + x1 ∧ 26 + x1 < 2147483648) (
      zBack zY 321 20 23 [some (zR (some 177)), some (zI x1), none] [] (zC 322 [zR (some 177), zI (26 + x1)] (sI h 177 26 0)))
    else
      if (f_M_s (sI h 177 26 0) x1 0) = 1 then
        zBack zY 321 39 42 [some (zR (some 177)), some (zI x1), none] [] (zC 323 [zR (some 177), zI 16] (sI h 177 26 0))
      else
        if (f_M_s (sI h 177 26 0) x1 0) = 0 then
          zBack zY 321 135 138 [some (zR (some 177)), some (zI x1), some (zI 1)] [] (zC 325 [zR (some 177), zI x1, zI x1] (sI h 177 26 0))
        else
          if (f_M_filling (sI h 177 26 0) x1) = (-1) then
            zBack zY 321 135 138 [some (zR (some 177)), some (zI x1), some (zI 0)] [] (zC 325 [zR (some 177), zI x1, zI (-1)] (sI h 177 26 0))
          else
            zBack zY 321 135 138 [some (zR (some 177)), some (zI x1), some (zI 1)] [] (zC 325 [zR (some 177), zI x1, zI x1] (sI h 177 26 0)) := by
  refine (show zC 321 [zR (some 177), zI x1] h = gd (inR (0)) (gd (zob h (some 177) 12) (gd (inR (0)) (gd (false = zctor 207 ∧ zcs [] ≤ 8 ∧ zrm 321 (zrf 207 + 1) (8 + (zmaxl 207 + 11) + zrl 207) = true ∧ zcs [zR (some 177), zI x1, zI 0] ≤ zmaxl 207) (gd (zob (sI h 177 26 0) (some 177) 12) (zBack zY 321 8 11 [some (zR (some 177)), some (zI x1), none] [] (zC 207 [zR (some 177), zI x1, zI 0] (sI h 177 26 0))))))) from zGo 7 321 0 _ _ _).trans ?_
  refine (gd_t (by decide) _).trans ?_
  refine (gd_t (⟨rfl, (PTM KM 177 _ rfl rfl), (PNM KM 177 rfl)⟩) _).trans ?_
  refine (gd_t (by decide) _).trans ?_
  refine (gd_t (⟨rfl, Nat.le_of_ble_eq_true rfl, rfl, Nat.le_of_ble_eq_true rfl⟩) _).trans ?_
  refine (gd_t (⟨rfl, (PTM KM 177 _ rfl rfl), (PNM KM 177 rfl)⟩) _).trans ?_
  refine (congrArg (zBack zY 321 8 11 [some (zR (some 177)), some (zI x1), none] []) (e_M_sx (h := (sI h 177 26 0)) KM (g0) (by omega))).trans ?_
  refine (show zY 321 11 [some (zR (some 177)), some (zI x1), none] [zI (f_M_s (sI h 177 26 0) x1 0)] (sI h 177 26 0) = gd (inR (2)) (if (f_M_s (sI h 177 26 0) x1 0) = 2 then zY 321 15 [some (zR (some 177)), some (zI x1), none] [] (sI h 177 26 0) else zY 321 26 [some (zR (some 177)), some (zI x1), none] [] (sI h 177 26 0)) from zGo 2 321 11 _ _ _).trans ?_
  refine (gd_t (by decide) _).trans ?_
  refine iteC (fun c0 => ?_) (fun c0 => ?_)
  · skip
    refine (show zY 321 15 [some (zR (some 177)), some (zI x1), none] [] (sI h 177 26 0) = gd (-128 ≤ (26 : Int) ∧ (26 : Int) < 128) (gd (inR (26 + x1)) (gd (false = zctor 322 ∧ zcs [] ≤ 8 ∧ zrm 321 (zrf 322 + 1) (8 + (zmaxl 322 + 11) + zrl 322) = true ∧ zcs [zR (some 177), zI (26 + x1)] ≤ zmaxl 322) (gd (zob (sI h 177 26 0) (some 177) 12) (zBack zY 321 20 23 [some (zR (some 177)), some (zI x1), none] [] (zC 322 [zR (some 177), zI (26 + x1)] (sI h 177 26 0)))))) from zGo 5 321 15 _ _ _).trans ?_
    refine (gd_t (by decide) _).trans ?_
    refine gd_c Iff.rfl (fun c1 => ?_)
    refine (gd_t (⟨rfl, Nat.le_of_ble_eq_true rfl, rfl, Nat.le_of_ble_eq_true rfl⟩) _).trans ?_
    refine (gd_t (⟨rfl, (PTM KM 177 _ rfl rfl), (PNM KM 177 rfl)⟩) _).trans ?_
    rfl
  · skip
    refine (show zY 321 26 [some (zR (some 177)), some (zI x1), none] [] (sI h 177 26 0) = gd (inR (0)) (gd (false = zctor 207 ∧ zcs [] ≤ 8 ∧ zrm 321 (zrf 207 + 1) (8 + (zmaxl 207 + 11) + zrl 207) = true ∧ zcs [zR (some 177), zI x1, zI 0] ≤ zmaxl 207) (gd (zob (sI h 177 26 0) (some 177) 12) (zBack zY 321 29 32 [some (zR (some 177)), some (zI x1), none] [] (zC 207 [zR (some 177), zI x1, zI 0] (sI h 177 26 0))))) from zGo 4 321 26 _ _ _).trans ?_
    refine (gd_t (by decide) _).trans ?_
    refine (gd_t (⟨rfl, Nat.le_of_ble_eq_true rfl, rfl, Nat.le_of_ble_eq_true rfl⟩) _).trans ?_
    refine (gd_t (⟨rfl, (PTM KM 177 _ rfl rfl), (PNM KM 177 rfl)⟩) _).trans ?_
    refine (congrArg (zBack zY 321 29 32 [some (zR (some 177)), some (zI x1), none] []) (e_M_sx (h := (sI h 177 26 0)) KM (g0) (by omega))).trans ?_
    refine (show zY 321 32 [some (zR (some 177)), some (zI x1), none] [zI (f_M_s (sI h 177 26 0) x1 0)] (sI h 177 26 0) = gd (inR (1)) (if (f_M_s (sI h 177 26 0) x1 0) = 1 then zY 321 36 [some (zR (some 177)), some (zI x1), none] [] (sI h 177 26 0) else zY 321 100 [some (zR (some 177)), some (zI x1), none] [] (sI h 177 26 0)) from zGo 2 321 32 _ _ _).trans ?_
    refine (gd_t (by decide) _).trans ?_
    refine iteC (fun c2 => ?_) (fun c2 => ?_)
    · skip
      refine (show zY 321 36 [some (zR (some 177)), some (zI x1), none] [] (sI h 177 26 0) = gd (-128 ≤ (16 : Int) ∧ (16 : Int) < 128) (gd (false = zctor 323 ∧ zcs [] ≤ 8 ∧ zrm 321 (zrf 323 + 1) (8 + (zmaxl 323 + 11) + zrl 323) = true ∧ zcs [zR (some 177), zI 16] ≤ zmaxl 323) (gd (zob (sI h 177 26 0) (some 177) 12) (zBack zY 321 39 42 [some (zR (some 177)), some (zI x1), none] [] (zC 323 [zR (some 177), zI 16] (sI h 177 26 0))))) from zGo 3 321 36 _ _ _).trans ?_
      refine (gd_t (by decide) _).trans ?_
      refine (gd_t (⟨rfl, Nat.le_of_ble_eq_true rfl, rfl, Nat.le_of_ble_eq_true rfl⟩) _).trans ?_
      refine (gd_t (⟨rfl, (PTM KM 177 _ rfl rfl), (PNM KM 177 rfl)⟩) _).trans ?_
      rfl
    · skip
      refine (show zY 321 100 [some (zR (some 177)), some (zI x1), none] [] (sI h 177 26 0) = gd (inR (0)) (gd (false = zctor 207 ∧ zcs [] ≤ 8 ∧ zrm 321 (zrf 207 + 1) (8 + (zmaxl 207 + 11) + zrl 207) = true ∧ zcs [zR (some 177), zI x1, zI 0] ≤ zmaxl 207) (gd (zob (sI h 177 26 0) (some 177) 12) (zBack zY 321 103 106 [some (zR (some 177)), some (zI x1), none] [] (zC 207 [zR (some 177), zI x1, zI 0] (sI h 177 26 0))))) from zGo 4 321 100 _ _ _).trans ?_
      refine (gd_t (by decide) _).trans ?_
      refine (gd_t (⟨rfl, Nat.le_of_ble_eq_true rfl, rfl, Nat.le_of_ble_eq_true rfl⟩) _).trans ?_
      refine (gd_t (⟨rfl, (PTM KM 177 _ rfl rfl), (PNM KM 177 rfl)⟩) _).trans ?_
      refine (congrArg (zBack zY 321 103 106 [some (zR (some 177)), some (zI x1), none] []) (e_M_sx (h := (sI h 177 26 0)) KM (g0) (by omega))).trans ?_
      refine (show zY 321 106 [some (zR (some 177)), some (zI x1), none] [zI (f_M_s (sI h 177 26 0) x1 0)] (sI h 177 26 0) = if (f_M_s (sI h 177 26 0) x1 0) = 0 then zY 321 118 [some (zR (some 177)), some (zI x1), none] [] (sI h 177 26 0) else zY 321 109 [some (zR (some 177)), some (zI x1), none] [] (sI h 177 26 0) from zGo 1 321 106 _ _ _).trans ?_
      refine iteC (fun c3 => ?_) (fun c3 => ?_)
      · skip
        refine (show zY 321 118 [some (zR (some 177)), some (zI x1), none] [] (sI h 177 26 0) = gd (inR (1)) (if 1 = 0 then zY 321 134 [some (zR (some 177)), some (zI x1), some (zI 1)] [zI x1, zR (some 177)] (sI h 177 26 0) else zY 321 130 [some (zR (some 177)), some (zI x1), some (zI 1)] [zI x1, zR (some 177)] (sI h 177 26 0)) from zGo 7 321 118 _ _ _).trans ?_
        refine (gd_t (by decide) _).trans ?_
        refine (if_neg (by decide)).trans ?_
        refine (show zY 321 130 [some (zR (some 177)), some (zI x1), some (zI 1)] [zI x1, zR (some 177)] (sI h 177 26 0) = gd (false = zctor 325 ∧ zcs [] ≤ 8 ∧ zrm 321 (zrf 325 + 1) (8 + (zmaxl 325 + 11) + zrl 325) = true ∧ zcs [zR (some 177), zI x1, zI x1] ≤ zmaxl 325) (gd (zob (sI h 177 26 0) (some 177) 12) (zBack zY 321 135 138 [some (zR (some 177)), some (zI x1), some (zI 1)] [] (zC 325 [zR (some 177), zI x1, zI x1] (sI h 177 26 0)))) from zGo 3 321 130 _ _ _).trans ?_
        refine (gd_t (⟨rfl, Nat.le_of_ble_eq_true rfl, rfl, Nat.le_of_ble_eq_true rfl⟩) _).trans ?_
        refine (gd_t (⟨rfl, (PTM KM 177 _ rfl rfl), (PNM KM 177 rfl)⟩) _).trans ?_
        rfl
      · skip
        refine (show zY 321 109 [some (zR (some 177)), some (zI x1), none] [] (sI h 177 26 0) = gd (false = zctor 243 ∧ zcs [] ≤ 8 ∧ zrm 321 (zrf 243 + 1) (8 + (zmaxl 243 + 11) + zrl 243) = true ∧ zcs [zR (some 177), zI x1] ≤ zmaxl 243) (gd (zob (sI h 177 26 0) (some 177) 12) (zBack zY 321 111 114 [some (zR (some 177)), some (zI x1), none] [] (zC 243 [zR (some 177), zI x1] (sI h 177 26 0)))) from zGo 3 321 109 _ _ _).trans ?_
        refine (gd_t (⟨rfl, Nat.le_of_ble_eq_true rfl, rfl, Nat.le_of_ble_eq_true rfl⟩) _).trans ?_
        refine (gd_t (⟨rfl, (PTM KM 177 _ rfl rfl), (PNM KM 177 rfl)⟩) _).trans ?_
        refine (congrArg (zBack zY 321 111 114 [some (zR (some 177)), some (zI x1), none] []) (e_M_fillingx (h := (sI h 177 26 0)) KM (g0))).trans ?_
        refine (show zY 321 114 [some (zR (some 177)), some (zI x1), none] [zI (f_M_filling (sI h 177 26 0) x1)] (sI h 177 26 0) = gd (inR (-1)) (if (f_M_filling (sI h 177 26 0) x1) = (-1) then zY 321 122 [some (zR (some 177)), some (zI x1), none] [] (sI h 177 26 0) else zY 321 118 [some (zR (some 177)), some (zI x1), none] [] (sI h 177 26 0)) from zGo 2 321 114 _ _ _).trans ?_
        refine (gd_t (by decide) _).trans ?_
        refine iteC (fun c4 => ?_) (fun c4 => ?_)
        · skip
          refine (show zY 321 122 [some (zR (some 177)), some (zI x1), none] [] (sI h 177 26 0) = gd (inR (0)) (if 0 = 0 then zY 321 134 [some (zR (some 177)), some (zI x1), some (zI 0)] [zI x1, zR (some 177)] (sI h 177 26 0) else zY 321 130 [some (zR (some 177)), some (zI x1), some (zI 0)] [zI x1, zR (some 177)] (sI h 177 26 0)) from zGo 6 321 122 _ _ _).trans ?_
          refine (gd_t (by decide) _).trans ?_
          refine (if_pos (by decide)).trans ?_
          refine (show zY 321 134 [some (zR (some 177)), some (zI x1), some (zI 0)] [zI x1, zR (some 177)] (sI h 177 26 0) = gd (inR (-1)) (gd (false = zctor 325 ∧ zcs [] ≤ 8 ∧ zrm 321 (zrf 325 + 1) (8 + (zmaxl 325 + 11) + zrl 325) = true ∧ zcs [zR (some 177), zI x1, zI (-1)] ≤ zmaxl 325) (gd (zob (sI h 177 26 0) (some 177) 12) (zBack zY 321 135 138 [some (zR (some 177)), some (zI x1), some (zI 0)] [] (zC 325 [zR (some 177), zI x1, zI (-1)] (sI h 177 26 0))))) from zGo 2 321 134 _ _ _).trans ?_
          refine (gd_t (by decide) _).trans ?_
          refine (gd_t (⟨rfl, Nat.le_of_ble_eq_true rfl, rfl, Nat.le_of_ble_eq_true rfl⟩) _).trans ?_
          refine (gd_t (⟨rfl, (PTM KM 177 _ rfl rfl), (PNM KM 177 rfl)⟩) _).trans ?_
          rfl
        · skip
          refine (show zY 321 118 [some (zR (some 177)), some (zI x1), none] [] (sI h 177 26 0) = gd (inR (1)) (if 1 = 0 then zY 321 134 [some (zR (some 177)), some (zI x1), some (zI 1)] [zI x1, zR (some 177)] (sI h 177 26 0) else zY 321 130 [some (zR (some 177)), some (zI x1), some (zI 1)] [zI x1, zR (some 177)] (sI h 177 26 0)) from zGo 7 321 118 _ _ _).trans ?_
          refine (gd_t (by decide) _).trans ?_
          refine (if_neg (by decide)).trans ?_
          refine (show zY 321 130 [some (zR (some 177)), some (zI x1), some (zI 1)] [zI x1, zR (some 177)] (sI h 177 26 0) = gd (false = zctor 325 ∧ zcs [] ≤ 8 ∧ zrm 321 (zrf 325 + 1) (8 + (zmaxl 325 + 11) + zrl 325) = true ∧ zcs [zR (some 177), zI x1, zI x1] ≤ zmaxl 325) (gd (zob (sI h 177 26 0) (some 177) 12) (zBack zY 321 135 138 [some (zR (some 177)), some (zI x1), some (zI 1)] [] (zC 325 [zR (some 177), zI x1, zI x1] (sI h 177 26 0)))) from zGo 3 321 130 _ _ _).trans ?_
          refine (gd_t (⟨rfl, Nat.le_of_ble_eq_true rfl, rfl, Nat.le_of_ble_eq_true rfl⟩) _).trans ?_
          refine (gd_t (⟨rfl, (PTM KM 177 _ rfl rfl), (PNM KM 177 rfl)⟩) _).trans ?_
          rfl
theorem q_M_draftsNeed_r23 {h : zH} {x1 : Int} (KM : KM h) : zBack zY 321 20 23 [some (zR (some 177)), some (zI x1), none] [] (some (.inl (none), h)) =
    some (.inl (none), h) := by
  refine (show zBack zY 321 20 23 [some (zR (some 177)), some (zI x1), none] [] (some (.inl (none), h)) = gd (([] : List zV).isEmpty = true ∧ zrk 321 = 0) (some (.inl (none), h)) from zGo 2 321 23 _ _ _).trans ?_
  refine (gd_t (⟨rfl, rfl⟩) _).trans ?_
  rfl
theorem q_M_draftsNeed_r42 {h : zH} {x1 : Int} (KM : KM h) : zBack zY 321 39 42 [some (zR (some 177)), some (zI x1), none] [] (some (.inl (none), h)) =
    zBack zY 321 45 48 [some (zR (some 177)), some (zI x1), none] [] (zC 323 [zR (some 177), zI 15] h) := by
  refine (show zBack zY 321 39 42 [some (zR (some 177)), some (zI x1), none] [] (some (.inl (none), h)) = gd (-128 ≤ (15 : Int) ∧ (15 : Int) < 128) (gd (false = zctor 323 ∧ zcs [] ≤ 8 ∧ zrm 321 (zrf 323 + 1) (8 + (zmaxl 323 + 11) + zrl 323) = true ∧ zcs [zR (some 177), zI 15] ≤ zmaxl 323) (gd (zob h (some 177) 12) (zBack zY 321 45 48 [some (zR (some 177)), some (zI x1), none] [] (zC 323 [zR (some 177), zI 15] h)))) from zGo 3 321 42 _ _ _).trans ?_
  refine (gd_t (by decide) _).trans ?_
  refine (gd_t (⟨rfl, Nat.le_of_ble_eq_true rfl, rfl, Nat.le_of_ble_eq_true rfl⟩) _).trans ?_
  refine (gd_t (⟨rfl, (PTM KM 177 _ rfl rfl), (PNM KM 177 rfl)⟩) _).trans ?_
  rfl
theorem q_M_draftsNeed_r48 {h : zH} {x1 : Int} (KM : KM h) : zBack zY 321 45 48 [some (zR (some 177)), some (zI x1), none] [] (some (.inl (none), h)) =
    gd (-2147483648 ≤ 2 + x1 ∧ 2 + x1 < 2147483648) (
    zBack zY 321 52 55 [some (zR (some 177)), some (zI x1), none] [] (zC 322 [zR (some 177), zI (2 + x1)] h)) := by
  refine (show zBack zY 321 45 48 [some (zR (some 177)), some (zI x1), none] [] (some (.inl (none), h)) = gd (inR (2)) (gd (inR (2 + x1)) (gd (false = zctor 322 ∧ zcs [] ≤ 8 ∧ zrm 321 (zrf 322 + 1) (8 + (zmaxl 322 + 11) + zrl 322) = true ∧ zcs [zR (some 177), zI (2 + x1)] ≤ zmaxl 322) (gd (zob h (some 177) 12) (zBack zY 321 52 55 [some (zR (some 177)), some (zI x1), none] [] (zC 322 [zR (some 177), zI (2 + x1)] h))))) from zGo 5 321 48 _ _ _).trans ?_
  refine (gd_t (by decide) _).trans ?_
  refine gd_c Iff.rfl (fun c0 => ?_)
  refine (gd_t (⟨rfl, Nat.le_of_ble_eq_true rfl, rfl, Nat.le_of_ble_eq_true rfl⟩) _).trans ?_
  refine (gd_t (⟨rfl, (PTM KM 177 _ rfl rfl), (PNM KM 177 rfl)⟩) _).trans ?_
  rfl
theorem q_M_draftsNeed_r55 {h : zH} {x1 : Int} (KM : KM h) (g0 : (0 ≤ x1 ∧ x1 < 24) := by omega) : zBack zY 321 52 55 [some (zR (some 177)), some (zI x1), none] [] (some (.inl (none), h)) =
    zBack zY 321 63 66 [some (zR (some 177)), some (zI x1), none] [] (zC 324 [zR (some 177), zI x1, zI (f_M_s h x1 5)] h) := by
  refine (show zBack zY 321 52 55 [some (zR (some 177)), some (zI x1), none] [] (some (.inl (none), h)) = gd (inR (5)) (gd (false = zctor 207 ∧ zcs [zI x1, zR (some 177)] ≤ 8 ∧ zrm 321 (zrf 207 + 1) (8 + (zmaxl 207 + 11) + zrl 207) = true ∧ zcs [zR (some 177), zI x1, zI 5] ≤ zmaxl 207) (gd (zob h (some 177) 12) (zBack zY 321 60 63 [some (zR (some 177)), some (zI x1), none] [zI x1, zR (some 177)] (zC 207 [zR (some 177), zI x1, zI 5] h)))) from zGo 6 321 55 _ _ _).trans ?_
  refine (gd_t (by decide) _).trans ?_
  refine (gd_t (⟨rfl, Nat.le_of_ble_eq_true rfl, rfl, Nat.le_of_ble_eq_true rfl⟩) _).trans ?_
  refine (gd_t (⟨rfl, (PTM KM 177 _ rfl rfl), (PNM KM 177 rfl)⟩) _).trans ?_
  refine (congrArg (zBack zY 321 60 63 [some (zR (some 177)), some (zI x1), none] [zI x1, zR (some 177)]) (e_M_sx KM (g0) (by omega))).trans ?_
  refine (show zY 321 63 [some (zR (some 177)), some (zI x1), none] [zI (f_M_s h x1 5), zI x1, zR (some 177)] h = gd (false = zctor 324 ∧ zcs [] ≤ 8 ∧ zrm 321 (zrf 324 + 1) (8 + (zmaxl 324 + 11) + zrl 324) = true ∧ zcs [zR (some 177), zI x1, zI (f_M_s h x1 5)] ≤ zmaxl 324) (gd (zob h (some 177) 12) (zBack zY 321 63 66 [some (zR (some 177)), some (zI x1), none] [] (zC 324 [zR (some 177), zI x1, zI (f_M_s h x1 5)] h))) from zGo 1 321 63 _ _ _).trans ?_
  refine (gd_t (⟨rfl, Nat.le_of_ble_eq_true rfl, rfl, Nat.le_of_ble_eq_true rfl⟩) _).trans ?_
  refine (gd_t (⟨rfl, (PTM KM 177 _ rfl rfl), (PNM KM 177 rfl)⟩) _).trans ?_
  rfl
theorem q_M_draftsNeed_r66 {h : zH} {x1 : Int} (KM : KM h) : zBack zY 321 63 66 [some (zR (some 177)), some (zI x1), none] [] (some (.inl (none), h)) =
    zBack zY 321 69 72 [some (zR (some 177)), some (zI x1), none] [] (zC 323 [zR (some 177), zI 15] h) := by
  refine (show zBack zY 321 63 66 [some (zR (some 177)), some (zI x1), none] [] (some (.inl (none), h)) = gd (-128 ≤ (15 : Int) ∧ (15 : Int) < 128) (gd (false = zctor 323 ∧ zcs [] ≤ 8 ∧ zrm 321 (zrf 323 + 1) (8 + (zmaxl 323 + 11) + zrl 323) = true ∧ zcs [zR (some 177), zI 15] ≤ zmaxl 323) (gd (zob h (some 177) 12) (zBack zY 321 69 72 [some (zR (some 177)), some (zI x1), none] [] (zC 323 [zR (some 177), zI 15] h)))) from zGo 3 321 66 _ _ _).trans ?_
  refine (gd_t (by decide) _).trans ?_
  refine (gd_t (⟨rfl, Nat.le_of_ble_eq_true rfl, rfl, Nat.le_of_ble_eq_true rfl⟩) _).trans ?_
  refine (gd_t (⟨rfl, (PTM KM 177 _ rfl rfl), (PNM KM 177 rfl)⟩) _).trans ?_
  rfl
theorem q_M_draftsNeed_r72 {h : zH} {x1 : Int} (KM : KM h) : zBack zY 321 69 72 [some (zR (some 177)), some (zI x1), none] [] (some (.inl (none), h)) =
    zBack zY 321 75 78 [some (zR (some 177)), some (zI x1), none] [] (zC 323 [zR (some 177), zI 14] h) := by
  refine (show zBack zY 321 69 72 [some (zR (some 177)), some (zI x1), none] [] (some (.inl (none), h)) = gd (-128 ≤ (14 : Int) ∧ (14 : Int) < 128) (gd (false = zctor 323 ∧ zcs [] ≤ 8 ∧ zrm 321 (zrf 323 + 1) (8 + (zmaxl 323 + 11) + zrl 323) = true ∧ zcs [zR (some 177), zI 14] ≤ zmaxl 323) (gd (zob h (some 177) 12) (zBack zY 321 75 78 [some (zR (some 177)), some (zI x1), none] [] (zC 323 [zR (some 177), zI 14] h)))) from zGo 3 321 72 _ _ _).trans ?_
  refine (gd_t (by decide) _).trans ?_
  refine (gd_t (⟨rfl, Nat.le_of_ble_eq_true rfl, rfl, Nat.le_of_ble_eq_true rfl⟩) _).trans ?_
  refine (gd_t (⟨rfl, (PTM KM 177 _ rfl rfl), (PNM KM 177 rfl)⟩) _).trans ?_
  rfl
theorem q_M_draftsNeed_r78 {h : zH} {x1 : Int} (KM : KM h) : zBack zY 321 75 78 [some (zR (some 177)), some (zI x1), none] [] (some (.inl (none), h)) =
    gd (-2147483648 ≤ 2 + x1 ∧ 2 + x1 < 2147483648) (
    zBack zY 321 82 85 [some (zR (some 177)), some (zI x1), none] [] (zC 322 [zR (some 177), zI (2 + x1)] h)) := by
  refine (show zBack zY 321 75 78 [some (zR (some 177)), some (zI x1), none] [] (some (.inl (none), h)) = gd (inR (2)) (gd (inR (2 + x1)) (gd (false = zctor 322 ∧ zcs [] ≤ 8 ∧ zrm 321 (zrf 322 + 1) (8 + (zmaxl 322 + 11) + zrl 322) = true ∧ zcs [zR (some 177), zI (2 + x1)] ≤ zmaxl 322) (gd (zob h (some 177) 12) (zBack zY 321 82 85 [some (zR (some 177)), some (zI x1), none] [] (zC 322 [zR (some 177), zI (2 + x1)] h))))) from zGo 5 321 78 _ _ _).trans ?_
  refine (gd_t (by decide) _).trans ?_
  refine gd_c Iff.rfl (fun c0 => ?_)
  refine (gd_t (⟨rfl, Nat.le_of_ble_eq_true rfl, rfl, Nat.le_of_ble_eq_true rfl⟩) _).trans ?_
  refine (gd_t (⟨rfl, (PTM KM 177 _ rfl rfl), (PNM KM 177 rfl)⟩) _).trans ?_
  rfl
theorem q_M_draftsNeed_r85 {h : zH} {x1 : Int} (KM : KM h) (g0 : (0 ≤ x1 ∧ x1 < 24) := by omega) : zBack zY 321 82 85 [some (zR (some 177)), some (zI x1), none] [] (some (.inl (none), h)) =
    zBack zY 321 94 97 [some (zR (some 177)), some (zI x1), none] [] (zC 324 [zR (some 177), zI x1, zI (f_M_s h x1 6)] h) := by
  refine (show zBack zY 321 82 85 [some (zR (some 177)), some (zI x1), none] [] (some (.inl (none), h)) = gd (-128 ≤ (6 : Int) ∧ (6 : Int) < 128) (gd (false = zctor 207 ∧ zcs [zI x1, zR (some 177)] ≤ 8 ∧ zrm 321 (zrf 207 + 1) (8 + (zmaxl 207 + 11) + zrl 207) = true ∧ zcs [zR (some 177), zI x1, zI 6] ≤ zmaxl 207) (gd (zob h (some 177) 12) (zBack zY 321 91 94 [some (zR (some 177)), some (zI x1), none] [zI x1, zR (some 177)] (zC 207 [zR (some 177), zI x1, zI 6] h)))) from zGo 6 321 85 _ _ _).trans ?_
  refine (gd_t (by decide) _).trans ?_
  refine (gd_t (⟨rfl, Nat.le_of_ble_eq_true rfl, rfl, Nat.le_of_ble_eq_true rfl⟩) _).trans ?_
  refine (gd_t (⟨rfl, (PTM KM 177 _ rfl rfl), (PNM KM 177 rfl)⟩) _).trans ?_
  refine (congrArg (zBack zY 321 91 94 [some (zR (some 177)), some (zI x1), none] [zI x1, zR (some 177)]) (e_M_sx KM (g0) (by omega))).trans ?_
  refine (show zY 321 94 [some (zR (some 177)), some (zI x1), none] [zI (f_M_s h x1 6), zI x1, zR (some 177)] h = gd (false = zctor 324 ∧ zcs [] ≤ 8 ∧ zrm 321 (zrf 324 + 1) (8 + (zmaxl 324 + 11) + zrl 324) = true ∧ zcs [zR (some 177), zI x1, zI (f_M_s h x1 6)] ≤ zmaxl 324) (gd (zob h (some 177) 12) (zBack zY 321 94 97 [some (zR (some 177)), some (zI x1), none] [] (zC 324 [zR (some 177), zI x1, zI (f_M_s h x1 6)] h))) from zGo 1 321 94 _ _ _).trans ?_
  refine (gd_t (⟨rfl, Nat.le_of_ble_eq_true rfl, rfl, Nat.le_of_ble_eq_true rfl⟩) _).trans ?_
  refine (gd_t (⟨rfl, (PTM KM 177 _ rfl rfl), (PNM KM 177 rfl)⟩) _).trans ?_
  rfl
theorem q_M_draftsNeed_r97 {h : zH} {x1 : Int} (KM : KM h) : zBack zY 321 94 97 [some (zR (some 177)), some (zI x1), none] [] (some (.inl (none), h)) =
    some (.inl (none), h) := by
  refine (show zBack zY 321 94 97 [some (zR (some 177)), some (zI x1), none] [] (some (.inl (none), h)) = gd (([] : List zV).isEmpty = true ∧ zrk 321 = 0) (some (.inl (none), h)) from zGo 2 321 97 _ _ _).trans ?_
  refine (gd_t (⟨rfl, rfl⟩) _).trans ?_
  rfl
theorem q_M_draftsNeed_r138 {h : zH} {x1 : Int} {x2 : Int} (KM : KM h) : zBack zY 321 135 138 [some (zR (some 177)), some (zI x1), some (zI x2)] [] (some (.inl (none), h)) =
    some (.inl (none), h) := by
  refine (show zBack zY 321 135 138 [some (zR (some 177)), some (zI x1), some (zI x2)] [] (some (.inl (none), h)) = gd (([] : List zV).isEmpty = true ∧ zrk 321 = 0) (some (.inl (none), h)) from zGo 1 321 138 _ _ _).trans ?_
  refine (gd_t (⟨rfl, rfl⟩) _).trans ?_
  rfl
theorem q_M_writesNeeds {h : zH} (KM : KM h) : zC 320 [zR (some 177)] h =
    gd (-2147483648 ≤ (hI h 177 10) - 1 ∧ (hI h 177 10) - 1 < 2147483648) (
    zY 320 7 [some (zR (some 177)), some (zI ((hI h 177 10) - 1)), none] [] h) := by
  refine (show zC 320 [zR (some 177)] h = gd (zob h (some 177) 12) (gd (inR (1)) (gd (inR ((hI h 177 10) - 1)) (zY 320 7 [some (zR (some 177)), some (zI ((hI h 177 10) - 1)), none] [] h))) from zGo 5 320 0 _ _ _).trans ?_
  refine (gd_t (⟨rfl, (PTM KM 177 _ rfl rfl), (PNM KM 177 rfl)⟩) _).trans ?_
  refine (gd_t (by decide) _).trans ?_
  refine gd_c Iff.rfl (fun c0 => ?_)
  rfl
theorem q_M_writesNeeds_7 {h : zH} {x1 : Int} (KM : KM h) : zY 320 7 [some (zR (some 177)), some (zI x1), none] [] h =
    if x1 < 0 then
      some (.inl (none), h)
    else
      zBack zY 320 13 16 [some (zR (some 177)), some (zI x1), none] [] (zC 321 [zR (some 177), zI x1] h) := by
  refine (show zY 320 7 [some (zR (some 177)), some (zI x1), none] [] h = if x1 < 0 then zY 320 66 [some (zR (some 177)), some (zI x1), none] [] h else zY 320 11 [some (zR (some 177)), some (zI x1), none] [] h from zGo 2 320 7 _ _ _).trans ?_
  refine iteC (fun c0 => ?_) (fun c0 => ?_)
  · skip
    refine (show zY 320 66 [some (zR (some 177)), some (zI x1), none] [] h = gd (([] : List zV).isEmpty = true ∧ zrk 320 = 0) (some (.inl (none), h)) from zGo 1 320 66 _ _ _).trans ?_
    refine (gd_t (⟨rfl, rfl⟩) _).trans ?_
    rfl
  · skip
    refine (show zY 320 11 [some (zR (some 177)), some (zI x1), none] [] h = gd (false = zctor 321 ∧ zcs [] ≤ 8 ∧ zrm 320 (zrf 321 + 1) (8 + (zmaxl 321 + 11) + zrl 321) = true ∧ zcs [zR (some 177), zI x1] ≤ zmaxl 321) (gd (zob h (some 177) 12) (zBack zY 320 13 16 [some (zR (some 177)), some (zI x1), none] [] (zC 321 [zR (some 177), zI x1] h))) from zGo 3 320 11 _ _ _).trans ?_
    refine (gd_t (⟨rfl, Nat.le_of_ble_eq_true rfl, rfl, Nat.le_of_ble_eq_true rfl⟩) _).trans ?_
    refine (gd_t (⟨rfl, (PTM KM 177 _ rfl rfl), (PNM KM 177 rfl)⟩) _).trans ?_
    rfl
theorem q_M_writesNeeds_r16 {h : zH} {x1 : Int} (KM : KM h) : zBack zY 320 13 16 [some (zR (some 177)), some (zI x1), none] [] (some (.inl (none), h)) =
    gd (0 ≤ x1 ∧ x1 < 24) (
    zY 320 28 [some (zR (some 177)), some (zI x1), some (zI 0)] [] (sI h 190 x1.toNat (hI h 177 26))) := by
  refine (show zBack zY 320 13 16 [some (zR (some 177)), some (zI x1), none] [] (some (.inl (none), h)) = gd (zob h (some 177) 12) (zY 320 20 [some (zR (some 177)), some (zI x1), none] [zR (hR h 177 24)] h) from zGo 2 320 16 _ _ _).trans ?_
  refine (gd_t (⟨rfl, (PTM KM 177 _ rfl rfl), (PNM KM 177 rfl)⟩) _).trans ?_
  refine (congrArg (fun r => zY 320 20 [some (zR (some 177)), some (zI x1), none] (zR r :: []) h) (PRM KM 177 24 _ rfl)).trans ?_
  refine (show zY 320 20 [some (zR (some 177)), some (zI x1), none] [zR (some 190)] h = gd (zob h (some 177) 12) (gd (zokw h (some 190) 22 x1) (gd (inR (0)) (zY 320 28 [some (zR (some 177)), some (zI x1), some (zI 0)] [] (sI h 190 x1.toNat (hI h 177 26))))) from zGo 6 320 20 _ _ _).trans ?_
  refine (gd_t (⟨rfl, (PTM KM 177 _ rfl rfl), (PNM KM 177 rfl)⟩) _).trans ?_
  refine gd_c (ciw (PTM KM 190 _ rfl rfl) (PNM KM 190 rfl) (PLM KM 190 24 rfl rfl)) (fun c0 => ?_)
  refine (gd_t (by decide) _).trans ?_
  rfl
theorem q_M_writesNeeds_28 {h : zH} {x1 : Int} {x2 : Int} (KM : KM h) : zY 320 28 [some (zR (some 177)), some (zI x1), some (zI x2)] [] h =
    if x2 < (hI h 177 26) then
      gd (-2147483648 ≤ 201 * x1 ∧ 201 * x1 < 2147483648) (
      gd (-2147483648 ≤ (201 * x1) + x2 ∧ (201 * x1) + x2 < 2147483648) (
      gd (0 ≤ x2 ∧ x2 < 201) (
      gd (0 ≤ ((201 * x1) + x2) ∧ ((201 * x1) + x2) < 4824) (
      gd (-2147483648 ≤ x2 + 1 ∧ x2 + 1 < 2147483648) (
      zY 320 28 [some (zR (some 177)), some (zI x1), some (zI (x2 + 1))] [] (sI h 189 ((201 * x1) + x2).toNat (hI h 191 x2.toNat)))))))
    else
      gd (-2147483648 ≤ x1 + (-1) ∧ x1 + (-1) < 2147483648) (
      zY 320 7 [some (zR (some 177)), some (zI (x1 + (-1))), some (zI x2)] [] h) := by
  refine (show zY 320 28 [some (zR (some 177)), some (zI x1), some (zI x2)] [] h = gd (zob h (some 177) 12) (if x2 < (hI h 177 26) then zY 320 36 [some (zR (some 177)), some (zI x1), some (zI x2)] [] h else zY 320 60 [some (zR (some 177)), some (zI x1), some (zI x2)] [] h) from zGo 4 320 28 _ _ _).trans ?_
  refine (gd_t (⟨rfl, (PTM KM 177 _ rfl rfl), (PNM KM 177 rfl)⟩) _).trans ?_
  refine iteC (fun c0 => ?_) (fun c0 => ?_)
  · skip
    refine (show zY 320 36 [some (zR (some 177)), some (zI x1), some (zI x2)] [] h = gd (zob h (some 177) 12) (zY 320 40 [some (zR (some 177)), some (zI x1), some (zI x2)] [zR (hR h 177 23)] h) from zGo 2 320 36 _ _ _).trans ?_
    refine (gd_t (⟨rfl, (PTM KM 177 _ rfl rfl), (PNM KM 177 rfl)⟩) _).trans ?_
    refine (congrArg (fun r => zY 320 40 [some (zR (some 177)), some (zI x1), some (zI x2)] (zR r :: []) h) (PRM KM 177 23 _ rfl)).trans ?_
    refine (show zY 320 40 [some (zR (some 177)), some (zI x1), some (zI x2)] [zR (some 189)] h = gd (-32768 ≤ (201 : Int) ∧ (201 : Int) < 32768) (gd (inR (201 * x1)) (gd (inR ((201 * x1) + x2)) (gd (zob h (some 177) 12) (zY 320 51 [some (zR (some 177)), some (zI x1), some (zI x2)] [zR (hR h 177 25), zI ((201 * x1) + x2), zR (some 189)] h)))) from zGo 7 320 40 _ _ _).trans ?_
    refine (gd_t (by decide) _).trans ?_
    refine gd_c Iff.rfl (fun c1 => ?_)
    refine gd_c Iff.rfl (fun c2 => ?_)
    refine (gd_t (⟨rfl, (PTM KM 177 _ rfl rfl), (PNM KM 177 rfl)⟩) _).trans ?_
    refine (congrArg (fun r => zY 320 51 [some (zR (some 177)), some (zI x1), some (zI x2)] (zR r :: zI ((201 * x1) + x2) :: zR (some 189) :: []) h) (PRM KM 177 25 _ rfl)).trans ?_
    refine (show zY 320 51 [some (zR (some 177)), some (zI x1), some (zI x2)] [zR (some 191), zI ((201 * x1) + x2), zR (some 189)] h = gd (zok h (some 191) 22 x2) (gd (zokw h (some 189) 22 ((201 * x1) + x2)) (gd (inR (x2 + 1)) (gd (inR (1)) (zY 320 28 [some (zR (some 177)), some (zI x1), some (zI (x2 + 1))] [] (sI h 189 ((201 * x1) + x2).toNat (hI h 191 x2.toNat)))))) from zGo 5 320 51 _ _ _).trans ?_
    refine gd_c (ci (PTM KM 191 _ rfl rfl) (PLM KM 191 201 rfl rfl)) (fun c3 => ?_)
    refine gd_c (ciw (PTM KM 189 _ rfl rfl) (PNM KM 189 rfl) (PLM KM 189 4824 rfl rfl)) (fun c4 => ?_)
    refine gd_c Iff.rfl (fun c5 => ?_)
    refine (gd_t (by decide) _).trans ?_
    rfl
  · skip
    refine (show zY 320 60 [some (zR (some 177)), some (zI x1), some (zI x2)] [] h = gd (inR (x1 + (-1))) (gd (inR (-1)) (zY 320 7 [some (zR (some 177)), some (zI (x1 + (-1))), some (zI x2)] [] h)) from zGo 2 320 60 _ _ _).trans ?_
    refine gd_c Iff.rfl (fun c6 => ?_)
    refine (gd_t (by decide) _).trans ?_
    rfl
theorem q_M_needNodes {h : zH} {x1 : Int} (KM : KM h) (g0 : (-2147483648 ≤ (hI h 177 10) - 1 ∧ (hI h 177 10) - 1 < 2147483648) := by omega) : zC 335 [zR (some 177), zI x1] h =
    if b_M_isStatement h x1 then
      zBack zY 335 15 18 [some (zR (some 177)), some (zI x1)] [] (zC 320 [zR (some 177)] h)
    else
      some (.inl (some (zI 0)), (sI h 177 1 1)) := by
  refine (show zC 335 [zR (some 177), zI x1] h = gd (false = zctor 277 ∧ zcs [] ≤ 8 ∧ zrm 335 (zrf 277 + 1) (8 + (zmaxl 277 + 11) + zrl 277) = true ∧ zcs [zR (some 177), zI x1] ≤ zmaxl 277) (gd (zob h (some 177) 12) (zBack zY 335 2 5 [some (zR (some 177)), some (zI x1)] [] (zC 277 [zR (some 177), zI x1] h))) from zGo 3 335 0 _ _ _).trans ?_
  refine (gd_t (⟨rfl, Nat.le_of_ble_eq_true rfl, rfl, Nat.le_of_ble_eq_true rfl⟩) _).trans ?_
  refine (gd_t (⟨rfl, (PTM KM 177 _ rfl rfl), (PNM KM 177 rfl)⟩) _).trans ?_
  refine (congrArg (zBack zY 335 2 5 [some (zR (some 177)), some (zI x1)] []) (e_M_isStatement KM (g0))).trans ?_
  refine (show zY 335 5 [some (zR (some 177)), some (zI x1)] [zI (if b_M_isStatement h x1 then (1 : Int) else 0)] h = if (if b_M_isStatement h x1 then (1 : Int) else 0) = 0 then zY 335 8 [some (zR (some 177)), some (zI x1)] [] h else zY 335 14 [some (zR (some 177)), some (zI x1)] [] h from zGo 1 335 5 _ _ _).trans ?_
  refine iteB (fun c0 => ?_) (fun c0 => ?_)
  · skip
    refine (show zY 335 14 [some (zR (some 177)), some (zI x1)] [] h = gd (false = zctor 320 ∧ zcs [] ≤ 8 ∧ zrm 335 (zrf 320 + 1) (8 + (zmaxl 320 + 11) + zrl 320) = true ∧ zcs [zR (some 177)] ≤ zmaxl 320) (gd (zob h (some 177) 12) (zBack zY 335 15 18 [some (zR (some 177)), some (zI x1)] [] (zC 320 [zR (some 177)] h))) from zGo 2 335 14 _ _ _).trans ?_
    refine (gd_t (⟨rfl, Nat.le_of_ble_eq_true rfl, rfl, Nat.le_of_ble_eq_true rfl⟩) _).trans ?_
    refine (gd_t (⟨rfl, (PTM KM 177 _ rfl rfl), (PNM KM 177 rfl)⟩) _).trans ?_
    rfl
  · skip
    refine (show zY 335 8 [some (zR (some 177)), some (zI x1)] [] h = gd (inR (1)) (gd (false = zctor 210 ∧ zcs [] ≤ 8 ∧ zrm 335 (zrf 210 + 1) (8 + (zmaxl 210 + 11) + zrl 210) = true ∧ zcs [zR (some 177), zI 1] ≤ zmaxl 210) (gd (zob h (some 177) 12) (zBack zY 335 10 13 [some (zR (some 177)), some (zI x1)] [] (zC 210 [zR (some 177), zI 1] h)))) from zGo 3 335 8 _ _ _).trans ?_
    refine (gd_t (by decide) _).trans ?_
    refine (gd_t (⟨rfl, Nat.le_of_ble_eq_true rfl, rfl, Nat.le_of_ble_eq_true rfl⟩) _).trans ?_
    refine (gd_t (⟨rfl, (PTM KM 177 _ rfl rfl), (PNM KM 177 rfl)⟩) _).trans ?_
    refine (congrArg (zBack zY 335 10 13 [some (zR (some 177)), some (zI x1)] []) (q_M_refuse KM)).trans ?_
    refine (show zY 335 13 [some (zR (some 177)), some (zI x1)] [zI 0] (sI h 177 1 1) = gd (([] : List zV).isEmpty = true ∧ (zrk 335 = 1 ∨ zrk 335 = 6 ∧ ((0 : Int) = 0 ∨ (0 : Int) = 1))) (some (.inl (some (zI 0)), (sI h 177 1 1))) from zGo 1 335 13 _ _ _).trans ?_
    refine (gd_t (⟨rfl, Or.inl rfl⟩) _).trans ?_
    rfl
theorem q_M_needNodes_r18 {h : zH} {x1 : Int} (KM : KM h) : zBack zY 335 15 18 [some (zR (some 177)), some (zI x1)] [] (some (.inl (none), h)) =
    gd (0 ≤ x1 ∧ x1 < 24) (
    some (.inl (some (zI (hI h 190 x1.toNat))), (sI h 177 1 0))) := by
  refine (show zBack zY 335 15 18 [some (zR (some 177)), some (zI x1)] [] (some (.inl (none), h)) = gd (zob h (some 177) 12) (zY 335 23 [some (zR (some 177)), some (zI x1)] [zR (hR h 177 24), zR (some 177)] h) from zGo 3 335 18 _ _ _).trans ?_
  refine (gd_t (⟨rfl, (PTM KM 177 _ rfl rfl), (PNM KM 177 rfl)⟩) _).trans ?_
  refine (congrArg (fun r => zY 335 23 [some (zR (some 177)), some (zI x1)] (zR r :: zR (some 177) :: []) h) (PRM KM 177 24 _ rfl)).trans ?_
  refine (show zY 335 23 [some (zR (some 177)), some (zI x1)] [zR (some 190), zR (some 177)] h = gd (zok h (some 190) 22 x1) (gd (false = zctor 212 ∧ zcs [] ≤ 8 ∧ zrm 335 (zrf 212 + 1) (8 + (zmaxl 212 + 11) + zrl 212) = true ∧ zcs [zR (some 177), zI (hI h 190 x1.toNat)] ≤ zmaxl 212) (gd (zob h (some 177) 12) (zBack zY 335 25 28 [some (zR (some 177)), some (zI x1)] [] (zC 212 [zR (some 177), zI (hI h 190 x1.toNat)] h)))) from zGo 3 335 23 _ _ _).trans ?_
  refine gd_c (ci (PTM KM 190 _ rfl rfl) (PLM KM 190 24 rfl rfl)) (fun c0 => ?_)
  refine (gd_t (⟨rfl, Nat.le_of_ble_eq_true rfl, rfl, Nat.le_of_ble_eq_true rfl⟩) _).trans ?_
  refine (gd_t (⟨rfl, (PTM KM 177 _ rfl rfl), (PNM KM 177 rfl)⟩) _).trans ?_
  refine (congrArg (zBack zY 335 25 28 [some (zR (some 177)), some (zI x1)] []) (q_M_told KM)).trans ?_
  refine (show zY 335 28 [some (zR (some 177)), some (zI x1)] [zI (hI h 190 x1.toNat)] (sI h 177 1 0) = gd (([] : List zV).isEmpty = true ∧ (zrk 335 = 1 ∨ zrk 335 = 6 ∧ (((hI h 190 x1.toNat) : Int) = 0 ∨ ((hI h 190 x1.toNat) : Int) = 1))) (some (.inl (some (zI (hI h 190 x1.toNat))), (sI h 177 1 0))) from zGo 1 335 28 _ _ _).trans ?_
  refine (gd_t (⟨rfl, Or.inl rfl⟩) _).trans ?_
  rfl
theorem q_M_gap {h : zH} {x1 : Int} (KM : KM h) (g0 : (-2147483648 ≤ (hI h 177 10) - 1 ∧ (hI h 177 10) - 1 < 2147483648) := by omega) : zC 336 [zR (some 177), zI x1] h =
    if b_M_isStatement h x1 then
      zBack zY 336 15 18 [some (zR (some 177)), some (zI x1), none, none] [] (zC 320 [zR (some 177)] h)
    else
      some (.inl (some (zI 0)), (sI h 177 1 1)) := by
  refine (show zC 336 [zR (some 177), zI x1] h = gd (false = zctor 277 ∧ zcs [] ≤ 8 ∧ zrm 336 (zrf 277 + 1) (8 + (zmaxl 277 + 11) + zrl 277) = true ∧ zcs [zR (some 177), zI x1] ≤ zmaxl 277) (gd (zob h (some 177) 12) (zBack zY 336 2 5 [some (zR (some 177)), some (zI x1), none, none] [] (zC 277 [zR (some 177), zI x1] h))) from zGo 3 336 0 _ _ _).trans ?_
  refine (gd_t (⟨rfl, Nat.le_of_ble_eq_true rfl, rfl, Nat.le_of_ble_eq_true rfl⟩) _).trans ?_
  refine (gd_t (⟨rfl, (PTM KM 177 _ rfl rfl), (PNM KM 177 rfl)⟩) _).trans ?_
  refine (congrArg (zBack zY 336 2 5 [some (zR (some 177)), some (zI x1), none, none] []) (e_M_isStatement KM (g0))).trans ?_
  refine (show zY 336 5 [some (zR (some 177)), some (zI x1), none, none] [zI (if b_M_isStatement h x1 then (1 : Int) else 0)] h = if (if b_M_isStatement h x1 then (1 : Int) else 0) = 0 then zY 336 8 [some (zR (some 177)), some (zI x1), none, none] [] h else zY 336 14 [some (zR (some 177)), some (zI x1), none, none] [] h from zGo 1 336 5 _ _ _).trans ?_
  refine iteB (fun c0 => ?_) (fun c0 => ?_)
  · skip
    refine (show zY 336 14 [some (zR (some 177)), some (zI x1), none, none] [] h = gd (false = zctor 320 ∧ zcs [] ≤ 8 ∧ zrm 336 (zrf 320 + 1) (8 + (zmaxl 320 + 11) + zrl 320) = true ∧ zcs [zR (some 177)] ≤ zmaxl 320) (gd (zob h (some 177) 12) (zBack zY 336 15 18 [some (zR (some 177)), some (zI x1), none, none] [] (zC 320 [zR (some 177)] h))) from zGo 2 336 14 _ _ _).trans ?_
    refine (gd_t (⟨rfl, Nat.le_of_ble_eq_true rfl, rfl, Nat.le_of_ble_eq_true rfl⟩) _).trans ?_
    refine (gd_t (⟨rfl, (PTM KM 177 _ rfl rfl), (PNM KM 177 rfl)⟩) _).trans ?_
    rfl
  · skip
    refine (show zY 336 8 [some (zR (some 177)), some (zI x1), none, none] [] h = gd (inR (1)) (gd (false = zctor 210 ∧ zcs [] ≤ 8 ∧ zrm 336 (zrf 210 + 1) (8 + (zmaxl 210 + 11) + zrl 210) = true ∧ zcs [zR (some 177), zI 1] ≤ zmaxl 210) (gd (zob h (some 177) 12) (zBack zY 336 10 13 [some (zR (some 177)), some (zI x1), none, none] [] (zC 210 [zR (some 177), zI 1] h)))) from zGo 3 336 8 _ _ _).trans ?_
    refine (gd_t (by decide) _).trans ?_
    refine (gd_t (⟨rfl, Nat.le_of_ble_eq_true rfl, rfl, Nat.le_of_ble_eq_true rfl⟩) _).trans ?_
    refine (gd_t (⟨rfl, (PTM KM 177 _ rfl rfl), (PNM KM 177 rfl)⟩) _).trans ?_
    refine (congrArg (zBack zY 336 10 13 [some (zR (some 177)), some (zI x1), none, none] []) (q_M_refuse KM)).trans ?_
    refine (show zY 336 13 [some (zR (some 177)), some (zI x1), none, none] [zI 0] (sI h 177 1 1) = gd (([] : List zV).isEmpty = true ∧ (zrk 336 = 1 ∨ zrk 336 = 6 ∧ ((0 : Int) = 0 ∨ (0 : Int) = 1))) (some (.inl (some (zI 0)), (sI h 177 1 1))) from zGo 1 336 13 _ _ _).trans ?_
    refine (gd_t (⟨rfl, Or.inl rfl⟩) _).trans ?_
    rfl
theorem q_M_gap_r18 {h : zH} {x1 : Int} (KM : KM h) : zBack zY 336 15 18 [some (zR (some 177)), some (zI x1), none, none] [] (some (.inl (none), h)) =
    zBack zY 336 19 22 [some (zR (some 177)), some (zI x1), none, none] [] (zC 246 [zR (some 177)] h) := by
  refine (show zBack zY 336 15 18 [some (zR (some 177)), some (zI x1), none, none] [] (some (.inl (none), h)) = gd (false = zctor 246 ∧ zcs [] ≤ 8 ∧ zrm 336 (zrf 246 + 1) (8 + (zmaxl 246 + 11) + zrl 246) = true ∧ zcs [zR (some 177)] ≤ zmaxl 246) (gd (zob h (some 177) 12) (zBack zY 336 19 22 [some (zR (some 177)), some (zI x1), none, none] [] (zC 246 [zR (some 177)] h))) from zGo 2 336 18 _ _ _).trans ?_
  refine (gd_t (⟨rfl, Nat.le_of_ble_eq_true rfl, rfl, Nat.le_of_ble_eq_true rfl⟩) _).trans ?_
  refine (gd_t (⟨rfl, (PTM KM 177 _ rfl rfl), (PNM KM 177 rfl)⟩) _).trans ?_
  rfl
theorem q_M_gap_r22 {h : zH} {x1 : Int} (KM : KM h) : zBack zY 336 19 22 [some (zR (some 177)), some (zI x1), none, none] [] (some (.inl (none), h)) =
    zY 336 26 [some (zR (some 177)), some (zI x1), some (zI 0), some (zI 0)] [] h := by
  refine (show zBack zY 336 19 22 [some (zR (some 177)), some (zI x1), none, none] [] (some (.inl (none), h)) = gd (inR (0)) (gd (inR (0)) (zY 336 26 [some (zR (some 177)), some (zI x1), some (zI 0), some (zI 0)] [] h)) from zGo 4 336 22 _ _ _).trans ?_
  refine (gd_t (by decide) _).trans ?_
  refine (gd_t (by decide) _).trans ?_
  rfl
theorem q_M_gap_26 {h : zH} {x1 : Int} {x2 : Int} {x3 : Int} (KM : KM h) : zY 336 26 [some (zR (some 177)), some (zI x1), some (zI x2), some (zI x3)] [] h =
    if x3 < 64 then
      gd (0 ≤ x1 ∧ x1 < 24) (
      if (hI h 190 x1.toNat) = (-1) then
        some (.inl (some (zI x2)), (sI h 177 1 0))
      else
        zBack zY 336 46 49 [some (zR (some 177)), some (zI x1), some (zI x2), some (zI x3)] [zI x2] (zC 337 [zR (some 177), zI x1, zI x3] h))
    else
      some (.inl (some (zI x2)), (sI h 177 1 0)) := by
  refine (show zY 336 26 [some (zR (some 177)), some (zI x1), some (zI x2), some (zI x3)] [] h = gd (-128 ≤ (64 : Int) ∧ (64 : Int) < 128) (if x3 < 64 then zY 336 32 [some (zR (some 177)), some (zI x1), some (zI x2), some (zI x3)] [] h else zY 336 84 [some (zR (some 177)), some (zI x1), some (zI x2), some (zI x3)] [] h) from zGo 3 336 26 _ _ _).trans ?_
  refine (gd_t (by decide) _).trans ?_
  refine iteC (fun c0 => ?_) (fun c0 => ?_)
  · skip
    refine (show zY 336 32 [some (zR (some 177)), some (zI x1), some (zI x2), some (zI x3)] [] h = gd (zob h (some 177) 12) (zY 336 36 [some (zR (some 177)), some (zI x1), some (zI x2), some (zI x3)] [zR (hR h 177 24)] h) from zGo 2 336 32 _ _ _).trans ?_
    refine (gd_t (⟨rfl, (PTM KM 177 _ rfl rfl), (PNM KM 177 rfl)⟩) _).trans ?_
    refine (congrArg (fun r => zY 336 36 [some (zR (some 177)), some (zI x1), some (zI x2), some (zI x3)] (zR r :: []) h) (PRM KM 177 24 _ rfl)).trans ?_
    refine (show zY 336 36 [some (zR (some 177)), some (zI x1), some (zI x2), some (zI x3)] [zR (some 190)] h = gd (zok h (some 190) 22 x1) (gd (inR (-1)) (if (hI h 190 x1.toNat) = (-1) then zY 336 84 [some (zR (some 177)), some (zI x1), some (zI x2), some (zI x3)] [] h else zY 336 42 [some (zR (some 177)), some (zI x1), some (zI x2), some (zI x3)] [] h)) from zGo 4 336 36 _ _ _).trans ?_
    refine gd_c (ci (PTM KM 190 _ rfl rfl) (PLM KM 190 24 rfl rfl)) (fun c1 => ?_)
    refine (gd_t (by decide) _).trans ?_
    refine iteC (fun c2 => ?_) (fun c2 => ?_)
    · skip
      refine (show zY 336 84 [some (zR (some 177)), some (zI x1), some (zI x2), some (zI x3)] [] h = gd (false = zctor 212 ∧ zcs [] ≤ 8 ∧ zrm 336 (zrf 212 + 1) (8 + (zmaxl 212 + 11) + zrl 212) = true ∧ zcs [zR (some 177), zI x2] ≤ zmaxl 212) (gd (zob h (some 177) 12) (zBack zY 336 86 89 [some (zR (some 177)), some (zI x1), some (zI x2), some (zI x3)] [] (zC 212 [zR (some 177), zI x2] h))) from zGo 3 336 84 _ _ _).trans ?_
      refine (gd_t (⟨rfl, Nat.le_of_ble_eq_true rfl, rfl, Nat.le_of_ble_eq_true rfl⟩) _).trans ?_
      refine (gd_t (⟨rfl, (PTM KM 177 _ rfl rfl), (PNM KM 177 rfl)⟩) _).trans ?_
      refine (congrArg (zBack zY 336 86 89 [some (zR (some 177)), some (zI x1), some (zI x2), some (zI x3)] []) (q_M_told KM)).trans ?_
      refine (show zY 336 89 [some (zR (some 177)), some (zI x1), some (zI x2), some (zI x3)] [zI x2] (sI h 177 1 0) = gd (([] : List zV).isEmpty = true ∧ (zrk 336 = 1 ∨ zrk 336 = 6 ∧ ((x2 : Int) = 0 ∨ (x2 : Int) = 1))) (some (.inl (some (zI x2)), (sI h 177 1 0))) from zGo 1 336 89 _ _ _).trans ?_
      refine (gd_t (⟨rfl, Or.inl rfl⟩) _).trans ?_
      rfl
    · skip
      refine (show zY 336 42 [some (zR (some 177)), some (zI x1), some (zI x2), some (zI x3)] [] h = gd (false = zctor 337 ∧ zcs [zI x2] ≤ 8 ∧ zrm 336 (zrf 337 + 1) (8 + (zmaxl 337 + 11) + zrl 337) = true ∧ zcs [zR (some 177), zI x1, zI x3] ≤ zmaxl 337) (gd (zob h (some 177) 12) (zBack zY 336 46 49 [some (zR (some 177)), some (zI x1), some (zI x2), some (zI x3)] [zI x2] (zC 337 [zR (some 177), zI x1, zI x3] h))) from zGo 5 336 42 _ _ _).trans ?_
      refine (gd_t (⟨rfl, Nat.le_of_ble_eq_true rfl, rfl, Nat.le_of_ble_eq_true rfl⟩) _).trans ?_
      refine (gd_t (⟨rfl, (PTM KM 177 _ rfl rfl), (PNM KM 177 rfl)⟩) _).trans ?_
      rfl
  · skip
    refine (show zY 336 84 [some (zR (some 177)), some (zI x1), some (zI x2), some (zI x3)] [] h = gd (false = zctor 212 ∧ zcs [] ≤ 8 ∧ zrm 336 (zrf 212 + 1) (8 + (zmaxl 212 + 11) + zrl 212) = true ∧ zcs [zR (some 177), zI x2] ≤ zmaxl 212) (gd (zob h (some 177) 12) (zBack zY 336 86 89 [some (zR (some 177)), some (zI x1), some (zI x2), some (zI x3)] [] (zC 212 [zR (some 177), zI x2] h))) from zGo 3 336 84 _ _ _).trans ?_
    refine (gd_t (⟨rfl, Nat.le_of_ble_eq_true rfl, rfl, Nat.le_of_ble_eq_true rfl⟩) _).trans ?_
    refine (gd_t (⟨rfl, (PTM KM 177 _ rfl rfl), (PNM KM 177 rfl)⟩) _).trans ?_
    refine (congrArg (zBack zY 336 86 89 [some (zR (some 177)), some (zI x1), some (zI x2), some (zI x3)] []) (q_M_told KM)).trans ?_
    refine (show zY 336 89 [some (zR (some 177)), some (zI x1), some (zI x2), some (zI x3)] [zI x2] (sI h 177 1 0) = gd (([] : List zV).isEmpty = true ∧ (zrk 336 = 1 ∨ zrk 336 = 6 ∧ ((x2 : Int) = 0 ∨ (x2 : Int) = 1))) (some (.inl (some (zI x2)), (sI h 177 1 0))) from zGo 1 336 89 _ _ _).trans ?_
    refine (gd_t (⟨rfl, Or.inl rfl⟩) _).trans ?_
    rfl
theorem q_M_gap_r49 {h : zH} {x1 : Int} {x2 : Int} {x3 : Int} {y0 : Int} {y : Int} (KM : KM h) : zBack zY 336 46 49 [some (zR (some 177)), some (zI x1), some (zI x2), some (zI x3)] [zI y0] (some (.inl (some (zI y)), h)) =
    if y = 1 then
      gd (0 ≤ x1 ∧ x1 < 24) (
      if 1 = (if b_M_holds (hJ h 188 x1.toNat) x3 then (1 : Int) else 0) then
        gd (-2147483648 ≤ y0 + 0 ∧ y0 + 0 < 2147483648) (
        gd (-2147483648 ≤ x3 + 1 ∧ x3 + 1 < 2147483648) (
        zY 336 26 [some (zR (some 177)), some (zI x1), some (zI (y0 + 0)), some (zI (x3 + 1))] [] h))
      else
        gd (-2147483648 ≤ y0 + 1 ∧ y0 + 1 < 2147483648) (
        gd (-2147483648 ≤ x3 + 1 ∧ x3 + 1 < 2147483648) (
        zY 336 26 [some (zR (some 177)), some (zI x1), some (zI (y0 + 1)), some (zI (x3 + 1))] [] h)))
    else
      gd (0 ≤ x1 ∧ x1 < 24) (
      if 0 = (if b_M_holds (hJ h 188 x1.toNat) x3 then (1 : Int) else 0) then
        gd (-2147483648 ≤ y0 + 0 ∧ y0 + 0 < 2147483648) (
        gd (-2147483648 ≤ x3 + 1 ∧ x3 + 1 < 2147483648) (
        zY 336 26 [some (zR (some 177)), some (zI x1), some (zI (y0 + 0)), some (zI (x3 + 1))] [] h))
      else
        gd (-2147483648 ≤ y0 + 1 ∧ y0 + 1 < 2147483648) (
        gd (-2147483648 ≤ x3 + 1 ∧ x3 + 1 < 2147483648) (
        zY 336 26 [some (zR (some 177)), some (zI x1), some (zI (y0 + 1)), some (zI (x3 + 1))] [] h))) := by
  refine (show zBack zY 336 46 49 [some (zR (some 177)), some (zI x1), some (zI x2), some (zI x3)] [zI y0] (some (.inl (some (zI y)), h)) = gd (inR (1)) (if y = 1 then zY 336 53 [some (zR (some 177)), some (zI x1), some (zI x2), some (zI x3)] [zI y0] h else zY 336 57 [some (zR (some 177)), some (zI x1), some (zI x2), some (zI x3)] [zI y0] h) from zGo 2 336 49 _ _ _).trans ?_
  refine (gd_t (by decide) _).trans ?_
  refine iteC (fun c0 => ?_) (fun c0 => ?_)
  · skip
    refine (show zY 336 53 [some (zR (some 177)), some (zI x1), some (zI x2), some (zI x3)] [zI y0] h = gd (inR (1)) (gd (zob h (some 177) 12) (zY 336 62 [some (zR (some 177)), some (zI x1), some (zI x2), some (zI x3)] [zR (hR h 177 22), zI 1, zI y0] h)) from zGo 4 336 53 _ _ _).trans ?_
    refine (gd_t (by decide) _).trans ?_
    refine (gd_t (⟨rfl, (PTM KM 177 _ rfl rfl), (PNM KM 177 rfl)⟩) _).trans ?_
    refine (congrArg (fun r => zY 336 62 [some (zR (some 177)), some (zI x1), some (zI x2), some (zI x3)] (zR r :: zI 1 :: zI y0 :: []) h) (PRM KM 177 22 _ rfl)).trans ?_
    refine (show zY 336 62 [some (zR (some 177)), some (zI x1), some (zI x2), some (zI x3)] [zR (some 188), zI 1, zI y0] h = gd (zok h (some 188) 23 x1) (gd (false = zctor 260 ∧ zcs [zI 1, zI y0] ≤ 8 ∧ zrm 336 (zrf 260 + 1) (8 + (zmaxl 260 + 11) + zrl 260) = true ∧ zcs [zJ (hJ h 188 x1.toNat), zI x3] ≤ zmaxl 260) (zBack zY 336 65 68 [some (zR (some 177)), some (zI x1), some (zI x2), some (zI x3)] [zI 1, zI y0] (zC 260 [zJ (hJ h 188 x1.toNat), zI x3] h))) from zGo 4 336 62 _ _ _).trans ?_
    refine gd_c (ci (PTM KM 188 _ rfl rfl) (PLM KM 188 24 rfl rfl)) (fun c1 => ?_)
    refine (gd_t (⟨rfl, Nat.le_of_ble_eq_true rfl, rfl, Nat.le_of_ble_eq_true rfl⟩) _).trans ?_
    refine (congrArg (zBack zY 336 65 68 [some (zR (some 177)), some (zI x1), some (zI x2), some (zI x3)] [zI 1, zI y0]) (e_M_holds)).trans ?_
    refine (show zY 336 68 [some (zR (some 177)), some (zI x1), some (zI x2), some (zI x3)] [zI (if b_M_holds (hJ h 188 x1.toNat) x3 then (1 : Int) else 0), zI 1, zI y0] h = if 1 = (if b_M_holds (hJ h 188 x1.toNat) x3 then (1 : Int) else 0) then zY 336 71 [some (zR (some 177)), some (zI x1), some (zI x2), some (zI x3)] [zI y0] h else zY 336 75 [some (zR (some 177)), some (zI x1), some (zI x2), some (zI x3)] [zI y0] h from zGo 1 336 68 _ _ _).trans ?_
    refine iteC (fun c2 => ?_) (fun c2 => ?_)
    · skip
      refine (show zY 336 71 [some (zR (some 177)), some (zI x1), some (zI x2), some (zI x3)] [zI y0] h = gd (inR (0)) (gd (inR (y0 + 0)) (gd (inR (x3 + 1)) (gd (inR (1)) (zY 336 26 [some (zR (some 177)), some (zI x1), some (zI (y0 + 0)), some (zI (x3 + 1))] [] h)))) from zGo 6 336 71 _ _ _).trans ?_
      refine (gd_t (by decide) _).trans ?_
      refine gd_c Iff.rfl (fun c3 => ?_)
      refine gd_c Iff.rfl (fun c4 => ?_)
      refine (gd_t (by decide) _).trans ?_
      rfl
    · skip
      refine (show zY 336 75 [some (zR (some 177)), some (zI x1), some (zI x2), some (zI x3)] [zI y0] h = gd (inR (1)) (gd (inR (y0 + 1)) (gd (inR (x3 + 1)) (gd (inR (1)) (zY 336 26 [some (zR (some 177)), some (zI x1), some (zI (y0 + 1)), some (zI (x3 + 1))] [] h)))) from zGo 5 336 75 _ _ _).trans ?_
      refine (gd_t (by decide) _).trans ?_
      refine gd_c Iff.rfl (fun c5 => ?_)
      refine gd_c Iff.rfl (fun c6 => ?_)
      refine (gd_t (by decide) _).trans ?_
      rfl
  · skip
    refine (show zY 336 57 [some (zR (some 177)), some (zI x1), some (zI x2), some (zI x3)] [zI y0] h = gd (inR (0)) (gd (zob h (some 177) 12) (zY 336 62 [some (zR (some 177)), some (zI x1), some (zI x2), some (zI x3)] [zR (hR h 177 22), zI 0, zI y0] h)) from zGo 3 336 57 _ _ _).trans ?_
    refine (gd_t (by decide) _).trans ?_
    refine (gd_t (⟨rfl, (PTM KM 177 _ rfl rfl), (PNM KM 177 rfl)⟩) _).trans ?_
    refine (congrArg (fun r => zY 336 62 [some (zR (some 177)), some (zI x1), some (zI x2), some (zI x3)] (zR r :: zI 0 :: zI y0 :: []) h) (PRM KM 177 22 _ rfl)).trans ?_
    refine (show zY 336 62 [some (zR (some 177)), some (zI x1), some (zI x2), some (zI x3)] [zR (some 188), zI 0, zI y0] h = gd (zok h (some 188) 23 x1) (gd (false = zctor 260 ∧ zcs [zI 0, zI y0] ≤ 8 ∧ zrm 336 (zrf 260 + 1) (8 + (zmaxl 260 + 11) + zrl 260) = true ∧ zcs [zJ (hJ h 188 x1.toNat), zI x3] ≤ zmaxl 260) (zBack zY 336 65 68 [some (zR (some 177)), some (zI x1), some (zI x2), some (zI x3)] [zI 0, zI y0] (zC 260 [zJ (hJ h 188 x1.toNat), zI x3] h))) from zGo 4 336 62 _ _ _).trans ?_
    refine gd_c (ci (PTM KM 188 _ rfl rfl) (PLM KM 188 24 rfl rfl)) (fun c7 => ?_)
    refine (gd_t (⟨rfl, Nat.le_of_ble_eq_true rfl, rfl, Nat.le_of_ble_eq_true rfl⟩) _).trans ?_
    refine (congrArg (zBack zY 336 65 68 [some (zR (some 177)), some (zI x1), some (zI x2), some (zI x3)] [zI 0, zI y0]) (e_M_holds)).trans ?_
    refine (show zY 336 68 [some (zR (some 177)), some (zI x1), some (zI x2), some (zI x3)] [zI (if b_M_holds (hJ h 188 x1.toNat) x3 then (1 : Int) else 0), zI 0, zI y0] h = if 0 = (if b_M_holds (hJ h 188 x1.toNat) x3 then (1 : Int) else 0) then zY 336 71 [some (zR (some 177)), some (zI x1), some (zI x2), some (zI x3)] [zI y0] h else zY 336 75 [some (zR (some 177)), some (zI x1), some (zI x2), some (zI x3)] [zI y0] h from zGo 1 336 68 _ _ _).trans ?_
    refine iteC (fun c8 => ?_) (fun c8 => ?_)
    · skip
      refine (show zY 336 71 [some (zR (some 177)), some (zI x1), some (zI x2), some (zI x3)] [zI y0] h = gd (inR (0)) (gd (inR (y0 + 0)) (gd (inR (x3 + 1)) (gd (inR (1)) (zY 336 26 [some (zR (some 177)), some (zI x1), some (zI (y0 + 0)), some (zI (x3 + 1))] [] h)))) from zGo 6 336 71 _ _ _).trans ?_
      refine (gd_t (by decide) _).trans ?_
      refine gd_c Iff.rfl (fun c9 => ?_)
      refine gd_c Iff.rfl (fun c10 => ?_)
      refine (gd_t (by decide) _).trans ?_
      rfl
    · skip
      refine (show zY 336 75 [some (zR (some 177)), some (zI x1), some (zI x2), some (zI x3)] [zI y0] h = gd (inR (1)) (gd (inR (y0 + 1)) (gd (inR (x3 + 1)) (gd (inR (1)) (zY 336 26 [some (zR (some 177)), some (zI x1), some (zI (y0 + 1)), some (zI (x3 + 1))] [] h)))) from zGo 5 336 75 _ _ _).trans ?_
      refine (gd_t (by decide) _).trans ?_
      refine gd_c Iff.rfl (fun c11 => ?_)
      refine gd_c Iff.rfl (fun c12 => ?_)
      refine (gd_t (by decide) _).trans ?_
      rfl
theorem q_M_writes {h : zH} {x1 : Int} (KM : KM h) : zC 332 [zR (some 177), zI x1] h =
    gd (0 ≤ (hI h 177 17) ∧ (hI h 177 17) < 1400) (
    gd (-2147483648 ≤ (hI h 177 17) + 1 ∧ (hI h 177 17) + 1 < 2147483648) (
    some (.inl (none), (sI (sI h 186 (hI h 177 17).toNat (zi2b x1)) 177 17 ((hI h 177 17) + 1))))) := by
  refine (show zC 332 [zR (some 177), zI x1] h = gd (zob h (some 177) 12) (zY 332 4 [some (zR (some 177)), some (zI x1)] [zR (hR h 177 16)] h) from zGo 2 332 0 _ _ _).trans ?_
  refine (gd_t (⟨rfl, (PTM KM 177 _ rfl rfl), (PNM KM 177 rfl)⟩) _).trans ?_
  refine (congrArg (fun r => zY 332 4 [some (zR (some 177)), some (zI x1)] (zR r :: []) h) (PRM KM 177 16 _ rfl)).trans ?_
  refine (show zY 332 4 [some (zR (some 177)), some (zI x1)] [zR (some 186)] h = gd (zob h (some 177) 12) (gd (zokw h (some 186) 21 (hI h 177 17) ∨ zokw h (some 186) 20 (hI h 177 17)) (gd (-128 ≤ ((zi2b x1) : Int) ∧ ((zi2b x1) : Int) < 128 ∧ (hT h (zdr (some 186)) = 20 → ((zi2b x1) : Int) = 0 ∨ ((zi2b x1) : Int) = 1)) (gd (zob (sI h 186 (hI h 177 17).toNat (zi2b x1)) (some 177) 12) (gd (inR (1)) (gd (inR ((hI h 177 17) + 1)) (gd (zob (sI h 186 (hI h 177 17).toNat (zi2b x1)) (some 177) 12) (gd (([] : List zV).isEmpty = true ∧ zrk 332 = 0) (some (.inl (none), (sI (sI h 186 (hI h 177 17).toNat (zi2b x1)) 177 17 ((hI h 177 17) + 1))))))))))) from zGo 12 332 4 _ _ _).trans ?_
  refine (gd_t (⟨rfl, (PTM KM 177 _ rfl rfl), (PNM KM 177 rfl)⟩) _).trans ?_
  refine gd_c (cib21 (PTM KM 186 _ rfl rfl) (PNM KM 186 rfl) (PLM KM 186 1400 rfl rfl)) (fun c0 => ?_)
  refine (gd_t (⟨zi2b_l _, zi2b_u _, fun e => absurd (e.symm.trans (PTM KM 186 _ rfl rfl)) (by decide)⟩) _).trans ?_
  refine (gd_t (⟨rfl, (PTM KM 177 _ rfl rfl), (PNM KM 177 rfl)⟩) _).trans ?_
  refine (gd_t (by decide) _).trans ?_
  refine gd_c Iff.rfl (fun c1 => ?_)
  refine (gd_t (⟨rfl, (PTM KM 177 _ rfl rfl), (PNM KM 177 rfl)⟩) _).trans ?_
  refine (gd_t (⟨rfl, rfl⟩) _).trans ?_
  rfl
theorem q_M_writesNode {h : zH} {x1 : Int} (KM : KM h) : zC 333 [zR (some 177), zI x1] h =
    if x1 < 4 then
      gd (-2147483648 ≤ 48 + x1 ∧ 48 + x1 < 2147483648) (
      zBack zY 333 10 13 [some (zR (some 177)), some (zI x1), none, none] [] (zC 332 [zR (some 177), zI (48 + x1)] h))
    else
      gd (-2147483648 ≤ x1 - 4 ∧ x1 - 4 < 2147483648) (
      zY 333 20 [some (zR (some 177)), some (zI x1), some (zI (x1 - 4)), some (zI 0)] [] h) := by
  refine (show zC 333 [zR (some 177), zI x1] h = gd (inR (4)) (if x1 < 4 then zY 333 5 [some (zR (some 177)), some (zI x1), none, none] [] h else zY 333 14 [some (zR (some 177)), some (zI x1), none, none] [] h) from zGo 3 333 0 _ _ _).trans ?_
  refine (gd_t (by decide) _).trans ?_
  refine iteC (fun c0 => ?_) (fun c0 => ?_)
  · skip
    refine (show zY 333 5 [some (zR (some 177)), some (zI x1), none, none] [] h = gd (-128 ≤ (48 : Int) ∧ (48 : Int) < 128) (gd (inR (48 + x1)) (gd (false = zctor 332 ∧ zcs [] ≤ 8 ∧ zrm 333 (zrf 332 + 1) (8 + (zmaxl 332 + 11) + zrl 332) = true ∧ zcs [zR (some 177), zI (48 + x1)] ≤ zmaxl 332) (gd (zob h (some 177) 12) (zBack zY 333 10 13 [some (zR (some 177)), some (zI x1), none, none] [] (zC 332 [zR (some 177), zI (48 + x1)] h))))) from zGo 5 333 5 _ _ _).trans ?_
    refine (gd_t (by decide) _).trans ?_
    refine gd_c Iff.rfl (fun c1 => ?_)
    refine (gd_t (⟨rfl, Nat.le_of_ble_eq_true rfl, rfl, Nat.le_of_ble_eq_true rfl⟩) _).trans ?_
    refine (gd_t (⟨rfl, (PTM KM 177 _ rfl rfl), (PNM KM 177 rfl)⟩) _).trans ?_
    rfl
  · skip
    refine (show zY 333 14 [some (zR (some 177)), some (zI x1), none, none] [] h = gd (inR (4)) (gd (inR (x1 - 4)) (gd (inR (0)) (zY 333 20 [some (zR (some 177)), some (zI x1), some (zI (x1 - 4)), some (zI 0)] [] h))) from zGo 6 333 14 _ _ _).trans ?_
    refine (gd_t (by decide) _).trans ?_
    refine gd_c Iff.rfl (fun c2 => ?_)
    refine (gd_t (by decide) _).trans ?_
    rfl
theorem q_M_writesNode_r13 {h : zH} {x1 : Int} (KM : KM h) : zBack zY 333 10 13 [some (zR (some 177)), some (zI x1), none, none] [] (some (.inl (none), h)) =
    some (.inl (none), h) := by
  refine (show zBack zY 333 10 13 [some (zR (some 177)), some (zI x1), none, none] [] (some (.inl (none), h)) = gd (([] : List zV).isEmpty = true ∧ zrk 333 = 0) (some (.inl (none), h)) from zGo 1 333 13 _ _ _).trans ?_
  refine (gd_t (⟨rfl, rfl⟩) _).trans ?_
  rfl
theorem q_M_writesNode_20 {h : zH} {x1 : Int} {x2 : Int} {x3 : Int} (KM : KM h) : zY 333 20 [some (zR (some 177)), some (zI x1), some (zI x2), some (zI x3)] [] h =
    if x3 < 5 then
      gd (-2147483648 ≤ 5 * x2 ∧ 5 * x2 < 2147483648) (
      gd (-2147483648 ≤ (5 * x2) + x3 ∧ (5 * x2) + x3 < 2147483648) (
      gd (0 ≤ ((5 * x2) + x3) ∧ ((5 * x2) + x3) < 110) (
      if (hI h 178 ((5 * x2) + x3).toNat) = 0 then
        some (.inl (none), h)
      else
        zBack zY 333 49 52 [some (zR (some 177)), some (zI x1), some (zI x2), some (zI x3)] [] (zC 332 [zR (some 177), zI (hI h 178 ((5 * x2) + x3).toNat)] h))))
    else
      some (.inl (none), h) := by
  refine (show zY 333 20 [some (zR (some 177)), some (zI x1), some (zI x2), some (zI x3)] [] h = gd (inR (5)) (if x3 < 5 then zY 333 25 [some (zR (some 177)), some (zI x1), some (zI x2), some (zI x3)] [] h else zY 333 58 [some (zR (some 177)), some (zI x1), some (zI x2), some (zI x3)] [] h) from zGo 3 333 20 _ _ _).trans ?_
  refine (gd_t (by decide) _).trans ?_
  refine iteC (fun c0 => ?_) (fun c0 => ?_)
  · skip
    refine (show zY 333 25 [some (zR (some 177)), some (zI x1), some (zI x2), some (zI x3)] [] h = gd (zob h (some 177) 12) (zY 333 29 [some (zR (some 177)), some (zI x1), some (zI x2), some (zI x3)] [zR (hR h 177 0)] h) from zGo 2 333 25 _ _ _).trans ?_
    refine (gd_t (⟨rfl, (PTM KM 177 _ rfl rfl), (PNM KM 177 rfl)⟩) _).trans ?_
    refine (congrArg (fun r => zY 333 29 [some (zR (some 177)), some (zI x1), some (zI x2), some (zI x3)] (zR r :: []) h) (PRM KM 177 0 _ rfl)).trans ?_
    refine (show zY 333 29 [some (zR (some 177)), some (zI x1), some (zI x2), some (zI x3)] [zR (some 178)] h = gd (inR (5)) (gd (inR (5 * x2)) (gd (inR ((5 * x2) + x3)) (gd (zok h (some 178) 22 ((5 * x2) + x3)) (if (hI h 178 ((5 * x2) + x3).toNat) = 0 then zY 333 58 [some (zR (some 177)), some (zI x1), some (zI x2), some (zI x3)] [] h else zY 333 38 [some (zR (some 177)), some (zI x1), some (zI x2), some (zI x3)] [] h)))) from zGo 7 333 29 _ _ _).trans ?_
    refine (gd_t (by decide) _).trans ?_
    refine gd_c Iff.rfl (fun c1 => ?_)
    refine gd_c Iff.rfl (fun c2 => ?_)
    refine gd_c (ci (PTM KM 178 _ rfl rfl) (PLM KM 178 110 rfl rfl)) (fun c3 => ?_)
    refine iteC (fun c4 => ?_) (fun c4 => ?_)
    · skip
      refine (show zY 333 58 [some (zR (some 177)), some (zI x1), some (zI x2), some (zI x3)] [] h = gd (([] : List zV).isEmpty = true ∧ zrk 333 = 0) (some (.inl (none), h)) from zGo 1 333 58 _ _ _).trans ?_
      refine (gd_t (⟨rfl, rfl⟩) _).trans ?_
      rfl
    · skip
      refine (show zY 333 38 [some (zR (some 177)), some (zI x1), some (zI x2), some (zI x3)] [] h = gd (zob h (some 177) 12) (zY 333 43 [some (zR (some 177)), some (zI x1), some (zI x2), some (zI x3)] [zR (hR h 177 0), zR (some 177)] h) from zGo 3 333 38 _ _ _).trans ?_
      refine (gd_t (⟨rfl, (PTM KM 177 _ rfl rfl), (PNM KM 177 rfl)⟩) _).trans ?_
      refine (congrArg (fun r => zY 333 43 [some (zR (some 177)), some (zI x1), some (zI x2), some (zI x3)] (zR r :: zR (some 177) :: []) h) (PRM KM 177 0 _ rfl)).trans ?_
      refine (show zY 333 43 [some (zR (some 177)), some (zI x1), some (zI x2), some (zI x3)] [zR (some 178), zR (some 177)] h = gd (inR (5)) (gd (inR (5 * x2)) (gd (inR ((5 * x2) + x3)) (gd (zok h (some 178) 22 ((5 * x2) + x3)) (gd (false = zctor 332 ∧ zcs [] ≤ 8 ∧ zrm 333 (zrf 332 + 1) (8 + (zmaxl 332 + 11) + zrl 332) = true ∧ zcs [zR (some 177), zI (hI h 178 ((5 * x2) + x3).toNat)] ≤ zmaxl 332) (gd (zob h (some 177) 12) (zBack zY 333 49 52 [some (zR (some 177)), some (zI x1), some (zI x2), some (zI x3)] [] (zC 332 [zR (some 177), zI (hI h 178 ((5 * x2) + x3).toNat)] h))))))) from zGo 7 333 43 _ _ _).trans ?_
      refine (gd_t (by decide) _).trans ?_
      refine (gd_t ((Iff.rfl).2 (by omega)) _).trans ?_
      refine (gd_t ((Iff.rfl).2 (by omega)) _).trans ?_
      refine (gd_t ((ci (PTM KM 178 _ rfl rfl) (PLM KM 178 110 rfl rfl)).2 (by omega)) _).trans ?_
      refine (gd_t (⟨rfl, Nat.le_of_ble_eq_true rfl, rfl, Nat.le_of_ble_eq_true rfl⟩) _).trans ?_
      refine (gd_t (⟨rfl, (PTM KM 177 _ rfl rfl), (PNM KM 177 rfl)⟩) _).trans ?_
      rfl
  · skip
    refine (show zY 333 58 [some (zR (some 177)), some (zI x1), some (zI x2), some (zI x3)] [] h = gd (([] : List zV).isEmpty = true ∧ zrk 333 = 0) (some (.inl (none), h)) from zGo 1 333 58 _ _ _).trans ?_
    refine (gd_t (⟨rfl, rfl⟩) _).trans ?_
    rfl
theorem q_M_writesNode_r52 {h : zH} {x1 : Int} {x2 : Int} {x3 : Int} (KM : KM h) : zBack zY 333 49 52 [some (zR (some 177)), some (zI x1), some (zI x2), some (zI x3)] [] (some (.inl (none), h)) =
    gd (-2147483648 ≤ x3 + 1 ∧ x3 + 1 < 2147483648) (
    zY 333 20 [some (zR (some 177)), some (zI x1), some (zI x2), some (zI (x3 + 1))] [] h) := by
  refine (show zBack zY 333 49 52 [some (zR (some 177)), some (zI x1), some (zI x2), some (zI x3)] [] (some (.inl (none), h)) = gd (inR (x3 + 1)) (gd (inR (1)) (zY 333 20 [some (zR (some 177)), some (zI x1), some (zI x2), some (zI (x3 + 1))] [] h)) from zGo 2 333 52 _ _ _).trans ?_
  refine gd_c Iff.rfl (fun c0 => ?_)
  refine (gd_t (by decide) _).trans ?_
  rfl
theorem q_M_writeNeed {h : zH} {x1 : Int} (KM : KM h) (g0 : (-2147483648 ≤ (hI h 177 10) - 1 ∧ (hI h 177 10) - 1 < 2147483648) := by omega) : zC 319 [zR (some 177), zI x1] h =
    if b_M_isStatement h x1 then
      zBack zY 319 15 18 [some (zR (some 177)), some (zI x1), none] [] (zC 320 [zR (some 177)] h)
    else
      some (.inl (some (zI 0)), (sI h 177 1 1)) := by
  refine (show zC 319 [zR (some 177), zI x1] h = gd (false = zctor 277 ∧ zcs [] ≤ 8 ∧ zrm 319 (zrf 277 + 1) (8 + (zmaxl 277 + 11) + zrl 277) = true ∧ zcs [zR (some 177), zI x1] ≤ zmaxl 277) (gd (zob h (some 177) 12) (zBack zY 319 2 5 [some (zR (some 177)), some (zI x1), none] [] (zC 277 [zR (some 177), zI x1] h))) from zGo 3 319 0 _ _ _).trans ?_
  refine (gd_t (⟨rfl, Nat.le_of_ble_eq_true rfl, rfl, Nat.le_of_ble_eq_true rfl⟩) _).trans ?_
  refine (gd_t (⟨rfl, (PTM KM 177 _ rfl rfl), (PNM KM 177 rfl)⟩) _).trans ?_
  refine (congrArg (zBack zY 319 2 5 [some (zR (some 177)), some (zI x1), none] []) (e_M_isStatement KM (g0))).trans ?_
  refine (show zY 319 5 [some (zR (some 177)), some (zI x1), none] [zI (if b_M_isStatement h x1 then (1 : Int) else 0)] h = if (if b_M_isStatement h x1 then (1 : Int) else 0) = 0 then zY 319 8 [some (zR (some 177)), some (zI x1), none] [] h else zY 319 14 [some (zR (some 177)), some (zI x1), none] [] h from zGo 1 319 5 _ _ _).trans ?_
  refine iteB (fun c0 => ?_) (fun c0 => ?_)
  · skip
    refine (show zY 319 14 [some (zR (some 177)), some (zI x1), none] [] h = gd (false = zctor 320 ∧ zcs [] ≤ 8 ∧ zrm 319 (zrf 320 + 1) (8 + (zmaxl 320 + 11) + zrl 320) = true ∧ zcs [zR (some 177)] ≤ zmaxl 320) (gd (zob h (some 177) 12) (zBack zY 319 15 18 [some (zR (some 177)), some (zI x1), none] [] (zC 320 [zR (some 177)] h))) from zGo 2 319 14 _ _ _).trans ?_
    refine (gd_t (⟨rfl, Nat.le_of_ble_eq_true rfl, rfl, Nat.le_of_ble_eq_true rfl⟩) _).trans ?_
    refine (gd_t (⟨rfl, (PTM KM 177 _ rfl rfl), (PNM KM 177 rfl)⟩) _).trans ?_
    rfl
  · skip
    refine (show zY 319 8 [some (zR (some 177)), some (zI x1), none] [] h = gd (inR (1)) (gd (false = zctor 210 ∧ zcs [] ≤ 8 ∧ zrm 319 (zrf 210 + 1) (8 + (zmaxl 210 + 11) + zrl 210) = true ∧ zcs [zR (some 177), zI 1] ≤ zmaxl 210) (gd (zob h (some 177) 12) (zBack zY 319 10 13 [some (zR (some 177)), some (zI x1), none] [] (zC 210 [zR (some 177), zI 1] h)))) from zGo 3 319 8 _ _ _).trans ?_
    refine (gd_t (by decide) _).trans ?_
    refine (gd_t (⟨rfl, Nat.le_of_ble_eq_true rfl, rfl, Nat.le_of_ble_eq_true rfl⟩) _).trans ?_
    refine (gd_t (⟨rfl, (PTM KM 177 _ rfl rfl), (PNM KM 177 rfl)⟩) _).trans ?_
    refine (congrArg (zBack zY 319 10 13 [some (zR (some 177)), some (zI x1), none] []) (q_M_refuse KM)).trans ?_
    refine (show zY 319 13 [some (zR (some 177)), some (zI x1), none] [zI 0] (sI h 177 1 1) = gd (([] : List zV).isEmpty = true ∧ (zrk 319 = 1 ∨ zrk 319 = 6 ∧ ((0 : Int) = 0 ∨ (0 : Int) = 1))) (some (.inl (some (zI 0)), (sI h 177 1 1))) from zGo 1 319 13 _ _ _).trans ?_
    refine (gd_t (⟨rfl, Or.inl rfl⟩) _).trans ?_
    rfl
theorem q_M_writeNeed_r18 {h : zH} {x1 : Int} (KM : KM h) : zBack zY 319 15 18 [some (zR (some 177)), some (zI x1), none] [] (some (.inl (none), h)) =
    gd (0 ≤ x1 ∧ x1 < 24) (
    if (hI h 190 x1.toNat) = (-1) then
      some (.inl (some (zI (-1))), (sI h 177 1 0))
    else
      zY 319 41 [some (zR (some 177)), some (zI x1), some (zI 0)] [] (sI h 177 17 0)) := by
  refine (show zBack zY 319 15 18 [some (zR (some 177)), some (zI x1), none] [] (some (.inl (none), h)) = gd (zob h (some 177) 12) (zY 319 22 [some (zR (some 177)), some (zI x1), none] [zR (hR h 177 24)] h) from zGo 2 319 18 _ _ _).trans ?_
  refine (gd_t (⟨rfl, (PTM KM 177 _ rfl rfl), (PNM KM 177 rfl)⟩) _).trans ?_
  refine (congrArg (fun r => zY 319 22 [some (zR (some 177)), some (zI x1), none] (zR r :: []) h) (PRM KM 177 24 _ rfl)).trans ?_
  refine (show zY 319 22 [some (zR (some 177)), some (zI x1), none] [zR (some 190)] h = gd (zok h (some 190) 22 x1) (gd (inR (-1)) (if (hI h 190 x1.toNat) = (-1) then zY 319 28 [some (zR (some 177)), some (zI x1), none] [] h else zY 319 34 [some (zR (some 177)), some (zI x1), none] [] h)) from zGo 4 319 22 _ _ _).trans ?_
  refine gd_c (ci (PTM KM 190 _ rfl rfl) (PLM KM 190 24 rfl rfl)) (fun c0 => ?_)
  refine (gd_t (by decide) _).trans ?_
  refine iteC (fun c1 => ?_) (fun c1 => ?_)
  · skip
    refine (show zY 319 28 [some (zR (some 177)), some (zI x1), none] [] h = gd (inR (-1)) (gd (false = zctor 212 ∧ zcs [] ≤ 8 ∧ zrm 319 (zrf 212 + 1) (8 + (zmaxl 212 + 11) + zrl 212) = true ∧ zcs [zR (some 177), zI (-1)] ≤ zmaxl 212) (gd (zob h (some 177) 12) (zBack zY 319 30 33 [some (zR (some 177)), some (zI x1), none] [] (zC 212 [zR (some 177), zI (-1)] h)))) from zGo 3 319 28 _ _ _).trans ?_
    refine (gd_t (by decide) _).trans ?_
    refine (gd_t (⟨rfl, Nat.le_of_ble_eq_true rfl, rfl, Nat.le_of_ble_eq_true rfl⟩) _).trans ?_
    refine (gd_t (⟨rfl, (PTM KM 177 _ rfl rfl), (PNM KM 177 rfl)⟩) _).trans ?_
    refine (congrArg (zBack zY 319 30 33 [some (zR (some 177)), some (zI x1), none] []) (q_M_told KM)).trans ?_
    refine (show zY 319 33 [some (zR (some 177)), some (zI x1), none] [zI (-1)] (sI h 177 1 0) = gd (([] : List zV).isEmpty = true ∧ (zrk 319 = 1 ∨ zrk 319 = 6 ∧ (((-1) : Int) = 0 ∨ ((-1) : Int) = 1))) (some (.inl (some (zI (-1))), (sI h 177 1 0))) from zGo 1 319 33 _ _ _).trans ?_
    refine (gd_t (⟨rfl, Or.inl rfl⟩) _).trans ?_
    rfl
  · skip
    refine (show zY 319 34 [some (zR (some 177)), some (zI x1), none] [] h = gd (inR (0)) (gd (zob h (some 177) 12) (gd (inR (0)) (zY 319 41 [some (zR (some 177)), some (zI x1), some (zI 0)] [] (sI h 177 17 0)))) from zGo 5 319 34 _ _ _).trans ?_
    refine (gd_t (by decide) _).trans ?_
    refine (gd_t (⟨rfl, (PTM KM 177 _ rfl rfl), (PNM KM 177 rfl)⟩) _).trans ?_
    refine (gd_t (by decide) _).trans ?_
    rfl
theorem q_M_writeNeed_41 {h : zH} {x1 : Int} {x2 : Int} (KM : KM h) : zY 319 41 [some (zR (some 177)), some (zI x1), some (zI x2)] [] h =
    gd (0 ≤ x1 ∧ x1 < 24) (
    if x2 < (hI h 190 x1.toNat) then
      if 0 < x2 then
        zBack zY 319 58 61 [some (zR (some 177)), some (zI x1), some (zI x2)] [] (zC 332 [zR (some 177), zI 32] h)
      else
        gd (-2147483648 ≤ 201 * x1 ∧ 201 * x1 < 2147483648) (
        gd (-2147483648 ≤ (201 * x1) + x2 ∧ (201 * x1) + x2 < 2147483648) (
        gd (0 ≤ ((201 * x1) + x2) ∧ ((201 * x1) + x2) < 4824) (
        zBack zY 319 74 77 [some (zR (some 177)), some (zI x1), some (zI x2)] [] (zC 333 [zR (some 177), zI (hI h 189 ((201 * x1) + x2).toNat)] h))))
    else
      some (.inl (some (zI (hI h 177 17))), (sI h 177 1 0))) := by
  refine (show zY 319 41 [some (zR (some 177)), some (zI x1), some (zI x2)] [] h = gd (zob h (some 177) 12) (zY 319 46 [some (zR (some 177)), some (zI x1), some (zI x2)] [zR (hR h 177 24), zI x2] h) from zGo 3 319 41 _ _ _).trans ?_
  refine (gd_t (⟨rfl, (PTM KM 177 _ rfl rfl), (PNM KM 177 rfl)⟩) _).trans ?_
  refine (congrArg (fun r => zY 319 46 [some (zR (some 177)), some (zI x1), some (zI x2)] (zR r :: zI x2 :: []) h) (PRM KM 177 24 _ rfl)).trans ?_
  refine (show zY 319 46 [some (zR (some 177)), some (zI x1), some (zI x2)] [zR (some 190), zI x2] h = gd (zok h (some 190) 22 x1) (if x2 < (hI h 190 x1.toNat) then zY 319 51 [some (zR (some 177)), some (zI x1), some (zI x2)] [] h else zY 319 83 [some (zR (some 177)), some (zI x1), some (zI x2)] [] h) from zGo 3 319 46 _ _ _).trans ?_
  refine gd_c (ci (PTM KM 190 _ rfl rfl) (PLM KM 190 24 rfl rfl)) (fun c0 => ?_)
  refine iteC (fun c1 => ?_) (fun c1 => ?_)
  · skip
    refine (show zY 319 51 [some (zR (some 177)), some (zI x1), some (zI x2)] [] h = if 0 < x2 then zY 319 55 [some (zR (some 177)), some (zI x1), some (zI x2)] [] h else zY 319 61 [some (zR (some 177)), some (zI x1), some (zI x2)] [] h from zGo 2 319 51 _ _ _).trans ?_
    refine iteC (fun c2 => ?_) (fun c2 => ?_)
    · skip
      refine (show zY 319 55 [some (zR (some 177)), some (zI x1), some (zI x2)] [] h = gd (-128 ≤ (32 : Int) ∧ (32 : Int) < 128) (gd (false = zctor 332 ∧ zcs [] ≤ 8 ∧ zrm 319 (zrf 332 + 1) (8 + (zmaxl 332 + 11) + zrl 332) = true ∧ zcs [zR (some 177), zI 32] ≤ zmaxl 332) (gd (zob h (some 177) 12) (zBack zY 319 58 61 [some (zR (some 177)), some (zI x1), some (zI x2)] [] (zC 332 [zR (some 177), zI 32] h)))) from zGo 3 319 55 _ _ _).trans ?_
      refine (gd_t (by decide) _).trans ?_
      refine (gd_t (⟨rfl, Nat.le_of_ble_eq_true rfl, rfl, Nat.le_of_ble_eq_true rfl⟩) _).trans ?_
      refine (gd_t (⟨rfl, (PTM KM 177 _ rfl rfl), (PNM KM 177 rfl)⟩) _).trans ?_
      rfl
    · skip
      refine (show zY 319 61 [some (zR (some 177)), some (zI x1), some (zI x2)] [] h = gd (zob h (some 177) 12) (zY 319 66 [some (zR (some 177)), some (zI x1), some (zI x2)] [zR (hR h 177 23), zR (some 177)] h) from zGo 3 319 61 _ _ _).trans ?_
      refine (gd_t (⟨rfl, (PTM KM 177 _ rfl rfl), (PNM KM 177 rfl)⟩) _).trans ?_
      refine (congrArg (fun r => zY 319 66 [some (zR (some 177)), some (zI x1), some (zI x2)] (zR r :: zR (some 177) :: []) h) (PRM KM 177 23 _ rfl)).trans ?_
      refine (show zY 319 66 [some (zR (some 177)), some (zI x1), some (zI x2)] [zR (some 189), zR (some 177)] h = gd (-32768 ≤ (201 : Int) ∧ (201 : Int) < 32768) (gd (inR (201 * x1)) (gd (inR ((201 * x1) + x2)) (gd (zok h (some 189) 22 ((201 * x1) + x2)) (gd (false = zctor 333 ∧ zcs [] ≤ 8 ∧ zrm 319 (zrf 333 + 1) (8 + (zmaxl 333 + 11) + zrl 333) = true ∧ zcs [zR (some 177), zI (hI h 189 ((201 * x1) + x2).toNat)] ≤ zmaxl 333) (gd (zob h (some 177) 12) (zBack zY 319 74 77 [some (zR (some 177)), some (zI x1), some (zI x2)] [] (zC 333 [zR (some 177), zI (hI h 189 ((201 * x1) + x2).toNat)] h))))))) from zGo 7 319 66 _ _ _).trans ?_
      refine (gd_t (by decide) _).trans ?_
      refine gd_c Iff.rfl (fun c3 => ?_)
      refine gd_c Iff.rfl (fun c4 => ?_)
      refine gd_c (ci (PTM KM 189 _ rfl rfl) (PLM KM 189 4824 rfl rfl)) (fun c5 => ?_)
      refine (gd_t (⟨rfl, Nat.le_of_ble_eq_true rfl, rfl, Nat.le_of_ble_eq_true rfl⟩) _).trans ?_
      refine (gd_t (⟨rfl, (PTM KM 177 _ rfl rfl), (PNM KM 177 rfl)⟩) _).trans ?_
      rfl
  · skip
    refine (show zY 319 83 [some (zR (some 177)), some (zI x1), some (zI x2)] [] h = gd (zob h (some 177) 12) (gd (false = zctor 212 ∧ zcs [] ≤ 8 ∧ zrm 319 (zrf 212 + 1) (8 + (zmaxl 212 + 11) + zrl 212) = true ∧ zcs [zR (some 177), zI (hI h 177 17)] ≤ zmaxl 212) (gd (zob h (some 177) 12) (zBack zY 319 88 91 [some (zR (some 177)), some (zI x1), some (zI x2)] [] (zC 212 [zR (some 177), zI (hI h 177 17)] h)))) from zGo 4 319 83 _ _ _).trans ?_
    refine (gd_t (⟨rfl, (PTM KM 177 _ rfl rfl), (PNM KM 177 rfl)⟩) _).trans ?_
    refine (gd_t (⟨rfl, Nat.le_of_ble_eq_true rfl, rfl, Nat.le_of_ble_eq_true rfl⟩) _).trans ?_
    refine (gd_t (⟨rfl, (PTM KM 177 _ rfl rfl), (PNM KM 177 rfl)⟩) _).trans ?_
    refine (congrArg (zBack zY 319 88 91 [some (zR (some 177)), some (zI x1), some (zI x2)] []) (q_M_told KM)).trans ?_
    refine (show zY 319 91 [some (zR (some 177)), some (zI x1), some (zI x2)] [zI (hI h 177 17)] (sI h 177 1 0) = gd (([] : List zV).isEmpty = true ∧ (zrk 319 = 1 ∨ zrk 319 = 6 ∧ (((hI h 177 17) : Int) = 0 ∨ ((hI h 177 17) : Int) = 1))) (some (.inl (some (zI (hI h 177 17))), (sI h 177 1 0))) from zGo 1 319 91 _ _ _).trans ?_
    refine (gd_t (⟨rfl, Or.inl rfl⟩) _).trans ?_
    rfl
theorem q_M_writeNeed_r61 {h : zH} {x1 : Int} {x2 : Int} (KM : KM h) : zBack zY 319 58 61 [some (zR (some 177)), some (zI x1), some (zI x2)] [] (some (.inl (none), h)) =
    gd (-2147483648 ≤ 201 * x1 ∧ 201 * x1 < 2147483648) (
    gd (-2147483648 ≤ (201 * x1) + x2 ∧ (201 * x1) + x2 < 2147483648) (
    gd (0 ≤ ((201 * x1) + x2) ∧ ((201 * x1) + x2) < 4824) (
    zBack zY 319 74 77 [some (zR (some 177)), some (zI x1), some (zI x2)] [] (zC 333 [zR (some 177), zI (hI h 189 ((201 * x1) + x2).toNat)] h)))) := by
  refine (show zBack zY 319 58 61 [some (zR (some 177)), some (zI x1), some (zI x2)] [] (some (.inl (none), h)) = gd (zob h (some 177) 12) (zY 319 66 [some (zR (some 177)), some (zI x1), some (zI x2)] [zR (hR h 177 23), zR (some 177)] h) from zGo 3 319 61 _ _ _).trans ?_
  refine (gd_t (⟨rfl, (PTM KM 177 _ rfl rfl), (PNM KM 177 rfl)⟩) _).trans ?_
  refine (congrArg (fun r => zY 319 66 [some (zR (some 177)), some (zI x1), some (zI x2)] (zR r :: zR (some 177) :: []) h) (PRM KM 177 23 _ rfl)).trans ?_
  refine (show zY 319 66 [some (zR (some 177)), some (zI x1), some (zI x2)] [zR (some 189), zR (some 177)] h = gd (-32768 ≤ (201 : Int) ∧ (201 : Int) < 32768) (gd (inR (201 * x1)) (gd (inR ((201 * x1) + x2)) (gd (zok h (some 189) 22 ((201 * x1) + x2)) (gd (false = zctor 333 ∧ zcs [] ≤ 8 ∧ zrm 319 (zrf 333 + 1) (8 + (zmaxl 333 + 11) + zrl 333) = true ∧ zcs [zR (some 177), zI (hI h 189 ((201 * x1) + x2).toNat)] ≤ zmaxl 333) (gd (zob h (some 177) 12) (zBack zY 319 74 77 [some (zR (some 177)), some (zI x1), some (zI x2)] [] (zC 333 [zR (some 177), zI (hI h 189 ((201 * x1) + x2).toNat)] h))))))) from zGo 7 319 66 _ _ _).trans ?_
  refine (gd_t (by decide) _).trans ?_
  refine gd_c Iff.rfl (fun c0 => ?_)
  refine gd_c Iff.rfl (fun c1 => ?_)
  refine gd_c (ci (PTM KM 189 _ rfl rfl) (PLM KM 189 4824 rfl rfl)) (fun c2 => ?_)
  refine (gd_t (⟨rfl, Nat.le_of_ble_eq_true rfl, rfl, Nat.le_of_ble_eq_true rfl⟩) _).trans ?_
  refine (gd_t (⟨rfl, (PTM KM 177 _ rfl rfl), (PNM KM 177 rfl)⟩) _).trans ?_
  rfl
theorem q_M_writeNeed_r77 {h : zH} {x1 : Int} {x2 : Int} (KM : KM h) : zBack zY 319 74 77 [some (zR (some 177)), some (zI x1), some (zI x2)] [] (some (.inl (none), h)) =
    gd (-2147483648 ≤ x2 + 1 ∧ x2 + 1 < 2147483648) (
    zY 319 41 [some (zR (some 177)), some (zI x1), some (zI (x2 + 1))] [] h) := by
  refine (show zBack zY 319 74 77 [some (zR (some 177)), some (zI x1), some (zI x2)] [] (some (.inl (none), h)) = gd (inR (x2 + 1)) (gd (inR (1)) (zY 319 41 [some (zR (some 177)), some (zI x1), some (zI (x2 + 1))] [] h)) from zGo 2 319 77 _ _ _).trans ?_
  refine gd_c Iff.rfl (fun c0 => ?_)
  refine (gd_t (by decide) _).trans ?_
  rfl
theorem q_M_outputByte {h : zH} {x1 : Int} (KM : KM h) : zC 334 [zR (some 177), zI x1] h =
    gd (-2147483648 ≤ (hI h 177 17) - 1 ∧ (hI h 177 17) - 1 < 2147483648) (
    if b_M_in x1 0 ((hI h 177 17) - 1) then
      gd (0 ≤ x1 ∧ x1 < 1400) (
      some (.inl (some (zI (hI h 186 x1.toNat))), (sI h 177 1 0)))
    else
      some (.inl (some (zI 0)), (sI h 177 1 1))) := by
  refine (show zC 334 [zR (some 177), zI x1] h = gd (inR (0)) (gd (zob h (some 177) 12) (gd (inR (1)) (gd (inR ((hI h 177 17) - 1)) (gd (false = zctor 214 ∧ zcs [] ≤ 8 ∧ zrm 334 (zrf 214 + 1) (8 + (zmaxl 214 + 11) + zrl 214) = true ∧ zcs [zI x1, zI 0, zI ((hI h 177 17) - 1)] ≤ zmaxl 214) (zBack zY 334 8 11 [some (zR (some 177)), some (zI x1)] [] (zC 214 [zI x1, zI 0, zI ((hI h 177 17) - 1)] h)))))) from zGo 7 334 0 _ _ _).trans ?_
  refine (gd_t (by decide) _).trans ?_
  refine (gd_t (⟨rfl, (PTM KM 177 _ rfl rfl), (PNM KM 177 rfl)⟩) _).trans ?_
  refine (gd_t (by decide) _).trans ?_
  refine gd_c Iff.rfl (fun c0 => ?_)
  refine (gd_t (⟨rfl, Nat.le_of_ble_eq_true rfl, rfl, Nat.le_of_ble_eq_true rfl⟩) _).trans ?_
  refine (congrArg (zBack zY 334 8 11 [some (zR (some 177)), some (zI x1)] []) (e_M_in)).trans ?_
  refine (show zY 334 11 [some (zR (some 177)), some (zI x1)] [zI (if b_M_in x1 0 ((hI h 177 17) - 1) then (1 : Int) else 0)] h = if (if b_M_in x1 0 ((hI h 177 17) - 1) then (1 : Int) else 0) = 0 then zY 334 14 [some (zR (some 177)), some (zI x1)] [] h else zY 334 20 [some (zR (some 177)), some (zI x1)] [] h from zGo 1 334 11 _ _ _).trans ?_
  refine iteB (fun c1 => ?_) (fun c1 => ?_)
  · skip
    refine (show zY 334 20 [some (zR (some 177)), some (zI x1)] [] h = gd (zob h (some 177) 12) (zY 334 25 [some (zR (some 177)), some (zI x1)] [zR (hR h 177 16), zR (some 177)] h) from zGo 3 334 20 _ _ _).trans ?_
    refine (gd_t (⟨rfl, (PTM KM 177 _ rfl rfl), (PNM KM 177 rfl)⟩) _).trans ?_
    refine (congrArg (fun r => zY 334 25 [some (zR (some 177)), some (zI x1)] (zR r :: zR (some 177) :: []) h) (PRM KM 177 16 _ rfl)).trans ?_
    refine (show zY 334 25 [some (zR (some 177)), some (zI x1)] [zR (some 186), zR (some 177)] h = gd (zokw h (some 186) 21 x1 ∨ zokw h (some 186) 20 x1) (gd (false = zctor 212 ∧ zcs [] ≤ 8 ∧ zrm 334 (zrf 212 + 1) (8 + (zmaxl 212 + 11) + zrl 212) = true ∧ zcs [zR (some 177), zI (hI h 186 x1.toNat)] ≤ zmaxl 212) (gd (zob h (some 177) 12) (zBack zY 334 27 30 [some (zR (some 177)), some (zI x1)] [] (zC 212 [zR (some 177), zI (hI h 186 x1.toNat)] h)))) from zGo 3 334 25 _ _ _).trans ?_
    refine gd_c (cib21 (PTM KM 186 _ rfl rfl) (PNM KM 186 rfl) (PLM KM 186 1400 rfl rfl)) (fun c2 => ?_)
    refine (gd_t (⟨rfl, Nat.le_of_ble_eq_true rfl, rfl, Nat.le_of_ble_eq_true rfl⟩) _).trans ?_
    refine (gd_t (⟨rfl, (PTM KM 177 _ rfl rfl), (PNM KM 177 rfl)⟩) _).trans ?_
    refine (congrArg (zBack zY 334 27 30 [some (zR (some 177)), some (zI x1)] []) (q_M_told KM)).trans ?_
    refine (show zY 334 30 [some (zR (some 177)), some (zI x1)] [zI (hI h 186 x1.toNat)] (sI h 177 1 0) = gd (([] : List zV).isEmpty = true ∧ (zrk 334 = 1 ∨ zrk 334 = 6 ∧ (((hI h 186 x1.toNat) : Int) = 0 ∨ ((hI h 186 x1.toNat) : Int) = 1))) (some (.inl (some (zI (hI h 186 x1.toNat))), (sI h 177 1 0))) from zGo 1 334 30 _ _ _).trans ?_
    refine (gd_t (⟨rfl, Or.inl rfl⟩) _).trans ?_
    rfl
  · skip
    refine (show zY 334 14 [some (zR (some 177)), some (zI x1)] [] h = gd (inR (1)) (gd (false = zctor 210 ∧ zcs [] ≤ 8 ∧ zrm 334 (zrf 210 + 1) (8 + (zmaxl 210 + 11) + zrl 210) = true ∧ zcs [zR (some 177), zI 1] ≤ zmaxl 210) (gd (zob h (some 177) 12) (zBack zY 334 16 19 [some (zR (some 177)), some (zI x1)] [] (zC 210 [zR (some 177), zI 1] h)))) from zGo 3 334 14 _ _ _).trans ?_
    refine (gd_t (by decide) _).trans ?_
    refine (gd_t (⟨rfl, Nat.le_of_ble_eq_true rfl, rfl, Nat.le_of_ble_eq_true rfl⟩) _).trans ?_
    refine (gd_t (⟨rfl, (PTM KM 177 _ rfl rfl), (PNM KM 177 rfl)⟩) _).trans ?_
    refine (congrArg (zBack zY 334 16 19 [some (zR (some 177)), some (zI x1)] []) (q_M_refuse KM)).trans ?_
    refine (show zY 334 19 [some (zR (some 177)), some (zI x1)] [zI 0] (sI h 177 1 1) = gd (([] : List zV).isEmpty = true ∧ (zrk 334 = 1 ∨ zrk 334 = 6 ∧ ((0 : Int) = 0 ∨ (0 : Int) = 1))) (some (.inl (some (zI 0)), (sI h 177 1 1))) from zGo 1 334 19 _ _ _).trans ?_
    refine (gd_t (⟨rfl, Or.inl rfl⟩) _).trans ?_
    rfl
