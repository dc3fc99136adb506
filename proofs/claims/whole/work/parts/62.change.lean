/-! The reference: changes, and the reading of texts. -/
theorem q_M_remembers {h : zH} (KM : KM h) : zC 341 [zR (some 177)] h =
    if (hI h 177 5) = 10 then
      zY 341 13 [some (zR (some 177)), some (zI 2342)] [] h
    else
      zY 341 54 [some (zR (some 177)), some (zI 0)] [] h := by
  refine (show zC 341 [zR (some 177)] h = gd (zob h (some 177) 12) (gd (-128 ≤ (10 : Int) ∧ (10 : Int) < 128) (if (hI h 177 5) = 10 then zY 341 9 [some (zR (some 177)), none] [] h else zY 341 52 [some (zR (some 177)), none] [] h)) from zGo 4 341 0 _ _ _).trans ?_
  refine (gd_t (⟨rfl, (PTM KM 177 _ rfl rfl), (PNM KM 177 rfl)⟩) _).trans ?_
  refine (gd_t (by decide) _).trans ?_
  refine iteC (fun c0 => ?_) (fun c0 => ?_)
  · skip
    refine (show zY 341 9 [some (zR (some 177)), none] [] h = gd (-32768 ≤ (2342 : Int) ∧ (2342 : Int) < 32768) (zY 341 13 [some (zR (some 177)), some (zI 2342)] [] h) from zGo 2 341 9 _ _ _).trans ?_
    refine (gd_t (by decide) _).trans ?_
    rfl
  · skip
    refine (show zY 341 52 [some (zR (some 177)), none] [] h = gd (inR (0)) (zY 341 54 [some (zR (some 177)), some (zI 0)] [] h) from zGo 2 341 52 _ _ _).trans ?_
    refine (gd_t (by decide) _).trans ?_
    rfl
theorem q_M_remembers_13 {h : zH} {x1 : Int} (KM : KM h) : zY 341 13 [some (zR (some 177)), some (zI x1)] [] h =
    if x1 < 23420 then
      gd (-2147483648 ≤ x1 - 2342 ∧ x1 - 2342 < 2147483648) (
      gd (0 ≤ x1 ∧ x1 < 23420) (
      gd (0 ≤ (x1 - 2342) ∧ (x1 - 2342) < 23420) (
      gd (-2147483648 ≤ x1 + 1 ∧ x1 + 1 < 2147483648) (
      zY 341 13 [some (zR (some 177)), some (zI (x1 + 1))] [] (sI h 181 (x1 - 2342).toNat (hI h 181 x1.toNat))))))
    else
      gd (-2147483648 ≤ (hI h 177 5) - 1 ∧ (hI h 177 5) - 1 < 2147483648) (
      zY 341 54 [some (zR (some 177)), some (zI 0)] [] (sI h 177 5 ((hI h 177 5) - 1))) := by
  refine (show zY 341 13 [some (zR (some 177)), some (zI x1)] [] h = gd (-32768 ≤ (23420 : Int) ∧ (23420 : Int) < 32768) (if x1 < 23420 then zY 341 20 [some (zR (some 177)), some (zI x1)] [] h else zY 341 42 [some (zR (some 177)), some (zI x1)] [] h) from zGo 3 341 13 _ _ _).trans ?_
  refine (gd_t (by decide) _).trans ?_
  refine iteC (fun c0 => ?_) (fun c0 => ?_)
  · skip
    refine (show zY 341 20 [some (zR (some 177)), some (zI x1)] [] h = gd (zob h (some 177) 12) (zY 341 24 [some (zR (some 177)), some (zI x1)] [zR (hR h 177 4)] h) from zGo 2 341 20 _ _ _).trans ?_
    refine (gd_t (⟨rfl, (PTM KM 177 _ rfl rfl), (PNM KM 177 rfl)⟩) _).trans ?_
    refine (congrArg (fun r => zY 341 24 [some (zR (some 177)), some (zI x1)] (zR r :: []) h) (PRM KM 177 4 _ rfl)).trans ?_
    refine (show zY 341 24 [some (zR (some 177)), some (zI x1)] [zR (some 181)] h = gd (-32768 ≤ (2342 : Int) ∧ (2342 : Int) < 32768) (gd (inR (x1 - 2342)) (gd (zob h (some 177) 12) (zY 341 33 [some (zR (some 177)), some (zI x1)] [zR (hR h 177 4), zI (x1 - 2342), zR (some 181)] h))) from zGo 5 341 24 _ _ _).trans ?_
    refine (gd_t (by decide) _).trans ?_
    refine gd_c Iff.rfl (fun c1 => ?_)
    refine (gd_t (⟨rfl, (PTM KM 177 _ rfl rfl), (PNM KM 177 rfl)⟩) _).trans ?_
    refine (congrArg (fun r => zY 341 33 [some (zR (some 177)), some (zI x1)] (zR r :: zI (x1 - 2342) :: zR (some 181) :: []) h) (PRM KM 177 4 _ rfl)).trans ?_
    refine (show zY 341 33 [some (zR (some 177)), some (zI x1)] [zR (some 181), zI (x1 - 2342), zR (some 181)] h = gd (zok h (some 181) 22 x1) (gd (zokw h (some 181) 22 (x1 - 2342)) (gd (inR (x1 + 1)) (gd (inR (1)) (zY 341 13 [some (zR (some 177)), some (zI (x1 + 1))] [] (sI h 181 (x1 - 2342).toNat (hI h 181 x1.toNat)))))) from zGo 5 341 33 _ _ _).trans ?_
    refine gd_c (ci (PTM KM 181 _ rfl rfl) (PLM KM 181 23420 rfl rfl)) (fun c2 => ?_)
    refine gd_c (ciw (PTM KM 181 _ rfl rfl) (PNM KM 181 rfl) (PLM KM 181 23420 rfl rfl)) (fun c3 => ?_)
    refine gd_c Iff.rfl (fun c4 => ?_)
    refine (gd_t (by decide) _).trans ?_
    rfl
  · skip
    refine (show zY 341 42 [some (zR (some 177)), some (zI x1)] [] h = gd (zob h (some 177) 12) (gd (inR (1)) (gd (inR ((hI h 177 5) - 1)) (gd (zob h (some 177) 12) (gd (inR (0)) (zY 341 54 [some (zR (some 177)), some (zI 0)] [] (sI h 177 5 ((hI h 177 5) - 1))))))) from zGo 8 341 42 _ _ _).trans ?_
    refine (gd_t (⟨rfl, (PTM KM 177 _ rfl rfl), (PNM KM 177 rfl)⟩) _).trans ?_
    refine (gd_t (by decide) _).trans ?_
    refine gd_c Iff.rfl (fun c5 => ?_)
    refine (gd_t (⟨rfl, (PTM KM 177 _ rfl rfl), (PNM KM 177 rfl)⟩) _).trans ?_
    refine (gd_t (by decide) _).trans ?_
    rfl
theorem q_M_remembers_54 {h : zH} {x1 : Int} (KM : KM h) : zY 341 54 [some (zR (some 177)), some (zI x1)] [] h =
    if x1 < 2342 then
      gd (-2147483648 ≤ (hI h 177 5) * 2342 ∧ (hI h 177 5) * 2342 < 2147483648) (
      gd (-2147483648 ≤ ((hI h 177 5) * 2342) + x1 ∧ ((hI h 177 5) * 2342) + x1 < 2147483648) (
      gd (0 ≤ x1 ∧ x1 < 2342) (
      gd (0 ≤ (((hI h 177 5) * 2342) + x1) ∧ (((hI h 177 5) * 2342) + x1) < 23420) (
      gd (-2147483648 ≤ x1 + 1 ∧ x1 + 1 < 2147483648) (
      zY 341 54 [some (zR (some 177)), some (zI (x1 + 1))] [] (sI h 181 (((hI h 177 5) * 2342) + x1).toNat (hI h 179 x1.toNat)))))))
    else
      gd (-2147483648 ≤ (hI h 177 5) + 1 ∧ (hI h 177 5) + 1 < 2147483648) (
      some (.inl (none), (sI h 177 5 ((hI h 177 5) + 1)))) := by
  refine (show zY 341 54 [some (zR (some 177)), some (zI x1)] [] h = gd (-32768 ≤ (2342 : Int) ∧ (2342 : Int) < 32768) (if x1 < 2342 then zY 341 61 [some (zR (some 177)), some (zI x1)] [] h else zY 341 88 [some (zR (some 177)), some (zI x1)] [] h) from zGo 3 341 54 _ _ _).trans ?_
  refine (gd_t (by decide) _).trans ?_
  refine iteC (fun c0 => ?_) (fun c0 => ?_)
  · skip
    refine (show zY 341 61 [some (zR (some 177)), some (zI x1)] [] h = gd (zob h (some 177) 12) (zY 341 65 [some (zR (some 177)), some (zI x1)] [zR (hR h 177 4)] h) from zGo 2 341 61 _ _ _).trans ?_
    refine (gd_t (⟨rfl, (PTM KM 177 _ rfl rfl), (PNM KM 177 rfl)⟩) _).trans ?_
    refine (congrArg (fun r => zY 341 65 [some (zR (some 177)), some (zI x1)] (zR r :: []) h) (PRM KM 177 4 _ rfl)).trans ?_
    refine (show zY 341 65 [some (zR (some 177)), some (zI x1)] [zR (some 181)] h = gd (zob h (some 177) 12) (gd (-32768 ≤ (2342 : Int) ∧ (2342 : Int) < 32768) (gd (inR ((hI h 177 5) * 2342)) (gd (inR (((hI h 177 5) * 2342) + x1)) (gd (zob h (some 177) 12) (zY 341 79 [some (zR (some 177)), some (zI x1)] [zR (hR h 177 2), zI (((hI h 177 5) * 2342) + x1), zR (some 181)] h))))) from zGo 8 341 65 _ _ _).trans ?_
    refine (gd_t (⟨rfl, (PTM KM 177 _ rfl rfl), (PNM KM 177 rfl)⟩) _).trans ?_
    refine (gd_t (by decide) _).trans ?_
    refine gd_c Iff.rfl (fun c1 => ?_)
    refine gd_c Iff.rfl (fun c2 => ?_)
    refine (gd_t (⟨rfl, (PTM KM 177 _ rfl rfl), (PNM KM 177 rfl)⟩) _).trans ?_
    refine (congrArg (fun r => zY 341 79 [some (zR (some 177)), some (zI x1)] (zR r :: zI (((hI h 177 5) * 2342) + x1) :: zR (some 181) :: []) h) (PRM KM 177 2 _ rfl)).trans ?_
    refine (show zY 341 79 [some (zR (some 177)), some (zI x1)] [zR (some 179), zI (((hI h 177 5) * 2342) + x1), zR (some 181)] h = gd (zok h (some 179) 22 x1) (gd (zokw h (some 181) 22 (((hI h 177 5) * 2342) + x1)) (gd (inR (x1 + 1)) (gd (inR (1)) (zY 341 54 [some (zR (some 177)), some (zI (x1 + 1))] [] (sI h 181 (((hI h 177 5) * 2342) + x1).toNat (hI h 179 x1.toNat)))))) from zGo 5 341 79 _ _ _).trans ?_
    refine gd_c (ci (PTM KM 179 _ rfl rfl) (PLM KM 179 2342 rfl rfl)) (fun c3 => ?_)
    refine gd_c (ciw (PTM KM 181 _ rfl rfl) (PNM KM 181 rfl) (PLM KM 181 23420 rfl rfl)) (fun c4 => ?_)
    refine gd_c Iff.rfl (fun c5 => ?_)
    refine (gd_t (by decide) _).trans ?_
    rfl
  · skip
    refine (show zY 341 88 [some (zR (some 177)), some (zI x1)] [] h = gd (zob h (some 177) 12) (gd (inR (1)) (gd (inR ((hI h 177 5) + 1)) (gd (zob h (some 177) 12) (gd (([] : List zV).isEmpty = true ∧ zrk 341 = 0) (some (.inl (none), (sI h 177 5 ((hI h 177 5) + 1)))))))) from zGo 7 341 88 _ _ _).trans ?_
    refine (gd_t (⟨rfl, (PTM KM 177 _ rfl rfl), (PNM KM 177 rfl)⟩) _).trans ?_
    refine (gd_t (by decide) _).trans ?_
    refine gd_c Iff.rfl (fun c6 => ?_)
    refine (gd_t (⟨rfl, (PTM KM 177 _ rfl rfl), (PNM KM 177 rfl)⟩) _).trans ?_
    refine (gd_t (⟨rfl, rfl⟩) _).trans ?_
    rfl
theorem q_M_putsAside {h : zH} (KM : KM h) : zC 215 [zR (some 177)] h =
    zY 215 2 [some (zR (some 177)), some (zI 0)] [] h := by
  refine (show zC 215 [zR (some 177)] h = gd (inR (0)) (zY 215 2 [some (zR (some 177)), some (zI 0)] [] h) from zGo 2 215 0 _ _ _).trans ?_
  refine (gd_t (by decide) _).trans ?_
  rfl
theorem q_M_putsAside_2 {h : zH} {x1 : Int} (KM : KM h) : zY 215 2 [some (zR (some 177)), some (zI x1)] [] h =
    if x1 < 2342 then
      gd (0 ≤ x1 ∧ x1 < 2342) (
      gd (-2147483648 ≤ x1 + 1 ∧ x1 + 1 < 2147483648) (
      zY 215 2 [some (zR (some 177)), some (zI (x1 + 1))] [] (sI h 180 x1.toNat (hI h 179 x1.toNat))))
    else
      zY 215 29 [some (zR (some 177)), some (zI 0)] [] h := by
  refine (show zY 215 2 [some (zR (some 177)), some (zI x1)] [] h = gd (-32768 ≤ (2342 : Int) ∧ (2342 : Int) < 32768) (if x1 < 2342 then zY 215 9 [some (zR (some 177)), some (zI x1)] [] h else zY 215 27 [some (zR (some 177)), some (zI x1)] [] h) from zGo 3 215 2 _ _ _).trans ?_
  refine (gd_t (by decide) _).trans ?_
  refine iteC (fun c0 => ?_) (fun c0 => ?_)
  · skip
    refine (show zY 215 9 [some (zR (some 177)), some (zI x1)] [] h = gd (zob h (some 177) 12) (zY 215 13 [some (zR (some 177)), some (zI x1)] [zR (hR h 177 3)] h) from zGo 2 215 9 _ _ _).trans ?_
    refine (gd_t (⟨rfl, (PTM KM 177 _ rfl rfl), (PNM KM 177 rfl)⟩) _).trans ?_
    refine (congrArg (fun r => zY 215 13 [some (zR (some 177)), some (zI x1)] (zR r :: []) h) (PRM KM 177 3 _ rfl)).trans ?_
    refine (show zY 215 13 [some (zR (some 177)), some (zI x1)] [zR (some 180)] h = gd (zob h (some 177) 12) (zY 215 18 [some (zR (some 177)), some (zI x1)] [zR (hR h 177 2), zI x1, zR (some 180)] h) from zGo 3 215 13 _ _ _).trans ?_
    refine (gd_t (⟨rfl, (PTM KM 177 _ rfl rfl), (PNM KM 177 rfl)⟩) _).trans ?_
    refine (congrArg (fun r => zY 215 18 [some (zR (some 177)), some (zI x1)] (zR r :: zI x1 :: zR (some 180) :: []) h) (PRM KM 177 2 _ rfl)).trans ?_
    refine (show zY 215 18 [some (zR (some 177)), some (zI x1)] [zR (some 179), zI x1, zR (some 180)] h = gd (zok h (some 179) 22 x1) (gd (zokw h (some 180) 22 x1) (gd (inR (x1 + 1)) (gd (inR (1)) (zY 215 2 [some (zR (some 177)), some (zI (x1 + 1))] [] (sI h 180 x1.toNat (hI h 179 x1.toNat)))))) from zGo 5 215 18 _ _ _).trans ?_
    refine gd_c (ci (PTM KM 179 _ rfl rfl) (PLM KM 179 2342 rfl rfl)) (fun c1 => ?_)
    refine (gd_t ((ciw (PTM KM 180 _ rfl rfl) (PNM KM 180 rfl) (PLM KM 180 2342 rfl rfl)).2 (by omega)) _).trans ?_
    refine gd_c Iff.rfl (fun c2 => ?_)
    refine (gd_t (by decide) _).trans ?_
    rfl
  · skip
    refine (show zY 215 27 [some (zR (some 177)), some (zI x1)] [] h = gd (inR (0)) (zY 215 29 [some (zR (some 177)), some (zI 0)] [] h) from zGo 2 215 27 _ _ _).trans ?_
    refine (gd_t (by decide) _).trans ?_
    rfl
theorem q_M_putsAside_29 {h : zH} {x1 : Int} (KM : KM h) : zY 215 29 [some (zR (some 177)), some (zI x1)] [] h =
    if x1 < 240 then
      gd (0 ≤ x1 ∧ x1 < 240) (
      gd (-2147483648 ≤ x1 + 1 ∧ x1 + 1 < 2147483648) (
      zY 215 29 [some (zR (some 177)), some (zI (x1 + 1))] [] (sI h 184 x1.toNat (hI h 183 x1.toNat))))
    else
      some (.inl (none), (sI (sI h 177 11 (hI h 177 10)) 177 13 (hI h 177 12))) := by
  refine (show zY 215 29 [some (zR (some 177)), some (zI x1)] [] h = gd (-32768 ≤ (240 : Int) ∧ (240 : Int) < 32768) (if x1 < 240 then zY 215 36 [some (zR (some 177)), some (zI x1)] [] h else zY 215 54 [some (zR (some 177)), some (zI x1)] [] h) from zGo 3 215 29 _ _ _).trans ?_
  refine (gd_t (by decide) _).trans ?_
  refine iteC (fun c0 => ?_) (fun c0 => ?_)
  · skip
    refine (show zY 215 36 [some (zR (some 177)), some (zI x1)] [] h = gd (zob h (some 177) 12) (zY 215 40 [some (zR (some 177)), some (zI x1)] [zR (hR h 177 9)] h) from zGo 2 215 36 _ _ _).trans ?_
    refine (gd_t (⟨rfl, (PTM KM 177 _ rfl rfl), (PNM KM 177 rfl)⟩) _).trans ?_
    refine (congrArg (fun r => zY 215 40 [some (zR (some 177)), some (zI x1)] (zR r :: []) h) (PRM KM 177 9 _ rfl)).trans ?_
    refine (show zY 215 40 [some (zR (some 177)), some (zI x1)] [zR (some 184)] h = gd (zob h (some 177) 12) (zY 215 45 [some (zR (some 177)), some (zI x1)] [zR (hR h 177 8), zI x1, zR (some 184)] h) from zGo 3 215 40 _ _ _).trans ?_
    refine (gd_t (⟨rfl, (PTM KM 177 _ rfl rfl), (PNM KM 177 rfl)⟩) _).trans ?_
    refine (congrArg (fun r => zY 215 45 [some (zR (some 177)), some (zI x1)] (zR r :: zI x1 :: zR (some 184) :: []) h) (PRM KM 177 8 _ rfl)).trans ?_
    refine (show zY 215 45 [some (zR (some 177)), some (zI x1)] [zR (some 183), zI x1, zR (some 184)] h = gd (zok h (some 183) 22 x1) (gd (zokw h (some 184) 22 x1) (gd (inR (x1 + 1)) (gd (inR (1)) (zY 215 29 [some (zR (some 177)), some (zI (x1 + 1))] [] (sI h 184 x1.toNat (hI h 183 x1.toNat)))))) from zGo 5 215 45 _ _ _).trans ?_
    refine gd_c (ci (PTM KM 183 _ rfl rfl) (PLM KM 183 240 rfl rfl)) (fun c1 => ?_)
    refine (gd_t ((ciw (PTM KM 184 _ rfl rfl) (PNM KM 184 rfl) (PLM KM 184 240 rfl rfl)).2 (by omega)) _).trans ?_
    refine gd_c Iff.rfl (fun c2 => ?_)
    refine (gd_t (by decide) _).trans ?_
    rfl
  · skip
    refine (show zY 215 54 [some (zR (some 177)), some (zI x1)] [] h = gd (zob h (some 177) 12) (gd (zob h (some 177) 12) (gd (zob (sI h 177 11 (hI h 177 10)) (some 177) 12) (gd (zob (sI h 177 11 (hI h 177 10)) (some 177) 12) (gd (([] : List zV).isEmpty = true ∧ zrk 215 = 0) (some (.inl (none), (sI (sI h 177 11 (hI h 177 10)) 177 13 (hI h 177 12)))))))) from zGo 9 215 54 _ _ _).trans ?_
    refine (gd_t (⟨rfl, (PTM KM 177 _ rfl rfl), (PNM KM 177 rfl)⟩) _).trans ?_
    refine (gd_t (⟨rfl, (PTM KM 177 _ rfl rfl), (PNM KM 177 rfl)⟩) _).trans ?_
    refine (gd_t (⟨rfl, (PTM KM 177 _ rfl rfl), (PNM KM 177 rfl)⟩) _).trans ?_
    refine (gd_t (⟨rfl, (PTM KM 177 _ rfl rfl), (PNM KM 177 rfl)⟩) _).trans ?_
    refine (gd_t (⟨rfl, rfl⟩) _).trans ?_
    rfl
theorem q_M_putsBack {h : zH} (KM : KM h) : zC 238 [zR (some 177)] h =
    zY 238 2 [some (zR (some 177)), some (zI 0)] [] h := by
  refine (show zC 238 [zR (some 177)] h = gd (inR (0)) (zY 238 2 [some (zR (some 177)), some (zI 0)] [] h) from zGo 2 238 0 _ _ _).trans ?_
  refine (gd_t (by decide) _).trans ?_
  rfl
theorem q_M_putsBack_2 {h : zH} {x1 : Int} (KM : KM h) : zY 238 2 [some (zR (some 177)), some (zI x1)] [] h =
    if x1 < 2342 then
      gd (0 ≤ x1 ∧ x1 < 2342) (
      gd (-2147483648 ≤ x1 + 1 ∧ x1 + 1 < 2147483648) (
      zY 238 2 [some (zR (some 177)), some (zI (x1 + 1))] [] (sI h 179 x1.toNat (hI h 180 x1.toNat))))
    else
      zY 238 29 [some (zR (some 177)), some (zI 0)] [] h := by
  refine (show zY 238 2 [some (zR (some 177)), some (zI x1)] [] h = gd (-32768 ≤ (2342 : Int) ∧ (2342 : Int) < 32768) (if x1 < 2342 then zY 238 9 [some (zR (some 177)), some (zI x1)] [] h else zY 238 27 [some (zR (some 177)), some (zI x1)] [] h) from zGo 3 238 2 _ _ _).trans ?_
  refine (gd_t (by decide) _).trans ?_
  refine iteC (fun c0 => ?_) (fun c0 => ?_)
  · skip
    refine (show zY 238 9 [some (zR (some 177)), some (zI x1)] [] h = gd (zob h (some 177) 12) (zY 238 13 [some (zR (some 177)), some (zI x1)] [zR (hR h 177 2)] h) from zGo 2 238 9 _ _ _).trans ?_
    refine (gd_t (⟨rfl, (PTM KM 177 _ rfl rfl), (PNM KM 177 rfl)⟩) _).trans ?_
    refine (congrArg (fun r => zY 238 13 [some (zR (some 177)), some (zI x1)] (zR r :: []) h) (PRM KM 177 2 _ rfl)).trans ?_
    refine (show zY 238 13 [some (zR (some 177)), some (zI x1)] [zR (some 179)] h = gd (zob h (some 177) 12) (zY 238 18 [some (zR (some 177)), some (zI x1)] [zR (hR h 177 3), zI x1, zR (some 179)] h) from zGo 3 238 13 _ _ _).trans ?_
    refine (gd_t (⟨rfl, (PTM KM 177 _ rfl rfl), (PNM KM 177 rfl)⟩) _).trans ?_
    refine (congrArg (fun r => zY 238 18 [some (zR (some 177)), some (zI x1)] (zR r :: zI x1 :: zR (some 179) :: []) h) (PRM KM 177 3 _ rfl)).trans ?_
    refine (show zY 238 18 [some (zR (some 177)), some (zI x1)] [zR (some 180), zI x1, zR (some 179)] h = gd (zok h (some 180) 22 x1) (gd (zokw h (some 179) 22 x1) (gd (inR (x1 + 1)) (gd (inR (1)) (zY 238 2 [some (zR (some 177)), some (zI (x1 + 1))] [] (sI h 179 x1.toNat (hI h 180 x1.toNat)))))) from zGo 5 238 18 _ _ _).trans ?_
    refine gd_c (ci (PTM KM 180 _ rfl rfl) (PLM KM 180 2342 rfl rfl)) (fun c1 => ?_)
    refine (gd_t ((ciw (PTM KM 179 _ rfl rfl) (PNM KM 179 rfl) (PLM KM 179 2342 rfl rfl)).2 (by omega)) _).trans ?_
    refine gd_c Iff.rfl (fun c2 => ?_)
    refine (gd_t (by decide) _).trans ?_
    rfl
  · skip
    refine (show zY 238 27 [some (zR (some 177)), some (zI x1)] [] h = gd (inR (0)) (zY 238 29 [some (zR (some 177)), some (zI 0)] [] h) from zGo 2 238 27 _ _ _).trans ?_
    refine (gd_t (by decide) _).trans ?_
    rfl
theorem q_M_putsBack_29 {h : zH} {x1 : Int} (KM : KM h) : zY 238 29 [some (zR (some 177)), some (zI x1)] [] h =
    if x1 < 240 then
      gd (0 ≤ x1 ∧ x1 < 240) (
      gd (-2147483648 ≤ x1 + 1 ∧ x1 + 1 < 2147483648) (
      zY 238 29 [some (zR (some 177)), some (zI (x1 + 1))] [] (sI h 183 x1.toNat (hI h 184 x1.toNat))))
    else
      some (.inl (none), (sI (sI h 177 10 (hI h 177 11)) 177 12 (hI h 177 13))) := by
  refine (show zY 238 29 [some (zR (some 177)), some (zI x1)] [] h = gd (-32768 ≤ (240 : Int) ∧ (240 : Int) < 32768) (if x1 < 240 then zY 238 36 [some (zR (some 177)), some (zI x1)] [] h else zY 238 54 [some (zR (some 177)), some (zI x1)] [] h) from zGo 3 238 29 _ _ _).trans ?_
  refine (gd_t (by decide) _).trans ?_
  refine iteC (fun c0 => ?_) (fun c0 => ?_)
  · skip
    refine (show zY 238 36 [some (zR (some 177)), some (zI x1)] [] h = gd (zob h (some 177) 12) (zY 238 40 [some (zR (some 177)), some (zI x1)] [zR (hR h 177 8)] h) from zGo 2 238 36 _ _ _).trans ?_
    refine (gd_t (⟨rfl, (PTM KM 177 _ rfl rfl), (PNM KM 177 rfl)⟩) _).trans ?_
    refine (congrArg (fun r => zY 238 40 [some (zR (some 177)), some (zI x1)] (zR r :: []) h) (PRM KM 177 8 _ rfl)).trans ?_
    refine (show zY 238 40 [some (zR (some 177)), some (zI x1)] [zR (some 183)] h = gd (zob h (some 177) 12) (zY 238 45 [some (zR (some 177)), some (zI x1)] [zR (hR h 177 9), zI x1, zR (some 183)] h) from zGo 3 238 40 _ _ _).trans ?_
    refine (gd_t (⟨rfl, (PTM KM 177 _ rfl rfl), (PNM KM 177 rfl)⟩) _).trans ?_
    refine (congrArg (fun r => zY 238 45 [some (zR (some 177)), some (zI x1)] (zR r :: zI x1 :: zR (some 183) :: []) h) (PRM KM 177 9 _ rfl)).trans ?_
    refine (show zY 238 45 [some (zR (some 177)), some (zI x1)] [zR (some 184), zI x1, zR (some 183)] h = gd (zok h (some 184) 22 x1) (gd (zokw h (some 183) 22 x1) (gd (inR (x1 + 1)) (gd (inR (1)) (zY 238 29 [some (zR (some 177)), some (zI (x1 + 1))] [] (sI h 183 x1.toNat (hI h 184 x1.toNat)))))) from zGo 5 238 45 _ _ _).trans ?_
    refine gd_c (ci (PTM KM 184 _ rfl rfl) (PLM KM 184 240 rfl rfl)) (fun c1 => ?_)
    refine (gd_t ((ciw (PTM KM 183 _ rfl rfl) (PNM KM 183 rfl) (PLM KM 183 240 rfl rfl)).2 (by omega)) _).trans ?_
    refine gd_c Iff.rfl (fun c2 => ?_)
    refine (gd_t (by decide) _).trans ?_
    rfl
  · skip
    refine (show zY 238 54 [some (zR (some 177)), some (zI x1)] [] h = gd (zob h (some 177) 12) (gd (zob h (some 177) 12) (gd (zob (sI h 177 10 (hI h 177 11)) (some 177) 12) (gd (zob (sI h 177 10 (hI h 177 11)) (some 177) 12) (gd (([] : List zV).isEmpty = true ∧ zrk 238 = 0) (some (.inl (none), (sI (sI h 177 10 (hI h 177 11)) 177 12 (hI h 177 13)))))))) from zGo 9 238 54 _ _ _).trans ?_
    refine (gd_t (⟨rfl, (PTM KM 177 _ rfl rfl), (PNM KM 177 rfl)⟩) _).trans ?_
    refine (gd_t (⟨rfl, (PTM KM 177 _ rfl rfl), (PNM KM 177 rfl)⟩) _).trans ?_
    refine (gd_t (⟨rfl, (PTM KM 177 _ rfl rfl), (PNM KM 177 rfl)⟩) _).trans ?_
    refine (gd_t (⟨rfl, (PTM KM 177 _ rfl rfl), (PNM KM 177 rfl)⟩) _).trans ?_
    refine (gd_t (⟨rfl, rfl⟩) _).trans ?_
    rfl
theorem q_M_advances {h : zH} (KM : KM h) : zC 218 [zR (some 177)] h =
    if (hI h 177 37) = 1 then
      zY 218 30 [some (zR (some 177)), some (zI 1), none] [] (sI h 177 38 (hI h 177 39))
    else
      if (hI h 177 37) = 2 then
        zY 218 30 [some (zR (some 177)), some (zI 1), none] [] (sI h 177 38 (hI h 177 39))
      else
        zY 218 30 [some (zR (some 177)), some (zI 0), none] [] (sI h 177 38 (hI h 177 39)) := by
  refine (show zC 218 [zR (some 177)] h = gd (zob h (some 177) 12) (gd (inR (1)) (if (hI h 177 37) = 1 then zY 218 16 [some (zR (some 177)), none, none] [] h else zY 218 8 [some (zR (some 177)), none, none] [] h)) from zGo 4 218 0 _ _ _).trans ?_
  refine (gd_t (⟨rfl, (PTM KM 177 _ rfl rfl), (PNM KM 177 rfl)⟩) _).trans ?_
  refine (gd_t (by decide) _).trans ?_
  refine iteC (fun c0 => ?_) (fun c0 => ?_)
  · skip
    refine (show zY 218 16 [some (zR (some 177)), none, none] [] h = gd (inR (1)) (gd (zob h (some 177) 12) (gd (zob h (some 177) 12) (zY 218 30 [some (zR (some 177)), some (zI 1), none] [] (sI h 177 38 (hI h 177 39))))) from zGo 7 218 16 _ _ _).trans ?_
    refine (gd_t (by decide) _).trans ?_
    refine (gd_t (⟨rfl, (PTM KM 177 _ rfl rfl), (PNM KM 177 rfl)⟩) _).trans ?_
    refine (gd_t (⟨rfl, (PTM KM 177 _ rfl rfl), (PNM KM 177 rfl)⟩) _).trans ?_
    rfl
  · skip
    refine (show zY 218 8 [some (zR (some 177)), none, none] [] h = gd (zob h (some 177) 12) (gd (inR (2)) (if (hI h 177 37) = 2 then zY 218 16 [some (zR (some 177)), none, none] [] h else zY 218 20 [some (zR (some 177)), none, none] [] h)) from zGo 4 218 8 _ _ _).trans ?_
    refine (gd_t (⟨rfl, (PTM KM 177 _ rfl rfl), (PNM KM 177 rfl)⟩) _).trans ?_
    refine (gd_t (by decide) _).trans ?_
    refine iteC (fun c1 => ?_) (fun c1 => ?_)
    · skip
      refine (show zY 218 16 [some (zR (some 177)), none, none] [] h = gd (inR (1)) (gd (zob h (some 177) 12) (gd (zob h (some 177) 12) (zY 218 30 [some (zR (some 177)), some (zI 1), none] [] (sI h 177 38 (hI h 177 39))))) from zGo 7 218 16 _ _ _).trans ?_
      refine (gd_t (by decide) _).trans ?_
      refine (gd_t (⟨rfl, (PTM KM 177 _ rfl rfl), (PNM KM 177 rfl)⟩) _).trans ?_
      refine (gd_t (⟨rfl, (PTM KM 177 _ rfl rfl), (PNM KM 177 rfl)⟩) _).trans ?_
      rfl
    · skip
      refine (show zY 218 20 [some (zR (some 177)), none, none] [] h = gd (inR (0)) (gd (zob h (some 177) 12) (gd (zob h (some 177) 12) (zY 218 30 [some (zR (some 177)), some (zI 0), none] [] (sI h 177 38 (hI h 177 39))))) from zGo 6 218 20 _ _ _).trans ?_
      refine (gd_t (by decide) _).trans ?_
      refine (gd_t (⟨rfl, (PTM KM 177 _ rfl rfl), (PNM KM 177 rfl)⟩) _).trans ?_
      refine (gd_t (⟨rfl, (PTM KM 177 _ rfl rfl), (PNM KM 177 rfl)⟩) _).trans ?_
      rfl
theorem q_M_advances_30 {h : zH} {x1 : Int} (KM : KM h) : zY 218 30 [some (zR (some 177)), some (zI x1), none] [] h =
    if (hI h 177 38) < (hI h 177 36) then
      gd (0 ≤ (hI h 177 38) ∧ (hI h 177 38) < 800) (
      if (hI h 185 (hI h 177 38).toNat) = 32 then
        gd (-2147483648 ≤ (hI h 177 38) + 1 ∧ (hI h 177 38) + 1 < 2147483648) (
        zY 218 30 [some (zR (some 177)), some (zI x1), none] [] (sI h 177 38 ((hI h 177 38) + 1)))
      else
        if (hI h 185 (hI h 177 38).toNat) = 10 then
          gd (-2147483648 ≤ (hI h 177 38) + 1 ∧ (hI h 177 38) + 1 < 2147483648) (
          zY 218 30 [some (zR (some 177)), some (zI x1), none] [] (sI h 177 38 ((hI h 177 38) + 1)))
        else
          zY 218 82 [some (zR (some 177)), some (zI x1), none] [] h)
    else
      zY 218 82 [some (zR (some 177)), some (zI x1), none] [] h := by
  refine (show zY 218 30 [some (zR (some 177)), some (zI x1), none] [] h = gd (zob h (some 177) 12) (gd (zob h (some 177) 12) (if (hI h 177 38) < (hI h 177 36) then zY 218 41 [some (zR (some 177)), some (zI x1), none] [] h else zY 218 82 [some (zR (some 177)), some (zI x1), none] [] h)) from zGo 5 218 30 _ _ _).trans ?_
  refine (gd_t (⟨rfl, (PTM KM 177 _ rfl rfl), (PNM KM 177 rfl)⟩) _).trans ?_
  refine (gd_t (⟨rfl, (PTM KM 177 _ rfl rfl), (PNM KM 177 rfl)⟩) _).trans ?_
  refine iteC (fun c0 => ?_) (fun c0 => ?_)
  · skip
    refine (show zY 218 41 [some (zR (some 177)), some (zI x1), none] [] h = gd (zob h (some 177) 12) (zY 218 45 [some (zR (some 177)), some (zI x1), none] [zR (hR h 177 14)] h) from zGo 2 218 41 _ _ _).trans ?_
    refine (gd_t (⟨rfl, (PTM KM 177 _ rfl rfl), (PNM KM 177 rfl)⟩) _).trans ?_
    refine (congrArg (fun r => zY 218 45 [some (zR (some 177)), some (zI x1), none] (zR r :: []) h) (PRM KM 177 14 _ rfl)).trans ?_
    refine (show zY 218 45 [some (zR (some 177)), some (zI x1), none] [zR (some 185)] h = gd (zob h (some 177) 12) (gd (zokw h (some 185) 21 (hI h 177 38) ∨ zokw h (some 185) 20 (hI h 177 38)) (gd (-128 ≤ (32 : Int) ∧ (32 : Int) < 128) (if (hI h 185 (hI h 177 38).toNat) = 32 then zY 218 69 [some (zR (some 177)), some (zI x1), none] [] h else zY 218 55 [some (zR (some 177)), some (zI x1), none] [] h))) from zGo 5 218 45 _ _ _).trans ?_
    refine (gd_t (⟨rfl, (PTM KM 177 _ rfl rfl), (PNM KM 177 rfl)⟩) _).trans ?_
    refine gd_c (cib21 (PTM KM 185 _ rfl rfl) (PNM KM 185 rfl) (PLM KM 185 800 rfl rfl)) (fun c1 => ?_)
    refine (gd_t (by decide) _).trans ?_
    refine iteC (fun c2 => ?_) (fun c2 => ?_)
    · skip
      refine (show zY 218 69 [some (zR (some 177)), some (zI x1), none] [] h = gd (zob h (some 177) 12) (gd (inR (1)) (gd (inR ((hI h 177 38) + 1)) (gd (zob h (some 177) 12) (zY 218 30 [some (zR (some 177)), some (zI x1), none] [] (sI h 177 38 ((hI h 177 38) + 1)))))) from zGo 7 218 69 _ _ _).trans ?_
      refine (gd_t (⟨rfl, (PTM KM 177 _ rfl rfl), (PNM KM 177 rfl)⟩) _).trans ?_
      refine (gd_t (by decide) _).trans ?_
      refine gd_c Iff.rfl (fun c3 => ?_)
      refine (gd_t (⟨rfl, (PTM KM 177 _ rfl rfl), (PNM KM 177 rfl)⟩) _).trans ?_
      rfl
    · skip
      refine (show zY 218 55 [some (zR (some 177)), some (zI x1), none] [] h = gd (zob h (some 177) 12) (zY 218 59 [some (zR (some 177)), some (zI x1), none] [zR (hR h 177 14)] h) from zGo 2 218 55 _ _ _).trans ?_
      refine (gd_t (⟨rfl, (PTM KM 177 _ rfl rfl), (PNM KM 177 rfl)⟩) _).trans ?_
      refine (congrArg (fun r => zY 218 59 [some (zR (some 177)), some (zI x1), none] (zR r :: []) h) (PRM KM 177 14 _ rfl)).trans ?_
      refine (show zY 218 59 [some (zR (some 177)), some (zI x1), none] [zR (some 185)] h = gd (zob h (some 177) 12) (gd (zokw h (some 185) 21 (hI h 177 38) ∨ zokw h (some 185) 20 (hI h 177 38)) (gd (-128 ≤ (10 : Int) ∧ (10 : Int) < 128) (if (hI h 185 (hI h 177 38).toNat) = 10 then zY 218 69 [some (zR (some 177)), some (zI x1), none] [] h else zY 218 82 [some (zR (some 177)), some (zI x1), none] [] h))) from zGo 5 218 59 _ _ _).trans ?_
      refine (gd_t (⟨rfl, (PTM KM 177 _ rfl rfl), (PNM KM 177 rfl)⟩) _).trans ?_
      refine (gd_t ((cib21 (PTM KM 185 _ rfl rfl) (PNM KM 185 rfl) (PLM KM 185 800 rfl rfl)).2 (by omega)) _).trans ?_
      refine (gd_t (by decide) _).trans ?_
      refine iteC (fun c4 => ?_) (fun c4 => ?_)
      · skip
        refine (show zY 218 69 [some (zR (some 177)), some (zI x1), none] [] h = gd (zob h (some 177) 12) (gd (inR (1)) (gd (inR ((hI h 177 38) + 1)) (gd (zob h (some 177) 12) (zY 218 30 [some (zR (some 177)), some (zI x1), none] [] (sI h 177 38 ((hI h 177 38) + 1)))))) from zGo 7 218 69 _ _ _).trans ?_
        refine (gd_t (⟨rfl, (PTM KM 177 _ rfl rfl), (PNM KM 177 rfl)⟩) _).trans ?_
        refine (gd_t (by decide) _).trans ?_
        refine gd_c Iff.rfl (fun c5 => ?_)
        refine (gd_t (⟨rfl, (PTM KM 177 _ rfl rfl), (PNM KM 177 rfl)⟩) _).trans ?_
        rfl
      · skip
        rfl
  · skip
    rfl
theorem q_M_advances_82 {h : zH} {x1 : Int} (KM : KM h) : zY 218 82 [some (zR (some 177)), some (zI x1), none] [] h =
    if x1 = 0 then
      zY 218 103 [some (zR (some 177)), some (zI x1), some (zI 0)] [] h
    else
      if (hI h 177 38) = (hI h 177 39) then
        zY 218 103 [some (zR (some 177)), some (zI x1), some (zI 1)] [] h
      else
        zY 218 103 [some (zR (some 177)), some (zI x1), some (zI 0)] [] h := by
  refine (show zY 218 82 [some (zR (some 177)), some (zI x1), none] [] h = if x1 = 0 then zY 218 101 [some (zR (some 177)), some (zI x1), none] [] h else zY 218 86 [some (zR (some 177)), some (zI x1), none] [] h from zGo 2 218 82 _ _ _).trans ?_
  refine iteC (fun c0 => ?_) (fun c0 => ?_)
  · skip
    refine (show zY 218 101 [some (zR (some 177)), some (zI x1), none] [] h = gd (inR (0)) (zY 218 103 [some (zR (some 177)), some (zI x1), some (zI 0)] [] h) from zGo 2 218 101 _ _ _).trans ?_
    refine (gd_t (by decide) _).trans ?_
    rfl
  · skip
    refine (show zY 218 86 [some (zR (some 177)), some (zI x1), none] [] h = gd (zob h (some 177) 12) (gd (zob h (some 177) 12) (if (hI h 177 38) = (hI h 177 39) then zY 218 97 [some (zR (some 177)), some (zI x1), none] [] h else zY 218 101 [some (zR (some 177)), some (zI x1), none] [] h)) from zGo 5 218 86 _ _ _).trans ?_
    refine (gd_t (⟨rfl, (PTM KM 177 _ rfl rfl), (PNM KM 177 rfl)⟩) _).trans ?_
    refine (gd_t (⟨rfl, (PTM KM 177 _ rfl rfl), (PNM KM 177 rfl)⟩) _).trans ?_
    refine iteC (fun c1 => ?_) (fun c1 => ?_)
    · skip
      refine (show zY 218 97 [some (zR (some 177)), some (zI x1), none] [] h = gd (inR (1)) (zY 218 103 [some (zR (some 177)), some (zI x1), some (zI 1)] [] h) from zGo 3 218 97 _ _ _).trans ?_
      refine (gd_t (by decide) _).trans ?_
      rfl
    · skip
      refine (show zY 218 101 [some (zR (some 177)), some (zI x1), none] [] h = gd (inR (0)) (zY 218 103 [some (zR (some 177)), some (zI x1), some (zI 0)] [] h) from zGo 2 218 101 _ _ _).trans ?_
      refine (gd_t (by decide) _).trans ?_
      rfl
theorem q_M_advances_103 {h : zH} {x1 : Int} {x2 : Int} (KM : KM h) : zY 218 103 [some (zR (some 177)), some (zI x1), some (zI x2)] [] h =
    if (hI h 177 38) = (hI h 177 36) then
      some (.inl (none), (sI (sI h 177 39 (hI h 177 38)) 177 37 0))
    else
      gd (0 ≤ (hI h 177 38) ∧ (hI h 177 38) < 800) (
      if b_M_isLetter (hI h 185 (hI h 177 38).toNat) then
        zY 218 145 [some (zR (some 177)), some (zI x1), some (zI x2)] [] (sI h 177 39 (hI h 177 38))
      else
        if b_M_isDigit (hI h 185 (hI h 177 38).toNat) then
          zY 218 220 [some (zR (some 177)), some (zI x1), some (zI x2)] [] (sI (sI h 177 39 (hI h 177 38)) 177 40 0)
        else
          gd (-2147483648 ≤ (hI h 177 38) + 1 ∧ (hI h 177 38) + 1 < 2147483648) (
          some (.inl (none), (sI (sI (sI h 177 39 (hI h 177 38)) 177 39 ((hI h 177 38) + 1)) 177 37 4)))) := by
  refine (show zY 218 103 [some (zR (some 177)), some (zI x1), some (zI x2)] [] h = gd (zob h (some 177) 12) (gd (zob h (some 177) 12) (gd (zob (sI h 177 39 (hI h 177 38)) (some 177) 12) (gd (zob (sI h 177 39 (hI h 177 38)) (some 177) 12) (if (hI h 177 38) = (hI h 177 36) then zY 218 122 [some (zR (some 177)), some (zI x1), some (zI x2)] [] (sI h 177 39 (hI h 177 38)) else zY 218 130 [some (zR (some 177)), some (zI x1), some (zI x2)] [] (sI h 177 39 (hI h 177 38)))))) from zGo 9 218 103 _ _ _).trans ?_
  refine (gd_t (⟨rfl, (PTM KM 177 _ rfl rfl), (PNM KM 177 rfl)⟩) _).trans ?_
  refine (gd_t (⟨rfl, (PTM KM 177 _ rfl rfl), (PNM KM 177 rfl)⟩) _).trans ?_
  refine (gd_t (⟨rfl, (PTM KM 177 _ rfl rfl), (PNM KM 177 rfl)⟩) _).trans ?_
  refine (gd_t (⟨rfl, (PTM KM 177 _ rfl rfl), (PNM KM 177 rfl)⟩) _).trans ?_
  refine iteC (fun c0 => ?_) (fun c0 => ?_)
  · skip
    refine (show zY 218 122 [some (zR (some 177)), some (zI x1), some (zI x2)] [] (sI h 177 39 (hI h 177 38)) = gd (inR (0)) (gd (zob (sI h 177 39 (hI h 177 38)) (some 177) 12) (gd (([] : List zV).isEmpty = true ∧ zrk 218 = 0) (some (.inl (none), (sI (sI h 177 39 (hI h 177 38)) 177 37 0))))) from zGo 5 218 122 _ _ _).trans ?_
    refine (gd_t (by decide) _).trans ?_
    refine (gd_t (⟨rfl, (PTM KM 177 _ rfl rfl), (PNM KM 177 rfl)⟩) _).trans ?_
    refine (gd_t (⟨rfl, rfl⟩) _).trans ?_
    rfl
  · skip
    refine (show zY 218 130 [some (zR (some 177)), some (zI x1), some (zI x2)] [] (sI h 177 39 (hI h 177 38)) = gd (zob (sI h 177 39 (hI h 177 38)) (some 177) 12) (zY 218 134 [some (zR (some 177)), some (zI x1), some (zI x2)] [zR (hR h 177 14)] (sI h 177 39 (hI h 177 38))) from zGo 2 218 130 _ _ _).trans ?_
    refine (gd_t (⟨rfl, (PTM KM 177 _ rfl rfl), (PNM KM 177 rfl)⟩) _).trans ?_
    refine (congrArg (fun r => zY 218 134 [some (zR (some 177)), some (zI x1), some (zI x2)] (zR r :: []) (sI h 177 39 (hI h 177 38))) (PRM KM 177 14 _ rfl)).trans ?_
    refine (show zY 218 134 [some (zR (some 177)), some (zI x1), some (zI x2)] [zR (some 185)] (sI h 177 39 (hI h 177 38)) = gd (zob (sI h 177 39 (hI h 177 38)) (some 177) 12) (gd (zokw (sI h 177 39 (hI h 177 38)) (some 185) 21 (hI h 177 38) ∨ zokw (sI h 177 39 (hI h 177 38)) (some 185) 20 (hI h 177 38)) (gd (false = zctor 219 ∧ zcs [] ≤ 8 ∧ zrm 218 (zrf 219 + 1) (8 + (zmaxl 219 + 11) + zrl 219) = true ∧ zcs [zI (hI h 185 (hI h 177 38).toNat)] ≤ zmaxl 219) (zBack zY 218 139 142 [some (zR (some 177)), some (zI x1), some (zI x2)] [] (zC 219 [zI (hI h 185 (hI h 177 38).toNat)] (sI h 177 39 (hI h 177 38)))))) from zGo 4 218 134 _ _ _).trans ?_
    refine (gd_t (⟨rfl, (PTM KM 177 _ rfl rfl), (PNM KM 177 rfl)⟩) _).trans ?_
    refine gd_c (cib21 (PTM KM 185 _ rfl rfl) (PNM KM 185 rfl) (PLM KM 185 800 rfl rfl)) (fun c1 => ?_)
    refine (gd_t (⟨rfl, Nat.le_of_ble_eq_true rfl, rfl, Nat.le_of_ble_eq_true rfl⟩) _).trans ?_
    refine (congrArg (zBack zY 218 139 142 [some (zR (some 177)), some (zI x1), some (zI x2)] []) (e_M_isLetter (h := (sI h 177 39 (hI h 177 38))))).trans ?_
    refine (show zY 218 142 [some (zR (some 177)), some (zI x1), some (zI x2)] [zI (if b_M_isLetter (hI h 185 (hI h 177 38).toNat) then (1 : Int) else 0)] (sI h 177 39 (hI h 177 38)) = if (if b_M_isLetter (hI h 185 (hI h 177 38).toNat) then (1 : Int) else 0) = 0 then zY 218 200 [some (zR (some 177)), some (zI x1), some (zI x2)] [] (sI h 177 39 (hI h 177 38)) else zY 218 145 [some (zR (some 177)), some (zI x1), some (zI x2)] [] (sI h 177 39 (hI h 177 38)) from zGo 1 218 142 _ _ _).trans ?_
    refine iteB (fun c2 => ?_) (fun c2 => ?_)
    · skip
      rfl
    · skip
      refine (show zY 218 200 [some (zR (some 177)), some (zI x1), some (zI x2)] [] (sI h 177 39 (hI h 177 38)) = gd (zob (sI h 177 39 (hI h 177 38)) (some 177) 12) (zY 218 204 [some (zR (some 177)), some (zI x1), some (zI x2)] [zR (hR h 177 14)] (sI h 177 39 (hI h 177 38))) from zGo 2 218 200 _ _ _).trans ?_
      refine (gd_t (⟨rfl, (PTM KM 177 _ rfl rfl), (PNM KM 177 rfl)⟩) _).trans ?_
      refine (congrArg (fun r => zY 218 204 [some (zR (some 177)), some (zI x1), some (zI x2)] (zR r :: []) (sI h 177 39 (hI h 177 38))) (PRM KM 177 14 _ rfl)).trans ?_
      refine (show zY 218 204 [some (zR (some 177)), some (zI x1), some (zI x2)] [zR (some 185)] (sI h 177 39 (hI h 177 38)) = gd (zob (sI h 177 39 (hI h 177 38)) (some 177) 12) (gd (zokw (sI h 177 39 (hI h 177 38)) (some 185) 21 (hI h 177 38) ∨ zokw (sI h 177 39 (hI h 177 38)) (some 185) 20 (hI h 177 38)) (gd (false = zctor 220 ∧ zcs [] ≤ 8 ∧ zrm 218 (zrf 220 + 1) (8 + (zmaxl 220 + 11) + zrl 220) = true ∧ zcs [zI (hI h 185 (hI h 177 38).toNat)] ≤ zmaxl 220) (zBack zY 218 209 212 [some (zR (some 177)), some (zI x1), some (zI x2)] [] (zC 220 [zI (hI h 185 (hI h 177 38).toNat)] (sI h 177 39 (hI h 177 38)))))) from zGo 4 218 204 _ _ _).trans ?_
      refine (gd_t (⟨rfl, (PTM KM 177 _ rfl rfl), (PNM KM 177 rfl)⟩) _).trans ?_
      refine (gd_t ((cib21 (PTM KM 185 _ rfl rfl) (PNM KM 185 rfl) (PLM KM 185 800 rfl rfl)).2 (by (try simp only [b_M_isLetter] at *); omega)) _).trans ?_
      refine (gd_t (⟨rfl, Nat.le_of_ble_eq_true rfl, rfl, Nat.le_of_ble_eq_true rfl⟩) _).trans ?_
      refine (congrArg (zBack zY 218 209 212 [some (zR (some 177)), some (zI x1), some (zI x2)] []) (e_M_isDigit (h := (sI h 177 39 (hI h 177 38))))).trans ?_
      refine (show zY 218 212 [some (zR (some 177)), some (zI x1), some (zI x2)] [zI (if b_M_isDigit (hI h 185 (hI h 177 38).toNat) then (1 : Int) else 0)] (sI h 177 39 (hI h 177 38)) = if (if b_M_isDigit (hI h 185 (hI h 177 38).toNat) then (1 : Int) else 0) = 0 then zY 218 325 [some (zR (some 177)), some (zI x1), some (zI x2)] [] (sI h 177 39 (hI h 177 38)) else zY 218 215 [some (zR (some 177)), some (zI x1), some (zI x2)] [] (sI h 177 39 (hI h 177 38)) from zGo 1 218 212 _ _ _).trans ?_
      refine iteB (fun c3 => ?_) (fun c3 => ?_)
      · skip
        refine (show zY 218 215 [some (zR (some 177)), some (zI x1), some (zI x2)] [] (sI h 177 39 (hI h 177 38)) = gd (inR (0)) (gd (zob (sI h 177 39 (hI h 177 38)) (some 177) 12) (zY 218 220 [some (zR (some 177)), some (zI x1), some (zI x2)] [] (sI (sI h 177 39 (hI h 177 38)) 177 40 0))) from zGo 3 218 215 _ _ _).trans ?_
        refine (gd_t (by decide) _).trans ?_
        refine (gd_t (⟨rfl, (PTM KM 177 _ rfl rfl), (PNM KM 177 rfl)⟩) _).trans ?_
        rfl
      · skip
        refine (show zY 218 325 [some (zR (some 177)), some (zI x1), some (zI x2)] [] (sI h 177 39 (hI h 177 38)) = gd (zob (sI h 177 39 (hI h 177 38)) (some 177) 12) (gd (inR (1)) (gd (inR ((hI h 177 38) + 1)) (gd (zob (sI h 177 39 (hI h 177 38)) (some 177) 12) (gd (inR (4)) (gd (zob (sI (sI h 177 39 (hI h 177 38)) 177 39 ((hI h 177 38) + 1)) (some 177) 12) (gd (([] : List zV).isEmpty = true ∧ zrk 218 = 0) (some (.inl (none), (sI (sI (sI h 177 39 (hI h 177 38)) 177 39 ((hI h 177 38) + 1)) 177 37 4))))))))) from zGo 10 218 325 _ _ _).trans ?_
        refine (gd_t (⟨rfl, (PTM KM 177 _ rfl rfl), (PNM KM 177 rfl)⟩) _).trans ?_
        refine (gd_t (by decide) _).trans ?_
        refine gd_c Iff.rfl (fun c4 => ?_)
        refine (gd_t (⟨rfl, (PTM KM 177 _ rfl rfl), (PNM KM 177 rfl)⟩) _).trans ?_
        refine (gd_t (by decide) _).trans ?_
        refine (gd_t (⟨rfl, (PTM KM 177 _ rfl rfl), (PNM KM 177 rfl)⟩) _).trans ?_
        refine (gd_t (⟨rfl, rfl⟩) _).trans ?_
        rfl
theorem q_M_advances_145 {h : zH} {x1 : Int} {x2 : Int} (KM : KM h) : zY 218 145 [some (zR (some 177)), some (zI x1), some (zI x2)] [] h =
    if (hI h 177 39) < (hI h 177 36) then
      gd (0 ≤ (hI h 177 39) ∧ (hI h 177 39) < 800) (
      if b_M_isLetter (hI h 185 (hI h 177 39).toNat) then
        gd (-2147483648 ≤ (hI h 177 39) + 1 ∧ (hI h 177 39) + 1 < 2147483648) (
        zY 218 145 [some (zR (some 177)), some (zI x1), some (zI x2)] [] (sI h 177 39 ((hI h 177 39) + 1)))
      else
        if x2 = 0 then
          some (.inl (none), (sI h 177 37 1))
        else
          some (.inl (none), (sI h 177 37 4)))
    else
      if x2 = 0 then
        some (.inl (none), (sI h 177 37 1))
      else
        some (.inl (none), (sI h 177 37 4)) := by
  refine (show zY 218 145 [some (zR (some 177)), some (zI x1), some (zI x2)] [] h = gd (zob h (some 177) 12) (gd (zob h (some 177) 12) (if (hI h 177 39) < (hI h 177 36) then zY 218 156 [some (zR (some 177)), some (zI x1), some (zI x2)] [] h else zY 218 184 [some (zR (some 177)), some (zI x1), some (zI x2)] [] h)) from zGo 5 218 145 _ _ _).trans ?_
  refine (gd_t (⟨rfl, (PTM KM 177 _ rfl rfl), (PNM KM 177 rfl)⟩) _).trans ?_
  refine (gd_t (⟨rfl, (PTM KM 177 _ rfl rfl), (PNM KM 177 rfl)⟩) _).trans ?_
  refine iteC (fun c0 => ?_) (fun c0 => ?_)
  · skip
    refine (show zY 218 156 [some (zR (some 177)), some (zI x1), some (zI x2)] [] h = gd (zob h (some 177) 12) (zY 218 160 [some (zR (some 177)), some (zI x1), some (zI x2)] [zR (hR h 177 14)] h) from zGo 2 218 156 _ _ _).trans ?_
    refine (gd_t (⟨rfl, (PTM KM 177 _ rfl rfl), (PNM KM 177 rfl)⟩) _).trans ?_
    refine (congrArg (fun r => zY 218 160 [some (zR (some 177)), some (zI x1), some (zI x2)] (zR r :: []) h) (PRM KM 177 14 _ rfl)).trans ?_
    refine (show zY 218 160 [some (zR (some 177)), some (zI x1), some (zI x2)] [zR (some 185)] h = gd (zob h (some 177) 12) (gd (zokw h (some 185) 21 (hI h 177 39) ∨ zokw h (some 185) 20 (hI h 177 39)) (gd (false = zctor 219 ∧ zcs [] ≤ 8 ∧ zrm 218 (zrf 219 + 1) (8 + (zmaxl 219 + 11) + zrl 219) = true ∧ zcs [zI (hI h 185 (hI h 177 39).toNat)] ≤ zmaxl 219) (zBack zY 218 165 168 [some (zR (some 177)), some (zI x1), some (zI x2)] [] (zC 219 [zI (hI h 185 (hI h 177 39).toNat)] h)))) from zGo 4 218 160 _ _ _).trans ?_
    refine (gd_t (⟨rfl, (PTM KM 177 _ rfl rfl), (PNM KM 177 rfl)⟩) _).trans ?_
    refine gd_c (cib21 (PTM KM 185 _ rfl rfl) (PNM KM 185 rfl) (PLM KM 185 800 rfl rfl)) (fun c1 => ?_)
    refine (gd_t (⟨rfl, Nat.le_of_ble_eq_true rfl, rfl, Nat.le_of_ble_eq_true rfl⟩) _).trans ?_
    refine (congrArg (zBack zY 218 165 168 [some (zR (some 177)), some (zI x1), some (zI x2)] []) (e_M_isLetter)).trans ?_
    refine (show zY 218 168 [some (zR (some 177)), some (zI x1), some (zI x2)] [zI (if b_M_isLetter (hI h 185 (hI h 177 39).toNat) then (1 : Int) else 0)] h = if (if b_M_isLetter (hI h 185 (hI h 177 39).toNat) then (1 : Int) else 0) = 0 then zY 218 184 [some (zR (some 177)), some (zI x1), some (zI x2)] [] h else zY 218 171 [some (zR (some 177)), some (zI x1), some (zI x2)] [] h from zGo 1 218 168 _ _ _).trans ?_
    refine iteB (fun c2 => ?_) (fun c2 => ?_)
    · skip
      refine (show zY 218 171 [some (zR (some 177)), some (zI x1), some (zI x2)] [] h = gd (zob h (some 177) 12) (gd (inR (1)) (gd (inR ((hI h 177 39) + 1)) (gd (zob h (some 177) 12) (zY 218 145 [some (zR (some 177)), some (zI x1), some (zI x2)] [] (sI h 177 39 ((hI h 177 39) + 1)))))) from zGo 7 218 171 _ _ _).trans ?_
      refine (gd_t (⟨rfl, (PTM KM 177 _ rfl rfl), (PNM KM 177 rfl)⟩) _).trans ?_
      refine (gd_t (by decide) _).trans ?_
      refine gd_c Iff.rfl (fun c3 => ?_)
      refine (gd_t (⟨rfl, (PTM KM 177 _ rfl rfl), (PNM KM 177 rfl)⟩) _).trans ?_
      rfl
    · skip
      refine (show zY 218 184 [some (zR (some 177)), some (zI x1), some (zI x2)] [] h = if x2 = 0 then zY 218 193 [some (zR (some 177)), some (zI x1), some (zI x2)] [zR (some 177)] h else zY 218 189 [some (zR (some 177)), some (zI x1), some (zI x2)] [zR (some 177)] h from zGo 3 218 184 _ _ _).trans ?_
      refine iteC (fun c4 => ?_) (fun c4 => ?_)
      · skip
        refine (show zY 218 193 [some (zR (some 177)), some (zI x1), some (zI x2)] [zR (some 177)] h = gd (inR (1)) (gd (zob h (some 177) 12) (gd (([] : List zV).isEmpty = true ∧ zrk 218 = 0) (some (.inl (none), (sI h 177 37 1))))) from zGo 4 218 193 _ _ _).trans ?_
        refine (gd_t (by decide) _).trans ?_
        refine (gd_t (⟨rfl, (PTM KM 177 _ rfl rfl), (PNM KM 177 rfl)⟩) _).trans ?_
        refine (gd_t (⟨rfl, rfl⟩) _).trans ?_
        rfl
      · skip
        refine (show zY 218 189 [some (zR (some 177)), some (zI x1), some (zI x2)] [zR (some 177)] h = gd (inR (4)) (gd (zob h (some 177) 12) (gd (([] : List zV).isEmpty = true ∧ zrk 218 = 0) (some (.inl (none), (sI h 177 37 4))))) from zGo 5 218 189 _ _ _).trans ?_
        refine (gd_t (by decide) _).trans ?_
        refine (gd_t (⟨rfl, (PTM KM 177 _ rfl rfl), (PNM KM 177 rfl)⟩) _).trans ?_
        refine (gd_t (⟨rfl, rfl⟩) _).trans ?_
        rfl
  · skip
    refine (show zY 218 184 [some (zR (some 177)), some (zI x1), some (zI x2)] [] h = if x2 = 0 then zY 218 193 [some (zR (some 177)), some (zI x1), some (zI x2)] [zR (some 177)] h else zY 218 189 [some (zR (some 177)), some (zI x1), some (zI x2)] [zR (some 177)] h from zGo 3 218 184 _ _ _).trans ?_
    refine iteC (fun c5 => ?_) (fun c5 => ?_)
    · skip
      refine (show zY 218 193 [some (zR (some 177)), some (zI x1), some (zI x2)] [zR (some 177)] h = gd (inR (1)) (gd (zob h (some 177) 12) (gd (([] : List zV).isEmpty = true ∧ zrk 218 = 0) (some (.inl (none), (sI h 177 37 1))))) from zGo 4 218 193 _ _ _).trans ?_
      refine (gd_t (by decide) _).trans ?_
      refine (gd_t (⟨rfl, (PTM KM 177 _ rfl rfl), (PNM KM 177 rfl)⟩) _).trans ?_
      refine (gd_t (⟨rfl, rfl⟩) _).trans ?_
      rfl
    · skip
      refine (show zY 218 189 [some (zR (some 177)), some (zI x1), some (zI x2)] [zR (some 177)] h = gd (inR (4)) (gd (zob h (some 177) 12) (gd (([] : List zV).isEmpty = true ∧ zrk 218 = 0) (some (.inl (none), (sI h 177 37 4))))) from zGo 5 218 189 _ _ _).trans ?_
      refine (gd_t (by decide) _).trans ?_
      refine (gd_t (⟨rfl, (PTM KM 177 _ rfl rfl), (PNM KM 177 rfl)⟩) _).trans ?_
      refine (gd_t (⟨rfl, rfl⟩) _).trans ?_
      rfl
theorem q_M_advances_220 {h : zH} {x1 : Int} {x2 : Int} (KM : KM h) : zY 218 220 [some (zR (some 177)), some (zI x1), some (zI x2)] [] h =
    if (hI h 177 39) < (hI h 177 36) then
      gd (0 ≤ (hI h 177 39) ∧ (hI h 177 39) < 800) (
      if b_M_isDigit (hI h 185 (hI h 177 39).toNat) then
        gd (-2147483648 ≤ (hI h 177 39) - (hI h 177 38) ∧ (hI h 177 39) - (hI h 177 38) < 2147483648) (
        if ((hI h 177 39) - (hI h 177 38)) < 3 then
          gd (-2147483648 ≤ 10 * (hI h 177 40) ∧ 10 * (hI h 177 40) < 2147483648) (
          gd (-2147483648 ≤ (10 * (hI h 177 40)) + (hI h 185 (hI h 177 39).toNat) ∧ (10 * (hI h 177 40)) + (hI h 185 (hI h 177 39).toNat) < 2147483648) (
          gd (-2147483648 ≤ ((10 * (hI h 177 40)) + (hI h 185 (hI h 177 39).toNat)) - 48 ∧ ((10 * (hI h 177 40)) + (hI h 185 (hI h 177 39).toNat)) - 48 < 2147483648) (
          gd (-2147483648 ≤ (hI h 177 39) + 1 ∧ (hI h 177 39) + 1 < 2147483648) (
          zY 218 220 [some (zR (some 177)), some (zI x1), some (zI x2)] [] (sI (sI h 177 40 (((10 * (hI h 177 40)) + (hI h 185 (hI h 177 39).toNat)) - 48)) 177 39 ((hI h 177 39) + 1))))))
        else
          gd (-2147483648 ≤ (hI h 177 39) + 1 ∧ (hI h 177 39) + 1 < 2147483648) (
          zY 218 220 [some (zR (some 177)), some (zI x1), some (zI x2)] [] (sI h 177 39 ((hI h 177 39) + 1))))
      else
        if x2 = 0 then
          gd (-2147483648 ≤ (hI h 177 39) - (hI h 177 38) ∧ (hI h 177 39) - (hI h 177 38) < 2147483648) (
          if 3 < ((hI h 177 39) - (hI h 177 38)) then
            some (.inl (none), (sI h 177 37 4))
          else
            some (.inl (none), (sI h 177 37 2)))
        else
          some (.inl (none), (sI h 177 37 4)))
    else
      if x2 = 0 then
        gd (-2147483648 ≤ (hI h 177 39) - (hI h 177 38) ∧ (hI h 177 39) - (hI h 177 38) < 2147483648) (
        if 3 < ((hI h 177 39) - (hI h 177 38)) then
          some (.inl (none), (sI h 177 37 4))
        else
          some (.inl (none), (sI h 177 37 2)))
      else
        some (.inl (none), (sI h 177 37 4)) := by
  refine (show zY 218 220 [some (zR (some 177)), some (zI x1), some (zI x2)] [] h = gd (zob h (some 177) 12) (gd (zob h (some 177) 12) (if (hI h 177 39) < (hI h 177 36) then zY 218 231 [some (zR (some 177)), some (zI x1), some (zI x2)] [] h else zY 218 296 [some (zR (some 177)), some (zI x1), some (zI x2)] [] h)) from zGo 5 218 220 _ _ _).trans ?_
  refine (gd_t (⟨rfl, (PTM KM 177 _ rfl rfl), (PNM KM 177 rfl)⟩) _).trans ?_
  refine (gd_t (⟨rfl, (PTM KM 177 _ rfl rfl), (PNM KM 177 rfl)⟩) _).trans ?_
  refine iteC (fun c0 => ?_) (fun c0 => ?_)
  · skip
    refine (show zY 218 231 [some (zR (some 177)), some (zI x1), some (zI x2)] [] h = gd (zob h (some 177) 12) (zY 218 235 [some (zR (some 177)), some (zI x1), some (zI x2)] [zR (hR h 177 14)] h) from zGo 2 218 231 _ _ _).trans ?_
    refine (gd_t (⟨rfl, (PTM KM 177 _ rfl rfl), (PNM KM 177 rfl)⟩) _).trans ?_
    refine (congrArg (fun r => zY 218 235 [some (zR (some 177)), some (zI x1), some (zI x2)] (zR r :: []) h) (PRM KM 177 14 _ rfl)).trans ?_
    refine (show zY 218 235 [some (zR (some 177)), some (zI x1), some (zI x2)] [zR (some 185)] h = gd (zob h (some 177) 12) (gd (zokw h (some 185) 21 (hI h 177 39) ∨ zokw h (some 185) 20 (hI h 177 39)) (gd (false = zctor 220 ∧ zcs [] ≤ 8 ∧ zrm 218 (zrf 220 + 1) (8 + (zmaxl 220 + 11) + zrl 220) = true ∧ zcs [zI (hI h 185 (hI h 177 39).toNat)] ≤ zmaxl 220) (zBack zY 218 240 243 [some (zR (some 177)), some (zI x1), some (zI x2)] [] (zC 220 [zI (hI h 185 (hI h 177 39).toNat)] h)))) from zGo 4 218 235 _ _ _).trans ?_
    refine (gd_t (⟨rfl, (PTM KM 177 _ rfl rfl), (PNM KM 177 rfl)⟩) _).trans ?_
    refine gd_c (cib21 (PTM KM 185 _ rfl rfl) (PNM KM 185 rfl) (PLM KM 185 800 rfl rfl)) (fun c1 => ?_)
    refine (gd_t (⟨rfl, Nat.le_of_ble_eq_true rfl, rfl, Nat.le_of_ble_eq_true rfl⟩) _).trans ?_
    refine (congrArg (zBack zY 218 240 243 [some (zR (some 177)), some (zI x1), some (zI x2)] []) (e_M_isDigit)).trans ?_
    refine (show zY 218 243 [some (zR (some 177)), some (zI x1), some (zI x2)] [zI (if b_M_isDigit (hI h 185 (hI h 177 39).toNat) then (1 : Int) else 0)] h = if (if b_M_isDigit (hI h 185 (hI h 177 39).toNat) then (1 : Int) else 0) = 0 then zY 218 296 [some (zR (some 177)), some (zI x1), some (zI x2)] [] h else zY 218 246 [some (zR (some 177)), some (zI x1), some (zI x2)] [] h from zGo 1 218 243 _ _ _).trans ?_
    refine iteB (fun c2 => ?_) (fun c2 => ?_)
    · skip
      refine (show zY 218 246 [some (zR (some 177)), some (zI x1), some (zI x2)] [] h = gd (zob h (some 177) 12) (gd (zob h (some 177) 12) (gd (inR ((hI h 177 39) - (hI h 177 38))) (gd (inR (3)) (if ((hI h 177 39) - (hI h 177 38)) < 3 then zY 218 259 [some (zR (some 177)), some (zI x1), some (zI x2)] [] h else zY 218 283 [some (zR (some 177)), some (zI x1), some (zI x2)] [] h)))) from zGo 7 218 246 _ _ _).trans ?_
      refine (gd_t (⟨rfl, (PTM KM 177 _ rfl rfl), (PNM KM 177 rfl)⟩) _).trans ?_
      refine (gd_t (⟨rfl, (PTM KM 177 _ rfl rfl), (PNM KM 177 rfl)⟩) _).trans ?_
      refine gd_c Iff.rfl (fun c3 => ?_)
      refine (gd_t (by decide) _).trans ?_
      refine iteC (fun c4 => ?_) (fun c4 => ?_)
      · skip
        refine (show zY 218 259 [some (zR (some 177)), some (zI x1), some (zI x2)] [] h = gd (-128 ≤ (10 : Int) ∧ (10 : Int) < 128) (gd (zob h (some 177) 12) (gd (inR (10 * (hI h 177 40))) (gd (zob h (some 177) 12) (zY 218 271 [some (zR (some 177)), some (zI x1), some (zI x2)] [zR (hR h 177 14), zI (10 * (hI h 177 40)), zR (some 177)] h)))) from zGo 7 218 259 _ _ _).trans ?_
        refine (gd_t (by decide) _).trans ?_
        refine (gd_t (⟨rfl, (PTM KM 177 _ rfl rfl), (PNM KM 177 rfl)⟩) _).trans ?_
        refine gd_c Iff.rfl (fun c5 => ?_)
        refine (gd_t (⟨rfl, (PTM KM 177 _ rfl rfl), (PNM KM 177 rfl)⟩) _).trans ?_
        refine (congrArg (fun r => zY 218 271 [some (zR (some 177)), some (zI x1), some (zI x2)] (zR r :: zI (10 * (hI h 177 40)) :: zR (some 177) :: []) h) (PRM KM 177 14 _ rfl)).trans ?_
        refine (show zY 218 271 [some (zR (some 177)), some (zI x1), some (zI x2)] [zR (some 185), zI (10 * (hI h 177 40)), zR (some 177)] h = gd (zob h (some 177) 12) (gd (zokw h (some 185) 21 (hI h 177 39) ∨ zokw h (some 185) 20 (hI h 177 39)) (gd (inR ((10 * (hI h 177 40)) + (hI h 185 (hI h 177 39).toNat))) (gd (-128 ≤ (48 : Int) ∧ (48 : Int) < 128) (gd (inR (((10 * (hI h 177 40)) + (hI h 185 (hI h 177 39).toNat)) - 48)) (gd (zob h (some 177) 12) (gd (zob (sI h 177 40 (((10 * (hI h 177 40)) + (hI h 185 (hI h 177 39).toNat)) - 48)) (some 177) 12) (gd (inR (1)) (gd (inR ((hI h 177 39) + 1)) (gd (zob (sI h 177 40 (((10 * (hI h 177 40)) + (hI h 185 (hI h 177 39).toNat)) - 48)) (some 177) 12) (zY 218 220 [some (zR (some 177)), some (zI x1), some (zI x2)] [] (sI (sI h 177 40 (((10 * (hI h 177 40)) + (hI h 185 (hI h 177 39).toNat)) - 48)) 177 39 ((hI h 177 39) + 1)))))))))))) from zGo 14 218 271 _ _ _).trans ?_
        refine (gd_t (⟨rfl, (PTM KM 177 _ rfl rfl), (PNM KM 177 rfl)⟩) _).trans ?_
        refine (gd_t ((cib21 (PTM KM 185 _ rfl rfl) (PNM KM 185 rfl) (PLM KM 185 800 rfl rfl)).2 (by (try simp only [b_M_isDigit] at *); omega)) _).trans ?_
        refine gd_c Iff.rfl (fun c6 => ?_)
        refine (gd_t (by decide) _).trans ?_
        refine gd_c Iff.rfl (fun c7 => ?_)
        refine (gd_t (⟨rfl, (PTM KM 177 _ rfl rfl), (PNM KM 177 rfl)⟩) _).trans ?_
        refine (gd_t (⟨rfl, (PTM KM 177 _ rfl rfl), (PNM KM 177 rfl)⟩) _).trans ?_
        refine (gd_t (by decide) _).trans ?_
        refine gd_c Iff.rfl (fun c8 => ?_)
        refine (gd_t (⟨rfl, (PTM KM 177 _ rfl rfl), (PNM KM 177 rfl)⟩) _).trans ?_
        rfl
      · skip
        refine (show zY 218 283 [some (zR (some 177)), some (zI x1), some (zI x2)] [] h = gd (zob h (some 177) 12) (gd (inR (1)) (gd (inR ((hI h 177 39) + 1)) (gd (zob h (some 177) 12) (zY 218 220 [some (zR (some 177)), some (zI x1), some (zI x2)] [] (sI h 177 39 ((hI h 177 39) + 1)))))) from zGo 7 218 283 _ _ _).trans ?_
        refine (gd_t (⟨rfl, (PTM KM 177 _ rfl rfl), (PNM KM 177 rfl)⟩) _).trans ?_
        refine (gd_t (by decide) _).trans ?_
        refine gd_c Iff.rfl (fun c9 => ?_)
        refine (gd_t (⟨rfl, (PTM KM 177 _ rfl rfl), (PNM KM 177 rfl)⟩) _).trans ?_
        rfl
    · skip
      refine (show zY 218 296 [some (zR (some 177)), some (zI x1), some (zI x2)] [] h = if x2 = 0 then zY 218 301 [some (zR (some 177)), some (zI x1), some (zI x2)] [zR (some 177)] h else zY 218 314 [some (zR (some 177)), some (zI x1), some (zI x2)] [zR (some 177)] h from zGo 3 218 296 _ _ _).trans ?_
      refine iteC (fun c10 => ?_) (fun c10 => ?_)
      · skip
        refine (show zY 218 301 [some (zR (some 177)), some (zI x1), some (zI x2)] [zR (some 177)] h = gd (zob h (some 177) 12) (gd (zob h (some 177) 12) (gd (inR ((hI h 177 39) - (hI h 177 38))) (gd (inR (3)) (if 3 < ((hI h 177 39) - (hI h 177 38)) then zY 218 314 [some (zR (some 177)), some (zI x1), some (zI x2)] [zR (some 177)] h else zY 218 318 [some (zR (some 177)), some (zI x1), some (zI x2)] [zR (some 177)] h)))) from zGo 7 218 301 _ _ _).trans ?_
        refine (gd_t (⟨rfl, (PTM KM 177 _ rfl rfl), (PNM KM 177 rfl)⟩) _).trans ?_
        refine (gd_t (⟨rfl, (PTM KM 177 _ rfl rfl), (PNM KM 177 rfl)⟩) _).trans ?_
        refine gd_c Iff.rfl (fun c11 => ?_)
        refine (gd_t (by decide) _).trans ?_
        refine iteC (fun c12 => ?_) (fun c12 => ?_)
        · skip
          refine (show zY 218 314 [some (zR (some 177)), some (zI x1), some (zI x2)] [zR (some 177)] h = gd (inR (4)) (gd (zob h (some 177) 12) (gd (([] : List zV).isEmpty = true ∧ zrk 218 = 0) (some (.inl (none), (sI h 177 37 4))))) from zGo 5 218 314 _ _ _).trans ?_
          refine (gd_t (by decide) _).trans ?_
          refine (gd_t (⟨rfl, (PTM KM 177 _ rfl rfl), (PNM KM 177 rfl)⟩) _).trans ?_
          refine (gd_t (⟨rfl, rfl⟩) _).trans ?_
          rfl
        · skip
          refine (show zY 218 318 [some (zR (some 177)), some (zI x1), some (zI x2)] [zR (some 177)] h = gd (inR (2)) (gd (zob h (some 177) 12) (gd (([] : List zV).isEmpty = true ∧ zrk 218 = 0) (some (.inl (none), (sI h 177 37 2))))) from zGo 4 218 318 _ _ _).trans ?_
          refine (gd_t (by decide) _).trans ?_
          refine (gd_t (⟨rfl, (PTM KM 177 _ rfl rfl), (PNM KM 177 rfl)⟩) _).trans ?_
          refine (gd_t (⟨rfl, rfl⟩) _).trans ?_
          rfl
      · skip
        refine (show zY 218 314 [some (zR (some 177)), some (zI x1), some (zI x2)] [zR (some 177)] h = gd (inR (4)) (gd (zob h (some 177) 12) (gd (([] : List zV).isEmpty = true ∧ zrk 218 = 0) (some (.inl (none), (sI h 177 37 4))))) from zGo 5 218 314 _ _ _).trans ?_
        refine (gd_t (by decide) _).trans ?_
        refine (gd_t (⟨rfl, (PTM KM 177 _ rfl rfl), (PNM KM 177 rfl)⟩) _).trans ?_
        refine (gd_t (⟨rfl, rfl⟩) _).trans ?_
        rfl
  · skip
    refine (show zY 218 296 [some (zR (some 177)), some (zI x1), some (zI x2)] [] h = if x2 = 0 then zY 218 301 [some (zR (some 177)), some (zI x1), some (zI x2)] [zR (some 177)] h else zY 218 314 [some (zR (some 177)), some (zI x1), some (zI x2)] [zR (some 177)] h from zGo 3 218 296 _ _ _).trans ?_
    refine iteC (fun c13 => ?_) (fun c13 => ?_)
    · skip
      refine (show zY 218 301 [some (zR (some 177)), some (zI x1), some (zI x2)] [zR (some 177)] h = gd (zob h (some 177) 12) (gd (zob h (some 177) 12) (gd (inR ((hI h 177 39) - (hI h 177 38))) (gd (inR (3)) (if 3 < ((hI h 177 39) - (hI h 177 38)) then zY 218 314 [some (zR (some 177)), some (zI x1), some (zI x2)] [zR (some 177)] h else zY 218 318 [some (zR (some 177)), some (zI x1), some (zI x2)] [zR (some 177)] h)))) from zGo 7 218 301 _ _ _).trans ?_
      refine (gd_t (⟨rfl, (PTM KM 177 _ rfl rfl), (PNM KM 177 rfl)⟩) _).trans ?_
      refine (gd_t (⟨rfl, (PTM KM 177 _ rfl rfl), (PNM KM 177 rfl)⟩) _).trans ?_
      refine gd_c Iff.rfl (fun c14 => ?_)
      refine (gd_t (by decide) _).trans ?_
      refine iteC (fun c15 => ?_) (fun c15 => ?_)
      · skip
        refine (show zY 218 314 [some (zR (some 177)), some (zI x1), some (zI x2)] [zR (some 177)] h = gd (inR (4)) (gd (zob h (some 177) 12) (gd (([] : List zV).isEmpty = true ∧ zrk 218 = 0) (some (.inl (none), (sI h 177 37 4))))) from zGo 5 218 314 _ _ _).trans ?_
        refine (gd_t (by decide) _).trans ?_
        refine (gd_t (⟨rfl, (PTM KM 177 _ rfl rfl), (PNM KM 177 rfl)⟩) _).trans ?_
        refine (gd_t (⟨rfl, rfl⟩) _).trans ?_
        rfl
      · skip
        refine (show zY 218 318 [some (zR (some 177)), some (zI x1), some (zI x2)] [zR (some 177)] h = gd (inR (2)) (gd (zob h (some 177) 12) (gd (([] : List zV).isEmpty = true ∧ zrk 218 = 0) (some (.inl (none), (sI h 177 37 2))))) from zGo 4 218 318 _ _ _).trans ?_
        refine (gd_t (by decide) _).trans ?_
        refine (gd_t (⟨rfl, (PTM KM 177 _ rfl rfl), (PNM KM 177 rfl)⟩) _).trans ?_
        refine (gd_t (⟨rfl, rfl⟩) _).trans ?_
        rfl
    · skip
      refine (show zY 218 314 [some (zR (some 177)), some (zI x1), some (zI x2)] [zR (some 177)] h = gd (inR (4)) (gd (zob h (some 177) 12) (gd (([] : List zV).isEmpty = true ∧ zrk 218 = 0) (some (.inl (none), (sI h 177 37 4))))) from zGo 5 218 314 _ _ _).trans ?_
      refine (gd_t (by decide) _).trans ?_
      refine (gd_t (⟨rfl, (PTM KM 177 _ rfl rfl), (PNM KM 177 rfl)⟩) _).trans ?_
      refine (gd_t (⟨rfl, rfl⟩) _).trans ?_
      rfl
theorem q_M_errs {h : zH} {x1 : Int} (KM : KM h) : zC 223 [zR (some 177), zI x1] h =
    if (hI h 177 41) = 0 then
      some (.inl (none), (sI (sI h 177 41 x1) 177 42 (hI h 177 38)))
    else
      some (.inl (none), h) := by
  refine (show zC 223 [zR (some 177), zI x1] h = gd (zob h (some 177) 12) (if (hI h 177 41) = 0 then zY 223 7 [some (zR (some 177)), some (zI x1)] [] h else zY 223 20 [some (zR (some 177)), some (zI x1)] [] h) from zGo 3 223 0 _ _ _).trans ?_
  refine (gd_t (⟨rfl, (PTM KM 177 _ rfl rfl), (PNM KM 177 rfl)⟩) _).trans ?_
  refine iteC (fun c0 => ?_) (fun c0 => ?_)
  · skip
    refine (show zY 223 7 [some (zR (some 177)), some (zI x1)] [] h = gd (zob h (some 177) 12) (gd (zob (sI h 177 41 x1) (some 177) 12) (gd (zob (sI h 177 41 x1) (some 177) 12) (gd (([] : List zV).isEmpty = true ∧ zrk 223 = 0) (some (.inl (none), (sI (sI h 177 41 x1) 177 42 (hI h 177 38))))))) from zGo 8 223 7 _ _ _).trans ?_
    refine (gd_t (⟨rfl, (PTM KM 177 _ rfl rfl), (PNM KM 177 rfl)⟩) _).trans ?_
    refine (gd_t (⟨rfl, (PTM KM 177 _ rfl rfl), (PNM KM 177 rfl)⟩) _).trans ?_
    refine (gd_t (⟨rfl, (PTM KM 177 _ rfl rfl), (PNM KM 177 rfl)⟩) _).trans ?_
    refine (gd_t (⟨rfl, rfl⟩) _).trans ?_
    rfl
  · skip
    refine (show zY 223 20 [some (zR (some 177)), some (zI x1)] [] h = gd (([] : List zV).isEmpty = true ∧ zrk 223 = 0) (some (.inl (none), h)) from zGo 1 223 20 _ _ _).trans ?_
    refine (gd_t (⟨rfl, rfl⟩) _).trans ?_
    rfl
theorem q_M_isKey {h : zH} {x1 : Int} (KM : KM h) : zC 222 [zR (some 177), zI x1] h =
    if (hI h 177 37) = 1 then
      gd (-2147483648 ≤ (hI h 177 39) - (hI h 177 38) ∧ (hI h 177 39) - (hI h 177 38) < 2147483648) (
      if 5 < ((hI h 177 39) - (hI h 177 38)) then
        some (.inl (some (zI 0)), h)
      else
        zY 222 25 [some (zR (some 177)), some (zI x1), some (zI 0), none] [] h)
    else
      some (.inl (some (zI 0)), h) := by
  refine (show zC 222 [zR (some 177), zI x1] h = gd (zob h (some 177) 12) (gd (inR (1)) (if (hI h 177 37) = 1 then zY 222 8 [some (zR (some 177)), some (zI x1), none, none] [] h else zY 222 21 [some (zR (some 177)), some (zI x1), none, none] [] h)) from zGo 4 222 0 _ _ _).trans ?_
  refine (gd_t (⟨rfl, (PTM KM 177 _ rfl rfl), (PNM KM 177 rfl)⟩) _).trans ?_
  refine (gd_t (by decide) _).trans ?_
  refine iteC (fun c0 => ?_) (fun c0 => ?_)
  · skip
    refine (show zY 222 8 [some (zR (some 177)), some (zI x1), none, none] [] h = gd (zob h (some 177) 12) (gd (zob h (some 177) 12) (gd (inR ((hI h 177 39) - (hI h 177 38))) (gd (inR (5)) (if 5 < ((hI h 177 39) - (hI h 177 38)) then zY 222 21 [some (zR (some 177)), some (zI x1), none, none] [] h else zY 222 23 [some (zR (some 177)), some (zI x1), none, none] [] h)))) from zGo 7 222 8 _ _ _).trans ?_
    refine (gd_t (⟨rfl, (PTM KM 177 _ rfl rfl), (PNM KM 177 rfl)⟩) _).trans ?_
    refine (gd_t (⟨rfl, (PTM KM 177 _ rfl rfl), (PNM KM 177 rfl)⟩) _).trans ?_
    refine gd_c Iff.rfl (fun c1 => ?_)
    refine (gd_t (by decide) _).trans ?_
    refine iteC (fun c2 => ?_) (fun c2 => ?_)
    · skip
      refine (show zY 222 21 [some (zR (some 177)), some (zI x1), none, none] [] h = gd (inR (0)) (gd (([] : List zV).isEmpty = true ∧ (zrk 222 = 1 ∨ zrk 222 = 6 ∧ ((0 : Int) = 0 ∨ (0 : Int) = 1))) (some (.inl (some (zI 0)), h))) from zGo 2 222 21 _ _ _).trans ?_
      refine (gd_t (by decide) _).trans ?_
      refine (gd_t (⟨rfl, Or.inr ⟨rfl, by decide⟩⟩) _).trans ?_
      rfl
    · skip
      refine (show zY 222 23 [some (zR (some 177)), some (zI x1), none, none] [] h = gd (inR (0)) (zY 222 25 [some (zR (some 177)), some (zI x1), some (zI 0), none] [] h) from zGo 2 222 23 _ _ _).trans ?_
      refine (gd_t (by decide) _).trans ?_
      rfl
  · skip
    refine (show zY 222 21 [some (zR (some 177)), some (zI x1), none, none] [] h = gd (inR (0)) (gd (([] : List zV).isEmpty = true ∧ (zrk 222 = 1 ∨ zrk 222 = 6 ∧ ((0 : Int) = 0 ∨ (0 : Int) = 1))) (some (.inl (some (zI 0)), h))) from zGo 2 222 21 _ _ _).trans ?_
    refine (gd_t (by decide) _).trans ?_
    refine (gd_t (⟨rfl, Or.inr ⟨rfl, by decide⟩⟩) _).trans ?_
    rfl
theorem q_M_isKey_25 {h : zH} {x1 : Int} {x2 : Int} (KM : KM h) : zY 222 25 [some (zR (some 177)), some (zI x1), some (zI x2), none] [] h =
    if x2 < 5 then
      gd (-2147483648 ≤ (hI h 177 39) - (hI h 177 38) ∧ (hI h 177 39) - (hI h 177 38) < 2147483648) (
      if x2 < ((hI h 177 39) - (hI h 177 38)) then
        gd (-2147483648 ≤ (hI h 177 38) + x2 ∧ (hI h 177 38) + x2 < 2147483648) (
        gd (0 ≤ ((hI h 177 38) + x2) ∧ ((hI h 177 38) + x2) < 800) (
        gd (-2147483648 ≤ 5 * x1 ∧ 5 * x1 < 2147483648) (
        gd (-2147483648 ≤ (5 * x1) + x2 ∧ (5 * x1) + x2 < 2147483648) (
        gd (0 ≤ ((5 * x1) + x2) ∧ ((5 * x1) + x2) < 110) (
        if (hI h 185 ((hI h 177 38) + x2).toNat) = (hI h 178 ((5 * x1) + x2).toNat) then
          gd (-2147483648 ≤ x2 + 1 ∧ x2 + 1 < 2147483648) (
          zY 222 25 [some (zR (some 177)), some (zI x1), some (zI (x2 + 1)), some (zI (hI h 185 ((hI h 177 38) + x2).toNat))] [] h)
        else
          some (.inl (some (zI 0)), h))))))
      else
        gd (-2147483648 ≤ 5 * x1 ∧ 5 * x1 < 2147483648) (
        gd (-2147483648 ≤ (5 * x1) + x2 ∧ (5 * x1) + x2 < 2147483648) (
        gd (0 ≤ ((5 * x1) + x2) ∧ ((5 * x1) + x2) < 110) (
        if 0 = (hI h 178 ((5 * x1) + x2).toNat) then
          gd (-2147483648 ≤ x2 + 1 ∧ x2 + 1 < 2147483648) (
          zY 222 25 [some (zR (some 177)), some (zI x1), some (zI (x2 + 1)), some (zI 0)] [] h)
        else
          some (.inl (some (zI 0)), h)))))
    else
      some (.inl (some (zI 1)), h) := by
  refine (show zY 222 25 [some (zR (some 177)), some (zI x1), some (zI x2), none] [] h = gd (inR (5)) (if x2 < 5 then zY 222 30 [some (zR (some 177)), some (zI x1), some (zI x2), none] [] h else zY 222 81 [some (zR (some 177)), some (zI x1), some (zI x2), none] [] h) from zGo 3 222 25 _ _ _).trans ?_
  refine (gd_t (by decide) _).trans ?_
  refine iteC (fun c0 => ?_) (fun c0 => ?_)
  · skip
    refine (show zY 222 30 [some (zR (some 177)), some (zI x1), some (zI x2), none] [] h = gd (zob h (some 177) 12) (gd (zob h (some 177) 12) (gd (inR ((hI h 177 39) - (hI h 177 38))) (if x2 < ((hI h 177 39) - (hI h 177 38)) then zY 222 43 [some (zR (some 177)), some (zI x1), some (zI x2), none] [] h else zY 222 57 [some (zR (some 177)), some (zI x1), some (zI x2), none] [] h))) from zGo 7 222 30 _ _ _).trans ?_
    refine (gd_t (⟨rfl, (PTM KM 177 _ rfl rfl), (PNM KM 177 rfl)⟩) _).trans ?_
    refine (gd_t (⟨rfl, (PTM KM 177 _ rfl rfl), (PNM KM 177 rfl)⟩) _).trans ?_
    refine gd_c Iff.rfl (fun c1 => ?_)
    refine iteC (fun c2 => ?_) (fun c2 => ?_)
    · skip
      refine (show zY 222 43 [some (zR (some 177)), some (zI x1), some (zI x2), none] [] h = gd (zob h (some 177) 12) (zY 222 47 [some (zR (some 177)), some (zI x1), some (zI x2), none] [zR (hR h 177 14)] h) from zGo 2 222 43 _ _ _).trans ?_
      refine (gd_t (⟨rfl, (PTM KM 177 _ rfl rfl), (PNM KM 177 rfl)⟩) _).trans ?_
      refine (congrArg (fun r => zY 222 47 [some (zR (some 177)), some (zI x1), some (zI x2), none] (zR r :: []) h) (PRM KM 177 14 _ rfl)).trans ?_
      refine (show zY 222 47 [some (zR (some 177)), some (zI x1), some (zI x2), none] [zR (some 185)] h = gd (zob h (some 177) 12) (gd (inR ((hI h 177 38) + x2)) (gd (zokw h (some 185) 21 ((hI h 177 38) + x2) ∨ zokw h (some 185) 20 ((hI h 177 38) + x2)) (gd (zob h (some 177) 12) (zY 222 64 [some (zR (some 177)), some (zI x1), some (zI x2), some (zI (hI h 185 ((hI h 177 38) + x2).toNat))] [zR (hR h 177 0), zI (hI h 185 ((hI h 177 38) + x2).toNat)] h)))) from zGo 10 222 47 _ _ _).trans ?_
      refine (gd_t (⟨rfl, (PTM KM 177 _ rfl rfl), (PNM KM 177 rfl)⟩) _).trans ?_
      refine gd_c Iff.rfl (fun c3 => ?_)
      refine gd_c (cib21 (PTM KM 185 _ rfl rfl) (PNM KM 185 rfl) (PLM KM 185 800 rfl rfl)) (fun c4 => ?_)
      refine (gd_t (⟨rfl, (PTM KM 177 _ rfl rfl), (PNM KM 177 rfl)⟩) _).trans ?_
      refine (congrArg (fun r => zY 222 64 [some (zR (some 177)), some (zI x1), some (zI x2), some (zI (hI h 185 ((hI h 177 38) + x2).toNat))] (zR r :: zI (hI h 185 ((hI h 177 38) + x2).toNat) :: []) h) (PRM KM 177 0 _ rfl)).trans ?_
      refine (show zY 222 64 [some (zR (some 177)), some (zI x1), some (zI x2), some (zI (hI h 185 ((hI h 177 38) + x2).toNat))] [zR (some 178), zI (hI h 185 ((hI h 177 38) + x2).toNat)] h = gd (inR (5)) (gd (inR (5 * x1)) (gd (inR ((5 * x1) + x2)) (gd (zok h (some 178) 22 ((5 * x1) + x2)) (if (hI h 185 ((hI h 177 38) + x2).toNat) = (hI h 178 ((5 * x1) + x2).toNat) then zY 222 75 [some (zR (some 177)), some (zI x1), some (zI x2), some (zI (hI h 185 ((hI h 177 38) + x2).toNat))] [] h else zY 222 73 [some (zR (some 177)), some (zI x1), some (zI x2), some (zI (hI h 185 ((hI h 177 38) + x2).toNat))] [] h)))) from zGo 7 222 64 _ _ _).trans ?_
      refine (gd_t (by decide) _).trans ?_
      refine gd_c Iff.rfl (fun c5 => ?_)
      refine gd_c Iff.rfl (fun c6 => ?_)
      refine gd_c (ci (PTM KM 178 _ rfl rfl) (PLM KM 178 110 rfl rfl)) (fun c7 => ?_)
      refine iteC (fun c8 => ?_) (fun c8 => ?_)
      · skip
        refine (show zY 222 75 [some (zR (some 177)), some (zI x1), some (zI x2), some (zI (hI h 185 ((hI h 177 38) + x2).toNat))] [] h = gd (inR (x2 + 1)) (gd (inR (1)) (zY 222 25 [some (zR (some 177)), some (zI x1), some (zI (x2 + 1)), some (zI (hI h 185 ((hI h 177 38) + x2).toNat))] [] h)) from zGo 2 222 75 _ _ _).trans ?_
        refine gd_c Iff.rfl (fun c9 => ?_)
        refine (gd_t (by decide) _).trans ?_
        rfl
      · skip
        refine (show zY 222 73 [some (zR (some 177)), some (zI x1), some (zI x2), some (zI (hI h 185 ((hI h 177 38) + x2).toNat))] [] h = gd (inR (0)) (gd (([] : List zV).isEmpty = true ∧ (zrk 222 = 1 ∨ zrk 222 = 6 ∧ ((0 : Int) = 0 ∨ (0 : Int) = 1))) (some (.inl (some (zI 0)), h))) from zGo 2 222 73 _ _ _).trans ?_
        refine (gd_t (by decide) _).trans ?_
        refine (gd_t (⟨rfl, Or.inr ⟨rfl, by decide⟩⟩) _).trans ?_
        rfl
    · skip
      refine (show zY 222 57 [some (zR (some 177)), some (zI x1), some (zI x2), none] [] h = gd (inR (0)) (gd (zob h (some 177) 12) (zY 222 64 [some (zR (some 177)), some (zI x1), some (zI x2), some (zI 0)] [zR (hR h 177 0), zI 0] h)) from zGo 5 222 57 _ _ _).trans ?_
      refine (gd_t (by decide) _).trans ?_
      refine (gd_t (⟨rfl, (PTM KM 177 _ rfl rfl), (PNM KM 177 rfl)⟩) _).trans ?_
      refine (congrArg (fun r => zY 222 64 [some (zR (some 177)), some (zI x1), some (zI x2), some (zI 0)] (zR r :: zI 0 :: []) h) (PRM KM 177 0 _ rfl)).trans ?_
      refine (show zY 222 64 [some (zR (some 177)), some (zI x1), some (zI x2), some (zI 0)] [zR (some 178), zI 0] h = gd (inR (5)) (gd (inR (5 * x1)) (gd (inR ((5 * x1) + x2)) (gd (zok h (some 178) 22 ((5 * x1) + x2)) (if 0 = (hI h 178 ((5 * x1) + x2).toNat) then zY 222 75 [some (zR (some 177)), some (zI x1), some (zI x2), some (zI 0)] [] h else zY 222 73 [some (zR (some 177)), some (zI x1), some (zI x2), some (zI 0)] [] h)))) from zGo 7 222 64 _ _ _).trans ?_
      refine (gd_t (by decide) _).trans ?_
      refine gd_c Iff.rfl (fun c10 => ?_)
      refine gd_c Iff.rfl (fun c11 => ?_)
      refine gd_c (ci (PTM KM 178 _ rfl rfl) (PLM KM 178 110 rfl rfl)) (fun c12 => ?_)
      refine iteC (fun c13 => ?_) (fun c13 => ?_)
      · skip
        refine (show zY 222 75 [some (zR (some 177)), some (zI x1), some (zI x2), some (zI 0)] [] h = gd (inR (x2 + 1)) (gd (inR (1)) (zY 222 25 [some (zR (some 177)), some (zI x1), some (zI (x2 + 1)), some (zI 0)] [] h)) from zGo 2 222 75 _ _ _).trans ?_
        refine gd_c Iff.rfl (fun c14 => ?_)
        refine (gd_t (by decide) _).trans ?_
        rfl
      · skip
        refine (show zY 222 73 [some (zR (some 177)), some (zI x1), some (zI x2), some (zI 0)] [] h = gd (inR (0)) (gd (([] : List zV).isEmpty = true ∧ (zrk 222 = 1 ∨ zrk 222 = 6 ∧ ((0 : Int) = 0 ∨ (0 : Int) = 1))) (some (.inl (some (zI 0)), h))) from zGo 2 222 73 _ _ _).trans ?_
        refine (gd_t (by decide) _).trans ?_
        refine (gd_t (⟨rfl, Or.inr ⟨rfl, by decide⟩⟩) _).trans ?_
        rfl
  · skip
    refine (show zY 222 81 [some (zR (some 177)), some (zI x1), some (zI x2), none] [] h = gd (inR (1)) (gd (([] : List zV).isEmpty = true ∧ (zrk 222 = 1 ∨ zrk 222 = 6 ∧ ((1 : Int) = 0 ∨ (1 : Int) = 1))) (some (.inl (some (zI 1)), h))) from zGo 2 222 81 _ _ _).trans ?_
    refine (gd_t (by decide) _).trans ?_
    refine (gd_t (⟨rfl, Or.inr ⟨rfl, by decide⟩⟩) _).trans ?_
    rfl
theorem q_M_takesKey {h : zH} {x1 : Int} (KM : KM h) : zC 221 [zR (some 177), zI x1] h =
    if (hI h 177 41) = 0 then
      zBack zY 221 9 12 [some (zR (some 177)), some (zI x1)] [] (zC 222 [zR (some 177), zI x1] h)
    else
      some (.inl (none), h) := by
  refine (show zC 221 [zR (some 177), zI x1] h = gd (zob h (some 177) 12) (if (hI h 177 41) = 0 then zY 221 7 [some (zR (some 177)), some (zI x1)] [] h else zY 221 20 [some (zR (some 177)), some (zI x1)] [] h) from zGo 3 221 0 _ _ _).trans ?_
  refine (gd_t (⟨rfl, (PTM KM 177 _ rfl rfl), (PNM KM 177 rfl)⟩) _).trans ?_
  refine iteC (fun c0 => ?_) (fun c0 => ?_)
  · skip
    refine (show zY 221 7 [some (zR (some 177)), some (zI x1)] [] h = gd (false = zctor 222 ∧ zcs [] ≤ 8 ∧ zrm 221 (zrf 222 + 1) (8 + (zmaxl 222 + 11) + zrl 222) = true ∧ zcs [zR (some 177), zI x1] ≤ zmaxl 222) (gd (zob h (some 177) 12) (zBack zY 221 9 12 [some (zR (some 177)), some (zI x1)] [] (zC 222 [zR (some 177), zI x1] h))) from zGo 3 221 7 _ _ _).trans ?_
    refine (gd_t (⟨rfl, Nat.le_of_ble_eq_true rfl, rfl, Nat.le_of_ble_eq_true rfl⟩) _).trans ?_
    refine (gd_t (⟨rfl, (PTM KM 177 _ rfl rfl), (PNM KM 177 rfl)⟩) _).trans ?_
    rfl
  · skip
    refine (show zY 221 20 [some (zR (some 177)), some (zI x1)] [] h = gd (zob h (some 177) 12) (if (hI h 177 41) = 0 then zY 221 27 [some (zR (some 177)), some (zI x1)] [] h else zY 221 31 [some (zR (some 177)), some (zI x1)] [] h) from zGo 3 221 20 _ _ _).trans ?_
    refine (gd_t (⟨rfl, (PTM KM 177 _ rfl rfl), (PNM KM 177 rfl)⟩) _).trans ?_
    refine ite_n c0 ?_
    refine (show zY 221 31 [some (zR (some 177)), some (zI x1)] [] h = gd (([] : List zV).isEmpty = true ∧ zrk 221 = 0) (some (.inl (none), h)) from zGo 1 221 31 _ _ _).trans ?_
    refine (gd_t (⟨rfl, rfl⟩) _).trans ?_
    rfl
theorem q_M_takesKey_r12 {h : zH} {x1 : Int} {y : Int} (KM : KM h) : zBack zY 221 9 12 [some (zR (some 177)), some (zI x1)] [] (some (.inl (some (zI y)), h)) =
    if y = 0 then
      zBack zY 221 17 20 [some (zR (some 177)), some (zI x1)] [] (zC 223 [zR (some 177), zI 1] h)
    else
      if (hI h 177 41) = 0 then
        zBack zY 221 28 31 [some (zR (some 177)), some (zI x1)] [] (zC 218 [zR (some 177)] h)
      else
        some (.inl (none), h) := by
  refine (show zBack zY 221 9 12 [some (zR (some 177)), some (zI x1)] [] (some (.inl (some (zI y)), h)) = if y = 0 then zY 221 15 [some (zR (some 177)), some (zI x1)] [] h else zY 221 20 [some (zR (some 177)), some (zI x1)] [] h from zGo 1 221 12 _ _ _).trans ?_
  refine iteC (fun c0 => ?_) (fun c0 => ?_)
  · skip
    refine (show zY 221 15 [some (zR (some 177)), some (zI x1)] [] h = gd (inR (1)) (gd (false = zctor 223 ∧ zcs [] ≤ 8 ∧ zrm 221 (zrf 223 + 1) (8 + (zmaxl 223 + 11) + zrl 223) = true ∧ zcs [zR (some 177), zI 1] ≤ zmaxl 223) (gd (zob h (some 177) 12) (zBack zY 221 17 20 [some (zR (some 177)), some (zI x1)] [] (zC 223 [zR (some 177), zI 1] h)))) from zGo 3 221 15 _ _ _).trans ?_
    refine (gd_t (by decide) _).trans ?_
    refine (gd_t (⟨rfl, Nat.le_of_ble_eq_true rfl, rfl, Nat.le_of_ble_eq_true rfl⟩) _).trans ?_
    refine (gd_t (⟨rfl, (PTM KM 177 _ rfl rfl), (PNM KM 177 rfl)⟩) _).trans ?_
    rfl
  · skip
    refine (show zY 221 20 [some (zR (some 177)), some (zI x1)] [] h = gd (zob h (some 177) 12) (if (hI h 177 41) = 0 then zY 221 27 [some (zR (some 177)), some (zI x1)] [] h else zY 221 31 [some (zR (some 177)), some (zI x1)] [] h) from zGo 3 221 20 _ _ _).trans ?_
    refine (gd_t (⟨rfl, (PTM KM 177 _ rfl rfl), (PNM KM 177 rfl)⟩) _).trans ?_
    refine iteC (fun c1 => ?_) (fun c1 => ?_)
    · skip
      refine (show zY 221 27 [some (zR (some 177)), some (zI x1)] [] h = gd (false = zctor 218 ∧ zcs [] ≤ 8 ∧ zrm 221 (zrf 218 + 1) (8 + (zmaxl 218 + 11) + zrl 218) = true ∧ zcs [zR (some 177)] ≤ zmaxl 218) (gd (zob h (some 177) 12) (zBack zY 221 28 31 [some (zR (some 177)), some (zI x1)] [] (zC 218 [zR (some 177)] h))) from zGo 2 221 27 _ _ _).trans ?_
      refine (gd_t (⟨rfl, Nat.le_of_ble_eq_true rfl, rfl, Nat.le_of_ble_eq_true rfl⟩) _).trans ?_
      refine (gd_t (⟨rfl, (PTM KM 177 _ rfl rfl), (PNM KM 177 rfl)⟩) _).trans ?_
      rfl
    · skip
      refine (show zY 221 31 [some (zR (some 177)), some (zI x1)] [] h = gd (([] : List zV).isEmpty = true ∧ zrk 221 = 0) (some (.inl (none), h)) from zGo 1 221 31 _ _ _).trans ?_
      refine (gd_t (⟨rfl, rfl⟩) _).trans ?_
      rfl
theorem q_M_takesKey_r20 {h : zH} {x1 : Int} (KM : KM h) : zBack zY 221 17 20 [some (zR (some 177)), some (zI x1)] [] (some (.inl (none), h)) =
    if (hI h 177 41) = 0 then
      zBack zY 221 28 31 [some (zR (some 177)), some (zI x1)] [] (zC 218 [zR (some 177)] h)
    else
      some (.inl (none), h) := by
  refine (show zBack zY 221 17 20 [some (zR (some 177)), some (zI x1)] [] (some (.inl (none), h)) = gd (zob h (some 177) 12) (if (hI h 177 41) = 0 then zY 221 27 [some (zR (some 177)), some (zI x1)] [] h else zY 221 31 [some (zR (some 177)), some (zI x1)] [] h) from zGo 3 221 20 _ _ _).trans ?_
  refine (gd_t (⟨rfl, (PTM KM 177 _ rfl rfl), (PNM KM 177 rfl)⟩) _).trans ?_
  refine iteC (fun c0 => ?_) (fun c0 => ?_)
  · skip
    refine (show zY 221 27 [some (zR (some 177)), some (zI x1)] [] h = gd (false = zctor 218 ∧ zcs [] ≤ 8 ∧ zrm 221 (zrf 218 + 1) (8 + (zmaxl 218 + 11) + zrl 218) = true ∧ zcs [zR (some 177)] ≤ zmaxl 218) (gd (zob h (some 177) 12) (zBack zY 221 28 31 [some (zR (some 177)), some (zI x1)] [] (zC 218 [zR (some 177)] h))) from zGo 2 221 27 _ _ _).trans ?_
    refine (gd_t (⟨rfl, Nat.le_of_ble_eq_true rfl, rfl, Nat.le_of_ble_eq_true rfl⟩) _).trans ?_
    refine (gd_t (⟨rfl, (PTM KM 177 _ rfl rfl), (PNM KM 177 rfl)⟩) _).trans ?_
    rfl
  · skip
    refine (show zY 221 31 [some (zR (some 177)), some (zI x1)] [] h = gd (([] : List zV).isEmpty = true ∧ zrk 221 = 0) (some (.inl (none), h)) from zGo 1 221 31 _ _ _).trans ?_
    refine (gd_t (⟨rfl, rfl⟩) _).trans ?_
    rfl
theorem q_M_takesKey_r31 {h : zH} {x1 : Int} (KM : KM h) : zBack zY 221 28 31 [some (zR (some 177)), some (zI x1)] [] (some (.inl (none), h)) =
    some (.inl (none), h) := by
  refine (show zBack zY 221 28 31 [some (zR (some 177)), some (zI x1)] [] (some (.inl (none), h)) = gd (([] : List zV).isEmpty = true ∧ zrk 221 = 0) (some (.inl (none), h)) from zGo 1 221 31 _ _ _).trans ?_
  refine (gd_t (⟨rfl, rfl⟩) _).trans ?_
  rfl
theorem q_M_nodeHere {h : zH} (KM : KM h) : zC 225 [zR (some 177)] h =
    if (hI h 177 37) = 2 then
      some (.inl (some (zI (hI h 177 40))), h)
    else
      zY 225 15 [some (zR (some 177)), some (zI 0)] [] h := by
  refine (show zC 225 [zR (some 177)] h = gd (zob h (some 177) 12) (gd (inR (2)) (if (hI h 177 37) = 2 then zY 225 8 [some (zR (some 177)), none] [] h else zY 225 13 [some (zR (some 177)), none] [] h)) from zGo 4 225 0 _ _ _).trans ?_
  refine (gd_t (⟨rfl, (PTM KM 177 _ rfl rfl), (PNM KM 177 rfl)⟩) _).trans ?_
  refine (gd_t (by decide) _).trans ?_
  refine iteC (fun c0 => ?_) (fun c0 => ?_)
  · skip
    refine (show zY 225 8 [some (zR (some 177)), none] [] h = gd (zob h (some 177) 12) (gd (([] : List zV).isEmpty = true ∧ (zrk 225 = 1 ∨ zrk 225 = 6 ∧ (((hI h 177 40) : Int) = 0 ∨ ((hI h 177 40) : Int) = 1))) (some (.inl (some (zI (hI h 177 40))), h))) from zGo 3 225 8 _ _ _).trans ?_
    refine (gd_t (⟨rfl, (PTM KM 177 _ rfl rfl), (PNM KM 177 rfl)⟩) _).trans ?_
    refine (gd_t (⟨rfl, Or.inl rfl⟩) _).trans ?_
    rfl
  · skip
    refine (show zY 225 13 [some (zR (some 177)), none] [] h = gd (inR (0)) (zY 225 15 [some (zR (some 177)), some (zI 0)] [] h) from zGo 2 225 13 _ _ _).trans ?_
    refine (gd_t (by decide) _).trans ?_
    rfl
theorem q_M_nodeHere_15 {h : zH} {x1 : Int} (KM : KM h) : zY 225 15 [some (zR (some 177)), some (zI x1)] [] h =
    if x1 < 13 then
      zBack zY 225 23 26 [some (zR (some 177)), some (zI x1)] [] (zC 222 [zR (some 177), zI x1] h)
    else
      some (.inl (some (zI (-1))), h) := by
  refine (show zY 225 15 [some (zR (some 177)), some (zI x1)] [] h = gd (-128 ≤ (13 : Int) ∧ (13 : Int) < 128) (if x1 < 13 then zY 225 21 [some (zR (some 177)), some (zI x1)] [] h else zY 225 39 [some (zR (some 177)), some (zI x1)] [] h) from zGo 3 225 15 _ _ _).trans ?_
  refine (gd_t (by decide) _).trans ?_
  refine iteC (fun c0 => ?_) (fun c0 => ?_)
  · skip
    refine (show zY 225 21 [some (zR (some 177)), some (zI x1)] [] h = gd (false = zctor 222 ∧ zcs [] ≤ 8 ∧ zrm 225 (zrf 222 + 1) (8 + (zmaxl 222 + 11) + zrl 222) = true ∧ zcs [zR (some 177), zI x1] ≤ zmaxl 222) (gd (zob h (some 177) 12) (zBack zY 225 23 26 [some (zR (some 177)), some (zI x1)] [] (zC 222 [zR (some 177), zI x1] h))) from zGo 3 225 21 _ _ _).trans ?_
    refine (gd_t (⟨rfl, Nat.le_of_ble_eq_true rfl, rfl, Nat.le_of_ble_eq_true rfl⟩) _).trans ?_
    refine (gd_t (⟨rfl, (PTM KM 177 _ rfl rfl), (PNM KM 177 rfl)⟩) _).trans ?_
    rfl
  · skip
    refine (show zY 225 39 [some (zR (some 177)), some (zI x1)] [] h = gd (inR (-1)) (gd (([] : List zV).isEmpty = true ∧ (zrk 225 = 1 ∨ zrk 225 = 6 ∧ (((-1) : Int) = 0 ∨ ((-1) : Int) = 1))) (some (.inl (some (zI (-1))), h))) from zGo 2 225 39 _ _ _).trans ?_
    refine (gd_t (by decide) _).trans ?_
    refine (gd_t (⟨rfl, Or.inl rfl⟩) _).trans ?_
    rfl
theorem q_M_nodeHere_r26 {h : zH} {x1 : Int} {y : Int} (KM : KM h) : zBack zY 225 23 26 [some (zR (some 177)), some (zI x1)] [] (some (.inl (some (zI y)), h)) =
    if y = 0 then
      gd (-2147483648 ≤ x1 + 1 ∧ x1 + 1 < 2147483648) (
      zY 225 15 [some (zR (some 177)), some (zI (x1 + 1))] [] h)
    else
      gd (-2147483648 ≤ 4 + x1 ∧ 4 + x1 < 2147483648) (
      some (.inl (some (zI (4 + x1))), h)) := by
  refine (show zBack zY 225 23 26 [some (zR (some 177)), some (zI x1)] [] (some (.inl (some (zI y)), h)) = if y = 0 then zY 225 33 [some (zR (some 177)), some (zI x1)] [] h else zY 225 29 [some (zR (some 177)), some (zI x1)] [] h from zGo 1 225 26 _ _ _).trans ?_
  refine iteC (fun c0 => ?_) (fun c0 => ?_)
  · skip
    refine (show zY 225 33 [some (zR (some 177)), some (zI x1)] [] h = gd (inR (x1 + 1)) (gd (inR (1)) (zY 225 15 [some (zR (some 177)), some (zI (x1 + 1))] [] h)) from zGo 2 225 33 _ _ _).trans ?_
    refine gd_c Iff.rfl (fun c1 => ?_)
    refine (gd_t (by decide) _).trans ?_
    rfl
  · skip
    refine (show zY 225 29 [some (zR (some 177)), some (zI x1)] [] h = gd (inR (4)) (gd (inR (4 + x1)) (gd (([] : List zV).isEmpty = true ∧ (zrk 225 = 1 ∨ zrk 225 = 6 ∧ (((4 + x1) : Int) = 0 ∨ ((4 + x1) : Int) = 1))) (some (.inl (some (zI (4 + x1))), h)))) from zGo 4 225 29 _ _ _).trans ?_
    refine (gd_t (by decide) _).trans ?_
    refine gd_c Iff.rfl (fun c2 => ?_)
    refine (gd_t (⟨rfl, Or.inl rfl⟩) _).trans ?_
    rfl
theorem q_M_readsForm {h : zH} {x1 : Int} {x2 : Int} (KM : KM h) : zC 224 [zR (some 177), zI x1, zI x2] h =
    gd (-2147483648 ≤ 31 * x1 ∧ 31 * x1 < 2147483648) (
    gd (0 ≤ (31 * x1) ∧ (31 * x1) < 2342) (
    zY 224 22 [some (zR (some 177)), some (zI x1), some (zI x2), some (zI (31 * x1)), some (zI 1), none, none, none] [] (sI (sI h 179 (31 * x1).toNat 0) 196 0 x2))) := by
  refine (show zC 224 [zR (some 177), zI x1, zI x2] h = gd (-128 ≤ (31 : Int) ∧ (31 : Int) < 128) (gd (inR (31 * x1)) (gd (zob h (some 177) 12) (zY 224 9 [some (zR (some 177)), some (zI x1), some (zI x2), some (zI (31 * x1)), none, none, none, none] [zR (hR h 177 2)] h))) from zGo 6 224 0 _ _ _).trans ?_
  refine (gd_t (by decide) _).trans ?_
  refine gd_c Iff.rfl (fun c0 => ?_)
  refine (gd_t (⟨rfl, (PTM KM 177 _ rfl rfl), (PNM KM 177 rfl)⟩) _).trans ?_
  refine (congrArg (fun r => zY 224 9 [some (zR (some 177)), some (zI x1), some (zI x2), some (zI (31 * x1)), none, none, none, none] (zR r :: []) h) (PRM KM 177 2 _ rfl)).trans ?_
  refine (show zY 224 9 [some (zR (some 177)), some (zI x1), some (zI x2), some (zI (31 * x1)), none, none, none, none] [zR (some 179)] h = gd (inR (0)) (gd (zokw h (some 179) 22 (31 * x1)) (gd (zob (sI h 179 (31 * x1).toNat 0) (some 177) 12) (zY 224 16 [some (zR (some 177)), some (zI x1), some (zI x2), some (zI (31 * x1)), none, none, none, none] [zR (hR h 177 43)] (sI h 179 (31 * x1).toNat 0)))) from zGo 5 224 9 _ _ _).trans ?_
  refine (gd_t (by decide) _).trans ?_
  refine gd_c (ciw (PTM KM 179 _ rfl rfl) (PNM KM 179 rfl) (PLM KM 179 2342 rfl rfl)) (fun c1 => ?_)
  refine (gd_t (⟨rfl, (PTM KM 177 _ rfl rfl), (PNM KM 177 rfl)⟩) _).trans ?_
  refine (congrArg (fun r => zY 224 16 [some (zR (some 177)), some (zI x1), some (zI x2), some (zI (31 * x1)), none, none, none, none] (zR r :: []) (sI h 179 (31 * x1).toNat 0)) (PRM KM 177 43 _ rfl)).trans ?_
  refine (show zY 224 16 [some (zR (some 177)), some (zI x1), some (zI x2), some (zI (31 * x1)), none, none, none, none] [zR (some 196)] (sI h 179 (31 * x1).toNat 0) = gd (inR (0)) (gd (zokw (sI h 179 (31 * x1).toNat 0) (some 196) 22 0) (gd (inR (1)) (zY 224 22 [some (zR (some 177)), some (zI x1), some (zI x2), some (zI (31 * x1)), some (zI 1), none, none, none] [] (sI (sI h 179 (31 * x1).toNat 0) 196 0 x2)))) from zGo 5 224 16 _ _ _).trans ?_
  refine (gd_t (by decide) _).trans ?_
  refine (gd_t ((ciw (PTM KM 196 _ rfl rfl) (PNM KM 196 rfl) (PLM KM 196 64 rfl rfl)).2 ⟨by decide, by decide⟩) _).trans ?_
  refine (gd_t (by decide) _).trans ?_
  rfl
theorem q_M_readsForm_22 {h : zH} {x1 : Int} {x2 : Int} {x3 : Int} {x4 : Int} (KM : KM h) : zY 224 22 [some (zR (some 177)), some (zI x1), some (zI x2), some (zI x3), some (zI x4), none, none, none] [] h =
    if 0 < x4 then
      if (hI h 177 41) = 0 then
        gd (-2147483648 ≤ x4 + (-1) ∧ x4 + (-1) < 2147483648) (
        zBack zY 224 38 41 [some (zR (some 177)), some (zI x1), some (zI x2), some (zI x3), some (zI (x4 + (-1))), none, none, none] [] (zC 225 [zR (some 177)] h))
      else
        some (.inl (none), h)
    else
      some (.inl (none), h) := by
  refine (show zY 224 22 [some (zR (some 177)), some (zI x1), some (zI x2), some (zI x3), some (zI x4), none, none, none] [] h = if 0 < x4 then zY 224 27 [some (zR (some 177)), some (zI x1), some (zI x2), some (zI x3), some (zI x4), none, none, none] [] h else zY 224 216 [some (zR (some 177)), some (zI x1), some (zI x2), some (zI x3), some (zI x4), none, none, none] [] h from zGo 2 224 22 _ _ _).trans ?_
  refine iteC (fun c0 => ?_) (fun c0 => ?_)
  · skip
    refine (show zY 224 27 [some (zR (some 177)), some (zI x1), some (zI x2), some (zI x3), some (zI x4), none, none, none] [] h = gd (zob h (some 177) 12) (if (hI h 177 41) = 0 then zY 224 34 [some (zR (some 177)), some (zI x1), some (zI x2), some (zI x3), some (zI x4), none, none, none] [] h else zY 224 216 [some (zR (some 177)), some (zI x1), some (zI x2), some (zI x3), some (zI x4), none, none, none] [] h) from zGo 3 224 27 _ _ _).trans ?_
    refine (gd_t (⟨rfl, (PTM KM 177 _ rfl rfl), (PNM KM 177 rfl)⟩) _).trans ?_
    refine iteC (fun c1 => ?_) (fun c1 => ?_)
    · skip
      refine (show zY 224 34 [some (zR (some 177)), some (zI x1), some (zI x2), some (zI x3), some (zI x4), none, none, none] [] h = gd (inR (x4 + (-1))) (gd (inR (-1)) (gd (false = zctor 225 ∧ zcs [] ≤ 8 ∧ zrm 224 (zrf 225 + 1) (8 + (zmaxl 225 + 11) + zrl 225) = true ∧ zcs [zR (some 177)] ≤ zmaxl 225) (gd (zob h (some 177) 12) (zBack zY 224 38 41 [some (zR (some 177)), some (zI x1), some (zI x2), some (zI x3), some (zI (x4 + (-1))), none, none, none] [] (zC 225 [zR (some 177)] h))))) from zGo 3 224 34 _ _ _).trans ?_
      refine gd_c Iff.rfl (fun c2 => ?_)
      refine (gd_t (by decide) _).trans ?_
      refine (gd_t (⟨rfl, Nat.le_of_ble_eq_true rfl, rfl, Nat.le_of_ble_eq_true rfl⟩) _).trans ?_
      refine (gd_t (⟨rfl, (PTM KM 177 _ rfl rfl), (PNM KM 177 rfl)⟩) _).trans ?_
      rfl
    · skip
      refine (show zY 224 216 [some (zR (some 177)), some (zI x1), some (zI x2), some (zI x3), some (zI x4), none, none, none] [] h = gd (([] : List zV).isEmpty = true ∧ zrk 224 = 0) (some (.inl (none), h)) from zGo 1 224 216 _ _ _).trans ?_
      refine (gd_t (⟨rfl, rfl⟩) _).trans ?_
      rfl
  · skip
    refine (show zY 224 216 [some (zR (some 177)), some (zI x1), some (zI x2), some (zI x3), some (zI x4), none, none, none] [] h = gd (([] : List zV).isEmpty = true ∧ zrk 224 = 0) (some (.inl (none), h)) from zGo 1 224 216 _ _ _).trans ?_
    refine (gd_t (⟨rfl, rfl⟩) _).trans ?_
    rfl
theorem q_M_readsForm_r41 {h : zH} {x1 : Int} {x2 : Int} {x3 : Int} {x4 : Int} {y : Int} (KM : KM h) : zBack zY 224 38 41 [some (zR (some 177)), some (zI x1), some (zI x2), some (zI x3), some (zI x4), none, none, none] [] (some (.inl (some (zI y)), h)) =
    if y = (-1) then
      zBack zY 224 76 79 [some (zR (some 177)), some (zI x1), some (zI x2), some (zI x3), some (zI x4), some (zI y), none, none] [] (zC 223 [zR (some 177), zI 1] h)
    else
      gd (0 ≤ x4 ∧ x4 < 64) (
      if (hI h 196 x4.toNat) = 1 then
        if (if b_M_isCondition h y then (1 : Int) else 0) = 1 then
          zY 224 82 [some (zR (some 177)), some (zI x1), some (zI x2), some (zI x3), some (zI x4), some (zI y), none, none] [] h
        else
          zBack zY 224 76 79 [some (zR (some 177)), some (zI x1), some (zI x2), some (zI x3), some (zI x4), some (zI y), none, none] [] (zC 223 [zR (some 177), zI 1] h)
      else
        if b_M_isCondition h y then
          zBack zY 224 76 79 [some (zR (some 177)), some (zI x1), some (zI x2), some (zI x3), some (zI x4), some (zI y), none, none] [] (zC 223 [zR (some 177), zI 1] h)
        else
          zY 224 82 [some (zR (some 177)), some (zI x1), some (zI x2), some (zI x3), some (zI x4), some (zI y), none, none] [] h) := by
  refine (show zBack zY 224 38 41 [some (zR (some 177)), some (zI x1), some (zI x2), some (zI x3), some (zI x4), none, none, none] [] (some (.inl (some (zI y)), h)) = gd (inR (-1)) (if y = (-1) then zY 224 74 [some (zR (some 177)), some (zI x1), some (zI x2), some (zI x3), some (zI x4), some (zI y), none, none] [] h else zY 224 49 [some (zR (some 177)), some (zI x1), some (zI x2), some (zI x3), some (zI x4), some (zI y), none, none] [] h) from zGo 4 224 41 _ _ _).trans ?_
  refine (gd_t (by decide) _).trans ?_
  refine iteC (fun c0 => ?_) (fun c0 => ?_)
  · skip
    refine (show zY 224 74 [some (zR (some 177)), some (zI x1), some (zI x2), some (zI x3), some (zI x4), some (zI y), none, none] [] h = gd (inR (1)) (gd (false = zctor 223 ∧ zcs [] ≤ 8 ∧ zrm 224 (zrf 223 + 1) (8 + (zmaxl 223 + 11) + zrl 223) = true ∧ zcs [zR (some 177), zI 1] ≤ zmaxl 223) (gd (zob h (some 177) 12) (zBack zY 224 76 79 [some (zR (some 177)), some (zI x1), some (zI x2), some (zI x3), some (zI x4), some (zI y), none, none] [] (zC 223 [zR (some 177), zI 1] h)))) from zGo 3 224 74 _ _ _).trans ?_
    refine (gd_t (by decide) _).trans ?_
    refine (gd_t (⟨rfl, Nat.le_of_ble_eq_true rfl, rfl, Nat.le_of_ble_eq_true rfl⟩) _).trans ?_
    refine (gd_t (⟨rfl, (PTM KM 177 _ rfl rfl), (PNM KM 177 rfl)⟩) _).trans ?_
    rfl
  · skip
    refine (show zY 224 49 [some (zR (some 177)), some (zI x1), some (zI x2), some (zI x3), some (zI x4), some (zI y), none, none] [] h = gd (false = zctor 226 ∧ zcs [] ≤ 8 ∧ zrm 224 (zrf 226 + 1) (8 + (zmaxl 226 + 11) + zrl 226) = true ∧ zcs [zR (some 177), zI y] ≤ zmaxl 226) (gd (zob h (some 177) 12) (zBack zY 224 52 55 [some (zR (some 177)), some (zI x1), some (zI x2), some (zI x3), some (zI x4), some (zI y), none, none] [] (zC 226 [zR (some 177), zI y] h))) from zGo 3 224 49 _ _ _).trans ?_
    refine (gd_t (⟨rfl, Nat.le_of_ble_eq_true rfl, rfl, Nat.le_of_ble_eq_true rfl⟩) _).trans ?_
    refine (gd_t (⟨rfl, (PTM KM 177 _ rfl rfl), (PNM KM 177 rfl)⟩) _).trans ?_
    refine (congrArg (zBack zY 224 52 55 [some (zR (some 177)), some (zI x1), some (zI x2), some (zI x3), some (zI x4), some (zI y), none, none] []) (e_M_isCondition KM)).trans ?_
    refine (show zY 224 55 [some (zR (some 177)), some (zI x1), some (zI x2), some (zI x3), some (zI x4), some (zI y), none, none] [zI (if b_M_isCondition h y then (1 : Int) else 0)] h = gd (zob h (some 177) 12) (zY 224 59 [some (zR (some 177)), some (zI x1), some (zI x2), some (zI x3), some (zI x4), some (zI y), none, none] [zR (hR h 177 43), zI (if b_M_isCondition h y then (1 : Int) else 0)] h) from zGo 2 224 55 _ _ _).trans ?_
    refine (gd_t (⟨rfl, (PTM KM 177 _ rfl rfl), (PNM KM 177 rfl)⟩) _).trans ?_
    refine (congrArg (fun r => zY 224 59 [some (zR (some 177)), some (zI x1), some (zI x2), some (zI x3), some (zI x4), some (zI y), none, none] (zR r :: zI (if b_M_isCondition h y then (1 : Int) else 0) :: []) h) (PRM KM 177 43 _ rfl)).trans ?_
    refine (show zY 224 59 [some (zR (some 177)), some (zI x1), some (zI x2), some (zI x3), some (zI x4), some (zI y), none, none] [zR (some 196), zI (if b_M_isCondition h y then (1 : Int) else 0)] h = gd (zok h (some 196) 22 x4) (gd (inR (1)) (if (hI h 196 x4.toNat) = 1 then zY 224 66 [some (zR (some 177)), some (zI x1), some (zI x2), some (zI x3), some (zI x4), some (zI y), none, none] [zI (if b_M_isCondition h y then (1 : Int) else 0)] h else zY 224 70 [some (zR (some 177)), some (zI x1), some (zI x2), some (zI x3), some (zI x4), some (zI y), none, none] [zI (if b_M_isCondition h y then (1 : Int) else 0)] h)) from zGo 4 224 59 _ _ _).trans ?_
    refine gd_c (ci (PTM KM 196 _ rfl rfl) (PLM KM 196 64 rfl rfl)) (fun c1 => ?_)
    refine (gd_t (by decide) _).trans ?_
    refine iteC (fun c2 => ?_) (fun c2 => ?_)
    · skip
      refine (show zY 224 66 [some (zR (some 177)), some (zI x1), some (zI x2), some (zI x3), some (zI x4), some (zI y), none, none] [zI (if b_M_isCondition h y then (1 : Int) else 0)] h = gd (inR (1)) (if (if b_M_isCondition h y then (1 : Int) else 0) = 1 then zY 224 82 [some (zR (some 177)), some (zI x1), some (zI x2), some (zI x3), some (zI x4), some (zI y), none, none] [] h else zY 224 74 [some (zR (some 177)), some (zI x1), some (zI x2), some (zI x3), some (zI x4), some (zI y), none, none] [] h) from zGo 3 224 66 _ _ _).trans ?_
      refine (gd_t (by decide) _).trans ?_
      refine iteC (fun c3 => ?_) (fun c3 => ?_)
      · skip
        rfl
      · skip
        refine (show zY 224 74 [some (zR (some 177)), some (zI x1), some (zI x2), some (zI x3), some (zI x4), some (zI y), none, none] [] h = gd (inR (1)) (gd (false = zctor 223 ∧ zcs [] ≤ 8 ∧ zrm 224 (zrf 223 + 1) (8 + (zmaxl 223 + 11) + zrl 223) = true ∧ zcs [zR (some 177), zI 1] ≤ zmaxl 223) (gd (zob h (some 177) 12) (zBack zY 224 76 79 [some (zR (some 177)), some (zI x1), some (zI x2), some (zI x3), some (zI x4), some (zI y), none, none] [] (zC 223 [zR (some 177), zI 1] h)))) from zGo 3 224 74 _ _ _).trans ?_
        refine (gd_t (by decide) _).trans ?_
        refine (gd_t (⟨rfl, Nat.le_of_ble_eq_true rfl, rfl, Nat.le_of_ble_eq_true rfl⟩) _).trans ?_
        refine (gd_t (⟨rfl, (PTM KM 177 _ rfl rfl), (PNM KM 177 rfl)⟩) _).trans ?_
        rfl
    · skip
      refine (show zY 224 70 [some (zR (some 177)), some (zI x1), some (zI x2), some (zI x3), some (zI x4), some (zI y), none, none] [zI (if b_M_isCondition h y then (1 : Int) else 0)] h = gd (inR (0)) (if (if b_M_isCondition h y then (1 : Int) else 0) = 0 then zY 224 82 [some (zR (some 177)), some (zI x1), some (zI x2), some (zI x3), some (zI x4), some (zI y), none, none] [] h else zY 224 74 [some (zR (some 177)), some (zI x1), some (zI x2), some (zI x3), some (zI x4), some (zI y), none, none] [] h) from zGo 2 224 70 _ _ _).trans ?_
      refine (gd_t (by decide) _).trans ?_
      refine iteB (fun c4 => ?_) (fun c4 => ?_)
      · skip
        refine (show zY 224 74 [some (zR (some 177)), some (zI x1), some (zI x2), some (zI x3), some (zI x4), some (zI y), none, none] [] h = gd (inR (1)) (gd (false = zctor 223 ∧ zcs [] ≤ 8 ∧ zrm 224 (zrf 223 + 1) (8 + (zmaxl 223 + 11) + zrl 223) = true ∧ zcs [zR (some 177), zI 1] ≤ zmaxl 223) (gd (zob h (some 177) 12) (zBack zY 224 76 79 [some (zR (some 177)), some (zI x1), some (zI x2), some (zI x3), some (zI x4), some (zI y), none, none] [] (zC 223 [zR (some 177), zI 1] h)))) from zGo 3 224 74 _ _ _).trans ?_
        refine (gd_t (by decide) _).trans ?_
        refine (gd_t (⟨rfl, Nat.le_of_ble_eq_true rfl, rfl, Nat.le_of_ble_eq_true rfl⟩) _).trans ?_
        refine (gd_t (⟨rfl, (PTM KM 177 _ rfl rfl), (PNM KM 177 rfl)⟩) _).trans ?_
        rfl
      · skip
        rfl
theorem q_M_readsForm_r79 {h : zH} {x1 : Int} {x2 : Int} {x3 : Int} {x4 : Int} {x5 : Int} (KM : KM h) : zBack zY 224 76 79 [some (zR (some 177)), some (zI x1), some (zI x2), some (zI x3), some (zI x4), some (zI x5), none, none] [] (some (.inl (none), h)) =
    zY 224 22 [some (zR (some 177)), some (zI x1), some (zI x2), some (zI x3), some (zI x4), some (zI x5), none, none] [] h := by
  refine (show zBack zY 224 76 79 [some (zR (some 177)), some (zI x1), some (zI x2), some (zI x3), some (zI x4), some (zI x5), none, none] [] (some (.inl (none), h)) = zY 224 22 [some (zR (some 177)), some (zI x1), some (zI x2), some (zI x3), some (zI x4), some (zI x5), none, none] [] h from zGo 2 224 79 _ _ _).trans ?_
  rfl
theorem q_M_readsForm_82 {h : zH} {x1 : Int} {x2 : Int} {x3 : Int} {x4 : Int} {x5 : Int} (KM : KM h) : zY 224 82 [some (zR (some 177)), some (zI x1), some (zI x2), some (zI x3), some (zI x4), some (zI x5), none, none] [] h =
    if (hI h 177 37) = 2 then
      if (hI h 177 40) < 4 then
        zY 224 106 [some (zR (some 177)), some (zI x1), some (zI x2), some (zI x3), some (zI x4), some (zI x5), none, none] [] h
      else
        zBack zY 224 100 103 [some (zR (some 177)), some (zI x1), some (zI x2), some (zI x3), some (zI x4), some (zI x5), none, none] [] (zC 223 [zR (some 177), zI 2] h)
    else
      zY 224 106 [some (zR (some 177)), some (zI x1), some (zI x2), some (zI x3), some (zI x4), some (zI x5), none, none] [] h := by
  refine (show zY 224 82 [some (zR (some 177)), some (zI x1), some (zI x2), some (zI x3), some (zI x4), some (zI x5), none, none] [] h = gd (zob h (some 177) 12) (gd (inR (2)) (if (hI h 177 37) = 2 then zY 224 90 [some (zR (some 177)), some (zI x1), some (zI x2), some (zI x3), some (zI x4), some (zI x5), none, none] [] h else zY 224 106 [some (zR (some 177)), some (zI x1), some (zI x2), some (zI x3), some (zI x4), some (zI x5), none, none] [] h)) from zGo 4 224 82 _ _ _).trans ?_
  refine (gd_t (⟨rfl, (PTM KM 177 _ rfl rfl), (PNM KM 177 rfl)⟩) _).trans ?_
  refine (gd_t (by decide) _).trans ?_
  refine iteC (fun c0 => ?_) (fun c0 => ?_)
  · skip
    refine (show zY 224 90 [some (zR (some 177)), some (zI x1), some (zI x2), some (zI x3), some (zI x4), some (zI x5), none, none] [] h = gd (zob h (some 177) 12) (gd (inR (4)) (if (hI h 177 40) < 4 then zY 224 106 [some (zR (some 177)), some (zI x1), some (zI x2), some (zI x3), some (zI x4), some (zI x5), none, none] [] h else zY 224 98 [some (zR (some 177)), some (zI x1), some (zI x2), some (zI x3), some (zI x4), some (zI x5), none, none] [] h)) from zGo 4 224 90 _ _ _).trans ?_
    refine (gd_t (⟨rfl, (PTM KM 177 _ rfl rfl), (PNM KM 177 rfl)⟩) _).trans ?_
    refine (gd_t (by decide) _).trans ?_
    refine iteC (fun c1 => ?_) (fun c1 => ?_)
    · skip
      rfl
    · skip
      refine (show zY 224 98 [some (zR (some 177)), some (zI x1), some (zI x2), some (zI x3), some (zI x4), some (zI x5), none, none] [] h = gd (inR (2)) (gd (false = zctor 223 ∧ zcs [] ≤ 8 ∧ zrm 224 (zrf 223 + 1) (8 + (zmaxl 223 + 11) + zrl 223) = true ∧ zcs [zR (some 177), zI 2] ≤ zmaxl 223) (gd (zob h (some 177) 12) (zBack zY 224 100 103 [some (zR (some 177)), some (zI x1), some (zI x2), some (zI x3), some (zI x4), some (zI x5), none, none] [] (zC 223 [zR (some 177), zI 2] h)))) from zGo 3 224 98 _ _ _).trans ?_
      refine (gd_t (by decide) _).trans ?_
      refine (gd_t (⟨rfl, Nat.le_of_ble_eq_true rfl, rfl, Nat.le_of_ble_eq_true rfl⟩) _).trans ?_
      refine (gd_t (⟨rfl, (PTM KM 177 _ rfl rfl), (PNM KM 177 rfl)⟩) _).trans ?_
      rfl
  · skip
    rfl
theorem q_M_readsForm_r103 {h : zH} {x1 : Int} {x2 : Int} {x3 : Int} {x4 : Int} {x5 : Int} (KM : KM h) : zBack zY 224 100 103 [some (zR (some 177)), some (zI x1), some (zI x2), some (zI x3), some (zI x4), some (zI x5), none, none] [] (some (.inl (none), h)) =
    zY 224 22 [some (zR (some 177)), some (zI x1), some (zI x2), some (zI x3), some (zI x4), some (zI x5), none, none] [] h := by
  refine (show zBack zY 224 100 103 [some (zR (some 177)), some (zI x1), some (zI x2), some (zI x3), some (zI x4), some (zI x5), none, none] [] (some (.inl (none), h)) = zY 224 22 [some (zR (some 177)), some (zI x1), some (zI x2), some (zI x3), some (zI x4), some (zI x5), none, none] [] h from zGo 2 224 103 _ _ _).trans ?_
  rfl
theorem q_M_readsForm_106 {h : zH} {x1 : Int} {x2 : Int} {x3 : Int} {x4 : Int} {x5 : Int} (KM : KM h) : zY 224 106 [some (zR (some 177)), some (zI x1), some (zI x2), some (zI x3), some (zI x4), some (zI x5), none, none] [] h =
    gd (0 ≤ x3 ∧ x3 < 2342) (
    if (hI h 179 x3.toNat) = 30 then
      zBack zY 224 119 122 [some (zR (some 177)), some (zI x1), some (zI x2), some (zI x3), some (zI x4), some (zI x5), none, none] [] (zC 223 [zR (some 177), zI 4] h)
    else
      zY 224 125 [some (zR (some 177)), some (zI x1), some (zI x2), some (zI x3), some (zI x4), some (zI x5), none, none] [] h) := by
  refine (show zY 224 106 [some (zR (some 177)), some (zI x1), some (zI x2), some (zI x3), some (zI x4), some (zI x5), none, none] [] h = gd (zob h (some 177) 12) (zY 224 110 [some (zR (some 177)), some (zI x1), some (zI x2), some (zI x3), some (zI x4), some (zI x5), none, none] [zR (hR h 177 2)] h) from zGo 2 224 106 _ _ _).trans ?_
  refine (gd_t (⟨rfl, (PTM KM 177 _ rfl rfl), (PNM KM 177 rfl)⟩) _).trans ?_
  refine (congrArg (fun r => zY 224 110 [some (zR (some 177)), some (zI x1), some (zI x2), some (zI x3), some (zI x4), some (zI x5), none, none] (zR r :: []) h) (PRM KM 177 2 _ rfl)).trans ?_
  refine (show zY 224 110 [some (zR (some 177)), some (zI x1), some (zI x2), some (zI x3), some (zI x4), some (zI x5), none, none] [zR (some 179)] h = gd (zok h (some 179) 22 x3) (gd (-128 ≤ (30 : Int) ∧ (30 : Int) < 128) (if (hI h 179 x3.toNat) = 30 then zY 224 117 [some (zR (some 177)), some (zI x1), some (zI x2), some (zI x3), some (zI x4), some (zI x5), none, none] [] h else zY 224 125 [some (zR (some 177)), some (zI x1), some (zI x2), some (zI x3), some (zI x4), some (zI x5), none, none] [] h)) from zGo 4 224 110 _ _ _).trans ?_
  refine gd_c (ci (PTM KM 179 _ rfl rfl) (PLM KM 179 2342 rfl rfl)) (fun c0 => ?_)
  refine (gd_t (by decide) _).trans ?_
  refine iteC (fun c1 => ?_) (fun c1 => ?_)
  · skip
    refine (show zY 224 117 [some (zR (some 177)), some (zI x1), some (zI x2), some (zI x3), some (zI x4), some (zI x5), none, none] [] h = gd (inR (4)) (gd (false = zctor 223 ∧ zcs [] ≤ 8 ∧ zrm 224 (zrf 223 + 1) (8 + (zmaxl 223 + 11) + zrl 223) = true ∧ zcs [zR (some 177), zI 4] ≤ zmaxl 223) (gd (zob h (some 177) 12) (zBack zY 224 119 122 [some (zR (some 177)), some (zI x1), some (zI x2), some (zI x3), some (zI x4), some (zI x5), none, none] [] (zC 223 [zR (some 177), zI 4] h)))) from zGo 3 224 117 _ _ _).trans ?_
    refine (gd_t (by decide) _).trans ?_
    refine (gd_t (⟨rfl, Nat.le_of_ble_eq_true rfl, rfl, Nat.le_of_ble_eq_true rfl⟩) _).trans ?_
    refine (gd_t (⟨rfl, (PTM KM 177 _ rfl rfl), (PNM KM 177 rfl)⟩) _).trans ?_
    rfl
  · skip
    rfl
theorem q_M_readsForm_r122 {h : zH} {x1 : Int} {x2 : Int} {x3 : Int} {x4 : Int} {x5 : Int} (KM : KM h) : zBack zY 224 119 122 [some (zR (some 177)), some (zI x1), some (zI x2), some (zI x3), some (zI x4), some (zI x5), none, none] [] (some (.inl (none), h)) =
    zY 224 22 [some (zR (some 177)), some (zI x1), some (zI x2), some (zI x3), some (zI x4), some (zI x5), none, none] [] h := by
  refine (show zBack zY 224 119 122 [some (zR (some 177)), some (zI x1), some (zI x2), some (zI x3), some (zI x4), some (zI x5), none, none] [] (some (.inl (none), h)) = zY 224 22 [some (zR (some 177)), some (zI x1), some (zI x2), some (zI x3), some (zI x4), some (zI x5), none, none] [] h from zGo 2 224 122 _ _ _).trans ?_
  rfl
theorem q_M_readsForm_125 {h : zH} {x1 : Int} {x2 : Int} {x3 : Int} {x4 : Int} {x5 : Int} (KM : KM h) : zY 224 125 [some (zR (some 177)), some (zI x1), some (zI x2), some (zI x3), some (zI x4), some (zI x5), none, none] [] h =
    gd (0 ≤ x3 ∧ x3 < 2342) (
    gd (-2147483648 ≤ (hI h 179 x3.toNat) + 1 ∧ (hI h 179 x3.toNat) + 1 < 2147483648) (
    zY 224 135 [some (zR (some 177)), some (zI x1), some (zI x2), some (zI x3), some (zI x4), some (zI x5), none, none] [] (sI h 179 x3.toNat ((hI h 179 x3.toNat) + 1)))) := by
  refine (show zY 224 125 [some (zR (some 177)), some (zI x1), some (zI x2), some (zI x3), some (zI x4), some (zI x5), none, none] [] h = gd (zob h (some 177) 12) (zY 224 129 [some (zR (some 177)), some (zI x1), some (zI x2), some (zI x3), some (zI x4), some (zI x5), none, none] [zR (hR h 177 2)] h) from zGo 2 224 125 _ _ _).trans ?_
  refine (gd_t (⟨rfl, (PTM KM 177 _ rfl rfl), (PNM KM 177 rfl)⟩) _).trans ?_
  refine (congrArg (fun r => zY 224 129 [some (zR (some 177)), some (zI x1), some (zI x2), some (zI x3), some (zI x4), some (zI x5), none, none] (zR r :: []) h) (PRM KM 177 2 _ rfl)).trans ?_
  refine (show zY 224 129 [some (zR (some 177)), some (zI x1), some (zI x2), some (zI x3), some (zI x4), some (zI x5), none, none] [zR (some 179)] h = gd (zok h (some 179) 22 x3) (gd (inR (1)) (gd (inR ((hI h 179 x3.toNat) + 1)) (gd (zokw h (some 179) 22 x3) (zY 224 135 [some (zR (some 177)), some (zI x1), some (zI x2), some (zI x3), some (zI x4), some (zI x5), none, none] [] (sI h 179 x3.toNat ((hI h 179 x3.toNat) + 1)))))) from zGo 6 224 129 _ _ _).trans ?_
  refine gd_c (ci (PTM KM 179 _ rfl rfl) (PLM KM 179 2342 rfl rfl)) (fun c0 => ?_)
  refine (gd_t (by decide) _).trans ?_
  refine gd_c Iff.rfl (fun c1 => ?_)
  refine (gd_t ((ciw (PTM KM 179 _ rfl rfl) (PNM KM 179 rfl) (PLM KM 179 2342 rfl rfl)).2 (by omega)) _).trans ?_
  rfl
theorem q_M_readsForm_135 {h : zH} {x1 : Int} {x2 : Int} {x3 : Int} {x4 : Int} {x5 : Int} (KM : KM h) : zY 224 135 [some (zR (some 177)), some (zI x1), some (zI x2), some (zI x3), some (zI x4), some (zI x5), none, none] [] h =
    gd (0 ≤ x3 ∧ x3 < 2342) (
    gd (-2147483648 ≤ x3 + (hI h 179 x3.toNat) ∧ x3 + (hI h 179 x3.toNat) < 2147483648) (
    gd (0 ≤ (x3 + (hI h 179 x3.toNat)) ∧ (x3 + (hI h 179 x3.toNat)) < 2342) (
    zY 224 160 [some (zR (some 177)), some (zI x1), some (zI x2), some (zI x3), some (zI x4), some (zI x5), some (zI (f_M_arity x5)), some (zI 0)] [] (sI h 179 (x3 + (hI h 179 x3.toNat)).toNat x5)))) := by
  refine (show zY 224 135 [some (zR (some 177)), some (zI x1), some (zI x2), some (zI x3), some (zI x4), some (zI x5), none, none] [] h = gd (zob h (some 177) 12) (zY 224 139 [some (zR (some 177)), some (zI x1), some (zI x2), some (zI x3), some (zI x4), some (zI x5), none, none] [zR (hR h 177 2)] h) from zGo 2 224 135 _ _ _).trans ?_
  refine (gd_t (⟨rfl, (PTM KM 177 _ rfl rfl), (PNM KM 177 rfl)⟩) _).trans ?_
  refine (congrArg (fun r => zY 224 139 [some (zR (some 177)), some (zI x1), some (zI x2), some (zI x3), some (zI x4), some (zI x5), none, none] (zR r :: []) h) (PRM KM 177 2 _ rfl)).trans ?_
  refine (show zY 224 139 [some (zR (some 177)), some (zI x1), some (zI x2), some (zI x3), some (zI x4), some (zI x5), none, none] [zR (some 179)] h = gd (zob h (some 177) 12) (zY 224 144 [some (zR (some 177)), some (zI x1), some (zI x2), some (zI x3), some (zI x4), some (zI x5), none, none] [zR (hR h 177 2), zI x3, zR (some 179)] h) from zGo 3 224 139 _ _ _).trans ?_
  refine (gd_t (⟨rfl, (PTM KM 177 _ rfl rfl), (PNM KM 177 rfl)⟩) _).trans ?_
  refine (congrArg (fun r => zY 224 144 [some (zR (some 177)), some (zI x1), some (zI x2), some (zI x3), some (zI x4), some (zI x5), none, none] (zR r :: zI x3 :: zR (some 179) :: []) h) (PRM KM 177 2 _ rfl)).trans ?_
  refine (show zY 224 144 [some (zR (some 177)), some (zI x1), some (zI x2), some (zI x3), some (zI x4), some (zI x5), none, none] [zR (some 179), zI x3, zR (some 179)] h = gd (zok h (some 179) 22 x3) (gd (inR (x3 + (hI h 179 x3.toNat))) (gd (zokw h (some 179) 22 (x3 + (hI h 179 x3.toNat))) (gd (false = zctor 227 ∧ zcs [] ≤ 8 ∧ zrm 224 (zrf 227 + 1) (8 + (zmaxl 227 + 11) + zrl 227) = true ∧ zcs [zI x5] ≤ zmaxl 227) (zBack zY 224 152 155 [some (zR (some 177)), some (zI x1), some (zI x2), some (zI x3), some (zI x4), some (zI x5), none, none] [] (zC 227 [zI x5] (sI h 179 (x3 + (hI h 179 x3.toNat)).toNat x5)))))) from zGo 7 224 144 _ _ _).trans ?_
  refine gd_c (ci (PTM KM 179 _ rfl rfl) (PLM KM 179 2342 rfl rfl)) (fun c0 => ?_)
  refine gd_c Iff.rfl (fun c1 => ?_)
  refine gd_c (ciw (PTM KM 179 _ rfl rfl) (PNM KM 179 rfl) (PLM KM 179 2342 rfl rfl)) (fun c2 => ?_)
  refine (gd_t (⟨rfl, Nat.le_of_ble_eq_true rfl, rfl, Nat.le_of_ble_eq_true rfl⟩) _).trans ?_
  refine (congrArg (zBack zY 224 152 155 [some (zR (some 177)), some (zI x1), some (zI x2), some (zI x3), some (zI x4), some (zI x5), none, none] []) (e_M_arity (h := (sI h 179 (x3 + (hI h 179 x3.toNat)).toNat x5)))).trans ?_
  refine (show zY 224 155 [some (zR (some 177)), some (zI x1), some (zI x2), some (zI x3), some (zI x4), some (zI x5), none, none] [zI (f_M_arity x5)] (sI h 179 (x3 + (hI h 179 x3.toNat)).toNat x5) = gd (inR (0)) (zY 224 160 [some (zR (some 177)), some (zI x1), some (zI x2), some (zI x3), some (zI x4), some (zI x5), some (zI (f_M_arity x5)), some (zI 0)] [] (sI h 179 (x3 + (hI h 179 x3.toNat)).toNat x5)) from zGo 3 224 155 _ _ _).trans ?_
  refine (gd_t (by decide) _).trans ?_
  rfl
theorem q_M_readsForm_160 {h : zH} {x1 : Int} {x2 : Int} {x3 : Int} {x4 : Int} {x5 : Int} {x6 : Int} {x7 : Int} (KM : KM h) : zY 224 160 [some (zR (some 177)), some (zI x1), some (zI x2), some (zI x3), some (zI x4), some (zI x5), some (zI x6), some (zI x7)] [] h =
    if x7 < x6 then
      if x5 = 14 then
        gd (0 ≤ x4 ∧ x4 < 64) (
        gd (-2147483648 ≤ x4 + 1 ∧ x4 + 1 < 2147483648) (
        gd (-2147483648 ≤ x7 + 1 ∧ x7 + 1 < 2147483648) (
        zY 224 160 [some (zR (some 177)), some (zI x1), some (zI x2), some (zI x3), some (zI (x4 + 1)), some (zI x5), some (zI x6), some (zI (x7 + 1))] [] (sI h 196 x4.toNat 1))))
      else
        if x5 = 15 then
          gd (0 ≤ x4 ∧ x4 < 64) (
          gd (-2147483648 ≤ x4 + 1 ∧ x4 + 1 < 2147483648) (
          gd (-2147483648 ≤ x7 + 1 ∧ x7 + 1 < 2147483648) (
          zY 224 160 [some (zR (some 177)), some (zI x1), some (zI x2), some (zI x3), some (zI (x4 + 1)), some (zI x5), some (zI x6), some (zI (x7 + 1))] [] (sI h 196 x4.toNat 1))))
        else
          if x5 = 16 then
            gd (0 ≤ x4 ∧ x4 < 64) (
            gd (-2147483648 ≤ x4 + 1 ∧ x4 + 1 < 2147483648) (
            gd (-2147483648 ≤ x7 + 1 ∧ x7 + 1 < 2147483648) (
            zY 224 160 [some (zR (some 177)), some (zI x1), some (zI x2), some (zI x3), some (zI (x4 + 1)), some (zI x5), some (zI x6), some (zI (x7 + 1))] [] (sI h 196 x4.toNat 1))))
          else
            gd (0 ≤ x4 ∧ x4 < 64) (
            gd (-2147483648 ≤ x4 + 1 ∧ x4 + 1 < 2147483648) (
            gd (-2147483648 ≤ x7 + 1 ∧ x7 + 1 < 2147483648) (
            zY 224 160 [some (zR (some 177)), some (zI x1), some (zI x2), some (zI x3), some (zI (x4 + 1)), some (zI x5), some (zI x6), some (zI (x7 + 1))] [] (sI h 196 x4.toNat 0))))
    else
      zBack zY 224 210 213 [some (zR (some 177)), some (zI x1), some (zI x2), some (zI x3), some (zI x4), some (zI x5), some (zI x6), some (zI x7)] [] (zC 218 [zR (some 177)] h) := by
  refine (show zY 224 160 [some (zR (some 177)), some (zI x1), some (zI x2), some (zI x3), some (zI x4), some (zI x5), some (zI x6), some (zI x7)] [] h = if x7 < x6 then zY 224 167 [some (zR (some 177)), some (zI x1), some (zI x2), some (zI x3), some (zI x4), some (zI x5), some (zI x6), some (zI x7)] [] h else zY 224 209 [some (zR (some 177)), some (zI x1), some (zI x2), some (zI x3), some (zI x4), some (zI x5), some (zI x6), some (zI x7)] [] h from zGo 3 224 160 _ _ _).trans ?_
  refine iteC (fun c0 => ?_) (fun c0 => ?_)
  · skip
    refine (show zY 224 167 [some (zR (some 177)), some (zI x1), some (zI x2), some (zI x3), some (zI x4), some (zI x5), some (zI x6), some (zI x7)] [] h = gd (zob h (some 177) 12) (zY 224 171 [some (zR (some 177)), some (zI x1), some (zI x2), some (zI x3), some (zI x4), some (zI x5), some (zI x6), some (zI x7)] [zR (hR h 177 43)] h) from zGo 2 224 167 _ _ _).trans ?_
    refine (gd_t (⟨rfl, (PTM KM 177 _ rfl rfl), (PNM KM 177 rfl)⟩) _).trans ?_
    refine (congrArg (fun r => zY 224 171 [some (zR (some 177)), some (zI x1), some (zI x2), some (zI x3), some (zI x4), some (zI x5), some (zI x6), some (zI x7)] (zR r :: []) h) (PRM KM 177 43 _ rfl)).trans ?_
    refine (show zY 224 171 [some (zR (some 177)), some (zI x1), some (zI x2), some (zI x3), some (zI x4), some (zI x5), some (zI x6), some (zI x7)] [zR (some 196)] h = gd (-128 ≤ (14 : Int) ∧ (14 : Int) < 128) (if x5 = 14 then zY 224 194 [some (zR (some 177)), some (zI x1), some (zI x2), some (zI x3), some (zI x4), some (zI x5), some (zI x6), some (zI x7)] [zI x4, zR (some 196)] h else zY 224 180 [some (zR (some 177)), some (zI x1), some (zI x2), some (zI x3), some (zI x4), some (zI x5), some (zI x6), some (zI x7)] [zI x4, zR (some 196)] h) from zGo 4 224 171 _ _ _).trans ?_
    refine (gd_t (by decide) _).trans ?_
    refine iteC (fun c1 => ?_) (fun c1 => ?_)
    · skip
      refine (show zY 224 194 [some (zR (some 177)), some (zI x1), some (zI x2), some (zI x3), some (zI x4), some (zI x5), some (zI x6), some (zI x7)] [zI x4, zR (some 196)] h = gd (inR (1)) (gd (zokw h (some 196) 22 x4) (gd (inR (x4 + 1)) (gd (inR (1)) (gd (inR (x7 + 1)) (gd (inR (1)) (zY 224 160 [some (zR (some 177)), some (zI x1), some (zI x2), some (zI x3), some (zI (x4 + 1)), some (zI x5), some (zI x6), some (zI (x7 + 1))] [] (sI h 196 x4.toNat 1))))))) from zGo 6 224 194 _ _ _).trans ?_
      refine (gd_t (by decide) _).trans ?_
      refine gd_c (ciw (PTM KM 196 _ rfl rfl) (PNM KM 196 rfl) (PLM KM 196 64 rfl rfl)) (fun c2 => ?_)
      refine gd_c Iff.rfl (fun c3 => ?_)
      refine (gd_t (by decide) _).trans ?_
      refine gd_c Iff.rfl (fun c4 => ?_)
      refine (gd_t (by decide) _).trans ?_
      rfl
    · skip
      refine (show zY 224 180 [some (zR (some 177)), some (zI x1), some (zI x2), some (zI x3), some (zI x4), some (zI x5), some (zI x6), some (zI x7)] [zI x4, zR (some 196)] h = gd (-128 ≤ (15 : Int) ∧ (15 : Int) < 128) (if x5 = 15 then zY 224 194 [some (zR (some 177)), some (zI x1), some (zI x2), some (zI x3), some (zI x4), some (zI x5), some (zI x6), some (zI x7)] [zI x4, zR (some 196)] h else zY 224 187 [some (zR (some 177)), some (zI x1), some (zI x2), some (zI x3), some (zI x4), some (zI x5), some (zI x6), some (zI x7)] [zI x4, zR (some 196)] h) from zGo 3 224 180 _ _ _).trans ?_
      refine (gd_t (by decide) _).trans ?_
      refine iteC (fun c5 => ?_) (fun c5 => ?_)
      · skip
        refine (show zY 224 194 [some (zR (some 177)), some (zI x1), some (zI x2), some (zI x3), some (zI x4), some (zI x5), some (zI x6), some (zI x7)] [zI x4, zR (some 196)] h = gd (inR (1)) (gd (zokw h (some 196) 22 x4) (gd (inR (x4 + 1)) (gd (inR (1)) (gd (inR (x7 + 1)) (gd (inR (1)) (zY 224 160 [some (zR (some 177)), some (zI x1), some (zI x2), some (zI x3), some (zI (x4 + 1)), some (zI x5), some (zI x6), some (zI (x7 + 1))] [] (sI h 196 x4.toNat 1))))))) from zGo 6 224 194 _ _ _).trans ?_
        refine (gd_t (by decide) _).trans ?_
        refine gd_c (ciw (PTM KM 196 _ rfl rfl) (PNM KM 196 rfl) (PLM KM 196 64 rfl rfl)) (fun c6 => ?_)
        refine gd_c Iff.rfl (fun c7 => ?_)
        refine (gd_t (by decide) _).trans ?_
        refine gd_c Iff.rfl (fun c8 => ?_)
        refine (gd_t (by decide) _).trans ?_
        rfl
      · skip
        refine (show zY 224 187 [some (zR (some 177)), some (zI x1), some (zI x2), some (zI x3), some (zI x4), some (zI x5), some (zI x6), some (zI x7)] [zI x4, zR (some 196)] h = gd (-128 ≤ (16 : Int) ∧ (16 : Int) < 128) (if x5 = 16 then zY 224 194 [some (zR (some 177)), some (zI x1), some (zI x2), some (zI x3), some (zI x4), some (zI x5), some (zI x6), some (zI x7)] [zI x4, zR (some 196)] h else zY 224 198 [some (zR (some 177)), some (zI x1), some (zI x2), some (zI x3), some (zI x4), some (zI x5), some (zI x6), some (zI x7)] [zI x4, zR (some 196)] h) from zGo 3 224 187 _ _ _).trans ?_
        refine (gd_t (by decide) _).trans ?_
        refine iteC (fun c9 => ?_) (fun c9 => ?_)
        · skip
          refine (show zY 224 194 [some (zR (some 177)), some (zI x1), some (zI x2), some (zI x3), some (zI x4), some (zI x5), some (zI x6), some (zI x7)] [zI x4, zR (some 196)] h = gd (inR (1)) (gd (zokw h (some 196) 22 x4) (gd (inR (x4 + 1)) (gd (inR (1)) (gd (inR (x7 + 1)) (gd (inR (1)) (zY 224 160 [some (zR (some 177)), some (zI x1), some (zI x2), some (zI x3), some (zI (x4 + 1)), some (zI x5), some (zI x6), some (zI (x7 + 1))] [] (sI h 196 x4.toNat 1))))))) from zGo 6 224 194 _ _ _).trans ?_
          refine (gd_t (by decide) _).trans ?_
          refine gd_c (ciw (PTM KM 196 _ rfl rfl) (PNM KM 196 rfl) (PLM KM 196 64 rfl rfl)) (fun c10 => ?_)
          refine gd_c Iff.rfl (fun c11 => ?_)
          refine (gd_t (by decide) _).trans ?_
          refine gd_c Iff.rfl (fun c12 => ?_)
          refine (gd_t (by decide) _).trans ?_
          rfl
        · skip
          refine (show zY 224 198 [some (zR (some 177)), some (zI x1), some (zI x2), some (zI x3), some (zI x4), some (zI x5), some (zI x6), some (zI x7)] [zI x4, zR (some 196)] h = gd (inR (0)) (gd (zokw h (some 196) 22 x4) (gd (inR (x4 + 1)) (gd (inR (1)) (gd (inR (x7 + 1)) (gd (inR (1)) (zY 224 160 [some (zR (some 177)), some (zI x1), some (zI x2), some (zI x3), some (zI (x4 + 1)), some (zI x5), some (zI x6), some (zI (x7 + 1))] [] (sI h 196 x4.toNat 0))))))) from zGo 5 224 198 _ _ _).trans ?_
          refine (gd_t (by decide) _).trans ?_
          refine gd_c (ciw (PTM KM 196 _ rfl rfl) (PNM KM 196 rfl) (PLM KM 196 64 rfl rfl)) (fun c13 => ?_)
          refine gd_c Iff.rfl (fun c14 => ?_)
          refine (gd_t (by decide) _).trans ?_
          refine gd_c Iff.rfl (fun c15 => ?_)
          refine (gd_t (by decide) _).trans ?_
          rfl
  · skip
    refine (show zY 224 209 [some (zR (some 177)), some (zI x1), some (zI x2), some (zI x3), some (zI x4), some (zI x5), some (zI x6), some (zI x7)] [] h = gd (false = zctor 218 ∧ zcs [] ≤ 8 ∧ zrm 224 (zrf 218 + 1) (8 + (zmaxl 218 + 11) + zrl 218) = true ∧ zcs [zR (some 177)] ≤ zmaxl 218) (gd (zob h (some 177) 12) (zBack zY 224 210 213 [some (zR (some 177)), some (zI x1), some (zI x2), some (zI x3), some (zI x4), some (zI x5), some (zI x6), some (zI x7)] [] (zC 218 [zR (some 177)] h))) from zGo 2 224 209 _ _ _).trans ?_
    refine (gd_t (⟨rfl, Nat.le_of_ble_eq_true rfl, rfl, Nat.le_of_ble_eq_true rfl⟩) _).trans ?_
    refine (gd_t (⟨rfl, (PTM KM 177 _ rfl rfl), (PNM KM 177 rfl)⟩) _).trans ?_
    rfl
theorem q_M_readsForm_r213 {h : zH} {x1 : Int} {x2 : Int} {x3 : Int} {x4 : Int} {x5 : Int} {x6 : Int} {x7 : Int} (KM : KM h) : zBack zY 224 210 213 [some (zR (some 177)), some (zI x1), some (zI x2), some (zI x3), some (zI x4), some (zI x5), some (zI x6), some (zI x7)] [] (some (.inl (none), h)) =
    zY 224 22 [some (zR (some 177)), some (zI x1), some (zI x2), some (zI x3), some (zI x4), some (zI x5), some (zI x6), some (zI x7)] [] h := by
  refine (show zBack zY 224 210 213 [some (zR (some 177)), some (zI x1), some (zI x2), some (zI x3), some (zI x4), some (zI x5), some (zI x6), some (zI x7)] [] (some (.inl (none), h)) = zY 224 22 [some (zR (some 177)), some (zI x1), some (zI x2), some (zI x3), some (zI x4), some (zI x5), some (zI x6), some (zI x7)] [] h from zGo 1 224 213 _ _ _).trans ?_
  rfl
theorem q_M_variableHere {h : zH} (KM : KM h) : zC 231 [zR (some 177)] h =
    zY 231 2 [some (zR (some 177)), some (zI 0)] [] h := by
  refine (show zC 231 [zR (some 177)] h = gd (inR (0)) (zY 231 2 [some (zR (some 177)), some (zI 0)] [] h) from zGo 2 231 0 _ _ _).trans ?_
  refine (gd_t (by decide) _).trans ?_
  rfl
theorem q_M_variableHere_2 {h : zH} {x1 : Int} (KM : KM h) : zY 231 2 [some (zR (some 177)), some (zI x1)] [] h =
    if x1 < 3 then
      zBack zY 231 9 12 [some (zR (some 177)), some (zI x1)] [] (zC 222 [zR (some 177), zI x1] h)
    else
      some (.inl (some (zI (-1))), h) := by
  refine (show zY 231 2 [some (zR (some 177)), some (zI x1)] [] h = gd (inR (3)) (if x1 < 3 then zY 231 7 [some (zR (some 177)), some (zI x1)] [] h else zY 231 23 [some (zR (some 177)), some (zI x1)] [] h) from zGo 3 231 2 _ _ _).trans ?_
  refine (gd_t (by decide) _).trans ?_
  refine iteC (fun c0 => ?_) (fun c0 => ?_)
  · skip
    refine (show zY 231 7 [some (zR (some 177)), some (zI x1)] [] h = gd (false = zctor 222 ∧ zcs [] ≤ 8 ∧ zrm 231 (zrf 222 + 1) (8 + (zmaxl 222 + 11) + zrl 222) = true ∧ zcs [zR (some 177), zI x1] ≤ zmaxl 222) (gd (zob h (some 177) 12) (zBack zY 231 9 12 [some (zR (some 177)), some (zI x1)] [] (zC 222 [zR (some 177), zI x1] h))) from zGo 3 231 7 _ _ _).trans ?_
    refine (gd_t (⟨rfl, Nat.le_of_ble_eq_true rfl, rfl, Nat.le_of_ble_eq_true rfl⟩) _).trans ?_
    refine (gd_t (⟨rfl, (PTM KM 177 _ rfl rfl), (PNM KM 177 rfl)⟩) _).trans ?_
    rfl
  · skip
    refine (show zY 231 23 [some (zR (some 177)), some (zI x1)] [] h = gd (inR (-1)) (gd (([] : List zV).isEmpty = true ∧ (zrk 231 = 1 ∨ zrk 231 = 6 ∧ (((-1) : Int) = 0 ∨ ((-1) : Int) = 1))) (some (.inl (some (zI (-1))), h))) from zGo 2 231 23 _ _ _).trans ?_
    refine (gd_t (by decide) _).trans ?_
    refine (gd_t (⟨rfl, Or.inl rfl⟩) _).trans ?_
    rfl
theorem q_M_variableHere_r12 {h : zH} {x1 : Int} {y : Int} (KM : KM h) : zBack zY 231 9 12 [some (zR (some 177)), some (zI x1)] [] (some (.inl (some (zI y)), h)) =
    if y = 0 then
      gd (-2147483648 ≤ x1 + 1 ∧ x1 + 1 < 2147483648) (
      zY 231 2 [some (zR (some 177)), some (zI (x1 + 1))] [] h)
    else
      some (.inl (some (zI x1)), h) := by
  refine (show zBack zY 231 9 12 [some (zR (some 177)), some (zI x1)] [] (some (.inl (some (zI y)), h)) = if y = 0 then zY 231 17 [some (zR (some 177)), some (zI x1)] [] h else zY 231 15 [some (zR (some 177)), some (zI x1)] [] h from zGo 1 231 12 _ _ _).trans ?_
  refine iteC (fun c0 => ?_) (fun c0 => ?_)
  · skip
    refine (show zY 231 17 [some (zR (some 177)), some (zI x1)] [] h = gd (inR (x1 + 1)) (gd (inR (1)) (zY 231 2 [some (zR (some 177)), some (zI (x1 + 1))] [] h)) from zGo 2 231 17 _ _ _).trans ?_
    refine gd_c Iff.rfl (fun c1 => ?_)
    refine (gd_t (by decide) _).trans ?_
    rfl
  · skip
    refine (show zY 231 15 [some (zR (some 177)), some (zI x1)] [] h = gd (([] : List zV).isEmpty = true ∧ (zrk 231 = 1 ∨ zrk 231 = 6 ∧ ((x1 : Int) = 0 ∨ (x1 : Int) = 1))) (some (.inl (some (zI x1)), h)) from zGo 2 231 15 _ _ _).trans ?_
    refine (gd_t (⟨rfl, Or.inl rfl⟩) _).trans ?_
    rfl
