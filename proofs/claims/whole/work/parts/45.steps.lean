/-! The reference: one step of a run. -/
theorem q_M_counts {h : zH} (KM : KM h) : zC 272 [zR (some 177)] h =
    gd (-2147483648 ≤ (hI h 177 30) + 1 ∧ (hI h 177 30) + 1 < 2147483648) (
    gd (-2147483648 ≤ 2318 + (hI h 177 27) ∧ 2318 + (hI h 177 27) < 2147483648) (
    gd (0 ≤ (2318 + (hI h 177 27)) ∧ (2318 + (hI h 177 27)) < 2342) (
    gd (zn32 (FP.fdiv (FP.i2f (Int32.ofInt (hI h 179 (2318 + (hI h 177 27)).toNat))) 1092616192) = true) (
    gd (zn32 (FP.fadd (hF h 177 31) (FP.fdiv (FP.i2f (Int32.ofInt (hI h 179 (2318 + (hI h 177 27)).toNat))) 1092616192)) = true) (
    some (.inl (none), (sF (sI h 177 30 ((hI h 177 30) + 1)) 177 31 (FP.fadd (hF h 177 31) (FP.fdiv (FP.i2f (Int32.ofInt (hI h 179 (2318 + (hI h 177 27)).toNat))) 1092616192))))))))) := by
  refine (show zC 272 [zR (some 177)] h = gd (zob h (some 177) 12) (gd (inR (1)) (gd (inR ((hI h 177 30) + 1)) (gd (zob h (some 177) 12) (gd (zob (sI h 177 30 ((hI h 177 30) + 1)) (some 177) 12) (gd (zob (sI h 177 30 ((hI h 177 30) + 1)) (some 177) 12) (zY 272 19 [some (zR (some 177))] [zR (hR h 177 2), zF (hF h 177 31), zR (some 177)] (sI h 177 30 ((hI h 177 30) + 1)))))))) from zGo 11 272 0 _ _ _).trans ?_
  refine (gd_t (⟨rfl, (PTM KM 177 _ rfl rfl), (PNM KM 177 rfl)⟩) _).trans ?_
  refine (gd_t (by decide) _).trans ?_
  refine gd_c Iff.rfl (fun c0 => ?_)
  refine (gd_t (⟨rfl, (PTM KM 177 _ rfl rfl), (PNM KM 177 rfl)⟩) _).trans ?_
  refine (gd_t (⟨rfl, (PTM KM 177 _ rfl rfl), (PNM KM 177 rfl)⟩) _).trans ?_
  refine (gd_t (⟨rfl, (PTM KM 177 _ rfl rfl), (PNM KM 177 rfl)⟩) _).trans ?_
  refine (congrArg (fun r => zY 272 19 [some (zR (some 177))] (zR r :: zF (hF h 177 31) :: zR (some 177) :: []) (sI h 177 30 ((hI h 177 30) + 1))) (PRM KM 177 2 _ rfl)).trans ?_
  refine (show zY 272 19 [some (zR (some 177))] [zR (some 179), zF (hF h 177 31), zR (some 177)] (sI h 177 30 ((hI h 177 30) + 1)) = gd (-32768 ≤ (2318 : Int) ∧ (2318 : Int) < 32768) (gd (zob (sI h 177 30 ((hI h 177 30) + 1)) (some 177) 12) (gd (inR (2318 + (hI h 177 27))) (gd (zok (sI h 177 30 ((hI h 177 30) + 1)) (some 179) 22 (2318 + (hI h 177 27))) (gd (zn32 (FP.fdiv (FP.i2f (Int32.ofInt (hI h 179 (2318 + (hI h 177 27)).toNat))) 1092616192) = true) (gd (zn32 (FP.fadd (hF h 177 31) (FP.fdiv (FP.i2f (Int32.ofInt (hI h 179 (2318 + (hI h 177 27)).toNat))) 1092616192)) = true) (gd (zob (sI h 177 30 ((hI h 177 30) + 1)) (some 177) 12) (gd (([] : List zV).isEmpty = true ∧ zrk 272 = 0) (some (.inl (none), (sF (sI h 177 30 ((hI h 177 30) + 1)) 177 31 (FP.fadd (hF h 177 31) (FP.fdiv (FP.i2f (Int32.ofInt (hI h 179 (2318 + (hI h 177 27)).toNat))) 1092616192)))))))))))) from zGo 11 272 19 _ _ _).trans ?_
  refine (gd_t (by decide) _).trans ?_
  refine (gd_t (⟨rfl, (PTM KM 177 _ rfl rfl), (PNM KM 177 rfl)⟩) _).trans ?_
  refine gd_c Iff.rfl (fun c1 => ?_)
  refine gd_c (ci (PTM KM 179 _ rfl rfl) (PLM KM 179 2342 rfl rfl)) (fun c2 => ?_)
  refine gd_c Iff.rfl (fun c3 => ?_)
  refine gd_c Iff.rfl (fun c4 => ?_)
  refine (gd_t (⟨rfl, (PTM KM 177 _ rfl rfl), (PNM KM 177 rfl)⟩) _).trans ?_
  refine (gd_t (⟨rfl, rfl⟩) _).trans ?_
  rfl
theorem q_M_beginsRun {h : zH} {x1 : Int} {x2 : Int} (KM : KM h) : zC 268 [zR (some 177), zI x1, zI x2] h =
    zY 268 27 [some (zR (some 177)), some (zI x1), some (zI x2), some (zI 0)] [] (sF (sI (sI (sI (sI h 177 27 x1) 177 28 x2) 177 29 0) 177 30 0) 177 31 FP.fconst0) := by
  refine (show zC 268 [zR (some 177), zI x1, zI x2] h = gd (zob h (some 177) 12) (gd (zob (sI h 177 27 x1) (some 177) 12) (gd (inR (0)) (gd (zob (sI (sI h 177 27 x1) 177 28 x2) (some 177) 12) (gd ((0 : Int) = 0 ∨ (0 : Int) = 1) (gd (inR (0)) (gd (zob (sI (sI (sI h 177 27 x1) 177 28 x2) 177 29 0) (some 177) 12) (gd (zob (sI (sI (sI (sI h 177 27 x1) 177 28 x2) 177 29 0) 177 30 0) (some 177) 12) (gd (inR (0)) (zY 268 27 [some (zR (some 177)), some (zI x1), some (zI x2), some (zI 0)] [] (sF (sI (sI (sI (sI h 177 27 x1) 177 28 x2) 177 29 0) 177 30 0) 177 31 FP.fconst0)))))))))) from zGo 17 268 0 _ _ _).trans ?_
  refine (gd_t (⟨rfl, (PTM KM 177 _ rfl rfl), (PNM KM 177 rfl)⟩) _).trans ?_
  refine (gd_t (⟨rfl, (PTM KM 177 _ rfl rfl), (PNM KM 177 rfl)⟩) _).trans ?_
  refine (gd_t (by decide) _).trans ?_
  refine (gd_t (⟨rfl, (PTM KM 177 _ rfl rfl), (PNM KM 177 rfl)⟩) _).trans ?_
  refine (gd_t (by decide) _).trans ?_
  refine (gd_t (by decide) _).trans ?_
  refine (gd_t (⟨rfl, (PTM KM 177 _ rfl rfl), (PNM KM 177 rfl)⟩) _).trans ?_
  refine (gd_t (⟨rfl, (PTM KM 177 _ rfl rfl), (PNM KM 177 rfl)⟩) _).trans ?_
  refine (gd_t (by decide) _).trans ?_
  rfl
theorem q_M_beginsRun_27 {h : zH} {x1 : Int} {x2 : Int} {x3 : Int} (KM : KM h) : zY 268 27 [some (zR (some 177)), some (zI x1), some (zI x2), some (zI x3)] [] h =
    if x3 < 24 then
      gd (0 ≤ x3 ∧ x3 < 24) (
      gd (-2147483648 ≤ x3 + 1 ∧ x3 + 1 < 2147483648) (
      zY 268 27 [some (zR (some 177)), some (zI x1), some (zI x2), some (zI (x3 + 1))] [] (sI (sI (sJ h 192 x3.toNat (0#64)) 193 x3.toNat 0) 194 x3.toNat 0)))
    else
      some (.inl (none), h) := by
  refine (show zY 268 27 [some (zR (some 177)), some (zI x1), some (zI x2), some (zI x3)] [] h = gd (-128 ≤ (24 : Int) ∧ (24 : Int) < 128) (if x3 < 24 then zY 268 33 [some (zR (some 177)), some (zI x1), some (zI x2), some (zI x3)] [] h else zY 268 60 [some (zR (some 177)), some (zI x1), some (zI x2), some (zI x3)] [] h) from zGo 3 268 27 _ _ _).trans ?_
  refine (gd_t (by decide) _).trans ?_
  refine iteC (fun c0 => ?_) (fun c0 => ?_)
  · skip
    refine (show zY 268 33 [some (zR (some 177)), some (zI x1), some (zI x2), some (zI x3)] [] h = gd (zob h (some 177) 12) (zY 268 37 [some (zR (some 177)), some (zI x1), some (zI x2), some (zI x3)] [zR (hR h 177 32)] h) from zGo 2 268 33 _ _ _).trans ?_
    refine (gd_t (⟨rfl, (PTM KM 177 _ rfl rfl), (PNM KM 177 rfl)⟩) _).trans ?_
    refine (congrArg (fun r => zY 268 37 [some (zR (some 177)), some (zI x1), some (zI x2), some (zI x3)] (zR r :: []) h) (PRM KM 177 32 _ rfl)).trans ?_
    refine (show zY 268 37 [some (zR (some 177)), some (zI x1), some (zI x2), some (zI x3)] [zR (some 192)] h = gd (zokw h (some 192) 23 x3) (gd (zob (sJ h 192 x3.toNat (0#64)) (some 177) 12) (zY 268 44 [some (zR (some 177)), some (zI x1), some (zI x2), some (zI x3)] [zR (hR h 177 33)] (sJ h 192 x3.toNat (0#64)))) from zGo 5 268 37 _ _ _).trans ?_
    refine gd_c (ciw (PTM KM 192 _ rfl rfl) (PNM KM 192 rfl) (PLM KM 192 24 rfl rfl)) (fun c1 => ?_)
    refine (gd_t (⟨rfl, (PTM KM 177 _ rfl rfl), (PNM KM 177 rfl)⟩) _).trans ?_
    refine (congrArg (fun r => zY 268 44 [some (zR (some 177)), some (zI x1), some (zI x2), some (zI x3)] (zR r :: []) (sJ h 192 x3.toNat (0#64))) (PRM KM 177 33 _ rfl)).trans ?_
    refine (show zY 268 44 [some (zR (some 177)), some (zI x1), some (zI x2), some (zI x3)] [zR (some 193)] (sJ h 192 x3.toNat (0#64)) = gd (inR (0)) (gd (zokw (sJ h 192 x3.toNat (0#64)) (some 193) 22 x3) (gd (zob (sI (sJ h 192 x3.toNat (0#64)) 193 x3.toNat 0) (some 177) 12) (zY 268 51 [some (zR (some 177)), some (zI x1), some (zI x2), some (zI x3)] [zR (hR h 177 34)] (sI (sJ h 192 x3.toNat (0#64)) 193 x3.toNat 0)))) from zGo 5 268 44 _ _ _).trans ?_
    refine (gd_t (by decide) _).trans ?_
    refine (gd_t ((ciw (PTM KM 193 _ rfl rfl) (PNM KM 193 rfl) (PLM KM 193 24 rfl rfl)).2 (by omega)) _).trans ?_
    refine (gd_t (⟨rfl, (PTM KM 177 _ rfl rfl), (PNM KM 177 rfl)⟩) _).trans ?_
    refine (congrArg (fun r => zY 268 51 [some (zR (some 177)), some (zI x1), some (zI x2), some (zI x3)] (zR r :: []) (sI (sJ h 192 x3.toNat (0#64)) 193 x3.toNat 0)) (PRM KM 177 34 _ rfl)).trans ?_
    refine (show zY 268 51 [some (zR (some 177)), some (zI x1), some (zI x2), some (zI x3)] [zR (some 194)] (sI (sJ h 192 x3.toNat (0#64)) 193 x3.toNat 0) = gd (inR (0)) (gd (zokw (sI (sJ h 192 x3.toNat (0#64)) 193 x3.toNat 0) (some 194) 22 x3) (gd (inR (x3 + 1)) (gd (inR (1)) (zY 268 27 [some (zR (some 177)), some (zI x1), some (zI x2), some (zI (x3 + 1))] [] (sI (sI (sJ h 192 x3.toNat (0#64)) 193 x3.toNat 0) 194 x3.toNat 0))))) from zGo 5 268 51 _ _ _).trans ?_
    refine (gd_t (by decide) _).trans ?_
    refine (gd_t ((ciw (PTM KM 194 _ rfl rfl) (PNM KM 194 rfl) (PLM KM 194 24 rfl rfl)).2 (by omega)) _).trans ?_
    refine gd_c Iff.rfl (fun c2 => ?_)
    refine (gd_t (by decide) _).trans ?_
    rfl
  · skip
    refine (show zY 268 60 [some (zR (some 177)), some (zI x1), some (zI x2), some (zI x3)] [] h = gd (([] : List zV).isEmpty = true ∧ zrk 268 = 0) (some (.inl (none), h)) from zGo 1 268 60 _ _ _).trans ?_
    refine (gd_t (⟨rfl, rfl⟩) _).trans ?_
    rfl
theorem q_M_goesBehind {h : zH} {x1 : Int} {x2 : Int} (KM : KM h) : zC 274 [zR (some 177), zI x1, zI x2] h =
    zY 274 2 [some (zR (some 177)), some (zI x1), some (zI x2), some (zI x1)] [] h := by
  refine (show zC 274 [zR (some 177), zI x1, zI x2] h = zY 274 2 [some (zR (some 177)), some (zI x1), some (zI x2), some (zI x1)] [] h from zGo 2 274 0 _ _ _).trans ?_
  rfl
theorem q_M_goesBehind_2 {h : zH} {x1 : Int} {x2 : Int} {x3 : Int} (KM : KM h) (g0 : (0 ≤ x3 ∧ x3 < 24) := by omega) (g1 : ((f_M_s h x3 4) = (-1)) → (¬ ((f_M_s h x3 3) = (-1))) → (¬ ((f_M_s h x3 3) = x2)) → (0 ≤ (f_M_s h x3 3) ∧ (f_M_s h x3 3) < 24) := by omega) : zY 274 2 [some (zR (some 177)), some (zI x1), some (zI x2), some (zI x3)] [] h =
    if (f_M_s h x3 4) = (-1) then
      if (f_M_s h x3 3) = (-1) then
        some (.inl (none), (sI h 177 29 1))
      else
        if (f_M_s h x3 3) = x2 then
          some (.inl (none), (sI h 177 29 1))
        else
          if (f_M_s h (f_M_s h x3 3) 0) = 2 then
            gd (0 ≤ (f_M_s h x3 3) ∧ (f_M_s h x3 3) < 24) (
            gd (-2147483648 ≤ (hI h 193 (f_M_s h x3 3).toNat) + 1 ∧ (hI h 193 (f_M_s h x3 3).toNat) + 1 < 2147483648) (
            if (hI h 194 (f_M_s h x3 3).toNat) < (hI (sI (sI h 177 27 (f_M_s h x3 3)) 193 (f_M_s h x3 3).toNat ((hI h 193 (f_M_s h x3 3).toNat) + 1)) 193 (f_M_s h x3 3).toNat) then
              some (.inl (none), (sI (sI (sI h 177 27 (f_M_s h x3 3)) 193 (f_M_s h x3 3).toNat ((hI h 193 (f_M_s h x3 3).toNat) + 1)) 194 (f_M_s h x3 3).toNat (hI (sI (sI h 177 27 (f_M_s h x3 3)) 193 (f_M_s h x3 3).toNat ((hI h 193 (f_M_s h x3 3).toNat) + 1)) 193 (f_M_s h x3 3).toNat)))
            else
              some (.inl (none), (sI (sI (sI h 177 27 (f_M_s h x3 3)) 193 (f_M_s h x3 3).toNat ((hI h 193 (f_M_s h x3 3).toNat) + 1)) 194 (f_M_s h x3 3).toNat (hI h 194 (f_M_s h x3 3).toNat)))))
          else
            zY 274 2 [some (zR (some 177)), some (zI x1), some (zI x2), some (zI (f_M_s h x3 3))] [] h
    else
      some (.inl (none), (sI h 177 27 (f_M_s h x3 4))) := by
  refine (show zY 274 2 [some (zR (some 177)), some (zI x1), some (zI x2), some (zI x3)] [] h = gd (inR (4)) (gd (false = zctor 207 ∧ zcs [] ≤ 8 ∧ zrm 274 (zrf 207 + 1) (8 + (zmaxl 207 + 11) + zrl 207) = true ∧ zcs [zR (some 177), zI x3, zI 4] ≤ zmaxl 207) (gd (zob h (some 177) 12) (zBack zY 274 5 8 [some (zR (some 177)), some (zI x1), some (zI x2), some (zI x3)] [] (zC 207 [zR (some 177), zI x3, zI 4] h)))) from zGo 4 274 2 _ _ _).trans ?_
  refine (gd_t (by decide) _).trans ?_
  refine (gd_t (⟨rfl, Nat.le_of_ble_eq_true rfl, rfl, Nat.le_of_ble_eq_true rfl⟩) _).trans ?_
  refine (gd_t (⟨rfl, (PTM KM 177 _ rfl rfl), (PNM KM 177 rfl)⟩) _).trans ?_
  refine (congrArg (zBack zY 274 5 8 [some (zR (some 177)), some (zI x1), some (zI x2), some (zI x3)] []) (e_M_sx KM (g0) (by omega))).trans ?_
  refine (show zY 274 8 [some (zR (some 177)), some (zI x1), some (zI x2), some (zI x3)] [zI (f_M_s h x3 4)] h = gd (inR (-1)) (if (f_M_s h x3 4) = (-1) then zY 274 12 [some (zR (some 177)), some (zI x1), some (zI x2), some (zI x3)] [] h else zY 274 97 [some (zR (some 177)), some (zI x1), some (zI x2), some (zI x3)] [] h) from zGo 2 274 8 _ _ _).trans ?_
  refine (gd_t (by decide) _).trans ?_
  refine iteC (fun c0 => ?_) (fun c0 => ?_)
  · skip
    refine (show zY 274 12 [some (zR (some 177)), some (zI x1), some (zI x2), some (zI x3)] [] h = gd (inR (3)) (gd (false = zctor 207 ∧ zcs [] ≤ 8 ∧ zrm 274 (zrf 207 + 1) (8 + (zmaxl 207 + 11) + zrl 207) = true ∧ zcs [zR (some 177), zI x3, zI 3] ≤ zmaxl 207) (gd (zob h (some 177) 12) (zBack zY 274 15 18 [some (zR (some 177)), some (zI x1), some (zI x2), some (zI x3)] [] (zC 207 [zR (some 177), zI x3, zI 3] h)))) from zGo 4 274 12 _ _ _).trans ?_
    refine (gd_t (by decide) _).trans ?_
    refine (gd_t (⟨rfl, Nat.le_of_ble_eq_true rfl, rfl, Nat.le_of_ble_eq_true rfl⟩) _).trans ?_
    refine (gd_t (⟨rfl, (PTM KM 177 _ rfl rfl), (PNM KM 177 rfl)⟩) _).trans ?_
    refine (congrArg (zBack zY 274 15 18 [some (zR (some 177)), some (zI x1), some (zI x2), some (zI x3)] []) (e_M_sx KM (g0) (by omega))).trans ?_
    refine (show zY 274 18 [some (zR (some 177)), some (zI x1), some (zI x2), some (zI x3)] [zI (f_M_s h x3 3)] h = gd (inR (-1)) (if (f_M_s h x3 3) = (-1) then zY 274 29 [some (zR (some 177)), some (zI x1), some (zI x2), some (zI (f_M_s h x3 3))] [] h else zY 274 24 [some (zR (some 177)), some (zI x1), some (zI x2), some (zI (f_M_s h x3 3))] [] h) from zGo 4 274 18 _ _ _).trans ?_
    refine (gd_t (by decide) _).trans ?_
    refine iteC (fun c1 => ?_) (fun c1 => ?_)
    · skip
      refine (show zY 274 29 [some (zR (some 177)), some (zI x1), some (zI x2), some (zI (f_M_s h x3 3))] [] h = gd (inR (1)) (gd (zob h (some 177) 12) (gd ((1 : Int) = 0 ∨ (1 : Int) = 1) (gd (([] : List zV).isEmpty = true ∧ zrk 274 = 0) (some (.inl (none), (sI h 177 29 1)))))) from zGo 4 274 29 _ _ _).trans ?_
      refine (gd_t (by decide) _).trans ?_
      refine (gd_t (⟨rfl, (PTM KM 177 _ rfl rfl), (PNM KM 177 rfl)⟩) _).trans ?_
      refine (gd_t (by decide) _).trans ?_
      refine (gd_t (⟨rfl, rfl⟩) _).trans ?_
      rfl
    · skip
      refine (show zY 274 24 [some (zR (some 177)), some (zI x1), some (zI x2), some (zI (f_M_s h x3 3))] [] h = if (f_M_s h x3 3) = x2 then zY 274 29 [some (zR (some 177)), some (zI x1), some (zI x2), some (zI (f_M_s h x3 3))] [] h else zY 274 35 [some (zR (some 177)), some (zI x1), some (zI x2), some (zI (f_M_s h x3 3))] [] h from zGo 3 274 24 _ _ _).trans ?_
      refine iteC (fun c2 => ?_) (fun c2 => ?_)
      · skip
        refine (show zY 274 29 [some (zR (some 177)), some (zI x1), some (zI x2), some (zI (f_M_s h x3 3))] [] h = gd (inR (1)) (gd (zob h (some 177) 12) (gd ((1 : Int) = 0 ∨ (1 : Int) = 1) (gd (([] : List zV).isEmpty = true ∧ zrk 274 = 0) (some (.inl (none), (sI h 177 29 1)))))) from zGo 4 274 29 _ _ _).trans ?_
        refine (gd_t (by decide) _).trans ?_
        refine (gd_t (⟨rfl, (PTM KM 177 _ rfl rfl), (PNM KM 177 rfl)⟩) _).trans ?_
        refine (gd_t (by decide) _).trans ?_
        refine (gd_t (⟨rfl, rfl⟩) _).trans ?_
        rfl
      · skip
        refine (show zY 274 35 [some (zR (some 177)), some (zI x1), some (zI x2), some (zI (f_M_s h x3 3))] [] h = gd (inR (0)) (gd (false = zctor 207 ∧ zcs [] ≤ 8 ∧ zrm 274 (zrf 207 + 1) (8 + (zmaxl 207 + 11) + zrl 207) = true ∧ zcs [zR (some 177), zI (f_M_s h x3 3), zI 0] ≤ zmaxl 207) (gd (zob h (some 177) 12) (zBack zY 274 38 41 [some (zR (some 177)), some (zI x1), some (zI x2), some (zI (f_M_s h x3 3))] [] (zC 207 [zR (some 177), zI (f_M_s h x3 3), zI 0] h)))) from zGo 4 274 35 _ _ _).trans ?_
        refine (gd_t (by decide) _).trans ?_
        refine (gd_t (⟨rfl, Nat.le_of_ble_eq_true rfl, rfl, Nat.le_of_ble_eq_true rfl⟩) _).trans ?_
        refine (gd_t (⟨rfl, (PTM KM 177 _ rfl rfl), (PNM KM 177 rfl)⟩) _).trans ?_
        refine (congrArg (zBack zY 274 38 41 [some (zR (some 177)), some (zI x1), some (zI x2), some (zI (f_M_s h x3 3))] []) (e_M_sx KM (g1 c0 c1 c2) (by omega))).trans ?_
        refine (show zY 274 41 [some (zR (some 177)), some (zI x1), some (zI x2), some (zI (f_M_s h x3 3))] [zI (f_M_s h (f_M_s h x3 3) 0)] h = gd (inR (2)) (if (f_M_s h (f_M_s h x3 3) 0) = 2 then zY 274 45 [some (zR (some 177)), some (zI x1), some (zI x2), some (zI (f_M_s h x3 3))] [] h else zY 274 2 [some (zR (some 177)), some (zI x1), some (zI x2), some (zI (f_M_s h x3 3))] [] h) from zGo 2 274 41 _ _ _).trans ?_
        refine (gd_t (by decide) _).trans ?_
        refine iteC (fun c3 => ?_) (fun c3 => ?_)
        · skip
          refine (show zY 274 45 [some (zR (some 177)), some (zI x1), some (zI x2), some (zI (f_M_s h x3 3))] [] h = gd (zob h (some 177) 12) (gd (zob (sI h 177 27 (f_M_s h x3 3)) (some 177) 12) (zY 274 54 [some (zR (some 177)), some (zI x1), some (zI x2), some (zI (f_M_s h x3 3))] [zR (hR h 177 33)] (sI h 177 27 (f_M_s h x3 3)))) from zGo 5 274 45 _ _ _).trans ?_
          refine (gd_t (⟨rfl, (PTM KM 177 _ rfl rfl), (PNM KM 177 rfl)⟩) _).trans ?_
          refine (gd_t (⟨rfl, (PTM KM 177 _ rfl rfl), (PNM KM 177 rfl)⟩) _).trans ?_
          refine (congrArg (fun r => zY 274 54 [some (zR (some 177)), some (zI x1), some (zI x2), some (zI (f_M_s h x3 3))] (zR r :: []) (sI h 177 27 (f_M_s h x3 3))) (PRM KM 177 33 _ rfl)).trans ?_
          refine (show zY 274 54 [some (zR (some 177)), some (zI x1), some (zI x2), some (zI (f_M_s h x3 3))] [zR (some 193)] (sI h 177 27 (f_M_s h x3 3)) = gd (zok (sI h 177 27 (f_M_s h x3 3)) (some 193) 22 (f_M_s h x3 3)) (gd (inR (1)) (gd (inR ((hI h 193 (f_M_s h x3 3).toNat) + 1)) (gd (zokw (sI h 177 27 (f_M_s h x3 3)) (some 193) 22 (f_M_s h x3 3)) (gd (zob (sI (sI h 177 27 (f_M_s h x3 3)) 193 (f_M_s h x3 3).toNat ((hI h 193 (f_M_s h x3 3).toNat) + 1)) (some 177) 12) (zY 274 64 [some (zR (some 177)), some (zI x1), some (zI x2), some (zI (f_M_s h x3 3))] [zR (hR h 177 34)] (sI (sI h 177 27 (f_M_s h x3 3)) 193 (f_M_s h x3 3).toNat ((hI h 193 (f_M_s h x3 3).toNat) + 1))))))) from zGo 8 274 54 _ _ _).trans ?_
          refine gd_c (ci (PTM KM 193 _ rfl rfl) (PLM KM 193 24 rfl rfl)) (fun c4 => ?_)
          refine (gd_t (by decide) _).trans ?_
          refine gd_c Iff.rfl (fun c5 => ?_)
          refine (gd_t ((ciw (PTM KM 193 _ rfl rfl) (PNM KM 193 rfl) (PLM KM 193 24 rfl rfl)).2 (by omega)) _).trans ?_
          refine (gd_t (⟨rfl, (PTM KM 177 _ rfl rfl), (PNM KM 177 rfl)⟩) _).trans ?_
          refine (congrArg (fun r => zY 274 64 [some (zR (some 177)), some (zI x1), some (zI x2), some (zI (f_M_s h x3 3))] (zR r :: []) (sI (sI h 177 27 (f_M_s h x3 3)) 193 (f_M_s h x3 3).toNat ((hI h 193 (f_M_s h x3 3).toNat) + 1))) (PRM KM 177 34 _ rfl)).trans ?_
          refine (show zY 274 64 [some (zR (some 177)), some (zI x1), some (zI x2), some (zI (f_M_s h x3 3))] [zR (some 194)] (sI (sI h 177 27 (f_M_s h x3 3)) 193 (f_M_s h x3 3).toNat ((hI h 193 (f_M_s h x3 3).toNat) + 1)) = gd (zob (sI (sI h 177 27 (f_M_s h x3 3)) 193 (f_M_s h x3 3).toNat ((hI h 193 (f_M_s h x3 3).toNat) + 1)) (some 177) 12) (zY 274 69 [some (zR (some 177)), some (zI x1), some (zI x2), some (zI (f_M_s h x3 3))] [zR (hR h 177 33), zI (f_M_s h x3 3), zR (some 194)] (sI (sI h 177 27 (f_M_s h x3 3)) 193 (f_M_s h x3 3).toNat ((hI h 193 (f_M_s h x3 3).toNat) + 1))) from zGo 3 274 64 _ _ _).trans ?_
          refine (gd_t (⟨rfl, (PTM KM 177 _ rfl rfl), (PNM KM 177 rfl)⟩) _).trans ?_
          refine (congrArg (fun r => zY 274 69 [some (zR (some 177)), some (zI x1), some (zI x2), some (zI (f_M_s h x3 3))] (zR r :: zI (f_M_s h x3 3) :: zR (some 194) :: []) (sI (sI h 177 27 (f_M_s h x3 3)) 193 (f_M_s h x3 3).toNat ((hI h 193 (f_M_s h x3 3).toNat) + 1))) (PRM KM 177 33 _ rfl)).trans ?_
          refine (show zY 274 69 [some (zR (some 177)), some (zI x1), some (zI x2), some (zI (f_M_s h x3 3))] [zR (some 193), zI (f_M_s h x3 3), zR (some 194)] (sI (sI h 177 27 (f_M_s h x3 3)) 193 (f_M_s h x3 3).toNat ((hI h 193 (f_M_s h x3 3).toNat) + 1)) = gd (zok (sI (sI h 177 27 (f_M_s h x3 3)) 193 (f_M_s h x3 3).toNat ((hI h 193 (f_M_s h x3 3).toNat) + 1)) (some 193) 22 (f_M_s h x3 3)) (gd (zob (sI (sI h 177 27 (f_M_s h x3 3)) 193 (f_M_s h x3 3).toNat ((hI h 193 (f_M_s h x3 3).toNat) + 1)) (some 177) 12) (zY 274 75 [some (zR (some 177)), some (zI x1), some (zI x2), some (zI (f_M_s h x3 3))] [zR (hR h 177 34), zI (hI (sI (sI h 177 27 (f_M_s h x3 3)) 193 (f_M_s h x3 3).toNat ((hI h 193 (f_M_s h x3 3).toNat) + 1)) 193 (f_M_s h x3 3).toNat), zI (f_M_s h x3 3), zR (some 194)] (sI (sI h 177 27 (f_M_s h x3 3)) 193 (f_M_s h x3 3).toNat ((hI h 193 (f_M_s h x3 3).toNat) + 1)))) from zGo 4 274 69 _ _ _).trans ?_
          refine (gd_t ((ci (PTM KM 193 _ rfl rfl) (PLM KM 193 24 rfl rfl)).2 (by omega)) _).trans ?_
          refine (gd_t (⟨rfl, (PTM KM 177 _ rfl rfl), (PNM KM 177 rfl)⟩) _).trans ?_
          refine (congrArg (fun r => zY 274 75 [some (zR (some 177)), some (zI x1), some (zI x2), some (zI (f_M_s h x3 3))] (zR r :: zI (hI (sI (sI h 177 27 (f_M_s h x3 3)) 193 (f_M_s h x3 3).toNat ((hI h 193 (f_M_s h x3 3).toNat) + 1)) 193 (f_M_s h x3 3).toNat) :: zI (f_M_s h x3 3) :: zR (some 194) :: []) (sI (sI h 177 27 (f_M_s h x3 3)) 193 (f_M_s h x3 3).toNat ((hI h 193 (f_M_s h x3 3).toNat) + 1))) (PRM KM 177 34 _ rfl)).trans ?_
          refine (show zY 274 75 [some (zR (some 177)), some (zI x1), some (zI x2), some (zI (f_M_s h x3 3))] [zR (some 194), zI (hI (sI (sI h 177 27 (f_M_s h x3 3)) 193 (f_M_s h x3 3).toNat ((hI h 193 (f_M_s h x3 3).toNat) + 1)) 193 (f_M_s h x3 3).toNat), zI (f_M_s h x3 3), zR (some 194)] (sI (sI h 177 27 (f_M_s h x3 3)) 193 (f_M_s h x3 3).toNat ((hI h 193 (f_M_s h x3 3).toNat) + 1)) = gd (zok (sI (sI h 177 27 (f_M_s h x3 3)) 193 (f_M_s h x3 3).toNat ((hI h 193 (f_M_s h x3 3).toNat) + 1)) (some 194) 22 (f_M_s h x3 3)) (if (hI h 194 (f_M_s h x3 3).toNat) < (hI (sI (sI h 177 27 (f_M_s h x3 3)) 193 (f_M_s h x3 3).toNat ((hI h 193 (f_M_s h x3 3).toNat) + 1)) 193 (f_M_s h x3 3).toNat) then zY 274 80 [some (zR (some 177)), some (zI x1), some (zI x2), some (zI (f_M_s h x3 3))] [zI (f_M_s h x3 3), zR (some 194)] (sI (sI h 177 27 (f_M_s h x3 3)) 193 (f_M_s h x3 3).toNat ((hI h 193 (f_M_s h x3 3).toNat) + 1)) else zY 274 89 [some (zR (some 177)), some (zI x1), some (zI x2), some (zI (f_M_s h x3 3))] [zI (f_M_s h x3 3), zR (some 194)] (sI (sI h 177 27 (f_M_s h x3 3)) 193 (f_M_s h x3 3).toNat ((hI h 193 (f_M_s h x3 3).toNat) + 1))) from zGo 3 274 75 _ _ _).trans ?_
          refine (gd_t ((ci (PTM KM 194 _ rfl rfl) (PLM KM 194 24 rfl rfl)).2 (by omega)) _).trans ?_
          refine iteC (fun c6 => ?_) (fun c6 => ?_)
          · skip
            refine (show zY 274 80 [some (zR (some 177)), some (zI x1), some (zI x2), some (zI (f_M_s h x3 3))] [zI (f_M_s h x3 3), zR (some 194)] (sI (sI h 177 27 (f_M_s h x3 3)) 193 (f_M_s h x3 3).toNat ((hI h 193 (f_M_s h x3 3).toNat) + 1)) = gd (zob (sI (sI h 177 27 (f_M_s h x3 3)) 193 (f_M_s h x3 3).toNat ((hI h 193 (f_M_s h x3 3).toNat) + 1)) (some 177) 12) (zY 274 84 [some (zR (some 177)), some (zI x1), some (zI x2), some (zI (f_M_s h x3 3))] [zR (hR h 177 33), zI (f_M_s h x3 3), zR (some 194)] (sI (sI h 177 27 (f_M_s h x3 3)) 193 (f_M_s h x3 3).toNat ((hI h 193 (f_M_s h x3 3).toNat) + 1))) from zGo 2 274 80 _ _ _).trans ?_
            refine (gd_t (⟨rfl, (PTM KM 177 _ rfl rfl), (PNM KM 177 rfl)⟩) _).trans ?_
            refine (congrArg (fun r => zY 274 84 [some (zR (some 177)), some (zI x1), some (zI x2), some (zI (f_M_s h x3 3))] (zR r :: zI (f_M_s h x3 3) :: zR (some 194) :: []) (sI (sI h 177 27 (f_M_s h x3 3)) 193 (f_M_s h x3 3).toNat ((hI h 193 (f_M_s h x3 3).toNat) + 1))) (PRM KM 177 33 _ rfl)).trans ?_
            refine (show zY 274 84 [some (zR (some 177)), some (zI x1), some (zI x2), some (zI (f_M_s h x3 3))] [zR (some 193), zI (f_M_s h x3 3), zR (some 194)] (sI (sI h 177 27 (f_M_s h x3 3)) 193 (f_M_s h x3 3).toNat ((hI h 193 (f_M_s h x3 3).toNat) + 1)) = gd (zok (sI (sI h 177 27 (f_M_s h x3 3)) 193 (f_M_s h x3 3).toNat ((hI h 193 (f_M_s h x3 3).toNat) + 1)) (some 193) 22 (f_M_s h x3 3)) (gd (zokw (sI (sI h 177 27 (f_M_s h x3 3)) 193 (f_M_s h x3 3).toNat ((hI h 193 (f_M_s h x3 3).toNat) + 1)) (some 194) 22 (f_M_s h x3 3)) (gd (([] : List zV).isEmpty = true ∧ zrk 274 = 0) (some (.inl (none), (sI (sI (sI h 177 27 (f_M_s h x3 3)) 193 (f_M_s h x3 3).toNat ((hI h 193 (f_M_s h x3 3).toNat) + 1)) 194 (f_M_s h x3 3).toNat (hI (sI (sI h 177 27 (f_M_s h x3 3)) 193 (f_M_s h x3 3).toNat ((hI h 193 (f_M_s h x3 3).toNat) + 1)) 193 (f_M_s h x3 3).toNat)))))) from zGo 5 274 84 _ _ _).trans ?_
            refine (gd_t ((ci (PTM KM 193 _ rfl rfl) (PLM KM 193 24 rfl rfl)).2 (by omega)) _).trans ?_
            refine (gd_t ((ciw (PTM KM 194 _ rfl rfl) (PNM KM 194 rfl) (PLM KM 194 24 rfl rfl)).2 (by omega)) _).trans ?_
            refine (gd_t (⟨rfl, rfl⟩) _).trans ?_
            rfl
          · skip
            refine (show zY 274 89 [some (zR (some 177)), some (zI x1), some (zI x2), some (zI (f_M_s h x3 3))] [zI (f_M_s h x3 3), zR (some 194)] (sI (sI h 177 27 (f_M_s h x3 3)) 193 (f_M_s h x3 3).toNat ((hI h 193 (f_M_s h x3 3).toNat) + 1)) = gd (zob (sI (sI h 177 27 (f_M_s h x3 3)) 193 (f_M_s h x3 3).toNat ((hI h 193 (f_M_s h x3 3).toNat) + 1)) (some 177) 12) (zY 274 93 [some (zR (some 177)), some (zI x1), some (zI x2), some (zI (f_M_s h x3 3))] [zR (hR h 177 34), zI (f_M_s h x3 3), zR (some 194)] (sI (sI h 177 27 (f_M_s h x3 3)) 193 (f_M_s h x3 3).toNat ((hI h 193 (f_M_s h x3 3).toNat) + 1))) from zGo 2 274 89 _ _ _).trans ?_
            refine (gd_t (⟨rfl, (PTM KM 177 _ rfl rfl), (PNM KM 177 rfl)⟩) _).trans ?_
            refine (congrArg (fun r => zY 274 93 [some (zR (some 177)), some (zI x1), some (zI x2), some (zI (f_M_s h x3 3))] (zR r :: zI (f_M_s h x3 3) :: zR (some 194) :: []) (sI (sI h 177 27 (f_M_s h x3 3)) 193 (f_M_s h x3 3).toNat ((hI h 193 (f_M_s h x3 3).toNat) + 1))) (PRM KM 177 34 _ rfl)).trans ?_
            refine (show zY 274 93 [some (zR (some 177)), some (zI x1), some (zI x2), some (zI (f_M_s h x3 3))] [zR (some 194), zI (f_M_s h x3 3), zR (some 194)] (sI (sI h 177 27 (f_M_s h x3 3)) 193 (f_M_s h x3 3).toNat ((hI h 193 (f_M_s h x3 3).toNat) + 1)) = gd (zok (sI (sI h 177 27 (f_M_s h x3 3)) 193 (f_M_s h x3 3).toNat ((hI h 193 (f_M_s h x3 3).toNat) + 1)) (some 194) 22 (f_M_s h x3 3)) (gd (zokw (sI (sI h 177 27 (f_M_s h x3 3)) 193 (f_M_s h x3 3).toNat ((hI h 193 (f_M_s h x3 3).toNat) + 1)) (some 194) 22 (f_M_s h x3 3)) (gd (([] : List zV).isEmpty = true ∧ zrk 274 = 0) (some (.inl (none), (sI (sI (sI h 177 27 (f_M_s h x3 3)) 193 (f_M_s h x3 3).toNat ((hI h 193 (f_M_s h x3 3).toNat) + 1)) 194 (f_M_s h x3 3).toNat (hI h 194 (f_M_s h x3 3).toNat)))))) from zGo 4 274 93 _ _ _).trans ?_
            refine (gd_t ((ci (PTM KM 194 _ rfl rfl) (PLM KM 194 24 rfl rfl)).2 (by omega)) _).trans ?_
            refine (gd_t ((ciw (PTM KM 194 _ rfl rfl) (PNM KM 194 rfl) (PLM KM 194 24 rfl rfl)).2 (by omega)) _).trans ?_
            refine (gd_t (⟨rfl, rfl⟩) _).trans ?_
            rfl
        · skip
          rfl
  · skip
    refine (show zY 274 97 [some (zR (some 177)), some (zI x1), some (zI x2), some (zI x3)] [] h = gd (inR (4)) (gd (false = zctor 207 ∧ zcs [zR (some 177)] ≤ 8 ∧ zrm 274 (zrf 207 + 1) (8 + (zmaxl 207 + 11) + zrl 207) = true ∧ zcs [zR (some 177), zI x3, zI 4] ≤ zmaxl 207) (gd (zob h (some 177) 12) (zBack zY 274 101 104 [some (zR (some 177)), some (zI x1), some (zI x2), some (zI x3)] [zR (some 177)] (zC 207 [zR (some 177), zI x3, zI 4] h)))) from zGo 5 274 97 _ _ _).trans ?_
    refine (gd_t (by decide) _).trans ?_
    refine (gd_t (⟨rfl, Nat.le_of_ble_eq_true rfl, rfl, Nat.le_of_ble_eq_true rfl⟩) _).trans ?_
    refine (gd_t (⟨rfl, (PTM KM 177 _ rfl rfl), (PNM KM 177 rfl)⟩) _).trans ?_
    refine (congrArg (zBack zY 274 101 104 [some (zR (some 177)), some (zI x1), some (zI x2), some (zI x3)] [zR (some 177)]) (e_M_sx KM (g0) (by omega))).trans ?_
    refine (show zY 274 104 [some (zR (some 177)), some (zI x1), some (zI x2), some (zI x3)] [zI (f_M_s h x3 4), zR (some 177)] h = gd (zob h (some 177) 12) (gd (([] : List zV).isEmpty = true ∧ zrk 274 = 0) (some (.inl (none), (sI h 177 27 (f_M_s h x3 4))))) from zGo 2 274 104 _ _ _).trans ?_
    refine (gd_t (⟨rfl, (PTM KM 177 _ rfl rfl), (PNM KM 177 rfl)⟩) _).trans ?_
    refine (gd_t (⟨rfl, rfl⟩) _).trans ?_
    rfl
theorem q_M_entersRow {h : zH} {x1 : Int} {x2 : Int} (KM : KM h) (g0 : (x1 = (-1)) → (0 ≤ (hI h 177 27) ∧ (hI h 177 27) < 24) := by omega) : zC 273 [zR (some 177), zI x1, zI x2] h =
    if x1 = (-1) then
      if (f_M_s h (hI h 177 27) 0) = 2 then
        gd (0 ≤ (hI h 177 27) ∧ (hI h 177 27) < 24) (
        gd (-2147483648 ≤ (hI h 193 (hI h 177 27).toNat) + 1 ∧ (hI h 193 (hI h 177 27).toNat) + 1 < 2147483648) (
        if (hI h 194 (hI h 177 27).toNat) < (hI (sI h 193 (hI h 177 27).toNat ((hI h 193 (hI h 177 27).toNat) + 1)) 193 (hI h 177 27).toNat) then
          some (.inl (none), (sI (sI h 193 (hI h 177 27).toNat ((hI h 193 (hI h 177 27).toNat) + 1)) 194 (hI h 177 27).toNat (hI (sI h 193 (hI h 177 27).toNat ((hI h 193 (hI h 177 27).toNat) + 1)) 193 (hI h 177 27).toNat)))
        else
          some (.inl (none), (sI (sI h 193 (hI h 177 27).toNat ((hI h 193 (hI h 177 27).toNat) + 1)) 194 (hI h 177 27).toNat (hI h 194 (hI h 177 27).toNat)))))
      else
        zBack zY 273 72 75 [some (zR (some 177)), some (zI x1), some (zI x2), some (zI (hI h 177 27))] [] (zC 274 [zR (some 177), zI (hI h 177 27), zI x2] h)
    else
      some (.inl (none), (sI h 177 27 x1)) := by
  refine (show zC 273 [zR (some 177), zI x1, zI x2] h = gd (inR (-1)) (if x1 = (-1) then zY 273 5 [some (zR (some 177)), some (zI x1), some (zI x2), none] [] h else zY 273 78 [some (zR (some 177)), some (zI x1), some (zI x2), none] [] h) from zGo 3 273 0 _ _ _).trans ?_
  refine (gd_t (by decide) _).trans ?_
  refine iteC (fun c0 => ?_) (fun c0 => ?_)
  · skip
    refine (show zY 273 5 [some (zR (some 177)), some (zI x1), some (zI x2), none] [] h = gd (zob h (some 177) 12) (gd (inR (0)) (gd (false = zctor 207 ∧ zcs [] ≤ 8 ∧ zrm 273 (zrf 207 + 1) (8 + (zmaxl 207 + 11) + zrl 207) = true ∧ zcs [zR (some 177), zI (hI h 177 27), zI 0] ≤ zmaxl 207) (gd (zob h (some 177) 12) (zBack zY 273 13 16 [some (zR (some 177)), some (zI x1), some (zI x2), some (zI (hI h 177 27))] [] (zC 207 [zR (some 177), zI (hI h 177 27), zI 0] h))))) from zGo 7 273 5 _ _ _).trans ?_
    refine (gd_t (⟨rfl, (PTM KM 177 _ rfl rfl), (PNM KM 177 rfl)⟩) _).trans ?_
    refine (gd_t (by decide) _).trans ?_
    refine (gd_t (⟨rfl, Nat.le_of_ble_eq_true rfl, rfl, Nat.le_of_ble_eq_true rfl⟩) _).trans ?_
    refine (gd_t (⟨rfl, (PTM KM 177 _ rfl rfl), (PNM KM 177 rfl)⟩) _).trans ?_
    refine (congrArg (zBack zY 273 13 16 [some (zR (some 177)), some (zI x1), some (zI x2), some (zI (hI h 177 27))] []) (e_M_sx KM (g0 c0) (by omega))).trans ?_
    refine (show zY 273 16 [some (zR (some 177)), some (zI x1), some (zI x2), some (zI (hI h 177 27))] [zI (f_M_s h (hI h 177 27) 0)] h = gd (inR (2)) (if (f_M_s h (hI h 177 27) 0) = 2 then zY 273 20 [some (zR (some 177)), some (zI x1), some (zI x2), some (zI (hI h 177 27))] [] h else zY 273 69 [some (zR (some 177)), some (zI x1), some (zI x2), some (zI (hI h 177 27))] [] h) from zGo 2 273 16 _ _ _).trans ?_
    refine (gd_t (by decide) _).trans ?_
    refine iteC (fun c1 => ?_) (fun c1 => ?_)
    · skip
      refine (show zY 273 20 [some (zR (some 177)), some (zI x1), some (zI x2), some (zI (hI h 177 27))] [] h = gd (zob h (some 177) 12) (zY 273 24 [some (zR (some 177)), some (zI x1), some (zI x2), some (zI (hI h 177 27))] [zR (hR h 177 33)] h) from zGo 2 273 20 _ _ _).trans ?_
      refine (gd_t (⟨rfl, (PTM KM 177 _ rfl rfl), (PNM KM 177 rfl)⟩) _).trans ?_
      refine (congrArg (fun r => zY 273 24 [some (zR (some 177)), some (zI x1), some (zI x2), some (zI (hI h 177 27))] (zR r :: []) h) (PRM KM 177 33 _ rfl)).trans ?_
      refine (show zY 273 24 [some (zR (some 177)), some (zI x1), some (zI x2), some (zI (hI h 177 27))] [zR (some 193)] h = gd (zok h (some 193) 22 (hI h 177 27)) (gd (inR (1)) (gd (inR ((hI h 193 (hI h 177 27).toNat) + 1)) (gd (zokw h (some 193) 22 (hI h 177 27)) (gd (zob (sI h 193 (hI h 177 27).toNat ((hI h 193 (hI h 177 27).toNat) + 1)) (some 177) 12) (zY 273 34 [some (zR (some 177)), some (zI x1), some (zI x2), some (zI (hI h 177 27))] [zR (hR h 177 34)] (sI h 193 (hI h 177 27).toNat ((hI h 193 (hI h 177 27).toNat) + 1))))))) from zGo 8 273 24 _ _ _).trans ?_
      refine gd_c (ci (PTM KM 193 _ rfl rfl) (PLM KM 193 24 rfl rfl)) (fun c2 => ?_)
      refine (gd_t (by decide) _).trans ?_
      refine gd_c Iff.rfl (fun c3 => ?_)
      refine (gd_t ((ciw (PTM KM 193 _ rfl rfl) (PNM KM 193 rfl) (PLM KM 193 24 rfl rfl)).2 (by omega)) _).trans ?_
      refine (gd_t (⟨rfl, (PTM KM 177 _ rfl rfl), (PNM KM 177 rfl)⟩) _).trans ?_
      refine (congrArg (fun r => zY 273 34 [some (zR (some 177)), some (zI x1), some (zI x2), some (zI (hI h 177 27))] (zR r :: []) (sI h 193 (hI h 177 27).toNat ((hI h 193 (hI h 177 27).toNat) + 1))) (PRM KM 177 34 _ rfl)).trans ?_
      refine (show zY 273 34 [some (zR (some 177)), some (zI x1), some (zI x2), some (zI (hI h 177 27))] [zR (some 194)] (sI h 193 (hI h 177 27).toNat ((hI h 193 (hI h 177 27).toNat) + 1)) = gd (zob (sI h 193 (hI h 177 27).toNat ((hI h 193 (hI h 177 27).toNat) + 1)) (some 177) 12) (zY 273 39 [some (zR (some 177)), some (zI x1), some (zI x2), some (zI (hI h 177 27))] [zR (hR h 177 33), zI (hI h 177 27), zR (some 194)] (sI h 193 (hI h 177 27).toNat ((hI h 193 (hI h 177 27).toNat) + 1))) from zGo 3 273 34 _ _ _).trans ?_
      refine (gd_t (⟨rfl, (PTM KM 177 _ rfl rfl), (PNM KM 177 rfl)⟩) _).trans ?_
      refine (congrArg (fun r => zY 273 39 [some (zR (some 177)), some (zI x1), some (zI x2), some (zI (hI h 177 27))] (zR r :: zI (hI h 177 27) :: zR (some 194) :: []) (sI h 193 (hI h 177 27).toNat ((hI h 193 (hI h 177 27).toNat) + 1))) (PRM KM 177 33 _ rfl)).trans ?_
      refine (show zY 273 39 [some (zR (some 177)), some (zI x1), some (zI x2), some (zI (hI h 177 27))] [zR (some 193), zI (hI h 177 27), zR (some 194)] (sI h 193 (hI h 177 27).toNat ((hI h 193 (hI h 177 27).toNat) + 1)) = gd (zok (sI h 193 (hI h 177 27).toNat ((hI h 193 (hI h 177 27).toNat) + 1)) (some 193) 22 (hI h 177 27)) (gd (zob (sI h 193 (hI h 177 27).toNat ((hI h 193 (hI h 177 27).toNat) + 1)) (some 177) 12) (zY 273 45 [some (zR (some 177)), some (zI x1), some (zI x2), some (zI (hI h 177 27))] [zR (hR h 177 34), zI (hI (sI h 193 (hI h 177 27).toNat ((hI h 193 (hI h 177 27).toNat) + 1)) 193 (hI h 177 27).toNat), zI (hI h 177 27), zR (some 194)] (sI h 193 (hI h 177 27).toNat ((hI h 193 (hI h 177 27).toNat) + 1)))) from zGo 4 273 39 _ _ _).trans ?_
      refine (gd_t ((ci (PTM KM 193 _ rfl rfl) (PLM KM 193 24 rfl rfl)).2 (by omega)) _).trans ?_
      refine (gd_t (⟨rfl, (PTM KM 177 _ rfl rfl), (PNM KM 177 rfl)⟩) _).trans ?_
      refine (congrArg (fun r => zY 273 45 [some (zR (some 177)), some (zI x1), some (zI x2), some (zI (hI h 177 27))] (zR r :: zI (hI (sI h 193 (hI h 177 27).toNat ((hI h 193 (hI h 177 27).toNat) + 1)) 193 (hI h 177 27).toNat) :: zI (hI h 177 27) :: zR (some 194) :: []) (sI h 193 (hI h 177 27).toNat ((hI h 193 (hI h 177 27).toNat) + 1))) (PRM KM 177 34 _ rfl)).trans ?_
      refine (show zY 273 45 [some (zR (some 177)), some (zI x1), some (zI x2), some (zI (hI h 177 27))] [zR (some 194), zI (hI (sI h 193 (hI h 177 27).toNat ((hI h 193 (hI h 177 27).toNat) + 1)) 193 (hI h 177 27).toNat), zI (hI h 177 27), zR (some 194)] (sI h 193 (hI h 177 27).toNat ((hI h 193 (hI h 177 27).toNat) + 1)) = gd (zok (sI h 193 (hI h 177 27).toNat ((hI h 193 (hI h 177 27).toNat) + 1)) (some 194) 22 (hI h 177 27)) (if (hI h 194 (hI h 177 27).toNat) < (hI (sI h 193 (hI h 177 27).toNat ((hI h 193 (hI h 177 27).toNat) + 1)) 193 (hI h 177 27).toNat) then zY 273 50 [some (zR (some 177)), some (zI x1), some (zI x2), some (zI (hI h 177 27))] [zI (hI h 177 27), zR (some 194)] (sI h 193 (hI h 177 27).toNat ((hI h 193 (hI h 177 27).toNat) + 1)) else zY 273 59 [some (zR (some 177)), some (zI x1), some (zI x2), some (zI (hI h 177 27))] [zI (hI h 177 27), zR (some 194)] (sI h 193 (hI h 177 27).toNat ((hI h 193 (hI h 177 27).toNat) + 1))) from zGo 3 273 45 _ _ _).trans ?_
      refine (gd_t ((ci (PTM KM 194 _ rfl rfl) (PLM KM 194 24 rfl rfl)).2 (by omega)) _).trans ?_
      refine iteC (fun c4 => ?_) (fun c4 => ?_)
      · skip
        refine (show zY 273 50 [some (zR (some 177)), some (zI x1), some (zI x2), some (zI (hI h 177 27))] [zI (hI h 177 27), zR (some 194)] (sI h 193 (hI h 177 27).toNat ((hI h 193 (hI h 177 27).toNat) + 1)) = gd (zob (sI h 193 (hI h 177 27).toNat ((hI h 193 (hI h 177 27).toNat) + 1)) (some 177) 12) (zY 273 54 [some (zR (some 177)), some (zI x1), some (zI x2), some (zI (hI h 177 27))] [zR (hR h 177 33), zI (hI h 177 27), zR (some 194)] (sI h 193 (hI h 177 27).toNat ((hI h 193 (hI h 177 27).toNat) + 1))) from zGo 2 273 50 _ _ _).trans ?_
        refine (gd_t (⟨rfl, (PTM KM 177 _ rfl rfl), (PNM KM 177 rfl)⟩) _).trans ?_
        refine (congrArg (fun r => zY 273 54 [some (zR (some 177)), some (zI x1), some (zI x2), some (zI (hI h 177 27))] (zR r :: zI (hI h 177 27) :: zR (some 194) :: []) (sI h 193 (hI h 177 27).toNat ((hI h 193 (hI h 177 27).toNat) + 1))) (PRM KM 177 33 _ rfl)).trans ?_
        refine (show zY 273 54 [some (zR (some 177)), some (zI x1), some (zI x2), some (zI (hI h 177 27))] [zR (some 193), zI (hI h 177 27), zR (some 194)] (sI h 193 (hI h 177 27).toNat ((hI h 193 (hI h 177 27).toNat) + 1)) = gd (zok (sI h 193 (hI h 177 27).toNat ((hI h 193 (hI h 177 27).toNat) + 1)) (some 193) 22 (hI h 177 27)) (gd (zokw (sI h 193 (hI h 177 27).toNat ((hI h 193 (hI h 177 27).toNat) + 1)) (some 194) 22 (hI h 177 27)) (gd (([] : List zV).isEmpty = true ∧ zrk 273 = 0) (some (.inl (none), (sI (sI h 193 (hI h 177 27).toNat ((hI h 193 (hI h 177 27).toNat) + 1)) 194 (hI h 177 27).toNat (hI (sI h 193 (hI h 177 27).toNat ((hI h 193 (hI h 177 27).toNat) + 1)) 193 (hI h 177 27).toNat)))))) from zGo 7 273 54 _ _ _).trans ?_
        refine (gd_t ((ci (PTM KM 193 _ rfl rfl) (PLM KM 193 24 rfl rfl)).2 (by omega)) _).trans ?_
        refine (gd_t ((ciw (PTM KM 194 _ rfl rfl) (PNM KM 194 rfl) (PLM KM 194 24 rfl rfl)).2 (by omega)) _).trans ?_
        refine (gd_t (⟨rfl, rfl⟩) _).trans ?_
        rfl
      · skip
        refine (show zY 273 59 [some (zR (some 177)), some (zI x1), some (zI x2), some (zI (hI h 177 27))] [zI (hI h 177 27), zR (some 194)] (sI h 193 (hI h 177 27).toNat ((hI h 193 (hI h 177 27).toNat) + 1)) = gd (zob (sI h 193 (hI h 177 27).toNat ((hI h 193 (hI h 177 27).toNat) + 1)) (some 177) 12) (zY 273 63 [some (zR (some 177)), some (zI x1), some (zI x2), some (zI (hI h 177 27))] [zR (hR h 177 34), zI (hI h 177 27), zR (some 194)] (sI h 193 (hI h 177 27).toNat ((hI h 193 (hI h 177 27).toNat) + 1))) from zGo 2 273 59 _ _ _).trans ?_
        refine (gd_t (⟨rfl, (PTM KM 177 _ rfl rfl), (PNM KM 177 rfl)⟩) _).trans ?_
        refine (congrArg (fun r => zY 273 63 [some (zR (some 177)), some (zI x1), some (zI x2), some (zI (hI h 177 27))] (zR r :: zI (hI h 177 27) :: zR (some 194) :: []) (sI h 193 (hI h 177 27).toNat ((hI h 193 (hI h 177 27).toNat) + 1))) (PRM KM 177 34 _ rfl)).trans ?_
        refine (show zY 273 63 [some (zR (some 177)), some (zI x1), some (zI x2), some (zI (hI h 177 27))] [zR (some 194), zI (hI h 177 27), zR (some 194)] (sI h 193 (hI h 177 27).toNat ((hI h 193 (hI h 177 27).toNat) + 1)) = gd (zok (sI h 193 (hI h 177 27).toNat ((hI h 193 (hI h 177 27).toNat) + 1)) (some 194) 22 (hI h 177 27)) (gd (zokw (sI h 193 (hI h 177 27).toNat ((hI h 193 (hI h 177 27).toNat) + 1)) (some 194) 22 (hI h 177 27)) (gd (([] : List zV).isEmpty = true ∧ zrk 273 = 0) (some (.inl (none), (sI (sI h 193 (hI h 177 27).toNat ((hI h 193 (hI h 177 27).toNat) + 1)) 194 (hI h 177 27).toNat (hI h 194 (hI h 177 27).toNat)))))) from zGo 6 273 63 _ _ _).trans ?_
        refine (gd_t ((ci (PTM KM 194 _ rfl rfl) (PLM KM 194 24 rfl rfl)).2 (by omega)) _).trans ?_
        refine (gd_t ((ciw (PTM KM 194 _ rfl rfl) (PNM KM 194 rfl) (PLM KM 194 24 rfl rfl)).2 (by omega)) _).trans ?_
        refine (gd_t (⟨rfl, rfl⟩) _).trans ?_
        rfl
    · skip
      refine (show zY 273 69 [some (zR (some 177)), some (zI x1), some (zI x2), some (zI (hI h 177 27))] [] h = gd (false = zctor 274 ∧ zcs [] ≤ 8 ∧ zrm 273 (zrf 274 + 1) (8 + (zmaxl 274 + 11) + zrl 274) = true ∧ zcs [zR (some 177), zI (hI h 177 27), zI x2] ≤ zmaxl 274) (gd (zob h (some 177) 12) (zBack zY 273 72 75 [some (zR (some 177)), some (zI x1), some (zI x2), some (zI (hI h 177 27))] [] (zC 274 [zR (some 177), zI (hI h 177 27), zI x2] h))) from zGo 4 273 69 _ _ _).trans ?_
      refine (gd_t (⟨rfl, Nat.le_of_ble_eq_true rfl, rfl, Nat.le_of_ble_eq_true rfl⟩) _).trans ?_
      refine (gd_t (⟨rfl, (PTM KM 177 _ rfl rfl), (PNM KM 177 rfl)⟩) _).trans ?_
      rfl
  · skip
    refine (show zY 273 78 [some (zR (some 177)), some (zI x1), some (zI x2), none] [] h = gd (zob h (some 177) 12) (gd (([] : List zV).isEmpty = true ∧ zrk 273 = 0) (some (.inl (none), (sI h 177 27 x1)))) from zGo 4 273 78 _ _ _).trans ?_
    refine (gd_t (⟨rfl, (PTM KM 177 _ rfl rfl), (PNM KM 177 rfl)⟩) _).trans ?_
    refine (gd_t (⟨rfl, rfl⟩) _).trans ?_
    rfl
theorem q_M_entersRow_r75 {h : zH} {x1 : Int} {x2 : Int} {x3 : Int} (KM : KM h) : zBack zY 273 72 75 [some (zR (some 177)), some (zI x1), some (zI x2), some (zI x3)] [] (some (.inl (none), h)) =
    some (.inl (none), h) := by
  refine (show zBack zY 273 72 75 [some (zR (some 177)), some (zI x1), some (zI x2), some (zI x3)] [] (some (.inl (none), h)) = gd (([] : List zV).isEmpty = true ∧ zrk 273 = 0) (some (.inl (none), h)) from zGo 2 273 75 _ _ _).trans ?_
  refine (gd_t (⟨rfl, rfl⟩) _).trans ?_
  rfl
theorem q_M_looksAt {h : zH} {x1 : Int} {x2 : Int} {x3 : Int} (KM : KM h) : zC 271 [zR (some 177), zI x1, zI x2, zI x3] h =
    gd (0 ≤ x1 ∧ x1 < 24) (
    if b_M_holds (hJ h 192 x1.toNat) (hI h 177 28) then
      some (.inl (some (zI 0)), h)
    else
      zBack zY 271 34 37 [some (zR (some 177)), some (zI x1), some (zI x2), some (zI x3)] [] (zC 272 [zR (some 177)] (sJ h 192 x1.toNat ((hJ h 192 x1.toNat) ||| (zlshl (1#64) (hI h 177 28)))))) := by
  refine (show zC 271 [zR (some 177), zI x1, zI x2, zI x3] h = gd (zob h (some 177) 12) (zY 271 4 [some (zR (some 177)), some (zI x1), some (zI x2), some (zI x3)] [zR (hR h 177 32)] h) from zGo 2 271 0 _ _ _).trans ?_
  refine (gd_t (⟨rfl, (PTM KM 177 _ rfl rfl), (PNM KM 177 rfl)⟩) _).trans ?_
  refine (congrArg (fun r => zY 271 4 [some (zR (some 177)), some (zI x1), some (zI x2), some (zI x3)] (zR r :: []) h) (PRM KM 177 32 _ rfl)).trans ?_
  refine (show zY 271 4 [some (zR (some 177)), some (zI x1), some (zI x2), some (zI x3)] [zR (some 192)] h = gd (zok h (some 192) 23 x1) (gd (zob h (some 177) 12) (gd (false = zctor 260 ∧ zcs [] ≤ 8 ∧ zrm 271 (zrf 260 + 1) (8 + (zmaxl 260 + 11) + zrl 260) = true ∧ zcs [zJ (hJ h 192 x1.toNat), zI (hI h 177 28)] ≤ zmaxl 260) (zBack zY 271 10 13 [some (zR (some 177)), some (zI x1), some (zI x2), some (zI x3)] [] (zC 260 [zJ (hJ h 192 x1.toNat), zI (hI h 177 28)] h)))) from zGo 5 271 4 _ _ _).trans ?_
  refine gd_c (ci (PTM KM 192 _ rfl rfl) (PLM KM 192 24 rfl rfl)) (fun c0 => ?_)
  refine (gd_t (⟨rfl, (PTM KM 177 _ rfl rfl), (PNM KM 177 rfl)⟩) _).trans ?_
  refine (gd_t (⟨rfl, Nat.le_of_ble_eq_true rfl, rfl, Nat.le_of_ble_eq_true rfl⟩) _).trans ?_
  refine (congrArg (zBack zY 271 10 13 [some (zR (some 177)), some (zI x1), some (zI x2), some (zI x3)] []) (e_M_holds)).trans ?_
  refine (show zY 271 13 [some (zR (some 177)), some (zI x1), some (zI x2), some (zI x3)] [zI (if b_M_holds (hJ h 192 x1.toNat) (hI h 177 28) then (1 : Int) else 0)] h = if (if b_M_holds (hJ h 192 x1.toNat) (hI h 177 28) then (1 : Int) else 0) = 0 then zY 271 18 [some (zR (some 177)), some (zI x1), some (zI x2), some (zI x3)] [] h else zY 271 16 [some (zR (some 177)), some (zI x1), some (zI x2), some (zI x3)] [] h from zGo 1 271 13 _ _ _).trans ?_
  refine iteB (fun c1 => ?_) (fun c1 => ?_)
  · skip
    refine (show zY 271 16 [some (zR (some 177)), some (zI x1), some (zI x2), some (zI x3)] [] h = gd (inR (0)) (gd (([] : List zV).isEmpty = true ∧ (zrk 271 = 1 ∨ zrk 271 = 6 ∧ ((0 : Int) = 0 ∨ (0 : Int) = 1))) (some (.inl (some (zI 0)), h))) from zGo 2 271 16 _ _ _).trans ?_
    refine (gd_t (by decide) _).trans ?_
    refine (gd_t (⟨rfl, Or.inr ⟨rfl, by decide⟩⟩) _).trans ?_
    rfl
  · skip
    refine (show zY 271 18 [some (zR (some 177)), some (zI x1), some (zI x2), some (zI x3)] [] h = gd (zob h (some 177) 12) (zY 271 22 [some (zR (some 177)), some (zI x1), some (zI x2), some (zI x3)] [zR (hR h 177 32)] h) from zGo 2 271 18 _ _ _).trans ?_
    refine (gd_t (⟨rfl, (PTM KM 177 _ rfl rfl), (PNM KM 177 rfl)⟩) _).trans ?_
    refine (congrArg (fun r => zY 271 22 [some (zR (some 177)), some (zI x1), some (zI x2), some (zI x3)] (zR r :: []) h) (PRM KM 177 32 _ rfl)).trans ?_
    refine (show zY 271 22 [some (zR (some 177)), some (zI x1), some (zI x2), some (zI x3)] [zR (some 192)] h = gd (zok h (some 192) 23 x1) (gd (zob h (some 177) 12) (gd (zokw h (some 192) 23 x1) (gd (false = zctor 272 ∧ zcs [] ≤ 8 ∧ zrm 271 (zrf 272 + 1) (8 + (zmaxl 272 + 11) + zrl 272) = true ∧ zcs [zR (some 177)] ≤ zmaxl 272) (gd (zob (sJ h 192 x1.toNat ((hJ h 192 x1.toNat) ||| (zlshl (1#64) (hI h 177 28)))) (some 177) 12) (zBack zY 271 34 37 [some (zR (some 177)), some (zI x1), some (zI x2), some (zI x3)] [] (zC 272 [zR (some 177)] (sJ h 192 x1.toNat ((hJ h 192 x1.toNat) ||| (zlshl (1#64) (hI h 177 28)))))))))) from zGo 11 271 22 _ _ _).trans ?_
    refine (gd_t ((ci (PTM KM 192 _ rfl rfl) (PLM KM 192 24 rfl rfl)).2 (by (try simp only [b_M_holds] at *); omega)) _).trans ?_
    refine (gd_t (⟨rfl, (PTM KM 177 _ rfl rfl), (PNM KM 177 rfl)⟩) _).trans ?_
    refine (gd_t ((ciw (PTM KM 192 _ rfl rfl) (PNM KM 192 rfl) (PLM KM 192 24 rfl rfl)).2 (by (try simp only [b_M_holds] at *); omega)) _).trans ?_
    refine (gd_t (⟨rfl, Nat.le_of_ble_eq_true rfl, rfl, Nat.le_of_ble_eq_true rfl⟩) _).trans ?_
    refine (gd_t (⟨rfl, (PTM KM 177 _ rfl rfl), (PNM KM 177 rfl)⟩) _).trans ?_
    rfl
theorem q_M_looksAt_r37 {h : zH} {x1 : Int} {x2 : Int} {x3 : Int} (KM : KM h) : zBack zY 271 34 37 [some (zR (some 177)), some (zI x1), some (zI x2), some (zI x3)] [] (some (.inl (none), h)) =
    gd (-2147483648 ≤ 2 + x1 ∧ 2 + x1 < 2147483648) (
    zBack zY 271 45 48 [some (zR (some 177)), some (zI x1), some (zI x2), some (zI x3)] [] (zC 249 [zR (some 177), zI (2 + x1), zI (hI h 177 28)] h)) := by
  refine (show zBack zY 271 34 37 [some (zR (some 177)), some (zI x1), some (zI x2), some (zI x3)] [] (some (.inl (none), h)) = gd (inR (2)) (gd (inR (2 + x1)) (gd (zob h (some 177) 12) (gd (false = zctor 249 ∧ zcs [] ≤ 8 ∧ zrm 271 (zrf 249 + 1) (8 + (zmaxl 249 + 11) + zrl 249) = true ∧ zcs [zR (some 177), zI (2 + x1), zI (hI h 177 28)] ≤ zmaxl 249) (gd (zob h (some 177) 12) (zBack zY 271 45 48 [some (zR (some 177)), some (zI x1), some (zI x2), some (zI x3)] [] (zC 249 [zR (some 177), zI (2 + x1), zI (hI h 177 28)] h)))))) from zGo 7 271 37 _ _ _).trans ?_
  refine (gd_t (by decide) _).trans ?_
  refine gd_c Iff.rfl (fun c0 => ?_)
  refine (gd_t (⟨rfl, (PTM KM 177 _ rfl rfl), (PNM KM 177 rfl)⟩) _).trans ?_
  refine (gd_t (⟨rfl, Nat.le_of_ble_eq_true rfl, rfl, Nat.le_of_ble_eq_true rfl⟩) _).trans ?_
  refine (gd_t (⟨rfl, (PTM KM 177 _ rfl rfl), (PNM KM 177 rfl)⟩) _).trans ?_
  rfl
theorem q_M_looksAt_r48 {h : zH} {x1 : Int} {x2 : Int} {x3 : Int} {y : Int} (KM : KM h) (g0 : (y = 1) → (0 ≤ x1 ∧ x1 < 24) := by omega) : zBack zY 271 45 48 [some (zR (some 177)), some (zI x1), some (zI x2), some (zI x3)] [] (some (.inl (some (zI y)), h)) =
    if y = 1 then
      zBack zY 271 60 63 [some (zR (some 177)), some (zI x1), some (zI x2), some (zI x3)] [] (zC 273 [zR (some 177), zI (f_M_s h x1 5), zI x3] h)
    else
      gd (0 ≤ x1 ∧ x1 < 24) (
      if x1 = x2 then
        some (.inl (some (zI 1)), (sI (sI (sJ h 192 x1.toNat (0#64)) 193 x1.toNat 0) 177 29 1))
      else
        zBack zY 271 95 98 [some (zR (some 177)), some (zI x1), some (zI x2), some (zI x3)] [] (zC 274 [zR (some 177), zI x1, zI x3] (sI (sJ h 192 x1.toNat (0#64)) 193 x1.toNat 0))) := by
  refine (show zBack zY 271 45 48 [some (zR (some 177)), some (zI x1), some (zI x2), some (zI x3)] [] (some (.inl (some (zI y)), h)) = gd (inR (1)) (if y = 1 then zY 271 52 [some (zR (some 177)), some (zI x1), some (zI x2), some (zI x3)] [] h else zY 271 65 [some (zR (some 177)), some (zI x1), some (zI x2), some (zI x3)] [] h) from zGo 2 271 48 _ _ _).trans ?_
  refine (gd_t (by decide) _).trans ?_
  refine iteC (fun c0 => ?_) (fun c0 => ?_)
  · skip
    refine (show zY 271 52 [some (zR (some 177)), some (zI x1), some (zI x2), some (zI x3)] [] h = gd (inR (5)) (gd (false = zctor 207 ∧ zcs [zR (some 177)] ≤ 8 ∧ zrm 271 (zrf 207 + 1) (8 + (zmaxl 207 + 11) + zrl 207) = true ∧ zcs [zR (some 177), zI x1, zI 5] ≤ zmaxl 207) (gd (zob h (some 177) 12) (zBack zY 271 56 59 [some (zR (some 177)), some (zI x1), some (zI x2), some (zI x3)] [zR (some 177)] (zC 207 [zR (some 177), zI x1, zI 5] h)))) from zGo 5 271 52 _ _ _).trans ?_
    refine (gd_t (by decide) _).trans ?_
    refine (gd_t (⟨rfl, Nat.le_of_ble_eq_true rfl, rfl, Nat.le_of_ble_eq_true rfl⟩) _).trans ?_
    refine (gd_t (⟨rfl, (PTM KM 177 _ rfl rfl), (PNM KM 177 rfl)⟩) _).trans ?_
    refine (congrArg (zBack zY 271 56 59 [some (zR (some 177)), some (zI x1), some (zI x2), some (zI x3)] [zR (some 177)]) (e_M_sx KM (g0 c0) (by omega))).trans ?_
    refine (show zY 271 59 [some (zR (some 177)), some (zI x1), some (zI x2), some (zI x3)] [zI (f_M_s h x1 5), zR (some 177)] h = gd (false = zctor 273 ∧ zcs [] ≤ 8 ∧ zrm 271 (zrf 273 + 1) (8 + (zmaxl 273 + 11) + zrl 273) = true ∧ zcs [zR (some 177), zI (f_M_s h x1 5), zI x3] ≤ zmaxl 273) (gd (zob h (some 177) 12) (zBack zY 271 60 63 [some (zR (some 177)), some (zI x1), some (zI x2), some (zI x3)] [] (zC 273 [zR (some 177), zI (f_M_s h x1 5), zI x3] h))) from zGo 2 271 59 _ _ _).trans ?_
    refine (gd_t (⟨rfl, Nat.le_of_ble_eq_true rfl, rfl, Nat.le_of_ble_eq_true rfl⟩) _).trans ?_
    refine (gd_t (⟨rfl, (PTM KM 177 _ rfl rfl), (PNM KM 177 rfl)⟩) _).trans ?_
    rfl
  · skip
    refine (show zY 271 65 [some (zR (some 177)), some (zI x1), some (zI x2), some (zI x3)] [] h = gd (zob h (some 177) 12) (zY 271 69 [some (zR (some 177)), some (zI x1), some (zI x2), some (zI x3)] [zR (hR h 177 32)] h) from zGo 2 271 65 _ _ _).trans ?_
    refine (gd_t (⟨rfl, (PTM KM 177 _ rfl rfl), (PNM KM 177 rfl)⟩) _).trans ?_
    refine (congrArg (fun r => zY 271 69 [some (zR (some 177)), some (zI x1), some (zI x2), some (zI x3)] (zR r :: []) h) (PRM KM 177 32 _ rfl)).trans ?_
    refine (show zY 271 69 [some (zR (some 177)), some (zI x1), some (zI x2), some (zI x3)] [zR (some 192)] h = gd (zokw h (some 192) 23 x1) (gd (zob (sJ h 192 x1.toNat (0#64)) (some 177) 12) (zY 271 76 [some (zR (some 177)), some (zI x1), some (zI x2), some (zI x3)] [zR (hR h 177 33)] (sJ h 192 x1.toNat (0#64)))) from zGo 5 271 69 _ _ _).trans ?_
    refine gd_c (ciw (PTM KM 192 _ rfl rfl) (PNM KM 192 rfl) (PLM KM 192 24 rfl rfl)) (fun c1 => ?_)
    refine (gd_t (⟨rfl, (PTM KM 177 _ rfl rfl), (PNM KM 177 rfl)⟩) _).trans ?_
    refine (congrArg (fun r => zY 271 76 [some (zR (some 177)), some (zI x1), some (zI x2), some (zI x3)] (zR r :: []) (sJ h 192 x1.toNat (0#64))) (PRM KM 177 33 _ rfl)).trans ?_
    refine (show zY 271 76 [some (zR (some 177)), some (zI x1), some (zI x2), some (zI x3)] [zR (some 193)] (sJ h 192 x1.toNat (0#64)) = gd (inR (0)) (gd (zokw (sJ h 192 x1.toNat (0#64)) (some 193) 22 x1) (if x1 = x2 then zY 271 84 [some (zR (some 177)), some (zI x1), some (zI x2), some (zI x3)] [] (sI (sJ h 192 x1.toNat (0#64)) 193 x1.toNat 0) else zY 271 92 [some (zR (some 177)), some (zI x1), some (zI x2), some (zI x3)] [] (sI (sJ h 192 x1.toNat (0#64)) 193 x1.toNat 0))) from zGo 6 271 76 _ _ _).trans ?_
    refine (gd_t (by decide) _).trans ?_
    refine (gd_t ((ciw (PTM KM 193 _ rfl rfl) (PNM KM 193 rfl) (PLM KM 193 24 rfl rfl)).2 (by omega)) _).trans ?_
    refine iteC (fun c2 => ?_) (fun c2 => ?_)
    · skip
      refine (show zY 271 84 [some (zR (some 177)), some (zI x1), some (zI x2), some (zI x3)] [] (sI (sJ h 192 x1.toNat (0#64)) 193 x1.toNat 0) = gd (inR (1)) (gd (zob (sI (sJ h 192 x1.toNat (0#64)) 193 x1.toNat 0) (some 177) 12) (gd ((1 : Int) = 0 ∨ (1 : Int) = 1) (gd (inR (1)) (gd (([] : List zV).isEmpty = true ∧ (zrk 271 = 1 ∨ zrk 271 = 6 ∧ ((1 : Int) = 0 ∨ (1 : Int) = 1))) (some (.inl (some (zI 1)), (sI (sI (sJ h 192 x1.toNat (0#64)) 193 x1.toNat 0) 177 29 1))))))) from zGo 6 271 84 _ _ _).trans ?_
      refine (gd_t (by decide) _).trans ?_
      refine (gd_t (⟨rfl, (PTM KM 177 _ rfl rfl), (PNM KM 177 rfl)⟩) _).trans ?_
      refine (gd_t (by decide) _).trans ?_
      refine (gd_t (by decide) _).trans ?_
      refine (gd_t (⟨rfl, Or.inr ⟨rfl, by decide⟩⟩) _).trans ?_
      rfl
    · skip
      refine (show zY 271 92 [some (zR (some 177)), some (zI x1), some (zI x2), some (zI x3)] [] (sI (sJ h 192 x1.toNat (0#64)) 193 x1.toNat 0) = gd (false = zctor 274 ∧ zcs [] ≤ 8 ∧ zrm 271 (zrf 274 + 1) (8 + (zmaxl 274 + 11) + zrl 274) = true ∧ zcs [zR (some 177), zI x1, zI x3] ≤ zmaxl 274) (gd (zob (sI (sJ h 192 x1.toNat (0#64)) 193 x1.toNat 0) (some 177) 12) (zBack zY 271 95 98 [some (zR (some 177)), some (zI x1), some (zI x2), some (zI x3)] [] (zC 274 [zR (some 177), zI x1, zI x3] (sI (sJ h 192 x1.toNat (0#64)) 193 x1.toNat 0)))) from zGo 4 271 92 _ _ _).trans ?_
      refine (gd_t (⟨rfl, Nat.le_of_ble_eq_true rfl, rfl, Nat.le_of_ble_eq_true rfl⟩) _).trans ?_
      refine (gd_t (⟨rfl, (PTM KM 177 _ rfl rfl), (PNM KM 177 rfl)⟩) _).trans ?_
      rfl
theorem q_M_looksAt_r63 {h : zH} {x1 : Int} {x2 : Int} {x3 : Int} (KM : KM h) : zBack zY 271 60 63 [some (zR (some 177)), some (zI x1), some (zI x2), some (zI x3)] [] (some (.inl (none), h)) =
    some (.inl (some (zI 1)), h) := by
  refine (show zBack zY 271 60 63 [some (zR (some 177)), some (zI x1), some (zI x2), some (zI x3)] [] (some (.inl (none), h)) = gd (inR (1)) (gd (([] : List zV).isEmpty = true ∧ (zrk 271 = 1 ∨ zrk 271 = 6 ∧ ((1 : Int) = 0 ∨ (1 : Int) = 1))) (some (.inl (some (zI 1)), h))) from zGo 2 271 63 _ _ _).trans ?_
  refine (gd_t (by decide) _).trans ?_
  refine (gd_t (⟨rfl, Or.inr ⟨rfl, by decide⟩⟩) _).trans ?_
  rfl
theorem q_M_looksAt_r98 {h : zH} {x1 : Int} {x2 : Int} {x3 : Int} (KM : KM h) : zBack zY 271 95 98 [some (zR (some 177)), some (zI x1), some (zI x2), some (zI x3)] [] (some (.inl (none), h)) =
    some (.inl (some (zI 1)), h) := by
  refine (show zBack zY 271 95 98 [some (zR (some 177)), some (zI x1), some (zI x2), some (zI x3)] [] (some (.inl (none), h)) = gd (inR (1)) (gd (([] : List zV).isEmpty = true ∧ (zrk 271 = 1 ∨ zrk 271 = 6 ∧ ((1 : Int) = 0 ∨ (1 : Int) = 1))) (some (.inl (some (zI 1)), h))) from zGo 2 271 98 _ _ _).trans ?_
  refine (gd_t (by decide) _).trans ?_
  refine (gd_t (⟨rfl, Or.inr ⟨rfl, by decide⟩⟩) _).trans ?_
  rfl
theorem q_M_stepsOn {h : zH} {x1 : Int} {x2 : Int} (KM : KM h) : zC 270 [zR (some 177), zI x1, zI x2] h =
    gd (0 ≤ (hI h 177 27) ∧ (hI h 177 27) < 24) (
    if (f_M_s (sJ h 195 (hI h 177 27).toNat ((hJ h 195 (hI h 177 27).toNat) ||| (zlshl (1#64) (hI h 177 28)))) (hI h 177 27) 0) = 2 then
      zBack zY 270 34 37 [some (zR (some 177)), some (zI x1), some (zI x2), some (zI (hI h 177 27))] [] (zC 271 [zR (some 177), zI (hI h 177 27), zI x1, zI x2] (sJ h 195 (hI h 177 27).toNat ((hJ h 195 (hI h 177 27).toNat) ||| (zlshl (1#64) (hI h 177 28)))))
    else
      zBack zY 270 39 42 [some (zR (some 177)), some (zI x1), some (zI x2), some (zI (hI h 177 27))] [] (zC 272 [zR (some 177)] (sJ h 195 (hI h 177 27).toNat ((hJ h 195 (hI h 177 27).toNat) ||| (zlshl (1#64) (hI h 177 28)))))) := by
  refine (show zC 270 [zR (some 177), zI x1, zI x2] h = gd (zob h (some 177) 12) (gd (zob h (some 177) 12) (zY 270 9 [some (zR (some 177)), some (zI x1), some (zI x2), some (zI (hI h 177 27))] [zR (hR h 177 35)] h)) from zGo 5 270 0 _ _ _).trans ?_
  refine (gd_t (⟨rfl, (PTM KM 177 _ rfl rfl), (PNM KM 177 rfl)⟩) _).trans ?_
  refine (gd_t (⟨rfl, (PTM KM 177 _ rfl rfl), (PNM KM 177 rfl)⟩) _).trans ?_
  refine (congrArg (fun r => zY 270 9 [some (zR (some 177)), some (zI x1), some (zI x2), some (zI (hI h 177 27))] (zR r :: []) h) (PRM KM 177 35 _ rfl)).trans ?_
  refine (show zY 270 9 [some (zR (some 177)), some (zI x1), some (zI x2), some (zI (hI h 177 27))] [zR (some 195)] h = gd (zok h (some 195) 23 (hI h 177 27)) (gd (zob h (some 177) 12) (gd (zokw h (some 195) 23 (hI h 177 27)) (gd (inR (0)) (gd (false = zctor 207 ∧ zcs [] ≤ 8 ∧ zrm 270 (zrf 207 + 1) (8 + (zmaxl 207 + 11) + zrl 207) = true ∧ zcs [zR (some 177), zI (hI h 177 27), zI 0] ≤ zmaxl 207) (gd (zob (sJ h 195 (hI h 177 27).toNat ((hJ h 195 (hI h 177 27).toNat) ||| (zlshl (1#64) (hI h 177 28)))) (some 177) 12) (zBack zY 270 23 26 [some (zR (some 177)), some (zI x1), some (zI x2), some (zI (hI h 177 27))] [] (zC 207 [zR (some 177), zI (hI h 177 27), zI 0] (sJ h 195 (hI h 177 27).toNat ((hJ h 195 (hI h 177 27).toNat) ||| (zlshl (1#64) (hI h 177 28))))))))))) from zGo 13 270 9 _ _ _).trans ?_
  refine gd_c (ci (PTM KM 195 _ rfl rfl) (PLM KM 195 24 rfl rfl)) (fun c0 => ?_)
  refine (gd_t (⟨rfl, (PTM KM 177 _ rfl rfl), (PNM KM 177 rfl)⟩) _).trans ?_
  refine (gd_t ((ciw (PTM KM 195 _ rfl rfl) (PNM KM 195 rfl) (PLM KM 195 24 rfl rfl)).2 (by omega)) _).trans ?_
  refine (gd_t (by decide) _).trans ?_
  refine (gd_t (⟨rfl, Nat.le_of_ble_eq_true rfl, rfl, Nat.le_of_ble_eq_true rfl⟩) _).trans ?_
  refine (gd_t (⟨rfl, (PTM KM 177 _ rfl rfl), (PNM KM 177 rfl)⟩) _).trans ?_
  refine (congrArg (zBack zY 270 23 26 [some (zR (some 177)), some (zI x1), some (zI x2), some (zI (hI h 177 27))] []) (e_M_sx (h := (sJ h 195 (hI h 177 27).toNat ((hJ h 195 (hI h 177 27).toNat) ||| (zlshl (1#64) (hI h 177 28))))) KM (by omega) (by omega))).trans ?_
  refine (show zY 270 26 [some (zR (some 177)), some (zI x1), some (zI x2), some (zI (hI h 177 27))] [zI (f_M_s (sJ h 195 (hI h 177 27).toNat ((hJ h 195 (hI h 177 27).toNat) ||| (zlshl (1#64) (hI h 177 28)))) (hI h 177 27) 0)] (sJ h 195 (hI h 177 27).toNat ((hJ h 195 (hI h 177 27).toNat) ||| (zlshl (1#64) (hI h 177 28)))) = gd (inR (2)) (if (f_M_s (sJ h 195 (hI h 177 27).toNat ((hJ h 195 (hI h 177 27).toNat) ||| (zlshl (1#64) (hI h 177 28)))) (hI h 177 27) 0) = 2 then zY 270 30 [some (zR (some 177)), some (zI x1), some (zI x2), some (zI (hI h 177 27))] [] (sJ h 195 (hI h 177 27).toNat ((hJ h 195 (hI h 177 27).toNat) ||| (zlshl (1#64) (hI h 177 28)))) else zY 270 38 [some (zR (some 177)), some (zI x1), some (zI x2), some (zI (hI h 177 27))] [] (sJ h 195 (hI h 177 27).toNat ((hJ h 195 (hI h 177 27).toNat) ||| (zlshl (1#64) (hI h 177 28))))) from zGo 2 270 26 _ _ _).trans ?_
  refine (gd_t (by decide) _).trans ?_
  refine iteC (fun c1 => ?_) (fun c1 => ?_)
  · skip
    refine (show zY 270 30 [some (zR (some 177)), some (zI x1), some (zI x2), some (zI (hI h 177 27))] [] (sJ h 195 (hI h 177 27).toNat ((hJ h 195 (hI h 177 27).toNat) ||| (zlshl (1#64) (hI h 177 28)))) = gd (false = zctor 271 ∧ zcs [] ≤ 8 ∧ zrm 270 (zrf 271 + 1) (8 + (zmaxl 271 + 11) + zrl 271) = true ∧ zcs [zR (some 177), zI (hI h 177 27), zI x1, zI x2] ≤ zmaxl 271) (gd (zob (sJ h 195 (hI h 177 27).toNat ((hJ h 195 (hI h 177 27).toNat) ||| (zlshl (1#64) (hI h 177 28)))) (some 177) 12) (zBack zY 270 34 37 [some (zR (some 177)), some (zI x1), some (zI x2), some (zI (hI h 177 27))] [] (zC 271 [zR (some 177), zI (hI h 177 27), zI x1, zI x2] (sJ h 195 (hI h 177 27).toNat ((hJ h 195 (hI h 177 27).toNat) ||| (zlshl (1#64) (hI h 177 28))))))) from zGo 5 270 30 _ _ _).trans ?_
    refine (gd_t (⟨rfl, Nat.le_of_ble_eq_true rfl, rfl, Nat.le_of_ble_eq_true rfl⟩) _).trans ?_
    refine (gd_t (⟨rfl, (PTM KM 177 _ rfl rfl), (PNM KM 177 rfl)⟩) _).trans ?_
    rfl
  · skip
    refine (show zY 270 38 [some (zR (some 177)), some (zI x1), some (zI x2), some (zI (hI h 177 27))] [] (sJ h 195 (hI h 177 27).toNat ((hJ h 195 (hI h 177 27).toNat) ||| (zlshl (1#64) (hI h 177 28)))) = gd (false = zctor 272 ∧ zcs [] ≤ 8 ∧ zrm 270 (zrf 272 + 1) (8 + (zmaxl 272 + 11) + zrl 272) = true ∧ zcs [zR (some 177)] ≤ zmaxl 272) (gd (zob (sJ h 195 (hI h 177 27).toNat ((hJ h 195 (hI h 177 27).toNat) ||| (zlshl (1#64) (hI h 177 28)))) (some 177) 12) (zBack zY 270 39 42 [some (zR (some 177)), some (zI x1), some (zI x2), some (zI (hI h 177 27))] [] (zC 272 [zR (some 177)] (sJ h 195 (hI h 177 27).toNat ((hJ h 195 (hI h 177 27).toNat) ||| (zlshl (1#64) (hI h 177 28))))))) from zGo 2 270 38 _ _ _).trans ?_
    refine (gd_t (⟨rfl, Nat.le_of_ble_eq_true rfl, rfl, Nat.le_of_ble_eq_true rfl⟩) _).trans ?_
    refine (gd_t (⟨rfl, (PTM KM 177 _ rfl rfl), (PNM KM 177 rfl)⟩) _).trans ?_
    rfl
theorem q_M_stepsOn_r37 {h : zH} {x1 : Int} {x2 : Int} {x3 : Int} {y : Int} (KM : KM h) : zBack zY 270 34 37 [some (zR (some 177)), some (zI x1), some (zI x2), some (zI x3)] [] (some (.inl (some (zI y)), h)) =
    gd ((y : Int) = 0 ∨ (y : Int) = 1) (
    some (.inl (some (zI y)), h)) := by
  refine (show zBack zY 270 34 37 [some (zR (some 177)), some (zI x1), some (zI x2), some (zI x3)] [] (some (.inl (some (zI y)), h)) = gd (([] : List zV).isEmpty = true ∧ (zrk 270 = 1 ∨ zrk 270 = 6 ∧ ((y : Int) = 0 ∨ (y : Int) = 1))) (some (.inl (some (zI y)), h)) from zGo 1 270 37 _ _ _).trans ?_
  refine gd_c (⟨fun a => (a.2.resolve_left (fun e => nomatch e)).2, fun a => ⟨rfl, Or.inr ⟨rfl, a⟩⟩⟩) (fun c0 => ?_)
  rfl
theorem q_M_stepsOn_r42 {h : zH} {x1 : Int} {x2 : Int} {x3 : Int} (KM : KM h) (g0 : (0 ≤ x3 ∧ x3 < 24) := by omega) : zBack zY 270 39 42 [some (zR (some 177)), some (zI x1), some (zI x2), some (zI x3)] [] (some (.inl (none), h)) =
    if (f_M_s h x3 0) = 1 then
      gd (-2147483648 ≤ 2 + x3 ∧ 2 + x3 < 2147483648) (
      zBack zY 270 61 64 [some (zR (some 177)), some (zI x1), some (zI x2), some (zI x3)] [zR (some 177)] (zC 249 [zR (some 177), zI (2 + x3), zI (hI h 177 28)] h))
    else
      zBack zY 270 98 101 [some (zR (some 177)), some (zI x1), some (zI x2), some (zI x3)] [zR (some 177)] (zC 256 [zR (some 177), zI x3, zI (hI h 177 28)] h) := by
  refine (show zBack zY 270 39 42 [some (zR (some 177)), some (zI x1), some (zI x2), some (zI x3)] [] (some (.inl (none), h)) = gd (inR (0)) (gd (false = zctor 207 ∧ zcs [] ≤ 8 ∧ zrm 270 (zrf 207 + 1) (8 + (zmaxl 207 + 11) + zrl 207) = true ∧ zcs [zR (some 177), zI x3, zI 0] ≤ zmaxl 207) (gd (zob h (some 177) 12) (zBack zY 270 45 48 [some (zR (some 177)), some (zI x1), some (zI x2), some (zI x3)] [] (zC 207 [zR (some 177), zI x3, zI 0] h)))) from zGo 4 270 42 _ _ _).trans ?_
  refine (gd_t (by decide) _).trans ?_
  refine (gd_t (⟨rfl, Nat.le_of_ble_eq_true rfl, rfl, Nat.le_of_ble_eq_true rfl⟩) _).trans ?_
  refine (gd_t (⟨rfl, (PTM KM 177 _ rfl rfl), (PNM KM 177 rfl)⟩) _).trans ?_
  refine (congrArg (zBack zY 270 45 48 [some (zR (some 177)), some (zI x1), some (zI x2), some (zI x3)] []) (e_M_sx KM (g0) (by omega))).trans ?_
  refine (show zY 270 48 [some (zR (some 177)), some (zI x1), some (zI x2), some (zI x3)] [zI (f_M_s h x3 0)] h = gd (inR (1)) (if (f_M_s h x3 0) = 1 then zY 270 52 [some (zR (some 177)), some (zI x1), some (zI x2), some (zI x3)] [] h else zY 270 91 [some (zR (some 177)), some (zI x1), some (zI x2), some (zI x3)] [] h) from zGo 2 270 48 _ _ _).trans ?_
  refine (gd_t (by decide) _).trans ?_
  refine iteC (fun c0 => ?_) (fun c0 => ?_)
  · skip
    refine (show zY 270 52 [some (zR (some 177)), some (zI x1), some (zI x2), some (zI x3)] [] h = gd (inR (2)) (gd (inR (2 + x3)) (gd (zob h (some 177) 12) (gd (false = zctor 249 ∧ zcs [zR (some 177)] ≤ 8 ∧ zrm 270 (zrf 249 + 1) (8 + (zmaxl 249 + 11) + zrl 249) = true ∧ zcs [zR (some 177), zI (2 + x3), zI (hI h 177 28)] ≤ zmaxl 249) (gd (zob h (some 177) 12) (zBack zY 270 61 64 [some (zR (some 177)), some (zI x1), some (zI x2), some (zI x3)] [zR (some 177)] (zC 249 [zR (some 177), zI (2 + x3), zI (hI h 177 28)] h)))))) from zGo 8 270 52 _ _ _).trans ?_
    refine (gd_t (by decide) _).trans ?_
    refine gd_c Iff.rfl (fun c1 => ?_)
    refine (gd_t (⟨rfl, (PTM KM 177 _ rfl rfl), (PNM KM 177 rfl)⟩) _).trans ?_
    refine (gd_t (⟨rfl, Nat.le_of_ble_eq_true rfl, rfl, Nat.le_of_ble_eq_true rfl⟩) _).trans ?_
    refine (gd_t (⟨rfl, (PTM KM 177 _ rfl rfl), (PNM KM 177 rfl)⟩) _).trans ?_
    rfl
  · skip
    refine (show zY 270 91 [some (zR (some 177)), some (zI x1), some (zI x2), some (zI x3)] [] h = gd (zob h (some 177) 12) (gd (false = zctor 256 ∧ zcs [zR (some 177)] ≤ 8 ∧ zrm 270 (zrf 256 + 1) (8 + (zmaxl 256 + 11) + zrl 256) = true ∧ zcs [zR (some 177), zI x3, zI (hI h 177 28)] ≤ zmaxl 256) (gd (zob h (some 177) 12) (zBack zY 270 98 101 [some (zR (some 177)), some (zI x1), some (zI x2), some (zI x3)] [zR (some 177)] (zC 256 [zR (some 177), zI x3, zI (hI h 177 28)] h)))) from zGo 6 270 91 _ _ _).trans ?_
    refine (gd_t (⟨rfl, (PTM KM 177 _ rfl rfl), (PNM KM 177 rfl)⟩) _).trans ?_
    refine (gd_t (⟨rfl, Nat.le_of_ble_eq_true rfl, rfl, Nat.le_of_ble_eq_true rfl⟩) _).trans ?_
    refine (gd_t (⟨rfl, (PTM KM 177 _ rfl rfl), (PNM KM 177 rfl)⟩) _).trans ?_
    rfl
theorem q_M_stepsOn_r64 {h : zH} {x1 : Int} {x2 : Int} {x3 : Int} {y : Int} (KM : KM h) (g0 : (y = 1) → (0 ≤ x3 ∧ x3 < 24) := by omega) (g1 : (¬ (y = 1)) → (0 ≤ x3 ∧ x3 < 24) := by omega) : zBack zY 270 61 64 [some (zR (some 177)), some (zI x1), some (zI x2), some (zI x3)] [zR (some 177)] (some (.inl (some (zI y)), h)) =
    if y = 1 then
      zBack zY 270 85 88 [some (zR (some 177)), some (zI x1), some (zI x2), some (zI x3)] [] (zC 273 [zR (some 177), zI (f_M_s h x3 5), zI x2] h)
    else
      zBack zY 270 85 88 [some (zR (some 177)), some (zI x1), some (zI x2), some (zI x3)] [] (zC 273 [zR (some 177), zI (f_M_s h x3 6), zI x2] h) := by
  refine (show zBack zY 270 61 64 [some (zR (some 177)), some (zI x1), some (zI x2), some (zI x3)] [zR (some 177)] (some (.inl (some (zI y)), h)) = gd (inR (1)) (if y = 1 then zY 270 68 [some (zR (some 177)), some (zI x1), some (zI x2), some (zI x3)] [zR (some 177)] h else zY 270 77 [some (zR (some 177)), some (zI x1), some (zI x2), some (zI x3)] [zR (some 177)] h) from zGo 2 270 64 _ _ _).trans ?_
  refine (gd_t (by decide) _).trans ?_
  refine iteC (fun c0 => ?_) (fun c0 => ?_)
  · skip
    refine (show zY 270 68 [some (zR (some 177)), some (zI x1), some (zI x2), some (zI x3)] [zR (some 177)] h = gd (inR (5)) (gd (false = zctor 207 ∧ zcs [zR (some 177)] ≤ 8 ∧ zrm 270 (zrf 207 + 1) (8 + (zmaxl 207 + 11) + zrl 207) = true ∧ zcs [zR (some 177), zI x3, zI 5] ≤ zmaxl 207) (gd (zob h (some 177) 12) (zBack zY 270 71 74 [some (zR (some 177)), some (zI x1), some (zI x2), some (zI x3)] [zR (some 177)] (zC 207 [zR (some 177), zI x3, zI 5] h)))) from zGo 4 270 68 _ _ _).trans ?_
    refine (gd_t (by decide) _).trans ?_
    refine (gd_t (⟨rfl, Nat.le_of_ble_eq_true rfl, rfl, Nat.le_of_ble_eq_true rfl⟩) _).trans ?_
    refine (gd_t (⟨rfl, (PTM KM 177 _ rfl rfl), (PNM KM 177 rfl)⟩) _).trans ?_
    refine (congrArg (zBack zY 270 71 74 [some (zR (some 177)), some (zI x1), some (zI x2), some (zI x3)] [zR (some 177)]) (e_M_sx KM (g0 c0) (by omega))).trans ?_
    refine (show zY 270 74 [some (zR (some 177)), some (zI x1), some (zI x2), some (zI x3)] [zI (f_M_s h x3 5), zR (some 177)] h = gd (false = zctor 273 ∧ zcs [] ≤ 8 ∧ zrm 270 (zrf 273 + 1) (8 + (zmaxl 273 + 11) + zrl 273) = true ∧ zcs [zR (some 177), zI (f_M_s h x3 5), zI x2] ≤ zmaxl 273) (gd (zob h (some 177) 12) (zBack zY 270 85 88 [some (zR (some 177)), some (zI x1), some (zI x2), some (zI x3)] [] (zC 273 [zR (some 177), zI (f_M_s h x3 5), zI x2] h))) from zGo 3 270 74 _ _ _).trans ?_
    refine (gd_t (⟨rfl, Nat.le_of_ble_eq_true rfl, rfl, Nat.le_of_ble_eq_true rfl⟩) _).trans ?_
    refine (gd_t (⟨rfl, (PTM KM 177 _ rfl rfl), (PNM KM 177 rfl)⟩) _).trans ?_
    rfl
  · skip
    refine (show zY 270 77 [some (zR (some 177)), some (zI x1), some (zI x2), some (zI x3)] [zR (some 177)] h = gd (-128 ≤ (6 : Int) ∧ (6 : Int) < 128) (gd (false = zctor 207 ∧ zcs [zR (some 177)] ≤ 8 ∧ zrm 270 (zrf 207 + 1) (8 + (zmaxl 207 + 11) + zrl 207) = true ∧ zcs [zR (some 177), zI x3, zI 6] ≤ zmaxl 207) (gd (zob h (some 177) 12) (zBack zY 270 81 84 [some (zR (some 177)), some (zI x1), some (zI x2), some (zI x3)] [zR (some 177)] (zC 207 [zR (some 177), zI x3, zI 6] h)))) from zGo 4 270 77 _ _ _).trans ?_
    refine (gd_t (by decide) _).trans ?_
    refine (gd_t (⟨rfl, Nat.le_of_ble_eq_true rfl, rfl, Nat.le_of_ble_eq_true rfl⟩) _).trans ?_
    refine (gd_t (⟨rfl, (PTM KM 177 _ rfl rfl), (PNM KM 177 rfl)⟩) _).trans ?_
    refine (congrArg (zBack zY 270 81 84 [some (zR (some 177)), some (zI x1), some (zI x2), some (zI x3)] [zR (some 177)]) (e_M_sx KM (g1 c0) (by omega))).trans ?_
    refine (show zY 270 84 [some (zR (some 177)), some (zI x1), some (zI x2), some (zI x3)] [zI (f_M_s h x3 6), zR (some 177)] h = gd (false = zctor 273 ∧ zcs [] ≤ 8 ∧ zrm 270 (zrf 273 + 1) (8 + (zmaxl 273 + 11) + zrl 273) = true ∧ zcs [zR (some 177), zI (f_M_s h x3 6), zI x2] ≤ zmaxl 273) (gd (zob h (some 177) 12) (zBack zY 270 85 88 [some (zR (some 177)), some (zI x1), some (zI x2), some (zI x3)] [] (zC 273 [zR (some 177), zI (f_M_s h x3 6), zI x2] h))) from zGo 2 270 84 _ _ _).trans ?_
    refine (gd_t (⟨rfl, Nat.le_of_ble_eq_true rfl, rfl, Nat.le_of_ble_eq_true rfl⟩) _).trans ?_
    refine (gd_t (⟨rfl, (PTM KM 177 _ rfl rfl), (PNM KM 177 rfl)⟩) _).trans ?_
    rfl
theorem q_M_stepsOn_r88 {h : zH} {x1 : Int} {x2 : Int} {x3 : Int} (KM : KM h) : zBack zY 270 85 88 [some (zR (some 177)), some (zI x1), some (zI x2), some (zI x3)] [] (some (.inl (none), h)) =
    some (.inl (some (zI 1)), h) := by
  refine (show zBack zY 270 85 88 [some (zR (some 177)), some (zI x1), some (zI x2), some (zI x3)] [] (some (.inl (none), h)) = gd (inR (1)) (gd (([] : List zV).isEmpty = true ∧ (zrk 270 = 1 ∨ zrk 270 = 6 ∧ ((1 : Int) = 0 ∨ (1 : Int) = 1))) (some (.inl (some (zI 1)), h))) from zGo 3 270 88 _ _ _).trans ?_
  refine (gd_t (by decide) _).trans ?_
  refine (gd_t (⟨rfl, Or.inr ⟨rfl, by decide⟩⟩) _).trans ?_
  rfl
theorem q_M_stepsOn_r101 {h : zH} {x1 : Int} {x2 : Int} {x3 : Int} {y : Int} (KM : KM h) : zBack zY 270 98 101 [some (zR (some 177)), some (zI x1), some (zI x2), some (zI x3)] [zR (some 177)] (some (.inl (some (zI y)), h)) =
    zBack zY 270 107 110 [some (zR (some 177)), some (zI x1), some (zI x2), some (zI x3)] [] (zC 274 [zR (some 177), zI x3, zI x2] (sI h 177 28 y)) := by
  refine (show zBack zY 270 98 101 [some (zR (some 177)), some (zI x1), some (zI x2), some (zI x3)] [zR (some 177)] (some (.inl (some (zI y)), h)) = gd (zob h (some 177) 12) (gd (false = zctor 274 ∧ zcs [] ≤ 8 ∧ zrm 270 (zrf 274 + 1) (8 + (zmaxl 274 + 11) + zrl 274) = true ∧ zcs [zR (some 177), zI x3, zI x2] ≤ zmaxl 274) (gd (zob (sI h 177 28 y) (some 177) 12) (zBack zY 270 107 110 [some (zR (some 177)), some (zI x1), some (zI x2), some (zI x3)] [] (zC 274 [zR (some 177), zI x3, zI x2] (sI h 177 28 y))))) from zGo 5 270 101 _ _ _).trans ?_
  refine (gd_t (⟨rfl, (PTM KM 177 _ rfl rfl), (PNM KM 177 rfl)⟩) _).trans ?_
  refine (gd_t (⟨rfl, Nat.le_of_ble_eq_true rfl, rfl, Nat.le_of_ble_eq_true rfl⟩) _).trans ?_
  refine (gd_t (⟨rfl, (PTM KM 177 _ rfl rfl), (PNM KM 177 rfl)⟩) _).trans ?_
  rfl
theorem q_M_stepsOn_r110 {h : zH} {x1 : Int} {x2 : Int} {x3 : Int} (KM : KM h) : zBack zY 270 107 110 [some (zR (some 177)), some (zI x1), some (zI x2), some (zI x3)] [] (some (.inl (none), h)) =
    some (.inl (some (zI 1)), h) := by
  refine (show zBack zY 270 107 110 [some (zR (some 177)), some (zI x1), some (zI x2), some (zI x3)] [] (some (.inl (none), h)) = gd (inR (1)) (gd (([] : List zV).isEmpty = true ∧ (zrk 270 = 1 ∨ zrk 270 = 6 ∧ ((1 : Int) = 0 ∨ (1 : Int) = 1))) (some (.inl (some (zI 1)), h))) from zGo 2 270 110 _ _ _).trans ?_
  refine (gd_t (by decide) _).trans ?_
  refine (gd_t (⟨rfl, Or.inr ⟨rfl, by decide⟩⟩) _).trans ?_
  rfl
theorem q_M_goesThrough {h : zH} {x1 : Int} {x2 : Int} (KM : KM h) : zC 269 [zR (some 177), zI x1, zI x2] h =
    if (hI h 177 27) = (-1) then
      zY 269 21 [some (zR (some 177)), some (zI x1), some (zI x2), some (zI 0)] [] h
    else
      if (hI h 177 29) = 0 then
        zY 269 21 [some (zR (some 177)), some (zI x1), some (zI x2), some (zI 1)] [] h
      else
        zY 269 21 [some (zR (some 177)), some (zI x1), some (zI x2), some (zI 0)] [] h := by
  refine (show zC 269 [zR (some 177), zI x1, zI x2] h = gd (zob h (some 177) 12) (gd (inR (-1)) (if (hI h 177 27) = (-1) then zY 269 19 [some (zR (some 177)), some (zI x1), some (zI x2), none] [] h else zY 269 8 [some (zR (some 177)), some (zI x1), some (zI x2), none] [] h)) from zGo 4 269 0 _ _ _).trans ?_
  refine (gd_t (⟨rfl, (PTM KM 177 _ rfl rfl), (PNM KM 177 rfl)⟩) _).trans ?_
  refine (gd_t (by decide) _).trans ?_
  refine iteC (fun c0 => ?_) (fun c0 => ?_)
  · skip
    refine (show zY 269 19 [some (zR (some 177)), some (zI x1), some (zI x2), none] [] h = gd (inR (0)) (zY 269 21 [some (zR (some 177)), some (zI x1), some (zI x2), some (zI 0)] [] h) from zGo 2 269 19 _ _ _).trans ?_
    refine (gd_t (by decide) _).trans ?_
    rfl
  · skip
    refine (show zY 269 8 [some (zR (some 177)), some (zI x1), some (zI x2), none] [] h = gd (zob h (some 177) 12) (if (hI h 177 29) = 0 then zY 269 15 [some (zR (some 177)), some (zI x1), some (zI x2), none] [] h else zY 269 19 [some (zR (some 177)), some (zI x1), some (zI x2), none] [] h) from zGo 3 269 8 _ _ _).trans ?_
    refine (gd_t (⟨rfl, (PTM KM 177 _ rfl rfl), (PNM KM 177 rfl)⟩) _).trans ?_
    refine iteC (fun c1 => ?_) (fun c1 => ?_)
    · skip
      refine (show zY 269 15 [some (zR (some 177)), some (zI x1), some (zI x2), none] [] h = gd (inR (1)) (zY 269 21 [some (zR (some 177)), some (zI x1), some (zI x2), some (zI 1)] [] h) from zGo 3 269 15 _ _ _).trans ?_
      refine (gd_t (by decide) _).trans ?_
      rfl
    · skip
      refine (show zY 269 19 [some (zR (some 177)), some (zI x1), some (zI x2), none] [] h = gd (inR (0)) (zY 269 21 [some (zR (some 177)), some (zI x1), some (zI x2), some (zI 0)] [] h) from zGo 2 269 19 _ _ _).trans ?_
      refine (gd_t (by decide) _).trans ?_
      rfl
theorem q_M_goesThrough_21 {h : zH} {x1 : Int} {x2 : Int} {x3 : Int} (KM : KM h) : zY 269 21 [some (zR (some 177)), some (zI x1), some (zI x2), some (zI x3)] [] h =
    if x3 = 0 then
      some (.inl (none), h)
    else
      zBack zY 269 28 31 [some (zR (some 177)), some (zI x1), some (zI x2), some (zI x3)] [] (zC 270 [zR (some 177), zI x1, zI x2] h) := by
  refine (show zY 269 21 [some (zR (some 177)), some (zI x1), some (zI x2), some (zI x3)] [] h = if x3 = 0 then zY 269 50 [some (zR (some 177)), some (zI x1), some (zI x2), some (zI x3)] [] h else zY 269 25 [some (zR (some 177)), some (zI x1), some (zI x2), some (zI x3)] [] h from zGo 2 269 21 _ _ _).trans ?_
  refine iteC (fun c0 => ?_) (fun c0 => ?_)
  · skip
    refine (show zY 269 50 [some (zR (some 177)), some (zI x1), some (zI x2), some (zI x3)] [] h = gd (([] : List zV).isEmpty = true ∧ zrk 269 = 0) (some (.inl (none), h)) from zGo 1 269 50 _ _ _).trans ?_
    refine (gd_t (⟨rfl, rfl⟩) _).trans ?_
    rfl
  · skip
    refine (show zY 269 25 [some (zR (some 177)), some (zI x1), some (zI x2), some (zI x3)] [] h = gd (false = zctor 270 ∧ zcs [] ≤ 8 ∧ zrm 269 (zrf 270 + 1) (8 + (zmaxl 270 + 11) + zrl 270) = true ∧ zcs [zR (some 177), zI x1, zI x2] ≤ zmaxl 270) (gd (zob h (some 177) 12) (zBack zY 269 28 31 [some (zR (some 177)), some (zI x1), some (zI x2), some (zI x3)] [] (zC 270 [zR (some 177), zI x1, zI x2] h))) from zGo 4 269 25 _ _ _).trans ?_
    refine (gd_t (⟨rfl, Nat.le_of_ble_eq_true rfl, rfl, Nat.le_of_ble_eq_true rfl⟩) _).trans ?_
    refine (gd_t (⟨rfl, (PTM KM 177 _ rfl rfl), (PNM KM 177 rfl)⟩) _).trans ?_
    rfl
theorem q_M_goesThrough_r31 {h : zH} {x1 : Int} {x2 : Int} {x3 : Int} {y : Int} (KM : KM h) : zBack zY 269 28 31 [some (zR (some 177)), some (zI x1), some (zI x2), some (zI x3)] [] (some (.inl (some (zI y)), h)) =
    if y = 0 then
      zY 269 21 [some (zR (some 177)), some (zI x1), some (zI x2), some (zI 0)] [] h
    else
      if (hI h 177 29) = 0 then
        zY 269 21 [some (zR (some 177)), some (zI x1), some (zI x2), some (zI 1)] [] h
      else
        zY 269 21 [some (zR (some 177)), some (zI x1), some (zI x2), some (zI 0)] [] h := by
  refine (show zBack zY 269 28 31 [some (zR (some 177)), some (zI x1), some (zI x2), some (zI x3)] [] (some (.inl (some (zI y)), h)) = if y = 0 then zY 269 45 [some (zR (some 177)), some (zI x1), some (zI x2), some (zI x3)] [] h else zY 269 34 [some (zR (some 177)), some (zI x1), some (zI x2), some (zI x3)] [] h from zGo 1 269 31 _ _ _).trans ?_
  refine iteC (fun c0 => ?_) (fun c0 => ?_)
  · skip
    refine (show zY 269 45 [some (zR (some 177)), some (zI x1), some (zI x2), some (zI x3)] [] h = gd (inR (0)) (zY 269 21 [some (zR (some 177)), some (zI x1), some (zI x2), some (zI 0)] [] h) from zGo 3 269 45 _ _ _).trans ?_
    refine (gd_t (by decide) _).trans ?_
    rfl
  · skip
    refine (show zY 269 34 [some (zR (some 177)), some (zI x1), some (zI x2), some (zI x3)] [] h = gd (zob h (some 177) 12) (if (hI h 177 29) = 0 then zY 269 41 [some (zR (some 177)), some (zI x1), some (zI x2), some (zI x3)] [] h else zY 269 45 [some (zR (some 177)), some (zI x1), some (zI x2), some (zI x3)] [] h) from zGo 3 269 34 _ _ _).trans ?_
    refine (gd_t (⟨rfl, (PTM KM 177 _ rfl rfl), (PNM KM 177 rfl)⟩) _).trans ?_
    refine iteC (fun c1 => ?_) (fun c1 => ?_)
    · skip
      refine (show zY 269 41 [some (zR (some 177)), some (zI x1), some (zI x2), some (zI x3)] [] h = gd (inR (1)) (zY 269 21 [some (zR (some 177)), some (zI x1), some (zI x2), some (zI 1)] [] h) from zGo 4 269 41 _ _ _).trans ?_
      refine (gd_t (by decide) _).trans ?_
      rfl
    · skip
      refine (show zY 269 45 [some (zR (some 177)), some (zI x1), some (zI x2), some (zI x3)] [] h = gd (inR (0)) (zY 269 21 [some (zR (some 177)), some (zI x1), some (zI x2), some (zI 0)] [] h) from zGo 3 269 45 _ _ _).trans ?_
      refine (gd_t (by decide) _).trans ?_
      rfl
theorem q_M_runsFrom {h : zH} {x1 : Int} (KM : KM h) : zC 296 [zR (some 177), zI x1] h =
    zBack zY 296 6 9 [some (zR (some 177)), some (zI x1)] [] (zC 268 [zR (some 177), zI (hI h 177 12), zI x1] h) := by
  refine (show zC 296 [zR (some 177), zI x1] h = gd (zob h (some 177) 12) (gd (false = zctor 268 ∧ zcs [] ≤ 8 ∧ zrm 296 (zrf 268 + 1) (8 + (zmaxl 268 + 11) + zrl 268) = true ∧ zcs [zR (some 177), zI (hI h 177 12), zI x1] ≤ zmaxl 268) (gd (zob h (some 177) 12) (zBack zY 296 6 9 [some (zR (some 177)), some (zI x1)] [] (zC 268 [zR (some 177), zI (hI h 177 12), zI x1] h)))) from zGo 5 296 0 _ _ _).trans ?_
  refine (gd_t (⟨rfl, (PTM KM 177 _ rfl rfl), (PNM KM 177 rfl)⟩) _).trans ?_
  refine (gd_t (⟨rfl, Nat.le_of_ble_eq_true rfl, rfl, Nat.le_of_ble_eq_true rfl⟩) _).trans ?_
  refine (gd_t (⟨rfl, (PTM KM 177 _ rfl rfl), (PNM KM 177 rfl)⟩) _).trans ?_
  rfl
theorem q_M_runsFrom_r9 {h : zH} {x1 : Int} (KM : KM h) : zBack zY 296 6 9 [some (zR (some 177)), some (zI x1)] [] (some (.inl (none), h)) =
    if (hI h 177 12) = (-1) then
      zBack zY 296 29 32 [some (zR (some 177)), some (zI x1)] [] (zC 269 [zR (some 177), zI (-1), zI (-1)] (sI h 177 29 1))
    else
      zBack zY 296 29 32 [some (zR (some 177)), some (zI x1)] [] (zC 269 [zR (some 177), zI (-1), zI (-1)] (sI h 177 29 0)) := by
  refine (show zBack zY 296 6 9 [some (zR (some 177)), some (zI x1)] [] (some (.inl (none), h)) = gd (zob h (some 177) 12) (gd (inR (-1)) (if (hI h 177 12) = (-1) then zY 296 18 [some (zR (some 177)), some (zI x1)] [zR (some 177)] h else zY 296 22 [some (zR (some 177)), some (zI x1)] [zR (some 177)] h)) from zGo 5 296 9 _ _ _).trans ?_
  refine (gd_t (⟨rfl, (PTM KM 177 _ rfl rfl), (PNM KM 177 rfl)⟩) _).trans ?_
  refine (gd_t (by decide) _).trans ?_
  refine iteC (fun c0 => ?_) (fun c0 => ?_)
  · skip
    refine (show zY 296 18 [some (zR (some 177)), some (zI x1)] [zR (some 177)] h = gd (inR (1)) (gd (zob h (some 177) 12) (gd ((1 : Int) = 0 ∨ (1 : Int) = 1) (gd (inR (-1)) (gd (inR (-1)) (gd (false = zctor 269 ∧ zcs [] ≤ 8 ∧ zrm 296 (zrf 269 + 1) (8 + (zmaxl 269 + 11) + zrl 269) = true ∧ zcs [zR (some 177), zI (-1), zI (-1)] ≤ zmaxl 269) (gd (zob (sI h 177 29 1) (some 177) 12) (zBack zY 296 29 32 [some (zR (some 177)), some (zI x1)] [] (zC 269 [zR (some 177), zI (-1), zI (-1)] (sI h 177 29 1))))))))) from zGo 7 296 18 _ _ _).trans ?_
    refine (gd_t (by decide) _).trans ?_
    refine (gd_t (⟨rfl, (PTM KM 177 _ rfl rfl), (PNM KM 177 rfl)⟩) _).trans ?_
    refine (gd_t (by decide) _).trans ?_
    refine (gd_t (by decide) _).trans ?_
    refine (gd_t (by decide) _).trans ?_
    refine (gd_t (⟨rfl, Nat.le_of_ble_eq_true rfl, rfl, Nat.le_of_ble_eq_true rfl⟩) _).trans ?_
    refine (gd_t (⟨rfl, (PTM KM 177 _ rfl rfl), (PNM KM 177 rfl)⟩) _).trans ?_
    rfl
  · skip
    refine (show zY 296 22 [some (zR (some 177)), some (zI x1)] [zR (some 177)] h = gd (inR (0)) (gd (zob h (some 177) 12) (gd ((0 : Int) = 0 ∨ (0 : Int) = 1) (gd (inR (-1)) (gd (inR (-1)) (gd (false = zctor 269 ∧ zcs [] ≤ 8 ∧ zrm 296 (zrf 269 + 1) (8 + (zmaxl 269 + 11) + zrl 269) = true ∧ zcs [zR (some 177), zI (-1), zI (-1)] ≤ zmaxl 269) (gd (zob (sI h 177 29 0) (some 177) 12) (zBack zY 296 29 32 [some (zR (some 177)), some (zI x1)] [] (zC 269 [zR (some 177), zI (-1), zI (-1)] (sI h 177 29 0))))))))) from zGo 6 296 22 _ _ _).trans ?_
    refine (gd_t (by decide) _).trans ?_
    refine (gd_t (⟨rfl, (PTM KM 177 _ rfl rfl), (PNM KM 177 rfl)⟩) _).trans ?_
    refine (gd_t (by decide) _).trans ?_
    refine (gd_t (by decide) _).trans ?_
    refine (gd_t (by decide) _).trans ?_
    refine (gd_t (⟨rfl, Nat.le_of_ble_eq_true rfl, rfl, Nat.le_of_ble_eq_true rfl⟩) _).trans ?_
    refine (gd_t (⟨rfl, (PTM KM 177 _ rfl rfl), (PNM KM 177 rfl)⟩) _).trans ?_
    rfl
theorem q_M_runsFrom_r32 {h : zH} {x1 : Int} (KM : KM h) : zBack zY 296 29 32 [some (zR (some 177)), some (zI x1)] [] (some (.inl (none), h)) =
    gd (((hI h 177 29) : Int) = 0 ∨ ((hI h 177 29) : Int) = 1) (
    some (.inl (some (zI (hI h 177 29))), h)) := by
  refine (show zBack zY 296 29 32 [some (zR (some 177)), some (zI x1)] [] (some (.inl (none), h)) = gd (zob h (some 177) 12) (gd (([] : List zV).isEmpty = true ∧ (zrk 296 = 1 ∨ zrk 296 = 6 ∧ (((hI h 177 29) : Int) = 0 ∨ ((hI h 177 29) : Int) = 1))) (some (.inl (some (zI (hI h 177 29))), h))) from zGo 3 296 32 _ _ _).trans ?_
  refine (gd_t (⟨rfl, (PTM KM 177 _ rfl rfl), (PNM KM 177 rfl)⟩) _).trans ?_
  refine gd_c (⟨fun a => (a.2.resolve_left (fun e => nomatch e)).2, fun a => ⟨rfl, Or.inr ⟨rfl, a⟩⟩⟩) (fun c0 => ?_)
  rfl
theorem q_M_runsLoop {h : zH} {x1 : Int} {x2 : Int} (KM : KM h) : zC 317 [zR (some 177), zI x1, zI x2] h =
    zBack zY 317 3 6 [some (zR (some 177)), some (zI x1), some (zI x2)] [] (zC 268 [zR (some 177), zI x1, zI x2] h) := by
  refine (show zC 317 [zR (some 177), zI x1, zI x2] h = gd (false = zctor 268 ∧ zcs [] ≤ 8 ∧ zrm 317 (zrf 268 + 1) (8 + (zmaxl 268 + 11) + zrl 268) = true ∧ zcs [zR (some 177), zI x1, zI x2] ≤ zmaxl 268) (gd (zob h (some 177) 12) (zBack zY 317 3 6 [some (zR (some 177)), some (zI x1), some (zI x2)] [] (zC 268 [zR (some 177), zI x1, zI x2] h))) from zGo 4 317 0 _ _ _).trans ?_
  refine (gd_t (⟨rfl, Nat.le_of_ble_eq_true rfl, rfl, Nat.le_of_ble_eq_true rfl⟩) _).trans ?_
  refine (gd_t (⟨rfl, (PTM KM 177 _ rfl rfl), (PNM KM 177 rfl)⟩) _).trans ?_
  rfl
theorem q_M_runsLoop_r6 {h : zH} {x1 : Int} {x2 : Int} (KM : KM h) : zBack zY 317 3 6 [some (zR (some 177)), some (zI x1), some (zI x2)] [] (some (.inl (none), h)) =
    zBack zY 317 9 12 [some (zR (some 177)), some (zI x1), some (zI x2)] [] (zC 269 [zR (some 177), zI x1, zI (-1)] h) := by
  refine (show zBack zY 317 3 6 [some (zR (some 177)), some (zI x1), some (zI x2)] [] (some (.inl (none), h)) = gd (inR (-1)) (gd (false = zctor 269 ∧ zcs [] ≤ 8 ∧ zrm 317 (zrf 269 + 1) (8 + (zmaxl 269 + 11) + zrl 269) = true ∧ zcs [zR (some 177), zI x1, zI (-1)] ≤ zmaxl 269) (gd (zob h (some 177) 12) (zBack zY 317 9 12 [some (zR (some 177)), some (zI x1), some (zI x2)] [] (zC 269 [zR (some 177), zI x1, zI (-1)] h)))) from zGo 4 317 6 _ _ _).trans ?_
  refine (gd_t (by decide) _).trans ?_
  refine (gd_t (⟨rfl, Nat.le_of_ble_eq_true rfl, rfl, Nat.le_of_ble_eq_true rfl⟩) _).trans ?_
  refine (gd_t (⟨rfl, (PTM KM 177 _ rfl rfl), (PNM KM 177 rfl)⟩) _).trans ?_
  rfl
theorem q_M_runsLoop_r12 {h : zH} {x1 : Int} {x2 : Int} (KM : KM h) : zBack zY 317 9 12 [some (zR (some 177)), some (zI x1), some (zI x2)] [] (some (.inl (none), h)) =
    gd (((hI h 177 29) : Int) = 0 ∨ ((hI h 177 29) : Int) = 1) (
    some (.inl (some (zI (hI h 177 29))), h)) := by
  refine (show zBack zY 317 9 12 [some (zR (some 177)), some (zI x1), some (zI x2)] [] (some (.inl (none), h)) = gd (zob h (some 177) 12) (gd (([] : List zV).isEmpty = true ∧ (zrk 317 = 1 ∨ zrk 317 = 6 ∧ (((hI h 177 29) : Int) = 0 ∨ ((hI h 177 29) : Int) = 1))) (some (.inl (some (zI (hI h 177 29))), h))) from zGo 3 317 12 _ _ _).trans ?_
  refine (gd_t (⟨rfl, (PTM KM 177 _ rfl rfl), (PNM KM 177 rfl)⟩) _).trans ?_
  refine gd_c (⟨fun a => (a.2.resolve_left (fun e => nomatch e)).2, fun a => ⟨rfl, Or.inr ⟨rfl, a⟩⟩⟩) (fun c0 => ?_)
  rfl
theorem q_M_runsRow {h : zH} {x1 : Int} {x2 : Int} (KM : KM h) (g0 : (0 ≤ x1 ∧ x1 < 24) := by omega) : zC 267 [zR (some 177), zI x1, zI x2] h =
    zBack zY 267 8 11 [some (zR (some 177)), some (zI x1), some (zI x2)] [] (zC 268 [zR (some 177), zI (f_M_s h x1 5), zI x2] h) := by
  refine (show zC 267 [zR (some 177), zI x1, zI x2] h = gd (inR (5)) (gd (false = zctor 207 ∧ zcs [zR (some 177)] ≤ 8 ∧ zrm 267 (zrf 207 + 1) (8 + (zmaxl 207 + 11) + zrl 207) = true ∧ zcs [zR (some 177), zI x1, zI 5] ≤ zmaxl 207) (gd (zob h (some 177) 12) (zBack zY 267 4 7 [some (zR (some 177)), some (zI x1), some (zI x2)] [zR (some 177)] (zC 207 [zR (some 177), zI x1, zI 5] h)))) from zGo 5 267 0 _ _ _).trans ?_
  refine (gd_t (by decide) _).trans ?_
  refine (gd_t (⟨rfl, Nat.le_of_ble_eq_true rfl, rfl, Nat.le_of_ble_eq_true rfl⟩) _).trans ?_
  refine (gd_t (⟨rfl, (PTM KM 177 _ rfl rfl), (PNM KM 177 rfl)⟩) _).trans ?_
  refine (congrArg (zBack zY 267 4 7 [some (zR (some 177)), some (zI x1), some (zI x2)] [zR (some 177)]) (e_M_sx KM (g0) (by omega))).trans ?_
  refine (show zY 267 7 [some (zR (some 177)), some (zI x1), some (zI x2)] [zI (f_M_s h x1 5), zR (some 177)] h = gd (false = zctor 268 ∧ zcs [] ≤ 8 ∧ zrm 267 (zrf 268 + 1) (8 + (zmaxl 268 + 11) + zrl 268) = true ∧ zcs [zR (some 177), zI (f_M_s h x1 5), zI x2] ≤ zmaxl 268) (gd (zob h (some 177) 12) (zBack zY 267 8 11 [some (zR (some 177)), some (zI x1), some (zI x2)] [] (zC 268 [zR (some 177), zI (f_M_s h x1 5), zI x2] h))) from zGo 2 267 7 _ _ _).trans ?_
  refine (gd_t (⟨rfl, Nat.le_of_ble_eq_true rfl, rfl, Nat.le_of_ble_eq_true rfl⟩) _).trans ?_
  refine (gd_t (⟨rfl, (PTM KM 177 _ rfl rfl), (PNM KM 177 rfl)⟩) _).trans ?_
  rfl
theorem q_M_runsRow_r11 {h : zH} {x1 : Int} {x2 : Int} (KM : KM h) (g0 : (0 ≤ x1 ∧ x1 < 24) := by omega) : zBack zY 267 8 11 [some (zR (some 177)), some (zI x1), some (zI x2)] [] (some (.inl (none), h)) =
    if (f_M_s h x1 5) = (-1) then
      zBack zY 267 33 36 [some (zR (some 177)), some (zI x1), some (zI x2)] [] (zC 269 [zR (some 177), zI (-1), zI x1] (sI h 177 29 1))
    else
      zBack zY 267 33 36 [some (zR (some 177)), some (zI x1), some (zI x2)] [] (zC 269 [zR (some 177), zI (-1), zI x1] (sI h 177 29 0)) := by
  refine (show zBack zY 267 8 11 [some (zR (some 177)), some (zI x1), some (zI x2)] [] (some (.inl (none), h)) = gd (inR (5)) (gd (false = zctor 207 ∧ zcs [zR (some 177)] ≤ 8 ∧ zrm 267 (zrf 207 + 1) (8 + (zmaxl 207 + 11) + zrl 207) = true ∧ zcs [zR (some 177), zI x1, zI 5] ≤ zmaxl 207) (gd (zob h (some 177) 12) (zBack zY 267 15 18 [some (zR (some 177)), some (zI x1), some (zI x2)] [zR (some 177)] (zC 207 [zR (some 177), zI x1, zI 5] h)))) from zGo 5 267 11 _ _ _).trans ?_
  refine (gd_t (by decide) _).trans ?_
  refine (gd_t (⟨rfl, Nat.le_of_ble_eq_true rfl, rfl, Nat.le_of_ble_eq_true rfl⟩) _).trans ?_
  refine (gd_t (⟨rfl, (PTM KM 177 _ rfl rfl), (PNM KM 177 rfl)⟩) _).trans ?_
  refine (congrArg (zBack zY 267 15 18 [some (zR (some 177)), some (zI x1), some (zI x2)] [zR (some 177)]) (e_M_sx KM (g0) (by omega))).trans ?_
  refine (show zY 267 18 [some (zR (some 177)), some (zI x1), some (zI x2)] [zI (f_M_s h x1 5), zR (some 177)] h = gd (inR (-1)) (if (f_M_s h x1 5) = (-1) then zY 267 22 [some (zR (some 177)), some (zI x1), some (zI x2)] [zR (some 177)] h else zY 267 26 [some (zR (some 177)), some (zI x1), some (zI x2)] [zR (some 177)] h) from zGo 2 267 18 _ _ _).trans ?_
  refine (gd_t (by decide) _).trans ?_
  refine iteC (fun c0 => ?_) (fun c0 => ?_)
  · skip
    refine (show zY 267 22 [some (zR (some 177)), some (zI x1), some (zI x2)] [zR (some 177)] h = gd (inR (1)) (gd (zob h (some 177) 12) (gd ((1 : Int) = 0 ∨ (1 : Int) = 1) (gd (inR (-1)) (gd (false = zctor 269 ∧ zcs [] ≤ 8 ∧ zrm 267 (zrf 269 + 1) (8 + (zmaxl 269 + 11) + zrl 269) = true ∧ zcs [zR (some 177), zI (-1), zI x1] ≤ zmaxl 269) (gd (zob (sI h 177 29 1) (some 177) 12) (zBack zY 267 33 36 [some (zR (some 177)), some (zI x1), some (zI x2)] [] (zC 269 [zR (some 177), zI (-1), zI x1] (sI h 177 29 1)))))))) from zGo 7 267 22 _ _ _).trans ?_
    refine (gd_t (by decide) _).trans ?_
    refine (gd_t (⟨rfl, (PTM KM 177 _ rfl rfl), (PNM KM 177 rfl)⟩) _).trans ?_
    refine (gd_t (by decide) _).trans ?_
    refine (gd_t (by decide) _).trans ?_
    refine (gd_t (⟨rfl, Nat.le_of_ble_eq_true rfl, rfl, Nat.le_of_ble_eq_true rfl⟩) _).trans ?_
    refine (gd_t (⟨rfl, (PTM KM 177 _ rfl rfl), (PNM KM 177 rfl)⟩) _).trans ?_
    rfl
  · skip
    refine (show zY 267 26 [some (zR (some 177)), some (zI x1), some (zI x2)] [zR (some 177)] h = gd (inR (0)) (gd (zob h (some 177) 12) (gd ((0 : Int) = 0 ∨ (0 : Int) = 1) (gd (inR (-1)) (gd (false = zctor 269 ∧ zcs [] ≤ 8 ∧ zrm 267 (zrf 269 + 1) (8 + (zmaxl 269 + 11) + zrl 269) = true ∧ zcs [zR (some 177), zI (-1), zI x1] ≤ zmaxl 269) (gd (zob (sI h 177 29 0) (some 177) 12) (zBack zY 267 33 36 [some (zR (some 177)), some (zI x1), some (zI x2)] [] (zC 269 [zR (some 177), zI (-1), zI x1] (sI h 177 29 0)))))))) from zGo 6 267 26 _ _ _).trans ?_
    refine (gd_t (by decide) _).trans ?_
    refine (gd_t (⟨rfl, (PTM KM 177 _ rfl rfl), (PNM KM 177 rfl)⟩) _).trans ?_
    refine (gd_t (by decide) _).trans ?_
    refine (gd_t (by decide) _).trans ?_
    refine (gd_t (⟨rfl, Nat.le_of_ble_eq_true rfl, rfl, Nat.le_of_ble_eq_true rfl⟩) _).trans ?_
    refine (gd_t (⟨rfl, (PTM KM 177 _ rfl rfl), (PNM KM 177 rfl)⟩) _).trans ?_
    rfl
theorem q_M_runsRow_r36 {h : zH} {x1 : Int} {x2 : Int} (KM : KM h) : zBack zY 267 33 36 [some (zR (some 177)), some (zI x1), some (zI x2)] [] (some (.inl (none), h)) =
    gd (((hI h 177 29) : Int) = 0 ∨ ((hI h 177 29) : Int) = 1) (
    some (.inl (some (zI (hI h 177 29))), h)) := by
  refine (show zBack zY 267 33 36 [some (zR (some 177)), some (zI x1), some (zI x2)] [] (some (.inl (none), h)) = gd (zob h (some 177) 12) (gd (([] : List zV).isEmpty = true ∧ (zrk 267 = 1 ∨ zrk 267 = 6 ∧ (((hI h 177 29) : Int) = 0 ∨ ((hI h 177 29) : Int) = 1))) (some (.inl (some (zI (hI h 177 29))), h))) from zGo 3 267 36 _ _ _).trans ?_
  refine (gd_t (⟨rfl, (PTM KM 177 _ rfl rfl), (PNM KM 177 rfl)⟩) _).trans ?_
  refine gd_c (⟨fun a => (a.2.resolve_left (fun e => nomatch e)).2, fun a => ⟨rfl, Or.inr ⟨rfl, a⟩⟩⟩) (fun c0 => ?_)
  rfl
theorem q_M_lessens {h : zH} {x1 : Int} {x2 : Int} (KM : KM h) : zC 266 [zR (some 177), zI x1, zI x2] h =
    gd (-2147483648 ≤ 50 + x1 ∧ 50 + x1 < 2147483648) (
    zBack zY 266 6 9 [some (zR (some 177)), some (zI x1), some (zI x2), none] [] (zC 249 [zR (some 177), zI (50 + x1), zI x2] h)) := by
  refine (show zC 266 [zR (some 177), zI x1, zI x2] h = gd (-128 ≤ (50 : Int) ∧ (50 : Int) < 128) (gd (inR (50 + x1)) (gd (false = zctor 249 ∧ zcs [] ≤ 8 ∧ zrm 266 (zrf 249 + 1) (8 + (zmaxl 249 + 11) + zrl 249) = true ∧ zcs [zR (some 177), zI (50 + x1), zI x2] ≤ zmaxl 249) (gd (zob h (some 177) 12) (zBack zY 266 6 9 [some (zR (some 177)), some (zI x1), some (zI x2), none] [] (zC 249 [zR (some 177), zI (50 + x1), zI x2] h))))) from zGo 6 266 0 _ _ _).trans ?_
  refine (gd_t (by decide) _).trans ?_
  refine gd_c Iff.rfl (fun c0 => ?_)
  refine (gd_t (⟨rfl, Nat.le_of_ble_eq_true rfl, rfl, Nat.le_of_ble_eq_true rfl⟩) _).trans ?_
  refine (gd_t (⟨rfl, (PTM KM 177 _ rfl rfl), (PNM KM 177 rfl)⟩) _).trans ?_
  rfl
theorem q_M_lessens_r9 {h : zH} {x1 : Int} {x2 : Int} {y : Int} (KM : KM h) : zBack zY 266 6 9 [some (zR (some 177)), some (zI x1), some (zI x2), none] [] (some (.inl (some (zI y)), h)) =
    zBack zY 266 13 16 [some (zR (some 177)), some (zI x1), some (zI x2), some (zI y)] [] (zC 267 [zR (some 177), zI x1, zI x2] h) := by
  refine (show zBack zY 266 6 9 [some (zR (some 177)), some (zI x1), some (zI x2), none] [] (some (.inl (some (zI y)), h)) = gd (false = zctor 267 ∧ zcs [] ≤ 8 ∧ zrm 266 (zrf 267 + 1) (8 + (zmaxl 267 + 11) + zrl 267) = true ∧ zcs [zR (some 177), zI x1, zI x2] ≤ zmaxl 267) (gd (zob h (some 177) 12) (zBack zY 266 13 16 [some (zR (some 177)), some (zI x1), some (zI x2), some (zI y)] [] (zC 267 [zR (some 177), zI x1, zI x2] h))) from zGo 5 266 9 _ _ _).trans ?_
  refine (gd_t (⟨rfl, Nat.le_of_ble_eq_true rfl, rfl, Nat.le_of_ble_eq_true rfl⟩) _).trans ?_
  refine (gd_t (⟨rfl, (PTM KM 177 _ rfl rfl), (PNM KM 177 rfl)⟩) _).trans ?_
  rfl
theorem q_M_lessens_r16 {h : zH} {x1 : Int} {x2 : Int} {x3 : Int} {y : Int} (KM : KM h) : zBack zY 266 13 16 [some (zR (some 177)), some (zI x1), some (zI x2), some (zI x3)] [] (some (.inl (some (zI y)), h)) =
    if y = 0 then
      some (.inl (some (zI 0)), h)
    else
      gd (-2147483648 ≤ 50 + x1 ∧ 50 + x1 < 2147483648) (
      zBack zY 266 28 31 [some (zR (some 177)), some (zI x1), some (zI x2), some (zI x3)] [] (zC 249 [zR (some 177), zI (50 + x1), zI (hI h 177 28)] h)) := by
  refine (show zBack zY 266 13 16 [some (zR (some 177)), some (zI x1), some (zI x2), some (zI x3)] [] (some (.inl (some (zI y)), h)) = if y = 0 then zY 266 39 [some (zR (some 177)), some (zI x1), some (zI x2), some (zI x3)] [] h else zY 266 19 [some (zR (some 177)), some (zI x1), some (zI x2), some (zI x3)] [] h from zGo 1 266 16 _ _ _).trans ?_
  refine iteC (fun c0 => ?_) (fun c0 => ?_)
  · skip
    refine (show zY 266 39 [some (zR (some 177)), some (zI x1), some (zI x2), some (zI x3)] [] h = gd (inR (0)) (gd (([] : List zV).isEmpty = true ∧ (zrk 266 = 1 ∨ zrk 266 = 6 ∧ ((0 : Int) = 0 ∨ (0 : Int) = 1))) (some (.inl (some (zI 0)), h))) from zGo 2 266 39 _ _ _).trans ?_
    refine (gd_t (by decide) _).trans ?_
    refine (gd_t (⟨rfl, Or.inr ⟨rfl, by decide⟩⟩) _).trans ?_
    rfl
  · skip
    refine (show zY 266 19 [some (zR (some 177)), some (zI x1), some (zI x2), some (zI x3)] [] h = gd (-128 ≤ (50 : Int) ∧ (50 : Int) < 128) (gd (inR (50 + x1)) (gd (zob h (some 177) 12) (gd (false = zctor 249 ∧ zcs [] ≤ 8 ∧ zrm 266 (zrf 249 + 1) (8 + (zmaxl 249 + 11) + zrl 249) = true ∧ zcs [zR (some 177), zI (50 + x1), zI (hI h 177 28)] ≤ zmaxl 249) (gd (zob h (some 177) 12) (zBack zY 266 28 31 [some (zR (some 177)), some (zI x1), some (zI x2), some (zI x3)] [] (zC 249 [zR (some 177), zI (50 + x1), zI (hI h 177 28)] h)))))) from zGo 7 266 19 _ _ _).trans ?_
    refine (gd_t (by decide) _).trans ?_
    refine gd_c Iff.rfl (fun c1 => ?_)
    refine (gd_t (⟨rfl, (PTM KM 177 _ rfl rfl), (PNM KM 177 rfl)⟩) _).trans ?_
    refine (gd_t (⟨rfl, Nat.le_of_ble_eq_true rfl, rfl, Nat.le_of_ble_eq_true rfl⟩) _).trans ?_
    refine (gd_t (⟨rfl, (PTM KM 177 _ rfl rfl), (PNM KM 177 rfl)⟩) _).trans ?_
    rfl
theorem q_M_lessens_r31 {h : zH} {x1 : Int} {x2 : Int} {x3 : Int} {y : Int} (KM : KM h) : zBack zY 266 28 31 [some (zR (some 177)), some (zI x1), some (zI x2), some (zI x3)] [] (some (.inl (some (zI y)), h)) =
    if y < x3 then
      some (.inl (some (zI 1)), h)
    else
      some (.inl (some (zI 0)), h) := by
  refine (show zBack zY 266 28 31 [some (zR (some 177)), some (zI x1), some (zI x2), some (zI x3)] [] (some (.inl (some (zI y)), h)) = if y < x3 then zY 266 35 [some (zR (some 177)), some (zI x1), some (zI x2), some (zI x3)] [] h else zY 266 39 [some (zR (some 177)), some (zI x1), some (zI x2), some (zI x3)] [] h from zGo 2 266 31 _ _ _).trans ?_
  refine iteC (fun c0 => ?_) (fun c0 => ?_)
  · skip
    refine (show zY 266 35 [some (zR (some 177)), some (zI x1), some (zI x2), some (zI x3)] [] h = gd (inR (1)) (gd (([] : List zV).isEmpty = true ∧ (zrk 266 = 1 ∨ zrk 266 = 6 ∧ ((1 : Int) = 0 ∨ (1 : Int) = 1))) (some (.inl (some (zI 1)), h))) from zGo 3 266 35 _ _ _).trans ?_
    refine (gd_t (by decide) _).trans ?_
    refine (gd_t (⟨rfl, Or.inr ⟨rfl, by decide⟩⟩) _).trans ?_
    rfl
  · skip
    refine (show zY 266 39 [some (zR (some 177)), some (zI x1), some (zI x2), some (zI x3)] [] h = gd (inR (0)) (gd (([] : List zV).isEmpty = true ∧ (zrk 266 = 1 ∨ zrk 266 = 6 ∧ ((0 : Int) = 0 ∨ (0 : Int) = 1))) (some (.inl (some (zI 0)), h))) from zGo 2 266 39 _ _ _).trans ?_
    refine (gd_t (by decide) _).trans ?_
    refine (gd_t (⟨rfl, Or.inr ⟨rfl, by decide⟩⟩) _).trans ?_
    rfl
theorem q_M_unlessened {h : zH} {x1 : Int} {x2 : BitVec 64} (KM : KM h) : zC 265 [zR (some 177), zI x1, zJ x2] h =
    zY 265 6 [some (zR (some 177)), some (zI x1), some (zJ x2), none, some (zJ (0#64)), none, some (zI 0)] [] h := by
  refine (show zC 265 [zR (some 177), zI x1, zJ x2] h = gd (inR (0)) (zY 265 6 [some (zR (some 177)), some (zI x1), some (zJ x2), none, some (zJ (0#64)), none, some (zI 0)] [] h) from zGo 4 265 0 _ _ _).trans ?_
  refine (gd_t (by decide) _).trans ?_
  rfl
theorem q_M_unlessened_6 {h : zH} {x1 : Int} {x2 : BitVec 64} {x4 : BitVec 64} {x6 : Int} (KM : KM h) : zY 265 6 [some (zR (some 177)), some (zI x1), some (zJ x2), none, some (zJ x4), none, some (zI x6)] [] h =
    if x6 < 64 then
      if b_M_holds x2 x6 then
        zBack zY 265 28 31 [some (zR (some 177)), some (zI x1), some (zJ x2), none, some (zJ x4), none, some (zI x6)] [zJ x4] (zC 266 [zR (some 177), zI x1, zI x6] h)
      else
        gd (-2147483648 ≤ x6 + 1 ∧ x6 + 1 < 2147483648) (
        zY 265 6 [some (zR (some 177)), some (zI x1), some (zJ x2), none, some (zJ (x4 ||| (0#64))), none, some (zI (x6 + 1))] [] h)
    else
      some (.inl (some (zJ x4)), h) := by
  refine (show zY 265 6 [some (zR (some 177)), some (zI x1), some (zJ x2), none, some (zJ x4), none, some (zI x6)] [] h = gd (-128 ≤ (64 : Int) ∧ (64 : Int) < 128) (if x6 < 64 then zY 265 13 [some (zR (some 177)), some (zI x1), some (zJ x2), none, some (zJ x4), none, some (zI x6)] [] h else zY 265 51 [some (zR (some 177)), some (zI x1), some (zJ x2), none, some (zJ x4), none, some (zI x6)] [] h) from zGo 3 265 6 _ _ _).trans ?_
  refine (gd_t (by decide) _).trans ?_
  refine iteC (fun c0 => ?_) (fun c0 => ?_)
  · skip
    refine (show zY 265 13 [some (zR (some 177)), some (zI x1), some (zJ x2), none, some (zJ x4), none, some (zI x6)] [] h = gd (false = zctor 260 ∧ zcs [zJ x4] ≤ 8 ∧ zrm 265 (zrf 260 + 1) (8 + (zmaxl 260 + 11) + zrl 260) = true ∧ zcs [zJ x2, zI x6] ≤ zmaxl 260) (zBack zY 265 18 21 [some (zR (some 177)), some (zI x1), some (zJ x2), none, some (zJ x4), none, some (zI x6)] [zJ x4] (zC 260 [zJ x2, zI x6] h)) from zGo 4 265 13 _ _ _).trans ?_
    refine (gd_t (⟨rfl, Nat.le_of_ble_eq_true rfl, rfl, Nat.le_of_ble_eq_true rfl⟩) _).trans ?_
    refine (congrArg (zBack zY 265 18 21 [some (zR (some 177)), some (zI x1), some (zJ x2), none, some (zJ x4), none, some (zI x6)] [zJ x4]) (e_M_holds)).trans ?_
    refine (show zY 265 21 [some (zR (some 177)), some (zI x1), some (zJ x2), none, some (zJ x4), none, some (zI x6)] [zI (if b_M_holds x2 x6 then (1 : Int) else 0), zJ x4] h = if (if b_M_holds x2 x6 then (1 : Int) else 0) = 0 then zY 265 41 [some (zR (some 177)), some (zI x1), some (zJ x2), none, some (zJ x4), none, some (zI x6)] [zJ x4] h else zY 265 24 [some (zR (some 177)), some (zI x1), some (zJ x2), none, some (zJ x4), none, some (zI x6)] [zJ x4] h from zGo 1 265 21 _ _ _).trans ?_
    refine iteB (fun c1 => ?_) (fun c1 => ?_)
    · skip
      refine (show zY 265 24 [some (zR (some 177)), some (zI x1), some (zJ x2), none, some (zJ x4), none, some (zI x6)] [zJ x4] h = gd (false = zctor 266 ∧ zcs [zJ x4] ≤ 8 ∧ zrm 265 (zrf 266 + 1) (8 + (zmaxl 266 + 11) + zrl 266) = true ∧ zcs [zR (some 177), zI x1, zI x6] ≤ zmaxl 266) (gd (zob h (some 177) 12) (zBack zY 265 28 31 [some (zR (some 177)), some (zI x1), some (zJ x2), none, some (zJ x4), none, some (zI x6)] [zJ x4] (zC 266 [zR (some 177), zI x1, zI x6] h))) from zGo 4 265 24 _ _ _).trans ?_
      refine (gd_t (⟨rfl, Nat.le_of_ble_eq_true rfl, rfl, Nat.le_of_ble_eq_true rfl⟩) _).trans ?_
      refine (gd_t (⟨rfl, (PTM KM 177 _ rfl rfl), (PNM KM 177 rfl)⟩) _).trans ?_
      rfl
    · skip
      refine (show zY 265 41 [some (zR (some 177)), some (zI x1), some (zJ x2), none, some (zJ x4), none, some (zI x6)] [zJ x4] h = gd (inR (x6 + 1)) (gd (inR (1)) (zY 265 6 [some (zR (some 177)), some (zI x1), some (zJ x2), none, some (zJ (x4 ||| (0#64))), none, some (zI (x6 + 1))] [] h)) from zGo 5 265 41 _ _ _).trans ?_
      refine gd_c Iff.rfl (fun c2 => ?_)
      refine (gd_t (by decide) _).trans ?_
      rfl
  · skip
    refine (show zY 265 51 [some (zR (some 177)), some (zI x1), some (zJ x2), none, some (zJ x4), none, some (zI x6)] [] h = gd (([] : List zV).isEmpty = true ∧ zrk 265 = 2) (some (.inl (some (zJ x4)), h)) from zGo 2 265 51 _ _ _).trans ?_
    refine (gd_t (⟨rfl, rfl⟩) _).trans ?_
    rfl
theorem q_M_unlessened_r31 {h : zH} {x1 : Int} {x2 : BitVec 64} {x4 : BitVec 64} {x6 : Int} {y0 : BitVec 64} {y : Int} (KM : KM h) : zBack zY 265 28 31 [some (zR (some 177)), some (zI x1), some (zJ x2), none, some (zJ x4), none, some (zI x6)] [zJ y0] (some (.inl (some (zI y)), h)) =
    if y = 0 then
      gd (-2147483648 ≤ x6 + 1 ∧ x6 + 1 < 2147483648) (
      zY 265 6 [some (zR (some 177)), some (zI x1), some (zJ x2), none, some (zJ (y0 ||| (zlshl (1#64) x6))), none, some (zI (x6 + 1))] [] h)
    else
      gd (-2147483648 ≤ x6 + 1 ∧ x6 + 1 < 2147483648) (
      zY 265 6 [some (zR (some 177)), some (zI x1), some (zJ x2), none, some (zJ (y0 ||| (0#64))), none, some (zI (x6 + 1))] [] h) := by
  refine (show zBack zY 265 28 31 [some (zR (some 177)), some (zI x1), some (zJ x2), none, some (zJ x4), none, some (zI x6)] [zJ y0] (some (.inl (some (zI y)), h)) = if y = 0 then zY 265 34 [some (zR (some 177)), some (zI x1), some (zJ x2), none, some (zJ x4), none, some (zI x6)] [zJ y0] h else zY 265 41 [some (zR (some 177)), some (zI x1), some (zJ x2), none, some (zJ x4), none, some (zI x6)] [zJ y0] h from zGo 1 265 31 _ _ _).trans ?_
  refine iteC (fun c0 => ?_) (fun c0 => ?_)
  · skip
    refine (show zY 265 34 [some (zR (some 177)), some (zI x1), some (zJ x2), none, some (zJ x4), none, some (zI x6)] [zJ y0] h = gd (inR (x6 + 1)) (gd (inR (1)) (zY 265 6 [some (zR (some 177)), some (zI x1), some (zJ x2), none, some (zJ (y0 ||| (zlshl (1#64) x6))), none, some (zI (x6 + 1))] [] h)) from zGo 8 265 34 _ _ _).trans ?_
    refine gd_c Iff.rfl (fun c1 => ?_)
    refine (gd_t (by decide) _).trans ?_
    rfl
  · skip
    refine (show zY 265 41 [some (zR (some 177)), some (zI x1), some (zJ x2), none, some (zJ x4), none, some (zI x6)] [zJ y0] h = gd (inR (x6 + 1)) (gd (inR (1)) (zY 265 6 [some (zR (some 177)), some (zI x1), some (zJ x2), none, some (zJ (y0 ||| (0#64))), none, some (zI (x6 + 1))] [] h)) from zGo 5 265 41 _ _ _).trans ?_
    refine gd_c Iff.rfl (fun c2 => ?_)
    refine (gd_t (by decide) _).trans ?_
    rfl
