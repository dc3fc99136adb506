/-! The class: constructors, pieces. -/
theorem q_P_init_92 {h : zH} {p : Nat} {f : Nat} {x2 : Int} (hp : PS h p) (hf : FS h f) : zY 35 92 [some (zR (some p)), some (zR (some f)), some (zI x2)] [] h =
    if x2 < 24 then
      gd (0 ≤ x2 ∧ x2 < 24) (
      gd (-2147483648 ≤ x2 + 1 ∧ x2 + 1 < 2147483648) (
      zY 35 92 [some (zR (some p)), some (zR (some f)), some (zI (x2 + 1))] [] (sR h (p + 10) x2.toNat (some f))))
    else
      some (.inl (none), h) := by
  refine (show zY 35 92 [some (zR (some p)), some (zR (some f)), some (zI x2)] [] h = gd (-128 ≤ (24 : Int) ∧ (24 : Int) < 128) (if x2 < 24 then zY 35 98 [some (zR (some p)), some (zR (some f)), some (zI x2)] [] h else zY 35 111 [some (zR (some p)), some (zR (some f)), some (zI x2)] [] h) from zGo 3 35 92 _ _ _).trans ?_
  refine (gd_t (by decide) _).trans ?_
  refine iteC (fun c0 => ?_) (fun c0 => ?_)
  · skip
    refine (show zY 35 98 [some (zR (some p)), some (zR (some f)), some (zI x2)] [] h = gd (zob h (some p) 5) (zY 35 102 [some (zR (some p)), some (zR (some f)), some (zI x2)] [zR (hR h p 12)] h) from zGo 2 35 98 _ _ _).trans ?_
    refine (gd_t (⟨rfl, hp.1, (PS_n hp)⟩) _).trans ?_
    refine (congrArg (fun rz => zY 35 102 [some (zR (some p)), some (zR (some f)), some (zI x2)] (zR rz :: []) h) (PS_r hp 12 rfl)).trans ?_
    refine (show zY 35 102 [some (zR (some p)), some (zR (some f)), some (zI x2)] [zR (some (p + 10))] h = gd (zokw h (some (p + 10)) 25 x2 ∧ zob h (some f) 2 ∨ zokw h (some (p + 10)) 26 x2 ∧ zob h (some f) 10) (gd (inR (x2 + 1)) (gd (inR (1)) (zY 35 92 [some (zR (some p)), some (zR (some f)), some (zI (x2 + 1))] [] (sR h (p + 10) x2.toNat (some f))))) from zGo 5 35 102 _ _ _).trans ?_
    refine gd_c (caa25 (v := some f) (PS_t hp 10 _ rfl rfl) (PS_ni hp 10 rfl) (PS_l hp 10 rfl) ⟨rfl, hf.1, (FS_n hf)⟩) (fun c1 => ?_)
    refine gd_c Iff.rfl (fun c2 => ?_)
    refine (gd_t (by decide) _).trans ?_
    rfl
  · skip
    refine (show zY 35 111 [some (zR (some p)), some (zR (some f)), some (zI x2)] [] h = gd (([] : List zV).isEmpty = true ∧ zrk 35 = 0) (some (.inl (none), h)) from zGo 1 35 111 _ _ _).trans ?_
    refine (gd_t (⟨rfl, rfl⟩) _).trans ?_
    rfl
theorem q_V_init_55 {h : zH} {v : Nat} {f : Nat} {x2 : Int} (hv : VS h v) (hf : FS h f) : zY 124 55 [some (zR (some v)), some (zR (some f)), some (zI x2)] [] h =
    if x2 < 24 then
      gd (0 ≤ x2 ∧ x2 < 24) (
      zY 124 68 [some (zR (some v)), some (zR (some f)), some (zI x2)] [] (sR h (v + 1) x2.toNat (some f)))
    else
      some (.inl (none), h) := by
  refine (show zY 124 55 [some (zR (some v)), some (zR (some f)), some (zI x2)] [] h = gd (-128 ≤ (24 : Int) ∧ (24 : Int) < 128) (if x2 < 24 then zY 124 61 [some (zR (some v)), some (zR (some f)), some (zI x2)] [] h else zY 124 96 [some (zR (some v)), some (zR (some f)), some (zI x2)] [] h) from zGo 3 124 55 _ _ _).trans ?_
  refine (gd_t (by decide) _).trans ?_
  refine iteC (fun c0 => ?_) (fun c0 => ?_)
  · skip
    refine (show zY 124 61 [some (zR (some v)), some (zR (some f)), some (zI x2)] [] h = gd (zob h (some v) 10) (zY 124 65 [some (zR (some v)), some (zR (some f)), some (zI x2)] [zR (hR h v 3)] h) from zGo 2 124 61 _ _ _).trans ?_
    refine (gd_t (⟨rfl, hv.1, (VS_n hv)⟩) _).trans ?_
    refine (congrArg (fun rz => zY 124 65 [some (zR (some v)), some (zR (some f)), some (zI x2)] (zR rz :: []) h) (VS_r hv 3 rfl)).trans ?_
    refine (show zY 124 65 [some (zR (some v)), some (zR (some f)), some (zI x2)] [zR (some (v + 1))] h = gd (zokw h (some (v + 1)) 25 x2 ∧ zob h (some f) 2 ∨ zokw h (some (v + 1)) 26 x2 ∧ zob h (some f) 10) (zY 124 68 [some (zR (some v)), some (zR (some f)), some (zI x2)] [] (sR h (v + 1) x2.toNat (some f))) from zGo 3 124 65 _ _ _).trans ?_
    refine gd_c (caa25 (v := some f) (VS_t hv 1 _ rfl rfl) (VS_ni hv 1 rfl) (VS_l hv 1 rfl) ⟨rfl, hf.1, (FS_n hf)⟩) (fun c1 => ?_)
    rfl
  · skip
    refine (show zY 124 96 [some (zR (some v)), some (zR (some f)), some (zI x2)] [] h = gd (([] : List zV).isEmpty = true ∧ zrk 124 = 0) (some (.inl (none), h)) from zGo 1 124 96 _ _ _).trans ?_
    refine (gd_t (⟨rfl, rfl⟩) _).trans ?_
    rfl
theorem q_V_init_68 {h : zH} {v : Nat} {f : Nat} {x2 : Int} (hv : VS h v) (hf : FS h f) : zY 124 68 [some (zR (some v)), some (zR (some f)), some (zI x2)] [] h =
    gd (0 ≤ x2 ∧ x2 < 24) (
    zY 124 75 [some (zR (some v)), some (zR (some f)), some (zI x2)] [] (sR h (v + 2) x2.toNat (some f))) := by
  refine (show zY 124 68 [some (zR (some v)), some (zR (some f)), some (zI x2)] [] h = gd (zob h (some v) 10) (zY 124 72 [some (zR (some v)), some (zR (some f)), some (zI x2)] [zR (hR h v 4)] h) from zGo 2 124 68 _ _ _).trans ?_
  refine (gd_t (⟨rfl, hv.1, (VS_n hv)⟩) _).trans ?_
  refine (congrArg (fun rz => zY 124 72 [some (zR (some v)), some (zR (some f)), some (zI x2)] (zR rz :: []) h) (VS_r hv 4 rfl)).trans ?_
  refine (show zY 124 72 [some (zR (some v)), some (zR (some f)), some (zI x2)] [zR (some (v + 2))] h = gd (zokw h (some (v + 2)) 25 x2 ∧ zob h (some f) 2 ∨ zokw h (some (v + 2)) 26 x2 ∧ zob h (some f) 10) (zY 124 75 [some (zR (some v)), some (zR (some f)), some (zI x2)] [] (sR h (v + 2) x2.toNat (some f))) from zGo 3 124 72 _ _ _).trans ?_
  refine gd_c (caa25 (v := some f) (VS_t hv 2 _ rfl rfl) (VS_ni hv 2 rfl) (VS_l hv 2 rfl) ⟨rfl, hf.1, (FS_n hf)⟩) (fun c0 => ?_)
  rfl
theorem q_V_init_75 {h : zH} {v : Nat} {f : Nat} {x2 : Int} (hv : VS h v) (hf : FS h f) : zY 124 75 [some (zR (some v)), some (zR (some f)), some (zI x2)] [] h =
    gd (0 ≤ x2 ∧ x2 < 24) (
    gd (-2147483648 ≤ x2 + 1 ∧ x2 + 1 < 2147483648) (
    zY 124 55 [some (zR (some v)), some (zR (some f)), some (zI (x2 + 1))] [] (sI (sI h (v + 3) x2.toNat (-1)) (v + 4) x2.toNat 10))) := by
  refine (show zY 124 75 [some (zR (some v)), some (zR (some f)), some (zI x2)] [] h = gd (zob h (some v) 10) (zY 124 79 [some (zR (some v)), some (zR (some f)), some (zI x2)] [zR (hR h v 5)] h) from zGo 2 124 75 _ _ _).trans ?_
  refine (gd_t (⟨rfl, hv.1, (VS_n hv)⟩) _).trans ?_
  refine (congrArg (fun rz => zY 124 79 [some (zR (some v)), some (zR (some f)), some (zI x2)] (zR rz :: []) h) (VS_r hv 5 rfl)).trans ?_
  refine (show zY 124 79 [some (zR (some v)), some (zR (some f)), some (zI x2)] [zR (some (v + 3))] h = gd (inR (-1)) (gd (zokw h (some (v + 3)) 22 x2) (gd (zob (sI h (v + 3) x2.toNat (-1)) (some v) 10) (zY 124 86 [some (zR (some v)), some (zR (some f)), some (zI x2)] [zR (hR h v 6)] (sI h (v + 3) x2.toNat (-1))))) from zGo 5 124 79 _ _ _).trans ?_
  refine (gd_t (by decide) _).trans ?_
  refine gd_c (ciw (VS_t hv 3 _ rfl rfl) (VS_ni hv 3 rfl) (VS_l hv 3 rfl)) (fun c0 => ?_)
  refine (gd_t (⟨rfl, hv.1, (VS_n hv)⟩) _).trans ?_
  refine (congrArg (fun rz => zY 124 86 [some (zR (some v)), some (zR (some f)), some (zI x2)] (zR rz :: []) (sI h (v + 3) x2.toNat (-1))) (VS_r hv 6 rfl)).trans ?_
  refine (show zY 124 86 [some (zR (some v)), some (zR (some f)), some (zI x2)] [zR (some (v + 4))] (sI h (v + 3) x2.toNat (-1)) = gd (-128 ≤ (10 : Int) ∧ (10 : Int) < 128) (gd (zokw (sI h (v + 3) x2.toNat (-1)) (some (v + 4)) 22 x2) (gd (inR (x2 + 1)) (gd (inR (1)) (zY 124 55 [some (zR (some v)), some (zR (some f)), some (zI (x2 + 1))] [] (sI (sI h (v + 3) x2.toNat (-1)) (v + 4) x2.toNat 10))))) from zGo 5 124 86 _ _ _).trans ?_
  refine (gd_t (by decide) _).trans ?_
  refine (gd_t ((ciw (VS_t hv 4 _ rfl rfl) (VS_ni hv 4 rfl) (VS_l hv 4 rfl)).2 (by omega)) _).trans ?_
  refine gd_c Iff.rfl (fun c1 => ?_)
  refine (gd_t (by decide) _).trans ?_
  rfl
theorem q_P_init {h : zH} {p f : Nat} (tp : hT h p = 5) (np : p < hN h) : zC 35 [zR (some p), zR (some f)] h = zY 35 12 [some (zR (some p)), some (zR (some f)), none] [] (sR (hNew h 22 24) p 3 (some (hN h))) := by
  refine (show zC 35 [zR (some p), zR (some f)] h = gd (zctor 35 = true ∧ true = true) (gd ((some p).isSome = true ∧ zcs [] ≤ 8 ∧ zrm 35 1 20 = true) (gd (0 ≤ (24 : Int) ∧ (24 : Int) < 65536) (gd (zob (hNew h 22 24) (some p) 5) (zY 35 12 [some (zR (some p)), some (zR (some f)), none] [] (sR (hNew h 22 24) p 3 (some (hN h))))))) from zGo 6 35 0 _ _ _).trans ?_
  refine (gd_t (⟨rfl, rfl⟩) _).trans ?_
  refine (gd_t (⟨rfl, Nat.le_of_ble_eq_true rfl, rfl⟩) _).trans ?_
  refine (gd_t (by decide) _).trans ?_
  exact gd_t (⟨rfl, (if_neg (Nat.ne_of_lt np)).trans tp, Nat.lt_succ_of_lt np⟩) _

theorem q_P_init_12 {h : zH} {p f : Nat} (tp : hT h p = 5) (np : p < hN h) : zY 35 12 [some (zR (some p)), some (zR (some f)), none] [] h = zY 35 20 [some (zR (some p)), some (zR (some f)), none] [] (sR (hNew h 22 24) p 4 (some (hN h))) := by
  refine (show zY 35 12 [some (zR (some p)), some (zR (some f)), none] [] h = gd (0 ≤ (24 : Int) ∧ (24 : Int) < 65536) (gd (zob (hNew h 22 24) (some p) 5) (zY 35 20 [some (zR (some p)), some (zR (some f)), none] [] (sR (hNew h 22 24) p 4 (some (hN h))))) from zGo 4 35 12 _ _ _).trans ?_
  refine (gd_t (by decide) _).trans ?_
  exact gd_t (⟨rfl, (if_neg (Nat.ne_of_lt np)).trans tp, Nat.lt_succ_of_lt np⟩) _

theorem q_P_init_20 {h : zH} {p f : Nat} (tp : hT h p = 5) (np : p < hN h) : zY 35 20 [some (zR (some p)), some (zR (some f)), none] [] h = zY 35 28 [some (zR (some p)), some (zR (some f)), none] [] (sR (hNew h 22 24) p 5 (some (hN h))) := by
  refine (show zY 35 20 [some (zR (some p)), some (zR (some f)), none] [] h = gd (0 ≤ (24 : Int) ∧ (24 : Int) < 65536) (gd (zob (hNew h 22 24) (some p) 5) (zY 35 28 [some (zR (some p)), some (zR (some f)), none] [] (sR (hNew h 22 24) p 5 (some (hN h))))) from zGo 4 35 20 _ _ _).trans ?_
  refine (gd_t (by decide) _).trans ?_
  exact gd_t (⟨rfl, (if_neg (Nat.ne_of_lt np)).trans tp, Nat.lt_succ_of_lt np⟩) _

theorem q_P_init_28 {h : zH} {p f : Nat} (tp : hT h p = 5) (np : p < hN h) : zY 35 28 [some (zR (some p)), some (zR (some f)), none] [] h = zY 35 36 [some (zR (some p)), some (zR (some f)), none] [] (sR (hNew h 22 24) p 6 (some (hN h))) := by
  refine (show zY 35 28 [some (zR (some p)), some (zR (some f)), none] [] h = gd (0 ≤ (24 : Int) ∧ (24 : Int) < 65536) (gd (zob (hNew h 22 24) (some p) 5) (zY 35 36 [some (zR (some p)), some (zR (some f)), none] [] (sR (hNew h 22 24) p 6 (some (hN h))))) from zGo 4 35 28 _ _ _).trans ?_
  refine (gd_t (by decide) _).trans ?_
  exact gd_t (⟨rfl, (if_neg (Nat.ne_of_lt np)).trans tp, Nat.lt_succ_of_lt np⟩) _

theorem q_P_init_36 {h : zH} {p f : Nat} (tp : hT h p = 5) (np : p < hN h) : zY 35 36 [some (zR (some p)), some (zR (some f)), none] [] h = zY 35 44 [some (zR (some p)), some (zR (some f)), none] [] (sR (hNew h 22 24) p 7 (some (hN h))) := by
  refine (show zY 35 36 [some (zR (some p)), some (zR (some f)), none] [] h = gd (0 ≤ (24 : Int) ∧ (24 : Int) < 65536) (gd (zob (hNew h 22 24) (some p) 5) (zY 35 44 [some (zR (some p)), some (zR (some f)), none] [] (sR (hNew h 22 24) p 7 (some (hN h))))) from zGo 4 35 36 _ _ _).trans ?_
  refine (gd_t (by decide) _).trans ?_
  exact gd_t (⟨rfl, (if_neg (Nat.ne_of_lt np)).trans tp, Nat.lt_succ_of_lt np⟩) _

theorem q_P_init_44 {h : zH} {p f : Nat} (tp : hT h p = 5) (np : p < hN h) : zY 35 44 [some (zR (some p)), some (zR (some f)), none] [] h = zY 35 52 [some (zR (some p)), some (zR (some f)), none] [] (sR (hNew h 22 24) p 8 (some (hN h))) := by
  refine (show zY 35 44 [some (zR (some p)), some (zR (some f)), none] [] h = gd (0 ≤ (24 : Int) ∧ (24 : Int) < 65536) (gd (zob (hNew h 22 24) (some p) 5) (zY 35 52 [some (zR (some p)), some (zR (some f)), none] [] (sR (hNew h 22 24) p 8 (some (hN h))))) from zGo 4 35 44 _ _ _).trans ?_
  refine (gd_t (by decide) _).trans ?_
  exact gd_t (⟨rfl, (if_neg (Nat.ne_of_lt np)).trans tp, Nat.lt_succ_of_lt np⟩) _

theorem q_P_init_52 {h : zH} {p f : Nat} (tp : hT h p = 5) (np : p < hN h) : zY 35 52 [some (zR (some p)), some (zR (some f)), none] [] h = zY 35 60 [some (zR (some p)), some (zR (some f)), none] [] (sR (hNew h 22 24) p 9 (some (hN h))) := by
  refine (show zY 35 52 [some (zR (some p)), some (zR (some f)), none] [] h = gd (0 ≤ (24 : Int) ∧ (24 : Int) < 65536) (gd (zob (hNew h 22 24) (some p) 5) (zY 35 60 [some (zR (some p)), some (zR (some f)), none] [] (sR (hNew h 22 24) p 9 (some (hN h))))) from zGo 4 35 52 _ _ _).trans ?_
  refine (gd_t (by decide) _).trans ?_
  exact gd_t (⟨rfl, (if_neg (Nat.ne_of_lt np)).trans tp, Nat.lt_succ_of_lt np⟩) _

theorem q_P_init_60 {h : zH} {p f : Nat} (tp : hT h p = 5) (np : p < hN h) : zY 35 60 [some (zR (some p)), some (zR (some f)), none] [] h = zY 35 68 [some (zR (some p)), some (zR (some f)), none] [] (sR (hNew h 22 24) p 10 (some (hN h))) := by
  refine (show zY 35 60 [some (zR (some p)), some (zR (some f)), none] [] h = gd (0 ≤ (24 : Int) ∧ (24 : Int) < 65536) (gd (zob (hNew h 22 24) (some p) 5) (zY 35 68 [some (zR (some p)), some (zR (some f)), none] [] (sR (hNew h 22 24) p 10 (some (hN h))))) from zGo 4 35 60 _ _ _).trans ?_
  refine (gd_t (by decide) _).trans ?_
  exact gd_t (⟨rfl, (if_neg (Nat.ne_of_lt np)).trans tp, Nat.lt_succ_of_lt np⟩) _

theorem q_P_init_68 {h : zH} {p f : Nat} (tp : hT h p = 5) (np : p < hN h) : zY 35 68 [some (zR (some p)), some (zR (some f)), none] [] h = zY 35 76 [some (zR (some p)), some (zR (some f)), none] [] (sR (hNew h 22 24) p 11 (some (hN h))) := by
  refine (show zY 35 68 [some (zR (some p)), some (zR (some f)), none] [] h = gd (0 ≤ (24 : Int) ∧ (24 : Int) < 65536) (gd (zob (hNew h 22 24) (some p) 5) (zY 35 76 [some (zR (some p)), some (zR (some f)), none] [] (sR (hNew h 22 24) p 11 (some (hN h))))) from zGo 4 35 68 _ _ _).trans ?_
  refine (gd_t (by decide) _).trans ?_
  exact gd_t (⟨rfl, (if_neg (Nat.ne_of_lt np)).trans tp, Nat.lt_succ_of_lt np⟩) _

theorem q_P_init_76 {h : zH} {p f : Nat} (tp : hT h p = 5) (np : p < hN h) : zY 35 76 [some (zR (some p)), some (zR (some f)), none] [] h = zY 35 85 [some (zR (some p)), some (zR (some f)), none] [] (sR (hNew h 25 24) p 12 (some (hN h))) := by
  refine (show zY 35 76 [some (zR (some p)), some (zR (some f)), none] [] h = gd (0 ≤ (24 : Int) ∧ (24 : Int) < 65536) (gd (zob (hNew h 25 24) (some p) 5) (zY 35 85 [some (zR (some p)), some (zR (some f)), none] [] (sR (hNew h 25 24) p 12 (some (hN h))))) from zGo 4 35 76 _ _ _).trans ?_
  refine (gd_t (by decide) _).trans ?_
  exact gd_t (⟨rfl, (if_neg (Nat.ne_of_lt np)).trans tp, Nat.lt_succ_of_lt np⟩) _

theorem q_V_init {h : zH} {p f : Nat} (tp : hT h p = 10) (np : p < hN h) : zC 124 [zR (some p), zR (some f)] h = zY 124 13 [some (zR (some p)), some (zR (some f)), none] [] (sR (hNew h 25 24) p 3 (some (hN h))) := by
  refine (show zC 124 [zR (some p), zR (some f)] h = gd (zctor 124 = true ∧ true = true) (gd ((some p).isSome = true ∧ zcs [] ≤ 8 ∧ zrm 124 1 20 = true) (gd (0 ≤ (24 : Int) ∧ (24 : Int) < 65536) (gd (zob (hNew h 25 24) (some p) 10) (zY 124 13 [some (zR (some p)), some (zR (some f)), none] [] (sR (hNew h 25 24) p 3 (some (hN h))))))) from zGo 6 124 0 _ _ _).trans ?_
  refine (gd_t (⟨rfl, rfl⟩) _).trans ?_
  refine (gd_t (⟨rfl, Nat.le_of_ble_eq_true rfl, rfl⟩) _).trans ?_
  refine (gd_t (by decide) _).trans ?_
  exact gd_t (⟨rfl, (if_neg (Nat.ne_of_lt np)).trans tp, Nat.lt_succ_of_lt np⟩) _

theorem q_V_init_13 {h : zH} {p f : Nat} (tp : hT h p = 10) (np : p < hN h) : zY 124 13 [some (zR (some p)), some (zR (some f)), none] [] h = zY 124 22 [some (zR (some p)), some (zR (some f)), none] [] (sR (hNew h 25 24) p 4 (some (hN h))) := by
  refine (show zY 124 13 [some (zR (some p)), some (zR (some f)), none] [] h = gd (0 ≤ (24 : Int) ∧ (24 : Int) < 65536) (gd (zob (hNew h 25 24) (some p) 10) (zY 124 22 [some (zR (some p)), some (zR (some f)), none] [] (sR (hNew h 25 24) p 4 (some (hN h))))) from zGo 4 124 13 _ _ _).trans ?_
  refine (gd_t (by decide) _).trans ?_
  exact gd_t (⟨rfl, (if_neg (Nat.ne_of_lt np)).trans tp, Nat.lt_succ_of_lt np⟩) _

theorem q_V_init_22 {h : zH} {p f : Nat} (tp : hT h p = 10) (np : p < hN h) : zY 124 22 [some (zR (some p)), some (zR (some f)), none] [] h = zY 124 30 [some (zR (some p)), some (zR (some f)), none] [] (sR (hNew h 22 24) p 5 (some (hN h))) := by
  refine (show zY 124 22 [some (zR (some p)), some (zR (some f)), none] [] h = gd (0 ≤ (24 : Int) ∧ (24 : Int) < 65536) (gd (zob (hNew h 22 24) (some p) 10) (zY 124 30 [some (zR (some p)), some (zR (some f)), none] [] (sR (hNew h 22 24) p 5 (some (hN h))))) from zGo 4 124 22 _ _ _).trans ?_
  refine (gd_t (by decide) _).trans ?_
  exact gd_t (⟨rfl, (if_neg (Nat.ne_of_lt np)).trans tp, Nat.lt_succ_of_lt np⟩) _

theorem q_V_init_30 {h : zH} {p f : Nat} (tp : hT h p = 10) (np : p < hN h) : zY 124 30 [some (zR (some p)), some (zR (some f)), none] [] h = zY 124 38 [some (zR (some p)), some (zR (some f)), none] [] (sR (hNew h 22 24) p 6 (some (hN h))) := by
  refine (show zY 124 30 [some (zR (some p)), some (zR (some f)), none] [] h = gd (0 ≤ (24 : Int) ∧ (24 : Int) < 65536) (gd (zob (hNew h 22 24) (some p) 10) (zY 124 38 [some (zR (some p)), some (zR (some f)), none] [] (sR (hNew h 22 24) p 6 (some (hN h))))) from zGo 4 124 30 _ _ _).trans ?_
  refine (gd_t (by decide) _).trans ?_
  exact gd_t (⟨rfl, (if_neg (Nat.ne_of_lt np)).trans tp, Nat.lt_succ_of_lt np⟩) _

theorem q_P_init_85 {h : zH} {p f : Nat} (tp : hT h p = 5) (np : p < hN h) : zY 35 85 [some (zR (some p)), some (zR (some f)), none] [] h = zY 35 92 [some (zR (some p)), some (zR (some f)), some (zI 0)] [] (sR h p 13 (some f)) := by
  refine (show zY 35 85 [some (zR (some p)), some (zR (some f)), none] [] h = gd (zob h (some p) 5) (gd (inR (0)) (zY 35 92 [some (zR (some p)), some (zR (some f)), some (zI 0)] [] (sR h p 13 (some f)))) from zGo 5 35 85 _ _ _).trans ?_
  refine (gd_t (⟨rfl, tp, np⟩) _).trans ?_
  exact gd_t (by decide) _
theorem q_V_init_38 {h : zH} {p f : Nat} (tp : hT h p = 10) (np : p < hN h) : zY 124 38 [some (zR (some p)), some (zR (some f)), none] [] h = zY 124 55 [some (zR (some p)), some (zR (some f)), some (zI 0)] [] (sR (sR (sR h p 2 (some f)) p 0 (some f)) p 1 (some f)) := by
  refine (show zY 124 38 [some (zR (some p)), some (zR (some f)), none] [] h = gd (zob h (some p) 10) (gd (zob (sR h p 2 (some f)) (some p) 10) (gd (zob (sR (sR h p 2 (some f)) p 0 (some f)) (some p) 10) (gd (inR (0)) (zY 124 55 [some (zR (some p)), some (zR (some f)), some (zI 0)] [] (sR (sR (sR h p 2 (some f)) p 0 (some f)) p 1 (some f)))))) from zGo 11 124 38 _ _ _).trans ?_
  refine (gd_t (⟨rfl, tp, np⟩) _).trans ?_
  refine (gd_t (⟨rfl, tp, np⟩) _).trans ?_
  refine (gd_t (⟨rfl, tp, np⟩) _).trans ?_
  exact gd_t (by decide) _

