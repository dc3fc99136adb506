/-! The reference: what is asked. -/
abbrev b_Fl_isNaN (x0 : UInt32) : Prop :=
  ¬ ((Op.cmpValue (FP.fcmp x0 x0) .l).toInt = 0)
theorem e_Fl_isNaN {h : zH} {x0 : UInt32} : zC 389 [zF x0] h = some (.inl (some (zI (if b_Fl_isNaN x0 then (1 : Int) else 0))), h) := by
  refine (show zC 389 [zF x0] h = if (Op.cmpValue (FP.fcmp x0 x0) .l).toInt = 0 then zY 389 10 [some (zF x0)] [] h else zY 389 6 [some (zF x0)] [] h from zGo 4 389 0 _ _ _).trans ?_
  refine ite_x (fun c0 => ?_) (fun c0 => ?_)
  · skip
    refine (show zY 389 10 [some (zF x0)] [] h = gd (inR (0)) (gd (([] : List zV).isEmpty = true ∧ (zrk 389 = 1 ∨ zrk 389 = 6 ∧ ((0 : Int) = 0 ∨ (0 : Int) = 1))) (some (.inl (some (zI 0)), h))) from zGo 2 389 10 _ _ _).trans ?_
    refine (gd_t (by decide) _).trans ?_
    refine (gd_t (⟨rfl, Or.inr ⟨rfl, by decide⟩⟩) _).trans ?_
    exact retI (by first | rfl | (exact (if_pos (by unfold b_Fl_isNaN; omega)).symm) | (exact (if_neg (by unfold b_Fl_isNaN; omega)).symm) | (exact ifc_congr (by unfold b_Fl_isNaN; simp_all)) | (unfold b_Fl_isNaN; simp_all))
  · skip
    refine (show zY 389 6 [some (zF x0)] [] h = gd (inR (1)) (gd (([] : List zV).isEmpty = true ∧ (zrk 389 = 1 ∨ zrk 389 = 6 ∧ ((1 : Int) = 0 ∨ (1 : Int) = 1))) (some (.inl (some (zI 1)), h))) from zGo 3 389 6 _ _ _).trans ?_
    refine (gd_t (by decide) _).trans ?_
    refine (gd_t (⟨rfl, Or.inr ⟨rfl, by decide⟩⟩) _).trans ?_
    exact retI (by first | rfl | (exact (if_pos (by unfold b_Fl_isNaN; omega)).symm) | (exact (if_neg (by unfold b_Fl_isNaN; omega)).symm) | (exact ifc_congr (by unfold b_Fl_isNaN; simp_all)) | (unfold b_Fl_isNaN; simp_all))
abbrev b_Do_isNaN (x0 : UInt64) : Prop :=
  ¬ ((Op.cmpValue (FP.dcmp x0 x0) .l).toInt = 0)
theorem e_Do_isNaN {h : zH} {x0 : UInt64} : zC 391 [zD x0] h = some (.inl (some (zI (if b_Do_isNaN x0 then (1 : Int) else 0))), h) := by
  refine (show zC 391 [zD x0] h = if (Op.cmpValue (FP.dcmp x0 x0) .l).toInt = 0 then zY 391 10 [some (zD x0), none] [] h else zY 391 6 [some (zD x0), none] [] h from zGo 4 391 0 _ _ _).trans ?_
  refine ite_x (fun c0 => ?_) (fun c0 => ?_)
  · skip
    refine (show zY 391 10 [some (zD x0), none] [] h = gd (inR (0)) (gd (([] : List zV).isEmpty = true ∧ (zrk 391 = 1 ∨ zrk 391 = 6 ∧ ((0 : Int) = 0 ∨ (0 : Int) = 1))) (some (.inl (some (zI 0)), h))) from zGo 2 391 10 _ _ _).trans ?_
    refine (gd_t (by decide) _).trans ?_
    refine (gd_t (⟨rfl, Or.inr ⟨rfl, by decide⟩⟩) _).trans ?_
    exact retI (by first | rfl | (exact (if_pos (by unfold b_Do_isNaN; omega)).symm) | (exact (if_neg (by unfold b_Do_isNaN; omega)).symm) | (exact ifc_congr (by unfold b_Do_isNaN; simp_all)) | (unfold b_Do_isNaN; simp_all))
  · skip
    refine (show zY 391 6 [some (zD x0), none] [] h = gd (inR (1)) (gd (([] : List zV).isEmpty = true ∧ (zrk 391 = 1 ∨ zrk 391 = 6 ∧ ((1 : Int) = 0 ∨ (1 : Int) = 1))) (some (.inl (some (zI 1)), h))) from zGo 3 391 6 _ _ _).trans ?_
    refine (gd_t (by decide) _).trans ?_
    refine (gd_t (⟨rfl, Or.inr ⟨rfl, by decide⟩⟩) _).trans ?_
    exact retI (by first | rfl | (exact (if_pos (by unfold b_Do_isNaN; omega)).symm) | (exact (if_neg (by unfold b_Do_isNaN; omega)).symm) | (exact ifc_congr (by unfold b_Do_isNaN; simp_all)) | (unfold b_Do_isNaN; simp_all))
def f_Fl_floatToIntBits (x0 : UInt32) : Int :=
  if b_Fl_isNaN x0 then
    2143289344
  else
    (UInt32.toInt32 x0).toInt
theorem e_Fl_floatToIntBits {h : zH} {x0 : UInt32} : zC 388 [zF x0] h = some (.inl (some (zI (f_Fl_floatToIntBits x0))), h) := by
  show _ = (some (.inl (some (zI (
    if b_Fl_isNaN x0 then
      2143289344
    else
      (UInt32.toInt32 x0).toInt))), h) : zO)
  refine (show zC 388 [zF x0] h = gd (false = zctor 389 ∧ zcs [] ≤ 8 ∧ zrm 388 (zrf 389 + 1) (8 + (zmaxl 389 + 11) + zrl 389) = true ∧ zcs [zF x0] ≤ zmaxl 389) (zBack zY 388 1 4 [some (zF x0)] [] (zC 389 [zF x0] h)) from zGo 2 388 0 _ _ _).trans ?_
  refine (gd_t (⟨rfl, Nat.le_of_ble_eq_true rfl, rfl, Nat.le_of_ble_eq_true rfl⟩) _).trans ?_
  refine (congrArg (zBack zY 388 1 4 [some (zF x0)] []) (e_Fl_isNaN)).trans ?_
  refine (show zY 388 4 [some (zF x0)] [zI (if b_Fl_isNaN x0 then (1 : Int) else 0)] h = if (if b_Fl_isNaN x0 then (1 : Int) else 0) = 0 then zY 388 7 [some (zF x0)] [] h else zY 388 12 [some (zF x0)] [] h from zGo 1 388 4 _ _ _).trans ?_
  refine iteBF (fun x => (some (.inl (some (zI x)), h) : zO)) (fun c0 => ?_) (fun c0 => ?_)
  · skip
    refine (show zY 388 12 [some (zF x0)] [] h = gd (([] : List zV).isEmpty = true ∧ (zrk 388 = 1 ∨ zrk 388 = 6 ∧ ((2143289344 : Int) = 0 ∨ (2143289344 : Int) = 1))) (some (.inl (some (zI 2143289344)), h)) from zGo 2 388 12 _ _ _).trans ?_
    refine (gd_t (⟨rfl, Or.inl rfl⟩) _).trans ?_
    rfl
  · skip
    refine (show zY 388 7 [some (zF x0)] [] h = gd (zcs [] ≤ 8 ∧ zrm 388 1 27 = true) (gd (([] : List zV).isEmpty = true ∧ (zrk 388 = 1 ∨ zrk 388 = 6 ∧ ((((UInt32.toInt32 x0).toInt) : Int) = 0 ∨ (((UInt32.toInt32 x0).toInt) : Int) = 1))) (some (.inl (some (zI ((UInt32.toInt32 x0).toInt))), h))) from zGo 3 388 7 _ _ _).trans ?_
    refine (gd_t (⟨Nat.le_of_ble_eq_true rfl, rfl⟩) _).trans ?_
    refine (gd_t (⟨rfl, Or.inl rfl⟩) _).trans ?_
    rfl
def f_Do_doubleToLongBits (x0 : UInt64) : BitVec 64 :=
  if b_Do_isNaN x0 then
    9221120237041090560#64
  else
    (UInt64.toInt64 x0).toBitVec
theorem e_Do_doubleToLongBits {h : zH} {x0 : UInt64} : zC 390 [zD x0] h = some (.inl (some (zJ (f_Do_doubleToLongBits x0))), h) := by
  show _ = (some (.inl (some (zJ (
    if b_Do_isNaN x0 then
      9221120237041090560#64
    else
      (UInt64.toInt64 x0).toBitVec))), h) : zO)
  refine (show zC 390 [zD x0] h = gd (false = zctor 391 ∧ zcs [] ≤ 8 ∧ zrm 390 (zrf 391 + 1) (8 + (zmaxl 391 + 11) + zrl 391) = true ∧ zcs [zD x0] ≤ zmaxl 391) (zBack zY 390 1 4 [some (zD x0), none] [] (zC 391 [zD x0] h)) from zGo 2 390 0 _ _ _).trans ?_
  refine (gd_t (⟨rfl, Nat.le_of_ble_eq_true rfl, rfl, Nat.le_of_ble_eq_true rfl⟩) _).trans ?_
  refine (congrArg (zBack zY 390 1 4 [some (zD x0), none] []) (e_Do_isNaN)).trans ?_
  refine (show zY 390 4 [some (zD x0), none] [zI (if b_Do_isNaN x0 then (1 : Int) else 0)] h = if (if b_Do_isNaN x0 then (1 : Int) else 0) = 0 then zY 390 7 [some (zD x0), none] [] h else zY 390 12 [some (zD x0), none] [] h from zGo 1 390 4 _ _ _).trans ?_
  refine iteBF (fun x => (some (.inl (some (zJ x)), h) : zO)) (fun c0 => ?_) (fun c0 => ?_)
  · skip
    refine (show zY 390 12 [some (zD x0), none] [] h = gd (([] : List zV).isEmpty = true ∧ zrk 390 = 2) (some (.inl (some (zJ (9221120237041090560#64))), h)) from zGo 2 390 12 _ _ _).trans ?_
    refine (gd_t (⟨rfl, rfl⟩) _).trans ?_
    rfl
  · skip
    refine (show zY 390 7 [some (zD x0), none] [] h = gd (zcs [] ≤ 8 ∧ zrm 390 1 27 = true) (gd (([] : List zV).isEmpty = true ∧ zrk 390 = 2) (some (.inl (some (zJ ((UInt64.toInt64 x0).toBitVec))), h))) from zGo 3 390 7 _ _ _).trans ?_
    refine (gd_t (⟨Nat.le_of_ble_eq_true rfl, rfl⟩) _).trans ?_
    refine (gd_t (⟨rfl, rfl⟩) _).trans ?_
    rfl
def f_M_thrown (h : zH) : Int :=
  (hI h 177 1)
theorem e_M_thrown {h : zH} (KM : KM h) : zC 208 [zR (some 177)] h = some (.inl (some (zI (f_M_thrown h))), h) := by
  show _ = (some (.inl (some (zI (
    (hI h 177 1)))), h) : zO)
  refine (show zC 208 [zR (some 177)] h = gd (zob h (some 177) 12) (gd (([] : List zV).isEmpty = true ∧ (zrk 208 = 1 ∨ zrk 208 = 6 ∧ (((hI h 177 1) : Int) = 0 ∨ ((hI h 177 1) : Int) = 1))) (some (.inl (some (zI (hI h 177 1))), h))) from zGo 3 208 0 _ _ _).trans ?_
  refine (gd_t (⟨rfl, (PTM KM 177 _ rfl rfl), (PNM KM 177 rfl)⟩) _).trans ?_
  refine (gd_t (⟨rfl, Or.inl rfl⟩) _).trans ?_
  rfl
theorem q_M_errorCode {h : zH} (KM : KM h) : zC 239 [zR (some 177)] h =
    some (.inl (some (zI (hI h 177 18))), (sI h 177 1 0)) := by
  refine (show zC 239 [zR (some 177)] h = gd (zob h (some 177) 12) (gd (false = zctor 212 ∧ zcs [] ≤ 8 ∧ zrm 239 (zrf 212 + 1) (8 + (zmaxl 212 + 11) + zrl 212) = true ∧ zcs [zR (some 177), zI (hI h 177 18)] ≤ zmaxl 212) (gd (zob h (some 177) 12) (zBack zY 239 5 8 [some (zR (some 177))] [] (zC 212 [zR (some 177), zI (hI h 177 18)] h)))) from zGo 4 239 0 _ _ _).trans ?_
  refine (gd_t (⟨rfl, (PTM KM 177 _ rfl rfl), (PNM KM 177 rfl)⟩) _).trans ?_
  refine (gd_t (⟨rfl, Nat.le_of_ble_eq_true rfl, rfl, Nat.le_of_ble_eq_true rfl⟩) _).trans ?_
  refine (gd_t (⟨rfl, (PTM KM 177 _ rfl rfl), (PNM KM 177 rfl)⟩) _).trans ?_
  refine (congrArg (zBack zY 239 5 8 [some (zR (some 177))] []) (q_M_told KM)).trans ?_
  refine (show zY 239 8 [some (zR (some 177))] [zI (hI h 177 18)] (sI h 177 1 0) = gd (([] : List zV).isEmpty = true ∧ (zrk 239 = 1 ∨ zrk 239 = 6 ∧ (((hI h 177 18) : Int) = 0 ∨ ((hI h 177 18) : Int) = 1))) (some (.inl (some (zI (hI h 177 18))), (sI h 177 1 0))) from zGo 1 239 8 _ _ _).trans ?_
  refine (gd_t (⟨rfl, Or.inl rfl⟩) _).trans ?_
  rfl
theorem q_M_errorPosition {h : zH} (KM : KM h) : zC 240 [zR (some 177)] h =
    some (.inl (some (zI (hI h 177 19))), (sI h 177 1 0)) := by
  refine (show zC 240 [zR (some 177)] h = gd (zob h (some 177) 12) (gd (false = zctor 212 ∧ zcs [] ≤ 8 ∧ zrm 240 (zrf 212 + 1) (8 + (zmaxl 212 + 11) + zrl 212) = true ∧ zcs [zR (some 177), zI (hI h 177 19)] ≤ zmaxl 212) (gd (zob h (some 177) 12) (zBack zY 240 5 8 [some (zR (some 177))] [] (zC 212 [zR (some 177), zI (hI h 177 19)] h)))) from zGo 4 240 0 _ _ _).trans ?_
  refine (gd_t (⟨rfl, (PTM KM 177 _ rfl rfl), (PNM KM 177 rfl)⟩) _).trans ?_
  refine (gd_t (⟨rfl, Nat.le_of_ble_eq_true rfl, rfl, Nat.le_of_ble_eq_true rfl⟩) _).trans ?_
  refine (gd_t (⟨rfl, (PTM KM 177 _ rfl rfl), (PNM KM 177 rfl)⟩) _).trans ?_
  refine (congrArg (zBack zY 240 5 8 [some (zR (some 177))] []) (q_M_told KM)).trans ?_
  refine (show zY 240 8 [some (zR (some 177))] [zI (hI h 177 19)] (sI h 177 1 0) = gd (([] : List zV).isEmpty = true ∧ (zrk 240 = 1 ∨ zrk 240 = 6 ∧ (((hI h 177 19) : Int) = 0 ∨ ((hI h 177 19) : Int) = 1))) (some (.inl (some (zI (hI h 177 19))), (sI h 177 1 0))) from zGo 1 240 8 _ _ _).trans ?_
  refine (gd_t (⟨rfl, Or.inl rfl⟩) _).trans ?_
  rfl
theorem q_M_forgetsMet {h : zH} (KM : KM h) : zC 301 [zR (some 177)] h =
    zY 301 2 [some (zR (some 177)), some (zI 0)] [] h := by
  refine (show zC 301 [zR (some 177)] h = gd (inR (0)) (zY 301 2 [some (zR (some 177)), some (zI 0)] [] h) from zGo 2 301 0 _ _ _).trans ?_
  refine (gd_t (by decide) _).trans ?_
  rfl
theorem q_M_forgetsMet_2 {h : zH} {x1 : Int} (KM : KM h) : zY 301 2 [some (zR (some 177)), some (zI x1)] [] h =
    if x1 < 24 then
      gd (0 ≤ x1 ∧ x1 < 24) (
      gd (-2147483648 ≤ x1 + 1 ∧ x1 + 1 < 2147483648) (
      zY 301 2 [some (zR (some 177)), some (zI (x1 + 1))] [] (sJ h 195 x1.toNat (0#64))))
    else
      some (.inl (none), h) := by
  refine (show zY 301 2 [some (zR (some 177)), some (zI x1)] [] h = gd (-128 ≤ (24 : Int) ∧ (24 : Int) < 128) (if x1 < 24 then zY 301 8 [some (zR (some 177)), some (zI x1)] [] h else zY 301 21 [some (zR (some 177)), some (zI x1)] [] h) from zGo 3 301 2 _ _ _).trans ?_
  refine (gd_t (by decide) _).trans ?_
  refine iteC (fun c0 => ?_) (fun c0 => ?_)
  · skip
    refine (show zY 301 8 [some (zR (some 177)), some (zI x1)] [] h = gd (zob h (some 177) 12) (zY 301 12 [some (zR (some 177)), some (zI x1)] [zR (hR h 177 35)] h) from zGo 2 301 8 _ _ _).trans ?_
    refine (gd_t (⟨rfl, (PTM KM 177 _ rfl rfl), (PNM KM 177 rfl)⟩) _).trans ?_
    refine (congrArg (fun r => zY 301 12 [some (zR (some 177)), some (zI x1)] (zR r :: []) h) (PRM KM 177 35 _ rfl)).trans ?_
    refine (show zY 301 12 [some (zR (some 177)), some (zI x1)] [zR (some 195)] h = gd (zokw h (some 195) 23 x1) (gd (inR (x1 + 1)) (gd (inR (1)) (zY 301 2 [some (zR (some 177)), some (zI (x1 + 1))] [] (sJ h 195 x1.toNat (0#64))))) from zGo 5 301 12 _ _ _).trans ?_
    refine gd_c (ciw (PTM KM 195 _ rfl rfl) (PNM KM 195 rfl) (PLM KM 195 24 rfl rfl)) (fun c1 => ?_)
    refine gd_c Iff.rfl (fun c2 => ?_)
    refine (gd_t (by decide) _).trans ?_
    rfl
  · skip
    refine (show zY 301 21 [some (zR (some 177)), some (zI x1)] [] h = gd (([] : List zV).isEmpty = true ∧ zrk 301 = 0) (some (.inl (none), h)) from zGo 1 301 21 _ _ _).trans ?_
    refine (gd_t (⟨rfl, rfl⟩) _).trans ?_
    rfl
theorem q_M_value {h : zH} {x1 : Int} (KM : KM h) (g0 : (b_M_in x1 0 7) → (¬ (x1 = 0)) → (x1 = 1) → (hI h 177 10 ≤ 24) := by omega) (g1 : (b_M_in x1 0 7) → (¬ (x1 = 0)) → (¬ (x1 = 1)) → (x1 = 2) → (hI h 177 10 ≤ 24) := by omega) (g2 : (b_M_in x1 0 7) → (¬ (x1 = 0)) → (¬ (x1 = 1)) → (¬ (x1 = 2)) → (x1 = 3) → (hI h 177 10 ≤ 24) := by omega) (g3 : (b_M_in x1 0 7) → (¬ (x1 = 0)) → (¬ (x1 = 1)) → (¬ (x1 = 2)) → (¬ (x1 = 3)) → (x1 = 4) → (hI h 177 10 ≤ 24) := by omega) (g4 : (b_M_in x1 0 7) → (¬ (x1 = 0)) → (¬ (x1 = 1)) → (¬ (x1 = 2)) → (¬ (x1 = 3)) → (x1 = 4) → (0 ≤ hI h 177 10) := by omega) : zC 241 [zR (some 177), zI x1] h =
    if b_M_in x1 0 7 then
      if x1 = 0 then
        some (.inl (some (zI (hI h 177 10))), (sI h 177 1 0))
      else
        if x1 = 1 then
          some (.inl (some (zI (f_M_manyOf h 2))), (sI h 177 1 0))
        else
          if x1 = 2 then
            some (.inl (some (zI (f_M_manyOf h 3))), (sI h 177 1 0))
          else
            if x1 = 3 then
              some (.inl (some (zI (f_M_filledHoles h))), (sI h 177 1 0))
            else
              if x1 = 4 then
                some (.inl (some (zI (f_M_dutyMany h))), (sI h 177 1 0))
              else
                if x1 = 5 then
                  zBack zY 241 109 112 [some (zR (some 177)), some (zI x1)] [zR (some 177)] (zC 245 [zR (some 177)] h)
                else
                  if x1 = 6 then
                    zBack zY 241 118 121 [some (zR (some 177)), some (zI x1)] [zR (some 177)] (zC 275 [zR (some 177)] h)
                  else
                    some (.inl (some (zI (hI h 177 5))), (sI h 177 1 0))
    else
      some (.inl (some (zI 0)), (sI h 177 1 1)) := by
  refine (show zC 241 [zR (some 177), zI x1] h = gd (inR (0)) (gd (-128 ≤ (7 : Int) ∧ (7 : Int) < 128) (gd (false = zctor 214 ∧ zcs [] ≤ 8 ∧ zrm 241 (zrf 214 + 1) (8 + (zmaxl 214 + 11) + zrl 214) = true ∧ zcs [zI x1, zI 0, zI 7] ≤ zmaxl 214) (zBack zY 241 4 7 [some (zR (some 177)), some (zI x1)] [] (zC 214 [zI x1, zI 0, zI 7] h)))) from zGo 4 241 0 _ _ _).trans ?_
  refine (gd_t (by decide) _).trans ?_
  refine (gd_t (by decide) _).trans ?_
  refine (gd_t (⟨rfl, Nat.le_of_ble_eq_true rfl, rfl, Nat.le_of_ble_eq_true rfl⟩) _).trans ?_
  refine (congrArg (zBack zY 241 4 7 [some (zR (some 177)), some (zI x1)] []) (e_M_in)).trans ?_
  refine (show zY 241 7 [some (zR (some 177)), some (zI x1)] [zI (if b_M_in x1 0 7 then (1 : Int) else 0)] h = if (if b_M_in x1 0 7 then (1 : Int) else 0) = 0 then zY 241 10 [some (zR (some 177)), some (zI x1)] [] h else zY 241 16 [some (zR (some 177)), some (zI x1)] [] h from zGo 1 241 7 _ _ _).trans ?_
  refine iteB (fun c0 => ?_) (fun c0 => ?_)
  · skip
    refine (show zY 241 16 [some (zR (some 177)), some (zI x1)] [] h = if x1 = 0 then zY 241 60 [some (zR (some 177)), some (zI x1)] [] h else if x1 = 1 then zY 241 69 [some (zR (some 177)), some (zI x1)] [] h else if x1 = 2 then zY 241 79 [some (zR (some 177)), some (zI x1)] [] h else if x1 = 3 then zY 241 89 [some (zR (some 177)), some (zI x1)] [] h else if x1 = 4 then zY 241 98 [some (zR (some 177)), some (zI x1)] [] h else if x1 = 5 then zY 241 107 [some (zR (some 177)), some (zI x1)] [] h else if x1 = 6 then zY 241 116 [some (zR (some 177)), some (zI x1)] [] h else zY 241 133 [some (zR (some 177)), some (zI x1)] [] h from zGo 2 241 16 _ _ _).trans ?_
    refine iteC (fun c1 => ?_) (fun c1 => ?_)
    · skip
      refine (show zY 241 60 [some (zR (some 177)), some (zI x1)] [] h = gd (zob h (some 177) 12) (gd (false = zctor 212 ∧ zcs [] ≤ 8 ∧ zrm 241 (zrf 212 + 1) (8 + (zmaxl 212 + 11) + zrl 212) = true ∧ zcs [zR (some 177), zI (hI h 177 10)] ≤ zmaxl 212) (gd (zob h (some 177) 12) (zBack zY 241 65 68 [some (zR (some 177)), some (zI x1)] [] (zC 212 [zR (some 177), zI (hI h 177 10)] h)))) from zGo 4 241 60 _ _ _).trans ?_
      refine (gd_t (⟨rfl, (PTM KM 177 _ rfl rfl), (PNM KM 177 rfl)⟩) _).trans ?_
      refine (gd_t (⟨rfl, Nat.le_of_ble_eq_true rfl, rfl, Nat.le_of_ble_eq_true rfl⟩) _).trans ?_
      refine (gd_t (⟨rfl, (PTM KM 177 _ rfl rfl), (PNM KM 177 rfl)⟩) _).trans ?_
      refine (congrArg (zBack zY 241 65 68 [some (zR (some 177)), some (zI x1)] []) (q_M_told KM)).trans ?_
      refine (show zY 241 68 [some (zR (some 177)), some (zI x1)] [zI (hI h 177 10)] (sI h 177 1 0) = gd (([] : List zV).isEmpty = true ∧ (zrk 241 = 1 ∨ zrk 241 = 6 ∧ (((hI h 177 10) : Int) = 0 ∨ ((hI h 177 10) : Int) = 1))) (some (.inl (some (zI (hI h 177 10))), (sI h 177 1 0))) from zGo 1 241 68 _ _ _).trans ?_
      refine (gd_t (⟨rfl, Or.inl rfl⟩) _).trans ?_
      rfl
    · skip
      refine iteC (fun c2 => ?_) (fun c2 => ?_)
      · skip
        refine (show zY 241 69 [some (zR (some 177)), some (zI x1)] [] h = gd (inR (2)) (gd (false = zctor 206 ∧ zcs [zR (some 177)] ≤ 8 ∧ zrm 241 (zrf 206 + 1) (8 + (zmaxl 206 + 11) + zrl 206) = true ∧ zcs [zR (some 177), zI 2] ≤ zmaxl 206) (gd (zob h (some 177) 12) (zBack zY 241 72 75 [some (zR (some 177)), some (zI x1)] [zR (some 177)] (zC 206 [zR (some 177), zI 2] h)))) from zGo 4 241 69 _ _ _).trans ?_
        refine (gd_t (by decide) _).trans ?_
        refine (gd_t (⟨rfl, Nat.le_of_ble_eq_true rfl, rfl, Nat.le_of_ble_eq_true rfl⟩) _).trans ?_
        refine (gd_t (⟨rfl, (PTM KM 177 _ rfl rfl), (PNM KM 177 rfl)⟩) _).trans ?_
        refine (congrArg (zBack zY 241 72 75 [some (zR (some 177)), some (zI x1)] [zR (some 177)]) (e_M_manyOf KM (g0 c0 c1 c2))).trans ?_
        refine (show zY 241 75 [some (zR (some 177)), some (zI x1)] [zI (f_M_manyOf h 2), zR (some 177)] h = gd (false = zctor 212 ∧ zcs [] ≤ 8 ∧ zrm 241 (zrf 212 + 1) (8 + (zmaxl 212 + 11) + zrl 212) = true ∧ zcs [zR (some 177), zI (f_M_manyOf h 2)] ≤ zmaxl 212) (gd (zob h (some 177) 12) (zBack zY 241 75 78 [some (zR (some 177)), some (zI x1)] [] (zC 212 [zR (some 177), zI (f_M_manyOf h 2)] h))) from zGo 1 241 75 _ _ _).trans ?_
        refine (gd_t (⟨rfl, Nat.le_of_ble_eq_true rfl, rfl, Nat.le_of_ble_eq_true rfl⟩) _).trans ?_
        refine (gd_t (⟨rfl, (PTM KM 177 _ rfl rfl), (PNM KM 177 rfl)⟩) _).trans ?_
        refine (congrArg (zBack zY 241 75 78 [some (zR (some 177)), some (zI x1)] []) (q_M_told KM)).trans ?_
        refine (show zY 241 78 [some (zR (some 177)), some (zI x1)] [zI (f_M_manyOf h 2)] (sI h 177 1 0) = gd (([] : List zV).isEmpty = true ∧ (zrk 241 = 1 ∨ zrk 241 = 6 ∧ (((f_M_manyOf h 2) : Int) = 0 ∨ ((f_M_manyOf h 2) : Int) = 1))) (some (.inl (some (zI (f_M_manyOf h 2))), (sI h 177 1 0))) from zGo 1 241 78 _ _ _).trans ?_
        refine (gd_t (⟨rfl, Or.inl rfl⟩) _).trans ?_
        rfl
      · skip
        refine iteC (fun c3 => ?_) (fun c3 => ?_)
        · skip
          refine (show zY 241 79 [some (zR (some 177)), some (zI x1)] [] h = gd (inR (3)) (gd (false = zctor 206 ∧ zcs [zR (some 177)] ≤ 8 ∧ zrm 241 (zrf 206 + 1) (8 + (zmaxl 206 + 11) + zrl 206) = true ∧ zcs [zR (some 177), zI 3] ≤ zmaxl 206) (gd (zob h (some 177) 12) (zBack zY 241 82 85 [some (zR (some 177)), some (zI x1)] [zR (some 177)] (zC 206 [zR (some 177), zI 3] h)))) from zGo 4 241 79 _ _ _).trans ?_
          refine (gd_t (by decide) _).trans ?_
          refine (gd_t (⟨rfl, Nat.le_of_ble_eq_true rfl, rfl, Nat.le_of_ble_eq_true rfl⟩) _).trans ?_
          refine (gd_t (⟨rfl, (PTM KM 177 _ rfl rfl), (PNM KM 177 rfl)⟩) _).trans ?_
          refine (congrArg (zBack zY 241 82 85 [some (zR (some 177)), some (zI x1)] [zR (some 177)]) (e_M_manyOf KM (g1 c0 c1 c2 c3))).trans ?_
          refine (show zY 241 85 [some (zR (some 177)), some (zI x1)] [zI (f_M_manyOf h 3), zR (some 177)] h = gd (false = zctor 212 ∧ zcs [] ≤ 8 ∧ zrm 241 (zrf 212 + 1) (8 + (zmaxl 212 + 11) + zrl 212) = true ∧ zcs [zR (some 177), zI (f_M_manyOf h 3)] ≤ zmaxl 212) (gd (zob h (some 177) 12) (zBack zY 241 85 88 [some (zR (some 177)), some (zI x1)] [] (zC 212 [zR (some 177), zI (f_M_manyOf h 3)] h))) from zGo 1 241 85 _ _ _).trans ?_
          refine (gd_t (⟨rfl, Nat.le_of_ble_eq_true rfl, rfl, Nat.le_of_ble_eq_true rfl⟩) _).trans ?_
          refine (gd_t (⟨rfl, (PTM KM 177 _ rfl rfl), (PNM KM 177 rfl)⟩) _).trans ?_
          refine (congrArg (zBack zY 241 85 88 [some (zR (some 177)), some (zI x1)] []) (q_M_told KM)).trans ?_
          refine (show zY 241 88 [some (zR (some 177)), some (zI x1)] [zI (f_M_manyOf h 3)] (sI h 177 1 0) = gd (([] : List zV).isEmpty = true ∧ (zrk 241 = 1 ∨ zrk 241 = 6 ∧ (((f_M_manyOf h 3) : Int) = 0 ∨ ((f_M_manyOf h 3) : Int) = 1))) (some (.inl (some (zI (f_M_manyOf h 3))), (sI h 177 1 0))) from zGo 1 241 88 _ _ _).trans ?_
          refine (gd_t (⟨rfl, Or.inl rfl⟩) _).trans ?_
          rfl
        · skip
          refine iteC (fun c4 => ?_) (fun c4 => ?_)
          · skip
            refine (show zY 241 89 [some (zR (some 177)), some (zI x1)] [] h = gd (false = zctor 242 ∧ zcs [zR (some 177)] ≤ 8 ∧ zrm 241 (zrf 242 + 1) (8 + (zmaxl 242 + 11) + zrl 242) = true ∧ zcs [zR (some 177)] ≤ zmaxl 242) (gd (zob h (some 177) 12) (zBack zY 241 91 94 [some (zR (some 177)), some (zI x1)] [zR (some 177)] (zC 242 [zR (some 177)] h))) from zGo 3 241 89 _ _ _).trans ?_
            refine (gd_t (⟨rfl, Nat.le_of_ble_eq_true rfl, rfl, Nat.le_of_ble_eq_true rfl⟩) _).trans ?_
            refine (gd_t (⟨rfl, (PTM KM 177 _ rfl rfl), (PNM KM 177 rfl)⟩) _).trans ?_
            refine (congrArg (zBack zY 241 91 94 [some (zR (some 177)), some (zI x1)] [zR (some 177)]) (e_M_filledHoles KM (g2 c0 c1 c2 c3 c4))).trans ?_
            refine (show zY 241 94 [some (zR (some 177)), some (zI x1)] [zI (f_M_filledHoles h), zR (some 177)] h = gd (false = zctor 212 ∧ zcs [] ≤ 8 ∧ zrm 241 (zrf 212 + 1) (8 + (zmaxl 212 + 11) + zrl 212) = true ∧ zcs [zR (some 177), zI (f_M_filledHoles h)] ≤ zmaxl 212) (gd (zob h (some 177) 12) (zBack zY 241 94 97 [some (zR (some 177)), some (zI x1)] [] (zC 212 [zR (some 177), zI (f_M_filledHoles h)] h))) from zGo 1 241 94 _ _ _).trans ?_
            refine (gd_t (⟨rfl, Nat.le_of_ble_eq_true rfl, rfl, Nat.le_of_ble_eq_true rfl⟩) _).trans ?_
            refine (gd_t (⟨rfl, (PTM KM 177 _ rfl rfl), (PNM KM 177 rfl)⟩) _).trans ?_
            refine (congrArg (zBack zY 241 94 97 [some (zR (some 177)), some (zI x1)] []) (q_M_told KM)).trans ?_
            refine (show zY 241 97 [some (zR (some 177)), some (zI x1)] [zI (f_M_filledHoles h)] (sI h 177 1 0) = gd (([] : List zV).isEmpty = true ∧ (zrk 241 = 1 ∨ zrk 241 = 6 ∧ (((f_M_filledHoles h) : Int) = 0 ∨ ((f_M_filledHoles h) : Int) = 1))) (some (.inl (some (zI (f_M_filledHoles h))), (sI h 177 1 0))) from zGo 1 241 97 _ _ _).trans ?_
            refine (gd_t (⟨rfl, Or.inl rfl⟩) _).trans ?_
            rfl
          · skip
            refine iteC (fun c5 => ?_) (fun c5 => ?_)
            · skip
              refine (show zY 241 98 [some (zR (some 177)), some (zI x1)] [] h = gd (false = zctor 244 ∧ zcs [zR (some 177)] ≤ 8 ∧ zrm 241 (zrf 244 + 1) (8 + (zmaxl 244 + 11) + zrl 244) = true ∧ zcs [zR (some 177)] ≤ zmaxl 244) (gd (zob h (some 177) 12) (zBack zY 241 100 103 [some (zR (some 177)), some (zI x1)] [zR (some 177)] (zC 244 [zR (some 177)] h))) from zGo 3 241 98 _ _ _).trans ?_
              refine (gd_t (⟨rfl, Nat.le_of_ble_eq_true rfl, rfl, Nat.le_of_ble_eq_true rfl⟩) _).trans ?_
              refine (gd_t (⟨rfl, (PTM KM 177 _ rfl rfl), (PNM KM 177 rfl)⟩) _).trans ?_
              refine (congrArg (zBack zY 241 100 103 [some (zR (some 177)), some (zI x1)] [zR (some 177)]) (e_M_dutyManyx KM (g3 c0 c1 c2 c3 c4 c5) (g4 c0 c1 c2 c3 c4 c5))).trans ?_
              refine (show zY 241 103 [some (zR (some 177)), some (zI x1)] [zI (f_M_dutyMany h), zR (some 177)] h = gd (false = zctor 212 ∧ zcs [] ≤ 8 ∧ zrm 241 (zrf 212 + 1) (8 + (zmaxl 212 + 11) + zrl 212) = true ∧ zcs [zR (some 177), zI (f_M_dutyMany h)] ≤ zmaxl 212) (gd (zob h (some 177) 12) (zBack zY 241 103 106 [some (zR (some 177)), some (zI x1)] [] (zC 212 [zR (some 177), zI (f_M_dutyMany h)] h))) from zGo 1 241 103 _ _ _).trans ?_
              refine (gd_t (⟨rfl, Nat.le_of_ble_eq_true rfl, rfl, Nat.le_of_ble_eq_true rfl⟩) _).trans ?_
              refine (gd_t (⟨rfl, (PTM KM 177 _ rfl rfl), (PNM KM 177 rfl)⟩) _).trans ?_
              refine (congrArg (zBack zY 241 103 106 [some (zR (some 177)), some (zI x1)] []) (q_M_told KM)).trans ?_
              refine (show zY 241 106 [some (zR (some 177)), some (zI x1)] [zI (f_M_dutyMany h)] (sI h 177 1 0) = gd (([] : List zV).isEmpty = true ∧ (zrk 241 = 1 ∨ zrk 241 = 6 ∧ (((f_M_dutyMany h) : Int) = 0 ∨ ((f_M_dutyMany h) : Int) = 1))) (some (.inl (some (zI (f_M_dutyMany h))), (sI h 177 1 0))) from zGo 1 241 106 _ _ _).trans ?_
              refine (gd_t (⟨rfl, Or.inl rfl⟩) _).trans ?_
              rfl
            · skip
              refine iteC (fun c6 => ?_) (fun c6 => ?_)
              · skip
                refine (show zY 241 107 [some (zR (some 177)), some (zI x1)] [] h = gd (false = zctor 245 ∧ zcs [zR (some 177)] ≤ 8 ∧ zrm 241 (zrf 245 + 1) (8 + (zmaxl 245 + 11) + zrl 245) = true ∧ zcs [zR (some 177)] ≤ zmaxl 245) (gd (zob h (some 177) 12) (zBack zY 241 109 112 [some (zR (some 177)), some (zI x1)] [zR (some 177)] (zC 245 [zR (some 177)] h))) from zGo 3 241 107 _ _ _).trans ?_
                refine (gd_t (⟨rfl, Nat.le_of_ble_eq_true rfl, rfl, Nat.le_of_ble_eq_true rfl⟩) _).trans ?_
                refine (gd_t (⟨rfl, (PTM KM 177 _ rfl rfl), (PNM KM 177 rfl)⟩) _).trans ?_
                rfl
              · skip
                refine iteC (fun c7 => ?_) (fun c7 => ?_)
                · skip
                  refine (show zY 241 116 [some (zR (some 177)), some (zI x1)] [] h = gd (false = zctor 275 ∧ zcs [zR (some 177)] ≤ 8 ∧ zrm 241 (zrf 275 + 1) (8 + (zmaxl 275 + 11) + zrl 275) = true ∧ zcs [zR (some 177)] ≤ zmaxl 275) (gd (zob h (some 177) 12) (zBack zY 241 118 121 [some (zR (some 177)), some (zI x1)] [zR (some 177)] (zC 275 [zR (some 177)] h))) from zGo 3 241 116 _ _ _).trans ?_
                  refine (gd_t (⟨rfl, Nat.le_of_ble_eq_true rfl, rfl, Nat.le_of_ble_eq_true rfl⟩) _).trans ?_
                  refine (gd_t (⟨rfl, (PTM KM 177 _ rfl rfl), (PNM KM 177 rfl)⟩) _).trans ?_
                  rfl
                · skip
                  refine (show zY 241 133 [some (zR (some 177)), some (zI x1)] [] h = gd (zob h (some 177) 12) (gd (false = zctor 212 ∧ zcs [] ≤ 8 ∧ zrm 241 (zrf 212 + 1) (8 + (zmaxl 212 + 11) + zrl 212) = true ∧ zcs [zR (some 177), zI (hI h 177 5)] ≤ zmaxl 212) (gd (zob h (some 177) 12) (zBack zY 241 138 141 [some (zR (some 177)), some (zI x1)] [] (zC 212 [zR (some 177), zI (hI h 177 5)] h)))) from zGo 4 241 133 _ _ _).trans ?_
                  refine (gd_t (⟨rfl, (PTM KM 177 _ rfl rfl), (PNM KM 177 rfl)⟩) _).trans ?_
                  refine (gd_t (⟨rfl, Nat.le_of_ble_eq_true rfl, rfl, Nat.le_of_ble_eq_true rfl⟩) _).trans ?_
                  refine (gd_t (⟨rfl, (PTM KM 177 _ rfl rfl), (PNM KM 177 rfl)⟩) _).trans ?_
                  refine (congrArg (zBack zY 241 138 141 [some (zR (some 177)), some (zI x1)] []) (q_M_told KM)).trans ?_
                  refine (show zY 241 141 [some (zR (some 177)), some (zI x1)] [zI (hI h 177 5)] (sI h 177 1 0) = gd (([] : List zV).isEmpty = true ∧ (zrk 241 = 1 ∨ zrk 241 = 6 ∧ (((hI h 177 5) : Int) = 0 ∨ ((hI h 177 5) : Int) = 1))) (some (.inl (some (zI (hI h 177 5))), (sI h 177 1 0))) from zGo 1 241 141 _ _ _).trans ?_
                  refine (gd_t (⟨rfl, Or.inl rfl⟩) _).trans ?_
                  rfl
  · skip
    refine (show zY 241 10 [some (zR (some 177)), some (zI x1)] [] h = gd (inR (1)) (gd (false = zctor 210 ∧ zcs [] ≤ 8 ∧ zrm 241 (zrf 210 + 1) (8 + (zmaxl 210 + 11) + zrl 210) = true ∧ zcs [zR (some 177), zI 1] ≤ zmaxl 210) (gd (zob h (some 177) 12) (zBack zY 241 12 15 [some (zR (some 177)), some (zI x1)] [] (zC 210 [zR (some 177), zI 1] h)))) from zGo 3 241 10 _ _ _).trans ?_
    refine (gd_t (by decide) _).trans ?_
    refine (gd_t (⟨rfl, Nat.le_of_ble_eq_true rfl, rfl, Nat.le_of_ble_eq_true rfl⟩) _).trans ?_
    refine (gd_t (⟨rfl, (PTM KM 177 _ rfl rfl), (PNM KM 177 rfl)⟩) _).trans ?_
    refine (congrArg (zBack zY 241 12 15 [some (zR (some 177)), some (zI x1)] []) (q_M_refuse KM)).trans ?_
    refine (show zY 241 15 [some (zR (some 177)), some (zI x1)] [zI 0] (sI h 177 1 1) = gd (([] : List zV).isEmpty = true ∧ (zrk 241 = 1 ∨ zrk 241 = 6 ∧ ((0 : Int) = 0 ∨ (0 : Int) = 1))) (some (.inl (some (zI 0)), (sI h 177 1 1))) from zGo 1 241 15 _ _ _).trans ?_
    refine (gd_t (⟨rfl, Or.inl rfl⟩) _).trans ?_
    rfl
theorem q_M_value_r112 {h : zH} {x1 : Int} {y : Int} (KM : KM h) : zBack zY 241 109 112 [some (zR (some 177)), some (zI x1)] [zR (some 177)] (some (.inl (some (zI y)), h)) =
    some (.inl (some (zI y)), (sI h 177 1 0)) := by
  refine (show zBack zY 241 109 112 [some (zR (some 177)), some (zI x1)] [zR (some 177)] (some (.inl (some (zI y)), h)) = gd (false = zctor 212 ∧ zcs [] ≤ 8 ∧ zrm 241 (zrf 212 + 1) (8 + (zmaxl 212 + 11) + zrl 212) = true ∧ zcs [zR (some 177), zI y] ≤ zmaxl 212) (gd (zob h (some 177) 12) (zBack zY 241 112 115 [some (zR (some 177)), some (zI x1)] [] (zC 212 [zR (some 177), zI y] h))) from zGo 1 241 112 _ _ _).trans ?_
  refine (gd_t (⟨rfl, Nat.le_of_ble_eq_true rfl, rfl, Nat.le_of_ble_eq_true rfl⟩) _).trans ?_
  refine (gd_t (⟨rfl, (PTM KM 177 _ rfl rfl), (PNM KM 177 rfl)⟩) _).trans ?_
  refine (congrArg (zBack zY 241 112 115 [some (zR (some 177)), some (zI x1)] []) (q_M_told KM)).trans ?_
  refine (show zY 241 115 [some (zR (some 177)), some (zI x1)] [zI y] (sI h 177 1 0) = gd (([] : List zV).isEmpty = true ∧ (zrk 241 = 1 ∨ zrk 241 = 6 ∧ ((y : Int) = 0 ∨ (y : Int) = 1))) (some (.inl (some (zI y)), (sI h 177 1 0))) from zGo 1 241 115 _ _ _).trans ?_
  refine (gd_t (⟨rfl, Or.inl rfl⟩) _).trans ?_
  rfl
theorem q_M_value_r121 {h : zH} {x1 : Int} {y : Int} (KM : KM h) : zBack zY 241 118 121 [some (zR (some 177)), some (zI x1)] [zR (some 177)] (some (.inl (some (zI y)), h)) =
    if y = 0 then
      some (.inl (some (zI 0)), (sI h 177 1 0))
    else
      some (.inl (some (zI 1)), (sI h 177 1 0)) := by
  refine (show zBack zY 241 118 121 [some (zR (some 177)), some (zI x1)] [zR (some 177)] (some (.inl (some (zI y)), h)) = if y = 0 then zY 241 128 [some (zR (some 177)), some (zI x1)] [zR (some 177)] h else zY 241 124 [some (zR (some 177)), some (zI x1)] [zR (some 177)] h from zGo 1 241 121 _ _ _).trans ?_
  refine iteC (fun c0 => ?_) (fun c0 => ?_)
  · skip
    refine (show zY 241 128 [some (zR (some 177)), some (zI x1)] [zR (some 177)] h = gd (inR (0)) (gd (false = zctor 212 ∧ zcs [] ≤ 8 ∧ zrm 241 (zrf 212 + 1) (8 + (zmaxl 212 + 11) + zrl 212) = true ∧ zcs [zR (some 177), zI 0] ≤ zmaxl 212) (gd (zob h (some 177) 12) (zBack zY 241 129 132 [some (zR (some 177)), some (zI x1)] [] (zC 212 [zR (some 177), zI 0] h)))) from zGo 2 241 128 _ _ _).trans ?_
    refine (gd_t (by decide) _).trans ?_
    refine (gd_t (⟨rfl, Nat.le_of_ble_eq_true rfl, rfl, Nat.le_of_ble_eq_true rfl⟩) _).trans ?_
    refine (gd_t (⟨rfl, (PTM KM 177 _ rfl rfl), (PNM KM 177 rfl)⟩) _).trans ?_
    refine (congrArg (zBack zY 241 129 132 [some (zR (some 177)), some (zI x1)] []) (q_M_told KM)).trans ?_
    refine (show zY 241 132 [some (zR (some 177)), some (zI x1)] [zI 0] (sI h 177 1 0) = gd (([] : List zV).isEmpty = true ∧ (zrk 241 = 1 ∨ zrk 241 = 6 ∧ ((0 : Int) = 0 ∨ (0 : Int) = 1))) (some (.inl (some (zI 0)), (sI h 177 1 0))) from zGo 1 241 132 _ _ _).trans ?_
    refine (gd_t (⟨rfl, Or.inl rfl⟩) _).trans ?_
    rfl
  · skip
    refine (show zY 241 124 [some (zR (some 177)), some (zI x1)] [zR (some 177)] h = gd (inR (1)) (gd (false = zctor 212 ∧ zcs [] ≤ 8 ∧ zrm 241 (zrf 212 + 1) (8 + (zmaxl 212 + 11) + zrl 212) = true ∧ zcs [zR (some 177), zI 1] ≤ zmaxl 212) (gd (zob h (some 177) 12) (zBack zY 241 129 132 [some (zR (some 177)), some (zI x1)] [] (zC 212 [zR (some 177), zI 1] h)))) from zGo 3 241 124 _ _ _).trans ?_
    refine (gd_t (by decide) _).trans ?_
    refine (gd_t (⟨rfl, Nat.le_of_ble_eq_true rfl, rfl, Nat.le_of_ble_eq_true rfl⟩) _).trans ?_
    refine (gd_t (⟨rfl, (PTM KM 177 _ rfl rfl), (PNM KM 177 rfl)⟩) _).trans ?_
    refine (congrArg (zBack zY 241 129 132 [some (zR (some 177)), some (zI x1)] []) (q_M_told KM)).trans ?_
    refine (show zY 241 132 [some (zR (some 177)), some (zI x1)] [zI 1] (sI h 177 1 0) = gd (([] : List zV).isEmpty = true ∧ (zrk 241 = 1 ∨ zrk 241 = 6 ∧ ((1 : Int) = 0 ∨ (1 : Int) = 1))) (some (.inl (some (zI 1)), (sI h 177 1 0))) from zGo 1 241 132 _ _ _).trans ?_
    refine (gd_t (⟨rfl, Or.inl rfl⟩) _).trans ?_
    rfl
theorem q_M_statement {h : zH} {x1 : Int} {x2 : Int} (KM : KM h) (g0 : (-2147483648 ≤ (hI h 177 10) - 1 ∧ (hI h 177 10) - 1 < 2147483648) := by omega) (g1 : (b_M_isStatement h x1) → (x2 = 0) → (0 ≤ x1 ∧ x1 < 24) := by omega) (g2 : (b_M_isStatement h x1) → (x2 = 0) → (0 ≤ x2 ∧ x2 < 10) := by omega) (g3 : (b_M_isStatement h x1) → (¬ (x2 = 0)) → (x2 = 1) → (0 ≤ x1 ∧ x1 < 24) := by omega) (g4 : (b_M_isStatement h x1) → (¬ (x2 = 0)) → (x2 = 1) → (((f_M_s h x1 0) = 3) → (¬ ((f_M_filling h x1) = (-1))) → (0 ≤ (f_M_filling h x1))) := by omega) (g5 : (b_M_isStatement h x1) → (¬ (x2 = 0)) → (¬ (x2 = 1)) → (x2 = 2) → (0 ≤ x1 ∧ x1 < 24) := by omega) (g6 : (b_M_isStatement h x1) → (¬ (x2 = 0)) → (¬ (x2 = 1)) → (x2 = 2) → (0 ≤ x2 ∧ x2 < 10) := by omega) (g7 : (b_M_isStatement h x1) → (¬ (x2 = 0)) → (¬ (x2 = 1)) → (¬ (x2 = 2)) → (x2 = 3) → (0 ≤ x1 ∧ x1 < 24) := by omega) (g8 : (b_M_isStatement h x1) → (¬ (x2 = 0)) → (¬ (x2 = 1)) → (¬ (x2 = 2)) → (¬ (x2 = 3)) → (x2 = 4) → (0 ≤ x1 ∧ x1 < 24) := by omega) (g9 : (b_M_isStatement h x1) → (¬ (x2 = 0)) → (¬ (x2 = 1)) → (¬ (x2 = 2)) → (¬ (x2 = 3)) → (¬ (x2 = 4)) → (¬ (x2 = 5)) → (x2 = 6) → (0 ≤ x1 ∧ x1 < 24) := by omega) (g10 : (b_M_isStatement h x1) → (¬ (x2 = 0)) → (¬ (x2 = 1)) → (¬ (x2 = 2)) → (¬ (x2 = 3)) → (¬ (x2 = 4)) → (¬ (x2 = 5)) → (x2 = 6) → ((¬ ((f_M_s h x1 0) = 3)) → ((f_M_s h x1 0) = 2) → (-2147483648 ≤ 26 + x1 ∧ 26 + x1 < 2147483648)) := by omega) (g11 : (b_M_isStatement h x1) → (¬ (x2 = 0)) → (¬ (x2 = 1)) → (¬ (x2 = 2)) → (¬ (x2 = 3)) → (¬ (x2 = 4)) → (¬ (x2 = 5)) → (x2 = 6) → ((¬ ((f_M_s h x1 0) = 3)) → ((f_M_s h x1 0) = 2) → (-2147483648 ≤ 31 * (26 + x1) ∧ 31 * (26 + x1) < 2147483648)) := by omega) (g12 : (b_M_isStatement h x1) → (¬ (x2 = 0)) → (¬ (x2 = 1)) → (¬ (x2 = 2)) → (¬ (x2 = 3)) → (¬ (x2 = 4)) → (¬ (x2 = 5)) → (x2 = 6) → ((¬ ((f_M_s h x1 0) = 3)) → ((f_M_s h x1 0) = 2) → (0 ≤ (31 * (26 + x1)) ∧ (31 * (26 + x1)) < 2342)) := by omega) (g13 : (b_M_isStatement h x1) → (¬ (x2 = 0)) → (¬ (x2 = 1)) → (¬ (x2 = 2)) → (¬ (x2 = 3)) → (¬ (x2 = 4)) → (¬ (x2 = 5)) → (x2 = 6) → ((¬ ((f_M_s h x1 0) = 3)) → ((f_M_s h x1 0) = 2) → (-2147483648 ≤ 50 + x1 ∧ 50 + x1 < 2147483648)) := by omega) (g14 : (b_M_isStatement h x1) → (¬ (x2 = 0)) → (¬ (x2 = 1)) → (¬ (x2 = 2)) → (¬ (x2 = 3)) → (¬ (x2 = 4)) → (¬ (x2 = 5)) → (x2 = 6) → ((¬ ((f_M_s h x1 0) = 3)) → ((f_M_s h x1 0) = 2) → (-2147483648 ≤ 31 * (50 + x1) ∧ 31 * (50 + x1) < 2147483648)) := by omega) (g15 : (b_M_isStatement h x1) → (¬ (x2 = 0)) → (¬ (x2 = 1)) → (¬ (x2 = 2)) → (¬ (x2 = 3)) → (¬ (x2 = 4)) → (¬ (x2 = 5)) → (x2 = 6) → ((¬ ((f_M_s h x1 0) = 3)) → ((f_M_s h x1 0) = 2) → (0 ≤ (31 * (50 + x1)) ∧ (31 * (50 + x1)) < 2342)) := by omega) (g16 : (b_M_isStatement h x1) → (¬ (x2 = 0)) → (¬ (x2 = 1)) → (¬ (x2 = 2)) → (¬ (x2 = 3)) → (¬ (x2 = 4)) → (¬ (x2 = 5)) → (x2 = 6) → ((¬ ((f_M_s h x1 0) = 3)) → ((f_M_s h x1 0) = 2) → (-2147483648 ≤ (hI h 179 (31 * (26 + x1)).toNat) + (hI h 179 (31 * (50 + x1)).toNat) ∧ (hI h 179 (31 * (26 + x1)).toNat) + (hI h 179 (31 * (50 + x1)).toNat) < 2147483648)) := by omega) (g17 : (b_M_isStatement h x1) → (¬ (x2 = 0)) → (¬ (x2 = 1)) → (¬ (x2 = 2)) → (¬ (x2 = 3)) → (¬ (x2 = 4)) → (¬ (x2 = 5)) → (x2 = 6) → ((¬ ((f_M_s h x1 0) = 3)) → ((f_M_s h x1 0) = 2) → (-2147483648 ≤ 2 + x1 ∧ 2 + x1 < 2147483648)) := by omega) (g18 : (b_M_isStatement h x1) → (¬ (x2 = 0)) → (¬ (x2 = 1)) → (¬ (x2 = 2)) → (¬ (x2 = 3)) → (¬ (x2 = 4)) → (¬ (x2 = 5)) → (x2 = 6) → ((¬ ((f_M_s h x1 0) = 3)) → ((f_M_s h x1 0) = 2) → (-2147483648 ≤ 31 * (2 + x1) ∧ 31 * (2 + x1) < 2147483648)) := by omega) (g19 : (b_M_isStatement h x1) → (¬ (x2 = 0)) → (¬ (x2 = 1)) → (¬ (x2 = 2)) → (¬ (x2 = 3)) → (¬ (x2 = 4)) → (¬ (x2 = 5)) → (x2 = 6) → ((¬ ((f_M_s h x1 0) = 3)) → ((f_M_s h x1 0) = 2) → (0 ≤ (31 * (2 + x1)) ∧ (31 * (2 + x1)) < 2342)) := by omega) (g20 : (b_M_isStatement h x1) → (¬ (x2 = 0)) → (¬ (x2 = 1)) → (¬ (x2 = 2)) → (¬ (x2 = 3)) → (¬ (x2 = 4)) → (¬ (x2 = 5)) → (x2 = 6) → ((¬ ((f_M_s h x1 0) = 3)) → ((f_M_s h x1 0) = 2) → (-2147483648 ≤ (hI h 179 (31 * (2 + x1)).toNat) + ((hI h 179 (31 * (26 + x1)).toNat) + (hI h 179 (31 * (50 + x1)).toNat)) ∧ (hI h 179 (31 * (2 + x1)).toNat) + ((hI h 179 (31 * (26 + x1)).toNat) + (hI h 179 (31 * (50 + x1)).toNat)) < 2147483648)) := by omega) (g21 : (b_M_isStatement h x1) → (¬ (x2 = 0)) → (¬ (x2 = 1)) → (¬ (x2 = 2)) → (¬ (x2 = 3)) → (¬ (x2 = 4)) → (¬ (x2 = 5)) → (x2 = 6) → ((¬ ((f_M_s h x1 0) = 3)) → (¬ ((f_M_s h x1 0) = 2)) → (-2147483648 ≤ 2 + x1 ∧ 2 + x1 < 2147483648)) := by omega) (g22 : (b_M_isStatement h x1) → (¬ (x2 = 0)) → (¬ (x2 = 1)) → (¬ (x2 = 2)) → (¬ (x2 = 3)) → (¬ (x2 = 4)) → (¬ (x2 = 5)) → (x2 = 6) → ((¬ ((f_M_s h x1 0) = 3)) → (¬ ((f_M_s h x1 0) = 2)) → (-2147483648 ≤ 31 * (2 + x1) ∧ 31 * (2 + x1) < 2147483648)) := by omega) (g23 : (b_M_isStatement h x1) → (¬ (x2 = 0)) → (¬ (x2 = 1)) → (¬ (x2 = 2)) → (¬ (x2 = 3)) → (¬ (x2 = 4)) → (¬ (x2 = 5)) → (x2 = 6) → ((¬ ((f_M_s h x1 0) = 3)) → (¬ ((f_M_s h x1 0) = 2)) → (0 ≤ (31 * (2 + x1)) ∧ (31 * (2 + x1)) < 2342)) := by omega) (g24 : (b_M_isStatement h x1) → (¬ (x2 = 0)) → (¬ (x2 = 1)) → (¬ (x2 = 2)) → (¬ (x2 = 3)) → (¬ (x2 = 4)) → (¬ (x2 = 5)) → (x2 = 6) → ((¬ ((f_M_s h x1 0) = 3)) → (¬ ((f_M_s h x1 0) = 2)) → (-2147483648 ≤ (hI h 179 (31 * (2 + x1)).toNat) + 0 ∧ (hI h 179 (31 * (2 + x1)).toNat) + 0 < 2147483648)) := by omega) (g25 : (b_M_isStatement h x1) → (¬ (x2 = 0)) → (¬ (x2 = 1)) → (¬ (x2 = 2)) → (¬ (x2 = 3)) → (¬ (x2 = 4)) → (¬ (x2 = 5)) → (¬ (x2 = 6)) → (x2 = 7) → (0 ≤ x1 ∧ x1 < 24) := by omega) : zC 276 [zR (some 177), zI x1, zI x2] h =
    if b_M_isStatement h x1 then
      if x2 = 0 then
        some (.inl (some (zI (f_M_s h x1 x2))), (sI h 177 1 0))
      else
        if x2 = 1 then
          some (.inl (some (zI (f_M_variableOf h x1))), (sI h 177 1 0))
        else
          if x2 = 2 then
            some (.inl (some (zI (f_M_s h x1 x2))), (sI h 177 1 0))
          else
            if x2 = 3 then
              some (.inl (some (zI (f_M_s h x1 8))), (sI h 177 1 0))
            else
              if x2 = 4 then
                some (.inl (some (zI (f_M_s h x1 9))), (sI h 177 1 0))
              else
                if x2 = 5 then
                  gd (-2147483648 ≤ 2318 + x1 ∧ 2318 + x1 < 2147483648) (
                  gd (0 ≤ (2318 + x1) ∧ (2318 + x1) < 2342) (
                  some (.inl (some (zI (hI h 179 (2318 + x1).toNat))), (sI h 177 1 0))))
                else
                  if x2 = 6 then
                    some (.inl (some (zI (f_M_nodesOf h x1))), (sI h 177 1 0))
                  else
                    if x2 = 7 then
                      some (.inl (some (zI (f_M_s h x1 7))), (sI h 177 1 0))
                    else
                      some (.inl (some (zI 0)), (sI h 177 1 2))
    else
      some (.inl (some (zI 0)), (sI h 177 1 1)) := by
  refine (show zC 276 [zR (some 177), zI x1, zI x2] h = gd (false = zctor 277 ∧ zcs [] ≤ 8 ∧ zrm 276 (zrf 277 + 1) (8 + (zmaxl 277 + 11) + zrl 277) = true ∧ zcs [zR (some 177), zI x1] ≤ zmaxl 277) (gd (zob h (some 177) 12) (zBack zY 276 2 5 [some (zR (some 177)), some (zI x1), some (zI x2)] [] (zC 277 [zR (some 177), zI x1] h))) from zGo 3 276 0 _ _ _).trans ?_
  refine (gd_t (⟨rfl, Nat.le_of_ble_eq_true rfl, rfl, Nat.le_of_ble_eq_true rfl⟩) _).trans ?_
  refine (gd_t (⟨rfl, (PTM KM 177 _ rfl rfl), (PNM KM 177 rfl)⟩) _).trans ?_
  refine (congrArg (zBack zY 276 2 5 [some (zR (some 177)), some (zI x1), some (zI x2)] []) (e_M_isStatement KM (g0))).trans ?_
  refine (show zY 276 5 [some (zR (some 177)), some (zI x1), some (zI x2)] [zI (if b_M_isStatement h x1 then (1 : Int) else 0)] h = if (if b_M_isStatement h x1 then (1 : Int) else 0) = 0 then zY 276 8 [some (zR (some 177)), some (zI x1), some (zI x2)] [] h else zY 276 14 [some (zR (some 177)), some (zI x1), some (zI x2)] [] h from zGo 1 276 5 _ _ _).trans ?_
  refine iteB (fun c0 => ?_) (fun c0 => ?_)
  · skip
    refine (show zY 276 14 [some (zR (some 177)), some (zI x1), some (zI x2)] [] h = if x2 = 0 then zY 276 60 [some (zR (some 177)), some (zI x1), some (zI x2)] [] h else if x2 = 1 then zY 276 71 [some (zR (some 177)), some (zI x1), some (zI x2)] [] h else if x2 = 2 then zY 276 60 [some (zR (some 177)), some (zI x1), some (zI x2)] [] h else if x2 = 3 then zY 276 81 [some (zR (some 177)), some (zI x1), some (zI x2)] [] h else if x2 = 4 then zY 276 93 [some (zR (some 177)), some (zI x1), some (zI x2)] [] h else if x2 = 5 then zY 276 105 [some (zR (some 177)), some (zI x1), some (zI x2)] [] h else if x2 = 6 then zY 276 120 [some (zR (some 177)), some (zI x1), some (zI x2)] [] h else if x2 = 7 then zY 276 130 [some (zR (some 177)), some (zI x1), some (zI x2)] [] h else zY 276 142 [some (zR (some 177)), some (zI x1), some (zI x2)] [] h from zGo 2 276 14 _ _ _).trans ?_
    refine iteC (fun c1 => ?_) (fun c1 => ?_)
    · skip
      refine (show zY 276 60 [some (zR (some 177)), some (zI x1), some (zI x2)] [] h = gd (false = zctor 207 ∧ zcs [zR (some 177)] ≤ 8 ∧ zrm 276 (zrf 207 + 1) (8 + (zmaxl 207 + 11) + zrl 207) = true ∧ zcs [zR (some 177), zI x1, zI x2] ≤ zmaxl 207) (gd (zob h (some 177) 12) (zBack zY 276 64 67 [some (zR (some 177)), some (zI x1), some (zI x2)] [zR (some 177)] (zC 207 [zR (some 177), zI x1, zI x2] h))) from zGo 5 276 60 _ _ _).trans ?_
      refine (gd_t (⟨rfl, Nat.le_of_ble_eq_true rfl, rfl, Nat.le_of_ble_eq_true rfl⟩) _).trans ?_
      refine (gd_t (⟨rfl, (PTM KM 177 _ rfl rfl), (PNM KM 177 rfl)⟩) _).trans ?_
      refine (congrArg (zBack zY 276 64 67 [some (zR (some 177)), some (zI x1), some (zI x2)] [zR (some 177)]) (e_M_sx KM (g1 c0 c1) (g2 c0 c1))).trans ?_
      refine (show zY 276 67 [some (zR (some 177)), some (zI x1), some (zI x2)] [zI (f_M_s h x1 x2), zR (some 177)] h = gd (false = zctor 212 ∧ zcs [] ≤ 8 ∧ zrm 276 (zrf 212 + 1) (8 + (zmaxl 212 + 11) + zrl 212) = true ∧ zcs [zR (some 177), zI (f_M_s h x1 x2)] ≤ zmaxl 212) (gd (zob h (some 177) 12) (zBack zY 276 67 70 [some (zR (some 177)), some (zI x1), some (zI x2)] [] (zC 212 [zR (some 177), zI (f_M_s h x1 x2)] h))) from zGo 1 276 67 _ _ _).trans ?_
      refine (gd_t (⟨rfl, Nat.le_of_ble_eq_true rfl, rfl, Nat.le_of_ble_eq_true rfl⟩) _).trans ?_
      refine (gd_t (⟨rfl, (PTM KM 177 _ rfl rfl), (PNM KM 177 rfl)⟩) _).trans ?_
      refine (congrArg (zBack zY 276 67 70 [some (zR (some 177)), some (zI x1), some (zI x2)] []) (q_M_told KM)).trans ?_
      refine (show zY 276 70 [some (zR (some 177)), some (zI x1), some (zI x2)] [zI (f_M_s h x1 x2)] (sI h 177 1 0) = gd (([] : List zV).isEmpty = true ∧ (zrk 276 = 1 ∨ zrk 276 = 6 ∧ (((f_M_s h x1 x2) : Int) = 0 ∨ ((f_M_s h x1 x2) : Int) = 1))) (some (.inl (some (zI (f_M_s h x1 x2))), (sI h 177 1 0))) from zGo 1 276 70 _ _ _).trans ?_
      refine (gd_t (⟨rfl, Or.inl rfl⟩) _).trans ?_
      rfl
    · skip
      refine iteC (fun c2 => ?_) (fun c2 => ?_)
      · skip
        refine (show zY 276 71 [some (zR (some 177)), some (zI x1), some (zI x2)] [] h = gd (false = zctor 278 ∧ zcs [zR (some 177)] ≤ 8 ∧ zrm 276 (zrf 278 + 1) (8 + (zmaxl 278 + 11) + zrl 278) = true ∧ zcs [zR (some 177), zI x1] ≤ zmaxl 278) (gd (zob h (some 177) 12) (zBack zY 276 74 77 [some (zR (some 177)), some (zI x1), some (zI x2)] [zR (some 177)] (zC 278 [zR (some 177), zI x1] h))) from zGo 4 276 71 _ _ _).trans ?_
        refine (gd_t (⟨rfl, Nat.le_of_ble_eq_true rfl, rfl, Nat.le_of_ble_eq_true rfl⟩) _).trans ?_
        refine (gd_t (⟨rfl, (PTM KM 177 _ rfl rfl), (PNM KM 177 rfl)⟩) _).trans ?_
        refine (congrArg (zBack zY 276 74 77 [some (zR (some 177)), some (zI x1), some (zI x2)] [zR (some 177)]) (e_M_variableOf KM (g3 c0 c1 c2) (g4 c0 c1 c2))).trans ?_
        refine (show zY 276 77 [some (zR (some 177)), some (zI x1), some (zI x2)] [zI (f_M_variableOf h x1), zR (some 177)] h = gd (false = zctor 212 ∧ zcs [] ≤ 8 ∧ zrm 276 (zrf 212 + 1) (8 + (zmaxl 212 + 11) + zrl 212) = true ∧ zcs [zR (some 177), zI (f_M_variableOf h x1)] ≤ zmaxl 212) (gd (zob h (some 177) 12) (zBack zY 276 77 80 [some (zR (some 177)), some (zI x1), some (zI x2)] [] (zC 212 [zR (some 177), zI (f_M_variableOf h x1)] h))) from zGo 1 276 77 _ _ _).trans ?_
        refine (gd_t (⟨rfl, Nat.le_of_ble_eq_true rfl, rfl, Nat.le_of_ble_eq_true rfl⟩) _).trans ?_
        refine (gd_t (⟨rfl, (PTM KM 177 _ rfl rfl), (PNM KM 177 rfl)⟩) _).trans ?_
        refine (congrArg (zBack zY 276 77 80 [some (zR (some 177)), some (zI x1), some (zI x2)] []) (q_M_told KM)).trans ?_
        refine (show zY 276 80 [some (zR (some 177)), some (zI x1), some (zI x2)] [zI (f_M_variableOf h x1)] (sI h 177 1 0) = gd (([] : List zV).isEmpty = true ∧ (zrk 276 = 1 ∨ zrk 276 = 6 ∧ (((f_M_variableOf h x1) : Int) = 0 ∨ ((f_M_variableOf h x1) : Int) = 1))) (some (.inl (some (zI (f_M_variableOf h x1))), (sI h 177 1 0))) from zGo 1 276 80 _ _ _).trans ?_
        refine (gd_t (⟨rfl, Or.inl rfl⟩) _).trans ?_
        rfl
      · skip
        refine iteC (fun c3 => ?_) (fun c3 => ?_)
        · skip
          refine (show zY 276 60 [some (zR (some 177)), some (zI x1), some (zI x2)] [] h = gd (false = zctor 207 ∧ zcs [zR (some 177)] ≤ 8 ∧ zrm 276 (zrf 207 + 1) (8 + (zmaxl 207 + 11) + zrl 207) = true ∧ zcs [zR (some 177), zI x1, zI x2] ≤ zmaxl 207) (gd (zob h (some 177) 12) (zBack zY 276 64 67 [some (zR (some 177)), some (zI x1), some (zI x2)] [zR (some 177)] (zC 207 [zR (some 177), zI x1, zI x2] h))) from zGo 5 276 60 _ _ _).trans ?_
          refine (gd_t (⟨rfl, Nat.le_of_ble_eq_true rfl, rfl, Nat.le_of_ble_eq_true rfl⟩) _).trans ?_
          refine (gd_t (⟨rfl, (PTM KM 177 _ rfl rfl), (PNM KM 177 rfl)⟩) _).trans ?_
          refine (congrArg (zBack zY 276 64 67 [some (zR (some 177)), some (zI x1), some (zI x2)] [zR (some 177)]) (e_M_sx KM (g5 c0 c1 c2 c3) (g6 c0 c1 c2 c3))).trans ?_
          refine (show zY 276 67 [some (zR (some 177)), some (zI x1), some (zI x2)] [zI (f_M_s h x1 x2), zR (some 177)] h = gd (false = zctor 212 ∧ zcs [] ≤ 8 ∧ zrm 276 (zrf 212 + 1) (8 + (zmaxl 212 + 11) + zrl 212) = true ∧ zcs [zR (some 177), zI (f_M_s h x1 x2)] ≤ zmaxl 212) (gd (zob h (some 177) 12) (zBack zY 276 67 70 [some (zR (some 177)), some (zI x1), some (zI x2)] [] (zC 212 [zR (some 177), zI (f_M_s h x1 x2)] h))) from zGo 1 276 67 _ _ _).trans ?_
          refine (gd_t (⟨rfl, Nat.le_of_ble_eq_true rfl, rfl, Nat.le_of_ble_eq_true rfl⟩) _).trans ?_
          refine (gd_t (⟨rfl, (PTM KM 177 _ rfl rfl), (PNM KM 177 rfl)⟩) _).trans ?_
          refine (congrArg (zBack zY 276 67 70 [some (zR (some 177)), some (zI x1), some (zI x2)] []) (q_M_told KM)).trans ?_
          refine (show zY 276 70 [some (zR (some 177)), some (zI x1), some (zI x2)] [zI (f_M_s h x1 x2)] (sI h 177 1 0) = gd (([] : List zV).isEmpty = true ∧ (zrk 276 = 1 ∨ zrk 276 = 6 ∧ (((f_M_s h x1 x2) : Int) = 0 ∨ ((f_M_s h x1 x2) : Int) = 1))) (some (.inl (some (zI (f_M_s h x1 x2))), (sI h 177 1 0))) from zGo 1 276 70 _ _ _).trans ?_
          refine (gd_t (⟨rfl, Or.inl rfl⟩) _).trans ?_
          rfl
        · skip
          refine iteC (fun c4 => ?_) (fun c4 => ?_)
          · skip
            refine (show zY 276 81 [some (zR (some 177)), some (zI x1), some (zI x2)] [] h = gd (-128 ≤ (8 : Int) ∧ (8 : Int) < 128) (gd (false = zctor 207 ∧ zcs [zR (some 177)] ≤ 8 ∧ zrm 276 (zrf 207 + 1) (8 + (zmaxl 207 + 11) + zrl 207) = true ∧ zcs [zR (some 177), zI x1, zI 8] ≤ zmaxl 207) (gd (zob h (some 177) 12) (zBack zY 276 86 89 [some (zR (some 177)), some (zI x1), some (zI x2)] [zR (some 177)] (zC 207 [zR (some 177), zI x1, zI 8] h)))) from zGo 5 276 81 _ _ _).trans ?_
            refine (gd_t (by decide) _).trans ?_
            refine (gd_t (⟨rfl, Nat.le_of_ble_eq_true rfl, rfl, Nat.le_of_ble_eq_true rfl⟩) _).trans ?_
            refine (gd_t (⟨rfl, (PTM KM 177 _ rfl rfl), (PNM KM 177 rfl)⟩) _).trans ?_
            refine (congrArg (zBack zY 276 86 89 [some (zR (some 177)), some (zI x1), some (zI x2)] [zR (some 177)]) (e_M_sx KM (g7 c0 c1 c2 c3 c4) (by (try simp only [b_M_isStatement] at *); omega))).trans ?_
            refine (show zY 276 89 [some (zR (some 177)), some (zI x1), some (zI x2)] [zI (f_M_s h x1 8), zR (some 177)] h = gd (false = zctor 212 ∧ zcs [] ≤ 8 ∧ zrm 276 (zrf 212 + 1) (8 + (zmaxl 212 + 11) + zrl 212) = true ∧ zcs [zR (some 177), zI (f_M_s h x1 8)] ≤ zmaxl 212) (gd (zob h (some 177) 12) (zBack zY 276 89 92 [some (zR (some 177)), some (zI x1), some (zI x2)] [] (zC 212 [zR (some 177), zI (f_M_s h x1 8)] h))) from zGo 1 276 89 _ _ _).trans ?_
            refine (gd_t (⟨rfl, Nat.le_of_ble_eq_true rfl, rfl, Nat.le_of_ble_eq_true rfl⟩) _).trans ?_
            refine (gd_t (⟨rfl, (PTM KM 177 _ rfl rfl), (PNM KM 177 rfl)⟩) _).trans ?_
            refine (congrArg (zBack zY 276 89 92 [some (zR (some 177)), some (zI x1), some (zI x2)] []) (q_M_told KM)).trans ?_
            refine (show zY 276 92 [some (zR (some 177)), some (zI x1), some (zI x2)] [zI (f_M_s h x1 8)] (sI h 177 1 0) = gd (([] : List zV).isEmpty = true ∧ (zrk 276 = 1 ∨ zrk 276 = 6 ∧ (((f_M_s h x1 8) : Int) = 0 ∨ ((f_M_s h x1 8) : Int) = 1))) (some (.inl (some (zI (f_M_s h x1 8))), (sI h 177 1 0))) from zGo 1 276 92 _ _ _).trans ?_
            refine (gd_t (⟨rfl, Or.inl rfl⟩) _).trans ?_
            rfl
          · skip
            refine iteC (fun c5 => ?_) (fun c5 => ?_)
            · skip
              refine (show zY 276 93 [some (zR (some 177)), some (zI x1), some (zI x2)] [] h = gd (-128 ≤ (9 : Int) ∧ (9 : Int) < 128) (gd (false = zctor 207 ∧ zcs [zR (some 177)] ≤ 8 ∧ zrm 276 (zrf 207 + 1) (8 + (zmaxl 207 + 11) + zrl 207) = true ∧ zcs [zR (some 177), zI x1, zI 9] ≤ zmaxl 207) (gd (zob h (some 177) 12) (zBack zY 276 98 101 [some (zR (some 177)), some (zI x1), some (zI x2)] [zR (some 177)] (zC 207 [zR (some 177), zI x1, zI 9] h)))) from zGo 5 276 93 _ _ _).trans ?_
              refine (gd_t (by decide) _).trans ?_
              refine (gd_t (⟨rfl, Nat.le_of_ble_eq_true rfl, rfl, Nat.le_of_ble_eq_true rfl⟩) _).trans ?_
              refine (gd_t (⟨rfl, (PTM KM 177 _ rfl rfl), (PNM KM 177 rfl)⟩) _).trans ?_
              refine (congrArg (zBack zY 276 98 101 [some (zR (some 177)), some (zI x1), some (zI x2)] [zR (some 177)]) (e_M_sx KM (g8 c0 c1 c2 c3 c4 c5) (by (try simp only [b_M_isStatement] at *); omega))).trans ?_
              refine (show zY 276 101 [some (zR (some 177)), some (zI x1), some (zI x2)] [zI (f_M_s h x1 9), zR (some 177)] h = gd (false = zctor 212 ∧ zcs [] ≤ 8 ∧ zrm 276 (zrf 212 + 1) (8 + (zmaxl 212 + 11) + zrl 212) = true ∧ zcs [zR (some 177), zI (f_M_s h x1 9)] ≤ zmaxl 212) (gd (zob h (some 177) 12) (zBack zY 276 101 104 [some (zR (some 177)), some (zI x1), some (zI x2)] [] (zC 212 [zR (some 177), zI (f_M_s h x1 9)] h))) from zGo 1 276 101 _ _ _).trans ?_
              refine (gd_t (⟨rfl, Nat.le_of_ble_eq_true rfl, rfl, Nat.le_of_ble_eq_true rfl⟩) _).trans ?_
              refine (gd_t (⟨rfl, (PTM KM 177 _ rfl rfl), (PNM KM 177 rfl)⟩) _).trans ?_
              refine (congrArg (zBack zY 276 101 104 [some (zR (some 177)), some (zI x1), some (zI x2)] []) (q_M_told KM)).trans ?_
              refine (show zY 276 104 [some (zR (some 177)), some (zI x1), some (zI x2)] [zI (f_M_s h x1 9)] (sI h 177 1 0) = gd (([] : List zV).isEmpty = true ∧ (zrk 276 = 1 ∨ zrk 276 = 6 ∧ (((f_M_s h x1 9) : Int) = 0 ∨ ((f_M_s h x1 9) : Int) = 1))) (some (.inl (some (zI (f_M_s h x1 9))), (sI h 177 1 0))) from zGo 1 276 104 _ _ _).trans ?_
              refine (gd_t (⟨rfl, Or.inl rfl⟩) _).trans ?_
              rfl
            · skip
              refine iteC (fun c6 => ?_) (fun c6 => ?_)
              · skip
                refine (show zY 276 105 [some (zR (some 177)), some (zI x1), some (zI x2)] [] h = gd (zob h (some 177) 12) (zY 276 110 [some (zR (some 177)), some (zI x1), some (zI x2)] [zR (hR h 177 2), zR (some 177)] h) from zGo 3 276 105 _ _ _).trans ?_
                refine (gd_t (⟨rfl, (PTM KM 177 _ rfl rfl), (PNM KM 177 rfl)⟩) _).trans ?_
                refine (congrArg (fun r => zY 276 110 [some (zR (some 177)), some (zI x1), some (zI x2)] (zR r :: zR (some 177) :: []) h) (PRM KM 177 2 _ rfl)).trans ?_
                refine (show zY 276 110 [some (zR (some 177)), some (zI x1), some (zI x2)] [zR (some 179), zR (some 177)] h = gd (-32768 ≤ (2318 : Int) ∧ (2318 : Int) < 32768) (gd (inR (2318 + x1)) (gd (zok h (some 179) 22 (2318 + x1)) (gd (false = zctor 212 ∧ zcs [] ≤ 8 ∧ zrm 276 (zrf 212 + 1) (8 + (zmaxl 212 + 11) + zrl 212) = true ∧ zcs [zR (some 177), zI (hI h 179 (2318 + x1).toNat)] ≤ zmaxl 212) (gd (zob h (some 177) 12) (zBack zY 276 116 119 [some (zR (some 177)), some (zI x1), some (zI x2)] [] (zC 212 [zR (some 177), zI (hI h 179 (2318 + x1).toNat)] h)))))) from zGo 5 276 110 _ _ _).trans ?_
                refine (gd_t (by decide) _).trans ?_
                refine gd_c Iff.rfl (fun c7 => ?_)
                refine gd_c (ci (PTM KM 179 _ rfl rfl) (PLM KM 179 2342 rfl rfl)) (fun c8 => ?_)
                refine (gd_t (⟨rfl, Nat.le_of_ble_eq_true rfl, rfl, Nat.le_of_ble_eq_true rfl⟩) _).trans ?_
                refine (gd_t (⟨rfl, (PTM KM 177 _ rfl rfl), (PNM KM 177 rfl)⟩) _).trans ?_
                refine (congrArg (zBack zY 276 116 119 [some (zR (some 177)), some (zI x1), some (zI x2)] []) (q_M_told KM)).trans ?_
                refine (show zY 276 119 [some (zR (some 177)), some (zI x1), some (zI x2)] [zI (hI h 179 (2318 + x1).toNat)] (sI h 177 1 0) = gd (([] : List zV).isEmpty = true ∧ (zrk 276 = 1 ∨ zrk 276 = 6 ∧ (((hI h 179 (2318 + x1).toNat) : Int) = 0 ∨ ((hI h 179 (2318 + x1).toNat) : Int) = 1))) (some (.inl (some (zI (hI h 179 (2318 + x1).toNat))), (sI h 177 1 0))) from zGo 1 276 119 _ _ _).trans ?_
                refine (gd_t (⟨rfl, Or.inl rfl⟩) _).trans ?_
                rfl
              · skip
                refine iteC (fun c9 => ?_) (fun c9 => ?_)
                · skip
                  refine (show zY 276 120 [some (zR (some 177)), some (zI x1), some (zI x2)] [] h = gd (false = zctor 279 ∧ zcs [zR (some 177)] ≤ 8 ∧ zrm 276 (zrf 279 + 1) (8 + (zmaxl 279 + 11) + zrl 279) = true ∧ zcs [zR (some 177), zI x1] ≤ zmaxl 279) (gd (zob h (some 177) 12) (zBack zY 276 123 126 [some (zR (some 177)), some (zI x1), some (zI x2)] [zR (some 177)] (zC 279 [zR (some 177), zI x1] h))) from zGo 4 276 120 _ _ _).trans ?_
                  refine (gd_t (⟨rfl, Nat.le_of_ble_eq_true rfl, rfl, Nat.le_of_ble_eq_true rfl⟩) _).trans ?_
                  refine (gd_t (⟨rfl, (PTM KM 177 _ rfl rfl), (PNM KM 177 rfl)⟩) _).trans ?_
                  refine (congrArg (zBack zY 276 123 126 [some (zR (some 177)), some (zI x1), some (zI x2)] [zR (some 177)]) (e_M_nodesOf KM (g9 c0 c1 c2 c3 c4 c5 c6 c9) (g10 c0 c1 c2 c3 c4 c5 c6 c9) (g11 c0 c1 c2 c3 c4 c5 c6 c9) (g12 c0 c1 c2 c3 c4 c5 c6 c9) (g13 c0 c1 c2 c3 c4 c5 c6 c9) (g14 c0 c1 c2 c3 c4 c5 c6 c9) (g15 c0 c1 c2 c3 c4 c5 c6 c9) (g16 c0 c1 c2 c3 c4 c5 c6 c9) (g17 c0 c1 c2 c3 c4 c5 c6 c9) (g18 c0 c1 c2 c3 c4 c5 c6 c9) (g19 c0 c1 c2 c3 c4 c5 c6 c9) (g20 c0 c1 c2 c3 c4 c5 c6 c9) (g21 c0 c1 c2 c3 c4 c5 c6 c9) (g22 c0 c1 c2 c3 c4 c5 c6 c9) (g23 c0 c1 c2 c3 c4 c5 c6 c9) (g24 c0 c1 c2 c3 c4 c5 c6 c9))).trans ?_
                  refine (show zY 276 126 [some (zR (some 177)), some (zI x1), some (zI x2)] [zI (f_M_nodesOf h x1), zR (some 177)] h = gd (false = zctor 212 ∧ zcs [] ≤ 8 ∧ zrm 276 (zrf 212 + 1) (8 + (zmaxl 212 + 11) + zrl 212) = true ∧ zcs [zR (some 177), zI (f_M_nodesOf h x1)] ≤ zmaxl 212) (gd (zob h (some 177) 12) (zBack zY 276 126 129 [some (zR (some 177)), some (zI x1), some (zI x2)] [] (zC 212 [zR (some 177), zI (f_M_nodesOf h x1)] h))) from zGo 1 276 126 _ _ _).trans ?_
                  refine (gd_t (⟨rfl, Nat.le_of_ble_eq_true rfl, rfl, Nat.le_of_ble_eq_true rfl⟩) _).trans ?_
                  refine (gd_t (⟨rfl, (PTM KM 177 _ rfl rfl), (PNM KM 177 rfl)⟩) _).trans ?_
                  refine (congrArg (zBack zY 276 126 129 [some (zR (some 177)), some (zI x1), some (zI x2)] []) (q_M_told KM)).trans ?_
                  refine (show zY 276 129 [some (zR (some 177)), some (zI x1), some (zI x2)] [zI (f_M_nodesOf h x1)] (sI h 177 1 0) = gd (([] : List zV).isEmpty = true ∧ (zrk 276 = 1 ∨ zrk 276 = 6 ∧ (((f_M_nodesOf h x1) : Int) = 0 ∨ ((f_M_nodesOf h x1) : Int) = 1))) (some (.inl (some (zI (f_M_nodesOf h x1))), (sI h 177 1 0))) from zGo 1 276 129 _ _ _).trans ?_
                  refine (gd_t (⟨rfl, Or.inl rfl⟩) _).trans ?_
                  rfl
                · skip
                  refine iteC (fun c10 => ?_) (fun c10 => ?_)
                  · skip
                    refine (show zY 276 130 [some (zR (some 177)), some (zI x1), some (zI x2)] [] h = gd (-128 ≤ (7 : Int) ∧ (7 : Int) < 128) (gd (false = zctor 207 ∧ zcs [zR (some 177)] ≤ 8 ∧ zrm 276 (zrf 207 + 1) (8 + (zmaxl 207 + 11) + zrl 207) = true ∧ zcs [zR (some 177), zI x1, zI 7] ≤ zmaxl 207) (gd (zob h (some 177) 12) (zBack zY 276 135 138 [some (zR (some 177)), some (zI x1), some (zI x2)] [zR (some 177)] (zC 207 [zR (some 177), zI x1, zI 7] h)))) from zGo 5 276 130 _ _ _).trans ?_
                    refine (gd_t (by decide) _).trans ?_
                    refine (gd_t (⟨rfl, Nat.le_of_ble_eq_true rfl, rfl, Nat.le_of_ble_eq_true rfl⟩) _).trans ?_
                    refine (gd_t (⟨rfl, (PTM KM 177 _ rfl rfl), (PNM KM 177 rfl)⟩) _).trans ?_
                    refine (congrArg (zBack zY 276 135 138 [some (zR (some 177)), some (zI x1), some (zI x2)] [zR (some 177)]) (e_M_sx KM (g25 c0 c1 c2 c3 c4 c5 c6 c9 c10) (by (try simp only [b_M_isStatement] at *); omega))).trans ?_
                    refine (show zY 276 138 [some (zR (some 177)), some (zI x1), some (zI x2)] [zI (f_M_s h x1 7), zR (some 177)] h = gd (false = zctor 212 ∧ zcs [] ≤ 8 ∧ zrm 276 (zrf 212 + 1) (8 + (zmaxl 212 + 11) + zrl 212) = true ∧ zcs [zR (some 177), zI (f_M_s h x1 7)] ≤ zmaxl 212) (gd (zob h (some 177) 12) (zBack zY 276 138 141 [some (zR (some 177)), some (zI x1), some (zI x2)] [] (zC 212 [zR (some 177), zI (f_M_s h x1 7)] h))) from zGo 1 276 138 _ _ _).trans ?_
                    refine (gd_t (⟨rfl, Nat.le_of_ble_eq_true rfl, rfl, Nat.le_of_ble_eq_true rfl⟩) _).trans ?_
                    refine (gd_t (⟨rfl, (PTM KM 177 _ rfl rfl), (PNM KM 177 rfl)⟩) _).trans ?_
                    refine (congrArg (zBack zY 276 138 141 [some (zR (some 177)), some (zI x1), some (zI x2)] []) (q_M_told KM)).trans ?_
                    refine (show zY 276 141 [some (zR (some 177)), some (zI x1), some (zI x2)] [zI (f_M_s h x1 7)] (sI h 177 1 0) = gd (([] : List zV).isEmpty = true ∧ (zrk 276 = 1 ∨ zrk 276 = 6 ∧ (((f_M_s h x1 7) : Int) = 0 ∨ ((f_M_s h x1 7) : Int) = 1))) (some (.inl (some (zI (f_M_s h x1 7))), (sI h 177 1 0))) from zGo 1 276 141 _ _ _).trans ?_
                    refine (gd_t (⟨rfl, Or.inl rfl⟩) _).trans ?_
                    rfl
                  · skip
                    refine (show zY 276 142 [some (zR (some 177)), some (zI x1), some (zI x2)] [] h = gd (inR (2)) (gd (false = zctor 210 ∧ zcs [] ≤ 8 ∧ zrm 276 (zrf 210 + 1) (8 + (zmaxl 210 + 11) + zrl 210) = true ∧ zcs [zR (some 177), zI 2] ≤ zmaxl 210) (gd (zob h (some 177) 12) (zBack zY 276 144 147 [some (zR (some 177)), some (zI x1), some (zI x2)] [] (zC 210 [zR (some 177), zI 2] h)))) from zGo 3 276 142 _ _ _).trans ?_
                    refine (gd_t (by decide) _).trans ?_
                    refine (gd_t (⟨rfl, Nat.le_of_ble_eq_true rfl, rfl, Nat.le_of_ble_eq_true rfl⟩) _).trans ?_
                    refine (gd_t (⟨rfl, (PTM KM 177 _ rfl rfl), (PNM KM 177 rfl)⟩) _).trans ?_
                    refine (congrArg (zBack zY 276 144 147 [some (zR (some 177)), some (zI x1), some (zI x2)] []) (q_M_refuse KM)).trans ?_
                    refine (show zY 276 147 [some (zR (some 177)), some (zI x1), some (zI x2)] [zI 0] (sI h 177 1 2) = gd (([] : List zV).isEmpty = true ∧ (zrk 276 = 1 ∨ zrk 276 = 6 ∧ ((0 : Int) = 0 ∨ (0 : Int) = 1))) (some (.inl (some (zI 0)), (sI h 177 1 2))) from zGo 1 276 147 _ _ _).trans ?_
                    refine (gd_t (⟨rfl, Or.inl rfl⟩) _).trans ?_
                    rfl
  · skip
    refine (show zY 276 8 [some (zR (some 177)), some (zI x1), some (zI x2)] [] h = gd (inR (1)) (gd (false = zctor 210 ∧ zcs [] ≤ 8 ∧ zrm 276 (zrf 210 + 1) (8 + (zmaxl 210 + 11) + zrl 210) = true ∧ zcs [zR (some 177), zI 1] ≤ zmaxl 210) (gd (zob h (some 177) 12) (zBack zY 276 10 13 [some (zR (some 177)), some (zI x1), some (zI x2)] [] (zC 210 [zR (some 177), zI 1] h)))) from zGo 3 276 8 _ _ _).trans ?_
    refine (gd_t (by decide) _).trans ?_
    refine (gd_t (⟨rfl, Nat.le_of_ble_eq_true rfl, rfl, Nat.le_of_ble_eq_true rfl⟩) _).trans ?_
    refine (gd_t (⟨rfl, (PTM KM 177 _ rfl rfl), (PNM KM 177 rfl)⟩) _).trans ?_
    refine (congrArg (zBack zY 276 10 13 [some (zR (some 177)), some (zI x1), some (zI x2)] []) (q_M_refuse KM)).trans ?_
    refine (show zY 276 13 [some (zR (some 177)), some (zI x1), some (zI x2)] [zI 0] (sI h 177 1 1) = gd (([] : List zV).isEmpty = true ∧ (zrk 276 = 1 ∨ zrk 276 = 6 ∧ ((0 : Int) = 0 ∨ (0 : Int) = 1))) (some (.inl (some (zI 0)), (sI h 177 1 1))) from zGo 1 276 13 _ _ _).trans ?_
    refine (gd_t (⟨rfl, Or.inl rfl⟩) _).trans ?_
    rfl
theorem q_M_before {h : zH} (KM : KM h) : zC 280 [zR (some 177)] h =
    zBack zY 280 3 6 [some (zR (some 177))] [zR (some 177)] (zC 248 [zR (some 177), zI 0] h) := by
  refine (show zC 280 [zR (some 177)] h = gd (inR (0)) (gd (false = zctor 248 ∧ zcs [zR (some 177)] ≤ 8 ∧ zrm 280 (zrf 248 + 1) (8 + (zmaxl 248 + 11) + zrl 248) = true ∧ zcs [zR (some 177), zI 0] ≤ zmaxl 248) (gd (zob h (some 177) 12) (zBack zY 280 3 6 [some (zR (some 177))] [zR (some 177)] (zC 248 [zR (some 177), zI 0] h)))) from zGo 4 280 0 _ _ _).trans ?_
  refine (gd_t (by decide) _).trans ?_
  refine (gd_t (⟨rfl, Nat.le_of_ble_eq_true rfl, rfl, Nat.le_of_ble_eq_true rfl⟩) _).trans ?_
  refine (gd_t (⟨rfl, (PTM KM 177 _ rfl rfl), (PNM KM 177 rfl)⟩) _).trans ?_
  rfl
theorem q_M_before_r6 {h : zH} {y : BitVec 64} (KM : KM h) : zBack zY 280 3 6 [some (zR (some 177))] [zR (some 177)] (some (.inl (some (zJ y)), h)) =
    some (.inl (some (zJ y)), (sI h 177 1 0)) := by
  refine (show zBack zY 280 3 6 [some (zR (some 177))] [zR (some 177)] (some (.inl (some (zJ y)), h)) = gd (false = zctor 281 ∧ zcs [] ≤ 8 ∧ zrm 280 (zrf 281 + 1) (8 + (zmaxl 281 + 11) + zrl 281) = true ∧ zcs [zR (some 177), zJ y] ≤ zmaxl 281) (gd (zob h (some 177) 12) (zBack zY 280 6 9 [some (zR (some 177))] [] (zC 281 [zR (some 177), zJ y] h))) from zGo 1 280 6 _ _ _).trans ?_
  refine (gd_t (⟨rfl, Nat.le_of_ble_eq_true rfl, rfl, Nat.le_of_ble_eq_true rfl⟩) _).trans ?_
  refine (gd_t (⟨rfl, (PTM KM 177 _ rfl rfl), (PNM KM 177 rfl)⟩) _).trans ?_
  refine (congrArg (zBack zY 280 6 9 [some (zR (some 177))] []) (q_M_toldSet KM)).trans ?_
  refine (show zY 280 9 [some (zR (some 177))] [zJ y] (sI h 177 1 0) = gd (([] : List zV).isEmpty = true ∧ zrk 280 = 2) (some (.inl (some (zJ y)), (sI h 177 1 0))) from zGo 1 280 9 _ _ _).trans ?_
  refine (gd_t (⟨rfl, rfl⟩) _).trans ?_
  rfl
theorem q_M_after {h : zH} (KM : KM h) : zC 282 [zR (some 177)] h =
    zBack zY 282 3 6 [some (zR (some 177))] [zR (some 177)] (zC 248 [zR (some 177), zI 1] h) := by
  refine (show zC 282 [zR (some 177)] h = gd (inR (1)) (gd (false = zctor 248 ∧ zcs [zR (some 177)] ≤ 8 ∧ zrm 282 (zrf 248 + 1) (8 + (zmaxl 248 + 11) + zrl 248) = true ∧ zcs [zR (some 177), zI 1] ≤ zmaxl 248) (gd (zob h (some 177) 12) (zBack zY 282 3 6 [some (zR (some 177))] [zR (some 177)] (zC 248 [zR (some 177), zI 1] h)))) from zGo 4 282 0 _ _ _).trans ?_
  refine (gd_t (by decide) _).trans ?_
  refine (gd_t (⟨rfl, Nat.le_of_ble_eq_true rfl, rfl, Nat.le_of_ble_eq_true rfl⟩) _).trans ?_
  refine (gd_t (⟨rfl, (PTM KM 177 _ rfl rfl), (PNM KM 177 rfl)⟩) _).trans ?_
  rfl
theorem q_M_after_r6 {h : zH} {y : BitVec 64} (KM : KM h) : zBack zY 282 3 6 [some (zR (some 177))] [zR (some 177)] (some (.inl (some (zJ y)), h)) =
    some (.inl (some (zJ y)), (sI h 177 1 0)) := by
  refine (show zBack zY 282 3 6 [some (zR (some 177))] [zR (some 177)] (some (.inl (some (zJ y)), h)) = gd (false = zctor 281 ∧ zcs [] ≤ 8 ∧ zrm 282 (zrf 281 + 1) (8 + (zmaxl 281 + 11) + zrl 281) = true ∧ zcs [zR (some 177), zJ y] ≤ zmaxl 281) (gd (zob h (some 177) 12) (zBack zY 282 6 9 [some (zR (some 177))] [] (zC 281 [zR (some 177), zJ y] h))) from zGo 1 282 6 _ _ _).trans ?_
  refine (gd_t (⟨rfl, Nat.le_of_ble_eq_true rfl, rfl, Nat.le_of_ble_eq_true rfl⟩) _).trans ?_
  refine (gd_t (⟨rfl, (PTM KM 177 _ rfl rfl), (PNM KM 177 rfl)⟩) _).trans ?_
  refine (congrArg (zBack zY 282 6 9 [some (zR (some 177))] []) (q_M_toldSet KM)).trans ?_
  refine (show zY 282 9 [some (zR (some 177))] [zJ y] (sI h 177 1 0) = gd (([] : List zV).isEmpty = true ∧ zrk 282 = 2) (some (.inl (some (zJ y)), (sI h 177 1 0))) from zGo 1 282 9 _ _ _).trans ?_
  refine (gd_t (⟨rfl, rfl⟩) _).trans ?_
  rfl
theorem q_M_loopSet {h : zH} {x1 : Int} {x2 : Int} (KM : KM h) (g0 : ((¬ (x1 < 0)) → (hI h 177 10 ≤ 24)) := by omega) : zC 283 [zR (some 177), zI x1, zI x2] h =
    if (f_M_loopAt h x1) = (-1) then
      some (.inl (some (zJ (0#64))), (sI h 177 1 1))
    else
      if b_M_in x2 0 1 then
        if x2 = 0 then
          gd (-2147483648 ≤ 2 + (f_M_loopAt h x1) ∧ 2 + (f_M_loopAt h x1) < 2147483648) (
          zBack zY 283 48 51 [some (zR (some 177)), some (zI x1), some (zI x2), some (zI (f_M_loopAt h x1))] [zR (some 177)] (zC 248 [zR (some 177), zI (2 + (f_M_loopAt h x1))] h))
        else
          gd (-2147483648 ≤ 26 + (f_M_loopAt h x1) ∧ 26 + (f_M_loopAt h x1) < 2147483648) (
          zBack zY 283 48 51 [some (zR (some 177)), some (zI x1), some (zI x2), some (zI (f_M_loopAt h x1))] [zR (some 177)] (zC 248 [zR (some 177), zI (26 + (f_M_loopAt h x1))] h))
      else
        some (.inl (some (zJ (0#64))), (sI h 177 1 2)) := by
  refine (show zC 283 [zR (some 177), zI x1, zI x2] h = gd (false = zctor 263 ∧ zcs [] ≤ 8 ∧ zrm 283 (zrf 263 + 1) (8 + (zmaxl 263 + 11) + zrl 263) = true ∧ zcs [zR (some 177), zI x1] ≤ zmaxl 263) (gd (zob h (some 177) 12) (zBack zY 283 2 5 [some (zR (some 177)), some (zI x1), some (zI x2), none] [] (zC 263 [zR (some 177), zI x1] h))) from zGo 3 283 0 _ _ _).trans ?_
  refine (gd_t (⟨rfl, Nat.le_of_ble_eq_true rfl, rfl, Nat.le_of_ble_eq_true rfl⟩) _).trans ?_
  refine (gd_t (⟨rfl, (PTM KM 177 _ rfl rfl), (PNM KM 177 rfl)⟩) _).trans ?_
  refine (congrArg (zBack zY 283 2 5 [some (zR (some 177)), some (zI x1), some (zI x2), none] []) (e_M_loopAt KM (g0))).trans ?_
  refine (show zY 283 5 [some (zR (some 177)), some (zI x1), some (zI x2), none] [zI (f_M_loopAt h x1)] h = gd (inR (-1)) (if (f_M_loopAt h x1) = (-1) then zY 283 11 [some (zR (some 177)), some (zI x1), some (zI x2), some (zI (f_M_loopAt h x1))] [] h else zY 283 16 [some (zR (some 177)), some (zI x1), some (zI x2), some (zI (f_M_loopAt h x1))] [] h) from zGo 4 283 5 _ _ _).trans ?_
  refine (gd_t (by decide) _).trans ?_
  refine iteC (fun c0 => ?_) (fun c0 => ?_)
  · skip
    refine (show zY 283 11 [some (zR (some 177)), some (zI x1), some (zI x2), some (zI (f_M_loopAt h x1))] [] h = gd (false = zctor 284 ∧ zcs [] ≤ 8 ∧ zrm 283 (zrf 284 + 1) (8 + (zmaxl 284 + 11) + zrl 284) = true ∧ zcs [zR (some 177)] ≤ zmaxl 284) (gd (zob h (some 177) 12) (zBack zY 283 12 15 [some (zR (some 177)), some (zI x1), some (zI x2), some (zI (f_M_loopAt h x1))] [] (zC 284 [zR (some 177)] h))) from zGo 2 283 11 _ _ _).trans ?_
    refine (gd_t (⟨rfl, Nat.le_of_ble_eq_true rfl, rfl, Nat.le_of_ble_eq_true rfl⟩) _).trans ?_
    refine (gd_t (⟨rfl, (PTM KM 177 _ rfl rfl), (PNM KM 177 rfl)⟩) _).trans ?_
    refine (congrArg (zBack zY 283 12 15 [some (zR (some 177)), some (zI x1), some (zI x2), some (zI (f_M_loopAt h x1))] []) (q_M_noSet KM)).trans ?_
    refine (show zY 283 15 [some (zR (some 177)), some (zI x1), some (zI x2), some (zI (f_M_loopAt h x1))] [zJ (0#64)] (sI h 177 1 1) = gd (([] : List zV).isEmpty = true ∧ zrk 283 = 2) (some (.inl (some (zJ (0#64))), (sI h 177 1 1))) from zGo 1 283 15 _ _ _).trans ?_
    refine (gd_t (⟨rfl, rfl⟩) _).trans ?_
    rfl
  · skip
    refine (show zY 283 16 [some (zR (some 177)), some (zI x1), some (zI x2), some (zI (f_M_loopAt h x1))] [] h = gd (inR (0)) (gd (inR (1)) (gd (false = zctor 214 ∧ zcs [] ≤ 8 ∧ zrm 283 (zrf 214 + 1) (8 + (zmaxl 214 + 11) + zrl 214) = true ∧ zcs [zI x2, zI 0, zI 1] ≤ zmaxl 214) (zBack zY 283 19 22 [some (zR (some 177)), some (zI x1), some (zI x2), some (zI (f_M_loopAt h x1))] [] (zC 214 [zI x2, zI 0, zI 1] h)))) from zGo 4 283 16 _ _ _).trans ?_
    refine (gd_t (by decide) _).trans ?_
    refine (gd_t (by decide) _).trans ?_
    refine (gd_t (⟨rfl, Nat.le_of_ble_eq_true rfl, rfl, Nat.le_of_ble_eq_true rfl⟩) _).trans ?_
    refine (congrArg (zBack zY 283 19 22 [some (zR (some 177)), some (zI x1), some (zI x2), some (zI (f_M_loopAt h x1))] []) (e_M_in)).trans ?_
    refine (show zY 283 22 [some (zR (some 177)), some (zI x1), some (zI x2), some (zI (f_M_loopAt h x1))] [zI (if b_M_in x2 0 1 then (1 : Int) else 0)] h = if (if b_M_in x2 0 1 then (1 : Int) else 0) = 0 then zY 283 25 [some (zR (some 177)), some (zI x1), some (zI x2), some (zI (f_M_loopAt h x1))] [] h else zY 283 32 [some (zR (some 177)), some (zI x1), some (zI x2), some (zI (f_M_loopAt h x1))] [] h from zGo 1 283 22 _ _ _).trans ?_
    refine iteB (fun c1 => ?_) (fun c1 => ?_)
    · skip
      refine (show zY 283 32 [some (zR (some 177)), some (zI x1), some (zI x2), some (zI (f_M_loopAt h x1))] [] h = if x2 = 0 then zY 283 38 [some (zR (some 177)), some (zI x1), some (zI x2), some (zI (f_M_loopAt h x1))] [zR (some 177), zR (some 177)] h else zY 283 44 [some (zR (some 177)), some (zI x1), some (zI x2), some (zI (f_M_loopAt h x1))] [zR (some 177), zR (some 177)] h from zGo 4 283 32 _ _ _).trans ?_
      refine iteC (fun c2 => ?_) (fun c2 => ?_)
      · skip
        refine (show zY 283 38 [some (zR (some 177)), some (zI x1), some (zI x2), some (zI (f_M_loopAt h x1))] [zR (some 177), zR (some 177)] h = gd (inR (2)) (gd (inR (2 + (f_M_loopAt h x1))) (gd (false = zctor 248 ∧ zcs [zR (some 177)] ≤ 8 ∧ zrm 283 (zrf 248 + 1) (8 + (zmaxl 248 + 11) + zrl 248) = true ∧ zcs [zR (some 177), zI (2 + (f_M_loopAt h x1))] ≤ zmaxl 248) (gd (zob h (some 177) 12) (zBack zY 283 48 51 [some (zR (some 177)), some (zI x1), some (zI x2), some (zI (f_M_loopAt h x1))] [zR (some 177)] (zC 248 [zR (some 177), zI (2 + (f_M_loopAt h x1))] h))))) from zGo 5 283 38 _ _ _).trans ?_
        refine (gd_t (by decide) _).trans ?_
        refine gd_c Iff.rfl (fun c3 => ?_)
        refine (gd_t (⟨rfl, Nat.le_of_ble_eq_true rfl, rfl, Nat.le_of_ble_eq_true rfl⟩) _).trans ?_
        refine (gd_t (⟨rfl, (PTM KM 177 _ rfl rfl), (PNM KM 177 rfl)⟩) _).trans ?_
        rfl
      · skip
        refine (show zY 283 44 [some (zR (some 177)), some (zI x1), some (zI x2), some (zI (f_M_loopAt h x1))] [zR (some 177), zR (some 177)] h = gd (-128 ≤ (26 : Int) ∧ (26 : Int) < 128) (gd (inR (26 + (f_M_loopAt h x1))) (gd (false = zctor 248 ∧ zcs [zR (some 177)] ≤ 8 ∧ zrm 283 (zrf 248 + 1) (8 + (zmaxl 248 + 11) + zrl 248) = true ∧ zcs [zR (some 177), zI (26 + (f_M_loopAt h x1))] ≤ zmaxl 248) (gd (zob h (some 177) 12) (zBack zY 283 48 51 [some (zR (some 177)), some (zI x1), some (zI x2), some (zI (f_M_loopAt h x1))] [zR (some 177)] (zC 248 [zR (some 177), zI (26 + (f_M_loopAt h x1))] h))))) from zGo 4 283 44 _ _ _).trans ?_
        refine (gd_t (by decide) _).trans ?_
        refine gd_c Iff.rfl (fun c4 => ?_)
        refine (gd_t (⟨rfl, Nat.le_of_ble_eq_true rfl, rfl, Nat.le_of_ble_eq_true rfl⟩) _).trans ?_
        refine (gd_t (⟨rfl, (PTM KM 177 _ rfl rfl), (PNM KM 177 rfl)⟩) _).trans ?_
        rfl
    · skip
      refine (show zY 283 25 [some (zR (some 177)), some (zI x1), some (zI x2), some (zI (f_M_loopAt h x1))] [] h = gd (inR (2)) (gd (zob h (some 177) 12) (gd (([] : List zV).isEmpty = true ∧ zrk 283 = 2) (some (.inl (some (zJ (0#64))), (sI h 177 1 2))))) from zGo 5 283 25 _ _ _).trans ?_
      refine (gd_t (by decide) _).trans ?_
      refine (gd_t (⟨rfl, (PTM KM 177 _ rfl rfl), (PNM KM 177 rfl)⟩) _).trans ?_
      refine (gd_t (⟨rfl, rfl⟩) _).trans ?_
      rfl
theorem q_M_loopSet_r51 {h : zH} {x1 : Int} {x2 : Int} {x3 : Int} {y : BitVec 64} (KM : KM h) : zBack zY 283 48 51 [some (zR (some 177)), some (zI x1), some (zI x2), some (zI x3)] [zR (some 177)] (some (.inl (some (zJ y)), h)) =
    some (.inl (some (zJ y)), (sI h 177 1 0)) := by
  refine (show zBack zY 283 48 51 [some (zR (some 177)), some (zI x1), some (zI x2), some (zI x3)] [zR (some 177)] (some (.inl (some (zJ y)), h)) = gd (false = zctor 281 ∧ zcs [] ≤ 8 ∧ zrm 283 (zrf 281 + 1) (8 + (zmaxl 281 + 11) + zrl 281) = true ∧ zcs [zR (some 177), zJ y] ≤ zmaxl 281) (gd (zob h (some 177) 12) (zBack zY 283 51 54 [some (zR (some 177)), some (zI x1), some (zI x2), some (zI x3)] [] (zC 281 [zR (some 177), zJ y] h))) from zGo 1 283 51 _ _ _).trans ?_
  refine (gd_t (⟨rfl, Nat.le_of_ble_eq_true rfl, rfl, Nat.le_of_ble_eq_true rfl⟩) _).trans ?_
  refine (gd_t (⟨rfl, (PTM KM 177 _ rfl rfl), (PNM KM 177 rfl)⟩) _).trans ?_
  refine (congrArg (zBack zY 283 51 54 [some (zR (some 177)), some (zI x1), some (zI x2), some (zI x3)] []) (q_M_toldSet KM)).trans ?_
  refine (show zY 283 54 [some (zR (some 177)), some (zI x1), some (zI x2), some (zI x3)] [zJ y] (sI h 177 1 0) = gd (([] : List zV).isEmpty = true ∧ zrk 283 = 2) (some (.inl (some (zJ y)), (sI h 177 1 0))) from zGo 1 283 54 _ _ _).trans ?_
  refine (gd_t (⟨rfl, rfl⟩) _).trans ?_
  rfl
theorem q_M_less {h : zH} {x1 : Int} {x2 : Int} (KM : KM h) (g0 : ((¬ (x1 < 0)) → (hI h 177 10 ≤ 24)) := by omega) : zC 285 [zR (some 177), zI x1, zI x2] h =
    if (f_M_loopAt h x1) = (-1) then
      some (.inl (some (zI 0)), (sI h 177 1 1))
    else
      if b_M_isState x2 then
        gd (-2147483648 ≤ 50 + (f_M_loopAt h x1) ∧ 50 + (f_M_loopAt h x1) < 2147483648) (
        zBack zY 285 37 40 [some (zR (some 177)), some (zI x1), some (zI x2), some (zI (f_M_loopAt h x1))] [zR (some 177)] (zC 249 [zR (some 177), zI (50 + (f_M_loopAt h x1)), zI x2] h))
      else
        some (.inl (some (zI 0)), (sI h 177 1 2)) := by
  refine (show zC 285 [zR (some 177), zI x1, zI x2] h = gd (false = zctor 263 ∧ zcs [] ≤ 8 ∧ zrm 285 (zrf 263 + 1) (8 + (zmaxl 263 + 11) + zrl 263) = true ∧ zcs [zR (some 177), zI x1] ≤ zmaxl 263) (gd (zob h (some 177) 12) (zBack zY 285 2 5 [some (zR (some 177)), some (zI x1), some (zI x2), none] [] (zC 263 [zR (some 177), zI x1] h))) from zGo 3 285 0 _ _ _).trans ?_
  refine (gd_t (⟨rfl, Nat.le_of_ble_eq_true rfl, rfl, Nat.le_of_ble_eq_true rfl⟩) _).trans ?_
  refine (gd_t (⟨rfl, (PTM KM 177 _ rfl rfl), (PNM KM 177 rfl)⟩) _).trans ?_
  refine (congrArg (zBack zY 285 2 5 [some (zR (some 177)), some (zI x1), some (zI x2), none] []) (e_M_loopAt KM (g0))).trans ?_
  refine (show zY 285 5 [some (zR (some 177)), some (zI x1), some (zI x2), none] [zI (f_M_loopAt h x1)] h = gd (inR (-1)) (if (f_M_loopAt h x1) = (-1) then zY 285 11 [some (zR (some 177)), some (zI x1), some (zI x2), some (zI (f_M_loopAt h x1))] [] h else zY 285 17 [some (zR (some 177)), some (zI x1), some (zI x2), some (zI (f_M_loopAt h x1))] [] h) from zGo 4 285 5 _ _ _).trans ?_
  refine (gd_t (by decide) _).trans ?_
  refine iteC (fun c0 => ?_) (fun c0 => ?_)
  · skip
    refine (show zY 285 11 [some (zR (some 177)), some (zI x1), some (zI x2), some (zI (f_M_loopAt h x1))] [] h = gd (inR (1)) (gd (false = zctor 210 ∧ zcs [] ≤ 8 ∧ zrm 285 (zrf 210 + 1) (8 + (zmaxl 210 + 11) + zrl 210) = true ∧ zcs [zR (some 177), zI 1] ≤ zmaxl 210) (gd (zob h (some 177) 12) (zBack zY 285 13 16 [some (zR (some 177)), some (zI x1), some (zI x2), some (zI (f_M_loopAt h x1))] [] (zC 210 [zR (some 177), zI 1] h)))) from zGo 3 285 11 _ _ _).trans ?_
    refine (gd_t (by decide) _).trans ?_
    refine (gd_t (⟨rfl, Nat.le_of_ble_eq_true rfl, rfl, Nat.le_of_ble_eq_true rfl⟩) _).trans ?_
    refine (gd_t (⟨rfl, (PTM KM 177 _ rfl rfl), (PNM KM 177 rfl)⟩) _).trans ?_
    refine (congrArg (zBack zY 285 13 16 [some (zR (some 177)), some (zI x1), some (zI x2), some (zI (f_M_loopAt h x1))] []) (q_M_refuse KM)).trans ?_
    refine (show zY 285 16 [some (zR (some 177)), some (zI x1), some (zI x2), some (zI (f_M_loopAt h x1))] [zI 0] (sI h 177 1 1) = gd (([] : List zV).isEmpty = true ∧ (zrk 285 = 1 ∨ zrk 285 = 6 ∧ ((0 : Int) = 0 ∨ (0 : Int) = 1))) (some (.inl (some (zI 0)), (sI h 177 1 1))) from zGo 1 285 16 _ _ _).trans ?_
    refine (gd_t (⟨rfl, Or.inl rfl⟩) _).trans ?_
    rfl
  · skip
    refine (show zY 285 17 [some (zR (some 177)), some (zI x1), some (zI x2), some (zI (f_M_loopAt h x1))] [] h = gd (false = zctor 286 ∧ zcs [] ≤ 8 ∧ zrm 285 (zrf 286 + 1) (8 + (zmaxl 286 + 11) + zrl 286) = true ∧ zcs [zI x2] ≤ zmaxl 286) (zBack zY 285 18 21 [some (zR (some 177)), some (zI x1), some (zI x2), some (zI (f_M_loopAt h x1))] [] (zC 286 [zI x2] h)) from zGo 2 285 17 _ _ _).trans ?_
    refine (gd_t (⟨rfl, Nat.le_of_ble_eq_true rfl, rfl, Nat.le_of_ble_eq_true rfl⟩) _).trans ?_
    refine (congrArg (zBack zY 285 18 21 [some (zR (some 177)), some (zI x1), some (zI x2), some (zI (f_M_loopAt h x1))] []) (e_M_isState)).trans ?_
    refine (show zY 285 21 [some (zR (some 177)), some (zI x1), some (zI x2), some (zI (f_M_loopAt h x1))] [zI (if b_M_isState x2 then (1 : Int) else 0)] h = if (if b_M_isState x2 then (1 : Int) else 0) = 0 then zY 285 24 [some (zR (some 177)), some (zI x1), some (zI x2), some (zI (f_M_loopAt h x1))] [] h else zY 285 30 [some (zR (some 177)), some (zI x1), some (zI x2), some (zI (f_M_loopAt h x1))] [] h from zGo 1 285 21 _ _ _).trans ?_
    refine iteB (fun c1 => ?_) (fun c1 => ?_)
    · skip
      refine (show zY 285 30 [some (zR (some 177)), some (zI x1), some (zI x2), some (zI (f_M_loopAt h x1))] [] h = gd (-128 ≤ (50 : Int) ∧ (50 : Int) < 128) (gd (inR (50 + (f_M_loopAt h x1))) (gd (false = zctor 249 ∧ zcs [zR (some 177)] ≤ 8 ∧ zrm 285 (zrf 249 + 1) (8 + (zmaxl 249 + 11) + zrl 249) = true ∧ zcs [zR (some 177), zI (50 + (f_M_loopAt h x1)), zI x2] ≤ zmaxl 249) (gd (zob h (some 177) 12) (zBack zY 285 37 40 [some (zR (some 177)), some (zI x1), some (zI x2), some (zI (f_M_loopAt h x1))] [zR (some 177)] (zC 249 [zR (some 177), zI (50 + (f_M_loopAt h x1)), zI x2] h))))) from zGo 7 285 30 _ _ _).trans ?_
      refine (gd_t (by decide) _).trans ?_
      refine gd_c Iff.rfl (fun c2 => ?_)
      refine (gd_t (⟨rfl, Nat.le_of_ble_eq_true rfl, rfl, Nat.le_of_ble_eq_true rfl⟩) _).trans ?_
      refine (gd_t (⟨rfl, (PTM KM 177 _ rfl rfl), (PNM KM 177 rfl)⟩) _).trans ?_
      rfl
    · skip
      refine (show zY 285 24 [some (zR (some 177)), some (zI x1), some (zI x2), some (zI (f_M_loopAt h x1))] [] h = gd (inR (2)) (gd (false = zctor 210 ∧ zcs [] ≤ 8 ∧ zrm 285 (zrf 210 + 1) (8 + (zmaxl 210 + 11) + zrl 210) = true ∧ zcs [zR (some 177), zI 2] ≤ zmaxl 210) (gd (zob h (some 177) 12) (zBack zY 285 26 29 [some (zR (some 177)), some (zI x1), some (zI x2), some (zI (f_M_loopAt h x1))] [] (zC 210 [zR (some 177), zI 2] h)))) from zGo 3 285 24 _ _ _).trans ?_
      refine (gd_t (by decide) _).trans ?_
      refine (gd_t (⟨rfl, Nat.le_of_ble_eq_true rfl, rfl, Nat.le_of_ble_eq_true rfl⟩) _).trans ?_
      refine (gd_t (⟨rfl, (PTM KM 177 _ rfl rfl), (PNM KM 177 rfl)⟩) _).trans ?_
      refine (congrArg (zBack zY 285 26 29 [some (zR (some 177)), some (zI x1), some (zI x2), some (zI (f_M_loopAt h x1))] []) (q_M_refuse KM)).trans ?_
      refine (show zY 285 29 [some (zR (some 177)), some (zI x1), some (zI x2), some (zI (f_M_loopAt h x1))] [zI 0] (sI h 177 1 2) = gd (([] : List zV).isEmpty = true ∧ (zrk 285 = 1 ∨ zrk 285 = 6 ∧ ((0 : Int) = 0 ∨ (0 : Int) = 1))) (some (.inl (some (zI 0)), (sI h 177 1 2))) from zGo 1 285 29 _ _ _).trans ?_
      refine (gd_t (⟨rfl, Or.inl rfl⟩) _).trans ?_
      rfl
theorem q_M_less_r40 {h : zH} {x1 : Int} {x2 : Int} {x3 : Int} {y : Int} (KM : KM h) : zBack zY 285 37 40 [some (zR (some 177)), some (zI x1), some (zI x2), some (zI x3)] [zR (some 177)] (some (.inl (some (zI y)), h)) =
    some (.inl (some (zI y)), (sI h 177 1 0)) := by
  refine (show zBack zY 285 37 40 [some (zR (some 177)), some (zI x1), some (zI x2), some (zI x3)] [zR (some 177)] (some (.inl (some (zI y)), h)) = gd (false = zctor 212 ∧ zcs [] ≤ 8 ∧ zrm 285 (zrf 212 + 1) (8 + (zmaxl 212 + 11) + zrl 212) = true ∧ zcs [zR (some 177), zI y] ≤ zmaxl 212) (gd (zob h (some 177) 12) (zBack zY 285 40 43 [some (zR (some 177)), some (zI x1), some (zI x2), some (zI x3)] [] (zC 212 [zR (some 177), zI y] h))) from zGo 1 285 40 _ _ _).trans ?_
  refine (gd_t (⟨rfl, Nat.le_of_ble_eq_true rfl, rfl, Nat.le_of_ble_eq_true rfl⟩) _).trans ?_
  refine (gd_t (⟨rfl, (PTM KM 177 _ rfl rfl), (PNM KM 177 rfl)⟩) _).trans ?_
  refine (congrArg (zBack zY 285 40 43 [some (zR (some 177)), some (zI x1), some (zI x2), some (zI x3)] []) (q_M_told KM)).trans ?_
  refine (show zY 285 43 [some (zR (some 177)), some (zI x1), some (zI x2), some (zI x3)] [zI y] (sI h 177 1 0) = gd (([] : List zV).isEmpty = true ∧ (zrk 285 = 1 ∨ zrk 285 = 6 ∧ ((y : Int) = 0 ∨ (y : Int) = 1))) (some (.inl (some (zI y)), (sI h 177 1 0))) from zGo 1 285 43 _ _ _).trans ?_
  refine (gd_t (⟨rfl, Or.inl rfl⟩) _).trans ?_
  rfl
theorem q_M_need {h : zH} {x1 : Int} (KM : KM h) (g0 : (-2147483648 ≤ (hI h 177 10) - 1 ∧ (hI h 177 10) - 1 < 2147483648) := by omega) : zC 287 [zR (some 177), zI x1] h =
    if b_M_isStatement h x1 then
      zBack zY 287 14 17 [some (zR (some 177)), some (zI x1)] [] (zC 246 [zR (some 177)] h)
    else
      some (.inl (some (zJ (0#64))), (sI h 177 1 1)) := by
  refine (show zC 287 [zR (some 177), zI x1] h = gd (false = zctor 277 ∧ zcs [] ≤ 8 ∧ zrm 287 (zrf 277 + 1) (8 + (zmaxl 277 + 11) + zrl 277) = true ∧ zcs [zR (some 177), zI x1] ≤ zmaxl 277) (gd (zob h (some 177) 12) (zBack zY 287 2 5 [some (zR (some 177)), some (zI x1)] [] (zC 277 [zR (some 177), zI x1] h))) from zGo 3 287 0 _ _ _).trans ?_
  refine (gd_t (⟨rfl, Nat.le_of_ble_eq_true rfl, rfl, Nat.le_of_ble_eq_true rfl⟩) _).trans ?_
  refine (gd_t (⟨rfl, (PTM KM 177 _ rfl rfl), (PNM KM 177 rfl)⟩) _).trans ?_
  refine (congrArg (zBack zY 287 2 5 [some (zR (some 177)), some (zI x1)] []) (e_M_isStatement KM (g0))).trans ?_
  refine (show zY 287 5 [some (zR (some 177)), some (zI x1)] [zI (if b_M_isStatement h x1 then (1 : Int) else 0)] h = if (if b_M_isStatement h x1 then (1 : Int) else 0) = 0 then zY 287 8 [some (zR (some 177)), some (zI x1)] [] h else zY 287 13 [some (zR (some 177)), some (zI x1)] [] h from zGo 1 287 5 _ _ _).trans ?_
  refine iteB (fun c0 => ?_) (fun c0 => ?_)
  · skip
    refine (show zY 287 13 [some (zR (some 177)), some (zI x1)] [] h = gd (false = zctor 246 ∧ zcs [] ≤ 8 ∧ zrm 287 (zrf 246 + 1) (8 + (zmaxl 246 + 11) + zrl 246) = true ∧ zcs [zR (some 177)] ≤ zmaxl 246) (gd (zob h (some 177) 12) (zBack zY 287 14 17 [some (zR (some 177)), some (zI x1)] [] (zC 246 [zR (some 177)] h))) from zGo 2 287 13 _ _ _).trans ?_
    refine (gd_t (⟨rfl, Nat.le_of_ble_eq_true rfl, rfl, Nat.le_of_ble_eq_true rfl⟩) _).trans ?_
    refine (gd_t (⟨rfl, (PTM KM 177 _ rfl rfl), (PNM KM 177 rfl)⟩) _).trans ?_
    rfl
  · skip
    refine (show zY 287 8 [some (zR (some 177)), some (zI x1)] [] h = gd (false = zctor 284 ∧ zcs [] ≤ 8 ∧ zrm 287 (zrf 284 + 1) (8 + (zmaxl 284 + 11) + zrl 284) = true ∧ zcs [zR (some 177)] ≤ zmaxl 284) (gd (zob h (some 177) 12) (zBack zY 287 9 12 [some (zR (some 177)), some (zI x1)] [] (zC 284 [zR (some 177)] h))) from zGo 2 287 8 _ _ _).trans ?_
    refine (gd_t (⟨rfl, Nat.le_of_ble_eq_true rfl, rfl, Nat.le_of_ble_eq_true rfl⟩) _).trans ?_
    refine (gd_t (⟨rfl, (PTM KM 177 _ rfl rfl), (PNM KM 177 rfl)⟩) _).trans ?_
    refine (congrArg (zBack zY 287 9 12 [some (zR (some 177)), some (zI x1)] []) (q_M_noSet KM)).trans ?_
    refine (show zY 287 12 [some (zR (some 177)), some (zI x1)] [zJ (0#64)] (sI h 177 1 1) = gd (([] : List zV).isEmpty = true ∧ zrk 287 = 2) (some (.inl (some (zJ (0#64))), (sI h 177 1 1))) from zGo 1 287 12 _ _ _).trans ?_
    refine (gd_t (⟨rfl, rfl⟩) _).trans ?_
    rfl
theorem q_M_need_r17 {h : zH} {x1 : Int} (KM : KM h) : zBack zY 287 14 17 [some (zR (some 177)), some (zI x1)] [] (some (.inl (none), h)) =
    gd (0 ≤ x1 ∧ x1 < 24) (
    some (.inl (some (zJ (hJ h 188 x1.toNat))), (sI h 177 1 0))) := by
  refine (show zBack zY 287 14 17 [some (zR (some 177)), some (zI x1)] [] (some (.inl (none), h)) = gd (zob h (some 177) 12) (zY 287 22 [some (zR (some 177)), some (zI x1)] [zR (hR h 177 22), zR (some 177)] h) from zGo 3 287 17 _ _ _).trans ?_
  refine (gd_t (⟨rfl, (PTM KM 177 _ rfl rfl), (PNM KM 177 rfl)⟩) _).trans ?_
  refine (congrArg (fun r => zY 287 22 [some (zR (some 177)), some (zI x1)] (zR r :: zR (some 177) :: []) h) (PRM KM 177 22 _ rfl)).trans ?_
  refine (show zY 287 22 [some (zR (some 177)), some (zI x1)] [zR (some 188), zR (some 177)] h = gd (zok h (some 188) 23 x1) (gd (false = zctor 281 ∧ zcs [] ≤ 8 ∧ zrm 287 (zrf 281 + 1) (8 + (zmaxl 281 + 11) + zrl 281) = true ∧ zcs [zR (some 177), zJ (hJ h 188 x1.toNat)] ≤ zmaxl 281) (gd (zob h (some 177) 12) (zBack zY 287 24 27 [some (zR (some 177)), some (zI x1)] [] (zC 281 [zR (some 177), zJ (hJ h 188 x1.toNat)] h)))) from zGo 3 287 22 _ _ _).trans ?_
  refine gd_c (ci (PTM KM 188 _ rfl rfl) (PLM KM 188 24 rfl rfl)) (fun c0 => ?_)
  refine (gd_t (⟨rfl, Nat.le_of_ble_eq_true rfl, rfl, Nat.le_of_ble_eq_true rfl⟩) _).trans ?_
  refine (gd_t (⟨rfl, (PTM KM 177 _ rfl rfl), (PNM KM 177 rfl)⟩) _).trans ?_
  refine (congrArg (zBack zY 287 24 27 [some (zR (some 177)), some (zI x1)] []) (q_M_toldSet KM)).trans ?_
  refine (show zY 287 27 [some (zR (some 177)), some (zI x1)] [zJ (hJ h 188 x1.toNat)] (sI h 177 1 0) = gd (([] : List zV).isEmpty = true ∧ zrk 287 = 2) (some (.inl (some (zJ (hJ h 188 x1.toNat))), (sI h 177 1 0))) from zGo 1 287 27 _ _ _).trans ?_
  refine (gd_t (⟨rfl, rfl⟩) _).trans ?_
  rfl
theorem q_M_needAhead {h : zH} (KM : KM h) : zC 288 [zR (some 177)] h =
    zBack zY 288 1 4 [some (zR (some 177))] [] (zC 246 [zR (some 177)] h) := by
  refine (show zC 288 [zR (some 177)] h = gd (false = zctor 246 ∧ zcs [] ≤ 8 ∧ zrm 288 (zrf 246 + 1) (8 + (zmaxl 246 + 11) + zrl 246) = true ∧ zcs [zR (some 177)] ≤ zmaxl 246) (gd (zob h (some 177) 12) (zBack zY 288 1 4 [some (zR (some 177))] [] (zC 246 [zR (some 177)] h))) from zGo 2 288 0 _ _ _).trans ?_
  refine (gd_t (⟨rfl, Nat.le_of_ble_eq_true rfl, rfl, Nat.le_of_ble_eq_true rfl⟩) _).trans ?_
  refine (gd_t (⟨rfl, (PTM KM 177 _ rfl rfl), (PNM KM 177 rfl)⟩) _).trans ?_
  rfl
theorem q_M_needAhead_r4 {h : zH} (KM : KM h) : zBack zY 288 1 4 [some (zR (some 177))] [] (some (.inl (none), h)) =
    zBack zY 288 6 9 [some (zR (some 177))] [zR (some 177)] (zC 262 [zR (some 177)] h) := by
  refine (show zBack zY 288 1 4 [some (zR (some 177))] [] (some (.inl (none), h)) = gd (false = zctor 262 ∧ zcs [zR (some 177)] ≤ 8 ∧ zrm 288 (zrf 262 + 1) (8 + (zmaxl 262 + 11) + zrl 262) = true ∧ zcs [zR (some 177)] ≤ zmaxl 262) (gd (zob h (some 177) 12) (zBack zY 288 6 9 [some (zR (some 177))] [zR (some 177)] (zC 262 [zR (some 177)] h))) from zGo 3 288 4 _ _ _).trans ?_
  refine (gd_t (⟨rfl, Nat.le_of_ble_eq_true rfl, rfl, Nat.le_of_ble_eq_true rfl⟩) _).trans ?_
  refine (gd_t (⟨rfl, (PTM KM 177 _ rfl rfl), (PNM KM 177 rfl)⟩) _).trans ?_
  rfl
theorem q_M_needAhead_r9 {h : zH} {y : BitVec 64} (KM : KM h) : zBack zY 288 6 9 [some (zR (some 177))] [zR (some 177)] (some (.inl (some (zJ y)), h)) =
    some (.inl (some (zJ y)), (sI h 177 1 0)) := by
  refine (show zBack zY 288 6 9 [some (zR (some 177))] [zR (some 177)] (some (.inl (some (zJ y)), h)) = gd (false = zctor 281 ∧ zcs [] ≤ 8 ∧ zrm 288 (zrf 281 + 1) (8 + (zmaxl 281 + 11) + zrl 281) = true ∧ zcs [zR (some 177), zJ y] ≤ zmaxl 281) (gd (zob h (some 177) 12) (zBack zY 288 9 12 [some (zR (some 177))] [] (zC 281 [zR (some 177), zJ y] h))) from zGo 1 288 9 _ _ _).trans ?_
  refine (gd_t (⟨rfl, Nat.le_of_ble_eq_true rfl, rfl, Nat.le_of_ble_eq_true rfl⟩) _).trans ?_
  refine (gd_t (⟨rfl, (PTM KM 177 _ rfl rfl), (PNM KM 177 rfl)⟩) _).trans ?_
  refine (congrArg (zBack zY 288 9 12 [some (zR (some 177))] []) (q_M_toldSet KM)).trans ?_
  refine (show zY 288 12 [some (zR (some 177))] [zJ y] (sI h 177 1 0) = gd (([] : List zV).isEmpty = true ∧ zrk 288 = 2) (some (.inl (some (zJ y)), (sI h 177 1 0))) from zGo 1 288 12 _ _ _).trans ?_
  refine (gd_t (⟨rfl, rfl⟩) _).trans ?_
  rfl
theorem q_M_duty {h : zH} {x1 : Int} {x2 : Int} (KM : KM h) (g0 : (hI h 177 10 ≤ 24) := by omega) (g1 : (0 ≤ hI h 177 10) := by omega) (g2 : (-2147483648 ≤ (f_M_dutyMany h) - 1 ∧ (f_M_dutyMany h) - 1 < 2147483648) := by omega) (g3 : (b_M_isDuty h x1) → (b_M_in x2 0 3) → (¬ (x2 = 0)) → (x2 = 1) → (¬ (x1 = 0)) → (-2147483648 ≤ x1 - 1 ∧ x1 - 1 < 2147483648) → (0 ≤ (x1 - 1)) → ((¬ (((x1 - 1) / 3) < 0)) → (hI h 177 10 ≤ 24)) := by omega) : zC 289 [zR (some 177), zI x1, zI x2] h =
    if b_M_isDuty h x1 then
      if b_M_in x2 0 3 then
        if x2 = 0 then
          if x1 = 0 then
            some (.inl (some (zI 0)), (sI h 177 1 0))
          else
            gd (-2147483648 ≤ x1 - 1 ∧ x1 - 1 < 2147483648) (
            gd (-2147483648 < (x1 - 1)) (
            gd (-2147483648 ≤ 1 + (Int.tmod (x1 - 1) 3) ∧ 1 + (Int.tmod (x1 - 1) 3) < 2147483648) (
            some (.inl (some (zI (1 + (Int.tmod (x1 - 1) 3)))), (sI h 177 1 0)))))
        else
          if x2 = 1 then
            if x1 = 0 then
              some (.inl (some (zI (-1))), (sI h 177 1 0))
            else
              gd (-2147483648 ≤ x1 - 1 ∧ x1 - 1 < 2147483648) (
              gd (0 ≤ (x1 - 1)) (
              some (.inl (some (zI (f_M_loopAt h ((x1 - 1) / 3)))), (sI h 177 1 0))))
          else
            zBack zY 289 81 84 [some (zR (some 177)), some (zI x1), some (zI x2), none, none] [] (zC 246 [zR (some 177)] h)
      else
        some (.inl (some (zI 0)), (sI h 177 1 2))
    else
      some (.inl (some (zI 0)), (sI h 177 1 1)) := by
  refine (show zC 289 [zR (some 177), zI x1, zI x2] h = gd (false = zctor 290 ∧ zcs [] ≤ 8 ∧ zrm 289 (zrf 290 + 1) (8 + (zmaxl 290 + 11) + zrl 290) = true ∧ zcs [zR (some 177), zI x1] ≤ zmaxl 290) (gd (zob h (some 177) 12) (zBack zY 289 2 5 [some (zR (some 177)), some (zI x1), some (zI x2), none, none] [] (zC 290 [zR (some 177), zI x1] h))) from zGo 3 289 0 _ _ _).trans ?_
  refine (gd_t (⟨rfl, Nat.le_of_ble_eq_true rfl, rfl, Nat.le_of_ble_eq_true rfl⟩) _).trans ?_
  refine (gd_t (⟨rfl, (PTM KM 177 _ rfl rfl), (PNM KM 177 rfl)⟩) _).trans ?_
  refine (congrArg (zBack zY 289 2 5 [some (zR (some 177)), some (zI x1), some (zI x2), none, none] []) (e_M_isDuty KM (g0) (g1) (g2))).trans ?_
  refine (show zY 289 5 [some (zR (some 177)), some (zI x1), some (zI x2), none, none] [zI (if b_M_isDuty h x1 then (1 : Int) else 0)] h = if (if b_M_isDuty h x1 then (1 : Int) else 0) = 0 then zY 289 8 [some (zR (some 177)), some (zI x1), some (zI x2), none, none] [] h else zY 289 14 [some (zR (some 177)), some (zI x1), some (zI x2), none, none] [] h from zGo 1 289 5 _ _ _).trans ?_
  refine iteB (fun c0 => ?_) (fun c0 => ?_)
  · skip
    refine (show zY 289 14 [some (zR (some 177)), some (zI x1), some (zI x2), none, none] [] h = gd (inR (0)) (gd (inR (3)) (gd (false = zctor 214 ∧ zcs [] ≤ 8 ∧ zrm 289 (zrf 214 + 1) (8 + (zmaxl 214 + 11) + zrl 214) = true ∧ zcs [zI x2, zI 0, zI 3] ≤ zmaxl 214) (zBack zY 289 17 20 [some (zR (some 177)), some (zI x1), some (zI x2), none, none] [] (zC 214 [zI x2, zI 0, zI 3] h)))) from zGo 4 289 14 _ _ _).trans ?_
    refine (gd_t (by decide) _).trans ?_
    refine (gd_t (by decide) _).trans ?_
    refine (gd_t (⟨rfl, Nat.le_of_ble_eq_true rfl, rfl, Nat.le_of_ble_eq_true rfl⟩) _).trans ?_
    refine (congrArg (zBack zY 289 17 20 [some (zR (some 177)), some (zI x1), some (zI x2), none, none] []) (e_M_in)).trans ?_
    refine (show zY 289 20 [some (zR (some 177)), some (zI x1), some (zI x2), none, none] [zI (if b_M_in x2 0 3 then (1 : Int) else 0)] h = if (if b_M_in x2 0 3 then (1 : Int) else 0) = 0 then zY 289 23 [some (zR (some 177)), some (zI x1), some (zI x2), none, none] [] h else zY 289 29 [some (zR (some 177)), some (zI x1), some (zI x2), none, none] [] h from zGo 1 289 20 _ _ _).trans ?_
    refine iteB (fun c1 => ?_) (fun c1 => ?_)
    · skip
      refine (show zY 289 29 [some (zR (some 177)), some (zI x1), some (zI x2), none, none] [] h = if x2 = 0 then zY 289 33 [some (zR (some 177)), some (zI x1), some (zI x2), none, none] [] h else zY 289 53 [some (zR (some 177)), some (zI x1), some (zI x2), none, none] [] h from zGo 2 289 29 _ _ _).trans ?_
      refine iteC (fun c2 => ?_) (fun c2 => ?_)
      · skip
        refine (show zY 289 33 [some (zR (some 177)), some (zI x1), some (zI x2), none, none] [] h = if x1 = 0 then zY 289 38 [some (zR (some 177)), some (zI x1), some (zI x2), none, none] [zR (some 177)] h else zY 289 42 [some (zR (some 177)), some (zI x1), some (zI x2), none, none] [zR (some 177)] h from zGo 3 289 33 _ _ _).trans ?_
        refine iteC (fun c3 => ?_) (fun c3 => ?_)
        · skip
          refine (show zY 289 38 [some (zR (some 177)), some (zI x1), some (zI x2), none, none] [zR (some 177)] h = gd (inR (0)) (gd (false = zctor 212 ∧ zcs [] ≤ 8 ∧ zrm 289 (zrf 212 + 1) (8 + (zmaxl 212 + 11) + zrl 212) = true ∧ zcs [zR (some 177), zI 0] ≤ zmaxl 212) (gd (zob h (some 177) 12) (zBack zY 289 49 52 [some (zR (some 177)), some (zI x1), some (zI x2), none, none] [] (zC 212 [zR (some 177), zI 0] h)))) from zGo 3 289 38 _ _ _).trans ?_
          refine (gd_t (by decide) _).trans ?_
          refine (gd_t (⟨rfl, Nat.le_of_ble_eq_true rfl, rfl, Nat.le_of_ble_eq_true rfl⟩) _).trans ?_
          refine (gd_t (⟨rfl, (PTM KM 177 _ rfl rfl), (PNM KM 177 rfl)⟩) _).trans ?_
          refine (congrArg (zBack zY 289 49 52 [some (zR (some 177)), some (zI x1), some (zI x2), none, none] []) (q_M_told KM)).trans ?_
          refine (show zY 289 52 [some (zR (some 177)), some (zI x1), some (zI x2), none, none] [zI 0] (sI h 177 1 0) = gd (([] : List zV).isEmpty = true ∧ (zrk 289 = 1 ∨ zrk 289 = 6 ∧ ((0 : Int) = 0 ∨ (0 : Int) = 1))) (some (.inl (some (zI 0)), (sI h 177 1 0))) from zGo 1 289 52 _ _ _).trans ?_
          refine (gd_t (⟨rfl, Or.inl rfl⟩) _).trans ?_
          rfl
        · skip
          refine (show zY 289 42 [some (zR (some 177)), some (zI x1), some (zI x2), none, none] [zR (some 177)] h = gd (inR (1)) (gd (inR (1)) (gd (inR (x1 - 1)) (gd (inR (3)) (gd ((0 : Int) ≤ (x1 - 1) ∧ (0 : Int) < 3 ∨ (-2147483648 : Int) < (x1 - 1) ∧ (0 : Int) < 3) (gd (inR (1 + (Int.tmod (x1 - 1) 3))) (gd (false = zctor 212 ∧ zcs [] ≤ 8 ∧ zrm 289 (zrf 212 + 1) (8 + (zmaxl 212 + 11) + zrl 212) = true ∧ zcs [zR (some 177), zI (1 + (Int.tmod (x1 - 1) 3))] ≤ zmaxl 212) (gd (zob h (some 177) 12) (zBack zY 289 49 52 [some (zR (some 177)), some (zI x1), some (zI x2), none, none] [] (zC 212 [zR (some 177), zI (1 + (Int.tmod (x1 - 1) 3))] h))))))))) from zGo 8 289 42 _ _ _).trans ?_
          refine (gd_t (by decide) _).trans ?_
          refine (gd_t (by decide) _).trans ?_
          refine gd_c Iff.rfl (fun c4 => ?_)
          refine (gd_t (by decide) _).trans ?_
          refine gd_c (irem_c1 (by decide)) (fun c5 => ?_)
          refine gd_c Iff.rfl (fun c6 => ?_)
          refine (gd_t (⟨rfl, Nat.le_of_ble_eq_true rfl, rfl, Nat.le_of_ble_eq_true rfl⟩) _).trans ?_
          refine (gd_t (⟨rfl, (PTM KM 177 _ rfl rfl), (PNM KM 177 rfl)⟩) _).trans ?_
          refine (congrArg (zBack zY 289 49 52 [some (zR (some 177)), some (zI x1), some (zI x2), none, none] []) (q_M_told KM)).trans ?_
          refine (show zY 289 52 [some (zR (some 177)), some (zI x1), some (zI x2), none, none] [zI (1 + (Int.tmod (x1 - 1) 3))] (sI h 177 1 0) = gd (([] : List zV).isEmpty = true ∧ (zrk 289 = 1 ∨ zrk 289 = 6 ∧ (((1 + (Int.tmod (x1 - 1) 3)) : Int) = 0 ∨ ((1 + (Int.tmod (x1 - 1) 3)) : Int) = 1))) (some (.inl (some (zI (1 + (Int.tmod (x1 - 1) 3)))), (sI h 177 1 0))) from zGo 1 289 52 _ _ _).trans ?_
          refine (gd_t (⟨rfl, Or.inl rfl⟩) _).trans ?_
          rfl
      · skip
        refine (show zY 289 53 [some (zR (some 177)), some (zI x1), some (zI x2), none, none] [] h = gd (inR (1)) (if x2 = 1 then zY 289 58 [some (zR (some 177)), some (zI x1), some (zI x2), none, none] [] h else zY 289 80 [some (zR (some 177)), some (zI x1), some (zI x2), none, none] [] h) from zGo 3 289 53 _ _ _).trans ?_
        refine (gd_t (by decide) _).trans ?_
        refine iteC (fun c7 => ?_) (fun c7 => ?_)
        · skip
          refine (show zY 289 58 [some (zR (some 177)), some (zI x1), some (zI x2), none, none] [] h = if x1 = 0 then zY 289 63 [some (zR (some 177)), some (zI x1), some (zI x2), none, none] [zR (some 177)] h else zY 289 67 [some (zR (some 177)), some (zI x1), some (zI x2), none, none] [zR (some 177)] h from zGo 3 289 58 _ _ _).trans ?_
          refine iteC (fun c8 => ?_) (fun c8 => ?_)
          · skip
            refine (show zY 289 63 [some (zR (some 177)), some (zI x1), some (zI x2), none, none] [zR (some 177)] h = gd (inR (-1)) (gd (false = zctor 212 ∧ zcs [] ≤ 8 ∧ zrm 289 (zrf 212 + 1) (8 + (zmaxl 212 + 11) + zrl 212) = true ∧ zcs [zR (some 177), zI (-1)] ≤ zmaxl 212) (gd (zob h (some 177) 12) (zBack zY 289 76 79 [some (zR (some 177)), some (zI x1), some (zI x2), none, none] [] (zC 212 [zR (some 177), zI (-1)] h)))) from zGo 3 289 63 _ _ _).trans ?_
            refine (gd_t (by decide) _).trans ?_
            refine (gd_t (⟨rfl, Nat.le_of_ble_eq_true rfl, rfl, Nat.le_of_ble_eq_true rfl⟩) _).trans ?_
            refine (gd_t (⟨rfl, (PTM KM 177 _ rfl rfl), (PNM KM 177 rfl)⟩) _).trans ?_
            refine (congrArg (zBack zY 289 76 79 [some (zR (some 177)), some (zI x1), some (zI x2), none, none] []) (q_M_told KM)).trans ?_
            refine (show zY 289 79 [some (zR (some 177)), some (zI x1), some (zI x2), none, none] [zI (-1)] (sI h 177 1 0) = gd (([] : List zV).isEmpty = true ∧ (zrk 289 = 1 ∨ zrk 289 = 6 ∧ (((-1) : Int) = 0 ∨ ((-1) : Int) = 1))) (some (.inl (some (zI (-1))), (sI h 177 1 0))) from zGo 1 289 79 _ _ _).trans ?_
            refine (gd_t (⟨rfl, Or.inl rfl⟩) _).trans ?_
            rfl
          · skip
            refine (show zY 289 67 [some (zR (some 177)), some (zI x1), some (zI x2), none, none] [zR (some 177)] h = gd (inR (1)) (gd (inR (x1 - 1)) (gd (inR (3)) (gd ((0 : Int) ≤ (x1 - 1) ∧ (0 : Int) < 3) (gd (false = zctor 263 ∧ zcs [zR (some 177)] ≤ 8 ∧ zrm 289 (zrf 263 + 1) (8 + (zmaxl 263 + 11) + zrl 263) = true ∧ zcs [zR (some 177), zI ((x1 - 1) / 3)] ≤ zmaxl 263) (gd (zob h (some 177) 12) (zBack zY 289 73 76 [some (zR (some 177)), some (zI x1), some (zI x2), none, none] [zR (some 177)] (zC 263 [zR (some 177), zI ((x1 - 1) / 3)] h))))))) from zGo 7 289 67 _ _ _).trans ?_
            refine (gd_t (by decide) _).trans ?_
            refine gd_c Iff.rfl (fun c9 => ?_)
            refine (gd_t (by decide) _).trans ?_
            refine gd_c (idiv_c1 (by decide)) (fun c10 => ?_)
            refine (gd_t (⟨rfl, Nat.le_of_ble_eq_true rfl, rfl, Nat.le_of_ble_eq_true rfl⟩) _).trans ?_
            refine (gd_t (⟨rfl, (PTM KM 177 _ rfl rfl), (PNM KM 177 rfl)⟩) _).trans ?_
            refine (congrArg (zBack zY 289 73 76 [some (zR (some 177)), some (zI x1), some (zI x2), none, none] [zR (some 177)]) (e_M_loopAt KM (g3 c0 c1 c2 c7 c8 c9 c10))).trans ?_
            refine (show zY 289 76 [some (zR (some 177)), some (zI x1), some (zI x2), none, none] [zI (f_M_loopAt h ((x1 - 1) / 3)), zR (some 177)] h = gd (false = zctor 212 ∧ zcs [] ≤ 8 ∧ zrm 289 (zrf 212 + 1) (8 + (zmaxl 212 + 11) + zrl 212) = true ∧ zcs [zR (some 177), zI (f_M_loopAt h ((x1 - 1) / 3))] ≤ zmaxl 212) (gd (zob h (some 177) 12) (zBack zY 289 76 79 [some (zR (some 177)), some (zI x1), some (zI x2), none, none] [] (zC 212 [zR (some 177), zI (f_M_loopAt h ((x1 - 1) / 3))] h))) from zGo 1 289 76 _ _ _).trans ?_
            refine (gd_t (⟨rfl, Nat.le_of_ble_eq_true rfl, rfl, Nat.le_of_ble_eq_true rfl⟩) _).trans ?_
            refine (gd_t (⟨rfl, (PTM KM 177 _ rfl rfl), (PNM KM 177 rfl)⟩) _).trans ?_
            refine (congrArg (zBack zY 289 76 79 [some (zR (some 177)), some (zI x1), some (zI x2), none, none] []) (q_M_told KM)).trans ?_
            refine (show zY 289 79 [some (zR (some 177)), some (zI x1), some (zI x2), none, none] [zI (f_M_loopAt h ((x1 - 1) / 3))] (sI h 177 1 0) = gd (([] : List zV).isEmpty = true ∧ (zrk 289 = 1 ∨ zrk 289 = 6 ∧ (((f_M_loopAt h ((x1 - 1) / 3)) : Int) = 0 ∨ ((f_M_loopAt h ((x1 - 1) / 3)) : Int) = 1))) (some (.inl (some (zI (f_M_loopAt h ((x1 - 1) / 3)))), (sI h 177 1 0))) from zGo 1 289 79 _ _ _).trans ?_
            refine (gd_t (⟨rfl, Or.inl rfl⟩) _).trans ?_
            rfl
        · skip
          refine (show zY 289 80 [some (zR (some 177)), some (zI x1), some (zI x2), none, none] [] h = gd (false = zctor 246 ∧ zcs [] ≤ 8 ∧ zrm 289 (zrf 246 + 1) (8 + (zmaxl 246 + 11) + zrl 246) = true ∧ zcs [zR (some 177)] ≤ zmaxl 246) (gd (zob h (some 177) 12) (zBack zY 289 81 84 [some (zR (some 177)), some (zI x1), some (zI x2), none, none] [] (zC 246 [zR (some 177)] h))) from zGo 2 289 80 _ _ _).trans ?_
          refine (gd_t (⟨rfl, Nat.le_of_ble_eq_true rfl, rfl, Nat.le_of_ble_eq_true rfl⟩) _).trans ?_
          refine (gd_t (⟨rfl, (PTM KM 177 _ rfl rfl), (PNM KM 177 rfl)⟩) _).trans ?_
          rfl
    · skip
      refine (show zY 289 23 [some (zR (some 177)), some (zI x1), some (zI x2), none, none] [] h = gd (inR (2)) (gd (false = zctor 210 ∧ zcs [] ≤ 8 ∧ zrm 289 (zrf 210 + 1) (8 + (zmaxl 210 + 11) + zrl 210) = true ∧ zcs [zR (some 177), zI 2] ≤ zmaxl 210) (gd (zob h (some 177) 12) (zBack zY 289 25 28 [some (zR (some 177)), some (zI x1), some (zI x2), none, none] [] (zC 210 [zR (some 177), zI 2] h)))) from zGo 3 289 23 _ _ _).trans ?_
      refine (gd_t (by decide) _).trans ?_
      refine (gd_t (⟨rfl, Nat.le_of_ble_eq_true rfl, rfl, Nat.le_of_ble_eq_true rfl⟩) _).trans ?_
      refine (gd_t (⟨rfl, (PTM KM 177 _ rfl rfl), (PNM KM 177 rfl)⟩) _).trans ?_
      refine (congrArg (zBack zY 289 25 28 [some (zR (some 177)), some (zI x1), some (zI x2), none, none] []) (q_M_refuse KM)).trans ?_
      refine (show zY 289 28 [some (zR (some 177)), some (zI x1), some (zI x2), none, none] [zI 0] (sI h 177 1 2) = gd (([] : List zV).isEmpty = true ∧ (zrk 289 = 1 ∨ zrk 289 = 6 ∧ ((0 : Int) = 0 ∨ (0 : Int) = 1))) (some (.inl (some (zI 0)), (sI h 177 1 2))) from zGo 1 289 28 _ _ _).trans ?_
      refine (gd_t (⟨rfl, Or.inl rfl⟩) _).trans ?_
      rfl
  · skip
    refine (show zY 289 8 [some (zR (some 177)), some (zI x1), some (zI x2), none, none] [] h = gd (inR (1)) (gd (false = zctor 210 ∧ zcs [] ≤ 8 ∧ zrm 289 (zrf 210 + 1) (8 + (zmaxl 210 + 11) + zrl 210) = true ∧ zcs [zR (some 177), zI 1] ≤ zmaxl 210) (gd (zob h (some 177) 12) (zBack zY 289 10 13 [some (zR (some 177)), some (zI x1), some (zI x2), none, none] [] (zC 210 [zR (some 177), zI 1] h)))) from zGo 3 289 8 _ _ _).trans ?_
    refine (gd_t (by decide) _).trans ?_
    refine (gd_t (⟨rfl, Nat.le_of_ble_eq_true rfl, rfl, Nat.le_of_ble_eq_true rfl⟩) _).trans ?_
    refine (gd_t (⟨rfl, (PTM KM 177 _ rfl rfl), (PNM KM 177 rfl)⟩) _).trans ?_
    refine (congrArg (zBack zY 289 10 13 [some (zR (some 177)), some (zI x1), some (zI x2), none, none] []) (q_M_refuse KM)).trans ?_
    refine (show zY 289 13 [some (zR (some 177)), some (zI x1), some (zI x2), none, none] [zI 0] (sI h 177 1 1) = gd (([] : List zV).isEmpty = true ∧ (zrk 289 = 1 ∨ zrk 289 = 6 ∧ ((0 : Int) = 0 ∨ (0 : Int) = 1))) (some (.inl (some (zI 0)), (sI h 177 1 1))) from zGo 1 289 13 _ _ _).trans ?_
    refine (gd_t (⟨rfl, Or.inl rfl⟩) _).trans ?_
    rfl
theorem q_M_duty_r84 {h : zH} {x1 : Int} {x2 : Int} (KM : KM h) : zBack zY 289 81 84 [some (zR (some 177)), some (zI x1), some (zI x2), none, none] [] (some (.inl (none), h)) =
    zBack zY 289 86 89 [some (zR (some 177)), some (zI x1), some (zI x2), none, none] [] (zC 261 [zR (some 177), zI x1] h) := by
  refine (show zBack zY 289 81 84 [some (zR (some 177)), some (zI x1), some (zI x2), none, none] [] (some (.inl (none), h)) = gd (false = zctor 261 ∧ zcs [] ≤ 8 ∧ zrm 289 (zrf 261 + 1) (8 + (zmaxl 261 + 11) + zrl 261) = true ∧ zcs [zR (some 177), zI x1] ≤ zmaxl 261) (gd (zob h (some 177) 12) (zBack zY 289 86 89 [some (zR (some 177)), some (zI x1), some (zI x2), none, none] [] (zC 261 [zR (some 177), zI x1] h))) from zGo 3 289 84 _ _ _).trans ?_
  refine (gd_t (⟨rfl, Nat.le_of_ble_eq_true rfl, rfl, Nat.le_of_ble_eq_true rfl⟩) _).trans ?_
  refine (gd_t (⟨rfl, (PTM KM 177 _ rfl rfl), (PNM KM 177 rfl)⟩) _).trans ?_
  rfl
theorem q_M_duty_r89 {h : zH} {x1 : Int} {x2 : Int} {y : BitVec 64} (KM : KM h) : zBack zY 289 86 89 [some (zR (some 177)), some (zI x1), some (zI x2), none, none] [] (some (.inl (some (zJ y)), h)) =
    if x2 = 2 then
      some (.inl (some (zI (f_M_ones y))), (sI h 177 1 0))
    else
      some (.inl (some (zI (f_M_leastOf y))), (sI h 177 1 0)) := by
  refine (show zBack zY 289 86 89 [some (zR (some 177)), some (zI x1), some (zI x2), none, none] [] (some (.inl (some (zJ y)), h)) = gd (inR (2)) (if x2 = 2 then zY 289 96 [some (zR (some 177)), some (zI x1), some (zI x2), some (zJ y), none] [zR (some 177)] h else zY 289 103 [some (zR (some 177)), some (zI x1), some (zI x2), some (zJ y), none] [zR (some 177)] h) from zGo 5 289 89 _ _ _).trans ?_
  refine (gd_t (by decide) _).trans ?_
  refine iteC (fun c0 => ?_) (fun c0 => ?_)
  · skip
    refine (show zY 289 96 [some (zR (some 177)), some (zI x1), some (zI x2), some (zJ y), none] [zR (some 177)] h = gd (false = zctor 291 ∧ zcs [zR (some 177)] ≤ 8 ∧ zrm 289 (zrf 291 + 1) (8 + (zmaxl 291 + 11) + zrl 291) = true ∧ zcs [zJ y] ≤ zmaxl 291) (zBack zY 289 97 100 [some (zR (some 177)), some (zI x1), some (zI x2), some (zJ y), none] [zR (some 177)] (zC 291 [zJ y] h)) from zGo 2 289 96 _ _ _).trans ?_
    refine (gd_t (⟨rfl, Nat.le_of_ble_eq_true rfl, rfl, Nat.le_of_ble_eq_true rfl⟩) _).trans ?_
    refine (congrArg (zBack zY 289 97 100 [some (zR (some 177)), some (zI x1), some (zI x2), some (zJ y), none] [zR (some 177)]) (e_M_ones)).trans ?_
    refine (show zY 289 100 [some (zR (some 177)), some (zI x1), some (zI x2), some (zJ y), none] [zI (f_M_ones y), zR (some 177)] h = gd (false = zctor 212 ∧ zcs [] ≤ 8 ∧ zrm 289 (zrf 212 + 1) (8 + (zmaxl 212 + 11) + zrl 212) = true ∧ zcs [zR (some 177), zI (f_M_ones y)] ≤ zmaxl 212) (gd (zob h (some 177) 12) (zBack zY 289 107 110 [some (zR (some 177)), some (zI x1), some (zI x2), some (zJ y), none] [] (zC 212 [zR (some 177), zI (f_M_ones y)] h))) from zGo 2 289 100 _ _ _).trans ?_
    refine (gd_t (⟨rfl, Nat.le_of_ble_eq_true rfl, rfl, Nat.le_of_ble_eq_true rfl⟩) _).trans ?_
    refine (gd_t (⟨rfl, (PTM KM 177 _ rfl rfl), (PNM KM 177 rfl)⟩) _).trans ?_
    refine (congrArg (zBack zY 289 107 110 [some (zR (some 177)), some (zI x1), some (zI x2), some (zJ y), none] []) (q_M_told KM)).trans ?_
    refine (show zY 289 110 [some (zR (some 177)), some (zI x1), some (zI x2), some (zJ y), none] [zI (f_M_ones y)] (sI h 177 1 0) = gd (([] : List zV).isEmpty = true ∧ (zrk 289 = 1 ∨ zrk 289 = 6 ∧ (((f_M_ones y) : Int) = 0 ∨ ((f_M_ones y) : Int) = 1))) (some (.inl (some (zI (f_M_ones y))), (sI h 177 1 0))) from zGo 1 289 110 _ _ _).trans ?_
    refine (gd_t (⟨rfl, Or.inl rfl⟩) _).trans ?_
    rfl
  · skip
    refine (show zY 289 103 [some (zR (some 177)), some (zI x1), some (zI x2), some (zJ y), none] [zR (some 177)] h = gd (false = zctor 292 ∧ zcs [zR (some 177)] ≤ 8 ∧ zrm 289 (zrf 292 + 1) (8 + (zmaxl 292 + 11) + zrl 292) = true ∧ zcs [zJ y] ≤ zmaxl 292) (zBack zY 289 104 107 [some (zR (some 177)), some (zI x1), some (zI x2), some (zJ y), none] [zR (some 177)] (zC 292 [zJ y] h)) from zGo 2 289 103 _ _ _).trans ?_
    refine (gd_t (⟨rfl, Nat.le_of_ble_eq_true rfl, rfl, Nat.le_of_ble_eq_true rfl⟩) _).trans ?_
    refine (congrArg (zBack zY 289 104 107 [some (zR (some 177)), some (zI x1), some (zI x2), some (zJ y), none] [zR (some 177)]) (e_M_leastOf)).trans ?_
    refine (show zY 289 107 [some (zR (some 177)), some (zI x1), some (zI x2), some (zJ y), none] [zI (f_M_leastOf y), zR (some 177)] h = gd (false = zctor 212 ∧ zcs [] ≤ 8 ∧ zrm 289 (zrf 212 + 1) (8 + (zmaxl 212 + 11) + zrl 212) = true ∧ zcs [zR (some 177), zI (f_M_leastOf y)] ≤ zmaxl 212) (gd (zob h (some 177) 12) (zBack zY 289 107 110 [some (zR (some 177)), some (zI x1), some (zI x2), some (zJ y), none] [] (zC 212 [zR (some 177), zI (f_M_leastOf y)] h))) from zGo 1 289 107 _ _ _).trans ?_
    refine (gd_t (⟨rfl, Nat.le_of_ble_eq_true rfl, rfl, Nat.le_of_ble_eq_true rfl⟩) _).trans ?_
    refine (gd_t (⟨rfl, (PTM KM 177 _ rfl rfl), (PNM KM 177 rfl)⟩) _).trans ?_
    refine (congrArg (zBack zY 289 107 110 [some (zR (some 177)), some (zI x1), some (zI x2), some (zJ y), none] []) (q_M_told KM)).trans ?_
    refine (show zY 289 110 [some (zR (some 177)), some (zI x1), some (zI x2), some (zJ y), none] [zI (f_M_leastOf y)] (sI h 177 1 0) = gd (([] : List zV).isEmpty = true ∧ (zrk 289 = 1 ∨ zrk 289 = 6 ∧ (((f_M_leastOf y) : Int) = 0 ∨ ((f_M_leastOf y) : Int) = 1))) (some (.inl (some (zI (f_M_leastOf y))), (sI h 177 1 0))) from zGo 1 289 110 _ _ _).trans ?_
    refine (gd_t (⟨rfl, Or.inl rfl⟩) _).trans ?_
    rfl
theorem q_M_failing {h : zH} {x1 : Int} (KM : KM h) (g0 : (hI h 177 10 ≤ 24) := by omega) (g1 : (0 ≤ hI h 177 10) := by omega) (g2 : (-2147483648 ≤ (f_M_dutyMany h) - 1 ∧ (f_M_dutyMany h) - 1 < 2147483648) := by omega) : zC 293 [zR (some 177), zI x1] h =
    if b_M_isDuty h x1 then
      zBack zY 293 14 17 [some (zR (some 177)), some (zI x1)] [] (zC 246 [zR (some 177)] h)
    else
      some (.inl (some (zJ (0#64))), (sI h 177 1 1)) := by
  refine (show zC 293 [zR (some 177), zI x1] h = gd (false = zctor 290 ∧ zcs [] ≤ 8 ∧ zrm 293 (zrf 290 + 1) (8 + (zmaxl 290 + 11) + zrl 290) = true ∧ zcs [zR (some 177), zI x1] ≤ zmaxl 290) (gd (zob h (some 177) 12) (zBack zY 293 2 5 [some (zR (some 177)), some (zI x1)] [] (zC 290 [zR (some 177), zI x1] h))) from zGo 3 293 0 _ _ _).trans ?_
  refine (gd_t (⟨rfl, Nat.le_of_ble_eq_true rfl, rfl, Nat.le_of_ble_eq_true rfl⟩) _).trans ?_
  refine (gd_t (⟨rfl, (PTM KM 177 _ rfl rfl), (PNM KM 177 rfl)⟩) _).trans ?_
  refine (congrArg (zBack zY 293 2 5 [some (zR (some 177)), some (zI x1)] []) (e_M_isDuty KM (g0) (g1) (g2))).trans ?_
  refine (show zY 293 5 [some (zR (some 177)), some (zI x1)] [zI (if b_M_isDuty h x1 then (1 : Int) else 0)] h = if (if b_M_isDuty h x1 then (1 : Int) else 0) = 0 then zY 293 8 [some (zR (some 177)), some (zI x1)] [] h else zY 293 13 [some (zR (some 177)), some (zI x1)] [] h from zGo 1 293 5 _ _ _).trans ?_
  refine iteB (fun c0 => ?_) (fun c0 => ?_)
  · skip
    refine (show zY 293 13 [some (zR (some 177)), some (zI x1)] [] h = gd (false = zctor 246 ∧ zcs [] ≤ 8 ∧ zrm 293 (zrf 246 + 1) (8 + (zmaxl 246 + 11) + zrl 246) = true ∧ zcs [zR (some 177)] ≤ zmaxl 246) (gd (zob h (some 177) 12) (zBack zY 293 14 17 [some (zR (some 177)), some (zI x1)] [] (zC 246 [zR (some 177)] h))) from zGo 2 293 13 _ _ _).trans ?_
    refine (gd_t (⟨rfl, Nat.le_of_ble_eq_true rfl, rfl, Nat.le_of_ble_eq_true rfl⟩) _).trans ?_
    refine (gd_t (⟨rfl, (PTM KM 177 _ rfl rfl), (PNM KM 177 rfl)⟩) _).trans ?_
    rfl
  · skip
    refine (show zY 293 8 [some (zR (some 177)), some (zI x1)] [] h = gd (false = zctor 284 ∧ zcs [] ≤ 8 ∧ zrm 293 (zrf 284 + 1) (8 + (zmaxl 284 + 11) + zrl 284) = true ∧ zcs [zR (some 177)] ≤ zmaxl 284) (gd (zob h (some 177) 12) (zBack zY 293 9 12 [some (zR (some 177)), some (zI x1)] [] (zC 284 [zR (some 177)] h))) from zGo 2 293 8 _ _ _).trans ?_
    refine (gd_t (⟨rfl, Nat.le_of_ble_eq_true rfl, rfl, Nat.le_of_ble_eq_true rfl⟩) _).trans ?_
    refine (gd_t (⟨rfl, (PTM KM 177 _ rfl rfl), (PNM KM 177 rfl)⟩) _).trans ?_
    refine (congrArg (zBack zY 293 9 12 [some (zR (some 177)), some (zI x1)] []) (q_M_noSet KM)).trans ?_
    refine (show zY 293 12 [some (zR (some 177)), some (zI x1)] [zJ (0#64)] (sI h 177 1 1) = gd (([] : List zV).isEmpty = true ∧ zrk 293 = 2) (some (.inl (some (zJ (0#64))), (sI h 177 1 1))) from zGo 1 293 12 _ _ _).trans ?_
    refine (gd_t (⟨rfl, rfl⟩) _).trans ?_
    rfl
theorem q_M_failing_r17 {h : zH} {x1 : Int} (KM : KM h) : zBack zY 293 14 17 [some (zR (some 177)), some (zI x1)] [] (some (.inl (none), h)) =
    zBack zY 293 20 23 [some (zR (some 177)), some (zI x1)] [zR (some 177)] (zC 261 [zR (some 177), zI x1] h) := by
  refine (show zBack zY 293 14 17 [some (zR (some 177)), some (zI x1)] [] (some (.inl (none), h)) = gd (false = zctor 261 ∧ zcs [zR (some 177)] ≤ 8 ∧ zrm 293 (zrf 261 + 1) (8 + (zmaxl 261 + 11) + zrl 261) = true ∧ zcs [zR (some 177), zI x1] ≤ zmaxl 261) (gd (zob h (some 177) 12) (zBack zY 293 20 23 [some (zR (some 177)), some (zI x1)] [zR (some 177)] (zC 261 [zR (some 177), zI x1] h))) from zGo 4 293 17 _ _ _).trans ?_
  refine (gd_t (⟨rfl, Nat.le_of_ble_eq_true rfl, rfl, Nat.le_of_ble_eq_true rfl⟩) _).trans ?_
  refine (gd_t (⟨rfl, (PTM KM 177 _ rfl rfl), (PNM KM 177 rfl)⟩) _).trans ?_
  rfl
theorem q_M_failing_r23 {h : zH} {x1 : Int} {y : BitVec 64} (KM : KM h) : zBack zY 293 20 23 [some (zR (some 177)), some (zI x1)] [zR (some 177)] (some (.inl (some (zJ y)), h)) =
    some (.inl (some (zJ y)), (sI h 177 1 0)) := by
  refine (show zBack zY 293 20 23 [some (zR (some 177)), some (zI x1)] [zR (some 177)] (some (.inl (some (zJ y)), h)) = gd (false = zctor 281 ∧ zcs [] ≤ 8 ∧ zrm 293 (zrf 281 + 1) (8 + (zmaxl 281 + 11) + zrl 281) = true ∧ zcs [zR (some 177), zJ y] ≤ zmaxl 281) (gd (zob h (some 177) 12) (zBack zY 293 23 26 [some (zR (some 177)), some (zI x1)] [] (zC 281 [zR (some 177), zJ y] h))) from zGo 1 293 23 _ _ _).trans ?_
  refine (gd_t (⟨rfl, Nat.le_of_ble_eq_true rfl, rfl, Nat.le_of_ble_eq_true rfl⟩) _).trans ?_
  refine (gd_t (⟨rfl, (PTM KM 177 _ rfl rfl), (PNM KM 177 rfl)⟩) _).trans ?_
  refine (congrArg (zBack zY 293 23 26 [some (zR (some 177)), some (zI x1)] []) (q_M_toldSet KM)).trans ?_
  refine (show zY 293 26 [some (zR (some 177)), some (zI x1)] [zJ y] (sI h 177 1 0) = gd (([] : List zV).isEmpty = true ∧ zrk 293 = 2) (some (.inl (some (zJ y)), (sI h 177 1 0))) from zGo 1 293 26 _ _ _).trans ?_
  refine (gd_t (⟨rfl, rfl⟩) _).trans ?_
  rfl
theorem q_M_trouble {h : zH} (KM : KM h) : zC 294 [zR (some 177)] h =
    zBack zY 294 1 4 [some (zR (some 177)), none] [] (zC 246 [zR (some 177)] h) := by
  refine (show zC 294 [zR (some 177)] h = gd (false = zctor 246 ∧ zcs [] ≤ 8 ∧ zrm 294 (zrf 246 + 1) (8 + (zmaxl 246 + 11) + zrl 246) = true ∧ zcs [zR (some 177)] ≤ zmaxl 246) (gd (zob h (some 177) 12) (zBack zY 294 1 4 [some (zR (some 177)), none] [] (zC 246 [zR (some 177)] h))) from zGo 2 294 0 _ _ _).trans ?_
  refine (gd_t (⟨rfl, Nat.le_of_ble_eq_true rfl, rfl, Nat.le_of_ble_eq_true rfl⟩) _).trans ?_
  refine (gd_t (⟨rfl, (PTM KM 177 _ rfl rfl), (PNM KM 177 rfl)⟩) _).trans ?_
  rfl
theorem q_M_trouble_r4 {h : zH} (KM : KM h) : zBack zY 294 1 4 [some (zR (some 177)), none] [] (some (.inl (none), h)) =
    zY 294 6 [some (zR (some 177)), some (zI 0)] [] h := by
  refine (show zBack zY 294 1 4 [some (zR (some 177)), none] [] (some (.inl (none), h)) = gd (inR (0)) (zY 294 6 [some (zR (some 177)), some (zI 0)] [] h) from zGo 2 294 4 _ _ _).trans ?_
  refine (gd_t (by decide) _).trans ?_
  rfl
theorem q_M_trouble_6 {h : zH} {x1 : Int} (KM : KM h) (g0 : (hI h 177 10 ≤ 24) := by omega) (g1 : (0 ≤ hI h 177 10) := by omega) : zY 294 6 [some (zR (some 177)), some (zI x1)] [] h =
    if x1 < (f_M_dutyMany h) then
      zBack zY 294 16 19 [some (zR (some 177)), some (zI x1)] [] (zC 261 [zR (some 177), zI x1] h)
    else
      some (.inl (some (zI (-1))), (sI h 177 1 0)) := by
  refine (show zY 294 6 [some (zR (some 177)), some (zI x1)] [] h = gd (false = zctor 244 ∧ zcs [zI x1] ≤ 8 ∧ zrm 294 (zrf 244 + 1) (8 + (zmaxl 244 + 11) + zrl 244) = true ∧ zcs [zR (some 177)] ≤ zmaxl 244) (gd (zob h (some 177) 12) (zBack zY 294 8 11 [some (zR (some 177)), some (zI x1)] [zI x1] (zC 244 [zR (some 177)] h))) from zGo 3 294 6 _ _ _).trans ?_
  refine (gd_t (⟨rfl, Nat.le_of_ble_eq_true rfl, rfl, Nat.le_of_ble_eq_true rfl⟩) _).trans ?_
  refine (gd_t (⟨rfl, (PTM KM 177 _ rfl rfl), (PNM KM 177 rfl)⟩) _).trans ?_
  refine (congrArg (zBack zY 294 8 11 [some (zR (some 177)), some (zI x1)] [zI x1]) (e_M_dutyManyx KM (g0) (g1))).trans ?_
  refine (show zY 294 11 [some (zR (some 177)), some (zI x1)] [zI (f_M_dutyMany h), zI x1] h = if x1 < (f_M_dutyMany h) then zY 294 14 [some (zR (some 177)), some (zI x1)] [] h else zY 294 36 [some (zR (some 177)), some (zI x1)] [] h from zGo 1 294 11 _ _ _).trans ?_
  refine iteC (fun c0 => ?_) (fun c0 => ?_)
  · skip
    refine (show zY 294 14 [some (zR (some 177)), some (zI x1)] [] h = gd (false = zctor 261 ∧ zcs [] ≤ 8 ∧ zrm 294 (zrf 261 + 1) (8 + (zmaxl 261 + 11) + zrl 261) = true ∧ zcs [zR (some 177), zI x1] ≤ zmaxl 261) (gd (zob h (some 177) 12) (zBack zY 294 16 19 [some (zR (some 177)), some (zI x1)] [] (zC 261 [zR (some 177), zI x1] h))) from zGo 3 294 14 _ _ _).trans ?_
    refine (gd_t (⟨rfl, Nat.le_of_ble_eq_true rfl, rfl, Nat.le_of_ble_eq_true rfl⟩) _).trans ?_
    refine (gd_t (⟨rfl, (PTM KM 177 _ rfl rfl), (PNM KM 177 rfl)⟩) _).trans ?_
    rfl
  · skip
    refine (show zY 294 36 [some (zR (some 177)), some (zI x1)] [] h = gd (inR (-1)) (gd (false = zctor 212 ∧ zcs [] ≤ 8 ∧ zrm 294 (zrf 212 + 1) (8 + (zmaxl 212 + 11) + zrl 212) = true ∧ zcs [zR (some 177), zI (-1)] ≤ zmaxl 212) (gd (zob h (some 177) 12) (zBack zY 294 38 41 [some (zR (some 177)), some (zI x1)] [] (zC 212 [zR (some 177), zI (-1)] h)))) from zGo 3 294 36 _ _ _).trans ?_
    refine (gd_t (by decide) _).trans ?_
    refine (gd_t (⟨rfl, Nat.le_of_ble_eq_true rfl, rfl, Nat.le_of_ble_eq_true rfl⟩) _).trans ?_
    refine (gd_t (⟨rfl, (PTM KM 177 _ rfl rfl), (PNM KM 177 rfl)⟩) _).trans ?_
    refine (congrArg (zBack zY 294 38 41 [some (zR (some 177)), some (zI x1)] []) (q_M_told KM)).trans ?_
    refine (show zY 294 41 [some (zR (some 177)), some (zI x1)] [zI (-1)] (sI h 177 1 0) = gd (([] : List zV).isEmpty = true ∧ (zrk 294 = 1 ∨ zrk 294 = 6 ∧ (((-1) : Int) = 0 ∨ ((-1) : Int) = 1))) (some (.inl (some (zI (-1))), (sI h 177 1 0))) from zGo 1 294 41 _ _ _).trans ?_
    refine (gd_t (⟨rfl, Or.inl rfl⟩) _).trans ?_
    rfl
theorem q_M_trouble_r19 {h : zH} {x1 : Int} {y : BitVec 64} (KM : KM h) : zBack zY 294 16 19 [some (zR (some 177)), some (zI x1)] [] (some (.inl (some (zJ y)), h)) =
    if y = 0#64 then
      gd (-2147483648 ≤ x1 + 1 ∧ x1 + 1 < 2147483648) (
      zY 294 6 [some (zR (some 177)), some (zI (x1 + 1))] [] h)
    else
      some (.inl (some (zI x1)), (sI h 177 1 0)) := by
  refine (show zBack zY 294 16 19 [some (zR (some 177)), some (zI x1)] [] (some (.inl (some (zJ y)), h)) = if (zlcmp y (0#64)) = 0 then zY 294 30 [some (zR (some 177)), some (zI x1)] [] h else zY 294 24 [some (zR (some 177)), some (zI x1)] [] h from zGo 3 294 19 _ _ _).trans ?_
  refine iteL (fun c0 => ?_) (fun c0 => ?_)
  · skip
    refine (show zY 294 30 [some (zR (some 177)), some (zI x1)] [] h = gd (inR (x1 + 1)) (gd (inR (1)) (zY 294 6 [some (zR (some 177)), some (zI (x1 + 1))] [] h)) from zGo 2 294 30 _ _ _).trans ?_
    refine gd_c Iff.rfl (fun c1 => ?_)
    refine (gd_t (by decide) _).trans ?_
    rfl
  · skip
    refine (show zY 294 24 [some (zR (some 177)), some (zI x1)] [] h = gd (false = zctor 212 ∧ zcs [] ≤ 8 ∧ zrm 294 (zrf 212 + 1) (8 + (zmaxl 212 + 11) + zrl 212) = true ∧ zcs [zR (some 177), zI x1] ≤ zmaxl 212) (gd (zob h (some 177) 12) (zBack zY 294 26 29 [some (zR (some 177)), some (zI x1)] [] (zC 212 [zR (some 177), zI x1] h))) from zGo 3 294 24 _ _ _).trans ?_
    refine (gd_t (⟨rfl, Nat.le_of_ble_eq_true rfl, rfl, Nat.le_of_ble_eq_true rfl⟩) _).trans ?_
    refine (gd_t (⟨rfl, (PTM KM 177 _ rfl rfl), (PNM KM 177 rfl)⟩) _).trans ?_
    refine (congrArg (zBack zY 294 26 29 [some (zR (some 177)), some (zI x1)] []) (q_M_told KM)).trans ?_
    refine (show zY 294 29 [some (zR (some 177)), some (zI x1)] [zI x1] (sI h 177 1 0) = gd (([] : List zV).isEmpty = true ∧ (zrk 294 = 1 ∨ zrk 294 = 6 ∧ ((x1 : Int) = 0 ∨ (x1 : Int) = 1))) (some (.inl (some (zI x1)), (sI h 177 1 0))) from zGo 1 294 29 _ _ _).trans ?_
    refine (gd_t (⟨rfl, Or.inl rfl⟩) _).trans ?_
    rfl
theorem q_M_run {h : zH} {x1 : Int} (KM : KM h) : zC 295 [zR (some 177), zI x1] h =
    if b_M_isState x1 then
      zBack zY 295 16 19 [some (zR (some 177)), some (zI x1)] [zR (some 177)] (zC 296 [zR (some 177), zI x1] h)
    else
      some (.inl (some (zI 0)), (sI h 177 1 1)) := by
  refine (show zC 295 [zR (some 177), zI x1] h = gd (false = zctor 286 ∧ zcs [] ≤ 8 ∧ zrm 295 (zrf 286 + 1) (8 + (zmaxl 286 + 11) + zrl 286) = true ∧ zcs [zI x1] ≤ zmaxl 286) (zBack zY 295 1 4 [some (zR (some 177)), some (zI x1)] [] (zC 286 [zI x1] h)) from zGo 2 295 0 _ _ _).trans ?_
  refine (gd_t (⟨rfl, Nat.le_of_ble_eq_true rfl, rfl, Nat.le_of_ble_eq_true rfl⟩) _).trans ?_
  refine (congrArg (zBack zY 295 1 4 [some (zR (some 177)), some (zI x1)] []) (e_M_isState)).trans ?_
  refine (show zY 295 4 [some (zR (some 177)), some (zI x1)] [zI (if b_M_isState x1 then (1 : Int) else 0)] h = if (if b_M_isState x1 then (1 : Int) else 0) = 0 then zY 295 7 [some (zR (some 177)), some (zI x1)] [] h else zY 295 13 [some (zR (some 177)), some (zI x1)] [] h from zGo 1 295 4 _ _ _).trans ?_
  refine iteB (fun c0 => ?_) (fun c0 => ?_)
  · skip
    refine (show zY 295 13 [some (zR (some 177)), some (zI x1)] [] h = gd (false = zctor 296 ∧ zcs [zR (some 177)] ≤ 8 ∧ zrm 295 (zrf 296 + 1) (8 + (zmaxl 296 + 11) + zrl 296) = true ∧ zcs [zR (some 177), zI x1] ≤ zmaxl 296) (gd (zob h (some 177) 12) (zBack zY 295 16 19 [some (zR (some 177)), some (zI x1)] [zR (some 177)] (zC 296 [zR (some 177), zI x1] h))) from zGo 4 295 13 _ _ _).trans ?_
    refine (gd_t (⟨rfl, Nat.le_of_ble_eq_true rfl, rfl, Nat.le_of_ble_eq_true rfl⟩) _).trans ?_
    refine (gd_t (⟨rfl, (PTM KM 177 _ rfl rfl), (PNM KM 177 rfl)⟩) _).trans ?_
    rfl
  · skip
    refine (show zY 295 7 [some (zR (some 177)), some (zI x1)] [] h = gd (inR (1)) (gd (false = zctor 210 ∧ zcs [] ≤ 8 ∧ zrm 295 (zrf 210 + 1) (8 + (zmaxl 210 + 11) + zrl 210) = true ∧ zcs [zR (some 177), zI 1] ≤ zmaxl 210) (gd (zob h (some 177) 12) (zBack zY 295 9 12 [some (zR (some 177)), some (zI x1)] [] (zC 210 [zR (some 177), zI 1] h)))) from zGo 3 295 7 _ _ _).trans ?_
    refine (gd_t (by decide) _).trans ?_
    refine (gd_t (⟨rfl, Nat.le_of_ble_eq_true rfl, rfl, Nat.le_of_ble_eq_true rfl⟩) _).trans ?_
    refine (gd_t (⟨rfl, (PTM KM 177 _ rfl rfl), (PNM KM 177 rfl)⟩) _).trans ?_
    refine (congrArg (zBack zY 295 9 12 [some (zR (some 177)), some (zI x1)] []) (q_M_refuse KM)).trans ?_
    refine (show zY 295 12 [some (zR (some 177)), some (zI x1)] [zI 0] (sI h 177 1 1) = gd (([] : List zV).isEmpty = true ∧ (zrk 295 = 1 ∨ zrk 295 = 6 ∧ ((0 : Int) = 0 ∨ (0 : Int) = 1))) (some (.inl (some (zI 0)), (sI h 177 1 1))) from zGo 1 295 12 _ _ _).trans ?_
    refine (gd_t (⟨rfl, Or.inl rfl⟩) _).trans ?_
    rfl
theorem q_M_run_r19 {h : zH} {x1 : Int} {y : Int} (KM : KM h) : zBack zY 295 16 19 [some (zR (some 177)), some (zI x1)] [zR (some 177)] (some (.inl (some (zI y)), h)) =
    if y = 0 then
      some (.inl (some (zI (-1))), (sI h 177 1 0))
    else
      some (.inl (some (zI (hI h 177 28))), (sI h 177 1 0)) := by
  refine (show zBack zY 295 16 19 [some (zR (some 177)), some (zI x1)] [zR (some 177)] (some (.inl (some (zI y)), h)) = if y = 0 then zY 295 29 [some (zR (some 177)), some (zI x1)] [zR (some 177)] h else zY 295 22 [some (zR (some 177)), some (zI x1)] [zR (some 177)] h from zGo 1 295 19 _ _ _).trans ?_
  refine iteC (fun c0 => ?_) (fun c0 => ?_)
  · skip
    refine (show zY 295 29 [some (zR (some 177)), some (zI x1)] [zR (some 177)] h = gd (inR (-1)) (gd (false = zctor 212 ∧ zcs [] ≤ 8 ∧ zrm 295 (zrf 212 + 1) (8 + (zmaxl 212 + 11) + zrl 212) = true ∧ zcs [zR (some 177), zI (-1)] ≤ zmaxl 212) (gd (zob h (some 177) 12) (zBack zY 295 30 33 [some (zR (some 177)), some (zI x1)] [] (zC 212 [zR (some 177), zI (-1)] h)))) from zGo 2 295 29 _ _ _).trans ?_
    refine (gd_t (by decide) _).trans ?_
    refine (gd_t (⟨rfl, Nat.le_of_ble_eq_true rfl, rfl, Nat.le_of_ble_eq_true rfl⟩) _).trans ?_
    refine (gd_t (⟨rfl, (PTM KM 177 _ rfl rfl), (PNM KM 177 rfl)⟩) _).trans ?_
    refine (congrArg (zBack zY 295 30 33 [some (zR (some 177)), some (zI x1)] []) (q_M_told KM)).trans ?_
    refine (show zY 295 33 [some (zR (some 177)), some (zI x1)] [zI (-1)] (sI h 177 1 0) = gd (([] : List zV).isEmpty = true ∧ (zrk 295 = 1 ∨ zrk 295 = 6 ∧ (((-1) : Int) = 0 ∨ ((-1) : Int) = 1))) (some (.inl (some (zI (-1))), (sI h 177 1 0))) from zGo 1 295 33 _ _ _).trans ?_
    refine (gd_t (⟨rfl, Or.inl rfl⟩) _).trans ?_
    rfl
  · skip
    refine (show zY 295 22 [some (zR (some 177)), some (zI x1)] [zR (some 177)] h = gd (zob h (some 177) 12) (gd (false = zctor 212 ∧ zcs [] ≤ 8 ∧ zrm 295 (zrf 212 + 1) (8 + (zmaxl 212 + 11) + zrl 212) = true ∧ zcs [zR (some 177), zI (hI h 177 28)] ≤ zmaxl 212) (gd (zob h (some 177) 12) (zBack zY 295 30 33 [some (zR (some 177)), some (zI x1)] [] (zC 212 [zR (some 177), zI (hI h 177 28)] h)))) from zGo 4 295 22 _ _ _).trans ?_
    refine (gd_t (⟨rfl, (PTM KM 177 _ rfl rfl), (PNM KM 177 rfl)⟩) _).trans ?_
    refine (gd_t (⟨rfl, Nat.le_of_ble_eq_true rfl, rfl, Nat.le_of_ble_eq_true rfl⟩) _).trans ?_
    refine (gd_t (⟨rfl, (PTM KM 177 _ rfl rfl), (PNM KM 177 rfl)⟩) _).trans ?_
    refine (congrArg (zBack zY 295 30 33 [some (zR (some 177)), some (zI x1)] []) (q_M_told KM)).trans ?_
    refine (show zY 295 33 [some (zR (some 177)), some (zI x1)] [zI (hI h 177 28)] (sI h 177 1 0) = gd (([] : List zV).isEmpty = true ∧ (zrk 295 = 1 ∨ zrk 295 = 6 ∧ (((hI h 177 28) : Int) = 0 ∨ ((hI h 177 28) : Int) = 1))) (some (.inl (some (zI (hI h 177 28))), (sI h 177 1 0))) from zGo 1 295 33 _ _ _).trans ?_
    refine (gd_t (⟨rfl, Or.inl rfl⟩) _).trans ?_
    rfl
theorem q_M_steps {h : zH} {x1 : Int} (KM : KM h) : zC 297 [zR (some 177), zI x1] h =
    if b_M_isState x1 then
      zBack zY 297 16 19 [some (zR (some 177)), some (zI x1)] [zR (some 177)] (zC 296 [zR (some 177), zI x1] h)
    else
      some (.inl (some (zI 0)), (sI h 177 1 1)) := by
  refine (show zC 297 [zR (some 177), zI x1] h = gd (false = zctor 286 ∧ zcs [] ≤ 8 ∧ zrm 297 (zrf 286 + 1) (8 + (zmaxl 286 + 11) + zrl 286) = true ∧ zcs [zI x1] ≤ zmaxl 286) (zBack zY 297 1 4 [some (zR (some 177)), some (zI x1)] [] (zC 286 [zI x1] h)) from zGo 2 297 0 _ _ _).trans ?_
  refine (gd_t (⟨rfl, Nat.le_of_ble_eq_true rfl, rfl, Nat.le_of_ble_eq_true rfl⟩) _).trans ?_
  refine (congrArg (zBack zY 297 1 4 [some (zR (some 177)), some (zI x1)] []) (e_M_isState)).trans ?_
  refine (show zY 297 4 [some (zR (some 177)), some (zI x1)] [zI (if b_M_isState x1 then (1 : Int) else 0)] h = if (if b_M_isState x1 then (1 : Int) else 0) = 0 then zY 297 7 [some (zR (some 177)), some (zI x1)] [] h else zY 297 13 [some (zR (some 177)), some (zI x1)] [] h from zGo 1 297 4 _ _ _).trans ?_
  refine iteB (fun c0 => ?_) (fun c0 => ?_)
  · skip
    refine (show zY 297 13 [some (zR (some 177)), some (zI x1)] [] h = gd (false = zctor 296 ∧ zcs [zR (some 177)] ≤ 8 ∧ zrm 297 (zrf 296 + 1) (8 + (zmaxl 296 + 11) + zrl 296) = true ∧ zcs [zR (some 177), zI x1] ≤ zmaxl 296) (gd (zob h (some 177) 12) (zBack zY 297 16 19 [some (zR (some 177)), some (zI x1)] [zR (some 177)] (zC 296 [zR (some 177), zI x1] h))) from zGo 4 297 13 _ _ _).trans ?_
    refine (gd_t (⟨rfl, Nat.le_of_ble_eq_true rfl, rfl, Nat.le_of_ble_eq_true rfl⟩) _).trans ?_
    refine (gd_t (⟨rfl, (PTM KM 177 _ rfl rfl), (PNM KM 177 rfl)⟩) _).trans ?_
    rfl
  · skip
    refine (show zY 297 7 [some (zR (some 177)), some (zI x1)] [] h = gd (inR (1)) (gd (false = zctor 210 ∧ zcs [] ≤ 8 ∧ zrm 297 (zrf 210 + 1) (8 + (zmaxl 210 + 11) + zrl 210) = true ∧ zcs [zR (some 177), zI 1] ≤ zmaxl 210) (gd (zob h (some 177) 12) (zBack zY 297 9 12 [some (zR (some 177)), some (zI x1)] [] (zC 210 [zR (some 177), zI 1] h)))) from zGo 3 297 7 _ _ _).trans ?_
    refine (gd_t (by decide) _).trans ?_
    refine (gd_t (⟨rfl, Nat.le_of_ble_eq_true rfl, rfl, Nat.le_of_ble_eq_true rfl⟩) _).trans ?_
    refine (gd_t (⟨rfl, (PTM KM 177 _ rfl rfl), (PNM KM 177 rfl)⟩) _).trans ?_
    refine (congrArg (zBack zY 297 9 12 [some (zR (some 177)), some (zI x1)] []) (q_M_refuse KM)).trans ?_
    refine (show zY 297 12 [some (zR (some 177)), some (zI x1)] [zI 0] (sI h 177 1 1) = gd (([] : List zV).isEmpty = true ∧ (zrk 297 = 1 ∨ zrk 297 = 6 ∧ ((0 : Int) = 0 ∨ (0 : Int) = 1))) (some (.inl (some (zI 0)), (sI h 177 1 1))) from zGo 1 297 12 _ _ _).trans ?_
    refine (gd_t (⟨rfl, Or.inl rfl⟩) _).trans ?_
    rfl
theorem q_M_steps_r19 {h : zH} {x1 : Int} {y : Int} (KM : KM h) : zBack zY 297 16 19 [some (zR (some 177)), some (zI x1)] [zR (some 177)] (some (.inl (some (zI y)), h)) =
    if y = 0 then
      some (.inl (some (zI (-1))), (sI h 177 1 0))
    else
      some (.inl (some (zI (hI h 177 30))), (sI h 177 1 0)) := by
  refine (show zBack zY 297 16 19 [some (zR (some 177)), some (zI x1)] [zR (some 177)] (some (.inl (some (zI y)), h)) = if y = 0 then zY 297 29 [some (zR (some 177)), some (zI x1)] [zR (some 177)] h else zY 297 22 [some (zR (some 177)), some (zI x1)] [zR (some 177)] h from zGo 1 297 19 _ _ _).trans ?_
  refine iteC (fun c0 => ?_) (fun c0 => ?_)
  · skip
    refine (show zY 297 29 [some (zR (some 177)), some (zI x1)] [zR (some 177)] h = gd (inR (-1)) (gd (false = zctor 212 ∧ zcs [] ≤ 8 ∧ zrm 297 (zrf 212 + 1) (8 + (zmaxl 212 + 11) + zrl 212) = true ∧ zcs [zR (some 177), zI (-1)] ≤ zmaxl 212) (gd (zob h (some 177) 12) (zBack zY 297 30 33 [some (zR (some 177)), some (zI x1)] [] (zC 212 [zR (some 177), zI (-1)] h)))) from zGo 2 297 29 _ _ _).trans ?_
    refine (gd_t (by decide) _).trans ?_
    refine (gd_t (⟨rfl, Nat.le_of_ble_eq_true rfl, rfl, Nat.le_of_ble_eq_true rfl⟩) _).trans ?_
    refine (gd_t (⟨rfl, (PTM KM 177 _ rfl rfl), (PNM KM 177 rfl)⟩) _).trans ?_
    refine (congrArg (zBack zY 297 30 33 [some (zR (some 177)), some (zI x1)] []) (q_M_told KM)).trans ?_
    refine (show zY 297 33 [some (zR (some 177)), some (zI x1)] [zI (-1)] (sI h 177 1 0) = gd (([] : List zV).isEmpty = true ∧ (zrk 297 = 1 ∨ zrk 297 = 6 ∧ (((-1) : Int) = 0 ∨ ((-1) : Int) = 1))) (some (.inl (some (zI (-1))), (sI h 177 1 0))) from zGo 1 297 33 _ _ _).trans ?_
    refine (gd_t (⟨rfl, Or.inl rfl⟩) _).trans ?_
    rfl
  · skip
    refine (show zY 297 22 [some (zR (some 177)), some (zI x1)] [zR (some 177)] h = gd (zob h (some 177) 12) (gd (false = zctor 212 ∧ zcs [] ≤ 8 ∧ zrm 297 (zrf 212 + 1) (8 + (zmaxl 212 + 11) + zrl 212) = true ∧ zcs [zR (some 177), zI (hI h 177 30)] ≤ zmaxl 212) (gd (zob h (some 177) 12) (zBack zY 297 30 33 [some (zR (some 177)), some (zI x1)] [] (zC 212 [zR (some 177), zI (hI h 177 30)] h)))) from zGo 4 297 22 _ _ _).trans ?_
    refine (gd_t (⟨rfl, (PTM KM 177 _ rfl rfl), (PNM KM 177 rfl)⟩) _).trans ?_
    refine (gd_t (⟨rfl, Nat.le_of_ble_eq_true rfl, rfl, Nat.le_of_ble_eq_true rfl⟩) _).trans ?_
    refine (gd_t (⟨rfl, (PTM KM 177 _ rfl rfl), (PNM KM 177 rfl)⟩) _).trans ?_
    refine (congrArg (zBack zY 297 30 33 [some (zR (some 177)), some (zI x1)] []) (q_M_told KM)).trans ?_
    refine (show zY 297 33 [some (zR (some 177)), some (zI x1)] [zI (hI h 177 30)] (sI h 177 1 0) = gd (([] : List zV).isEmpty = true ∧ (zrk 297 = 1 ∨ zrk 297 = 6 ∧ (((hI h 177 30) : Int) = 0 ∨ ((hI h 177 30) : Int) = 1))) (some (.inl (some (zI (hI h 177 30))), (sI h 177 1 0))) from zGo 1 297 33 _ _ _).trans ?_
    refine (gd_t (⟨rfl, Or.inl rfl⟩) _).trans ?_
    rfl
theorem q_M_cost {h : zH} {x1 : Int} (KM : KM h) : zC 298 [zR (some 177), zI x1] h =
    if b_M_isState x1 then
      zBack zY 298 21 24 [some (zR (some 177)), some (zI x1)] [] (zC 296 [zR (some 177), zI x1] (sI h 177 1 0))
    else
      some (.inl (some (zF FP.fconst0)), (sI h 177 1 1)) := by
  refine (show zC 298 [zR (some 177), zI x1] h = gd (false = zctor 286 ∧ zcs [] ≤ 8 ∧ zrm 298 (zrf 286 + 1) (8 + (zmaxl 286 + 11) + zrl 286) = true ∧ zcs [zI x1] ≤ zmaxl 286) (zBack zY 298 1 4 [some (zR (some 177)), some (zI x1)] [] (zC 286 [zI x1] h)) from zGo 2 298 0 _ _ _).trans ?_
  refine (gd_t (⟨rfl, Nat.le_of_ble_eq_true rfl, rfl, Nat.le_of_ble_eq_true rfl⟩) _).trans ?_
  refine (congrArg (zBack zY 298 1 4 [some (zR (some 177)), some (zI x1)] []) (e_M_isState)).trans ?_
  refine (show zY 298 4 [some (zR (some 177)), some (zI x1)] [zI (if b_M_isState x1 then (1 : Int) else 0)] h = if (if b_M_isState x1 then (1 : Int) else 0) = 0 then zY 298 7 [some (zR (some 177)), some (zI x1)] [] h else zY 298 14 [some (zR (some 177)), some (zI x1)] [] h from zGo 1 298 4 _ _ _).trans ?_
  refine iteB (fun c0 => ?_) (fun c0 => ?_)
  · skip
    refine (show zY 298 14 [some (zR (some 177)), some (zI x1)] [] h = gd (inR (0)) (gd (zob h (some 177) 12) (gd (false = zctor 296 ∧ zcs [] ≤ 8 ∧ zrm 298 (zrf 296 + 1) (8 + (zmaxl 296 + 11) + zrl 296) = true ∧ zcs [zR (some 177), zI x1] ≤ zmaxl 296) (gd (zob (sI h 177 1 0) (some 177) 12) (zBack zY 298 21 24 [some (zR (some 177)), some (zI x1)] [] (zC 296 [zR (some 177), zI x1] (sI h 177 1 0)))))) from zGo 6 298 14 _ _ _).trans ?_
    refine (gd_t (by decide) _).trans ?_
    refine (gd_t (⟨rfl, (PTM KM 177 _ rfl rfl), (PNM KM 177 rfl)⟩) _).trans ?_
    refine (gd_t (⟨rfl, Nat.le_of_ble_eq_true rfl, rfl, Nat.le_of_ble_eq_true rfl⟩) _).trans ?_
    refine (gd_t (⟨rfl, (PTM KM 177 _ rfl rfl), (PNM KM 177 rfl)⟩) _).trans ?_
    rfl
  · skip
    refine (show zY 298 7 [some (zR (some 177)), some (zI x1)] [] h = gd (inR (1)) (gd (zob h (some 177) 12) (gd (([] : List zV).isEmpty = true ∧ zrk 298 = 3) (some (.inl (some (zF FP.fconst0)), (sI h 177 1 1))))) from zGo 5 298 7 _ _ _).trans ?_
    refine (gd_t (by decide) _).trans ?_
    refine (gd_t (⟨rfl, (PTM KM 177 _ rfl rfl), (PNM KM 177 rfl)⟩) _).trans ?_
    refine (gd_t (⟨rfl, rfl⟩) _).trans ?_
    rfl
theorem q_M_cost_r24 {h : zH} {x1 : Int} {y : Int} (KM : KM h) : zBack zY 298 21 24 [some (zR (some 177)), some (zI x1)] [] (some (.inl (some (zI y)), h)) =
    if y = 0 then
      some (.inl (some (zF 3212836864)), h)
    else
      some (.inl (some (zF (hF h 177 31))), h) := by
  refine (show zBack zY 298 21 24 [some (zR (some 177)), some (zI x1)] [] (some (.inl (some (zI y)), h)) = if y = 0 then zY 298 34 [some (zR (some 177)), some (zI x1)] [] h else zY 298 27 [some (zR (some 177)), some (zI x1)] [] h from zGo 1 298 24 _ _ _).trans ?_
  refine iteC (fun c0 => ?_) (fun c0 => ?_)
  · skip
    refine (show zY 298 34 [some (zR (some 177)), some (zI x1)] [] h = gd (([] : List zV).isEmpty = true ∧ zrk 298 = 3) (some (.inl (some (zF 3212836864)), h)) from zGo 2 298 34 _ _ _).trans ?_
    refine (gd_t (⟨rfl, rfl⟩) _).trans ?_
    rfl
  · skip
    refine (show zY 298 27 [some (zR (some 177)), some (zI x1)] [] h = gd (zob h (some 177) 12) (gd (([] : List zV).isEmpty = true ∧ zrk 298 = 3) (some (.inl (some (zF (hF h 177 31))), h))) from zGo 4 298 27 _ _ _).trans ?_
    refine (gd_t (⟨rfl, (PTM KM 177 _ rfl rfl), (PNM KM 177 rfl)⟩) _).trans ?_
    refine (gd_t (⟨rfl, rfl⟩) _).trans ?_
    rfl
theorem q_M_costBits {h : zH} {x1 : Int} (KM : KM h) : zC 299 [zR (some 177), zI x1] h =
    if b_M_isState x1 then
      zBack zY 299 16 19 [some (zR (some 177)), some (zI x1)] [zR (some 177)] (zC 296 [zR (some 177), zI x1] h)
    else
      some (.inl (some (zI 0)), (sI h 177 1 1)) := by
  refine (show zC 299 [zR (some 177), zI x1] h = gd (false = zctor 286 ∧ zcs [] ≤ 8 ∧ zrm 299 (zrf 286 + 1) (8 + (zmaxl 286 + 11) + zrl 286) = true ∧ zcs [zI x1] ≤ zmaxl 286) (zBack zY 299 1 4 [some (zR (some 177)), some (zI x1)] [] (zC 286 [zI x1] h)) from zGo 2 299 0 _ _ _).trans ?_
  refine (gd_t (⟨rfl, Nat.le_of_ble_eq_true rfl, rfl, Nat.le_of_ble_eq_true rfl⟩) _).trans ?_
  refine (congrArg (zBack zY 299 1 4 [some (zR (some 177)), some (zI x1)] []) (e_M_isState)).trans ?_
  refine (show zY 299 4 [some (zR (some 177)), some (zI x1)] [zI (if b_M_isState x1 then (1 : Int) else 0)] h = if (if b_M_isState x1 then (1 : Int) else 0) = 0 then zY 299 7 [some (zR (some 177)), some (zI x1)] [] h else zY 299 13 [some (zR (some 177)), some (zI x1)] [] h from zGo 1 299 4 _ _ _).trans ?_
  refine iteB (fun c0 => ?_) (fun c0 => ?_)
  · skip
    refine (show zY 299 13 [some (zR (some 177)), some (zI x1)] [] h = gd (false = zctor 296 ∧ zcs [zR (some 177)] ≤ 8 ∧ zrm 299 (zrf 296 + 1) (8 + (zmaxl 296 + 11) + zrl 296) = true ∧ zcs [zR (some 177), zI x1] ≤ zmaxl 296) (gd (zob h (some 177) 12) (zBack zY 299 16 19 [some (zR (some 177)), some (zI x1)] [zR (some 177)] (zC 296 [zR (some 177), zI x1] h))) from zGo 4 299 13 _ _ _).trans ?_
    refine (gd_t (⟨rfl, Nat.le_of_ble_eq_true rfl, rfl, Nat.le_of_ble_eq_true rfl⟩) _).trans ?_
    refine (gd_t (⟨rfl, (PTM KM 177 _ rfl rfl), (PNM KM 177 rfl)⟩) _).trans ?_
    rfl
  · skip
    refine (show zY 299 7 [some (zR (some 177)), some (zI x1)] [] h = gd (inR (1)) (gd (false = zctor 210 ∧ zcs [] ≤ 8 ∧ zrm 299 (zrf 210 + 1) (8 + (zmaxl 210 + 11) + zrl 210) = true ∧ zcs [zR (some 177), zI 1] ≤ zmaxl 210) (gd (zob h (some 177) 12) (zBack zY 299 9 12 [some (zR (some 177)), some (zI x1)] [] (zC 210 [zR (some 177), zI 1] h)))) from zGo 3 299 7 _ _ _).trans ?_
    refine (gd_t (by decide) _).trans ?_
    refine (gd_t (⟨rfl, Nat.le_of_ble_eq_true rfl, rfl, Nat.le_of_ble_eq_true rfl⟩) _).trans ?_
    refine (gd_t (⟨rfl, (PTM KM 177 _ rfl rfl), (PNM KM 177 rfl)⟩) _).trans ?_
    refine (congrArg (zBack zY 299 9 12 [some (zR (some 177)), some (zI x1)] []) (q_M_refuse KM)).trans ?_
    refine (show zY 299 12 [some (zR (some 177)), some (zI x1)] [zI 0] (sI h 177 1 1) = gd (([] : List zV).isEmpty = true ∧ (zrk 299 = 1 ∨ zrk 299 = 6 ∧ ((0 : Int) = 0 ∨ (0 : Int) = 1))) (some (.inl (some (zI 0)), (sI h 177 1 1))) from zGo 1 299 12 _ _ _).trans ?_
    refine (gd_t (⟨rfl, Or.inl rfl⟩) _).trans ?_
    rfl
theorem q_M_costBits_r19 {h : zH} {x1 : Int} {y : Int} (KM : KM h) : zBack zY 299 16 19 [some (zR (some 177)), some (zI x1)] [zR (some 177)] (some (.inl (some (zI y)), h)) =
    if y = 0 then
      some (.inl (some (zI (f_Fl_floatToIntBits 3212836864))), (sI h 177 1 0))
    else
      some (.inl (some (zI (f_Fl_floatToIntBits (hF h 177 31)))), (sI h 177 1 0)) := by
  refine (show zBack zY 299 16 19 [some (zR (some 177)), some (zI x1)] [zR (some 177)] (some (.inl (some (zI y)), h)) = if y = 0 then zY 299 29 [some (zR (some 177)), some (zI x1)] [zR (some 177)] h else zY 299 22 [some (zR (some 177)), some (zI x1)] [zR (some 177)] h from zGo 1 299 19 _ _ _).trans ?_
  refine iteC (fun c0 => ?_) (fun c0 => ?_)
  · skip
    refine (show zY 299 29 [some (zR (some 177)), some (zI x1)] [zR (some 177)] h = gd (false = zctor 388 ∧ zcs [zR (some 177)] ≤ 8 ∧ zrm 299 (zrf 388 + 1) (8 + (zmaxl 388 + 11) + zrl 388) = true ∧ zcs [zF 3212836864] ≤ zmaxl 388) (zBack zY 299 32 35 [some (zR (some 177)), some (zI x1)] [zR (some 177)] (zC 388 [zF 3212836864] h)) from zGo 2 299 29 _ _ _).trans ?_
    refine (gd_t (⟨rfl, Nat.le_of_ble_eq_true rfl, rfl, Nat.le_of_ble_eq_true rfl⟩) _).trans ?_
    refine (congrArg (zBack zY 299 32 35 [some (zR (some 177)), some (zI x1)] [zR (some 177)]) (e_Fl_floatToIntBits)).trans ?_
    refine (show zY 299 35 [some (zR (some 177)), some (zI x1)] [zI (f_Fl_floatToIntBits 3212836864), zR (some 177)] h = gd (false = zctor 212 ∧ zcs [] ≤ 8 ∧ zrm 299 (zrf 212 + 1) (8 + (zmaxl 212 + 11) + zrl 212) = true ∧ zcs [zR (some 177), zI (f_Fl_floatToIntBits 3212836864)] ≤ zmaxl 212) (gd (zob h (some 177) 12) (zBack zY 299 35 38 [some (zR (some 177)), some (zI x1)] [] (zC 212 [zR (some 177), zI (f_Fl_floatToIntBits 3212836864)] h))) from zGo 1 299 35 _ _ _).trans ?_
    refine (gd_t (⟨rfl, Nat.le_of_ble_eq_true rfl, rfl, Nat.le_of_ble_eq_true rfl⟩) _).trans ?_
    refine (gd_t (⟨rfl, (PTM KM 177 _ rfl rfl), (PNM KM 177 rfl)⟩) _).trans ?_
    refine (congrArg (zBack zY 299 35 38 [some (zR (some 177)), some (zI x1)] []) (q_M_told KM)).trans ?_
    refine (show zY 299 38 [some (zR (some 177)), some (zI x1)] [zI (f_Fl_floatToIntBits 3212836864)] (sI h 177 1 0) = gd (([] : List zV).isEmpty = true ∧ (zrk 299 = 1 ∨ zrk 299 = 6 ∧ (((f_Fl_floatToIntBits 3212836864) : Int) = 0 ∨ ((f_Fl_floatToIntBits 3212836864) : Int) = 1))) (some (.inl (some (zI (f_Fl_floatToIntBits 3212836864))), (sI h 177 1 0))) from zGo 1 299 38 _ _ _).trans ?_
    refine (gd_t (⟨rfl, Or.inl rfl⟩) _).trans ?_
    rfl
  · skip
    refine (show zY 299 22 [some (zR (some 177)), some (zI x1)] [zR (some 177)] h = gd (zob h (some 177) 12) (gd (false = zctor 388 ∧ zcs [zR (some 177)] ≤ 8 ∧ zrm 299 (zrf 388 + 1) (8 + (zmaxl 388 + 11) + zrl 388) = true ∧ zcs [zF (hF h 177 31)] ≤ zmaxl 388) (zBack zY 299 32 35 [some (zR (some 177)), some (zI x1)] [zR (some 177)] (zC 388 [zF (hF h 177 31)] h))) from zGo 4 299 22 _ _ _).trans ?_
    refine (gd_t (⟨rfl, (PTM KM 177 _ rfl rfl), (PNM KM 177 rfl)⟩) _).trans ?_
    refine (gd_t (⟨rfl, Nat.le_of_ble_eq_true rfl, rfl, Nat.le_of_ble_eq_true rfl⟩) _).trans ?_
    refine (congrArg (zBack zY 299 32 35 [some (zR (some 177)), some (zI x1)] [zR (some 177)]) (e_Fl_floatToIntBits)).trans ?_
    refine (show zY 299 35 [some (zR (some 177)), some (zI x1)] [zI (f_Fl_floatToIntBits (hF h 177 31)), zR (some 177)] h = gd (false = zctor 212 ∧ zcs [] ≤ 8 ∧ zrm 299 (zrf 212 + 1) (8 + (zmaxl 212 + 11) + zrl 212) = true ∧ zcs [zR (some 177), zI (f_Fl_floatToIntBits (hF h 177 31))] ≤ zmaxl 212) (gd (zob h (some 177) 12) (zBack zY 299 35 38 [some (zR (some 177)), some (zI x1)] [] (zC 212 [zR (some 177), zI (f_Fl_floatToIntBits (hF h 177 31))] h))) from zGo 1 299 35 _ _ _).trans ?_
    refine (gd_t (⟨rfl, Nat.le_of_ble_eq_true rfl, rfl, Nat.le_of_ble_eq_true rfl⟩) _).trans ?_
    refine (gd_t (⟨rfl, (PTM KM 177 _ rfl rfl), (PNM KM 177 rfl)⟩) _).trans ?_
    refine (congrArg (zBack zY 299 35 38 [some (zR (some 177)), some (zI x1)] []) (q_M_told KM)).trans ?_
    refine (show zY 299 38 [some (zR (some 177)), some (zI x1)] [zI (f_Fl_floatToIntBits (hF h 177 31))] (sI h 177 1 0) = gd (([] : List zV).isEmpty = true ∧ (zrk 299 = 1 ∨ zrk 299 = 6 ∧ (((f_Fl_floatToIntBits (hF h 177 31)) : Int) = 0 ∨ ((f_Fl_floatToIntBits (hF h 177 31)) : Int) = 1))) (some (.inl (some (zI (f_Fl_floatToIntBits (hF h 177 31)))), (sI h 177 1 0))) from zGo 1 299 38 _ _ _).trans ?_
    refine (gd_t (⟨rfl, Or.inl rfl⟩) _).trans ?_
    rfl
theorem q_M_met {h : zH} {x1 : Int} (KM : KM h) (g0 : (-2147483648 ≤ (hI h 177 10) - 1 ∧ (hI h 177 10) - 1 < 2147483648) := by omega) : zC 300 [zR (some 177), zI x1] h =
    if b_M_isStatement h x1 then
      zBack zY 300 14 17 [some (zR (some 177)), some (zI x1), none, none] [] (zC 301 [zR (some 177)] h)
    else
      some (.inl (some (zJ (0#64))), (sI h 177 1 1)) := by
  refine (show zC 300 [zR (some 177), zI x1] h = gd (false = zctor 277 ∧ zcs [] ≤ 8 ∧ zrm 300 (zrf 277 + 1) (8 + (zmaxl 277 + 11) + zrl 277) = true ∧ zcs [zR (some 177), zI x1] ≤ zmaxl 277) (gd (zob h (some 177) 12) (zBack zY 300 2 5 [some (zR (some 177)), some (zI x1), none, none] [] (zC 277 [zR (some 177), zI x1] h))) from zGo 3 300 0 _ _ _).trans ?_
  refine (gd_t (⟨rfl, Nat.le_of_ble_eq_true rfl, rfl, Nat.le_of_ble_eq_true rfl⟩) _).trans ?_
  refine (gd_t (⟨rfl, (PTM KM 177 _ rfl rfl), (PNM KM 177 rfl)⟩) _).trans ?_
  refine (congrArg (zBack zY 300 2 5 [some (zR (some 177)), some (zI x1), none, none] []) (e_M_isStatement KM (g0))).trans ?_
  refine (show zY 300 5 [some (zR (some 177)), some (zI x1), none, none] [zI (if b_M_isStatement h x1 then (1 : Int) else 0)] h = if (if b_M_isStatement h x1 then (1 : Int) else 0) = 0 then zY 300 8 [some (zR (some 177)), some (zI x1), none, none] [] h else zY 300 13 [some (zR (some 177)), some (zI x1), none, none] [] h from zGo 1 300 5 _ _ _).trans ?_
  refine iteB (fun c0 => ?_) (fun c0 => ?_)
  · skip
    refine (show zY 300 13 [some (zR (some 177)), some (zI x1), none, none] [] h = gd (false = zctor 301 ∧ zcs [] ≤ 8 ∧ zrm 300 (zrf 301 + 1) (8 + (zmaxl 301 + 11) + zrl 301) = true ∧ zcs [zR (some 177)] ≤ zmaxl 301) (gd (zob h (some 177) 12) (zBack zY 300 14 17 [some (zR (some 177)), some (zI x1), none, none] [] (zC 301 [zR (some 177)] h))) from zGo 2 300 13 _ _ _).trans ?_
    refine (gd_t (⟨rfl, Nat.le_of_ble_eq_true rfl, rfl, Nat.le_of_ble_eq_true rfl⟩) _).trans ?_
    refine (gd_t (⟨rfl, (PTM KM 177 _ rfl rfl), (PNM KM 177 rfl)⟩) _).trans ?_
    rfl
  · skip
    refine (show zY 300 8 [some (zR (some 177)), some (zI x1), none, none] [] h = gd (false = zctor 284 ∧ zcs [] ≤ 8 ∧ zrm 300 (zrf 284 + 1) (8 + (zmaxl 284 + 11) + zrl 284) = true ∧ zcs [zR (some 177)] ≤ zmaxl 284) (gd (zob h (some 177) 12) (zBack zY 300 9 12 [some (zR (some 177)), some (zI x1), none, none] [] (zC 284 [zR (some 177)] h))) from zGo 2 300 8 _ _ _).trans ?_
    refine (gd_t (⟨rfl, Nat.le_of_ble_eq_true rfl, rfl, Nat.le_of_ble_eq_true rfl⟩) _).trans ?_
    refine (gd_t (⟨rfl, (PTM KM 177 _ rfl rfl), (PNM KM 177 rfl)⟩) _).trans ?_
    refine (congrArg (zBack zY 300 9 12 [some (zR (some 177)), some (zI x1), none, none] []) (q_M_noSet KM)).trans ?_
    refine (show zY 300 12 [some (zR (some 177)), some (zI x1), none, none] [zJ (0#64)] (sI h 177 1 1) = gd (([] : List zV).isEmpty = true ∧ zrk 300 = 2) (some (.inl (some (zJ (0#64))), (sI h 177 1 1))) from zGo 1 300 12 _ _ _).trans ?_
    refine (gd_t (⟨rfl, rfl⟩) _).trans ?_
    rfl
theorem q_M_met_r17 {h : zH} {x1 : Int} (KM : KM h) : zBack zY 300 14 17 [some (zR (some 177)), some (zI x1), none, none] [] (some (.inl (none), h)) =
    zY 300 19 [some (zR (some 177)), some (zI x1), some (zI 0), none] [] h := by
  refine (show zBack zY 300 14 17 [some (zR (some 177)), some (zI x1), none, none] [] (some (.inl (none), h)) = gd (inR (0)) (zY 300 19 [some (zR (some 177)), some (zI x1), some (zI 0), none] [] h) from zGo 2 300 17 _ _ _).trans ?_
  refine (gd_t (by decide) _).trans ?_
  rfl
theorem q_M_met_19 {h : zH} {x1 : Int} {x2 : Int} (KM : KM h) : zY 300 19 [some (zR (some 177)), some (zI x1), some (zI x2), none] [] h =
    if x2 < 64 then
      zBack zY 300 27 30 [some (zR (some 177)), some (zI x1), some (zI x2), none] [] (zC 302 [zR (some 177), zI x2] h)
    else
      gd (0 ≤ x1 ∧ x1 < 24) (
      some (.inl (some (zJ (hJ h 195 x1.toNat))), (sI h 177 1 0))) := by
  refine (show zY 300 19 [some (zR (some 177)), some (zI x1), some (zI x2), none] [] h = gd (-128 ≤ (64 : Int) ∧ (64 : Int) < 128) (if x2 < 64 then zY 300 25 [some (zR (some 177)), some (zI x1), some (zI x2), none] [] h else zY 300 53 [some (zR (some 177)), some (zI x1), some (zI x2), none] [] h) from zGo 3 300 19 _ _ _).trans ?_
  refine (gd_t (by decide) _).trans ?_
  refine iteC (fun c0 => ?_) (fun c0 => ?_)
  · skip
    refine (show zY 300 25 [some (zR (some 177)), some (zI x1), some (zI x2), none] [] h = gd (false = zctor 302 ∧ zcs [] ≤ 8 ∧ zrm 300 (zrf 302 + 1) (8 + (zmaxl 302 + 11) + zrl 302) = true ∧ zcs [zR (some 177), zI x2] ≤ zmaxl 302) (gd (zob h (some 177) 12) (zBack zY 300 27 30 [some (zR (some 177)), some (zI x1), some (zI x2), none] [] (zC 302 [zR (some 177), zI x2] h))) from zGo 3 300 25 _ _ _).trans ?_
    refine (gd_t (⟨rfl, Nat.le_of_ble_eq_true rfl, rfl, Nat.le_of_ble_eq_true rfl⟩) _).trans ?_
    refine (gd_t (⟨rfl, (PTM KM 177 _ rfl rfl), (PNM KM 177 rfl)⟩) _).trans ?_
    rfl
  · skip
    refine (show zY 300 53 [some (zR (some 177)), some (zI x1), some (zI x2), none] [] h = gd (zob h (some 177) 12) (zY 300 58 [some (zR (some 177)), some (zI x1), some (zI x2), none] [zR (hR h 177 35), zR (some 177)] h) from zGo 3 300 53 _ _ _).trans ?_
    refine (gd_t (⟨rfl, (PTM KM 177 _ rfl rfl), (PNM KM 177 rfl)⟩) _).trans ?_
    refine (congrArg (fun r => zY 300 58 [some (zR (some 177)), some (zI x1), some (zI x2), none] (zR r :: zR (some 177) :: []) h) (PRM KM 177 35 _ rfl)).trans ?_
    refine (show zY 300 58 [some (zR (some 177)), some (zI x1), some (zI x2), none] [zR (some 195), zR (some 177)] h = gd (zok h (some 195) 23 x1) (gd (false = zctor 281 ∧ zcs [] ≤ 8 ∧ zrm 300 (zrf 281 + 1) (8 + (zmaxl 281 + 11) + zrl 281) = true ∧ zcs [zR (some 177), zJ (hJ h 195 x1.toNat)] ≤ zmaxl 281) (gd (zob h (some 177) 12) (zBack zY 300 60 63 [some (zR (some 177)), some (zI x1), some (zI x2), none] [] (zC 281 [zR (some 177), zJ (hJ h 195 x1.toNat)] h)))) from zGo 3 300 58 _ _ _).trans ?_
    refine gd_c (ci (PTM KM 195 _ rfl rfl) (PLM KM 195 24 rfl rfl)) (fun c1 => ?_)
    refine (gd_t (⟨rfl, Nat.le_of_ble_eq_true rfl, rfl, Nat.le_of_ble_eq_true rfl⟩) _).trans ?_
    refine (gd_t (⟨rfl, (PTM KM 177 _ rfl rfl), (PNM KM 177 rfl)⟩) _).trans ?_
    refine (congrArg (zBack zY 300 60 63 [some (zR (some 177)), some (zI x1), some (zI x2), none] []) (q_M_toldSet KM)).trans ?_
    refine (show zY 300 63 [some (zR (some 177)), some (zI x1), some (zI x2), none] [zJ (hJ h 195 x1.toNat)] (sI h 177 1 0) = gd (([] : List zV).isEmpty = true ∧ zrk 300 = 2) (some (.inl (some (zJ (hJ h 195 x1.toNat))), (sI h 177 1 0))) from zGo 1 300 63 _ _ _).trans ?_
    refine (gd_t (⟨rfl, rfl⟩) _).trans ?_
    rfl
theorem q_M_met_r30 {h : zH} {x1 : Int} {x2 : Int} {y : Int} (KM : KM h) : zBack zY 300 27 30 [some (zR (some 177)), some (zI x1), some (zI x2), none] [] (some (.inl (some (zI y)), h)) =
    if y = 0 then
      gd (-2147483648 ≤ x2 + 1 ∧ x2 + 1 < 2147483648) (
      zY 300 19 [some (zR (some 177)), some (zI x1), some (zI (x2 + 1)), some (zI 0)] [] h)
    else
      zBack zY 300 35 38 [some (zR (some 177)), some (zI x1), some (zI x2), none] [] (zC 296 [zR (some 177), zI x2] h) := by
  refine (show zBack zY 300 27 30 [some (zR (some 177)), some (zI x1), some (zI x2), none] [] (some (.inl (some (zI y)), h)) = if y = 0 then zY 300 45 [some (zR (some 177)), some (zI x1), some (zI x2), none] [] h else zY 300 33 [some (zR (some 177)), some (zI x1), some (zI x2), none] [] h from zGo 1 300 30 _ _ _).trans ?_
  refine iteC (fun c0 => ?_) (fun c0 => ?_)
  · skip
    refine (show zY 300 45 [some (zR (some 177)), some (zI x1), some (zI x2), none] [] h = gd (inR (0)) (gd (inR (x2 + 1)) (gd (inR (1)) (zY 300 19 [some (zR (some 177)), some (zI x1), some (zI (x2 + 1)), some (zI 0)] [] h))) from zGo 4 300 45 _ _ _).trans ?_
    refine (gd_t (by decide) _).trans ?_
    refine gd_c Iff.rfl (fun c1 => ?_)
    refine (gd_t (by decide) _).trans ?_
    rfl
  · skip
    refine (show zY 300 33 [some (zR (some 177)), some (zI x1), some (zI x2), none] [] h = gd (false = zctor 296 ∧ zcs [] ≤ 8 ∧ zrm 300 (zrf 296 + 1) (8 + (zmaxl 296 + 11) + zrl 296) = true ∧ zcs [zR (some 177), zI x2] ≤ zmaxl 296) (gd (zob h (some 177) 12) (zBack zY 300 35 38 [some (zR (some 177)), some (zI x1), some (zI x2), none] [] (zC 296 [zR (some 177), zI x2] h))) from zGo 3 300 33 _ _ _).trans ?_
    refine (gd_t (⟨rfl, Nat.le_of_ble_eq_true rfl, rfl, Nat.le_of_ble_eq_true rfl⟩) _).trans ?_
    refine (gd_t (⟨rfl, (PTM KM 177 _ rfl rfl), (PNM KM 177 rfl)⟩) _).trans ?_
    rfl
theorem q_M_met_r38 {h : zH} {x1 : Int} {x2 : Int} {y : Int} (KM : KM h) : zBack zY 300 35 38 [some (zR (some 177)), some (zI x1), some (zI x2), none] [] (some (.inl (some (zI y)), h)) =
    if y = 0 then
      gd (-2147483648 ≤ x2 + 1 ∧ x2 + 1 < 2147483648) (
      zY 300 19 [some (zR (some 177)), some (zI x1), some (zI (x2 + 1)), some (zI 0)] [] h)
    else
      gd (-2147483648 ≤ x2 + 1 ∧ x2 + 1 < 2147483648) (
      zY 300 19 [some (zR (some 177)), some (zI x1), some (zI (x2 + 1)), some (zI 1)] [] h) := by
  refine (show zBack zY 300 35 38 [some (zR (some 177)), some (zI x1), some (zI x2), none] [] (some (.inl (some (zI y)), h)) = if y = 0 then zY 300 45 [some (zR (some 177)), some (zI x1), some (zI x2), none] [] h else zY 300 41 [some (zR (some 177)), some (zI x1), some (zI x2), none] [] h from zGo 1 300 38 _ _ _).trans ?_
  refine iteC (fun c0 => ?_) (fun c0 => ?_)
  · skip
    refine (show zY 300 45 [some (zR (some 177)), some (zI x1), some (zI x2), none] [] h = gd (inR (0)) (gd (inR (x2 + 1)) (gd (inR (1)) (zY 300 19 [some (zR (some 177)), some (zI x1), some (zI (x2 + 1)), some (zI 0)] [] h))) from zGo 4 300 45 _ _ _).trans ?_
    refine (gd_t (by decide) _).trans ?_
    refine gd_c Iff.rfl (fun c1 => ?_)
    refine (gd_t (by decide) _).trans ?_
    rfl
  · skip
    refine (show zY 300 41 [some (zR (some 177)), some (zI x1), some (zI x2), none] [] h = gd (inR (1)) (gd (inR (x2 + 1)) (gd (inR (1)) (zY 300 19 [some (zR (some 177)), some (zI x1), some (zI (x2 + 1)), some (zI 1)] [] h))) from zGo 5 300 41 _ _ _).trans ?_
    refine (gd_t (by decide) _).trans ?_
    refine gd_c Iff.rfl (fun c2 => ?_)
    refine (gd_t (by decide) _).trans ?_
    rfl
theorem q_M_rounds {h : zH} {x1 : Int} (KM : KM h) (g0 : ((¬ (x1 < 0)) → (hI h 177 10 ≤ 24)) := by omega) : zC 303 [zR (some 177), zI x1] h =
    if (f_M_loopAt h x1) = (-1) then
      some (.inl (some (zI 0)), (sI h 177 1 1))
    else
      zY 303 22 [some (zR (some 177)), some (zI x1), some (zI (f_M_loopAt h x1)), some (zI 0), some (zI 0)] [] h := by
  refine (show zC 303 [zR (some 177), zI x1] h = gd (false = zctor 263 ∧ zcs [] ≤ 8 ∧ zrm 303 (zrf 263 + 1) (8 + (zmaxl 263 + 11) + zrl 263) = true ∧ zcs [zR (some 177), zI x1] ≤ zmaxl 263) (gd (zob h (some 177) 12) (zBack zY 303 2 5 [some (zR (some 177)), some (zI x1), none, none, none] [] (zC 263 [zR (some 177), zI x1] h))) from zGo 3 303 0 _ _ _).trans ?_
  refine (gd_t (⟨rfl, Nat.le_of_ble_eq_true rfl, rfl, Nat.le_of_ble_eq_true rfl⟩) _).trans ?_
  refine (gd_t (⟨rfl, (PTM KM 177 _ rfl rfl), (PNM KM 177 rfl)⟩) _).trans ?_
  refine (congrArg (zBack zY 303 2 5 [some (zR (some 177)), some (zI x1), none, none, none] []) (e_M_loopAt KM (g0))).trans ?_
  refine (show zY 303 5 [some (zR (some 177)), some (zI x1), none, none, none] [zI (f_M_loopAt h x1)] h = gd (inR (-1)) (if (f_M_loopAt h x1) = (-1) then zY 303 11 [some (zR (some 177)), some (zI x1), some (zI (f_M_loopAt h x1)), none, none] [] h else zY 303 17 [some (zR (some 177)), some (zI x1), some (zI (f_M_loopAt h x1)), none, none] [] h) from zGo 4 303 5 _ _ _).trans ?_
  refine (gd_t (by decide) _).trans ?_
  refine iteC (fun c0 => ?_) (fun c0 => ?_)
  · skip
    refine (show zY 303 11 [some (zR (some 177)), some (zI x1), some (zI (f_M_loopAt h x1)), none, none] [] h = gd (inR (1)) (gd (false = zctor 210 ∧ zcs [] ≤ 8 ∧ zrm 303 (zrf 210 + 1) (8 + (zmaxl 210 + 11) + zrl 210) = true ∧ zcs [zR (some 177), zI 1] ≤ zmaxl 210) (gd (zob h (some 177) 12) (zBack zY 303 13 16 [some (zR (some 177)), some (zI x1), some (zI (f_M_loopAt h x1)), none, none] [] (zC 210 [zR (some 177), zI 1] h)))) from zGo 3 303 11 _ _ _).trans ?_
    refine (gd_t (by decide) _).trans ?_
    refine (gd_t (⟨rfl, Nat.le_of_ble_eq_true rfl, rfl, Nat.le_of_ble_eq_true rfl⟩) _).trans ?_
    refine (gd_t (⟨rfl, (PTM KM 177 _ rfl rfl), (PNM KM 177 rfl)⟩) _).trans ?_
    refine (congrArg (zBack zY 303 13 16 [some (zR (some 177)), some (zI x1), some (zI (f_M_loopAt h x1)), none, none] []) (q_M_refuse KM)).trans ?_
    refine (show zY 303 16 [some (zR (some 177)), some (zI x1), some (zI (f_M_loopAt h x1)), none, none] [zI 0] (sI h 177 1 1) = gd (([] : List zV).isEmpty = true ∧ (zrk 303 = 1 ∨ zrk 303 = 6 ∧ ((0 : Int) = 0 ∨ (0 : Int) = 1))) (some (.inl (some (zI 0)), (sI h 177 1 1))) from zGo 1 303 16 _ _ _).trans ?_
    refine (gd_t (⟨rfl, Or.inl rfl⟩) _).trans ?_
    rfl
  · skip
    refine (show zY 303 17 [some (zR (some 177)), some (zI x1), some (zI (f_M_loopAt h x1)), none, none] [] h = gd (inR (0)) (gd (inR (0)) (zY 303 22 [some (zR (some 177)), some (zI x1), some (zI (f_M_loopAt h x1)), some (zI 0), some (zI 0)] [] h)) from zGo 4 303 17 _ _ _).trans ?_
    refine (gd_t (by decide) _).trans ?_
    refine (gd_t (by decide) _).trans ?_
    rfl
theorem q_M_rounds_22 {h : zH} {x1 : Int} {x2 : Int} {x3 : Int} {x4 : Int} (KM : KM h) : zY 303 22 [some (zR (some 177)), some (zI x1), some (zI x2), some (zI x3), some (zI x4)] [] h =
    if x4 < 64 then
      zBack zY 303 32 35 [some (zR (some 177)), some (zI x1), some (zI x2), some (zI x3), some (zI x4)] [] (zC 302 [zR (some 177), zI x4] h)
    else
      some (.inl (some (zI x3)), (sI h 177 1 0)) := by
  refine (show zY 303 22 [some (zR (some 177)), some (zI x1), some (zI x2), some (zI x3), some (zI x4)] [] h = gd (-128 ≤ (64 : Int) ∧ (64 : Int) < 128) (if x4 < 64 then zY 303 29 [some (zR (some 177)), some (zI x1), some (zI x2), some (zI x3), some (zI x4)] [] h else zY 303 74 [some (zR (some 177)), some (zI x1), some (zI x2), some (zI x3), some (zI x4)] [] h) from zGo 3 303 22 _ _ _).trans ?_
  refine (gd_t (by decide) _).trans ?_
  refine iteC (fun c0 => ?_) (fun c0 => ?_)
  · skip
    refine (show zY 303 29 [some (zR (some 177)), some (zI x1), some (zI x2), some (zI x3), some (zI x4)] [] h = gd (false = zctor 302 ∧ zcs [] ≤ 8 ∧ zrm 303 (zrf 302 + 1) (8 + (zmaxl 302 + 11) + zrl 302) = true ∧ zcs [zR (some 177), zI x4] ≤ zmaxl 302) (gd (zob h (some 177) 12) (zBack zY 303 32 35 [some (zR (some 177)), some (zI x1), some (zI x2), some (zI x3), some (zI x4)] [] (zC 302 [zR (some 177), zI x4] h))) from zGo 3 303 29 _ _ _).trans ?_
    refine (gd_t (⟨rfl, Nat.le_of_ble_eq_true rfl, rfl, Nat.le_of_ble_eq_true rfl⟩) _).trans ?_
    refine (gd_t (⟨rfl, (PTM KM 177 _ rfl rfl), (PNM KM 177 rfl)⟩) _).trans ?_
    rfl
  · skip
    refine (show zY 303 74 [some (zR (some 177)), some (zI x1), some (zI x2), some (zI x3), some (zI x4)] [] h = gd (false = zctor 212 ∧ zcs [] ≤ 8 ∧ zrm 303 (zrf 212 + 1) (8 + (zmaxl 212 + 11) + zrl 212) = true ∧ zcs [zR (some 177), zI x3] ≤ zmaxl 212) (gd (zob h (some 177) 12) (zBack zY 303 76 79 [some (zR (some 177)), some (zI x1), some (zI x2), some (zI x3), some (zI x4)] [] (zC 212 [zR (some 177), zI x3] h))) from zGo 3 303 74 _ _ _).trans ?_
    refine (gd_t (⟨rfl, Nat.le_of_ble_eq_true rfl, rfl, Nat.le_of_ble_eq_true rfl⟩) _).trans ?_
    refine (gd_t (⟨rfl, (PTM KM 177 _ rfl rfl), (PNM KM 177 rfl)⟩) _).trans ?_
    refine (congrArg (zBack zY 303 76 79 [some (zR (some 177)), some (zI x1), some (zI x2), some (zI x3), some (zI x4)] []) (q_M_told KM)).trans ?_
    refine (show zY 303 79 [some (zR (some 177)), some (zI x1), some (zI x2), some (zI x3), some (zI x4)] [zI x3] (sI h 177 1 0) = gd (([] : List zV).isEmpty = true ∧ (zrk 303 = 1 ∨ zrk 303 = 6 ∧ ((x3 : Int) = 0 ∨ (x3 : Int) = 1))) (some (.inl (some (zI x3)), (sI h 177 1 0))) from zGo 1 303 79 _ _ _).trans ?_
    refine (gd_t (⟨rfl, Or.inl rfl⟩) _).trans ?_
    rfl
theorem q_M_rounds_r35 {h : zH} {x1 : Int} {x2 : Int} {x3 : Int} {x4 : Int} {y : Int} (KM : KM h) : zBack zY 303 32 35 [some (zR (some 177)), some (zI x1), some (zI x2), some (zI x3), some (zI x4)] [] (some (.inl (some (zI y)), h)) =
    if y = 0 then
      gd (-2147483648 ≤ x4 + 1 ∧ x4 + 1 < 2147483648) (
      zY 303 22 [some (zR (some 177)), some (zI x1), some (zI x2), some (zI x3), some (zI (x4 + 1))] [] h)
    else
      zBack zY 303 41 44 [some (zR (some 177)), some (zI x1), some (zI x2), some (zI x3), some (zI x4)] [] (zC 296 [zR (some 177), zI x4] h) := by
  refine (show zBack zY 303 32 35 [some (zR (some 177)), some (zI x1), some (zI x2), some (zI x3), some (zI x4)] [] (some (.inl (some (zI y)), h)) = if y = 0 then zY 303 68 [some (zR (some 177)), some (zI x1), some (zI x2), some (zI x3), some (zI x4)] [] h else zY 303 38 [some (zR (some 177)), some (zI x1), some (zI x2), some (zI x3), some (zI x4)] [] h from zGo 1 303 35 _ _ _).trans ?_
  refine iteC (fun c0 => ?_) (fun c0 => ?_)
  · skip
    refine (show zY 303 68 [some (zR (some 177)), some (zI x1), some (zI x2), some (zI x3), some (zI x4)] [] h = gd (inR (x4 + 1)) (gd (inR (1)) (zY 303 22 [some (zR (some 177)), some (zI x1), some (zI x2), some (zI x3), some (zI (x4 + 1))] [] h)) from zGo 2 303 68 _ _ _).trans ?_
    refine gd_c Iff.rfl (fun c1 => ?_)
    refine (gd_t (by decide) _).trans ?_
    rfl
  · skip
    refine (show zY 303 38 [some (zR (some 177)), some (zI x1), some (zI x2), some (zI x3), some (zI x4)] [] h = gd (false = zctor 296 ∧ zcs [] ≤ 8 ∧ zrm 303 (zrf 296 + 1) (8 + (zmaxl 296 + 11) + zrl 296) = true ∧ zcs [zR (some 177), zI x4] ≤ zmaxl 296) (gd (zob h (some 177) 12) (zBack zY 303 41 44 [some (zR (some 177)), some (zI x1), some (zI x2), some (zI x3), some (zI x4)] [] (zC 296 [zR (some 177), zI x4] h))) from zGo 3 303 38 _ _ _).trans ?_
    refine (gd_t (⟨rfl, Nat.le_of_ble_eq_true rfl, rfl, Nat.le_of_ble_eq_true rfl⟩) _).trans ?_
    refine (gd_t (⟨rfl, (PTM KM 177 _ rfl rfl), (PNM KM 177 rfl)⟩) _).trans ?_
    rfl
theorem q_M_rounds_r44 {h : zH} {x1 : Int} {x2 : Int} {x3 : Int} {x4 : Int} {y : Int} (KM : KM h) : zBack zY 303 41 44 [some (zR (some 177)), some (zI x1), some (zI x2), some (zI x3), some (zI x4)] [] (some (.inl (some (zI y)), h)) =
    if y = 0 then
      gd (-2147483648 ≤ x4 + 1 ∧ x4 + 1 < 2147483648) (
      zY 303 22 [some (zR (some 177)), some (zI x1), some (zI x2), some (zI x3), some (zI (x4 + 1))] [] h)
    else
      gd (0 ≤ x2 ∧ x2 < 24) (
      if x3 < (hI h 194 x2.toNat) then
        gd (-2147483648 ≤ x4 + 1 ∧ x4 + 1 < 2147483648) (
        zY 303 22 [some (zR (some 177)), some (zI x1), some (zI x2), some (zI (hI h 194 x2.toNat)), some (zI (x4 + 1))] [] h)
      else
        gd (-2147483648 ≤ x4 + 1 ∧ x4 + 1 < 2147483648) (
        zY 303 22 [some (zR (some 177)), some (zI x1), some (zI x2), some (zI x3), some (zI (x4 + 1))] [] h)) := by
  refine (show zBack zY 303 41 44 [some (zR (some 177)), some (zI x1), some (zI x2), some (zI x3), some (zI x4)] [] (some (.inl (some (zI y)), h)) = if y = 0 then zY 303 68 [some (zR (some 177)), some (zI x1), some (zI x2), some (zI x3), some (zI x4)] [] h else zY 303 47 [some (zR (some 177)), some (zI x1), some (zI x2), some (zI x3), some (zI x4)] [] h from zGo 1 303 44 _ _ _).trans ?_
  refine iteC (fun c0 => ?_) (fun c0 => ?_)
  · skip
    refine (show zY 303 68 [some (zR (some 177)), some (zI x1), some (zI x2), some (zI x3), some (zI x4)] [] h = gd (inR (x4 + 1)) (gd (inR (1)) (zY 303 22 [some (zR (some 177)), some (zI x1), some (zI x2), some (zI x3), some (zI (x4 + 1))] [] h)) from zGo 2 303 68 _ _ _).trans ?_
    refine gd_c Iff.rfl (fun c1 => ?_)
    refine (gd_t (by decide) _).trans ?_
    rfl
  · skip
    refine (show zY 303 47 [some (zR (some 177)), some (zI x1), some (zI x2), some (zI x3), some (zI x4)] [] h = gd (zob h (some 177) 12) (zY 303 51 [some (zR (some 177)), some (zI x1), some (zI x2), some (zI x3), some (zI x4)] [zR (hR h 177 34)] h) from zGo 2 303 47 _ _ _).trans ?_
    refine (gd_t (⟨rfl, (PTM KM 177 _ rfl rfl), (PNM KM 177 rfl)⟩) _).trans ?_
    refine (congrArg (fun r => zY 303 51 [some (zR (some 177)), some (zI x1), some (zI x2), some (zI x3), some (zI x4)] (zR r :: []) h) (PRM KM 177 34 _ rfl)).trans ?_
    refine (show zY 303 51 [some (zR (some 177)), some (zI x1), some (zI x2), some (zI x3), some (zI x4)] [zR (some 194)] h = gd (zok h (some 194) 22 x2) (if x3 < (hI h 194 x2.toNat) then zY 303 57 [some (zR (some 177)), some (zI x1), some (zI x2), some (zI x3), some (zI x4)] [] h else zY 303 66 [some (zR (some 177)), some (zI x1), some (zI x2), some (zI x3), some (zI x4)] [] h) from zGo 4 303 51 _ _ _).trans ?_
    refine gd_c (ci (PTM KM 194 _ rfl rfl) (PLM KM 194 24 rfl rfl)) (fun c2 => ?_)
    refine iteC (fun c3 => ?_) (fun c3 => ?_)
    · skip
      refine (show zY 303 57 [some (zR (some 177)), some (zI x1), some (zI x2), some (zI x3), some (zI x4)] [] h = gd (zob h (some 177) 12) (zY 303 61 [some (zR (some 177)), some (zI x1), some (zI x2), some (zI x3), some (zI x4)] [zR (hR h 177 34)] h) from zGo 2 303 57 _ _ _).trans ?_
      refine (gd_t (⟨rfl, (PTM KM 177 _ rfl rfl), (PNM KM 177 rfl)⟩) _).trans ?_
      refine (congrArg (fun r => zY 303 61 [some (zR (some 177)), some (zI x1), some (zI x2), some (zI x3), some (zI x4)] (zR r :: []) h) (PRM KM 177 34 _ rfl)).trans ?_
      refine (show zY 303 61 [some (zR (some 177)), some (zI x1), some (zI x2), some (zI x3), some (zI x4)] [zR (some 194)] h = gd (zok h (some 194) 22 x2) (gd (inR (x4 + 1)) (gd (inR (1)) (zY 303 22 [some (zR (some 177)), some (zI x1), some (zI x2), some (zI (hI h 194 x2.toNat)), some (zI (x4 + 1))] [] h))) from zGo 6 303 61 _ _ _).trans ?_
      refine (gd_t ((ci (PTM KM 194 _ rfl rfl) (PLM KM 194 24 rfl rfl)).2 (by omega)) _).trans ?_
      refine gd_c Iff.rfl (fun c4 => ?_)
      refine (gd_t (by decide) _).trans ?_
      rfl
    · skip
      refine (show zY 303 66 [some (zR (some 177)), some (zI x1), some (zI x2), some (zI x3), some (zI x4)] [] h = gd (inR (x4 + 1)) (gd (inR (1)) (zY 303 22 [some (zR (some 177)), some (zI x1), some (zI x2), some (zI x3), some (zI (x4 + 1))] [] h)) from zGo 4 303 66 _ _ _).trans ?_
      refine gd_c Iff.rfl (fun c5 => ?_)
      refine (gd_t (by decide) _).trans ?_
      rfl
theorem q_M_wrong {h : zH} (KM : KM h) : zC 304 [zR (some 177)] h =
    zBack zY 304 2 5 [some (zR (some 177))] [zR (some 177)] (zC 305 [zR (some 177)] h) := by
  refine (show zC 304 [zR (some 177)] h = gd (false = zctor 305 ∧ zcs [zR (some 177)] ≤ 8 ∧ zrm 304 (zrf 305 + 1) (8 + (zmaxl 305 + 11) + zrl 305) = true ∧ zcs [zR (some 177)] ≤ zmaxl 305) (gd (zob h (some 177) 12) (zBack zY 304 2 5 [some (zR (some 177))] [zR (some 177)] (zC 305 [zR (some 177)] h))) from zGo 3 304 0 _ _ _).trans ?_
  refine (gd_t (⟨rfl, Nat.le_of_ble_eq_true rfl, rfl, Nat.le_of_ble_eq_true rfl⟩) _).trans ?_
  refine (gd_t (⟨rfl, (PTM KM 177 _ rfl rfl), (PNM KM 177 rfl)⟩) _).trans ?_
  rfl
theorem q_M_wrong_r5 {h : zH} {y : BitVec 64} (KM : KM h) : zBack zY 304 2 5 [some (zR (some 177))] [zR (some 177)] (some (.inl (some (zJ y)), h)) =
    some (.inl (some (zJ y)), (sI h 177 1 0)) := by
  refine (show zBack zY 304 2 5 [some (zR (some 177))] [zR (some 177)] (some (.inl (some (zJ y)), h)) = gd (false = zctor 281 ∧ zcs [] ≤ 8 ∧ zrm 304 (zrf 281 + 1) (8 + (zmaxl 281 + 11) + zrl 281) = true ∧ zcs [zR (some 177), zJ y] ≤ zmaxl 281) (gd (zob h (some 177) 12) (zBack zY 304 5 8 [some (zR (some 177))] [] (zC 281 [zR (some 177), zJ y] h))) from zGo 1 304 5 _ _ _).trans ?_
  refine (gd_t (⟨rfl, Nat.le_of_ble_eq_true rfl, rfl, Nat.le_of_ble_eq_true rfl⟩) _).trans ?_
  refine (gd_t (⟨rfl, (PTM KM 177 _ rfl rfl), (PNM KM 177 rfl)⟩) _).trans ?_
  refine (congrArg (zBack zY 304 5 8 [some (zR (some 177))] []) (q_M_toldSet KM)).trans ?_
  refine (show zY 304 8 [some (zR (some 177))] [zJ y] (sI h 177 1 0) = gd (([] : List zV).isEmpty = true ∧ zrk 304 = 2) (some (.inl (some (zJ y)), (sI h 177 1 0))) from zGo 1 304 8 _ _ _).trans ?_
  refine (gd_t (⟨rfl, rfl⟩) _).trans ?_
  rfl
theorem q_M_dearest {h : zH} (KM : KM h) : zC 307 [zR (some 177)] h =
    zY 307 6 [some (zR (some 177)), some (zI (-1)), some (zF FP.fconst0), some (zI 0)] [] h := by
  refine (show zC 307 [zR (some 177)] h = gd (inR (-1)) (gd (inR (0)) (zY 307 6 [some (zR (some 177)), some (zI (-1)), some (zF FP.fconst0), some (zI 0)] [] h)) from zGo 6 307 0 _ _ _).trans ?_
  refine (gd_t (by decide) _).trans ?_
  refine (gd_t (by decide) _).trans ?_
  rfl
theorem q_M_dearest_6 {h : zH} {x1 : Int} {x2 : UInt32} {x3 : Int} (KM : KM h) : zY 307 6 [some (zR (some 177)), some (zI x1), some (zF x2), some (zI x3)] [] h =
    if x3 < 64 then
      zBack zY 307 14 17 [some (zR (some 177)), some (zI x1), some (zF x2), some (zI x3)] [] (zC 302 [zR (some 177), zI x3] h)
    else
      some (.inl (some (zI x1)), (sI h 177 1 0)) := by
  refine (show zY 307 6 [some (zR (some 177)), some (zI x1), some (zF x2), some (zI x3)] [] h = gd (-128 ≤ (64 : Int) ∧ (64 : Int) < 128) (if x3 < 64 then zY 307 12 [some (zR (some 177)), some (zI x1), some (zF x2), some (zI x3)] [] h else zY 307 55 [some (zR (some 177)), some (zI x1), some (zF x2), some (zI x3)] [] h) from zGo 3 307 6 _ _ _).trans ?_
  refine (gd_t (by decide) _).trans ?_
  refine iteC (fun c0 => ?_) (fun c0 => ?_)
  · skip
    refine (show zY 307 12 [some (zR (some 177)), some (zI x1), some (zF x2), some (zI x3)] [] h = gd (false = zctor 302 ∧ zcs [] ≤ 8 ∧ zrm 307 (zrf 302 + 1) (8 + (zmaxl 302 + 11) + zrl 302) = true ∧ zcs [zR (some 177), zI x3] ≤ zmaxl 302) (gd (zob h (some 177) 12) (zBack zY 307 14 17 [some (zR (some 177)), some (zI x1), some (zF x2), some (zI x3)] [] (zC 302 [zR (some 177), zI x3] h))) from zGo 3 307 12 _ _ _).trans ?_
    refine (gd_t (⟨rfl, Nat.le_of_ble_eq_true rfl, rfl, Nat.le_of_ble_eq_true rfl⟩) _).trans ?_
    refine (gd_t (⟨rfl, (PTM KM 177 _ rfl rfl), (PNM KM 177 rfl)⟩) _).trans ?_
    rfl
  · skip
    refine (show zY 307 55 [some (zR (some 177)), some (zI x1), some (zF x2), some (zI x3)] [] h = gd (false = zctor 212 ∧ zcs [] ≤ 8 ∧ zrm 307 (zrf 212 + 1) (8 + (zmaxl 212 + 11) + zrl 212) = true ∧ zcs [zR (some 177), zI x1] ≤ zmaxl 212) (gd (zob h (some 177) 12) (zBack zY 307 57 60 [some (zR (some 177)), some (zI x1), some (zF x2), some (zI x3)] [] (zC 212 [zR (some 177), zI x1] h))) from zGo 3 307 55 _ _ _).trans ?_
    refine (gd_t (⟨rfl, Nat.le_of_ble_eq_true rfl, rfl, Nat.le_of_ble_eq_true rfl⟩) _).trans ?_
    refine (gd_t (⟨rfl, (PTM KM 177 _ rfl rfl), (PNM KM 177 rfl)⟩) _).trans ?_
    refine (congrArg (zBack zY 307 57 60 [some (zR (some 177)), some (zI x1), some (zF x2), some (zI x3)] []) (q_M_told KM)).trans ?_
    refine (show zY 307 60 [some (zR (some 177)), some (zI x1), some (zF x2), some (zI x3)] [zI x1] (sI h 177 1 0) = gd (([] : List zV).isEmpty = true ∧ (zrk 307 = 1 ∨ zrk 307 = 6 ∧ ((x1 : Int) = 0 ∨ (x1 : Int) = 1))) (some (.inl (some (zI x1)), (sI h 177 1 0))) from zGo 1 307 60 _ _ _).trans ?_
    refine (gd_t (⟨rfl, Or.inl rfl⟩) _).trans ?_
    rfl
theorem q_M_dearest_r17 {h : zH} {x1 : Int} {x2 : UInt32} {x3 : Int} {y : Int} (KM : KM h) : zBack zY 307 14 17 [some (zR (some 177)), some (zI x1), some (zF x2), some (zI x3)] [] (some (.inl (some (zI y)), h)) =
    if y = 0 then
      gd (-2147483648 ≤ x3 + 1 ∧ x3 + 1 < 2147483648) (
      zY 307 6 [some (zR (some 177)), some (zI x1), some (zF x2), some (zI (x3 + 1))] [] h)
    else
      zBack zY 307 22 25 [some (zR (some 177)), some (zI x1), some (zF x2), some (zI x3)] [] (zC 296 [zR (some 177), zI x3] h) := by
  refine (show zBack zY 307 14 17 [some (zR (some 177)), some (zI x1), some (zF x2), some (zI x3)] [] (some (.inl (some (zI y)), h)) = if y = 0 then zY 307 49 [some (zR (some 177)), some (zI x1), some (zF x2), some (zI x3)] [] h else zY 307 20 [some (zR (some 177)), some (zI x1), some (zF x2), some (zI x3)] [] h from zGo 1 307 17 _ _ _).trans ?_
  refine iteC (fun c0 => ?_) (fun c0 => ?_)
  · skip
    refine (show zY 307 49 [some (zR (some 177)), some (zI x1), some (zF x2), some (zI x3)] [] h = gd (inR (x3 + 1)) (gd (inR (1)) (zY 307 6 [some (zR (some 177)), some (zI x1), some (zF x2), some (zI (x3 + 1))] [] h)) from zGo 2 307 49 _ _ _).trans ?_
    refine gd_c Iff.rfl (fun c1 => ?_)
    refine (gd_t (by decide) _).trans ?_
    rfl
  · skip
    refine (show zY 307 20 [some (zR (some 177)), some (zI x1), some (zF x2), some (zI x3)] [] h = gd (false = zctor 296 ∧ zcs [] ≤ 8 ∧ zrm 307 (zrf 296 + 1) (8 + (zmaxl 296 + 11) + zrl 296) = true ∧ zcs [zR (some 177), zI x3] ≤ zmaxl 296) (gd (zob h (some 177) 12) (zBack zY 307 22 25 [some (zR (some 177)), some (zI x1), some (zF x2), some (zI x3)] [] (zC 296 [zR (some 177), zI x3] h))) from zGo 3 307 20 _ _ _).trans ?_
    refine (gd_t (⟨rfl, Nat.le_of_ble_eq_true rfl, rfl, Nat.le_of_ble_eq_true rfl⟩) _).trans ?_
    refine (gd_t (⟨rfl, (PTM KM 177 _ rfl rfl), (PNM KM 177 rfl)⟩) _).trans ?_
    rfl
theorem q_M_dearest_r25 {h : zH} {x1 : Int} {x2 : UInt32} {x3 : Int} {y : Int} (KM : KM h) : zBack zY 307 22 25 [some (zR (some 177)), some (zI x1), some (zF x2), some (zI x3)] [] (some (.inl (some (zI y)), h)) =
    if y = 0 then
      gd (-2147483648 ≤ x3 + 1 ∧ x3 + 1 < 2147483648) (
      zY 307 6 [some (zR (some 177)), some (zI x1), some (zF x2), some (zI (x3 + 1))] [] h)
    else
      if x1 = (-1) then
        gd (-2147483648 ≤ x3 + 1 ∧ x3 + 1 < 2147483648) (
        zY 307 6 [some (zR (some 177)), some (zI x3), some (zF (hF h 177 31)), some (zI (x3 + 1))] [] h)
      else
        if 0 < (Op.cmpValue (FP.fcmp (hF h 177 31) x2) .l).toInt then
          gd (-2147483648 ≤ x3 + 1 ∧ x3 + 1 < 2147483648) (
          zY 307 6 [some (zR (some 177)), some (zI x3), some (zF (hF h 177 31)), some (zI (x3 + 1))] [] h)
        else
          gd (-2147483648 ≤ x3 + 1 ∧ x3 + 1 < 2147483648) (
          zY 307 6 [some (zR (some 177)), some (zI x1), some (zF x2), some (zI (x3 + 1))] [] h) := by
  refine (show zBack zY 307 22 25 [some (zR (some 177)), some (zI x1), some (zF x2), some (zI x3)] [] (some (.inl (some (zI y)), h)) = if y = 0 then zY 307 49 [some (zR (some 177)), some (zI x1), some (zF x2), some (zI x3)] [] h else zY 307 28 [some (zR (some 177)), some (zI x1), some (zF x2), some (zI x3)] [] h from zGo 1 307 25 _ _ _).trans ?_
  refine iteC (fun c0 => ?_) (fun c0 => ?_)
  · skip
    refine (show zY 307 49 [some (zR (some 177)), some (zI x1), some (zF x2), some (zI x3)] [] h = gd (inR (x3 + 1)) (gd (inR (1)) (zY 307 6 [some (zR (some 177)), some (zI x1), some (zF x2), some (zI (x3 + 1))] [] h)) from zGo 2 307 49 _ _ _).trans ?_
    refine gd_c Iff.rfl (fun c1 => ?_)
    refine (gd_t (by decide) _).trans ?_
    rfl
  · skip
    refine (show zY 307 28 [some (zR (some 177)), some (zI x1), some (zF x2), some (zI x3)] [] h = gd (inR (-1)) (if x1 = (-1) then zY 307 42 [some (zR (some 177)), some (zI x1), some (zF x2), some (zI x3)] [] h else zY 307 33 [some (zR (some 177)), some (zI x1), some (zF x2), some (zI x3)] [] h) from zGo 3 307 28 _ _ _).trans ?_
    refine (gd_t (by decide) _).trans ?_
    refine iteC (fun c2 => ?_) (fun c2 => ?_)
    · skip
      refine (show zY 307 42 [some (zR (some 177)), some (zI x1), some (zF x2), some (zI x3)] [] h = gd (zob h (some 177) 12) (gd (inR (x3 + 1)) (gd (inR (1)) (zY 307 6 [some (zR (some 177)), some (zI x3), some (zF (hF h 177 31)), some (zI (x3 + 1))] [] h))) from zGo 7 307 42 _ _ _).trans ?_
      refine (gd_t (⟨rfl, (PTM KM 177 _ rfl rfl), (PNM KM 177 rfl)⟩) _).trans ?_
      refine gd_c Iff.rfl (fun c3 => ?_)
      refine (gd_t (by decide) _).trans ?_
      rfl
    · skip
      refine (show zY 307 33 [some (zR (some 177)), some (zI x1), some (zF x2), some (zI x3)] [] h = gd (zob h (some 177) 12) (if 0 < (Op.cmpValue (FP.fcmp (hF h 177 31) x2) .l).toInt then zY 307 42 [some (zR (some 177)), some (zI x1), some (zF x2), some (zI x3)] [] h else zY 307 49 [some (zR (some 177)), some (zI x1), some (zF x2), some (zI x3)] [] h) from zGo 5 307 33 _ _ _).trans ?_
      refine (gd_t (⟨rfl, (PTM KM 177 _ rfl rfl), (PNM KM 177 rfl)⟩) _).trans ?_
      refine iteC (fun c4 => ?_) (fun c4 => ?_)
      · skip
        refine (show zY 307 42 [some (zR (some 177)), some (zI x1), some (zF x2), some (zI x3)] [] h = gd (zob h (some 177) 12) (gd (inR (x3 + 1)) (gd (inR (1)) (zY 307 6 [some (zR (some 177)), some (zI x3), some (zF (hF h 177 31)), some (zI (x3 + 1))] [] h))) from zGo 7 307 42 _ _ _).trans ?_
        refine (gd_t (⟨rfl, (PTM KM 177 _ rfl rfl), (PNM KM 177 rfl)⟩) _).trans ?_
        refine gd_c Iff.rfl (fun c5 => ?_)
        refine (gd_t (by decide) _).trans ?_
        rfl
      · skip
        refine (show zY 307 49 [some (zR (some 177)), some (zI x1), some (zF x2), some (zI x3)] [] h = gd (inR (x3 + 1)) (gd (inR (1)) (zY 307 6 [some (zR (some 177)), some (zI x1), some (zF x2), some (zI (x3 + 1))] [] h)) from zGo 2 307 49 _ _ _).trans ?_
        refine gd_c Iff.rfl (fun c6 => ?_)
        refine (gd_t (by decide) _).trans ?_
        rfl
theorem q_M_meanNow {h : zH} (KM : KM h) : zC 309 [zR (some 177)] h =
    zY 309 7 [some (zR (some 177)), some (zD FP.dconst0), none, some (zI 0), some (zI 0)] [] h := by
  refine (show zC 309 [zR (some 177)] h = gd (inR (0)) (gd (inR (0)) (zY 309 7 [some (zR (some 177)), some (zD FP.dconst0), none, some (zI 0), some (zI 0)] [] h)) from zGo 6 309 0 _ _ _).trans ?_
  refine (gd_t (by decide) _).trans ?_
  refine (gd_t (by decide) _).trans ?_
  rfl
theorem q_M_meanNow_7 {h : zH} {x1 : UInt64} {x3 : Int} {x4 : Int} (KM : KM h) : zY 309 7 [some (zR (some 177)), some (zD x1), none, some (zI x3), some (zI x4)] [] h =
    if x4 < 64 then
      zBack zY 309 17 20 [some (zR (some 177)), some (zD x1), none, some (zI x3), some (zI x4)] [] (zC 302 [zR (some 177), zI x4] h)
    else
      if x3 = 0 then
        some (.inl (some (zD FP.dconst0)), h)
      else
        gd (zn64 (FP.ddiv x1 (FP.i2d (Int32.ofInt x3))) = true) (
        some (.inl (some (zD (FP.ddiv x1 (FP.i2d (Int32.ofInt x3))))), h)) := by
  refine (show zY 309 7 [some (zR (some 177)), some (zD x1), none, some (zI x3), some (zI x4)] [] h = gd (-128 ≤ (64 : Int) ∧ (64 : Int) < 128) (if x4 < 64 then zY 309 14 [some (zR (some 177)), some (zD x1), none, some (zI x3), some (zI x4)] [] h else zY 309 49 [some (zR (some 177)), some (zD x1), none, some (zI x3), some (zI x4)] [] h) from zGo 3 309 7 _ _ _).trans ?_
  refine (gd_t (by decide) _).trans ?_
  refine iteC (fun c0 => ?_) (fun c0 => ?_)
  · skip
    refine (show zY 309 14 [some (zR (some 177)), some (zD x1), none, some (zI x3), some (zI x4)] [] h = gd (false = zctor 302 ∧ zcs [] ≤ 8 ∧ zrm 309 (zrf 302 + 1) (8 + (zmaxl 302 + 11) + zrl 302) = true ∧ zcs [zR (some 177), zI x4] ≤ zmaxl 302) (gd (zob h (some 177) 12) (zBack zY 309 17 20 [some (zR (some 177)), some (zD x1), none, some (zI x3), some (zI x4)] [] (zC 302 [zR (some 177), zI x4] h))) from zGo 3 309 14 _ _ _).trans ?_
    refine (gd_t (⟨rfl, Nat.le_of_ble_eq_true rfl, rfl, Nat.le_of_ble_eq_true rfl⟩) _).trans ?_
    refine (gd_t (⟨rfl, (PTM KM 177 _ rfl rfl), (PNM KM 177 rfl)⟩) _).trans ?_
    rfl
  · skip
    refine (show zY 309 49 [some (zR (some 177)), some (zD x1), none, some (zI x3), some (zI x4)] [] h = if x3 = 0 then zY 309 53 [some (zR (some 177)), some (zD x1), none, some (zI x3), some (zI x4)] [] h else zY 309 57 [some (zR (some 177)), some (zD x1), none, some (zI x3), some (zI x4)] [] h from zGo 2 309 49 _ _ _).trans ?_
    refine iteC (fun c1 => ?_) (fun c1 => ?_)
    · skip
      refine (show zY 309 53 [some (zR (some 177)), some (zD x1), none, some (zI x3), some (zI x4)] [] h = gd (([] : List zV).isEmpty = true ∧ zrk 309 = 4) (some (.inl (some (zD FP.dconst0)), h)) from zGo 3 309 53 _ _ _).trans ?_
      refine (gd_t (⟨rfl, rfl⟩) _).trans ?_
      rfl
    · skip
      refine (show zY 309 57 [some (zR (some 177)), some (zD x1), none, some (zI x3), some (zI x4)] [] h = gd (zn64 (FP.ddiv x1 (FP.i2d (Int32.ofInt x3))) = true) (gd (([] : List zV).isEmpty = true ∧ zrk 309 = 4) (some (.inl (some (zD (FP.ddiv x1 (FP.i2d (Int32.ofInt x3))))), h))) from zGo 5 309 57 _ _ _).trans ?_
      refine gd_c Iff.rfl (fun c2 => ?_)
      refine (gd_t (⟨rfl, rfl⟩) _).trans ?_
      rfl
theorem q_M_meanNow_r20 {h : zH} {x1 : UInt64} {x3 : Int} {x4 : Int} {y : Int} (KM : KM h) : zBack zY 309 17 20 [some (zR (some 177)), some (zD x1), none, some (zI x3), some (zI x4)] [] (some (.inl (some (zI y)), h)) =
    if y = 0 then
      gd (-2147483648 ≤ x4 + 1 ∧ x4 + 1 < 2147483648) (
      zY 309 7 [some (zR (some 177)), some (zD x1), none, some (zI x3), some (zI (x4 + 1))] [] h)
    else
      zBack zY 309 26 29 [some (zR (some 177)), some (zD x1), none, some (zI x3), some (zI x4)] [] (zC 296 [zR (some 177), zI x4] h) := by
  refine (show zBack zY 309 17 20 [some (zR (some 177)), some (zD x1), none, some (zI x3), some (zI x4)] [] (some (.inl (some (zI y)), h)) = if y = 0 then zY 309 43 [some (zR (some 177)), some (zD x1), none, some (zI x3), some (zI x4)] [] h else zY 309 23 [some (zR (some 177)), some (zD x1), none, some (zI x3), some (zI x4)] [] h from zGo 1 309 20 _ _ _).trans ?_
  refine iteC (fun c0 => ?_) (fun c0 => ?_)
  · skip
    refine (show zY 309 43 [some (zR (some 177)), some (zD x1), none, some (zI x3), some (zI x4)] [] h = gd (inR (x4 + 1)) (gd (inR (1)) (zY 309 7 [some (zR (some 177)), some (zD x1), none, some (zI x3), some (zI (x4 + 1))] [] h)) from zGo 2 309 43 _ _ _).trans ?_
    refine gd_c Iff.rfl (fun c1 => ?_)
    refine (gd_t (by decide) _).trans ?_
    rfl
  · skip
    refine (show zY 309 23 [some (zR (some 177)), some (zD x1), none, some (zI x3), some (zI x4)] [] h = gd (false = zctor 296 ∧ zcs [] ≤ 8 ∧ zrm 309 (zrf 296 + 1) (8 + (zmaxl 296 + 11) + zrl 296) = true ∧ zcs [zR (some 177), zI x4] ≤ zmaxl 296) (gd (zob h (some 177) 12) (zBack zY 309 26 29 [some (zR (some 177)), some (zD x1), none, some (zI x3), some (zI x4)] [] (zC 296 [zR (some 177), zI x4] h))) from zGo 3 309 23 _ _ _).trans ?_
    refine (gd_t (⟨rfl, Nat.le_of_ble_eq_true rfl, rfl, Nat.le_of_ble_eq_true rfl⟩) _).trans ?_
    refine (gd_t (⟨rfl, (PTM KM 177 _ rfl rfl), (PNM KM 177 rfl)⟩) _).trans ?_
    rfl
theorem q_M_meanNow_r29 {h : zH} {x1 : UInt64} {x3 : Int} {x4 : Int} {y : Int} (KM : KM h) : zBack zY 309 26 29 [some (zR (some 177)), some (zD x1), none, some (zI x3), some (zI x4)] [] (some (.inl (some (zI y)), h)) =
    if y = 0 then
      gd (-2147483648 ≤ x4 + 1 ∧ x4 + 1 < 2147483648) (
      zY 309 7 [some (zR (some 177)), some (zD x1), none, some (zI x3), some (zI (x4 + 1))] [] h)
    else
      gd (zn64 (FP.f2d (hF h 177 31)) = true) (
      gd (zn64 (FP.dadd x1 (FP.f2d (hF h 177 31))) = true) (
      gd (-2147483648 ≤ x3 + 1 ∧ x3 + 1 < 2147483648) (
      gd (-2147483648 ≤ x4 + 1 ∧ x4 + 1 < 2147483648) (
      zY 309 7 [some (zR (some 177)), some (zD (FP.dadd x1 (FP.f2d (hF h 177 31)))), none, some (zI (x3 + 1)), some (zI (x4 + 1))] [] h)))) := by
  refine (show zBack zY 309 26 29 [some (zR (some 177)), some (zD x1), none, some (zI x3), some (zI x4)] [] (some (.inl (some (zI y)), h)) = if y = 0 then zY 309 43 [some (zR (some 177)), some (zD x1), none, some (zI x3), some (zI x4)] [] h else zY 309 32 [some (zR (some 177)), some (zD x1), none, some (zI x3), some (zI x4)] [] h from zGo 1 309 29 _ _ _).trans ?_
  refine iteC (fun c0 => ?_) (fun c0 => ?_)
  · skip
    refine (show zY 309 43 [some (zR (some 177)), some (zD x1), none, some (zI x3), some (zI x4)] [] h = gd (inR (x4 + 1)) (gd (inR (1)) (zY 309 7 [some (zR (some 177)), some (zD x1), none, some (zI x3), some (zI (x4 + 1))] [] h)) from zGo 2 309 43 _ _ _).trans ?_
    refine gd_c Iff.rfl (fun c1 => ?_)
    refine (gd_t (by decide) _).trans ?_
    rfl
  · skip
    refine (show zY 309 32 [some (zR (some 177)), some (zD x1), none, some (zI x3), some (zI x4)] [] h = gd (zob h (some 177) 12) (gd (zn64 (FP.f2d (hF h 177 31)) = true) (gd (zn64 (FP.dadd x1 (FP.f2d (hF h 177 31))) = true) (gd (inR (x3 + 1)) (gd (inR (1)) (gd (inR (x4 + 1)) (gd (inR (1)) (zY 309 7 [some (zR (some 177)), some (zD (FP.dadd x1 (FP.f2d (hF h 177 31)))), none, some (zI (x3 + 1)), some (zI (x4 + 1))] [] h))))))) from zGo 9 309 32 _ _ _).trans ?_
    refine (gd_t (⟨rfl, (PTM KM 177 _ rfl rfl), (PNM KM 177 rfl)⟩) _).trans ?_
    refine gd_c Iff.rfl (fun c2 => ?_)
    refine gd_c Iff.rfl (fun c3 => ?_)
    refine gd_c Iff.rfl (fun c4 => ?_)
    refine (gd_t (by decide) _).trans ?_
    refine gd_c Iff.rfl (fun c5 => ?_)
    refine (gd_t (by decide) _).trans ?_
    rfl
theorem q_M_meanCost {h : zH} (KM : KM h) : zC 308 [zR (some 177)] h =
    zBack zY 308 6 9 [some (zR (some 177))] [] (zC 309 [zR (some 177)] (sI h 177 1 0)) := by
  refine (show zC 308 [zR (some 177)] h = gd (inR (0)) (gd (zob h (some 177) 12) (gd (false = zctor 309 ∧ zcs [] ≤ 8 ∧ zrm 308 (zrf 309 + 1) (8 + (zmaxl 309 + 11) + zrl 309) = true ∧ zcs [zR (some 177)] ≤ zmaxl 309) (gd (zob (sI h 177 1 0) (some 177) 12) (zBack zY 308 6 9 [some (zR (some 177))] [] (zC 309 [zR (some 177)] (sI h 177 1 0)))))) from zGo 5 308 0 _ _ _).trans ?_
  refine (gd_t (by decide) _).trans ?_
  refine (gd_t (⟨rfl, (PTM KM 177 _ rfl rfl), (PNM KM 177 rfl)⟩) _).trans ?_
  refine (gd_t (⟨rfl, Nat.le_of_ble_eq_true rfl, rfl, Nat.le_of_ble_eq_true rfl⟩) _).trans ?_
  refine (gd_t (⟨rfl, (PTM KM 177 _ rfl rfl), (PNM KM 177 rfl)⟩) _).trans ?_
  rfl
theorem q_M_meanCost_r9 {h : zH} {y : UInt64} (KM : KM h) : zBack zY 308 6 9 [some (zR (some 177))] [] (some (.inl (some (zD y)), h)) =
    some (.inl (some (zD y)), h) := by
  refine (show zBack zY 308 6 9 [some (zR (some 177))] [] (some (.inl (some (zD y)), h)) = gd (([] : List zV).isEmpty = true ∧ zrk 308 = 4) (some (.inl (some (zD y)), h)) from zGo 1 308 9 _ _ _).trans ?_
  refine (gd_t (⟨rfl, rfl⟩) _).trans ?_
  rfl
theorem q_M_meanBits {h : zH} (KM : KM h) : zC 310 [zR (some 177)] h =
    zBack zY 310 2 5 [some (zR (some 177))] [zR (some 177)] (zC 309 [zR (some 177)] h) := by
  refine (show zC 310 [zR (some 177)] h = gd (false = zctor 309 ∧ zcs [zR (some 177)] ≤ 8 ∧ zrm 310 (zrf 309 + 1) (8 + (zmaxl 309 + 11) + zrl 309) = true ∧ zcs [zR (some 177)] ≤ zmaxl 309) (gd (zob h (some 177) 12) (zBack zY 310 2 5 [some (zR (some 177))] [zR (some 177)] (zC 309 [zR (some 177)] h))) from zGo 3 310 0 _ _ _).trans ?_
  refine (gd_t (⟨rfl, Nat.le_of_ble_eq_true rfl, rfl, Nat.le_of_ble_eq_true rfl⟩) _).trans ?_
  refine (gd_t (⟨rfl, (PTM KM 177 _ rfl rfl), (PNM KM 177 rfl)⟩) _).trans ?_
  rfl
theorem q_M_meanBits_r5 {h : zH} {y : UInt64} (KM : KM h) : zBack zY 310 2 5 [some (zR (some 177))] [zR (some 177)] (some (.inl (some (zD y)), h)) =
    some (.inl (some (zJ (f_Do_doubleToLongBits y))), (sI h 177 1 0)) := by
  refine (show zBack zY 310 2 5 [some (zR (some 177))] [zR (some 177)] (some (.inl (some (zD y)), h)) = gd (false = zctor 390 ∧ zcs [zR (some 177)] ≤ 8 ∧ zrm 310 (zrf 390 + 1) (8 + (zmaxl 390 + 11) + zrl 390) = true ∧ zcs [zD y] ≤ zmaxl 390) (zBack zY 310 5 8 [some (zR (some 177))] [zR (some 177)] (zC 390 [zD y] h)) from zGo 1 310 5 _ _ _).trans ?_
  refine (gd_t (⟨rfl, Nat.le_of_ble_eq_true rfl, rfl, Nat.le_of_ble_eq_true rfl⟩) _).trans ?_
  refine (congrArg (zBack zY 310 5 8 [some (zR (some 177))] [zR (some 177)]) (e_Do_doubleToLongBits)).trans ?_
  refine (show zY 310 8 [some (zR (some 177))] [zJ (f_Do_doubleToLongBits y), zR (some 177)] h = gd (false = zctor 281 ∧ zcs [] ≤ 8 ∧ zrm 310 (zrf 281 + 1) (8 + (zmaxl 281 + 11) + zrl 281) = true ∧ zcs [zR (some 177), zJ (f_Do_doubleToLongBits y)] ≤ zmaxl 281) (gd (zob h (some 177) 12) (zBack zY 310 8 11 [some (zR (some 177))] [] (zC 281 [zR (some 177), zJ (f_Do_doubleToLongBits y)] h))) from zGo 1 310 8 _ _ _).trans ?_
  refine (gd_t (⟨rfl, Nat.le_of_ble_eq_true rfl, rfl, Nat.le_of_ble_eq_true rfl⟩) _).trans ?_
  refine (gd_t (⟨rfl, (PTM KM 177 _ rfl rfl), (PNM KM 177 rfl)⟩) _).trans ?_
  refine (congrArg (zBack zY 310 8 11 [some (zR (some 177))] []) (q_M_toldSet KM)).trans ?_
  refine (show zY 310 11 [some (zR (some 177))] [zJ (f_Do_doubleToLongBits y)] (sI h 177 1 0) = gd (([] : List zV).isEmpty = true ∧ zrk 310 = 2) (some (.inl (some (zJ (f_Do_doubleToLongBits y))), (sI h 177 1 0))) from zGo 1 310 11 _ _ _).trans ?_
  refine (gd_t (⟨rfl, rfl⟩) _).trans ?_
  rfl
theorem q_M_share {h : zH} (KM : KM h) : zC 311 [zR (some 177)] h =
    zBack zY 311 6 9 [some (zR (some 177))] [] (zC 246 [zR (some 177)] (sI h 177 1 0)) := by
  refine (show zC 311 [zR (some 177)] h = gd (inR (0)) (gd (zob h (some 177) 12) (gd (false = zctor 246 ∧ zcs [] ≤ 8 ∧ zrm 311 (zrf 246 + 1) (8 + (zmaxl 246 + 11) + zrl 246) = true ∧ zcs [zR (some 177)] ≤ zmaxl 246) (gd (zob (sI h 177 1 0) (some 177) 12) (zBack zY 311 6 9 [some (zR (some 177))] [] (zC 246 [zR (some 177)] (sI h 177 1 0)))))) from zGo 5 311 0 _ _ _).trans ?_
  refine (gd_t (by decide) _).trans ?_
  refine (gd_t (⟨rfl, (PTM KM 177 _ rfl rfl), (PNM KM 177 rfl)⟩) _).trans ?_
  refine (gd_t (⟨rfl, Nat.le_of_ble_eq_true rfl, rfl, Nat.le_of_ble_eq_true rfl⟩) _).trans ?_
  refine (gd_t (⟨rfl, (PTM KM 177 _ rfl rfl), (PNM KM 177 rfl)⟩) _).trans ?_
  rfl
theorem q_M_share_r9 {h : zH} (KM : KM h) : zBack zY 311 6 9 [some (zR (some 177))] [] (some (.inl (none), h)) =
    zBack zY 311 10 13 [some (zR (some 177))] [] (zC 262 [zR (some 177)] h) := by
  refine (show zBack zY 311 6 9 [some (zR (some 177))] [] (some (.inl (none), h)) = gd (false = zctor 262 ∧ zcs [] ≤ 8 ∧ zrm 311 (zrf 262 + 1) (8 + (zmaxl 262 + 11) + zrl 262) = true ∧ zcs [zR (some 177)] ≤ zmaxl 262) (gd (zob h (some 177) 12) (zBack zY 311 10 13 [some (zR (some 177))] [] (zC 262 [zR (some 177)] h))) from zGo 2 311 9 _ _ _).trans ?_
  refine (gd_t (⟨rfl, Nat.le_of_ble_eq_true rfl, rfl, Nat.le_of_ble_eq_true rfl⟩) _).trans ?_
  refine (gd_t (⟨rfl, (PTM KM 177 _ rfl rfl), (PNM KM 177 rfl)⟩) _).trans ?_
  rfl
theorem q_M_share_r13 {h : zH} {y : BitVec 64} (KM : KM h) : zBack zY 311 10 13 [some (zR (some 177))] [] (some (.inl (some (zJ y)), h)) =
    gd (zn32 (FP.fdiv (FP.i2f (Int32.ofInt (f_M_ones y))) 1115684864) = true) (
    some (.inl (some (zF (FP.fdiv (FP.i2f (Int32.ofInt (f_M_ones y))) 1115684864))), h)) := by
  refine (show zBack zY 311 10 13 [some (zR (some 177))] [] (some (.inl (some (zJ y)), h)) = gd (false = zctor 291 ∧ zcs [] ≤ 8 ∧ zrm 311 (zrf 291 + 1) (8 + (zmaxl 291 + 11) + zrl 291) = true ∧ zcs [zJ y] ≤ zmaxl 291) (zBack zY 311 13 16 [some (zR (some 177))] [] (zC 291 [zJ y] h)) from zGo 1 311 13 _ _ _).trans ?_
  refine (gd_t (⟨rfl, Nat.le_of_ble_eq_true rfl, rfl, Nat.le_of_ble_eq_true rfl⟩) _).trans ?_
  refine (congrArg (zBack zY 311 13 16 [some (zR (some 177))] []) (e_M_ones)).trans ?_
  refine (show zY 311 16 [some (zR (some 177))] [zI (f_M_ones y)] h = gd (zn32 (FP.fdiv (FP.i2f (Int32.ofInt (f_M_ones y))) 1115684864) = true) (gd (([] : List zV).isEmpty = true ∧ zrk 311 = 3) (some (.inl (some (zF (FP.fdiv (FP.i2f (Int32.ofInt (f_M_ones y))) 1115684864))), h))) from zGo 4 311 16 _ _ _).trans ?_
  refine gd_c Iff.rfl (fun c0 => ?_)
  refine (gd_t (⟨rfl, rfl⟩) _).trans ?_
  rfl
theorem q_M_proves {h : zH} {x1 : Int} (KM : KM h) (g0 : ((¬ (x1 < 0)) → (hI h 177 10 ≤ 24)) := by omega) (g1 : (¬ ((f_M_holeAt h x1) = (-1))) → (0 ≤ (f_M_holeAt h x1) ∧ (f_M_holeAt h x1) < 24) := by omega) : zC 312 [zR (some 177), zI x1] h =
    if (f_M_holeAt h x1) = (-1) then
      some (.inl (some (zI 0)), (sI h 177 1 1))
    else
      zY 312 29 [some (zR (some 177)), some (zI x1), some (zI (f_M_holeAt h x1)), some (zI (f_M_filling h (f_M_holeAt h x1))), some (zI (-1)), some (zI 0)] [] h := by
  refine (show zC 312 [zR (some 177), zI x1] h = gd (false = zctor 313 ∧ zcs [] ≤ 8 ∧ zrm 312 (zrf 313 + 1) (8 + (zmaxl 313 + 11) + zrl 313) = true ∧ zcs [zR (some 177), zI x1] ≤ zmaxl 313) (gd (zob h (some 177) 12) (zBack zY 312 2 5 [some (zR (some 177)), some (zI x1), none, none, none, none] [] (zC 313 [zR (some 177), zI x1] h))) from zGo 3 312 0 _ _ _).trans ?_
  refine (gd_t (⟨rfl, Nat.le_of_ble_eq_true rfl, rfl, Nat.le_of_ble_eq_true rfl⟩) _).trans ?_
  refine (gd_t (⟨rfl, (PTM KM 177 _ rfl rfl), (PNM KM 177 rfl)⟩) _).trans ?_
  refine (congrArg (zBack zY 312 2 5 [some (zR (some 177)), some (zI x1), none, none, none, none] []) (e_M_holeAt KM (g0))).trans ?_
  refine (show zY 312 5 [some (zR (some 177)), some (zI x1), none, none, none, none] [zI (f_M_holeAt h x1)] h = gd (inR (-1)) (if (f_M_holeAt h x1) = (-1) then zY 312 11 [some (zR (some 177)), some (zI x1), some (zI (f_M_holeAt h x1)), none, none, none] [] h else zY 312 17 [some (zR (some 177)), some (zI x1), some (zI (f_M_holeAt h x1)), none, none, none] [] h) from zGo 4 312 5 _ _ _).trans ?_
  refine (gd_t (by decide) _).trans ?_
  refine iteC (fun c0 => ?_) (fun c0 => ?_)
  · skip
    refine (show zY 312 11 [some (zR (some 177)), some (zI x1), some (zI (f_M_holeAt h x1)), none, none, none] [] h = gd (inR (1)) (gd (false = zctor 210 ∧ zcs [] ≤ 8 ∧ zrm 312 (zrf 210 + 1) (8 + (zmaxl 210 + 11) + zrl 210) = true ∧ zcs [zR (some 177), zI 1] ≤ zmaxl 210) (gd (zob h (some 177) 12) (zBack zY 312 13 16 [some (zR (some 177)), some (zI x1), some (zI (f_M_holeAt h x1)), none, none, none] [] (zC 210 [zR (some 177), zI 1] h)))) from zGo 3 312 11 _ _ _).trans ?_
    refine (gd_t (by decide) _).trans ?_
    refine (gd_t (⟨rfl, Nat.le_of_ble_eq_true rfl, rfl, Nat.le_of_ble_eq_true rfl⟩) _).trans ?_
    refine (gd_t (⟨rfl, (PTM KM 177 _ rfl rfl), (PNM KM 177 rfl)⟩) _).trans ?_
    refine (congrArg (zBack zY 312 13 16 [some (zR (some 177)), some (zI x1), some (zI (f_M_holeAt h x1)), none, none, none] []) (q_M_refuse KM)).trans ?_
    refine (show zY 312 16 [some (zR (some 177)), some (zI x1), some (zI (f_M_holeAt h x1)), none, none, none] [zI 0] (sI h 177 1 1) = gd (([] : List zV).isEmpty = true ∧ (zrk 312 = 1 ∨ zrk 312 = 6 ∧ ((0 : Int) = 0 ∨ (0 : Int) = 1))) (some (.inl (some (zI 0)), (sI h 177 1 1))) from zGo 1 312 16 _ _ _).trans ?_
    refine (gd_t (⟨rfl, Or.inl rfl⟩) _).trans ?_
    rfl
  · skip
    refine (show zY 312 17 [some (zR (some 177)), some (zI x1), some (zI (f_M_holeAt h x1)), none, none, none] [] h = gd (false = zctor 243 ∧ zcs [] ≤ 8 ∧ zrm 312 (zrf 243 + 1) (8 + (zmaxl 243 + 11) + zrl 243) = true ∧ zcs [zR (some 177), zI (f_M_holeAt h x1)] ≤ zmaxl 243) (gd (zob h (some 177) 12) (zBack zY 312 19 22 [some (zR (some 177)), some (zI x1), some (zI (f_M_holeAt h x1)), none, none, none] [] (zC 243 [zR (some 177), zI (f_M_holeAt h x1)] h))) from zGo 3 312 17 _ _ _).trans ?_
    refine (gd_t (⟨rfl, Nat.le_of_ble_eq_true rfl, rfl, Nat.le_of_ble_eq_true rfl⟩) _).trans ?_
    refine (gd_t (⟨rfl, (PTM KM 177 _ rfl rfl), (PNM KM 177 rfl)⟩) _).trans ?_
    refine (congrArg (zBack zY 312 19 22 [some (zR (some 177)), some (zI x1), some (zI (f_M_holeAt h x1)), none, none, none] []) (e_M_fillingx KM (g1 c0))).trans ?_
    refine (show zY 312 22 [some (zR (some 177)), some (zI x1), some (zI (f_M_holeAt h x1)), none, none, none] [zI (f_M_filling h (f_M_holeAt h x1))] h = gd (inR (-1)) (gd (inR (0)) (zY 312 29 [some (zR (some 177)), some (zI x1), some (zI (f_M_holeAt h x1)), some (zI (f_M_filling h (f_M_holeAt h x1))), some (zI (-1)), some (zI 0)] [] h)) from zGo 5 312 22 _ _ _).trans ?_
    refine (gd_t (by decide) _).trans ?_
    refine (gd_t (by decide) _).trans ?_
    rfl
theorem q_M_proves_29 {h : zH} {x1 : Int} {x2 : Int} {x3 : Int} {x4 : Int} {x5 : Int} (KM : KM h) : zY 312 29 [some (zR (some 177)), some (zI x1), some (zI x2), some (zI x3), some (zI x4), some (zI x5)] [] h =
    if x5 < 39 then
      if x4 = (-1) then
        gd (-2147483648 ≤ 2294 + x2 ∧ 2294 + x2 < 2147483648) (
        gd (0 ≤ (2294 + x2) ∧ (2294 + x2) < 2342) (
        zBack zY 312 55 58 [some (zR (some 177)), some (zI x1), some (zI x2), some (zI x3), some (zI x4), some (zI x5)] [] (zC 275 [zR (some 177)] (sI h 179 (2294 + x2).toNat x5))))
      else
        gd (-2147483648 ≤ 2294 + x2 ∧ 2294 + x2 < 2147483648) (
        gd (0 ≤ (2294 + x2) ∧ (2294 + x2) < 2342) (
        some (.inl (some (zI x4)), (sI (sI h 179 (2294 + x2).toNat x3) 177 1 0))))
    else
      gd (-2147483648 ≤ 2294 + x2 ∧ 2294 + x2 < 2147483648) (
      gd (0 ≤ (2294 + x2) ∧ (2294 + x2) < 2342) (
      some (.inl (some (zI x4)), (sI (sI h 179 (2294 + x2).toNat x3) 177 1 0)))) := by
  refine (show zY 312 29 [some (zR (some 177)), some (zI x1), some (zI x2), some (zI x3), some (zI x4), some (zI x5)] [] h = gd (-128 ≤ (39 : Int) ∧ (39 : Int) < 128) (if x5 < 39 then zY 312 36 [some (zR (some 177)), some (zI x1), some (zI x2), some (zI x3), some (zI x4), some (zI x5)] [] h else zY 312 75 [some (zR (some 177)), some (zI x1), some (zI x2), some (zI x3), some (zI x4), some (zI x5)] [] h) from zGo 3 312 29 _ _ _).trans ?_
  refine (gd_t (by decide) _).trans ?_
  refine iteC (fun c0 => ?_) (fun c0 => ?_)
  · skip
    refine (show zY 312 36 [some (zR (some 177)), some (zI x1), some (zI x2), some (zI x3), some (zI x4), some (zI x5)] [] h = gd (inR (-1)) (if x4 = (-1) then zY 312 42 [some (zR (some 177)), some (zI x1), some (zI x2), some (zI x3), some (zI x4), some (zI x5)] [] h else zY 312 75 [some (zR (some 177)), some (zI x1), some (zI x2), some (zI x3), some (zI x4), some (zI x5)] [] h) from zGo 3 312 36 _ _ _).trans ?_
    refine (gd_t (by decide) _).trans ?_
    refine iteC (fun c1 => ?_) (fun c1 => ?_)
    · skip
      refine (show zY 312 42 [some (zR (some 177)), some (zI x1), some (zI x2), some (zI x3), some (zI x4), some (zI x5)] [] h = gd (zob h (some 177) 12) (zY 312 46 [some (zR (some 177)), some (zI x1), some (zI x2), some (zI x3), some (zI x4), some (zI x5)] [zR (hR h 177 2)] h) from zGo 2 312 42 _ _ _).trans ?_
      refine (gd_t (⟨rfl, (PTM KM 177 _ rfl rfl), (PNM KM 177 rfl)⟩) _).trans ?_
      refine (congrArg (fun r => zY 312 46 [some (zR (some 177)), some (zI x1), some (zI x2), some (zI x3), some (zI x4), some (zI x5)] (zR r :: []) h) (PRM KM 177 2 _ rfl)).trans ?_
      refine (show zY 312 46 [some (zR (some 177)), some (zI x1), some (zI x2), some (zI x3), some (zI x4), some (zI x5)] [zR (some 179)] h = gd (-32768 ≤ (2294 : Int) ∧ (2294 : Int) < 32768) (gd (inR (2294 + x2)) (gd (zokw h (some 179) 22 (2294 + x2)) (gd (false = zctor 275 ∧ zcs [] ≤ 8 ∧ zrm 312 (zrf 275 + 1) (8 + (zmaxl 275 + 11) + zrl 275) = true ∧ zcs [zR (some 177)] ≤ zmaxl 275) (gd (zob (sI h 179 (2294 + x2).toNat x5) (some 177) 12) (zBack zY 312 55 58 [some (zR (some 177)), some (zI x1), some (zI x2), some (zI x3), some (zI x4), some (zI x5)] [] (zC 275 [zR (some 177)] (sI h 179 (2294 + x2).toNat x5))))))) from zGo 7 312 46 _ _ _).trans ?_
      refine (gd_t (by decide) _).trans ?_
      refine gd_c Iff.rfl (fun c2 => ?_)
      refine gd_c (ciw (PTM KM 179 _ rfl rfl) (PNM KM 179 rfl) (PLM KM 179 2342 rfl rfl)) (fun c3 => ?_)
      refine (gd_t (⟨rfl, Nat.le_of_ble_eq_true rfl, rfl, Nat.le_of_ble_eq_true rfl⟩) _).trans ?_
      refine (gd_t (⟨rfl, (PTM KM 177 _ rfl rfl), (PNM KM 177 rfl)⟩) _).trans ?_
      rfl
    · skip
      refine (show zY 312 75 [some (zR (some 177)), some (zI x1), some (zI x2), some (zI x3), some (zI x4), some (zI x5)] [] h = gd (zob h (some 177) 12) (zY 312 79 [some (zR (some 177)), some (zI x1), some (zI x2), some (zI x3), some (zI x4), some (zI x5)] [zR (hR h 177 2)] h) from zGo 2 312 75 _ _ _).trans ?_
      refine (gd_t (⟨rfl, (PTM KM 177 _ rfl rfl), (PNM KM 177 rfl)⟩) _).trans ?_
      refine (congrArg (fun r => zY 312 79 [some (zR (some 177)), some (zI x1), some (zI x2), some (zI x3), some (zI x4), some (zI x5)] (zR r :: []) h) (PRM KM 177 2 _ rfl)).trans ?_
      refine (show zY 312 79 [some (zR (some 177)), some (zI x1), some (zI x2), some (zI x3), some (zI x4), some (zI x5)] [zR (some 179)] h = gd (-32768 ≤ (2294 : Int) ∧ (2294 : Int) < 32768) (gd (inR (2294 + x2)) (gd (zokw h (some 179) 22 (2294 + x2)) (gd (false = zctor 212 ∧ zcs [] ≤ 8 ∧ zrm 312 (zrf 212 + 1) (8 + (zmaxl 212 + 11) + zrl 212) = true ∧ zcs [zR (some 177), zI x4] ≤ zmaxl 212) (gd (zob (sI h 179 (2294 + x2).toNat x3) (some 177) 12) (zBack zY 312 89 92 [some (zR (some 177)), some (zI x1), some (zI x2), some (zI x3), some (zI x4), some (zI x5)] [] (zC 212 [zR (some 177), zI x4] (sI h 179 (2294 + x2).toNat x3))))))) from zGo 8 312 79 _ _ _).trans ?_
      refine (gd_t (by decide) _).trans ?_
      refine gd_c Iff.rfl (fun c4 => ?_)
      refine gd_c (ciw (PTM KM 179 _ rfl rfl) (PNM KM 179 rfl) (PLM KM 179 2342 rfl rfl)) (fun c5 => ?_)
      refine (gd_t (⟨rfl, Nat.le_of_ble_eq_true rfl, rfl, Nat.le_of_ble_eq_true rfl⟩) _).trans ?_
      refine (gd_t (⟨rfl, (PTM KM 177 _ rfl rfl), (PNM KM 177 rfl)⟩) _).trans ?_
      refine (congrArg (zBack zY 312 89 92 [some (zR (some 177)), some (zI x1), some (zI x2), some (zI x3), some (zI x4), some (zI x5)] []) (q_M_told (h := (sI h 179 (2294 + x2).toNat x3)) KM)).trans ?_
      refine (show zY 312 92 [some (zR (some 177)), some (zI x1), some (zI x2), some (zI x3), some (zI x4), some (zI x5)] [zI x4] (sI (sI h 179 (2294 + x2).toNat x3) 177 1 0) = gd (([] : List zV).isEmpty = true ∧ (zrk 312 = 1 ∨ zrk 312 = 6 ∧ ((x4 : Int) = 0 ∨ (x4 : Int) = 1))) (some (.inl (some (zI x4)), (sI (sI h 179 (2294 + x2).toNat x3) 177 1 0))) from zGo 1 312 92 _ _ _).trans ?_
      refine (gd_t (⟨rfl, Or.inl rfl⟩) _).trans ?_
      rfl
  · skip
    refine (show zY 312 75 [some (zR (some 177)), some (zI x1), some (zI x2), some (zI x3), some (zI x4), some (zI x5)] [] h = gd (zob h (some 177) 12) (zY 312 79 [some (zR (some 177)), some (zI x1), some (zI x2), some (zI x3), some (zI x4), some (zI x5)] [zR (hR h 177 2)] h) from zGo 2 312 75 _ _ _).trans ?_
    refine (gd_t (⟨rfl, (PTM KM 177 _ rfl rfl), (PNM KM 177 rfl)⟩) _).trans ?_
    refine (congrArg (fun r => zY 312 79 [some (zR (some 177)), some (zI x1), some (zI x2), some (zI x3), some (zI x4), some (zI x5)] (zR r :: []) h) (PRM KM 177 2 _ rfl)).trans ?_
    refine (show zY 312 79 [some (zR (some 177)), some (zI x1), some (zI x2), some (zI x3), some (zI x4), some (zI x5)] [zR (some 179)] h = gd (-32768 ≤ (2294 : Int) ∧ (2294 : Int) < 32768) (gd (inR (2294 + x2)) (gd (zokw h (some 179) 22 (2294 + x2)) (gd (false = zctor 212 ∧ zcs [] ≤ 8 ∧ zrm 312 (zrf 212 + 1) (8 + (zmaxl 212 + 11) + zrl 212) = true ∧ zcs [zR (some 177), zI x4] ≤ zmaxl 212) (gd (zob (sI h 179 (2294 + x2).toNat x3) (some 177) 12) (zBack zY 312 89 92 [some (zR (some 177)), some (zI x1), some (zI x2), some (zI x3), some (zI x4), some (zI x5)] [] (zC 212 [zR (some 177), zI x4] (sI h 179 (2294 + x2).toNat x3))))))) from zGo 8 312 79 _ _ _).trans ?_
    refine (gd_t (by decide) _).trans ?_
    refine gd_c Iff.rfl (fun c6 => ?_)
    refine gd_c (ciw (PTM KM 179 _ rfl rfl) (PNM KM 179 rfl) (PLM KM 179 2342 rfl rfl)) (fun c7 => ?_)
    refine (gd_t (⟨rfl, Nat.le_of_ble_eq_true rfl, rfl, Nat.le_of_ble_eq_true rfl⟩) _).trans ?_
    refine (gd_t (⟨rfl, (PTM KM 177 _ rfl rfl), (PNM KM 177 rfl)⟩) _).trans ?_
    refine (congrArg (zBack zY 312 89 92 [some (zR (some 177)), some (zI x1), some (zI x2), some (zI x3), some (zI x4), some (zI x5)] []) (q_M_told (h := (sI h 179 (2294 + x2).toNat x3)) KM)).trans ?_
    refine (show zY 312 92 [some (zR (some 177)), some (zI x1), some (zI x2), some (zI x3), some (zI x4), some (zI x5)] [zI x4] (sI (sI h 179 (2294 + x2).toNat x3) 177 1 0) = gd (([] : List zV).isEmpty = true ∧ (zrk 312 = 1 ∨ zrk 312 = 6 ∧ ((x4 : Int) = 0 ∨ (x4 : Int) = 1))) (some (.inl (some (zI x4)), (sI (sI h 179 (2294 + x2).toNat x3) 177 1 0))) from zGo 1 312 92 _ _ _).trans ?_
    refine (gd_t (⟨rfl, Or.inl rfl⟩) _).trans ?_
    rfl
theorem q_M_proves_r58 {h : zH} {x1 : Int} {x2 : Int} {x3 : Int} {x4 : Int} {x5 : Int} {y : Int} (KM : KM h) : zBack zY 312 55 58 [some (zR (some 177)), some (zI x1), some (zI x2), some (zI x3), some (zI x4), some (zI x5)] [] (some (.inl (some (zI y)), h)) =
    if y = 0 then
      gd (-2147483648 ≤ x5 + 1 ∧ x5 + 1 < 2147483648) (
      zY 312 29 [some (zR (some 177)), some (zI x1), some (zI x2), some (zI x3), some (zI (-1)), some (zI (x5 + 1))] [] h)
    else
      gd (-2147483648 ≤ x5 + 1 ∧ x5 + 1 < 2147483648) (
      zY 312 29 [some (zR (some 177)), some (zI x1), some (zI x2), some (zI x3), some (zI x5), some (zI (x5 + 1))] [] h) := by
  refine (show zBack zY 312 55 58 [some (zR (some 177)), some (zI x1), some (zI x2), some (zI x3), some (zI x4), some (zI x5)] [] (some (.inl (some (zI y)), h)) = if y = 0 then zY 312 66 [some (zR (some 177)), some (zI x1), some (zI x2), some (zI x3), some (zI x4), some (zI x5)] [] h else zY 312 61 [some (zR (some 177)), some (zI x1), some (zI x2), some (zI x3), some (zI x4), some (zI x5)] [] h from zGo 1 312 58 _ _ _).trans ?_
  refine iteC (fun c0 => ?_) (fun c0 => ?_)
  · skip
    refine (show zY 312 66 [some (zR (some 177)), some (zI x1), some (zI x2), some (zI x3), some (zI x4), some (zI x5)] [] h = gd (inR (-1)) (gd (inR (x5 + 1)) (gd (inR (1)) (zY 312 29 [some (zR (some 177)), some (zI x1), some (zI x2), some (zI x3), some (zI (-1)), some (zI (x5 + 1))] [] h))) from zGo 4 312 66 _ _ _).trans ?_
    refine (gd_t (by decide) _).trans ?_
    refine gd_c Iff.rfl (fun c1 => ?_)
    refine (gd_t (by decide) _).trans ?_
    rfl
  · skip
    refine (show zY 312 61 [some (zR (some 177)), some (zI x1), some (zI x2), some (zI x3), some (zI x4), some (zI x5)] [] h = gd (inR (x5 + 1)) (gd (inR (1)) (zY 312 29 [some (zR (some 177)), some (zI x1), some (zI x2), some (zI x3), some (zI x5), some (zI (x5 + 1))] [] h)) from zGo 5 312 61 _ _ _).trans ?_
    refine gd_c Iff.rfl (fun c2 => ?_)
    refine (gd_t (by decide) _).trans ?_
    rfl
theorem q_M_rights {h : zH} {x1 : Int} (KM : KM h) (g0 : ((¬ (x1 < 0)) → (hI h 177 10 ≤ 24)) := by omega) (g1 : (¬ ((f_M_holeAt h x1) = (-1))) → (0 ≤ (f_M_holeAt h x1) ∧ (f_M_holeAt h x1) < 24) := by omega) : zC 314 [zR (some 177), zI x1] h =
    if (f_M_holeAt h x1) = (-1) then
      some (.inl (some (zI 0)), (sI h 177 1 1))
    else
      zY 314 29 [some (zR (some 177)), some (zI x1), some (zI (f_M_holeAt h x1)), some (zI (f_M_filling h (f_M_holeAt h x1))), some (zI (-1)), some (zI 0)] [] h := by
  refine (show zC 314 [zR (some 177), zI x1] h = gd (false = zctor 313 ∧ zcs [] ≤ 8 ∧ zrm 314 (zrf 313 + 1) (8 + (zmaxl 313 + 11) + zrl 313) = true ∧ zcs [zR (some 177), zI x1] ≤ zmaxl 313) (gd (zob h (some 177) 12) (zBack zY 314 2 5 [some (zR (some 177)), some (zI x1), none, none, none, none] [] (zC 313 [zR (some 177), zI x1] h))) from zGo 3 314 0 _ _ _).trans ?_
  refine (gd_t (⟨rfl, Nat.le_of_ble_eq_true rfl, rfl, Nat.le_of_ble_eq_true rfl⟩) _).trans ?_
  refine (gd_t (⟨rfl, (PTM KM 177 _ rfl rfl), (PNM KM 177 rfl)⟩) _).trans ?_
  refine (congrArg (zBack zY 314 2 5 [some (zR (some 177)), some (zI x1), none, none, none, none] []) (e_M_holeAt KM (g0))).trans ?_
  refine (show zY 314 5 [some (zR (some 177)), some (zI x1), none, none, none, none] [zI (f_M_holeAt h x1)] h = gd (inR (-1)) (if (f_M_holeAt h x1) = (-1) then zY 314 11 [some (zR (some 177)), some (zI x1), some (zI (f_M_holeAt h x1)), none, none, none] [] h else zY 314 17 [some (zR (some 177)), some (zI x1), some (zI (f_M_holeAt h x1)), none, none, none] [] h) from zGo 4 314 5 _ _ _).trans ?_
  refine (gd_t (by decide) _).trans ?_
  refine iteC (fun c0 => ?_) (fun c0 => ?_)
  · skip
    refine (show zY 314 11 [some (zR (some 177)), some (zI x1), some (zI (f_M_holeAt h x1)), none, none, none] [] h = gd (inR (1)) (gd (false = zctor 210 ∧ zcs [] ≤ 8 ∧ zrm 314 (zrf 210 + 1) (8 + (zmaxl 210 + 11) + zrl 210) = true ∧ zcs [zR (some 177), zI 1] ≤ zmaxl 210) (gd (zob h (some 177) 12) (zBack zY 314 13 16 [some (zR (some 177)), some (zI x1), some (zI (f_M_holeAt h x1)), none, none, none] [] (zC 210 [zR (some 177), zI 1] h)))) from zGo 3 314 11 _ _ _).trans ?_
    refine (gd_t (by decide) _).trans ?_
    refine (gd_t (⟨rfl, Nat.le_of_ble_eq_true rfl, rfl, Nat.le_of_ble_eq_true rfl⟩) _).trans ?_
    refine (gd_t (⟨rfl, (PTM KM 177 _ rfl rfl), (PNM KM 177 rfl)⟩) _).trans ?_
    refine (congrArg (zBack zY 314 13 16 [some (zR (some 177)), some (zI x1), some (zI (f_M_holeAt h x1)), none, none, none] []) (q_M_refuse KM)).trans ?_
    refine (show zY 314 16 [some (zR (some 177)), some (zI x1), some (zI (f_M_holeAt h x1)), none, none, none] [zI 0] (sI h 177 1 1) = gd (([] : List zV).isEmpty = true ∧ (zrk 314 = 1 ∨ zrk 314 = 6 ∧ ((0 : Int) = 0 ∨ (0 : Int) = 1))) (some (.inl (some (zI 0)), (sI h 177 1 1))) from zGo 1 314 16 _ _ _).trans ?_
    refine (gd_t (⟨rfl, Or.inl rfl⟩) _).trans ?_
    rfl
  · skip
    refine (show zY 314 17 [some (zR (some 177)), some (zI x1), some (zI (f_M_holeAt h x1)), none, none, none] [] h = gd (false = zctor 243 ∧ zcs [] ≤ 8 ∧ zrm 314 (zrf 243 + 1) (8 + (zmaxl 243 + 11) + zrl 243) = true ∧ zcs [zR (some 177), zI (f_M_holeAt h x1)] ≤ zmaxl 243) (gd (zob h (some 177) 12) (zBack zY 314 19 22 [some (zR (some 177)), some (zI x1), some (zI (f_M_holeAt h x1)), none, none, none] [] (zC 243 [zR (some 177), zI (f_M_holeAt h x1)] h))) from zGo 3 314 17 _ _ _).trans ?_
    refine (gd_t (⟨rfl, Nat.le_of_ble_eq_true rfl, rfl, Nat.le_of_ble_eq_true rfl⟩) _).trans ?_
    refine (gd_t (⟨rfl, (PTM KM 177 _ rfl rfl), (PNM KM 177 rfl)⟩) _).trans ?_
    refine (congrArg (zBack zY 314 19 22 [some (zR (some 177)), some (zI x1), some (zI (f_M_holeAt h x1)), none, none, none] []) (e_M_fillingx KM (g1 c0))).trans ?_
    refine (show zY 314 22 [some (zR (some 177)), some (zI x1), some (zI (f_M_holeAt h x1)), none, none, none] [zI (f_M_filling h (f_M_holeAt h x1))] h = gd (inR (-1)) (gd (inR (0)) (zY 314 29 [some (zR (some 177)), some (zI x1), some (zI (f_M_holeAt h x1)), some (zI (f_M_filling h (f_M_holeAt h x1))), some (zI (-1)), some (zI 0)] [] h)) from zGo 5 314 22 _ _ _).trans ?_
    refine (gd_t (by decide) _).trans ?_
    refine (gd_t (by decide) _).trans ?_
    rfl
theorem q_M_rights_29 {h : zH} {x1 : Int} {x2 : Int} {x3 : Int} {x4 : Int} {x5 : Int} (KM : KM h) : zY 314 29 [some (zR (some 177)), some (zI x1), some (zI x2), some (zI x3), some (zI x4), some (zI x5)] [] h =
    if x5 < 39 then
      if x4 = (-1) then
        gd (-2147483648 ≤ 2294 + x2 ∧ 2294 + x2 < 2147483648) (
        gd (0 ≤ (2294 + x2) ∧ (2294 + x2) < 2342) (
        zBack zY 314 55 58 [some (zR (some 177)), some (zI x1), some (zI x2), some (zI x3), some (zI x4), some (zI x5)] [] (zC 305 [zR (some 177)] (sI h 179 (2294 + x2).toNat x5))))
      else
        gd (-2147483648 ≤ 2294 + x2 ∧ 2294 + x2 < 2147483648) (
        gd (0 ≤ (2294 + x2) ∧ (2294 + x2) < 2342) (
        some (.inl (some (zI x4)), (sI (sI h 179 (2294 + x2).toNat x3) 177 1 0))))
    else
      gd (-2147483648 ≤ 2294 + x2 ∧ 2294 + x2 < 2147483648) (
      gd (0 ≤ (2294 + x2) ∧ (2294 + x2) < 2342) (
      some (.inl (some (zI x4)), (sI (sI h 179 (2294 + x2).toNat x3) 177 1 0)))) := by
  refine (show zY 314 29 [some (zR (some 177)), some (zI x1), some (zI x2), some (zI x3), some (zI x4), some (zI x5)] [] h = gd (-128 ≤ (39 : Int) ∧ (39 : Int) < 128) (if x5 < 39 then zY 314 36 [some (zR (some 177)), some (zI x1), some (zI x2), some (zI x3), some (zI x4), some (zI x5)] [] h else zY 314 77 [some (zR (some 177)), some (zI x1), some (zI x2), some (zI x3), some (zI x4), some (zI x5)] [] h) from zGo 3 314 29 _ _ _).trans ?_
  refine (gd_t (by decide) _).trans ?_
  refine iteC (fun c0 => ?_) (fun c0 => ?_)
  · skip
    refine (show zY 314 36 [some (zR (some 177)), some (zI x1), some (zI x2), some (zI x3), some (zI x4), some (zI x5)] [] h = gd (inR (-1)) (if x4 = (-1) then zY 314 42 [some (zR (some 177)), some (zI x1), some (zI x2), some (zI x3), some (zI x4), some (zI x5)] [] h else zY 314 77 [some (zR (some 177)), some (zI x1), some (zI x2), some (zI x3), some (zI x4), some (zI x5)] [] h) from zGo 3 314 36 _ _ _).trans ?_
    refine (gd_t (by decide) _).trans ?_
    refine iteC (fun c1 => ?_) (fun c1 => ?_)
    · skip
      refine (show zY 314 42 [some (zR (some 177)), some (zI x1), some (zI x2), some (zI x3), some (zI x4), some (zI x5)] [] h = gd (zob h (some 177) 12) (zY 314 46 [some (zR (some 177)), some (zI x1), some (zI x2), some (zI x3), some (zI x4), some (zI x5)] [zR (hR h 177 2)] h) from zGo 2 314 42 _ _ _).trans ?_
      refine (gd_t (⟨rfl, (PTM KM 177 _ rfl rfl), (PNM KM 177 rfl)⟩) _).trans ?_
      refine (congrArg (fun r => zY 314 46 [some (zR (some 177)), some (zI x1), some (zI x2), some (zI x3), some (zI x4), some (zI x5)] (zR r :: []) h) (PRM KM 177 2 _ rfl)).trans ?_
      refine (show zY 314 46 [some (zR (some 177)), some (zI x1), some (zI x2), some (zI x3), some (zI x4), some (zI x5)] [zR (some 179)] h = gd (-32768 ≤ (2294 : Int) ∧ (2294 : Int) < 32768) (gd (inR (2294 + x2)) (gd (zokw h (some 179) 22 (2294 + x2)) (gd (false = zctor 305 ∧ zcs [] ≤ 8 ∧ zrm 314 (zrf 305 + 1) (8 + (zmaxl 305 + 11) + zrl 305) = true ∧ zcs [zR (some 177)] ≤ zmaxl 305) (gd (zob (sI h 179 (2294 + x2).toNat x5) (some 177) 12) (zBack zY 314 55 58 [some (zR (some 177)), some (zI x1), some (zI x2), some (zI x3), some (zI x4), some (zI x5)] [] (zC 305 [zR (some 177)] (sI h 179 (2294 + x2).toNat x5))))))) from zGo 7 314 46 _ _ _).trans ?_
      refine (gd_t (by decide) _).trans ?_
      refine gd_c Iff.rfl (fun c2 => ?_)
      refine gd_c (ciw (PTM KM 179 _ rfl rfl) (PNM KM 179 rfl) (PLM KM 179 2342 rfl rfl)) (fun c3 => ?_)
      refine (gd_t (⟨rfl, Nat.le_of_ble_eq_true rfl, rfl, Nat.le_of_ble_eq_true rfl⟩) _).trans ?_
      refine (gd_t (⟨rfl, (PTM KM 177 _ rfl rfl), (PNM KM 177 rfl)⟩) _).trans ?_
      rfl
    · skip
      refine (show zY 314 77 [some (zR (some 177)), some (zI x1), some (zI x2), some (zI x3), some (zI x4), some (zI x5)] [] h = gd (zob h (some 177) 12) (zY 314 81 [some (zR (some 177)), some (zI x1), some (zI x2), some (zI x3), some (zI x4), some (zI x5)] [zR (hR h 177 2)] h) from zGo 2 314 77 _ _ _).trans ?_
      refine (gd_t (⟨rfl, (PTM KM 177 _ rfl rfl), (PNM KM 177 rfl)⟩) _).trans ?_
      refine (congrArg (fun r => zY 314 81 [some (zR (some 177)), some (zI x1), some (zI x2), some (zI x3), some (zI x4), some (zI x5)] (zR r :: []) h) (PRM KM 177 2 _ rfl)).trans ?_
      refine (show zY 314 81 [some (zR (some 177)), some (zI x1), some (zI x2), some (zI x3), some (zI x4), some (zI x5)] [zR (some 179)] h = gd (-32768 ≤ (2294 : Int) ∧ (2294 : Int) < 32768) (gd (inR (2294 + x2)) (gd (zokw h (some 179) 22 (2294 + x2)) (gd (false = zctor 212 ∧ zcs [] ≤ 8 ∧ zrm 314 (zrf 212 + 1) (8 + (zmaxl 212 + 11) + zrl 212) = true ∧ zcs [zR (some 177), zI x4] ≤ zmaxl 212) (gd (zob (sI h 179 (2294 + x2).toNat x3) (some 177) 12) (zBack zY 314 91 94 [some (zR (some 177)), some (zI x1), some (zI x2), some (zI x3), some (zI x4), some (zI x5)] [] (zC 212 [zR (some 177), zI x4] (sI h 179 (2294 + x2).toNat x3))))))) from zGo 8 314 81 _ _ _).trans ?_
      refine (gd_t (by decide) _).trans ?_
      refine gd_c Iff.rfl (fun c4 => ?_)
      refine gd_c (ciw (PTM KM 179 _ rfl rfl) (PNM KM 179 rfl) (PLM KM 179 2342 rfl rfl)) (fun c5 => ?_)
      refine (gd_t (⟨rfl, Nat.le_of_ble_eq_true rfl, rfl, Nat.le_of_ble_eq_true rfl⟩) _).trans ?_
      refine (gd_t (⟨rfl, (PTM KM 177 _ rfl rfl), (PNM KM 177 rfl)⟩) _).trans ?_
      refine (congrArg (zBack zY 314 91 94 [some (zR (some 177)), some (zI x1), some (zI x2), some (zI x3), some (zI x4), some (zI x5)] []) (q_M_told (h := (sI h 179 (2294 + x2).toNat x3)) KM)).trans ?_
      refine (show zY 314 94 [some (zR (some 177)), some (zI x1), some (zI x2), some (zI x3), some (zI x4), some (zI x5)] [zI x4] (sI (sI h 179 (2294 + x2).toNat x3) 177 1 0) = gd (([] : List zV).isEmpty = true ∧ (zrk 314 = 1 ∨ zrk 314 = 6 ∧ ((x4 : Int) = 0 ∨ (x4 : Int) = 1))) (some (.inl (some (zI x4)), (sI (sI h 179 (2294 + x2).toNat x3) 177 1 0))) from zGo 1 314 94 _ _ _).trans ?_
      refine (gd_t (⟨rfl, Or.inl rfl⟩) _).trans ?_
      rfl
  · skip
    refine (show zY 314 77 [some (zR (some 177)), some (zI x1), some (zI x2), some (zI x3), some (zI x4), some (zI x5)] [] h = gd (zob h (some 177) 12) (zY 314 81 [some (zR (some 177)), some (zI x1), some (zI x2), some (zI x3), some (zI x4), some (zI x5)] [zR (hR h 177 2)] h) from zGo 2 314 77 _ _ _).trans ?_
    refine (gd_t (⟨rfl, (PTM KM 177 _ rfl rfl), (PNM KM 177 rfl)⟩) _).trans ?_
    refine (congrArg (fun r => zY 314 81 [some (zR (some 177)), some (zI x1), some (zI x2), some (zI x3), some (zI x4), some (zI x5)] (zR r :: []) h) (PRM KM 177 2 _ rfl)).trans ?_
    refine (show zY 314 81 [some (zR (some 177)), some (zI x1), some (zI x2), some (zI x3), some (zI x4), some (zI x5)] [zR (some 179)] h = gd (-32768 ≤ (2294 : Int) ∧ (2294 : Int) < 32768) (gd (inR (2294 + x2)) (gd (zokw h (some 179) 22 (2294 + x2)) (gd (false = zctor 212 ∧ zcs [] ≤ 8 ∧ zrm 314 (zrf 212 + 1) (8 + (zmaxl 212 + 11) + zrl 212) = true ∧ zcs [zR (some 177), zI x4] ≤ zmaxl 212) (gd (zob (sI h 179 (2294 + x2).toNat x3) (some 177) 12) (zBack zY 314 91 94 [some (zR (some 177)), some (zI x1), some (zI x2), some (zI x3), some (zI x4), some (zI x5)] [] (zC 212 [zR (some 177), zI x4] (sI h 179 (2294 + x2).toNat x3))))))) from zGo 8 314 81 _ _ _).trans ?_
    refine (gd_t (by decide) _).trans ?_
    refine gd_c Iff.rfl (fun c6 => ?_)
    refine gd_c (ciw (PTM KM 179 _ rfl rfl) (PNM KM 179 rfl) (PLM KM 179 2342 rfl rfl)) (fun c7 => ?_)
    refine (gd_t (⟨rfl, Nat.le_of_ble_eq_true rfl, rfl, Nat.le_of_ble_eq_true rfl⟩) _).trans ?_
    refine (gd_t (⟨rfl, (PTM KM 177 _ rfl rfl), (PNM KM 177 rfl)⟩) _).trans ?_
    refine (congrArg (zBack zY 314 91 94 [some (zR (some 177)), some (zI x1), some (zI x2), some (zI x3), some (zI x4), some (zI x5)] []) (q_M_told (h := (sI h 179 (2294 + x2).toNat x3)) KM)).trans ?_
    refine (show zY 314 94 [some (zR (some 177)), some (zI x1), some (zI x2), some (zI x3), some (zI x4), some (zI x5)] [zI x4] (sI (sI h 179 (2294 + x2).toNat x3) 177 1 0) = gd (([] : List zV).isEmpty = true ∧ (zrk 314 = 1 ∨ zrk 314 = 6 ∧ ((x4 : Int) = 0 ∨ (x4 : Int) = 1))) (some (.inl (some (zI x4)), (sI (sI h 179 (2294 + x2).toNat x3) 177 1 0))) from zGo 1 314 94 _ _ _).trans ?_
    refine (gd_t (⟨rfl, Or.inl rfl⟩) _).trans ?_
    rfl
theorem q_M_rights_r58 {h : zH} {x1 : Int} {x2 : Int} {x3 : Int} {x4 : Int} {x5 : Int} {y : BitVec 64} (KM : KM h) : zBack zY 314 55 58 [some (zR (some 177)), some (zI x1), some (zI x2), some (zI x3), some (zI x4), some (zI x5)] [] (some (.inl (some (zJ y)), h)) =
    if y = 0#64 then
      gd (-2147483648 ≤ x5 + 1 ∧ x5 + 1 < 2147483648) (
      zY 314 29 [some (zR (some 177)), some (zI x1), some (zI x2), some (zI x3), some (zI x5), some (zI (x5 + 1))] [] h)
    else
      gd (-2147483648 ≤ x5 + 1 ∧ x5 + 1 < 2147483648) (
      zY 314 29 [some (zR (some 177)), some (zI x1), some (zI x2), some (zI x3), some (zI (-1)), some (zI (x5 + 1))] [] h) := by
  refine (show zBack zY 314 55 58 [some (zR (some 177)), some (zI x1), some (zI x2), some (zI x3), some (zI x4), some (zI x5)] [] (some (.inl (some (zJ y)), h)) = if (zlcmp y (0#64)) = 0 then zY 314 63 [some (zR (some 177)), some (zI x1), some (zI x2), some (zI x3), some (zI x4), some (zI x5)] [] h else zY 314 68 [some (zR (some 177)), some (zI x1), some (zI x2), some (zI x3), some (zI x4), some (zI x5)] [] h from zGo 3 314 58 _ _ _).trans ?_
  refine iteL (fun c0 => ?_) (fun c0 => ?_)
  · skip
    refine (show zY 314 63 [some (zR (some 177)), some (zI x1), some (zI x2), some (zI x3), some (zI x4), some (zI x5)] [] h = gd (inR (x5 + 1)) (gd (inR (1)) (zY 314 29 [some (zR (some 177)), some (zI x1), some (zI x2), some (zI x3), some (zI x5), some (zI (x5 + 1))] [] h)) from zGo 5 314 63 _ _ _).trans ?_
    refine gd_c Iff.rfl (fun c1 => ?_)
    refine (gd_t (by decide) _).trans ?_
    rfl
  · skip
    refine (show zY 314 68 [some (zR (some 177)), some (zI x1), some (zI x2), some (zI x3), some (zI x4), some (zI x5)] [] h = gd (inR (-1)) (gd (inR (x5 + 1)) (gd (inR (1)) (zY 314 29 [some (zR (some 177)), some (zI x1), some (zI x2), some (zI x3), some (zI (-1)), some (zI (x5 + 1))] [] h))) from zGo 4 314 68 _ _ _).trans ?_
    refine (gd_t (by decide) _).trans ?_
    refine gd_c Iff.rfl (fun c2 => ?_)
    refine (gd_t (by decide) _).trans ?_
    rfl
theorem q_M_safeNow {h : zH} {x1 : Int} (KM : KM h) : zC 316 [zR (some 177), zI x1] h =
    zBack zY 316 1 4 [some (zR (some 177)), some (zI x1), none, none, none, none, none] [] (zC 246 [zR (some 177)] h) := by
  refine (show zC 316 [zR (some 177), zI x1] h = gd (false = zctor 246 ∧ zcs [] ≤ 8 ∧ zrm 316 (zrf 246 + 1) (8 + (zmaxl 246 + 11) + zrl 246) = true ∧ zcs [zR (some 177)] ≤ zmaxl 246) (gd (zob h (some 177) 12) (zBack zY 316 1 4 [some (zR (some 177)), some (zI x1), none, none, none, none, none] [] (zC 246 [zR (some 177)] h))) from zGo 2 316 0 _ _ _).trans ?_
  refine (gd_t (⟨rfl, Nat.le_of_ble_eq_true rfl, rfl, Nat.le_of_ble_eq_true rfl⟩) _).trans ?_
  refine (gd_t (⟨rfl, (PTM KM 177 _ rfl rfl), (PNM KM 177 rfl)⟩) _).trans ?_
  rfl
theorem q_M_safeNow_r4 {h : zH} {x1 : Int} (KM : KM h) : zBack zY 316 1 4 [some (zR (some 177)), some (zI x1), none, none, none, none, none] [] (some (.inl (none), h)) =
    zBack zY 316 6 9 [some (zR (some 177)), some (zI x1), none, none, none, none, none] [] (zC 254 [zR (some 177), zI x1] h) := by
  refine (show zBack zY 316 1 4 [some (zR (some 177)), some (zI x1), none, none, none, none, none] [] (some (.inl (none), h)) = gd (false = zctor 254 ∧ zcs [] ≤ 8 ∧ zrm 316 (zrf 254 + 1) (8 + (zmaxl 254 + 11) + zrl 254) = true ∧ zcs [zR (some 177), zI x1] ≤ zmaxl 254) (gd (zob h (some 177) 12) (zBack zY 316 6 9 [some (zR (some 177)), some (zI x1), none, none, none, none, none] [] (zC 254 [zR (some 177), zI x1] h))) from zGo 3 316 4 _ _ _).trans ?_
  refine (gd_t (⟨rfl, Nat.le_of_ble_eq_true rfl, rfl, Nat.le_of_ble_eq_true rfl⟩) _).trans ?_
  refine (gd_t (⟨rfl, (PTM KM 177 _ rfl rfl), (PNM KM 177 rfl)⟩) _).trans ?_
  rfl
theorem q_M_safeNow_r9 {h : zH} {x1 : Int} {y : BitVec 64} (KM : KM h) : zBack zY 316 6 9 [some (zR (some 177)), some (zI x1), none, none, none, none, none] [] (some (.inl (some (zJ y)), h)) =
    zY 316 16 [some (zR (some 177)), some (zI x1), some (zJ y), none, some (zJ (0#64)), none, some (zI 0)] [] h := by
  refine (show zBack zY 316 6 9 [some (zR (some 177)), some (zI x1), none, none, none, none, none] [] (some (.inl (some (zJ y)), h)) = gd (inR (0)) (zY 316 16 [some (zR (some 177)), some (zI x1), some (zJ y), none, some (zJ (0#64)), none, some (zI 0)] [] h) from zGo 5 316 9 _ _ _).trans ?_
  refine (gd_t (by decide) _).trans ?_
  rfl
theorem q_M_safeNow_16 {h : zH} {x1 : Int} {x2 : BitVec 64} {x4 : BitVec 64} {x6 : Int} (KM : KM h) : zY 316 16 [some (zR (some 177)), some (zI x1), some (zJ x2), none, some (zJ x4), none, some (zI x6)] [] h =
    if x6 < 64 then
      zBack zY 316 29 32 [some (zR (some 177)), some (zI x1), some (zJ x2), none, some (zJ x4), none, some (zI x6)] [zJ x4] (zC 317 [zR (some 177), zI x1, zI x6] h)
    else
      some (.inl (some (zJ x4)), h) := by
  refine (show zY 316 16 [some (zR (some 177)), some (zI x1), some (zJ x2), none, some (zJ x4), none, some (zI x6)] [] h = gd (-128 ≤ (64 : Int) ∧ (64 : Int) < 128) (if x6 < 64 then zY 316 23 [some (zR (some 177)), some (zI x1), some (zJ x2), none, some (zJ x4), none, some (zI x6)] [] h else zY 316 63 [some (zR (some 177)), some (zI x1), some (zJ x2), none, some (zJ x4), none, some (zI x6)] [] h) from zGo 3 316 16 _ _ _).trans ?_
  refine (gd_t (by decide) _).trans ?_
  refine iteC (fun c0 => ?_) (fun c0 => ?_)
  · skip
    refine (show zY 316 23 [some (zR (some 177)), some (zI x1), some (zJ x2), none, some (zJ x4), none, some (zI x6)] [] h = gd (false = zctor 317 ∧ zcs [zJ x4] ≤ 8 ∧ zrm 316 (zrf 317 + 1) (8 + (zmaxl 317 + 11) + zrl 317) = true ∧ zcs [zR (some 177), zI x1, zI x6] ≤ zmaxl 317) (gd (zob h (some 177) 12) (zBack zY 316 29 32 [some (zR (some 177)), some (zI x1), some (zJ x2), none, some (zJ x4), none, some (zI x6)] [zJ x4] (zC 317 [zR (some 177), zI x1, zI x6] h))) from zGo 5 316 23 _ _ _).trans ?_
    refine (gd_t (⟨rfl, Nat.le_of_ble_eq_true rfl, rfl, Nat.le_of_ble_eq_true rfl⟩) _).trans ?_
    refine (gd_t (⟨rfl, (PTM KM 177 _ rfl rfl), (PNM KM 177 rfl)⟩) _).trans ?_
    rfl
  · skip
    refine (show zY 316 63 [some (zR (some 177)), some (zI x1), some (zJ x2), none, some (zJ x4), none, some (zI x6)] [] h = gd (([] : List zV).isEmpty = true ∧ zrk 316 = 2) (some (.inl (some (zJ x4)), h)) from zGo 2 316 63 _ _ _).trans ?_
    refine (gd_t (⟨rfl, rfl⟩) _).trans ?_
    rfl
theorem q_M_safeNow_r32 {h : zH} {x1 : Int} {x2 : BitVec 64} {x4 : BitVec 64} {x6 : Int} {y0 : BitVec 64} {y : Int} (KM : KM h) : zBack zY 316 29 32 [some (zR (some 177)), some (zI x1), some (zJ x2), none, some (zJ x4), none, some (zI x6)] [zJ y0] (some (.inl (some (zI y)), h)) =
    if y = 0 then
      gd (-2147483648 ≤ x6 + 1 ∧ x6 + 1 < 2147483648) (
      zY 316 16 [some (zR (some 177)), some (zI x1), some (zJ x2), none, some (zJ (y0 ||| (0#64))), none, some (zI (x6 + 1))] [] h)
    else
      if b_M_holds x2 (hI h 177 28) then
        gd (-2147483648 ≤ x6 + 1 ∧ x6 + 1 < 2147483648) (
        zY 316 16 [some (zR (some 177)), some (zI x1), some (zJ x2), none, some (zJ (y0 ||| (zlshl (1#64) x6))), none, some (zI (x6 + 1))] [] h)
      else
        gd (-2147483648 ≤ x6 + 1 ∧ x6 + 1 < 2147483648) (
        zY 316 16 [some (zR (some 177)), some (zI x1), some (zJ x2), none, some (zJ (y0 ||| (0#64))), none, some (zI (x6 + 1))] [] h) := by
  refine (show zBack zY 316 29 32 [some (zR (some 177)), some (zI x1), some (zJ x2), none, some (zJ x4), none, some (zI x6)] [zJ y0] (some (.inl (some (zI y)), h)) = if y = 0 then zY 316 53 [some (zR (some 177)), some (zI x1), some (zJ x2), none, some (zJ x4), none, some (zI x6)] [zJ y0] h else zY 316 35 [some (zR (some 177)), some (zI x1), some (zJ x2), none, some (zJ x4), none, some (zI x6)] [zJ y0] h from zGo 1 316 32 _ _ _).trans ?_
  refine iteC (fun c0 => ?_) (fun c0 => ?_)
  · skip
    refine (show zY 316 53 [some (zR (some 177)), some (zI x1), some (zJ x2), none, some (zJ x4), none, some (zI x6)] [zJ y0] h = gd (inR (x6 + 1)) (gd (inR (1)) (zY 316 16 [some (zR (some 177)), some (zI x1), some (zJ x2), none, some (zJ (y0 ||| (0#64))), none, some (zI (x6 + 1))] [] h)) from zGo 5 316 53 _ _ _).trans ?_
    refine gd_c Iff.rfl (fun c1 => ?_)
    refine (gd_t (by decide) _).trans ?_
    rfl
  · skip
    refine (show zY 316 35 [some (zR (some 177)), some (zI x1), some (zJ x2), none, some (zJ x4), none, some (zI x6)] [zJ y0] h = gd (zob h (some 177) 12) (gd (false = zctor 260 ∧ zcs [zJ y0] ≤ 8 ∧ zrm 316 (zrf 260 + 1) (8 + (zmaxl 260 + 11) + zrl 260) = true ∧ zcs [zJ x2, zI (hI h 177 28)] ≤ zmaxl 260) (zBack zY 316 40 43 [some (zR (some 177)), some (zI x1), some (zJ x2), none, some (zJ x4), none, some (zI x6)] [zJ y0] (zC 260 [zJ x2, zI (hI h 177 28)] h))) from zGo 4 316 35 _ _ _).trans ?_
    refine (gd_t (⟨rfl, (PTM KM 177 _ rfl rfl), (PNM KM 177 rfl)⟩) _).trans ?_
    refine (gd_t (⟨rfl, Nat.le_of_ble_eq_true rfl, rfl, Nat.le_of_ble_eq_true rfl⟩) _).trans ?_
    refine (congrArg (zBack zY 316 40 43 [some (zR (some 177)), some (zI x1), some (zJ x2), none, some (zJ x4), none, some (zI x6)] [zJ y0]) (e_M_holds)).trans ?_
    refine (show zY 316 43 [some (zR (some 177)), some (zI x1), some (zJ x2), none, some (zJ x4), none, some (zI x6)] [zI (if b_M_holds x2 (hI h 177 28) then (1 : Int) else 0), zJ y0] h = if (if b_M_holds x2 (hI h 177 28) then (1 : Int) else 0) = 0 then zY 316 53 [some (zR (some 177)), some (zI x1), some (zJ x2), none, some (zJ x4), none, some (zI x6)] [zJ y0] h else zY 316 46 [some (zR (some 177)), some (zI x1), some (zJ x2), none, some (zJ x4), none, some (zI x6)] [zJ y0] h from zGo 1 316 43 _ _ _).trans ?_
    refine iteB (fun c2 => ?_) (fun c2 => ?_)
    · skip
      refine (show zY 316 46 [some (zR (some 177)), some (zI x1), some (zJ x2), none, some (zJ x4), none, some (zI x6)] [zJ y0] h = gd (inR (x6 + 1)) (gd (inR (1)) (zY 316 16 [some (zR (some 177)), some (zI x1), some (zJ x2), none, some (zJ (y0 ||| (zlshl (1#64) x6))), none, some (zI (x6 + 1))] [] h)) from zGo 8 316 46 _ _ _).trans ?_
      refine gd_c Iff.rfl (fun c3 => ?_)
      refine (gd_t (by decide) _).trans ?_
      rfl
    · skip
      refine (show zY 316 53 [some (zR (some 177)), some (zI x1), some (zJ x2), none, some (zJ x4), none, some (zI x6)] [zJ y0] h = gd (inR (x6 + 1)) (gd (inR (1)) (zY 316 16 [some (zR (some 177)), some (zI x1), some (zJ x2), none, some (zJ (y0 ||| (0#64))), none, some (zI (x6 + 1))] [] h)) from zGo 5 316 53 _ _ _).trans ?_
      refine gd_c Iff.rfl (fun c4 => ?_)
      refine (gd_t (by decide) _).trans ?_
      rfl
theorem q_M_safe {h : zH} {x1 : Int} (KM : KM h) (g0 : ((¬ (x1 < 0)) → (hI h 177 10 ≤ 24)) := by omega) : zC 315 [zR (some 177), zI x1] h =
    if (f_M_loopAt h x1) = (-1) then
      some (.inl (some (zJ (0#64))), (sI h 177 1 1))
    else
      zBack zY 315 19 22 [some (zR (some 177)), some (zI x1), some (zI (f_M_loopAt h x1))] [zR (some 177)] (zC 316 [zR (some 177), zI (f_M_loopAt h x1)] h) := by
  refine (show zC 315 [zR (some 177), zI x1] h = gd (false = zctor 263 ∧ zcs [] ≤ 8 ∧ zrm 315 (zrf 263 + 1) (8 + (zmaxl 263 + 11) + zrl 263) = true ∧ zcs [zR (some 177), zI x1] ≤ zmaxl 263) (gd (zob h (some 177) 12) (zBack zY 315 2 5 [some (zR (some 177)), some (zI x1), none] [] (zC 263 [zR (some 177), zI x1] h))) from zGo 3 315 0 _ _ _).trans ?_
  refine (gd_t (⟨rfl, Nat.le_of_ble_eq_true rfl, rfl, Nat.le_of_ble_eq_true rfl⟩) _).trans ?_
  refine (gd_t (⟨rfl, (PTM KM 177 _ rfl rfl), (PNM KM 177 rfl)⟩) _).trans ?_
  refine (congrArg (zBack zY 315 2 5 [some (zR (some 177)), some (zI x1), none] []) (e_M_loopAt KM (g0))).trans ?_
  refine (show zY 315 5 [some (zR (some 177)), some (zI x1), none] [zI (f_M_loopAt h x1)] h = gd (inR (-1)) (if (f_M_loopAt h x1) = (-1) then zY 315 11 [some (zR (some 177)), some (zI x1), some (zI (f_M_loopAt h x1))] [] h else zY 315 16 [some (zR (some 177)), some (zI x1), some (zI (f_M_loopAt h x1))] [] h) from zGo 4 315 5 _ _ _).trans ?_
  refine (gd_t (by decide) _).trans ?_
  refine iteC (fun c0 => ?_) (fun c0 => ?_)
  · skip
    refine (show zY 315 11 [some (zR (some 177)), some (zI x1), some (zI (f_M_loopAt h x1))] [] h = gd (false = zctor 284 ∧ zcs [] ≤ 8 ∧ zrm 315 (zrf 284 + 1) (8 + (zmaxl 284 + 11) + zrl 284) = true ∧ zcs [zR (some 177)] ≤ zmaxl 284) (gd (zob h (some 177) 12) (zBack zY 315 12 15 [some (zR (some 177)), some (zI x1), some (zI (f_M_loopAt h x1))] [] (zC 284 [zR (some 177)] h))) from zGo 2 315 11 _ _ _).trans ?_
    refine (gd_t (⟨rfl, Nat.le_of_ble_eq_true rfl, rfl, Nat.le_of_ble_eq_true rfl⟩) _).trans ?_
    refine (gd_t (⟨rfl, (PTM KM 177 _ rfl rfl), (PNM KM 177 rfl)⟩) _).trans ?_
    refine (congrArg (zBack zY 315 12 15 [some (zR (some 177)), some (zI x1), some (zI (f_M_loopAt h x1))] []) (q_M_noSet KM)).trans ?_
    refine (show zY 315 15 [some (zR (some 177)), some (zI x1), some (zI (f_M_loopAt h x1))] [zJ (0#64)] (sI h 177 1 1) = gd (([] : List zV).isEmpty = true ∧ zrk 315 = 2) (some (.inl (some (zJ (0#64))), (sI h 177 1 1))) from zGo 1 315 15 _ _ _).trans ?_
    refine (gd_t (⟨rfl, rfl⟩) _).trans ?_
    rfl
  · skip
    refine (show zY 315 16 [some (zR (some 177)), some (zI x1), some (zI (f_M_loopAt h x1))] [] h = gd (false = zctor 316 ∧ zcs [zR (some 177)] ≤ 8 ∧ zrm 315 (zrf 316 + 1) (8 + (zmaxl 316 + 11) + zrl 316) = true ∧ zcs [zR (some 177), zI (f_M_loopAt h x1)] ≤ zmaxl 316) (gd (zob h (some 177) 12) (zBack zY 315 19 22 [some (zR (some 177)), some (zI x1), some (zI (f_M_loopAt h x1))] [zR (some 177)] (zC 316 [zR (some 177), zI (f_M_loopAt h x1)] h))) from zGo 4 315 16 _ _ _).trans ?_
    refine (gd_t (⟨rfl, Nat.le_of_ble_eq_true rfl, rfl, Nat.le_of_ble_eq_true rfl⟩) _).trans ?_
    refine (gd_t (⟨rfl, (PTM KM 177 _ rfl rfl), (PNM KM 177 rfl)⟩) _).trans ?_
    rfl
theorem q_M_safe_r22 {h : zH} {x1 : Int} {x2 : Int} {y : BitVec 64} (KM : KM h) : zBack zY 315 19 22 [some (zR (some 177)), some (zI x1), some (zI x2)] [zR (some 177)] (some (.inl (some (zJ y)), h)) =
    some (.inl (some (zJ y)), (sI h 177 1 0)) := by
  refine (show zBack zY 315 19 22 [some (zR (some 177)), some (zI x1), some (zI x2)] [zR (some 177)] (some (.inl (some (zJ y)), h)) = gd (false = zctor 281 ∧ zcs [] ≤ 8 ∧ zrm 315 (zrf 281 + 1) (8 + (zmaxl 281 + 11) + zrl 281) = true ∧ zcs [zR (some 177), zJ y] ≤ zmaxl 281) (gd (zob h (some 177) 12) (zBack zY 315 22 25 [some (zR (some 177)), some (zI x1), some (zI x2)] [] (zC 281 [zR (some 177), zJ y] h))) from zGo 1 315 22 _ _ _).trans ?_
  refine (gd_t (⟨rfl, Nat.le_of_ble_eq_true rfl, rfl, Nat.le_of_ble_eq_true rfl⟩) _).trans ?_
  refine (gd_t (⟨rfl, (PTM KM 177 _ rfl rfl), (PNM KM 177 rfl)⟩) _).trans ?_
  refine (congrArg (zBack zY 315 22 25 [some (zR (some 177)), some (zI x1), some (zI x2)] []) (q_M_toldSet KM)).trans ?_
  refine (show zY 315 25 [some (zR (some 177)), some (zI x1), some (zI x2)] [zJ y] (sI h 177 1 0) = gd (([] : List zV).isEmpty = true ∧ zrk 315 = 2) (some (.inl (some (zJ y)), (sI h 177 1 0))) from zGo 1 315 25 _ _ _).trans ?_
  refine (gd_t (⟨rfl, rfl⟩) _).trans ?_
  rfl
theorem q_M_unsf {h : zH} {x1 : Int} (KM : KM h) (g0 : ((¬ (x1 < 0)) → (hI h 177 10 ≤ 24)) := by omega) : zC 318 [zR (some 177), zI x1] h =
    if (f_M_loopAt h x1) = (-1) then
      some (.inl (some (zJ (0#64))), (sI h 177 1 1))
    else
      gd (-2147483648 ≤ 26 + (f_M_loopAt h x1) ∧ 26 + (f_M_loopAt h x1) < 2147483648) (
      zBack zY 318 22 25 [some (zR (some 177)), some (zI x1), some (zI (f_M_loopAt h x1))] [zR (some 177)] (zC 248 [zR (some 177), zI (26 + (f_M_loopAt h x1))] h)) := by
  refine (show zC 318 [zR (some 177), zI x1] h = gd (false = zctor 263 ∧ zcs [] ≤ 8 ∧ zrm 318 (zrf 263 + 1) (8 + (zmaxl 263 + 11) + zrl 263) = true ∧ zcs [zR (some 177), zI x1] ≤ zmaxl 263) (gd (zob h (some 177) 12) (zBack zY 318 2 5 [some (zR (some 177)), some (zI x1), none] [] (zC 263 [zR (some 177), zI x1] h))) from zGo 3 318 0 _ _ _).trans ?_
  refine (gd_t (⟨rfl, Nat.le_of_ble_eq_true rfl, rfl, Nat.le_of_ble_eq_true rfl⟩) _).trans ?_
  refine (gd_t (⟨rfl, (PTM KM 177 _ rfl rfl), (PNM KM 177 rfl)⟩) _).trans ?_
  refine (congrArg (zBack zY 318 2 5 [some (zR (some 177)), some (zI x1), none] []) (e_M_loopAt KM (g0))).trans ?_
  refine (show zY 318 5 [some (zR (some 177)), some (zI x1), none] [zI (f_M_loopAt h x1)] h = gd (inR (-1)) (if (f_M_loopAt h x1) = (-1) then zY 318 11 [some (zR (some 177)), some (zI x1), some (zI (f_M_loopAt h x1))] [] h else zY 318 16 [some (zR (some 177)), some (zI x1), some (zI (f_M_loopAt h x1))] [] h) from zGo 4 318 5 _ _ _).trans ?_
  refine (gd_t (by decide) _).trans ?_
  refine iteC (fun c0 => ?_) (fun c0 => ?_)
  · skip
    refine (show zY 318 11 [some (zR (some 177)), some (zI x1), some (zI (f_M_loopAt h x1))] [] h = gd (false = zctor 284 ∧ zcs [] ≤ 8 ∧ zrm 318 (zrf 284 + 1) (8 + (zmaxl 284 + 11) + zrl 284) = true ∧ zcs [zR (some 177)] ≤ zmaxl 284) (gd (zob h (some 177) 12) (zBack zY 318 12 15 [some (zR (some 177)), some (zI x1), some (zI (f_M_loopAt h x1))] [] (zC 284 [zR (some 177)] h))) from zGo 2 318 11 _ _ _).trans ?_
    refine (gd_t (⟨rfl, Nat.le_of_ble_eq_true rfl, rfl, Nat.le_of_ble_eq_true rfl⟩) _).trans ?_
    refine (gd_t (⟨rfl, (PTM KM 177 _ rfl rfl), (PNM KM 177 rfl)⟩) _).trans ?_
    refine (congrArg (zBack zY 318 12 15 [some (zR (some 177)), some (zI x1), some (zI (f_M_loopAt h x1))] []) (q_M_noSet KM)).trans ?_
    refine (show zY 318 15 [some (zR (some 177)), some (zI x1), some (zI (f_M_loopAt h x1))] [zJ (0#64)] (sI h 177 1 1) = gd (([] : List zV).isEmpty = true ∧ zrk 318 = 2) (some (.inl (some (zJ (0#64))), (sI h 177 1 1))) from zGo 1 318 15 _ _ _).trans ?_
    refine (gd_t (⟨rfl, rfl⟩) _).trans ?_
    rfl
  · skip
    refine (show zY 318 16 [some (zR (some 177)), some (zI x1), some (zI (f_M_loopAt h x1))] [] h = gd (-128 ≤ (26 : Int) ∧ (26 : Int) < 128) (gd (inR (26 + (f_M_loopAt h x1))) (gd (false = zctor 248 ∧ zcs [zR (some 177)] ≤ 8 ∧ zrm 318 (zrf 248 + 1) (8 + (zmaxl 248 + 11) + zrl 248) = true ∧ zcs [zR (some 177), zI (26 + (f_M_loopAt h x1))] ≤ zmaxl 248) (gd (zob h (some 177) 12) (zBack zY 318 22 25 [some (zR (some 177)), some (zI x1), some (zI (f_M_loopAt h x1))] [zR (some 177)] (zC 248 [zR (some 177), zI (26 + (f_M_loopAt h x1))] h))))) from zGo 6 318 16 _ _ _).trans ?_
    refine (gd_t (by decide) _).trans ?_
    refine gd_c Iff.rfl (fun c1 => ?_)
    refine (gd_t (⟨rfl, Nat.le_of_ble_eq_true rfl, rfl, Nat.le_of_ble_eq_true rfl⟩) _).trans ?_
    refine (gd_t (⟨rfl, (PTM KM 177 _ rfl rfl), (PNM KM 177 rfl)⟩) _).trans ?_
    rfl
theorem q_M_unsf_r25 {h : zH} {x1 : Int} {x2 : Int} {y : BitVec 64} (KM : KM h) : zBack zY 318 22 25 [some (zR (some 177)), some (zI x1), some (zI x2)] [zR (some 177)] (some (.inl (some (zJ y)), h)) =
    zBack zY 318 27 30 [some (zR (some 177)), some (zI x1), some (zI x2)] [zJ y, zR (some 177)] (zC 316 [zR (some 177), zI x2] h) := by
  refine (show zBack zY 318 22 25 [some (zR (some 177)), some (zI x1), some (zI x2)] [zR (some 177)] (some (.inl (some (zJ y)), h)) = gd (false = zctor 316 ∧ zcs [zJ y, zR (some 177)] ≤ 8 ∧ zrm 318 (zrf 316 + 1) (8 + (zmaxl 316 + 11) + zrl 316) = true ∧ zcs [zR (some 177), zI x2] ≤ zmaxl 316) (gd (zob h (some 177) 12) (zBack zY 318 27 30 [some (zR (some 177)), some (zI x1), some (zI x2)] [zJ y, zR (some 177)] (zC 316 [zR (some 177), zI x2] h))) from zGo 3 318 25 _ _ _).trans ?_
  refine (gd_t (⟨rfl, Nat.le_of_ble_eq_true rfl, rfl, Nat.le_of_ble_eq_true rfl⟩) _).trans ?_
  refine (gd_t (⟨rfl, (PTM KM 177 _ rfl rfl), (PNM KM 177 rfl)⟩) _).trans ?_
  rfl
theorem q_M_unsf_r30 {h : zH} {x1 : Int} {x2 : Int} {y1 : BitVec 64} {y : BitVec 64} (KM : KM h) : zBack zY 318 27 30 [some (zR (some 177)), some (zI x1), some (zI x2)] [zJ y1, zR (some 177)] (some (.inl (some (zJ y)), h)) =
    some (.inl (some (zJ (y1 &&& (y ^^^ (18446744073709551615#64))))), (sI h 177 1 0)) := by
  refine (show zBack zY 318 27 30 [some (zR (some 177)), some (zI x1), some (zI x2)] [zJ y1, zR (some 177)] (some (.inl (some (zJ y)), h)) = gd (false = zctor 281 ∧ zcs [] ≤ 8 ∧ zrm 318 (zrf 281 + 1) (8 + (zmaxl 281 + 11) + zrl 281) = true ∧ zcs [zR (some 177), zJ (y1 &&& (y ^^^ (18446744073709551615#64)))] ≤ zmaxl 281) (gd (zob h (some 177) 12) (zBack zY 318 35 38 [some (zR (some 177)), some (zI x1), some (zI x2)] [] (zC 281 [zR (some 177), zJ (y1 &&& (y ^^^ (18446744073709551615#64)))] h))) from zGo 4 318 30 _ _ _).trans ?_
  refine (gd_t (⟨rfl, Nat.le_of_ble_eq_true rfl, rfl, Nat.le_of_ble_eq_true rfl⟩) _).trans ?_
  refine (gd_t (⟨rfl, (PTM KM 177 _ rfl rfl), (PNM KM 177 rfl)⟩) _).trans ?_
  refine (congrArg (zBack zY 318 35 38 [some (zR (some 177)), some (zI x1), some (zI x2)] []) (q_M_toldSet KM)).trans ?_
  refine (show zY 318 38 [some (zR (some 177)), some (zI x1), some (zI x2)] [zJ (y1 &&& (y ^^^ (18446744073709551615#64)))] (sI h 177 1 0) = gd (([] : List zV).isEmpty = true ∧ zrk 318 = 2) (some (.inl (some (zJ (y1 &&& (y ^^^ (18446744073709551615#64))))), (sI h 177 1 0))) from zGo 1 318 38 _ _ _).trans ?_
  refine (gd_t (⟨rfl, rfl⟩) _).trans ?_
  rfl
