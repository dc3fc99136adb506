/-! The law: pieces. -/
theorem q_lw0_0 {h : zH} {a0 : Nat} {a3 : Nat} {a4 : Nat} {i : Int} (ta0 : hT h a0 = 22) (KC : KC h) (KM : KM h) (ta3 : hT h a3 = 23) (na3 : a3 < hN h) (ta4 : hT h a4 = 24) (na4 : a4 < hN h) : zY 392 232 [some (zR (some a0)), some (zR (some 0)), some (zR (some 177)), some (zR (some a3)), some (zR (some a4)), some (zI i), none, none, none, none] [] h =
    gd (-2147483648 ≤ i + 1 ∧ i + 1 < 2147483648) (
    gd (0 ≤ (i + 1) ∧ (i + 1) < (hL h a0 : Int)) (
    gd (-2147483648 ≤ i + 2 ∧ i + 2 < 2147483648) (
    gd (0 ≤ (i + 2) ∧ (i + 2) < (hL h a0 : Int)) (
    gd (-2147483648 ≤ i + 3 ∧ i + 3 < 2147483648) (
    gd (0 ≤ (i + 3) ∧ (i + 3) < (hL h a0 : Int)) (
    gd (-2147483648 ≤ i + 4 ∧ i + 4 < 2147483648) (
    gd (0 ≤ (i + 4) ∧ (i + 4) < (hL h a0 : Int)) (
    gd (-2147483648 ≤ i + 5 ∧ i + 5 < 2147483648) (
    gd (0 ≤ (i + 5) ∧ (i + 5) < (hL h a0 : Int)) (
    zBack zY 392 264 267 [some (zR (some a0)), some (zR (some 0)), some (zR (some 177)), some (zR (some a3)), some (zR (some a4)), some (zI i), none, none, none, none] [] (zC 350 [zR (some 0), zI (hI h a0 (i + 1).toNat), zI (hI h a0 (i + 2).toNat), zI (hI h a0 (i + 3).toNat), zI (hI h a0 (i + 4).toNat), zI (hI h a0 (i + 5).toNat), zR (some a3)] h))))))))))) := by
  refine (show zY 392 232 [some (zR (some a0)), some (zR (some 0)), some (zR (some 177)), some (zR (some a3)), some (zR (some a4)), some (zI i), none, none, none, none] [] h = gd (inR (1)) (gd (inR (i + 1)) (gd (zok h (some a0) 22 (i + 1)) (gd (inR (2)) (gd (inR (i + 2)) (gd (zok h (some a0) 22 (i + 2)) (gd (inR (3)) (gd (inR (i + 3)) (gd (zok h (some a0) 22 (i + 3)) (gd (inR (4)) (gd (inR (i + 4)) (gd (zok h (some a0) 22 (i + 4)) (gd (inR (5)) (gd (inR (i + 5)) (gd (zok h (some a0) 22 (i + 5)) (gd (false = zctor 350 ∧ zcs [] ≤ 8 ∧ zrm 392 (zrf 350 + 1) (8 + (zmaxl 350 + 11) + zrl 350) = true ∧ zcs [zR (some 0), zI (hI h a0 (i + 1).toNat), zI (hI h a0 (i + 2).toNat), zI (hI h a0 (i + 3).toNat), zI (hI h a0 (i + 4).toNat), zI (hI h a0 (i + 5).toNat), zR (some a3)] ≤ zmaxl 350) (zBack zY 392 264 267 [some (zR (some a0)), some (zR (some 0)), some (zR (some 177)), some (zR (some a3)), some (zR (some a4)), some (zI i), none, none, none, none] [] (zC 350 [zR (some 0), zI (hI h a0 (i + 1).toNat), zI (hI h a0 (i + 2).toNat), zI (hI h a0 (i + 3).toNat), zI (hI h a0 (i + 4).toNat), zI (hI h a0 (i + 5).toNat), zR (some a3)] h))))))))))))))))) from zGo 28 392 232 _ _ _).trans ?_
  refine (gd_t (by decide) _).trans ?_
  refine gd_c Iff.rfl (fun c0 => ?_)
  refine gd_c (ci ta0 rfl) (fun c1 => ?_)
  refine (gd_t (by decide) _).trans ?_
  refine gd_c Iff.rfl (fun c2 => ?_)
  refine gd_c (ci ta0 rfl) (fun c3 => ?_)
  refine (gd_t (by decide) _).trans ?_
  refine gd_c Iff.rfl (fun c4 => ?_)
  refine gd_c (ci ta0 rfl) (fun c5 => ?_)
  refine (gd_t (by decide) _).trans ?_
  refine gd_c Iff.rfl (fun c6 => ?_)
  refine gd_c (ci ta0 rfl) (fun c7 => ?_)
  refine (gd_t (by decide) _).trans ?_
  refine gd_c Iff.rfl (fun c8 => ?_)
  refine gd_c (ci ta0 rfl) (fun c9 => ?_)
  refine (gd_t (⟨rfl, Nat.le_of_ble_eq_true rfl, rfl, Nat.le_of_ble_eq_true rfl⟩) _).trans ?_
  rfl
theorem q_lw0_1 {h : zH} {a0 : Nat} {a3 : Nat} {a4 : Nat} {i : Int} {y : Int} (ta0 : hT h a0 = 22) (KC : KC h) (KM : KM h) (ta3 : hT h a3 = 23) (na3 : a3 < hN h) (ta4 : hT h a4 = 24) (na4 : a4 < hN h) : zBack zY 392 264 267 [some (zR (some a0)), some (zR (some 0)), some (zR (some 177)), some (zR (some a3)), some (zR (some a4)), some (zI i), none, none, none, none] [] (some (.inl (some (zI y)), h)) =
    gd (-2147483648 ≤ i + 1 ∧ i + 1 < 2147483648) (
    gd (0 ≤ (i + 1) ∧ (i + 1) < (hL h a0 : Int)) (
    gd (-2147483648 ≤ i + 2 ∧ i + 2 < 2147483648) (
    gd (0 ≤ (i + 2) ∧ (i + 2) < (hL h a0 : Int)) (
    gd (-2147483648 ≤ i + 3 ∧ i + 3 < 2147483648) (
    gd (0 ≤ (i + 3) ∧ (i + 3) < (hL h a0 : Int)) (
    gd (-2147483648 ≤ i + 4 ∧ i + 4 < 2147483648) (
    gd (0 ≤ (i + 4) ∧ (i + 4) < (hL h a0 : Int)) (
    gd (-2147483648 ≤ i + 5 ∧ i + 5 < 2147483648) (
    gd (0 ≤ (i + 5) ∧ (i + 5) < (hL h a0 : Int)) (
    zBack zY 392 300 303 [some (zR (some a0)), some (zR (some 0)), some (zR (some 177)), some (zR (some a3)), some (zR (some a4)), some (zI i), some (zI y), none, none, none] [] (zC 209 [zR (some 177), zI (hI h a0 (i + 1).toNat), zI (hI h a0 (i + 2).toNat), zI (hI h a0 (i + 3).toNat), zI (hI h a0 (i + 4).toNat), zI (hI h a0 (i + 5).toNat)] h))))))))))) := by
  refine (show zBack zY 392 264 267 [some (zR (some a0)), some (zR (some 0)), some (zR (some 177)), some (zR (some a3)), some (zR (some a4)), some (zI i), none, none, none, none] [] (some (.inl (some (zI y)), h)) = gd (inR (1)) (gd (inR (i + 1)) (gd (zok h (some a0) 22 (i + 1)) (gd (inR (2)) (gd (inR (i + 2)) (gd (zok h (some a0) 22 (i + 2)) (gd (inR (3)) (gd (inR (i + 3)) (gd (zok h (some a0) 22 (i + 3)) (gd (inR (4)) (gd (inR (i + 4)) (gd (zok h (some a0) 22 (i + 4)) (gd (inR (5)) (gd (inR (i + 5)) (gd (zok h (some a0) 22 (i + 5)) (gd (false = zctor 209 ∧ zcs [] ≤ 8 ∧ zrm 392 (zrf 209 + 1) (8 + (zmaxl 209 + 11) + zrl 209) = true ∧ zcs [zR (some 177), zI (hI h a0 (i + 1).toNat), zI (hI h a0 (i + 2).toNat), zI (hI h a0 (i + 3).toNat), zI (hI h a0 (i + 4).toNat), zI (hI h a0 (i + 5).toNat)] ≤ zmaxl 209) (gd (zob h (some 177) 12) (zBack zY 392 300 303 [some (zR (some a0)), some (zR (some 0)), some (zR (some 177)), some (zR (some a3)), some (zR (some a4)), some (zI i), some (zI y), none, none, none] [] (zC 209 [zR (some 177), zI (hI h a0 (i + 1).toNat), zI (hI h a0 (i + 2).toNat), zI (hI h a0 (i + 3).toNat), zI (hI h a0 (i + 4).toNat), zI (hI h a0 (i + 5).toNat)] h)))))))))))))))))) from zGo 28 392 267 _ _ _).trans ?_
  refine (gd_t (by decide) _).trans ?_
  refine gd_c Iff.rfl (fun c0 => ?_)
  refine gd_c (ci ta0 rfl) (fun c1 => ?_)
  refine (gd_t (by decide) _).trans ?_
  refine gd_c Iff.rfl (fun c2 => ?_)
  refine gd_c (ci ta0 rfl) (fun c3 => ?_)
  refine (gd_t (by decide) _).trans ?_
  refine gd_c Iff.rfl (fun c4 => ?_)
  refine gd_c (ci ta0 rfl) (fun c5 => ?_)
  refine (gd_t (by decide) _).trans ?_
  refine gd_c Iff.rfl (fun c6 => ?_)
  refine gd_c (ci ta0 rfl) (fun c7 => ?_)
  refine (gd_t (by decide) _).trans ?_
  refine gd_c Iff.rfl (fun c8 => ?_)
  refine gd_c (ci ta0 rfl) (fun c9 => ?_)
  refine (gd_t (⟨rfl, Nat.le_of_ble_eq_true rfl, rfl, Nat.le_of_ble_eq_true rfl⟩) _).trans ?_
  refine (gd_t (⟨rfl, (PTM KM 177 _ rfl rfl), (PNM KM 177 rfl)⟩) _).trans ?_
  rfl
theorem q_lw0_2 {h : zH} {a0 : Nat} {a3 : Nat} {a4 : Nat} {i : Int} {x6 : Int} {y : Int} (ta0 : hT h a0 = 22) (KC : KC h) (KM : KM h) (ta3 : hT h a3 = 23) (na3 : a3 < hN h) (ta4 : hT h a4 = 24) (na4 : a4 < hN h) : zBack zY 392 300 303 [some (zR (some a0)), some (zR (some 0)), some (zR (some 177)), some (zR (some a3)), some (zR (some a4)), some (zI i), some (zI x6), none, none, none] [] (some (.inl (some (zI y)), h)) =
    zBack zY 392 306 309 [some (zR (some a0)), some (zR (some 0)), some (zR (some 177)), some (zR (some a3)), some (zR (some a4)), some (zI i), some (zI x6), some (zI y), none, none] [] (zC 208 [zR (some 177)] h) := by
  refine (show zBack zY 392 300 303 [some (zR (some a0)), some (zR (some 0)), some (zR (some 177)), some (zR (some a3)), some (zR (some a4)), some (zI i), some (zI x6), none, none, none] [] (some (.inl (some (zI y)), h)) = gd (false = zctor 208 ∧ zcs [] ≤ 8 ∧ zrm 392 (zrf 208 + 1) (8 + (zmaxl 208 + 11) + zrl 208) = true ∧ zcs [zR (some 177)] ≤ zmaxl 208) (gd (zob h (some 177) 12) (zBack zY 392 306 309 [some (zR (some a0)), some (zR (some 0)), some (zR (some 177)), some (zR (some a3)), some (zR (some a4)), some (zI i), some (zI x6), some (zI y), none, none] [] (zC 208 [zR (some 177)] h))) from zGo 3 392 303 _ _ _).trans ?_
  refine (gd_t (⟨rfl, Nat.le_of_ble_eq_true rfl, rfl, Nat.le_of_ble_eq_true rfl⟩) _).trans ?_
  refine (gd_t (⟨rfl, (PTM KM 177 _ rfl rfl), (PNM KM 177 rfl)⟩) _).trans ?_
  rfl
theorem q_lw0_3 {h : zH} {a0 : Nat} {a3 : Nat} {a4 : Nat} {i : Int} {x6 : Int} {x7 : Int} {y : Int} (ta0 : hT h a0 = 22) (KC : KC h) (KM : KM h) (ta3 : hT h a3 = 23) (na3 : a3 < hN h) (ta4 : hT h a4 = 24) (na4 : a4 < hN h) : zBack zY 392 306 309 [some (zR (some a0)), some (zR (some 0)), some (zR (some 177)), some (zR (some a3)), some (zR (some a4)), some (zI i), some (zI x6), some (zI x7), none, none] [] (some (.inl (some (zI y)), h)) =
    if y = x6 then
      if x6 = 0 then
        gd ((0 : Int) ≤ 0 ∧ 0 < (hL h a3 : Int)) (
        if (hJ h a3 0) = (zi2l x7) then
          zY 392 2378 [some (zR (some a0)), some (zR (some 0)), some (zR (some 177)), some (zR (some a3)), some (zR (some a4)), some (zI i), some (zI x6), some (zI x7), none, none] [] h
        else
          some (.inl (some (zI 0)), h))
      else
        zY 392 2378 [some (zR (some a0)), some (zR (some 0)), some (zR (some 177)), some (zR (some a3)), some (zR (some a4)), some (zI i), some (zI x6), some (zI x7), none, none] [] h
    else
      some (.inl (some (zI 0)), h) := by
  refine (show zBack zY 392 306 309 [some (zR (some a0)), some (zR (some 0)), some (zR (some 177)), some (zR (some a3)), some (zR (some a4)), some (zI i), some (zI x6), some (zI x7), none, none] [] (some (.inl (some (zI y)), h)) = if y = x6 then zY 392 316 [some (zR (some a0)), some (zR (some 0)), some (zR (some 177)), some (zR (some a3)), some (zR (some a4)), some (zI i), some (zI x6), some (zI x7), none, none] [] h else zY 392 314 [some (zR (some a0)), some (zR (some 0)), some (zR (some 177)), some (zR (some a3)), some (zR (some a4)), some (zI i), some (zI x6), some (zI x7), none, none] [] h from zGo 2 392 309 _ _ _).trans ?_
  refine iteC (fun c0 => ?_) (fun c0 => ?_)
  · skip
    refine (show zY 392 316 [some (zR (some a0)), some (zR (some 0)), some (zR (some 177)), some (zR (some a3)), some (zR (some a4)), some (zI i), some (zI x6), some (zI x7), none, none] [] h = if x6 = 0 then zY 392 321 [some (zR (some a0)), some (zR (some 0)), some (zR (some 177)), some (zR (some a3)), some (zR (some a4)), some (zI i), some (zI x6), some (zI x7), none, none] [] h else zY 392 333 [some (zR (some a0)), some (zR (some 0)), some (zR (some 177)), some (zR (some a3)), some (zR (some a4)), some (zI i), some (zI x6), some (zI x7), none, none] [] h from zGo 2 392 316 _ _ _).trans ?_
    refine iteC (fun c1 => ?_) (fun c1 => ?_)
    · skip
      refine (show zY 392 321 [some (zR (some a0)), some (zR (some 0)), some (zR (some 177)), some (zR (some a3)), some (zR (some a4)), some (zI i), some (zI x6), some (zI x7), none, none] [] h = gd (inR (0)) (gd (zok h (some a3) 23 0) (if (zlcmp (hJ h a3 0) (zi2l x7)) = 0 then zY 392 333 [some (zR (some a0)), some (zR (some 0)), some (zR (some 177)), some (zR (some a3)), some (zR (some a4)), some (zI i), some (zI x6), some (zI x7), none, none] [] h else zY 392 331 [some (zR (some a0)), some (zR (some 0)), some (zR (some 177)), some (zR (some a3)), some (zR (some a4)), some (zI i), some (zI x6), some (zI x7), none, none] [] h)) from zGo 7 392 321 _ _ _).trans ?_
      refine (gd_t (by decide) _).trans ?_
      refine gd_c (ci ta3 rfl) (fun c2 => ?_)
      refine iteL (fun c3 => ?_) (fun c3 => ?_)
      · skip
        refine (show zY 392 333 [some (zR (some a0)), some (zR (some 0)), some (zR (some 177)), some (zR (some a3)), some (zR (some a4)), some (zI i), some (zI x6), some (zI x7), none, none] [] h = zY 392 2378 [some (zR (some a0)), some (zR (some 0)), some (zR (some 177)), some (zR (some a3)), some (zR (some a4)), some (zI i), some (zI x6), some (zI x7), none, none] [] h from zGo 1 392 333 _ _ _).trans ?_
        rfl
      · skip
        refine (show zY 392 331 [some (zR (some a0)), some (zR (some 0)), some (zR (some 177)), some (zR (some a3)), some (zR (some a4)), some (zI i), some (zI x6), some (zI x7), none, none] [] h = gd (inR (0)) (gd (([] : List zV).isEmpty = true ∧ (zrk 392 = 1 ∨ zrk 392 = 6 ∧ ((0 : Int) = 0 ∨ (0 : Int) = 1))) (some (.inl (some (zI 0)), h))) from zGo 2 392 331 _ _ _).trans ?_
        refine (gd_t (by decide) _).trans ?_
        refine (gd_t (⟨rfl, Or.inr ⟨rfl, by decide⟩⟩) _).trans ?_
        rfl
    · skip
      refine (show zY 392 333 [some (zR (some a0)), some (zR (some 0)), some (zR (some 177)), some (zR (some a3)), some (zR (some a4)), some (zI i), some (zI x6), some (zI x7), none, none] [] h = zY 392 2378 [some (zR (some a0)), some (zR (some 0)), some (zR (some 177)), some (zR (some a3)), some (zR (some a4)), some (zI i), some (zI x6), some (zI x7), none, none] [] h from zGo 1 392 333 _ _ _).trans ?_
      rfl
  · skip
    refine (show zY 392 314 [some (zR (some a0)), some (zR (some 0)), some (zR (some 177)), some (zR (some a3)), some (zR (some a4)), some (zI i), some (zI x6), some (zI x7), none, none] [] h = gd (inR (0)) (gd (([] : List zV).isEmpty = true ∧ (zrk 392 = 1 ∨ zrk 392 = 6 ∧ ((0 : Int) = 0 ∨ (0 : Int) = 1))) (some (.inl (some (zI 0)), h))) from zGo 2 392 314 _ _ _).trans ?_
    refine (gd_t (by decide) _).trans ?_
    refine (gd_t (⟨rfl, Or.inr ⟨rfl, by decide⟩⟩) _).trans ?_
    rfl
theorem q_lw1_0 {h : zH} {a0 : Nat} {a3 : Nat} {a4 : Nat} {i : Int} (ta0 : hT h a0 = 22) (KC : KC h) (KM : KM h) (ta3 : hT h a3 = 23) (na3 : a3 < hN h) (ta4 : hT h a4 = 24) (na4 : a4 < hN h) : zY 392 336 [some (zR (some a0)), some (zR (some 0)), some (zR (some 177)), some (zR (some a3)), some (zR (some a4)), some (zI i), none, none, none, none] [] h =
    gd (-2147483648 ≤ i + 1 ∧ i + 1 < 2147483648) (
    gd (0 ≤ (i + 1) ∧ (i + 1) < (hL h a0 : Int)) (
    zBack zY 392 344 347 [some (zR (some a0)), some (zR (some 0)), some (zR (some 177)), some (zR (some a3)), some (zR (some a4)), some (zI i), none, none, none, none] [] (zC 351 [zR (some 0), zI (hI h a0 (i + 1).toNat), zR (some a3)] h))) := by
  refine (show zY 392 336 [some (zR (some a0)), some (zR (some 0)), some (zR (some 177)), some (zR (some a3)), some (zR (some a4)), some (zI i), none, none, none, none] [] h = gd (inR (1)) (gd (inR (i + 1)) (gd (zok h (some a0) 22 (i + 1)) (gd (false = zctor 351 ∧ zcs [] ≤ 8 ∧ zrm 392 (zrf 351 + 1) (8 + (zmaxl 351 + 11) + zrl 351) = true ∧ zcs [zR (some 0), zI (hI h a0 (i + 1).toNat), zR (some a3)] ≤ zmaxl 351) (zBack zY 392 344 347 [some (zR (some a0)), some (zR (some 0)), some (zR (some 177)), some (zR (some a3)), some (zR (some a4)), some (zI i), none, none, none, none] [] (zC 351 [zR (some 0), zI (hI h a0 (i + 1).toNat), zR (some a3)] h))))) from zGo 8 392 336 _ _ _).trans ?_
  refine (gd_t (by decide) _).trans ?_
  refine gd_c Iff.rfl (fun c0 => ?_)
  refine gd_c (ci ta0 rfl) (fun c1 => ?_)
  refine (gd_t (⟨rfl, Nat.le_of_ble_eq_true rfl, rfl, Nat.le_of_ble_eq_true rfl⟩) _).trans ?_
  rfl
theorem q_lw1_1 {h : zH} {a0 : Nat} {a3 : Nat} {a4 : Nat} {i : Int} {y : Int} (ta0 : hT h a0 = 22) (KC : KC h) (KM : KM h) (ta3 : hT h a3 = 23) (na3 : a3 < hN h) (ta4 : hT h a4 = 24) (na4 : a4 < hN h) : zBack zY 392 344 347 [some (zR (some a0)), some (zR (some 0)), some (zR (some 177)), some (zR (some a3)), some (zR (some a4)), some (zI i), none, none, none, none] [] (some (.inl (some (zI y)), h)) =
    gd (-2147483648 ≤ i + 1 ∧ i + 1 < 2147483648) (
    gd (0 ≤ (i + 1) ∧ (i + 1) < (hL h a0 : Int)) (
    zBack zY 392 356 359 [some (zR (some a0)), some (zR (some 0)), some (zR (some 177)), some (zR (some a3)), some (zR (some a4)), some (zI i), some (zI y), none, none, none] [] (zC 213 [zR (some 177), zI (hI h a0 (i + 1).toNat)] h))) := by
  refine (show zBack zY 392 344 347 [some (zR (some a0)), some (zR (some 0)), some (zR (some 177)), some (zR (some a3)), some (zR (some a4)), some (zI i), none, none, none, none] [] (some (.inl (some (zI y)), h)) = gd (inR (1)) (gd (inR (i + 1)) (gd (zok h (some a0) 22 (i + 1)) (gd (false = zctor 213 ∧ zcs [] ≤ 8 ∧ zrm 392 (zrf 213 + 1) (8 + (zmaxl 213 + 11) + zrl 213) = true ∧ zcs [zR (some 177), zI (hI h a0 (i + 1).toNat)] ≤ zmaxl 213) (gd (zob h (some 177) 12) (zBack zY 392 356 359 [some (zR (some a0)), some (zR (some 0)), some (zR (some 177)), some (zR (some a3)), some (zR (some a4)), some (zI i), some (zI y), none, none, none] [] (zC 213 [zR (some 177), zI (hI h a0 (i + 1).toNat)] h)))))) from zGo 8 392 347 _ _ _).trans ?_
  refine (gd_t (by decide) _).trans ?_
  refine gd_c Iff.rfl (fun c0 => ?_)
  refine gd_c (ci ta0 rfl) (fun c1 => ?_)
  refine (gd_t (⟨rfl, Nat.le_of_ble_eq_true rfl, rfl, Nat.le_of_ble_eq_true rfl⟩) _).trans ?_
  refine (gd_t (⟨rfl, (PTM KM 177 _ rfl rfl), (PNM KM 177 rfl)⟩) _).trans ?_
  rfl
theorem q_lw1_2 {h : zH} {a0 : Nat} {a3 : Nat} {a4 : Nat} {i : Int} {x6 : Int} {y : Int} (ta0 : hT h a0 = 22) (KC : KC h) (KM : KM h) (ta3 : hT h a3 = 23) (na3 : a3 < hN h) (ta4 : hT h a4 = 24) (na4 : a4 < hN h) : zBack zY 392 356 359 [some (zR (some a0)), some (zR (some 0)), some (zR (some 177)), some (zR (some a3)), some (zR (some a4)), some (zI i), some (zI x6), none, none, none] [] (some (.inl (some (zI y)), h)) =
    zBack zY 392 362 365 [some (zR (some a0)), some (zR (some 0)), some (zR (some 177)), some (zR (some a3)), some (zR (some a4)), some (zI i), some (zI x6), some (zI y), none, none] [] (zC 208 [zR (some 177)] h) := by
  refine (show zBack zY 392 356 359 [some (zR (some a0)), some (zR (some 0)), some (zR (some 177)), some (zR (some a3)), some (zR (some a4)), some (zI i), some (zI x6), none, none, none] [] (some (.inl (some (zI y)), h)) = gd (false = zctor 208 ∧ zcs [] ≤ 8 ∧ zrm 392 (zrf 208 + 1) (8 + (zmaxl 208 + 11) + zrl 208) = true ∧ zcs [zR (some 177)] ≤ zmaxl 208) (gd (zob h (some 177) 12) (zBack zY 392 362 365 [some (zR (some a0)), some (zR (some 0)), some (zR (some 177)), some (zR (some a3)), some (zR (some a4)), some (zI i), some (zI x6), some (zI y), none, none] [] (zC 208 [zR (some 177)] h))) from zGo 3 392 359 _ _ _).trans ?_
  refine (gd_t (⟨rfl, Nat.le_of_ble_eq_true rfl, rfl, Nat.le_of_ble_eq_true rfl⟩) _).trans ?_
  refine (gd_t (⟨rfl, (PTM KM 177 _ rfl rfl), (PNM KM 177 rfl)⟩) _).trans ?_
  rfl
theorem q_lw1_3 {h : zH} {a0 : Nat} {a3 : Nat} {a4 : Nat} {i : Int} {x6 : Int} {x7 : Int} {y : Int} (ta0 : hT h a0 = 22) (KC : KC h) (KM : KM h) (ta3 : hT h a3 = 23) (na3 : a3 < hN h) (ta4 : hT h a4 = 24) (na4 : a4 < hN h) : zBack zY 392 362 365 [some (zR (some a0)), some (zR (some 0)), some (zR (some 177)), some (zR (some a3)), some (zR (some a4)), some (zI i), some (zI x6), some (zI x7), none, none] [] (some (.inl (some (zI y)), h)) =
    if y = x6 then
      if x6 = 0 then
        gd ((0 : Int) ≤ 0 ∧ 0 < (hL h a3 : Int)) (
        if (hJ h a3 0) = (zi2l x7) then
          zY 392 2378 [some (zR (some a0)), some (zR (some 0)), some (zR (some 177)), some (zR (some a3)), some (zR (some a4)), some (zI i), some (zI x6), some (zI x7), none, none] [] h
        else
          some (.inl (some (zI 0)), h))
      else
        zY 392 2378 [some (zR (some a0)), some (zR (some 0)), some (zR (some 177)), some (zR (some a3)), some (zR (some a4)), some (zI i), some (zI x6), some (zI x7), none, none] [] h
    else
      some (.inl (some (zI 0)), h) := by
  refine (show zBack zY 392 362 365 [some (zR (some a0)), some (zR (some 0)), some (zR (some 177)), some (zR (some a3)), some (zR (some a4)), some (zI i), some (zI x6), some (zI x7), none, none] [] (some (.inl (some (zI y)), h)) = if y = x6 then zY 392 372 [some (zR (some a0)), some (zR (some 0)), some (zR (some 177)), some (zR (some a3)), some (zR (some a4)), some (zI i), some (zI x6), some (zI x7), none, none] [] h else zY 392 370 [some (zR (some a0)), some (zR (some 0)), some (zR (some 177)), some (zR (some a3)), some (zR (some a4)), some (zI i), some (zI x6), some (zI x7), none, none] [] h from zGo 2 392 365 _ _ _).trans ?_
  refine iteC (fun c0 => ?_) (fun c0 => ?_)
  · skip
    refine (show zY 392 372 [some (zR (some a0)), some (zR (some 0)), some (zR (some 177)), some (zR (some a3)), some (zR (some a4)), some (zI i), some (zI x6), some (zI x7), none, none] [] h = if x6 = 0 then zY 392 377 [some (zR (some a0)), some (zR (some 0)), some (zR (some 177)), some (zR (some a3)), some (zR (some a4)), some (zI i), some (zI x6), some (zI x7), none, none] [] h else zY 392 389 [some (zR (some a0)), some (zR (some 0)), some (zR (some 177)), some (zR (some a3)), some (zR (some a4)), some (zI i), some (zI x6), some (zI x7), none, none] [] h from zGo 2 392 372 _ _ _).trans ?_
    refine iteC (fun c1 => ?_) (fun c1 => ?_)
    · skip
      refine (show zY 392 377 [some (zR (some a0)), some (zR (some 0)), some (zR (some 177)), some (zR (some a3)), some (zR (some a4)), some (zI i), some (zI x6), some (zI x7), none, none] [] h = gd (inR (0)) (gd (zok h (some a3) 23 0) (if (zlcmp (hJ h a3 0) (zi2l x7)) = 0 then zY 392 389 [some (zR (some a0)), some (zR (some 0)), some (zR (some 177)), some (zR (some a3)), some (zR (some a4)), some (zI i), some (zI x6), some (zI x7), none, none] [] h else zY 392 387 [some (zR (some a0)), some (zR (some 0)), some (zR (some 177)), some (zR (some a3)), some (zR (some a4)), some (zI i), some (zI x6), some (zI x7), none, none] [] h)) from zGo 7 392 377 _ _ _).trans ?_
      refine (gd_t (by decide) _).trans ?_
      refine gd_c (ci ta3 rfl) (fun c2 => ?_)
      refine iteL (fun c3 => ?_) (fun c3 => ?_)
      · skip
        refine (show zY 392 389 [some (zR (some a0)), some (zR (some 0)), some (zR (some 177)), some (zR (some a3)), some (zR (some a4)), some (zI i), some (zI x6), some (zI x7), none, none] [] h = zY 392 2378 [some (zR (some a0)), some (zR (some 0)), some (zR (some 177)), some (zR (some a3)), some (zR (some a4)), some (zI i), some (zI x6), some (zI x7), none, none] [] h from zGo 1 392 389 _ _ _).trans ?_
        rfl
      · skip
        refine (show zY 392 387 [some (zR (some a0)), some (zR (some 0)), some (zR (some 177)), some (zR (some a3)), some (zR (some a4)), some (zI i), some (zI x6), some (zI x7), none, none] [] h = gd (inR (0)) (gd (([] : List zV).isEmpty = true ∧ (zrk 392 = 1 ∨ zrk 392 = 6 ∧ ((0 : Int) = 0 ∨ (0 : Int) = 1))) (some (.inl (some (zI 0)), h))) from zGo 2 392 387 _ _ _).trans ?_
        refine (gd_t (by decide) _).trans ?_
        refine (gd_t (⟨rfl, Or.inr ⟨rfl, by decide⟩⟩) _).trans ?_
        rfl
    · skip
      refine (show zY 392 389 [some (zR (some a0)), some (zR (some 0)), some (zR (some 177)), some (zR (some a3)), some (zR (some a4)), some (zI i), some (zI x6), some (zI x7), none, none] [] h = zY 392 2378 [some (zR (some a0)), some (zR (some 0)), some (zR (some 177)), some (zR (some a3)), some (zR (some a4)), some (zI i), some (zI x6), some (zI x7), none, none] [] h from zGo 1 392 389 _ _ _).trans ?_
      rfl
  · skip
    refine (show zY 392 370 [some (zR (some a0)), some (zR (some 0)), some (zR (some 177)), some (zR (some a3)), some (zR (some a4)), some (zI i), some (zI x6), some (zI x7), none, none] [] h = gd (inR (0)) (gd (([] : List zV).isEmpty = true ∧ (zrk 392 = 1 ∨ zrk 392 = 6 ∧ ((0 : Int) = 0 ∨ (0 : Int) = 1))) (some (.inl (some (zI 0)), h))) from zGo 2 392 370 _ _ _).trans ?_
    refine (gd_t (by decide) _).trans ?_
    refine (gd_t (⟨rfl, Or.inr ⟨rfl, by decide⟩⟩) _).trans ?_
    rfl
theorem q_lw2_0 {h : zH} {a0 : Nat} {a3 : Nat} {a4 : Nat} {i : Int} (ta0 : hT h a0 = 22) (KC : KC h) (KM : KM h) (ta3 : hT h a3 = 23) (na3 : a3 < hN h) (ta4 : hT h a4 = 24) (na4 : a4 < hN h) : zY 392 392 [some (zR (some a0)), some (zR (some 0)), some (zR (some 177)), some (zR (some a3)), some (zR (some a4)), some (zI i), none, none, none, none] [] h =
    zBack zY 392 393 396 [some (zR (some a0)), some (zR (some 0)), some (zR (some 177)), some (zR (some a3)), some (zR (some a4)), some (zI i), none, none, none, none] [] (zC 147 [zR (some 0)] h) := by
  refine (show zY 392 392 [some (zR (some a0)), some (zR (some 0)), some (zR (some 177)), some (zR (some a3)), some (zR (some a4)), some (zI i), none, none, none, none] [] h = gd (false = zctor 147 ∧ zcs [] ≤ 8 ∧ zrm 392 (zrf 147 + 1) (8 + (zmaxl 147 + 11) + zrl 147) = true ∧ zcs [zR (some 0)] ≤ zmaxl 147) (gd (zob h (some 0) 11) (zBack zY 392 393 396 [some (zR (some a0)), some (zR (some 0)), some (zR (some 177)), some (zR (some a3)), some (zR (some a4)), some (zI i), none, none, none, none] [] (zC 147 [zR (some 0)] h))) from zGo 2 392 392 _ _ _).trans ?_
  refine (gd_t (⟨rfl, Nat.le_of_ble_eq_true rfl, rfl, Nat.le_of_ble_eq_true rfl⟩) _).trans ?_
  refine (gd_t (⟨rfl, (PTC KC 0 _ rfl rfl), (PNC KC 0 rfl)⟩) _).trans ?_
  rfl
theorem q_lw2_1 {h : zH} {a0 : Nat} {a3 : Nat} {a4 : Nat} {i : Int} {y : Int} (ta0 : hT h a0 = 22) (KC : KC h) (KM : KM h) (ta3 : hT h a3 = 23) (na3 : a3 < hN h) (ta4 : hT h a4 = 24) (na4 : a4 < hN h) : zBack zY 392 393 396 [some (zR (some a0)), some (zR (some 0)), some (zR (some 177)), some (zR (some a3)), some (zR (some a4)), some (zI i), none, none, none, none] [] (some (.inl (some (zI y)), h)) =
    zBack zY 392 397 400 [some (zR (some a0)), some (zR (some 0)), some (zR (some 177)), some (zR (some a3)), some (zR (some a4)), some (zI i), none, none, none, none] [zI y] (zC 239 [zR (some 177)] h) := by
  refine (show zBack zY 392 393 396 [some (zR (some a0)), some (zR (some 0)), some (zR (some 177)), some (zR (some a3)), some (zR (some a4)), some (zI i), none, none, none, none] [] (some (.inl (some (zI y)), h)) = gd (false = zctor 239 ∧ zcs [zI y] ≤ 8 ∧ zrm 392 (zrf 239 + 1) (8 + (zmaxl 239 + 11) + zrl 239) = true ∧ zcs [zR (some 177)] ≤ zmaxl 239) (gd (zob h (some 177) 12) (zBack zY 392 397 400 [some (zR (some a0)), some (zR (some 0)), some (zR (some 177)), some (zR (some a3)), some (zR (some a4)), some (zI i), none, none, none, none] [zI y] (zC 239 [zR (some 177)] h))) from zGo 2 392 396 _ _ _).trans ?_
  refine (gd_t (⟨rfl, Nat.le_of_ble_eq_true rfl, rfl, Nat.le_of_ble_eq_true rfl⟩) _).trans ?_
  refine (gd_t (⟨rfl, (PTM KM 177 _ rfl rfl), (PNM KM 177 rfl)⟩) _).trans ?_
  rfl
theorem q_lw2_2 {h : zH} {a0 : Nat} {a3 : Nat} {a4 : Nat} {i : Int} {y0 : Int} {y : Int} (ta0 : hT h a0 = 22) (KC : KC h) (KM : KM h) (ta3 : hT h a3 = 23) (na3 : a3 < hN h) (ta4 : hT h a4 = 24) (na4 : a4 < hN h) : zBack zY 392 397 400 [some (zR (some a0)), some (zR (some 0)), some (zR (some 177)), some (zR (some a3)), some (zR (some a4)), some (zI i), none, none, none, none] [zI y0] (some (.inl (some (zI y)), h)) =
    if y0 = y then
      zY 392 2378 [some (zR (some a0)), some (zR (some 0)), some (zR (some 177)), some (zR (some a3)), some (zR (some a4)), some (zI i), none, none, none, none] [] h
    else
      some (.inl (some (zI 0)), h) := by
  refine (show zBack zY 392 397 400 [some (zR (some a0)), some (zR (some 0)), some (zR (some 177)), some (zR (some a3)), some (zR (some a4)), some (zI i), none, none, none, none] [zI y0] (some (.inl (some (zI y)), h)) = if y0 = y then zY 392 2378 [some (zR (some a0)), some (zR (some 0)), some (zR (some 177)), some (zR (some a3)), some (zR (some a4)), some (zI i), none, none, none, none] [] h else zY 392 403 [some (zR (some a0)), some (zR (some 0)), some (zR (some 177)), some (zR (some a3)), some (zR (some a4)), some (zI i), none, none, none, none] [] h from zGo 1 392 400 _ _ _).trans ?_
  refine iteC (fun c0 => ?_) (fun c0 => ?_)
  · skip
    rfl
  · skip
    refine (show zY 392 403 [some (zR (some a0)), some (zR (some 0)), some (zR (some 177)), some (zR (some a3)), some (zR (some a4)), some (zI i), none, none, none, none] [] h = gd (inR (0)) (gd (([] : List zV).isEmpty = true ∧ (zrk 392 = 1 ∨ zrk 392 = 6 ∧ ((0 : Int) = 0 ∨ (0 : Int) = 1))) (some (.inl (some (zI 0)), h))) from zGo 2 392 403 _ _ _).trans ?_
    refine (gd_t (by decide) _).trans ?_
    refine (gd_t (⟨rfl, Or.inr ⟨rfl, by decide⟩⟩) _).trans ?_
    rfl
theorem q_lw3_0 {h : zH} {a0 : Nat} {a3 : Nat} {a4 : Nat} {i : Int} (ta0 : hT h a0 = 22) (KC : KC h) (KM : KM h) (ta3 : hT h a3 = 23) (na3 : a3 < hN h) (ta4 : hT h a4 = 24) (na4 : a4 < hN h) : zY 392 405 [some (zR (some a0)), some (zR (some 0)), some (zR (some 177)), some (zR (some a3)), some (zR (some a4)), some (zI i), none, none, none, none] [] h =
    zBack zY 392 406 409 [some (zR (some a0)), some (zR (some 0)), some (zR (some 177)), some (zR (some a3)), some (zR (some a4)), some (zI i), none, none, none, none] [] (zC 148 [zR (some 0)] h) := by
  refine (show zY 392 405 [some (zR (some a0)), some (zR (some 0)), some (zR (some 177)), some (zR (some a3)), some (zR (some a4)), some (zI i), none, none, none, none] [] h = gd (false = zctor 148 ∧ zcs [] ≤ 8 ∧ zrm 392 (zrf 148 + 1) (8 + (zmaxl 148 + 11) + zrl 148) = true ∧ zcs [zR (some 0)] ≤ zmaxl 148) (gd (zob h (some 0) 11) (zBack zY 392 406 409 [some (zR (some a0)), some (zR (some 0)), some (zR (some 177)), some (zR (some a3)), some (zR (some a4)), some (zI i), none, none, none, none] [] (zC 148 [zR (some 0)] h))) from zGo 2 392 405 _ _ _).trans ?_
  refine (gd_t (⟨rfl, Nat.le_of_ble_eq_true rfl, rfl, Nat.le_of_ble_eq_true rfl⟩) _).trans ?_
  refine (gd_t (⟨rfl, (PTC KC 0 _ rfl rfl), (PNC KC 0 rfl)⟩) _).trans ?_
  rfl
theorem q_lw3_1 {h : zH} {a0 : Nat} {a3 : Nat} {a4 : Nat} {i : Int} {y : Int} (ta0 : hT h a0 = 22) (KC : KC h) (KM : KM h) (ta3 : hT h a3 = 23) (na3 : a3 < hN h) (ta4 : hT h a4 = 24) (na4 : a4 < hN h) : zBack zY 392 406 409 [some (zR (some a0)), some (zR (some 0)), some (zR (some 177)), some (zR (some a3)), some (zR (some a4)), some (zI i), none, none, none, none] [] (some (.inl (some (zI y)), h)) =
    zBack zY 392 410 413 [some (zR (some a0)), some (zR (some 0)), some (zR (some 177)), some (zR (some a3)), some (zR (some a4)), some (zI i), none, none, none, none] [zI y] (zC 240 [zR (some 177)] h) := by
  refine (show zBack zY 392 406 409 [some (zR (some a0)), some (zR (some 0)), some (zR (some 177)), some (zR (some a3)), some (zR (some a4)), some (zI i), none, none, none, none] [] (some (.inl (some (zI y)), h)) = gd (false = zctor 240 ∧ zcs [zI y] ≤ 8 ∧ zrm 392 (zrf 240 + 1) (8 + (zmaxl 240 + 11) + zrl 240) = true ∧ zcs [zR (some 177)] ≤ zmaxl 240) (gd (zob h (some 177) 12) (zBack zY 392 410 413 [some (zR (some a0)), some (zR (some 0)), some (zR (some 177)), some (zR (some a3)), some (zR (some a4)), some (zI i), none, none, none, none] [zI y] (zC 240 [zR (some 177)] h))) from zGo 2 392 409 _ _ _).trans ?_
  refine (gd_t (⟨rfl, Nat.le_of_ble_eq_true rfl, rfl, Nat.le_of_ble_eq_true rfl⟩) _).trans ?_
  refine (gd_t (⟨rfl, (PTM KM 177 _ rfl rfl), (PNM KM 177 rfl)⟩) _).trans ?_
  rfl
theorem q_lw3_2 {h : zH} {a0 : Nat} {a3 : Nat} {a4 : Nat} {i : Int} {y0 : Int} {y : Int} (ta0 : hT h a0 = 22) (KC : KC h) (KM : KM h) (ta3 : hT h a3 = 23) (na3 : a3 < hN h) (ta4 : hT h a4 = 24) (na4 : a4 < hN h) : zBack zY 392 410 413 [some (zR (some a0)), some (zR (some 0)), some (zR (some 177)), some (zR (some a3)), some (zR (some a4)), some (zI i), none, none, none, none] [zI y0] (some (.inl (some (zI y)), h)) =
    if y0 = y then
      zY 392 2378 [some (zR (some a0)), some (zR (some 0)), some (zR (some 177)), some (zR (some a3)), some (zR (some a4)), some (zI i), none, none, none, none] [] h
    else
      some (.inl (some (zI 0)), h) := by
  refine (show zBack zY 392 410 413 [some (zR (some a0)), some (zR (some 0)), some (zR (some 177)), some (zR (some a3)), some (zR (some a4)), some (zI i), none, none, none, none] [zI y0] (some (.inl (some (zI y)), h)) = if y0 = y then zY 392 2378 [some (zR (some a0)), some (zR (some 0)), some (zR (some 177)), some (zR (some a3)), some (zR (some a4)), some (zI i), none, none, none, none] [] h else zY 392 416 [some (zR (some a0)), some (zR (some 0)), some (zR (some 177)), some (zR (some a3)), some (zR (some a4)), some (zI i), none, none, none, none] [] h from zGo 1 392 413 _ _ _).trans ?_
  refine iteC (fun c0 => ?_) (fun c0 => ?_)
  · skip
    rfl
  · skip
    refine (show zY 392 416 [some (zR (some a0)), some (zR (some 0)), some (zR (some 177)), some (zR (some a3)), some (zR (some a4)), some (zI i), none, none, none, none] [] h = gd (inR (0)) (gd (([] : List zV).isEmpty = true ∧ (zrk 392 = 1 ∨ zrk 392 = 6 ∧ ((0 : Int) = 0 ∨ (0 : Int) = 1))) (some (.inl (some (zI 0)), h))) from zGo 2 392 416 _ _ _).trans ?_
    refine (gd_t (by decide) _).trans ?_
    refine (gd_t (⟨rfl, Or.inr ⟨rfl, by decide⟩⟩) _).trans ?_
    rfl
theorem q_lw4_0 {h : zH} {a0 : Nat} {a3 : Nat} {a4 : Nat} {i : Int} (ta0 : hT h a0 = 22) (KC : KC h) (KM : KM h) (ta3 : hT h a3 = 23) (na3 : a3 < hN h) (ta4 : hT h a4 = 24) (na4 : a4 < hN h) : zY 392 418 [some (zR (some a0)), some (zR (some 0)), some (zR (some 177)), some (zR (some a3)), some (zR (some a4)), some (zI i), none, none, none, none] [] h =
    gd (-2147483648 ≤ i + 1 ∧ i + 1 < 2147483648) (
    gd (0 ≤ (i + 1) ∧ (i + 1) < (hL h a0 : Int)) (
    zBack zY 392 426 429 [some (zR (some a0)), some (zR (some 0)), some (zR (some 177)), some (zR (some a3)), some (zR (some a4)), some (zI i), none, none, none, none] [] (zC 352 [zR (some 0), zI (hI h a0 (i + 1).toNat), zR (some a3)] h))) := by
  refine (show zY 392 418 [some (zR (some a0)), some (zR (some 0)), some (zR (some 177)), some (zR (some a3)), some (zR (some a4)), some (zI i), none, none, none, none] [] h = gd (inR (1)) (gd (inR (i + 1)) (gd (zok h (some a0) 22 (i + 1)) (gd (false = zctor 352 ∧ zcs [] ≤ 8 ∧ zrm 392 (zrf 352 + 1) (8 + (zmaxl 352 + 11) + zrl 352) = true ∧ zcs [zR (some 0), zI (hI h a0 (i + 1).toNat), zR (some a3)] ≤ zmaxl 352) (zBack zY 392 426 429 [some (zR (some a0)), some (zR (some 0)), some (zR (some 177)), some (zR (some a3)), some (zR (some a4)), some (zI i), none, none, none, none] [] (zC 352 [zR (some 0), zI (hI h a0 (i + 1).toNat), zR (some a3)] h))))) from zGo 8 392 418 _ _ _).trans ?_
  refine (gd_t (by decide) _).trans ?_
  refine gd_c Iff.rfl (fun c0 => ?_)
  refine gd_c (ci ta0 rfl) (fun c1 => ?_)
  refine (gd_t (⟨rfl, Nat.le_of_ble_eq_true rfl, rfl, Nat.le_of_ble_eq_true rfl⟩) _).trans ?_
  rfl
theorem q_lw4_1 {h : zH} {a0 : Nat} {a3 : Nat} {a4 : Nat} {i : Int} {y : Int} (ta0 : hT h a0 = 22) (KC : KC h) (KM : KM h) (ta3 : hT h a3 = 23) (na3 : a3 < hN h) (ta4 : hT h a4 = 24) (na4 : a4 < hN h) : zBack zY 392 426 429 [some (zR (some a0)), some (zR (some 0)), some (zR (some 177)), some (zR (some a3)), some (zR (some a4)), some (zI i), none, none, none, none] [] (some (.inl (some (zI y)), h)) =
    gd (-2147483648 ≤ i + 1 ∧ i + 1 < 2147483648) (
    gd (0 ≤ (i + 1) ∧ (i + 1) < (hL h a0 : Int)) (
    zBack zY 392 438 441 [some (zR (some a0)), some (zR (some 0)), some (zR (some 177)), some (zR (some a3)), some (zR (some a4)), some (zI i), some (zI y), none, none, none] [] (zC 241 [zR (some 177), zI (hI h a0 (i + 1).toNat)] h))) := by
  refine (show zBack zY 392 426 429 [some (zR (some a0)), some (zR (some 0)), some (zR (some 177)), some (zR (some a3)), some (zR (some a4)), some (zI i), none, none, none, none] [] (some (.inl (some (zI y)), h)) = gd (inR (1)) (gd (inR (i + 1)) (gd (zok h (some a0) 22 (i + 1)) (gd (false = zctor 241 ∧ zcs [] ≤ 8 ∧ zrm 392 (zrf 241 + 1) (8 + (zmaxl 241 + 11) + zrl 241) = true ∧ zcs [zR (some 177), zI (hI h a0 (i + 1).toNat)] ≤ zmaxl 241) (gd (zob h (some 177) 12) (zBack zY 392 438 441 [some (zR (some a0)), some (zR (some 0)), some (zR (some 177)), some (zR (some a3)), some (zR (some a4)), some (zI i), some (zI y), none, none, none] [] (zC 241 [zR (some 177), zI (hI h a0 (i + 1).toNat)] h)))))) from zGo 8 392 429 _ _ _).trans ?_
  refine (gd_t (by decide) _).trans ?_
  refine gd_c Iff.rfl (fun c0 => ?_)
  refine gd_c (ci ta0 rfl) (fun c1 => ?_)
  refine (gd_t (⟨rfl, Nat.le_of_ble_eq_true rfl, rfl, Nat.le_of_ble_eq_true rfl⟩) _).trans ?_
  refine (gd_t (⟨rfl, (PTM KM 177 _ rfl rfl), (PNM KM 177 rfl)⟩) _).trans ?_
  rfl
theorem q_lw4_2 {h : zH} {a0 : Nat} {a3 : Nat} {a4 : Nat} {i : Int} {x6 : Int} {y : Int} (ta0 : hT h a0 = 22) (KC : KC h) (KM : KM h) (ta3 : hT h a3 = 23) (na3 : a3 < hN h) (ta4 : hT h a4 = 24) (na4 : a4 < hN h) : zBack zY 392 438 441 [some (zR (some a0)), some (zR (some 0)), some (zR (some 177)), some (zR (some a3)), some (zR (some a4)), some (zI i), some (zI x6), none, none, none] [] (some (.inl (some (zI y)), h)) =
    zBack zY 392 444 447 [some (zR (some a0)), some (zR (some 0)), some (zR (some 177)), some (zR (some a3)), some (zR (some a4)), some (zI i), some (zI x6), some (zI y), none, none] [] (zC 208 [zR (some 177)] h) := by
  refine (show zBack zY 392 438 441 [some (zR (some a0)), some (zR (some 0)), some (zR (some 177)), some (zR (some a3)), some (zR (some a4)), some (zI i), some (zI x6), none, none, none] [] (some (.inl (some (zI y)), h)) = gd (false = zctor 208 ∧ zcs [] ≤ 8 ∧ zrm 392 (zrf 208 + 1) (8 + (zmaxl 208 + 11) + zrl 208) = true ∧ zcs [zR (some 177)] ≤ zmaxl 208) (gd (zob h (some 177) 12) (zBack zY 392 444 447 [some (zR (some a0)), some (zR (some 0)), some (zR (some 177)), some (zR (some a3)), some (zR (some a4)), some (zI i), some (zI x6), some (zI y), none, none] [] (zC 208 [zR (some 177)] h))) from zGo 3 392 441 _ _ _).trans ?_
  refine (gd_t (⟨rfl, Nat.le_of_ble_eq_true rfl, rfl, Nat.le_of_ble_eq_true rfl⟩) _).trans ?_
  refine (gd_t (⟨rfl, (PTM KM 177 _ rfl rfl), (PNM KM 177 rfl)⟩) _).trans ?_
  rfl
theorem q_lw4_3 {h : zH} {a0 : Nat} {a3 : Nat} {a4 : Nat} {i : Int} {x6 : Int} {x7 : Int} {y : Int} (ta0 : hT h a0 = 22) (KC : KC h) (KM : KM h) (ta3 : hT h a3 = 23) (na3 : a3 < hN h) (ta4 : hT h a4 = 24) (na4 : a4 < hN h) : zBack zY 392 444 447 [some (zR (some a0)), some (zR (some 0)), some (zR (some 177)), some (zR (some a3)), some (zR (some a4)), some (zI i), some (zI x6), some (zI x7), none, none] [] (some (.inl (some (zI y)), h)) =
    if y = x6 then
      if x6 = 0 then
        gd ((0 : Int) ≤ 0 ∧ 0 < (hL h a3 : Int)) (
        if (hJ h a3 0) = (zi2l x7) then
          zY 392 2378 [some (zR (some a0)), some (zR (some 0)), some (zR (some 177)), some (zR (some a3)), some (zR (some a4)), some (zI i), some (zI x6), some (zI x7), none, none] [] h
        else
          some (.inl (some (zI 0)), h))
      else
        zY 392 2378 [some (zR (some a0)), some (zR (some 0)), some (zR (some 177)), some (zR (some a3)), some (zR (some a4)), some (zI i), some (zI x6), some (zI x7), none, none] [] h
    else
      some (.inl (some (zI 0)), h) := by
  refine (show zBack zY 392 444 447 [some (zR (some a0)), some (zR (some 0)), some (zR (some 177)), some (zR (some a3)), some (zR (some a4)), some (zI i), some (zI x6), some (zI x7), none, none] [] (some (.inl (some (zI y)), h)) = if y = x6 then zY 392 454 [some (zR (some a0)), some (zR (some 0)), some (zR (some 177)), some (zR (some a3)), some (zR (some a4)), some (zI i), some (zI x6), some (zI x7), none, none] [] h else zY 392 452 [some (zR (some a0)), some (zR (some 0)), some (zR (some 177)), some (zR (some a3)), some (zR (some a4)), some (zI i), some (zI x6), some (zI x7), none, none] [] h from zGo 2 392 447 _ _ _).trans ?_
  refine iteC (fun c0 => ?_) (fun c0 => ?_)
  · skip
    refine (show zY 392 454 [some (zR (some a0)), some (zR (some 0)), some (zR (some 177)), some (zR (some a3)), some (zR (some a4)), some (zI i), some (zI x6), some (zI x7), none, none] [] h = if x6 = 0 then zY 392 459 [some (zR (some a0)), some (zR (some 0)), some (zR (some 177)), some (zR (some a3)), some (zR (some a4)), some (zI i), some (zI x6), some (zI x7), none, none] [] h else zY 392 471 [some (zR (some a0)), some (zR (some 0)), some (zR (some 177)), some (zR (some a3)), some (zR (some a4)), some (zI i), some (zI x6), some (zI x7), none, none] [] h from zGo 2 392 454 _ _ _).trans ?_
    refine iteC (fun c1 => ?_) (fun c1 => ?_)
    · skip
      refine (show zY 392 459 [some (zR (some a0)), some (zR (some 0)), some (zR (some 177)), some (zR (some a3)), some (zR (some a4)), some (zI i), some (zI x6), some (zI x7), none, none] [] h = gd (inR (0)) (gd (zok h (some a3) 23 0) (if (zlcmp (hJ h a3 0) (zi2l x7)) = 0 then zY 392 471 [some (zR (some a0)), some (zR (some 0)), some (zR (some 177)), some (zR (some a3)), some (zR (some a4)), some (zI i), some (zI x6), some (zI x7), none, none] [] h else zY 392 469 [some (zR (some a0)), some (zR (some 0)), some (zR (some 177)), some (zR (some a3)), some (zR (some a4)), some (zI i), some (zI x6), some (zI x7), none, none] [] h)) from zGo 7 392 459 _ _ _).trans ?_
      refine (gd_t (by decide) _).trans ?_
      refine gd_c (ci ta3 rfl) (fun c2 => ?_)
      refine iteL (fun c3 => ?_) (fun c3 => ?_)
      · skip
        refine (show zY 392 471 [some (zR (some a0)), some (zR (some 0)), some (zR (some 177)), some (zR (some a3)), some (zR (some a4)), some (zI i), some (zI x6), some (zI x7), none, none] [] h = zY 392 2378 [some (zR (some a0)), some (zR (some 0)), some (zR (some 177)), some (zR (some a3)), some (zR (some a4)), some (zI i), some (zI x6), some (zI x7), none, none] [] h from zGo 1 392 471 _ _ _).trans ?_
        rfl
      · skip
        refine (show zY 392 469 [some (zR (some a0)), some (zR (some 0)), some (zR (some 177)), some (zR (some a3)), some (zR (some a4)), some (zI i), some (zI x6), some (zI x7), none, none] [] h = gd (inR (0)) (gd (([] : List zV).isEmpty = true ∧ (zrk 392 = 1 ∨ zrk 392 = 6 ∧ ((0 : Int) = 0 ∨ (0 : Int) = 1))) (some (.inl (some (zI 0)), h))) from zGo 2 392 469 _ _ _).trans ?_
        refine (gd_t (by decide) _).trans ?_
        refine (gd_t (⟨rfl, Or.inr ⟨rfl, by decide⟩⟩) _).trans ?_
        rfl
    · skip
      refine (show zY 392 471 [some (zR (some a0)), some (zR (some 0)), some (zR (some 177)), some (zR (some a3)), some (zR (some a4)), some (zI i), some (zI x6), some (zI x7), none, none] [] h = zY 392 2378 [some (zR (some a0)), some (zR (some 0)), some (zR (some 177)), some (zR (some a3)), some (zR (some a4)), some (zI i), some (zI x6), some (zI x7), none, none] [] h from zGo 1 392 471 _ _ _).trans ?_
      rfl
  · skip
    refine (show zY 392 452 [some (zR (some a0)), some (zR (some 0)), some (zR (some 177)), some (zR (some a3)), some (zR (some a4)), some (zI i), some (zI x6), some (zI x7), none, none] [] h = gd (inR (0)) (gd (([] : List zV).isEmpty = true ∧ (zrk 392 = 1 ∨ zrk 392 = 6 ∧ ((0 : Int) = 0 ∨ (0 : Int) = 1))) (some (.inl (some (zI 0)), h))) from zGo 2 392 452 _ _ _).trans ?_
    refine (gd_t (by decide) _).trans ?_
    refine (gd_t (⟨rfl, Or.inr ⟨rfl, by decide⟩⟩) _).trans ?_
    rfl
theorem q_lw5_0 {h : zH} {a0 : Nat} {a3 : Nat} {a4 : Nat} {i : Int} (ta0 : hT h a0 = 22) (KC : KC h) (KM : KM h) (ta3 : hT h a3 = 23) (na3 : a3 < hN h) (ta4 : hT h a4 = 24) (na4 : a4 < hN h) : zY 392 474 [some (zR (some a0)), some (zR (some 0)), some (zR (some 177)), some (zR (some a3)), some (zR (some a4)), some (zI i), none, none, none, none] [] h =
    gd (-2147483648 ≤ i + 1 ∧ i + 1 < 2147483648) (
    gd (0 ≤ (i + 1) ∧ (i + 1) < (hL h a0 : Int)) (
    gd (-2147483648 ≤ i + 2 ∧ i + 2 < 2147483648) (
    gd (0 ≤ (i + 2) ∧ (i + 2) < (hL h a0 : Int)) (
    zBack zY 392 488 491 [some (zR (some a0)), some (zR (some 0)), some (zR (some 177)), some (zR (some a3)), some (zR (some a4)), some (zI i), none, none, none, none] [] (zC 353 [zR (some 0), zI (hI h a0 (i + 1).toNat), zI (hI h a0 (i + 2).toNat), zR (some a3)] h))))) := by
  refine (show zY 392 474 [some (zR (some a0)), some (zR (some 0)), some (zR (some 177)), some (zR (some a3)), some (zR (some a4)), some (zI i), none, none, none, none] [] h = gd (inR (1)) (gd (inR (i + 1)) (gd (zok h (some a0) 22 (i + 1)) (gd (inR (2)) (gd (inR (i + 2)) (gd (zok h (some a0) 22 (i + 2)) (gd (false = zctor 353 ∧ zcs [] ≤ 8 ∧ zrm 392 (zrf 353 + 1) (8 + (zmaxl 353 + 11) + zrl 353) = true ∧ zcs [zR (some 0), zI (hI h a0 (i + 1).toNat), zI (hI h a0 (i + 2).toNat), zR (some a3)] ≤ zmaxl 353) (zBack zY 392 488 491 [some (zR (some a0)), some (zR (some 0)), some (zR (some 177)), some (zR (some a3)), some (zR (some a4)), some (zI i), none, none, none, none] [] (zC 353 [zR (some 0), zI (hI h a0 (i + 1).toNat), zI (hI h a0 (i + 2).toNat), zR (some a3)] h)))))))) from zGo 13 392 474 _ _ _).trans ?_
  refine (gd_t (by decide) _).trans ?_
  refine gd_c Iff.rfl (fun c0 => ?_)
  refine gd_c (ci ta0 rfl) (fun c1 => ?_)
  refine (gd_t (by decide) _).trans ?_
  refine gd_c Iff.rfl (fun c2 => ?_)
  refine gd_c (ci ta0 rfl) (fun c3 => ?_)
  refine (gd_t (⟨rfl, Nat.le_of_ble_eq_true rfl, rfl, Nat.le_of_ble_eq_true rfl⟩) _).trans ?_
  rfl
theorem q_lw5_1 {h : zH} {a0 : Nat} {a3 : Nat} {a4 : Nat} {i : Int} {y : Int} (ta0 : hT h a0 = 22) (KC : KC h) (KM : KM h) (ta3 : hT h a3 = 23) (na3 : a3 < hN h) (ta4 : hT h a4 = 24) (na4 : a4 < hN h) : zBack zY 392 488 491 [some (zR (some a0)), some (zR (some 0)), some (zR (some 177)), some (zR (some a3)), some (zR (some a4)), some (zI i), none, none, none, none] [] (some (.inl (some (zI y)), h)) =
    gd (-2147483648 ≤ i + 1 ∧ i + 1 < 2147483648) (
    gd (0 ≤ (i + 1) ∧ (i + 1) < (hL h a0 : Int)) (
    gd (-2147483648 ≤ i + 2 ∧ i + 2 < 2147483648) (
    gd (0 ≤ (i + 2) ∧ (i + 2) < (hL h a0 : Int)) (
    zBack zY 392 506 509 [some (zR (some a0)), some (zR (some 0)), some (zR (some 177)), some (zR (some a3)), some (zR (some a4)), some (zI i), some (zI y), none, none, none] [] (zC 276 [zR (some 177), zI (hI h a0 (i + 1).toNat), zI (hI h a0 (i + 2).toNat)] h))))) := by
  refine (show zBack zY 392 488 491 [some (zR (some a0)), some (zR (some 0)), some (zR (some 177)), some (zR (some a3)), some (zR (some a4)), some (zI i), none, none, none, none] [] (some (.inl (some (zI y)), h)) = gd (inR (1)) (gd (inR (i + 1)) (gd (zok h (some a0) 22 (i + 1)) (gd (inR (2)) (gd (inR (i + 2)) (gd (zok h (some a0) 22 (i + 2)) (gd (false = zctor 276 ∧ zcs [] ≤ 8 ∧ zrm 392 (zrf 276 + 1) (8 + (zmaxl 276 + 11) + zrl 276) = true ∧ zcs [zR (some 177), zI (hI h a0 (i + 1).toNat), zI (hI h a0 (i + 2).toNat)] ≤ zmaxl 276) (gd (zob h (some 177) 12) (zBack zY 392 506 509 [some (zR (some a0)), some (zR (some 0)), some (zR (some 177)), some (zR (some a3)), some (zR (some a4)), some (zI i), some (zI y), none, none, none] [] (zC 276 [zR (some 177), zI (hI h a0 (i + 1).toNat), zI (hI h a0 (i + 2).toNat)] h))))))))) from zGo 13 392 491 _ _ _).trans ?_
  refine (gd_t (by decide) _).trans ?_
  refine gd_c Iff.rfl (fun c0 => ?_)
  refine gd_c (ci ta0 rfl) (fun c1 => ?_)
  refine (gd_t (by decide) _).trans ?_
  refine gd_c Iff.rfl (fun c2 => ?_)
  refine gd_c (ci ta0 rfl) (fun c3 => ?_)
  refine (gd_t (⟨rfl, Nat.le_of_ble_eq_true rfl, rfl, Nat.le_of_ble_eq_true rfl⟩) _).trans ?_
  refine (gd_t (⟨rfl, (PTM KM 177 _ rfl rfl), (PNM KM 177 rfl)⟩) _).trans ?_
  rfl
theorem q_lw5_2 {h : zH} {a0 : Nat} {a3 : Nat} {a4 : Nat} {i : Int} {x6 : Int} {y : Int} (ta0 : hT h a0 = 22) (KC : KC h) (KM : KM h) (ta3 : hT h a3 = 23) (na3 : a3 < hN h) (ta4 : hT h a4 = 24) (na4 : a4 < hN h) : zBack zY 392 506 509 [some (zR (some a0)), some (zR (some 0)), some (zR (some 177)), some (zR (some a3)), some (zR (some a4)), some (zI i), some (zI x6), none, none, none] [] (some (.inl (some (zI y)), h)) =
    zBack zY 392 512 515 [some (zR (some a0)), some (zR (some 0)), some (zR (some 177)), some (zR (some a3)), some (zR (some a4)), some (zI i), some (zI x6), some (zI y), none, none] [] (zC 208 [zR (some 177)] h) := by
  refine (show zBack zY 392 506 509 [some (zR (some a0)), some (zR (some 0)), some (zR (some 177)), some (zR (some a3)), some (zR (some a4)), some (zI i), some (zI x6), none, none, none] [] (some (.inl (some (zI y)), h)) = gd (false = zctor 208 ∧ zcs [] ≤ 8 ∧ zrm 392 (zrf 208 + 1) (8 + (zmaxl 208 + 11) + zrl 208) = true ∧ zcs [zR (some 177)] ≤ zmaxl 208) (gd (zob h (some 177) 12) (zBack zY 392 512 515 [some (zR (some a0)), some (zR (some 0)), some (zR (some 177)), some (zR (some a3)), some (zR (some a4)), some (zI i), some (zI x6), some (zI y), none, none] [] (zC 208 [zR (some 177)] h))) from zGo 3 392 509 _ _ _).trans ?_
  refine (gd_t (⟨rfl, Nat.le_of_ble_eq_true rfl, rfl, Nat.le_of_ble_eq_true rfl⟩) _).trans ?_
  refine (gd_t (⟨rfl, (PTM KM 177 _ rfl rfl), (PNM KM 177 rfl)⟩) _).trans ?_
  rfl
theorem q_lw5_3 {h : zH} {a0 : Nat} {a3 : Nat} {a4 : Nat} {i : Int} {x6 : Int} {x7 : Int} {y : Int} (ta0 : hT h a0 = 22) (KC : KC h) (KM : KM h) (ta3 : hT h a3 = 23) (na3 : a3 < hN h) (ta4 : hT h a4 = 24) (na4 : a4 < hN h) : zBack zY 392 512 515 [some (zR (some a0)), some (zR (some 0)), some (zR (some 177)), some (zR (some a3)), some (zR (some a4)), some (zI i), some (zI x6), some (zI x7), none, none] [] (some (.inl (some (zI y)), h)) =
    if y = x6 then
      if x6 = 0 then
        gd ((0 : Int) ≤ 0 ∧ 0 < (hL h a3 : Int)) (
        if (hJ h a3 0) = (zi2l x7) then
          zY 392 2378 [some (zR (some a0)), some (zR (some 0)), some (zR (some 177)), some (zR (some a3)), some (zR (some a4)), some (zI i), some (zI x6), some (zI x7), none, none] [] h
        else
          some (.inl (some (zI 0)), h))
      else
        zY 392 2378 [some (zR (some a0)), some (zR (some 0)), some (zR (some 177)), some (zR (some a3)), some (zR (some a4)), some (zI i), some (zI x6), some (zI x7), none, none] [] h
    else
      some (.inl (some (zI 0)), h) := by
  refine (show zBack zY 392 512 515 [some (zR (some a0)), some (zR (some 0)), some (zR (some 177)), some (zR (some a3)), some (zR (some a4)), some (zI i), some (zI x6), some (zI x7), none, none] [] (some (.inl (some (zI y)), h)) = if y = x6 then zY 392 522 [some (zR (some a0)), some (zR (some 0)), some (zR (some 177)), some (zR (some a3)), some (zR (some a4)), some (zI i), some (zI x6), some (zI x7), none, none] [] h else zY 392 520 [some (zR (some a0)), some (zR (some 0)), some (zR (some 177)), some (zR (some a3)), some (zR (some a4)), some (zI i), some (zI x6), some (zI x7), none, none] [] h from zGo 2 392 515 _ _ _).trans ?_
  refine iteC (fun c0 => ?_) (fun c0 => ?_)
  · skip
    refine (show zY 392 522 [some (zR (some a0)), some (zR (some 0)), some (zR (some 177)), some (zR (some a3)), some (zR (some a4)), some (zI i), some (zI x6), some (zI x7), none, none] [] h = if x6 = 0 then zY 392 527 [some (zR (some a0)), some (zR (some 0)), some (zR (some 177)), some (zR (some a3)), some (zR (some a4)), some (zI i), some (zI x6), some (zI x7), none, none] [] h else zY 392 539 [some (zR (some a0)), some (zR (some 0)), some (zR (some 177)), some (zR (some a3)), some (zR (some a4)), some (zI i), some (zI x6), some (zI x7), none, none] [] h from zGo 2 392 522 _ _ _).trans ?_
    refine iteC (fun c1 => ?_) (fun c1 => ?_)
    · skip
      refine (show zY 392 527 [some (zR (some a0)), some (zR (some 0)), some (zR (some 177)), some (zR (some a3)), some (zR (some a4)), some (zI i), some (zI x6), some (zI x7), none, none] [] h = gd (inR (0)) (gd (zok h (some a3) 23 0) (if (zlcmp (hJ h a3 0) (zi2l x7)) = 0 then zY 392 539 [some (zR (some a0)), some (zR (some 0)), some (zR (some 177)), some (zR (some a3)), some (zR (some a4)), some (zI i), some (zI x6), some (zI x7), none, none] [] h else zY 392 537 [some (zR (some a0)), some (zR (some 0)), some (zR (some 177)), some (zR (some a3)), some (zR (some a4)), some (zI i), some (zI x6), some (zI x7), none, none] [] h)) from zGo 7 392 527 _ _ _).trans ?_
      refine (gd_t (by decide) _).trans ?_
      refine gd_c (ci ta3 rfl) (fun c2 => ?_)
      refine iteL (fun c3 => ?_) (fun c3 => ?_)
      · skip
        refine (show zY 392 539 [some (zR (some a0)), some (zR (some 0)), some (zR (some 177)), some (zR (some a3)), some (zR (some a4)), some (zI i), some (zI x6), some (zI x7), none, none] [] h = zY 392 2378 [some (zR (some a0)), some (zR (some 0)), some (zR (some 177)), some (zR (some a3)), some (zR (some a4)), some (zI i), some (zI x6), some (zI x7), none, none] [] h from zGo 1 392 539 _ _ _).trans ?_
        rfl
      · skip
        refine (show zY 392 537 [some (zR (some a0)), some (zR (some 0)), some (zR (some 177)), some (zR (some a3)), some (zR (some a4)), some (zI i), some (zI x6), some (zI x7), none, none] [] h = gd (inR (0)) (gd (([] : List zV).isEmpty = true ∧ (zrk 392 = 1 ∨ zrk 392 = 6 ∧ ((0 : Int) = 0 ∨ (0 : Int) = 1))) (some (.inl (some (zI 0)), h))) from zGo 2 392 537 _ _ _).trans ?_
        refine (gd_t (by decide) _).trans ?_
        refine (gd_t (⟨rfl, Or.inr ⟨rfl, by decide⟩⟩) _).trans ?_
        rfl
    · skip
      refine (show zY 392 539 [some (zR (some a0)), some (zR (some 0)), some (zR (some 177)), some (zR (some a3)), some (zR (some a4)), some (zI i), some (zI x6), some (zI x7), none, none] [] h = zY 392 2378 [some (zR (some a0)), some (zR (some 0)), some (zR (some 177)), some (zR (some a3)), some (zR (some a4)), some (zI i), some (zI x6), some (zI x7), none, none] [] h from zGo 1 392 539 _ _ _).trans ?_
      rfl
  · skip
    refine (show zY 392 520 [some (zR (some a0)), some (zR (some 0)), some (zR (some 177)), some (zR (some a3)), some (zR (some a4)), some (zI i), some (zI x6), some (zI x7), none, none] [] h = gd (inR (0)) (gd (([] : List zV).isEmpty = true ∧ (zrk 392 = 1 ∨ zrk 392 = 6 ∧ ((0 : Int) = 0 ∨ (0 : Int) = 1))) (some (.inl (some (zI 0)), h))) from zGo 2 392 520 _ _ _).trans ?_
    refine (gd_t (by decide) _).trans ?_
    refine (gd_t (⟨rfl, Or.inr ⟨rfl, by decide⟩⟩) _).trans ?_
    rfl
theorem q_lw6_0 {h : zH} {a0 : Nat} {a3 : Nat} {a4 : Nat} {i : Int} (ta0 : hT h a0 = 22) (KC : KC h) (KM : KM h) (ta3 : hT h a3 = 23) (na3 : a3 < hN h) (ta4 : hT h a4 = 24) (na4 : a4 < hN h) : zY 392 542 [some (zR (some a0)), some (zR (some 0)), some (zR (some 177)), some (zR (some a3)), some (zR (some a4)), some (zI i), none, none, none, none] [] h =
    zBack zY 392 543 546 [some (zR (some a0)), some (zR (some 0)), some (zR (some 177)), some (zR (some a3)), some (zR (some a4)), some (zI i), none, none, none, none] [] (zC 149 [zR (some 0)] h) := by
  refine (show zY 392 542 [some (zR (some a0)), some (zR (some 0)), some (zR (some 177)), some (zR (some a3)), some (zR (some a4)), some (zI i), none, none, none, none] [] h = gd (false = zctor 149 ∧ zcs [] ≤ 8 ∧ zrm 392 (zrf 149 + 1) (8 + (zmaxl 149 + 11) + zrl 149) = true ∧ zcs [zR (some 0)] ≤ zmaxl 149) (gd (zob h (some 0) 11) (zBack zY 392 543 546 [some (zR (some a0)), some (zR (some 0)), some (zR (some 177)), some (zR (some a3)), some (zR (some a4)), some (zI i), none, none, none, none] [] (zC 149 [zR (some 0)] h))) from zGo 2 392 542 _ _ _).trans ?_
  refine (gd_t (⟨rfl, Nat.le_of_ble_eq_true rfl, rfl, Nat.le_of_ble_eq_true rfl⟩) _).trans ?_
  refine (gd_t (⟨rfl, (PTC KC 0 _ rfl rfl), (PNC KC 0 rfl)⟩) _).trans ?_
  rfl
theorem q_lw6_1 {h : zH} {a0 : Nat} {a3 : Nat} {a4 : Nat} {i : Int} {y : BitVec 64} (ta0 : hT h a0 = 22) (KC : KC h) (KM : KM h) (ta3 : hT h a3 = 23) (na3 : a3 < hN h) (ta4 : hT h a4 = 24) (na4 : a4 < hN h) : zBack zY 392 543 546 [some (zR (some a0)), some (zR (some 0)), some (zR (some 177)), some (zR (some a3)), some (zR (some a4)), some (zI i), none, none, none, none] [] (some (.inl (some (zJ y)), h)) =
    zBack zY 392 547 550 [some (zR (some a0)), some (zR (some 0)), some (zR (some 177)), some (zR (some a3)), some (zR (some a4)), some (zI i), none, none, none, none] [zJ y] (zC 280 [zR (some 177)] h) := by
  refine (show zBack zY 392 543 546 [some (zR (some a0)), some (zR (some 0)), some (zR (some 177)), some (zR (some a3)), some (zR (some a4)), some (zI i), none, none, none, none] [] (some (.inl (some (zJ y)), h)) = gd (false = zctor 280 ∧ zcs [zJ y] ≤ 8 ∧ zrm 392 (zrf 280 + 1) (8 + (zmaxl 280 + 11) + zrl 280) = true ∧ zcs [zR (some 177)] ≤ zmaxl 280) (gd (zob h (some 177) 12) (zBack zY 392 547 550 [some (zR (some a0)), some (zR (some 0)), some (zR (some 177)), some (zR (some a3)), some (zR (some a4)), some (zI i), none, none, none, none] [zJ y] (zC 280 [zR (some 177)] h))) from zGo 2 392 546 _ _ _).trans ?_
  refine (gd_t (⟨rfl, Nat.le_of_ble_eq_true rfl, rfl, Nat.le_of_ble_eq_true rfl⟩) _).trans ?_
  refine (gd_t (⟨rfl, (PTM KM 177 _ rfl rfl), (PNM KM 177 rfl)⟩) _).trans ?_
  rfl
theorem q_lw6_2 {h : zH} {a0 : Nat} {a3 : Nat} {a4 : Nat} {i : Int} {y0 : BitVec 64} {y : BitVec 64} (ta0 : hT h a0 = 22) (KC : KC h) (KM : KM h) (ta3 : hT h a3 = 23) (na3 : a3 < hN h) (ta4 : hT h a4 = 24) (na4 : a4 < hN h) : zBack zY 392 547 550 [some (zR (some a0)), some (zR (some 0)), some (zR (some 177)), some (zR (some a3)), some (zR (some a4)), some (zI i), none, none, none, none] [zJ y0] (some (.inl (some (zJ y)), h)) =
    if y0 = y then
      zY 392 2378 [some (zR (some a0)), some (zR (some 0)), some (zR (some 177)), some (zR (some a3)), some (zR (some a4)), some (zI i), none, none, none, none] [] h
    else
      some (.inl (some (zI 0)), h) := by
  refine (show zBack zY 392 547 550 [some (zR (some a0)), some (zR (some 0)), some (zR (some 177)), some (zR (some a3)), some (zR (some a4)), some (zI i), none, none, none, none] [zJ y0] (some (.inl (some (zJ y)), h)) = if (zlcmp y0 y) = 0 then zY 392 2378 [some (zR (some a0)), some (zR (some 0)), some (zR (some 177)), some (zR (some a3)), some (zR (some a4)), some (zI i), none, none, none, none] [] h else zY 392 554 [some (zR (some a0)), some (zR (some 0)), some (zR (some 177)), some (zR (some a3)), some (zR (some a4)), some (zI i), none, none, none, none] [] h from zGo 2 392 550 _ _ _).trans ?_
  refine iteL (fun c0 => ?_) (fun c0 => ?_)
  · skip
    rfl
  · skip
    refine (show zY 392 554 [some (zR (some a0)), some (zR (some 0)), some (zR (some 177)), some (zR (some a3)), some (zR (some a4)), some (zI i), none, none, none, none] [] h = gd (inR (0)) (gd (([] : List zV).isEmpty = true ∧ (zrk 392 = 1 ∨ zrk 392 = 6 ∧ ((0 : Int) = 0 ∨ (0 : Int) = 1))) (some (.inl (some (zI 0)), h))) from zGo 2 392 554 _ _ _).trans ?_
    refine (gd_t (by decide) _).trans ?_
    refine (gd_t (⟨rfl, Or.inr ⟨rfl, by decide⟩⟩) _).trans ?_
    rfl
theorem q_lw7_0 {h : zH} {a0 : Nat} {a3 : Nat} {a4 : Nat} {i : Int} (ta0 : hT h a0 = 22) (KC : KC h) (KM : KM h) (ta3 : hT h a3 = 23) (na3 : a3 < hN h) (ta4 : hT h a4 = 24) (na4 : a4 < hN h) : zY 392 556 [some (zR (some a0)), some (zR (some 0)), some (zR (some 177)), some (zR (some a3)), some (zR (some a4)), some (zI i), none, none, none, none] [] h =
    zBack zY 392 557 560 [some (zR (some a0)), some (zR (some 0)), some (zR (some 177)), some (zR (some a3)), some (zR (some a4)), some (zI i), none, none, none, none] [] (zC 150 [zR (some 0)] h) := by
  refine (show zY 392 556 [some (zR (some a0)), some (zR (some 0)), some (zR (some 177)), some (zR (some a3)), some (zR (some a4)), some (zI i), none, none, none, none] [] h = gd (false = zctor 150 ∧ zcs [] ≤ 8 ∧ zrm 392 (zrf 150 + 1) (8 + (zmaxl 150 + 11) + zrl 150) = true ∧ zcs [zR (some 0)] ≤ zmaxl 150) (gd (zob h (some 0) 11) (zBack zY 392 557 560 [some (zR (some a0)), some (zR (some 0)), some (zR (some 177)), some (zR (some a3)), some (zR (some a4)), some (zI i), none, none, none, none] [] (zC 150 [zR (some 0)] h))) from zGo 2 392 556 _ _ _).trans ?_
  refine (gd_t (⟨rfl, Nat.le_of_ble_eq_true rfl, rfl, Nat.le_of_ble_eq_true rfl⟩) _).trans ?_
  refine (gd_t (⟨rfl, (PTC KC 0 _ rfl rfl), (PNC KC 0 rfl)⟩) _).trans ?_
  rfl
theorem q_lw7_1 {h : zH} {a0 : Nat} {a3 : Nat} {a4 : Nat} {i : Int} {y : BitVec 64} (ta0 : hT h a0 = 22) (KC : KC h) (KM : KM h) (ta3 : hT h a3 = 23) (na3 : a3 < hN h) (ta4 : hT h a4 = 24) (na4 : a4 < hN h) : zBack zY 392 557 560 [some (zR (some a0)), some (zR (some 0)), some (zR (some 177)), some (zR (some a3)), some (zR (some a4)), some (zI i), none, none, none, none] [] (some (.inl (some (zJ y)), h)) =
    zBack zY 392 561 564 [some (zR (some a0)), some (zR (some 0)), some (zR (some 177)), some (zR (some a3)), some (zR (some a4)), some (zI i), none, none, none, none] [zJ y] (zC 282 [zR (some 177)] h) := by
  refine (show zBack zY 392 557 560 [some (zR (some a0)), some (zR (some 0)), some (zR (some 177)), some (zR (some a3)), some (zR (some a4)), some (zI i), none, none, none, none] [] (some (.inl (some (zJ y)), h)) = gd (false = zctor 282 ∧ zcs [zJ y] ≤ 8 ∧ zrm 392 (zrf 282 + 1) (8 + (zmaxl 282 + 11) + zrl 282) = true ∧ zcs [zR (some 177)] ≤ zmaxl 282) (gd (zob h (some 177) 12) (zBack zY 392 561 564 [some (zR (some a0)), some (zR (some 0)), some (zR (some 177)), some (zR (some a3)), some (zR (some a4)), some (zI i), none, none, none, none] [zJ y] (zC 282 [zR (some 177)] h))) from zGo 2 392 560 _ _ _).trans ?_
  refine (gd_t (⟨rfl, Nat.le_of_ble_eq_true rfl, rfl, Nat.le_of_ble_eq_true rfl⟩) _).trans ?_
  refine (gd_t (⟨rfl, (PTM KM 177 _ rfl rfl), (PNM KM 177 rfl)⟩) _).trans ?_
  rfl
theorem q_lw7_2 {h : zH} {a0 : Nat} {a3 : Nat} {a4 : Nat} {i : Int} {y0 : BitVec 64} {y : BitVec 64} (ta0 : hT h a0 = 22) (KC : KC h) (KM : KM h) (ta3 : hT h a3 = 23) (na3 : a3 < hN h) (ta4 : hT h a4 = 24) (na4 : a4 < hN h) : zBack zY 392 561 564 [some (zR (some a0)), some (zR (some 0)), some (zR (some 177)), some (zR (some a3)), some (zR (some a4)), some (zI i), none, none, none, none] [zJ y0] (some (.inl (some (zJ y)), h)) =
    if y0 = y then
      zY 392 2378 [some (zR (some a0)), some (zR (some 0)), some (zR (some 177)), some (zR (some a3)), some (zR (some a4)), some (zI i), none, none, none, none] [] h
    else
      some (.inl (some (zI 0)), h) := by
  refine (show zBack zY 392 561 564 [some (zR (some a0)), some (zR (some 0)), some (zR (some 177)), some (zR (some a3)), some (zR (some a4)), some (zI i), none, none, none, none] [zJ y0] (some (.inl (some (zJ y)), h)) = if (zlcmp y0 y) = 0 then zY 392 2378 [some (zR (some a0)), some (zR (some 0)), some (zR (some 177)), some (zR (some a3)), some (zR (some a4)), some (zI i), none, none, none, none] [] h else zY 392 568 [some (zR (some a0)), some (zR (some 0)), some (zR (some 177)), some (zR (some a3)), some (zR (some a4)), some (zI i), none, none, none, none] [] h from zGo 2 392 564 _ _ _).trans ?_
  refine iteL (fun c0 => ?_) (fun c0 => ?_)
  · skip
    rfl
  · skip
    refine (show zY 392 568 [some (zR (some a0)), some (zR (some 0)), some (zR (some 177)), some (zR (some a3)), some (zR (some a4)), some (zI i), none, none, none, none] [] h = gd (inR (0)) (gd (([] : List zV).isEmpty = true ∧ (zrk 392 = 1 ∨ zrk 392 = 6 ∧ ((0 : Int) = 0 ∨ (0 : Int) = 1))) (some (.inl (some (zI 0)), h))) from zGo 2 392 568 _ _ _).trans ?_
    refine (gd_t (by decide) _).trans ?_
    refine (gd_t (⟨rfl, Or.inr ⟨rfl, by decide⟩⟩) _).trans ?_
    rfl
theorem q_lw8_0 {h : zH} {a0 : Nat} {a3 : Nat} {a4 : Nat} {i : Int} (ta0 : hT h a0 = 22) (KC : KC h) (KM : KM h) (ta3 : hT h a3 = 23) (na3 : a3 < hN h) (ta4 : hT h a4 = 24) (na4 : a4 < hN h) : zY 392 570 [some (zR (some a0)), some (zR (some 0)), some (zR (some 177)), some (zR (some a3)), some (zR (some a4)), some (zI i), none, none, none, none] [] h =
    gd (-2147483648 ≤ i + 1 ∧ i + 1 < 2147483648) (
    gd (0 ≤ (i + 1) ∧ (i + 1) < (hL h a0 : Int)) (
    gd (-2147483648 ≤ i + 2 ∧ i + 2 < 2147483648) (
    gd (0 ≤ (i + 2) ∧ (i + 2) < (hL h a0 : Int)) (
    zBack zY 392 584 587 [some (zR (some a0)), some (zR (some 0)), some (zR (some 177)), some (zR (some a3)), some (zR (some a4)), some (zI i), none, none, none, none] [] (zC 354 [zR (some 0), zI (hI h a0 (i + 1).toNat), zI (hI h a0 (i + 2).toNat), zR (some a3)] h))))) := by
  refine (show zY 392 570 [some (zR (some a0)), some (zR (some 0)), some (zR (some 177)), some (zR (some a3)), some (zR (some a4)), some (zI i), none, none, none, none] [] h = gd (inR (1)) (gd (inR (i + 1)) (gd (zok h (some a0) 22 (i + 1)) (gd (inR (2)) (gd (inR (i + 2)) (gd (zok h (some a0) 22 (i + 2)) (gd (false = zctor 354 ∧ zcs [] ≤ 8 ∧ zrm 392 (zrf 354 + 1) (8 + (zmaxl 354 + 11) + zrl 354) = true ∧ zcs [zR (some 0), zI (hI h a0 (i + 1).toNat), zI (hI h a0 (i + 2).toNat), zR (some a3)] ≤ zmaxl 354) (zBack zY 392 584 587 [some (zR (some a0)), some (zR (some 0)), some (zR (some 177)), some (zR (some a3)), some (zR (some a4)), some (zI i), none, none, none, none] [] (zC 354 [zR (some 0), zI (hI h a0 (i + 1).toNat), zI (hI h a0 (i + 2).toNat), zR (some a3)] h)))))))) from zGo 13 392 570 _ _ _).trans ?_
  refine (gd_t (by decide) _).trans ?_
  refine gd_c Iff.rfl (fun c0 => ?_)
  refine gd_c (ci ta0 rfl) (fun c1 => ?_)
  refine (gd_t (by decide) _).trans ?_
  refine gd_c Iff.rfl (fun c2 => ?_)
  refine gd_c (ci ta0 rfl) (fun c3 => ?_)
  refine (gd_t (⟨rfl, Nat.le_of_ble_eq_true rfl, rfl, Nat.le_of_ble_eq_true rfl⟩) _).trans ?_
  rfl
theorem q_lw8_1 {h : zH} {a0 : Nat} {a3 : Nat} {a4 : Nat} {i : Int} {y : Int} (ta0 : hT h a0 = 22) (KC : KC h) (KM : KM h) (ta3 : hT h a3 = 23) (na3 : a3 < hN h) (ta4 : hT h a4 = 24) (na4 : a4 < hN h) : zBack zY 392 584 587 [some (zR (some a0)), some (zR (some 0)), some (zR (some 177)), some (zR (some a3)), some (zR (some a4)), some (zI i), none, none, none, none] [] (some (.inl (some (zI y)), h)) =
    gd (-2147483648 ≤ i + 1 ∧ i + 1 < 2147483648) (
    gd (0 ≤ (i + 1) ∧ (i + 1) < (hL h a0 : Int)) (
    gd (-2147483648 ≤ i + 2 ∧ i + 2 < 2147483648) (
    gd (0 ≤ (i + 2) ∧ (i + 2) < (hL h a0 : Int)) (
    zBack zY 392 602 605 [some (zR (some a0)), some (zR (some 0)), some (zR (some 177)), some (zR (some a3)), some (zR (some a4)), some (zI i), some (zI y), none, none, none] [] (zC 283 [zR (some 177), zI (hI h a0 (i + 1).toNat), zI (hI h a0 (i + 2).toNat)] h))))) := by
  refine (show zBack zY 392 584 587 [some (zR (some a0)), some (zR (some 0)), some (zR (some 177)), some (zR (some a3)), some (zR (some a4)), some (zI i), none, none, none, none] [] (some (.inl (some (zI y)), h)) = gd (inR (1)) (gd (inR (i + 1)) (gd (zok h (some a0) 22 (i + 1)) (gd (inR (2)) (gd (inR (i + 2)) (gd (zok h (some a0) 22 (i + 2)) (gd (false = zctor 283 ∧ zcs [] ≤ 8 ∧ zrm 392 (zrf 283 + 1) (8 + (zmaxl 283 + 11) + zrl 283) = true ∧ zcs [zR (some 177), zI (hI h a0 (i + 1).toNat), zI (hI h a0 (i + 2).toNat)] ≤ zmaxl 283) (gd (zob h (some 177) 12) (zBack zY 392 602 605 [some (zR (some a0)), some (zR (some 0)), some (zR (some 177)), some (zR (some a3)), some (zR (some a4)), some (zI i), some (zI y), none, none, none] [] (zC 283 [zR (some 177), zI (hI h a0 (i + 1).toNat), zI (hI h a0 (i + 2).toNat)] h))))))))) from zGo 13 392 587 _ _ _).trans ?_
  refine (gd_t (by decide) _).trans ?_
  refine gd_c Iff.rfl (fun c0 => ?_)
  refine gd_c (ci ta0 rfl) (fun c1 => ?_)
  refine (gd_t (by decide) _).trans ?_
  refine gd_c Iff.rfl (fun c2 => ?_)
  refine gd_c (ci ta0 rfl) (fun c3 => ?_)
  refine (gd_t (⟨rfl, Nat.le_of_ble_eq_true rfl, rfl, Nat.le_of_ble_eq_true rfl⟩) _).trans ?_
  refine (gd_t (⟨rfl, (PTM KM 177 _ rfl rfl), (PNM KM 177 rfl)⟩) _).trans ?_
  rfl
theorem q_lw8_2 {h : zH} {a0 : Nat} {a3 : Nat} {a4 : Nat} {i : Int} {x6 : Int} {y : BitVec 64} (ta0 : hT h a0 = 22) (KC : KC h) (KM : KM h) (ta3 : hT h a3 = 23) (na3 : a3 < hN h) (ta4 : hT h a4 = 24) (na4 : a4 < hN h) : zBack zY 392 602 605 [some (zR (some a0)), some (zR (some 0)), some (zR (some 177)), some (zR (some a3)), some (zR (some a4)), some (zI i), some (zI x6), none, none, none] [] (some (.inl (some (zJ y)), h)) =
    zBack zY 392 608 611 [some (zR (some a0)), some (zR (some 0)), some (zR (some 177)), some (zR (some a3)), some (zR (some a4)), some (zI i), some (zI x6), some (zJ y), none, none] [] (zC 208 [zR (some 177)] h) := by
  refine (show zBack zY 392 602 605 [some (zR (some a0)), some (zR (some 0)), some (zR (some 177)), some (zR (some a3)), some (zR (some a4)), some (zI i), some (zI x6), none, none, none] [] (some (.inl (some (zJ y)), h)) = gd (false = zctor 208 ∧ zcs [] ≤ 8 ∧ zrm 392 (zrf 208 + 1) (8 + (zmaxl 208 + 11) + zrl 208) = true ∧ zcs [zR (some 177)] ≤ zmaxl 208) (gd (zob h (some 177) 12) (zBack zY 392 608 611 [some (zR (some a0)), some (zR (some 0)), some (zR (some 177)), some (zR (some a3)), some (zR (some a4)), some (zI i), some (zI x6), some (zJ y), none, none] [] (zC 208 [zR (some 177)] h))) from zGo 3 392 605 _ _ _).trans ?_
  refine (gd_t (⟨rfl, Nat.le_of_ble_eq_true rfl, rfl, Nat.le_of_ble_eq_true rfl⟩) _).trans ?_
  refine (gd_t (⟨rfl, (PTM KM 177 _ rfl rfl), (PNM KM 177 rfl)⟩) _).trans ?_
  rfl
theorem q_lw8_3 {h : zH} {a0 : Nat} {a3 : Nat} {a4 : Nat} {i : Int} {x6 : Int} {x7 : BitVec 64} {y : Int} (ta0 : hT h a0 = 22) (KC : KC h) (KM : KM h) (ta3 : hT h a3 = 23) (na3 : a3 < hN h) (ta4 : hT h a4 = 24) (na4 : a4 < hN h) : zBack zY 392 608 611 [some (zR (some a0)), some (zR (some 0)), some (zR (some 177)), some (zR (some a3)), some (zR (some a4)), some (zI i), some (zI x6), some (zJ x7), none, none] [] (some (.inl (some (zI y)), h)) =
    if y = x6 then
      if x6 = 0 then
        gd ((0 : Int) ≤ 0 ∧ 0 < (hL h a3 : Int)) (
        if (hJ h a3 0) = x7 then
          zY 392 2378 [some (zR (some a0)), some (zR (some 0)), some (zR (some 177)), some (zR (some a3)), some (zR (some a4)), some (zI i), some (zI x6), some (zJ x7), none, none] [] h
        else
          some (.inl (some (zI 0)), h))
      else
        zY 392 2378 [some (zR (some a0)), some (zR (some 0)), some (zR (some 177)), some (zR (some a3)), some (zR (some a4)), some (zI i), some (zI x6), some (zJ x7), none, none] [] h
    else
      some (.inl (some (zI 0)), h) := by
  refine (show zBack zY 392 608 611 [some (zR (some a0)), some (zR (some 0)), some (zR (some 177)), some (zR (some a3)), some (zR (some a4)), some (zI i), some (zI x6), some (zJ x7), none, none] [] (some (.inl (some (zI y)), h)) = if y = x6 then zY 392 618 [some (zR (some a0)), some (zR (some 0)), some (zR (some 177)), some (zR (some a3)), some (zR (some a4)), some (zI i), some (zI x6), some (zJ x7), none, none] [] h else zY 392 616 [some (zR (some a0)), some (zR (some 0)), some (zR (some 177)), some (zR (some a3)), some (zR (some a4)), some (zI i), some (zI x6), some (zJ x7), none, none] [] h from zGo 2 392 611 _ _ _).trans ?_
  refine iteC (fun c0 => ?_) (fun c0 => ?_)
  · skip
    refine (show zY 392 618 [some (zR (some a0)), some (zR (some 0)), some (zR (some 177)), some (zR (some a3)), some (zR (some a4)), some (zI i), some (zI x6), some (zJ x7), none, none] [] h = if x6 = 0 then zY 392 623 [some (zR (some a0)), some (zR (some 0)), some (zR (some 177)), some (zR (some a3)), some (zR (some a4)), some (zI i), some (zI x6), some (zJ x7), none, none] [] h else zY 392 634 [some (zR (some a0)), some (zR (some 0)), some (zR (some 177)), some (zR (some a3)), some (zR (some a4)), some (zI i), some (zI x6), some (zJ x7), none, none] [] h from zGo 2 392 618 _ _ _).trans ?_
    refine iteC (fun c1 => ?_) (fun c1 => ?_)
    · skip
      refine (show zY 392 623 [some (zR (some a0)), some (zR (some 0)), some (zR (some 177)), some (zR (some a3)), some (zR (some a4)), some (zI i), some (zI x6), some (zJ x7), none, none] [] h = gd (inR (0)) (gd (zok h (some a3) 23 0) (if (zlcmp (hJ h a3 0) x7) = 0 then zY 392 634 [some (zR (some a0)), some (zR (some 0)), some (zR (some 177)), some (zR (some a3)), some (zR (some a4)), some (zI i), some (zI x6), some (zJ x7), none, none] [] h else zY 392 632 [some (zR (some a0)), some (zR (some 0)), some (zR (some 177)), some (zR (some a3)), some (zR (some a4)), some (zI i), some (zI x6), some (zJ x7), none, none] [] h)) from zGo 6 392 623 _ _ _).trans ?_
      refine (gd_t (by decide) _).trans ?_
      refine gd_c (ci ta3 rfl) (fun c2 => ?_)
      refine iteL (fun c3 => ?_) (fun c3 => ?_)
      · skip
        refine (show zY 392 634 [some (zR (some a0)), some (zR (some 0)), some (zR (some 177)), some (zR (some a3)), some (zR (some a4)), some (zI i), some (zI x6), some (zJ x7), none, none] [] h = zY 392 2378 [some (zR (some a0)), some (zR (some 0)), some (zR (some 177)), some (zR (some a3)), some (zR (some a4)), some (zI i), some (zI x6), some (zJ x7), none, none] [] h from zGo 1 392 634 _ _ _).trans ?_
        rfl
      · skip
        refine (show zY 392 632 [some (zR (some a0)), some (zR (some 0)), some (zR (some 177)), some (zR (some a3)), some (zR (some a4)), some (zI i), some (zI x6), some (zJ x7), none, none] [] h = gd (inR (0)) (gd (([] : List zV).isEmpty = true ∧ (zrk 392 = 1 ∨ zrk 392 = 6 ∧ ((0 : Int) = 0 ∨ (0 : Int) = 1))) (some (.inl (some (zI 0)), h))) from zGo 2 392 632 _ _ _).trans ?_
        refine (gd_t (by decide) _).trans ?_
        refine (gd_t (⟨rfl, Or.inr ⟨rfl, by decide⟩⟩) _).trans ?_
        rfl
    · skip
      refine (show zY 392 634 [some (zR (some a0)), some (zR (some 0)), some (zR (some 177)), some (zR (some a3)), some (zR (some a4)), some (zI i), some (zI x6), some (zJ x7), none, none] [] h = zY 392 2378 [some (zR (some a0)), some (zR (some 0)), some (zR (some 177)), some (zR (some a3)), some (zR (some a4)), some (zI i), some (zI x6), some (zJ x7), none, none] [] h from zGo 1 392 634 _ _ _).trans ?_
      rfl
  · skip
    refine (show zY 392 616 [some (zR (some a0)), some (zR (some 0)), some (zR (some 177)), some (zR (some a3)), some (zR (some a4)), some (zI i), some (zI x6), some (zJ x7), none, none] [] h = gd (inR (0)) (gd (([] : List zV).isEmpty = true ∧ (zrk 392 = 1 ∨ zrk 392 = 6 ∧ ((0 : Int) = 0 ∨ (0 : Int) = 1))) (some (.inl (some (zI 0)), h))) from zGo 2 392 616 _ _ _).trans ?_
    refine (gd_t (by decide) _).trans ?_
    refine (gd_t (⟨rfl, Or.inr ⟨rfl, by decide⟩⟩) _).trans ?_
    rfl
theorem q_lw9_0 {h : zH} {a0 : Nat} {a3 : Nat} {a4 : Nat} {i : Int} (ta0 : hT h a0 = 22) (KC : KC h) (KM : KM h) (ta3 : hT h a3 = 23) (na3 : a3 < hN h) (ta4 : hT h a4 = 24) (na4 : a4 < hN h) : zY 392 637 [some (zR (some a0)), some (zR (some 0)), some (zR (some 177)), some (zR (some a3)), some (zR (some a4)), some (zI i), none, none, none, none] [] h =
    gd (-2147483648 ≤ i + 1 ∧ i + 1 < 2147483648) (
    gd (0 ≤ (i + 1) ∧ (i + 1) < (hL h a0 : Int)) (
    gd (-2147483648 ≤ i + 2 ∧ i + 2 < 2147483648) (
    gd (0 ≤ (i + 2) ∧ (i + 2) < (hL h a0 : Int)) (
    zBack zY 392 651 654 [some (zR (some a0)), some (zR (some 0)), some (zR (some 177)), some (zR (some a3)), some (zR (some a4)), some (zI i), none, none, none, none] [] (zC 355 [zR (some 0), zI (hI h a0 (i + 1).toNat), zI (hI h a0 (i + 2).toNat), zR (some a3)] h))))) := by
  refine (show zY 392 637 [some (zR (some a0)), some (zR (some 0)), some (zR (some 177)), some (zR (some a3)), some (zR (some a4)), some (zI i), none, none, none, none] [] h = gd (inR (1)) (gd (inR (i + 1)) (gd (zok h (some a0) 22 (i + 1)) (gd (inR (2)) (gd (inR (i + 2)) (gd (zok h (some a0) 22 (i + 2)) (gd (false = zctor 355 ∧ zcs [] ≤ 8 ∧ zrm 392 (zrf 355 + 1) (8 + (zmaxl 355 + 11) + zrl 355) = true ∧ zcs [zR (some 0), zI (hI h a0 (i + 1).toNat), zI (hI h a0 (i + 2).toNat), zR (some a3)] ≤ zmaxl 355) (zBack zY 392 651 654 [some (zR (some a0)), some (zR (some 0)), some (zR (some 177)), some (zR (some a3)), some (zR (some a4)), some (zI i), none, none, none, none] [] (zC 355 [zR (some 0), zI (hI h a0 (i + 1).toNat), zI (hI h a0 (i + 2).toNat), zR (some a3)] h)))))))) from zGo 13 392 637 _ _ _).trans ?_
  refine (gd_t (by decide) _).trans ?_
  refine gd_c Iff.rfl (fun c0 => ?_)
  refine gd_c (ci ta0 rfl) (fun c1 => ?_)
  refine (gd_t (by decide) _).trans ?_
  refine gd_c Iff.rfl (fun c2 => ?_)
  refine gd_c (ci ta0 rfl) (fun c3 => ?_)
  refine (gd_t (⟨rfl, Nat.le_of_ble_eq_true rfl, rfl, Nat.le_of_ble_eq_true rfl⟩) _).trans ?_
  rfl
theorem q_lw9_1 {h : zH} {a0 : Nat} {a3 : Nat} {a4 : Nat} {i : Int} {y : Int} (ta0 : hT h a0 = 22) (KC : KC h) (KM : KM h) (ta3 : hT h a3 = 23) (na3 : a3 < hN h) (ta4 : hT h a4 = 24) (na4 : a4 < hN h) : zBack zY 392 651 654 [some (zR (some a0)), some (zR (some 0)), some (zR (some 177)), some (zR (some a3)), some (zR (some a4)), some (zI i), none, none, none, none] [] (some (.inl (some (zI y)), h)) =
    gd (-2147483648 ≤ i + 1 ∧ i + 1 < 2147483648) (
    gd (0 ≤ (i + 1) ∧ (i + 1) < (hL h a0 : Int)) (
    gd (-2147483648 ≤ i + 2 ∧ i + 2 < 2147483648) (
    gd (0 ≤ (i + 2) ∧ (i + 2) < (hL h a0 : Int)) (
    zBack zY 392 669 672 [some (zR (some a0)), some (zR (some 0)), some (zR (some 177)), some (zR (some a3)), some (zR (some a4)), some (zI i), some (zI y), none, none, none] [] (zC 285 [zR (some 177), zI (hI h a0 (i + 1).toNat), zI (hI h a0 (i + 2).toNat)] h))))) := by
  refine (show zBack zY 392 651 654 [some (zR (some a0)), some (zR (some 0)), some (zR (some 177)), some (zR (some a3)), some (zR (some a4)), some (zI i), none, none, none, none] [] (some (.inl (some (zI y)), h)) = gd (inR (1)) (gd (inR (i + 1)) (gd (zok h (some a0) 22 (i + 1)) (gd (inR (2)) (gd (inR (i + 2)) (gd (zok h (some a0) 22 (i + 2)) (gd (false = zctor 285 ∧ zcs [] ≤ 8 ∧ zrm 392 (zrf 285 + 1) (8 + (zmaxl 285 + 11) + zrl 285) = true ∧ zcs [zR (some 177), zI (hI h a0 (i + 1).toNat), zI (hI h a0 (i + 2).toNat)] ≤ zmaxl 285) (gd (zob h (some 177) 12) (zBack zY 392 669 672 [some (zR (some a0)), some (zR (some 0)), some (zR (some 177)), some (zR (some a3)), some (zR (some a4)), some (zI i), some (zI y), none, none, none] [] (zC 285 [zR (some 177), zI (hI h a0 (i + 1).toNat), zI (hI h a0 (i + 2).toNat)] h))))))))) from zGo 13 392 654 _ _ _).trans ?_
  refine (gd_t (by decide) _).trans ?_
  refine gd_c Iff.rfl (fun c0 => ?_)
  refine gd_c (ci ta0 rfl) (fun c1 => ?_)
  refine (gd_t (by decide) _).trans ?_
  refine gd_c Iff.rfl (fun c2 => ?_)
  refine gd_c (ci ta0 rfl) (fun c3 => ?_)
  refine (gd_t (⟨rfl, Nat.le_of_ble_eq_true rfl, rfl, Nat.le_of_ble_eq_true rfl⟩) _).trans ?_
  refine (gd_t (⟨rfl, (PTM KM 177 _ rfl rfl), (PNM KM 177 rfl)⟩) _).trans ?_
  rfl
theorem q_lw9_2 {h : zH} {a0 : Nat} {a3 : Nat} {a4 : Nat} {i : Int} {x6 : Int} {y : Int} (ta0 : hT h a0 = 22) (KC : KC h) (KM : KM h) (ta3 : hT h a3 = 23) (na3 : a3 < hN h) (ta4 : hT h a4 = 24) (na4 : a4 < hN h) : zBack zY 392 669 672 [some (zR (some a0)), some (zR (some 0)), some (zR (some 177)), some (zR (some a3)), some (zR (some a4)), some (zI i), some (zI x6), none, none, none] [] (some (.inl (some (zI y)), h)) =
    zBack zY 392 675 678 [some (zR (some a0)), some (zR (some 0)), some (zR (some 177)), some (zR (some a3)), some (zR (some a4)), some (zI i), some (zI x6), some (zI y), none, none] [] (zC 208 [zR (some 177)] h) := by
  refine (show zBack zY 392 669 672 [some (zR (some a0)), some (zR (some 0)), some (zR (some 177)), some (zR (some a3)), some (zR (some a4)), some (zI i), some (zI x6), none, none, none] [] (some (.inl (some (zI y)), h)) = gd (false = zctor 208 ∧ zcs [] ≤ 8 ∧ zrm 392 (zrf 208 + 1) (8 + (zmaxl 208 + 11) + zrl 208) = true ∧ zcs [zR (some 177)] ≤ zmaxl 208) (gd (zob h (some 177) 12) (zBack zY 392 675 678 [some (zR (some a0)), some (zR (some 0)), some (zR (some 177)), some (zR (some a3)), some (zR (some a4)), some (zI i), some (zI x6), some (zI y), none, none] [] (zC 208 [zR (some 177)] h))) from zGo 3 392 672 _ _ _).trans ?_
  refine (gd_t (⟨rfl, Nat.le_of_ble_eq_true rfl, rfl, Nat.le_of_ble_eq_true rfl⟩) _).trans ?_
  refine (gd_t (⟨rfl, (PTM KM 177 _ rfl rfl), (PNM KM 177 rfl)⟩) _).trans ?_
  rfl
theorem q_lw9_3 {h : zH} {a0 : Nat} {a3 : Nat} {a4 : Nat} {i : Int} {x6 : Int} {x7 : Int} {y : Int} (ta0 : hT h a0 = 22) (KC : KC h) (KM : KM h) (ta3 : hT h a3 = 23) (na3 : a3 < hN h) (ta4 : hT h a4 = 24) (na4 : a4 < hN h) : zBack zY 392 675 678 [some (zR (some a0)), some (zR (some 0)), some (zR (some 177)), some (zR (some a3)), some (zR (some a4)), some (zI i), some (zI x6), some (zI x7), none, none] [] (some (.inl (some (zI y)), h)) =
    if y = x6 then
      if x6 = 0 then
        gd ((0 : Int) ≤ 0 ∧ 0 < (hL h a3 : Int)) (
        if (hJ h a3 0) = (zi2l x7) then
          zY 392 2378 [some (zR (some a0)), some (zR (some 0)), some (zR (some 177)), some (zR (some a3)), some (zR (some a4)), some (zI i), some (zI x6), some (zI x7), none, none] [] h
        else
          some (.inl (some (zI 0)), h))
      else
        zY 392 2378 [some (zR (some a0)), some (zR (some 0)), some (zR (some 177)), some (zR (some a3)), some (zR (some a4)), some (zI i), some (zI x6), some (zI x7), none, none] [] h
    else
      some (.inl (some (zI 0)), h) := by
  refine (show zBack zY 392 675 678 [some (zR (some a0)), some (zR (some 0)), some (zR (some 177)), some (zR (some a3)), some (zR (some a4)), some (zI i), some (zI x6), some (zI x7), none, none] [] (some (.inl (some (zI y)), h)) = if y = x6 then zY 392 685 [some (zR (some a0)), some (zR (some 0)), some (zR (some 177)), some (zR (some a3)), some (zR (some a4)), some (zI i), some (zI x6), some (zI x7), none, none] [] h else zY 392 683 [some (zR (some a0)), some (zR (some 0)), some (zR (some 177)), some (zR (some a3)), some (zR (some a4)), some (zI i), some (zI x6), some (zI x7), none, none] [] h from zGo 2 392 678 _ _ _).trans ?_
  refine iteC (fun c0 => ?_) (fun c0 => ?_)
  · skip
    refine (show zY 392 685 [some (zR (some a0)), some (zR (some 0)), some (zR (some 177)), some (zR (some a3)), some (zR (some a4)), some (zI i), some (zI x6), some (zI x7), none, none] [] h = if x6 = 0 then zY 392 690 [some (zR (some a0)), some (zR (some 0)), some (zR (some 177)), some (zR (some a3)), some (zR (some a4)), some (zI i), some (zI x6), some (zI x7), none, none] [] h else zY 392 702 [some (zR (some a0)), some (zR (some 0)), some (zR (some 177)), some (zR (some a3)), some (zR (some a4)), some (zI i), some (zI x6), some (zI x7), none, none] [] h from zGo 2 392 685 _ _ _).trans ?_
    refine iteC (fun c1 => ?_) (fun c1 => ?_)
    · skip
      refine (show zY 392 690 [some (zR (some a0)), some (zR (some 0)), some (zR (some 177)), some (zR (some a3)), some (zR (some a4)), some (zI i), some (zI x6), some (zI x7), none, none] [] h = gd (inR (0)) (gd (zok h (some a3) 23 0) (if (zlcmp (hJ h a3 0) (zi2l x7)) = 0 then zY 392 702 [some (zR (some a0)), some (zR (some 0)), some (zR (some 177)), some (zR (some a3)), some (zR (some a4)), some (zI i), some (zI x6), some (zI x7), none, none] [] h else zY 392 700 [some (zR (some a0)), some (zR (some 0)), some (zR (some 177)), some (zR (some a3)), some (zR (some a4)), some (zI i), some (zI x6), some (zI x7), none, none] [] h)) from zGo 7 392 690 _ _ _).trans ?_
      refine (gd_t (by decide) _).trans ?_
      refine gd_c (ci ta3 rfl) (fun c2 => ?_)
      refine iteL (fun c3 => ?_) (fun c3 => ?_)
      · skip
        refine (show zY 392 702 [some (zR (some a0)), some (zR (some 0)), some (zR (some 177)), some (zR (some a3)), some (zR (some a4)), some (zI i), some (zI x6), some (zI x7), none, none] [] h = zY 392 2378 [some (zR (some a0)), some (zR (some 0)), some (zR (some 177)), some (zR (some a3)), some (zR (some a4)), some (zI i), some (zI x6), some (zI x7), none, none] [] h from zGo 1 392 702 _ _ _).trans ?_
        rfl
      · skip
        refine (show zY 392 700 [some (zR (some a0)), some (zR (some 0)), some (zR (some 177)), some (zR (some a3)), some (zR (some a4)), some (zI i), some (zI x6), some (zI x7), none, none] [] h = gd (inR (0)) (gd (([] : List zV).isEmpty = true ∧ (zrk 392 = 1 ∨ zrk 392 = 6 ∧ ((0 : Int) = 0 ∨ (0 : Int) = 1))) (some (.inl (some (zI 0)), h))) from zGo 2 392 700 _ _ _).trans ?_
        refine (gd_t (by decide) _).trans ?_
        refine (gd_t (⟨rfl, Or.inr ⟨rfl, by decide⟩⟩) _).trans ?_
        rfl
    · skip
      refine (show zY 392 702 [some (zR (some a0)), some (zR (some 0)), some (zR (some 177)), some (zR (some a3)), some (zR (some a4)), some (zI i), some (zI x6), some (zI x7), none, none] [] h = zY 392 2378 [some (zR (some a0)), some (zR (some 0)), some (zR (some 177)), some (zR (some a3)), some (zR (some a4)), some (zI i), some (zI x6), some (zI x7), none, none] [] h from zGo 1 392 702 _ _ _).trans ?_
      rfl
  · skip
    refine (show zY 392 683 [some (zR (some a0)), some (zR (some 0)), some (zR (some 177)), some (zR (some a3)), some (zR (some a4)), some (zI i), some (zI x6), some (zI x7), none, none] [] h = gd (inR (0)) (gd (([] : List zV).isEmpty = true ∧ (zrk 392 = 1 ∨ zrk 392 = 6 ∧ ((0 : Int) = 0 ∨ (0 : Int) = 1))) (some (.inl (some (zI 0)), h))) from zGo 2 392 683 _ _ _).trans ?_
    refine (gd_t (by decide) _).trans ?_
    refine (gd_t (⟨rfl, Or.inr ⟨rfl, by decide⟩⟩) _).trans ?_
    rfl
theorem q_lw10_0 {h : zH} {a0 : Nat} {a3 : Nat} {a4 : Nat} {i : Int} (ta0 : hT h a0 = 22) (KC : KC h) (KM : KM h) (ta3 : hT h a3 = 23) (na3 : a3 < hN h) (ta4 : hT h a4 = 24) (na4 : a4 < hN h) : zY 392 705 [some (zR (some a0)), some (zR (some 0)), some (zR (some 177)), some (zR (some a3)), some (zR (some a4)), some (zI i), none, none, none, none] [] h =
    gd (-2147483648 ≤ i + 1 ∧ i + 1 < 2147483648) (
    gd (0 ≤ (i + 1) ∧ (i + 1) < (hL h a0 : Int)) (
    zBack zY 392 713 716 [some (zR (some a0)), some (zR (some 0)), some (zR (some 177)), some (zR (some a3)), some (zR (some a4)), some (zI i), none, none, none, none] [] (zC 356 [zR (some 0), zI (hI h a0 (i + 1).toNat), zR (some a3)] h))) := by
  refine (show zY 392 705 [some (zR (some a0)), some (zR (some 0)), some (zR (some 177)), some (zR (some a3)), some (zR (some a4)), some (zI i), none, none, none, none] [] h = gd (inR (1)) (gd (inR (i + 1)) (gd (zok h (some a0) 22 (i + 1)) (gd (false = zctor 356 ∧ zcs [] ≤ 8 ∧ zrm 392 (zrf 356 + 1) (8 + (zmaxl 356 + 11) + zrl 356) = true ∧ zcs [zR (some 0), zI (hI h a0 (i + 1).toNat), zR (some a3)] ≤ zmaxl 356) (zBack zY 392 713 716 [some (zR (some a0)), some (zR (some 0)), some (zR (some 177)), some (zR (some a3)), some (zR (some a4)), some (zI i), none, none, none, none] [] (zC 356 [zR (some 0), zI (hI h a0 (i + 1).toNat), zR (some a3)] h))))) from zGo 8 392 705 _ _ _).trans ?_
  refine (gd_t (by decide) _).trans ?_
  refine gd_c Iff.rfl (fun c0 => ?_)
  refine gd_c (ci ta0 rfl) (fun c1 => ?_)
  refine (gd_t (⟨rfl, Nat.le_of_ble_eq_true rfl, rfl, Nat.le_of_ble_eq_true rfl⟩) _).trans ?_
  rfl
theorem q_lw10_1 {h : zH} {a0 : Nat} {a3 : Nat} {a4 : Nat} {i : Int} {y : Int} (ta0 : hT h a0 = 22) (KC : KC h) (KM : KM h) (ta3 : hT h a3 = 23) (na3 : a3 < hN h) (ta4 : hT h a4 = 24) (na4 : a4 < hN h) : zBack zY 392 713 716 [some (zR (some a0)), some (zR (some 0)), some (zR (some 177)), some (zR (some a3)), some (zR (some a4)), some (zI i), none, none, none, none] [] (some (.inl (some (zI y)), h)) =
    gd (-2147483648 ≤ i + 1 ∧ i + 1 < 2147483648) (
    gd (0 ≤ (i + 1) ∧ (i + 1) < (hL h a0 : Int)) (
    zBack zY 392 725 728 [some (zR (some a0)), some (zR (some 0)), some (zR (some 177)), some (zR (some a3)), some (zR (some a4)), some (zI i), some (zI y), none, none, none] [] (zC 287 [zR (some 177), zI (hI h a0 (i + 1).toNat)] h))) := by
  refine (show zBack zY 392 713 716 [some (zR (some a0)), some (zR (some 0)), some (zR (some 177)), some (zR (some a3)), some (zR (some a4)), some (zI i), none, none, none, none] [] (some (.inl (some (zI y)), h)) = gd (inR (1)) (gd (inR (i + 1)) (gd (zok h (some a0) 22 (i + 1)) (gd (false = zctor 287 ∧ zcs [] ≤ 8 ∧ zrm 392 (zrf 287 + 1) (8 + (zmaxl 287 + 11) + zrl 287) = true ∧ zcs [zR (some 177), zI (hI h a0 (i + 1).toNat)] ≤ zmaxl 287) (gd (zob h (some 177) 12) (zBack zY 392 725 728 [some (zR (some a0)), some (zR (some 0)), some (zR (some 177)), some (zR (some a3)), some (zR (some a4)), some (zI i), some (zI y), none, none, none] [] (zC 287 [zR (some 177), zI (hI h a0 (i + 1).toNat)] h)))))) from zGo 8 392 716 _ _ _).trans ?_
  refine (gd_t (by decide) _).trans ?_
  refine gd_c Iff.rfl (fun c0 => ?_)
  refine gd_c (ci ta0 rfl) (fun c1 => ?_)
  refine (gd_t (⟨rfl, Nat.le_of_ble_eq_true rfl, rfl, Nat.le_of_ble_eq_true rfl⟩) _).trans ?_
  refine (gd_t (⟨rfl, (PTM KM 177 _ rfl rfl), (PNM KM 177 rfl)⟩) _).trans ?_
  rfl
theorem q_lw10_2 {h : zH} {a0 : Nat} {a3 : Nat} {a4 : Nat} {i : Int} {x6 : Int} {y : BitVec 64} (ta0 : hT h a0 = 22) (KC : KC h) (KM : KM h) (ta3 : hT h a3 = 23) (na3 : a3 < hN h) (ta4 : hT h a4 = 24) (na4 : a4 < hN h) : zBack zY 392 725 728 [some (zR (some a0)), some (zR (some 0)), some (zR (some 177)), some (zR (some a3)), some (zR (some a4)), some (zI i), some (zI x6), none, none, none] [] (some (.inl (some (zJ y)), h)) =
    zBack zY 392 731 734 [some (zR (some a0)), some (zR (some 0)), some (zR (some 177)), some (zR (some a3)), some (zR (some a4)), some (zI i), some (zI x6), some (zJ y), none, none] [] (zC 208 [zR (some 177)] h) := by
  refine (show zBack zY 392 725 728 [some (zR (some a0)), some (zR (some 0)), some (zR (some 177)), some (zR (some a3)), some (zR (some a4)), some (zI i), some (zI x6), none, none, none] [] (some (.inl (some (zJ y)), h)) = gd (false = zctor 208 ∧ zcs [] ≤ 8 ∧ zrm 392 (zrf 208 + 1) (8 + (zmaxl 208 + 11) + zrl 208) = true ∧ zcs [zR (some 177)] ≤ zmaxl 208) (gd (zob h (some 177) 12) (zBack zY 392 731 734 [some (zR (some a0)), some (zR (some 0)), some (zR (some 177)), some (zR (some a3)), some (zR (some a4)), some (zI i), some (zI x6), some (zJ y), none, none] [] (zC 208 [zR (some 177)] h))) from zGo 3 392 728 _ _ _).trans ?_
  refine (gd_t (⟨rfl, Nat.le_of_ble_eq_true rfl, rfl, Nat.le_of_ble_eq_true rfl⟩) _).trans ?_
  refine (gd_t (⟨rfl, (PTM KM 177 _ rfl rfl), (PNM KM 177 rfl)⟩) _).trans ?_
  rfl
theorem q_lw10_3 {h : zH} {a0 : Nat} {a3 : Nat} {a4 : Nat} {i : Int} {x6 : Int} {x7 : BitVec 64} {y : Int} (ta0 : hT h a0 = 22) (KC : KC h) (KM : KM h) (ta3 : hT h a3 = 23) (na3 : a3 < hN h) (ta4 : hT h a4 = 24) (na4 : a4 < hN h) : zBack zY 392 731 734 [some (zR (some a0)), some (zR (some 0)), some (zR (some 177)), some (zR (some a3)), some (zR (some a4)), some (zI i), some (zI x6), some (zJ x7), none, none] [] (some (.inl (some (zI y)), h)) =
    if y = x6 then
      if x6 = 0 then
        gd ((0 : Int) ≤ 0 ∧ 0 < (hL h a3 : Int)) (
        if (hJ h a3 0) = x7 then
          zY 392 2378 [some (zR (some a0)), some (zR (some 0)), some (zR (some 177)), some (zR (some a3)), some (zR (some a4)), some (zI i), some (zI x6), some (zJ x7), none, none] [] h
        else
          some (.inl (some (zI 0)), h))
      else
        zY 392 2378 [some (zR (some a0)), some (zR (some 0)), some (zR (some 177)), some (zR (some a3)), some (zR (some a4)), some (zI i), some (zI x6), some (zJ x7), none, none] [] h
    else
      some (.inl (some (zI 0)), h) := by
  refine (show zBack zY 392 731 734 [some (zR (some a0)), some (zR (some 0)), some (zR (some 177)), some (zR (some a3)), some (zR (some a4)), some (zI i), some (zI x6), some (zJ x7), none, none] [] (some (.inl (some (zI y)), h)) = if y = x6 then zY 392 741 [some (zR (some a0)), some (zR (some 0)), some (zR (some 177)), some (zR (some a3)), some (zR (some a4)), some (zI i), some (zI x6), some (zJ x7), none, none] [] h else zY 392 739 [some (zR (some a0)), some (zR (some 0)), some (zR (some 177)), some (zR (some a3)), some (zR (some a4)), some (zI i), some (zI x6), some (zJ x7), none, none] [] h from zGo 2 392 734 _ _ _).trans ?_
  refine iteC (fun c0 => ?_) (fun c0 => ?_)
  · skip
    refine (show zY 392 741 [some (zR (some a0)), some (zR (some 0)), some (zR (some 177)), some (zR (some a3)), some (zR (some a4)), some (zI i), some (zI x6), some (zJ x7), none, none] [] h = if x6 = 0 then zY 392 746 [some (zR (some a0)), some (zR (some 0)), some (zR (some 177)), some (zR (some a3)), some (zR (some a4)), some (zI i), some (zI x6), some (zJ x7), none, none] [] h else zY 392 757 [some (zR (some a0)), some (zR (some 0)), some (zR (some 177)), some (zR (some a3)), some (zR (some a4)), some (zI i), some (zI x6), some (zJ x7), none, none] [] h from zGo 2 392 741 _ _ _).trans ?_
    refine iteC (fun c1 => ?_) (fun c1 => ?_)
    · skip
      refine (show zY 392 746 [some (zR (some a0)), some (zR (some 0)), some (zR (some 177)), some (zR (some a3)), some (zR (some a4)), some (zI i), some (zI x6), some (zJ x7), none, none] [] h = gd (inR (0)) (gd (zok h (some a3) 23 0) (if (zlcmp (hJ h a3 0) x7) = 0 then zY 392 757 [some (zR (some a0)), some (zR (some 0)), some (zR (some 177)), some (zR (some a3)), some (zR (some a4)), some (zI i), some (zI x6), some (zJ x7), none, none] [] h else zY 392 755 [some (zR (some a0)), some (zR (some 0)), some (zR (some 177)), some (zR (some a3)), some (zR (some a4)), some (zI i), some (zI x6), some (zJ x7), none, none] [] h)) from zGo 6 392 746 _ _ _).trans ?_
      refine (gd_t (by decide) _).trans ?_
      refine gd_c (ci ta3 rfl) (fun c2 => ?_)
      refine iteL (fun c3 => ?_) (fun c3 => ?_)
      · skip
        refine (show zY 392 757 [some (zR (some a0)), some (zR (some 0)), some (zR (some 177)), some (zR (some a3)), some (zR (some a4)), some (zI i), some (zI x6), some (zJ x7), none, none] [] h = zY 392 2378 [some (zR (some a0)), some (zR (some 0)), some (zR (some 177)), some (zR (some a3)), some (zR (some a4)), some (zI i), some (zI x6), some (zJ x7), none, none] [] h from zGo 1 392 757 _ _ _).trans ?_
        rfl
      · skip
        refine (show zY 392 755 [some (zR (some a0)), some (zR (some 0)), some (zR (some 177)), some (zR (some a3)), some (zR (some a4)), some (zI i), some (zI x6), some (zJ x7), none, none] [] h = gd (inR (0)) (gd (([] : List zV).isEmpty = true ∧ (zrk 392 = 1 ∨ zrk 392 = 6 ∧ ((0 : Int) = 0 ∨ (0 : Int) = 1))) (some (.inl (some (zI 0)), h))) from zGo 2 392 755 _ _ _).trans ?_
        refine (gd_t (by decide) _).trans ?_
        refine (gd_t (⟨rfl, Or.inr ⟨rfl, by decide⟩⟩) _).trans ?_
        rfl
    · skip
      refine (show zY 392 757 [some (zR (some a0)), some (zR (some 0)), some (zR (some 177)), some (zR (some a3)), some (zR (some a4)), some (zI i), some (zI x6), some (zJ x7), none, none] [] h = zY 392 2378 [some (zR (some a0)), some (zR (some 0)), some (zR (some 177)), some (zR (some a3)), some (zR (some a4)), some (zI i), some (zI x6), some (zJ x7), none, none] [] h from zGo 1 392 757 _ _ _).trans ?_
      rfl
  · skip
    refine (show zY 392 739 [some (zR (some a0)), some (zR (some 0)), some (zR (some 177)), some (zR (some a3)), some (zR (some a4)), some (zI i), some (zI x6), some (zJ x7), none, none] [] h = gd (inR (0)) (gd (([] : List zV).isEmpty = true ∧ (zrk 392 = 1 ∨ zrk 392 = 6 ∧ ((0 : Int) = 0 ∨ (0 : Int) = 1))) (some (.inl (some (zI 0)), h))) from zGo 2 392 739 _ _ _).trans ?_
    refine (gd_t (by decide) _).trans ?_
    refine (gd_t (⟨rfl, Or.inr ⟨rfl, by decide⟩⟩) _).trans ?_
    rfl
theorem q_lw11_0 {h : zH} {a0 : Nat} {a3 : Nat} {a4 : Nat} {i : Int} (ta0 : hT h a0 = 22) (KC : KC h) (KM : KM h) (ta3 : hT h a3 = 23) (na3 : a3 < hN h) (ta4 : hT h a4 = 24) (na4 : a4 < hN h) : zY 392 760 [some (zR (some a0)), some (zR (some 0)), some (zR (some 177)), some (zR (some a3)), some (zR (some a4)), some (zI i), none, none, none, none] [] h =
    zBack zY 392 761 764 [some (zR (some a0)), some (zR (some 0)), some (zR (some 177)), some (zR (some a3)), some (zR (some a4)), some (zI i), none, none, none, none] [] (zC 151 [zR (some 0)] h) := by
  refine (show zY 392 760 [some (zR (some a0)), some (zR (some 0)), some (zR (some 177)), some (zR (some a3)), some (zR (some a4)), some (zI i), none, none, none, none] [] h = gd (false = zctor 151 ∧ zcs [] ≤ 8 ∧ zrm 392 (zrf 151 + 1) (8 + (zmaxl 151 + 11) + zrl 151) = true ∧ zcs [zR (some 0)] ≤ zmaxl 151) (gd (zob h (some 0) 11) (zBack zY 392 761 764 [some (zR (some a0)), some (zR (some 0)), some (zR (some 177)), some (zR (some a3)), some (zR (some a4)), some (zI i), none, none, none, none] [] (zC 151 [zR (some 0)] h))) from zGo 2 392 760 _ _ _).trans ?_
  refine (gd_t (⟨rfl, Nat.le_of_ble_eq_true rfl, rfl, Nat.le_of_ble_eq_true rfl⟩) _).trans ?_
  refine (gd_t (⟨rfl, (PTC KC 0 _ rfl rfl), (PNC KC 0 rfl)⟩) _).trans ?_
  rfl
theorem q_lw11_1 {h : zH} {a0 : Nat} {a3 : Nat} {a4 : Nat} {i : Int} {y : BitVec 64} (ta0 : hT h a0 = 22) (KC : KC h) (KM : KM h) (ta3 : hT h a3 = 23) (na3 : a3 < hN h) (ta4 : hT h a4 = 24) (na4 : a4 < hN h) : zBack zY 392 761 764 [some (zR (some a0)), some (zR (some 0)), some (zR (some 177)), some (zR (some a3)), some (zR (some a4)), some (zI i), none, none, none, none] [] (some (.inl (some (zJ y)), h)) =
    zBack zY 392 765 768 [some (zR (some a0)), some (zR (some 0)), some (zR (some 177)), some (zR (some a3)), some (zR (some a4)), some (zI i), none, none, none, none] [zJ y] (zC 288 [zR (some 177)] h) := by
  refine (show zBack zY 392 761 764 [some (zR (some a0)), some (zR (some 0)), some (zR (some 177)), some (zR (some a3)), some (zR (some a4)), some (zI i), none, none, none, none] [] (some (.inl (some (zJ y)), h)) = gd (false = zctor 288 ∧ zcs [zJ y] ≤ 8 ∧ zrm 392 (zrf 288 + 1) (8 + (zmaxl 288 + 11) + zrl 288) = true ∧ zcs [zR (some 177)] ≤ zmaxl 288) (gd (zob h (some 177) 12) (zBack zY 392 765 768 [some (zR (some a0)), some (zR (some 0)), some (zR (some 177)), some (zR (some a3)), some (zR (some a4)), some (zI i), none, none, none, none] [zJ y] (zC 288 [zR (some 177)] h))) from zGo 2 392 764 _ _ _).trans ?_
  refine (gd_t (⟨rfl, Nat.le_of_ble_eq_true rfl, rfl, Nat.le_of_ble_eq_true rfl⟩) _).trans ?_
  refine (gd_t (⟨rfl, (PTM KM 177 _ rfl rfl), (PNM KM 177 rfl)⟩) _).trans ?_
  rfl
theorem q_lw11_2 {h : zH} {a0 : Nat} {a3 : Nat} {a4 : Nat} {i : Int} {y0 : BitVec 64} {y : BitVec 64} (ta0 : hT h a0 = 22) (KC : KC h) (KM : KM h) (ta3 : hT h a3 = 23) (na3 : a3 < hN h) (ta4 : hT h a4 = 24) (na4 : a4 < hN h) : zBack zY 392 765 768 [some (zR (some a0)), some (zR (some 0)), some (zR (some 177)), some (zR (some a3)), some (zR (some a4)), some (zI i), none, none, none, none] [zJ y0] (some (.inl (some (zJ y)), h)) =
    if y0 = y then
      zY 392 2378 [some (zR (some a0)), some (zR (some 0)), some (zR (some 177)), some (zR (some a3)), some (zR (some a4)), some (zI i), none, none, none, none] [] h
    else
      some (.inl (some (zI 0)), h) := by
  refine (show zBack zY 392 765 768 [some (zR (some a0)), some (zR (some 0)), some (zR (some 177)), some (zR (some a3)), some (zR (some a4)), some (zI i), none, none, none, none] [zJ y0] (some (.inl (some (zJ y)), h)) = if (zlcmp y0 y) = 0 then zY 392 2378 [some (zR (some a0)), some (zR (some 0)), some (zR (some 177)), some (zR (some a3)), some (zR (some a4)), some (zI i), none, none, none, none] [] h else zY 392 772 [some (zR (some a0)), some (zR (some 0)), some (zR (some 177)), some (zR (some a3)), some (zR (some a4)), some (zI i), none, none, none, none] [] h from zGo 2 392 768 _ _ _).trans ?_
  refine iteL (fun c0 => ?_) (fun c0 => ?_)
  · skip
    rfl
  · skip
    refine (show zY 392 772 [some (zR (some a0)), some (zR (some 0)), some (zR (some 177)), some (zR (some a3)), some (zR (some a4)), some (zI i), none, none, none, none] [] h = gd (inR (0)) (gd (([] : List zV).isEmpty = true ∧ (zrk 392 = 1 ∨ zrk 392 = 6 ∧ ((0 : Int) = 0 ∨ (0 : Int) = 1))) (some (.inl (some (zI 0)), h))) from zGo 2 392 772 _ _ _).trans ?_
    refine (gd_t (by decide) _).trans ?_
    refine (gd_t (⟨rfl, Or.inr ⟨rfl, by decide⟩⟩) _).trans ?_
    rfl
theorem q_lw12_0 {h : zH} {a0 : Nat} {a3 : Nat} {a4 : Nat} {i : Int} (ta0 : hT h a0 = 22) (KC : KC h) (KM : KM h) (ta3 : hT h a3 = 23) (na3 : a3 < hN h) (ta4 : hT h a4 = 24) (na4 : a4 < hN h) : zY 392 774 [some (zR (some a0)), some (zR (some 0)), some (zR (some 177)), some (zR (some a3)), some (zR (some a4)), some (zI i), none, none, none, none] [] h =
    gd (-2147483648 ≤ i + 1 ∧ i + 1 < 2147483648) (
    gd (0 ≤ (i + 1) ∧ (i + 1) < (hL h a0 : Int)) (
    gd (-2147483648 ≤ i + 2 ∧ i + 2 < 2147483648) (
    gd (0 ≤ (i + 2) ∧ (i + 2) < (hL h a0 : Int)) (
    zBack zY 392 788 791 [some (zR (some a0)), some (zR (some 0)), some (zR (some 177)), some (zR (some a3)), some (zR (some a4)), some (zI i), none, none, none, none] [] (zC 357 [zR (some 0), zI (hI h a0 (i + 1).toNat), zI (hI h a0 (i + 2).toNat), zR (some a3)] h))))) := by
  refine (show zY 392 774 [some (zR (some a0)), some (zR (some 0)), some (zR (some 177)), some (zR (some a3)), some (zR (some a4)), some (zI i), none, none, none, none] [] h = gd (inR (1)) (gd (inR (i + 1)) (gd (zok h (some a0) 22 (i + 1)) (gd (inR (2)) (gd (inR (i + 2)) (gd (zok h (some a0) 22 (i + 2)) (gd (false = zctor 357 ∧ zcs [] ≤ 8 ∧ zrm 392 (zrf 357 + 1) (8 + (zmaxl 357 + 11) + zrl 357) = true ∧ zcs [zR (some 0), zI (hI h a0 (i + 1).toNat), zI (hI h a0 (i + 2).toNat), zR (some a3)] ≤ zmaxl 357) (zBack zY 392 788 791 [some (zR (some a0)), some (zR (some 0)), some (zR (some 177)), some (zR (some a3)), some (zR (some a4)), some (zI i), none, none, none, none] [] (zC 357 [zR (some 0), zI (hI h a0 (i + 1).toNat), zI (hI h a0 (i + 2).toNat), zR (some a3)] h)))))))) from zGo 13 392 774 _ _ _).trans ?_
  refine (gd_t (by decide) _).trans ?_
  refine gd_c Iff.rfl (fun c0 => ?_)
  refine gd_c (ci ta0 rfl) (fun c1 => ?_)
  refine (gd_t (by decide) _).trans ?_
  refine gd_c Iff.rfl (fun c2 => ?_)
  refine gd_c (ci ta0 rfl) (fun c3 => ?_)
  refine (gd_t (⟨rfl, Nat.le_of_ble_eq_true rfl, rfl, Nat.le_of_ble_eq_true rfl⟩) _).trans ?_
  rfl
theorem q_lw12_1 {h : zH} {a0 : Nat} {a3 : Nat} {a4 : Nat} {i : Int} {y : Int} (ta0 : hT h a0 = 22) (KC : KC h) (KM : KM h) (ta3 : hT h a3 = 23) (na3 : a3 < hN h) (ta4 : hT h a4 = 24) (na4 : a4 < hN h) : zBack zY 392 788 791 [some (zR (some a0)), some (zR (some 0)), some (zR (some 177)), some (zR (some a3)), some (zR (some a4)), some (zI i), none, none, none, none] [] (some (.inl (some (zI y)), h)) =
    gd (-2147483648 ≤ i + 1 ∧ i + 1 < 2147483648) (
    gd (0 ≤ (i + 1) ∧ (i + 1) < (hL h a0 : Int)) (
    gd (-2147483648 ≤ i + 2 ∧ i + 2 < 2147483648) (
    gd (0 ≤ (i + 2) ∧ (i + 2) < (hL h a0 : Int)) (
    zBack zY 392 806 809 [some (zR (some a0)), some (zR (some 0)), some (zR (some 177)), some (zR (some a3)), some (zR (some a4)), some (zI i), some (zI y), none, none, none] [] (zC 289 [zR (some 177), zI (hI h a0 (i + 1).toNat), zI (hI h a0 (i + 2).toNat)] h))))) := by
  refine (show zBack zY 392 788 791 [some (zR (some a0)), some (zR (some 0)), some (zR (some 177)), some (zR (some a3)), some (zR (some a4)), some (zI i), none, none, none, none] [] (some (.inl (some (zI y)), h)) = gd (inR (1)) (gd (inR (i + 1)) (gd (zok h (some a0) 22 (i + 1)) (gd (inR (2)) (gd (inR (i + 2)) (gd (zok h (some a0) 22 (i + 2)) (gd (false = zctor 289 ∧ zcs [] ≤ 8 ∧ zrm 392 (zrf 289 + 1) (8 + (zmaxl 289 + 11) + zrl 289) = true ∧ zcs [zR (some 177), zI (hI h a0 (i + 1).toNat), zI (hI h a0 (i + 2).toNat)] ≤ zmaxl 289) (gd (zob h (some 177) 12) (zBack zY 392 806 809 [some (zR (some a0)), some (zR (some 0)), some (zR (some 177)), some (zR (some a3)), some (zR (some a4)), some (zI i), some (zI y), none, none, none] [] (zC 289 [zR (some 177), zI (hI h a0 (i + 1).toNat), zI (hI h a0 (i + 2).toNat)] h))))))))) from zGo 13 392 791 _ _ _).trans ?_
  refine (gd_t (by decide) _).trans ?_
  refine gd_c Iff.rfl (fun c0 => ?_)
  refine gd_c (ci ta0 rfl) (fun c1 => ?_)
  refine (gd_t (by decide) _).trans ?_
  refine gd_c Iff.rfl (fun c2 => ?_)
  refine gd_c (ci ta0 rfl) (fun c3 => ?_)
  refine (gd_t (⟨rfl, Nat.le_of_ble_eq_true rfl, rfl, Nat.le_of_ble_eq_true rfl⟩) _).trans ?_
  refine (gd_t (⟨rfl, (PTM KM 177 _ rfl rfl), (PNM KM 177 rfl)⟩) _).trans ?_
  rfl
theorem q_lw12_2 {h : zH} {a0 : Nat} {a3 : Nat} {a4 : Nat} {i : Int} {x6 : Int} {y : Int} (ta0 : hT h a0 = 22) (KC : KC h) (KM : KM h) (ta3 : hT h a3 = 23) (na3 : a3 < hN h) (ta4 : hT h a4 = 24) (na4 : a4 < hN h) : zBack zY 392 806 809 [some (zR (some a0)), some (zR (some 0)), some (zR (some 177)), some (zR (some a3)), some (zR (some a4)), some (zI i), some (zI x6), none, none, none] [] (some (.inl (some (zI y)), h)) =
    zBack zY 392 812 815 [some (zR (some a0)), some (zR (some 0)), some (zR (some 177)), some (zR (some a3)), some (zR (some a4)), some (zI i), some (zI x6), some (zI y), none, none] [] (zC 208 [zR (some 177)] h) := by
  refine (show zBack zY 392 806 809 [some (zR (some a0)), some (zR (some 0)), some (zR (some 177)), some (zR (some a3)), some (zR (some a4)), some (zI i), some (zI x6), none, none, none] [] (some (.inl (some (zI y)), h)) = gd (false = zctor 208 ∧ zcs [] ≤ 8 ∧ zrm 392 (zrf 208 + 1) (8 + (zmaxl 208 + 11) + zrl 208) = true ∧ zcs [zR (some 177)] ≤ zmaxl 208) (gd (zob h (some 177) 12) (zBack zY 392 812 815 [some (zR (some a0)), some (zR (some 0)), some (zR (some 177)), some (zR (some a3)), some (zR (some a4)), some (zI i), some (zI x6), some (zI y), none, none] [] (zC 208 [zR (some 177)] h))) from zGo 3 392 809 _ _ _).trans ?_
  refine (gd_t (⟨rfl, Nat.le_of_ble_eq_true rfl, rfl, Nat.le_of_ble_eq_true rfl⟩) _).trans ?_
  refine (gd_t (⟨rfl, (PTM KM 177 _ rfl rfl), (PNM KM 177 rfl)⟩) _).trans ?_
  rfl
theorem q_lw12_3 {h : zH} {a0 : Nat} {a3 : Nat} {a4 : Nat} {i : Int} {x6 : Int} {x7 : Int} {y : Int} (ta0 : hT h a0 = 22) (KC : KC h) (KM : KM h) (ta3 : hT h a3 = 23) (na3 : a3 < hN h) (ta4 : hT h a4 = 24) (na4 : a4 < hN h) : zBack zY 392 812 815 [some (zR (some a0)), some (zR (some 0)), some (zR (some 177)), some (zR (some a3)), some (zR (some a4)), some (zI i), some (zI x6), some (zI x7), none, none] [] (some (.inl (some (zI y)), h)) =
    if y = x6 then
      if x6 = 0 then
        gd ((0 : Int) ≤ 0 ∧ 0 < (hL h a3 : Int)) (
        if (hJ h a3 0) = (zi2l x7) then
          zY 392 2378 [some (zR (some a0)), some (zR (some 0)), some (zR (some 177)), some (zR (some a3)), some (zR (some a4)), some (zI i), some (zI x6), some (zI x7), none, none] [] h
        else
          some (.inl (some (zI 0)), h))
      else
        zY 392 2378 [some (zR (some a0)), some (zR (some 0)), some (zR (some 177)), some (zR (some a3)), some (zR (some a4)), some (zI i), some (zI x6), some (zI x7), none, none] [] h
    else
      some (.inl (some (zI 0)), h) := by
  refine (show zBack zY 392 812 815 [some (zR (some a0)), some (zR (some 0)), some (zR (some 177)), some (zR (some a3)), some (zR (some a4)), some (zI i), some (zI x6), some (zI x7), none, none] [] (some (.inl (some (zI y)), h)) = if y = x6 then zY 392 822 [some (zR (some a0)), some (zR (some 0)), some (zR (some 177)), some (zR (some a3)), some (zR (some a4)), some (zI i), some (zI x6), some (zI x7), none, none] [] h else zY 392 820 [some (zR (some a0)), some (zR (some 0)), some (zR (some 177)), some (zR (some a3)), some (zR (some a4)), some (zI i), some (zI x6), some (zI x7), none, none] [] h from zGo 2 392 815 _ _ _).trans ?_
  refine iteC (fun c0 => ?_) (fun c0 => ?_)
  · skip
    refine (show zY 392 822 [some (zR (some a0)), some (zR (some 0)), some (zR (some 177)), some (zR (some a3)), some (zR (some a4)), some (zI i), some (zI x6), some (zI x7), none, none] [] h = if x6 = 0 then zY 392 827 [some (zR (some a0)), some (zR (some 0)), some (zR (some 177)), some (zR (some a3)), some (zR (some a4)), some (zI i), some (zI x6), some (zI x7), none, none] [] h else zY 392 839 [some (zR (some a0)), some (zR (some 0)), some (zR (some 177)), some (zR (some a3)), some (zR (some a4)), some (zI i), some (zI x6), some (zI x7), none, none] [] h from zGo 2 392 822 _ _ _).trans ?_
    refine iteC (fun c1 => ?_) (fun c1 => ?_)
    · skip
      refine (show zY 392 827 [some (zR (some a0)), some (zR (some 0)), some (zR (some 177)), some (zR (some a3)), some (zR (some a4)), some (zI i), some (zI x6), some (zI x7), none, none] [] h = gd (inR (0)) (gd (zok h (some a3) 23 0) (if (zlcmp (hJ h a3 0) (zi2l x7)) = 0 then zY 392 839 [some (zR (some a0)), some (zR (some 0)), some (zR (some 177)), some (zR (some a3)), some (zR (some a4)), some (zI i), some (zI x6), some (zI x7), none, none] [] h else zY 392 837 [some (zR (some a0)), some (zR (some 0)), some (zR (some 177)), some (zR (some a3)), some (zR (some a4)), some (zI i), some (zI x6), some (zI x7), none, none] [] h)) from zGo 7 392 827 _ _ _).trans ?_
      refine (gd_t (by decide) _).trans ?_
      refine gd_c (ci ta3 rfl) (fun c2 => ?_)
      refine iteL (fun c3 => ?_) (fun c3 => ?_)
      · skip
        refine (show zY 392 839 [some (zR (some a0)), some (zR (some 0)), some (zR (some 177)), some (zR (some a3)), some (zR (some a4)), some (zI i), some (zI x6), some (zI x7), none, none] [] h = zY 392 2378 [some (zR (some a0)), some (zR (some 0)), some (zR (some 177)), some (zR (some a3)), some (zR (some a4)), some (zI i), some (zI x6), some (zI x7), none, none] [] h from zGo 1 392 839 _ _ _).trans ?_
        rfl
      · skip
        refine (show zY 392 837 [some (zR (some a0)), some (zR (some 0)), some (zR (some 177)), some (zR (some a3)), some (zR (some a4)), some (zI i), some (zI x6), some (zI x7), none, none] [] h = gd (inR (0)) (gd (([] : List zV).isEmpty = true ∧ (zrk 392 = 1 ∨ zrk 392 = 6 ∧ ((0 : Int) = 0 ∨ (0 : Int) = 1))) (some (.inl (some (zI 0)), h))) from zGo 2 392 837 _ _ _).trans ?_
        refine (gd_t (by decide) _).trans ?_
        refine (gd_t (⟨rfl, Or.inr ⟨rfl, by decide⟩⟩) _).trans ?_
        rfl
    · skip
      refine (show zY 392 839 [some (zR (some a0)), some (zR (some 0)), some (zR (some 177)), some (zR (some a3)), some (zR (some a4)), some (zI i), some (zI x6), some (zI x7), none, none] [] h = zY 392 2378 [some (zR (some a0)), some (zR (some 0)), some (zR (some 177)), some (zR (some a3)), some (zR (some a4)), some (zI i), some (zI x6), some (zI x7), none, none] [] h from zGo 1 392 839 _ _ _).trans ?_
      rfl
  · skip
    refine (show zY 392 820 [some (zR (some a0)), some (zR (some 0)), some (zR (some 177)), some (zR (some a3)), some (zR (some a4)), some (zI i), some (zI x6), some (zI x7), none, none] [] h = gd (inR (0)) (gd (([] : List zV).isEmpty = true ∧ (zrk 392 = 1 ∨ zrk 392 = 6 ∧ ((0 : Int) = 0 ∨ (0 : Int) = 1))) (some (.inl (some (zI 0)), h))) from zGo 2 392 820 _ _ _).trans ?_
    refine (gd_t (by decide) _).trans ?_
    refine (gd_t (⟨rfl, Or.inr ⟨rfl, by decide⟩⟩) _).trans ?_
    rfl
theorem q_lw13_0 {h : zH} {a0 : Nat} {a3 : Nat} {a4 : Nat} {i : Int} (ta0 : hT h a0 = 22) (KC : KC h) (KM : KM h) (ta3 : hT h a3 = 23) (na3 : a3 < hN h) (ta4 : hT h a4 = 24) (na4 : a4 < hN h) : zY 392 842 [some (zR (some a0)), some (zR (some 0)), some (zR (some 177)), some (zR (some a3)), some (zR (some a4)), some (zI i), none, none, none, none] [] h =
    gd (-2147483648 ≤ i + 1 ∧ i + 1 < 2147483648) (
    gd (0 ≤ (i + 1) ∧ (i + 1) < (hL h a0 : Int)) (
    zBack zY 392 850 853 [some (zR (some a0)), some (zR (some 0)), some (zR (some 177)), some (zR (some a3)), some (zR (some a4)), some (zI i), none, none, none, none] [] (zC 358 [zR (some 0), zI (hI h a0 (i + 1).toNat), zR (some a3)] h))) := by
  refine (show zY 392 842 [some (zR (some a0)), some (zR (some 0)), some (zR (some 177)), some (zR (some a3)), some (zR (some a4)), some (zI i), none, none, none, none] [] h = gd (inR (1)) (gd (inR (i + 1)) (gd (zok h (some a0) 22 (i + 1)) (gd (false = zctor 358 ∧ zcs [] ≤ 8 ∧ zrm 392 (zrf 358 + 1) (8 + (zmaxl 358 + 11) + zrl 358) = true ∧ zcs [zR (some 0), zI (hI h a0 (i + 1).toNat), zR (some a3)] ≤ zmaxl 358) (zBack zY 392 850 853 [some (zR (some a0)), some (zR (some 0)), some (zR (some 177)), some (zR (some a3)), some (zR (some a4)), some (zI i), none, none, none, none] [] (zC 358 [zR (some 0), zI (hI h a0 (i + 1).toNat), zR (some a3)] h))))) from zGo 8 392 842 _ _ _).trans ?_
  refine (gd_t (by decide) _).trans ?_
  refine gd_c Iff.rfl (fun c0 => ?_)
  refine gd_c (ci ta0 rfl) (fun c1 => ?_)
  refine (gd_t (⟨rfl, Nat.le_of_ble_eq_true rfl, rfl, Nat.le_of_ble_eq_true rfl⟩) _).trans ?_
  rfl
theorem q_lw13_1 {h : zH} {a0 : Nat} {a3 : Nat} {a4 : Nat} {i : Int} {y : Int} (ta0 : hT h a0 = 22) (KC : KC h) (KM : KM h) (ta3 : hT h a3 = 23) (na3 : a3 < hN h) (ta4 : hT h a4 = 24) (na4 : a4 < hN h) : zBack zY 392 850 853 [some (zR (some a0)), some (zR (some 0)), some (zR (some 177)), some (zR (some a3)), some (zR (some a4)), some (zI i), none, none, none, none] [] (some (.inl (some (zI y)), h)) =
    gd (-2147483648 ≤ i + 1 ∧ i + 1 < 2147483648) (
    gd (0 ≤ (i + 1) ∧ (i + 1) < (hL h a0 : Int)) (
    zBack zY 392 862 865 [some (zR (some a0)), some (zR (some 0)), some (zR (some 177)), some (zR (some a3)), some (zR (some a4)), some (zI i), some (zI y), none, none, none] [] (zC 293 [zR (some 177), zI (hI h a0 (i + 1).toNat)] h))) := by
  refine (show zBack zY 392 850 853 [some (zR (some a0)), some (zR (some 0)), some (zR (some 177)), some (zR (some a3)), some (zR (some a4)), some (zI i), none, none, none, none] [] (some (.inl (some (zI y)), h)) = gd (inR (1)) (gd (inR (i + 1)) (gd (zok h (some a0) 22 (i + 1)) (gd (false = zctor 293 ∧ zcs [] ≤ 8 ∧ zrm 392 (zrf 293 + 1) (8 + (zmaxl 293 + 11) + zrl 293) = true ∧ zcs [zR (some 177), zI (hI h a0 (i + 1).toNat)] ≤ zmaxl 293) (gd (zob h (some 177) 12) (zBack zY 392 862 865 [some (zR (some a0)), some (zR (some 0)), some (zR (some 177)), some (zR (some a3)), some (zR (some a4)), some (zI i), some (zI y), none, none, none] [] (zC 293 [zR (some 177), zI (hI h a0 (i + 1).toNat)] h)))))) from zGo 8 392 853 _ _ _).trans ?_
  refine (gd_t (by decide) _).trans ?_
  refine gd_c Iff.rfl (fun c0 => ?_)
  refine gd_c (ci ta0 rfl) (fun c1 => ?_)
  refine (gd_t (⟨rfl, Nat.le_of_ble_eq_true rfl, rfl, Nat.le_of_ble_eq_true rfl⟩) _).trans ?_
  refine (gd_t (⟨rfl, (PTM KM 177 _ rfl rfl), (PNM KM 177 rfl)⟩) _).trans ?_
  rfl
theorem q_lw13_2 {h : zH} {a0 : Nat} {a3 : Nat} {a4 : Nat} {i : Int} {x6 : Int} {y : BitVec 64} (ta0 : hT h a0 = 22) (KC : KC h) (KM : KM h) (ta3 : hT h a3 = 23) (na3 : a3 < hN h) (ta4 : hT h a4 = 24) (na4 : a4 < hN h) : zBack zY 392 862 865 [some (zR (some a0)), some (zR (some 0)), some (zR (some 177)), some (zR (some a3)), some (zR (some a4)), some (zI i), some (zI x6), none, none, none] [] (some (.inl (some (zJ y)), h)) =
    zBack zY 392 868 871 [some (zR (some a0)), some (zR (some 0)), some (zR (some 177)), some (zR (some a3)), some (zR (some a4)), some (zI i), some (zI x6), some (zJ y), none, none] [] (zC 208 [zR (some 177)] h) := by
  refine (show zBack zY 392 862 865 [some (zR (some a0)), some (zR (some 0)), some (zR (some 177)), some (zR (some a3)), some (zR (some a4)), some (zI i), some (zI x6), none, none, none] [] (some (.inl (some (zJ y)), h)) = gd (false = zctor 208 ∧ zcs [] ≤ 8 ∧ zrm 392 (zrf 208 + 1) (8 + (zmaxl 208 + 11) + zrl 208) = true ∧ zcs [zR (some 177)] ≤ zmaxl 208) (gd (zob h (some 177) 12) (zBack zY 392 868 871 [some (zR (some a0)), some (zR (some 0)), some (zR (some 177)), some (zR (some a3)), some (zR (some a4)), some (zI i), some (zI x6), some (zJ y), none, none] [] (zC 208 [zR (some 177)] h))) from zGo 3 392 865 _ _ _).trans ?_
  refine (gd_t (⟨rfl, Nat.le_of_ble_eq_true rfl, rfl, Nat.le_of_ble_eq_true rfl⟩) _).trans ?_
  refine (gd_t (⟨rfl, (PTM KM 177 _ rfl rfl), (PNM KM 177 rfl)⟩) _).trans ?_
  rfl
theorem q_lw13_3 {h : zH} {a0 : Nat} {a3 : Nat} {a4 : Nat} {i : Int} {x6 : Int} {x7 : BitVec 64} {y : Int} (ta0 : hT h a0 = 22) (KC : KC h) (KM : KM h) (ta3 : hT h a3 = 23) (na3 : a3 < hN h) (ta4 : hT h a4 = 24) (na4 : a4 < hN h) : zBack zY 392 868 871 [some (zR (some a0)), some (zR (some 0)), some (zR (some 177)), some (zR (some a3)), some (zR (some a4)), some (zI i), some (zI x6), some (zJ x7), none, none] [] (some (.inl (some (zI y)), h)) =
    if y = x6 then
      if x6 = 0 then
        gd ((0 : Int) ≤ 0 ∧ 0 < (hL h a3 : Int)) (
        if (hJ h a3 0) = x7 then
          zY 392 2378 [some (zR (some a0)), some (zR (some 0)), some (zR (some 177)), some (zR (some a3)), some (zR (some a4)), some (zI i), some (zI x6), some (zJ x7), none, none] [] h
        else
          some (.inl (some (zI 0)), h))
      else
        zY 392 2378 [some (zR (some a0)), some (zR (some 0)), some (zR (some 177)), some (zR (some a3)), some (zR (some a4)), some (zI i), some (zI x6), some (zJ x7), none, none] [] h
    else
      some (.inl (some (zI 0)), h) := by
  refine (show zBack zY 392 868 871 [some (zR (some a0)), some (zR (some 0)), some (zR (some 177)), some (zR (some a3)), some (zR (some a4)), some (zI i), some (zI x6), some (zJ x7), none, none] [] (some (.inl (some (zI y)), h)) = if y = x6 then zY 392 878 [some (zR (some a0)), some (zR (some 0)), some (zR (some 177)), some (zR (some a3)), some (zR (some a4)), some (zI i), some (zI x6), some (zJ x7), none, none] [] h else zY 392 876 [some (zR (some a0)), some (zR (some 0)), some (zR (some 177)), some (zR (some a3)), some (zR (some a4)), some (zI i), some (zI x6), some (zJ x7), none, none] [] h from zGo 2 392 871 _ _ _).trans ?_
  refine iteC (fun c0 => ?_) (fun c0 => ?_)
  · skip
    refine (show zY 392 878 [some (zR (some a0)), some (zR (some 0)), some (zR (some 177)), some (zR (some a3)), some (zR (some a4)), some (zI i), some (zI x6), some (zJ x7), none, none] [] h = if x6 = 0 then zY 392 883 [some (zR (some a0)), some (zR (some 0)), some (zR (some 177)), some (zR (some a3)), some (zR (some a4)), some (zI i), some (zI x6), some (zJ x7), none, none] [] h else zY 392 894 [some (zR (some a0)), some (zR (some 0)), some (zR (some 177)), some (zR (some a3)), some (zR (some a4)), some (zI i), some (zI x6), some (zJ x7), none, none] [] h from zGo 2 392 878 _ _ _).trans ?_
    refine iteC (fun c1 => ?_) (fun c1 => ?_)
    · skip
      refine (show zY 392 883 [some (zR (some a0)), some (zR (some 0)), some (zR (some 177)), some (zR (some a3)), some (zR (some a4)), some (zI i), some (zI x6), some (zJ x7), none, none] [] h = gd (inR (0)) (gd (zok h (some a3) 23 0) (if (zlcmp (hJ h a3 0) x7) = 0 then zY 392 894 [some (zR (some a0)), some (zR (some 0)), some (zR (some 177)), some (zR (some a3)), some (zR (some a4)), some (zI i), some (zI x6), some (zJ x7), none, none] [] h else zY 392 892 [some (zR (some a0)), some (zR (some 0)), some (zR (some 177)), some (zR (some a3)), some (zR (some a4)), some (zI i), some (zI x6), some (zJ x7), none, none] [] h)) from zGo 6 392 883 _ _ _).trans ?_
      refine (gd_t (by decide) _).trans ?_
      refine gd_c (ci ta3 rfl) (fun c2 => ?_)
      refine iteL (fun c3 => ?_) (fun c3 => ?_)
      · skip
        refine (show zY 392 894 [some (zR (some a0)), some (zR (some 0)), some (zR (some 177)), some (zR (some a3)), some (zR (some a4)), some (zI i), some (zI x6), some (zJ x7), none, none] [] h = zY 392 2378 [some (zR (some a0)), some (zR (some 0)), some (zR (some 177)), some (zR (some a3)), some (zR (some a4)), some (zI i), some (zI x6), some (zJ x7), none, none] [] h from zGo 1 392 894 _ _ _).trans ?_
        rfl
      · skip
        refine (show zY 392 892 [some (zR (some a0)), some (zR (some 0)), some (zR (some 177)), some (zR (some a3)), some (zR (some a4)), some (zI i), some (zI x6), some (zJ x7), none, none] [] h = gd (inR (0)) (gd (([] : List zV).isEmpty = true ∧ (zrk 392 = 1 ∨ zrk 392 = 6 ∧ ((0 : Int) = 0 ∨ (0 : Int) = 1))) (some (.inl (some (zI 0)), h))) from zGo 2 392 892 _ _ _).trans ?_
        refine (gd_t (by decide) _).trans ?_
        refine (gd_t (⟨rfl, Or.inr ⟨rfl, by decide⟩⟩) _).trans ?_
        rfl
    · skip
      refine (show zY 392 894 [some (zR (some a0)), some (zR (some 0)), some (zR (some 177)), some (zR (some a3)), some (zR (some a4)), some (zI i), some (zI x6), some (zJ x7), none, none] [] h = zY 392 2378 [some (zR (some a0)), some (zR (some 0)), some (zR (some 177)), some (zR (some a3)), some (zR (some a4)), some (zI i), some (zI x6), some (zJ x7), none, none] [] h from zGo 1 392 894 _ _ _).trans ?_
      rfl
  · skip
    refine (show zY 392 876 [some (zR (some a0)), some (zR (some 0)), some (zR (some 177)), some (zR (some a3)), some (zR (some a4)), some (zI i), some (zI x6), some (zJ x7), none, none] [] h = gd (inR (0)) (gd (([] : List zV).isEmpty = true ∧ (zrk 392 = 1 ∨ zrk 392 = 6 ∧ ((0 : Int) = 0 ∨ (0 : Int) = 1))) (some (.inl (some (zI 0)), h))) from zGo 2 392 876 _ _ _).trans ?_
    refine (gd_t (by decide) _).trans ?_
    refine (gd_t (⟨rfl, Or.inr ⟨rfl, by decide⟩⟩) _).trans ?_
    rfl
theorem q_lw14_0 {h : zH} {a0 : Nat} {a3 : Nat} {a4 : Nat} {i : Int} (ta0 : hT h a0 = 22) (KC : KC h) (KM : KM h) (ta3 : hT h a3 = 23) (na3 : a3 < hN h) (ta4 : hT h a4 = 24) (na4 : a4 < hN h) : zY 392 897 [some (zR (some a0)), some (zR (some 0)), some (zR (some 177)), some (zR (some a3)), some (zR (some a4)), some (zI i), none, none, none, none] [] h =
    zBack zY 392 898 901 [some (zR (some a0)), some (zR (some 0)), some (zR (some 177)), some (zR (some a3)), some (zR (some a4)), some (zI i), none, none, none, none] [] (zC 152 [zR (some 0)] h) := by
  refine (show zY 392 897 [some (zR (some a0)), some (zR (some 0)), some (zR (some 177)), some (zR (some a3)), some (zR (some a4)), some (zI i), none, none, none, none] [] h = gd (false = zctor 152 ∧ zcs [] ≤ 8 ∧ zrm 392 (zrf 152 + 1) (8 + (zmaxl 152 + 11) + zrl 152) = true ∧ zcs [zR (some 0)] ≤ zmaxl 152) (gd (zob h (some 0) 11) (zBack zY 392 898 901 [some (zR (some a0)), some (zR (some 0)), some (zR (some 177)), some (zR (some a3)), some (zR (some a4)), some (zI i), none, none, none, none] [] (zC 152 [zR (some 0)] h))) from zGo 2 392 897 _ _ _).trans ?_
  refine (gd_t (⟨rfl, Nat.le_of_ble_eq_true rfl, rfl, Nat.le_of_ble_eq_true rfl⟩) _).trans ?_
  refine (gd_t (⟨rfl, (PTC KC 0 _ rfl rfl), (PNC KC 0 rfl)⟩) _).trans ?_
  rfl
theorem q_lw14_1 {h : zH} {a0 : Nat} {a3 : Nat} {a4 : Nat} {i : Int} {y : Int} (ta0 : hT h a0 = 22) (KC : KC h) (KM : KM h) (ta3 : hT h a3 = 23) (na3 : a3 < hN h) (ta4 : hT h a4 = 24) (na4 : a4 < hN h) : zBack zY 392 898 901 [some (zR (some a0)), some (zR (some 0)), some (zR (some 177)), some (zR (some a3)), some (zR (some a4)), some (zI i), none, none, none, none] [] (some (.inl (some (zI y)), h)) =
    zBack zY 392 902 905 [some (zR (some a0)), some (zR (some 0)), some (zR (some 177)), some (zR (some a3)), some (zR (some a4)), some (zI i), none, none, none, none] [zI y] (zC 294 [zR (some 177)] h) := by
  refine (show zBack zY 392 898 901 [some (zR (some a0)), some (zR (some 0)), some (zR (some 177)), some (zR (some a3)), some (zR (some a4)), some (zI i), none, none, none, none] [] (some (.inl (some (zI y)), h)) = gd (false = zctor 294 ∧ zcs [zI y] ≤ 8 ∧ zrm 392 (zrf 294 + 1) (8 + (zmaxl 294 + 11) + zrl 294) = true ∧ zcs [zR (some 177)] ≤ zmaxl 294) (gd (zob h (some 177) 12) (zBack zY 392 902 905 [some (zR (some a0)), some (zR (some 0)), some (zR (some 177)), some (zR (some a3)), some (zR (some a4)), some (zI i), none, none, none, none] [zI y] (zC 294 [zR (some 177)] h))) from zGo 2 392 901 _ _ _).trans ?_
  refine (gd_t (⟨rfl, Nat.le_of_ble_eq_true rfl, rfl, Nat.le_of_ble_eq_true rfl⟩) _).trans ?_
  refine (gd_t (⟨rfl, (PTM KM 177 _ rfl rfl), (PNM KM 177 rfl)⟩) _).trans ?_
  rfl
theorem q_lw14_2 {h : zH} {a0 : Nat} {a3 : Nat} {a4 : Nat} {i : Int} {y0 : Int} {y : Int} (ta0 : hT h a0 = 22) (KC : KC h) (KM : KM h) (ta3 : hT h a3 = 23) (na3 : a3 < hN h) (ta4 : hT h a4 = 24) (na4 : a4 < hN h) : zBack zY 392 902 905 [some (zR (some a0)), some (zR (some 0)), some (zR (some 177)), some (zR (some a3)), some (zR (some a4)), some (zI i), none, none, none, none] [zI y0] (some (.inl (some (zI y)), h)) =
    if y0 = y then
      zY 392 2378 [some (zR (some a0)), some (zR (some 0)), some (zR (some 177)), some (zR (some a3)), some (zR (some a4)), some (zI i), none, none, none, none] [] h
    else
      some (.inl (some (zI 0)), h) := by
  refine (show zBack zY 392 902 905 [some (zR (some a0)), some (zR (some 0)), some (zR (some 177)), some (zR (some a3)), some (zR (some a4)), some (zI i), none, none, none, none] [zI y0] (some (.inl (some (zI y)), h)) = if y0 = y then zY 392 2378 [some (zR (some a0)), some (zR (some 0)), some (zR (some 177)), some (zR (some a3)), some (zR (some a4)), some (zI i), none, none, none, none] [] h else zY 392 908 [some (zR (some a0)), some (zR (some 0)), some (zR (some 177)), some (zR (some a3)), some (zR (some a4)), some (zI i), none, none, none, none] [] h from zGo 1 392 905 _ _ _).trans ?_
  refine iteC (fun c0 => ?_) (fun c0 => ?_)
  · skip
    rfl
  · skip
    refine (show zY 392 908 [some (zR (some a0)), some (zR (some 0)), some (zR (some 177)), some (zR (some a3)), some (zR (some a4)), some (zI i), none, none, none, none] [] h = gd (inR (0)) (gd (([] : List zV).isEmpty = true ∧ (zrk 392 = 1 ∨ zrk 392 = 6 ∧ ((0 : Int) = 0 ∨ (0 : Int) = 1))) (some (.inl (some (zI 0)), h))) from zGo 2 392 908 _ _ _).trans ?_
    refine (gd_t (by decide) _).trans ?_
    refine (gd_t (⟨rfl, Or.inr ⟨rfl, by decide⟩⟩) _).trans ?_
    rfl
theorem q_lw15_0 {h : zH} {a0 : Nat} {a3 : Nat} {a4 : Nat} {i : Int} (ta0 : hT h a0 = 22) (KC : KC h) (KM : KM h) (ta3 : hT h a3 = 23) (na3 : a3 < hN h) (ta4 : hT h a4 = 24) (na4 : a4 < hN h) : zY 392 910 [some (zR (some a0)), some (zR (some 0)), some (zR (some 177)), some (zR (some a3)), some (zR (some a4)), some (zI i), none, none, none, none] [] h =
    gd (-2147483648 ≤ i + 1 ∧ i + 1 < 2147483648) (
    gd (0 ≤ (i + 1) ∧ (i + 1) < (hL h a0 : Int)) (
    zBack zY 392 918 921 [some (zR (some a0)), some (zR (some 0)), some (zR (some 177)), some (zR (some a3)), some (zR (some a4)), some (zI i), none, none, none, none] [] (zC 359 [zR (some 0), zI (hI h a0 (i + 1).toNat), zR (some a3)] h))) := by
  refine (show zY 392 910 [some (zR (some a0)), some (zR (some 0)), some (zR (some 177)), some (zR (some a3)), some (zR (some a4)), some (zI i), none, none, none, none] [] h = gd (inR (1)) (gd (inR (i + 1)) (gd (zok h (some a0) 22 (i + 1)) (gd (false = zctor 359 ∧ zcs [] ≤ 8 ∧ zrm 392 (zrf 359 + 1) (8 + (zmaxl 359 + 11) + zrl 359) = true ∧ zcs [zR (some 0), zI (hI h a0 (i + 1).toNat), zR (some a3)] ≤ zmaxl 359) (zBack zY 392 918 921 [some (zR (some a0)), some (zR (some 0)), some (zR (some 177)), some (zR (some a3)), some (zR (some a4)), some (zI i), none, none, none, none] [] (zC 359 [zR (some 0), zI (hI h a0 (i + 1).toNat), zR (some a3)] h))))) from zGo 8 392 910 _ _ _).trans ?_
  refine (gd_t (by decide) _).trans ?_
  refine gd_c Iff.rfl (fun c0 => ?_)
  refine gd_c (ci ta0 rfl) (fun c1 => ?_)
  refine (gd_t (⟨rfl, Nat.le_of_ble_eq_true rfl, rfl, Nat.le_of_ble_eq_true rfl⟩) _).trans ?_
  rfl
theorem q_lw15_1 {h : zH} {a0 : Nat} {a3 : Nat} {a4 : Nat} {i : Int} {y : Int} (ta0 : hT h a0 = 22) (KC : KC h) (KM : KM h) (ta3 : hT h a3 = 23) (na3 : a3 < hN h) (ta4 : hT h a4 = 24) (na4 : a4 < hN h) : zBack zY 392 918 921 [some (zR (some a0)), some (zR (some 0)), some (zR (some 177)), some (zR (some a3)), some (zR (some a4)), some (zI i), none, none, none, none] [] (some (.inl (some (zI y)), h)) =
    gd (-2147483648 ≤ i + 1 ∧ i + 1 < 2147483648) (
    gd (0 ≤ (i + 1) ∧ (i + 1) < (hL h a0 : Int)) (
    zBack zY 392 930 933 [some (zR (some a0)), some (zR (some 0)), some (zR (some 177)), some (zR (some a3)), some (zR (some a4)), some (zI i), some (zI y), none, none, none] [] (zC 295 [zR (some 177), zI (hI h a0 (i + 1).toNat)] h))) := by
  refine (show zBack zY 392 918 921 [some (zR (some a0)), some (zR (some 0)), some (zR (some 177)), some (zR (some a3)), some (zR (some a4)), some (zI i), none, none, none, none] [] (some (.inl (some (zI y)), h)) = gd (inR (1)) (gd (inR (i + 1)) (gd (zok h (some a0) 22 (i + 1)) (gd (false = zctor 295 ∧ zcs [] ≤ 8 ∧ zrm 392 (zrf 295 + 1) (8 + (zmaxl 295 + 11) + zrl 295) = true ∧ zcs [zR (some 177), zI (hI h a0 (i + 1).toNat)] ≤ zmaxl 295) (gd (zob h (some 177) 12) (zBack zY 392 930 933 [some (zR (some a0)), some (zR (some 0)), some (zR (some 177)), some (zR (some a3)), some (zR (some a4)), some (zI i), some (zI y), none, none, none] [] (zC 295 [zR (some 177), zI (hI h a0 (i + 1).toNat)] h)))))) from zGo 8 392 921 _ _ _).trans ?_
  refine (gd_t (by decide) _).trans ?_
  refine gd_c Iff.rfl (fun c0 => ?_)
  refine gd_c (ci ta0 rfl) (fun c1 => ?_)
  refine (gd_t (⟨rfl, Nat.le_of_ble_eq_true rfl, rfl, Nat.le_of_ble_eq_true rfl⟩) _).trans ?_
  refine (gd_t (⟨rfl, (PTM KM 177 _ rfl rfl), (PNM KM 177 rfl)⟩) _).trans ?_
  rfl
theorem q_lw15_2 {h : zH} {a0 : Nat} {a3 : Nat} {a4 : Nat} {i : Int} {x6 : Int} {y : Int} (ta0 : hT h a0 = 22) (KC : KC h) (KM : KM h) (ta3 : hT h a3 = 23) (na3 : a3 < hN h) (ta4 : hT h a4 = 24) (na4 : a4 < hN h) : zBack zY 392 930 933 [some (zR (some a0)), some (zR (some 0)), some (zR (some 177)), some (zR (some a3)), some (zR (some a4)), some (zI i), some (zI x6), none, none, none] [] (some (.inl (some (zI y)), h)) =
    zBack zY 392 936 939 [some (zR (some a0)), some (zR (some 0)), some (zR (some 177)), some (zR (some a3)), some (zR (some a4)), some (zI i), some (zI x6), some (zI y), none, none] [] (zC 208 [zR (some 177)] h) := by
  refine (show zBack zY 392 930 933 [some (zR (some a0)), some (zR (some 0)), some (zR (some 177)), some (zR (some a3)), some (zR (some a4)), some (zI i), some (zI x6), none, none, none] [] (some (.inl (some (zI y)), h)) = gd (false = zctor 208 ∧ zcs [] ≤ 8 ∧ zrm 392 (zrf 208 + 1) (8 + (zmaxl 208 + 11) + zrl 208) = true ∧ zcs [zR (some 177)] ≤ zmaxl 208) (gd (zob h (some 177) 12) (zBack zY 392 936 939 [some (zR (some a0)), some (zR (some 0)), some (zR (some 177)), some (zR (some a3)), some (zR (some a4)), some (zI i), some (zI x6), some (zI y), none, none] [] (zC 208 [zR (some 177)] h))) from zGo 3 392 933 _ _ _).trans ?_
  refine (gd_t (⟨rfl, Nat.le_of_ble_eq_true rfl, rfl, Nat.le_of_ble_eq_true rfl⟩) _).trans ?_
  refine (gd_t (⟨rfl, (PTM KM 177 _ rfl rfl), (PNM KM 177 rfl)⟩) _).trans ?_
  rfl
theorem q_lw15_3 {h : zH} {a0 : Nat} {a3 : Nat} {a4 : Nat} {i : Int} {x6 : Int} {x7 : Int} {y : Int} (ta0 : hT h a0 = 22) (KC : KC h) (KM : KM h) (ta3 : hT h a3 = 23) (na3 : a3 < hN h) (ta4 : hT h a4 = 24) (na4 : a4 < hN h) : zBack zY 392 936 939 [some (zR (some a0)), some (zR (some 0)), some (zR (some 177)), some (zR (some a3)), some (zR (some a4)), some (zI i), some (zI x6), some (zI x7), none, none] [] (some (.inl (some (zI y)), h)) =
    if y = x6 then
      if x6 = 0 then
        gd ((0 : Int) ≤ 0 ∧ 0 < (hL h a3 : Int)) (
        if (hJ h a3 0) = (zi2l x7) then
          zY 392 2378 [some (zR (some a0)), some (zR (some 0)), some (zR (some 177)), some (zR (some a3)), some (zR (some a4)), some (zI i), some (zI x6), some (zI x7), none, none] [] h
        else
          some (.inl (some (zI 0)), h))
      else
        zY 392 2378 [some (zR (some a0)), some (zR (some 0)), some (zR (some 177)), some (zR (some a3)), some (zR (some a4)), some (zI i), some (zI x6), some (zI x7), none, none] [] h
    else
      some (.inl (some (zI 0)), h) := by
  refine (show zBack zY 392 936 939 [some (zR (some a0)), some (zR (some 0)), some (zR (some 177)), some (zR (some a3)), some (zR (some a4)), some (zI i), some (zI x6), some (zI x7), none, none] [] (some (.inl (some (zI y)), h)) = if y = x6 then zY 392 946 [some (zR (some a0)), some (zR (some 0)), some (zR (some 177)), some (zR (some a3)), some (zR (some a4)), some (zI i), some (zI x6), some (zI x7), none, none] [] h else zY 392 944 [some (zR (some a0)), some (zR (some 0)), some (zR (some 177)), some (zR (some a3)), some (zR (some a4)), some (zI i), some (zI x6), some (zI x7), none, none] [] h from zGo 2 392 939 _ _ _).trans ?_
  refine iteC (fun c0 => ?_) (fun c0 => ?_)
  · skip
    refine (show zY 392 946 [some (zR (some a0)), some (zR (some 0)), some (zR (some 177)), some (zR (some a3)), some (zR (some a4)), some (zI i), some (zI x6), some (zI x7), none, none] [] h = if x6 = 0 then zY 392 951 [some (zR (some a0)), some (zR (some 0)), some (zR (some 177)), some (zR (some a3)), some (zR (some a4)), some (zI i), some (zI x6), some (zI x7), none, none] [] h else zY 392 963 [some (zR (some a0)), some (zR (some 0)), some (zR (some 177)), some (zR (some a3)), some (zR (some a4)), some (zI i), some (zI x6), some (zI x7), none, none] [] h from zGo 2 392 946 _ _ _).trans ?_
    refine iteC (fun c1 => ?_) (fun c1 => ?_)
    · skip
      refine (show zY 392 951 [some (zR (some a0)), some (zR (some 0)), some (zR (some 177)), some (zR (some a3)), some (zR (some a4)), some (zI i), some (zI x6), some (zI x7), none, none] [] h = gd (inR (0)) (gd (zok h (some a3) 23 0) (if (zlcmp (hJ h a3 0) (zi2l x7)) = 0 then zY 392 963 [some (zR (some a0)), some (zR (some 0)), some (zR (some 177)), some (zR (some a3)), some (zR (some a4)), some (zI i), some (zI x6), some (zI x7), none, none] [] h else zY 392 961 [some (zR (some a0)), some (zR (some 0)), some (zR (some 177)), some (zR (some a3)), some (zR (some a4)), some (zI i), some (zI x6), some (zI x7), none, none] [] h)) from zGo 7 392 951 _ _ _).trans ?_
      refine (gd_t (by decide) _).trans ?_
      refine gd_c (ci ta3 rfl) (fun c2 => ?_)
      refine iteL (fun c3 => ?_) (fun c3 => ?_)
      · skip
        refine (show zY 392 963 [some (zR (some a0)), some (zR (some 0)), some (zR (some 177)), some (zR (some a3)), some (zR (some a4)), some (zI i), some (zI x6), some (zI x7), none, none] [] h = zY 392 2378 [some (zR (some a0)), some (zR (some 0)), some (zR (some 177)), some (zR (some a3)), some (zR (some a4)), some (zI i), some (zI x6), some (zI x7), none, none] [] h from zGo 1 392 963 _ _ _).trans ?_
        rfl
      · skip
        refine (show zY 392 961 [some (zR (some a0)), some (zR (some 0)), some (zR (some 177)), some (zR (some a3)), some (zR (some a4)), some (zI i), some (zI x6), some (zI x7), none, none] [] h = gd (inR (0)) (gd (([] : List zV).isEmpty = true ∧ (zrk 392 = 1 ∨ zrk 392 = 6 ∧ ((0 : Int) = 0 ∨ (0 : Int) = 1))) (some (.inl (some (zI 0)), h))) from zGo 2 392 961 _ _ _).trans ?_
        refine (gd_t (by decide) _).trans ?_
        refine (gd_t (⟨rfl, Or.inr ⟨rfl, by decide⟩⟩) _).trans ?_
        rfl
    · skip
      refine (show zY 392 963 [some (zR (some a0)), some (zR (some 0)), some (zR (some 177)), some (zR (some a3)), some (zR (some a4)), some (zI i), some (zI x6), some (zI x7), none, none] [] h = zY 392 2378 [some (zR (some a0)), some (zR (some 0)), some (zR (some 177)), some (zR (some a3)), some (zR (some a4)), some (zI i), some (zI x6), some (zI x7), none, none] [] h from zGo 1 392 963 _ _ _).trans ?_
      rfl
  · skip
    refine (show zY 392 944 [some (zR (some a0)), some (zR (some 0)), some (zR (some 177)), some (zR (some a3)), some (zR (some a4)), some (zI i), some (zI x6), some (zI x7), none, none] [] h = gd (inR (0)) (gd (([] : List zV).isEmpty = true ∧ (zrk 392 = 1 ∨ zrk 392 = 6 ∧ ((0 : Int) = 0 ∨ (0 : Int) = 1))) (some (.inl (some (zI 0)), h))) from zGo 2 392 944 _ _ _).trans ?_
    refine (gd_t (by decide) _).trans ?_
    refine (gd_t (⟨rfl, Or.inr ⟨rfl, by decide⟩⟩) _).trans ?_
    rfl
theorem q_lw16_0 {h : zH} {a0 : Nat} {a3 : Nat} {a4 : Nat} {i : Int} (ta0 : hT h a0 = 22) (KC : KC h) (KM : KM h) (ta3 : hT h a3 = 23) (na3 : a3 < hN h) (ta4 : hT h a4 = 24) (na4 : a4 < hN h) : zY 392 966 [some (zR (some a0)), some (zR (some 0)), some (zR (some 177)), some (zR (some a3)), some (zR (some a4)), some (zI i), none, none, none, none] [] h =
    gd (-2147483648 ≤ i + 1 ∧ i + 1 < 2147483648) (
    gd (0 ≤ (i + 1) ∧ (i + 1) < (hL h a0 : Int)) (
    zBack zY 392 974 977 [some (zR (some a0)), some (zR (some 0)), some (zR (some 177)), some (zR (some a3)), some (zR (some a4)), some (zI i), none, none, none, none] [] (zC 360 [zR (some 0), zI (hI h a0 (i + 1).toNat), zR (some a3)] h))) := by
  refine (show zY 392 966 [some (zR (some a0)), some (zR (some 0)), some (zR (some 177)), some (zR (some a3)), some (zR (some a4)), some (zI i), none, none, none, none] [] h = gd (inR (1)) (gd (inR (i + 1)) (gd (zok h (some a0) 22 (i + 1)) (gd (false = zctor 360 ∧ zcs [] ≤ 8 ∧ zrm 392 (zrf 360 + 1) (8 + (zmaxl 360 + 11) + zrl 360) = true ∧ zcs [zR (some 0), zI (hI h a0 (i + 1).toNat), zR (some a3)] ≤ zmaxl 360) (zBack zY 392 974 977 [some (zR (some a0)), some (zR (some 0)), some (zR (some 177)), some (zR (some a3)), some (zR (some a4)), some (zI i), none, none, none, none] [] (zC 360 [zR (some 0), zI (hI h a0 (i + 1).toNat), zR (some a3)] h))))) from zGo 8 392 966 _ _ _).trans ?_
  refine (gd_t (by decide) _).trans ?_
  refine gd_c Iff.rfl (fun c0 => ?_)
  refine gd_c (ci ta0 rfl) (fun c1 => ?_)
  refine (gd_t (⟨rfl, Nat.le_of_ble_eq_true rfl, rfl, Nat.le_of_ble_eq_true rfl⟩) _).trans ?_
  rfl
theorem q_lw16_1 {h : zH} {a0 : Nat} {a3 : Nat} {a4 : Nat} {i : Int} {y : Int} (ta0 : hT h a0 = 22) (KC : KC h) (KM : KM h) (ta3 : hT h a3 = 23) (na3 : a3 < hN h) (ta4 : hT h a4 = 24) (na4 : a4 < hN h) : zBack zY 392 974 977 [some (zR (some a0)), some (zR (some 0)), some (zR (some 177)), some (zR (some a3)), some (zR (some a4)), some (zI i), none, none, none, none] [] (some (.inl (some (zI y)), h)) =
    gd (-2147483648 ≤ i + 1 ∧ i + 1 < 2147483648) (
    gd (0 ≤ (i + 1) ∧ (i + 1) < (hL h a0 : Int)) (
    zBack zY 392 986 989 [some (zR (some a0)), some (zR (some 0)), some (zR (some 177)), some (zR (some a3)), some (zR (some a4)), some (zI i), some (zI y), none, none, none] [] (zC 297 [zR (some 177), zI (hI h a0 (i + 1).toNat)] h))) := by
  refine (show zBack zY 392 974 977 [some (zR (some a0)), some (zR (some 0)), some (zR (some 177)), some (zR (some a3)), some (zR (some a4)), some (zI i), none, none, none, none] [] (some (.inl (some (zI y)), h)) = gd (inR (1)) (gd (inR (i + 1)) (gd (zok h (some a0) 22 (i + 1)) (gd (false = zctor 297 ∧ zcs [] ≤ 8 ∧ zrm 392 (zrf 297 + 1) (8 + (zmaxl 297 + 11) + zrl 297) = true ∧ zcs [zR (some 177), zI (hI h a0 (i + 1).toNat)] ≤ zmaxl 297) (gd (zob h (some 177) 12) (zBack zY 392 986 989 [some (zR (some a0)), some (zR (some 0)), some (zR (some 177)), some (zR (some a3)), some (zR (some a4)), some (zI i), some (zI y), none, none, none] [] (zC 297 [zR (some 177), zI (hI h a0 (i + 1).toNat)] h)))))) from zGo 8 392 977 _ _ _).trans ?_
  refine (gd_t (by decide) _).trans ?_
  refine gd_c Iff.rfl (fun c0 => ?_)
  refine gd_c (ci ta0 rfl) (fun c1 => ?_)
  refine (gd_t (⟨rfl, Nat.le_of_ble_eq_true rfl, rfl, Nat.le_of_ble_eq_true rfl⟩) _).trans ?_
  refine (gd_t (⟨rfl, (PTM KM 177 _ rfl rfl), (PNM KM 177 rfl)⟩) _).trans ?_
  rfl
theorem q_lw16_2 {h : zH} {a0 : Nat} {a3 : Nat} {a4 : Nat} {i : Int} {x6 : Int} {y : Int} (ta0 : hT h a0 = 22) (KC : KC h) (KM : KM h) (ta3 : hT h a3 = 23) (na3 : a3 < hN h) (ta4 : hT h a4 = 24) (na4 : a4 < hN h) : zBack zY 392 986 989 [some (zR (some a0)), some (zR (some 0)), some (zR (some 177)), some (zR (some a3)), some (zR (some a4)), some (zI i), some (zI x6), none, none, none] [] (some (.inl (some (zI y)), h)) =
    zBack zY 392 992 995 [some (zR (some a0)), some (zR (some 0)), some (zR (some 177)), some (zR (some a3)), some (zR (some a4)), some (zI i), some (zI x6), some (zI y), none, none] [] (zC 208 [zR (some 177)] h) := by
  refine (show zBack zY 392 986 989 [some (zR (some a0)), some (zR (some 0)), some (zR (some 177)), some (zR (some a3)), some (zR (some a4)), some (zI i), some (zI x6), none, none, none] [] (some (.inl (some (zI y)), h)) = gd (false = zctor 208 ∧ zcs [] ≤ 8 ∧ zrm 392 (zrf 208 + 1) (8 + (zmaxl 208 + 11) + zrl 208) = true ∧ zcs [zR (some 177)] ≤ zmaxl 208) (gd (zob h (some 177) 12) (zBack zY 392 992 995 [some (zR (some a0)), some (zR (some 0)), some (zR (some 177)), some (zR (some a3)), some (zR (some a4)), some (zI i), some (zI x6), some (zI y), none, none] [] (zC 208 [zR (some 177)] h))) from zGo 3 392 989 _ _ _).trans ?_
  refine (gd_t (⟨rfl, Nat.le_of_ble_eq_true rfl, rfl, Nat.le_of_ble_eq_true rfl⟩) _).trans ?_
  refine (gd_t (⟨rfl, (PTM KM 177 _ rfl rfl), (PNM KM 177 rfl)⟩) _).trans ?_
  rfl
theorem q_lw16_3 {h : zH} {a0 : Nat} {a3 : Nat} {a4 : Nat} {i : Int} {x6 : Int} {x7 : Int} {y : Int} (ta0 : hT h a0 = 22) (KC : KC h) (KM : KM h) (ta3 : hT h a3 = 23) (na3 : a3 < hN h) (ta4 : hT h a4 = 24) (na4 : a4 < hN h) : zBack zY 392 992 995 [some (zR (some a0)), some (zR (some 0)), some (zR (some 177)), some (zR (some a3)), some (zR (some a4)), some (zI i), some (zI x6), some (zI x7), none, none] [] (some (.inl (some (zI y)), h)) =
    if y = x6 then
      if x6 = 0 then
        gd ((0 : Int) ≤ 0 ∧ 0 < (hL h a3 : Int)) (
        if (hJ h a3 0) = (zi2l x7) then
          zY 392 2378 [some (zR (some a0)), some (zR (some 0)), some (zR (some 177)), some (zR (some a3)), some (zR (some a4)), some (zI i), some (zI x6), some (zI x7), none, none] [] h
        else
          some (.inl (some (zI 0)), h))
      else
        zY 392 2378 [some (zR (some a0)), some (zR (some 0)), some (zR (some 177)), some (zR (some a3)), some (zR (some a4)), some (zI i), some (zI x6), some (zI x7), none, none] [] h
    else
      some (.inl (some (zI 0)), h) := by
  refine (show zBack zY 392 992 995 [some (zR (some a0)), some (zR (some 0)), some (zR (some 177)), some (zR (some a3)), some (zR (some a4)), some (zI i), some (zI x6), some (zI x7), none, none] [] (some (.inl (some (zI y)), h)) = if y = x6 then zY 392 1002 [some (zR (some a0)), some (zR (some 0)), some (zR (some 177)), some (zR (some a3)), some (zR (some a4)), some (zI i), some (zI x6), some (zI x7), none, none] [] h else zY 392 1000 [some (zR (some a0)), some (zR (some 0)), some (zR (some 177)), some (zR (some a3)), some (zR (some a4)), some (zI i), some (zI x6), some (zI x7), none, none] [] h from zGo 2 392 995 _ _ _).trans ?_
  refine iteC (fun c0 => ?_) (fun c0 => ?_)
  · skip
    refine (show zY 392 1002 [some (zR (some a0)), some (zR (some 0)), some (zR (some 177)), some (zR (some a3)), some (zR (some a4)), some (zI i), some (zI x6), some (zI x7), none, none] [] h = if x6 = 0 then zY 392 1007 [some (zR (some a0)), some (zR (some 0)), some (zR (some 177)), some (zR (some a3)), some (zR (some a4)), some (zI i), some (zI x6), some (zI x7), none, none] [] h else zY 392 1019 [some (zR (some a0)), some (zR (some 0)), some (zR (some 177)), some (zR (some a3)), some (zR (some a4)), some (zI i), some (zI x6), some (zI x7), none, none] [] h from zGo 2 392 1002 _ _ _).trans ?_
    refine iteC (fun c1 => ?_) (fun c1 => ?_)
    · skip
      refine (show zY 392 1007 [some (zR (some a0)), some (zR (some 0)), some (zR (some 177)), some (zR (some a3)), some (zR (some a4)), some (zI i), some (zI x6), some (zI x7), none, none] [] h = gd (inR (0)) (gd (zok h (some a3) 23 0) (if (zlcmp (hJ h a3 0) (zi2l x7)) = 0 then zY 392 1019 [some (zR (some a0)), some (zR (some 0)), some (zR (some 177)), some (zR (some a3)), some (zR (some a4)), some (zI i), some (zI x6), some (zI x7), none, none] [] h else zY 392 1017 [some (zR (some a0)), some (zR (some 0)), some (zR (some 177)), some (zR (some a3)), some (zR (some a4)), some (zI i), some (zI x6), some (zI x7), none, none] [] h)) from zGo 7 392 1007 _ _ _).trans ?_
      refine (gd_t (by decide) _).trans ?_
      refine gd_c (ci ta3 rfl) (fun c2 => ?_)
      refine iteL (fun c3 => ?_) (fun c3 => ?_)
      · skip
        refine (show zY 392 1019 [some (zR (some a0)), some (zR (some 0)), some (zR (some 177)), some (zR (some a3)), some (zR (some a4)), some (zI i), some (zI x6), some (zI x7), none, none] [] h = zY 392 2378 [some (zR (some a0)), some (zR (some 0)), some (zR (some 177)), some (zR (some a3)), some (zR (some a4)), some (zI i), some (zI x6), some (zI x7), none, none] [] h from zGo 1 392 1019 _ _ _).trans ?_
        rfl
      · skip
        refine (show zY 392 1017 [some (zR (some a0)), some (zR (some 0)), some (zR (some 177)), some (zR (some a3)), some (zR (some a4)), some (zI i), some (zI x6), some (zI x7), none, none] [] h = gd (inR (0)) (gd (([] : List zV).isEmpty = true ∧ (zrk 392 = 1 ∨ zrk 392 = 6 ∧ ((0 : Int) = 0 ∨ (0 : Int) = 1))) (some (.inl (some (zI 0)), h))) from zGo 2 392 1017 _ _ _).trans ?_
        refine (gd_t (by decide) _).trans ?_
        refine (gd_t (⟨rfl, Or.inr ⟨rfl, by decide⟩⟩) _).trans ?_
        rfl
    · skip
      refine (show zY 392 1019 [some (zR (some a0)), some (zR (some 0)), some (zR (some 177)), some (zR (some a3)), some (zR (some a4)), some (zI i), some (zI x6), some (zI x7), none, none] [] h = zY 392 2378 [some (zR (some a0)), some (zR (some 0)), some (zR (some 177)), some (zR (some a3)), some (zR (some a4)), some (zI i), some (zI x6), some (zI x7), none, none] [] h from zGo 1 392 1019 _ _ _).trans ?_
      rfl
  · skip
    refine (show zY 392 1000 [some (zR (some a0)), some (zR (some 0)), some (zR (some 177)), some (zR (some a3)), some (zR (some a4)), some (zI i), some (zI x6), some (zI x7), none, none] [] h = gd (inR (0)) (gd (([] : List zV).isEmpty = true ∧ (zrk 392 = 1 ∨ zrk 392 = 6 ∧ ((0 : Int) = 0 ∨ (0 : Int) = 1))) (some (.inl (some (zI 0)), h))) from zGo 2 392 1000 _ _ _).trans ?_
    refine (gd_t (by decide) _).trans ?_
    refine (gd_t (⟨rfl, Or.inr ⟨rfl, by decide⟩⟩) _).trans ?_
    rfl
theorem q_lw17_0 {h : zH} {a0 : Nat} {a3 : Nat} {a4 : Nat} {i : Int} (ta0 : hT h a0 = 22) (KC : KC h) (KM : KM h) (ta3 : hT h a3 = 23) (na3 : a3 < hN h) (ta4 : hT h a4 = 24) (na4 : a4 < hN h) : zY 392 1022 [some (zR (some a0)), some (zR (some 0)), some (zR (some 177)), some (zR (some a3)), some (zR (some a4)), some (zI i), none, none, none, none] [] h =
    gd (-2147483648 ≤ i + 1 ∧ i + 1 < 2147483648) (
    gd (0 ≤ (i + 1) ∧ (i + 1) < (hL h a0 : Int)) (
    zBack zY 392 1031 1034 [some (zR (some a0)), some (zR (some 0)), some (zR (some 177)), some (zR (some a3)), some (zR (some a4)), some (zI i), none, none, none, none] [] (zC 361 [zR (some 0), zI (hI h a0 (i + 1).toNat), zR (some a4)] h))) := by
  refine (show zY 392 1022 [some (zR (some a0)), some (zR (some 0)), some (zR (some 177)), some (zR (some a3)), some (zR (some a4)), some (zI i), none, none, none, none] [] h = gd (inR (1)) (gd (inR (i + 1)) (gd (zok h (some a0) 22 (i + 1)) (gd (false = zctor 361 ∧ zcs [] ≤ 8 ∧ zrm 392 (zrf 361 + 1) (8 + (zmaxl 361 + 11) + zrl 361) = true ∧ zcs [zR (some 0), zI (hI h a0 (i + 1).toNat), zR (some a4)] ≤ zmaxl 361) (zBack zY 392 1031 1034 [some (zR (some a0)), some (zR (some 0)), some (zR (some 177)), some (zR (some a3)), some (zR (some a4)), some (zI i), none, none, none, none] [] (zC 361 [zR (some 0), zI (hI h a0 (i + 1).toNat), zR (some a4)] h))))) from zGo 8 392 1022 _ _ _).trans ?_
  refine (gd_t (by decide) _).trans ?_
  refine gd_c Iff.rfl (fun c0 => ?_)
  refine gd_c (ci ta0 rfl) (fun c1 => ?_)
  refine (gd_t (⟨rfl, Nat.le_of_ble_eq_true rfl, rfl, Nat.le_of_ble_eq_true rfl⟩) _).trans ?_
  rfl
theorem q_lw17_1 {h : zH} {a0 : Nat} {a3 : Nat} {a4 : Nat} {i : Int} {y : Int} (ta0 : hT h a0 = 22) (KC : KC h) (KM : KM h) (ta3 : hT h a3 = 23) (na3 : a3 < hN h) (ta4 : hT h a4 = 24) (na4 : a4 < hN h) : zBack zY 392 1031 1034 [some (zR (some a0)), some (zR (some 0)), some (zR (some 177)), some (zR (some a3)), some (zR (some a4)), some (zI i), none, none, none, none] [] (some (.inl (some (zI y)), h)) =
    gd (-2147483648 ≤ i + 1 ∧ i + 1 < 2147483648) (
    gd (0 ≤ (i + 1) ∧ (i + 1) < (hL h a0 : Int)) (
    zBack zY 392 1043 1046 [some (zR (some a0)), some (zR (some 0)), some (zR (some 177)), some (zR (some a3)), some (zR (some a4)), some (zI i), some (zI y), none, none, none] [] (zC 298 [zR (some 177), zI (hI h a0 (i + 1).toNat)] h))) := by
  refine (show zBack zY 392 1031 1034 [some (zR (some a0)), some (zR (some 0)), some (zR (some 177)), some (zR (some a3)), some (zR (some a4)), some (zI i), none, none, none, none] [] (some (.inl (some (zI y)), h)) = gd (inR (1)) (gd (inR (i + 1)) (gd (zok h (some a0) 22 (i + 1)) (gd (false = zctor 298 ∧ zcs [] ≤ 8 ∧ zrm 392 (zrf 298 + 1) (8 + (zmaxl 298 + 11) + zrl 298) = true ∧ zcs [zR (some 177), zI (hI h a0 (i + 1).toNat)] ≤ zmaxl 298) (gd (zob h (some 177) 12) (zBack zY 392 1043 1046 [some (zR (some a0)), some (zR (some 0)), some (zR (some 177)), some (zR (some a3)), some (zR (some a4)), some (zI i), some (zI y), none, none, none] [] (zC 298 [zR (some 177), zI (hI h a0 (i + 1).toNat)] h)))))) from zGo 8 392 1034 _ _ _).trans ?_
  refine (gd_t (by decide) _).trans ?_
  refine gd_c Iff.rfl (fun c0 => ?_)
  refine gd_c (ci ta0 rfl) (fun c1 => ?_)
  refine (gd_t (⟨rfl, Nat.le_of_ble_eq_true rfl, rfl, Nat.le_of_ble_eq_true rfl⟩) _).trans ?_
  refine (gd_t (⟨rfl, (PTM KM 177 _ rfl rfl), (PNM KM 177 rfl)⟩) _).trans ?_
  rfl
theorem q_lw17_2 {h : zH} {a0 : Nat} {a3 : Nat} {a4 : Nat} {i : Int} {x6 : Int} {y : UInt32} (ta0 : hT h a0 = 22) (KC : KC h) (KM : KM h) (ta3 : hT h a3 = 23) (na3 : a3 < hN h) (ta4 : hT h a4 = 24) (na4 : a4 < hN h) : zBack zY 392 1043 1046 [some (zR (some a0)), some (zR (some 0)), some (zR (some 177)), some (zR (some a3)), some (zR (some a4)), some (zI i), some (zI x6), none, none, none] [] (some (.inl (some (zF y)), h)) =
    zBack zY 392 1049 1052 [some (zR (some a0)), some (zR (some 0)), some (zR (some 177)), some (zR (some a3)), some (zR (some a4)), some (zI i), some (zI x6), some (zF y), none, none] [] (zC 208 [zR (some 177)] h) := by
  refine (show zBack zY 392 1043 1046 [some (zR (some a0)), some (zR (some 0)), some (zR (some 177)), some (zR (some a3)), some (zR (some a4)), some (zI i), some (zI x6), none, none, none] [] (some (.inl (some (zF y)), h)) = gd (false = zctor 208 ∧ zcs [] ≤ 8 ∧ zrm 392 (zrf 208 + 1) (8 + (zmaxl 208 + 11) + zrl 208) = true ∧ zcs [zR (some 177)] ≤ zmaxl 208) (gd (zob h (some 177) 12) (zBack zY 392 1049 1052 [some (zR (some a0)), some (zR (some 0)), some (zR (some 177)), some (zR (some a3)), some (zR (some a4)), some (zI i), some (zI x6), some (zF y), none, none] [] (zC 208 [zR (some 177)] h))) from zGo 3 392 1046 _ _ _).trans ?_
  refine (gd_t (⟨rfl, Nat.le_of_ble_eq_true rfl, rfl, Nat.le_of_ble_eq_true rfl⟩) _).trans ?_
  refine (gd_t (⟨rfl, (PTM KM 177 _ rfl rfl), (PNM KM 177 rfl)⟩) _).trans ?_
  rfl
theorem q_lw17_3 {h : zH} {a0 : Nat} {a3 : Nat} {a4 : Nat} {i : Int} {x6 : Int} {x7 : UInt32} {y : Int} (ta0 : hT h a0 = 22) (KC : KC h) (KM : KM h) (ta3 : hT h a3 = 23) (na3 : a3 < hN h) (ta4 : hT h a4 = 24) (na4 : a4 < hN h) : zBack zY 392 1049 1052 [some (zR (some a0)), some (zR (some 0)), some (zR (some 177)), some (zR (some a3)), some (zR (some a4)), some (zI i), some (zI x6), some (zF x7), none, none] [] (some (.inl (some (zI y)), h)) =
    if y = x6 then
      if x6 = 0 then
        gd ((0 : Int) ≤ 0 ∧ 0 < (hL h a4 : Int)) (
        gd (zn64 (FP.f2d x7) = true) (
        if (Op.cmpValue (FP.dcmp (hD h a4 0) (FP.f2d x7)) .l).toInt = 0 then
          zY 392 2378 [some (zR (some a0)), some (zR (some 0)), some (zR (some 177)), some (zR (some a3)), some (zR (some a4)), some (zI i), some (zI x6), some (zF x7), none, none] [] h
        else
          if (Op.cmpValue (FP.dcmp (hD h a4 0) (hD h a4 0)) .l).toInt = 0 then
            some (.inl (some (zI 0)), h)
          else
            if (Op.cmpValue (FP.fcmp x7 x7) .l).toInt = 0 then
              some (.inl (some (zI 0)), h)
            else
              zY 392 2378 [some (zR (some a0)), some (zR (some 0)), some (zR (some 177)), some (zR (some a3)), some (zR (some a4)), some (zI i), some (zI x6), some (zF x7), none, none] [] h))
      else
        zY 392 2378 [some (zR (some a0)), some (zR (some 0)), some (zR (some 177)), some (zR (some a3)), some (zR (some a4)), some (zI i), some (zI x6), some (zF x7), none, none] [] h
    else
      some (.inl (some (zI 0)), h) := by
  refine (show zBack zY 392 1049 1052 [some (zR (some a0)), some (zR (some 0)), some (zR (some 177)), some (zR (some a3)), some (zR (some a4)), some (zI i), some (zI x6), some (zF x7), none, none] [] (some (.inl (some (zI y)), h)) = if y = x6 then zY 392 1059 [some (zR (some a0)), some (zR (some 0)), some (zR (some 177)), some (zR (some a3)), some (zR (some a4)), some (zI i), some (zI x6), some (zF x7), none, none] [] h else zY 392 1057 [some (zR (some a0)), some (zR (some 0)), some (zR (some 177)), some (zR (some a3)), some (zR (some a4)), some (zI i), some (zI x6), some (zF x7), none, none] [] h from zGo 2 392 1052 _ _ _).trans ?_
  refine iteC (fun c0 => ?_) (fun c0 => ?_)
  · skip
    refine (show zY 392 1059 [some (zR (some a0)), some (zR (some 0)), some (zR (some 177)), some (zR (some a3)), some (zR (some a4)), some (zI i), some (zI x6), some (zF x7), none, none] [] h = if x6 = 0 then zY 392 1064 [some (zR (some a0)), some (zR (some 0)), some (zR (some 177)), some (zR (some a3)), some (zR (some a4)), some (zI i), some (zI x6), some (zF x7), none, none] [] h else zY 392 1097 [some (zR (some a0)), some (zR (some 0)), some (zR (some 177)), some (zR (some a3)), some (zR (some a4)), some (zI i), some (zI x6), some (zF x7), none, none] [] h from zGo 2 392 1059 _ _ _).trans ?_
    refine iteC (fun c1 => ?_) (fun c1 => ?_)
    · skip
      refine (show zY 392 1064 [some (zR (some a0)), some (zR (some 0)), some (zR (some 177)), some (zR (some a3)), some (zR (some a4)), some (zI i), some (zI x6), some (zF x7), none, none] [] h = gd (inR (0)) (gd (zokw h (some a4) 24 0) (gd (zn64 (FP.f2d x7) = true) (if (Op.cmpValue (FP.dcmp (hD h a4 0) (FP.f2d x7)) .l).toInt = 0 then zY 392 1097 [some (zR (some a0)), some (zR (some 0)), some (zR (some 177)), some (zR (some a3)), some (zR (some a4)), some (zI i), some (zI x6), some (zF x7), none, none] [] h else zY 392 1075 [some (zR (some a0)), some (zR (some 0)), some (zR (some 177)), some (zR (some a3)), some (zR (some a4)), some (zI i), some (zI x6), some (zF x7), none, none] [] h))) from zGo 7 392 1064 _ _ _).trans ?_
      refine (gd_t (by decide) _).trans ?_
      refine gd_c (ciw ta4 na4 rfl) (fun c2 => ?_)
      refine gd_c Iff.rfl (fun c3 => ?_)
      refine iteC (fun c4 => ?_) (fun c4 => ?_)
      · skip
        refine (show zY 392 1097 [some (zR (some a0)), some (zR (some 0)), some (zR (some 177)), some (zR (some a3)), some (zR (some a4)), some (zI i), some (zI x6), some (zF x7), none, none] [] h = zY 392 2378 [some (zR (some a0)), some (zR (some 0)), some (zR (some 177)), some (zR (some a3)), some (zR (some a4)), some (zI i), some (zI x6), some (zF x7), none, none] [] h from zGo 1 392 1097 _ _ _).trans ?_
        rfl
      · skip
        refine (show zY 392 1075 [some (zR (some a0)), some (zR (some 0)), some (zR (some 177)), some (zR (some a3)), some (zR (some a4)), some (zI i), some (zI x6), some (zF x7), none, none] [] h = gd (inR (0)) (gd (zokw h (some a4) 24 0) (gd (inR (0)) (gd (zokw h (some a4) 24 0) (if (Op.cmpValue (FP.dcmp (hD h a4 0) (hD h a4 0)) .l).toInt = 0 then zY 392 1095 [some (zR (some a0)), some (zR (some 0)), some (zR (some 177)), some (zR (some a3)), some (zR (some a4)), some (zI i), some (zI x6), some (zF x7), none, none] [] h else zY 392 1087 [some (zR (some a0)), some (zR (some 0)), some (zR (some 177)), some (zR (some a3)), some (zR (some a4)), some (zI i), some (zI x6), some (zF x7), none, none] [] h)))) from zGo 8 392 1075 _ _ _).trans ?_
        refine (gd_t (by decide) _).trans ?_
        refine (gd_t ((ciw ta4 na4 rfl).2 (by omega)) _).trans ?_
        refine (gd_t (by decide) _).trans ?_
        refine (gd_t ((ciw ta4 na4 rfl).2 (by omega)) _).trans ?_
        refine iteC (fun c5 => ?_) (fun c5 => ?_)
        · skip
          refine (show zY 392 1095 [some (zR (some a0)), some (zR (some 0)), some (zR (some 177)), some (zR (some a3)), some (zR (some a4)), some (zI i), some (zI x6), some (zF x7), none, none] [] h = gd (inR (0)) (gd (([] : List zV).isEmpty = true ∧ (zrk 392 = 1 ∨ zrk 392 = 6 ∧ ((0 : Int) = 0 ∨ (0 : Int) = 1))) (some (.inl (some (zI 0)), h))) from zGo 2 392 1095 _ _ _).trans ?_
          refine (gd_t (by decide) _).trans ?_
          refine (gd_t (⟨rfl, Or.inr ⟨rfl, by decide⟩⟩) _).trans ?_
          rfl
        · skip
          refine (show zY 392 1087 [some (zR (some a0)), some (zR (some 0)), some (zR (some 177)), some (zR (some a3)), some (zR (some a4)), some (zI i), some (zI x6), some (zF x7), none, none] [] h = if (Op.cmpValue (FP.fcmp x7 x7) .l).toInt = 0 then zY 392 1095 [some (zR (some a0)), some (zR (some 0)), some (zR (some 177)), some (zR (some a3)), some (zR (some a4)), some (zI i), some (zI x6), some (zF x7), none, none] [] h else zY 392 1097 [some (zR (some a0)), some (zR (some 0)), some (zR (some 177)), some (zR (some a3)), some (zR (some a4)), some (zI i), some (zI x6), some (zF x7), none, none] [] h from zGo 4 392 1087 _ _ _).trans ?_
          refine iteC (fun c6 => ?_) (fun c6 => ?_)
          · skip
            refine (show zY 392 1095 [some (zR (some a0)), some (zR (some 0)), some (zR (some 177)), some (zR (some a3)), some (zR (some a4)), some (zI i), some (zI x6), some (zF x7), none, none] [] h = gd (inR (0)) (gd (([] : List zV).isEmpty = true ∧ (zrk 392 = 1 ∨ zrk 392 = 6 ∧ ((0 : Int) = 0 ∨ (0 : Int) = 1))) (some (.inl (some (zI 0)), h))) from zGo 2 392 1095 _ _ _).trans ?_
            refine (gd_t (by decide) _).trans ?_
            refine (gd_t (⟨rfl, Or.inr ⟨rfl, by decide⟩⟩) _).trans ?_
            rfl
          · skip
            refine (show zY 392 1097 [some (zR (some a0)), some (zR (some 0)), some (zR (some 177)), some (zR (some a3)), some (zR (some a4)), some (zI i), some (zI x6), some (zF x7), none, none] [] h = zY 392 2378 [some (zR (some a0)), some (zR (some 0)), some (zR (some 177)), some (zR (some a3)), some (zR (some a4)), some (zI i), some (zI x6), some (zF x7), none, none] [] h from zGo 1 392 1097 _ _ _).trans ?_
            rfl
    · skip
      refine (show zY 392 1097 [some (zR (some a0)), some (zR (some 0)), some (zR (some 177)), some (zR (some a3)), some (zR (some a4)), some (zI i), some (zI x6), some (zF x7), none, none] [] h = zY 392 2378 [some (zR (some a0)), some (zR (some 0)), some (zR (some 177)), some (zR (some a3)), some (zR (some a4)), some (zI i), some (zI x6), some (zF x7), none, none] [] h from zGo 1 392 1097 _ _ _).trans ?_
      rfl
  · skip
    refine (show zY 392 1057 [some (zR (some a0)), some (zR (some 0)), some (zR (some 177)), some (zR (some a3)), some (zR (some a4)), some (zI i), some (zI x6), some (zF x7), none, none] [] h = gd (inR (0)) (gd (([] : List zV).isEmpty = true ∧ (zrk 392 = 1 ∨ zrk 392 = 6 ∧ ((0 : Int) = 0 ∨ (0 : Int) = 1))) (some (.inl (some (zI 0)), h))) from zGo 2 392 1057 _ _ _).trans ?_
    refine (gd_t (by decide) _).trans ?_
    refine (gd_t (⟨rfl, Or.inr ⟨rfl, by decide⟩⟩) _).trans ?_
    rfl
theorem q_lw18_0 {h : zH} {a0 : Nat} {a3 : Nat} {a4 : Nat} {i : Int} (ta0 : hT h a0 = 22) (KC : KC h) (KM : KM h) (ta3 : hT h a3 = 23) (na3 : a3 < hN h) (ta4 : hT h a4 = 24) (na4 : a4 < hN h) : zY 392 1100 [some (zR (some a0)), some (zR (some 0)), some (zR (some 177)), some (zR (some a3)), some (zR (some a4)), some (zI i), none, none, none, none] [] h =
    gd (-2147483648 ≤ i + 1 ∧ i + 1 < 2147483648) (
    gd (0 ≤ (i + 1) ∧ (i + 1) < (hL h a0 : Int)) (
    zBack zY 392 1108 1111 [some (zR (some a0)), some (zR (some 0)), some (zR (some 177)), some (zR (some a3)), some (zR (some a4)), some (zI i), none, none, none, none] [] (zC 362 [zR (some 0), zI (hI h a0 (i + 1).toNat), zR (some a3)] h))) := by
  refine (show zY 392 1100 [some (zR (some a0)), some (zR (some 0)), some (zR (some 177)), some (zR (some a3)), some (zR (some a4)), some (zI i), none, none, none, none] [] h = gd (inR (1)) (gd (inR (i + 1)) (gd (zok h (some a0) 22 (i + 1)) (gd (false = zctor 362 ∧ zcs [] ≤ 8 ∧ zrm 392 (zrf 362 + 1) (8 + (zmaxl 362 + 11) + zrl 362) = true ∧ zcs [zR (some 0), zI (hI h a0 (i + 1).toNat), zR (some a3)] ≤ zmaxl 362) (zBack zY 392 1108 1111 [some (zR (some a0)), some (zR (some 0)), some (zR (some 177)), some (zR (some a3)), some (zR (some a4)), some (zI i), none, none, none, none] [] (zC 362 [zR (some 0), zI (hI h a0 (i + 1).toNat), zR (some a3)] h))))) from zGo 8 392 1100 _ _ _).trans ?_
  refine (gd_t (by decide) _).trans ?_
  refine gd_c Iff.rfl (fun c0 => ?_)
  refine gd_c (ci ta0 rfl) (fun c1 => ?_)
  refine (gd_t (⟨rfl, Nat.le_of_ble_eq_true rfl, rfl, Nat.le_of_ble_eq_true rfl⟩) _).trans ?_
  rfl
theorem q_lw18_1 {h : zH} {a0 : Nat} {a3 : Nat} {a4 : Nat} {i : Int} {y : Int} (ta0 : hT h a0 = 22) (KC : KC h) (KM : KM h) (ta3 : hT h a3 = 23) (na3 : a3 < hN h) (ta4 : hT h a4 = 24) (na4 : a4 < hN h) : zBack zY 392 1108 1111 [some (zR (some a0)), some (zR (some 0)), some (zR (some 177)), some (zR (some a3)), some (zR (some a4)), some (zI i), none, none, none, none] [] (some (.inl (some (zI y)), h)) =
    gd (-2147483648 ≤ i + 1 ∧ i + 1 < 2147483648) (
    gd (0 ≤ (i + 1) ∧ (i + 1) < (hL h a0 : Int)) (
    zBack zY 392 1120 1123 [some (zR (some a0)), some (zR (some 0)), some (zR (some 177)), some (zR (some a3)), some (zR (some a4)), some (zI i), some (zI y), none, none, none] [] (zC 299 [zR (some 177), zI (hI h a0 (i + 1).toNat)] h))) := by
  refine (show zBack zY 392 1108 1111 [some (zR (some a0)), some (zR (some 0)), some (zR (some 177)), some (zR (some a3)), some (zR (some a4)), some (zI i), none, none, none, none] [] (some (.inl (some (zI y)), h)) = gd (inR (1)) (gd (inR (i + 1)) (gd (zok h (some a0) 22 (i + 1)) (gd (false = zctor 299 ∧ zcs [] ≤ 8 ∧ zrm 392 (zrf 299 + 1) (8 + (zmaxl 299 + 11) + zrl 299) = true ∧ zcs [zR (some 177), zI (hI h a0 (i + 1).toNat)] ≤ zmaxl 299) (gd (zob h (some 177) 12) (zBack zY 392 1120 1123 [some (zR (some a0)), some (zR (some 0)), some (zR (some 177)), some (zR (some a3)), some (zR (some a4)), some (zI i), some (zI y), none, none, none] [] (zC 299 [zR (some 177), zI (hI h a0 (i + 1).toNat)] h)))))) from zGo 8 392 1111 _ _ _).trans ?_
  refine (gd_t (by decide) _).trans ?_
  refine gd_c Iff.rfl (fun c0 => ?_)
  refine gd_c (ci ta0 rfl) (fun c1 => ?_)
  refine (gd_t (⟨rfl, Nat.le_of_ble_eq_true rfl, rfl, Nat.le_of_ble_eq_true rfl⟩) _).trans ?_
  refine (gd_t (⟨rfl, (PTM KM 177 _ rfl rfl), (PNM KM 177 rfl)⟩) _).trans ?_
  rfl
theorem q_lw18_2 {h : zH} {a0 : Nat} {a3 : Nat} {a4 : Nat} {i : Int} {x6 : Int} {y : Int} (ta0 : hT h a0 = 22) (KC : KC h) (KM : KM h) (ta3 : hT h a3 = 23) (na3 : a3 < hN h) (ta4 : hT h a4 = 24) (na4 : a4 < hN h) : zBack zY 392 1120 1123 [some (zR (some a0)), some (zR (some 0)), some (zR (some 177)), some (zR (some a3)), some (zR (some a4)), some (zI i), some (zI x6), none, none, none] [] (some (.inl (some (zI y)), h)) =
    zBack zY 392 1126 1129 [some (zR (some a0)), some (zR (some 0)), some (zR (some 177)), some (zR (some a3)), some (zR (some a4)), some (zI i), some (zI x6), some (zI y), none, none] [] (zC 208 [zR (some 177)] h) := by
  refine (show zBack zY 392 1120 1123 [some (zR (some a0)), some (zR (some 0)), some (zR (some 177)), some (zR (some a3)), some (zR (some a4)), some (zI i), some (zI x6), none, none, none] [] (some (.inl (some (zI y)), h)) = gd (false = zctor 208 ∧ zcs [] ≤ 8 ∧ zrm 392 (zrf 208 + 1) (8 + (zmaxl 208 + 11) + zrl 208) = true ∧ zcs [zR (some 177)] ≤ zmaxl 208) (gd (zob h (some 177) 12) (zBack zY 392 1126 1129 [some (zR (some a0)), some (zR (some 0)), some (zR (some 177)), some (zR (some a3)), some (zR (some a4)), some (zI i), some (zI x6), some (zI y), none, none] [] (zC 208 [zR (some 177)] h))) from zGo 3 392 1123 _ _ _).trans ?_
  refine (gd_t (⟨rfl, Nat.le_of_ble_eq_true rfl, rfl, Nat.le_of_ble_eq_true rfl⟩) _).trans ?_
  refine (gd_t (⟨rfl, (PTM KM 177 _ rfl rfl), (PNM KM 177 rfl)⟩) _).trans ?_
  rfl
theorem q_lw18_3 {h : zH} {a0 : Nat} {a3 : Nat} {a4 : Nat} {i : Int} {x6 : Int} {x7 : Int} {y : Int} (ta0 : hT h a0 = 22) (KC : KC h) (KM : KM h) (ta3 : hT h a3 = 23) (na3 : a3 < hN h) (ta4 : hT h a4 = 24) (na4 : a4 < hN h) : zBack zY 392 1126 1129 [some (zR (some a0)), some (zR (some 0)), some (zR (some 177)), some (zR (some a3)), some (zR (some a4)), some (zI i), some (zI x6), some (zI x7), none, none] [] (some (.inl (some (zI y)), h)) =
    if y = x6 then
      if x6 = 0 then
        gd ((0 : Int) ≤ 0 ∧ 0 < (hL h a3 : Int)) (
        if (hJ h a3 0) = (zi2l x7) then
          zY 392 2378 [some (zR (some a0)), some (zR (some 0)), some (zR (some 177)), some (zR (some a3)), some (zR (some a4)), some (zI i), some (zI x6), some (zI x7), none, none] [] h
        else
          some (.inl (some (zI 0)), h))
      else
        zY 392 2378 [some (zR (some a0)), some (zR (some 0)), some (zR (some 177)), some (zR (some a3)), some (zR (some a4)), some (zI i), some (zI x6), some (zI x7), none, none] [] h
    else
      some (.inl (some (zI 0)), h) := by
  refine (show zBack zY 392 1126 1129 [some (zR (some a0)), some (zR (some 0)), some (zR (some 177)), some (zR (some a3)), some (zR (some a4)), some (zI i), some (zI x6), some (zI x7), none, none] [] (some (.inl (some (zI y)), h)) = if y = x6 then zY 392 1136 [some (zR (some a0)), some (zR (some 0)), some (zR (some 177)), some (zR (some a3)), some (zR (some a4)), some (zI i), some (zI x6), some (zI x7), none, none] [] h else zY 392 1134 [some (zR (some a0)), some (zR (some 0)), some (zR (some 177)), some (zR (some a3)), some (zR (some a4)), some (zI i), some (zI x6), some (zI x7), none, none] [] h from zGo 2 392 1129 _ _ _).trans ?_
  refine iteC (fun c0 => ?_) (fun c0 => ?_)
  · skip
    refine (show zY 392 1136 [some (zR (some a0)), some (zR (some 0)), some (zR (some 177)), some (zR (some a3)), some (zR (some a4)), some (zI i), some (zI x6), some (zI x7), none, none] [] h = if x6 = 0 then zY 392 1141 [some (zR (some a0)), some (zR (some 0)), some (zR (some 177)), some (zR (some a3)), some (zR (some a4)), some (zI i), some (zI x6), some (zI x7), none, none] [] h else zY 392 1153 [some (zR (some a0)), some (zR (some 0)), some (zR (some 177)), some (zR (some a3)), some (zR (some a4)), some (zI i), some (zI x6), some (zI x7), none, none] [] h from zGo 2 392 1136 _ _ _).trans ?_
    refine iteC (fun c1 => ?_) (fun c1 => ?_)
    · skip
      refine (show zY 392 1141 [some (zR (some a0)), some (zR (some 0)), some (zR (some 177)), some (zR (some a3)), some (zR (some a4)), some (zI i), some (zI x6), some (zI x7), none, none] [] h = gd (inR (0)) (gd (zok h (some a3) 23 0) (if (zlcmp (hJ h a3 0) (zi2l x7)) = 0 then zY 392 1153 [some (zR (some a0)), some (zR (some 0)), some (zR (some 177)), some (zR (some a3)), some (zR (some a4)), some (zI i), some (zI x6), some (zI x7), none, none] [] h else zY 392 1151 [some (zR (some a0)), some (zR (some 0)), some (zR (some 177)), some (zR (some a3)), some (zR (some a4)), some (zI i), some (zI x6), some (zI x7), none, none] [] h)) from zGo 7 392 1141 _ _ _).trans ?_
      refine (gd_t (by decide) _).trans ?_
      refine gd_c (ci ta3 rfl) (fun c2 => ?_)
      refine iteL (fun c3 => ?_) (fun c3 => ?_)
      · skip
        refine (show zY 392 1153 [some (zR (some a0)), some (zR (some 0)), some (zR (some 177)), some (zR (some a3)), some (zR (some a4)), some (zI i), some (zI x6), some (zI x7), none, none] [] h = zY 392 2378 [some (zR (some a0)), some (zR (some 0)), some (zR (some 177)), some (zR (some a3)), some (zR (some a4)), some (zI i), some (zI x6), some (zI x7), none, none] [] h from zGo 1 392 1153 _ _ _).trans ?_
        rfl
      · skip
        refine (show zY 392 1151 [some (zR (some a0)), some (zR (some 0)), some (zR (some 177)), some (zR (some a3)), some (zR (some a4)), some (zI i), some (zI x6), some (zI x7), none, none] [] h = gd (inR (0)) (gd (([] : List zV).isEmpty = true ∧ (zrk 392 = 1 ∨ zrk 392 = 6 ∧ ((0 : Int) = 0 ∨ (0 : Int) = 1))) (some (.inl (some (zI 0)), h))) from zGo 2 392 1151 _ _ _).trans ?_
        refine (gd_t (by decide) _).trans ?_
        refine (gd_t (⟨rfl, Or.inr ⟨rfl, by decide⟩⟩) _).trans ?_
        rfl
    · skip
      refine (show zY 392 1153 [some (zR (some a0)), some (zR (some 0)), some (zR (some 177)), some (zR (some a3)), some (zR (some a4)), some (zI i), some (zI x6), some (zI x7), none, none] [] h = zY 392 2378 [some (zR (some a0)), some (zR (some 0)), some (zR (some 177)), some (zR (some a3)), some (zR (some a4)), some (zI i), some (zI x6), some (zI x7), none, none] [] h from zGo 1 392 1153 _ _ _).trans ?_
      rfl
  · skip
    refine (show zY 392 1134 [some (zR (some a0)), some (zR (some 0)), some (zR (some 177)), some (zR (some a3)), some (zR (some a4)), some (zI i), some (zI x6), some (zI x7), none, none] [] h = gd (inR (0)) (gd (([] : List zV).isEmpty = true ∧ (zrk 392 = 1 ∨ zrk 392 = 6 ∧ ((0 : Int) = 0 ∨ (0 : Int) = 1))) (some (.inl (some (zI 0)), h))) from zGo 2 392 1134 _ _ _).trans ?_
    refine (gd_t (by decide) _).trans ?_
    refine (gd_t (⟨rfl, Or.inr ⟨rfl, by decide⟩⟩) _).trans ?_
    rfl
theorem q_lw19_0 {h : zH} {a0 : Nat} {a3 : Nat} {a4 : Nat} {i : Int} (ta0 : hT h a0 = 22) (KC : KC h) (KM : KM h) (ta3 : hT h a3 = 23) (na3 : a3 < hN h) (ta4 : hT h a4 = 24) (na4 : a4 < hN h) : zY 392 1156 [some (zR (some a0)), some (zR (some 0)), some (zR (some 177)), some (zR (some a3)), some (zR (some a4)), some (zI i), none, none, none, none] [] h =
    gd (-2147483648 ≤ i + 1 ∧ i + 1 < 2147483648) (
    gd (0 ≤ (i + 1) ∧ (i + 1) < (hL h a0 : Int)) (
    zBack zY 392 1164 1167 [some (zR (some a0)), some (zR (some 0)), some (zR (some 177)), some (zR (some a3)), some (zR (some a4)), some (zI i), none, none, none, none] [] (zC 363 [zR (some 0), zI (hI h a0 (i + 1).toNat), zR (some a3)] h))) := by
  refine (show zY 392 1156 [some (zR (some a0)), some (zR (some 0)), some (zR (some 177)), some (zR (some a3)), some (zR (some a4)), some (zI i), none, none, none, none] [] h = gd (inR (1)) (gd (inR (i + 1)) (gd (zok h (some a0) 22 (i + 1)) (gd (false = zctor 363 ∧ zcs [] ≤ 8 ∧ zrm 392 (zrf 363 + 1) (8 + (zmaxl 363 + 11) + zrl 363) = true ∧ zcs [zR (some 0), zI (hI h a0 (i + 1).toNat), zR (some a3)] ≤ zmaxl 363) (zBack zY 392 1164 1167 [some (zR (some a0)), some (zR (some 0)), some (zR (some 177)), some (zR (some a3)), some (zR (some a4)), some (zI i), none, none, none, none] [] (zC 363 [zR (some 0), zI (hI h a0 (i + 1).toNat), zR (some a3)] h))))) from zGo 8 392 1156 _ _ _).trans ?_
  refine (gd_t (by decide) _).trans ?_
  refine gd_c Iff.rfl (fun c0 => ?_)
  refine gd_c (ci ta0 rfl) (fun c1 => ?_)
  refine (gd_t (⟨rfl, Nat.le_of_ble_eq_true rfl, rfl, Nat.le_of_ble_eq_true rfl⟩) _).trans ?_
  rfl
theorem q_lw19_1 {h : zH} {a0 : Nat} {a3 : Nat} {a4 : Nat} {i : Int} {y : Int} (ta0 : hT h a0 = 22) (KC : KC h) (KM : KM h) (ta3 : hT h a3 = 23) (na3 : a3 < hN h) (ta4 : hT h a4 = 24) (na4 : a4 < hN h) : zBack zY 392 1164 1167 [some (zR (some a0)), some (zR (some 0)), some (zR (some 177)), some (zR (some a3)), some (zR (some a4)), some (zI i), none, none, none, none] [] (some (.inl (some (zI y)), h)) =
    gd (-2147483648 ≤ i + 1 ∧ i + 1 < 2147483648) (
    gd (0 ≤ (i + 1) ∧ (i + 1) < (hL h a0 : Int)) (
    zBack zY 392 1176 1179 [some (zR (some a0)), some (zR (some 0)), some (zR (some 177)), some (zR (some a3)), some (zR (some a4)), some (zI i), some (zI y), none, none, none] [] (zC 300 [zR (some 177), zI (hI h a0 (i + 1).toNat)] h))) := by
  refine (show zBack zY 392 1164 1167 [some (zR (some a0)), some (zR (some 0)), some (zR (some 177)), some (zR (some a3)), some (zR (some a4)), some (zI i), none, none, none, none] [] (some (.inl (some (zI y)), h)) = gd (inR (1)) (gd (inR (i + 1)) (gd (zok h (some a0) 22 (i + 1)) (gd (false = zctor 300 ∧ zcs [] ≤ 8 ∧ zrm 392 (zrf 300 + 1) (8 + (zmaxl 300 + 11) + zrl 300) = true ∧ zcs [zR (some 177), zI (hI h a0 (i + 1).toNat)] ≤ zmaxl 300) (gd (zob h (some 177) 12) (zBack zY 392 1176 1179 [some (zR (some a0)), some (zR (some 0)), some (zR (some 177)), some (zR (some a3)), some (zR (some a4)), some (zI i), some (zI y), none, none, none] [] (zC 300 [zR (some 177), zI (hI h a0 (i + 1).toNat)] h)))))) from zGo 8 392 1167 _ _ _).trans ?_
  refine (gd_t (by decide) _).trans ?_
  refine gd_c Iff.rfl (fun c0 => ?_)
  refine gd_c (ci ta0 rfl) (fun c1 => ?_)
  refine (gd_t (⟨rfl, Nat.le_of_ble_eq_true rfl, rfl, Nat.le_of_ble_eq_true rfl⟩) _).trans ?_
  refine (gd_t (⟨rfl, (PTM KM 177 _ rfl rfl), (PNM KM 177 rfl)⟩) _).trans ?_
  rfl
theorem q_lw19_2 {h : zH} {a0 : Nat} {a3 : Nat} {a4 : Nat} {i : Int} {x6 : Int} {y : BitVec 64} (ta0 : hT h a0 = 22) (KC : KC h) (KM : KM h) (ta3 : hT h a3 = 23) (na3 : a3 < hN h) (ta4 : hT h a4 = 24) (na4 : a4 < hN h) : zBack zY 392 1176 1179 [some (zR (some a0)), some (zR (some 0)), some (zR (some 177)), some (zR (some a3)), some (zR (some a4)), some (zI i), some (zI x6), none, none, none] [] (some (.inl (some (zJ y)), h)) =
    zBack zY 392 1182 1185 [some (zR (some a0)), some (zR (some 0)), some (zR (some 177)), some (zR (some a3)), some (zR (some a4)), some (zI i), some (zI x6), some (zJ y), none, none] [] (zC 208 [zR (some 177)] h) := by
  refine (show zBack zY 392 1176 1179 [some (zR (some a0)), some (zR (some 0)), some (zR (some 177)), some (zR (some a3)), some (zR (some a4)), some (zI i), some (zI x6), none, none, none] [] (some (.inl (some (zJ y)), h)) = gd (false = zctor 208 ∧ zcs [] ≤ 8 ∧ zrm 392 (zrf 208 + 1) (8 + (zmaxl 208 + 11) + zrl 208) = true ∧ zcs [zR (some 177)] ≤ zmaxl 208) (gd (zob h (some 177) 12) (zBack zY 392 1182 1185 [some (zR (some a0)), some (zR (some 0)), some (zR (some 177)), some (zR (some a3)), some (zR (some a4)), some (zI i), some (zI x6), some (zJ y), none, none] [] (zC 208 [zR (some 177)] h))) from zGo 3 392 1179 _ _ _).trans ?_
  refine (gd_t (⟨rfl, Nat.le_of_ble_eq_true rfl, rfl, Nat.le_of_ble_eq_true rfl⟩) _).trans ?_
  refine (gd_t (⟨rfl, (PTM KM 177 _ rfl rfl), (PNM KM 177 rfl)⟩) _).trans ?_
  rfl
theorem q_lw19_3 {h : zH} {a0 : Nat} {a3 : Nat} {a4 : Nat} {i : Int} {x6 : Int} {x7 : BitVec 64} {y : Int} (ta0 : hT h a0 = 22) (KC : KC h) (KM : KM h) (ta3 : hT h a3 = 23) (na3 : a3 < hN h) (ta4 : hT h a4 = 24) (na4 : a4 < hN h) : zBack zY 392 1182 1185 [some (zR (some a0)), some (zR (some 0)), some (zR (some 177)), some (zR (some a3)), some (zR (some a4)), some (zI i), some (zI x6), some (zJ x7), none, none] [] (some (.inl (some (zI y)), h)) =
    if y = x6 then
      if x6 = 0 then
        gd ((0 : Int) ≤ 0 ∧ 0 < (hL h a3 : Int)) (
        if (hJ h a3 0) = x7 then
          zY 392 2378 [some (zR (some a0)), some (zR (some 0)), some (zR (some 177)), some (zR (some a3)), some (zR (some a4)), some (zI i), some (zI x6), some (zJ x7), none, none] [] h
        else
          some (.inl (some (zI 0)), h))
      else
        zY 392 2378 [some (zR (some a0)), some (zR (some 0)), some (zR (some 177)), some (zR (some a3)), some (zR (some a4)), some (zI i), some (zI x6), some (zJ x7), none, none] [] h
    else
      some (.inl (some (zI 0)), h) := by
  refine (show zBack zY 392 1182 1185 [some (zR (some a0)), some (zR (some 0)), some (zR (some 177)), some (zR (some a3)), some (zR (some a4)), some (zI i), some (zI x6), some (zJ x7), none, none] [] (some (.inl (some (zI y)), h)) = if y = x6 then zY 392 1192 [some (zR (some a0)), some (zR (some 0)), some (zR (some 177)), some (zR (some a3)), some (zR (some a4)), some (zI i), some (zI x6), some (zJ x7), none, none] [] h else zY 392 1190 [some (zR (some a0)), some (zR (some 0)), some (zR (some 177)), some (zR (some a3)), some (zR (some a4)), some (zI i), some (zI x6), some (zJ x7), none, none] [] h from zGo 2 392 1185 _ _ _).trans ?_
  refine iteC (fun c0 => ?_) (fun c0 => ?_)
  · skip
    refine (show zY 392 1192 [some (zR (some a0)), some (zR (some 0)), some (zR (some 177)), some (zR (some a3)), some (zR (some a4)), some (zI i), some (zI x6), some (zJ x7), none, none] [] h = if x6 = 0 then zY 392 1197 [some (zR (some a0)), some (zR (some 0)), some (zR (some 177)), some (zR (some a3)), some (zR (some a4)), some (zI i), some (zI x6), some (zJ x7), none, none] [] h else zY 392 1208 [some (zR (some a0)), some (zR (some 0)), some (zR (some 177)), some (zR (some a3)), some (zR (some a4)), some (zI i), some (zI x6), some (zJ x7), none, none] [] h from zGo 2 392 1192 _ _ _).trans ?_
    refine iteC (fun c1 => ?_) (fun c1 => ?_)
    · skip
      refine (show zY 392 1197 [some (zR (some a0)), some (zR (some 0)), some (zR (some 177)), some (zR (some a3)), some (zR (some a4)), some (zI i), some (zI x6), some (zJ x7), none, none] [] h = gd (inR (0)) (gd (zok h (some a3) 23 0) (if (zlcmp (hJ h a3 0) x7) = 0 then zY 392 1208 [some (zR (some a0)), some (zR (some 0)), some (zR (some 177)), some (zR (some a3)), some (zR (some a4)), some (zI i), some (zI x6), some (zJ x7), none, none] [] h else zY 392 1206 [some (zR (some a0)), some (zR (some 0)), some (zR (some 177)), some (zR (some a3)), some (zR (some a4)), some (zI i), some (zI x6), some (zJ x7), none, none] [] h)) from zGo 6 392 1197 _ _ _).trans ?_
      refine (gd_t (by decide) _).trans ?_
      refine gd_c (ci ta3 rfl) (fun c2 => ?_)
      refine iteL (fun c3 => ?_) (fun c3 => ?_)
      · skip
        refine (show zY 392 1208 [some (zR (some a0)), some (zR (some 0)), some (zR (some 177)), some (zR (some a3)), some (zR (some a4)), some (zI i), some (zI x6), some (zJ x7), none, none] [] h = zY 392 2378 [some (zR (some a0)), some (zR (some 0)), some (zR (some 177)), some (zR (some a3)), some (zR (some a4)), some (zI i), some (zI x6), some (zJ x7), none, none] [] h from zGo 1 392 1208 _ _ _).trans ?_
        rfl
      · skip
        refine (show zY 392 1206 [some (zR (some a0)), some (zR (some 0)), some (zR (some 177)), some (zR (some a3)), some (zR (some a4)), some (zI i), some (zI x6), some (zJ x7), none, none] [] h = gd (inR (0)) (gd (([] : List zV).isEmpty = true ∧ (zrk 392 = 1 ∨ zrk 392 = 6 ∧ ((0 : Int) = 0 ∨ (0 : Int) = 1))) (some (.inl (some (zI 0)), h))) from zGo 2 392 1206 _ _ _).trans ?_
        refine (gd_t (by decide) _).trans ?_
        refine (gd_t (⟨rfl, Or.inr ⟨rfl, by decide⟩⟩) _).trans ?_
        rfl
    · skip
      refine (show zY 392 1208 [some (zR (some a0)), some (zR (some 0)), some (zR (some 177)), some (zR (some a3)), some (zR (some a4)), some (zI i), some (zI x6), some (zJ x7), none, none] [] h = zY 392 2378 [some (zR (some a0)), some (zR (some 0)), some (zR (some 177)), some (zR (some a3)), some (zR (some a4)), some (zI i), some (zI x6), some (zJ x7), none, none] [] h from zGo 1 392 1208 _ _ _).trans ?_
      rfl
  · skip
    refine (show zY 392 1190 [some (zR (some a0)), some (zR (some 0)), some (zR (some 177)), some (zR (some a3)), some (zR (some a4)), some (zI i), some (zI x6), some (zJ x7), none, none] [] h = gd (inR (0)) (gd (([] : List zV).isEmpty = true ∧ (zrk 392 = 1 ∨ zrk 392 = 6 ∧ ((0 : Int) = 0 ∨ (0 : Int) = 1))) (some (.inl (some (zI 0)), h))) from zGo 2 392 1190 _ _ _).trans ?_
    refine (gd_t (by decide) _).trans ?_
    refine (gd_t (⟨rfl, Or.inr ⟨rfl, by decide⟩⟩) _).trans ?_
    rfl
theorem q_lw20_0 {h : zH} {a0 : Nat} {a3 : Nat} {a4 : Nat} {i : Int} (ta0 : hT h a0 = 22) (KC : KC h) (KM : KM h) (ta3 : hT h a3 = 23) (na3 : a3 < hN h) (ta4 : hT h a4 = 24) (na4 : a4 < hN h) : zY 392 1211 [some (zR (some a0)), some (zR (some 0)), some (zR (some 177)), some (zR (some a3)), some (zR (some a4)), some (zI i), none, none, none, none] [] h =
    gd (-2147483648 ≤ i + 1 ∧ i + 1 < 2147483648) (
    gd (0 ≤ (i + 1) ∧ (i + 1) < (hL h a0 : Int)) (
    zBack zY 392 1219 1222 [some (zR (some a0)), some (zR (some 0)), some (zR (some 177)), some (zR (some a3)), some (zR (some a4)), some (zI i), none, none, none, none] [] (zC 364 [zR (some 0), zI (hI h a0 (i + 1).toNat), zR (some a3)] h))) := by
  refine (show zY 392 1211 [some (zR (some a0)), some (zR (some 0)), some (zR (some 177)), some (zR (some a3)), some (zR (some a4)), some (zI i), none, none, none, none] [] h = gd (inR (1)) (gd (inR (i + 1)) (gd (zok h (some a0) 22 (i + 1)) (gd (false = zctor 364 ∧ zcs [] ≤ 8 ∧ zrm 392 (zrf 364 + 1) (8 + (zmaxl 364 + 11) + zrl 364) = true ∧ zcs [zR (some 0), zI (hI h a0 (i + 1).toNat), zR (some a3)] ≤ zmaxl 364) (zBack zY 392 1219 1222 [some (zR (some a0)), some (zR (some 0)), some (zR (some 177)), some (zR (some a3)), some (zR (some a4)), some (zI i), none, none, none, none] [] (zC 364 [zR (some 0), zI (hI h a0 (i + 1).toNat), zR (some a3)] h))))) from zGo 8 392 1211 _ _ _).trans ?_
  refine (gd_t (by decide) _).trans ?_
  refine gd_c Iff.rfl (fun c0 => ?_)
  refine gd_c (ci ta0 rfl) (fun c1 => ?_)
  refine (gd_t (⟨rfl, Nat.le_of_ble_eq_true rfl, rfl, Nat.le_of_ble_eq_true rfl⟩) _).trans ?_
  rfl
theorem q_lw20_1 {h : zH} {a0 : Nat} {a3 : Nat} {a4 : Nat} {i : Int} {y : Int} (ta0 : hT h a0 = 22) (KC : KC h) (KM : KM h) (ta3 : hT h a3 = 23) (na3 : a3 < hN h) (ta4 : hT h a4 = 24) (na4 : a4 < hN h) : zBack zY 392 1219 1222 [some (zR (some a0)), some (zR (some 0)), some (zR (some 177)), some (zR (some a3)), some (zR (some a4)), some (zI i), none, none, none, none] [] (some (.inl (some (zI y)), h)) =
    gd (-2147483648 ≤ i + 1 ∧ i + 1 < 2147483648) (
    gd (0 ≤ (i + 1) ∧ (i + 1) < (hL h a0 : Int)) (
    zBack zY 392 1231 1234 [some (zR (some a0)), some (zR (some 0)), some (zR (some 177)), some (zR (some a3)), some (zR (some a4)), some (zI i), some (zI y), none, none, none] [] (zC 303 [zR (some 177), zI (hI h a0 (i + 1).toNat)] h))) := by
  refine (show zBack zY 392 1219 1222 [some (zR (some a0)), some (zR (some 0)), some (zR (some 177)), some (zR (some a3)), some (zR (some a4)), some (zI i), none, none, none, none] [] (some (.inl (some (zI y)), h)) = gd (inR (1)) (gd (inR (i + 1)) (gd (zok h (some a0) 22 (i + 1)) (gd (false = zctor 303 ∧ zcs [] ≤ 8 ∧ zrm 392 (zrf 303 + 1) (8 + (zmaxl 303 + 11) + zrl 303) = true ∧ zcs [zR (some 177), zI (hI h a0 (i + 1).toNat)] ≤ zmaxl 303) (gd (zob h (some 177) 12) (zBack zY 392 1231 1234 [some (zR (some a0)), some (zR (some 0)), some (zR (some 177)), some (zR (some a3)), some (zR (some a4)), some (zI i), some (zI y), none, none, none] [] (zC 303 [zR (some 177), zI (hI h a0 (i + 1).toNat)] h)))))) from zGo 8 392 1222 _ _ _).trans ?_
  refine (gd_t (by decide) _).trans ?_
  refine gd_c Iff.rfl (fun c0 => ?_)
  refine gd_c (ci ta0 rfl) (fun c1 => ?_)
  refine (gd_t (⟨rfl, Nat.le_of_ble_eq_true rfl, rfl, Nat.le_of_ble_eq_true rfl⟩) _).trans ?_
  refine (gd_t (⟨rfl, (PTM KM 177 _ rfl rfl), (PNM KM 177 rfl)⟩) _).trans ?_
  rfl
theorem q_lw20_2 {h : zH} {a0 : Nat} {a3 : Nat} {a4 : Nat} {i : Int} {x6 : Int} {y : Int} (ta0 : hT h a0 = 22) (KC : KC h) (KM : KM h) (ta3 : hT h a3 = 23) (na3 : a3 < hN h) (ta4 : hT h a4 = 24) (na4 : a4 < hN h) : zBack zY 392 1231 1234 [some (zR (some a0)), some (zR (some 0)), some (zR (some 177)), some (zR (some a3)), some (zR (some a4)), some (zI i), some (zI x6), none, none, none] [] (some (.inl (some (zI y)), h)) =
    zBack zY 392 1237 1240 [some (zR (some a0)), some (zR (some 0)), some (zR (some 177)), some (zR (some a3)), some (zR (some a4)), some (zI i), some (zI x6), some (zI y), none, none] [] (zC 208 [zR (some 177)] h) := by
  refine (show zBack zY 392 1231 1234 [some (zR (some a0)), some (zR (some 0)), some (zR (some 177)), some (zR (some a3)), some (zR (some a4)), some (zI i), some (zI x6), none, none, none] [] (some (.inl (some (zI y)), h)) = gd (false = zctor 208 ∧ zcs [] ≤ 8 ∧ zrm 392 (zrf 208 + 1) (8 + (zmaxl 208 + 11) + zrl 208) = true ∧ zcs [zR (some 177)] ≤ zmaxl 208) (gd (zob h (some 177) 12) (zBack zY 392 1237 1240 [some (zR (some a0)), some (zR (some 0)), some (zR (some 177)), some (zR (some a3)), some (zR (some a4)), some (zI i), some (zI x6), some (zI y), none, none] [] (zC 208 [zR (some 177)] h))) from zGo 3 392 1234 _ _ _).trans ?_
  refine (gd_t (⟨rfl, Nat.le_of_ble_eq_true rfl, rfl, Nat.le_of_ble_eq_true rfl⟩) _).trans ?_
  refine (gd_t (⟨rfl, (PTM KM 177 _ rfl rfl), (PNM KM 177 rfl)⟩) _).trans ?_
  rfl
theorem q_lw20_3 {h : zH} {a0 : Nat} {a3 : Nat} {a4 : Nat} {i : Int} {x6 : Int} {x7 : Int} {y : Int} (ta0 : hT h a0 = 22) (KC : KC h) (KM : KM h) (ta3 : hT h a3 = 23) (na3 : a3 < hN h) (ta4 : hT h a4 = 24) (na4 : a4 < hN h) : zBack zY 392 1237 1240 [some (zR (some a0)), some (zR (some 0)), some (zR (some 177)), some (zR (some a3)), some (zR (some a4)), some (zI i), some (zI x6), some (zI x7), none, none] [] (some (.inl (some (zI y)), h)) =
    if y = x6 then
      if x6 = 0 then
        gd ((0 : Int) ≤ 0 ∧ 0 < (hL h a3 : Int)) (
        if (hJ h a3 0) = (zi2l x7) then
          zY 392 2378 [some (zR (some a0)), some (zR (some 0)), some (zR (some 177)), some (zR (some a3)), some (zR (some a4)), some (zI i), some (zI x6), some (zI x7), none, none] [] h
        else
          some (.inl (some (zI 0)), h))
      else
        zY 392 2378 [some (zR (some a0)), some (zR (some 0)), some (zR (some 177)), some (zR (some a3)), some (zR (some a4)), some (zI i), some (zI x6), some (zI x7), none, none] [] h
    else
      some (.inl (some (zI 0)), h) := by
  refine (show zBack zY 392 1237 1240 [some (zR (some a0)), some (zR (some 0)), some (zR (some 177)), some (zR (some a3)), some (zR (some a4)), some (zI i), some (zI x6), some (zI x7), none, none] [] (some (.inl (some (zI y)), h)) = if y = x6 then zY 392 1247 [some (zR (some a0)), some (zR (some 0)), some (zR (some 177)), some (zR (some a3)), some (zR (some a4)), some (zI i), some (zI x6), some (zI x7), none, none] [] h else zY 392 1245 [some (zR (some a0)), some (zR (some 0)), some (zR (some 177)), some (zR (some a3)), some (zR (some a4)), some (zI i), some (zI x6), some (zI x7), none, none] [] h from zGo 2 392 1240 _ _ _).trans ?_
  refine iteC (fun c0 => ?_) (fun c0 => ?_)
  · skip
    refine (show zY 392 1247 [some (zR (some a0)), some (zR (some 0)), some (zR (some 177)), some (zR (some a3)), some (zR (some a4)), some (zI i), some (zI x6), some (zI x7), none, none] [] h = if x6 = 0 then zY 392 1252 [some (zR (some a0)), some (zR (some 0)), some (zR (some 177)), some (zR (some a3)), some (zR (some a4)), some (zI i), some (zI x6), some (zI x7), none, none] [] h else zY 392 1264 [some (zR (some a0)), some (zR (some 0)), some (zR (some 177)), some (zR (some a3)), some (zR (some a4)), some (zI i), some (zI x6), some (zI x7), none, none] [] h from zGo 2 392 1247 _ _ _).trans ?_
    refine iteC (fun c1 => ?_) (fun c1 => ?_)
    · skip
      refine (show zY 392 1252 [some (zR (some a0)), some (zR (some 0)), some (zR (some 177)), some (zR (some a3)), some (zR (some a4)), some (zI i), some (zI x6), some (zI x7), none, none] [] h = gd (inR (0)) (gd (zok h (some a3) 23 0) (if (zlcmp (hJ h a3 0) (zi2l x7)) = 0 then zY 392 1264 [some (zR (some a0)), some (zR (some 0)), some (zR (some 177)), some (zR (some a3)), some (zR (some a4)), some (zI i), some (zI x6), some (zI x7), none, none] [] h else zY 392 1262 [some (zR (some a0)), some (zR (some 0)), some (zR (some 177)), some (zR (some a3)), some (zR (some a4)), some (zI i), some (zI x6), some (zI x7), none, none] [] h)) from zGo 7 392 1252 _ _ _).trans ?_
      refine (gd_t (by decide) _).trans ?_
      refine gd_c (ci ta3 rfl) (fun c2 => ?_)
      refine iteL (fun c3 => ?_) (fun c3 => ?_)
      · skip
        refine (show zY 392 1264 [some (zR (some a0)), some (zR (some 0)), some (zR (some 177)), some (zR (some a3)), some (zR (some a4)), some (zI i), some (zI x6), some (zI x7), none, none] [] h = zY 392 2378 [some (zR (some a0)), some (zR (some 0)), some (zR (some 177)), some (zR (some a3)), some (zR (some a4)), some (zI i), some (zI x6), some (zI x7), none, none] [] h from zGo 1 392 1264 _ _ _).trans ?_
        rfl
      · skip
        refine (show zY 392 1262 [some (zR (some a0)), some (zR (some 0)), some (zR (some 177)), some (zR (some a3)), some (zR (some a4)), some (zI i), some (zI x6), some (zI x7), none, none] [] h = gd (inR (0)) (gd (([] : List zV).isEmpty = true ∧ (zrk 392 = 1 ∨ zrk 392 = 6 ∧ ((0 : Int) = 0 ∨ (0 : Int) = 1))) (some (.inl (some (zI 0)), h))) from zGo 2 392 1262 _ _ _).trans ?_
        refine (gd_t (by decide) _).trans ?_
        refine (gd_t (⟨rfl, Or.inr ⟨rfl, by decide⟩⟩) _).trans ?_
        rfl
    · skip
      refine (show zY 392 1264 [some (zR (some a0)), some (zR (some 0)), some (zR (some 177)), some (zR (some a3)), some (zR (some a4)), some (zI i), some (zI x6), some (zI x7), none, none] [] h = zY 392 2378 [some (zR (some a0)), some (zR (some 0)), some (zR (some 177)), some (zR (some a3)), some (zR (some a4)), some (zI i), some (zI x6), some (zI x7), none, none] [] h from zGo 1 392 1264 _ _ _).trans ?_
      rfl
  · skip
    refine (show zY 392 1245 [some (zR (some a0)), some (zR (some 0)), some (zR (some 177)), some (zR (some a3)), some (zR (some a4)), some (zI i), some (zI x6), some (zI x7), none, none] [] h = gd (inR (0)) (gd (([] : List zV).isEmpty = true ∧ (zrk 392 = 1 ∨ zrk 392 = 6 ∧ ((0 : Int) = 0 ∨ (0 : Int) = 1))) (some (.inl (some (zI 0)), h))) from zGo 2 392 1245 _ _ _).trans ?_
    refine (gd_t (by decide) _).trans ?_
    refine (gd_t (⟨rfl, Or.inr ⟨rfl, by decide⟩⟩) _).trans ?_
    rfl
theorem q_lw21_0 {h : zH} {a0 : Nat} {a3 : Nat} {a4 : Nat} {i : Int} (ta0 : hT h a0 = 22) (KC : KC h) (KM : KM h) (ta3 : hT h a3 = 23) (na3 : a3 < hN h) (ta4 : hT h a4 = 24) (na4 : a4 < hN h) : zY 392 1267 [some (zR (some a0)), some (zR (some 0)), some (zR (some 177)), some (zR (some a3)), some (zR (some a4)), some (zI i), none, none, none, none] [] h =
    zBack zY 392 1268 1271 [some (zR (some a0)), some (zR (some 0)), some (zR (some 177)), some (zR (some a3)), some (zR (some a4)), some (zI i), none, none, none, none] [] (zC 153 [zR (some 0)] h) := by
  refine (show zY 392 1267 [some (zR (some a0)), some (zR (some 0)), some (zR (some 177)), some (zR (some a3)), some (zR (some a4)), some (zI i), none, none, none, none] [] h = gd (false = zctor 153 ∧ zcs [] ≤ 8 ∧ zrm 392 (zrf 153 + 1) (8 + (zmaxl 153 + 11) + zrl 153) = true ∧ zcs [zR (some 0)] ≤ zmaxl 153) (gd (zob h (some 0) 11) (zBack zY 392 1268 1271 [some (zR (some a0)), some (zR (some 0)), some (zR (some 177)), some (zR (some a3)), some (zR (some a4)), some (zI i), none, none, none, none] [] (zC 153 [zR (some 0)] h))) from zGo 2 392 1267 _ _ _).trans ?_
  refine (gd_t (⟨rfl, Nat.le_of_ble_eq_true rfl, rfl, Nat.le_of_ble_eq_true rfl⟩) _).trans ?_
  refine (gd_t (⟨rfl, (PTC KC 0 _ rfl rfl), (PNC KC 0 rfl)⟩) _).trans ?_
  rfl
theorem q_lw21_1 {h : zH} {a0 : Nat} {a3 : Nat} {a4 : Nat} {i : Int} {y : BitVec 64} (ta0 : hT h a0 = 22) (KC : KC h) (KM : KM h) (ta3 : hT h a3 = 23) (na3 : a3 < hN h) (ta4 : hT h a4 = 24) (na4 : a4 < hN h) : zBack zY 392 1268 1271 [some (zR (some a0)), some (zR (some 0)), some (zR (some 177)), some (zR (some a3)), some (zR (some a4)), some (zI i), none, none, none, none] [] (some (.inl (some (zJ y)), h)) =
    zBack zY 392 1272 1275 [some (zR (some a0)), some (zR (some 0)), some (zR (some 177)), some (zR (some a3)), some (zR (some a4)), some (zI i), none, none, none, none] [zJ y] (zC 304 [zR (some 177)] h) := by
  refine (show zBack zY 392 1268 1271 [some (zR (some a0)), some (zR (some 0)), some (zR (some 177)), some (zR (some a3)), some (zR (some a4)), some (zI i), none, none, none, none] [] (some (.inl (some (zJ y)), h)) = gd (false = zctor 304 ∧ zcs [zJ y] ≤ 8 ∧ zrm 392 (zrf 304 + 1) (8 + (zmaxl 304 + 11) + zrl 304) = true ∧ zcs [zR (some 177)] ≤ zmaxl 304) (gd (zob h (some 177) 12) (zBack zY 392 1272 1275 [some (zR (some a0)), some (zR (some 0)), some (zR (some 177)), some (zR (some a3)), some (zR (some a4)), some (zI i), none, none, none, none] [zJ y] (zC 304 [zR (some 177)] h))) from zGo 2 392 1271 _ _ _).trans ?_
  refine (gd_t (⟨rfl, Nat.le_of_ble_eq_true rfl, rfl, Nat.le_of_ble_eq_true rfl⟩) _).trans ?_
  refine (gd_t (⟨rfl, (PTM KM 177 _ rfl rfl), (PNM KM 177 rfl)⟩) _).trans ?_
  rfl
theorem q_lw21_2 {h : zH} {a0 : Nat} {a3 : Nat} {a4 : Nat} {i : Int} {y0 : BitVec 64} {y : BitVec 64} (ta0 : hT h a0 = 22) (KC : KC h) (KM : KM h) (ta3 : hT h a3 = 23) (na3 : a3 < hN h) (ta4 : hT h a4 = 24) (na4 : a4 < hN h) : zBack zY 392 1272 1275 [some (zR (some a0)), some (zR (some 0)), some (zR (some 177)), some (zR (some a3)), some (zR (some a4)), some (zI i), none, none, none, none] [zJ y0] (some (.inl (some (zJ y)), h)) =
    if y0 = y then
      zY 392 2378 [some (zR (some a0)), some (zR (some 0)), some (zR (some 177)), some (zR (some a3)), some (zR (some a4)), some (zI i), none, none, none, none] [] h
    else
      some (.inl (some (zI 0)), h) := by
  refine (show zBack zY 392 1272 1275 [some (zR (some a0)), some (zR (some 0)), some (zR (some 177)), some (zR (some a3)), some (zR (some a4)), some (zI i), none, none, none, none] [zJ y0] (some (.inl (some (zJ y)), h)) = if (zlcmp y0 y) = 0 then zY 392 2378 [some (zR (some a0)), some (zR (some 0)), some (zR (some 177)), some (zR (some a3)), some (zR (some a4)), some (zI i), none, none, none, none] [] h else zY 392 1279 [some (zR (some a0)), some (zR (some 0)), some (zR (some 177)), some (zR (some a3)), some (zR (some a4)), some (zI i), none, none, none, none] [] h from zGo 2 392 1275 _ _ _).trans ?_
  refine iteL (fun c0 => ?_) (fun c0 => ?_)
  · skip
    rfl
  · skip
    refine (show zY 392 1279 [some (zR (some a0)), some (zR (some 0)), some (zR (some 177)), some (zR (some a3)), some (zR (some a4)), some (zI i), none, none, none, none] [] h = gd (inR (0)) (gd (([] : List zV).isEmpty = true ∧ (zrk 392 = 1 ∨ zrk 392 = 6 ∧ ((0 : Int) = 0 ∨ (0 : Int) = 1))) (some (.inl (some (zI 0)), h))) from zGo 2 392 1279 _ _ _).trans ?_
    refine (gd_t (by decide) _).trans ?_
    refine (gd_t (⟨rfl, Or.inr ⟨rfl, by decide⟩⟩) _).trans ?_
    rfl
theorem q_lw22_0 {h : zH} {a0 : Nat} {a3 : Nat} {a4 : Nat} {i : Int} (ta0 : hT h a0 = 22) (KC : KC h) (KM : KM h) (ta3 : hT h a3 = 23) (na3 : a3 < hN h) (ta4 : hT h a4 = 24) (na4 : a4 < hN h) : zY 392 1281 [some (zR (some a0)), some (zR (some 0)), some (zR (some 177)), some (zR (some a3)), some (zR (some a4)), some (zI i), none, none, none, none] [] h =
    zBack zY 392 1282 1285 [some (zR (some a0)), some (zR (some 0)), some (zR (some 177)), some (zR (some a3)), some (zR (some a4)), some (zI i), none, none, none, none] [] (zC 154 [zR (some 0)] h) := by
  refine (show zY 392 1281 [some (zR (some a0)), some (zR (some 0)), some (zR (some 177)), some (zR (some a3)), some (zR (some a4)), some (zI i), none, none, none, none] [] h = gd (false = zctor 154 ∧ zcs [] ≤ 8 ∧ zrm 392 (zrf 154 + 1) (8 + (zmaxl 154 + 11) + zrl 154) = true ∧ zcs [zR (some 0)] ≤ zmaxl 154) (gd (zob h (some 0) 11) (zBack zY 392 1282 1285 [some (zR (some a0)), some (zR (some 0)), some (zR (some 177)), some (zR (some a3)), some (zR (some a4)), some (zI i), none, none, none, none] [] (zC 154 [zR (some 0)] h))) from zGo 2 392 1281 _ _ _).trans ?_
  refine (gd_t (⟨rfl, Nat.le_of_ble_eq_true rfl, rfl, Nat.le_of_ble_eq_true rfl⟩) _).trans ?_
  refine (gd_t (⟨rfl, (PTC KC 0 _ rfl rfl), (PNC KC 0 rfl)⟩) _).trans ?_
  rfl
theorem q_lw22_1 {h : zH} {a0 : Nat} {a3 : Nat} {a4 : Nat} {i : Int} {y : Int} (ta0 : hT h a0 = 22) (KC : KC h) (KM : KM h) (ta3 : hT h a3 = 23) (na3 : a3 < hN h) (ta4 : hT h a4 = 24) (na4 : a4 < hN h) : zBack zY 392 1282 1285 [some (zR (some a0)), some (zR (some 0)), some (zR (some 177)), some (zR (some a3)), some (zR (some a4)), some (zI i), none, none, none, none] [] (some (.inl (some (zI y)), h)) =
    zBack zY 392 1286 1289 [some (zR (some a0)), some (zR (some 0)), some (zR (some 177)), some (zR (some a3)), some (zR (some a4)), some (zI i), none, none, none, none] [zI y] (zC 307 [zR (some 177)] h) := by
  refine (show zBack zY 392 1282 1285 [some (zR (some a0)), some (zR (some 0)), some (zR (some 177)), some (zR (some a3)), some (zR (some a4)), some (zI i), none, none, none, none] [] (some (.inl (some (zI y)), h)) = gd (false = zctor 307 ∧ zcs [zI y] ≤ 8 ∧ zrm 392 (zrf 307 + 1) (8 + (zmaxl 307 + 11) + zrl 307) = true ∧ zcs [zR (some 177)] ≤ zmaxl 307) (gd (zob h (some 177) 12) (zBack zY 392 1286 1289 [some (zR (some a0)), some (zR (some 0)), some (zR (some 177)), some (zR (some a3)), some (zR (some a4)), some (zI i), none, none, none, none] [zI y] (zC 307 [zR (some 177)] h))) from zGo 2 392 1285 _ _ _).trans ?_
  refine (gd_t (⟨rfl, Nat.le_of_ble_eq_true rfl, rfl, Nat.le_of_ble_eq_true rfl⟩) _).trans ?_
  refine (gd_t (⟨rfl, (PTM KM 177 _ rfl rfl), (PNM KM 177 rfl)⟩) _).trans ?_
  rfl
theorem q_lw22_2 {h : zH} {a0 : Nat} {a3 : Nat} {a4 : Nat} {i : Int} {y0 : Int} {y : Int} (ta0 : hT h a0 = 22) (KC : KC h) (KM : KM h) (ta3 : hT h a3 = 23) (na3 : a3 < hN h) (ta4 : hT h a4 = 24) (na4 : a4 < hN h) : zBack zY 392 1286 1289 [some (zR (some a0)), some (zR (some 0)), some (zR (some 177)), some (zR (some a3)), some (zR (some a4)), some (zI i), none, none, none, none] [zI y0] (some (.inl (some (zI y)), h)) =
    if y0 = y then
      zY 392 2378 [some (zR (some a0)), some (zR (some 0)), some (zR (some 177)), some (zR (some a3)), some (zR (some a4)), some (zI i), none, none, none, none] [] h
    else
      some (.inl (some (zI 0)), h) := by
  refine (show zBack zY 392 1286 1289 [some (zR (some a0)), some (zR (some 0)), some (zR (some 177)), some (zR (some a3)), some (zR (some a4)), some (zI i), none, none, none, none] [zI y0] (some (.inl (some (zI y)), h)) = if y0 = y then zY 392 2378 [some (zR (some a0)), some (zR (some 0)), some (zR (some 177)), some (zR (some a3)), some (zR (some a4)), some (zI i), none, none, none, none] [] h else zY 392 1292 [some (zR (some a0)), some (zR (some 0)), some (zR (some 177)), some (zR (some a3)), some (zR (some a4)), some (zI i), none, none, none, none] [] h from zGo 1 392 1289 _ _ _).trans ?_
  refine iteC (fun c0 => ?_) (fun c0 => ?_)
  · skip
    rfl
  · skip
    refine (show zY 392 1292 [some (zR (some a0)), some (zR (some 0)), some (zR (some 177)), some (zR (some a3)), some (zR (some a4)), some (zI i), none, none, none, none] [] h = gd (inR (0)) (gd (([] : List zV).isEmpty = true ∧ (zrk 392 = 1 ∨ zrk 392 = 6 ∧ ((0 : Int) = 0 ∨ (0 : Int) = 1))) (some (.inl (some (zI 0)), h))) from zGo 2 392 1292 _ _ _).trans ?_
    refine (gd_t (by decide) _).trans ?_
    refine (gd_t (⟨rfl, Or.inr ⟨rfl, by decide⟩⟩) _).trans ?_
    rfl
theorem q_lw23_0 {h : zH} {a0 : Nat} {a3 : Nat} {a4 : Nat} {i : Int} (ta0 : hT h a0 = 22) (KC : KC h) (KM : KM h) (ta3 : hT h a3 = 23) (na3 : a3 < hN h) (ta4 : hT h a4 = 24) (na4 : a4 < hN h) : zY 392 1294 [some (zR (some a0)), some (zR (some 0)), some (zR (some 177)), some (zR (some a3)), some (zR (some a4)), some (zI i), none, none, none, none] [] h =
    zBack zY 392 1295 1298 [some (zR (some a0)), some (zR (some 0)), some (zR (some 177)), some (zR (some a3)), some (zR (some a4)), some (zI i), none, none, none, none] [] (zC 155 [zR (some 0)] h) := by
  refine (show zY 392 1294 [some (zR (some a0)), some (zR (some 0)), some (zR (some 177)), some (zR (some a3)), some (zR (some a4)), some (zI i), none, none, none, none] [] h = gd (false = zctor 155 ∧ zcs [] ≤ 8 ∧ zrm 392 (zrf 155 + 1) (8 + (zmaxl 155 + 11) + zrl 155) = true ∧ zcs [zR (some 0)] ≤ zmaxl 155) (gd (zob h (some 0) 11) (zBack zY 392 1295 1298 [some (zR (some a0)), some (zR (some 0)), some (zR (some 177)), some (zR (some a3)), some (zR (some a4)), some (zI i), none, none, none, none] [] (zC 155 [zR (some 0)] h))) from zGo 2 392 1294 _ _ _).trans ?_
  refine (gd_t (⟨rfl, Nat.le_of_ble_eq_true rfl, rfl, Nat.le_of_ble_eq_true rfl⟩) _).trans ?_
  refine (gd_t (⟨rfl, (PTC KC 0 _ rfl rfl), (PNC KC 0 rfl)⟩) _).trans ?_
  rfl
theorem q_lw23_1 {h : zH} {a0 : Nat} {a3 : Nat} {a4 : Nat} {i : Int} {y : UInt64} (ta0 : hT h a0 = 22) (KC : KC h) (KM : KM h) (ta3 : hT h a3 = 23) (na3 : a3 < hN h) (ta4 : hT h a4 = 24) (na4 : a4 < hN h) : zBack zY 392 1295 1298 [some (zR (some a0)), some (zR (some 0)), some (zR (some 177)), some (zR (some a3)), some (zR (some a4)), some (zI i), none, none, none, none] [] (some (.inl (some (zD y)), h)) =
    zBack zY 392 1301 1304 [some (zR (some a0)), some (zR (some 0)), some (zR (some 177)), some (zR (some a3)), some (zR (some a4)), some (zI i), some (zD y), none, none, none] [] (zC 308 [zR (some 177)] h) := by
  refine (show zBack zY 392 1295 1298 [some (zR (some a0)), some (zR (some 0)), some (zR (some 177)), some (zR (some a3)), some (zR (some a4)), some (zI i), none, none, none, none] [] (some (.inl (some (zD y)), h)) = gd (false = zctor 308 ∧ zcs [] ≤ 8 ∧ zrm 392 (zrf 308 + 1) (8 + (zmaxl 308 + 11) + zrl 308) = true ∧ zcs [zR (some 177)] ≤ zmaxl 308) (gd (zob h (some 177) 12) (zBack zY 392 1301 1304 [some (zR (some a0)), some (zR (some 0)), some (zR (some 177)), some (zR (some a3)), some (zR (some a4)), some (zI i), some (zD y), none, none, none] [] (zC 308 [zR (some 177)] h))) from zGo 3 392 1298 _ _ _).trans ?_
  refine (gd_t (⟨rfl, Nat.le_of_ble_eq_true rfl, rfl, Nat.le_of_ble_eq_true rfl⟩) _).trans ?_
  refine (gd_t (⟨rfl, (PTM KM 177 _ rfl rfl), (PNM KM 177 rfl)⟩) _).trans ?_
  rfl
theorem q_lw23_2 {h : zH} {a0 : Nat} {a3 : Nat} {a4 : Nat} {i : Int} {x6 : UInt64} {y : UInt64} (ta0 : hT h a0 = 22) (KC : KC h) (KM : KM h) (ta3 : hT h a3 = 23) (na3 : a3 < hN h) (ta4 : hT h a4 = 24) (na4 : a4 < hN h) : zBack zY 392 1301 1304 [some (zR (some a0)), some (zR (some 0)), some (zR (some 177)), some (zR (some a3)), some (zR (some a4)), some (zI i), some (zD x6), none, none, none] [] (some (.inl (some (zD y)), h)) =
    if (Op.cmpValue (FP.dcmp x6 y) .l).toInt = 0 then
      zY 392 2378 [some (zR (some a0)), some (zR (some 0)), some (zR (some 177)), some (zR (some a3)), some (zR (some a4)), some (zI i), some (zD x6), none, some (zD y), none] [] h
    else
      if (Op.cmpValue (FP.dcmp x6 x6) .l).toInt = 0 then
        some (.inl (some (zI 0)), h)
      else
        if (Op.cmpValue (FP.dcmp y y) .l).toInt = 0 then
          some (.inl (some (zI 0)), h)
        else
          zY 392 2378 [some (zR (some a0)), some (zR (some 0)), some (zR (some 177)), some (zR (some a3)), some (zR (some a4)), some (zI i), some (zD x6), none, some (zD y), none] [] h := by
  refine (show zBack zY 392 1301 1304 [some (zR (some a0)), some (zR (some 0)), some (zR (some 177)), some (zR (some a3)), some (zR (some a4)), some (zI i), some (zD x6), none, none, none] [] (some (.inl (some (zD y)), h)) = if (Op.cmpValue (FP.dcmp x6 y) .l).toInt = 0 then zY 392 1332 [some (zR (some a0)), some (zR (some 0)), some (zR (some 177)), some (zR (some a3)), some (zR (some a4)), some (zI i), some (zD x6), none, some (zD y), none] [] h else zY 392 1314 [some (zR (some a0)), some (zR (some 0)), some (zR (some 177)), some (zR (some a3)), some (zR (some a4)), some (zI i), some (zD x6), none, some (zD y), none] [] h from zGo 5 392 1304 _ _ _).trans ?_
  refine iteC (fun c0 => ?_) (fun c0 => ?_)
  · skip
    refine (show zY 392 1332 [some (zR (some a0)), some (zR (some 0)), some (zR (some 177)), some (zR (some a3)), some (zR (some a4)), some (zI i), some (zD x6), none, some (zD y), none] [] h = zY 392 2378 [some (zR (some a0)), some (zR (some 0)), some (zR (some 177)), some (zR (some a3)), some (zR (some a4)), some (zI i), some (zD x6), none, some (zD y), none] [] h from zGo 1 392 1332 _ _ _).trans ?_
    rfl
  · skip
    refine (show zY 392 1314 [some (zR (some a0)), some (zR (some 0)), some (zR (some 177)), some (zR (some a3)), some (zR (some a4)), some (zI i), some (zD x6), none, some (zD y), none] [] h = if (Op.cmpValue (FP.dcmp x6 x6) .l).toInt = 0 then zY 392 1330 [some (zR (some a0)), some (zR (some 0)), some (zR (some 177)), some (zR (some a3)), some (zR (some a4)), some (zI i), some (zD x6), none, some (zD y), none] [] h else zY 392 1322 [some (zR (some a0)), some (zR (some 0)), some (zR (some 177)), some (zR (some a3)), some (zR (some a4)), some (zI i), some (zD x6), none, some (zD y), none] [] h from zGo 4 392 1314 _ _ _).trans ?_
    refine iteC (fun c1 => ?_) (fun c1 => ?_)
    · skip
      refine (show zY 392 1330 [some (zR (some a0)), some (zR (some 0)), some (zR (some 177)), some (zR (some a3)), some (zR (some a4)), some (zI i), some (zD x6), none, some (zD y), none] [] h = gd (inR (0)) (gd (([] : List zV).isEmpty = true ∧ (zrk 392 = 1 ∨ zrk 392 = 6 ∧ ((0 : Int) = 0 ∨ (0 : Int) = 1))) (some (.inl (some (zI 0)), h))) from zGo 2 392 1330 _ _ _).trans ?_
      refine (gd_t (by decide) _).trans ?_
      refine (gd_t (⟨rfl, Or.inr ⟨rfl, by decide⟩⟩) _).trans ?_
      rfl
    · skip
      refine (show zY 392 1322 [some (zR (some a0)), some (zR (some 0)), some (zR (some 177)), some (zR (some a3)), some (zR (some a4)), some (zI i), some (zD x6), none, some (zD y), none] [] h = if (Op.cmpValue (FP.dcmp y y) .l).toInt = 0 then zY 392 1330 [some (zR (some a0)), some (zR (some 0)), some (zR (some 177)), some (zR (some a3)), some (zR (some a4)), some (zI i), some (zD x6), none, some (zD y), none] [] h else zY 392 1332 [some (zR (some a0)), some (zR (some 0)), some (zR (some 177)), some (zR (some a3)), some (zR (some a4)), some (zI i), some (zD x6), none, some (zD y), none] [] h from zGo 4 392 1322 _ _ _).trans ?_
      refine iteC (fun c2 => ?_) (fun c2 => ?_)
      · skip
        refine (show zY 392 1330 [some (zR (some a0)), some (zR (some 0)), some (zR (some 177)), some (zR (some a3)), some (zR (some a4)), some (zI i), some (zD x6), none, some (zD y), none] [] h = gd (inR (0)) (gd (([] : List zV).isEmpty = true ∧ (zrk 392 = 1 ∨ zrk 392 = 6 ∧ ((0 : Int) = 0 ∨ (0 : Int) = 1))) (some (.inl (some (zI 0)), h))) from zGo 2 392 1330 _ _ _).trans ?_
        refine (gd_t (by decide) _).trans ?_
        refine (gd_t (⟨rfl, Or.inr ⟨rfl, by decide⟩⟩) _).trans ?_
        rfl
      · skip
        refine (show zY 392 1332 [some (zR (some a0)), some (zR (some 0)), some (zR (some 177)), some (zR (some a3)), some (zR (some a4)), some (zI i), some (zD x6), none, some (zD y), none] [] h = zY 392 2378 [some (zR (some a0)), some (zR (some 0)), some (zR (some 177)), some (zR (some a3)), some (zR (some a4)), some (zI i), some (zD x6), none, some (zD y), none] [] h from zGo 1 392 1332 _ _ _).trans ?_
        rfl
theorem q_lw24_0 {h : zH} {a0 : Nat} {a3 : Nat} {a4 : Nat} {i : Int} (ta0 : hT h a0 = 22) (KC : KC h) (KM : KM h) (ta3 : hT h a3 = 23) (na3 : a3 < hN h) (ta4 : hT h a4 = 24) (na4 : a4 < hN h) : zY 392 1335 [some (zR (some a0)), some (zR (some 0)), some (zR (some 177)), some (zR (some a3)), some (zR (some a4)), some (zI i), none, none, none, none] [] h =
    zBack zY 392 1336 1339 [some (zR (some a0)), some (zR (some 0)), some (zR (some 177)), some (zR (some a3)), some (zR (some a4)), some (zI i), none, none, none, none] [] (zC 156 [zR (some 0)] h) := by
  refine (show zY 392 1335 [some (zR (some a0)), some (zR (some 0)), some (zR (some 177)), some (zR (some a3)), some (zR (some a4)), some (zI i), none, none, none, none] [] h = gd (false = zctor 156 ∧ zcs [] ≤ 8 ∧ zrm 392 (zrf 156 + 1) (8 + (zmaxl 156 + 11) + zrl 156) = true ∧ zcs [zR (some 0)] ≤ zmaxl 156) (gd (zob h (some 0) 11) (zBack zY 392 1336 1339 [some (zR (some a0)), some (zR (some 0)), some (zR (some 177)), some (zR (some a3)), some (zR (some a4)), some (zI i), none, none, none, none] [] (zC 156 [zR (some 0)] h))) from zGo 2 392 1335 _ _ _).trans ?_
  refine (gd_t (⟨rfl, Nat.le_of_ble_eq_true rfl, rfl, Nat.le_of_ble_eq_true rfl⟩) _).trans ?_
  refine (gd_t (⟨rfl, (PTC KC 0 _ rfl rfl), (PNC KC 0 rfl)⟩) _).trans ?_
  rfl
theorem q_lw24_1 {h : zH} {a0 : Nat} {a3 : Nat} {a4 : Nat} {i : Int} {y : BitVec 64} (ta0 : hT h a0 = 22) (KC : KC h) (KM : KM h) (ta3 : hT h a3 = 23) (na3 : a3 < hN h) (ta4 : hT h a4 = 24) (na4 : a4 < hN h) : zBack zY 392 1336 1339 [some (zR (some a0)), some (zR (some 0)), some (zR (some 177)), some (zR (some a3)), some (zR (some a4)), some (zI i), none, none, none, none] [] (some (.inl (some (zJ y)), h)) =
    zBack zY 392 1340 1343 [some (zR (some a0)), some (zR (some 0)), some (zR (some 177)), some (zR (some a3)), some (zR (some a4)), some (zI i), none, none, none, none] [zJ y] (zC 310 [zR (some 177)] h) := by
  refine (show zBack zY 392 1336 1339 [some (zR (some a0)), some (zR (some 0)), some (zR (some 177)), some (zR (some a3)), some (zR (some a4)), some (zI i), none, none, none, none] [] (some (.inl (some (zJ y)), h)) = gd (false = zctor 310 ∧ zcs [zJ y] ≤ 8 ∧ zrm 392 (zrf 310 + 1) (8 + (zmaxl 310 + 11) + zrl 310) = true ∧ zcs [zR (some 177)] ≤ zmaxl 310) (gd (zob h (some 177) 12) (zBack zY 392 1340 1343 [some (zR (some a0)), some (zR (some 0)), some (zR (some 177)), some (zR (some a3)), some (zR (some a4)), some (zI i), none, none, none, none] [zJ y] (zC 310 [zR (some 177)] h))) from zGo 2 392 1339 _ _ _).trans ?_
  refine (gd_t (⟨rfl, Nat.le_of_ble_eq_true rfl, rfl, Nat.le_of_ble_eq_true rfl⟩) _).trans ?_
  refine (gd_t (⟨rfl, (PTM KM 177 _ rfl rfl), (PNM KM 177 rfl)⟩) _).trans ?_
  rfl
theorem q_lw24_2 {h : zH} {a0 : Nat} {a3 : Nat} {a4 : Nat} {i : Int} {y0 : BitVec 64} {y : BitVec 64} (ta0 : hT h a0 = 22) (KC : KC h) (KM : KM h) (ta3 : hT h a3 = 23) (na3 : a3 < hN h) (ta4 : hT h a4 = 24) (na4 : a4 < hN h) : zBack zY 392 1340 1343 [some (zR (some a0)), some (zR (some 0)), some (zR (some 177)), some (zR (some a3)), some (zR (some a4)), some (zI i), none, none, none, none] [zJ y0] (some (.inl (some (zJ y)), h)) =
    if y0 = y then
      zY 392 2378 [some (zR (some a0)), some (zR (some 0)), some (zR (some 177)), some (zR (some a3)), some (zR (some a4)), some (zI i), none, none, none, none] [] h
    else
      some (.inl (some (zI 0)), h) := by
  refine (show zBack zY 392 1340 1343 [some (zR (some a0)), some (zR (some 0)), some (zR (some 177)), some (zR (some a3)), some (zR (some a4)), some (zI i), none, none, none, none] [zJ y0] (some (.inl (some (zJ y)), h)) = if (zlcmp y0 y) = 0 then zY 392 2378 [some (zR (some a0)), some (zR (some 0)), some (zR (some 177)), some (zR (some a3)), some (zR (some a4)), some (zI i), none, none, none, none] [] h else zY 392 1347 [some (zR (some a0)), some (zR (some 0)), some (zR (some 177)), some (zR (some a3)), some (zR (some a4)), some (zI i), none, none, none, none] [] h from zGo 2 392 1343 _ _ _).trans ?_
  refine iteL (fun c0 => ?_) (fun c0 => ?_)
  · skip
    rfl
  · skip
    refine (show zY 392 1347 [some (zR (some a0)), some (zR (some 0)), some (zR (some 177)), some (zR (some a3)), some (zR (some a4)), some (zI i), none, none, none, none] [] h = gd (inR (0)) (gd (([] : List zV).isEmpty = true ∧ (zrk 392 = 1 ∨ zrk 392 = 6 ∧ ((0 : Int) = 0 ∨ (0 : Int) = 1))) (some (.inl (some (zI 0)), h))) from zGo 2 392 1347 _ _ _).trans ?_
    refine (gd_t (by decide) _).trans ?_
    refine (gd_t (⟨rfl, Or.inr ⟨rfl, by decide⟩⟩) _).trans ?_
    rfl
theorem q_lw25_0 {h : zH} {a0 : Nat} {a3 : Nat} {a4 : Nat} {i : Int} (ta0 : hT h a0 = 22) (KC : KC h) (KM : KM h) (ta3 : hT h a3 = 23) (na3 : a3 < hN h) (ta4 : hT h a4 = 24) (na4 : a4 < hN h) : zY 392 1349 [some (zR (some a0)), some (zR (some 0)), some (zR (some 177)), some (zR (some a3)), some (zR (some a4)), some (zI i), none, none, none, none] [] h =
    zBack zY 392 1350 1353 [some (zR (some a0)), some (zR (some 0)), some (zR (some 177)), some (zR (some a3)), some (zR (some a4)), some (zI i), none, none, none, none] [] (zC 157 [zR (some 0)] h) := by
  refine (show zY 392 1349 [some (zR (some a0)), some (zR (some 0)), some (zR (some 177)), some (zR (some a3)), some (zR (some a4)), some (zI i), none, none, none, none] [] h = gd (false = zctor 157 ∧ zcs [] ≤ 8 ∧ zrm 392 (zrf 157 + 1) (8 + (zmaxl 157 + 11) + zrl 157) = true ∧ zcs [zR (some 0)] ≤ zmaxl 157) (gd (zob h (some 0) 11) (zBack zY 392 1350 1353 [some (zR (some a0)), some (zR (some 0)), some (zR (some 177)), some (zR (some a3)), some (zR (some a4)), some (zI i), none, none, none, none] [] (zC 157 [zR (some 0)] h))) from zGo 2 392 1349 _ _ _).trans ?_
  refine (gd_t (⟨rfl, Nat.le_of_ble_eq_true rfl, rfl, Nat.le_of_ble_eq_true rfl⟩) _).trans ?_
  refine (gd_t (⟨rfl, (PTC KC 0 _ rfl rfl), (PNC KC 0 rfl)⟩) _).trans ?_
  rfl
theorem q_lw25_1 {h : zH} {a0 : Nat} {a3 : Nat} {a4 : Nat} {i : Int} {y : UInt32} (ta0 : hT h a0 = 22) (KC : KC h) (KM : KM h) (ta3 : hT h a3 = 23) (na3 : a3 < hN h) (ta4 : hT h a4 = 24) (na4 : a4 < hN h) : zBack zY 392 1350 1353 [some (zR (some a0)), some (zR (some 0)), some (zR (some 177)), some (zR (some a3)), some (zR (some a4)), some (zI i), none, none, none, none] [] (some (.inl (some (zF y)), h)) =
    gd (zn64 (FP.f2d y) = true) (
    zBack zY 392 1357 1360 [some (zR (some a0)), some (zR (some 0)), some (zR (some 177)), some (zR (some a3)), some (zR (some a4)), some (zI i), some (zD (FP.f2d y)), none, none, none] [] (zC 311 [zR (some 177)] h)) := by
  refine (show zBack zY 392 1350 1353 [some (zR (some a0)), some (zR (some 0)), some (zR (some 177)), some (zR (some a3)), some (zR (some a4)), some (zI i), none, none, none, none] [] (some (.inl (some (zF y)), h)) = gd (zn64 (FP.f2d y) = true) (gd (false = zctor 311 ∧ zcs [] ≤ 8 ∧ zrm 392 (zrf 311 + 1) (8 + (zmaxl 311 + 11) + zrl 311) = true ∧ zcs [zR (some 177)] ≤ zmaxl 311) (gd (zob h (some 177) 12) (zBack zY 392 1357 1360 [some (zR (some a0)), some (zR (some 0)), some (zR (some 177)), some (zR (some a3)), some (zR (some a4)), some (zI i), some (zD (FP.f2d y)), none, none, none] [] (zC 311 [zR (some 177)] h)))) from zGo 4 392 1353 _ _ _).trans ?_
  refine gd_c Iff.rfl (fun c0 => ?_)
  refine (gd_t (⟨rfl, Nat.le_of_ble_eq_true rfl, rfl, Nat.le_of_ble_eq_true rfl⟩) _).trans ?_
  refine (gd_t (⟨rfl, (PTM KM 177 _ rfl rfl), (PNM KM 177 rfl)⟩) _).trans ?_
  rfl
theorem q_lw25_2 {h : zH} {a0 : Nat} {a3 : Nat} {a4 : Nat} {i : Int} {x6 : UInt64} {y : UInt32} (ta0 : hT h a0 = 22) (KC : KC h) (KM : KM h) (ta3 : hT h a3 = 23) (na3 : a3 < hN h) (ta4 : hT h a4 = 24) (na4 : a4 < hN h) : zBack zY 392 1357 1360 [some (zR (some a0)), some (zR (some 0)), some (zR (some 177)), some (zR (some a3)), some (zR (some a4)), some (zI i), some (zD x6), none, none, none] [] (some (.inl (some (zF y)), h)) =
    gd (zn64 (FP.f2d y) = true) (
    if (Op.cmpValue (FP.dcmp x6 (FP.f2d y)) .l).toInt = 0 then
      zY 392 2378 [some (zR (some a0)), some (zR (some 0)), some (zR (some 177)), some (zR (some a3)), some (zR (some a4)), some (zI i), some (zD x6), none, some (zD (FP.f2d y)), none] [] h
    else
      if (Op.cmpValue (FP.dcmp x6 x6) .l).toInt = 0 then
        some (.inl (some (zI 0)), h)
      else
        if (Op.cmpValue (FP.dcmp (FP.f2d y) (FP.f2d y)) .l).toInt = 0 then
          some (.inl (some (zI 0)), h)
        else
          zY 392 2378 [some (zR (some a0)), some (zR (some 0)), some (zR (some 177)), some (zR (some a3)), some (zR (some a4)), some (zI i), some (zD x6), none, some (zD (FP.f2d y)), none] [] h) := by
  refine (show zBack zY 392 1357 1360 [some (zR (some a0)), some (zR (some 0)), some (zR (some 177)), some (zR (some a3)), some (zR (some a4)), some (zI i), some (zD x6), none, none, none] [] (some (.inl (some (zF y)), h)) = gd (zn64 (FP.f2d y) = true) (if (Op.cmpValue (FP.dcmp x6 (FP.f2d y)) .l).toInt = 0 then zY 392 1389 [some (zR (some a0)), some (zR (some 0)), some (zR (some 177)), some (zR (some a3)), some (zR (some a4)), some (zI i), some (zD x6), none, some (zD (FP.f2d y)), none] [] h else zY 392 1371 [some (zR (some a0)), some (zR (some 0)), some (zR (some 177)), some (zR (some a3)), some (zR (some a4)), some (zI i), some (zD x6), none, some (zD (FP.f2d y)), none] [] h) from zGo 6 392 1360 _ _ _).trans ?_
  refine gd_c Iff.rfl (fun c0 => ?_)
  refine iteC (fun c1 => ?_) (fun c1 => ?_)
  · skip
    refine (show zY 392 1389 [some (zR (some a0)), some (zR (some 0)), some (zR (some 177)), some (zR (some a3)), some (zR (some a4)), some (zI i), some (zD x6), none, some (zD (FP.f2d y)), none] [] h = zY 392 2378 [some (zR (some a0)), some (zR (some 0)), some (zR (some 177)), some (zR (some a3)), some (zR (some a4)), some (zI i), some (zD x6), none, some (zD (FP.f2d y)), none] [] h from zGo 1 392 1389 _ _ _).trans ?_
    rfl
  · skip
    refine (show zY 392 1371 [some (zR (some a0)), some (zR (some 0)), some (zR (some 177)), some (zR (some a3)), some (zR (some a4)), some (zI i), some (zD x6), none, some (zD (FP.f2d y)), none] [] h = if (Op.cmpValue (FP.dcmp x6 x6) .l).toInt = 0 then zY 392 1387 [some (zR (some a0)), some (zR (some 0)), some (zR (some 177)), some (zR (some a3)), some (zR (some a4)), some (zI i), some (zD x6), none, some (zD (FP.f2d y)), none] [] h else zY 392 1379 [some (zR (some a0)), some (zR (some 0)), some (zR (some 177)), some (zR (some a3)), some (zR (some a4)), some (zI i), some (zD x6), none, some (zD (FP.f2d y)), none] [] h from zGo 4 392 1371 _ _ _).trans ?_
    refine iteC (fun c2 => ?_) (fun c2 => ?_)
    · skip
      refine (show zY 392 1387 [some (zR (some a0)), some (zR (some 0)), some (zR (some 177)), some (zR (some a3)), some (zR (some a4)), some (zI i), some (zD x6), none, some (zD (FP.f2d y)), none] [] h = gd (inR (0)) (gd (([] : List zV).isEmpty = true ∧ (zrk 392 = 1 ∨ zrk 392 = 6 ∧ ((0 : Int) = 0 ∨ (0 : Int) = 1))) (some (.inl (some (zI 0)), h))) from zGo 2 392 1387 _ _ _).trans ?_
      refine (gd_t (by decide) _).trans ?_
      refine (gd_t (⟨rfl, Or.inr ⟨rfl, by decide⟩⟩) _).trans ?_
      rfl
    · skip
      refine (show zY 392 1379 [some (zR (some a0)), some (zR (some 0)), some (zR (some 177)), some (zR (some a3)), some (zR (some a4)), some (zI i), some (zD x6), none, some (zD (FP.f2d y)), none] [] h = if (Op.cmpValue (FP.dcmp (FP.f2d y) (FP.f2d y)) .l).toInt = 0 then zY 392 1387 [some (zR (some a0)), some (zR (some 0)), some (zR (some 177)), some (zR (some a3)), some (zR (some a4)), some (zI i), some (zD x6), none, some (zD (FP.f2d y)), none] [] h else zY 392 1389 [some (zR (some a0)), some (zR (some 0)), some (zR (some 177)), some (zR (some a3)), some (zR (some a4)), some (zI i), some (zD x6), none, some (zD (FP.f2d y)), none] [] h from zGo 4 392 1379 _ _ _).trans ?_
      refine iteC (fun c3 => ?_) (fun c3 => ?_)
      · skip
        refine (show zY 392 1387 [some (zR (some a0)), some (zR (some 0)), some (zR (some 177)), some (zR (some a3)), some (zR (some a4)), some (zI i), some (zD x6), none, some (zD (FP.f2d y)), none] [] h = gd (inR (0)) (gd (([] : List zV).isEmpty = true ∧ (zrk 392 = 1 ∨ zrk 392 = 6 ∧ ((0 : Int) = 0 ∨ (0 : Int) = 1))) (some (.inl (some (zI 0)), h))) from zGo 2 392 1387 _ _ _).trans ?_
        refine (gd_t (by decide) _).trans ?_
        refine (gd_t (⟨rfl, Or.inr ⟨rfl, by decide⟩⟩) _).trans ?_
        rfl
      · skip
        refine (show zY 392 1389 [some (zR (some a0)), some (zR (some 0)), some (zR (some 177)), some (zR (some a3)), some (zR (some a4)), some (zI i), some (zD x6), none, some (zD (FP.f2d y)), none] [] h = zY 392 2378 [some (zR (some a0)), some (zR (some 0)), some (zR (some 177)), some (zR (some a3)), some (zR (some a4)), some (zI i), some (zD x6), none, some (zD (FP.f2d y)), none] [] h from zGo 1 392 1389 _ _ _).trans ?_
        rfl
theorem q_lw26_0 {h : zH} {a0 : Nat} {a3 : Nat} {a4 : Nat} {i : Int} (ta0 : hT h a0 = 22) (KC : KC h) (KM : KM h) (ta3 : hT h a3 = 23) (na3 : a3 < hN h) (ta4 : hT h a4 = 24) (na4 : a4 < hN h) : zY 392 1392 [some (zR (some a0)), some (zR (some 0)), some (zR (some 177)), some (zR (some a3)), some (zR (some a4)), some (zI i), none, none, none, none] [] h =
    gd (-2147483648 ≤ i + 1 ∧ i + 1 < 2147483648) (
    gd (0 ≤ (i + 1) ∧ (i + 1) < (hL h a0 : Int)) (
    zBack zY 392 1400 1403 [some (zR (some a0)), some (zR (some 0)), some (zR (some 177)), some (zR (some a3)), some (zR (some a4)), some (zI i), none, none, none, none] [] (zC 365 [zR (some 0), zI (hI h a0 (i + 1).toNat), zR (some a3)] h))) := by
  refine (show zY 392 1392 [some (zR (some a0)), some (zR (some 0)), some (zR (some 177)), some (zR (some a3)), some (zR (some a4)), some (zI i), none, none, none, none] [] h = gd (inR (1)) (gd (inR (i + 1)) (gd (zok h (some a0) 22 (i + 1)) (gd (false = zctor 365 ∧ zcs [] ≤ 8 ∧ zrm 392 (zrf 365 + 1) (8 + (zmaxl 365 + 11) + zrl 365) = true ∧ zcs [zR (some 0), zI (hI h a0 (i + 1).toNat), zR (some a3)] ≤ zmaxl 365) (zBack zY 392 1400 1403 [some (zR (some a0)), some (zR (some 0)), some (zR (some 177)), some (zR (some a3)), some (zR (some a4)), some (zI i), none, none, none, none] [] (zC 365 [zR (some 0), zI (hI h a0 (i + 1).toNat), zR (some a3)] h))))) from zGo 8 392 1392 _ _ _).trans ?_
  refine (gd_t (by decide) _).trans ?_
  refine gd_c Iff.rfl (fun c0 => ?_)
  refine gd_c (ci ta0 rfl) (fun c1 => ?_)
  refine (gd_t (⟨rfl, Nat.le_of_ble_eq_true rfl, rfl, Nat.le_of_ble_eq_true rfl⟩) _).trans ?_
  rfl
theorem q_lw26_1 {h : zH} {a0 : Nat} {a3 : Nat} {a4 : Nat} {i : Int} {y : Int} (ta0 : hT h a0 = 22) (KC : KC h) (KM : KM h) (ta3 : hT h a3 = 23) (na3 : a3 < hN h) (ta4 : hT h a4 = 24) (na4 : a4 < hN h) : zBack zY 392 1400 1403 [some (zR (some a0)), some (zR (some 0)), some (zR (some 177)), some (zR (some a3)), some (zR (some a4)), some (zI i), none, none, none, none] [] (some (.inl (some (zI y)), h)) =
    gd (-2147483648 ≤ i + 1 ∧ i + 1 < 2147483648) (
    gd (0 ≤ (i + 1) ∧ (i + 1) < (hL h a0 : Int)) (
    zBack zY 392 1412 1415 [some (zR (some a0)), some (zR (some 0)), some (zR (some 177)), some (zR (some a3)), some (zR (some a4)), some (zI i), some (zI y), none, none, none] [] (zC 312 [zR (some 177), zI (hI h a0 (i + 1).toNat)] h))) := by
  refine (show zBack zY 392 1400 1403 [some (zR (some a0)), some (zR (some 0)), some (zR (some 177)), some (zR (some a3)), some (zR (some a4)), some (zI i), none, none, none, none] [] (some (.inl (some (zI y)), h)) = gd (inR (1)) (gd (inR (i + 1)) (gd (zok h (some a0) 22 (i + 1)) (gd (false = zctor 312 ∧ zcs [] ≤ 8 ∧ zrm 392 (zrf 312 + 1) (8 + (zmaxl 312 + 11) + zrl 312) = true ∧ zcs [zR (some 177), zI (hI h a0 (i + 1).toNat)] ≤ zmaxl 312) (gd (zob h (some 177) 12) (zBack zY 392 1412 1415 [some (zR (some a0)), some (zR (some 0)), some (zR (some 177)), some (zR (some a3)), some (zR (some a4)), some (zI i), some (zI y), none, none, none] [] (zC 312 [zR (some 177), zI (hI h a0 (i + 1).toNat)] h)))))) from zGo 8 392 1403 _ _ _).trans ?_
  refine (gd_t (by decide) _).trans ?_
  refine gd_c Iff.rfl (fun c0 => ?_)
  refine gd_c (ci ta0 rfl) (fun c1 => ?_)
  refine (gd_t (⟨rfl, Nat.le_of_ble_eq_true rfl, rfl, Nat.le_of_ble_eq_true rfl⟩) _).trans ?_
  refine (gd_t (⟨rfl, (PTM KM 177 _ rfl rfl), (PNM KM 177 rfl)⟩) _).trans ?_
  rfl
theorem q_lw26_2 {h : zH} {a0 : Nat} {a3 : Nat} {a4 : Nat} {i : Int} {x6 : Int} {y : Int} (ta0 : hT h a0 = 22) (KC : KC h) (KM : KM h) (ta3 : hT h a3 = 23) (na3 : a3 < hN h) (ta4 : hT h a4 = 24) (na4 : a4 < hN h) : zBack zY 392 1412 1415 [some (zR (some a0)), some (zR (some 0)), some (zR (some 177)), some (zR (some a3)), some (zR (some a4)), some (zI i), some (zI x6), none, none, none] [] (some (.inl (some (zI y)), h)) =
    zBack zY 392 1418 1421 [some (zR (some a0)), some (zR (some 0)), some (zR (some 177)), some (zR (some a3)), some (zR (some a4)), some (zI i), some (zI x6), some (zI y), none, none] [] (zC 208 [zR (some 177)] h) := by
  refine (show zBack zY 392 1412 1415 [some (zR (some a0)), some (zR (some 0)), some (zR (some 177)), some (zR (some a3)), some (zR (some a4)), some (zI i), some (zI x6), none, none, none] [] (some (.inl (some (zI y)), h)) = gd (false = zctor 208 ∧ zcs [] ≤ 8 ∧ zrm 392 (zrf 208 + 1) (8 + (zmaxl 208 + 11) + zrl 208) = true ∧ zcs [zR (some 177)] ≤ zmaxl 208) (gd (zob h (some 177) 12) (zBack zY 392 1418 1421 [some (zR (some a0)), some (zR (some 0)), some (zR (some 177)), some (zR (some a3)), some (zR (some a4)), some (zI i), some (zI x6), some (zI y), none, none] [] (zC 208 [zR (some 177)] h))) from zGo 3 392 1415 _ _ _).trans ?_
  refine (gd_t (⟨rfl, Nat.le_of_ble_eq_true rfl, rfl, Nat.le_of_ble_eq_true rfl⟩) _).trans ?_
  refine (gd_t (⟨rfl, (PTM KM 177 _ rfl rfl), (PNM KM 177 rfl)⟩) _).trans ?_
  rfl
theorem q_lw26_3 {h : zH} {a0 : Nat} {a3 : Nat} {a4 : Nat} {i : Int} {x6 : Int} {x7 : Int} {y : Int} (ta0 : hT h a0 = 22) (KC : KC h) (KM : KM h) (ta3 : hT h a3 = 23) (na3 : a3 < hN h) (ta4 : hT h a4 = 24) (na4 : a4 < hN h) : zBack zY 392 1418 1421 [some (zR (some a0)), some (zR (some 0)), some (zR (some 177)), some (zR (some a3)), some (zR (some a4)), some (zI i), some (zI x6), some (zI x7), none, none] [] (some (.inl (some (zI y)), h)) =
    if y = x6 then
      if x6 = 0 then
        gd ((0 : Int) ≤ 0 ∧ 0 < (hL h a3 : Int)) (
        if (hJ h a3 0) = (zi2l x7) then
          zY 392 2378 [some (zR (some a0)), some (zR (some 0)), some (zR (some 177)), some (zR (some a3)), some (zR (some a4)), some (zI i), some (zI x6), some (zI x7), none, none] [] h
        else
          some (.inl (some (zI 0)), h))
      else
        zY 392 2378 [some (zR (some a0)), some (zR (some 0)), some (zR (some 177)), some (zR (some a3)), some (zR (some a4)), some (zI i), some (zI x6), some (zI x7), none, none] [] h
    else
      some (.inl (some (zI 0)), h) := by
  refine (show zBack zY 392 1418 1421 [some (zR (some a0)), some (zR (some 0)), some (zR (some 177)), some (zR (some a3)), some (zR (some a4)), some (zI i), some (zI x6), some (zI x7), none, none] [] (some (.inl (some (zI y)), h)) = if y = x6 then zY 392 1428 [some (zR (some a0)), some (zR (some 0)), some (zR (some 177)), some (zR (some a3)), some (zR (some a4)), some (zI i), some (zI x6), some (zI x7), none, none] [] h else zY 392 1426 [some (zR (some a0)), some (zR (some 0)), some (zR (some 177)), some (zR (some a3)), some (zR (some a4)), some (zI i), some (zI x6), some (zI x7), none, none] [] h from zGo 2 392 1421 _ _ _).trans ?_
  refine iteC (fun c0 => ?_) (fun c0 => ?_)
  · skip
    refine (show zY 392 1428 [some (zR (some a0)), some (zR (some 0)), some (zR (some 177)), some (zR (some a3)), some (zR (some a4)), some (zI i), some (zI x6), some (zI x7), none, none] [] h = if x6 = 0 then zY 392 1433 [some (zR (some a0)), some (zR (some 0)), some (zR (some 177)), some (zR (some a3)), some (zR (some a4)), some (zI i), some (zI x6), some (zI x7), none, none] [] h else zY 392 1445 [some (zR (some a0)), some (zR (some 0)), some (zR (some 177)), some (zR (some a3)), some (zR (some a4)), some (zI i), some (zI x6), some (zI x7), none, none] [] h from zGo 2 392 1428 _ _ _).trans ?_
    refine iteC (fun c1 => ?_) (fun c1 => ?_)
    · skip
      refine (show zY 392 1433 [some (zR (some a0)), some (zR (some 0)), some (zR (some 177)), some (zR (some a3)), some (zR (some a4)), some (zI i), some (zI x6), some (zI x7), none, none] [] h = gd (inR (0)) (gd (zok h (some a3) 23 0) (if (zlcmp (hJ h a3 0) (zi2l x7)) = 0 then zY 392 1445 [some (zR (some a0)), some (zR (some 0)), some (zR (some 177)), some (zR (some a3)), some (zR (some a4)), some (zI i), some (zI x6), some (zI x7), none, none] [] h else zY 392 1443 [some (zR (some a0)), some (zR (some 0)), some (zR (some 177)), some (zR (some a3)), some (zR (some a4)), some (zI i), some (zI x6), some (zI x7), none, none] [] h)) from zGo 7 392 1433 _ _ _).trans ?_
      refine (gd_t (by decide) _).trans ?_
      refine gd_c (ci ta3 rfl) (fun c2 => ?_)
      refine iteL (fun c3 => ?_) (fun c3 => ?_)
      · skip
        refine (show zY 392 1445 [some (zR (some a0)), some (zR (some 0)), some (zR (some 177)), some (zR (some a3)), some (zR (some a4)), some (zI i), some (zI x6), some (zI x7), none, none] [] h = zY 392 2378 [some (zR (some a0)), some (zR (some 0)), some (zR (some 177)), some (zR (some a3)), some (zR (some a4)), some (zI i), some (zI x6), some (zI x7), none, none] [] h from zGo 1 392 1445 _ _ _).trans ?_
        rfl
      · skip
        refine (show zY 392 1443 [some (zR (some a0)), some (zR (some 0)), some (zR (some 177)), some (zR (some a3)), some (zR (some a4)), some (zI i), some (zI x6), some (zI x7), none, none] [] h = gd (inR (0)) (gd (([] : List zV).isEmpty = true ∧ (zrk 392 = 1 ∨ zrk 392 = 6 ∧ ((0 : Int) = 0 ∨ (0 : Int) = 1))) (some (.inl (some (zI 0)), h))) from zGo 2 392 1443 _ _ _).trans ?_
        refine (gd_t (by decide) _).trans ?_
        refine (gd_t (⟨rfl, Or.inr ⟨rfl, by decide⟩⟩) _).trans ?_
        rfl
    · skip
      refine (show zY 392 1445 [some (zR (some a0)), some (zR (some 0)), some (zR (some 177)), some (zR (some a3)), some (zR (some a4)), some (zI i), some (zI x6), some (zI x7), none, none] [] h = zY 392 2378 [some (zR (some a0)), some (zR (some 0)), some (zR (some 177)), some (zR (some a3)), some (zR (some a4)), some (zI i), some (zI x6), some (zI x7), none, none] [] h from zGo 1 392 1445 _ _ _).trans ?_
      rfl
  · skip
    refine (show zY 392 1426 [some (zR (some a0)), some (zR (some 0)), some (zR (some 177)), some (zR (some a3)), some (zR (some a4)), some (zI i), some (zI x6), some (zI x7), none, none] [] h = gd (inR (0)) (gd (([] : List zV).isEmpty = true ∧ (zrk 392 = 1 ∨ zrk 392 = 6 ∧ ((0 : Int) = 0 ∨ (0 : Int) = 1))) (some (.inl (some (zI 0)), h))) from zGo 2 392 1426 _ _ _).trans ?_
    refine (gd_t (by decide) _).trans ?_
    refine (gd_t (⟨rfl, Or.inr ⟨rfl, by decide⟩⟩) _).trans ?_
    rfl
theorem q_lw27_0 {h : zH} {a0 : Nat} {a3 : Nat} {a4 : Nat} {i : Int} (ta0 : hT h a0 = 22) (KC : KC h) (KM : KM h) (ta3 : hT h a3 = 23) (na3 : a3 < hN h) (ta4 : hT h a4 = 24) (na4 : a4 < hN h) : zY 392 1448 [some (zR (some a0)), some (zR (some 0)), some (zR (some 177)), some (zR (some a3)), some (zR (some a4)), some (zI i), none, none, none, none] [] h =
    gd (-2147483648 ≤ i + 1 ∧ i + 1 < 2147483648) (
    gd (0 ≤ (i + 1) ∧ (i + 1) < (hL h a0 : Int)) (
    zBack zY 392 1456 1459 [some (zR (some a0)), some (zR (some 0)), some (zR (some 177)), some (zR (some a3)), some (zR (some a4)), some (zI i), none, none, none, none] [] (zC 366 [zR (some 0), zI (hI h a0 (i + 1).toNat), zR (some a3)] h))) := by
  refine (show zY 392 1448 [some (zR (some a0)), some (zR (some 0)), some (zR (some 177)), some (zR (some a3)), some (zR (some a4)), some (zI i), none, none, none, none] [] h = gd (inR (1)) (gd (inR (i + 1)) (gd (zok h (some a0) 22 (i + 1)) (gd (false = zctor 366 ∧ zcs [] ≤ 8 ∧ zrm 392 (zrf 366 + 1) (8 + (zmaxl 366 + 11) + zrl 366) = true ∧ zcs [zR (some 0), zI (hI h a0 (i + 1).toNat), zR (some a3)] ≤ zmaxl 366) (zBack zY 392 1456 1459 [some (zR (some a0)), some (zR (some 0)), some (zR (some 177)), some (zR (some a3)), some (zR (some a4)), some (zI i), none, none, none, none] [] (zC 366 [zR (some 0), zI (hI h a0 (i + 1).toNat), zR (some a3)] h))))) from zGo 8 392 1448 _ _ _).trans ?_
  refine (gd_t (by decide) _).trans ?_
  refine gd_c Iff.rfl (fun c0 => ?_)
  refine gd_c (ci ta0 rfl) (fun c1 => ?_)
  refine (gd_t (⟨rfl, Nat.le_of_ble_eq_true rfl, rfl, Nat.le_of_ble_eq_true rfl⟩) _).trans ?_
  rfl
theorem q_lw27_1 {h : zH} {a0 : Nat} {a3 : Nat} {a4 : Nat} {i : Int} {y : Int} (ta0 : hT h a0 = 22) (KC : KC h) (KM : KM h) (ta3 : hT h a3 = 23) (na3 : a3 < hN h) (ta4 : hT h a4 = 24) (na4 : a4 < hN h) : zBack zY 392 1456 1459 [some (zR (some a0)), some (zR (some 0)), some (zR (some 177)), some (zR (some a3)), some (zR (some a4)), some (zI i), none, none, none, none] [] (some (.inl (some (zI y)), h)) =
    gd (-2147483648 ≤ i + 1 ∧ i + 1 < 2147483648) (
    gd (0 ≤ (i + 1) ∧ (i + 1) < (hL h a0 : Int)) (
    zBack zY 392 1468 1471 [some (zR (some a0)), some (zR (some 0)), some (zR (some 177)), some (zR (some a3)), some (zR (some a4)), some (zI i), some (zI y), none, none, none] [] (zC 314 [zR (some 177), zI (hI h a0 (i + 1).toNat)] h))) := by
  refine (show zBack zY 392 1456 1459 [some (zR (some a0)), some (zR (some 0)), some (zR (some 177)), some (zR (some a3)), some (zR (some a4)), some (zI i), none, none, none, none] [] (some (.inl (some (zI y)), h)) = gd (inR (1)) (gd (inR (i + 1)) (gd (zok h (some a0) 22 (i + 1)) (gd (false = zctor 314 ∧ zcs [] ≤ 8 ∧ zrm 392 (zrf 314 + 1) (8 + (zmaxl 314 + 11) + zrl 314) = true ∧ zcs [zR (some 177), zI (hI h a0 (i + 1).toNat)] ≤ zmaxl 314) (gd (zob h (some 177) 12) (zBack zY 392 1468 1471 [some (zR (some a0)), some (zR (some 0)), some (zR (some 177)), some (zR (some a3)), some (zR (some a4)), some (zI i), some (zI y), none, none, none] [] (zC 314 [zR (some 177), zI (hI h a0 (i + 1).toNat)] h)))))) from zGo 8 392 1459 _ _ _).trans ?_
  refine (gd_t (by decide) _).trans ?_
  refine gd_c Iff.rfl (fun c0 => ?_)
  refine gd_c (ci ta0 rfl) (fun c1 => ?_)
  refine (gd_t (⟨rfl, Nat.le_of_ble_eq_true rfl, rfl, Nat.le_of_ble_eq_true rfl⟩) _).trans ?_
  refine (gd_t (⟨rfl, (PTM KM 177 _ rfl rfl), (PNM KM 177 rfl)⟩) _).trans ?_
  rfl
theorem q_lw27_2 {h : zH} {a0 : Nat} {a3 : Nat} {a4 : Nat} {i : Int} {x6 : Int} {y : Int} (ta0 : hT h a0 = 22) (KC : KC h) (KM : KM h) (ta3 : hT h a3 = 23) (na3 : a3 < hN h) (ta4 : hT h a4 = 24) (na4 : a4 < hN h) : zBack zY 392 1468 1471 [some (zR (some a0)), some (zR (some 0)), some (zR (some 177)), some (zR (some a3)), some (zR (some a4)), some (zI i), some (zI x6), none, none, none] [] (some (.inl (some (zI y)), h)) =
    zBack zY 392 1474 1477 [some (zR (some a0)), some (zR (some 0)), some (zR (some 177)), some (zR (some a3)), some (zR (some a4)), some (zI i), some (zI x6), some (zI y), none, none] [] (zC 208 [zR (some 177)] h) := by
  refine (show zBack zY 392 1468 1471 [some (zR (some a0)), some (zR (some 0)), some (zR (some 177)), some (zR (some a3)), some (zR (some a4)), some (zI i), some (zI x6), none, none, none] [] (some (.inl (some (zI y)), h)) = gd (false = zctor 208 ∧ zcs [] ≤ 8 ∧ zrm 392 (zrf 208 + 1) (8 + (zmaxl 208 + 11) + zrl 208) = true ∧ zcs [zR (some 177)] ≤ zmaxl 208) (gd (zob h (some 177) 12) (zBack zY 392 1474 1477 [some (zR (some a0)), some (zR (some 0)), some (zR (some 177)), some (zR (some a3)), some (zR (some a4)), some (zI i), some (zI x6), some (zI y), none, none] [] (zC 208 [zR (some 177)] h))) from zGo 3 392 1471 _ _ _).trans ?_
  refine (gd_t (⟨rfl, Nat.le_of_ble_eq_true rfl, rfl, Nat.le_of_ble_eq_true rfl⟩) _).trans ?_
  refine (gd_t (⟨rfl, (PTM KM 177 _ rfl rfl), (PNM KM 177 rfl)⟩) _).trans ?_
  rfl
theorem q_lw27_3 {h : zH} {a0 : Nat} {a3 : Nat} {a4 : Nat} {i : Int} {x6 : Int} {x7 : Int} {y : Int} (ta0 : hT h a0 = 22) (KC : KC h) (KM : KM h) (ta3 : hT h a3 = 23) (na3 : a3 < hN h) (ta4 : hT h a4 = 24) (na4 : a4 < hN h) : zBack zY 392 1474 1477 [some (zR (some a0)), some (zR (some 0)), some (zR (some 177)), some (zR (some a3)), some (zR (some a4)), some (zI i), some (zI x6), some (zI x7), none, none] [] (some (.inl (some (zI y)), h)) =
    if y = x6 then
      if x6 = 0 then
        gd ((0 : Int) ≤ 0 ∧ 0 < (hL h a3 : Int)) (
        if (hJ h a3 0) = (zi2l x7) then
          zY 392 2378 [some (zR (some a0)), some (zR (some 0)), some (zR (some 177)), some (zR (some a3)), some (zR (some a4)), some (zI i), some (zI x6), some (zI x7), none, none] [] h
        else
          some (.inl (some (zI 0)), h))
      else
        zY 392 2378 [some (zR (some a0)), some (zR (some 0)), some (zR (some 177)), some (zR (some a3)), some (zR (some a4)), some (zI i), some (zI x6), some (zI x7), none, none] [] h
    else
      some (.inl (some (zI 0)), h) := by
  refine (show zBack zY 392 1474 1477 [some (zR (some a0)), some (zR (some 0)), some (zR (some 177)), some (zR (some a3)), some (zR (some a4)), some (zI i), some (zI x6), some (zI x7), none, none] [] (some (.inl (some (zI y)), h)) = if y = x6 then zY 392 1484 [some (zR (some a0)), some (zR (some 0)), some (zR (some 177)), some (zR (some a3)), some (zR (some a4)), some (zI i), some (zI x6), some (zI x7), none, none] [] h else zY 392 1482 [some (zR (some a0)), some (zR (some 0)), some (zR (some 177)), some (zR (some a3)), some (zR (some a4)), some (zI i), some (zI x6), some (zI x7), none, none] [] h from zGo 2 392 1477 _ _ _).trans ?_
  refine iteC (fun c0 => ?_) (fun c0 => ?_)
  · skip
    refine (show zY 392 1484 [some (zR (some a0)), some (zR (some 0)), some (zR (some 177)), some (zR (some a3)), some (zR (some a4)), some (zI i), some (zI x6), some (zI x7), none, none] [] h = if x6 = 0 then zY 392 1489 [some (zR (some a0)), some (zR (some 0)), some (zR (some 177)), some (zR (some a3)), some (zR (some a4)), some (zI i), some (zI x6), some (zI x7), none, none] [] h else zY 392 1501 [some (zR (some a0)), some (zR (some 0)), some (zR (some 177)), some (zR (some a3)), some (zR (some a4)), some (zI i), some (zI x6), some (zI x7), none, none] [] h from zGo 2 392 1484 _ _ _).trans ?_
    refine iteC (fun c1 => ?_) (fun c1 => ?_)
    · skip
      refine (show zY 392 1489 [some (zR (some a0)), some (zR (some 0)), some (zR (some 177)), some (zR (some a3)), some (zR (some a4)), some (zI i), some (zI x6), some (zI x7), none, none] [] h = gd (inR (0)) (gd (zok h (some a3) 23 0) (if (zlcmp (hJ h a3 0) (zi2l x7)) = 0 then zY 392 1501 [some (zR (some a0)), some (zR (some 0)), some (zR (some 177)), some (zR (some a3)), some (zR (some a4)), some (zI i), some (zI x6), some (zI x7), none, none] [] h else zY 392 1499 [some (zR (some a0)), some (zR (some 0)), some (zR (some 177)), some (zR (some a3)), some (zR (some a4)), some (zI i), some (zI x6), some (zI x7), none, none] [] h)) from zGo 7 392 1489 _ _ _).trans ?_
      refine (gd_t (by decide) _).trans ?_
      refine gd_c (ci ta3 rfl) (fun c2 => ?_)
      refine iteL (fun c3 => ?_) (fun c3 => ?_)
      · skip
        refine (show zY 392 1501 [some (zR (some a0)), some (zR (some 0)), some (zR (some 177)), some (zR (some a3)), some (zR (some a4)), some (zI i), some (zI x6), some (zI x7), none, none] [] h = zY 392 2378 [some (zR (some a0)), some (zR (some 0)), some (zR (some 177)), some (zR (some a3)), some (zR (some a4)), some (zI i), some (zI x6), some (zI x7), none, none] [] h from zGo 1 392 1501 _ _ _).trans ?_
        rfl
      · skip
        refine (show zY 392 1499 [some (zR (some a0)), some (zR (some 0)), some (zR (some 177)), some (zR (some a3)), some (zR (some a4)), some (zI i), some (zI x6), some (zI x7), none, none] [] h = gd (inR (0)) (gd (([] : List zV).isEmpty = true ∧ (zrk 392 = 1 ∨ zrk 392 = 6 ∧ ((0 : Int) = 0 ∨ (0 : Int) = 1))) (some (.inl (some (zI 0)), h))) from zGo 2 392 1499 _ _ _).trans ?_
        refine (gd_t (by decide) _).trans ?_
        refine (gd_t (⟨rfl, Or.inr ⟨rfl, by decide⟩⟩) _).trans ?_
        rfl
    · skip
      refine (show zY 392 1501 [some (zR (some a0)), some (zR (some 0)), some (zR (some 177)), some (zR (some a3)), some (zR (some a4)), some (zI i), some (zI x6), some (zI x7), none, none] [] h = zY 392 2378 [some (zR (some a0)), some (zR (some 0)), some (zR (some 177)), some (zR (some a3)), some (zR (some a4)), some (zI i), some (zI x6), some (zI x7), none, none] [] h from zGo 1 392 1501 _ _ _).trans ?_
      rfl
  · skip
    refine (show zY 392 1482 [some (zR (some a0)), some (zR (some 0)), some (zR (some 177)), some (zR (some a3)), some (zR (some a4)), some (zI i), some (zI x6), some (zI x7), none, none] [] h = gd (inR (0)) (gd (([] : List zV).isEmpty = true ∧ (zrk 392 = 1 ∨ zrk 392 = 6 ∧ ((0 : Int) = 0 ∨ (0 : Int) = 1))) (some (.inl (some (zI 0)), h))) from zGo 2 392 1482 _ _ _).trans ?_
    refine (gd_t (by decide) _).trans ?_
    refine (gd_t (⟨rfl, Or.inr ⟨rfl, by decide⟩⟩) _).trans ?_
    rfl
theorem q_lw28_0 {h : zH} {a0 : Nat} {a3 : Nat} {a4 : Nat} {i : Int} (ta0 : hT h a0 = 22) (KC : KC h) (KM : KM h) (ta3 : hT h a3 = 23) (na3 : a3 < hN h) (ta4 : hT h a4 = 24) (na4 : a4 < hN h) : zY 392 1504 [some (zR (some a0)), some (zR (some 0)), some (zR (some 177)), some (zR (some a3)), some (zR (some a4)), some (zI i), none, none, none, none] [] h =
    gd (-2147483648 ≤ i + 1 ∧ i + 1 < 2147483648) (
    gd (0 ≤ (i + 1) ∧ (i + 1) < (hL h a0 : Int)) (
    zBack zY 392 1512 1515 [some (zR (some a0)), some (zR (some 0)), some (zR (some 177)), some (zR (some a3)), some (zR (some a4)), some (zI i), none, none, none, none] [] (zC 367 [zR (some 0), zI (hI h a0 (i + 1).toNat), zR (some a3)] h))) := by
  refine (show zY 392 1504 [some (zR (some a0)), some (zR (some 0)), some (zR (some 177)), some (zR (some a3)), some (zR (some a4)), some (zI i), none, none, none, none] [] h = gd (inR (1)) (gd (inR (i + 1)) (gd (zok h (some a0) 22 (i + 1)) (gd (false = zctor 367 ∧ zcs [] ≤ 8 ∧ zrm 392 (zrf 367 + 1) (8 + (zmaxl 367 + 11) + zrl 367) = true ∧ zcs [zR (some 0), zI (hI h a0 (i + 1).toNat), zR (some a3)] ≤ zmaxl 367) (zBack zY 392 1512 1515 [some (zR (some a0)), some (zR (some 0)), some (zR (some 177)), some (zR (some a3)), some (zR (some a4)), some (zI i), none, none, none, none] [] (zC 367 [zR (some 0), zI (hI h a0 (i + 1).toNat), zR (some a3)] h))))) from zGo 8 392 1504 _ _ _).trans ?_
  refine (gd_t (by decide) _).trans ?_
  refine gd_c Iff.rfl (fun c0 => ?_)
  refine gd_c (ci ta0 rfl) (fun c1 => ?_)
  refine (gd_t (⟨rfl, Nat.le_of_ble_eq_true rfl, rfl, Nat.le_of_ble_eq_true rfl⟩) _).trans ?_
  rfl
theorem q_lw28_1 {h : zH} {a0 : Nat} {a3 : Nat} {a4 : Nat} {i : Int} {y : Int} (ta0 : hT h a0 = 22) (KC : KC h) (KM : KM h) (ta3 : hT h a3 = 23) (na3 : a3 < hN h) (ta4 : hT h a4 = 24) (na4 : a4 < hN h) : zBack zY 392 1512 1515 [some (zR (some a0)), some (zR (some 0)), some (zR (some 177)), some (zR (some a3)), some (zR (some a4)), some (zI i), none, none, none, none] [] (some (.inl (some (zI y)), h)) =
    gd (-2147483648 ≤ i + 1 ∧ i + 1 < 2147483648) (
    gd (0 ≤ (i + 1) ∧ (i + 1) < (hL h a0 : Int)) (
    zBack zY 392 1524 1527 [some (zR (some a0)), some (zR (some 0)), some (zR (some 177)), some (zR (some a3)), some (zR (some a4)), some (zI i), some (zI y), none, none, none] [] (zC 315 [zR (some 177), zI (hI h a0 (i + 1).toNat)] h))) := by
  refine (show zBack zY 392 1512 1515 [some (zR (some a0)), some (zR (some 0)), some (zR (some 177)), some (zR (some a3)), some (zR (some a4)), some (zI i), none, none, none, none] [] (some (.inl (some (zI y)), h)) = gd (inR (1)) (gd (inR (i + 1)) (gd (zok h (some a0) 22 (i + 1)) (gd (false = zctor 315 ∧ zcs [] ≤ 8 ∧ zrm 392 (zrf 315 + 1) (8 + (zmaxl 315 + 11) + zrl 315) = true ∧ zcs [zR (some 177), zI (hI h a0 (i + 1).toNat)] ≤ zmaxl 315) (gd (zob h (some 177) 12) (zBack zY 392 1524 1527 [some (zR (some a0)), some (zR (some 0)), some (zR (some 177)), some (zR (some a3)), some (zR (some a4)), some (zI i), some (zI y), none, none, none] [] (zC 315 [zR (some 177), zI (hI h a0 (i + 1).toNat)] h)))))) from zGo 8 392 1515 _ _ _).trans ?_
  refine (gd_t (by decide) _).trans ?_
  refine gd_c Iff.rfl (fun c0 => ?_)
  refine gd_c (ci ta0 rfl) (fun c1 => ?_)
  refine (gd_t (⟨rfl, Nat.le_of_ble_eq_true rfl, rfl, Nat.le_of_ble_eq_true rfl⟩) _).trans ?_
  refine (gd_t (⟨rfl, (PTM KM 177 _ rfl rfl), (PNM KM 177 rfl)⟩) _).trans ?_
  rfl
theorem q_lw28_2 {h : zH} {a0 : Nat} {a3 : Nat} {a4 : Nat} {i : Int} {x6 : Int} {y : BitVec 64} (ta0 : hT h a0 = 22) (KC : KC h) (KM : KM h) (ta3 : hT h a3 = 23) (na3 : a3 < hN h) (ta4 : hT h a4 = 24) (na4 : a4 < hN h) : zBack zY 392 1524 1527 [some (zR (some a0)), some (zR (some 0)), some (zR (some 177)), some (zR (some a3)), some (zR (some a4)), some (zI i), some (zI x6), none, none, none] [] (some (.inl (some (zJ y)), h)) =
    zBack zY 392 1530 1533 [some (zR (some a0)), some (zR (some 0)), some (zR (some 177)), some (zR (some a3)), some (zR (some a4)), some (zI i), some (zI x6), some (zJ y), none, none] [] (zC 208 [zR (some 177)] h) := by
  refine (show zBack zY 392 1524 1527 [some (zR (some a0)), some (zR (some 0)), some (zR (some 177)), some (zR (some a3)), some (zR (some a4)), some (zI i), some (zI x6), none, none, none] [] (some (.inl (some (zJ y)), h)) = gd (false = zctor 208 ∧ zcs [] ≤ 8 ∧ zrm 392 (zrf 208 + 1) (8 + (zmaxl 208 + 11) + zrl 208) = true ∧ zcs [zR (some 177)] ≤ zmaxl 208) (gd (zob h (some 177) 12) (zBack zY 392 1530 1533 [some (zR (some a0)), some (zR (some 0)), some (zR (some 177)), some (zR (some a3)), some (zR (some a4)), some (zI i), some (zI x6), some (zJ y), none, none] [] (zC 208 [zR (some 177)] h))) from zGo 3 392 1527 _ _ _).trans ?_
  refine (gd_t (⟨rfl, Nat.le_of_ble_eq_true rfl, rfl, Nat.le_of_ble_eq_true rfl⟩) _).trans ?_
  refine (gd_t (⟨rfl, (PTM KM 177 _ rfl rfl), (PNM KM 177 rfl)⟩) _).trans ?_
  rfl
theorem q_lw28_3 {h : zH} {a0 : Nat} {a3 : Nat} {a4 : Nat} {i : Int} {x6 : Int} {x7 : BitVec 64} {y : Int} (ta0 : hT h a0 = 22) (KC : KC h) (KM : KM h) (ta3 : hT h a3 = 23) (na3 : a3 < hN h) (ta4 : hT h a4 = 24) (na4 : a4 < hN h) : zBack zY 392 1530 1533 [some (zR (some a0)), some (zR (some 0)), some (zR (some 177)), some (zR (some a3)), some (zR (some a4)), some (zI i), some (zI x6), some (zJ x7), none, none] [] (some (.inl (some (zI y)), h)) =
    if y = x6 then
      if x6 = 0 then
        gd ((0 : Int) ≤ 0 ∧ 0 < (hL h a3 : Int)) (
        if (hJ h a3 0) = x7 then
          zY 392 2378 [some (zR (some a0)), some (zR (some 0)), some (zR (some 177)), some (zR (some a3)), some (zR (some a4)), some (zI i), some (zI x6), some (zJ x7), none, none] [] h
        else
          some (.inl (some (zI 0)), h))
      else
        zY 392 2378 [some (zR (some a0)), some (zR (some 0)), some (zR (some 177)), some (zR (some a3)), some (zR (some a4)), some (zI i), some (zI x6), some (zJ x7), none, none] [] h
    else
      some (.inl (some (zI 0)), h) := by
  refine (show zBack zY 392 1530 1533 [some (zR (some a0)), some (zR (some 0)), some (zR (some 177)), some (zR (some a3)), some (zR (some a4)), some (zI i), some (zI x6), some (zJ x7), none, none] [] (some (.inl (some (zI y)), h)) = if y = x6 then zY 392 1540 [some (zR (some a0)), some (zR (some 0)), some (zR (some 177)), some (zR (some a3)), some (zR (some a4)), some (zI i), some (zI x6), some (zJ x7), none, none] [] h else zY 392 1538 [some (zR (some a0)), some (zR (some 0)), some (zR (some 177)), some (zR (some a3)), some (zR (some a4)), some (zI i), some (zI x6), some (zJ x7), none, none] [] h from zGo 2 392 1533 _ _ _).trans ?_
  refine iteC (fun c0 => ?_) (fun c0 => ?_)
  · skip
    refine (show zY 392 1540 [some (zR (some a0)), some (zR (some 0)), some (zR (some 177)), some (zR (some a3)), some (zR (some a4)), some (zI i), some (zI x6), some (zJ x7), none, none] [] h = if x6 = 0 then zY 392 1545 [some (zR (some a0)), some (zR (some 0)), some (zR (some 177)), some (zR (some a3)), some (zR (some a4)), some (zI i), some (zI x6), some (zJ x7), none, none] [] h else zY 392 1556 [some (zR (some a0)), some (zR (some 0)), some (zR (some 177)), some (zR (some a3)), some (zR (some a4)), some (zI i), some (zI x6), some (zJ x7), none, none] [] h from zGo 2 392 1540 _ _ _).trans ?_
    refine iteC (fun c1 => ?_) (fun c1 => ?_)
    · skip
      refine (show zY 392 1545 [some (zR (some a0)), some (zR (some 0)), some (zR (some 177)), some (zR (some a3)), some (zR (some a4)), some (zI i), some (zI x6), some (zJ x7), none, none] [] h = gd (inR (0)) (gd (zok h (some a3) 23 0) (if (zlcmp (hJ h a3 0) x7) = 0 then zY 392 1556 [some (zR (some a0)), some (zR (some 0)), some (zR (some 177)), some (zR (some a3)), some (zR (some a4)), some (zI i), some (zI x6), some (zJ x7), none, none] [] h else zY 392 1554 [some (zR (some a0)), some (zR (some 0)), some (zR (some 177)), some (zR (some a3)), some (zR (some a4)), some (zI i), some (zI x6), some (zJ x7), none, none] [] h)) from zGo 6 392 1545 _ _ _).trans ?_
      refine (gd_t (by decide) _).trans ?_
      refine gd_c (ci ta3 rfl) (fun c2 => ?_)
      refine iteL (fun c3 => ?_) (fun c3 => ?_)
      · skip
        refine (show zY 392 1556 [some (zR (some a0)), some (zR (some 0)), some (zR (some 177)), some (zR (some a3)), some (zR (some a4)), some (zI i), some (zI x6), some (zJ x7), none, none] [] h = zY 392 2378 [some (zR (some a0)), some (zR (some 0)), some (zR (some 177)), some (zR (some a3)), some (zR (some a4)), some (zI i), some (zI x6), some (zJ x7), none, none] [] h from zGo 1 392 1556 _ _ _).trans ?_
        rfl
      · skip
        refine (show zY 392 1554 [some (zR (some a0)), some (zR (some 0)), some (zR (some 177)), some (zR (some a3)), some (zR (some a4)), some (zI i), some (zI x6), some (zJ x7), none, none] [] h = gd (inR (0)) (gd (([] : List zV).isEmpty = true ∧ (zrk 392 = 1 ∨ zrk 392 = 6 ∧ ((0 : Int) = 0 ∨ (0 : Int) = 1))) (some (.inl (some (zI 0)), h))) from zGo 2 392 1554 _ _ _).trans ?_
        refine (gd_t (by decide) _).trans ?_
        refine (gd_t (⟨rfl, Or.inr ⟨rfl, by decide⟩⟩) _).trans ?_
        rfl
    · skip
      refine (show zY 392 1556 [some (zR (some a0)), some (zR (some 0)), some (zR (some 177)), some (zR (some a3)), some (zR (some a4)), some (zI i), some (zI x6), some (zJ x7), none, none] [] h = zY 392 2378 [some (zR (some a0)), some (zR (some 0)), some (zR (some 177)), some (zR (some a3)), some (zR (some a4)), some (zI i), some (zI x6), some (zJ x7), none, none] [] h from zGo 1 392 1556 _ _ _).trans ?_
      rfl
  · skip
    refine (show zY 392 1538 [some (zR (some a0)), some (zR (some 0)), some (zR (some 177)), some (zR (some a3)), some (zR (some a4)), some (zI i), some (zI x6), some (zJ x7), none, none] [] h = gd (inR (0)) (gd (([] : List zV).isEmpty = true ∧ (zrk 392 = 1 ∨ zrk 392 = 6 ∧ ((0 : Int) = 0 ∨ (0 : Int) = 1))) (some (.inl (some (zI 0)), h))) from zGo 2 392 1538 _ _ _).trans ?_
    refine (gd_t (by decide) _).trans ?_
    refine (gd_t (⟨rfl, Or.inr ⟨rfl, by decide⟩⟩) _).trans ?_
    rfl
theorem q_lw29_0 {h : zH} {a0 : Nat} {a3 : Nat} {a4 : Nat} {i : Int} (ta0 : hT h a0 = 22) (KC : KC h) (KM : KM h) (ta3 : hT h a3 = 23) (na3 : a3 < hN h) (ta4 : hT h a4 = 24) (na4 : a4 < hN h) : zY 392 1559 [some (zR (some a0)), some (zR (some 0)), some (zR (some 177)), some (zR (some a3)), some (zR (some a4)), some (zI i), none, none, none, none] [] h =
    gd (-2147483648 ≤ i + 1 ∧ i + 1 < 2147483648) (
    gd (0 ≤ (i + 1) ∧ (i + 1) < (hL h a0 : Int)) (
    zBack zY 392 1567 1570 [some (zR (some a0)), some (zR (some 0)), some (zR (some 177)), some (zR (some a3)), some (zR (some a4)), some (zI i), none, none, none, none] [] (zC 368 [zR (some 0), zI (hI h a0 (i + 1).toNat), zR (some a3)] h))) := by
  refine (show zY 392 1559 [some (zR (some a0)), some (zR (some 0)), some (zR (some 177)), some (zR (some a3)), some (zR (some a4)), some (zI i), none, none, none, none] [] h = gd (inR (1)) (gd (inR (i + 1)) (gd (zok h (some a0) 22 (i + 1)) (gd (false = zctor 368 ∧ zcs [] ≤ 8 ∧ zrm 392 (zrf 368 + 1) (8 + (zmaxl 368 + 11) + zrl 368) = true ∧ zcs [zR (some 0), zI (hI h a0 (i + 1).toNat), zR (some a3)] ≤ zmaxl 368) (zBack zY 392 1567 1570 [some (zR (some a0)), some (zR (some 0)), some (zR (some 177)), some (zR (some a3)), some (zR (some a4)), some (zI i), none, none, none, none] [] (zC 368 [zR (some 0), zI (hI h a0 (i + 1).toNat), zR (some a3)] h))))) from zGo 8 392 1559 _ _ _).trans ?_
  refine (gd_t (by decide) _).trans ?_
  refine gd_c Iff.rfl (fun c0 => ?_)
  refine gd_c (ci ta0 rfl) (fun c1 => ?_)
  refine (gd_t (⟨rfl, Nat.le_of_ble_eq_true rfl, rfl, Nat.le_of_ble_eq_true rfl⟩) _).trans ?_
  rfl
theorem q_lw29_1 {h : zH} {a0 : Nat} {a3 : Nat} {a4 : Nat} {i : Int} {y : Int} (ta0 : hT h a0 = 22) (KC : KC h) (KM : KM h) (ta3 : hT h a3 = 23) (na3 : a3 < hN h) (ta4 : hT h a4 = 24) (na4 : a4 < hN h) : zBack zY 392 1567 1570 [some (zR (some a0)), some (zR (some 0)), some (zR (some 177)), some (zR (some a3)), some (zR (some a4)), some (zI i), none, none, none, none] [] (some (.inl (some (zI y)), h)) =
    gd (-2147483648 ≤ i + 1 ∧ i + 1 < 2147483648) (
    gd (0 ≤ (i + 1) ∧ (i + 1) < (hL h a0 : Int)) (
    zBack zY 392 1579 1582 [some (zR (some a0)), some (zR (some 0)), some (zR (some 177)), some (zR (some a3)), some (zR (some a4)), some (zI i), some (zI y), none, none, none] [] (zC 318 [zR (some 177), zI (hI h a0 (i + 1).toNat)] h))) := by
  refine (show zBack zY 392 1567 1570 [some (zR (some a0)), some (zR (some 0)), some (zR (some 177)), some (zR (some a3)), some (zR (some a4)), some (zI i), none, none, none, none] [] (some (.inl (some (zI y)), h)) = gd (inR (1)) (gd (inR (i + 1)) (gd (zok h (some a0) 22 (i + 1)) (gd (false = zctor 318 ∧ zcs [] ≤ 8 ∧ zrm 392 (zrf 318 + 1) (8 + (zmaxl 318 + 11) + zrl 318) = true ∧ zcs [zR (some 177), zI (hI h a0 (i + 1).toNat)] ≤ zmaxl 318) (gd (zob h (some 177) 12) (zBack zY 392 1579 1582 [some (zR (some a0)), some (zR (some 0)), some (zR (some 177)), some (zR (some a3)), some (zR (some a4)), some (zI i), some (zI y), none, none, none] [] (zC 318 [zR (some 177), zI (hI h a0 (i + 1).toNat)] h)))))) from zGo 8 392 1570 _ _ _).trans ?_
  refine (gd_t (by decide) _).trans ?_
  refine gd_c Iff.rfl (fun c0 => ?_)
  refine gd_c (ci ta0 rfl) (fun c1 => ?_)
  refine (gd_t (⟨rfl, Nat.le_of_ble_eq_true rfl, rfl, Nat.le_of_ble_eq_true rfl⟩) _).trans ?_
  refine (gd_t (⟨rfl, (PTM KM 177 _ rfl rfl), (PNM KM 177 rfl)⟩) _).trans ?_
  rfl
theorem q_lw29_2 {h : zH} {a0 : Nat} {a3 : Nat} {a4 : Nat} {i : Int} {x6 : Int} {y : BitVec 64} (ta0 : hT h a0 = 22) (KC : KC h) (KM : KM h) (ta3 : hT h a3 = 23) (na3 : a3 < hN h) (ta4 : hT h a4 = 24) (na4 : a4 < hN h) : zBack zY 392 1579 1582 [some (zR (some a0)), some (zR (some 0)), some (zR (some 177)), some (zR (some a3)), some (zR (some a4)), some (zI i), some (zI x6), none, none, none] [] (some (.inl (some (zJ y)), h)) =
    zBack zY 392 1585 1588 [some (zR (some a0)), some (zR (some 0)), some (zR (some 177)), some (zR (some a3)), some (zR (some a4)), some (zI i), some (zI x6), some (zJ y), none, none] [] (zC 208 [zR (some 177)] h) := by
  refine (show zBack zY 392 1579 1582 [some (zR (some a0)), some (zR (some 0)), some (zR (some 177)), some (zR (some a3)), some (zR (some a4)), some (zI i), some (zI x6), none, none, none] [] (some (.inl (some (zJ y)), h)) = gd (false = zctor 208 ∧ zcs [] ≤ 8 ∧ zrm 392 (zrf 208 + 1) (8 + (zmaxl 208 + 11) + zrl 208) = true ∧ zcs [zR (some 177)] ≤ zmaxl 208) (gd (zob h (some 177) 12) (zBack zY 392 1585 1588 [some (zR (some a0)), some (zR (some 0)), some (zR (some 177)), some (zR (some a3)), some (zR (some a4)), some (zI i), some (zI x6), some (zJ y), none, none] [] (zC 208 [zR (some 177)] h))) from zGo 3 392 1582 _ _ _).trans ?_
  refine (gd_t (⟨rfl, Nat.le_of_ble_eq_true rfl, rfl, Nat.le_of_ble_eq_true rfl⟩) _).trans ?_
  refine (gd_t (⟨rfl, (PTM KM 177 _ rfl rfl), (PNM KM 177 rfl)⟩) _).trans ?_
  rfl
theorem q_lw29_3 {h : zH} {a0 : Nat} {a3 : Nat} {a4 : Nat} {i : Int} {x6 : Int} {x7 : BitVec 64} {y : Int} (ta0 : hT h a0 = 22) (KC : KC h) (KM : KM h) (ta3 : hT h a3 = 23) (na3 : a3 < hN h) (ta4 : hT h a4 = 24) (na4 : a4 < hN h) : zBack zY 392 1585 1588 [some (zR (some a0)), some (zR (some 0)), some (zR (some 177)), some (zR (some a3)), some (zR (some a4)), some (zI i), some (zI x6), some (zJ x7), none, none] [] (some (.inl (some (zI y)), h)) =
    if y = x6 then
      if x6 = 0 then
        gd ((0 : Int) ≤ 0 ∧ 0 < (hL h a3 : Int)) (
        if (hJ h a3 0) = x7 then
          zY 392 2378 [some (zR (some a0)), some (zR (some 0)), some (zR (some 177)), some (zR (some a3)), some (zR (some a4)), some (zI i), some (zI x6), some (zJ x7), none, none] [] h
        else
          some (.inl (some (zI 0)), h))
      else
        zY 392 2378 [some (zR (some a0)), some (zR (some 0)), some (zR (some 177)), some (zR (some a3)), some (zR (some a4)), some (zI i), some (zI x6), some (zJ x7), none, none] [] h
    else
      some (.inl (some (zI 0)), h) := by
  refine (show zBack zY 392 1585 1588 [some (zR (some a0)), some (zR (some 0)), some (zR (some 177)), some (zR (some a3)), some (zR (some a4)), some (zI i), some (zI x6), some (zJ x7), none, none] [] (some (.inl (some (zI y)), h)) = if y = x6 then zY 392 1595 [some (zR (some a0)), some (zR (some 0)), some (zR (some 177)), some (zR (some a3)), some (zR (some a4)), some (zI i), some (zI x6), some (zJ x7), none, none] [] h else zY 392 1593 [some (zR (some a0)), some (zR (some 0)), some (zR (some 177)), some (zR (some a3)), some (zR (some a4)), some (zI i), some (zI x6), some (zJ x7), none, none] [] h from zGo 2 392 1588 _ _ _).trans ?_
  refine iteC (fun c0 => ?_) (fun c0 => ?_)
  · skip
    refine (show zY 392 1595 [some (zR (some a0)), some (zR (some 0)), some (zR (some 177)), some (zR (some a3)), some (zR (some a4)), some (zI i), some (zI x6), some (zJ x7), none, none] [] h = if x6 = 0 then zY 392 1600 [some (zR (some a0)), some (zR (some 0)), some (zR (some 177)), some (zR (some a3)), some (zR (some a4)), some (zI i), some (zI x6), some (zJ x7), none, none] [] h else zY 392 1611 [some (zR (some a0)), some (zR (some 0)), some (zR (some 177)), some (zR (some a3)), some (zR (some a4)), some (zI i), some (zI x6), some (zJ x7), none, none] [] h from zGo 2 392 1595 _ _ _).trans ?_
    refine iteC (fun c1 => ?_) (fun c1 => ?_)
    · skip
      refine (show zY 392 1600 [some (zR (some a0)), some (zR (some 0)), some (zR (some 177)), some (zR (some a3)), some (zR (some a4)), some (zI i), some (zI x6), some (zJ x7), none, none] [] h = gd (inR (0)) (gd (zok h (some a3) 23 0) (if (zlcmp (hJ h a3 0) x7) = 0 then zY 392 1611 [some (zR (some a0)), some (zR (some 0)), some (zR (some 177)), some (zR (some a3)), some (zR (some a4)), some (zI i), some (zI x6), some (zJ x7), none, none] [] h else zY 392 1609 [some (zR (some a0)), some (zR (some 0)), some (zR (some 177)), some (zR (some a3)), some (zR (some a4)), some (zI i), some (zI x6), some (zJ x7), none, none] [] h)) from zGo 6 392 1600 _ _ _).trans ?_
      refine (gd_t (by decide) _).trans ?_
      refine gd_c (ci ta3 rfl) (fun c2 => ?_)
      refine iteL (fun c3 => ?_) (fun c3 => ?_)
      · skip
        refine (show zY 392 1611 [some (zR (some a0)), some (zR (some 0)), some (zR (some 177)), some (zR (some a3)), some (zR (some a4)), some (zI i), some (zI x6), some (zJ x7), none, none] [] h = zY 392 2378 [some (zR (some a0)), some (zR (some 0)), some (zR (some 177)), some (zR (some a3)), some (zR (some a4)), some (zI i), some (zI x6), some (zJ x7), none, none] [] h from zGo 1 392 1611 _ _ _).trans ?_
        rfl
      · skip
        refine (show zY 392 1609 [some (zR (some a0)), some (zR (some 0)), some (zR (some 177)), some (zR (some a3)), some (zR (some a4)), some (zI i), some (zI x6), some (zJ x7), none, none] [] h = gd (inR (0)) (gd (([] : List zV).isEmpty = true ∧ (zrk 392 = 1 ∨ zrk 392 = 6 ∧ ((0 : Int) = 0 ∨ (0 : Int) = 1))) (some (.inl (some (zI 0)), h))) from zGo 2 392 1609 _ _ _).trans ?_
        refine (gd_t (by decide) _).trans ?_
        refine (gd_t (⟨rfl, Or.inr ⟨rfl, by decide⟩⟩) _).trans ?_
        rfl
    · skip
      refine (show zY 392 1611 [some (zR (some a0)), some (zR (some 0)), some (zR (some 177)), some (zR (some a3)), some (zR (some a4)), some (zI i), some (zI x6), some (zJ x7), none, none] [] h = zY 392 2378 [some (zR (some a0)), some (zR (some 0)), some (zR (some 177)), some (zR (some a3)), some (zR (some a4)), some (zI i), some (zI x6), some (zJ x7), none, none] [] h from zGo 1 392 1611 _ _ _).trans ?_
      rfl
  · skip
    refine (show zY 392 1593 [some (zR (some a0)), some (zR (some 0)), some (zR (some 177)), some (zR (some a3)), some (zR (some a4)), some (zI i), some (zI x6), some (zJ x7), none, none] [] h = gd (inR (0)) (gd (([] : List zV).isEmpty = true ∧ (zrk 392 = 1 ∨ zrk 392 = 6 ∧ ((0 : Int) = 0 ∨ (0 : Int) = 1))) (some (.inl (some (zI 0)), h))) from zGo 2 392 1593 _ _ _).trans ?_
    refine (gd_t (by decide) _).trans ?_
    refine (gd_t (⟨rfl, Or.inr ⟨rfl, by decide⟩⟩) _).trans ?_
    rfl
theorem q_lw30_0 {h : zH} {a0 : Nat} {a3 : Nat} {a4 : Nat} {i : Int} (ta0 : hT h a0 = 22) (KC : KC h) (KM : KM h) (ta3 : hT h a3 = 23) (na3 : a3 < hN h) (ta4 : hT h a4 = 24) (na4 : a4 < hN h) : zY 392 1614 [some (zR (some a0)), some (zR (some 0)), some (zR (some 177)), some (zR (some a3)), some (zR (some a4)), some (zI i), none, none, none, none] [] h =
    gd (-2147483648 ≤ i + 1 ∧ i + 1 < 2147483648) (
    gd (0 ≤ (i + 1) ∧ (i + 1) < (hL h a0 : Int)) (
    zBack zY 392 1622 1625 [some (zR (some a0)), some (zR (some 0)), some (zR (some 177)), some (zR (some a3)), some (zR (some a4)), some (zI i), none, none, none, none] [] (zC 369 [zR (some 0), zI (hI h a0 (i + 1).toNat), zR (some a3)] h))) := by
  refine (show zY 392 1614 [some (zR (some a0)), some (zR (some 0)), some (zR (some 177)), some (zR (some a3)), some (zR (some a4)), some (zI i), none, none, none, none] [] h = gd (inR (1)) (gd (inR (i + 1)) (gd (zok h (some a0) 22 (i + 1)) (gd (false = zctor 369 ∧ zcs [] ≤ 8 ∧ zrm 392 (zrf 369 + 1) (8 + (zmaxl 369 + 11) + zrl 369) = true ∧ zcs [zR (some 0), zI (hI h a0 (i + 1).toNat), zR (some a3)] ≤ zmaxl 369) (zBack zY 392 1622 1625 [some (zR (some a0)), some (zR (some 0)), some (zR (some 177)), some (zR (some a3)), some (zR (some a4)), some (zI i), none, none, none, none] [] (zC 369 [zR (some 0), zI (hI h a0 (i + 1).toNat), zR (some a3)] h))))) from zGo 8 392 1614 _ _ _).trans ?_
  refine (gd_t (by decide) _).trans ?_
  refine gd_c Iff.rfl (fun c0 => ?_)
  refine gd_c (ci ta0 rfl) (fun c1 => ?_)
  refine (gd_t (⟨rfl, Nat.le_of_ble_eq_true rfl, rfl, Nat.le_of_ble_eq_true rfl⟩) _).trans ?_
  rfl
theorem q_lw30_1 {h : zH} {a0 : Nat} {a3 : Nat} {a4 : Nat} {i : Int} {y : Int} (ta0 : hT h a0 = 22) (KC : KC h) (KM : KM h) (ta3 : hT h a3 = 23) (na3 : a3 < hN h) (ta4 : hT h a4 = 24) (na4 : a4 < hN h) : zBack zY 392 1622 1625 [some (zR (some a0)), some (zR (some 0)), some (zR (some 177)), some (zR (some a3)), some (zR (some a4)), some (zI i), none, none, none, none] [] (some (.inl (some (zI y)), h)) =
    gd (-2147483648 ≤ i + 1 ∧ i + 1 < 2147483648) (
    gd (0 ≤ (i + 1) ∧ (i + 1) < (hL h a0 : Int)) (
    zBack zY 392 1634 1637 [some (zR (some a0)), some (zR (some 0)), some (zR (some 177)), some (zR (some a3)), some (zR (some a4)), some (zI i), some (zI y), none, none, none] [] (zC 319 [zR (some 177), zI (hI h a0 (i + 1).toNat)] h))) := by
  refine (show zBack zY 392 1622 1625 [some (zR (some a0)), some (zR (some 0)), some (zR (some 177)), some (zR (some a3)), some (zR (some a4)), some (zI i), none, none, none, none] [] (some (.inl (some (zI y)), h)) = gd (inR (1)) (gd (inR (i + 1)) (gd (zok h (some a0) 22 (i + 1)) (gd (false = zctor 319 ∧ zcs [] ≤ 8 ∧ zrm 392 (zrf 319 + 1) (8 + (zmaxl 319 + 11) + zrl 319) = true ∧ zcs [zR (some 177), zI (hI h a0 (i + 1).toNat)] ≤ zmaxl 319) (gd (zob h (some 177) 12) (zBack zY 392 1634 1637 [some (zR (some a0)), some (zR (some 0)), some (zR (some 177)), some (zR (some a3)), some (zR (some a4)), some (zI i), some (zI y), none, none, none] [] (zC 319 [zR (some 177), zI (hI h a0 (i + 1).toNat)] h)))))) from zGo 8 392 1625 _ _ _).trans ?_
  refine (gd_t (by decide) _).trans ?_
  refine gd_c Iff.rfl (fun c0 => ?_)
  refine gd_c (ci ta0 rfl) (fun c1 => ?_)
  refine (gd_t (⟨rfl, Nat.le_of_ble_eq_true rfl, rfl, Nat.le_of_ble_eq_true rfl⟩) _).trans ?_
  refine (gd_t (⟨rfl, (PTM KM 177 _ rfl rfl), (PNM KM 177 rfl)⟩) _).trans ?_
  rfl
theorem q_lw30_2 {h : zH} {a0 : Nat} {a3 : Nat} {a4 : Nat} {i : Int} {x6 : Int} {y : Int} (ta0 : hT h a0 = 22) (KC : KC h) (KM : KM h) (ta3 : hT h a3 = 23) (na3 : a3 < hN h) (ta4 : hT h a4 = 24) (na4 : a4 < hN h) : zBack zY 392 1634 1637 [some (zR (some a0)), some (zR (some 0)), some (zR (some 177)), some (zR (some a3)), some (zR (some a4)), some (zI i), some (zI x6), none, none, none] [] (some (.inl (some (zI y)), h)) =
    zBack zY 392 1640 1643 [some (zR (some a0)), some (zR (some 0)), some (zR (some 177)), some (zR (some a3)), some (zR (some a4)), some (zI i), some (zI x6), some (zI y), none, none] [] (zC 208 [zR (some 177)] h) := by
  refine (show zBack zY 392 1634 1637 [some (zR (some a0)), some (zR (some 0)), some (zR (some 177)), some (zR (some a3)), some (zR (some a4)), some (zI i), some (zI x6), none, none, none] [] (some (.inl (some (zI y)), h)) = gd (false = zctor 208 ∧ zcs [] ≤ 8 ∧ zrm 392 (zrf 208 + 1) (8 + (zmaxl 208 + 11) + zrl 208) = true ∧ zcs [zR (some 177)] ≤ zmaxl 208) (gd (zob h (some 177) 12) (zBack zY 392 1640 1643 [some (zR (some a0)), some (zR (some 0)), some (zR (some 177)), some (zR (some a3)), some (zR (some a4)), some (zI i), some (zI x6), some (zI y), none, none] [] (zC 208 [zR (some 177)] h))) from zGo 3 392 1637 _ _ _).trans ?_
  refine (gd_t (⟨rfl, Nat.le_of_ble_eq_true rfl, rfl, Nat.le_of_ble_eq_true rfl⟩) _).trans ?_
  refine (gd_t (⟨rfl, (PTM KM 177 _ rfl rfl), (PNM KM 177 rfl)⟩) _).trans ?_
  rfl
theorem q_lw30_3 {h : zH} {a0 : Nat} {a3 : Nat} {a4 : Nat} {i : Int} {x6 : Int} {x7 : Int} {y : Int} (ta0 : hT h a0 = 22) (KC : KC h) (KM : KM h) (ta3 : hT h a3 = 23) (na3 : a3 < hN h) (ta4 : hT h a4 = 24) (na4 : a4 < hN h) : zBack zY 392 1640 1643 [some (zR (some a0)), some (zR (some 0)), some (zR (some 177)), some (zR (some a3)), some (zR (some a4)), some (zI i), some (zI x6), some (zI x7), none, none] [] (some (.inl (some (zI y)), h)) =
    if y = x6 then
      if x6 = 0 then
        gd ((0 : Int) ≤ 0 ∧ 0 < (hL h a3 : Int)) (
        if (hJ h a3 0) = (zi2l x7) then
          zY 392 2378 [some (zR (some a0)), some (zR (some 0)), some (zR (some 177)), some (zR (some a3)), some (zR (some a4)), some (zI i), some (zI x6), some (zI x7), none, none] [] h
        else
          some (.inl (some (zI 0)), h))
      else
        zY 392 2378 [some (zR (some a0)), some (zR (some 0)), some (zR (some 177)), some (zR (some a3)), some (zR (some a4)), some (zI i), some (zI x6), some (zI x7), none, none] [] h
    else
      some (.inl (some (zI 0)), h) := by
  refine (show zBack zY 392 1640 1643 [some (zR (some a0)), some (zR (some 0)), some (zR (some 177)), some (zR (some a3)), some (zR (some a4)), some (zI i), some (zI x6), some (zI x7), none, none] [] (some (.inl (some (zI y)), h)) = if y = x6 then zY 392 1650 [some (zR (some a0)), some (zR (some 0)), some (zR (some 177)), some (zR (some a3)), some (zR (some a4)), some (zI i), some (zI x6), some (zI x7), none, none] [] h else zY 392 1648 [some (zR (some a0)), some (zR (some 0)), some (zR (some 177)), some (zR (some a3)), some (zR (some a4)), some (zI i), some (zI x6), some (zI x7), none, none] [] h from zGo 2 392 1643 _ _ _).trans ?_
  refine iteC (fun c0 => ?_) (fun c0 => ?_)
  · skip
    refine (show zY 392 1650 [some (zR (some a0)), some (zR (some 0)), some (zR (some 177)), some (zR (some a3)), some (zR (some a4)), some (zI i), some (zI x6), some (zI x7), none, none] [] h = if x6 = 0 then zY 392 1655 [some (zR (some a0)), some (zR (some 0)), some (zR (some 177)), some (zR (some a3)), some (zR (some a4)), some (zI i), some (zI x6), some (zI x7), none, none] [] h else zY 392 1667 [some (zR (some a0)), some (zR (some 0)), some (zR (some 177)), some (zR (some a3)), some (zR (some a4)), some (zI i), some (zI x6), some (zI x7), none, none] [] h from zGo 2 392 1650 _ _ _).trans ?_
    refine iteC (fun c1 => ?_) (fun c1 => ?_)
    · skip
      refine (show zY 392 1655 [some (zR (some a0)), some (zR (some 0)), some (zR (some 177)), some (zR (some a3)), some (zR (some a4)), some (zI i), some (zI x6), some (zI x7), none, none] [] h = gd (inR (0)) (gd (zok h (some a3) 23 0) (if (zlcmp (hJ h a3 0) (zi2l x7)) = 0 then zY 392 1667 [some (zR (some a0)), some (zR (some 0)), some (zR (some 177)), some (zR (some a3)), some (zR (some a4)), some (zI i), some (zI x6), some (zI x7), none, none] [] h else zY 392 1665 [some (zR (some a0)), some (zR (some 0)), some (zR (some 177)), some (zR (some a3)), some (zR (some a4)), some (zI i), some (zI x6), some (zI x7), none, none] [] h)) from zGo 7 392 1655 _ _ _).trans ?_
      refine (gd_t (by decide) _).trans ?_
      refine gd_c (ci ta3 rfl) (fun c2 => ?_)
      refine iteL (fun c3 => ?_) (fun c3 => ?_)
      · skip
        refine (show zY 392 1667 [some (zR (some a0)), some (zR (some 0)), some (zR (some 177)), some (zR (some a3)), some (zR (some a4)), some (zI i), some (zI x6), some (zI x7), none, none] [] h = zY 392 2378 [some (zR (some a0)), some (zR (some 0)), some (zR (some 177)), some (zR (some a3)), some (zR (some a4)), some (zI i), some (zI x6), some (zI x7), none, none] [] h from zGo 1 392 1667 _ _ _).trans ?_
        rfl
      · skip
        refine (show zY 392 1665 [some (zR (some a0)), some (zR (some 0)), some (zR (some 177)), some (zR (some a3)), some (zR (some a4)), some (zI i), some (zI x6), some (zI x7), none, none] [] h = gd (inR (0)) (gd (([] : List zV).isEmpty = true ∧ (zrk 392 = 1 ∨ zrk 392 = 6 ∧ ((0 : Int) = 0 ∨ (0 : Int) = 1))) (some (.inl (some (zI 0)), h))) from zGo 2 392 1665 _ _ _).trans ?_
        refine (gd_t (by decide) _).trans ?_
        refine (gd_t (⟨rfl, Or.inr ⟨rfl, by decide⟩⟩) _).trans ?_
        rfl
    · skip
      refine (show zY 392 1667 [some (zR (some a0)), some (zR (some 0)), some (zR (some 177)), some (zR (some a3)), some (zR (some a4)), some (zI i), some (zI x6), some (zI x7), none, none] [] h = zY 392 2378 [some (zR (some a0)), some (zR (some 0)), some (zR (some 177)), some (zR (some a3)), some (zR (some a4)), some (zI i), some (zI x6), some (zI x7), none, none] [] h from zGo 1 392 1667 _ _ _).trans ?_
      rfl
  · skip
    refine (show zY 392 1648 [some (zR (some a0)), some (zR (some 0)), some (zR (some 177)), some (zR (some a3)), some (zR (some a4)), some (zI i), some (zI x6), some (zI x7), none, none] [] h = gd (inR (0)) (gd (([] : List zV).isEmpty = true ∧ (zrk 392 = 1 ∨ zrk 392 = 6 ∧ ((0 : Int) = 0 ∨ (0 : Int) = 1))) (some (.inl (some (zI 0)), h))) from zGo 2 392 1648 _ _ _).trans ?_
    refine (gd_t (by decide) _).trans ?_
    refine (gd_t (⟨rfl, Or.inr ⟨rfl, by decide⟩⟩) _).trans ?_
    rfl
theorem q_lw31_0 {h : zH} {a0 : Nat} {a3 : Nat} {a4 : Nat} {i : Int} (ta0 : hT h a0 = 22) (KC : KC h) (KM : KM h) (ta3 : hT h a3 = 23) (na3 : a3 < hN h) (ta4 : hT h a4 = 24) (na4 : a4 < hN h) : zY 392 1670 [some (zR (some a0)), some (zR (some 0)), some (zR (some 177)), some (zR (some a3)), some (zR (some a4)), some (zI i), none, none, none, none] [] h =
    gd (-2147483648 ≤ i + 1 ∧ i + 1 < 2147483648) (
    gd (0 ≤ (i + 1) ∧ (i + 1) < (hL h a0 : Int)) (
    zBack zY 392 1678 1681 [some (zR (some a0)), some (zR (some 0)), some (zR (some 177)), some (zR (some a3)), some (zR (some a4)), some (zI i), none, none, none, none] [] (zC 370 [zR (some 0), zI (hI h a0 (i + 1).toNat), zR (some a3)] h))) := by
  refine (show zY 392 1670 [some (zR (some a0)), some (zR (some 0)), some (zR (some 177)), some (zR (some a3)), some (zR (some a4)), some (zI i), none, none, none, none] [] h = gd (inR (1)) (gd (inR (i + 1)) (gd (zok h (some a0) 22 (i + 1)) (gd (false = zctor 370 ∧ zcs [] ≤ 8 ∧ zrm 392 (zrf 370 + 1) (8 + (zmaxl 370 + 11) + zrl 370) = true ∧ zcs [zR (some 0), zI (hI h a0 (i + 1).toNat), zR (some a3)] ≤ zmaxl 370) (zBack zY 392 1678 1681 [some (zR (some a0)), some (zR (some 0)), some (zR (some 177)), some (zR (some a3)), some (zR (some a4)), some (zI i), none, none, none, none] [] (zC 370 [zR (some 0), zI (hI h a0 (i + 1).toNat), zR (some a3)] h))))) from zGo 8 392 1670 _ _ _).trans ?_
  refine (gd_t (by decide) _).trans ?_
  refine gd_c Iff.rfl (fun c0 => ?_)
  refine gd_c (ci ta0 rfl) (fun c1 => ?_)
  refine (gd_t (⟨rfl, Nat.le_of_ble_eq_true rfl, rfl, Nat.le_of_ble_eq_true rfl⟩) _).trans ?_
  rfl
theorem q_lw31_1 {h : zH} {a0 : Nat} {a3 : Nat} {a4 : Nat} {i : Int} {y : Int} (ta0 : hT h a0 = 22) (KC : KC h) (KM : KM h) (ta3 : hT h a3 = 23) (na3 : a3 < hN h) (ta4 : hT h a4 = 24) (na4 : a4 < hN h) : zBack zY 392 1678 1681 [some (zR (some a0)), some (zR (some 0)), some (zR (some 177)), some (zR (some a3)), some (zR (some a4)), some (zI i), none, none, none, none] [] (some (.inl (some (zI y)), h)) =
    gd (-2147483648 ≤ i + 1 ∧ i + 1 < 2147483648) (
    gd (0 ≤ (i + 1) ∧ (i + 1) < (hL h a0 : Int)) (
    zBack zY 392 1690 1693 [some (zR (some a0)), some (zR (some 0)), some (zR (some 177)), some (zR (some a3)), some (zR (some a4)), some (zI i), some (zI y), none, none, none] [] (zC 334 [zR (some 177), zI (hI h a0 (i + 1).toNat)] h))) := by
  refine (show zBack zY 392 1678 1681 [some (zR (some a0)), some (zR (some 0)), some (zR (some 177)), some (zR (some a3)), some (zR (some a4)), some (zI i), none, none, none, none] [] (some (.inl (some (zI y)), h)) = gd (inR (1)) (gd (inR (i + 1)) (gd (zok h (some a0) 22 (i + 1)) (gd (false = zctor 334 ∧ zcs [] ≤ 8 ∧ zrm 392 (zrf 334 + 1) (8 + (zmaxl 334 + 11) + zrl 334) = true ∧ zcs [zR (some 177), zI (hI h a0 (i + 1).toNat)] ≤ zmaxl 334) (gd (zob h (some 177) 12) (zBack zY 392 1690 1693 [some (zR (some a0)), some (zR (some 0)), some (zR (some 177)), some (zR (some a3)), some (zR (some a4)), some (zI i), some (zI y), none, none, none] [] (zC 334 [zR (some 177), zI (hI h a0 (i + 1).toNat)] h)))))) from zGo 8 392 1681 _ _ _).trans ?_
  refine (gd_t (by decide) _).trans ?_
  refine gd_c Iff.rfl (fun c0 => ?_)
  refine gd_c (ci ta0 rfl) (fun c1 => ?_)
  refine (gd_t (⟨rfl, Nat.le_of_ble_eq_true rfl, rfl, Nat.le_of_ble_eq_true rfl⟩) _).trans ?_
  refine (gd_t (⟨rfl, (PTM KM 177 _ rfl rfl), (PNM KM 177 rfl)⟩) _).trans ?_
  rfl
theorem q_lw31_2 {h : zH} {a0 : Nat} {a3 : Nat} {a4 : Nat} {i : Int} {x6 : Int} {y : Int} (ta0 : hT h a0 = 22) (KC : KC h) (KM : KM h) (ta3 : hT h a3 = 23) (na3 : a3 < hN h) (ta4 : hT h a4 = 24) (na4 : a4 < hN h) : zBack zY 392 1690 1693 [some (zR (some a0)), some (zR (some 0)), some (zR (some 177)), some (zR (some a3)), some (zR (some a4)), some (zI i), some (zI x6), none, none, none] [] (some (.inl (some (zI y)), h)) =
    zBack zY 392 1696 1699 [some (zR (some a0)), some (zR (some 0)), some (zR (some 177)), some (zR (some a3)), some (zR (some a4)), some (zI i), some (zI x6), some (zI y), none, none] [] (zC 208 [zR (some 177)] h) := by
  refine (show zBack zY 392 1690 1693 [some (zR (some a0)), some (zR (some 0)), some (zR (some 177)), some (zR (some a3)), some (zR (some a4)), some (zI i), some (zI x6), none, none, none] [] (some (.inl (some (zI y)), h)) = gd (false = zctor 208 ∧ zcs [] ≤ 8 ∧ zrm 392 (zrf 208 + 1) (8 + (zmaxl 208 + 11) + zrl 208) = true ∧ zcs [zR (some 177)] ≤ zmaxl 208) (gd (zob h (some 177) 12) (zBack zY 392 1696 1699 [some (zR (some a0)), some (zR (some 0)), some (zR (some 177)), some (zR (some a3)), some (zR (some a4)), some (zI i), some (zI x6), some (zI y), none, none] [] (zC 208 [zR (some 177)] h))) from zGo 3 392 1693 _ _ _).trans ?_
  refine (gd_t (⟨rfl, Nat.le_of_ble_eq_true rfl, rfl, Nat.le_of_ble_eq_true rfl⟩) _).trans ?_
  refine (gd_t (⟨rfl, (PTM KM 177 _ rfl rfl), (PNM KM 177 rfl)⟩) _).trans ?_
  rfl
theorem q_lw31_3 {h : zH} {a0 : Nat} {a3 : Nat} {a4 : Nat} {i : Int} {x6 : Int} {x7 : Int} {y : Int} (ta0 : hT h a0 = 22) (KC : KC h) (KM : KM h) (ta3 : hT h a3 = 23) (na3 : a3 < hN h) (ta4 : hT h a4 = 24) (na4 : a4 < hN h) : zBack zY 392 1696 1699 [some (zR (some a0)), some (zR (some 0)), some (zR (some 177)), some (zR (some a3)), some (zR (some a4)), some (zI i), some (zI x6), some (zI x7), none, none] [] (some (.inl (some (zI y)), h)) =
    if y = x6 then
      if x6 = 0 then
        gd ((0 : Int) ≤ 0 ∧ 0 < (hL h a3 : Int)) (
        if (hJ h a3 0) = (zi2l x7) then
          zY 392 2378 [some (zR (some a0)), some (zR (some 0)), some (zR (some 177)), some (zR (some a3)), some (zR (some a4)), some (zI i), some (zI x6), some (zI x7), none, none] [] h
        else
          some (.inl (some (zI 0)), h))
      else
        zY 392 2378 [some (zR (some a0)), some (zR (some 0)), some (zR (some 177)), some (zR (some a3)), some (zR (some a4)), some (zI i), some (zI x6), some (zI x7), none, none] [] h
    else
      some (.inl (some (zI 0)), h) := by
  refine (show zBack zY 392 1696 1699 [some (zR (some a0)), some (zR (some 0)), some (zR (some 177)), some (zR (some a3)), some (zR (some a4)), some (zI i), some (zI x6), some (zI x7), none, none] [] (some (.inl (some (zI y)), h)) = if y = x6 then zY 392 1706 [some (zR (some a0)), some (zR (some 0)), some (zR (some 177)), some (zR (some a3)), some (zR (some a4)), some (zI i), some (zI x6), some (zI x7), none, none] [] h else zY 392 1704 [some (zR (some a0)), some (zR (some 0)), some (zR (some 177)), some (zR (some a3)), some (zR (some a4)), some (zI i), some (zI x6), some (zI x7), none, none] [] h from zGo 2 392 1699 _ _ _).trans ?_
  refine iteC (fun c0 => ?_) (fun c0 => ?_)
  · skip
    refine (show zY 392 1706 [some (zR (some a0)), some (zR (some 0)), some (zR (some 177)), some (zR (some a3)), some (zR (some a4)), some (zI i), some (zI x6), some (zI x7), none, none] [] h = if x6 = 0 then zY 392 1711 [some (zR (some a0)), some (zR (some 0)), some (zR (some 177)), some (zR (some a3)), some (zR (some a4)), some (zI i), some (zI x6), some (zI x7), none, none] [] h else zY 392 1723 [some (zR (some a0)), some (zR (some 0)), some (zR (some 177)), some (zR (some a3)), some (zR (some a4)), some (zI i), some (zI x6), some (zI x7), none, none] [] h from zGo 2 392 1706 _ _ _).trans ?_
    refine iteC (fun c1 => ?_) (fun c1 => ?_)
    · skip
      refine (show zY 392 1711 [some (zR (some a0)), some (zR (some 0)), some (zR (some 177)), some (zR (some a3)), some (zR (some a4)), some (zI i), some (zI x6), some (zI x7), none, none] [] h = gd (inR (0)) (gd (zok h (some a3) 23 0) (if (zlcmp (hJ h a3 0) (zi2l x7)) = 0 then zY 392 1723 [some (zR (some a0)), some (zR (some 0)), some (zR (some 177)), some (zR (some a3)), some (zR (some a4)), some (zI i), some (zI x6), some (zI x7), none, none] [] h else zY 392 1721 [some (zR (some a0)), some (zR (some 0)), some (zR (some 177)), some (zR (some a3)), some (zR (some a4)), some (zI i), some (zI x6), some (zI x7), none, none] [] h)) from zGo 7 392 1711 _ _ _).trans ?_
      refine (gd_t (by decide) _).trans ?_
      refine gd_c (ci ta3 rfl) (fun c2 => ?_)
      refine iteL (fun c3 => ?_) (fun c3 => ?_)
      · skip
        refine (show zY 392 1723 [some (zR (some a0)), some (zR (some 0)), some (zR (some 177)), some (zR (some a3)), some (zR (some a4)), some (zI i), some (zI x6), some (zI x7), none, none] [] h = zY 392 2378 [some (zR (some a0)), some (zR (some 0)), some (zR (some 177)), some (zR (some a3)), some (zR (some a4)), some (zI i), some (zI x6), some (zI x7), none, none] [] h from zGo 1 392 1723 _ _ _).trans ?_
        rfl
      · skip
        refine (show zY 392 1721 [some (zR (some a0)), some (zR (some 0)), some (zR (some 177)), some (zR (some a3)), some (zR (some a4)), some (zI i), some (zI x6), some (zI x7), none, none] [] h = gd (inR (0)) (gd (([] : List zV).isEmpty = true ∧ (zrk 392 = 1 ∨ zrk 392 = 6 ∧ ((0 : Int) = 0 ∨ (0 : Int) = 1))) (some (.inl (some (zI 0)), h))) from zGo 2 392 1721 _ _ _).trans ?_
        refine (gd_t (by decide) _).trans ?_
        refine (gd_t (⟨rfl, Or.inr ⟨rfl, by decide⟩⟩) _).trans ?_
        rfl
    · skip
      refine (show zY 392 1723 [some (zR (some a0)), some (zR (some 0)), some (zR (some 177)), some (zR (some a3)), some (zR (some a4)), some (zI i), some (zI x6), some (zI x7), none, none] [] h = zY 392 2378 [some (zR (some a0)), some (zR (some 0)), some (zR (some 177)), some (zR (some a3)), some (zR (some a4)), some (zI i), some (zI x6), some (zI x7), none, none] [] h from zGo 1 392 1723 _ _ _).trans ?_
      rfl
  · skip
    refine (show zY 392 1704 [some (zR (some a0)), some (zR (some 0)), some (zR (some 177)), some (zR (some a3)), some (zR (some a4)), some (zI i), some (zI x6), some (zI x7), none, none] [] h = gd (inR (0)) (gd (([] : List zV).isEmpty = true ∧ (zrk 392 = 1 ∨ zrk 392 = 6 ∧ ((0 : Int) = 0 ∨ (0 : Int) = 1))) (some (.inl (some (zI 0)), h))) from zGo 2 392 1704 _ _ _).trans ?_
    refine (gd_t (by decide) _).trans ?_
    refine (gd_t (⟨rfl, Or.inr ⟨rfl, by decide⟩⟩) _).trans ?_
    rfl
theorem q_lw32_0 {h : zH} {a0 : Nat} {a3 : Nat} {a4 : Nat} {i : Int} (ta0 : hT h a0 = 22) (KC : KC h) (KM : KM h) (ta3 : hT h a3 = 23) (na3 : a3 < hN h) (ta4 : hT h a4 = 24) (na4 : a4 < hN h) : zY 392 1726 [some (zR (some a0)), some (zR (some 0)), some (zR (some 177)), some (zR (some a3)), some (zR (some a4)), some (zI i), none, none, none, none] [] h =
    gd (-2147483648 ≤ i + 1 ∧ i + 1 < 2147483648) (
    gd (0 ≤ (i + 1) ∧ (i + 1) < (hL h a0 : Int)) (
    zBack zY 392 1734 1737 [some (zR (some a0)), some (zR (some 0)), some (zR (some 177)), some (zR (some a3)), some (zR (some a4)), some (zI i), none, none, none, none] [] (zC 371 [zR (some 0), zI (hI h a0 (i + 1).toNat), zR (some a3)] h))) := by
  refine (show zY 392 1726 [some (zR (some a0)), some (zR (some 0)), some (zR (some 177)), some (zR (some a3)), some (zR (some a4)), some (zI i), none, none, none, none] [] h = gd (inR (1)) (gd (inR (i + 1)) (gd (zok h (some a0) 22 (i + 1)) (gd (false = zctor 371 ∧ zcs [] ≤ 8 ∧ zrm 392 (zrf 371 + 1) (8 + (zmaxl 371 + 11) + zrl 371) = true ∧ zcs [zR (some 0), zI (hI h a0 (i + 1).toNat), zR (some a3)] ≤ zmaxl 371) (zBack zY 392 1734 1737 [some (zR (some a0)), some (zR (some 0)), some (zR (some 177)), some (zR (some a3)), some (zR (some a4)), some (zI i), none, none, none, none] [] (zC 371 [zR (some 0), zI (hI h a0 (i + 1).toNat), zR (some a3)] h))))) from zGo 8 392 1726 _ _ _).trans ?_
  refine (gd_t (by decide) _).trans ?_
  refine gd_c Iff.rfl (fun c0 => ?_)
  refine gd_c (ci ta0 rfl) (fun c1 => ?_)
  refine (gd_t (⟨rfl, Nat.le_of_ble_eq_true rfl, rfl, Nat.le_of_ble_eq_true rfl⟩) _).trans ?_
  rfl
theorem q_lw32_1 {h : zH} {a0 : Nat} {a3 : Nat} {a4 : Nat} {i : Int} {y : Int} (ta0 : hT h a0 = 22) (KC : KC h) (KM : KM h) (ta3 : hT h a3 = 23) (na3 : a3 < hN h) (ta4 : hT h a4 = 24) (na4 : a4 < hN h) : zBack zY 392 1734 1737 [some (zR (some a0)), some (zR (some 0)), some (zR (some 177)), some (zR (some a3)), some (zR (some a4)), some (zI i), none, none, none, none] [] (some (.inl (some (zI y)), h)) =
    gd (-2147483648 ≤ i + 1 ∧ i + 1 < 2147483648) (
    gd (0 ≤ (i + 1) ∧ (i + 1) < (hL h a0 : Int)) (
    zBack zY 392 1746 1749 [some (zR (some a0)), some (zR (some 0)), some (zR (some 177)), some (zR (some a3)), some (zR (some a4)), some (zI i), some (zI y), none, none, none] [] (zC 335 [zR (some 177), zI (hI h a0 (i + 1).toNat)] h))) := by
  refine (show zBack zY 392 1734 1737 [some (zR (some a0)), some (zR (some 0)), some (zR (some 177)), some (zR (some a3)), some (zR (some a4)), some (zI i), none, none, none, none] [] (some (.inl (some (zI y)), h)) = gd (inR (1)) (gd (inR (i + 1)) (gd (zok h (some a0) 22 (i + 1)) (gd (false = zctor 335 ∧ zcs [] ≤ 8 ∧ zrm 392 (zrf 335 + 1) (8 + (zmaxl 335 + 11) + zrl 335) = true ∧ zcs [zR (some 177), zI (hI h a0 (i + 1).toNat)] ≤ zmaxl 335) (gd (zob h (some 177) 12) (zBack zY 392 1746 1749 [some (zR (some a0)), some (zR (some 0)), some (zR (some 177)), some (zR (some a3)), some (zR (some a4)), some (zI i), some (zI y), none, none, none] [] (zC 335 [zR (some 177), zI (hI h a0 (i + 1).toNat)] h)))))) from zGo 8 392 1737 _ _ _).trans ?_
  refine (gd_t (by decide) _).trans ?_
  refine gd_c Iff.rfl (fun c0 => ?_)
  refine gd_c (ci ta0 rfl) (fun c1 => ?_)
  refine (gd_t (⟨rfl, Nat.le_of_ble_eq_true rfl, rfl, Nat.le_of_ble_eq_true rfl⟩) _).trans ?_
  refine (gd_t (⟨rfl, (PTM KM 177 _ rfl rfl), (PNM KM 177 rfl)⟩) _).trans ?_
  rfl
theorem q_lw32_2 {h : zH} {a0 : Nat} {a3 : Nat} {a4 : Nat} {i : Int} {x6 : Int} {y : Int} (ta0 : hT h a0 = 22) (KC : KC h) (KM : KM h) (ta3 : hT h a3 = 23) (na3 : a3 < hN h) (ta4 : hT h a4 = 24) (na4 : a4 < hN h) : zBack zY 392 1746 1749 [some (zR (some a0)), some (zR (some 0)), some (zR (some 177)), some (zR (some a3)), some (zR (some a4)), some (zI i), some (zI x6), none, none, none] [] (some (.inl (some (zI y)), h)) =
    zBack zY 392 1752 1755 [some (zR (some a0)), some (zR (some 0)), some (zR (some 177)), some (zR (some a3)), some (zR (some a4)), some (zI i), some (zI x6), some (zI y), none, none] [] (zC 208 [zR (some 177)] h) := by
  refine (show zBack zY 392 1746 1749 [some (zR (some a0)), some (zR (some 0)), some (zR (some 177)), some (zR (some a3)), some (zR (some a4)), some (zI i), some (zI x6), none, none, none] [] (some (.inl (some (zI y)), h)) = gd (false = zctor 208 ∧ zcs [] ≤ 8 ∧ zrm 392 (zrf 208 + 1) (8 + (zmaxl 208 + 11) + zrl 208) = true ∧ zcs [zR (some 177)] ≤ zmaxl 208) (gd (zob h (some 177) 12) (zBack zY 392 1752 1755 [some (zR (some a0)), some (zR (some 0)), some (zR (some 177)), some (zR (some a3)), some (zR (some a4)), some (zI i), some (zI x6), some (zI y), none, none] [] (zC 208 [zR (some 177)] h))) from zGo 3 392 1749 _ _ _).trans ?_
  refine (gd_t (⟨rfl, Nat.le_of_ble_eq_true rfl, rfl, Nat.le_of_ble_eq_true rfl⟩) _).trans ?_
  refine (gd_t (⟨rfl, (PTM KM 177 _ rfl rfl), (PNM KM 177 rfl)⟩) _).trans ?_
  rfl
theorem q_lw32_3 {h : zH} {a0 : Nat} {a3 : Nat} {a4 : Nat} {i : Int} {x6 : Int} {x7 : Int} {y : Int} (ta0 : hT h a0 = 22) (KC : KC h) (KM : KM h) (ta3 : hT h a3 = 23) (na3 : a3 < hN h) (ta4 : hT h a4 = 24) (na4 : a4 < hN h) : zBack zY 392 1752 1755 [some (zR (some a0)), some (zR (some 0)), some (zR (some 177)), some (zR (some a3)), some (zR (some a4)), some (zI i), some (zI x6), some (zI x7), none, none] [] (some (.inl (some (zI y)), h)) =
    if y = x6 then
      if x6 = 0 then
        gd ((0 : Int) ≤ 0 ∧ 0 < (hL h a3 : Int)) (
        if (hJ h a3 0) = (zi2l x7) then
          zY 392 2378 [some (zR (some a0)), some (zR (some 0)), some (zR (some 177)), some (zR (some a3)), some (zR (some a4)), some (zI i), some (zI x6), some (zI x7), none, none] [] h
        else
          some (.inl (some (zI 0)), h))
      else
        zY 392 2378 [some (zR (some a0)), some (zR (some 0)), some (zR (some 177)), some (zR (some a3)), some (zR (some a4)), some (zI i), some (zI x6), some (zI x7), none, none] [] h
    else
      some (.inl (some (zI 0)), h) := by
  refine (show zBack zY 392 1752 1755 [some (zR (some a0)), some (zR (some 0)), some (zR (some 177)), some (zR (some a3)), some (zR (some a4)), some (zI i), some (zI x6), some (zI x7), none, none] [] (some (.inl (some (zI y)), h)) = if y = x6 then zY 392 1762 [some (zR (some a0)), some (zR (some 0)), some (zR (some 177)), some (zR (some a3)), some (zR (some a4)), some (zI i), some (zI x6), some (zI x7), none, none] [] h else zY 392 1760 [some (zR (some a0)), some (zR (some 0)), some (zR (some 177)), some (zR (some a3)), some (zR (some a4)), some (zI i), some (zI x6), some (zI x7), none, none] [] h from zGo 2 392 1755 _ _ _).trans ?_
  refine iteC (fun c0 => ?_) (fun c0 => ?_)
  · skip
    refine (show zY 392 1762 [some (zR (some a0)), some (zR (some 0)), some (zR (some 177)), some (zR (some a3)), some (zR (some a4)), some (zI i), some (zI x6), some (zI x7), none, none] [] h = if x6 = 0 then zY 392 1767 [some (zR (some a0)), some (zR (some 0)), some (zR (some 177)), some (zR (some a3)), some (zR (some a4)), some (zI i), some (zI x6), some (zI x7), none, none] [] h else zY 392 1779 [some (zR (some a0)), some (zR (some 0)), some (zR (some 177)), some (zR (some a3)), some (zR (some a4)), some (zI i), some (zI x6), some (zI x7), none, none] [] h from zGo 2 392 1762 _ _ _).trans ?_
    refine iteC (fun c1 => ?_) (fun c1 => ?_)
    · skip
      refine (show zY 392 1767 [some (zR (some a0)), some (zR (some 0)), some (zR (some 177)), some (zR (some a3)), some (zR (some a4)), some (zI i), some (zI x6), some (zI x7), none, none] [] h = gd (inR (0)) (gd (zok h (some a3) 23 0) (if (zlcmp (hJ h a3 0) (zi2l x7)) = 0 then zY 392 1779 [some (zR (some a0)), some (zR (some 0)), some (zR (some 177)), some (zR (some a3)), some (zR (some a4)), some (zI i), some (zI x6), some (zI x7), none, none] [] h else zY 392 1777 [some (zR (some a0)), some (zR (some 0)), some (zR (some 177)), some (zR (some a3)), some (zR (some a4)), some (zI i), some (zI x6), some (zI x7), none, none] [] h)) from zGo 7 392 1767 _ _ _).trans ?_
      refine (gd_t (by decide) _).trans ?_
      refine gd_c (ci ta3 rfl) (fun c2 => ?_)
      refine iteL (fun c3 => ?_) (fun c3 => ?_)
      · skip
        refine (show zY 392 1779 [some (zR (some a0)), some (zR (some 0)), some (zR (some 177)), some (zR (some a3)), some (zR (some a4)), some (zI i), some (zI x6), some (zI x7), none, none] [] h = zY 392 2378 [some (zR (some a0)), some (zR (some 0)), some (zR (some 177)), some (zR (some a3)), some (zR (some a4)), some (zI i), some (zI x6), some (zI x7), none, none] [] h from zGo 1 392 1779 _ _ _).trans ?_
        rfl
      · skip
        refine (show zY 392 1777 [some (zR (some a0)), some (zR (some 0)), some (zR (some 177)), some (zR (some a3)), some (zR (some a4)), some (zI i), some (zI x6), some (zI x7), none, none] [] h = gd (inR (0)) (gd (([] : List zV).isEmpty = true ∧ (zrk 392 = 1 ∨ zrk 392 = 6 ∧ ((0 : Int) = 0 ∨ (0 : Int) = 1))) (some (.inl (some (zI 0)), h))) from zGo 2 392 1777 _ _ _).trans ?_
        refine (gd_t (by decide) _).trans ?_
        refine (gd_t (⟨rfl, Or.inr ⟨rfl, by decide⟩⟩) _).trans ?_
        rfl
    · skip
      refine (show zY 392 1779 [some (zR (some a0)), some (zR (some 0)), some (zR (some 177)), some (zR (some a3)), some (zR (some a4)), some (zI i), some (zI x6), some (zI x7), none, none] [] h = zY 392 2378 [some (zR (some a0)), some (zR (some 0)), some (zR (some 177)), some (zR (some a3)), some (zR (some a4)), some (zI i), some (zI x6), some (zI x7), none, none] [] h from zGo 1 392 1779 _ _ _).trans ?_
      rfl
  · skip
    refine (show zY 392 1760 [some (zR (some a0)), some (zR (some 0)), some (zR (some 177)), some (zR (some a3)), some (zR (some a4)), some (zI i), some (zI x6), some (zI x7), none, none] [] h = gd (inR (0)) (gd (([] : List zV).isEmpty = true ∧ (zrk 392 = 1 ∨ zrk 392 = 6 ∧ ((0 : Int) = 0 ∨ (0 : Int) = 1))) (some (.inl (some (zI 0)), h))) from zGo 2 392 1760 _ _ _).trans ?_
    refine (gd_t (by decide) _).trans ?_
    refine (gd_t (⟨rfl, Or.inr ⟨rfl, by decide⟩⟩) _).trans ?_
    rfl
theorem q_lw33_0 {h : zH} {a0 : Nat} {a3 : Nat} {a4 : Nat} {i : Int} (ta0 : hT h a0 = 22) (KC : KC h) (KM : KM h) (ta3 : hT h a3 = 23) (na3 : a3 < hN h) (ta4 : hT h a4 = 24) (na4 : a4 < hN h) : zY 392 1782 [some (zR (some a0)), some (zR (some 0)), some (zR (some 177)), some (zR (some a3)), some (zR (some a4)), some (zI i), none, none, none, none] [] h =
    gd (-2147483648 ≤ i + 1 ∧ i + 1 < 2147483648) (
    gd (0 ≤ (i + 1) ∧ (i + 1) < (hL h a0 : Int)) (
    zBack zY 392 1790 1793 [some (zR (some a0)), some (zR (some 0)), some (zR (some 177)), some (zR (some a3)), some (zR (some a4)), some (zI i), none, none, none, none] [] (zC 372 [zR (some 0), zI (hI h a0 (i + 1).toNat), zR (some a3)] h))) := by
  refine (show zY 392 1782 [some (zR (some a0)), some (zR (some 0)), some (zR (some 177)), some (zR (some a3)), some (zR (some a4)), some (zI i), none, none, none, none] [] h = gd (inR (1)) (gd (inR (i + 1)) (gd (zok h (some a0) 22 (i + 1)) (gd (false = zctor 372 ∧ zcs [] ≤ 8 ∧ zrm 392 (zrf 372 + 1) (8 + (zmaxl 372 + 11) + zrl 372) = true ∧ zcs [zR (some 0), zI (hI h a0 (i + 1).toNat), zR (some a3)] ≤ zmaxl 372) (zBack zY 392 1790 1793 [some (zR (some a0)), some (zR (some 0)), some (zR (some 177)), some (zR (some a3)), some (zR (some a4)), some (zI i), none, none, none, none] [] (zC 372 [zR (some 0), zI (hI h a0 (i + 1).toNat), zR (some a3)] h))))) from zGo 8 392 1782 _ _ _).trans ?_
  refine (gd_t (by decide) _).trans ?_
  refine gd_c Iff.rfl (fun c0 => ?_)
  refine gd_c (ci ta0 rfl) (fun c1 => ?_)
  refine (gd_t (⟨rfl, Nat.le_of_ble_eq_true rfl, rfl, Nat.le_of_ble_eq_true rfl⟩) _).trans ?_
  rfl
theorem q_lw33_1 {h : zH} {a0 : Nat} {a3 : Nat} {a4 : Nat} {i : Int} {y : Int} (ta0 : hT h a0 = 22) (KC : KC h) (KM : KM h) (ta3 : hT h a3 = 23) (na3 : a3 < hN h) (ta4 : hT h a4 = 24) (na4 : a4 < hN h) : zBack zY 392 1790 1793 [some (zR (some a0)), some (zR (some 0)), some (zR (some 177)), some (zR (some a3)), some (zR (some a4)), some (zI i), none, none, none, none] [] (some (.inl (some (zI y)), h)) =
    gd (-2147483648 ≤ i + 1 ∧ i + 1 < 2147483648) (
    gd (0 ≤ (i + 1) ∧ (i + 1) < (hL h a0 : Int)) (
    zBack zY 392 1802 1805 [some (zR (some a0)), some (zR (some 0)), some (zR (some 177)), some (zR (some a3)), some (zR (some a4)), some (zI i), some (zI y), none, none, none] [] (zC 336 [zR (some 177), zI (hI h a0 (i + 1).toNat)] h))) := by
  refine (show zBack zY 392 1790 1793 [some (zR (some a0)), some (zR (some 0)), some (zR (some 177)), some (zR (some a3)), some (zR (some a4)), some (zI i), none, none, none, none] [] (some (.inl (some (zI y)), h)) = gd (inR (1)) (gd (inR (i + 1)) (gd (zok h (some a0) 22 (i + 1)) (gd (false = zctor 336 ∧ zcs [] ≤ 8 ∧ zrm 392 (zrf 336 + 1) (8 + (zmaxl 336 + 11) + zrl 336) = true ∧ zcs [zR (some 177), zI (hI h a0 (i + 1).toNat)] ≤ zmaxl 336) (gd (zob h (some 177) 12) (zBack zY 392 1802 1805 [some (zR (some a0)), some (zR (some 0)), some (zR (some 177)), some (zR (some a3)), some (zR (some a4)), some (zI i), some (zI y), none, none, none] [] (zC 336 [zR (some 177), zI (hI h a0 (i + 1).toNat)] h)))))) from zGo 8 392 1793 _ _ _).trans ?_
  refine (gd_t (by decide) _).trans ?_
  refine gd_c Iff.rfl (fun c0 => ?_)
  refine gd_c (ci ta0 rfl) (fun c1 => ?_)
  refine (gd_t (⟨rfl, Nat.le_of_ble_eq_true rfl, rfl, Nat.le_of_ble_eq_true rfl⟩) _).trans ?_
  refine (gd_t (⟨rfl, (PTM KM 177 _ rfl rfl), (PNM KM 177 rfl)⟩) _).trans ?_
  rfl
theorem q_lw33_2 {h : zH} {a0 : Nat} {a3 : Nat} {a4 : Nat} {i : Int} {x6 : Int} {y : Int} (ta0 : hT h a0 = 22) (KC : KC h) (KM : KM h) (ta3 : hT h a3 = 23) (na3 : a3 < hN h) (ta4 : hT h a4 = 24) (na4 : a4 < hN h) : zBack zY 392 1802 1805 [some (zR (some a0)), some (zR (some 0)), some (zR (some 177)), some (zR (some a3)), some (zR (some a4)), some (zI i), some (zI x6), none, none, none] [] (some (.inl (some (zI y)), h)) =
    zBack zY 392 1808 1811 [some (zR (some a0)), some (zR (some 0)), some (zR (some 177)), some (zR (some a3)), some (zR (some a4)), some (zI i), some (zI x6), some (zI y), none, none] [] (zC 208 [zR (some 177)] h) := by
  refine (show zBack zY 392 1802 1805 [some (zR (some a0)), some (zR (some 0)), some (zR (some 177)), some (zR (some a3)), some (zR (some a4)), some (zI i), some (zI x6), none, none, none] [] (some (.inl (some (zI y)), h)) = gd (false = zctor 208 ∧ zcs [] ≤ 8 ∧ zrm 392 (zrf 208 + 1) (8 + (zmaxl 208 + 11) + zrl 208) = true ∧ zcs [zR (some 177)] ≤ zmaxl 208) (gd (zob h (some 177) 12) (zBack zY 392 1808 1811 [some (zR (some a0)), some (zR (some 0)), some (zR (some 177)), some (zR (some a3)), some (zR (some a4)), some (zI i), some (zI x6), some (zI y), none, none] [] (zC 208 [zR (some 177)] h))) from zGo 3 392 1805 _ _ _).trans ?_
  refine (gd_t (⟨rfl, Nat.le_of_ble_eq_true rfl, rfl, Nat.le_of_ble_eq_true rfl⟩) _).trans ?_
  refine (gd_t (⟨rfl, (PTM KM 177 _ rfl rfl), (PNM KM 177 rfl)⟩) _).trans ?_
  rfl
theorem q_lw33_3 {h : zH} {a0 : Nat} {a3 : Nat} {a4 : Nat} {i : Int} {x6 : Int} {x7 : Int} {y : Int} (ta0 : hT h a0 = 22) (KC : KC h) (KM : KM h) (ta3 : hT h a3 = 23) (na3 : a3 < hN h) (ta4 : hT h a4 = 24) (na4 : a4 < hN h) : zBack zY 392 1808 1811 [some (zR (some a0)), some (zR (some 0)), some (zR (some 177)), some (zR (some a3)), some (zR (some a4)), some (zI i), some (zI x6), some (zI x7), none, none] [] (some (.inl (some (zI y)), h)) =
    if y = x6 then
      if x6 = 0 then
        gd ((0 : Int) ≤ 0 ∧ 0 < (hL h a3 : Int)) (
        if (hJ h a3 0) = (zi2l x7) then
          zY 392 2378 [some (zR (some a0)), some (zR (some 0)), some (zR (some 177)), some (zR (some a3)), some (zR (some a4)), some (zI i), some (zI x6), some (zI x7), none, none] [] h
        else
          some (.inl (some (zI 0)), h))
      else
        zY 392 2378 [some (zR (some a0)), some (zR (some 0)), some (zR (some 177)), some (zR (some a3)), some (zR (some a4)), some (zI i), some (zI x6), some (zI x7), none, none] [] h
    else
      some (.inl (some (zI 0)), h) := by
  refine (show zBack zY 392 1808 1811 [some (zR (some a0)), some (zR (some 0)), some (zR (some 177)), some (zR (some a3)), some (zR (some a4)), some (zI i), some (zI x6), some (zI x7), none, none] [] (some (.inl (some (zI y)), h)) = if y = x6 then zY 392 1818 [some (zR (some a0)), some (zR (some 0)), some (zR (some 177)), some (zR (some a3)), some (zR (some a4)), some (zI i), some (zI x6), some (zI x7), none, none] [] h else zY 392 1816 [some (zR (some a0)), some (zR (some 0)), some (zR (some 177)), some (zR (some a3)), some (zR (some a4)), some (zI i), some (zI x6), some (zI x7), none, none] [] h from zGo 2 392 1811 _ _ _).trans ?_
  refine iteC (fun c0 => ?_) (fun c0 => ?_)
  · skip
    refine (show zY 392 1818 [some (zR (some a0)), some (zR (some 0)), some (zR (some 177)), some (zR (some a3)), some (zR (some a4)), some (zI i), some (zI x6), some (zI x7), none, none] [] h = if x6 = 0 then zY 392 1823 [some (zR (some a0)), some (zR (some 0)), some (zR (some 177)), some (zR (some a3)), some (zR (some a4)), some (zI i), some (zI x6), some (zI x7), none, none] [] h else zY 392 1835 [some (zR (some a0)), some (zR (some 0)), some (zR (some 177)), some (zR (some a3)), some (zR (some a4)), some (zI i), some (zI x6), some (zI x7), none, none] [] h from zGo 2 392 1818 _ _ _).trans ?_
    refine iteC (fun c1 => ?_) (fun c1 => ?_)
    · skip
      refine (show zY 392 1823 [some (zR (some a0)), some (zR (some 0)), some (zR (some 177)), some (zR (some a3)), some (zR (some a4)), some (zI i), some (zI x6), some (zI x7), none, none] [] h = gd (inR (0)) (gd (zok h (some a3) 23 0) (if (zlcmp (hJ h a3 0) (zi2l x7)) = 0 then zY 392 1835 [some (zR (some a0)), some (zR (some 0)), some (zR (some 177)), some (zR (some a3)), some (zR (some a4)), some (zI i), some (zI x6), some (zI x7), none, none] [] h else zY 392 1833 [some (zR (some a0)), some (zR (some 0)), some (zR (some 177)), some (zR (some a3)), some (zR (some a4)), some (zI i), some (zI x6), some (zI x7), none, none] [] h)) from zGo 7 392 1823 _ _ _).trans ?_
      refine (gd_t (by decide) _).trans ?_
      refine gd_c (ci ta3 rfl) (fun c2 => ?_)
      refine iteL (fun c3 => ?_) (fun c3 => ?_)
      · skip
        refine (show zY 392 1835 [some (zR (some a0)), some (zR (some 0)), some (zR (some 177)), some (zR (some a3)), some (zR (some a4)), some (zI i), some (zI x6), some (zI x7), none, none] [] h = zY 392 2378 [some (zR (some a0)), some (zR (some 0)), some (zR (some 177)), some (zR (some a3)), some (zR (some a4)), some (zI i), some (zI x6), some (zI x7), none, none] [] h from zGo 1 392 1835 _ _ _).trans ?_
        rfl
      · skip
        refine (show zY 392 1833 [some (zR (some a0)), some (zR (some 0)), some (zR (some 177)), some (zR (some a3)), some (zR (some a4)), some (zI i), some (zI x6), some (zI x7), none, none] [] h = gd (inR (0)) (gd (([] : List zV).isEmpty = true ∧ (zrk 392 = 1 ∨ zrk 392 = 6 ∧ ((0 : Int) = 0 ∨ (0 : Int) = 1))) (some (.inl (some (zI 0)), h))) from zGo 2 392 1833 _ _ _).trans ?_
        refine (gd_t (by decide) _).trans ?_
        refine (gd_t (⟨rfl, Or.inr ⟨rfl, by decide⟩⟩) _).trans ?_
        rfl
    · skip
      refine (show zY 392 1835 [some (zR (some a0)), some (zR (some 0)), some (zR (some 177)), some (zR (some a3)), some (zR (some a4)), some (zI i), some (zI x6), some (zI x7), none, none] [] h = zY 392 2378 [some (zR (some a0)), some (zR (some 0)), some (zR (some 177)), some (zR (some a3)), some (zR (some a4)), some (zI i), some (zI x6), some (zI x7), none, none] [] h from zGo 1 392 1835 _ _ _).trans ?_
      rfl
  · skip
    refine (show zY 392 1816 [some (zR (some a0)), some (zR (some 0)), some (zR (some 177)), some (zR (some a3)), some (zR (some a4)), some (zI i), some (zI x6), some (zI x7), none, none] [] h = gd (inR (0)) (gd (([] : List zV).isEmpty = true ∧ (zrk 392 = 1 ∨ zrk 392 = 6 ∧ ((0 : Int) = 0 ∨ (0 : Int) = 1))) (some (.inl (some (zI 0)), h))) from zGo 2 392 1816 _ _ _).trans ?_
    refine (gd_t (by decide) _).trans ?_
    refine (gd_t (⟨rfl, Or.inr ⟨rfl, by decide⟩⟩) _).trans ?_
    rfl
theorem q_lw34_0 {h : zH} {a0 : Nat} {a3 : Nat} {a4 : Nat} {i : Int} (ta0 : hT h a0 = 22) (KC : KC h) (KM : KM h) (ta3 : hT h a3 = 23) (na3 : a3 < hN h) (ta4 : hT h a4 = 24) (na4 : a4 < hN h) : zY 392 1838 [some (zR (some a0)), some (zR (some 0)), some (zR (some 177)), some (zR (some a3)), some (zR (some a4)), some (zI i), none, none, none, none] [] h =
    gd (-2147483648 ≤ i + 1 ∧ i + 1 < 2147483648) (
    gd (0 ≤ (i + 1) ∧ (i + 1) < (hL h a0 : Int)) (
    zBack zY 392 1846 1849 [some (zR (some a0)), some (zR (some 0)), some (zR (some 177)), some (zR (some a3)), some (zR (some a4)), some (zI i), none, none, none, none] [] (zC 373 [zR (some 0), zI (hI h a0 (i + 1).toNat), zR (some a3)] h))) := by
  refine (show zY 392 1838 [some (zR (some a0)), some (zR (some 0)), some (zR (some 177)), some (zR (some a3)), some (zR (some a4)), some (zI i), none, none, none, none] [] h = gd (inR (1)) (gd (inR (i + 1)) (gd (zok h (some a0) 22 (i + 1)) (gd (false = zctor 373 ∧ zcs [] ≤ 8 ∧ zrm 392 (zrf 373 + 1) (8 + (zmaxl 373 + 11) + zrl 373) = true ∧ zcs [zR (some 0), zI (hI h a0 (i + 1).toNat), zR (some a3)] ≤ zmaxl 373) (zBack zY 392 1846 1849 [some (zR (some a0)), some (zR (some 0)), some (zR (some 177)), some (zR (some a3)), some (zR (some a4)), some (zI i), none, none, none, none] [] (zC 373 [zR (some 0), zI (hI h a0 (i + 1).toNat), zR (some a3)] h))))) from zGo 8 392 1838 _ _ _).trans ?_
  refine (gd_t (by decide) _).trans ?_
  refine gd_c Iff.rfl (fun c0 => ?_)
  refine gd_c (ci ta0 rfl) (fun c1 => ?_)
  refine (gd_t (⟨rfl, Nat.le_of_ble_eq_true rfl, rfl, Nat.le_of_ble_eq_true rfl⟩) _).trans ?_
  rfl
theorem q_lw34_1 {h : zH} {a0 : Nat} {a3 : Nat} {a4 : Nat} {i : Int} {y : Int} (ta0 : hT h a0 = 22) (KC : KC h) (KM : KM h) (ta3 : hT h a3 = 23) (na3 : a3 < hN h) (ta4 : hT h a4 = 24) (na4 : a4 < hN h) : zBack zY 392 1846 1849 [some (zR (some a0)), some (zR (some 0)), some (zR (some 177)), some (zR (some a3)), some (zR (some a4)), some (zI i), none, none, none, none] [] (some (.inl (some (zI y)), h)) =
    gd (-2147483648 ≤ i + 1 ∧ i + 1 < 2147483648) (
    gd (0 ≤ (i + 1) ∧ (i + 1) < (hL h a0 : Int)) (
    zBack zY 392 1858 1861 [some (zR (some a0)), some (zR (some 0)), some (zR (some 177)), some (zR (some a3)), some (zR (some a4)), some (zI i), some (zI y), none, none, none] [] (zC 338 [zR (some 177), zI (hI h a0 (i + 1).toNat)] h))) := by
  refine (show zBack zY 392 1846 1849 [some (zR (some a0)), some (zR (some 0)), some (zR (some 177)), some (zR (some a3)), some (zR (some a4)), some (zI i), none, none, none, none] [] (some (.inl (some (zI y)), h)) = gd (inR (1)) (gd (inR (i + 1)) (gd (zok h (some a0) 22 (i + 1)) (gd (false = zctor 338 ∧ zcs [] ≤ 8 ∧ zrm 392 (zrf 338 + 1) (8 + (zmaxl 338 + 11) + zrl 338) = true ∧ zcs [zR (some 177), zI (hI h a0 (i + 1).toNat)] ≤ zmaxl 338) (gd (zob h (some 177) 12) (zBack zY 392 1858 1861 [some (zR (some a0)), some (zR (some 0)), some (zR (some 177)), some (zR (some a3)), some (zR (some a4)), some (zI i), some (zI y), none, none, none] [] (zC 338 [zR (some 177), zI (hI h a0 (i + 1).toNat)] h)))))) from zGo 8 392 1849 _ _ _).trans ?_
  refine (gd_t (by decide) _).trans ?_
  refine gd_c Iff.rfl (fun c0 => ?_)
  refine gd_c (ci ta0 rfl) (fun c1 => ?_)
  refine (gd_t (⟨rfl, Nat.le_of_ble_eq_true rfl, rfl, Nat.le_of_ble_eq_true rfl⟩) _).trans ?_
  refine (gd_t (⟨rfl, (PTM KM 177 _ rfl rfl), (PNM KM 177 rfl)⟩) _).trans ?_
  rfl
theorem q_lw34_2 {h : zH} {a0 : Nat} {a3 : Nat} {a4 : Nat} {i : Int} {x6 : Int} {y : Int} (ta0 : hT h a0 = 22) (KC : KC h) (KM : KM h) (ta3 : hT h a3 = 23) (na3 : a3 < hN h) (ta4 : hT h a4 = 24) (na4 : a4 < hN h) : zBack zY 392 1858 1861 [some (zR (some a0)), some (zR (some 0)), some (zR (some 177)), some (zR (some a3)), some (zR (some a4)), some (zI i), some (zI x6), none, none, none] [] (some (.inl (some (zI y)), h)) =
    zBack zY 392 1864 1867 [some (zR (some a0)), some (zR (some 0)), some (zR (some 177)), some (zR (some a3)), some (zR (some a4)), some (zI i), some (zI x6), some (zI y), none, none] [] (zC 208 [zR (some 177)] h) := by
  refine (show zBack zY 392 1858 1861 [some (zR (some a0)), some (zR (some 0)), some (zR (some 177)), some (zR (some a3)), some (zR (some a4)), some (zI i), some (zI x6), none, none, none] [] (some (.inl (some (zI y)), h)) = gd (false = zctor 208 ∧ zcs [] ≤ 8 ∧ zrm 392 (zrf 208 + 1) (8 + (zmaxl 208 + 11) + zrl 208) = true ∧ zcs [zR (some 177)] ≤ zmaxl 208) (gd (zob h (some 177) 12) (zBack zY 392 1864 1867 [some (zR (some a0)), some (zR (some 0)), some (zR (some 177)), some (zR (some a3)), some (zR (some a4)), some (zI i), some (zI x6), some (zI y), none, none] [] (zC 208 [zR (some 177)] h))) from zGo 3 392 1861 _ _ _).trans ?_
  refine (gd_t (⟨rfl, Nat.le_of_ble_eq_true rfl, rfl, Nat.le_of_ble_eq_true rfl⟩) _).trans ?_
  refine (gd_t (⟨rfl, (PTM KM 177 _ rfl rfl), (PNM KM 177 rfl)⟩) _).trans ?_
  rfl
theorem q_lw34_3 {h : zH} {a0 : Nat} {a3 : Nat} {a4 : Nat} {i : Int} {x6 : Int} {x7 : Int} {y : Int} (ta0 : hT h a0 = 22) (KC : KC h) (KM : KM h) (ta3 : hT h a3 = 23) (na3 : a3 < hN h) (ta4 : hT h a4 = 24) (na4 : a4 < hN h) : zBack zY 392 1864 1867 [some (zR (some a0)), some (zR (some 0)), some (zR (some 177)), some (zR (some a3)), some (zR (some a4)), some (zI i), some (zI x6), some (zI x7), none, none] [] (some (.inl (some (zI y)), h)) =
    if y = x6 then
      if x6 = 0 then
        gd ((0 : Int) ≤ 0 ∧ 0 < (hL h a3 : Int)) (
        if (hJ h a3 0) = (zi2l x7) then
          zY 392 2378 [some (zR (some a0)), some (zR (some 0)), some (zR (some 177)), some (zR (some a3)), some (zR (some a4)), some (zI i), some (zI x6), some (zI x7), none, none] [] h
        else
          some (.inl (some (zI 0)), h))
      else
        zY 392 2378 [some (zR (some a0)), some (zR (some 0)), some (zR (some 177)), some (zR (some a3)), some (zR (some a4)), some (zI i), some (zI x6), some (zI x7), none, none] [] h
    else
      some (.inl (some (zI 0)), h) := by
  refine (show zBack zY 392 1864 1867 [some (zR (some a0)), some (zR (some 0)), some (zR (some 177)), some (zR (some a3)), some (zR (some a4)), some (zI i), some (zI x6), some (zI x7), none, none] [] (some (.inl (some (zI y)), h)) = if y = x6 then zY 392 1874 [some (zR (some a0)), some (zR (some 0)), some (zR (some 177)), some (zR (some a3)), some (zR (some a4)), some (zI i), some (zI x6), some (zI x7), none, none] [] h else zY 392 1872 [some (zR (some a0)), some (zR (some 0)), some (zR (some 177)), some (zR (some a3)), some (zR (some a4)), some (zI i), some (zI x6), some (zI x7), none, none] [] h from zGo 2 392 1867 _ _ _).trans ?_
  refine iteC (fun c0 => ?_) (fun c0 => ?_)
  · skip
    refine (show zY 392 1874 [some (zR (some a0)), some (zR (some 0)), some (zR (some 177)), some (zR (some a3)), some (zR (some a4)), some (zI i), some (zI x6), some (zI x7), none, none] [] h = if x6 = 0 then zY 392 1879 [some (zR (some a0)), some (zR (some 0)), some (zR (some 177)), some (zR (some a3)), some (zR (some a4)), some (zI i), some (zI x6), some (zI x7), none, none] [] h else zY 392 1891 [some (zR (some a0)), some (zR (some 0)), some (zR (some 177)), some (zR (some a3)), some (zR (some a4)), some (zI i), some (zI x6), some (zI x7), none, none] [] h from zGo 2 392 1874 _ _ _).trans ?_
    refine iteC (fun c1 => ?_) (fun c1 => ?_)
    · skip
      refine (show zY 392 1879 [some (zR (some a0)), some (zR (some 0)), some (zR (some 177)), some (zR (some a3)), some (zR (some a4)), some (zI i), some (zI x6), some (zI x7), none, none] [] h = gd (inR (0)) (gd (zok h (some a3) 23 0) (if (zlcmp (hJ h a3 0) (zi2l x7)) = 0 then zY 392 1891 [some (zR (some a0)), some (zR (some 0)), some (zR (some 177)), some (zR (some a3)), some (zR (some a4)), some (zI i), some (zI x6), some (zI x7), none, none] [] h else zY 392 1889 [some (zR (some a0)), some (zR (some 0)), some (zR (some 177)), some (zR (some a3)), some (zR (some a4)), some (zI i), some (zI x6), some (zI x7), none, none] [] h)) from zGo 7 392 1879 _ _ _).trans ?_
      refine (gd_t (by decide) _).trans ?_
      refine gd_c (ci ta3 rfl) (fun c2 => ?_)
      refine iteL (fun c3 => ?_) (fun c3 => ?_)
      · skip
        refine (show zY 392 1891 [some (zR (some a0)), some (zR (some 0)), some (zR (some 177)), some (zR (some a3)), some (zR (some a4)), some (zI i), some (zI x6), some (zI x7), none, none] [] h = zY 392 2378 [some (zR (some a0)), some (zR (some 0)), some (zR (some 177)), some (zR (some a3)), some (zR (some a4)), some (zI i), some (zI x6), some (zI x7), none, none] [] h from zGo 1 392 1891 _ _ _).trans ?_
        rfl
      · skip
        refine (show zY 392 1889 [some (zR (some a0)), some (zR (some 0)), some (zR (some 177)), some (zR (some a3)), some (zR (some a4)), some (zI i), some (zI x6), some (zI x7), none, none] [] h = gd (inR (0)) (gd (([] : List zV).isEmpty = true ∧ (zrk 392 = 1 ∨ zrk 392 = 6 ∧ ((0 : Int) = 0 ∨ (0 : Int) = 1))) (some (.inl (some (zI 0)), h))) from zGo 2 392 1889 _ _ _).trans ?_
        refine (gd_t (by decide) _).trans ?_
        refine (gd_t (⟨rfl, Or.inr ⟨rfl, by decide⟩⟩) _).trans ?_
        rfl
    · skip
      refine (show zY 392 1891 [some (zR (some a0)), some (zR (some 0)), some (zR (some 177)), some (zR (some a3)), some (zR (some a4)), some (zI i), some (zI x6), some (zI x7), none, none] [] h = zY 392 2378 [some (zR (some a0)), some (zR (some 0)), some (zR (some 177)), some (zR (some a3)), some (zR (some a4)), some (zI i), some (zI x6), some (zI x7), none, none] [] h from zGo 1 392 1891 _ _ _).trans ?_
      rfl
  · skip
    refine (show zY 392 1872 [some (zR (some a0)), some (zR (some 0)), some (zR (some 177)), some (zR (some a3)), some (zR (some a4)), some (zI i), some (zI x6), some (zI x7), none, none] [] h = gd (inR (0)) (gd (([] : List zV).isEmpty = true ∧ (zrk 392 = 1 ∨ zrk 392 = 6 ∧ ((0 : Int) = 0 ∨ (0 : Int) = 1))) (some (.inl (some (zI 0)), h))) from zGo 2 392 1872 _ _ _).trans ?_
    refine (gd_t (by decide) _).trans ?_
    refine (gd_t (⟨rfl, Or.inr ⟨rfl, by decide⟩⟩) _).trans ?_
    rfl
theorem q_lw35_0 {h : zH} {a0 : Nat} {a3 : Nat} {a4 : Nat} {i : Int} (ta0 : hT h a0 = 22) (KC : KC h) (KM : KM h) (ta3 : hT h a3 = 23) (na3 : a3 < hN h) (ta4 : hT h a4 = 24) (na4 : a4 < hN h) : zY 392 1894 [some (zR (some a0)), some (zR (some 0)), some (zR (some 177)), some (zR (some a3)), some (zR (some a4)), some (zI i), none, none, none, none] [] h =
    gd (-2147483648 ≤ i + 1 ∧ i + 1 < 2147483648) (
    gd (0 ≤ (i + 1) ∧ (i + 1) < (hL h a0 : Int)) (
    zBack zY 392 1902 1905 [some (zR (some a0)), some (zR (some 0)), some (zR (some 177)), some (zR (some a3)), some (zR (some a4)), some (zI i), none, none, none, none] [] (zC 374 [zR (some 0), zI (hI h a0 (i + 1).toNat), zR (some a3)] h))) := by
  refine (show zY 392 1894 [some (zR (some a0)), some (zR (some 0)), some (zR (some 177)), some (zR (some a3)), some (zR (some a4)), some (zI i), none, none, none, none] [] h = gd (inR (1)) (gd (inR (i + 1)) (gd (zok h (some a0) 22 (i + 1)) (gd (false = zctor 374 ∧ zcs [] ≤ 8 ∧ zrm 392 (zrf 374 + 1) (8 + (zmaxl 374 + 11) + zrl 374) = true ∧ zcs [zR (some 0), zI (hI h a0 (i + 1).toNat), zR (some a3)] ≤ zmaxl 374) (zBack zY 392 1902 1905 [some (zR (some a0)), some (zR (some 0)), some (zR (some 177)), some (zR (some a3)), some (zR (some a4)), some (zI i), none, none, none, none] [] (zC 374 [zR (some 0), zI (hI h a0 (i + 1).toNat), zR (some a3)] h))))) from zGo 8 392 1894 _ _ _).trans ?_
  refine (gd_t (by decide) _).trans ?_
  refine gd_c Iff.rfl (fun c0 => ?_)
  refine gd_c (ci ta0 rfl) (fun c1 => ?_)
  refine (gd_t (⟨rfl, Nat.le_of_ble_eq_true rfl, rfl, Nat.le_of_ble_eq_true rfl⟩) _).trans ?_
  rfl
theorem q_lw35_1 {h : zH} {a0 : Nat} {a3 : Nat} {a4 : Nat} {i : Int} {y : Int} (ta0 : hT h a0 = 22) (KC : KC h) (KM : KM h) (ta3 : hT h a3 = 23) (na3 : a3 < hN h) (ta4 : hT h a4 = 24) (na4 : a4 < hN h) : zBack zY 392 1902 1905 [some (zR (some a0)), some (zR (some 0)), some (zR (some 177)), some (zR (some a3)), some (zR (some a4)), some (zI i), none, none, none, none] [] (some (.inl (some (zI y)), h)) =
    gd (-2147483648 ≤ i + 1 ∧ i + 1 < 2147483648) (
    gd (0 ≤ (i + 1) ∧ (i + 1) < (hL h a0 : Int)) (
    zBack zY 392 1914 1917 [some (zR (some a0)), some (zR (some 0)), some (zR (some 177)), some (zR (some a3)), some (zR (some a4)), some (zI i), some (zI y), none, none, none] [] (zC 342 [zR (some 177), zI (hI h a0 (i + 1).toNat)] h))) := by
  refine (show zBack zY 392 1902 1905 [some (zR (some a0)), some (zR (some 0)), some (zR (some 177)), some (zR (some a3)), some (zR (some a4)), some (zI i), none, none, none, none] [] (some (.inl (some (zI y)), h)) = gd (inR (1)) (gd (inR (i + 1)) (gd (zok h (some a0) 22 (i + 1)) (gd (false = zctor 342 ∧ zcs [] ≤ 8 ∧ zrm 392 (zrf 342 + 1) (8 + (zmaxl 342 + 11) + zrl 342) = true ∧ zcs [zR (some 177), zI (hI h a0 (i + 1).toNat)] ≤ zmaxl 342) (gd (zob h (some 177) 12) (zBack zY 392 1914 1917 [some (zR (some a0)), some (zR (some 0)), some (zR (some 177)), some (zR (some a3)), some (zR (some a4)), some (zI i), some (zI y), none, none, none] [] (zC 342 [zR (some 177), zI (hI h a0 (i + 1).toNat)] h)))))) from zGo 8 392 1905 _ _ _).trans ?_
  refine (gd_t (by decide) _).trans ?_
  refine gd_c Iff.rfl (fun c0 => ?_)
  refine gd_c (ci ta0 rfl) (fun c1 => ?_)
  refine (gd_t (⟨rfl, Nat.le_of_ble_eq_true rfl, rfl, Nat.le_of_ble_eq_true rfl⟩) _).trans ?_
  refine (gd_t (⟨rfl, (PTM KM 177 _ rfl rfl), (PNM KM 177 rfl)⟩) _).trans ?_
  rfl
theorem q_lw35_2 {h : zH} {a0 : Nat} {a3 : Nat} {a4 : Nat} {i : Int} {x6 : Int} {y : Int} (ta0 : hT h a0 = 22) (KC : KC h) (KM : KM h) (ta3 : hT h a3 = 23) (na3 : a3 < hN h) (ta4 : hT h a4 = 24) (na4 : a4 < hN h) : zBack zY 392 1914 1917 [some (zR (some a0)), some (zR (some 0)), some (zR (some 177)), some (zR (some a3)), some (zR (some a4)), some (zI i), some (zI x6), none, none, none] [] (some (.inl (some (zI y)), h)) =
    zBack zY 392 1920 1923 [some (zR (some a0)), some (zR (some 0)), some (zR (some 177)), some (zR (some a3)), some (zR (some a4)), some (zI i), some (zI x6), some (zI y), none, none] [] (zC 208 [zR (some 177)] h) := by
  refine (show zBack zY 392 1914 1917 [some (zR (some a0)), some (zR (some 0)), some (zR (some 177)), some (zR (some a3)), some (zR (some a4)), some (zI i), some (zI x6), none, none, none] [] (some (.inl (some (zI y)), h)) = gd (false = zctor 208 ∧ zcs [] ≤ 8 ∧ zrm 392 (zrf 208 + 1) (8 + (zmaxl 208 + 11) + zrl 208) = true ∧ zcs [zR (some 177)] ≤ zmaxl 208) (gd (zob h (some 177) 12) (zBack zY 392 1920 1923 [some (zR (some a0)), some (zR (some 0)), some (zR (some 177)), some (zR (some a3)), some (zR (some a4)), some (zI i), some (zI x6), some (zI y), none, none] [] (zC 208 [zR (some 177)] h))) from zGo 3 392 1917 _ _ _).trans ?_
  refine (gd_t (⟨rfl, Nat.le_of_ble_eq_true rfl, rfl, Nat.le_of_ble_eq_true rfl⟩) _).trans ?_
  refine (gd_t (⟨rfl, (PTM KM 177 _ rfl rfl), (PNM KM 177 rfl)⟩) _).trans ?_
  rfl
theorem q_lw35_3 {h : zH} {a0 : Nat} {a3 : Nat} {a4 : Nat} {i : Int} {x6 : Int} {x7 : Int} {y : Int} (ta0 : hT h a0 = 22) (KC : KC h) (KM : KM h) (ta3 : hT h a3 = 23) (na3 : a3 < hN h) (ta4 : hT h a4 = 24) (na4 : a4 < hN h) : zBack zY 392 1920 1923 [some (zR (some a0)), some (zR (some 0)), some (zR (some 177)), some (zR (some a3)), some (zR (some a4)), some (zI i), some (zI x6), some (zI x7), none, none] [] (some (.inl (some (zI y)), h)) =
    if y = x6 then
      if x6 = 0 then
        gd ((0 : Int) ≤ 0 ∧ 0 < (hL h a3 : Int)) (
        if (hJ h a3 0) = (zi2l x7) then
          zY 392 2378 [some (zR (some a0)), some (zR (some 0)), some (zR (some 177)), some (zR (some a3)), some (zR (some a4)), some (zI i), some (zI x6), some (zI x7), none, none] [] h
        else
          some (.inl (some (zI 0)), h))
      else
        zY 392 2378 [some (zR (some a0)), some (zR (some 0)), some (zR (some 177)), some (zR (some a3)), some (zR (some a4)), some (zI i), some (zI x6), some (zI x7), none, none] [] h
    else
      some (.inl (some (zI 0)), h) := by
  refine (show zBack zY 392 1920 1923 [some (zR (some a0)), some (zR (some 0)), some (zR (some 177)), some (zR (some a3)), some (zR (some a4)), some (zI i), some (zI x6), some (zI x7), none, none] [] (some (.inl (some (zI y)), h)) = if y = x6 then zY 392 1930 [some (zR (some a0)), some (zR (some 0)), some (zR (some 177)), some (zR (some a3)), some (zR (some a4)), some (zI i), some (zI x6), some (zI x7), none, none] [] h else zY 392 1928 [some (zR (some a0)), some (zR (some 0)), some (zR (some 177)), some (zR (some a3)), some (zR (some a4)), some (zI i), some (zI x6), some (zI x7), none, none] [] h from zGo 2 392 1923 _ _ _).trans ?_
  refine iteC (fun c0 => ?_) (fun c0 => ?_)
  · skip
    refine (show zY 392 1930 [some (zR (some a0)), some (zR (some 0)), some (zR (some 177)), some (zR (some a3)), some (zR (some a4)), some (zI i), some (zI x6), some (zI x7), none, none] [] h = if x6 = 0 then zY 392 1935 [some (zR (some a0)), some (zR (some 0)), some (zR (some 177)), some (zR (some a3)), some (zR (some a4)), some (zI i), some (zI x6), some (zI x7), none, none] [] h else zY 392 1947 [some (zR (some a0)), some (zR (some 0)), some (zR (some 177)), some (zR (some a3)), some (zR (some a4)), some (zI i), some (zI x6), some (zI x7), none, none] [] h from zGo 2 392 1930 _ _ _).trans ?_
    refine iteC (fun c1 => ?_) (fun c1 => ?_)
    · skip
      refine (show zY 392 1935 [some (zR (some a0)), some (zR (some 0)), some (zR (some 177)), some (zR (some a3)), some (zR (some a4)), some (zI i), some (zI x6), some (zI x7), none, none] [] h = gd (inR (0)) (gd (zok h (some a3) 23 0) (if (zlcmp (hJ h a3 0) (zi2l x7)) = 0 then zY 392 1947 [some (zR (some a0)), some (zR (some 0)), some (zR (some 177)), some (zR (some a3)), some (zR (some a4)), some (zI i), some (zI x6), some (zI x7), none, none] [] h else zY 392 1945 [some (zR (some a0)), some (zR (some 0)), some (zR (some 177)), some (zR (some a3)), some (zR (some a4)), some (zI i), some (zI x6), some (zI x7), none, none] [] h)) from zGo 7 392 1935 _ _ _).trans ?_
      refine (gd_t (by decide) _).trans ?_
      refine gd_c (ci ta3 rfl) (fun c2 => ?_)
      refine iteL (fun c3 => ?_) (fun c3 => ?_)
      · skip
        refine (show zY 392 1947 [some (zR (some a0)), some (zR (some 0)), some (zR (some 177)), some (zR (some a3)), some (zR (some a4)), some (zI i), some (zI x6), some (zI x7), none, none] [] h = zY 392 2378 [some (zR (some a0)), some (zR (some 0)), some (zR (some 177)), some (zR (some a3)), some (zR (some a4)), some (zI i), some (zI x6), some (zI x7), none, none] [] h from zGo 1 392 1947 _ _ _).trans ?_
        rfl
      · skip
        refine (show zY 392 1945 [some (zR (some a0)), some (zR (some 0)), some (zR (some 177)), some (zR (some a3)), some (zR (some a4)), some (zI i), some (zI x6), some (zI x7), none, none] [] h = gd (inR (0)) (gd (([] : List zV).isEmpty = true ∧ (zrk 392 = 1 ∨ zrk 392 = 6 ∧ ((0 : Int) = 0 ∨ (0 : Int) = 1))) (some (.inl (some (zI 0)), h))) from zGo 2 392 1945 _ _ _).trans ?_
        refine (gd_t (by decide) _).trans ?_
        refine (gd_t (⟨rfl, Or.inr ⟨rfl, by decide⟩⟩) _).trans ?_
        rfl
    · skip
      refine (show zY 392 1947 [some (zR (some a0)), some (zR (some 0)), some (zR (some 177)), some (zR (some a3)), some (zR (some a4)), some (zI i), some (zI x6), some (zI x7), none, none] [] h = zY 392 2378 [some (zR (some a0)), some (zR (some 0)), some (zR (some 177)), some (zR (some a3)), some (zR (some a4)), some (zI i), some (zI x6), some (zI x7), none, none] [] h from zGo 1 392 1947 _ _ _).trans ?_
      rfl
  · skip
    refine (show zY 392 1928 [some (zR (some a0)), some (zR (some 0)), some (zR (some 177)), some (zR (some a3)), some (zR (some a4)), some (zI i), some (zI x6), some (zI x7), none, none] [] h = gd (inR (0)) (gd (([] : List zV).isEmpty = true ∧ (zrk 392 = 1 ∨ zrk 392 = 6 ∧ ((0 : Int) = 0 ∨ (0 : Int) = 1))) (some (.inl (some (zI 0)), h))) from zGo 2 392 1928 _ _ _).trans ?_
    refine (gd_t (by decide) _).trans ?_
    refine (gd_t (⟨rfl, Or.inr ⟨rfl, by decide⟩⟩) _).trans ?_
    rfl
theorem q_lw36_0 {h : zH} {a0 : Nat} {a3 : Nat} {a4 : Nat} {i : Int} (ta0 : hT h a0 = 22) (KC : KC h) (KM : KM h) (ta3 : hT h a3 = 23) (na3 : a3 < hN h) (ta4 : hT h a4 = 24) (na4 : a4 < hN h) : zY 392 1950 [some (zR (some a0)), some (zR (some 0)), some (zR (some 177)), some (zR (some a3)), some (zR (some a4)), some (zI i), none, none, none, none] [] h =
    gd (-2147483648 ≤ i + 1 ∧ i + 1 < 2147483648) (
    gd (0 ≤ (i + 1) ∧ (i + 1) < (hL h a0 : Int)) (
    gd (-2147483648 ≤ i + 2 ∧ i + 2 < 2147483648) (
    gd (0 ≤ (i + 2) ∧ (i + 2) < (hL h a0 : Int)) (
    zBack zY 392 1964 1967 [some (zR (some a0)), some (zR (some 0)), some (zR (some 177)), some (zR (some a3)), some (zR (some a4)), some (zI i), none, none, none, none] [] (zC 375 [zR (some 0), zI (hI h a0 (i + 1).toNat), zI (hI h a0 (i + 2).toNat), zR (some a3)] h))))) := by
  refine (show zY 392 1950 [some (zR (some a0)), some (zR (some 0)), some (zR (some 177)), some (zR (some a3)), some (zR (some a4)), some (zI i), none, none, none, none] [] h = gd (inR (1)) (gd (inR (i + 1)) (gd (zok h (some a0) 22 (i + 1)) (gd (inR (2)) (gd (inR (i + 2)) (gd (zok h (some a0) 22 (i + 2)) (gd (false = zctor 375 ∧ zcs [] ≤ 8 ∧ zrm 392 (zrf 375 + 1) (8 + (zmaxl 375 + 11) + zrl 375) = true ∧ zcs [zR (some 0), zI (hI h a0 (i + 1).toNat), zI (hI h a0 (i + 2).toNat), zR (some a3)] ≤ zmaxl 375) (zBack zY 392 1964 1967 [some (zR (some a0)), some (zR (some 0)), some (zR (some 177)), some (zR (some a3)), some (zR (some a4)), some (zI i), none, none, none, none] [] (zC 375 [zR (some 0), zI (hI h a0 (i + 1).toNat), zI (hI h a0 (i + 2).toNat), zR (some a3)] h)))))))) from zGo 13 392 1950 _ _ _).trans ?_
  refine (gd_t (by decide) _).trans ?_
  refine gd_c Iff.rfl (fun c0 => ?_)
  refine gd_c (ci ta0 rfl) (fun c1 => ?_)
  refine (gd_t (by decide) _).trans ?_
  refine gd_c Iff.rfl (fun c2 => ?_)
  refine gd_c (ci ta0 rfl) (fun c3 => ?_)
  refine (gd_t (⟨rfl, Nat.le_of_ble_eq_true rfl, rfl, Nat.le_of_ble_eq_true rfl⟩) _).trans ?_
  rfl
theorem q_lw36_1 {h : zH} {a0 : Nat} {a3 : Nat} {a4 : Nat} {i : Int} {y : Int} (ta0 : hT h a0 = 22) (KC : KC h) (KM : KM h) (ta3 : hT h a3 = 23) (na3 : a3 < hN h) (ta4 : hT h a4 = 24) (na4 : a4 < hN h) : zBack zY 392 1964 1967 [some (zR (some a0)), some (zR (some 0)), some (zR (some 177)), some (zR (some a3)), some (zR (some a4)), some (zI i), none, none, none, none] [] (some (.inl (some (zI y)), h)) =
    gd (-2147483648 ≤ i + 1 ∧ i + 1 < 2147483648) (
    gd (0 ≤ (i + 1) ∧ (i + 1) < (hL h a0 : Int)) (
    gd (-2147483648 ≤ i + 2 ∧ i + 2 < 2147483648) (
    gd (0 ≤ (i + 2) ∧ (i + 2) < (hL h a0 : Int)) (
    zBack zY 392 1982 1985 [some (zR (some a0)), some (zR (some 0)), some (zR (some 177)), some (zR (some a3)), some (zR (some a4)), some (zI i), some (zI y), none, none, none] [] (zC 343 [zR (some 177), zI (hI h a0 (i + 1).toNat), zI (hI h a0 (i + 2).toNat)] h))))) := by
  refine (show zBack zY 392 1964 1967 [some (zR (some a0)), some (zR (some 0)), some (zR (some 177)), some (zR (some a3)), some (zR (some a4)), some (zI i), none, none, none, none] [] (some (.inl (some (zI y)), h)) = gd (inR (1)) (gd (inR (i + 1)) (gd (zok h (some a0) 22 (i + 1)) (gd (inR (2)) (gd (inR (i + 2)) (gd (zok h (some a0) 22 (i + 2)) (gd (false = zctor 343 ∧ zcs [] ≤ 8 ∧ zrm 392 (zrf 343 + 1) (8 + (zmaxl 343 + 11) + zrl 343) = true ∧ zcs [zR (some 177), zI (hI h a0 (i + 1).toNat), zI (hI h a0 (i + 2).toNat)] ≤ zmaxl 343) (gd (zob h (some 177) 12) (zBack zY 392 1982 1985 [some (zR (some a0)), some (zR (some 0)), some (zR (some 177)), some (zR (some a3)), some (zR (some a4)), some (zI i), some (zI y), none, none, none] [] (zC 343 [zR (some 177), zI (hI h a0 (i + 1).toNat), zI (hI h a0 (i + 2).toNat)] h))))))))) from zGo 13 392 1967 _ _ _).trans ?_
  refine (gd_t (by decide) _).trans ?_
  refine gd_c Iff.rfl (fun c0 => ?_)
  refine gd_c (ci ta0 rfl) (fun c1 => ?_)
  refine (gd_t (by decide) _).trans ?_
  refine gd_c Iff.rfl (fun c2 => ?_)
  refine gd_c (ci ta0 rfl) (fun c3 => ?_)
  refine (gd_t (⟨rfl, Nat.le_of_ble_eq_true rfl, rfl, Nat.le_of_ble_eq_true rfl⟩) _).trans ?_
  refine (gd_t (⟨rfl, (PTM KM 177 _ rfl rfl), (PNM KM 177 rfl)⟩) _).trans ?_
  rfl
theorem q_lw36_2 {h : zH} {a0 : Nat} {a3 : Nat} {a4 : Nat} {i : Int} {x6 : Int} {y : Int} (ta0 : hT h a0 = 22) (KC : KC h) (KM : KM h) (ta3 : hT h a3 = 23) (na3 : a3 < hN h) (ta4 : hT h a4 = 24) (na4 : a4 < hN h) : zBack zY 392 1982 1985 [some (zR (some a0)), some (zR (some 0)), some (zR (some 177)), some (zR (some a3)), some (zR (some a4)), some (zI i), some (zI x6), none, none, none] [] (some (.inl (some (zI y)), h)) =
    zBack zY 392 1988 1991 [some (zR (some a0)), some (zR (some 0)), some (zR (some 177)), some (zR (some a3)), some (zR (some a4)), some (zI i), some (zI x6), some (zI y), none, none] [] (zC 208 [zR (some 177)] h) := by
  refine (show zBack zY 392 1982 1985 [some (zR (some a0)), some (zR (some 0)), some (zR (some 177)), some (zR (some a3)), some (zR (some a4)), some (zI i), some (zI x6), none, none, none] [] (some (.inl (some (zI y)), h)) = gd (false = zctor 208 ∧ zcs [] ≤ 8 ∧ zrm 392 (zrf 208 + 1) (8 + (zmaxl 208 + 11) + zrl 208) = true ∧ zcs [zR (some 177)] ≤ zmaxl 208) (gd (zob h (some 177) 12) (zBack zY 392 1988 1991 [some (zR (some a0)), some (zR (some 0)), some (zR (some 177)), some (zR (some a3)), some (zR (some a4)), some (zI i), some (zI x6), some (zI y), none, none] [] (zC 208 [zR (some 177)] h))) from zGo 3 392 1985 _ _ _).trans ?_
  refine (gd_t (⟨rfl, Nat.le_of_ble_eq_true rfl, rfl, Nat.le_of_ble_eq_true rfl⟩) _).trans ?_
  refine (gd_t (⟨rfl, (PTM KM 177 _ rfl rfl), (PNM KM 177 rfl)⟩) _).trans ?_
  rfl
theorem q_lw36_3 {h : zH} {a0 : Nat} {a3 : Nat} {a4 : Nat} {i : Int} {x6 : Int} {x7 : Int} {y : Int} (ta0 : hT h a0 = 22) (KC : KC h) (KM : KM h) (ta3 : hT h a3 = 23) (na3 : a3 < hN h) (ta4 : hT h a4 = 24) (na4 : a4 < hN h) : zBack zY 392 1988 1991 [some (zR (some a0)), some (zR (some 0)), some (zR (some 177)), some (zR (some a3)), some (zR (some a4)), some (zI i), some (zI x6), some (zI x7), none, none] [] (some (.inl (some (zI y)), h)) =
    if y = x6 then
      if x6 = 0 then
        gd ((0 : Int) ≤ 0 ∧ 0 < (hL h a3 : Int)) (
        if (hJ h a3 0) = (zi2l x7) then
          zY 392 2378 [some (zR (some a0)), some (zR (some 0)), some (zR (some 177)), some (zR (some a3)), some (zR (some a4)), some (zI i), some (zI x6), some (zI x7), none, none] [] h
        else
          some (.inl (some (zI 0)), h))
      else
        zY 392 2378 [some (zR (some a0)), some (zR (some 0)), some (zR (some 177)), some (zR (some a3)), some (zR (some a4)), some (zI i), some (zI x6), some (zI x7), none, none] [] h
    else
      some (.inl (some (zI 0)), h) := by
  refine (show zBack zY 392 1988 1991 [some (zR (some a0)), some (zR (some 0)), some (zR (some 177)), some (zR (some a3)), some (zR (some a4)), some (zI i), some (zI x6), some (zI x7), none, none] [] (some (.inl (some (zI y)), h)) = if y = x6 then zY 392 1998 [some (zR (some a0)), some (zR (some 0)), some (zR (some 177)), some (zR (some a3)), some (zR (some a4)), some (zI i), some (zI x6), some (zI x7), none, none] [] h else zY 392 1996 [some (zR (some a0)), some (zR (some 0)), some (zR (some 177)), some (zR (some a3)), some (zR (some a4)), some (zI i), some (zI x6), some (zI x7), none, none] [] h from zGo 2 392 1991 _ _ _).trans ?_
  refine iteC (fun c0 => ?_) (fun c0 => ?_)
  · skip
    refine (show zY 392 1998 [some (zR (some a0)), some (zR (some 0)), some (zR (some 177)), some (zR (some a3)), some (zR (some a4)), some (zI i), some (zI x6), some (zI x7), none, none] [] h = if x6 = 0 then zY 392 2003 [some (zR (some a0)), some (zR (some 0)), some (zR (some 177)), some (zR (some a3)), some (zR (some a4)), some (zI i), some (zI x6), some (zI x7), none, none] [] h else zY 392 2015 [some (zR (some a0)), some (zR (some 0)), some (zR (some 177)), some (zR (some a3)), some (zR (some a4)), some (zI i), some (zI x6), some (zI x7), none, none] [] h from zGo 2 392 1998 _ _ _).trans ?_
    refine iteC (fun c1 => ?_) (fun c1 => ?_)
    · skip
      refine (show zY 392 2003 [some (zR (some a0)), some (zR (some 0)), some (zR (some 177)), some (zR (some a3)), some (zR (some a4)), some (zI i), some (zI x6), some (zI x7), none, none] [] h = gd (inR (0)) (gd (zok h (some a3) 23 0) (if (zlcmp (hJ h a3 0) (zi2l x7)) = 0 then zY 392 2015 [some (zR (some a0)), some (zR (some 0)), some (zR (some 177)), some (zR (some a3)), some (zR (some a4)), some (zI i), some (zI x6), some (zI x7), none, none] [] h else zY 392 2013 [some (zR (some a0)), some (zR (some 0)), some (zR (some 177)), some (zR (some a3)), some (zR (some a4)), some (zI i), some (zI x6), some (zI x7), none, none] [] h)) from zGo 7 392 2003 _ _ _).trans ?_
      refine (gd_t (by decide) _).trans ?_
      refine gd_c (ci ta3 rfl) (fun c2 => ?_)
      refine iteL (fun c3 => ?_) (fun c3 => ?_)
      · skip
        refine (show zY 392 2015 [some (zR (some a0)), some (zR (some 0)), some (zR (some 177)), some (zR (some a3)), some (zR (some a4)), some (zI i), some (zI x6), some (zI x7), none, none] [] h = zY 392 2378 [some (zR (some a0)), some (zR (some 0)), some (zR (some 177)), some (zR (some a3)), some (zR (some a4)), some (zI i), some (zI x6), some (zI x7), none, none] [] h from zGo 1 392 2015 _ _ _).trans ?_
        rfl
      · skip
        refine (show zY 392 2013 [some (zR (some a0)), some (zR (some 0)), some (zR (some 177)), some (zR (some a3)), some (zR (some a4)), some (zI i), some (zI x6), some (zI x7), none, none] [] h = gd (inR (0)) (gd (([] : List zV).isEmpty = true ∧ (zrk 392 = 1 ∨ zrk 392 = 6 ∧ ((0 : Int) = 0 ∨ (0 : Int) = 1))) (some (.inl (some (zI 0)), h))) from zGo 2 392 2013 _ _ _).trans ?_
        refine (gd_t (by decide) _).trans ?_
        refine (gd_t (⟨rfl, Or.inr ⟨rfl, by decide⟩⟩) _).trans ?_
        rfl
    · skip
      refine (show zY 392 2015 [some (zR (some a0)), some (zR (some 0)), some (zR (some 177)), some (zR (some a3)), some (zR (some a4)), some (zI i), some (zI x6), some (zI x7), none, none] [] h = zY 392 2378 [some (zR (some a0)), some (zR (some 0)), some (zR (some 177)), some (zR (some a3)), some (zR (some a4)), some (zI i), some (zI x6), some (zI x7), none, none] [] h from zGo 1 392 2015 _ _ _).trans ?_
      rfl
  · skip
    refine (show zY 392 1996 [some (zR (some a0)), some (zR (some 0)), some (zR (some 177)), some (zR (some a3)), some (zR (some a4)), some (zI i), some (zI x6), some (zI x7), none, none] [] h = gd (inR (0)) (gd (([] : List zV).isEmpty = true ∧ (zrk 392 = 1 ∨ zrk 392 = 6 ∧ ((0 : Int) = 0 ∨ (0 : Int) = 1))) (some (.inl (some (zI 0)), h))) from zGo 2 392 1996 _ _ _).trans ?_
    refine (gd_t (by decide) _).trans ?_
    refine (gd_t (⟨rfl, Or.inr ⟨rfl, by decide⟩⟩) _).trans ?_
    rfl
theorem q_lw37_0 {h : zH} {a0 : Nat} {a3 : Nat} {a4 : Nat} {i : Int} (ta0 : hT h a0 = 22) (KC : KC h) (KM : KM h) (ta3 : hT h a3 = 23) (na3 : a3 < hN h) (ta4 : hT h a4 = 24) (na4 : a4 < hN h) : zY 392 2018 [some (zR (some a0)), some (zR (some 0)), some (zR (some 177)), some (zR (some a3)), some (zR (some a4)), some (zI i), none, none, none, none] [] h =
    gd (-2147483648 ≤ i + 1 ∧ i + 1 < 2147483648) (
    gd (0 ≤ (i + 1) ∧ (i + 1) < (hL h a0 : Int)) (
    gd (-2147483648 ≤ i + 2 ∧ i + 2 < 2147483648) (
    gd (0 ≤ (i + 2) ∧ (i + 2) < (hL h a0 : Int)) (
    zBack zY 392 2032 2035 [some (zR (some a0)), some (zR (some 0)), some (zR (some 177)), some (zR (some a3)), some (zR (some a4)), some (zI i), none, none, none, none] [] (zC 376 [zR (some 0), zI (hI h a0 (i + 1).toNat), zI (hI h a0 (i + 2).toNat), zR (some a3)] h))))) := by
  refine (show zY 392 2018 [some (zR (some a0)), some (zR (some 0)), some (zR (some 177)), some (zR (some a3)), some (zR (some a4)), some (zI i), none, none, none, none] [] h = gd (inR (1)) (gd (inR (i + 1)) (gd (zok h (some a0) 22 (i + 1)) (gd (inR (2)) (gd (inR (i + 2)) (gd (zok h (some a0) 22 (i + 2)) (gd (false = zctor 376 ∧ zcs [] ≤ 8 ∧ zrm 392 (zrf 376 + 1) (8 + (zmaxl 376 + 11) + zrl 376) = true ∧ zcs [zR (some 0), zI (hI h a0 (i + 1).toNat), zI (hI h a0 (i + 2).toNat), zR (some a3)] ≤ zmaxl 376) (zBack zY 392 2032 2035 [some (zR (some a0)), some (zR (some 0)), some (zR (some 177)), some (zR (some a3)), some (zR (some a4)), some (zI i), none, none, none, none] [] (zC 376 [zR (some 0), zI (hI h a0 (i + 1).toNat), zI (hI h a0 (i + 2).toNat), zR (some a3)] h)))))))) from zGo 13 392 2018 _ _ _).trans ?_
  refine (gd_t (by decide) _).trans ?_
  refine gd_c Iff.rfl (fun c0 => ?_)
  refine gd_c (ci ta0 rfl) (fun c1 => ?_)
  refine (gd_t (by decide) _).trans ?_
  refine gd_c Iff.rfl (fun c2 => ?_)
  refine gd_c (ci ta0 rfl) (fun c3 => ?_)
  refine (gd_t (⟨rfl, Nat.le_of_ble_eq_true rfl, rfl, Nat.le_of_ble_eq_true rfl⟩) _).trans ?_
  rfl
theorem q_lw37_1 {h : zH} {a0 : Nat} {a3 : Nat} {a4 : Nat} {i : Int} {y : Int} (ta0 : hT h a0 = 22) (KC : KC h) (KM : KM h) (ta3 : hT h a3 = 23) (na3 : a3 < hN h) (ta4 : hT h a4 = 24) (na4 : a4 < hN h) : zBack zY 392 2032 2035 [some (zR (some a0)), some (zR (some 0)), some (zR (some 177)), some (zR (some a3)), some (zR (some a4)), some (zI i), none, none, none, none] [] (some (.inl (some (zI y)), h)) =
    gd (-2147483648 ≤ i + 1 ∧ i + 1 < 2147483648) (
    gd (0 ≤ (i + 1) ∧ (i + 1) < (hL h a0 : Int)) (
    gd (-2147483648 ≤ i + 2 ∧ i + 2 < 2147483648) (
    gd (0 ≤ (i + 2) ∧ (i + 2) < (hL h a0 : Int)) (
    zBack zY 392 2050 2053 [some (zR (some a0)), some (zR (some 0)), some (zR (some 177)), some (zR (some a3)), some (zR (some a4)), some (zI i), some (zI y), none, none, none] [] (zC 344 [zR (some 177), zI (hI h a0 (i + 1).toNat), zI (hI h a0 (i + 2).toNat)] h))))) := by
  refine (show zBack zY 392 2032 2035 [some (zR (some a0)), some (zR (some 0)), some (zR (some 177)), some (zR (some a3)), some (zR (some a4)), some (zI i), none, none, none, none] [] (some (.inl (some (zI y)), h)) = gd (inR (1)) (gd (inR (i + 1)) (gd (zok h (some a0) 22 (i + 1)) (gd (inR (2)) (gd (inR (i + 2)) (gd (zok h (some a0) 22 (i + 2)) (gd (false = zctor 344 ∧ zcs [] ≤ 8 ∧ zrm 392 (zrf 344 + 1) (8 + (zmaxl 344 + 11) + zrl 344) = true ∧ zcs [zR (some 177), zI (hI h a0 (i + 1).toNat), zI (hI h a0 (i + 2).toNat)] ≤ zmaxl 344) (gd (zob h (some 177) 12) (zBack zY 392 2050 2053 [some (zR (some a0)), some (zR (some 0)), some (zR (some 177)), some (zR (some a3)), some (zR (some a4)), some (zI i), some (zI y), none, none, none] [] (zC 344 [zR (some 177), zI (hI h a0 (i + 1).toNat), zI (hI h a0 (i + 2).toNat)] h))))))))) from zGo 13 392 2035 _ _ _).trans ?_
  refine (gd_t (by decide) _).trans ?_
  refine gd_c Iff.rfl (fun c0 => ?_)
  refine gd_c (ci ta0 rfl) (fun c1 => ?_)
  refine (gd_t (by decide) _).trans ?_
  refine gd_c Iff.rfl (fun c2 => ?_)
  refine gd_c (ci ta0 rfl) (fun c3 => ?_)
  refine (gd_t (⟨rfl, Nat.le_of_ble_eq_true rfl, rfl, Nat.le_of_ble_eq_true rfl⟩) _).trans ?_
  refine (gd_t (⟨rfl, (PTM KM 177 _ rfl rfl), (PNM KM 177 rfl)⟩) _).trans ?_
  rfl
theorem q_lw37_2 {h : zH} {a0 : Nat} {a3 : Nat} {a4 : Nat} {i : Int} {x6 : Int} {y : Int} (ta0 : hT h a0 = 22) (KC : KC h) (KM : KM h) (ta3 : hT h a3 = 23) (na3 : a3 < hN h) (ta4 : hT h a4 = 24) (na4 : a4 < hN h) : zBack zY 392 2050 2053 [some (zR (some a0)), some (zR (some 0)), some (zR (some 177)), some (zR (some a3)), some (zR (some a4)), some (zI i), some (zI x6), none, none, none] [] (some (.inl (some (zI y)), h)) =
    zBack zY 392 2056 2059 [some (zR (some a0)), some (zR (some 0)), some (zR (some 177)), some (zR (some a3)), some (zR (some a4)), some (zI i), some (zI x6), some (zI y), none, none] [] (zC 208 [zR (some 177)] h) := by
  refine (show zBack zY 392 2050 2053 [some (zR (some a0)), some (zR (some 0)), some (zR (some 177)), some (zR (some a3)), some (zR (some a4)), some (zI i), some (zI x6), none, none, none] [] (some (.inl (some (zI y)), h)) = gd (false = zctor 208 ∧ zcs [] ≤ 8 ∧ zrm 392 (zrf 208 + 1) (8 + (zmaxl 208 + 11) + zrl 208) = true ∧ zcs [zR (some 177)] ≤ zmaxl 208) (gd (zob h (some 177) 12) (zBack zY 392 2056 2059 [some (zR (some a0)), some (zR (some 0)), some (zR (some 177)), some (zR (some a3)), some (zR (some a4)), some (zI i), some (zI x6), some (zI y), none, none] [] (zC 208 [zR (some 177)] h))) from zGo 3 392 2053 _ _ _).trans ?_
  refine (gd_t (⟨rfl, Nat.le_of_ble_eq_true rfl, rfl, Nat.le_of_ble_eq_true rfl⟩) _).trans ?_
  refine (gd_t (⟨rfl, (PTM KM 177 _ rfl rfl), (PNM KM 177 rfl)⟩) _).trans ?_
  rfl
theorem q_lw37_3 {h : zH} {a0 : Nat} {a3 : Nat} {a4 : Nat} {i : Int} {x6 : Int} {x7 : Int} {y : Int} (ta0 : hT h a0 = 22) (KC : KC h) (KM : KM h) (ta3 : hT h a3 = 23) (na3 : a3 < hN h) (ta4 : hT h a4 = 24) (na4 : a4 < hN h) : zBack zY 392 2056 2059 [some (zR (some a0)), some (zR (some 0)), some (zR (some 177)), some (zR (some a3)), some (zR (some a4)), some (zI i), some (zI x6), some (zI x7), none, none] [] (some (.inl (some (zI y)), h)) =
    if y = x6 then
      if x6 = 0 then
        gd ((0 : Int) ≤ 0 ∧ 0 < (hL h a3 : Int)) (
        if (hJ h a3 0) = (zi2l x7) then
          zY 392 2378 [some (zR (some a0)), some (zR (some 0)), some (zR (some 177)), some (zR (some a3)), some (zR (some a4)), some (zI i), some (zI x6), some (zI x7), none, none] [] h
        else
          some (.inl (some (zI 0)), h))
      else
        zY 392 2378 [some (zR (some a0)), some (zR (some 0)), some (zR (some 177)), some (zR (some a3)), some (zR (some a4)), some (zI i), some (zI x6), some (zI x7), none, none] [] h
    else
      some (.inl (some (zI 0)), h) := by
  refine (show zBack zY 392 2056 2059 [some (zR (some a0)), some (zR (some 0)), some (zR (some 177)), some (zR (some a3)), some (zR (some a4)), some (zI i), some (zI x6), some (zI x7), none, none] [] (some (.inl (some (zI y)), h)) = if y = x6 then zY 392 2066 [some (zR (some a0)), some (zR (some 0)), some (zR (some 177)), some (zR (some a3)), some (zR (some a4)), some (zI i), some (zI x6), some (zI x7), none, none] [] h else zY 392 2064 [some (zR (some a0)), some (zR (some 0)), some (zR (some 177)), some (zR (some a3)), some (zR (some a4)), some (zI i), some (zI x6), some (zI x7), none, none] [] h from zGo 2 392 2059 _ _ _).trans ?_
  refine iteC (fun c0 => ?_) (fun c0 => ?_)
  · skip
    refine (show zY 392 2066 [some (zR (some a0)), some (zR (some 0)), some (zR (some 177)), some (zR (some a3)), some (zR (some a4)), some (zI i), some (zI x6), some (zI x7), none, none] [] h = if x6 = 0 then zY 392 2071 [some (zR (some a0)), some (zR (some 0)), some (zR (some 177)), some (zR (some a3)), some (zR (some a4)), some (zI i), some (zI x6), some (zI x7), none, none] [] h else zY 392 2083 [some (zR (some a0)), some (zR (some 0)), some (zR (some 177)), some (zR (some a3)), some (zR (some a4)), some (zI i), some (zI x6), some (zI x7), none, none] [] h from zGo 2 392 2066 _ _ _).trans ?_
    refine iteC (fun c1 => ?_) (fun c1 => ?_)
    · skip
      refine (show zY 392 2071 [some (zR (some a0)), some (zR (some 0)), some (zR (some 177)), some (zR (some a3)), some (zR (some a4)), some (zI i), some (zI x6), some (zI x7), none, none] [] h = gd (inR (0)) (gd (zok h (some a3) 23 0) (if (zlcmp (hJ h a3 0) (zi2l x7)) = 0 then zY 392 2083 [some (zR (some a0)), some (zR (some 0)), some (zR (some 177)), some (zR (some a3)), some (zR (some a4)), some (zI i), some (zI x6), some (zI x7), none, none] [] h else zY 392 2081 [some (zR (some a0)), some (zR (some 0)), some (zR (some 177)), some (zR (some a3)), some (zR (some a4)), some (zI i), some (zI x6), some (zI x7), none, none] [] h)) from zGo 7 392 2071 _ _ _).trans ?_
      refine (gd_t (by decide) _).trans ?_
      refine gd_c (ci ta3 rfl) (fun c2 => ?_)
      refine iteL (fun c3 => ?_) (fun c3 => ?_)
      · skip
        refine (show zY 392 2083 [some (zR (some a0)), some (zR (some 0)), some (zR (some 177)), some (zR (some a3)), some (zR (some a4)), some (zI i), some (zI x6), some (zI x7), none, none] [] h = zY 392 2378 [some (zR (some a0)), some (zR (some 0)), some (zR (some 177)), some (zR (some a3)), some (zR (some a4)), some (zI i), some (zI x6), some (zI x7), none, none] [] h from zGo 1 392 2083 _ _ _).trans ?_
        rfl
      · skip
        refine (show zY 392 2081 [some (zR (some a0)), some (zR (some 0)), some (zR (some 177)), some (zR (some a3)), some (zR (some a4)), some (zI i), some (zI x6), some (zI x7), none, none] [] h = gd (inR (0)) (gd (([] : List zV).isEmpty = true ∧ (zrk 392 = 1 ∨ zrk 392 = 6 ∧ ((0 : Int) = 0 ∨ (0 : Int) = 1))) (some (.inl (some (zI 0)), h))) from zGo 2 392 2081 _ _ _).trans ?_
        refine (gd_t (by decide) _).trans ?_
        refine (gd_t (⟨rfl, Or.inr ⟨rfl, by decide⟩⟩) _).trans ?_
        rfl
    · skip
      refine (show zY 392 2083 [some (zR (some a0)), some (zR (some 0)), some (zR (some 177)), some (zR (some a3)), some (zR (some a4)), some (zI i), some (zI x6), some (zI x7), none, none] [] h = zY 392 2378 [some (zR (some a0)), some (zR (some 0)), some (zR (some 177)), some (zR (some a3)), some (zR (some a4)), some (zI i), some (zI x6), some (zI x7), none, none] [] h from zGo 1 392 2083 _ _ _).trans ?_
      rfl
  · skip
    refine (show zY 392 2064 [some (zR (some a0)), some (zR (some 0)), some (zR (some 177)), some (zR (some a3)), some (zR (some a4)), some (zI i), some (zI x6), some (zI x7), none, none] [] h = gd (inR (0)) (gd (([] : List zV).isEmpty = true ∧ (zrk 392 = 1 ∨ zrk 392 = 6 ∧ ((0 : Int) = 0 ∨ (0 : Int) = 1))) (some (.inl (some (zI 0)), h))) from zGo 2 392 2064 _ _ _).trans ?_
    refine (gd_t (by decide) _).trans ?_
    refine (gd_t (⟨rfl, Or.inr ⟨rfl, by decide⟩⟩) _).trans ?_
    rfl
theorem q_lw38_0 {h : zH} {a0 : Nat} {a3 : Nat} {a4 : Nat} {i : Int} (ta0 : hT h a0 = 22) (KC : KC h) (KM : KM h) (ta3 : hT h a3 = 23) (na3 : a3 < hN h) (ta4 : hT h a4 = 24) (na4 : a4 < hN h) : zY 392 2086 [some (zR (some a0)), some (zR (some 0)), some (zR (some 177)), some (zR (some a3)), some (zR (some a4)), some (zI i), none, none, none, none] [] h =
    gd (-2147483648 ≤ i + 1 ∧ i + 1 < 2147483648) (
    gd (0 ≤ (i + 1) ∧ (i + 1) < (hL h a0 : Int)) (
    gd (-2147483648 ≤ i + 2 ∧ i + 2 < 2147483648) (
    gd (0 ≤ (i + 2) ∧ (i + 2) < (hL h a0 : Int)) (
    zBack zY 392 2100 2103 [some (zR (some a0)), some (zR (some 0)), some (zR (some 177)), some (zR (some a3)), some (zR (some a4)), some (zI i), none, none, none, none] [] (zC 377 [zR (some 0), zI (hI h a0 (i + 1).toNat), zI (hI h a0 (i + 2).toNat), zR (some a3)] h))))) := by
  refine (show zY 392 2086 [some (zR (some a0)), some (zR (some 0)), some (zR (some 177)), some (zR (some a3)), some (zR (some a4)), some (zI i), none, none, none, none] [] h = gd (inR (1)) (gd (inR (i + 1)) (gd (zok h (some a0) 22 (i + 1)) (gd (inR (2)) (gd (inR (i + 2)) (gd (zok h (some a0) 22 (i + 2)) (gd (false = zctor 377 ∧ zcs [] ≤ 8 ∧ zrm 392 (zrf 377 + 1) (8 + (zmaxl 377 + 11) + zrl 377) = true ∧ zcs [zR (some 0), zI (hI h a0 (i + 1).toNat), zI (hI h a0 (i + 2).toNat), zR (some a3)] ≤ zmaxl 377) (zBack zY 392 2100 2103 [some (zR (some a0)), some (zR (some 0)), some (zR (some 177)), some (zR (some a3)), some (zR (some a4)), some (zI i), none, none, none, none] [] (zC 377 [zR (some 0), zI (hI h a0 (i + 1).toNat), zI (hI h a0 (i + 2).toNat), zR (some a3)] h)))))))) from zGo 13 392 2086 _ _ _).trans ?_
  refine (gd_t (by decide) _).trans ?_
  refine gd_c Iff.rfl (fun c0 => ?_)
  refine gd_c (ci ta0 rfl) (fun c1 => ?_)
  refine (gd_t (by decide) _).trans ?_
  refine gd_c Iff.rfl (fun c2 => ?_)
  refine gd_c (ci ta0 rfl) (fun c3 => ?_)
  refine (gd_t (⟨rfl, Nat.le_of_ble_eq_true rfl, rfl, Nat.le_of_ble_eq_true rfl⟩) _).trans ?_
  rfl
theorem q_lw38_1 {h : zH} {a0 : Nat} {a3 : Nat} {a4 : Nat} {i : Int} {y : Int} (ta0 : hT h a0 = 22) (KC : KC h) (KM : KM h) (ta3 : hT h a3 = 23) (na3 : a3 < hN h) (ta4 : hT h a4 = 24) (na4 : a4 < hN h) : zBack zY 392 2100 2103 [some (zR (some a0)), some (zR (some 0)), some (zR (some 177)), some (zR (some a3)), some (zR (some a4)), some (zI i), none, none, none, none] [] (some (.inl (some (zI y)), h)) =
    gd (-2147483648 ≤ i + 1 ∧ i + 1 < 2147483648) (
    gd (0 ≤ (i + 1) ∧ (i + 1) < (hL h a0 : Int)) (
    gd (-2147483648 ≤ i + 2 ∧ i + 2 < 2147483648) (
    gd (0 ≤ (i + 2) ∧ (i + 2) < (hL h a0 : Int)) (
    zBack zY 392 2118 2121 [some (zR (some a0)), some (zR (some 0)), some (zR (some 177)), some (zR (some a3)), some (zR (some a4)), some (zI i), some (zI y), none, none, none] [] (zC 345 [zR (some 177), zI (hI h a0 (i + 1).toNat), zI (hI h a0 (i + 2).toNat)] h))))) := by
  refine (show zBack zY 392 2100 2103 [some (zR (some a0)), some (zR (some 0)), some (zR (some 177)), some (zR (some a3)), some (zR (some a4)), some (zI i), none, none, none, none] [] (some (.inl (some (zI y)), h)) = gd (inR (1)) (gd (inR (i + 1)) (gd (zok h (some a0) 22 (i + 1)) (gd (inR (2)) (gd (inR (i + 2)) (gd (zok h (some a0) 22 (i + 2)) (gd (false = zctor 345 ∧ zcs [] ≤ 8 ∧ zrm 392 (zrf 345 + 1) (8 + (zmaxl 345 + 11) + zrl 345) = true ∧ zcs [zR (some 177), zI (hI h a0 (i + 1).toNat), zI (hI h a0 (i + 2).toNat)] ≤ zmaxl 345) (gd (zob h (some 177) 12) (zBack zY 392 2118 2121 [some (zR (some a0)), some (zR (some 0)), some (zR (some 177)), some (zR (some a3)), some (zR (some a4)), some (zI i), some (zI y), none, none, none] [] (zC 345 [zR (some 177), zI (hI h a0 (i + 1).toNat), zI (hI h a0 (i + 2).toNat)] h))))))))) from zGo 13 392 2103 _ _ _).trans ?_
  refine (gd_t (by decide) _).trans ?_
  refine gd_c Iff.rfl (fun c0 => ?_)
  refine gd_c (ci ta0 rfl) (fun c1 => ?_)
  refine (gd_t (by decide) _).trans ?_
  refine gd_c Iff.rfl (fun c2 => ?_)
  refine gd_c (ci ta0 rfl) (fun c3 => ?_)
  refine (gd_t (⟨rfl, Nat.le_of_ble_eq_true rfl, rfl, Nat.le_of_ble_eq_true rfl⟩) _).trans ?_
  refine (gd_t (⟨rfl, (PTM KM 177 _ rfl rfl), (PNM KM 177 rfl)⟩) _).trans ?_
  rfl
theorem q_lw38_2 {h : zH} {a0 : Nat} {a3 : Nat} {a4 : Nat} {i : Int} {x6 : Int} {y : Int} (ta0 : hT h a0 = 22) (KC : KC h) (KM : KM h) (ta3 : hT h a3 = 23) (na3 : a3 < hN h) (ta4 : hT h a4 = 24) (na4 : a4 < hN h) : zBack zY 392 2118 2121 [some (zR (some a0)), some (zR (some 0)), some (zR (some 177)), some (zR (some a3)), some (zR (some a4)), some (zI i), some (zI x6), none, none, none] [] (some (.inl (some (zI y)), h)) =
    zBack zY 392 2124 2127 [some (zR (some a0)), some (zR (some 0)), some (zR (some 177)), some (zR (some a3)), some (zR (some a4)), some (zI i), some (zI x6), some (zI y), none, none] [] (zC 208 [zR (some 177)] h) := by
  refine (show zBack zY 392 2118 2121 [some (zR (some a0)), some (zR (some 0)), some (zR (some 177)), some (zR (some a3)), some (zR (some a4)), some (zI i), some (zI x6), none, none, none] [] (some (.inl (some (zI y)), h)) = gd (false = zctor 208 ∧ zcs [] ≤ 8 ∧ zrm 392 (zrf 208 + 1) (8 + (zmaxl 208 + 11) + zrl 208) = true ∧ zcs [zR (some 177)] ≤ zmaxl 208) (gd (zob h (some 177) 12) (zBack zY 392 2124 2127 [some (zR (some a0)), some (zR (some 0)), some (zR (some 177)), some (zR (some a3)), some (zR (some a4)), some (zI i), some (zI x6), some (zI y), none, none] [] (zC 208 [zR (some 177)] h))) from zGo 3 392 2121 _ _ _).trans ?_
  refine (gd_t (⟨rfl, Nat.le_of_ble_eq_true rfl, rfl, Nat.le_of_ble_eq_true rfl⟩) _).trans ?_
  refine (gd_t (⟨rfl, (PTM KM 177 _ rfl rfl), (PNM KM 177 rfl)⟩) _).trans ?_
  rfl
theorem q_lw38_3 {h : zH} {a0 : Nat} {a3 : Nat} {a4 : Nat} {i : Int} {x6 : Int} {x7 : Int} {y : Int} (ta0 : hT h a0 = 22) (KC : KC h) (KM : KM h) (ta3 : hT h a3 = 23) (na3 : a3 < hN h) (ta4 : hT h a4 = 24) (na4 : a4 < hN h) : zBack zY 392 2124 2127 [some (zR (some a0)), some (zR (some 0)), some (zR (some 177)), some (zR (some a3)), some (zR (some a4)), some (zI i), some (zI x6), some (zI x7), none, none] [] (some (.inl (some (zI y)), h)) =
    if y = x6 then
      if x6 = 0 then
        gd ((0 : Int) ≤ 0 ∧ 0 < (hL h a3 : Int)) (
        if (hJ h a3 0) = (zi2l x7) then
          zY 392 2378 [some (zR (some a0)), some (zR (some 0)), some (zR (some 177)), some (zR (some a3)), some (zR (some a4)), some (zI i), some (zI x6), some (zI x7), none, none] [] h
        else
          some (.inl (some (zI 0)), h))
      else
        zY 392 2378 [some (zR (some a0)), some (zR (some 0)), some (zR (some 177)), some (zR (some a3)), some (zR (some a4)), some (zI i), some (zI x6), some (zI x7), none, none] [] h
    else
      some (.inl (some (zI 0)), h) := by
  refine (show zBack zY 392 2124 2127 [some (zR (some a0)), some (zR (some 0)), some (zR (some 177)), some (zR (some a3)), some (zR (some a4)), some (zI i), some (zI x6), some (zI x7), none, none] [] (some (.inl (some (zI y)), h)) = if y = x6 then zY 392 2134 [some (zR (some a0)), some (zR (some 0)), some (zR (some 177)), some (zR (some a3)), some (zR (some a4)), some (zI i), some (zI x6), some (zI x7), none, none] [] h else zY 392 2132 [some (zR (some a0)), some (zR (some 0)), some (zR (some 177)), some (zR (some a3)), some (zR (some a4)), some (zI i), some (zI x6), some (zI x7), none, none] [] h from zGo 2 392 2127 _ _ _).trans ?_
  refine iteC (fun c0 => ?_) (fun c0 => ?_)
  · skip
    refine (show zY 392 2134 [some (zR (some a0)), some (zR (some 0)), some (zR (some 177)), some (zR (some a3)), some (zR (some a4)), some (zI i), some (zI x6), some (zI x7), none, none] [] h = if x6 = 0 then zY 392 2139 [some (zR (some a0)), some (zR (some 0)), some (zR (some 177)), some (zR (some a3)), some (zR (some a4)), some (zI i), some (zI x6), some (zI x7), none, none] [] h else zY 392 2151 [some (zR (some a0)), some (zR (some 0)), some (zR (some 177)), some (zR (some a3)), some (zR (some a4)), some (zI i), some (zI x6), some (zI x7), none, none] [] h from zGo 2 392 2134 _ _ _).trans ?_
    refine iteC (fun c1 => ?_) (fun c1 => ?_)
    · skip
      refine (show zY 392 2139 [some (zR (some a0)), some (zR (some 0)), some (zR (some 177)), some (zR (some a3)), some (zR (some a4)), some (zI i), some (zI x6), some (zI x7), none, none] [] h = gd (inR (0)) (gd (zok h (some a3) 23 0) (if (zlcmp (hJ h a3 0) (zi2l x7)) = 0 then zY 392 2151 [some (zR (some a0)), some (zR (some 0)), some (zR (some 177)), some (zR (some a3)), some (zR (some a4)), some (zI i), some (zI x6), some (zI x7), none, none] [] h else zY 392 2149 [some (zR (some a0)), some (zR (some 0)), some (zR (some 177)), some (zR (some a3)), some (zR (some a4)), some (zI i), some (zI x6), some (zI x7), none, none] [] h)) from zGo 7 392 2139 _ _ _).trans ?_
      refine (gd_t (by decide) _).trans ?_
      refine gd_c (ci ta3 rfl) (fun c2 => ?_)
      refine iteL (fun c3 => ?_) (fun c3 => ?_)
      · skip
        refine (show zY 392 2151 [some (zR (some a0)), some (zR (some 0)), some (zR (some 177)), some (zR (some a3)), some (zR (some a4)), some (zI i), some (zI x6), some (zI x7), none, none] [] h = zY 392 2378 [some (zR (some a0)), some (zR (some 0)), some (zR (some 177)), some (zR (some a3)), some (zR (some a4)), some (zI i), some (zI x6), some (zI x7), none, none] [] h from zGo 1 392 2151 _ _ _).trans ?_
        rfl
      · skip
        refine (show zY 392 2149 [some (zR (some a0)), some (zR (some 0)), some (zR (some 177)), some (zR (some a3)), some (zR (some a4)), some (zI i), some (zI x6), some (zI x7), none, none] [] h = gd (inR (0)) (gd (([] : List zV).isEmpty = true ∧ (zrk 392 = 1 ∨ zrk 392 = 6 ∧ ((0 : Int) = 0 ∨ (0 : Int) = 1))) (some (.inl (some (zI 0)), h))) from zGo 2 392 2149 _ _ _).trans ?_
        refine (gd_t (by decide) _).trans ?_
        refine (gd_t (⟨rfl, Or.inr ⟨rfl, by decide⟩⟩) _).trans ?_
        rfl
    · skip
      refine (show zY 392 2151 [some (zR (some a0)), some (zR (some 0)), some (zR (some 177)), some (zR (some a3)), some (zR (some a4)), some (zI i), some (zI x6), some (zI x7), none, none] [] h = zY 392 2378 [some (zR (some a0)), some (zR (some 0)), some (zR (some 177)), some (zR (some a3)), some (zR (some a4)), some (zI i), some (zI x6), some (zI x7), none, none] [] h from zGo 1 392 2151 _ _ _).trans ?_
      rfl
  · skip
    refine (show zY 392 2132 [some (zR (some a0)), some (zR (some 0)), some (zR (some 177)), some (zR (some a3)), some (zR (some a4)), some (zI i), some (zI x6), some (zI x7), none, none] [] h = gd (inR (0)) (gd (([] : List zV).isEmpty = true ∧ (zrk 392 = 1 ∨ zrk 392 = 6 ∧ ((0 : Int) = 0 ∨ (0 : Int) = 1))) (some (.inl (some (zI 0)), h))) from zGo 2 392 2132 _ _ _).trans ?_
    refine (gd_t (by decide) _).trans ?_
    refine (gd_t (⟨rfl, Or.inr ⟨rfl, by decide⟩⟩) _).trans ?_
    rfl
theorem q_lw39_0 {h : zH} {a0 : Nat} {a3 : Nat} {a4 : Nat} {i : Int} (ta0 : hT h a0 = 22) (KC : KC h) (KM : KM h) (ta3 : hT h a3 = 23) (na3 : a3 < hN h) (ta4 : hT h a4 = 24) (na4 : a4 < hN h) : zY 392 2154 [some (zR (some a0)), some (zR (some 0)), some (zR (some 177)), some (zR (some a3)), some (zR (some a4)), some (zI i), none, none, none, none] [] h =
    gd (-2147483648 ≤ i + 1 ∧ i + 1 < 2147483648) (
    gd (0 ≤ (i + 1) ∧ (i + 1) < (hL h a0 : Int)) (
    gd (-2147483648 ≤ i + 2 ∧ i + 2 < 2147483648) (
    gd (0 ≤ (i + 2) ∧ (i + 2) < (hL h a0 : Int)) (
    zBack zY 392 2168 2171 [some (zR (some a0)), some (zR (some 0)), some (zR (some 177)), some (zR (some a3)), some (zR (some a4)), some (zI i), none, none, none, none] [] (zC 378 [zR (some 0), zI (hI h a0 (i + 1).toNat), zI (hI h a0 (i + 2).toNat), zR (some a3)] h))))) := by
  refine (show zY 392 2154 [some (zR (some a0)), some (zR (some 0)), some (zR (some 177)), some (zR (some a3)), some (zR (some a4)), some (zI i), none, none, none, none] [] h = gd (inR (1)) (gd (inR (i + 1)) (gd (zok h (some a0) 22 (i + 1)) (gd (inR (2)) (gd (inR (i + 2)) (gd (zok h (some a0) 22 (i + 2)) (gd (false = zctor 378 ∧ zcs [] ≤ 8 ∧ zrm 392 (zrf 378 + 1) (8 + (zmaxl 378 + 11) + zrl 378) = true ∧ zcs [zR (some 0), zI (hI h a0 (i + 1).toNat), zI (hI h a0 (i + 2).toNat), zR (some a3)] ≤ zmaxl 378) (zBack zY 392 2168 2171 [some (zR (some a0)), some (zR (some 0)), some (zR (some 177)), some (zR (some a3)), some (zR (some a4)), some (zI i), none, none, none, none] [] (zC 378 [zR (some 0), zI (hI h a0 (i + 1).toNat), zI (hI h a0 (i + 2).toNat), zR (some a3)] h)))))))) from zGo 13 392 2154 _ _ _).trans ?_
  refine (gd_t (by decide) _).trans ?_
  refine gd_c Iff.rfl (fun c0 => ?_)
  refine gd_c (ci ta0 rfl) (fun c1 => ?_)
  refine (gd_t (by decide) _).trans ?_
  refine gd_c Iff.rfl (fun c2 => ?_)
  refine gd_c (ci ta0 rfl) (fun c3 => ?_)
  refine (gd_t (⟨rfl, Nat.le_of_ble_eq_true rfl, rfl, Nat.le_of_ble_eq_true rfl⟩) _).trans ?_
  rfl
theorem q_lw39_1 {h : zH} {a0 : Nat} {a3 : Nat} {a4 : Nat} {i : Int} {y : Int} (ta0 : hT h a0 = 22) (KC : KC h) (KM : KM h) (ta3 : hT h a3 = 23) (na3 : a3 < hN h) (ta4 : hT h a4 = 24) (na4 : a4 < hN h) : zBack zY 392 2168 2171 [some (zR (some a0)), some (zR (some 0)), some (zR (some 177)), some (zR (some a3)), some (zR (some a4)), some (zI i), none, none, none, none] [] (some (.inl (some (zI y)), h)) =
    gd (-2147483648 ≤ i + 1 ∧ i + 1 < 2147483648) (
    gd (0 ≤ (i + 1) ∧ (i + 1) < (hL h a0 : Int)) (
    gd (-2147483648 ≤ i + 2 ∧ i + 2 < 2147483648) (
    gd (0 ≤ (i + 2) ∧ (i + 2) < (hL h a0 : Int)) (
    zBack zY 392 2186 2189 [some (zR (some a0)), some (zR (some 0)), some (zR (some 177)), some (zR (some a3)), some (zR (some a4)), some (zI i), some (zI y), none, none, none] [] (zC 346 [zR (some 177), zI (hI h a0 (i + 1).toNat), zI (hI h a0 (i + 2).toNat)] h))))) := by
  refine (show zBack zY 392 2168 2171 [some (zR (some a0)), some (zR (some 0)), some (zR (some 177)), some (zR (some a3)), some (zR (some a4)), some (zI i), none, none, none, none] [] (some (.inl (some (zI y)), h)) = gd (inR (1)) (gd (inR (i + 1)) (gd (zok h (some a0) 22 (i + 1)) (gd (inR (2)) (gd (inR (i + 2)) (gd (zok h (some a0) 22 (i + 2)) (gd (false = zctor 346 ∧ zcs [] ≤ 8 ∧ zrm 392 (zrf 346 + 1) (8 + (zmaxl 346 + 11) + zrl 346) = true ∧ zcs [zR (some 177), zI (hI h a0 (i + 1).toNat), zI (hI h a0 (i + 2).toNat)] ≤ zmaxl 346) (gd (zob h (some 177) 12) (zBack zY 392 2186 2189 [some (zR (some a0)), some (zR (some 0)), some (zR (some 177)), some (zR (some a3)), some (zR (some a4)), some (zI i), some (zI y), none, none, none] [] (zC 346 [zR (some 177), zI (hI h a0 (i + 1).toNat), zI (hI h a0 (i + 2).toNat)] h))))))))) from zGo 13 392 2171 _ _ _).trans ?_
  refine (gd_t (by decide) _).trans ?_
  refine gd_c Iff.rfl (fun c0 => ?_)
  refine gd_c (ci ta0 rfl) (fun c1 => ?_)
  refine (gd_t (by decide) _).trans ?_
  refine gd_c Iff.rfl (fun c2 => ?_)
  refine gd_c (ci ta0 rfl) (fun c3 => ?_)
  refine (gd_t (⟨rfl, Nat.le_of_ble_eq_true rfl, rfl, Nat.le_of_ble_eq_true rfl⟩) _).trans ?_
  refine (gd_t (⟨rfl, (PTM KM 177 _ rfl rfl), (PNM KM 177 rfl)⟩) _).trans ?_
  rfl
theorem q_lw39_2 {h : zH} {a0 : Nat} {a3 : Nat} {a4 : Nat} {i : Int} {x6 : Int} {y : Int} (ta0 : hT h a0 = 22) (KC : KC h) (KM : KM h) (ta3 : hT h a3 = 23) (na3 : a3 < hN h) (ta4 : hT h a4 = 24) (na4 : a4 < hN h) : zBack zY 392 2186 2189 [some (zR (some a0)), some (zR (some 0)), some (zR (some 177)), some (zR (some a3)), some (zR (some a4)), some (zI i), some (zI x6), none, none, none] [] (some (.inl (some (zI y)), h)) =
    zBack zY 392 2192 2195 [some (zR (some a0)), some (zR (some 0)), some (zR (some 177)), some (zR (some a3)), some (zR (some a4)), some (zI i), some (zI x6), some (zI y), none, none] [] (zC 208 [zR (some 177)] h) := by
  refine (show zBack zY 392 2186 2189 [some (zR (some a0)), some (zR (some 0)), some (zR (some 177)), some (zR (some a3)), some (zR (some a4)), some (zI i), some (zI x6), none, none, none] [] (some (.inl (some (zI y)), h)) = gd (false = zctor 208 ∧ zcs [] ≤ 8 ∧ zrm 392 (zrf 208 + 1) (8 + (zmaxl 208 + 11) + zrl 208) = true ∧ zcs [zR (some 177)] ≤ zmaxl 208) (gd (zob h (some 177) 12) (zBack zY 392 2192 2195 [some (zR (some a0)), some (zR (some 0)), some (zR (some 177)), some (zR (some a3)), some (zR (some a4)), some (zI i), some (zI x6), some (zI y), none, none] [] (zC 208 [zR (some 177)] h))) from zGo 3 392 2189 _ _ _).trans ?_
  refine (gd_t (⟨rfl, Nat.le_of_ble_eq_true rfl, rfl, Nat.le_of_ble_eq_true rfl⟩) _).trans ?_
  refine (gd_t (⟨rfl, (PTM KM 177 _ rfl rfl), (PNM KM 177 rfl)⟩) _).trans ?_
  rfl
theorem q_lw39_3 {h : zH} {a0 : Nat} {a3 : Nat} {a4 : Nat} {i : Int} {x6 : Int} {x7 : Int} {y : Int} (ta0 : hT h a0 = 22) (KC : KC h) (KM : KM h) (ta3 : hT h a3 = 23) (na3 : a3 < hN h) (ta4 : hT h a4 = 24) (na4 : a4 < hN h) : zBack zY 392 2192 2195 [some (zR (some a0)), some (zR (some 0)), some (zR (some 177)), some (zR (some a3)), some (zR (some a4)), some (zI i), some (zI x6), some (zI x7), none, none] [] (some (.inl (some (zI y)), h)) =
    if y = x6 then
      if x6 = 0 then
        gd ((0 : Int) ≤ 0 ∧ 0 < (hL h a3 : Int)) (
        if (hJ h a3 0) = (zi2l x7) then
          zY 392 2378 [some (zR (some a0)), some (zR (some 0)), some (zR (some 177)), some (zR (some a3)), some (zR (some a4)), some (zI i), some (zI x6), some (zI x7), none, none] [] h
        else
          some (.inl (some (zI 0)), h))
      else
        zY 392 2378 [some (zR (some a0)), some (zR (some 0)), some (zR (some 177)), some (zR (some a3)), some (zR (some a4)), some (zI i), some (zI x6), some (zI x7), none, none] [] h
    else
      some (.inl (some (zI 0)), h) := by
  refine (show zBack zY 392 2192 2195 [some (zR (some a0)), some (zR (some 0)), some (zR (some 177)), some (zR (some a3)), some (zR (some a4)), some (zI i), some (zI x6), some (zI x7), none, none] [] (some (.inl (some (zI y)), h)) = if y = x6 then zY 392 2202 [some (zR (some a0)), some (zR (some 0)), some (zR (some 177)), some (zR (some a3)), some (zR (some a4)), some (zI i), some (zI x6), some (zI x7), none, none] [] h else zY 392 2200 [some (zR (some a0)), some (zR (some 0)), some (zR (some 177)), some (zR (some a3)), some (zR (some a4)), some (zI i), some (zI x6), some (zI x7), none, none] [] h from zGo 2 392 2195 _ _ _).trans ?_
  refine iteC (fun c0 => ?_) (fun c0 => ?_)
  · skip
    refine (show zY 392 2202 [some (zR (some a0)), some (zR (some 0)), some (zR (some 177)), some (zR (some a3)), some (zR (some a4)), some (zI i), some (zI x6), some (zI x7), none, none] [] h = if x6 = 0 then zY 392 2207 [some (zR (some a0)), some (zR (some 0)), some (zR (some 177)), some (zR (some a3)), some (zR (some a4)), some (zI i), some (zI x6), some (zI x7), none, none] [] h else zY 392 2219 [some (zR (some a0)), some (zR (some 0)), some (zR (some 177)), some (zR (some a3)), some (zR (some a4)), some (zI i), some (zI x6), some (zI x7), none, none] [] h from zGo 2 392 2202 _ _ _).trans ?_
    refine iteC (fun c1 => ?_) (fun c1 => ?_)
    · skip
      refine (show zY 392 2207 [some (zR (some a0)), some (zR (some 0)), some (zR (some 177)), some (zR (some a3)), some (zR (some a4)), some (zI i), some (zI x6), some (zI x7), none, none] [] h = gd (inR (0)) (gd (zok h (some a3) 23 0) (if (zlcmp (hJ h a3 0) (zi2l x7)) = 0 then zY 392 2219 [some (zR (some a0)), some (zR (some 0)), some (zR (some 177)), some (zR (some a3)), some (zR (some a4)), some (zI i), some (zI x6), some (zI x7), none, none] [] h else zY 392 2217 [some (zR (some a0)), some (zR (some 0)), some (zR (some 177)), some (zR (some a3)), some (zR (some a4)), some (zI i), some (zI x6), some (zI x7), none, none] [] h)) from zGo 7 392 2207 _ _ _).trans ?_
      refine (gd_t (by decide) _).trans ?_
      refine gd_c (ci ta3 rfl) (fun c2 => ?_)
      refine iteL (fun c3 => ?_) (fun c3 => ?_)
      · skip
        refine (show zY 392 2219 [some (zR (some a0)), some (zR (some 0)), some (zR (some 177)), some (zR (some a3)), some (zR (some a4)), some (zI i), some (zI x6), some (zI x7), none, none] [] h = zY 392 2378 [some (zR (some a0)), some (zR (some 0)), some (zR (some 177)), some (zR (some a3)), some (zR (some a4)), some (zI i), some (zI x6), some (zI x7), none, none] [] h from zGo 1 392 2219 _ _ _).trans ?_
        rfl
      · skip
        refine (show zY 392 2217 [some (zR (some a0)), some (zR (some 0)), some (zR (some 177)), some (zR (some a3)), some (zR (some a4)), some (zI i), some (zI x6), some (zI x7), none, none] [] h = gd (inR (0)) (gd (([] : List zV).isEmpty = true ∧ (zrk 392 = 1 ∨ zrk 392 = 6 ∧ ((0 : Int) = 0 ∨ (0 : Int) = 1))) (some (.inl (some (zI 0)), h))) from zGo 2 392 2217 _ _ _).trans ?_
        refine (gd_t (by decide) _).trans ?_
        refine (gd_t (⟨rfl, Or.inr ⟨rfl, by decide⟩⟩) _).trans ?_
        rfl
    · skip
      refine (show zY 392 2219 [some (zR (some a0)), some (zR (some 0)), some (zR (some 177)), some (zR (some a3)), some (zR (some a4)), some (zI i), some (zI x6), some (zI x7), none, none] [] h = zY 392 2378 [some (zR (some a0)), some (zR (some 0)), some (zR (some 177)), some (zR (some a3)), some (zR (some a4)), some (zI i), some (zI x6), some (zI x7), none, none] [] h from zGo 1 392 2219 _ _ _).trans ?_
      rfl
  · skip
    refine (show zY 392 2200 [some (zR (some a0)), some (zR (some 0)), some (zR (some 177)), some (zR (some a3)), some (zR (some a4)), some (zI i), some (zI x6), some (zI x7), none, none] [] h = gd (inR (0)) (gd (([] : List zV).isEmpty = true ∧ (zrk 392 = 1 ∨ zrk 392 = 6 ∧ ((0 : Int) = 0 ∨ (0 : Int) = 1))) (some (.inl (some (zI 0)), h))) from zGo 2 392 2200 _ _ _).trans ?_
    refine (gd_t (by decide) _).trans ?_
    refine (gd_t (⟨rfl, Or.inr ⟨rfl, by decide⟩⟩) _).trans ?_
    rfl
theorem q_lw40_0 {h : zH} {a0 : Nat} {a3 : Nat} {a4 : Nat} {i : Int} (ta0 : hT h a0 = 22) (KC : KC h) (KM : KM h) (ta3 : hT h a3 = 23) (na3 : a3 < hN h) (ta4 : hT h a4 = 24) (na4 : a4 < hN h) : zY 392 2222 [some (zR (some a0)), some (zR (some 0)), some (zR (some 177)), some (zR (some a3)), some (zR (some a4)), some (zI i), none, none, none, none] [] h =
    gd (-2147483648 ≤ i + 1 ∧ i + 1 < 2147483648) (
    gd (0 ≤ (i + 1) ∧ (i + 1) < (hL h a0 : Int)) (
    zBack zY 392 2230 2233 [some (zR (some a0)), some (zR (some 0)), some (zR (some 177)), some (zR (some a3)), some (zR (some a4)), some (zI i), none, none, none, none] [] (zC 379 [zR (some 0), zI (hI h a0 (i + 1).toNat), zR (some a3)] h))) := by
  refine (show zY 392 2222 [some (zR (some a0)), some (zR (some 0)), some (zR (some 177)), some (zR (some a3)), some (zR (some a4)), some (zI i), none, none, none, none] [] h = gd (inR (1)) (gd (inR (i + 1)) (gd (zok h (some a0) 22 (i + 1)) (gd (false = zctor 379 ∧ zcs [] ≤ 8 ∧ zrm 392 (zrf 379 + 1) (8 + (zmaxl 379 + 11) + zrl 379) = true ∧ zcs [zR (some 0), zI (hI h a0 (i + 1).toNat), zR (some a3)] ≤ zmaxl 379) (zBack zY 392 2230 2233 [some (zR (some a0)), some (zR (some 0)), some (zR (some 177)), some (zR (some a3)), some (zR (some a4)), some (zI i), none, none, none, none] [] (zC 379 [zR (some 0), zI (hI h a0 (i + 1).toNat), zR (some a3)] h))))) from zGo 8 392 2222 _ _ _).trans ?_
  refine (gd_t (by decide) _).trans ?_
  refine gd_c Iff.rfl (fun c0 => ?_)
  refine gd_c (ci ta0 rfl) (fun c1 => ?_)
  refine (gd_t (⟨rfl, Nat.le_of_ble_eq_true rfl, rfl, Nat.le_of_ble_eq_true rfl⟩) _).trans ?_
  rfl
theorem q_lw40_1 {h : zH} {a0 : Nat} {a3 : Nat} {a4 : Nat} {i : Int} {y : Int} (ta0 : hT h a0 = 22) (KC : KC h) (KM : KM h) (ta3 : hT h a3 = 23) (na3 : a3 < hN h) (ta4 : hT h a4 = 24) (na4 : a4 < hN h) : zBack zY 392 2230 2233 [some (zR (some a0)), some (zR (some 0)), some (zR (some 177)), some (zR (some a3)), some (zR (some a4)), some (zI i), none, none, none, none] [] (some (.inl (some (zI y)), h)) =
    gd (-2147483648 ≤ i + 1 ∧ i + 1 < 2147483648) (
    gd (0 ≤ (i + 1) ∧ (i + 1) < (hL h a0 : Int)) (
    zBack zY 392 2242 2245 [some (zR (some a0)), some (zR (some 0)), some (zR (some 177)), some (zR (some a3)), some (zR (some a4)), some (zI i), some (zI y), none, none, none] [] (zC 347 [zR (some 177), zI (hI h a0 (i + 1).toNat)] h))) := by
  refine (show zBack zY 392 2230 2233 [some (zR (some a0)), some (zR (some 0)), some (zR (some 177)), some (zR (some a3)), some (zR (some a4)), some (zI i), none, none, none, none] [] (some (.inl (some (zI y)), h)) = gd (inR (1)) (gd (inR (i + 1)) (gd (zok h (some a0) 22 (i + 1)) (gd (false = zctor 347 ∧ zcs [] ≤ 8 ∧ zrm 392 (zrf 347 + 1) (8 + (zmaxl 347 + 11) + zrl 347) = true ∧ zcs [zR (some 177), zI (hI h a0 (i + 1).toNat)] ≤ zmaxl 347) (gd (zob h (some 177) 12) (zBack zY 392 2242 2245 [some (zR (some a0)), some (zR (some 0)), some (zR (some 177)), some (zR (some a3)), some (zR (some a4)), some (zI i), some (zI y), none, none, none] [] (zC 347 [zR (some 177), zI (hI h a0 (i + 1).toNat)] h)))))) from zGo 8 392 2233 _ _ _).trans ?_
  refine (gd_t (by decide) _).trans ?_
  refine gd_c Iff.rfl (fun c0 => ?_)
  refine gd_c (ci ta0 rfl) (fun c1 => ?_)
  refine (gd_t (⟨rfl, Nat.le_of_ble_eq_true rfl, rfl, Nat.le_of_ble_eq_true rfl⟩) _).trans ?_
  refine (gd_t (⟨rfl, (PTM KM 177 _ rfl rfl), (PNM KM 177 rfl)⟩) _).trans ?_
  rfl
theorem q_lw40_2 {h : zH} {a0 : Nat} {a3 : Nat} {a4 : Nat} {i : Int} {x6 : Int} {y : Int} (ta0 : hT h a0 = 22) (KC : KC h) (KM : KM h) (ta3 : hT h a3 = 23) (na3 : a3 < hN h) (ta4 : hT h a4 = 24) (na4 : a4 < hN h) : zBack zY 392 2242 2245 [some (zR (some a0)), some (zR (some 0)), some (zR (some 177)), some (zR (some a3)), some (zR (some a4)), some (zI i), some (zI x6), none, none, none] [] (some (.inl (some (zI y)), h)) =
    zBack zY 392 2248 2251 [some (zR (some a0)), some (zR (some 0)), some (zR (some 177)), some (zR (some a3)), some (zR (some a4)), some (zI i), some (zI x6), some (zI y), none, none] [] (zC 208 [zR (some 177)] h) := by
  refine (show zBack zY 392 2242 2245 [some (zR (some a0)), some (zR (some 0)), some (zR (some 177)), some (zR (some a3)), some (zR (some a4)), some (zI i), some (zI x6), none, none, none] [] (some (.inl (some (zI y)), h)) = gd (false = zctor 208 ∧ zcs [] ≤ 8 ∧ zrm 392 (zrf 208 + 1) (8 + (zmaxl 208 + 11) + zrl 208) = true ∧ zcs [zR (some 177)] ≤ zmaxl 208) (gd (zob h (some 177) 12) (zBack zY 392 2248 2251 [some (zR (some a0)), some (zR (some 0)), some (zR (some 177)), some (zR (some a3)), some (zR (some a4)), some (zI i), some (zI x6), some (zI y), none, none] [] (zC 208 [zR (some 177)] h))) from zGo 3 392 2245 _ _ _).trans ?_
  refine (gd_t (⟨rfl, Nat.le_of_ble_eq_true rfl, rfl, Nat.le_of_ble_eq_true rfl⟩) _).trans ?_
  refine (gd_t (⟨rfl, (PTM KM 177 _ rfl rfl), (PNM KM 177 rfl)⟩) _).trans ?_
  rfl
theorem q_lw40_3 {h : zH} {a0 : Nat} {a3 : Nat} {a4 : Nat} {i : Int} {x6 : Int} {x7 : Int} {y : Int} (ta0 : hT h a0 = 22) (KC : KC h) (KM : KM h) (ta3 : hT h a3 = 23) (na3 : a3 < hN h) (ta4 : hT h a4 = 24) (na4 : a4 < hN h) : zBack zY 392 2248 2251 [some (zR (some a0)), some (zR (some 0)), some (zR (some 177)), some (zR (some a3)), some (zR (some a4)), some (zI i), some (zI x6), some (zI x7), none, none] [] (some (.inl (some (zI y)), h)) =
    if y = x6 then
      if x6 = 0 then
        gd ((0 : Int) ≤ 0 ∧ 0 < (hL h a3 : Int)) (
        if (hJ h a3 0) = (zi2l x7) then
          zY 392 2378 [some (zR (some a0)), some (zR (some 0)), some (zR (some 177)), some (zR (some a3)), some (zR (some a4)), some (zI i), some (zI x6), some (zI x7), none, none] [] h
        else
          some (.inl (some (zI 0)), h))
      else
        zY 392 2378 [some (zR (some a0)), some (zR (some 0)), some (zR (some 177)), some (zR (some a3)), some (zR (some a4)), some (zI i), some (zI x6), some (zI x7), none, none] [] h
    else
      some (.inl (some (zI 0)), h) := by
  refine (show zBack zY 392 2248 2251 [some (zR (some a0)), some (zR (some 0)), some (zR (some 177)), some (zR (some a3)), some (zR (some a4)), some (zI i), some (zI x6), some (zI x7), none, none] [] (some (.inl (some (zI y)), h)) = if y = x6 then zY 392 2258 [some (zR (some a0)), some (zR (some 0)), some (zR (some 177)), some (zR (some a3)), some (zR (some a4)), some (zI i), some (zI x6), some (zI x7), none, none] [] h else zY 392 2256 [some (zR (some a0)), some (zR (some 0)), some (zR (some 177)), some (zR (some a3)), some (zR (some a4)), some (zI i), some (zI x6), some (zI x7), none, none] [] h from zGo 2 392 2251 _ _ _).trans ?_
  refine iteC (fun c0 => ?_) (fun c0 => ?_)
  · skip
    refine (show zY 392 2258 [some (zR (some a0)), some (zR (some 0)), some (zR (some 177)), some (zR (some a3)), some (zR (some a4)), some (zI i), some (zI x6), some (zI x7), none, none] [] h = if x6 = 0 then zY 392 2263 [some (zR (some a0)), some (zR (some 0)), some (zR (some 177)), some (zR (some a3)), some (zR (some a4)), some (zI i), some (zI x6), some (zI x7), none, none] [] h else zY 392 2275 [some (zR (some a0)), some (zR (some 0)), some (zR (some 177)), some (zR (some a3)), some (zR (some a4)), some (zI i), some (zI x6), some (zI x7), none, none] [] h from zGo 2 392 2258 _ _ _).trans ?_
    refine iteC (fun c1 => ?_) (fun c1 => ?_)
    · skip
      refine (show zY 392 2263 [some (zR (some a0)), some (zR (some 0)), some (zR (some 177)), some (zR (some a3)), some (zR (some a4)), some (zI i), some (zI x6), some (zI x7), none, none] [] h = gd (inR (0)) (gd (zok h (some a3) 23 0) (if (zlcmp (hJ h a3 0) (zi2l x7)) = 0 then zY 392 2275 [some (zR (some a0)), some (zR (some 0)), some (zR (some 177)), some (zR (some a3)), some (zR (some a4)), some (zI i), some (zI x6), some (zI x7), none, none] [] h else zY 392 2273 [some (zR (some a0)), some (zR (some 0)), some (zR (some 177)), some (zR (some a3)), some (zR (some a4)), some (zI i), some (zI x6), some (zI x7), none, none] [] h)) from zGo 7 392 2263 _ _ _).trans ?_
      refine (gd_t (by decide) _).trans ?_
      refine gd_c (ci ta3 rfl) (fun c2 => ?_)
      refine iteL (fun c3 => ?_) (fun c3 => ?_)
      · skip
        refine (show zY 392 2275 [some (zR (some a0)), some (zR (some 0)), some (zR (some 177)), some (zR (some a3)), some (zR (some a4)), some (zI i), some (zI x6), some (zI x7), none, none] [] h = zY 392 2378 [some (zR (some a0)), some (zR (some 0)), some (zR (some 177)), some (zR (some a3)), some (zR (some a4)), some (zI i), some (zI x6), some (zI x7), none, none] [] h from zGo 1 392 2275 _ _ _).trans ?_
        rfl
      · skip
        refine (show zY 392 2273 [some (zR (some a0)), some (zR (some 0)), some (zR (some 177)), some (zR (some a3)), some (zR (some a4)), some (zI i), some (zI x6), some (zI x7), none, none] [] h = gd (inR (0)) (gd (([] : List zV).isEmpty = true ∧ (zrk 392 = 1 ∨ zrk 392 = 6 ∧ ((0 : Int) = 0 ∨ (0 : Int) = 1))) (some (.inl (some (zI 0)), h))) from zGo 2 392 2273 _ _ _).trans ?_
        refine (gd_t (by decide) _).trans ?_
        refine (gd_t (⟨rfl, Or.inr ⟨rfl, by decide⟩⟩) _).trans ?_
        rfl
    · skip
      refine (show zY 392 2275 [some (zR (some a0)), some (zR (some 0)), some (zR (some 177)), some (zR (some a3)), some (zR (some a4)), some (zI i), some (zI x6), some (zI x7), none, none] [] h = zY 392 2378 [some (zR (some a0)), some (zR (some 0)), some (zR (some 177)), some (zR (some a3)), some (zR (some a4)), some (zI i), some (zI x6), some (zI x7), none, none] [] h from zGo 1 392 2275 _ _ _).trans ?_
      rfl
  · skip
    refine (show zY 392 2256 [some (zR (some a0)), some (zR (some 0)), some (zR (some 177)), some (zR (some a3)), some (zR (some a4)), some (zI i), some (zI x6), some (zI x7), none, none] [] h = gd (inR (0)) (gd (([] : List zV).isEmpty = true ∧ (zrk 392 = 1 ∨ zrk 392 = 6 ∧ ((0 : Int) = 0 ∨ (0 : Int) = 1))) (some (.inl (some (zI 0)), h))) from zGo 2 392 2256 _ _ _).trans ?_
    refine (gd_t (by decide) _).trans ?_
    refine (gd_t (⟨rfl, Or.inr ⟨rfl, by decide⟩⟩) _).trans ?_
    rfl
theorem q_lw41_0 {h : zH} {a0 : Nat} {a3 : Nat} {a4 : Nat} {i : Int} (ta0 : hT h a0 = 22) (KC : KC h) (KM : KM h) (ta3 : hT h a3 = 23) (na3 : a3 < hN h) (ta4 : hT h a4 = 24) (na4 : a4 < hN h) : zY 392 2278 [some (zR (some a0)), some (zR (some 0)), some (zR (some 177)), some (zR (some a3)), some (zR (some a4)), some (zI i), none, none, none, none] [] h =
    zBack zY 392 2280 2283 [some (zR (some a0)), some (zR (some 0)), some (zR (some 177)), some (zR (some a3)), some (zR (some a4)), some (zI i), none, none, none, none] [] (zC 380 [zR (some 0), zR (some a3)] h) := by
  refine (show zY 392 2278 [some (zR (some a0)), some (zR (some 0)), some (zR (some 177)), some (zR (some a3)), some (zR (some a4)), some (zI i), none, none, none, none] [] h = gd (false = zctor 380 ∧ zcs [] ≤ 8 ∧ zrm 392 (zrf 380 + 1) (8 + (zmaxl 380 + 11) + zrl 380) = true ∧ zcs [zR (some 0), zR (some a3)] ≤ zmaxl 380) (zBack zY 392 2280 2283 [some (zR (some a0)), some (zR (some 0)), some (zR (some 177)), some (zR (some a3)), some (zR (some a4)), some (zI i), none, none, none, none] [] (zC 380 [zR (some 0), zR (some a3)] h)) from zGo 3 392 2278 _ _ _).trans ?_
  refine (gd_t (⟨rfl, Nat.le_of_ble_eq_true rfl, rfl, Nat.le_of_ble_eq_true rfl⟩) _).trans ?_
  rfl
theorem q_lw41_1 {h : zH} {a0 : Nat} {a3 : Nat} {a4 : Nat} {i : Int} {y : Int} (ta0 : hT h a0 = 22) (KC : KC h) (KM : KM h) (ta3 : hT h a3 = 23) (na3 : a3 < hN h) (ta4 : hT h a4 = 24) (na4 : a4 < hN h) : zBack zY 392 2280 2283 [some (zR (some a0)), some (zR (some 0)), some (zR (some 177)), some (zR (some a3)), some (zR (some a4)), some (zI i), none, none, none, none] [] (some (.inl (some (zI y)), h)) =
    zBack zY 392 2286 2289 [some (zR (some a0)), some (zR (some 0)), some (zR (some 177)), some (zR (some a3)), some (zR (some a4)), some (zI i), some (zI y), none, none, none] [] (zC 348 [zR (some 177)] h) := by
  refine (show zBack zY 392 2280 2283 [some (zR (some a0)), some (zR (some 0)), some (zR (some 177)), some (zR (some a3)), some (zR (some a4)), some (zI i), none, none, none, none] [] (some (.inl (some (zI y)), h)) = gd (false = zctor 348 ∧ zcs [] ≤ 8 ∧ zrm 392 (zrf 348 + 1) (8 + (zmaxl 348 + 11) + zrl 348) = true ∧ zcs [zR (some 177)] ≤ zmaxl 348) (gd (zob h (some 177) 12) (zBack zY 392 2286 2289 [some (zR (some a0)), some (zR (some 0)), some (zR (some 177)), some (zR (some a3)), some (zR (some a4)), some (zI i), some (zI y), none, none, none] [] (zC 348 [zR (some 177)] h))) from zGo 3 392 2283 _ _ _).trans ?_
  refine (gd_t (⟨rfl, Nat.le_of_ble_eq_true rfl, rfl, Nat.le_of_ble_eq_true rfl⟩) _).trans ?_
  refine (gd_t (⟨rfl, (PTM KM 177 _ rfl rfl), (PNM KM 177 rfl)⟩) _).trans ?_
  rfl
theorem q_lw41_2 {h : zH} {a0 : Nat} {a3 : Nat} {a4 : Nat} {i : Int} {x6 : Int} {y : Int} (ta0 : hT h a0 = 22) (KC : KC h) (KM : KM h) (ta3 : hT h a3 = 23) (na3 : a3 < hN h) (ta4 : hT h a4 = 24) (na4 : a4 < hN h) : zBack zY 392 2286 2289 [some (zR (some a0)), some (zR (some 0)), some (zR (some 177)), some (zR (some a3)), some (zR (some a4)), some (zI i), some (zI x6), none, none, none] [] (some (.inl (some (zI y)), h)) =
    zBack zY 392 2292 2295 [some (zR (some a0)), some (zR (some 0)), some (zR (some 177)), some (zR (some a3)), some (zR (some a4)), some (zI i), some (zI x6), some (zI y), none, none] [] (zC 208 [zR (some 177)] h) := by
  refine (show zBack zY 392 2286 2289 [some (zR (some a0)), some (zR (some 0)), some (zR (some 177)), some (zR (some a3)), some (zR (some a4)), some (zI i), some (zI x6), none, none, none] [] (some (.inl (some (zI y)), h)) = gd (false = zctor 208 ∧ zcs [] ≤ 8 ∧ zrm 392 (zrf 208 + 1) (8 + (zmaxl 208 + 11) + zrl 208) = true ∧ zcs [zR (some 177)] ≤ zmaxl 208) (gd (zob h (some 177) 12) (zBack zY 392 2292 2295 [some (zR (some a0)), some (zR (some 0)), some (zR (some 177)), some (zR (some a3)), some (zR (some a4)), some (zI i), some (zI x6), some (zI y), none, none] [] (zC 208 [zR (some 177)] h))) from zGo 3 392 2289 _ _ _).trans ?_
  refine (gd_t (⟨rfl, Nat.le_of_ble_eq_true rfl, rfl, Nat.le_of_ble_eq_true rfl⟩) _).trans ?_
  refine (gd_t (⟨rfl, (PTM KM 177 _ rfl rfl), (PNM KM 177 rfl)⟩) _).trans ?_
  rfl
theorem q_lw41_3 {h : zH} {a0 : Nat} {a3 : Nat} {a4 : Nat} {i : Int} {x6 : Int} {x7 : Int} {y : Int} (ta0 : hT h a0 = 22) (KC : KC h) (KM : KM h) (ta3 : hT h a3 = 23) (na3 : a3 < hN h) (ta4 : hT h a4 = 24) (na4 : a4 < hN h) : zBack zY 392 2292 2295 [some (zR (some a0)), some (zR (some 0)), some (zR (some 177)), some (zR (some a3)), some (zR (some a4)), some (zI i), some (zI x6), some (zI x7), none, none] [] (some (.inl (some (zI y)), h)) =
    if y = x6 then
      if x6 = 0 then
        gd ((0 : Int) ≤ 0 ∧ 0 < (hL h a3 : Int)) (
        if (hJ h a3 0) = (zi2l x7) then
          zY 392 2378 [some (zR (some a0)), some (zR (some 0)), some (zR (some 177)), some (zR (some a3)), some (zR (some a4)), some (zI i), some (zI x6), some (zI x7), none, none] [] h
        else
          some (.inl (some (zI 0)), h))
      else
        zY 392 2378 [some (zR (some a0)), some (zR (some 0)), some (zR (some 177)), some (zR (some a3)), some (zR (some a4)), some (zI i), some (zI x6), some (zI x7), none, none] [] h
    else
      some (.inl (some (zI 0)), h) := by
  refine (show zBack zY 392 2292 2295 [some (zR (some a0)), some (zR (some 0)), some (zR (some 177)), some (zR (some a3)), some (zR (some a4)), some (zI i), some (zI x6), some (zI x7), none, none] [] (some (.inl (some (zI y)), h)) = if y = x6 then zY 392 2302 [some (zR (some a0)), some (zR (some 0)), some (zR (some 177)), some (zR (some a3)), some (zR (some a4)), some (zI i), some (zI x6), some (zI x7), none, none] [] h else zY 392 2300 [some (zR (some a0)), some (zR (some 0)), some (zR (some 177)), some (zR (some a3)), some (zR (some a4)), some (zI i), some (zI x6), some (zI x7), none, none] [] h from zGo 2 392 2295 _ _ _).trans ?_
  refine iteC (fun c0 => ?_) (fun c0 => ?_)
  · skip
    refine (show zY 392 2302 [some (zR (some a0)), some (zR (some 0)), some (zR (some 177)), some (zR (some a3)), some (zR (some a4)), some (zI i), some (zI x6), some (zI x7), none, none] [] h = if x6 = 0 then zY 392 2307 [some (zR (some a0)), some (zR (some 0)), some (zR (some 177)), some (zR (some a3)), some (zR (some a4)), some (zI i), some (zI x6), some (zI x7), none, none] [] h else zY 392 2319 [some (zR (some a0)), some (zR (some 0)), some (zR (some 177)), some (zR (some a3)), some (zR (some a4)), some (zI i), some (zI x6), some (zI x7), none, none] [] h from zGo 2 392 2302 _ _ _).trans ?_
    refine iteC (fun c1 => ?_) (fun c1 => ?_)
    · skip
      refine (show zY 392 2307 [some (zR (some a0)), some (zR (some 0)), some (zR (some 177)), some (zR (some a3)), some (zR (some a4)), some (zI i), some (zI x6), some (zI x7), none, none] [] h = gd (inR (0)) (gd (zok h (some a3) 23 0) (if (zlcmp (hJ h a3 0) (zi2l x7)) = 0 then zY 392 2319 [some (zR (some a0)), some (zR (some 0)), some (zR (some 177)), some (zR (some a3)), some (zR (some a4)), some (zI i), some (zI x6), some (zI x7), none, none] [] h else zY 392 2317 [some (zR (some a0)), some (zR (some 0)), some (zR (some 177)), some (zR (some a3)), some (zR (some a4)), some (zI i), some (zI x6), some (zI x7), none, none] [] h)) from zGo 7 392 2307 _ _ _).trans ?_
      refine (gd_t (by decide) _).trans ?_
      refine gd_c (ci ta3 rfl) (fun c2 => ?_)
      refine iteL (fun c3 => ?_) (fun c3 => ?_)
      · skip
        refine (show zY 392 2319 [some (zR (some a0)), some (zR (some 0)), some (zR (some 177)), some (zR (some a3)), some (zR (some a4)), some (zI i), some (zI x6), some (zI x7), none, none] [] h = zY 392 2378 [some (zR (some a0)), some (zR (some 0)), some (zR (some 177)), some (zR (some a3)), some (zR (some a4)), some (zI i), some (zI x6), some (zI x7), none, none] [] h from zGo 1 392 2319 _ _ _).trans ?_
        rfl
      · skip
        refine (show zY 392 2317 [some (zR (some a0)), some (zR (some 0)), some (zR (some 177)), some (zR (some a3)), some (zR (some a4)), some (zI i), some (zI x6), some (zI x7), none, none] [] h = gd (inR (0)) (gd (([] : List zV).isEmpty = true ∧ (zrk 392 = 1 ∨ zrk 392 = 6 ∧ ((0 : Int) = 0 ∨ (0 : Int) = 1))) (some (.inl (some (zI 0)), h))) from zGo 2 392 2317 _ _ _).trans ?_
        refine (gd_t (by decide) _).trans ?_
        refine (gd_t (⟨rfl, Or.inr ⟨rfl, by decide⟩⟩) _).trans ?_
        rfl
    · skip
      refine (show zY 392 2319 [some (zR (some a0)), some (zR (some 0)), some (zR (some 177)), some (zR (some a3)), some (zR (some a4)), some (zI i), some (zI x6), some (zI x7), none, none] [] h = zY 392 2378 [some (zR (some a0)), some (zR (some 0)), some (zR (some 177)), some (zR (some a3)), some (zR (some a4)), some (zI i), some (zI x6), some (zI x7), none, none] [] h from zGo 1 392 2319 _ _ _).trans ?_
      rfl
  · skip
    refine (show zY 392 2300 [some (zR (some a0)), some (zR (some 0)), some (zR (some 177)), some (zR (some a3)), some (zR (some a4)), some (zI i), some (zI x6), some (zI x7), none, none] [] h = gd (inR (0)) (gd (([] : List zV).isEmpty = true ∧ (zrk 392 = 1 ∨ zrk 392 = 6 ∧ ((0 : Int) = 0 ∨ (0 : Int) = 1))) (some (.inl (some (zI 0)), h))) from zGo 2 392 2300 _ _ _).trans ?_
    refine (gd_t (by decide) _).trans ?_
    refine (gd_t (⟨rfl, Or.inr ⟨rfl, by decide⟩⟩) _).trans ?_
    rfl
theorem q_lw42_0 {h : zH} {a0 : Nat} {a3 : Nat} {a4 : Nat} {i : Int} (ta0 : hT h a0 = 22) (KC : KC h) (KM : KM h) (ta3 : hT h a3 = 23) (na3 : a3 < hN h) (ta4 : hT h a4 = 24) (na4 : a4 < hN h) : zY 392 2322 [some (zR (some a0)), some (zR (some 0)), some (zR (some 177)), some (zR (some a3)), some (zR (some a4)), some (zI i), none, none, none, none] [] h =
    gd (-2147483648 ≤ i + 1 ∧ i + 1 < 2147483648) (
    gd (0 ≤ (i + 1) ∧ (i + 1) < (hL h a0 : Int)) (
    zBack zY 392 2330 2333 [some (zR (some a0)), some (zR (some 0)), some (zR (some 177)), some (zR (some a3)), some (zR (some a4)), some (zI i), none, none, none, none] [] (zC 381 [zR (some 0), zI (hI h a0 (i + 1).toNat), zR (some a3)] h))) := by
  refine (show zY 392 2322 [some (zR (some a0)), some (zR (some 0)), some (zR (some 177)), some (zR (some a3)), some (zR (some a4)), some (zI i), none, none, none, none] [] h = gd (inR (1)) (gd (inR (i + 1)) (gd (zok h (some a0) 22 (i + 1)) (gd (false = zctor 381 ∧ zcs [] ≤ 8 ∧ zrm 392 (zrf 381 + 1) (8 + (zmaxl 381 + 11) + zrl 381) = true ∧ zcs [zR (some 0), zI (hI h a0 (i + 1).toNat), zR (some a3)] ≤ zmaxl 381) (zBack zY 392 2330 2333 [some (zR (some a0)), some (zR (some 0)), some (zR (some 177)), some (zR (some a3)), some (zR (some a4)), some (zI i), none, none, none, none] [] (zC 381 [zR (some 0), zI (hI h a0 (i + 1).toNat), zR (some a3)] h))))) from zGo 8 392 2322 _ _ _).trans ?_
  refine (gd_t (by decide) _).trans ?_
  refine gd_c Iff.rfl (fun c0 => ?_)
  refine gd_c (ci ta0 rfl) (fun c1 => ?_)
  refine (gd_t (⟨rfl, Nat.le_of_ble_eq_true rfl, rfl, Nat.le_of_ble_eq_true rfl⟩) _).trans ?_
  rfl
theorem q_lw42_1 {h : zH} {a0 : Nat} {a3 : Nat} {a4 : Nat} {i : Int} {y : Int} (ta0 : hT h a0 = 22) (KC : KC h) (KM : KM h) (ta3 : hT h a3 = 23) (na3 : a3 < hN h) (ta4 : hT h a4 = 24) (na4 : a4 < hN h) : zBack zY 392 2330 2333 [some (zR (some a0)), some (zR (some 0)), some (zR (some 177)), some (zR (some a3)), some (zR (some a4)), some (zI i), none, none, none, none] [] (some (.inl (some (zI y)), h)) =
    gd (-2147483648 ≤ i + 1 ∧ i + 1 < 2147483648) (
    gd (0 ≤ (i + 1) ∧ (i + 1) < (hL h a0 : Int)) (
    zBack zY 392 2342 2345 [some (zR (some a0)), some (zR (some 0)), some (zR (some 177)), some (zR (some a3)), some (zR (some a4)), some (zI i), some (zI y), none, none, none] [] (zC 349 [zR (some 177), zI (hI h a0 (i + 1).toNat)] h))) := by
  refine (show zBack zY 392 2330 2333 [some (zR (some a0)), some (zR (some 0)), some (zR (some 177)), some (zR (some a3)), some (zR (some a4)), some (zI i), none, none, none, none] [] (some (.inl (some (zI y)), h)) = gd (inR (1)) (gd (inR (i + 1)) (gd (zok h (some a0) 22 (i + 1)) (gd (false = zctor 349 ∧ zcs [] ≤ 8 ∧ zrm 392 (zrf 349 + 1) (8 + (zmaxl 349 + 11) + zrl 349) = true ∧ zcs [zR (some 177), zI (hI h a0 (i + 1).toNat)] ≤ zmaxl 349) (gd (zob h (some 177) 12) (zBack zY 392 2342 2345 [some (zR (some a0)), some (zR (some 0)), some (zR (some 177)), some (zR (some a3)), some (zR (some a4)), some (zI i), some (zI y), none, none, none] [] (zC 349 [zR (some 177), zI (hI h a0 (i + 1).toNat)] h)))))) from zGo 8 392 2333 _ _ _).trans ?_
  refine (gd_t (by decide) _).trans ?_
  refine gd_c Iff.rfl (fun c0 => ?_)
  refine gd_c (ci ta0 rfl) (fun c1 => ?_)
  refine (gd_t (⟨rfl, Nat.le_of_ble_eq_true rfl, rfl, Nat.le_of_ble_eq_true rfl⟩) _).trans ?_
  refine (gd_t (⟨rfl, (PTM KM 177 _ rfl rfl), (PNM KM 177 rfl)⟩) _).trans ?_
  rfl
theorem q_lw42_2 {h : zH} {a0 : Nat} {a3 : Nat} {a4 : Nat} {i : Int} {x6 : Int} {y : Int} (ta0 : hT h a0 = 22) (KC : KC h) (KM : KM h) (ta3 : hT h a3 = 23) (na3 : a3 < hN h) (ta4 : hT h a4 = 24) (na4 : a4 < hN h) : zBack zY 392 2342 2345 [some (zR (some a0)), some (zR (some 0)), some (zR (some 177)), some (zR (some a3)), some (zR (some a4)), some (zI i), some (zI x6), none, none, none] [] (some (.inl (some (zI y)), h)) =
    zBack zY 392 2348 2351 [some (zR (some a0)), some (zR (some 0)), some (zR (some 177)), some (zR (some a3)), some (zR (some a4)), some (zI i), some (zI x6), some (zI y), none, none] [] (zC 208 [zR (some 177)] h) := by
  refine (show zBack zY 392 2342 2345 [some (zR (some a0)), some (zR (some 0)), some (zR (some 177)), some (zR (some a3)), some (zR (some a4)), some (zI i), some (zI x6), none, none, none] [] (some (.inl (some (zI y)), h)) = gd (false = zctor 208 ∧ zcs [] ≤ 8 ∧ zrm 392 (zrf 208 + 1) (8 + (zmaxl 208 + 11) + zrl 208) = true ∧ zcs [zR (some 177)] ≤ zmaxl 208) (gd (zob h (some 177) 12) (zBack zY 392 2348 2351 [some (zR (some a0)), some (zR (some 0)), some (zR (some 177)), some (zR (some a3)), some (zR (some a4)), some (zI i), some (zI x6), some (zI y), none, none] [] (zC 208 [zR (some 177)] h))) from zGo 3 392 2345 _ _ _).trans ?_
  refine (gd_t (⟨rfl, Nat.le_of_ble_eq_true rfl, rfl, Nat.le_of_ble_eq_true rfl⟩) _).trans ?_
  refine (gd_t (⟨rfl, (PTM KM 177 _ rfl rfl), (PNM KM 177 rfl)⟩) _).trans ?_
  rfl
theorem q_lw42_3 {h : zH} {a0 : Nat} {a3 : Nat} {a4 : Nat} {i : Int} {x6 : Int} {x7 : Int} {y : Int} (ta0 : hT h a0 = 22) (KC : KC h) (KM : KM h) (ta3 : hT h a3 = 23) (na3 : a3 < hN h) (ta4 : hT h a4 = 24) (na4 : a4 < hN h) : zBack zY 392 2348 2351 [some (zR (some a0)), some (zR (some 0)), some (zR (some 177)), some (zR (some a3)), some (zR (some a4)), some (zI i), some (zI x6), some (zI x7), none, none] [] (some (.inl (some (zI y)), h)) =
    if y = x6 then
      if x6 = 0 then
        gd ((0 : Int) ≤ 0 ∧ 0 < (hL h a3 : Int)) (
        if (hJ h a3 0) = (zi2l x7) then
          zY 392 2378 [some (zR (some a0)), some (zR (some 0)), some (zR (some 177)), some (zR (some a3)), some (zR (some a4)), some (zI i), some (zI x6), some (zI x7), none, none] [] h
        else
          some (.inl (some (zI 0)), h))
      else
        zY 392 2378 [some (zR (some a0)), some (zR (some 0)), some (zR (some 177)), some (zR (some a3)), some (zR (some a4)), some (zI i), some (zI x6), some (zI x7), none, none] [] h
    else
      some (.inl (some (zI 0)), h) := by
  refine (show zBack zY 392 2348 2351 [some (zR (some a0)), some (zR (some 0)), some (zR (some 177)), some (zR (some a3)), some (zR (some a4)), some (zI i), some (zI x6), some (zI x7), none, none] [] (some (.inl (some (zI y)), h)) = if y = x6 then zY 392 2358 [some (zR (some a0)), some (zR (some 0)), some (zR (some 177)), some (zR (some a3)), some (zR (some a4)), some (zI i), some (zI x6), some (zI x7), none, none] [] h else zY 392 2356 [some (zR (some a0)), some (zR (some 0)), some (zR (some 177)), some (zR (some a3)), some (zR (some a4)), some (zI i), some (zI x6), some (zI x7), none, none] [] h from zGo 2 392 2351 _ _ _).trans ?_
  refine iteC (fun c0 => ?_) (fun c0 => ?_)
  · skip
    refine (show zY 392 2358 [some (zR (some a0)), some (zR (some 0)), some (zR (some 177)), some (zR (some a3)), some (zR (some a4)), some (zI i), some (zI x6), some (zI x7), none, none] [] h = if x6 = 0 then zY 392 2363 [some (zR (some a0)), some (zR (some 0)), some (zR (some 177)), some (zR (some a3)), some (zR (some a4)), some (zI i), some (zI x6), some (zI x7), none, none] [] h else zY 392 2375 [some (zR (some a0)), some (zR (some 0)), some (zR (some 177)), some (zR (some a3)), some (zR (some a4)), some (zI i), some (zI x6), some (zI x7), none, none] [] h from zGo 2 392 2358 _ _ _).trans ?_
    refine iteC (fun c1 => ?_) (fun c1 => ?_)
    · skip
      refine (show zY 392 2363 [some (zR (some a0)), some (zR (some 0)), some (zR (some 177)), some (zR (some a3)), some (zR (some a4)), some (zI i), some (zI x6), some (zI x7), none, none] [] h = gd (inR (0)) (gd (zok h (some a3) 23 0) (if (zlcmp (hJ h a3 0) (zi2l x7)) = 0 then zY 392 2375 [some (zR (some a0)), some (zR (some 0)), some (zR (some 177)), some (zR (some a3)), some (zR (some a4)), some (zI i), some (zI x6), some (zI x7), none, none] [] h else zY 392 2373 [some (zR (some a0)), some (zR (some 0)), some (zR (some 177)), some (zR (some a3)), some (zR (some a4)), some (zI i), some (zI x6), some (zI x7), none, none] [] h)) from zGo 7 392 2363 _ _ _).trans ?_
      refine (gd_t (by decide) _).trans ?_
      refine gd_c (ci ta3 rfl) (fun c2 => ?_)
      refine iteL (fun c3 => ?_) (fun c3 => ?_)
      · skip
        refine (show zY 392 2375 [some (zR (some a0)), some (zR (some 0)), some (zR (some 177)), some (zR (some a3)), some (zR (some a4)), some (zI i), some (zI x6), some (zI x7), none, none] [] h = zY 392 2378 [some (zR (some a0)), some (zR (some 0)), some (zR (some 177)), some (zR (some a3)), some (zR (some a4)), some (zI i), some (zI x6), some (zI x7), none, none] [] h from zGo 1 392 2375 _ _ _).trans ?_
        rfl
      · skip
        refine (show zY 392 2373 [some (zR (some a0)), some (zR (some 0)), some (zR (some 177)), some (zR (some a3)), some (zR (some a4)), some (zI i), some (zI x6), some (zI x7), none, none] [] h = gd (inR (0)) (gd (([] : List zV).isEmpty = true ∧ (zrk 392 = 1 ∨ zrk 392 = 6 ∧ ((0 : Int) = 0 ∨ (0 : Int) = 1))) (some (.inl (some (zI 0)), h))) from zGo 2 392 2373 _ _ _).trans ?_
        refine (gd_t (by decide) _).trans ?_
        refine (gd_t (⟨rfl, Or.inr ⟨rfl, by decide⟩⟩) _).trans ?_
        rfl
    · skip
      refine (show zY 392 2375 [some (zR (some a0)), some (zR (some 0)), some (zR (some 177)), some (zR (some a3)), some (zR (some a4)), some (zI i), some (zI x6), some (zI x7), none, none] [] h = zY 392 2378 [some (zR (some a0)), some (zR (some 0)), some (zR (some 177)), some (zR (some a3)), some (zR (some a4)), some (zI i), some (zI x6), some (zI x7), none, none] [] h from zGo 1 392 2375 _ _ _).trans ?_
      rfl
  · skip
    refine (show zY 392 2356 [some (zR (some a0)), some (zR (some 0)), some (zR (some 177)), some (zR (some a3)), some (zR (some a4)), some (zI i), some (zI x6), some (zI x7), none, none] [] h = gd (inR (0)) (gd (([] : List zV).isEmpty = true ∧ (zrk 392 = 1 ∨ zrk 392 = 6 ∧ ((0 : Int) = 0 ∨ (0 : Int) = 1))) (some (.inl (some (zI 0)), h))) from zGo 2 392 2356 _ _ _).trans ?_
    refine (gd_t (by decide) _).trans ?_
    refine (gd_t (⟨rfl, Or.inr ⟨rfl, by decide⟩⟩) _).trans ?_
    rfl
