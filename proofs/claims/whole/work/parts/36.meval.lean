/-! The reference: what expressions and conditions are worth. -/
theorem q_M_reckons {h : zH} {x1 : Int} {x2 : Int} (KM : KM h) (g0 : ((f_M_arity x1) = 0) → ((¬ (x1 < 4)) → (x1 < 7) → (-2147483648 ≤ x1 - 4 ∧ x1 - 4 < 2147483648)) := by omega) (g1 : ((f_M_arity x1) = 0) → ((¬ (x1 < 4)) → (x1 < 7) → (0 ≤ (x1 - 4) ∧ (x1 - 4) < 3)) := by omega) (g2 : (¬ ((f_M_arity x1) = 0)) → (¬ ((f_M_arity x1) = 1)) → (-2147483648 ≤ (hI h 177 21) - 1 ∧ (hI h 177 21) - 1 < 2147483648) → (-2147483648 ≤ ((hI h 177 21) - 1) - 1 ∧ ((hI h 177 21) - 1) - 1 < 2147483648) → (0 ≤ ((hI h 177 21) - 1) ∧ ((hI h 177 21) - 1) < 201) → (0 ≤ (((hI h 177 21) - 1) - 1) ∧ (((hI h 177 21) - 1) - 1) < 201) → ((x1 = 7) → (-2147483648 ≤ (hI h 187 ((hI h 177 21) - 1).toNat) + (hI h 187 (((hI h 177 21) - 1) - 1).toNat) ∧ (hI h 187 ((hI h 177 21) - 1).toNat) + (hI h 187 (((hI h 177 21) - 1) - 1).toNat) < 2147483648)) := by omega) (g3 : (¬ ((f_M_arity x1) = 0)) → (¬ ((f_M_arity x1) = 1)) → (-2147483648 ≤ (hI h 177 21) - 1 ∧ (hI h 177 21) - 1 < 2147483648) → (-2147483648 ≤ ((hI h 177 21) - 1) - 1 ∧ ((hI h 177 21) - 1) - 1 < 2147483648) → (0 ≤ ((hI h 177 21) - 1) ∧ ((hI h 177 21) - 1) < 201) → (0 ≤ (((hI h 177 21) - 1) - 1) ∧ (((hI h 177 21) - 1) - 1) < 201) → ((¬ (x1 = 7)) → (x1 = 8) → (-2147483648 ≤ (hI h 187 ((hI h 177 21) - 1).toNat) - (hI h 187 (((hI h 177 21) - 1) - 1).toNat) ∧ (hI h 187 ((hI h 177 21) - 1).toNat) - (hI h 187 (((hI h 177 21) - 1) - 1).toNat) < 2147483648)) := by omega) (g4 : (¬ ((f_M_arity x1) = 0)) → (¬ ((f_M_arity x1) = 1)) → (-2147483648 ≤ (hI h 177 21) - 1 ∧ (hI h 177 21) - 1 < 2147483648) → (-2147483648 ≤ ((hI h 177 21) - 1) - 1 ∧ ((hI h 177 21) - 1) - 1 < 2147483648) → (0 ≤ ((hI h 177 21) - 1) ∧ ((hI h 177 21) - 1) < 201) → (0 ≤ (((hI h 177 21) - 1) - 1) ∧ (((hI h 177 21) - 1) - 1) < 201) → ((¬ (x1 = 7)) → (¬ (x1 = 8)) → (x1 = 9) → (-2147483648 ≤ (hI h 187 ((hI h 177 21) - 1).toNat) * (hI h 187 (((hI h 177 21) - 1) - 1).toNat) ∧ (hI h 187 ((hI h 177 21) - 1).toNat) * (hI h 187 (((hI h 177 21) - 1) - 1).toNat) < 2147483648)) := by omega) : zC 250 [zR (some 177), zI x1, zI x2] h =
    if (f_M_arity x1) = 0 then
      gd (0 ≤ (hI h 177 21) ∧ (hI h 177 21) < 201) (
      gd (-2147483648 ≤ (hI h 177 21) + 1 ∧ (hI h 177 21) + 1 < 2147483648) (
      some (.inl (none), (sI (sI h 187 (hI h 177 21).toNat (f_M_simple x1 x2)) 177 21 ((hI h 177 21) + 1)))))
    else
      if (f_M_arity x1) = 1 then
        gd (-2147483648 ≤ (hI h 177 21) - 1 ∧ (hI h 177 21) - 1 < 2147483648) (
        gd (0 ≤ ((hI h 177 21) - 1) ∧ ((hI h 177 21) - 1) < 201) (
        gd (-2147483648 ≤ 1 - (hI h 187 ((hI h 177 21) - 1).toNat) ∧ 1 - (hI h 187 ((hI h 177 21) - 1).toNat) < 2147483648) (
        some (.inl (none), (sI h 187 ((hI h 177 21) - 1).toNat (1 - (hI h 187 ((hI h 177 21) - 1).toNat)))))))
      else
        gd (-2147483648 ≤ (hI h 177 21) - 1 ∧ (hI h 177 21) - 1 < 2147483648) (
        gd (-2147483648 ≤ ((hI h 177 21) - 1) - 1 ∧ ((hI h 177 21) - 1) - 1 < 2147483648) (
        gd (0 ≤ ((hI h 177 21) - 1) ∧ ((hI h 177 21) - 1) < 201) (
        gd (0 ≤ (((hI h 177 21) - 1) - 1) ∧ (((hI h 177 21) - 1) - 1) < 201) (
        some (.inl (none), (sI (sI h 177 21 ((hI h 177 21) - 1)) 187 (((hI h 177 21) - 1) - 1).toNat (f_M_joined x1 (hI h 187 ((hI h 177 21) - 1).toNat) (hI h 187 (((hI h 177 21) - 1) - 1).toNat)))))))) := by
  refine (show zC 250 [zR (some 177), zI x1, zI x2] h = gd (false = zctor 227 ∧ zcs [] ≤ 8 ∧ zrm 250 (zrf 227 + 1) (8 + (zmaxl 227 + 11) + zrl 227) = true ∧ zcs [zI x1] ≤ zmaxl 227) (zBack zY 250 1 4 [some (zR (some 177)), some (zI x1), some (zI x2)] [] (zC 227 [zI x1] h)) from zGo 2 250 0 _ _ _).trans ?_
  refine (gd_t (⟨rfl, Nat.le_of_ble_eq_true rfl, rfl, Nat.le_of_ble_eq_true rfl⟩) _).trans ?_
  refine (congrArg (zBack zY 250 1 4 [some (zR (some 177)), some (zI x1), some (zI x2)] []) (e_M_arity)).trans ?_
  refine (show zY 250 4 [some (zR (some 177)), some (zI x1), some (zI x2)] [zI (f_M_arity x1)] h = if (f_M_arity x1) = 0 then zY 250 7 [some (zR (some 177)), some (zI x1), some (zI x2)] [] h else zY 250 34 [some (zR (some 177)), some (zI x1), some (zI x2)] [] h from zGo 1 250 4 _ _ _).trans ?_
  refine iteC (fun c0 => ?_) (fun c0 => ?_)
  · skip
    refine (show zY 250 7 [some (zR (some 177)), some (zI x1), some (zI x2)] [] h = gd (zob h (some 177) 12) (zY 250 11 [some (zR (some 177)), some (zI x1), some (zI x2)] [zR (hR h 177 20)] h) from zGo 2 250 7 _ _ _).trans ?_
    refine (gd_t (⟨rfl, (PTM KM 177 _ rfl rfl), (PNM KM 177 rfl)⟩) _).trans ?_
    refine (congrArg (fun r => zY 250 11 [some (zR (some 177)), some (zI x1), some (zI x2)] (zR r :: []) h) (PRM KM 177 20 _ rfl)).trans ?_
    refine (show zY 250 11 [some (zR (some 177)), some (zI x1), some (zI x2)] [zR (some 187)] h = gd (zob h (some 177) 12) (gd (false = zctor 251 ∧ zcs [zI (hI h 177 21), zR (some 187)] ≤ 8 ∧ zrm 250 (zrf 251 + 1) (8 + (zmaxl 251 + 11) + zrl 251) = true ∧ zcs [zI x1, zI x2] ≤ zmaxl 251) (zBack zY 250 17 20 [some (zR (some 177)), some (zI x1), some (zI x2)] [zI (hI h 177 21), zR (some 187)] (zC 251 [zI x1, zI x2] h))) from zGo 5 250 11 _ _ _).trans ?_
    refine (gd_t (⟨rfl, (PTM KM 177 _ rfl rfl), (PNM KM 177 rfl)⟩) _).trans ?_
    refine (gd_t (⟨rfl, Nat.le_of_ble_eq_true rfl, rfl, Nat.le_of_ble_eq_true rfl⟩) _).trans ?_
    refine (congrArg (zBack zY 250 17 20 [some (zR (some 177)), some (zI x1), some (zI x2)] [zI (hI h 177 21), zR (some 187)]) (e_M_simple (g0 c0) (g1 c0))).trans ?_
    refine (show zY 250 20 [some (zR (some 177)), some (zI x1), some (zI x2)] [zI (f_M_simple x1 x2), zI (hI h 177 21), zR (some 187)] h = gd (zokw h (some 187) 22 (hI h 177 21)) (gd (zob (sI h 187 (hI h 177 21).toNat (f_M_simple x1 x2)) (some 177) 12) (gd (inR (1)) (gd (inR ((hI h 177 21) + 1)) (gd (zob (sI h 187 (hI h 177 21).toNat (f_M_simple x1 x2)) (some 177) 12) (gd (([] : List zV).isEmpty = true ∧ zrk 250 = 0) (some (.inl (none), (sI (sI h 187 (hI h 177 21).toNat (f_M_simple x1 x2)) 177 21 ((hI h 177 21) + 1))))))))) from zGo 9 250 20 _ _ _).trans ?_
    refine gd_c (ciw (PTM KM 187 _ rfl rfl) (PNM KM 187 rfl) (PLM KM 187 201 rfl rfl)) (fun c1 => ?_)
    refine (gd_t (⟨rfl, (PTM KM 177 _ rfl rfl), (PNM KM 177 rfl)⟩) _).trans ?_
    refine (gd_t (by decide) _).trans ?_
    refine gd_c Iff.rfl (fun c2 => ?_)
    refine (gd_t (⟨rfl, (PTM KM 177 _ rfl rfl), (PNM KM 177 rfl)⟩) _).trans ?_
    refine (gd_t (⟨rfl, rfl⟩) _).trans ?_
    rfl
  · skip
    refine (show zY 250 34 [some (zR (some 177)), some (zI x1), some (zI x2)] [] h = gd (false = zctor 227 ∧ zcs [] ≤ 8 ∧ zrm 250 (zrf 227 + 1) (8 + (zmaxl 227 + 11) + zrl 227) = true ∧ zcs [zI x1] ≤ zmaxl 227) (zBack zY 250 35 38 [some (zR (some 177)), some (zI x1), some (zI x2)] [] (zC 227 [zI x1] h)) from zGo 2 250 34 _ _ _).trans ?_
    refine (gd_t (⟨rfl, Nat.le_of_ble_eq_true rfl, rfl, Nat.le_of_ble_eq_true rfl⟩) _).trans ?_
    refine (congrArg (zBack zY 250 35 38 [some (zR (some 177)), some (zI x1), some (zI x2)] []) (e_M_arity)).trans ?_
    refine (show zY 250 38 [some (zR (some 177)), some (zI x1), some (zI x2)] [zI (f_M_arity x1)] h = gd (inR (1)) (if (f_M_arity x1) = 1 then zY 250 42 [some (zR (some 177)), some (zI x1), some (zI x2)] [] h else zY 250 69 [some (zR (some 177)), some (zI x1), some (zI x2)] [] h) from zGo 2 250 38 _ _ _).trans ?_
    refine (gd_t (by decide) _).trans ?_
    refine iteC (fun c3 => ?_) (fun c3 => ?_)
    · skip
      refine (show zY 250 42 [some (zR (some 177)), some (zI x1), some (zI x2)] [] h = gd (zob h (some 177) 12) (zY 250 46 [some (zR (some 177)), some (zI x1), some (zI x2)] [zR (hR h 177 20)] h) from zGo 2 250 42 _ _ _).trans ?_
      refine (gd_t (⟨rfl, (PTM KM 177 _ rfl rfl), (PNM KM 177 rfl)⟩) _).trans ?_
      refine (congrArg (fun r => zY 250 46 [some (zR (some 177)), some (zI x1), some (zI x2)] (zR r :: []) h) (PRM KM 177 20 _ rfl)).trans ?_
      refine (show zY 250 46 [some (zR (some 177)), some (zI x1), some (zI x2)] [zR (some 187)] h = gd (zob h (some 177) 12) (gd (inR (1)) (gd (inR ((hI h 177 21) - 1)) (gd (inR (1)) (gd (zob h (some 177) 12) (zY 250 57 [some (zR (some 177)), some (zI x1), some (zI x2)] [zR (hR h 177 20), zI 1, zI ((hI h 177 21) - 1), zR (some 187)] h))))) from zGo 7 250 46 _ _ _).trans ?_
      refine (gd_t (⟨rfl, (PTM KM 177 _ rfl rfl), (PNM KM 177 rfl)⟩) _).trans ?_
      refine (gd_t (by decide) _).trans ?_
      refine gd_c Iff.rfl (fun c4 => ?_)
      refine (gd_t (by decide) _).trans ?_
      refine (gd_t (⟨rfl, (PTM KM 177 _ rfl rfl), (PNM KM 177 rfl)⟩) _).trans ?_
      refine (congrArg (fun r => zY 250 57 [some (zR (some 177)), some (zI x1), some (zI x2)] (zR r :: zI 1 :: zI ((hI h 177 21) - 1) :: zR (some 187) :: []) h) (PRM KM 177 20 _ rfl)).trans ?_
      refine (show zY 250 57 [some (zR (some 177)), some (zI x1), some (zI x2)] [zR (some 187), zI 1, zI ((hI h 177 21) - 1), zR (some 187)] h = gd (zob h (some 177) 12) (gd (inR (1)) (gd (inR ((hI h 177 21) - 1)) (gd (zok h (some 187) 22 ((hI h 177 21) - 1)) (gd (inR (1 - (hI h 187 ((hI h 177 21) - 1).toNat))) (gd (zokw h (some 187) 22 ((hI h 177 21) - 1)) (gd (([] : List zV).isEmpty = true ∧ zrk 250 = 0) (some (.inl (none), (sI h 187 ((hI h 177 21) - 1).toNat (1 - (hI h 187 ((hI h 177 21) - 1).toNat))))))))))) from zGo 9 250 57 _ _ _).trans ?_
      refine (gd_t (⟨rfl, (PTM KM 177 _ rfl rfl), (PNM KM 177 rfl)⟩) _).trans ?_
      refine (gd_t (by decide) _).trans ?_
      refine (gd_t ((Iff.rfl).2 (by omega)) _).trans ?_
      refine gd_c (ci (PTM KM 187 _ rfl rfl) (PLM KM 187 201 rfl rfl)) (fun c5 => ?_)
      refine gd_c Iff.rfl (fun c6 => ?_)
      refine (gd_t ((ciw (PTM KM 187 _ rfl rfl) (PNM KM 187 rfl) (PLM KM 187 201 rfl rfl)).2 (by omega)) _).trans ?_
      refine (gd_t (⟨rfl, rfl⟩) _).trans ?_
      rfl
    · skip
      refine (show zY 250 69 [some (zR (some 177)), some (zI x1), some (zI x2)] [] h = gd (zob h (some 177) 12) (gd (inR (1)) (gd (inR ((hI h 177 21) - 1)) (gd (zob h (some 177) 12) (gd (zob (sI h 177 21 ((hI h 177 21) - 1)) (some 177) 12) (zY 250 83 [some (zR (some 177)), some (zI x1), some (zI x2)] [zR (hR h 177 20)] (sI h 177 21 ((hI h 177 21) - 1))))))) from zGo 8 250 69 _ _ _).trans ?_
      refine (gd_t (⟨rfl, (PTM KM 177 _ rfl rfl), (PNM KM 177 rfl)⟩) _).trans ?_
      refine (gd_t (by decide) _).trans ?_
      refine gd_c Iff.rfl (fun c7 => ?_)
      refine (gd_t (⟨rfl, (PTM KM 177 _ rfl rfl), (PNM KM 177 rfl)⟩) _).trans ?_
      refine (gd_t (⟨rfl, (PTM KM 177 _ rfl rfl), (PNM KM 177 rfl)⟩) _).trans ?_
      refine (congrArg (fun r => zY 250 83 [some (zR (some 177)), some (zI x1), some (zI x2)] (zR r :: []) (sI h 177 21 ((hI h 177 21) - 1))) (PRM KM 177 20 _ rfl)).trans ?_
      refine (show zY 250 83 [some (zR (some 177)), some (zI x1), some (zI x2)] [zR (some 187)] (sI h 177 21 ((hI h 177 21) - 1)) = gd (zob (sI h 177 21 ((hI h 177 21) - 1)) (some 177) 12) (gd (inR (1)) (gd (inR (((hI h 177 21) - 1) - 1)) (gd (zob (sI h 177 21 ((hI h 177 21) - 1)) (some 177) 12) (zY 250 94 [some (zR (some 177)), some (zI x1), some (zI x2)] [zR (hR h 177 20), zI x1, zI (((hI h 177 21) - 1) - 1), zR (some 187)] (sI h 177 21 ((hI h 177 21) - 1)))))) from zGo 7 250 83 _ _ _).trans ?_
      refine (gd_t (⟨rfl, (PTM KM 177 _ rfl rfl), (PNM KM 177 rfl)⟩) _).trans ?_
      refine (gd_t (by decide) _).trans ?_
      refine gd_c Iff.rfl (fun c8 => ?_)
      refine (gd_t (⟨rfl, (PTM KM 177 _ rfl rfl), (PNM KM 177 rfl)⟩) _).trans ?_
      refine (congrArg (fun r => zY 250 94 [some (zR (some 177)), some (zI x1), some (zI x2)] (zR r :: zI x1 :: zI (((hI h 177 21) - 1) - 1) :: zR (some 187) :: []) (sI h 177 21 ((hI h 177 21) - 1))) (PRM KM 177 20 _ rfl)).trans ?_
      refine (show zY 250 94 [some (zR (some 177)), some (zI x1), some (zI x2)] [zR (some 187), zI x1, zI (((hI h 177 21) - 1) - 1), zR (some 187)] (sI h 177 21 ((hI h 177 21) - 1)) = gd (zob (sI h 177 21 ((hI h 177 21) - 1)) (some 177) 12) (gd (zok (sI h 177 21 ((hI h 177 21) - 1)) (some 187) 22 ((hI h 177 21) - 1)) (gd (zob (sI h 177 21 ((hI h 177 21) - 1)) (some 177) 12) (zY 250 103 [some (zR (some 177)), some (zI x1), some (zI x2)] [zR (hR h 177 20), zI (hI h 187 ((hI h 177 21) - 1).toNat), zI x1, zI (((hI h 177 21) - 1) - 1), zR (some 187)] (sI h 177 21 ((hI h 177 21) - 1))))) from zGo 5 250 94 _ _ _).trans ?_
      refine (gd_t (⟨rfl, (PTM KM 177 _ rfl rfl), (PNM KM 177 rfl)⟩) _).trans ?_
      refine gd_c (ci (PTM KM 187 _ rfl rfl) (PLM KM 187 201 rfl rfl)) (fun c9 => ?_)
      refine (gd_t (⟨rfl, (PTM KM 177 _ rfl rfl), (PNM KM 177 rfl)⟩) _).trans ?_
      refine (congrArg (fun r => zY 250 103 [some (zR (some 177)), some (zI x1), some (zI x2)] (zR r :: zI (hI h 187 ((hI h 177 21) - 1).toNat) :: zI x1 :: zI (((hI h 177 21) - 1) - 1) :: zR (some 187) :: []) (sI h 177 21 ((hI h 177 21) - 1))) (PRM KM 177 20 _ rfl)).trans ?_
      refine (show zY 250 103 [some (zR (some 177)), some (zI x1), some (zI x2)] [zR (some 187), zI (hI h 187 ((hI h 177 21) - 1).toNat), zI x1, zI (((hI h 177 21) - 1) - 1), zR (some 187)] (sI h 177 21 ((hI h 177 21) - 1)) = gd (zob (sI h 177 21 ((hI h 177 21) - 1)) (some 177) 12) (gd (inR (1)) (gd (inR (((hI h 177 21) - 1) - 1)) (gd (zok (sI h 177 21 ((hI h 177 21) - 1)) (some 187) 22 (((hI h 177 21) - 1) - 1)) (gd (false = zctor 253 ∧ zcs [zI (((hI h 177 21) - 1) - 1), zR (some 187)] ≤ 8 ∧ zrm 250 (zrf 253 + 1) (8 + (zmaxl 253 + 11) + zrl 253) = true ∧ zcs [zI x1, zI (hI h 187 ((hI h 177 21) - 1).toNat), zI (hI h 187 (((hI h 177 21) - 1) - 1).toNat)] ≤ zmaxl 253) (zBack zY 250 110 113 [some (zR (some 177)), some (zI x1), some (zI x2)] [zI (((hI h 177 21) - 1) - 1), zR (some 187)] (zC 253 [zI x1, zI (hI h 187 ((hI h 177 21) - 1).toNat), zI (hI h 187 (((hI h 177 21) - 1) - 1).toNat)] (sI h 177 21 ((hI h 177 21) - 1)))))))) from zGo 6 250 103 _ _ _).trans ?_
      refine (gd_t (⟨rfl, (PTM KM 177 _ rfl rfl), (PNM KM 177 rfl)⟩) _).trans ?_
      refine (gd_t (by decide) _).trans ?_
      refine (gd_t ((Iff.rfl).2 (by omega)) _).trans ?_
      refine gd_c (ci (PTM KM 187 _ rfl rfl) (PLM KM 187 201 rfl rfl)) (fun c10 => ?_)
      refine (gd_t (⟨rfl, Nat.le_of_ble_eq_true rfl, rfl, Nat.le_of_ble_eq_true rfl⟩) _).trans ?_
      refine (congrArg (zBack zY 250 110 113 [some (zR (some 177)), some (zI x1), some (zI x2)] [zI (((hI h 177 21) - 1) - 1), zR (some 187)]) (e_M_joined (g2 c0 c3 c7 c8 c9 c10) (g3 c0 c3 c7 c8 c9 c10) (g4 c0 c3 c7 c8 c9 c10))).trans ?_
      refine (show zY 250 113 [some (zR (some 177)), some (zI x1), some (zI x2)] [zI (f_M_joined x1 (hI h 187 ((hI h 177 21) - 1).toNat) (hI h 187 (((hI h 177 21) - 1) - 1).toNat)), zI (((hI h 177 21) - 1) - 1), zR (some 187)] (sI h 177 21 ((hI h 177 21) - 1)) = gd (zokw (sI h 177 21 ((hI h 177 21) - 1)) (some 187) 22 (((hI h 177 21) - 1) - 1)) (gd (([] : List zV).isEmpty = true ∧ zrk 250 = 0) (some (.inl (none), (sI (sI h 177 21 ((hI h 177 21) - 1)) 187 (((hI h 177 21) - 1) - 1).toNat (f_M_joined x1 (hI h 187 ((hI h 177 21) - 1).toNat) (hI h 187 (((hI h 177 21) - 1) - 1).toNat)))))) from zGo 2 250 113 _ _ _).trans ?_
      refine (gd_t ((ciw (PTM KM 187 _ rfl rfl) (PNM KM 187 rfl) (PLM KM 187 201 rfl rfl)).2 (by omega)) _).trans ?_
      refine (gd_t (⟨rfl, rfl⟩) _).trans ?_
      rfl
theorem q_M_valueOf {h : zH} {x1 : Int} {x2 : Int} (KM : KM h) : zC 249 [zR (some 177), zI x1, zI x2] h =
    gd (-2147483648 ≤ 31 * x1 ∧ 31 * x1 < 2147483648) (
    gd (0 ≤ (31 * x1) ∧ (31 * x1) < 2342) (
    zY 249 15 [some (zR (some 177)), some (zI x1), some (zI x2), some (zI (hI h 179 (31 * x1).toNat))] [] (sI h 177 21 0))) := by
  refine (show zC 249 [zR (some 177), zI x1, zI x2] h = gd (inR (0)) (gd (zob h (some 177) 12) (gd (zob (sI h 177 21 0) (some 177) 12) (zY 249 9 [some (zR (some 177)), some (zI x1), some (zI x2), none] [zR (hR h 177 2)] (sI h 177 21 0)))) from zGo 5 249 0 _ _ _).trans ?_
  refine (gd_t (by decide) _).trans ?_
  refine (gd_t (⟨rfl, (PTM KM 177 _ rfl rfl), (PNM KM 177 rfl)⟩) _).trans ?_
  refine (gd_t (⟨rfl, (PTM KM 177 _ rfl rfl), (PNM KM 177 rfl)⟩) _).trans ?_
  refine (congrArg (fun r => zY 249 9 [some (zR (some 177)), some (zI x1), some (zI x2), none] (zR r :: []) (sI h 177 21 0)) (PRM KM 177 2 _ rfl)).trans ?_
  refine (show zY 249 9 [some (zR (some 177)), some (zI x1), some (zI x2), none] [zR (some 179)] (sI h 177 21 0) = gd (-128 ≤ (31 : Int) ∧ (31 : Int) < 128) (gd (inR (31 * x1)) (gd (zok (sI h 177 21 0) (some 179) 22 (31 * x1)) (zY 249 15 [some (zR (some 177)), some (zI x1), some (zI x2), some (zI (hI h 179 (31 * x1).toNat))] [] (sI h 177 21 0)))) from zGo 5 249 9 _ _ _).trans ?_
  refine (gd_t (by decide) _).trans ?_
  refine gd_c Iff.rfl (fun c0 => ?_)
  refine gd_c (ci (PTM KM 179 _ rfl rfl) (PLM KM 179 2342 rfl rfl)) (fun c1 => ?_)
  rfl
theorem q_M_valueOf_15 {h : zH} {x1 : Int} {x2 : Int} {x3 : Int} (KM : KM h) : zY 249 15 [some (zR (some 177)), some (zI x1), some (zI x2), some (zI x3)] [] h =
    if 0 < x3 then
      gd (-2147483648 ≤ 31 * x1 ∧ 31 * x1 < 2147483648) (
      gd (-2147483648 ≤ (31 * x1) + x3 ∧ (31 * x1) + x3 < 2147483648) (
      gd (0 ≤ ((31 * x1) + x3) ∧ ((31 * x1) + x3) < 2342) (
      zBack zY 249 32 35 [some (zR (some 177)), some (zI x1), some (zI x2), some (zI x3)] [] (zC 250 [zR (some 177), zI (hI h 179 ((31 * x1) + x3).toNat), zI x2] h))))
    else
      some (.inl (some (zI (hI h 187 0))), h) := by
  refine (show zY 249 15 [some (zR (some 177)), some (zI x1), some (zI x2), some (zI x3)] [] h = if 0 < x3 then zY 249 19 [some (zR (some 177)), some (zI x1), some (zI x2), some (zI x3)] [] h else zY 249 41 [some (zR (some 177)), some (zI x1), some (zI x2), some (zI x3)] [] h from zGo 2 249 15 _ _ _).trans ?_
  refine iteC (fun c0 => ?_) (fun c0 => ?_)
  · skip
    refine (show zY 249 19 [some (zR (some 177)), some (zI x1), some (zI x2), some (zI x3)] [] h = gd (zob h (some 177) 12) (zY 249 24 [some (zR (some 177)), some (zI x1), some (zI x2), some (zI x3)] [zR (hR h 177 2), zR (some 177)] h) from zGo 3 249 19 _ _ _).trans ?_
    refine (gd_t (⟨rfl, (PTM KM 177 _ rfl rfl), (PNM KM 177 rfl)⟩) _).trans ?_
    refine (congrArg (fun r => zY 249 24 [some (zR (some 177)), some (zI x1), some (zI x2), some (zI x3)] (zR r :: zR (some 177) :: []) h) (PRM KM 177 2 _ rfl)).trans ?_
    refine (show zY 249 24 [some (zR (some 177)), some (zI x1), some (zI x2), some (zI x3)] [zR (some 179), zR (some 177)] h = gd (-128 ≤ (31 : Int) ∧ (31 : Int) < 128) (gd (inR (31 * x1)) (gd (inR ((31 * x1) + x3)) (gd (zok h (some 179) 22 ((31 * x1) + x3)) (gd (false = zctor 250 ∧ zcs [] ≤ 8 ∧ zrm 249 (zrf 250 + 1) (8 + (zmaxl 250 + 11) + zrl 250) = true ∧ zcs [zR (some 177), zI (hI h 179 ((31 * x1) + x3).toNat), zI x2] ≤ zmaxl 250) (gd (zob h (some 177) 12) (zBack zY 249 32 35 [some (zR (some 177)), some (zI x1), some (zI x2), some (zI x3)] [] (zC 250 [zR (some 177), zI (hI h 179 ((31 * x1) + x3).toNat), zI x2] h))))))) from zGo 8 249 24 _ _ _).trans ?_
    refine (gd_t (by decide) _).trans ?_
    refine gd_c Iff.rfl (fun c1 => ?_)
    refine gd_c Iff.rfl (fun c2 => ?_)
    refine gd_c (ci (PTM KM 179 _ rfl rfl) (PLM KM 179 2342 rfl rfl)) (fun c3 => ?_)
    refine (gd_t (⟨rfl, Nat.le_of_ble_eq_true rfl, rfl, Nat.le_of_ble_eq_true rfl⟩) _).trans ?_
    refine (gd_t (⟨rfl, (PTM KM 177 _ rfl rfl), (PNM KM 177 rfl)⟩) _).trans ?_
    rfl
  · skip
    refine (show zY 249 41 [some (zR (some 177)), some (zI x1), some (zI x2), some (zI x3)] [] h = gd (zob h (some 177) 12) (zY 249 45 [some (zR (some 177)), some (zI x1), some (zI x2), some (zI x3)] [zR (hR h 177 20)] h) from zGo 2 249 41 _ _ _).trans ?_
    refine (gd_t (⟨rfl, (PTM KM 177 _ rfl rfl), (PNM KM 177 rfl)⟩) _).trans ?_
    refine (congrArg (fun r => zY 249 45 [some (zR (some 177)), some (zI x1), some (zI x2), some (zI x3)] (zR r :: []) h) (PRM KM 177 20 _ rfl)).trans ?_
    refine (show zY 249 45 [some (zR (some 177)), some (zI x1), some (zI x2), some (zI x3)] [zR (some 187)] h = gd (inR (0)) (gd (zok h (some 187) 22 0) (gd (([] : List zV).isEmpty = true ∧ (zrk 249 = 1 ∨ zrk 249 = 6 ∧ (((hI h 187 0) : Int) = 0 ∨ ((hI h 187 0) : Int) = 1))) (some (.inl (some (zI (hI h 187 0))), h)))) from zGo 3 249 45 _ _ _).trans ?_
    refine (gd_t (by decide) _).trans ?_
    refine (gd_t ((ci (PTM KM 187 _ rfl rfl) (PLM KM 187 201 rfl rfl)).2 ⟨by decide, by decide⟩) _).trans ?_
    refine (gd_t (⟨rfl, Or.inl rfl⟩) _).trans ?_
    rfl
theorem q_M_valueOf_r35 {h : zH} {x1 : Int} {x2 : Int} {x3 : Int} (KM : KM h) : zBack zY 249 32 35 [some (zR (some 177)), some (zI x1), some (zI x2), some (zI x3)] [] (some (.inl (none), h)) =
    gd (-2147483648 ≤ x3 + (-1) ∧ x3 + (-1) < 2147483648) (
    zY 249 15 [some (zR (some 177)), some (zI x1), some (zI x2), some (zI (x3 + (-1)))] [] h) := by
  refine (show zBack zY 249 32 35 [some (zR (some 177)), some (zI x1), some (zI x2), some (zI x3)] [] (some (.inl (none), h)) = gd (inR (x3 + (-1))) (gd (inR (-1)) (zY 249 15 [some (zR (some 177)), some (zI x1), some (zI x2), some (zI (x3 + (-1)))] [] h)) from zGo 2 249 35 _ _ _).trans ?_
  refine gd_c Iff.rfl (fun c0 => ?_)
  refine (gd_t (by decide) _).trans ?_
  rfl
theorem q_M_setOf {h : zH} {x1 : Int} (KM : KM h) : zC 248 [zR (some 177), zI x1] h =
    zY 248 5 [some (zR (some 177)), some (zI x1), some (zJ (0#64)), none, some (zI 0)] [] h := by
  refine (show zC 248 [zR (some 177), zI x1] h = gd (inR (0)) (zY 248 5 [some (zR (some 177)), some (zI x1), some (zJ (0#64)), none, some (zI 0)] [] h) from zGo 4 248 0 _ _ _).trans ?_
  refine (gd_t (by decide) _).trans ?_
  rfl
theorem q_M_setOf_5 {h : zH} {x1 : Int} {x2 : BitVec 64} {x4 : Int} (KM : KM h) : zY 248 5 [some (zR (some 177)), some (zI x1), some (zJ x2), none, some (zI x4)] [] h =
    if x4 < 64 then
      zBack zY 248 17 20 [some (zR (some 177)), some (zI x1), some (zJ x2), none, some (zI x4)] [zJ x2] (zC 249 [zR (some 177), zI x1, zI x4] h)
    else
      some (.inl (some (zJ x2)), h) := by
  refine (show zY 248 5 [some (zR (some 177)), some (zI x1), some (zJ x2), none, some (zI x4)] [] h = gd (-128 ≤ (64 : Int) ∧ (64 : Int) < 128) (if x4 < 64 then zY 248 12 [some (zR (some 177)), some (zI x1), some (zJ x2), none, some (zI x4)] [] h else zY 248 32 [some (zR (some 177)), some (zI x1), some (zJ x2), none, some (zI x4)] [] h) from zGo 3 248 5 _ _ _).trans ?_
  refine (gd_t (by decide) _).trans ?_
  refine iteC (fun c0 => ?_) (fun c0 => ?_)
  · skip
    refine (show zY 248 12 [some (zR (some 177)), some (zI x1), some (zJ x2), none, some (zI x4)] [] h = gd (false = zctor 249 ∧ zcs [zJ x2] ≤ 8 ∧ zrm 248 (zrf 249 + 1) (8 + (zmaxl 249 + 11) + zrl 249) = true ∧ zcs [zR (some 177), zI x1, zI x4] ≤ zmaxl 249) (gd (zob h (some 177) 12) (zBack zY 248 17 20 [some (zR (some 177)), some (zI x1), some (zJ x2), none, some (zI x4)] [zJ x2] (zC 249 [zR (some 177), zI x1, zI x4] h))) from zGo 5 248 12 _ _ _).trans ?_
    refine (gd_t (⟨rfl, Nat.le_of_ble_eq_true rfl, rfl, Nat.le_of_ble_eq_true rfl⟩) _).trans ?_
    refine (gd_t (⟨rfl, (PTM KM 177 _ rfl rfl), (PNM KM 177 rfl)⟩) _).trans ?_
    rfl
  · skip
    refine (show zY 248 32 [some (zR (some 177)), some (zI x1), some (zJ x2), none, some (zI x4)] [] h = gd (([] : List zV).isEmpty = true ∧ zrk 248 = 2) (some (.inl (some (zJ x2)), h)) from zGo 2 248 32 _ _ _).trans ?_
    refine (gd_t (⟨rfl, rfl⟩) _).trans ?_
    rfl
theorem q_M_setOf_r20 {h : zH} {x1 : Int} {x2 : BitVec 64} {x4 : Int} {y0 : BitVec 64} {y : Int} (KM : KM h) : zBack zY 248 17 20 [some (zR (some 177)), some (zI x1), some (zJ x2), none, some (zI x4)] [zJ y0] (some (.inl (some (zI y)), h)) =
    gd (-2147483648 ≤ x4 + 1 ∧ x4 + 1 < 2147483648) (
    zY 248 5 [some (zR (some 177)), some (zI x1), some (zJ (y0 ||| (zlshl (zi2l y) x4))), none, some (zI (x4 + 1))] [] h) := by
  refine (show zBack zY 248 17 20 [some (zR (some 177)), some (zI x1), some (zJ x2), none, some (zI x4)] [zJ y0] (some (.inl (some (zI y)), h)) = gd (inR (x4 + 1)) (gd (inR (1)) (zY 248 5 [some (zR (some 177)), some (zI x1), some (zJ (y0 ||| (zlshl (zi2l y) x4))), none, some (zI (x4 + 1))] [] h)) from zGo 7 248 20 _ _ _).trans ?_
  refine gd_c Iff.rfl (fun c0 => ?_)
  refine (gd_t (by decide) _).trans ?_
  rfl
theorem q_M_isBefore {h : zH} {x1 : Int} (KM : KM h) : zC 302 [zR (some 177), zI x1] h =
    zBack zY 302 3 6 [some (zR (some 177)), some (zI x1)] [] (zC 249 [zR (some 177), zI 0, zI x1] h) := by
  refine (show zC 302 [zR (some 177), zI x1] h = gd (inR (0)) (gd (false = zctor 249 ∧ zcs [] ≤ 8 ∧ zrm 302 (zrf 249 + 1) (8 + (zmaxl 249 + 11) + zrl 249) = true ∧ zcs [zR (some 177), zI 0, zI x1] ≤ zmaxl 249) (gd (zob h (some 177) 12) (zBack zY 302 3 6 [some (zR (some 177)), some (zI x1)] [] (zC 249 [zR (some 177), zI 0, zI x1] h)))) from zGo 4 302 0 _ _ _).trans ?_
  refine (gd_t (by decide) _).trans ?_
  refine (gd_t (⟨rfl, Nat.le_of_ble_eq_true rfl, rfl, Nat.le_of_ble_eq_true rfl⟩) _).trans ?_
  refine (gd_t (⟨rfl, (PTM KM 177 _ rfl rfl), (PNM KM 177 rfl)⟩) _).trans ?_
  rfl
theorem q_M_isBefore_r6 {h : zH} {x1 : Int} {y : Int} (KM : KM h) : zBack zY 302 3 6 [some (zR (some 177)), some (zI x1)] [] (some (.inl (some (zI y)), h)) =
    if y = 1 then
      some (.inl (some (zI 1)), h)
    else
      some (.inl (some (zI 0)), h) := by
  refine (show zBack zY 302 3 6 [some (zR (some 177)), some (zI x1)] [] (some (.inl (some (zI y)), h)) = gd (inR (1)) (if y = 1 then zY 302 10 [some (zR (some 177)), some (zI x1)] [] h else zY 302 14 [some (zR (some 177)), some (zI x1)] [] h) from zGo 2 302 6 _ _ _).trans ?_
  refine (gd_t (by decide) _).trans ?_
  refine iteC (fun c0 => ?_) (fun c0 => ?_)
  · skip
    refine (show zY 302 10 [some (zR (some 177)), some (zI x1)] [] h = gd (inR (1)) (gd (([] : List zV).isEmpty = true ∧ (zrk 302 = 1 ∨ zrk 302 = 6 ∧ ((1 : Int) = 0 ∨ (1 : Int) = 1))) (some (.inl (some (zI 1)), h))) from zGo 3 302 10 _ _ _).trans ?_
    refine (gd_t (by decide) _).trans ?_
    refine (gd_t (⟨rfl, Or.inr ⟨rfl, by decide⟩⟩) _).trans ?_
    rfl
  · skip
    refine (show zY 302 14 [some (zR (some 177)), some (zI x1)] [] h = gd (inR (0)) (gd (([] : List zV).isEmpty = true ∧ (zrk 302 = 1 ∨ zrk 302 = 6 ∧ ((0 : Int) = 0 ∨ (0 : Int) = 1))) (some (.inl (some (zI 0)), h))) from zGo 2 302 14 _ _ _).trans ?_
    refine (gd_t (by decide) _).trans ?_
    refine (gd_t (⟨rfl, Or.inr ⟨rfl, by decide⟩⟩) _).trans ?_
    rfl
theorem q_M_writtenValue {h : zH} {x1 : Int} {x2 : Int} (KM : KM h) : zC 337 [zR (some 177), zI x1, zI x2] h =
    gd (0 ≤ x1 ∧ x1 < 24) (
    gd (-2147483648 ≤ (hI h 190 x1.toNat) - 1 ∧ (hI h 190 x1.toNat) - 1 < 2147483648) (
    zY 337 14 [some (zR (some 177)), some (zI x1), some (zI x2), some (zI ((hI h 190 x1.toNat) - 1))] [] (sI h 177 21 0))) := by
  refine (show zC 337 [zR (some 177), zI x1, zI x2] h = gd (inR (0)) (gd (zob h (some 177) 12) (gd (zob (sI h 177 21 0) (some 177) 12) (zY 337 9 [some (zR (some 177)), some (zI x1), some (zI x2), none] [zR (hR h 177 24)] (sI h 177 21 0)))) from zGo 5 337 0 _ _ _).trans ?_
  refine (gd_t (by decide) _).trans ?_
  refine (gd_t (⟨rfl, (PTM KM 177 _ rfl rfl), (PNM KM 177 rfl)⟩) _).trans ?_
  refine (gd_t (⟨rfl, (PTM KM 177 _ rfl rfl), (PNM KM 177 rfl)⟩) _).trans ?_
  refine (congrArg (fun r => zY 337 9 [some (zR (some 177)), some (zI x1), some (zI x2), none] (zR r :: []) (sI h 177 21 0)) (PRM KM 177 24 _ rfl)).trans ?_
  refine (show zY 337 9 [some (zR (some 177)), some (zI x1), some (zI x2), none] [zR (some 190)] (sI h 177 21 0) = gd (zok (sI h 177 21 0) (some 190) 22 x1) (gd (inR (1)) (gd (inR ((hI h 190 x1.toNat) - 1)) (zY 337 14 [some (zR (some 177)), some (zI x1), some (zI x2), some (zI ((hI h 190 x1.toNat) - 1))] [] (sI h 177 21 0)))) from zGo 5 337 9 _ _ _).trans ?_
  refine gd_c (ci (PTM KM 190 _ rfl rfl) (PLM KM 190 24 rfl rfl)) (fun c0 => ?_)
  refine (gd_t (by decide) _).trans ?_
  refine gd_c Iff.rfl (fun c1 => ?_)
  rfl
theorem q_M_writtenValue_14 {h : zH} {x1 : Int} {x2 : Int} {x3 : Int} (KM : KM h) : zY 337 14 [some (zR (some 177)), some (zI x1), some (zI x2), some (zI x3)] [] h =
    if x3 < 0 then
      some (.inl (some (zI (hI h 187 0))), h)
    else
      gd (-2147483648 ≤ 201 * x1 ∧ 201 * x1 < 2147483648) (
      gd (-2147483648 ≤ (201 * x1) + x3 ∧ (201 * x1) + x3 < 2147483648) (
      gd (0 ≤ ((201 * x1) + x3) ∧ ((201 * x1) + x3) < 4824) (
      zBack zY 337 32 35 [some (zR (some 177)), some (zI x1), some (zI x2), some (zI x3)] [] (zC 250 [zR (some 177), zI (hI h 189 ((201 * x1) + x3).toNat), zI x2] h)))) := by
  refine (show zY 337 14 [some (zR (some 177)), some (zI x1), some (zI x2), some (zI x3)] [] h = if x3 < 0 then zY 337 41 [some (zR (some 177)), some (zI x1), some (zI x2), some (zI x3)] [] h else zY 337 18 [some (zR (some 177)), some (zI x1), some (zI x2), some (zI x3)] [] h from zGo 2 337 14 _ _ _).trans ?_
  refine iteC (fun c0 => ?_) (fun c0 => ?_)
  · skip
    refine (show zY 337 41 [some (zR (some 177)), some (zI x1), some (zI x2), some (zI x3)] [] h = gd (zob h (some 177) 12) (zY 337 45 [some (zR (some 177)), some (zI x1), some (zI x2), some (zI x3)] [zR (hR h 177 20)] h) from zGo 2 337 41 _ _ _).trans ?_
    refine (gd_t (⟨rfl, (PTM KM 177 _ rfl rfl), (PNM KM 177 rfl)⟩) _).trans ?_
    refine (congrArg (fun r => zY 337 45 [some (zR (some 177)), some (zI x1), some (zI x2), some (zI x3)] (zR r :: []) h) (PRM KM 177 20 _ rfl)).trans ?_
    refine (show zY 337 45 [some (zR (some 177)), some (zI x1), some (zI x2), some (zI x3)] [zR (some 187)] h = gd (inR (0)) (gd (zok h (some 187) 22 0) (gd (([] : List zV).isEmpty = true ∧ (zrk 337 = 1 ∨ zrk 337 = 6 ∧ (((hI h 187 0) : Int) = 0 ∨ ((hI h 187 0) : Int) = 1))) (some (.inl (some (zI (hI h 187 0))), h)))) from zGo 3 337 45 _ _ _).trans ?_
    refine (gd_t (by decide) _).trans ?_
    refine (gd_t ((ci (PTM KM 187 _ rfl rfl) (PLM KM 187 201 rfl rfl)).2 ⟨by decide, by decide⟩) _).trans ?_
    refine (gd_t (⟨rfl, Or.inl rfl⟩) _).trans ?_
    rfl
  · skip
    refine (show zY 337 18 [some (zR (some 177)), some (zI x1), some (zI x2), some (zI x3)] [] h = gd (zob h (some 177) 12) (zY 337 23 [some (zR (some 177)), some (zI x1), some (zI x2), some (zI x3)] [zR (hR h 177 23), zR (some 177)] h) from zGo 3 337 18 _ _ _).trans ?_
    refine (gd_t (⟨rfl, (PTM KM 177 _ rfl rfl), (PNM KM 177 rfl)⟩) _).trans ?_
    refine (congrArg (fun r => zY 337 23 [some (zR (some 177)), some (zI x1), some (zI x2), some (zI x3)] (zR r :: zR (some 177) :: []) h) (PRM KM 177 23 _ rfl)).trans ?_
    refine (show zY 337 23 [some (zR (some 177)), some (zI x1), some (zI x2), some (zI x3)] [zR (some 189), zR (some 177)] h = gd (-32768 ≤ (201 : Int) ∧ (201 : Int) < 32768) (gd (inR (201 * x1)) (gd (inR ((201 * x1) + x3)) (gd (zok h (some 189) 22 ((201 * x1) + x3)) (gd (false = zctor 250 ∧ zcs [] ≤ 8 ∧ zrm 337 (zrf 250 + 1) (8 + (zmaxl 250 + 11) + zrl 250) = true ∧ zcs [zR (some 177), zI (hI h 189 ((201 * x1) + x3).toNat), zI x2] ≤ zmaxl 250) (gd (zob h (some 177) 12) (zBack zY 337 32 35 [some (zR (some 177)), some (zI x1), some (zI x2), some (zI x3)] [] (zC 250 [zR (some 177), zI (hI h 189 ((201 * x1) + x3).toNat), zI x2] h))))))) from zGo 8 337 23 _ _ _).trans ?_
    refine (gd_t (by decide) _).trans ?_
    refine gd_c Iff.rfl (fun c1 => ?_)
    refine gd_c Iff.rfl (fun c2 => ?_)
    refine gd_c (ci (PTM KM 189 _ rfl rfl) (PLM KM 189 4824 rfl rfl)) (fun c3 => ?_)
    refine (gd_t (⟨rfl, Nat.le_of_ble_eq_true rfl, rfl, Nat.le_of_ble_eq_true rfl⟩) _).trans ?_
    refine (gd_t (⟨rfl, (PTM KM 177 _ rfl rfl), (PNM KM 177 rfl)⟩) _).trans ?_
    rfl
theorem q_M_writtenValue_r35 {h : zH} {x1 : Int} {x2 : Int} {x3 : Int} (KM : KM h) : zBack zY 337 32 35 [some (zR (some 177)), some (zI x1), some (zI x2), some (zI x3)] [] (some (.inl (none), h)) =
    gd (-2147483648 ≤ x3 + (-1) ∧ x3 + (-1) < 2147483648) (
    zY 337 14 [some (zR (some 177)), some (zI x1), some (zI x2), some (zI (x3 + (-1)))] [] h) := by
  refine (show zBack zY 337 32 35 [some (zR (some 177)), some (zI x1), some (zI x2), some (zI x3)] [] (some (.inl (none), h)) = gd (inR (x3 + (-1))) (gd (inR (-1)) (zY 337 14 [some (zR (some 177)), some (zI x1), some (zI x2), some (zI (x3 + (-1)))] [] h)) from zGo 2 337 35 _ _ _).trans ?_
  refine gd_c Iff.rfl (fun c0 => ?_)
  refine (gd_t (by decide) _).trans ?_
  rfl
theorem q_M_behindIt {h : zH} {x1 : Int} {x2 : Int} (KM : KM h) (g0 : (0 ≤ x1 ∧ x1 < 24) := by omega) (g1 : (¬ ((f_M_s h x1 0) = 0)) → (¬ ((f_M_filling h x1) = (-1))) → (0 ≤ (f_M_filling h x1)) := by omega) (g2 : (¬ ((f_M_s h x1 0) = 0)) → (¬ ((f_M_filling h x1) = (-1))) → (0 ≤ x2 ∧ x2 < 64) := by omega) (g3 : (¬ ((f_M_s h x1 0) = 0)) → (¬ ((f_M_filling h x1) = (-1))) → (0 ≤ (f_M_fillVariable h x1) ∧ (f_M_fillVariable h x1) < 3) := by omega) (g4 : (¬ ((f_M_s h x1 0) = 0)) → (¬ ((f_M_filling h x1) = (-1))) → (0 ≤ (flv (f_M_filling h x1) x2) ∧ (flv (f_M_filling h x1) x2) < 4) := by omega) : zC 256 [zR (some 177), zI x1, zI x2] h =
    if (f_M_s h x1 0) = 0 then
      gd (-2147483648 ≤ 2 + x1 ∧ 2 + x1 < 2147483648) (
      zBack zY 256 21 24 [some (zR (some 177)), some (zI x1), some (zI x2)] [zI (f_M_s h x1 1), zI x2] (zC 249 [zR (some 177), zI (2 + x1), zI x2] h))
    else
      if (f_M_filling h x1) = (-1) then
        some (.inl (some (zI x2)), h)
      else
        some (.inl (some (zI (f_M_changed x2 (f_M_fillVariable h x1) (flv (f_M_filling h x1) x2)))), h) := by
  refine (show zC 256 [zR (some 177), zI x1, zI x2] h = gd (inR (0)) (gd (false = zctor 207 ∧ zcs [] ≤ 8 ∧ zrm 256 (zrf 207 + 1) (8 + (zmaxl 207 + 11) + zrl 207) = true ∧ zcs [zR (some 177), zI x1, zI 0] ≤ zmaxl 207) (gd (zob h (some 177) 12) (zBack zY 256 3 6 [some (zR (some 177)), some (zI x1), some (zI x2)] [] (zC 207 [zR (some 177), zI x1, zI 0] h)))) from zGo 4 256 0 _ _ _).trans ?_
  refine (gd_t (by decide) _).trans ?_
  refine (gd_t (⟨rfl, Nat.le_of_ble_eq_true rfl, rfl, Nat.le_of_ble_eq_true rfl⟩) _).trans ?_
  refine (gd_t (⟨rfl, (PTM KM 177 _ rfl rfl), (PNM KM 177 rfl)⟩) _).trans ?_
  refine (congrArg (zBack zY 256 3 6 [some (zR (some 177)), some (zI x1), some (zI x2)] []) (e_M_sx KM (g0) (by omega))).trans ?_
  refine (show zY 256 6 [some (zR (some 177)), some (zI x1), some (zI x2)] [zI (f_M_s h x1 0)] h = if (f_M_s h x1 0) = 0 then zY 256 9 [some (zR (some 177)), some (zI x1), some (zI x2)] [] h else zY 256 28 [some (zR (some 177)), some (zI x1), some (zI x2)] [] h from zGo 1 256 6 _ _ _).trans ?_
  refine iteC (fun c0 => ?_) (fun c0 => ?_)
  · skip
    refine (show zY 256 9 [some (zR (some 177)), some (zI x1), some (zI x2)] [] h = gd (inR (1)) (gd (false = zctor 207 ∧ zcs [zI x2] ≤ 8 ∧ zrm 256 (zrf 207 + 1) (8 + (zmaxl 207 + 11) + zrl 207) = true ∧ zcs [zR (some 177), zI x1, zI 1] ≤ zmaxl 207) (gd (zob h (some 177) 12) (zBack zY 256 13 16 [some (zR (some 177)), some (zI x1), some (zI x2)] [zI x2] (zC 207 [zR (some 177), zI x1, zI 1] h)))) from zGo 5 256 9 _ _ _).trans ?_
    refine (gd_t (by decide) _).trans ?_
    refine (gd_t (⟨rfl, Nat.le_of_ble_eq_true rfl, rfl, Nat.le_of_ble_eq_true rfl⟩) _).trans ?_
    refine (gd_t (⟨rfl, (PTM KM 177 _ rfl rfl), (PNM KM 177 rfl)⟩) _).trans ?_
    refine (congrArg (zBack zY 256 13 16 [some (zR (some 177)), some (zI x1), some (zI x2)] [zI x2]) (e_M_sx KM (g0) (by omega))).trans ?_
    refine (show zY 256 16 [some (zR (some 177)), some (zI x1), some (zI x2)] [zI (f_M_s h x1 1), zI x2] h = gd (inR (2)) (gd (inR (2 + x1)) (gd (false = zctor 249 ∧ zcs [zI (f_M_s h x1 1), zI x2] ≤ 8 ∧ zrm 256 (zrf 249 + 1) (8 + (zmaxl 249 + 11) + zrl 249) = true ∧ zcs [zR (some 177), zI (2 + x1), zI x2] ≤ zmaxl 249) (gd (zob h (some 177) 12) (zBack zY 256 21 24 [some (zR (some 177)), some (zI x1), some (zI x2)] [zI (f_M_s h x1 1), zI x2] (zC 249 [zR (some 177), zI (2 + x1), zI x2] h))))) from zGo 6 256 16 _ _ _).trans ?_
    refine (gd_t (by decide) _).trans ?_
    refine gd_c Iff.rfl (fun c1 => ?_)
    refine (gd_t (⟨rfl, Nat.le_of_ble_eq_true rfl, rfl, Nat.le_of_ble_eq_true rfl⟩) _).trans ?_
    refine (gd_t (⟨rfl, (PTM KM 177 _ rfl rfl), (PNM KM 177 rfl)⟩) _).trans ?_
    rfl
  · skip
    refine (show zY 256 28 [some (zR (some 177)), some (zI x1), some (zI x2)] [] h = gd (false = zctor 243 ∧ zcs [] ≤ 8 ∧ zrm 256 (zrf 243 + 1) (8 + (zmaxl 243 + 11) + zrl 243) = true ∧ zcs [zR (some 177), zI x1] ≤ zmaxl 243) (gd (zob h (some 177) 12) (zBack zY 256 30 33 [some (zR (some 177)), some (zI x1), some (zI x2)] [] (zC 243 [zR (some 177), zI x1] h))) from zGo 3 256 28 _ _ _).trans ?_
    refine (gd_t (⟨rfl, Nat.le_of_ble_eq_true rfl, rfl, Nat.le_of_ble_eq_true rfl⟩) _).trans ?_
    refine (gd_t (⟨rfl, (PTM KM 177 _ rfl rfl), (PNM KM 177 rfl)⟩) _).trans ?_
    refine (congrArg (zBack zY 256 30 33 [some (zR (some 177)), some (zI x1), some (zI x2)] []) (e_M_fillingx KM (g0))).trans ?_
    refine (show zY 256 33 [some (zR (some 177)), some (zI x1), some (zI x2)] [zI (f_M_filling h x1)] h = gd (inR (-1)) (if (f_M_filling h x1) = (-1) then zY 256 37 [some (zR (some 177)), some (zI x1), some (zI x2)] [] h else zY 256 41 [some (zR (some 177)), some (zI x1), some (zI x2)] [] h) from zGo 2 256 33 _ _ _).trans ?_
    refine (gd_t (by decide) _).trans ?_
    refine iteC (fun c2 => ?_) (fun c2 => ?_)
    · skip
      refine (show zY 256 37 [some (zR (some 177)), some (zI x1), some (zI x2)] [] h = gd (([] : List zV).isEmpty = true ∧ (zrk 256 = 1 ∨ zrk 256 = 6 ∧ ((x2 : Int) = 0 ∨ (x2 : Int) = 1))) (some (.inl (some (zI x2)), h)) from zGo 3 256 37 _ _ _).trans ?_
      refine (gd_t (⟨rfl, Or.inl rfl⟩) _).trans ?_
      rfl
    · skip
      refine (show zY 256 41 [some (zR (some 177)), some (zI x1), some (zI x2)] [] h = gd (false = zctor 258 ∧ zcs [zI x2] ≤ 8 ∧ zrm 256 (zrf 258 + 1) (8 + (zmaxl 258 + 11) + zrl 258) = true ∧ zcs [zR (some 177), zI x1] ≤ zmaxl 258) (gd (zob h (some 177) 12) (zBack zY 256 44 47 [some (zR (some 177)), some (zI x1), some (zI x2)] [zI x2] (zC 258 [zR (some 177), zI x1] h))) from zGo 4 256 41 _ _ _).trans ?_
      refine (gd_t (⟨rfl, Nat.le_of_ble_eq_true rfl, rfl, Nat.le_of_ble_eq_true rfl⟩) _).trans ?_
      refine (gd_t (⟨rfl, (PTM KM 177 _ rfl rfl), (PNM KM 177 rfl)⟩) _).trans ?_
      refine (congrArg (zBack zY 256 44 47 [some (zR (some 177)), some (zI x1), some (zI x2)] [zI x2]) (e_M_fillVariable KM (g0) (g1 c0 c2))).trans ?_
      refine (show zY 256 47 [some (zR (some 177)), some (zI x1), some (zI x2)] [zI (f_M_fillVariable h x1), zI x2] h = gd (false = zctor 259 ∧ zcs [zI (f_M_fillVariable h x1), zI x2] ≤ 8 ∧ zrm 256 (zrf 259 + 1) (8 + (zmaxl 259 + 11) + zrl 259) = true ∧ zcs [zR (some 177), zI x1, zI x2] ≤ zmaxl 259) (gd (zob h (some 177) 12) (zBack zY 256 50 53 [some (zR (some 177)), some (zI x1), some (zI x2)] [zI (f_M_fillVariable h x1), zI x2] (zC 259 [zR (some 177), zI x1, zI x2] h))) from zGo 4 256 47 _ _ _).trans ?_
      refine (gd_t (⟨rfl, Nat.le_of_ble_eq_true rfl, rfl, Nat.le_of_ble_eq_true rfl⟩) _).trans ?_
      refine (gd_t (⟨rfl, (PTM KM 177 _ rfl rfl), (PNM KM 177 rfl)⟩) _).trans ?_
      refine (congrArg (zBack zY 256 50 53 [some (zR (some 177)), some (zI x1), some (zI x2)] [zI (f_M_fillVariable h x1), zI x2]) (e_M_filledx KM (g0) (g1 c0 c2) (g2 c0 c2))).trans ?_
      refine (show zY 256 53 [some (zR (some 177)), some (zI x1), some (zI x2)] [zI (flv (f_M_filling h x1) x2), zI (f_M_fillVariable h x1), zI x2] h = gd (false = zctor 257 ∧ zcs [] ≤ 8 ∧ zrm 256 (zrf 257 + 1) (8 + (zmaxl 257 + 11) + zrl 257) = true ∧ zcs [zI x2, zI (f_M_fillVariable h x1), zI (flv (f_M_filling h x1) x2)] ≤ zmaxl 257) (zBack zY 256 53 56 [some (zR (some 177)), some (zI x1), some (zI x2)] [] (zC 257 [zI x2, zI (f_M_fillVariable h x1), zI (flv (f_M_filling h x1) x2)] h)) from zGo 1 256 53 _ _ _).trans ?_
      refine (gd_t (⟨rfl, Nat.le_of_ble_eq_true rfl, rfl, Nat.le_of_ble_eq_true rfl⟩) _).trans ?_
      refine (congrArg (zBack zY 256 53 56 [some (zR (some 177)), some (zI x1), some (zI x2)] []) (e_M_changedx (g2 c0 c2) (g3 c0 c2) (g4 c0 c2))).trans ?_
      refine (show zY 256 56 [some (zR (some 177)), some (zI x1), some (zI x2)] [zI (f_M_changed x2 (f_M_fillVariable h x1) (flv (f_M_filling h x1) x2))] h = gd (([] : List zV).isEmpty = true ∧ (zrk 256 = 1 ∨ zrk 256 = 6 ∧ (((f_M_changed x2 (f_M_fillVariable h x1) (flv (f_M_filling h x1) x2)) : Int) = 0 ∨ ((f_M_changed x2 (f_M_fillVariable h x1) (flv (f_M_filling h x1) x2)) : Int) = 1))) (some (.inl (some (zI (f_M_changed x2 (f_M_fillVariable h x1) (flv (f_M_filling h x1) x2)))), h)) from zGo 1 256 56 _ _ _).trans ?_
      refine (gd_t (⟨rfl, Or.inl rfl⟩) _).trans ?_
      rfl
theorem q_M_behindIt_r24 {h : zH} {x1 : Int} {x2 : Int} {y0 : Int} {y1 : Int} {y : Int} (KM : KM h) (g0 : (0 ≤ y0 ∧ y0 < 64) := by omega) (g1 : (0 ≤ y1 ∧ y1 < 3) := by omega) (g2 : (0 ≤ y ∧ y < 4) := by omega) : zBack zY 256 21 24 [some (zR (some 177)), some (zI x1), some (zI x2)] [zI y1, zI y0] (some (.inl (some (zI y)), h)) =
    some (.inl (some (zI (f_M_changed y0 y1 y))), h) := by
  refine (show zBack zY 256 21 24 [some (zR (some 177)), some (zI x1), some (zI x2)] [zI y1, zI y0] (some (.inl (some (zI y)), h)) = gd (false = zctor 257 ∧ zcs [] ≤ 8 ∧ zrm 256 (zrf 257 + 1) (8 + (zmaxl 257 + 11) + zrl 257) = true ∧ zcs [zI y0, zI y1, zI y] ≤ zmaxl 257) (zBack zY 256 24 27 [some (zR (some 177)), some (zI x1), some (zI x2)] [] (zC 257 [zI y0, zI y1, zI y] h)) from zGo 1 256 24 _ _ _).trans ?_
  refine (gd_t (⟨rfl, Nat.le_of_ble_eq_true rfl, rfl, Nat.le_of_ble_eq_true rfl⟩) _).trans ?_
  refine (congrArg (zBack zY 256 24 27 [some (zR (some 177)), some (zI x1), some (zI x2)] []) (e_M_changedx (g0) (g1) (g2))).trans ?_
  refine (show zY 256 27 [some (zR (some 177)), some (zI x1), some (zI x2)] [zI (f_M_changed y0 y1 y)] h = gd (([] : List zV).isEmpty = true ∧ (zrk 256 = 1 ∨ zrk 256 = 6 ∧ (((f_M_changed y0 y1 y) : Int) = 0 ∨ ((f_M_changed y0 y1 y) : Int) = 1))) (some (.inl (some (zI (f_M_changed y0 y1 y))), h)) from zGo 1 256 27 _ _ _).trans ?_
  refine (gd_t (⟨rfl, Or.inl rfl⟩) _).trans ?_
  rfl
abbrev scrE : FA := [(187, none), (177, some 21)]
theorem mul_34 {v w : Int} (h0 : 0 ≤ v) (h1 : v < 4) (h2 : 0 ≤ w) (h3 : w < 4) : 0 ≤ v * w ∧ v * w ≤ 9 :=
  finN (P := fun v => 0 ≤ v * w ∧ v * w ≤ 9) (n := 4) (fun a => finN (P := fun w => 0 ≤ (a.val : Int) * w ∧ (a.val : Int) * w ≤ 9) (n := 4) ((show ∀ a b : Fin 4, 0 ≤ (a.val : Int) * b.val ∧ (a.val : Int) * b.val ≤ 9 by decide) a) h2 h3) h0 h1
theorem c_reckons {h : zH} (K : KM h) {x st : Int} {T T2 : List Bool} {S : List Int} (ht : ty1 x T = some T2) (hv : vok T S) (hm : hI h 177 21 = S.length) (hs : stk (hI h 187) S) (hl : S.length < 201) : ∃ h2, zC 250 [zR (some 177), zI x, zI st] h = some (.inl none, h2) ∧ hI h2 177 21 = (evx st x S).length ∧ stk (hI h2 187) (evx st x S) ∧ Fr scrE h h2 := by
  unfold evx
  rcases ty1_c ht with ⟨ha, hx⟩ | ⟨rfl, r, rfl, rfl⟩ | ⟨ha, hx⟩
  · rw [if_pos ha]
    have hx2 : 0 ≤ x ∧ x ≤ 11 := by omega
    rw [q_M_reckons K, if_pos ha, gd_t (by omega), gd_t (by omega)]
    refine ⟨_, rfl, ?_, ⟨?_, ?_⟩, Fr_I (Fr_I (Fr_r _ _) rfl) rfl⟩
    · simp [hI_sI, zup, hm]
    · simp [hI_sI, zup, hm]
    · refine stk_congr (fun i hi => ?_) hs
      simp [hI_sI, zup, hm]
      omega
  · obtain ⟨v, R, rfl, h2, h3⟩ := vok_c hv
    have hm2 : hI h 177 21 = R.length + 1 := by rw [hm]; simp
    have e1 : (hI h 177 21 - 1).toNat = R.length := by omega
    have e2 : hI h 187 (hI h 177 21 - 1).toNat = v := by rw [e1]; exact hs.1
    simp only [List.length_cons] at hl
    rw [if_neg (by decide), if_pos (by decide), q_M_reckons K, if_neg (by decide), if_pos (by decide), gd_t (by omega), gd_t (by omega), gd_t (by omega)]
    refine ⟨_, rfl, ?_, ⟨?_, ?_⟩, Fr_I (Fr_r _ _) rfl⟩
    · simp [hI_sI, zup, hm]
    · simp [hI_sI, zup, hm, hs.1]
    · refine stk_congr (S := R) (fun i hi => ?_) hs.2
      simp [hI_sI, zup, hm]
      omega
  · have hw : ∃ v w R, S = v :: w :: R ∧ (0 ≤ v ∧ v < 4) ∧ (0 ≤ w ∧ w < 4) := by
      rcases hx with ⟨_, _, r, rfl, rfl⟩ | ⟨_, r, rfl, rfl⟩ | ⟨_, r, rfl, rfl⟩ <;>
      · obtain ⟨v, R, rfl, h2, h3⟩ := vok_c hv
        obtain ⟨w, R, rfl, h4, h5⟩ := vok_c h3
        exact ⟨v, w, R, rfl, ⟨h2.1, h2.2.1⟩, ⟨h4.1, h4.2.1⟩⟩
    obtain ⟨v, w, R, rfl, hv1, hw1⟩ := hw
    have hm2 : hI h 177 21 = R.length + 2 := by rw [hm]; simp; omega
    have e1 : (hI h 177 21 - 1).toNat = R.length + 1 := by omega
    have e2 : hI h 187 (hI h 177 21 - 1).toNat = v := by rw [e1]; exact hs.1
    have e3 : (hI h 177 21 - 1 - 1).toNat = R.length := by omega
    have e4 : hI h 187 (hI h 177 21 - 1 - 1).toNat = w := by rw [e3]; exact hs.2.1
    have e5 : hI h 187 (hI h 177 21 - 1).toNat * hI h 187 (hI h 177 21 - 1 - 1).toNat = v * w := by rw [e2, e4]
    have e6 := mul_34 hv1.1 hv1.2 hw1.1 hw1.2
    simp only [List.length_cons] at hl
    rw [if_neg (by omega), if_neg (by omega), q_M_reckons K, if_neg (by omega), if_neg (by omega), gd_t (by omega), gd_t (by omega), gd_t (by omega), gd_t (by omega), e2, e4]
    refine ⟨_, rfl, ?_, ⟨?_, ?_⟩, Fr_I (Fr_I (Fr_r _ _) rfl) rfl⟩
    · simp [hI_sI, zup, hm2]
      try omega
    · simp [hI_sI, zup, e3]
    · refine stk_congr (S := R) (fun i hi => ?_) hs.2.2
      simp [hI_sI, zup, e3]
      omega
theorem l_valueOf {q st : Int} (hq : 0 ≤ q) (hq2 : q < 74) (h0 : 0 ≤ st) (h1 : st < 64) : ∀ (k : Nat) (l : List Int) (h : zH) (T : List Bool), KM h → tyS (upto (hI h 179) ((31 * q).toNat + 1) k l) = some T → hI h 177 21 = (evs st l).length → stk (hI h 187) (evs st l) → k ≤ 30 → k + l.length ≤ 200 → ∃ h2, zY 249 15 [some (zR (some 177)), some (zI q), some (zI st), some (zI k)] [] h = some (.inl (some (zI (hI h2 187 0))), h2) ∧ stk (hI h2 187) (evs st (upto (hI h 179) ((31 * q).toNat + 1) k l)) ∧ Fr scrE h h2
  | 0, l, h, T, K, ht, hm, hs, hk, hl => by
    rw [q_M_valueOf_15 K, if_neg (by simp)]
    exact ⟨h, rfl, hs, Fr_r _ _⟩
  | k + 1, l, h, T, K, ht, hm, hs, hk, hl => by
    have ht2 : tyS (upto (hI h 179) ((31 * q).toNat + 1) k (hI h 179 ((31 * q).toNat + 1 + k) :: l)) = some T := ht
    have ht3 := ht2
    rw [upto_app] at ht3
    obtain ⟨T2, ht4⟩ := tyS_suf ht3
    obtain ⟨T1, ht5, ht6⟩ := Option.bind_eq_some_iff.mp ht4
    have hv := evs_ok h0 h1 ht5
    have hlen := tyS_len ht5
    have hlen2 := vok_len hv
    have ei : (31 * q + ((k + 1 : Nat) : Int)).toNat = (31 * q).toNat + 1 + k := by omega
    rw [q_M_valueOf_15 K, if_pos (by omega), gd_t (by omega), gd_t (by omega), gd_t (by omega), ei]
    obtain ⟨h2, e2, m2, s2, F2⟩ := c_reckons K (st := st) ht6 hv hm hs (by omega)
    have K2 := KM_f K F2 rfl
    rw [e2, q_M_valueOf_r35 K2, gd_t (by omega), show ((k + 1 : Nat) : Int) + -1 = k by omega]
    have e3 : hI h2 179 = hI h 179 := rI F2 179 rfl
    obtain ⟨h3, e4, s3, F3⟩ := l_valueOf hq hq2 h0 h1 k (hI h 179 ((31 * q).toNat + 1 + k) :: l) h2 T K2 (by rw [e3]; exact ht2) m2 s2 (by omega) (by simp only [List.length_cons]; omega)
    refine ⟨h3, e4, ?_, Fr_t F2 F3⟩
    rw [e3] at s3
    exact s3
/-- a formula stands at number q: of at most 30 nodes, and of one kind -/
def fmOk (N : Nat → Int) (q : Int) (b : Bool) : Prop := 0 ≤ N (31 * q).toNat ∧ N (31 * q).toNat ≤ 30 ∧ tyS (lst N q) = some [b]
theorem val_ok {l : List Int} {st : Int} {b : Bool} (ht : tyS l = some [b]) (h0 : 0 ≤ st) (h1 : st < 64) : evs st l = [val l st] ∧ 0 ≤ val l st ∧ val l st < 4 ∧ (b = true → val l st < 2) := by
  obtain ⟨v, R, e, h2, h3⟩ := vok_c (evs_ok h0 h1 ht)
  have h4 : R = [] := by
    cases R with
    | nil => rfl
    | cons _ _ => exact h3.elim
  subst h4
  have h5 : val l st = v := by unfold val; rw [e]; rfl
  rw [h5]
  exact ⟨e, h2⟩
theorem c_valueOf {h : zH} (K : KM h) {q st : Int} {b : Bool} (hq : 0 ≤ q) (hq2 : q < 74) (h0 : 0 ≤ st) (h1 : st < 64) (hf : fmOk (hI h 179) q b) : ∃ h2, zC 249 [zR (some 177), zI q, zI st] h = some (.inl (some (zI (val (lst (hI h 179) q) st))), h2) ∧ Fr scrE h h2 := by
  obtain ⟨hn, hn2, ht⟩ := hf
  have F1 : Fr scrE h (sI h 177 21 0) := Fr_I (Fr_r _ _) rfl
  have K1 := KM_f K F1 rfl
  have e1 : hI (sI h 177 21 0) 179 = hI h 179 := rI F1 179 rfl
  rw [q_M_valueOf K, gd_t (by omega), gd_t (by omega)]
  obtain ⟨h2, e2, s2, F2⟩ := l_valueOf hq hq2 h0 h1 (hI h 179 (31 * q).toNat).toNat [] (sI h 177 21 0) [b] K1 (by rw [e1]; exact ht) (by simp [hI_sI, zup, evs]) trivial (by omega) (by simp; omega)
  rw [show (((hI h 179 (31 * q).toNat).toNat : Nat) : Int) = hI h 179 (31 * q).toNat by omega] at e2
  refine ⟨h2, ?_, Fr_t F1 F2⟩
  rw [e2]
  rw [e1] at s2
  have h3 := (val_ok ht h0 h1).1
  have h4 : stk (hI h2 187) (evs st (lst (hI h 179) q)) := s2
  rw [h3] at h4
  rw [show hI h2 187 0 = val (lst (hI h 179) q) st from h4.1]

