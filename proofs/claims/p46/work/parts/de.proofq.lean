/-! The law: pieces of proof. -/
theorem q_L_proof {h : zH} {a0 : Nat}  : zC 215 [zR (some a0)] h =
    zBack zY 215 6 9 [some (zR (some a0)), none, none, none, none, none, none] [zR (some (hN h))] (zC 80 [zR (some (hN h)), zR (some (zVB + 32))] (hNew h 12 4)) := by
  refine (show zC 215 [zR (some a0)] h = gd (80 < 900 ∨ 80 = 901) (gd (true = zspc 80 ∧ zcs [zR (some (hN h))] ≤ 8 ∧ zrm 215 (zrf 80 + 1) (8 + (zmaxl 80 + 11) + zrl 80) = true ∧ zcs [zR (some (hN h)), zR (some (zVB + 32))] ≤ zmaxl 80) (gd (zob (hNew h 12 4) (some (hN h)) 12) (zBack zY 215 6 9 [some (zR (some a0)), none, none, none, none, none, none] [zR (some (hN h))] (zC 80 [zR (some (hN h)), zR (some (zVB + 32))] (hNew h 12 4))))) from zGo 4 215 0 _ _ _).trans ?_
  refine (gd_t (by decide) _).trans ?_
  refine (gd_t (⟨rfl, Nat.le_of_ble_eq_true rfl, rfl, Nat.le_of_ble_eq_true rfl⟩) _).trans ?_
  refine (gd_t (⟨rfl, if_pos rfl, Nat.lt_succ_self _⟩) _).trans ?_
  rfl
theorem q_L_proof_9 {h : zH} {a0 : Nat} {y0 : Nat}  : zY 215 9 [some (zR (some a0)), none, none, none, none, none, none] [zR (some y0)] h =
    zBack zY 215 14 17 [some (zR (some a0)), some (zR (some y0)), none, none, none, none, none] [] (zC 216 [zR (some y0), zI 1, zI 2, zR (some a0)] h) := by
  refine (show zY 215 9 [some (zR (some a0)), none, none, none, none, none, none] [zR (some y0)] h = gd (inR (1)) (gd (inR (2)) (gd (zrecv 216 = 0) (gd (false = zspc 216 ∧ zcs [] ≤ 8 ∧ zrm 215 (zrf 216 + 1) (8 + (zmaxl 216 + 11) + zrl 216) = true ∧ zcs [zR (some y0), zI 1, zI 2, zR (some a0)] ≤ zmaxl 216) (zBack zY 215 14 17 [some (zR (some a0)), some (zR (some y0)), none, none, none, none, none] [] (zC 216 [zR (some y0), zI 1, zI 2, zR (some a0)] h))))) from zGo 6 215 9 _ _ _).trans ?_
  refine (gd_t (by decide) _).trans ?_
  refine (gd_t (by decide) _).trans ?_
  refine (gd_t (rfl) _).trans ?_
  refine (gd_t (⟨rfl, Nat.le_of_ble_eq_true rfl, rfl, Nat.le_of_ble_eq_true rfl⟩) _).trans ?_
  rfl
theorem q_L_proof_17 {h : zH} {a0 : Nat} {a1 : Nat}  : zY 215 17 [some (zR (some a0)), some (zR (some a1)), none, none, none, none, none] [] h =
    zBack zY 215 21 24 [some (zR (some a0)), some (zR (some a1)), none, none, none, none, none] [] (zC 216 [zR (some a1), zI 1, zI 2, zR (some a0)] h) := by
  refine (show zY 215 17 [some (zR (some a0)), some (zR (some a1)), none, none, none, none, none] [] h = gd (inR (1)) (gd (inR (2)) (gd (zrecv 216 = 0) (gd (false = zspc 216 ∧ zcs [] ≤ 8 ∧ zrm 215 (zrf 216 + 1) (8 + (zmaxl 216 + 11) + zrl 216) = true ∧ zcs [zR (some a1), zI 1, zI 2, zR (some a0)] ≤ zmaxl 216) (zBack zY 215 21 24 [some (zR (some a0)), some (zR (some a1)), none, none, none, none, none] [] (zC 216 [zR (some a1), zI 1, zI 2, zR (some a0)] h))))) from zGo 5 215 17 _ _ _).trans ?_
  refine (gd_t (by decide) _).trans ?_
  refine (gd_t (by decide) _).trans ?_
  refine (gd_t (rfl) _).trans ?_
  refine (gd_t (⟨rfl, Nat.le_of_ble_eq_true rfl, rfl, Nat.le_of_ble_eq_true rfl⟩) _).trans ?_
  rfl
theorem q_L_proof_24 {h : zH} {a0 : Nat} {a1 : Nat}  : zY 215 24 [some (zR (some a0)), some (zR (some a1)), none, none, none, none, none] [] h =
    zBack zY 215 33 36 [some (zR (some a0)), some (zR (some a1)), some (zR (some (hN h))), some (zI 0), none, none, none] [zI 2] (zC 207 [zR (some a0)] (hNew h 22 6)) := by
  refine (show zY 215 24 [some (zR (some a0)), some (zR (some a1)), none, none, none, none, none] [] h = gd (-128 ≤ (6 : Int) ∧ (6 : Int) < 128) (gd ((0 : Int) ≤ 6 ∧ (6 : Int) < 65536) (gd (inR (0)) (gd (inR (2)) (gd (zrecv 207 = 0) (gd (false = zspc 207 ∧ zcs [zI 2] ≤ 8 ∧ zrm 215 (zrf 207 + 1) (8 + (zmaxl 207 + 11) + zrl 207) = true ∧ zcs [zR (some a0)] ≤ zmaxl 207) (zBack zY 215 33 36 [some (zR (some a0)), some (zR (some a1)), some (zR (some (hN h))), some (zI 0), none, none, none] [zI 2] (zC 207 [zR (some a0)] (hNew h 22 6)))))))) from zGo 8 215 24 _ _ _).trans ?_
  refine (gd_t (by decide) _).trans ?_
  refine (gd_t (by decide) _).trans ?_
  refine (gd_t (by decide) _).trans ?_
  refine (gd_t (by decide) _).trans ?_
  refine (gd_t (rfl) _).trans ?_
  refine (gd_t (⟨rfl, Nat.le_of_ble_eq_true rfl, rfl, Nat.le_of_ble_eq_true rfl⟩) _).trans ?_
  rfl
theorem q_L_proof_36 {h : zH} {a0 : Nat} {a1 : Nat} {a2 : Nat} {x3 : Int} {y0 : Int} {y1 : Int}  : zY 215 36 [some (zR (some a0)), some (zR (some a1)), some (zR (some a2)), some (zI x3), none, none, none] [zI y1, zI y0] h =
    gd ((0 : Int) ≤ y1 ∧ (0 : Int) < 5 ∨ (-2147483648 : Int) < y1 ∧ (0 : Int) < 5) (zY 215 41 [some (zR (some a0)), some (zR (some a1)), some (zR (some a2)), some (zI x3), some (zI (zwadd y0 (Int.tmod y1 5))), none, none] [] h) := by
  refine (show zY 215 36 [some (zR (some a0)), some (zR (some a1)), some (zR (some a2)), some (zI x3), none, none, none] [zI y1, zI y0] h = gd (inR (5)) (gd ((0 : Int) ≤ y1 ∧ (0 : Int) < 5 ∨ (-2147483648 : Int) < y1 ∧ (0 : Int) < 5) (zY 215 41 [some (zR (some a0)), some (zR (some a1)), some (zR (some a2)), some (zI x3), some (zI (zwadd y0 (Int.tmod y1 5))), none, none] [] h)) from zGo 4 215 36 _ _ _).trans ?_
  refine (gd_t (by decide) _).trans ?_
  refine gd_c (Iff.rfl) (fun _ => ?_)
  rfl
theorem q_L_proof_41 {h : zH} {a0 : Nat} {a1 : Nat} {a2 : Nat} {x3 : Int} {x4 : Int}  : zY 215 41 [some (zR (some a0)), some (zR (some a1)), some (zR (some a2)), some (zI x3), some (zI x4), none, none] [] h =
    if 0 < x4 then zY 215 46 [some (zR (some a0)), some (zR (some a1)), some (zR (some a2)), some (zI x3), some (zI x4), none, none] [] h else zY 215 278 [some (zR (some a0)), some (zR (some a1)), some (zR (some a2)), some (zI x3), some (zI x4), none, none] [] h := by
  refine (show zY 215 41 [some (zR (some a0)), some (zR (some a1)), some (zR (some a2)), some (zI x3), some (zI x4), none, none] [] h = if 0 < x4 then zY 215 46 [some (zR (some a0)), some (zR (some a1)), some (zR (some a2)), some (zI x3), some (zI x4), none, none] [] h else zY 215 278 [some (zR (some a0)), some (zR (some a1)), some (zR (some a2)), some (zI x3), some (zI x4), none, none] [] h from zGo 2 215 41 _ _ _).trans ?_
  rfl
theorem q_L_proof_46 {h : zH} {a0 : Nat} {a1 : Nat} {a2 : Nat} {x3 : Int} {x4 : Int}  : zY 215 46 [some (zR (some a0)), some (zR (some a1)), some (zR (some a2)), some (zI x3), some (zI x4), none, none] [] h =
    zBack zY 215 47 50 [some (zR (some a0)), some (zR (some a1)), some (zR (some a2)), some (zI x3), some (zI x4), none, none] [] (zC 207 [zR (some a0)] h) := by
  refine (show zY 215 46 [some (zR (some a0)), some (zR (some a1)), some (zR (some a2)), some (zI x3), some (zI x4), none, none] [] h = gd (zrecv 207 = 0) (gd (false = zspc 207 ∧ zcs [] ≤ 8 ∧ zrm 215 (zrf 207 + 1) (8 + (zmaxl 207 + 11) + zrl 207) = true ∧ zcs [zR (some a0)] ≤ zmaxl 207) (zBack zY 215 47 50 [some (zR (some a0)), some (zR (some a1)), some (zR (some a2)), some (zI x3), some (zI x4), none, none] [] (zC 207 [zR (some a0)] h))) from zGo 2 215 46 _ _ _).trans ?_
  refine (gd_t (rfl) _).trans ?_
  refine (gd_t (⟨rfl, Nat.le_of_ble_eq_true rfl, rfl, Nat.le_of_ble_eq_true rfl⟩) _).trans ?_
  rfl
theorem q_L_proof_278 {h : zH} {a0 : Nat} {a1 : Nat} {a2 : Nat} {x3 : Int} {x4 : Int}  : zY 215 278 [some (zR (some a0)), some (zR (some a1)), some (zR (some a2)), some (zI x3), some (zI x4), none, none] [] h =
    if 0 < x3 then zY 215 282 [some (zR (some a0)), some (zR (some a1)), some (zR (some a2)), some (zI x3), some (zI x4), none, none] [] h else zY 215 307 [some (zR (some a0)), some (zR (some a1)), some (zR (some a2)), some (zI x3), some (zI x4), none, none] [] h := by
  refine (show zY 215 278 [some (zR (some a0)), some (zR (some a1)), some (zR (some a2)), some (zI x3), some (zI x4), none, none] [] h = if 0 < x3 then zY 215 282 [some (zR (some a0)), some (zR (some a1)), some (zR (some a2)), some (zI x3), some (zI x4), none, none] [] h else zY 215 307 [some (zR (some a0)), some (zR (some a1)), some (zR (some a2)), some (zI x3), some (zI x4), none, none] [] h from zGo 2 215 278 _ _ _).trans ?_
  rfl
theorem q_L_proof_50 {h : zH} {a0 : Nat} {a1 : Nat} {a2 : Nat} {x3 : Int} {x4 : Int} {y0 : Int}  : zY 215 50 [some (zR (some a0)), some (zR (some a1)), some (zR (some a2)), some (zI x3), some (zI x4), none, none] [zI y0] h =
    gd ((0 : Int) ≤ y0 ∧ (0 : Int) < 7 ∨ (-2147483648 : Int) < y0 ∧ (0 : Int) < 7) (if (Int.tmod y0 7) = 0 then zY 215 60 [some (zR (some a0)), some (zR (some a1)), some (zR (some a2)), some (zI x3), some (zI x4), some (zI (Int.tmod y0 7)), none] [] h else zY 215 89 [some (zR (some a0)), some (zR (some a1)), some (zR (some a2)), some (zI x3), some (zI x4), some (zI (Int.tmod y0 7)), none] [] h) := by
  refine (show zY 215 50 [some (zR (some a0)), some (zR (some a1)), some (zR (some a2)), some (zI x3), some (zI x4), none, none] [zI y0] h = gd (-128 ≤ (7 : Int) ∧ (7 : Int) < 128) (gd ((0 : Int) ≤ y0 ∧ (0 : Int) < 7 ∨ (-2147483648 : Int) < y0 ∧ (0 : Int) < 7) (if (Int.tmod y0 7) = 0 then zY 215 60 [some (zR (some a0)), some (zR (some a1)), some (zR (some a2)), some (zI x3), some (zI x4), some (zI (Int.tmod y0 7)), none] [] h else zY 215 89 [some (zR (some a0)), some (zR (some a1)), some (zR (some a2)), some (zI x3), some (zI x4), some (zI (Int.tmod y0 7)), none] [] h)) from zGo 5 215 50 _ _ _).trans ?_
  refine (gd_t (by decide) _).trans ?_
  refine gd_c (Iff.rfl) (fun _ => ?_)
  rfl
theorem q_L_proof_282 {h : zH} {a0 : Nat} {a1 : Nat} {a2 : Nat} {x3 : Int} {x4 : Int} (ta2 : hT h a2 = 22) : zY 215 282 [some (zR (some a0)), some (zR (some a1)), some (zR (some a2)), some (zI x3), some (zI x4), none, none] [] h =
    gd ((0 : Int) ≤ x3 ∧ x3 < (hL h a2 : Int)) (if (hI h a2 x3.toNat) = 1 then zY 215 290 [some (zR (some a0)), some (zR (some a1)), some (zR (some a2)), some (zI x3), some (zI x4), none, none] [zR (some a1)] h else zY 215 295 [some (zR (some a0)), some (zR (some a1)), some (zR (some a2)), some (zI x3), some (zI x4), none, none] [zR (some a1)] h) := by
  refine (show zY 215 282 [some (zR (some a0)), some (zR (some a1)), some (zR (some a2)), some (zI x3), some (zI x4), none, none] [] h = gd (zok h (some a2) 22 x3) (gd (inR (1)) (if (hI h a2 x3.toNat) = 1 then zY 215 290 [some (zR (some a0)), some (zR (some a1)), some (zR (some a2)), some (zI x3), some (zI x4), none, none] [zR (some a1)] h else zY 215 295 [some (zR (some a0)), some (zR (some a1)), some (zR (some a2)), some (zI x3), some (zI x4), none, none] [zR (some a1)] h)) from zGo 6 215 282 _ _ _).trans ?_
  refine gd_c (ci ta2 rfl) (fun _ => ?_)
  refine (gd_t (by decide) _).trans ?_
  rfl
theorem q_L_proof_307 {h : zH} {a0 : Nat} {a1 : Nat} {a2 : Nat} {x3 : Int} {x4 : Int} (ta1 : hT h a1 = 12) (na1 : a1 < hN h) : zY 215 307 [some (zR (some a0)), some (zR (some a1)), some (zR (some a2)), some (zI x3), some (zI x4), none, none] [] h =
    zBack zY 215 308 311 [some (zR (some a0)), some (zR (some a1)), some (zR (some a2)), some (zI x3), some (zI x4), none, none] [] (zC 204 [zR (some a1)] h) := by
  refine (show zY 215 307 [some (zR (some a0)), some (zR (some a1)), some (zR (some a2)), some (zI x3), some (zI x4), none, none] [] h = gd (0 < zrecv 204) (gd (false = zspc 204 ∧ zcs [] ≤ 8 ∧ zrm 215 (zrf 204 + 1) (8 + (zmaxl 204 + 11) + zrl 204) = true ∧ zcs [zR (some a1)] ≤ zmaxl 204) (gd (zob h (some a1) 12) (zBack zY 215 308 311 [some (zR (some a0)), some (zR (some a1)), some (zR (some a2)), some (zI x3), some (zI x4), none, none] [] (zC 204 [zR (some a1)] h)))) from zGo 2 215 307 _ _ _).trans ?_
  refine (gd_t (by decide) _).trans ?_
  refine (gd_t (⟨rfl, Nat.le_of_ble_eq_true rfl, rfl, Nat.le_of_ble_eq_true rfl⟩) _).trans ?_
  refine (gd_t (⟨rfl, ta1, na1⟩) _).trans ?_
  rfl
theorem q_L_proof_60 {h : zH} {a0 : Nat} {a1 : Nat} {a2 : Nat} {x3 : Int} {x4 : Int} {x5 : Int}  : zY 215 60 [some (zR (some a0)), some (zR (some a1)), some (zR (some a2)), some (zI x3), some (zI x4), some (zI x5), none] [] h =
    if x3 < 3 then zY 215 65 [some (zR (some a0)), some (zR (some a1)), some (zR (some a2)), some (zI x3), some (zI x4), some (zI x5), none] [] h else zY 215 89 [some (zR (some a0)), some (zR (some a1)), some (zR (some a2)), some (zI x3), some (zI x4), some (zI x5), none] [] h := by
  refine (show zY 215 60 [some (zR (some a0)), some (zR (some a1)), some (zR (some a2)), some (zI x3), some (zI x4), some (zI x5), none] [] h = gd (inR (3)) (if x3 < 3 then zY 215 65 [some (zR (some a0)), some (zR (some a1)), some (zR (some a2)), some (zI x3), some (zI x4), some (zI x5), none] [] h else zY 215 89 [some (zR (some a0)), some (zR (some a1)), some (zR (some a2)), some (zI x3), some (zI x4), some (zI x5), none] [] h) from zGo 3 215 60 _ _ _).trans ?_
  refine (gd_t (by decide) _).trans ?_
  rfl
theorem q_L_proof_89 {h : zH} {a0 : Nat} {a1 : Nat} {a2 : Nat} {x3 : Int} {x4 : Int} {x5 : Int}  : zY 215 89 [some (zR (some a0)), some (zR (some a1)), some (zR (some a2)), some (zI x3), some (zI x4), some (zI x5), none] [] h =
    if x5 = 1 then zY 215 95 [some (zR (some a0)), some (zR (some a1)), some (zR (some a2)), some (zI x3), some (zI x4), some (zI x5), none] [] h else zY 215 185 [some (zR (some a0)), some (zR (some a1)), some (zR (some a2)), some (zI x3), some (zI x4), some (zI x5), none] [] h := by
  refine (show zY 215 89 [some (zR (some a0)), some (zR (some a1)), some (zR (some a2)), some (zI x3), some (zI x4), some (zI x5), none] [] h = gd (inR (1)) (if x5 = 1 then zY 215 95 [some (zR (some a0)), some (zR (some a1)), some (zR (some a2)), some (zI x3), some (zI x4), some (zI x5), none] [] h else zY 215 185 [some (zR (some a0)), some (zR (some a1)), some (zR (some a2)), some (zI x3), some (zI x4), some (zI x5), none] [] h) from zGo 3 215 89 _ _ _).trans ?_
  refine (gd_t (by decide) _).trans ?_
  rfl
theorem q_L_proof_290 {h : zH} {a0 : Nat} {a1 : Nat} {a2 : Nat} {x3 : Int} {x4 : Int} {y0 : Nat} (ty0 : hT h y0 = 12) (ny0 : y0 < hN h) : zY 215 290 [some (zR (some a0)), some (zR (some a1)), some (zR (some a2)), some (zI x3), some (zI x4), none, none] [zR (some y0)] h =
    zBack zY 215 297 300 [some (zR (some a0)), some (zR (some a1)), some (zR (some a2)), some (zI x3), some (zI x4), none, none] [] (zC 180 [zR (some y0), zR (some (zVB + 53))] h) := by
  refine (show zY 215 290 [some (zR (some a0)), some (zR (some a1)), some (zR (some a2)), some (zI x3), some (zI x4), none, none] [zR (some y0)] h = gd (0 < zrecv 180) (gd (false = zspc 180 ∧ zcs [] ≤ 8 ∧ zrm 215 (zrf 180 + 1) (8 + (zmaxl 180 + 11) + zrl 180) = true ∧ zcs [zR (some y0), zR (some (zVB + 53))] ≤ zmaxl 180) (gd (zob h (some y0) 12) (zBack zY 215 297 300 [some (zR (some a0)), some (zR (some a1)), some (zR (some a2)), some (zI x3), some (zI x4), none, none] [] (zC 180 [zR (some y0), zR (some (zVB + 53))] h)))) from zGo 3 215 290 _ _ _).trans ?_
  refine (gd_t (by decide) _).trans ?_
  refine (gd_t (⟨rfl, Nat.le_of_ble_eq_true rfl, rfl, Nat.le_of_ble_eq_true rfl⟩) _).trans ?_
  refine (gd_t (⟨rfl, ty0, ny0⟩) _).trans ?_
  rfl
theorem q_L_proof_295 {h : zH} {a0 : Nat} {a1 : Nat} {a2 : Nat} {x3 : Int} {x4 : Int} {y0 : Nat} (ty0 : hT h y0 = 12) (ny0 : y0 < hN h) : zY 215 295 [some (zR (some a0)), some (zR (some a1)), some (zR (some a2)), some (zI x3), some (zI x4), none, none] [zR (some y0)] h =
    zBack zY 215 297 300 [some (zR (some a0)), some (zR (some a1)), some (zR (some a2)), some (zI x3), some (zI x4), none, none] [] (zC 180 [zR (some y0), zR (some (zVB + 52))] h) := by
  refine (show zY 215 295 [some (zR (some a0)), some (zR (some a1)), some (zR (some a2)), some (zI x3), some (zI x4), none, none] [zR (some y0)] h = gd (0 < zrecv 180) (gd (false = zspc 180 ∧ zcs [] ≤ 8 ∧ zrm 215 (zrf 180 + 1) (8 + (zmaxl 180 + 11) + zrl 180) = true ∧ zcs [zR (some y0), zR (some (zVB + 52))] ≤ zmaxl 180) (gd (zob h (some y0) 12) (zBack zY 215 297 300 [some (zR (some a0)), some (zR (some a1)), some (zR (some a2)), some (zI x3), some (zI x4), none, none] [] (zC 180 [zR (some y0), zR (some (zVB + 52))] h)))) from zGo 2 215 295 _ _ _).trans ?_
  refine (gd_t (by decide) _).trans ?_
  refine (gd_t (⟨rfl, Nat.le_of_ble_eq_true rfl, rfl, Nat.le_of_ble_eq_true rfl⟩) _).trans ?_
  refine (gd_t (⟨rfl, ty0, ny0⟩) _).trans ?_
  rfl
theorem q_L_proof_311 {h : zH} {a0 : Nat} {a1 : Nat} {a2 : Nat} {x3 : Int} {x4 : Int} {y0 : Nat}  : zY 215 311 [some (zR (some a0)), some (zR (some a1)), some (zR (some a2)), some (zI x3), some (zI x4), none, none] [zR (some y0)] h =
    some (.inl (some (zR (some y0))), h) := by
  refine (show zY 215 311 [some (zR (some a0)), some (zR (some a1)), some (zR (some a2)), some (zI x3), some (zI x4), none, none] [zR (some y0)] h = gd (([] : List zV).isEmpty = true ∧ zrk 215 = 5) (some (.inl (some (zR (some y0))), h)) from zGo 1 215 311 _ _ _).trans ?_
  refine (gd_t (⟨rfl, rfl⟩) _).trans ?_
  rfl
theorem q_L_proof_65 {h : zH} {a0 : Nat} {a1 : Nat} {a2 : Nat} {x3 : Int} {x4 : Int} {x5 : Int} (ta1 : hT h a1 = 12) (na1 : a1 < hN h) : zY 215 65 [some (zR (some a0)), some (zR (some a1)), some (zR (some a2)), some (zI x3), some (zI x4), some (zI x5), none] [] h =
    zBack zY 215 68 71 [some (zR (some a0)), some (zR (some a1)), some (zR (some a2)), some (zI x3), some (zI x4), some (zI x5), none] [] (zC 180 [zR (some a1), zR (some (zVB + 43))] h) := by
  refine (show zY 215 65 [some (zR (some a0)), some (zR (some a1)), some (zR (some a2)), some (zI x3), some (zI x4), some (zI x5), none] [] h = gd (0 < zrecv 180) (gd (false = zspc 180 ∧ zcs [] ≤ 8 ∧ zrm 215 (zrf 180 + 1) (8 + (zmaxl 180 + 11) + zrl 180) = true ∧ zcs [zR (some a1), zR (some (zVB + 43))] ≤ zmaxl 180) (gd (zob h (some a1) 12) (zBack zY 215 68 71 [some (zR (some a0)), some (zR (some a1)), some (zR (some a2)), some (zI x3), some (zI x4), some (zI x5), none] [] (zC 180 [zR (some a1), zR (some (zVB + 43))] h)))) from zGo 3 215 65 _ _ _).trans ?_
  refine (gd_t (by decide) _).trans ?_
  refine (gd_t (⟨rfl, Nat.le_of_ble_eq_true rfl, rfl, Nat.le_of_ble_eq_true rfl⟩) _).trans ?_
  refine (gd_t (⟨rfl, ta1, na1⟩) _).trans ?_
  rfl
theorem q_L_proof_95 {h : zH} {a0 : Nat} {a1 : Nat} {a2 : Nat} {x3 : Int} {x4 : Int} {x5 : Int}  : zY 215 95 [some (zR (some a0)), some (zR (some a1)), some (zR (some a2)), some (zI x3), some (zI x4), some (zI x5), none] [] h =
    if x3 < 3 then zY 215 100 [some (zR (some a0)), some (zR (some a1)), some (zR (some a2)), some (zI x3), some (zI x4), some (zI x5), none] [] h else zY 215 185 [some (zR (some a0)), some (zR (some a1)), some (zR (some a2)), some (zI x3), some (zI x4), some (zI x5), none] [] h := by
  refine (show zY 215 95 [some (zR (some a0)), some (zR (some a1)), some (zR (some a2)), some (zI x3), some (zI x4), some (zI x5), none] [] h = gd (inR (3)) (if x3 < 3 then zY 215 100 [some (zR (some a0)), some (zR (some a1)), some (zR (some a2)), some (zI x3), some (zI x4), some (zI x5), none] [] h else zY 215 185 [some (zR (some a0)), some (zR (some a1)), some (zR (some a2)), some (zI x3), some (zI x4), some (zI x5), none] [] h) from zGo 3 215 95 _ _ _).trans ?_
  refine (gd_t (by decide) _).trans ?_
  rfl
theorem q_L_proof_185 {h : zH} {a0 : Nat} {a1 : Nat} {a2 : Nat} {x3 : Int} {x4 : Int} {x5 : Int}  : zY 215 185 [some (zR (some a0)), some (zR (some a1)), some (zR (some a2)), some (zI x3), some (zI x4), some (zI x5), none] [] h =
    if x5 = 2 then zY 215 191 [some (zR (some a0)), some (zR (some a1)), some (zR (some a2)), some (zI x3), some (zI x4), some (zI x5), none] [] h else zY 215 201 [some (zR (some a0)), some (zR (some a1)), some (zR (some a2)), some (zI x3), some (zI x4), some (zI x5), none] [] h := by
  refine (show zY 215 185 [some (zR (some a0)), some (zR (some a1)), some (zR (some a2)), some (zI x3), some (zI x4), some (zI x5), none] [] h = gd (inR (2)) (if x5 = 2 then zY 215 191 [some (zR (some a0)), some (zR (some a1)), some (zR (some a2)), some (zI x3), some (zI x4), some (zI x5), none] [] h else zY 215 201 [some (zR (some a0)), some (zR (some a1)), some (zR (some a2)), some (zI x3), some (zI x4), some (zI x5), none] [] h) from zGo 3 215 185 _ _ _).trans ?_
  refine (gd_t (by decide) _).trans ?_
  rfl
theorem q_L_proof_300 {h : zH} {a0 : Nat} {a1 : Nat} {a2 : Nat} {x3 : Int} {x4 : Int} {y0 : Nat}  : zY 215 300 [some (zR (some a0)), some (zR (some a1)), some (zR (some a2)), some (zI x3), some (zI x4), none, none] [zR (some y0)] h =
    gd (inR (x3 + (-1))) (zY 215 278 [some (zR (some a0)), some (zR (some a1)), some (zR (some a2)), some (zI (x3 + (-1))), some (zI x4), none, none] [] h) := by
  refine (show zY 215 300 [some (zR (some a0)), some (zR (some a1)), some (zR (some a2)), some (zI x3), some (zI x4), none, none] [zR (some y0)] h = gd (inR (x3 + (-1))) (gd (inR (-1)) (zY 215 278 [some (zR (some a0)), some (zR (some a1)), some (zR (some a2)), some (zI (x3 + (-1))), some (zI x4), none, none] [] h)) from zGo 3 215 300 _ _ _).trans ?_
  refine gd_c (Iff.rfl) (fun _ => ?_)
  refine (gd_t (by decide) _).trans ?_
  rfl
theorem q_L_proof_71 {h : zH} {a0 : Nat} {a1 : Nat} {a2 : Nat} {x3 : Int} {x4 : Int} {x5 : Int} {y0 : Nat}  : zY 215 71 [some (zR (some a0)), some (zR (some a1)), some (zR (some a2)), some (zI x3), some (zI x4), some (zI x5), none] [zR (some y0)] h =
    zBack zY 215 76 79 [some (zR (some a0)), some (zR (some a1)), some (zR (some a2)), some (zI x3), some (zI x4), some (zI x5), none] [] (zC 216 [zR (some a1), zI 1, zI 1, zR (some a0)] h) := by
  refine (show zY 215 71 [some (zR (some a0)), some (zR (some a1)), some (zR (some a2)), some (zI x3), some (zI x4), some (zI x5), none] [zR (some y0)] h = gd (inR (1)) (gd (inR (1)) (gd (zrecv 216 = 0) (gd (false = zspc 216 ∧ zcs [] ≤ 8 ∧ zrm 215 (zrf 216 + 1) (8 + (zmaxl 216 + 11) + zrl 216) = true ∧ zcs [zR (some a1), zI 1, zI 1, zR (some a0)] ≤ zmaxl 216) (zBack zY 215 76 79 [some (zR (some a0)), some (zR (some a1)), some (zR (some a2)), some (zI x3), some (zI x4), some (zI x5), none] [] (zC 216 [zR (some a1), zI 1, zI 1, zR (some a0)] h))))) from zGo 6 215 71 _ _ _).trans ?_
  refine (gd_t (by decide) _).trans ?_
  refine (gd_t (by decide) _).trans ?_
  refine (gd_t (rfl) _).trans ?_
  refine (gd_t (⟨rfl, Nat.le_of_ble_eq_true rfl, rfl, Nat.le_of_ble_eq_true rfl⟩) _).trans ?_
  rfl
theorem q_L_proof_100 {h : zH} {a0 : Nat} {a1 : Nat} {a2 : Nat} {x3 : Int} {x4 : Int} {x5 : Int}  : zY 215 100 [some (zR (some a0)), some (zR (some a1)), some (zR (some a2)), some (zI x3), some (zI x4), some (zI x5), none] [] h =
    zBack zY 215 103 106 [some (zR (some a0)), some (zR (some a1)), some (zR (some a2)), some (zI x3), some (zI x4), some (zI x5), none] [zI 97] (zC 207 [zR (some a0)] h) := by
  refine (show zY 215 100 [some (zR (some a0)), some (zR (some a1)), some (zR (some a2)), some (zI x3), some (zI x4), some (zI x5), none] [] h = gd (-128 ≤ (97 : Int) ∧ (97 : Int) < 128) (gd (zrecv 207 = 0) (gd (false = zspc 207 ∧ zcs [zI 97] ≤ 8 ∧ zrm 215 (zrf 207 + 1) (8 + (zmaxl 207 + 11) + zrl 207) = true ∧ zcs [zR (some a0)] ≤ zmaxl 207) (zBack zY 215 103 106 [some (zR (some a0)), some (zR (some a1)), some (zR (some a2)), some (zI x3), some (zI x4), some (zI x5), none] [zI 97] (zC 207 [zR (some a0)] h)))) from zGo 3 215 100 _ _ _).trans ?_
  refine (gd_t (by decide) _).trans ?_
  refine (gd_t (rfl) _).trans ?_
  refine (gd_t (⟨rfl, Nat.le_of_ble_eq_true rfl, rfl, Nat.le_of_ble_eq_true rfl⟩) _).trans ?_
  rfl
theorem q_L_proof_191 {h : zH} {a0 : Nat} {a1 : Nat} {a2 : Nat} {x3 : Int} {x4 : Int} {x5 : Int} (ta1 : hT h a1 = 12) (na1 : a1 < hN h) : zY 215 191 [some (zR (some a0)), some (zR (some a1)), some (zR (some a2)), some (zI x3), some (zI x4), some (zI x5), none] [] h =
    zBack zY 215 194 197 [some (zR (some a0)), some (zR (some a1)), some (zR (some a2)), some (zI x3), some (zI x4), some (zI x5), none] [] (zC 180 [zR (some a1), zR (some (zVB + 50))] h) := by
  refine (show zY 215 191 [some (zR (some a0)), some (zR (some a1)), some (zR (some a2)), some (zI x3), some (zI x4), some (zI x5), none] [] h = gd (0 < zrecv 180) (gd (false = zspc 180 ∧ zcs [] ≤ 8 ∧ zrm 215 (zrf 180 + 1) (8 + (zmaxl 180 + 11) + zrl 180) = true ∧ zcs [zR (some a1), zR (some (zVB + 50))] ≤ zmaxl 180) (gd (zob h (some a1) 12) (zBack zY 215 194 197 [some (zR (some a0)), some (zR (some a1)), some (zR (some a2)), some (zI x3), some (zI x4), some (zI x5), none] [] (zC 180 [zR (some a1), zR (some (zVB + 50))] h)))) from zGo 3 215 191 _ _ _).trans ?_
  refine (gd_t (by decide) _).trans ?_
  refine (gd_t (⟨rfl, Nat.le_of_ble_eq_true rfl, rfl, Nat.le_of_ble_eq_true rfl⟩) _).trans ?_
  refine (gd_t (⟨rfl, ta1, na1⟩) _).trans ?_
  rfl
theorem q_L_proof_201 {h : zH} {a0 : Nat} {a1 : Nat} {a2 : Nat} {x3 : Int} {x4 : Int} {x5 : Int}  : zY 215 201 [some (zR (some a0)), some (zR (some a1)), some (zR (some a2)), some (zI x3), some (zI x4), some (zI x5), none] [] h =
    if x5 = 3 then zY 215 207 [some (zR (some a0)), some (zR (some a1)), some (zR (some a2)), some (zI x3), some (zI x4), some (zI x5), none] [] h else zY 215 245 [some (zR (some a0)), some (zR (some a1)), some (zR (some a2)), some (zI x3), some (zI x4), some (zI x5), none] [] h := by
  refine (show zY 215 201 [some (zR (some a0)), some (zR (some a1)), some (zR (some a2)), some (zI x3), some (zI x4), some (zI x5), none] [] h = gd (inR (3)) (if x5 = 3 then zY 215 207 [some (zR (some a0)), some (zR (some a1)), some (zR (some a2)), some (zI x3), some (zI x4), some (zI x5), none] [] h else zY 215 245 [some (zR (some a0)), some (zR (some a1)), some (zR (some a2)), some (zI x3), some (zI x4), some (zI x5), none] [] h) from zGo 3 215 201 _ _ _).trans ?_
  refine (gd_t (by decide) _).trans ?_
  rfl
theorem q_L_proof_79 {h : zH} {a0 : Nat} {a1 : Nat} {a2 : Nat} {x3 : Int} {x4 : Int} {x5 : Int} (ta2 : hT h a2 = 22) (na2 : a2 < hN h) : zY 215 79 [some (zR (some a0)), some (zR (some a1)), some (zR (some a2)), some (zI x3), some (zI x4), some (zI x5), none] [] h =
    gd (inR (x3 + 1)) (gd ((0 : Int) ≤ (x3 + 1) ∧ (x3 + 1) < (hL h a2 : Int)) (gd (inR (x4 + (-1))) (zY 215 41 [some (zR (some a0)), some (zR (some a1)), some (zR (some a2)), some (zI (x3 + 1)), some (zI (x4 + (-1))), some (zI x5), none] [] (sI h a2 (x3 + 1).toNat 1)))) := by
  refine (show zY 215 79 [some (zR (some a0)), some (zR (some a1)), some (zR (some a2)), some (zI x3), some (zI x4), some (zI x5), none] [] h = gd (inR (x3 + 1)) (gd (inR (1)) (gd (inR (1)) (gd (zokw h (some a2) 22 (x3 + 1)) (gd (inR (x4 + (-1))) (gd (inR (-1)) (zY 215 41 [some (zR (some a0)), some (zR (some a1)), some (zR (some a2)), some (zI (x3 + 1)), some (zI (x4 + (-1))), some (zI x5), none] [] (sI h a2 (x3 + 1).toNat 1))))))) from zGo 8 215 79 _ _ _).trans ?_
  refine gd_c (Iff.rfl) (fun _ => ?_)
  refine (gd_t (by decide) _).trans ?_
  refine (gd_t (by decide) _).trans ?_
  refine gd_c (ciw ta2 na2 rfl) (fun _ => ?_)
  refine gd_c (Iff.rfl) (fun _ => ?_)
  refine (gd_t (by decide) _).trans ?_
  rfl
theorem q_L_proof_106 {h : zH} {a0 : Nat} {a1 : Nat} {a2 : Nat} {x3 : Int} {x4 : Int} {x5 : Int} {y0 : Int} {y1 : Int} (ta1 : hT h a1 = 12) (na1 : a1 < hN h) : zY 215 106 [some (zR (some a0)), some (zR (some a1)), some (zR (some a2)), some (zI x3), some (zI x4), some (zI x5), none] [zI y1, zI y0] h =
    gd ((0 : Int) ≤ y1 ∧ (0 : Int) < 3 ∨ (-2147483648 : Int) < y1 ∧ (0 : Int) < 3) (zBack zY 215 115 118 [some (zR (some a0)), some (zR (some a1)), some (zR (some a2)), some (zI x3), some (zI x4), some (zI x5), some (zI (zi2c (zwadd y0 (Int.tmod y1 3))))] [] (zC 180 [zR (some a1), zR (some (zVB + 44))] h)) := by
  refine (show zY 215 106 [some (zR (some a0)), some (zR (some a1)), some (zR (some a2)), some (zI x3), some (zI x4), some (zI x5), none] [zI y1, zI y0] h = gd (inR (3)) (gd ((0 : Int) ≤ y1 ∧ (0 : Int) < 3 ∨ (-2147483648 : Int) < y1 ∧ (0 : Int) < 3) (gd (0 < zrecv 180) (gd (false = zspc 180 ∧ zcs [] ≤ 8 ∧ zrm 215 (zrf 180 + 1) (8 + (zmaxl 180 + 11) + zrl 180) = true ∧ zcs [zR (some a1), zR (some (zVB + 44))] ≤ zmaxl 180) (gd (zob h (some a1) 12) (zBack zY 215 115 118 [some (zR (some a0)), some (zR (some a1)), some (zR (some a2)), some (zI x3), some (zI x4), some (zI x5), some (zI (zi2c (zwadd y0 (Int.tmod y1 3))))] [] (zC 180 [zR (some a1), zR (some (zVB + 44))] h)))))) from zGo 8 215 106 _ _ _).trans ?_
  refine (gd_t (by decide) _).trans ?_
  refine gd_c (Iff.rfl) (fun _ => ?_)
  refine (gd_t (by decide) _).trans ?_
  refine (gd_t (⟨rfl, Nat.le_of_ble_eq_true rfl, rfl, Nat.le_of_ble_eq_true rfl⟩) _).trans ?_
  refine (gd_t (⟨rfl, ta1, na1⟩) _).trans ?_
  rfl
theorem q_L_proof_197 {h : zH} {a0 : Nat} {a1 : Nat} {a2 : Nat} {x3 : Int} {x4 : Int} {x5 : Int} {y0 : Nat}  : zY 215 197 [some (zR (some a0)), some (zR (some a1)), some (zR (some a2)), some (zI x3), some (zI x4), some (zI x5), none] [zR (some y0)] h =
    gd (inR (x4 + (-1))) (zY 215 41 [some (zR (some a0)), some (zR (some a1)), some (zR (some a2)), some (zI x3), some (zI (x4 + (-1))), some (zI x5), none] [] h) := by
  refine (show zY 215 197 [some (zR (some a0)), some (zR (some a1)), some (zR (some a2)), some (zI x3), some (zI x4), some (zI x5), none] [zR (some y0)] h = gd (inR (x4 + (-1))) (gd (inR (-1)) (zY 215 41 [some (zR (some a0)), some (zR (some a1)), some (zR (some a2)), some (zI x3), some (zI (x4 + (-1))), some (zI x5), none] [] h)) from zGo 4 215 197 _ _ _).trans ?_
  refine gd_c (Iff.rfl) (fun _ => ?_)
  refine (gd_t (by decide) _).trans ?_
  rfl
theorem q_L_proof_207 {h : zH} {a0 : Nat} {a1 : Nat} {a2 : Nat} {x3 : Int} {x4 : Int} {x5 : Int}  : zY 215 207 [some (zR (some a0)), some (zR (some a1)), some (zR (some a2)), some (zI x3), some (zI x4), some (zI x5), none] [] h =
    if 0 < x3 then zY 215 211 [some (zR (some a0)), some (zR (some a1)), some (zR (some a2)), some (zI x3), some (zI x4), some (zI x5), none] [] h else zY 215 245 [some (zR (some a0)), some (zR (some a1)), some (zR (some a2)), some (zI x3), some (zI x4), some (zI x5), none] [] h := by
  refine (show zY 215 207 [some (zR (some a0)), some (zR (some a1)), some (zR (some a2)), some (zI x3), some (zI x4), some (zI x5), none] [] h = if 0 < x3 then zY 215 211 [some (zR (some a0)), some (zR (some a1)), some (zR (some a2)), some (zI x3), some (zI x4), some (zI x5), none] [] h else zY 215 245 [some (zR (some a0)), some (zR (some a1)), some (zR (some a2)), some (zI x3), some (zI x4), some (zI x5), none] [] h from zGo 2 215 207 _ _ _).trans ?_
  rfl
theorem q_L_proof_245 {h : zH} {a0 : Nat} {a1 : Nat} {a2 : Nat} {x3 : Int} {x4 : Int} {x5 : Int} (ta1 : hT h a1 = 12) (na1 : a1 < hN h) : zY 215 245 [some (zR (some a0)), some (zR (some a1)), some (zR (some a2)), some (zI x3), some (zI x4), some (zI x5), none] [] h =
    zBack zY 215 248 251 [some (zR (some a0)), some (zR (some a1)), some (zR (some a2)), some (zI x3), some (zI x4), some (zI x5), none] [] (zC 180 [zR (some a1), zR (some (zVB + 47))] h) := by
  refine (show zY 215 245 [some (zR (some a0)), some (zR (some a1)), some (zR (some a2)), some (zI x3), some (zI x4), some (zI x5), none] [] h = gd (0 < zrecv 180) (gd (false = zspc 180 ∧ zcs [] ≤ 8 ∧ zrm 215 (zrf 180 + 1) (8 + (zmaxl 180 + 11) + zrl 180) = true ∧ zcs [zR (some a1), zR (some (zVB + 47))] ≤ zmaxl 180) (gd (zob h (some a1) 12) (zBack zY 215 248 251 [some (zR (some a0)), some (zR (some a1)), some (zR (some a2)), some (zI x3), some (zI x4), some (zI x5), none] [] (zC 180 [zR (some a1), zR (some (zVB + 47))] h)))) from zGo 3 215 245 _ _ _).trans ?_
  refine (gd_t (by decide) _).trans ?_
  refine (gd_t (⟨rfl, Nat.le_of_ble_eq_true rfl, rfl, Nat.le_of_ble_eq_true rfl⟩) _).trans ?_
  refine (gd_t (⟨rfl, ta1, na1⟩) _).trans ?_
  rfl
theorem q_L_proof_118 {h : zH} {a0 : Nat} {a1 : Nat} {a2 : Nat} {x3 : Int} {x4 : Int} {x5 : Int} {x6 : Int} {y0 : Nat} (ty0 : hT h y0 = 12) (ny0 : y0 < hN h) : zY 215 118 [some (zR (some a0)), some (zR (some a1)), some (zR (some a2)), some (zI x3), some (zI x4), some (zI x5), some (zI x6)] [zR (some y0)] h =
    zBack zY 215 120 123 [some (zR (some a0)), some (zR (some a1)), some (zR (some a2)), some (zI x3), some (zI x4), some (zI x5), some (zI x6)] [] (zC 189 [zR (some y0), zI x6] h) := by
  refine (show zY 215 118 [some (zR (some a0)), some (zR (some a1)), some (zR (some a2)), some (zI x3), some (zI x4), some (zI x5), some (zI x6)] [zR (some y0)] h = gd (0 < zrecv 189) (gd (false = zspc 189 ∧ zcs [] ≤ 8 ∧ zrm 215 (zrf 189 + 1) (8 + (zmaxl 189 + 11) + zrl 189) = true ∧ zcs [zR (some y0), zI x6] ≤ zmaxl 189) (gd (zob h (some y0) 12) (zBack zY 215 120 123 [some (zR (some a0)), some (zR (some a1)), some (zR (some a2)), some (zI x3), some (zI x4), some (zI x5), some (zI x6)] [] (zC 189 [zR (some y0), zI x6] h)))) from zGo 2 215 118 _ _ _).trans ?_
  refine (gd_t (by decide) _).trans ?_
  refine (gd_t (⟨rfl, Nat.le_of_ble_eq_true rfl, rfl, Nat.le_of_ble_eq_true rfl⟩) _).trans ?_
  refine (gd_t (⟨rfl, ty0, ny0⟩) _).trans ?_
  rfl
theorem q_L_proof_211 {h : zH} {a0 : Nat} {a1 : Nat} {a2 : Nat} {x3 : Int} {x4 : Int} {x5 : Int} (ta2 : hT h a2 = 22) : zY 215 211 [some (zR (some a0)), some (zR (some a1)), some (zR (some a2)), some (zI x3), some (zI x4), some (zI x5), none] [] h =
    gd ((0 : Int) ≤ x3 ∧ x3 < (hL h a2 : Int)) (if (hI h a2 x3.toNat) = 1 then zY 215 218 [some (zR (some a0)), some (zR (some a1)), some (zR (some a2)), some (zI x3), some (zI x4), some (zI x5), none] [] h else zY 215 232 [some (zR (some a0)), some (zR (some a1)), some (zR (some a2)), some (zI x3), some (zI x4), some (zI x5), none] [] h) := by
  refine (show zY 215 211 [some (zR (some a0)), some (zR (some a1)), some (zR (some a2)), some (zI x3), some (zI x4), some (zI x5), none] [] h = gd (zok h (some a2) 22 x3) (gd (inR (1)) (if (hI h a2 x3.toNat) = 1 then zY 215 218 [some (zR (some a0)), some (zR (some a1)), some (zR (some a2)), some (zI x3), some (zI x4), some (zI x5), none] [] h else zY 215 232 [some (zR (some a0)), some (zR (some a1)), some (zR (some a2)), some (zI x3), some (zI x4), some (zI x5), none] [] h)) from zGo 5 215 211 _ _ _).trans ?_
  refine gd_c (ci ta2 rfl) (fun _ => ?_)
  refine (gd_t (by decide) _).trans ?_
  rfl
theorem q_L_proof_251 {h : zH} {a0 : Nat} {a1 : Nat} {a2 : Nat} {x3 : Int} {x4 : Int} {x5 : Int} {y0 : Nat}  : zY 215 251 [some (zR (some a0)), some (zR (some a1)), some (zR (some a2)), some (zI x3), some (zI x4), some (zI x5), none] [zR (some y0)] h =
    zBack zY 215 254 257 [some (zR (some a0)), some (zR (some a1)), some (zR (some a2)), some (zI x3), some (zI x4), some (zI x5), none] [zI 97, zR (some y0)] (zC 207 [zR (some a0)] h) := by
  refine (show zY 215 251 [some (zR (some a0)), some (zR (some a1)), some (zR (some a2)), some (zI x3), some (zI x4), some (zI x5), none] [zR (some y0)] h = gd (-128 ≤ (97 : Int) ∧ (97 : Int) < 128) (gd (zrecv 207 = 0) (gd (false = zspc 207 ∧ zcs [zI 97, zR (some y0)] ≤ 8 ∧ zrm 215 (zrf 207 + 1) (8 + (zmaxl 207 + 11) + zrl 207) = true ∧ zcs [zR (some a0)] ≤ zmaxl 207) (zBack zY 215 254 257 [some (zR (some a0)), some (zR (some a1)), some (zR (some a2)), some (zI x3), some (zI x4), some (zI x5), none] [zI 97, zR (some y0)] (zC 207 [zR (some a0)] h)))) from zGo 3 215 251 _ _ _).trans ?_
  refine (gd_t (by decide) _).trans ?_
  refine (gd_t (rfl) _).trans ?_
  refine (gd_t (⟨rfl, Nat.le_of_ble_eq_true rfl, rfl, Nat.le_of_ble_eq_true rfl⟩) _).trans ?_
  rfl
theorem q_L_proof_123 {h : zH} {a0 : Nat} {a1 : Nat} {a2 : Nat} {x3 : Int} {x4 : Int} {x5 : Int} {x6 : Int} {y0 : Nat} (ty0 : hT h y0 = 12) (ny0 : y0 < hN h) : zY 215 123 [some (zR (some a0)), some (zR (some a1)), some (zR (some a2)), some (zI x3), some (zI x4), some (zI x5), some (zI x6)] [zR (some y0)] h =
    zBack zY 215 125 128 [some (zR (some a0)), some (zR (some a1)), some (zR (some a2)), some (zI x3), some (zI x4), some (zI x5), some (zI x6)] [] (zC 180 [zR (some y0), zR (some (zVB + 45))] h) := by
  refine (show zY 215 123 [some (zR (some a0)), some (zR (some a1)), some (zR (some a2)), some (zI x3), some (zI x4), some (zI x5), some (zI x6)] [zR (some y0)] h = gd (0 < zrecv 180) (gd (false = zspc 180 ∧ zcs [] ≤ 8 ∧ zrm 215 (zrf 180 + 1) (8 + (zmaxl 180 + 11) + zrl 180) = true ∧ zcs [zR (some y0), zR (some (zVB + 45))] ≤ zmaxl 180) (gd (zob h (some y0) 12) (zBack zY 215 125 128 [some (zR (some a0)), some (zR (some a1)), some (zR (some a2)), some (zI x3), some (zI x4), some (zI x5), some (zI x6)] [] (zC 180 [zR (some y0), zR (some (zVB + 45))] h)))) from zGo 2 215 123 _ _ _).trans ?_
  refine (gd_t (by decide) _).trans ?_
  refine (gd_t (⟨rfl, Nat.le_of_ble_eq_true rfl, rfl, Nat.le_of_ble_eq_true rfl⟩) _).trans ?_
  refine (gd_t (⟨rfl, ty0, ny0⟩) _).trans ?_
  rfl
theorem q_L_proof_218 {h : zH} {a0 : Nat} {a1 : Nat} {a2 : Nat} {x3 : Int} {x4 : Int} {x5 : Int} (ta1 : hT h a1 = 12) (na1 : a1 < hN h) : zY 215 218 [some (zR (some a0)), some (zR (some a1)), some (zR (some a2)), some (zI x3), some (zI x4), some (zI x5), none] [] h =
    zBack zY 215 221 224 [some (zR (some a0)), some (zR (some a1)), some (zR (some a2)), some (zI x3), some (zI x4), some (zI x5), none] [] (zC 180 [zR (some a1), zR (some (zVB + 51))] h) := by
  refine (show zY 215 218 [some (zR (some a0)), some (zR (some a1)), some (zR (some a2)), some (zI x3), some (zI x4), some (zI x5), none] [] h = gd (0 < zrecv 180) (gd (false = zspc 180 ∧ zcs [] ≤ 8 ∧ zrm 215 (zrf 180 + 1) (8 + (zmaxl 180 + 11) + zrl 180) = true ∧ zcs [zR (some a1), zR (some (zVB + 51))] ≤ zmaxl 180) (gd (zob h (some a1) 12) (zBack zY 215 221 224 [some (zR (some a0)), some (zR (some a1)), some (zR (some a2)), some (zI x3), some (zI x4), some (zI x5), none] [] (zC 180 [zR (some a1), zR (some (zVB + 51))] h)))) from zGo 3 215 218 _ _ _).trans ?_
  refine (gd_t (by decide) _).trans ?_
  refine (gd_t (⟨rfl, Nat.le_of_ble_eq_true rfl, rfl, Nat.le_of_ble_eq_true rfl⟩) _).trans ?_
  refine (gd_t (⟨rfl, ta1, na1⟩) _).trans ?_
  rfl
theorem q_L_proof_232 {h : zH} {a0 : Nat} {a1 : Nat} {a2 : Nat} {x3 : Int} {x4 : Int} {x5 : Int} (ta1 : hT h a1 = 12) (na1 : a1 < hN h) : zY 215 232 [some (zR (some a0)), some (zR (some a1)), some (zR (some a2)), some (zI x3), some (zI x4), some (zI x5), none] [] h =
    zBack zY 215 235 238 [some (zR (some a0)), some (zR (some a1)), some (zR (some a2)), some (zI x3), some (zI x4), some (zI x5), none] [] (zC 180 [zR (some a1), zR (some (zVB + 52))] h) := by
  refine (show zY 215 232 [some (zR (some a0)), some (zR (some a1)), some (zR (some a2)), some (zI x3), some (zI x4), some (zI x5), none] [] h = gd (0 < zrecv 180) (gd (false = zspc 180 ∧ zcs [] ≤ 8 ∧ zrm 215 (zrf 180 + 1) (8 + (zmaxl 180 + 11) + zrl 180) = true ∧ zcs [zR (some a1), zR (some (zVB + 52))] ≤ zmaxl 180) (gd (zob h (some a1) 12) (zBack zY 215 235 238 [some (zR (some a0)), some (zR (some a1)), some (zR (some a2)), some (zI x3), some (zI x4), some (zI x5), none] [] (zC 180 [zR (some a1), zR (some (zVB + 52))] h)))) from zGo 3 215 232 _ _ _).trans ?_
  refine (gd_t (by decide) _).trans ?_
  refine (gd_t (⟨rfl, Nat.le_of_ble_eq_true rfl, rfl, Nat.le_of_ble_eq_true rfl⟩) _).trans ?_
  refine (gd_t (⟨rfl, ta1, na1⟩) _).trans ?_
  rfl
theorem q_L_proof_257 {h : zH} {a0 : Nat} {a1 : Nat} {a2 : Nat} {x3 : Int} {x4 : Int} {x5 : Int} {y0 : Nat} {y1 : Int} {y2 : Int} (ty0 : hT h y0 = 12) (ny0 : y0 < hN h) : zY 215 257 [some (zR (some a0)), some (zR (some a1)), some (zR (some a2)), some (zI x3), some (zI x4), some (zI x5), none] [zI y2, zI y1, zR (some y0)] h =
    gd ((0 : Int) ≤ y2 ∧ (0 : Int) < 3 ∨ (-2147483648 : Int) < y2 ∧ (0 : Int) < 3) (zBack zY 215 261 264 [some (zR (some a0)), some (zR (some a1)), some (zR (some a2)), some (zI x3), some (zI x4), some (zI x5), none] [] (zC 189 [zR (some y0), zI (zi2c (zwadd y1 (Int.tmod y2 3)))] h)) := by
  refine (show zY 215 257 [some (zR (some a0)), some (zR (some a1)), some (zR (some a2)), some (zI x3), some (zI x4), some (zI x5), none] [zI y2, zI y1, zR (some y0)] h = gd (inR (3)) (gd ((0 : Int) ≤ y2 ∧ (0 : Int) < 3 ∨ (-2147483648 : Int) < y2 ∧ (0 : Int) < 3) (gd (0 < zrecv 189) (gd (false = zspc 189 ∧ zcs [] ≤ 8 ∧ zrm 215 (zrf 189 + 1) (8 + (zmaxl 189 + 11) + zrl 189) = true ∧ zcs [zR (some y0), zI (zi2c (zwadd y1 (Int.tmod y2 3)))] ≤ zmaxl 189) (gd (zob h (some y0) 12) (zBack zY 215 261 264 [some (zR (some a0)), some (zR (some a1)), some (zR (some a2)), some (zI x3), some (zI x4), some (zI x5), none] [] (zC 189 [zR (some y0), zI (zi2c (zwadd y1 (Int.tmod y2 3)))] h)))))) from zGo 5 215 257 _ _ _).trans ?_
  refine (gd_t (by decide) _).trans ?_
  refine gd_c (Iff.rfl) (fun _ => ?_)
  refine (gd_t (by decide) _).trans ?_
  refine (gd_t (⟨rfl, Nat.le_of_ble_eq_true rfl, rfl, Nat.le_of_ble_eq_true rfl⟩) _).trans ?_
  refine (gd_t (⟨rfl, ty0, ny0⟩) _).trans ?_
  rfl
theorem q_L_proof_128 {h : zH} {a0 : Nat} {a1 : Nat} {a2 : Nat} {x3 : Int} {x4 : Int} {x5 : Int} {x6 : Int} {y0 : Nat}  : zY 215 128 [some (zR (some a0)), some (zR (some a1)), some (zR (some a2)), some (zI x3), some (zI x4), some (zI x5), some (zI x6)] [zR (some y0)] h =
    zBack zY 215 133 136 [some (zR (some a0)), some (zR (some a1)), some (zR (some a2)), some (zI x3), some (zI x4), some (zI x5), some (zI x6)] [] (zC 216 [zR (some a1), zI 1, zI 1, zR (some a0)] h) := by
  refine (show zY 215 128 [some (zR (some a0)), some (zR (some a1)), some (zR (some a2)), some (zI x3), some (zI x4), some (zI x5), some (zI x6)] [zR (some y0)] h = gd (inR (1)) (gd (inR (1)) (gd (zrecv 216 = 0) (gd (false = zspc 216 ∧ zcs [] ≤ 8 ∧ zrm 215 (zrf 216 + 1) (8 + (zmaxl 216 + 11) + zrl 216) = true ∧ zcs [zR (some a1), zI 1, zI 1, zR (some a0)] ≤ zmaxl 216) (zBack zY 215 133 136 [some (zR (some a0)), some (zR (some a1)), some (zR (some a2)), some (zI x3), some (zI x4), some (zI x5), some (zI x6)] [] (zC 216 [zR (some a1), zI 1, zI 1, zR (some a0)] h))))) from zGo 6 215 128 _ _ _).trans ?_
  refine (gd_t (by decide) _).trans ?_
  refine (gd_t (by decide) _).trans ?_
  refine (gd_t (rfl) _).trans ?_
  refine (gd_t (⟨rfl, Nat.le_of_ble_eq_true rfl, rfl, Nat.le_of_ble_eq_true rfl⟩) _).trans ?_
  rfl
theorem q_L_proof_224 {h : zH} {a0 : Nat} {a1 : Nat} {a2 : Nat} {x3 : Int} {x4 : Int} {x5 : Int} {y0 : Nat} (ta2 : hT h a2 = 22) (na2 : a2 < hN h) : zY 215 224 [some (zR (some a0)), some (zR (some a1)), some (zR (some a2)), some (zI x3), some (zI x4), some (zI x5), none] [zR (some y0)] h =
    gd ((0 : Int) ≤ x3 ∧ x3 < (hL h a2 : Int)) (gd (inR (x4 + (-1))) (zY 215 41 [some (zR (some a0)), some (zR (some a1)), some (zR (some a2)), some (zI x3), some (zI (x4 + (-1))), some (zI x5), none] [] (sI h a2 x3.toNat 3))) := by
  refine (show zY 215 224 [some (zR (some a0)), some (zR (some a1)), some (zR (some a2)), some (zI x3), some (zI x4), some (zI x5), none] [zR (some y0)] h = gd (inR (3)) (gd (zokw h (some a2) 22 x3) (gd (inR (x4 + (-1))) (gd (inR (-1)) (zY 215 41 [some (zR (some a0)), some (zR (some a1)), some (zR (some a2)), some (zI x3), some (zI (x4 + (-1))), some (zI x5), none] [] (sI h a2 x3.toNat 3))))) from zGo 8 215 224 _ _ _).trans ?_
  refine (gd_t (by decide) _).trans ?_
  refine gd_c (ciw ta2 na2 rfl) (fun _ => ?_)
  refine gd_c (Iff.rfl) (fun _ => ?_)
  refine (gd_t (by decide) _).trans ?_
  rfl
theorem q_L_proof_238 {h : zH} {a0 : Nat} {a1 : Nat} {a2 : Nat} {x3 : Int} {x4 : Int} {x5 : Int} {y0 : Nat}  : zY 215 238 [some (zR (some a0)), some (zR (some a1)), some (zR (some a2)), some (zI x3), some (zI x4), some (zI x5), none] [zR (some y0)] h =
    gd (inR (x3 + (-1))) (gd (inR (x4 + (-1))) (zY 215 41 [some (zR (some a0)), some (zR (some a1)), some (zR (some a2)), some (zI (x3 + (-1))), some (zI (x4 + (-1))), some (zI x5), none] [] h)) := by
  refine (show zY 215 238 [some (zR (some a0)), some (zR (some a1)), some (zR (some a2)), some (zI x3), some (zI x4), some (zI x5), none] [zR (some y0)] h = gd (inR (x3 + (-1))) (gd (inR (-1)) (gd (inR (x4 + (-1))) (gd (inR (-1)) (zY 215 41 [some (zR (some a0)), some (zR (some a1)), some (zR (some a2)), some (zI (x3 + (-1))), some (zI (x4 + (-1))), some (zI x5), none] [] h)))) from zGo 5 215 238 _ _ _).trans ?_
  refine gd_c (Iff.rfl) (fun _ => ?_)
  refine (gd_t (by decide) _).trans ?_
  refine gd_c (Iff.rfl) (fun _ => ?_)
  refine (gd_t (by decide) _).trans ?_
  rfl
theorem q_L_proof_264 {h : zH} {a0 : Nat} {a1 : Nat} {a2 : Nat} {x3 : Int} {x4 : Int} {x5 : Int} {y0 : Nat}  : zY 215 264 [some (zR (some a0)), some (zR (some a1)), some (zR (some a2)), some (zI x3), some (zI x4), some (zI x5), none] [zR (some y0)] h =
    zBack zY 215 269 272 [some (zR (some a0)), some (zR (some a1)), some (zR (some a2)), some (zI x3), some (zI x4), some (zI x5), none] [] (zC 216 [zR (some a1), zI 0, zI 2, zR (some a0)] h) := by
  refine (show zY 215 264 [some (zR (some a0)), some (zR (some a1)), some (zR (some a2)), some (zI x3), some (zI x4), some (zI x5), none] [zR (some y0)] h = gd (inR (0)) (gd (inR (2)) (gd (zrecv 216 = 0) (gd (false = zspc 216 ∧ zcs [] ≤ 8 ∧ zrm 215 (zrf 216 + 1) (8 + (zmaxl 216 + 11) + zrl 216) = true ∧ zcs [zR (some a1), zI 0, zI 2, zR (some a0)] ≤ zmaxl 216) (zBack zY 215 269 272 [some (zR (some a0)), some (zR (some a1)), some (zR (some a2)), some (zI x3), some (zI x4), some (zI x5), none] [] (zC 216 [zR (some a1), zI 0, zI 2, zR (some a0)] h))))) from zGo 6 215 264 _ _ _).trans ?_
  refine (gd_t (by decide) _).trans ?_
  refine (gd_t (by decide) _).trans ?_
  refine (gd_t (rfl) _).trans ?_
  refine (gd_t (⟨rfl, Nat.le_of_ble_eq_true rfl, rfl, Nat.le_of_ble_eq_true rfl⟩) _).trans ?_
  rfl
theorem q_L_proof_136 {h : zH} {a0 : Nat} {a1 : Nat} {a2 : Nat} {x3 : Int} {x4 : Int} {x5 : Int} {x6 : Int} (ta1 : hT h a1 = 12) (na1 : a1 < hN h) : zY 215 136 [some (zR (some a0)), some (zR (some a1)), some (zR (some a2)), some (zI x3), some (zI x4), some (zI x5), some (zI x6)] [] h =
    zBack zY 215 139 142 [some (zR (some a0)), some (zR (some a1)), some (zR (some a2)), some (zI x3), some (zI x4), some (zI x5), some (zI x6)] [] (zC 180 [zR (some a1), zR (some (zVB + 46))] h) := by
  refine (show zY 215 136 [some (zR (some a0)), some (zR (some a1)), some (zR (some a2)), some (zI x3), some (zI x4), some (zI x5), some (zI x6)] [] h = gd (0 < zrecv 180) (gd (false = zspc 180 ∧ zcs [] ≤ 8 ∧ zrm 215 (zrf 180 + 1) (8 + (zmaxl 180 + 11) + zrl 180) = true ∧ zcs [zR (some a1), zR (some (zVB + 46))] ≤ zmaxl 180) (gd (zob h (some a1) 12) (zBack zY 215 139 142 [some (zR (some a0)), some (zR (some a1)), some (zR (some a2)), some (zI x3), some (zI x4), some (zI x5), some (zI x6)] [] (zC 180 [zR (some a1), zR (some (zVB + 46))] h)))) from zGo 3 215 136 _ _ _).trans ?_
  refine (gd_t (by decide) _).trans ?_
  refine (gd_t (⟨rfl, Nat.le_of_ble_eq_true rfl, rfl, Nat.le_of_ble_eq_true rfl⟩) _).trans ?_
  refine (gd_t (⟨rfl, ta1, na1⟩) _).trans ?_
  rfl
theorem q_L_proof_272 {h : zH} {a0 : Nat} {a1 : Nat} {a2 : Nat} {x3 : Int} {x4 : Int} {x5 : Int}  : zY 215 272 [some (zR (some a0)), some (zR (some a1)), some (zR (some a2)), some (zI x3), some (zI x4), some (zI x5), none] [] h =
    gd (inR (x4 + (-1))) (zY 215 41 [some (zR (some a0)), some (zR (some a1)), some (zR (some a2)), some (zI x3), some (zI (x4 + (-1))), some (zI x5), none] [] h) := by
  refine (show zY 215 272 [some (zR (some a0)), some (zR (some a1)), some (zR (some a2)), some (zI x3), some (zI x4), some (zI x5), none] [] h = gd (inR (x4 + (-1))) (gd (inR (-1)) (zY 215 41 [some (zR (some a0)), some (zR (some a1)), some (zR (some a2)), some (zI x3), some (zI (x4 + (-1))), some (zI x5), none] [] h)) from zGo 2 215 272 _ _ _).trans ?_
  refine gd_c (Iff.rfl) (fun _ => ?_)
  refine (gd_t (by decide) _).trans ?_
  rfl
theorem q_L_proof_142 {h : zH} {a0 : Nat} {a1 : Nat} {a2 : Nat} {x3 : Int} {x4 : Int} {x5 : Int} {x6 : Int} {y0 : Nat} (ty0 : hT h y0 = 12) (ny0 : y0 < hN h) : zY 215 142 [some (zR (some a0)), some (zR (some a1)), some (zR (some a2)), some (zI x3), some (zI x4), some (zI x5), some (zI x6)] [zR (some y0)] h =
    zBack zY 215 144 147 [some (zR (some a0)), some (zR (some a1)), some (zR (some a2)), some (zI x3), some (zI x4), some (zI x5), some (zI x6)] [] (zC 189 [zR (some y0), zI x6] h) := by
  refine (show zY 215 142 [some (zR (some a0)), some (zR (some a1)), some (zR (some a2)), some (zI x3), some (zI x4), some (zI x5), some (zI x6)] [zR (some y0)] h = gd (0 < zrecv 189) (gd (false = zspc 189 ∧ zcs [] ≤ 8 ∧ zrm 215 (zrf 189 + 1) (8 + (zmaxl 189 + 11) + zrl 189) = true ∧ zcs [zR (some y0), zI x6] ≤ zmaxl 189) (gd (zob h (some y0) 12) (zBack zY 215 144 147 [some (zR (some a0)), some (zR (some a1)), some (zR (some a2)), some (zI x3), some (zI x4), some (zI x5), some (zI x6)] [] (zC 189 [zR (some y0), zI x6] h)))) from zGo 2 215 142 _ _ _).trans ?_
  refine (gd_t (by decide) _).trans ?_
  refine (gd_t (⟨rfl, Nat.le_of_ble_eq_true rfl, rfl, Nat.le_of_ble_eq_true rfl⟩) _).trans ?_
  refine (gd_t (⟨rfl, ty0, ny0⟩) _).trans ?_
  rfl
theorem q_L_proof_147 {h : zH} {a0 : Nat} {a1 : Nat} {a2 : Nat} {x3 : Int} {x4 : Int} {x5 : Int} {x6 : Int} {y0 : Nat} (ta2 : hT h a2 = 22) (na2 : a2 < hN h) (ta1 : hT h a1 = 12) (na1 : a1 < hN h) : zY 215 147 [some (zR (some a0)), some (zR (some a1)), some (zR (some a2)), some (zI x3), some (zI x4), some (zI x5), some (zI x6)] [zR (some y0)] h =
    gd (inR (x3 + 1)) (gd ((0 : Int) ≤ (x3 + 1) ∧ (x3 + 1) < (hL h a2 : Int)) (zBack zY 215 158 161 [some (zR (some a0)), some (zR (some a1)), some (zR (some a2)), some (zI (x3 + 1)), some (zI x4), some (zI x5), some (zI x6)] [] (zC 180 [zR (some a1), zR (some (zVB + 47))] (sI h a2 (x3 + 1).toNat 2)))) := by
  refine (show zY 215 147 [some (zR (some a0)), some (zR (some a1)), some (zR (some a2)), some (zI x3), some (zI x4), some (zI x5), some (zI x6)] [zR (some y0)] h = gd (inR (x3 + 1)) (gd (inR (1)) (gd (inR (2)) (gd (zokw h (some a2) 22 (x3 + 1)) (gd (0 < zrecv 180) (gd (false = zspc 180 ∧ zcs [] ≤ 8 ∧ zrm 215 (zrf 180 + 1) (8 + (zmaxl 180 + 11) + zrl 180) = true ∧ zcs [zR (some a1), zR (some (zVB + 47))] ≤ zmaxl 180) (gd (zob (sI h a2 (x3 + 1).toNat 2) (some a1) 12) (zBack zY 215 158 161 [some (zR (some a0)), some (zR (some a1)), some (zR (some a2)), some (zI (x3 + 1)), some (zI x4), some (zI x5), some (zI x6)] [] (zC 180 [zR (some a1), zR (some (zVB + 47))] (sI h a2 (x3 + 1).toNat 2))))))))) from zGo 9 215 147 _ _ _).trans ?_
  refine gd_c (Iff.rfl) (fun _ => ?_)
  refine (gd_t (by decide) _).trans ?_
  refine (gd_t (by decide) _).trans ?_
  refine gd_c (ciw ta2 na2 rfl) (fun _ => ?_)
  refine (gd_t (by decide) _).trans ?_
  refine (gd_t (⟨rfl, Nat.le_of_ble_eq_true rfl, rfl, Nat.le_of_ble_eq_true rfl⟩) _).trans ?_
  refine (gd_t (⟨rfl, ta1, na1⟩) _).trans ?_
  rfl
theorem q_L_proof_161 {h : zH} {a0 : Nat} {a1 : Nat} {a2 : Nat} {x3 : Int} {x4 : Int} {x5 : Int} {x6 : Int} {y0 : Nat} (ty0 : hT h y0 = 12) (ny0 : y0 < hN h) : zY 215 161 [some (zR (some a0)), some (zR (some a1)), some (zR (some a2)), some (zI x3), some (zI x4), some (zI x5), some (zI x6)] [zR (some y0)] h =
    zBack zY 215 163 166 [some (zR (some a0)), some (zR (some a1)), some (zR (some a2)), some (zI x3), some (zI x4), some (zI x5), some (zI x6)] [] (zC 189 [zR (some y0), zI x6] h) := by
  refine (show zY 215 161 [some (zR (some a0)), some (zR (some a1)), some (zR (some a2)), some (zI x3), some (zI x4), some (zI x5), some (zI x6)] [zR (some y0)] h = gd (0 < zrecv 189) (gd (false = zspc 189 ∧ zcs [] ≤ 8 ∧ zrm 215 (zrf 189 + 1) (8 + (zmaxl 189 + 11) + zrl 189) = true ∧ zcs [zR (some y0), zI x6] ≤ zmaxl 189) (gd (zob h (some y0) 12) (zBack zY 215 163 166 [some (zR (some a0)), some (zR (some a1)), some (zR (some a2)), some (zI x3), some (zI x4), some (zI x5), some (zI x6)] [] (zC 189 [zR (some y0), zI x6] h)))) from zGo 2 215 161 _ _ _).trans ?_
  refine (gd_t (by decide) _).trans ?_
  refine (gd_t (⟨rfl, Nat.le_of_ble_eq_true rfl, rfl, Nat.le_of_ble_eq_true rfl⟩) _).trans ?_
  refine (gd_t (⟨rfl, ty0, ny0⟩) _).trans ?_
  rfl
theorem q_L_proof_166 {h : zH} {a0 : Nat} {a1 : Nat} {a2 : Nat} {x3 : Int} {x4 : Int} {x5 : Int} {x6 : Int} {y0 : Nat} (ty0 : hT h y0 = 12) (ny0 : y0 < hN h) : zY 215 166 [some (zR (some a0)), some (zR (some a1)), some (zR (some a2)), some (zI x3), some (zI x4), some (zI x5), some (zI x6)] [zR (some y0)] h =
    zBack zY 215 168 171 [some (zR (some a0)), some (zR (some a1)), some (zR (some a2)), some (zI x3), some (zI x4), some (zI x5), some (zI x6)] [] (zC 180 [zR (some y0), zR (some (zVB + 48))] h) := by
  refine (show zY 215 166 [some (zR (some a0)), some (zR (some a1)), some (zR (some a2)), some (zI x3), some (zI x4), some (zI x5), some (zI x6)] [zR (some y0)] h = gd (0 < zrecv 180) (gd (false = zspc 180 ∧ zcs [] ≤ 8 ∧ zrm 215 (zrf 180 + 1) (8 + (zmaxl 180 + 11) + zrl 180) = true ∧ zcs [zR (some y0), zR (some (zVB + 48))] ≤ zmaxl 180) (gd (zob h (some y0) 12) (zBack zY 215 168 171 [some (zR (some a0)), some (zR (some a1)), some (zR (some a2)), some (zI x3), some (zI x4), some (zI x5), some (zI x6)] [] (zC 180 [zR (some y0), zR (some (zVB + 48))] h)))) from zGo 2 215 166 _ _ _).trans ?_
  refine (gd_t (by decide) _).trans ?_
  refine (gd_t (⟨rfl, Nat.le_of_ble_eq_true rfl, rfl, Nat.le_of_ble_eq_true rfl⟩) _).trans ?_
  refine (gd_t (⟨rfl, ty0, ny0⟩) _).trans ?_
  rfl
theorem q_L_proof_171 {h : zH} {a0 : Nat} {a1 : Nat} {a2 : Nat} {x3 : Int} {x4 : Int} {x5 : Int} {x6 : Int} {y0 : Nat} (ty0 : hT h y0 = 12) (ny0 : y0 < hN h) : zY 215 171 [some (zR (some a0)), some (zR (some a1)), some (zR (some a2)), some (zI x3), some (zI x4), some (zI x5), some (zI x6)] [zR (some y0)] h =
    zBack zY 215 173 176 [some (zR (some a0)), some (zR (some a1)), some (zR (some a2)), some (zI x3), some (zI x4), some (zI x5), some (zI x6)] [] (zC 189 [zR (some y0), zI x6] h) := by
  refine (show zY 215 171 [some (zR (some a0)), some (zR (some a1)), some (zR (some a2)), some (zI x3), some (zI x4), some (zI x5), some (zI x6)] [zR (some y0)] h = gd (0 < zrecv 189) (gd (false = zspc 189 ∧ zcs [] ≤ 8 ∧ zrm 215 (zrf 189 + 1) (8 + (zmaxl 189 + 11) + zrl 189) = true ∧ zcs [zR (some y0), zI x6] ≤ zmaxl 189) (gd (zob h (some y0) 12) (zBack zY 215 173 176 [some (zR (some a0)), some (zR (some a1)), some (zR (some a2)), some (zI x3), some (zI x4), some (zI x5), some (zI x6)] [] (zC 189 [zR (some y0), zI x6] h)))) from zGo 2 215 171 _ _ _).trans ?_
  refine (gd_t (by decide) _).trans ?_
  refine (gd_t (⟨rfl, Nat.le_of_ble_eq_true rfl, rfl, Nat.le_of_ble_eq_true rfl⟩) _).trans ?_
  refine (gd_t (⟨rfl, ty0, ny0⟩) _).trans ?_
  rfl
theorem q_L_proof_176 {h : zH} {a0 : Nat} {a1 : Nat} {a2 : Nat} {x3 : Int} {x4 : Int} {x5 : Int} {x6 : Int} {y0 : Nat} (ty0 : hT h y0 = 12) (ny0 : y0 < hN h) : zY 215 176 [some (zR (some a0)), some (zR (some a1)), some (zR (some a2)), some (zI x3), some (zI x4), some (zI x5), some (zI x6)] [zR (some y0)] h =
    zBack zY 215 178 181 [some (zR (some a0)), some (zR (some a1)), some (zR (some a2)), some (zI x3), some (zI x4), some (zI x5), some (zI x6)] [] (zC 180 [zR (some y0), zR (some (zVB + 49))] h) := by
  refine (show zY 215 176 [some (zR (some a0)), some (zR (some a1)), some (zR (some a2)), some (zI x3), some (zI x4), some (zI x5), some (zI x6)] [zR (some y0)] h = gd (0 < zrecv 180) (gd (false = zspc 180 ∧ zcs [] ≤ 8 ∧ zrm 215 (zrf 180 + 1) (8 + (zmaxl 180 + 11) + zrl 180) = true ∧ zcs [zR (some y0), zR (some (zVB + 49))] ≤ zmaxl 180) (gd (zob h (some y0) 12) (zBack zY 215 178 181 [some (zR (some a0)), some (zR (some a1)), some (zR (some a2)), some (zI x3), some (zI x4), some (zI x5), some (zI x6)] [] (zC 180 [zR (some y0), zR (some (zVB + 49))] h)))) from zGo 2 215 176 _ _ _).trans ?_
  refine (gd_t (by decide) _).trans ?_
  refine (gd_t (⟨rfl, Nat.le_of_ble_eq_true rfl, rfl, Nat.le_of_ble_eq_true rfl⟩) _).trans ?_
  refine (gd_t (⟨rfl, ty0, ny0⟩) _).trans ?_
  rfl
theorem q_L_proof_181 {h : zH} {a0 : Nat} {a1 : Nat} {a2 : Nat} {x3 : Int} {x4 : Int} {x5 : Int} {x6 : Int} {y0 : Nat}  : zY 215 181 [some (zR (some a0)), some (zR (some a1)), some (zR (some a2)), some (zI x3), some (zI x4), some (zI x5), some (zI x6)] [zR (some y0)] h =
    gd (inR (x4 + (-1))) (zY 215 41 [some (zR (some a0)), some (zR (some a1)), some (zR (some a2)), some (zI x3), some (zI (x4 + (-1))), some (zI x5), some (zI x6)] [] h) := by
  refine (show zY 215 181 [some (zR (some a0)), some (zR (some a1)), some (zR (some a2)), some (zI x3), some (zI x4), some (zI x5), some (zI x6)] [zR (some y0)] h = gd (inR (x4 + (-1))) (gd (inR (-1)) (zY 215 41 [some (zR (some a0)), some (zR (some a1)), some (zR (some a2)), some (zI x3), some (zI (x4 + (-1))), some (zI x5), some (zI x6)] [] h)) from zGo 4 215 181 _ _ _).trans ?_
  refine gd_c (Iff.rfl) (fun _ => ?_)
  refine (gd_t (by decide) _).trans ?_
  rfl
