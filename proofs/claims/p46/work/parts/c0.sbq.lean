/-! Java's builder and texts: pieces. -/
/-- the row r, copied with the length n -/
def hCpy (h : zH) (r n : Nat) : zH := (hN (hNew h 21 n), hU (hNew h 21 n), hT (hNew h 21 n), hL (hNew h 21 n), hR (hNew h 21 n), zu1 (hI h) (hN h) (fun j => if j < hL h r ∧ j < n then hI h r j else 0), hJ (hNew h 21 n), hF (hNew h 21 n), hD (hNew h 21 n))
/-- the row r, copied -/
def hCl (h : zH) (r : Nat) : zH := (hN (hNew h 21 (hL h r)), hU (hNew h 21 (hL h r)), hT (hNew h 21 (hL h r)), hL (hNew h 21 (hL h r)), hR (hNew h 21 (hL h r)), zu1 (hI h) (hN h) (hI h r), hJ (hNew h 21 (hL h r)), hF (hNew h 21 (hL h r)), hD (hNew h 21 (hL h r)))
theorem q_Sb_init_Stri {h : zH} {a0 : Nat} {a1 : Nat} (ta0 : hT h a0 = 12) (na0 : a0 < hN h) : zC 80 [zR (some a0), zR (some a1)] h =
    zBack zY 80 2 5 [some (zR (some a0)), some (zR (some a1))] [] (zC 237 [zR (some a0), zR (some a1)] h) := by
  refine (show zC 80 [zR (some a0), zR (some a1)] h = gd (237 < 900 ∨ 237 = 901) (gd (true = zspc 237 ∧ zcs [] ≤ 8 ∧ zrm 80 (zrf 237 + 1) (8 + (zmaxl 237 + 11) + zrl 237) = true ∧ zcs [zR (some a0), zR (some a1)] ≤ zmaxl 237) (gd (zob h (some a0) 12) (zBack zY 80 2 5 [some (zR (some a0)), some (zR (some a1))] [] (zC 237 [zR (some a0), zR (some a1)] h)))) from zGo 3 80 0 _ _ _).trans ?_
  refine (gd_t (by decide) _).trans ?_
  refine (gd_t (⟨rfl, Nat.le_of_ble_eq_true rfl, rfl, Nat.le_of_ble_eq_true rfl⟩) _).trans ?_
  refine (gd_t (⟨rfl, ta0, na0⟩) _).trans ?_
  rfl
theorem q_Sb_init_Stri_5 {h : zH} {a0 : Nat} {a1 : Nat}  : zY 80 5 [some (zR (some a0)), some (zR (some a1))] [] h =
    some (.inl (none), h) := by
  refine (show zY 80 5 [some (zR (some a0)), some (zR (some a1))] [] h = gd (([] : List zV).isEmpty = true ∧ zrk 80 = 0) (some (.inl (none), h)) from zGo 1 80 5 _ _ _).trans ?_
  refine (gd_t (⟨rfl, rfl⟩) _).trans ?_
  rfl
theorem q_Sb_append_StriB {h : zH} {a0 : Nat} {a1 : Nat} (ta0 : hT h a0 = 12) (na0 : a0 < hN h) : zC 148 [zR (some a0), zR (some a1)] h =
    zBack zY 148 2 5 [some (zR (some a0)), some (zR (some a1))] [] (zC 180 [zR (some a0), zR (some a1)] h) := by
  refine (show zC 148 [zR (some a0), zR (some a1)] h = gd (0 < zrecv 180) (gd (false = zspc 180 ∧ zcs [] ≤ 8 ∧ zrm 148 (zrf 180 + 1) (8 + (zmaxl 180 + 11) + zrl 180) = true ∧ zcs [zR (some a0), zR (some a1)] ≤ zmaxl 180) (gd (zob h (some a0) 12) (zBack zY 148 2 5 [some (zR (some a0)), some (zR (some a1))] [] (zC 180 [zR (some a0), zR (some a1)] h)))) from zGo 3 148 0 _ _ _).trans ?_
  refine (gd_t (by decide) _).trans ?_
  refine (gd_t (⟨rfl, Nat.le_of_ble_eq_true rfl, rfl, Nat.le_of_ble_eq_true rfl⟩) _).trans ?_
  refine (gd_t (⟨rfl, ta0, na0⟩) _).trans ?_
  rfl
theorem q_Sb_append_StriB_5 {h : zH} {a0 : Nat} {a1 : Nat} {y0 : Nat}  : zY 148 5 [some (zR (some a0)), some (zR (some a1))] [zR (some y0)] h =
    some (.inl (some (zR (some y0))), h) := by
  refine (show zY 148 5 [some (zR (some a0)), some (zR (some a1))] [zR (some y0)] h = gd (([] : List zV).isEmpty = true ∧ zrk 148 = 5) (some (.inl (some (zR (some y0))), h)) from zGo 1 148 5 _ _ _).trans ?_
  refine (gd_t (⟨rfl, rfl⟩) _).trans ?_
  rfl
theorem q_Sb_append_Stri {h : zH} {a0 : Nat} {a1 : Nat} (ta0 : hT h a0 = 12) (na0 : a0 < hN h) : zC 180 [zR (some a0), zR (some a1)] h =
    zBack zY 180 2 5 [some (zR (some a0)), some (zR (some a1))] [] (zC 238 [zR (some a0), zR (some a1)] h) := by
  refine (show zC 180 [zR (some a0), zR (some a1)] h = gd (238 < 900 ∨ 238 = 901) (gd (true = zspc 238 ∧ zcs [] ≤ 8 ∧ zrm 180 (zrf 238 + 1) (8 + (zmaxl 238 + 11) + zrl 238) = true ∧ zcs [zR (some a0), zR (some a1)] ≤ zmaxl 238) (gd (zob h (some a0) 12) (zBack zY 180 2 5 [some (zR (some a0)), some (zR (some a1))] [] (zC 238 [zR (some a0), zR (some a1)] h)))) from zGo 3 180 0 _ _ _).trans ?_
  refine (gd_t (by decide) _).trans ?_
  refine (gd_t (⟨rfl, Nat.le_of_ble_eq_true rfl, rfl, Nat.le_of_ble_eq_true rfl⟩) _).trans ?_
  refine (gd_t (⟨rfl, ta0, na0⟩) _).trans ?_
  rfl
theorem q_Sb_append_Stri_5 {h : zH} {a0 : Nat} {a1 : Nat} {y0 : Nat}  : zY 180 5 [some (zR (some a0)), some (zR (some a1))] [zR (some y0)] h =
    some (.inl (some (zR (some a0))), h) := by
  refine (show zY 180 5 [some (zR (some a0)), some (zR (some a1))] [zR (some y0)] h = gd (([] : List zV).isEmpty = true ∧ zrk 180 = 5) (some (.inl (some (zR (some a0))), h)) from zGo 3 180 5 _ _ _).trans ?_
  refine (gd_t (⟨rfl, rfl⟩) _).trans ?_
  rfl
theorem q_Sb_append_C {h : zH} {a0 : Nat} {x1 : Int} (ta0 : hT h a0 = 12) (na0 : a0 < hN h) : zC 189 [zR (some a0), zI x1] h =
    zBack zY 189 2 5 [some (zR (some a0)), some (zI x1)] [] (zC 244 [zR (some a0), zI x1] h) := by
  refine (show zC 189 [zR (some a0), zI x1] h = gd (244 < 900 ∨ 244 = 901) (gd (true = zspc 244 ∧ zcs [] ≤ 8 ∧ zrm 189 (zrf 244 + 1) (8 + (zmaxl 244 + 11) + zrl 244) = true ∧ zcs [zR (some a0), zI x1] ≤ zmaxl 244) (gd (zob h (some a0) 12) (zBack zY 189 2 5 [some (zR (some a0)), some (zI x1)] [] (zC 244 [zR (some a0), zI x1] h)))) from zGo 3 189 0 _ _ _).trans ?_
  refine (gd_t (by decide) _).trans ?_
  refine (gd_t (⟨rfl, Nat.le_of_ble_eq_true rfl, rfl, Nat.le_of_ble_eq_true rfl⟩) _).trans ?_
  refine (gd_t (⟨rfl, ta0, na0⟩) _).trans ?_
  rfl
theorem q_Sb_append_C_5 {h : zH} {a0 : Nat} {x1 : Int} {y0 : Nat}  : zY 189 5 [some (zR (some a0)), some (zI x1)] [zR (some y0)] h =
    some (.inl (some (zR (some a0))), h) := by
  refine (show zY 189 5 [some (zR (some a0)), some (zI x1)] [zR (some y0)] h = gd (([] : List zV).isEmpty = true ∧ zrk 189 = 5) (some (.inl (some (zR (some a0))), h)) from zGo 3 189 5 _ _ _).trans ?_
  refine (gd_t (⟨rfl, rfl⟩) _).trans ?_
  rfl
theorem q_Sb_append_I {h : zH} {a0 : Nat} {x1 : Int} (ta0 : hT h a0 = 12) (na0 : a0 < hN h) : zC 203 [zR (some a0), zI x1] h =
    zBack zY 203 2 5 [some (zR (some a0)), some (zI x1)] [] (zC 245 [zR (some a0), zI x1] h) := by
  refine (show zC 203 [zR (some a0), zI x1] h = gd (245 < 900 ∨ 245 = 901) (gd (true = zspc 245 ∧ zcs [] ≤ 8 ∧ zrm 203 (zrf 245 + 1) (8 + (zmaxl 245 + 11) + zrl 245) = true ∧ zcs [zR (some a0), zI x1] ≤ zmaxl 245) (gd (zob h (some a0) 12) (zBack zY 203 2 5 [some (zR (some a0)), some (zI x1)] [] (zC 245 [zR (some a0), zI x1] h)))) from zGo 3 203 0 _ _ _).trans ?_
  refine (gd_t (by decide) _).trans ?_
  refine (gd_t (⟨rfl, Nat.le_of_ble_eq_true rfl, rfl, Nat.le_of_ble_eq_true rfl⟩) _).trans ?_
  refine (gd_t (⟨rfl, ta0, na0⟩) _).trans ?_
  rfl
theorem q_Sb_append_I_5 {h : zH} {a0 : Nat} {x1 : Int} {y0 : Nat}  : zY 203 5 [some (zR (some a0)), some (zI x1)] [zR (some y0)] h =
    some (.inl (some (zR (some a0))), h) := by
  refine (show zY 203 5 [some (zR (some a0)), some (zI x1)] [zR (some y0)] h = gd (([] : List zV).isEmpty = true ∧ zrk 203 = 5) (some (.inl (some (zR (some a0))), h)) from zGo 3 203 5 _ _ _).trans ?_
  refine (gd_t (⟨rfl, rfl⟩) _).trans ?_
  rfl
theorem q_Sb_toString {h : zH} {a0 : Nat}  : zC 204 [zR (some a0)] h =
    zBack zY 204 5 8 [some (zR (some a0))] [zR (some (hN h))] (zC 253 [zR (some (hN h)), zR (some a0)] (hNew h 13 4)) := by
  refine (show zC 204 [zR (some a0)] h = gd (253 < 900 ∨ 253 = 901) (gd (true = zspc 253 ∧ zcs [zR (some (hN h))] ≤ 8 ∧ zrm 204 (zrf 253 + 1) (8 + (zmaxl 253 + 11) + zrl 253) = true ∧ zcs [zR (some (hN h)), zR (some a0)] ≤ zmaxl 253) (gd (zob (hNew h 13 4) (some (hN h)) 13) (zBack zY 204 5 8 [some (zR (some a0))] [zR (some (hN h))] (zC 253 [zR (some (hN h)), zR (some a0)] (hNew h 13 4))))) from zGo 4 204 0 _ _ _).trans ?_
  refine (gd_t (by decide) _).trans ?_
  refine (gd_t (⟨rfl, Nat.le_of_ble_eq_true rfl, rfl, Nat.le_of_ble_eq_true rfl⟩) _).trans ?_
  refine (gd_t (⟨rfl, if_pos rfl, Nat.lt_succ_self _⟩) _).trans ?_
  rfl
theorem q_Sb_toString_8 {h : zH} {a0 : Nat} {y0 : Nat}  : zY 204 8 [some (zR (some a0))] [zR (some y0)] h =
    some (.inl (some (zR (some y0))), h) := by
  refine (show zY 204 8 [some (zR (some a0))] [zR (some y0)] h = gd (([] : List zV).isEmpty = true ∧ zrk 204 = 5) (some (.inl (some (zR (some y0))), h)) from zGo 1 204 8 _ _ _).trans ?_
  refine (gd_t (⟨rfl, rfl⟩) _).trans ?_
  rfl
theorem q_Sb_length {h : zH} {a0 : Nat} (ta0 : hT h a0 = 12) (na0 : a0 < hN h) : zC 205 [zR (some a0)] h =
    zBack zY 205 1 4 [some (zR (some a0))] [] (zC 247 [zR (some a0)] h) := by
  refine (show zC 205 [zR (some a0)] h = gd (247 < 900 ∨ 247 = 901) (gd (true = zspc 247 ∧ zcs [] ≤ 8 ∧ zrm 205 (zrf 247 + 1) (8 + (zmaxl 247 + 11) + zrl 247) = true ∧ zcs [zR (some a0)] ≤ zmaxl 247) (gd (zob h (some a0) 12) (zBack zY 205 1 4 [some (zR (some a0))] [] (zC 247 [zR (some a0)] h)))) from zGo 2 205 0 _ _ _).trans ?_
  refine (gd_t (by decide) _).trans ?_
  refine (gd_t (⟨rfl, Nat.le_of_ble_eq_true rfl, rfl, Nat.le_of_ble_eq_true rfl⟩) _).trans ?_
  refine (gd_t (⟨rfl, ta0, na0⟩) _).trans ?_
  rfl
theorem q_Sb_length_4 {h : zH} {a0 : Nat} {y0 : Int}  : zY 205 4 [some (zR (some a0))] [zI y0] h =
    some (.inl (some (zI y0)), h) := by
  refine (show zY 205 4 [some (zR (some a0))] [zI y0] h = gd (([] : List zV).isEmpty = true ∧ (zrk 205 = 1 ∨ zrk 205 = 6 ∧ ((y0 : Int) = 0 ∨ (y0 : Int) = 1))) (some (.inl (some (zI y0)), h)) from zGo 1 205 4 _ _ _).trans ?_
  refine (gd_t (⟨rfl, Or.inl rfl⟩) _).trans ?_
  rfl
theorem q_Sb_init_ {h : zH} {a0 : Nat} (ta0 : hT h a0 = 12) (na0 : a0 < hN h) : zC 206 [zR (some a0)] h =
    zBack zY 206 3 6 [some (zR (some a0))] [] (zC 248 [zR (some a0), zI 16] h) := by
  refine (show zC 206 [zR (some a0)] h = gd (-128 ≤ (16 : Int) ∧ (16 : Int) < 128) (gd (248 < 900 ∨ 248 = 901) (gd (true = zspc 248 ∧ zcs [] ≤ 8 ∧ zrm 206 (zrf 248 + 1) (8 + (zmaxl 248 + 11) + zrl 248) = true ∧ zcs [zR (some a0), zI 16] ≤ zmaxl 248) (gd (zob h (some a0) 12) (zBack zY 206 3 6 [some (zR (some a0))] [] (zC 248 [zR (some a0), zI 16] h))))) from zGo 3 206 0 _ _ _).trans ?_
  refine (gd_t (by decide) _).trans ?_
  refine (gd_t (by decide) _).trans ?_
  refine (gd_t (⟨rfl, Nat.le_of_ble_eq_true rfl, rfl, Nat.le_of_ble_eq_true rfl⟩) _).trans ?_
  refine (gd_t (⟨rfl, ta0, na0⟩) _).trans ?_
  rfl
theorem q_Sb_init__6 {h : zH} {a0 : Nat}  : zY 206 6 [some (zR (some a0))] [] h =
    some (.inl (none), h) := by
  refine (show zY 206 6 [some (zR (some a0))] [] h = gd (([] : List zV).isEmpty = true ∧ zrk 206 = 0) (some (.inl (none), h)) from zGo 1 206 6 _ _ _).trans ?_
  refine (gd_t (⟨rfl, rfl⟩) _).trans ?_
  rfl
theorem q_As_init_Stri {h : zH} {a0 : Nat} {a1 : Nat} (ta1 : hT h a1 = 40) : zC 237 [zR (some a0), zR (some a1)] h =
    zY 237 9 [some (zR (some a0)), some (zR (some a1)), some (zI (hL h a1 : Int)), none, none] [] h := by
  refine (show zC 237 [zR (some a0), zR (some a1)] h = gd (901 < 900 ∨ 901 = 901) (gd (zctor 237 = true ∧ true = true) (gd ((some a0).isSome = true ∧ zcs [] ≤ 8 ∧ zrm 237 1 20 = true) (gd (904 = 904 ∨ 904 = 905) (gd ((some a1).isSome = true ∧ hT h (zdr (some a1)) = 40 ∧ zcs [] ≤ 8 ∧ zrm 237 5 120 = true) (zY 237 9 [some (zR (some a0)), some (zR (some a1)), some (zI (hL h a1 : Int)), none, none] [] h))))) from zGo 5 237 0 _ _ _).trans ?_
  refine (gd_t (by decide) _).trans ?_
  refine (gd_t (⟨rfl, rfl⟩) _).trans ?_
  refine (gd_t (⟨rfl, Nat.le_of_ble_eq_true rfl, rfl⟩) _).trans ?_
  refine (gd_t (by decide) _).trans ?_
  refine (gd_t (⟨rfl, ta1, Nat.le_of_ble_eq_true rfl, rfl⟩) _).trans ?_
  rfl
theorem q_As_init_Stri_9 {h : zH} {a0 : Nat} {a1 : Nat} {x2 : Int}  : zY 237 9 [some (zR (some a0)), some (zR (some a1)), some (zI x2), none, none] [] h =
    if x2 < 2147483631 then zY 237 15 [some (zR (some a0)), some (zR (some a1)), some (zI x2), none, none] [] h else zY 237 22 [some (zR (some a0)), some (zR (some a1)), some (zI x2), none, none] [] h := by
  refine (show zY 237 9 [some (zR (some a0)), some (zR (some a1)), some (zI x2), none, none] [] h = if x2 < 2147483631 then zY 237 15 [some (zR (some a0)), some (zR (some a1)), some (zI x2), none, none] [] h else zY 237 22 [some (zR (some a0)), some (zR (some a1)), some (zI x2), none, none] [] h from zGo 3 237 9 _ _ _).trans ?_
  rfl
theorem q_As_init_Stri_15 {h : zH} {a0 : Nat} {a1 : Nat} {x2 : Int} (ta1 : hT h a1 = 40) (ta0 : hT h a0 = 12) (na0 : a0 < hN h) : zY 237 15 [some (zR (some a0)), some (zR (some a1)), some (zI x2), none, none] [] h =
    gd ((0 : Int) ≤ (zwadd x2 16) ∧ (zwadd x2 16) < 65536) (gd (zob (hNew (sI h a0 1 0) 21 (zwadd x2 16).toNat) (some a0) 12) (gd (zob (sR (hNew (sI h a0 1 0) 21 (zwadd x2 16).toNat) a0 0 (some (hN (sI h a0 1 0)))) (some a0) 12) (zBack zY 237 58 61 [some (zR (some a0)), some (zR (some a1)), some (zI x2), some (zI (zwadd x2 16)), some (zI 0)] [] (zC 148 [zR (some a0), zR (some a1)] (sR (hNew (sI h a0 1 0) 21 (zwadd x2 16).toNat) a0 0 (some (hN (sI h a0 1 0)))))))) := by
  refine (show zY 237 15 [some (zR (some a0)), some (zR (some a1)), some (zI x2), none, none] [] h = gd (-128 ≤ (16 : Int) ∧ (16 : Int) < 128) (gd (909 = 908 ∨ 909 = 909 ∨ 909 = 920 ∨ 909 = 921 ∨ 909 = 931) (gd ((some a1).isSome = true ∧ hT h (zdr (some a1)) = 40 ∧ zcs [] ≤ 8 ∧ zrm 237 6 200 = true) (gd (zpfok 237 705 = true) (gd (1 < znf 11) (gd (zob h (some a0) 12) (gd ((-128 : Int) ≤ 0 ∧ (0 : Int) < 128) (if (0 : Int) = 0 then zY 237 43 [some (zR (some a0)), some (zR (some a1)), some (zI x2), some (zI (zwadd x2 16)), some (zI 0)] [zR (some a0)] (sI h a0 1 0) else zY 237 49 [some (zR (some a0)), some (zR (some a1)), some (zI x2), some (zI (zwadd x2 16)), some (zI 0)] [zR (some a0)] (sI h a0 1 0)))))))) from zGo 14 237 15 _ _ _).trans ?_
  refine (gd_t (by decide) _).trans ?_
  refine (gd_t (by decide) _).trans ?_
  refine (gd_t (⟨rfl, ta1, Nat.le_of_ble_eq_true rfl, rfl⟩) _).trans ?_
  refine (gd_t (rfl) _).trans ?_
  refine (gd_t (by decide) _).trans ?_
  refine (gd_t (⟨rfl, ta0, na0⟩) _).trans ?_
  refine (gd_t (by decide) _).trans ?_
  refine (if_pos (by decide)).trans ?_
  refine (show zY 237 43 [some (zR (some a0)), some (zR (some a1)), some (zI x2), some (zI (zwadd x2 16)), some (zI 0)] [zR (some a0)] (sI h a0 1 0) = gd ((0 : Int) ≤ (zwadd x2 16) ∧ (zwadd x2 16) < 65536) (gd (zpfok 237 704 = true) (gd (0 < znf 11) (gd (zob (hNew (sI h a0 1 0) 21 (zwadd x2 16).toNat) (some a0) 12) (gd (0 < zrecv 148) (gd (false = zspc 148 ∧ zcs [] ≤ 8 ∧ zrm 237 (zrf 148 + 1) (8 + (zmaxl 148 + 11) + zrl 148) = true ∧ zcs [zR (some a0), zR (some a1)] ≤ zmaxl 148) (gd (zob (sR (hNew (sI h a0 1 0) 21 (zwadd x2 16).toNat) a0 0 (some (hN (sI h a0 1 0)))) (some a0) 12) (zBack zY 237 58 61 [some (zR (some a0)), some (zR (some a1)), some (zI x2), some (zI (zwadd x2 16)), some (zI 0)] [] (zC 148 [zR (some a0), zR (some a1)] (sR (hNew (sI h a0 1 0) 21 (zwadd x2 16).toNat) a0 0 (some (hN (sI h a0 1 0)))))))))))) from zGo 7 237 43 _ _ _).trans ?_
  refine gd_c (Iff.rfl) (fun _ => ?_)
  refine (gd_t (rfl) _).trans ?_
  refine (gd_t (by decide) _).trans ?_
  refine gd_c (Iff.rfl) (fun _ => ?_)
  refine (gd_t (by decide) _).trans ?_
  refine (gd_t (⟨rfl, Nat.le_of_ble_eq_true rfl, rfl, Nat.le_of_ble_eq_true rfl⟩) _).trans ?_
  refine gd_c (Iff.rfl) (fun _ => ?_)
  rfl
theorem q_As_init_Stri_61 {h : zH} {a0 : Nat} {a1 : Nat} {x2 : Int} {x3 : Int} {x4 : Int} {y0 : Nat}  : zY 237 61 [some (zR (some a0)), some (zR (some a1)), some (zI x2), some (zI x3), some (zI x4)] [zR (some y0)] h =
    some (.inl (none), h) := by
  refine (show zY 237 61 [some (zR (some a0)), some (zR (some a1)), some (zI x2), some (zI x3), some (zI x4)] [zR (some y0)] h = gd (([] : List zV).isEmpty = true ∧ zrk 237 = 0) (some (.inl (none), h)) from zGo 2 237 61 _ _ _).trans ?_
  refine (gd_t (⟨rfl, rfl⟩) _).trans ?_
  rfl
theorem q_As_append_Stri {h : zH} {a0 : Nat} {a1 : Nat} (ta1 : hT h a1 = 40) (ta0 : hT h a0 = 12) (na0 : a0 < hN h) : zC 238 [zR (some a0), zR (some a1)] h =
    zBack zY 238 21 24 [some (zR (some a0)), some (zR (some a1)), some (zI (hL h a1 : Int))] [] (zC 239 [zR (some a0), zI (zwadd (hI h a0 3) (hL h a1 : Int))] h) := by
  refine (show zC 238 [zR (some a0), zR (some a1)] h = if (some a1).isSome = true then zY 238 9 [some (zR (some a0)), some (zR (some a1)), none] [] h else zY 238 4 [some (zR (some a0)), some (zR (some a1)), none] [] h from zGo 2 238 0 _ _ _).trans ?_
  refine (if_pos rfl).trans ?_
  refine (show zY 238 9 [some (zR (some a0)), some (zR (some a1)), none] [] h = gd (904 = 904 ∨ 904 = 905) (gd ((some a1).isSome = true ∧ hT h (zdr (some a1)) = 40 ∧ zcs [] ≤ 8 ∧ zrm 238 5 120 = true) (gd (zob h (some a0) 12) (gd (3 < znf 11) (gd (0 < zrecv 239) (gd (false = zspc 239 ∧ zcs [] ≤ 8 ∧ zrm 238 (zrf 239 + 1) (8 + (zmaxl 239 + 11) + zrl 239) = true ∧ zcs [zR (some a0), zI (zwadd (hI h a0 3) (hL h a1 : Int))] ≤ zmaxl 239) (gd (zob h (some a0) 12) (zBack zY 238 21 24 [some (zR (some a0)), some (zR (some a1)), some (zI (hL h a1 : Int))] [] (zC 239 [zR (some a0), zI (zwadd (hI h a0 3) (hL h a1 : Int))] h)))))))) from zGo 9 238 9 _ _ _).trans ?_
  refine (gd_t (by decide) _).trans ?_
  refine (gd_t (⟨rfl, ta1, Nat.le_of_ble_eq_true rfl, rfl⟩) _).trans ?_
  refine (gd_t (⟨rfl, ta0, na0⟩) _).trans ?_
  refine (gd_t (by decide) _).trans ?_
  refine (gd_t (by decide) _).trans ?_
  refine (gd_t (⟨rfl, Nat.le_of_ble_eq_true rfl, rfl, Nat.le_of_ble_eq_true rfl⟩) _).trans ?_
  refine (gd_t (⟨rfl, ta0, na0⟩) _).trans ?_
  rfl
theorem q_As_append_Stri_24 {h : zH} {a0 : Nat} {a1 : Nat} {x2 : Int} (ta0 : hT h a0 = 12) (na0 : a0 < hN h) : zY 238 24 [some (zR (some a0)), some (zR (some a1)), some (zI x2)] [] h =
    zBack zY 238 30 33 [some (zR (some a0)), some (zR (some a1)), some (zI x2)] [] (zC 242 [zR (some a0), zI (hI h a0 3), zR (some a1)] h) := by
  refine (show zY 238 24 [some (zR (some a0)), some (zR (some a1)), some (zI x2)] [] h = gd (zob h (some a0) 12) (gd (3 < znf 11) (gd (0 < zrecv 242) (gd (false = zspc 242 ∧ zcs [] ≤ 8 ∧ zrm 238 (zrf 242 + 1) (8 + (zmaxl 242 + 11) + zrl 242) = true ∧ zcs [zR (some a0), zI (hI h a0 3), zR (some a1)] ≤ zmaxl 242) (gd (zob h (some a0) 12) (zBack zY 238 30 33 [some (zR (some a0)), some (zR (some a1)), some (zI x2)] [] (zC 242 [zR (some a0), zI (hI h a0 3), zR (some a1)] h)))))) from zGo 5 238 24 _ _ _).trans ?_
  refine (gd_t (⟨rfl, ta0, na0⟩) _).trans ?_
  refine (gd_t (by decide) _).trans ?_
  refine (gd_t (by decide) _).trans ?_
  refine (gd_t (⟨rfl, Nat.le_of_ble_eq_true rfl, rfl, Nat.le_of_ble_eq_true rfl⟩) _).trans ?_
  refine (gd_t (⟨rfl, ta0, na0⟩) _).trans ?_
  rfl
theorem q_As_append_Stri_33 {h : zH} {a0 : Nat} {a1 : Nat} {x2 : Int} (ta0 : hT h a0 = 12) (na0 : a0 < hN h) : zY 238 33 [some (zR (some a0)), some (zR (some a1)), some (zI x2)] [] h =
    some (.inl (some (zR (some a0))), (sI h a0 3 (zwadd (hI h a0 3) x2))) := by
  refine (show zY 238 33 [some (zR (some a0)), some (zR (some a1)), some (zI x2)] [] h = gd (zob h (some a0) 12) (gd (3 < znf 11) (gd (zpfok 238 707 = true) (gd (3 < znf 11) (gd (zob h (some a0) 12) (gd (([] : List zV).isEmpty = true ∧ zrk 238 = 5) (some (.inl (some (zR (some a0))), (sI h a0 3 (zwadd (hI h a0 3) x2))))))))) from zGo 8 238 33 _ _ _).trans ?_
  refine (gd_t (⟨rfl, ta0, na0⟩) _).trans ?_
  refine (gd_t (by decide) _).trans ?_
  refine (gd_t (rfl) _).trans ?_
  refine (gd_t (by decide) _).trans ?_
  refine (gd_t (⟨rfl, ta0, na0⟩) _).trans ?_
  refine (gd_t (⟨rfl, rfl⟩) _).trans ?_
  rfl
theorem q_As_ensureCapacityInternal {h : zH} {a0 : Nat} {x1 : Int} {e0 : Nat} (ta0 : hT h a0 = 12) (na0 : a0 < hN h) (Ee0 : hR h a0 0 = some e0) (te0 : hT h e0 = 21) : zC 239 [zR (some a0), zI x1] h =
    if 0 < (zwsub x1 (zshr (hL h e0 : Int) (hI h a0 1))) then zY 239 17 [some (zR (some a0)), some (zI x1), some (zI (zshr (hL h e0 : Int) (hI h a0 1)))] [] h else zY 239 38 [some (zR (some a0)), some (zI x1), some (zI (zshr (hL h e0 : Int) (hI h a0 1)))] [] h := by
  refine (show zC 239 [zR (some a0), zI x1] h = gd (zob h (some a0) 12) (gd (0 < znf 11) (zY 239 4 [some (zR (some a0)), some (zI x1), none] [zR (hR h a0 0)] h)) from zGo 2 239 0 _ _ _).trans ?_
  refine (gd_t (⟨rfl, ta0, na0⟩) _).trans ?_
  refine (gd_t (by decide) _).trans ?_
  refine (congrArg (fun rz => zY 239 4 [some (zR (some a0)), some (zI x1), none] (zR rz :: []) h) Ee0).trans ?_
  refine (show zY 239 4 [some (zR (some a0)), some (zI x1), none] [zR (some e0)] h = gd ((some e0).isSome = true ∧ 20 ≤ hT h (zdr (some e0)) ∧ hT h (zdr (some e0)) < 40) (gd (zob h (some a0) 12) (gd (1 < znf 11) (if 0 < (zwsub x1 (zshr (hL h e0 : Int) (hI h a0 1))) then zY 239 17 [some (zR (some a0)), some (zI x1), some (zI (zshr (hL h e0 : Int) (hI h a0 1)))] [] h else zY 239 38 [some (zR (some a0)), some (zI x1), some (zI (zshr (hL h e0 : Int) (hI h a0 1)))] [] h))) from zGo 9 239 4 _ _ _).trans ?_
  refine (gd_t (al te0 (by decide) (by decide)) _).trans ?_
  refine (gd_t (⟨rfl, ta0, na0⟩) _).trans ?_
  refine (gd_t (by decide) _).trans ?_
  rfl
theorem q_As_ensureCapacityInternal_17 {h : zH} {a0 : Nat} {x1 : Int} {x2 : Int} {e0 : Nat} (ta0 : hT h a0 = 12) (na0 : a0 < hN h) (Ee0 : hR h a0 0 = some e0) : zY 239 17 [some (zR (some a0)), some (zI x1), some (zI x2)] [] h =
    zBack zY 239 24 27 [some (zR (some a0)), some (zI x1), some (zI x2)] [zR (some e0), zR (some a0)] (zC 240 [zR (some a0), zI x1] h) := by
  refine (show zY 239 17 [some (zR (some a0)), some (zI x1), some (zI x2)] [] h = gd (zob h (some a0) 12) (gd (0 < znf 11) (zY 239 22 [some (zR (some a0)), some (zI x1), some (zI x2)] [zR (hR h a0 0), zR (some a0)] h)) from zGo 3 239 17 _ _ _).trans ?_
  refine (gd_t (⟨rfl, ta0, na0⟩) _).trans ?_
  refine (gd_t (by decide) _).trans ?_
  refine (congrArg (fun rz => zY 239 22 [some (zR (some a0)), some (zI x1), some (zI x2)] (zR rz :: [zR (some a0)]) h) Ee0).trans ?_
  refine (show zY 239 22 [some (zR (some a0)), some (zI x1), some (zI x2)] [zR (some e0), zR (some a0)] h = gd (0 < zrecv 240) (gd (false = zspc 240 ∧ zcs [zR (some e0), zR (some a0)] ≤ 8 ∧ zrm 239 (zrf 240 + 1) (8 + (zmaxl 240 + 11) + zrl 240) = true ∧ zcs [zR (some a0), zI x1] ≤ zmaxl 240) (gd (zob h (some a0) 12) (zBack zY 239 24 27 [some (zR (some a0)), some (zI x1), some (zI x2)] [zR (some e0), zR (some a0)] (zC 240 [zR (some a0), zI x1] h)))) from zGo 3 239 22 _ _ _).trans ?_
  refine (gd_t (by decide) _).trans ?_
  refine (gd_t (⟨rfl, Nat.le_of_ble_eq_true rfl, rfl, Nat.le_of_ble_eq_true rfl⟩) _).trans ?_
  refine (gd_t (⟨rfl, ta0, na0⟩) _).trans ?_
  rfl
theorem q_As_ensureCapacityInternal_38 {h : zH} {a0 : Nat} {x1 : Int} {x2 : Int}  : zY 239 38 [some (zR (some a0)), some (zI x1), some (zI x2)] [] h =
    some (.inl (none), h) := by
  refine (show zY 239 38 [some (zR (some a0)), some (zI x1), some (zI x2)] [] h = gd (([] : List zV).isEmpty = true ∧ zrk 239 = 0) (some (.inl (none), h)) from zGo 1 239 38 _ _ _).trans ?_
  refine (gd_t (⟨rfl, rfl⟩) _).trans ?_
  rfl
theorem q_As_ensureCapacityInternal_27 {h : zH} {a0 : Nat} {x1 : Int} {x2 : Int} {y0 : Nat} {y1 : Nat} {y2 : Int} (ta0 : hT h a0 = 12) (na0 : a0 < hN h) : zY 239 27 [some (zR (some a0)), some (zI x1), some (zI x2)] [zI y2, zR (some y1), zR (some y0)] h =
    gd (zob h (some y1) 21 ∧ (0 : Int) ≤ (zshl y2 (hI h a0 1)) ∧ (zshl y2 (hI h a0 1)) < 65536 ∧ zcs [zR (some y0)] ≤ 8 ∧ zrm 239 3 80 = true) (gd (zob (hCpy h y1 (zshl y2 (hI h a0 1)).toNat) (some y0) 12) (some (.inl (none), (sR (hCpy h y1 (zshl y2 (hI h a0 1)).toNat) y0 0 (some (hN h)))))) := by
  refine (show zY 239 27 [some (zR (some a0)), some (zI x1), some (zI x2)] [zI y2, zR (some y1), zR (some y0)] h = gd (zob h (some a0) 12) (gd (1 < znf 11) (gd (906 = 902 ∨ 906 = 903 ∨ 906 = 906) (gd (zob h (some y1) 21 ∧ (0 : Int) ≤ (zshl y2 (hI h a0 1)) ∧ (zshl y2 (hI h a0 1)) < 65536 ∧ zcs [zR (some y0)] ≤ 8 ∧ zrm 239 3 80 = true) (gd (zpfok 239 704 = true) (gd (0 < znf 11) (gd (zob (hCpy h y1 (zshl y2 (hI h a0 1)).toNat) (some y0) 12) (gd (([] : List zV).isEmpty = true ∧ zrk 239 = 0) (some (.inl (none), (sR (hCpy h y1 (zshl y2 (hI h a0 1)).toNat) y0 0 (some (hN h)))))))))))) from zGo 6 239 27 _ _ _).trans ?_
  refine (gd_t (⟨rfl, ta0, na0⟩) _).trans ?_
  refine (gd_t (by decide) _).trans ?_
  refine (gd_t (by decide) _).trans ?_
  refine gd_c (Iff.rfl) (fun _ => ?_)
  refine (gd_t (rfl) _).trans ?_
  refine (gd_t (by decide) _).trans ?_
  refine gd_c (Iff.rfl) (fun _ => ?_)
  refine (gd_t (⟨rfl, rfl⟩) _).trans ?_
  rfl
theorem q_As_newCapacity {h : zH} {a0 : Nat} {x1 : Int} {e0 : Nat} (ta0 : hT h a0 = 12) (na0 : a0 < hN h) (Ee0 : hR h a0 0 = some e0) (te0 : hT h e0 = 21) : zC 240 [zR (some a0), zI x1] h =
    zBack zY 240 29 32 [some (zR (some a0)), some (zI x1), some (zI (hL h e0 : Int)), some (zI (zshl x1 (hI h a0 1))), some (zI (zwsub (zshl x1 (hI h a0 1)) (hL h e0 : Int))), none] [] (zC 258 [zI (hL h e0 : Int), zI (zwsub (zshl x1 (hI h a0 1)) (hL h e0 : Int)), zI (zwadd (hL h e0 : Int) (zshl 2 (hI h a0 1)))] h) := by
  refine (show zC 240 [zR (some a0), zI x1] h = gd (zob h (some a0) 12) (gd (0 < znf 11) (zY 240 4 [some (zR (some a0)), some (zI x1), none, none, none, none] [zR (hR h a0 0)] h)) from zGo 2 240 0 _ _ _).trans ?_
  refine (gd_t (⟨rfl, ta0, na0⟩) _).trans ?_
  refine (gd_t (by decide) _).trans ?_
  refine (congrArg (fun rz => zY 240 4 [some (zR (some a0)), some (zI x1), none, none, none, none] (zR rz :: []) h) Ee0).trans ?_
  refine (show zY 240 4 [some (zR (some a0)), some (zI x1), none, none, none, none] [zR (some e0)] h = gd ((some e0).isSome = true ∧ 20 ≤ hT h (zdr (some e0)) ∧ hT h (zdr (some e0)) < 40) (gd (zob h (some a0) 12) (gd (1 < znf 11) (gd (inR (2)) (gd (zob h (some a0) 12) (gd (1 < znf 11) (gd (zrecv 258 = 0) (gd (false = zspc 258 ∧ zcs [] ≤ 8 ∧ zrm 240 (zrf 258 + 1) (8 + (zmaxl 258 + 11) + zrl 258) = true ∧ zcs [zI (hL h e0 : Int), zI (zwsub (zshl x1 (hI h a0 1)) (hL h e0 : Int)), zI (zwadd (hL h e0 : Int) (zshl 2 (hI h a0 1)))] ≤ zmaxl 258) (zBack zY 240 29 32 [some (zR (some a0)), some (zI x1), some (zI (hL h e0 : Int)), some (zI (zshl x1 (hI h a0 1))), some (zI (zwsub (zshl x1 (hI h a0 1)) (hL h e0 : Int))), none] [] (zC 258 [zI (hL h e0 : Int), zI (zwsub (zshl x1 (hI h a0 1)) (hL h e0 : Int)), zI (zwadd (hL h e0 : Int) (zshl 2 (hI h a0 1)))] h))))))))) from zGo 20 240 4 _ _ _).trans ?_
  refine (gd_t (al te0 (by decide) (by decide)) _).trans ?_
  refine (gd_t (⟨rfl, ta0, na0⟩) _).trans ?_
  refine (gd_t (by decide) _).trans ?_
  refine (gd_t (by decide) _).trans ?_
  refine (gd_t (⟨rfl, ta0, na0⟩) _).trans ?_
  refine (gd_t (by decide) _).trans ?_
  refine (gd_t (rfl) _).trans ?_
  refine (gd_t (⟨rfl, Nat.le_of_ble_eq_true rfl, rfl, Nat.le_of_ble_eq_true rfl⟩) _).trans ?_
  rfl
theorem q_As_newCapacity_32 {h : zH} {a0 : Nat} {x1 : Int} {x2 : Int} {x3 : Int} {x4 : Int} {y0 : Int}  : zY 240 32 [some (zR (some a0)), some (zI x1), some (zI x2), some (zI x3), some (zI x4), none] [zI y0] h =
    if y0 = 2147483647 then zY 240 41 [some (zR (some a0)), some (zI x1), some (zI x2), some (zI x3), some (zI x4), some (zI y0)] [] h else zY 240 51 [some (zR (some a0)), some (zI x1), some (zI x2), some (zI x3), some (zI x4), some (zI y0)] [] h := by
  refine (show zY 240 32 [some (zR (some a0)), some (zI x1), some (zI x2), some (zI x3), some (zI x4), none] [zI y0] h = if y0 = 2147483647 then zY 240 41 [some (zR (some a0)), some (zI x1), some (zI x2), some (zI x3), some (zI x4), some (zI y0)] [] h else zY 240 51 [some (zR (some a0)), some (zI x1), some (zI x2), some (zI x3), some (zI x4), some (zI y0)] [] h from zGo 4 240 32 _ _ _).trans ?_
  rfl
theorem q_As_newCapacity_51 {h : zH} {a0 : Nat} {x1 : Int} {x2 : Int} {x3 : Int} {x4 : Int} {x5 : Int} (ta0 : hT h a0 = 12) (na0 : a0 < hN h) : zY 240 51 [some (zR (some a0)), some (zI x1), some (zI x2), some (zI x3), some (zI x4), some (zI x5)] [] h =
    some (.inl (some (zI (zshr x5 (hI h a0 1)))), h) := by
  refine (show zY 240 51 [some (zR (some a0)), some (zI x1), some (zI x2), some (zI x3), some (zI x4), some (zI x5)] [] h = gd (zob h (some a0) 12) (gd (1 < znf 11) (gd (([] : List zV).isEmpty = true ∧ (zrk 240 = 1 ∨ zrk 240 = 6 ∧ (((zshr x5 (hI h a0 1)) : Int) = 0 ∨ ((zshr x5 (hI h a0 1)) : Int) = 1))) (some (.inl (some (zI (zshr x5 (hI h a0 1)))), h)))) from zGo 5 240 51 _ _ _).trans ?_
  refine (gd_t (⟨rfl, ta0, na0⟩) _).trans ?_
  refine (gd_t (by decide) _).trans ?_
  refine (gd_t (⟨rfl, Or.inl rfl⟩) _).trans ?_
  rfl
theorem q_As_isLatin1 {h : zH} {a0 : Nat} (ta0 : hT h a0 = 12) (na0 : a0 < hN h) : zC 241 [zR (some a0)] h =
    if (hI h a0 1) = 0 then zY 241 13 [some (zR (some a0))] [] h else zY 241 17 [some (zR (some a0))] [] h := by
  refine (show zC 241 [zR (some a0)] h = if (1 : Int) = 0 then zY 241 17 [some (zR (some a0))] [] h else zY 241 6 [some (zR (some a0))] [] h from zGo 2 241 0 _ _ _).trans ?_
  refine (if_neg (by decide)).trans ?_
  refine (show zY 241 6 [some (zR (some a0))] [] h = gd (zob h (some a0) 12) (gd (1 < znf 11) (if (hI h a0 1) = 0 then zY 241 13 [some (zR (some a0))] [] h else zY 241 17 [some (zR (some a0))] [] h)) from zGo 3 241 6 _ _ _).trans ?_
  refine (gd_t (⟨rfl, ta0, na0⟩) _).trans ?_
  refine (gd_t (by decide) _).trans ?_
  rfl
theorem q_As_isLatin1_13 {h : zH} {a0 : Nat}  : zY 241 13 [some (zR (some a0))] [] h =
    some (.inl (some (zI 1)), h) := by
  refine (show zY 241 13 [some (zR (some a0))] [] h = gd (inR (1)) (gd (([] : List zV).isEmpty = true ∧ (zrk 241 = 1 ∨ zrk 241 = 6 ∧ ((1 : Int) = 0 ∨ (1 : Int) = 1))) (some (.inl (some (zI 1)), h))) from zGo 3 241 13 _ _ _).trans ?_
  refine (gd_t (by decide) _).trans ?_
  refine (gd_t (⟨rfl, Or.inr ⟨rfl, by decide⟩⟩) _).trans ?_
  rfl
theorem q_As_isLatin1_17 {h : zH} {a0 : Nat}  : zY 241 17 [some (zR (some a0))] [] h =
    some (.inl (some (zI 0)), h) := by
  refine (show zY 241 17 [some (zR (some a0))] [] h = gd (inR (0)) (gd (([] : List zV).isEmpty = true ∧ (zrk 241 = 1 ∨ zrk 241 = 6 ∧ ((0 : Int) = 0 ∨ (0 : Int) = 1))) (some (.inl (some (zI 0)), h))) from zGo 2 241 17 _ _ _).trans ?_
  refine (gd_t (by decide) _).trans ?_
  refine (gd_t (⟨rfl, Or.inr ⟨rfl, by decide⟩⟩) _).trans ?_
  rfl
theorem q_As_putStringAt {h : zH} {a0 : Nat} {x1 : Int} {a2 : Nat} (ta0 : hT h a0 = 12) (na0 : a0 < hN h) : zC 242 [zR (some a0), zI x1, zR (some a2)] h =
    zBack zY 242 2 5 [some (zR (some a0)), some (zI x1), some (zR (some a2))] [] (zC 243 [zR (some a0), zR (some a2)] h) := by
  refine (show zC 242 [zR (some a0), zI x1, zR (some a2)] h = gd (0 < zrecv 243) (gd (false = zspc 243 ∧ zcs [] ≤ 8 ∧ zrm 242 (zrf 243 + 1) (8 + (zmaxl 243 + 11) + zrl 243) = true ∧ zcs [zR (some a0), zR (some a2)] ≤ zmaxl 243) (gd (zob h (some a0) 12) (zBack zY 242 2 5 [some (zR (some a0)), some (zI x1), some (zR (some a2))] [] (zC 243 [zR (some a0), zR (some a2)] h)))) from zGo 3 242 0 _ _ _).trans ?_
  refine (gd_t (by decide) _).trans ?_
  refine (gd_t (⟨rfl, Nat.le_of_ble_eq_true rfl, rfl, Nat.le_of_ble_eq_true rfl⟩) _).trans ?_
  refine (gd_t (⟨rfl, ta0, na0⟩) _).trans ?_
  rfl
theorem q_As_putStringAt_5 {h : zH} {a0 : Nat} {x1 : Int} {a2 : Nat} {e0 : Nat} (ta0 : hT h a0 = 12) (na0 : a0 < hN h) (Ee0 : hR h a0 0 = some e0) : zY 242 5 [some (zR (some a0)), some (zI x1), some (zR (some a2))] [] h =
    gd (((hI h a0 1) : Int) = 0 ∧ (some a2).isSome = true ∧ hT h (zdr (some a2)) = 40 ∧ zob h (some e0) 21 ∧ (0 : Int) ≤ x1 ∧ x1 + (hL h (zdr (some a2)) : Int) ≤ (hL h (zdr (some e0)) : Int) ∧ zcs [] ≤ 8 ∧ zrm 242 6 200 = true) (some (.inl (none), (hPut h a2 e0 x1.toNat))) := by
  refine (show zY 242 5 [some (zR (some a0)), some (zI x1), some (zR (some a2))] [] h = gd (zob h (some a0) 12) (gd (0 < znf 11) (zY 242 10 [some (zR (some a0)), some (zI x1), some (zR (some a2))] [zR (hR h a0 0), zR (some a2)] h)) from zGo 3 242 5 _ _ _).trans ?_
  refine (gd_t (⟨rfl, ta0, na0⟩) _).trans ?_
  refine (gd_t (by decide) _).trans ?_
  refine (congrArg (fun rz => zY 242 10 [some (zR (some a0)), some (zI x1), some (zR (some a2))] (zR rz :: [zR (some a2)]) h) Ee0).trans ?_
  refine (show zY 242 10 [some (zR (some a0)), some (zI x1), some (zR (some a2))] [zR (some e0), zR (some a2)] h = gd (zob h (some a0) 12) (gd (1 < znf 11) (gd (908 = 908 ∨ 908 = 909 ∨ 908 = 920 ∨ 908 = 921 ∨ 908 = 931) (gd (((hI h a0 1) : Int) = 0 ∧ (some a2).isSome = true ∧ hT h (zdr (some a2)) = 40 ∧ zob h (some e0) 21 ∧ (0 : Int) ≤ x1 ∧ x1 + (hL h (zdr (some a2)) : Int) ≤ (hL h (zdr (some e0)) : Int) ∧ zcs [] ≤ 8 ∧ zrm 242 6 200 = true) (gd (([] : List zV).isEmpty = true ∧ zrk 242 = 0) (some (.inl (none), (hPut h a2 e0 x1.toNat))))))) from zGo 5 242 10 _ _ _).trans ?_
  refine (gd_t (⟨rfl, ta0, na0⟩) _).trans ?_
  refine (gd_t (by decide) _).trans ?_
  refine (gd_t (by decide) _).trans ?_
  refine gd_c (Iff.rfl) (fun _ => ?_)
  refine (gd_t (⟨rfl, rfl⟩) _).trans ?_
  rfl
theorem q_As_inflateIfNeededFor {h : zH} {a0 : Nat} {a1 : Nat} (ta0 : hT h a0 = 12) (na0 : a0 < hN h) (ta1 : hT h a1 = 40) : zC 243 [zR (some a0), zR (some a1)] h =
    if (hI h a0 1) = 0 then zY 243 21 [some (zR (some a0)), some (zR (some a1))] [] h else zY 243 17 [some (zR (some a0)), some (zR (some a1))] [] h := by
  refine (show zC 243 [zR (some a0), zR (some a1)] h = if (1 : Int) = 0 then zY 243 21 [some (zR (some a0)), some (zR (some a1))] [] h else zY 243 6 [some (zR (some a0)), some (zR (some a1))] [] h from zGo 2 243 0 _ _ _).trans ?_
  refine (if_neg (by decide)).trans ?_
  refine (show zY 243 6 [some (zR (some a0)), some (zR (some a1))] [] h = gd (zob h (some a0) 12) (gd (1 < znf 11) (gd (909 = 908 ∨ 909 = 909 ∨ 909 = 920 ∨ 909 = 921 ∨ 909 = 931) (gd ((some a1).isSome = true ∧ hT h (zdr (some a1)) = 40 ∧ zcs [zI (hI h a0 1)] ≤ 8 ∧ zrm 243 6 200 = true) (if (hI h a0 1) = 0 then zY 243 21 [some (zR (some a0)), some (zR (some a1))] [] h else zY 243 17 [some (zR (some a0)), some (zR (some a1))] [] h)))) from zGo 5 243 6 _ _ _).trans ?_
  refine (gd_t (⟨rfl, ta0, na0⟩) _).trans ?_
  refine (gd_t (by decide) _).trans ?_
  refine (gd_t (by decide) _).trans ?_
  refine (gd_t (⟨rfl, ta1, Nat.le_of_ble_eq_true rfl, rfl⟩) _).trans ?_
  rfl
theorem q_As_inflateIfNeededFor_21 {h : zH} {a0 : Nat} {a1 : Nat}  : zY 243 21 [some (zR (some a0)), some (zR (some a1))] [] h =
    some (.inl (none), h) := by
  refine (show zY 243 21 [some (zR (some a0)), some (zR (some a1))] [] h = gd (([] : List zV).isEmpty = true ∧ zrk 243 = 0) (some (.inl (none), h)) from zGo 1 243 21 _ _ _).trans ?_
  refine (gd_t (⟨rfl, rfl⟩) _).trans ?_
  rfl
theorem q_As_append_C {h : zH} {a0 : Nat} {x1 : Int} (ta0 : hT h a0 = 12) (na0 : a0 < hN h) : zC 244 [zR (some a0), zI x1] h =
    zBack zY 244 7 10 [some (zR (some a0)), some (zI x1)] [] (zC 239 [zR (some a0), zI (zwadd (hI h a0 3) 1)] h) := by
  refine (show zC 244 [zR (some a0), zI x1] h = gd (zob h (some a0) 12) (gd (3 < znf 11) (gd (inR (1)) (gd (0 < zrecv 239) (gd (false = zspc 239 ∧ zcs [] ≤ 8 ∧ zrm 244 (zrf 239 + 1) (8 + (zmaxl 239 + 11) + zrl 239) = true ∧ zcs [zR (some a0), zI (zwadd (hI h a0 3) 1)] ≤ zmaxl 239) (gd (zob h (some a0) 12) (zBack zY 244 7 10 [some (zR (some a0)), some (zI x1)] [] (zC 239 [zR (some a0), zI (zwadd (hI h a0 3) 1)] h))))))) from zGo 6 244 0 _ _ _).trans ?_
  refine (gd_t (⟨rfl, ta0, na0⟩) _).trans ?_
  refine (gd_t (by decide) _).trans ?_
  refine (gd_t (by decide) _).trans ?_
  refine (gd_t (by decide) _).trans ?_
  refine (gd_t (⟨rfl, Nat.le_of_ble_eq_true rfl, rfl, Nat.le_of_ble_eq_true rfl⟩) _).trans ?_
  refine (gd_t (⟨rfl, ta0, na0⟩) _).trans ?_
  rfl
theorem q_As_append_C_10 {h : zH} {a0 : Nat} {x1 : Int} (ta0 : hT h a0 = 12) (na0 : a0 < hN h) : zY 244 10 [some (zR (some a0)), some (zI x1)] [] h =
    zBack zY 244 11 14 [some (zR (some a0)), some (zI x1)] [] (zC 241 [zR (some a0)] h) := by
  refine (show zY 244 10 [some (zR (some a0)), some (zI x1)] [] h = gd (0 < zrecv 241) (gd (false = zspc 241 ∧ zcs [] ≤ 8 ∧ zrm 244 (zrf 241 + 1) (8 + (zmaxl 241 + 11) + zrl 241) = true ∧ zcs [zR (some a0)] ≤ zmaxl 241) (gd (zob h (some a0) 12) (zBack zY 244 11 14 [some (zR (some a0)), some (zI x1)] [] (zC 241 [zR (some a0)] h)))) from zGo 2 244 10 _ _ _).trans ?_
  refine (gd_t (by decide) _).trans ?_
  refine (gd_t (⟨rfl, Nat.le_of_ble_eq_true rfl, rfl, Nat.le_of_ble_eq_true rfl⟩) _).trans ?_
  refine (gd_t (⟨rfl, ta0, na0⟩) _).trans ?_
  rfl
theorem q_As_append_C_14 {h : zH} {a0 : Nat} {x1 : Int} {y0 : Int}  : zY 244 14 [some (zR (some a0)), some (zI x1)] [zI y0] h =
    if y0 = 0 then zY 244 45 [some (zR (some a0)), some (zI x1)] [] h else zY 244 17 [some (zR (some a0)), some (zI x1)] [] h := by
  refine (show zY 244 14 [some (zR (some a0)), some (zI x1)] [zI y0] h = if y0 = 0 then zY 244 45 [some (zR (some a0)), some (zI x1)] [] h else zY 244 17 [some (zR (some a0)), some (zI x1)] [] h from zGo 1 244 14 _ _ _).trans ?_
  rfl
theorem q_As_append_C_17 {h : zH} {a0 : Nat} {x1 : Int}  : zY 244 17 [some (zR (some a0)), some (zI x1)] [] h =
    zBack zY 244 18 21 [some (zR (some a0)), some (zI x1)] [] (zC 260 [zI x1] h) := by
  refine (show zY 244 17 [some (zR (some a0)), some (zI x1)] [] h = gd (zrecv 260 = 0) (gd (false = zspc 260 ∧ zcs [] ≤ 8 ∧ zrm 244 (zrf 260 + 1) (8 + (zmaxl 260 + 11) + zrl 260) = true ∧ zcs [zI x1] ≤ zmaxl 260) (zBack zY 244 18 21 [some (zR (some a0)), some (zI x1)] [] (zC 260 [zI x1] h))) from zGo 2 244 17 _ _ _).trans ?_
  refine (gd_t (rfl) _).trans ?_
  refine (gd_t (⟨rfl, Nat.le_of_ble_eq_true rfl, rfl, Nat.le_of_ble_eq_true rfl⟩) _).trans ?_
  rfl
theorem q_As_append_C_21 {h : zH} {a0 : Nat} {x1 : Int} {y0 : Int}  : zY 244 21 [some (zR (some a0)), some (zI x1)] [zI y0] h =
    if y0 = 0 then zY 244 45 [some (zR (some a0)), some (zI x1)] [] h else zY 244 24 [some (zR (some a0)), some (zI x1)] [] h := by
  refine (show zY 244 21 [some (zR (some a0)), some (zI x1)] [zI y0] h = if y0 = 0 then zY 244 45 [some (zR (some a0)), some (zI x1)] [] h else zY 244 24 [some (zR (some a0)), some (zI x1)] [] h from zGo 1 244 21 _ _ _).trans ?_
  rfl
theorem q_As_append_C_24 {h : zH} {a0 : Nat} {x1 : Int} {e0 : Nat} (ta0 : hT h a0 = 12) (na0 : a0 < hN h) (Ee0 : hR h a0 0 = some e0) (te0 : hT h e0 = 21) (ne0 : e0 < hN h) : zY 244 24 [some (zR (some a0)), some (zI x1)] [] h =
    gd ((0 : Int) ≤ (hI h a0 3) ∧ (hI h a0 3) < (hL h e0 : Int)) (gd (-128 ≤ ((zi2b x1) : Int) ∧ ((zi2b x1) : Int) < 128 ∧ (hT (sI h a0 3 (zwadd (hI h a0 3) 1)) (zdr (some e0)) = 20 → ((zi2b x1) : Int) = 0 ∨ ((zi2b x1) : Int) = 1)) (some (.inl (some (zR (some a0))), (sI (sI h a0 3 (zwadd (hI h a0 3) 1)) e0 (hI h a0 3).toNat (zi2b x1))))) := by
  refine (show zY 244 24 [some (zR (some a0)), some (zI x1)] [] h = gd (zob h (some a0) 12) (gd (0 < znf 11) (zY 244 28 [some (zR (some a0)), some (zI x1)] [zR (hR h a0 0)] h)) from zGo 2 244 24 _ _ _).trans ?_
  refine (gd_t (⟨rfl, ta0, na0⟩) _).trans ?_
  refine (gd_t (by decide) _).trans ?_
  refine (congrArg (fun rz => zY 244 28 [some (zR (some a0)), some (zI x1)] (zR rz :: []) h) Ee0).trans ?_
  refine (show zY 244 28 [some (zR (some a0)), some (zI x1)] [zR (some e0)] h = gd (zob h (some a0) 12) (gd (3 < znf 11) (gd (inR (1)) (gd (zpfok 244 707 = true) (gd (3 < znf 11) (gd (zob h (some a0) 12) (gd (zokw (sI h a0 3 (zwadd (hI h a0 3) 1)) (some e0) 21 (hI h a0 3) ∨ zokw (sI h a0 3 (zwadd (hI h a0 3) 1)) (some e0) 20 (hI h a0 3)) (gd (-128 ≤ ((zi2b x1) : Int) ∧ ((zi2b x1) : Int) < 128 ∧ (hT (sI h a0 3 (zwadd (hI h a0 3) 1)) (zdr (some e0)) = 20 → ((zi2b x1) : Int) = 0 ∨ ((zi2b x1) : Int) = 1)) (gd (([] : List zV).isEmpty = true ∧ zrk 244 = 5) (some (.inl (some (zR (some a0))), (sI (sI h a0 3 (zwadd (hI h a0 3) 1)) e0 (hI h a0 3).toNat (zi2b x1)))))))))))) from zGo 13 244 28 _ _ _).trans ?_
  refine (gd_t (⟨rfl, ta0, na0⟩) _).trans ?_
  refine (gd_t (by decide) _).trans ?_
  refine (gd_t (by decide) _).trans ?_
  refine (gd_t (rfl) _).trans ?_
  refine (gd_t (by decide) _).trans ?_
  refine (gd_t (⟨rfl, ta0, na0⟩) _).trans ?_
  refine gd_c (cib21 te0 ne0 rfl) (fun _ => ?_)
  refine gd_c (Iff.rfl) (fun _ => ?_)
  refine (gd_t (⟨rfl, rfl⟩) _).trans ?_
  rfl
theorem q_As_append_I {h : zH} {a0 : Nat} {x1 : Int} (ta0 : hT h a0 = 12) (na0 : a0 < hN h) : zC 245 [zR (some a0), zI x1] h =
    zBack zY 245 7 10 [some (zR (some a0)), some (zI x1), some (zI (hI h a0 3)), none] [zI (hI h a0 3)] (zC 255 [zI x1] h) := by
  refine (show zC 245 [zR (some a0), zI x1] h = gd (zob h (some a0) 12) (gd (3 < znf 11) (gd (zrecv 255 = 0) (gd (false = zspc 255 ∧ zcs [zI (hI h a0 3)] ≤ 8 ∧ zrm 245 (zrf 255 + 1) (8 + (zmaxl 255 + 11) + zrl 255) = true ∧ zcs [zI x1] ≤ zmaxl 255) (zBack zY 245 7 10 [some (zR (some a0)), some (zI x1), some (zI (hI h a0 3)), none] [zI (hI h a0 3)] (zC 255 [zI x1] h))))) from zGo 6 245 0 _ _ _).trans ?_
  refine (gd_t (⟨rfl, ta0, na0⟩) _).trans ?_
  refine (gd_t (by decide) _).trans ?_
  refine (gd_t (rfl) _).trans ?_
  refine (gd_t (⟨rfl, Nat.le_of_ble_eq_true rfl, rfl, Nat.le_of_ble_eq_true rfl⟩) _).trans ?_
  rfl
theorem q_As_append_I_10 {h : zH} {a0 : Nat} {x1 : Int} {x2 : Int} {y0 : Int} {y1 : Int} (ta0 : hT h a0 = 12) (na0 : a0 < hN h) : zY 245 10 [some (zR (some a0)), some (zI x1), some (zI x2), none] [zI y1, zI y0] h =
    zBack zY 245 14 17 [some (zR (some a0)), some (zI x1), some (zI x2), some (zI (zwadd y0 y1))] [] (zC 239 [zR (some a0), zI (zwadd y0 y1)] h) := by
  refine (show zY 245 10 [some (zR (some a0)), some (zI x1), some (zI x2), none] [zI y1, zI y0] h = gd (0 < zrecv 239) (gd (false = zspc 239 ∧ zcs [] ≤ 8 ∧ zrm 245 (zrf 239 + 1) (8 + (zmaxl 239 + 11) + zrl 239) = true ∧ zcs [zR (some a0), zI (zwadd y0 y1)] ≤ zmaxl 239) (gd (zob h (some a0) 12) (zBack zY 245 14 17 [some (zR (some a0)), some (zI x1), some (zI x2), some (zI (zwadd y0 y1))] [] (zC 239 [zR (some a0), zI (zwadd y0 y1)] h)))) from zGo 5 245 10 _ _ _).trans ?_
  refine (gd_t (by decide) _).trans ?_
  refine (gd_t (⟨rfl, Nat.le_of_ble_eq_true rfl, rfl, Nat.le_of_ble_eq_true rfl⟩) _).trans ?_
  refine (gd_t (⟨rfl, ta0, na0⟩) _).trans ?_
  rfl
theorem q_As_append_I_17 {h : zH} {a0 : Nat} {x1 : Int} {x2 : Int} {x3 : Int} (ta0 : hT h a0 = 12) (na0 : a0 < hN h) : zY 245 17 [some (zR (some a0)), some (zI x1), some (zI x2), some (zI x3)] [] h =
    zBack zY 245 18 21 [some (zR (some a0)), some (zI x1), some (zI x2), some (zI x3)] [] (zC 241 [zR (some a0)] h) := by
  refine (show zY 245 17 [some (zR (some a0)), some (zI x1), some (zI x2), some (zI x3)] [] h = gd (0 < zrecv 241) (gd (false = zspc 241 ∧ zcs [] ≤ 8 ∧ zrm 245 (zrf 241 + 1) (8 + (zmaxl 241 + 11) + zrl 241) = true ∧ zcs [zR (some a0)] ≤ zmaxl 241) (gd (zob h (some a0) 12) (zBack zY 245 18 21 [some (zR (some a0)), some (zI x1), some (zI x2), some (zI x3)] [] (zC 241 [zR (some a0)] h)))) from zGo 2 245 17 _ _ _).trans ?_
  refine (gd_t (by decide) _).trans ?_
  refine (gd_t (⟨rfl, Nat.le_of_ble_eq_true rfl, rfl, Nat.le_of_ble_eq_true rfl⟩) _).trans ?_
  refine (gd_t (⟨rfl, ta0, na0⟩) _).trans ?_
  rfl
theorem q_As_append_I_21 {h : zH} {a0 : Nat} {x1 : Int} {x2 : Int} {x3 : Int} {y0 : Int}  : zY 245 21 [some (zR (some a0)), some (zI x1), some (zI x2), some (zI x3)] [zI y0] h =
    if y0 = 0 then zY 245 37 [some (zR (some a0)), some (zI x1), some (zI x2), some (zI x3)] [] h else zY 245 24 [some (zR (some a0)), some (zI x1), some (zI x2), some (zI x3)] [] h := by
  refine (show zY 245 21 [some (zR (some a0)), some (zI x1), some (zI x2), some (zI x3)] [zI y0] h = if y0 = 0 then zY 245 37 [some (zR (some a0)), some (zI x1), some (zI x2), some (zI x3)] [] h else zY 245 24 [some (zR (some a0)), some (zI x1), some (zI x2), some (zI x3)] [] h from zGo 1 245 21 _ _ _).trans ?_
  rfl
theorem q_As_append_I_24 {h : zH} {a0 : Nat} {x1 : Int} {x2 : Int} {x3 : Int} {e0 : Nat} (ta0 : hT h a0 = 12) (na0 : a0 < hN h) (Ee0 : hR h a0 0 = some e0) : zY 245 24 [some (zR (some a0)), some (zI x1), some (zI x2), some (zI x3)] [] h =
    zBack zY 245 30 33 [some (zR (some a0)), some (zI x1), some (zI x2), some (zI x3)] [] (zC 256 [zI x1, zI x3, zR (some e0)] h) := by
  refine (show zY 245 24 [some (zR (some a0)), some (zI x1), some (zI x2), some (zI x3)] [] h = gd (zob h (some a0) 12) (gd (0 < znf 11) (zY 245 30 [some (zR (some a0)), some (zI x1), some (zI x2), some (zI x3)] [zR (hR h a0 0), zI x3, zI x1] h)) from zGo 4 245 24 _ _ _).trans ?_
  refine (gd_t (⟨rfl, ta0, na0⟩) _).trans ?_
  refine (gd_t (by decide) _).trans ?_
  refine (congrArg (fun rz => zY 245 30 [some (zR (some a0)), some (zI x1), some (zI x2), some (zI x3)] (zR rz :: [zI x3, zI x1]) h) Ee0).trans ?_
  refine (show zY 245 30 [some (zR (some a0)), some (zI x1), some (zI x2), some (zI x3)] [zR (some e0), zI x3, zI x1] h = gd (zrecv 256 = 0) (gd (false = zspc 256 ∧ zcs [] ≤ 8 ∧ zrm 245 (zrf 256 + 1) (8 + (zmaxl 256 + 11) + zrl 256) = true ∧ zcs [zI x1, zI x3, zR (some e0)] ≤ zmaxl 256) (zBack zY 245 30 33 [some (zR (some a0)), some (zI x1), some (zI x2), some (zI x3)] [] (zC 256 [zI x1, zI x3, zR (some e0)] h))) from zGo 1 245 30 _ _ _).trans ?_
  refine (gd_t (rfl) _).trans ?_
  refine (gd_t (⟨rfl, Nat.le_of_ble_eq_true rfl, rfl, Nat.le_of_ble_eq_true rfl⟩) _).trans ?_
  rfl
theorem q_As_append_I_33 {h : zH} {a0 : Nat} {x1 : Int} {x2 : Int} {x3 : Int} {y0 : Int} (ta0 : hT h a0 = 12) (na0 : a0 < hN h) : zY 245 33 [some (zR (some a0)), some (zI x1), some (zI x2), some (zI x3)] [zI y0] h =
    some (.inl (some (zR (some a0))), (sI h a0 3 x3)) := by
  refine (show zY 245 33 [some (zR (some a0)), some (zI x1), some (zI x2), some (zI x3)] [zI y0] h = gd (zpfok 245 707 = true) (gd (3 < znf 11) (gd (zob h (some a0) 12) (gd (([] : List zV).isEmpty = true ∧ zrk 245 = 5) (some (.inl (some (zR (some a0))), (sI h a0 3 x3)))))) from zGo 7 245 33 _ _ _).trans ?_
  refine (gd_t (rfl) _).trans ?_
  refine (gd_t (by decide) _).trans ?_
  refine (gd_t (⟨rfl, ta0, na0⟩) _).trans ?_
  refine (gd_t (⟨rfl, rfl⟩) _).trans ?_
  rfl
theorem q_As_getValue {h : zH} {a0 : Nat} {e0 : Nat} (ta0 : hT h a0 = 12) (na0 : a0 < hN h) (Ee0 : hR h a0 0 = some e0) : zC 246 [zR (some a0)] h =
    some (.inl (some (zR (some e0))), h) := by
  refine (show zC 246 [zR (some a0)] h = gd (zob h (some a0) 12) (gd (0 < znf 11) (zY 246 4 [some (zR (some a0))] [zR (hR h a0 0)] h)) from zGo 2 246 0 _ _ _).trans ?_
  refine (gd_t (⟨rfl, ta0, na0⟩) _).trans ?_
  refine (gd_t (by decide) _).trans ?_
  refine (congrArg (fun rz => zY 246 4 [some (zR (some a0))] (zR rz :: []) h) Ee0).trans ?_
  refine (show zY 246 4 [some (zR (some a0))] [zR (some e0)] h = gd (([] : List zV).isEmpty = true ∧ zrk 246 = 5) (some (.inl (some (zR (some e0))), h)) from zGo 1 246 4 _ _ _).trans ?_
  refine (gd_t (⟨rfl, rfl⟩) _).trans ?_
  rfl
theorem q_As_length {h : zH} {a0 : Nat} (ta0 : hT h a0 = 12) (na0 : a0 < hN h) : zC 247 [zR (some a0)] h =
    some (.inl (some (zI (hI h a0 3))), h) := by
  refine (show zC 247 [zR (some a0)] h = gd (zob h (some a0) 12) (gd (3 < znf 11) (gd (([] : List zV).isEmpty = true ∧ (zrk 247 = 1 ∨ zrk 247 = 6 ∧ (((hI h a0 3) : Int) = 0 ∨ ((hI h a0 3) : Int) = 1))) (some (.inl (some (zI (hI h a0 3))), h)))) from zGo 3 247 0 _ _ _).trans ?_
  refine (gd_t (⟨rfl, ta0, na0⟩) _).trans ?_
  refine (gd_t (by decide) _).trans ?_
  refine (gd_t (⟨rfl, Or.inl rfl⟩) _).trans ?_
  rfl
theorem q_As_init_I {h : zH} {a0 : Nat} {x1 : Int}  : zC 248 [zR (some a0), zI x1] h =
    gd ((0 : Int) ≤ x1 ∧ x1 < 65536) (gd (zob (hNew h 21 x1.toNat) (some a0) 12) (gd (zob (sR (hNew h 21 x1.toNat) a0 0 (some (hN h))) (some a0) 12) (some (.inl (none), (sI (sR (hNew h 21 x1.toNat) a0 0 (some (hN h))) a0 1 0))))) := by
  refine (show zC 248 [zR (some a0), zI x1] h = gd (901 < 900 ∨ 901 = 901) (gd (zctor 248 = true ∧ true = true) (gd ((some a0).isSome = true ∧ zcs [] ≤ 8 ∧ zrm 248 1 20 = true) (if (1 : Int) = 0 then zY 248 25 [some (zR (some a0)), some (zI x1)] [] h else zY 248 10 [some (zR (some a0)), some (zI x1)] [] h))) from zGo 4 248 0 _ _ _).trans ?_
  refine (gd_t (by decide) _).trans ?_
  refine (gd_t (⟨rfl, rfl⟩) _).trans ?_
  refine (gd_t (⟨rfl, Nat.le_of_ble_eq_true rfl, rfl⟩) _).trans ?_
  refine (if_neg (by decide)).trans ?_
  refine (show zY 248 10 [some (zR (some a0)), some (zI x1)] [] h = gd ((0 : Int) ≤ x1 ∧ x1 < 65536) (gd (zpfok 248 704 = true) (gd (0 < znf 11) (gd (zob (hNew h 21 x1.toNat) (some a0) 12) (gd (inR (0)) (gd (zpfok 248 705 = true) (gd (1 < znf 11) (gd (zob (sR (hNew h 21 x1.toNat) a0 0 (some (hN h))) (some a0) 12) (gd ((-128 : Int) ≤ 0 ∧ (0 : Int) < 128) (gd (([] : List zV).isEmpty = true ∧ zrk 248 = 0) (some (.inl (none), (sI (sR (hNew h 21 x1.toNat) a0 0 (some (hN h))) a0 1 0)))))))))))) from zGo 9 248 10 _ _ _).trans ?_
  refine gd_c (Iff.rfl) (fun _ => ?_)
  refine (gd_t (rfl) _).trans ?_
  refine (gd_t (by decide) _).trans ?_
  refine gd_c (Iff.rfl) (fun _ => ?_)
  refine (gd_t (by decide) _).trans ?_
  refine (gd_t (rfl) _).trans ?_
  refine (gd_t (by decide) _).trans ?_
  refine gd_c (Iff.rfl) (fun _ => ?_)
  refine (gd_t (by decide) _).trans ?_
  refine (gd_t (⟨rfl, rfl⟩) _).trans ?_
  rfl
theorem q_St_length {h : zH} {a0 : Nat} {e0 : Nat} (ta0 : hT h a0 = 13) (na0 : a0 < hN h) (Ee0 : hR h a0 0 = some e0) (te0 : hT h e0 = 21) : zC 249 [zR (some a0)] h =
    zBack zY 249 6 9 [some (zR (some a0))] [zI (hL h e0 : Int)] (zC 250 [zR (some a0)] h) := by
  refine (show zC 249 [zR (some a0)] h = gd (zob h (some a0) 13) (gd (0 < znf 12) (zY 249 4 [some (zR (some a0))] [zR (hR h a0 0)] h)) from zGo 2 249 0 _ _ _).trans ?_
  refine (gd_t (⟨rfl, ta0, na0⟩) _).trans ?_
  refine (gd_t (by decide) _).trans ?_
  refine (congrArg (fun rz => zY 249 4 [some (zR (some a0))] (zR rz :: []) h) Ee0).trans ?_
  refine (show zY 249 4 [some (zR (some a0))] [zR (some e0)] h = gd ((some e0).isSome = true ∧ 20 ≤ hT h (zdr (some e0)) ∧ hT h (zdr (some e0)) < 40) (gd (0 < zrecv 250) (gd (false = zspc 250 ∧ zcs [zI (hL h e0 : Int)] ≤ 8 ∧ zrm 249 (zrf 250 + 1) (8 + (zmaxl 250 + 11) + zrl 250) = true ∧ zcs [zR (some a0)] ≤ zmaxl 250) (gd (zob h (some a0) 13) (zBack zY 249 6 9 [some (zR (some a0))] [zI (hL h e0 : Int)] (zC 250 [zR (some a0)] h))))) from zGo 3 249 4 _ _ _).trans ?_
  refine (gd_t (al te0 (by decide) (by decide)) _).trans ?_
  refine (gd_t (by decide) _).trans ?_
  refine (gd_t (⟨rfl, Nat.le_of_ble_eq_true rfl, rfl, Nat.le_of_ble_eq_true rfl⟩) _).trans ?_
  refine (gd_t (⟨rfl, ta0, na0⟩) _).trans ?_
  rfl
theorem q_St_length_9 {h : zH} {a0 : Nat} {y0 : Int} {y1 : Int}  : zY 249 9 [some (zR (some a0))] [zI y1, zI y0] h =
    some (.inl (some (zI (zshr y0 y1))), h) := by
  refine (show zY 249 9 [some (zR (some a0))] [zI y1, zI y0] h = gd (([] : List zV).isEmpty = true ∧ (zrk 249 = 1 ∨ zrk 249 = 6 ∧ (((zshr y0 y1) : Int) = 0 ∨ ((zshr y0 y1) : Int) = 1) ∨ zrk 249 = 7 ∧ (0 : Int) ≤ (zshr y0 y1) ∧ ((zshr y0 y1) : Int) < 65536 ∨ zrk 249 = 8 ∧ (-128 : Int) ≤ (zshr y0 y1) ∧ ((zshr y0 y1) : Int) < 128)) (some (.inl (some (zI (zshr y0 y1))), h)) from zGo 2 249 9 _ _ _).trans ?_
  refine (gd_t (⟨rfl, Or.inl rfl⟩) _).trans ?_
  rfl
theorem q_St_coder {h : zH} {a0 : Nat} (ta0 : hT h a0 = 13) (na0 : a0 < hN h) : zC 250 [zR (some a0)] h =
    gd (([] : List zV).isEmpty = true ∧ (zrk 250 = 1 ∨ zrk 250 = 6 ∧ (((hI h a0 1) : Int) = 0 ∨ ((hI h a0 1) : Int) = 1) ∨ zrk 250 = 7 ∧ (0 : Int) ≤ (hI h a0 1) ∧ ((hI h a0 1) : Int) < 65536 ∨ zrk 250 = 8 ∧ (-128 : Int) ≤ (hI h a0 1) ∧ ((hI h a0 1) : Int) < 128)) (some (.inl (some (zI (hI h a0 1))), h)) := by
  refine (show zC 250 [zR (some a0)] h = if (1 : Int) = 0 then zY 250 13 [some (zR (some a0))] [] h else zY 250 6 [some (zR (some a0))] [] h from zGo 2 250 0 _ _ _).trans ?_
  refine (if_neg (by decide)).trans ?_
  refine (show zY 250 6 [some (zR (some a0))] [] h = gd (zob h (some a0) 13) (gd (1 < znf 12) (gd (([] : List zV).isEmpty = true ∧ (zrk 250 = 1 ∨ zrk 250 = 6 ∧ (((hI h a0 1) : Int) = 0 ∨ ((hI h a0 1) : Int) = 1) ∨ zrk 250 = 7 ∧ (0 : Int) ≤ (hI h a0 1) ∧ ((hI h a0 1) : Int) < 65536 ∨ zrk 250 = 8 ∧ (-128 : Int) ≤ (hI h a0 1) ∧ ((hI h a0 1) : Int) < 128)) (some (.inl (some (zI (hI h a0 1))), h)))) from zGo 4 250 6 _ _ _).trans ?_
  refine (gd_t (⟨rfl, ta0, na0⟩) _).trans ?_
  refine (gd_t (by decide) _).trans ?_
  refine gd_c (Iff.rfl) (fun _ => ?_)
  rfl
theorem q_St_charAt {h : zH} {a0 : Nat} {x1 : Int} (ta0 : hT h a0 = 13) (na0 : a0 < hN h) : zC 251 [zR (some a0), zI x1] h =
    zBack zY 251 1 4 [some (zR (some a0)), some (zI x1)] [] (zC 252 [zR (some a0)] h) := by
  refine (show zC 251 [zR (some a0), zI x1] h = gd (0 < zrecv 252) (gd (false = zspc 252 ∧ zcs [] ≤ 8 ∧ zrm 251 (zrf 252 + 1) (8 + (zmaxl 252 + 11) + zrl 252) = true ∧ zcs [zR (some a0)] ≤ zmaxl 252) (gd (zob h (some a0) 13) (zBack zY 251 1 4 [some (zR (some a0)), some (zI x1)] [] (zC 252 [zR (some a0)] h)))) from zGo 2 251 0 _ _ _).trans ?_
  refine (gd_t (by decide) _).trans ?_
  refine (gd_t (⟨rfl, Nat.le_of_ble_eq_true rfl, rfl, Nat.le_of_ble_eq_true rfl⟩) _).trans ?_
  refine (gd_t (⟨rfl, ta0, na0⟩) _).trans ?_
  rfl
theorem q_St_charAt_4 {h : zH} {a0 : Nat} {x1 : Int} {y0 : Int}  : zY 251 4 [some (zR (some a0)), some (zI x1)] [zI y0] h =
    if y0 = 0 then zY 251 16 [some (zR (some a0)), some (zI x1)] [] h else zY 251 7 [some (zR (some a0)), some (zI x1)] [] h := by
  refine (show zY 251 4 [some (zR (some a0)), some (zI x1)] [zI y0] h = if y0 = 0 then zY 251 16 [some (zR (some a0)), some (zI x1)] [] h else zY 251 7 [some (zR (some a0)), some (zI x1)] [] h from zGo 1 251 4 _ _ _).trans ?_
  rfl
theorem q_St_charAt_7 {h : zH} {a0 : Nat} {x1 : Int} {e0 : Nat} (ta0 : hT h a0 = 13) (na0 : a0 < hN h) (Ee0 : hR h a0 0 = some e0) : zY 251 7 [some (zR (some a0)), some (zI x1)] [] h =
    zBack zY 251 12 15 [some (zR (some a0)), some (zI x1)] [] (zC 259 [zR (some e0), zI x1] h) := by
  refine (show zY 251 7 [some (zR (some a0)), some (zI x1)] [] h = gd (zob h (some a0) 13) (gd (0 < znf 12) (zY 251 11 [some (zR (some a0)), some (zI x1)] [zR (hR h a0 0)] h)) from zGo 2 251 7 _ _ _).trans ?_
  refine (gd_t (⟨rfl, ta0, na0⟩) _).trans ?_
  refine (gd_t (by decide) _).trans ?_
  refine (congrArg (fun rz => zY 251 11 [some (zR (some a0)), some (zI x1)] (zR rz :: []) h) Ee0).trans ?_
  refine (show zY 251 11 [some (zR (some a0)), some (zI x1)] [zR (some e0)] h = gd (zrecv 259 = 0) (gd (false = zspc 259 ∧ zcs [] ≤ 8 ∧ zrm 251 (zrf 259 + 1) (8 + (zmaxl 259 + 11) + zrl 259) = true ∧ zcs [zR (some e0), zI x1] ≤ zmaxl 259) (zBack zY 251 12 15 [some (zR (some a0)), some (zI x1)] [] (zC 259 [zR (some e0), zI x1] h))) from zGo 2 251 11 _ _ _).trans ?_
  refine (gd_t (rfl) _).trans ?_
  refine (gd_t (⟨rfl, Nat.le_of_ble_eq_true rfl, rfl, Nat.le_of_ble_eq_true rfl⟩) _).trans ?_
  rfl
theorem q_St_charAt_15 {h : zH} {a0 : Nat} {x1 : Int} {y0 : Int}  : zY 251 15 [some (zR (some a0)), some (zI x1)] [zI y0] h =
    gd (([] : List zV).isEmpty = true ∧ (zrk 251 = 1 ∨ zrk 251 = 6 ∧ ((y0 : Int) = 0 ∨ (y0 : Int) = 1) ∨ zrk 251 = 7 ∧ (0 : Int) ≤ y0 ∧ (y0 : Int) < 65536 ∨ zrk 251 = 8 ∧ (-128 : Int) ≤ y0 ∧ (y0 : Int) < 128)) (some (.inl (some (zI y0)), h)) := by
  refine (show zY 251 15 [some (zR (some a0)), some (zI x1)] [zI y0] h = gd (([] : List zV).isEmpty = true ∧ (zrk 251 = 1 ∨ zrk 251 = 6 ∧ ((y0 : Int) = 0 ∨ (y0 : Int) = 1) ∨ zrk 251 = 7 ∧ (0 : Int) ≤ y0 ∧ (y0 : Int) < 65536 ∨ zrk 251 = 8 ∧ (-128 : Int) ≤ y0 ∧ (y0 : Int) < 128)) (some (.inl (some (zI y0)), h)) from zGo 1 251 15 _ _ _).trans ?_
  refine gd_c (Iff.rfl) (fun _ => ?_)
  rfl
theorem q_St_isLatin1 {h : zH} {a0 : Nat} (ta0 : hT h a0 = 13) (na0 : a0 < hN h) : zC 252 [zR (some a0)] h =
    if (hI h a0 1) = 0 then zY 252 13 [some (zR (some a0))] [] h else zY 252 17 [some (zR (some a0))] [] h := by
  refine (show zC 252 [zR (some a0)] h = if (1 : Int) = 0 then zY 252 17 [some (zR (some a0))] [] h else zY 252 6 [some (zR (some a0))] [] h from zGo 2 252 0 _ _ _).trans ?_
  refine (if_neg (by decide)).trans ?_
  refine (show zY 252 6 [some (zR (some a0))] [] h = gd (zob h (some a0) 13) (gd (1 < znf 12) (if (hI h a0 1) = 0 then zY 252 13 [some (zR (some a0))] [] h else zY 252 17 [some (zR (some a0))] [] h)) from zGo 3 252 6 _ _ _).trans ?_
  refine (gd_t (⟨rfl, ta0, na0⟩) _).trans ?_
  refine (gd_t (by decide) _).trans ?_
  rfl
theorem q_St_isLatin1_13 {h : zH} {a0 : Nat}  : zY 252 13 [some (zR (some a0))] [] h =
    some (.inl (some (zI 1)), h) := by
  refine (show zY 252 13 [some (zR (some a0))] [] h = gd (inR (1)) (gd (([] : List zV).isEmpty = true ∧ (zrk 252 = 1 ∨ zrk 252 = 6 ∧ ((1 : Int) = 0 ∨ (1 : Int) = 1) ∨ zrk 252 = 7 ∧ (0 : Int) ≤ 1 ∧ (1 : Int) < 65536 ∨ zrk 252 = 8 ∧ (-128 : Int) ≤ 1 ∧ (1 : Int) < 128)) (some (.inl (some (zI 1)), h))) from zGo 3 252 13 _ _ _).trans ?_
  refine (gd_t (by decide) _).trans ?_
  refine (gd_t (⟨rfl, Or.inr (Or.inl ⟨rfl, by decide⟩)⟩) _).trans ?_
  rfl
theorem q_St_isLatin1_17 {h : zH} {a0 : Nat}  : zY 252 17 [some (zR (some a0))] [] h =
    some (.inl (some (zI 0)), h) := by
  refine (show zY 252 17 [some (zR (some a0))] [] h = gd (inR (0)) (gd (([] : List zV).isEmpty = true ∧ (zrk 252 = 1 ∨ zrk 252 = 6 ∧ ((0 : Int) = 0 ∨ (0 : Int) = 1) ∨ zrk 252 = 7 ∧ (0 : Int) ≤ 0 ∧ (0 : Int) < 65536 ∨ zrk 252 = 8 ∧ (-128 : Int) ≤ 0 ∧ (0 : Int) < 128)) (some (.inl (some (zI 0)), h))) from zGo 2 252 17 _ _ _).trans ?_
  refine (gd_t (by decide) _).trans ?_
  refine (gd_t (⟨rfl, Or.inr (Or.inl ⟨rfl, by decide⟩)⟩) _).trans ?_
  rfl
theorem q_St_init_Stri {h : zH} {a0 : Nat} {a1 : Nat} (ta0 : hT h a0 = 13) (na0 : a0 < hN h) : zC 253 [zR (some a0), zR (some a1)] h =
    zBack zY 253 3 6 [some (zR (some a0)), some (zR (some a1))] [] (zC 254 [zR (some a0), zR (some a1), zR none] h) := by
  refine (show zC 253 [zR (some a0), zR (some a1)] h = gd (254 < 900 ∨ 254 = 901) (gd (true = zspc 254 ∧ zcs [] ≤ 8 ∧ zrm 253 (zrf 254 + 1) (8 + (zmaxl 254 + 11) + zrl 254) = true ∧ zcs [zR (some a0), zR (some a1), zR none] ≤ zmaxl 254) (gd (zob h (some a0) 13) (zBack zY 253 3 6 [some (zR (some a0)), some (zR (some a1))] [] (zC 254 [zR (some a0), zR (some a1), zR none] h)))) from zGo 4 253 0 _ _ _).trans ?_
  refine (gd_t (by decide) _).trans ?_
  refine (gd_t (⟨rfl, Nat.le_of_ble_eq_true rfl, rfl, Nat.le_of_ble_eq_true rfl⟩) _).trans ?_
  refine (gd_t (⟨rfl, ta0, na0⟩) _).trans ?_
  rfl
theorem q_St_init_Stri_6 {h : zH} {a0 : Nat} {a1 : Nat}  : zY 253 6 [some (zR (some a0)), some (zR (some a1))] [] h =
    some (.inl (none), h) := by
  refine (show zY 253 6 [some (zR (some a0)), some (zR (some a1))] [] h = gd (([] : List zV).isEmpty = true ∧ zrk 253 = 0) (some (.inl (none), h)) from zGo 1 253 6 _ _ _).trans ?_
  refine (gd_t (⟨rfl, rfl⟩) _).trans ?_
  rfl
theorem q_St_init_AbstVoid {h : zH} {a0 : Nat} {a1 : Nat} (ta1 : hT h a1 = 12) (na1 : a1 < hN h) : zC 254 [zR (some a0), zR (some a1), zR none] h =
    zBack zY 254 5 8 [some (zR (some a0)), some (zR (some a1)), some (zR none), none, none] [] (zC 246 [zR (some a1)] h) := by
  refine (show zC 254 [zR (some a0), zR (some a1), zR none] h = gd (901 < 900 ∨ 901 = 901) (gd (zctor 254 = true ∧ true = true) (gd ((some a0).isSome = true ∧ zcs [] ≤ 8 ∧ zrm 254 1 20 = true) (gd (0 < zrecv 246) (gd (false = zspc 246 ∧ zcs [] ≤ 8 ∧ zrm 254 (zrf 246 + 1) (8 + (zmaxl 246 + 11) + zrl 246) = true ∧ zcs [zR (some a1)] ≤ zmaxl 246) (gd (zob h (some a1) 12) (zBack zY 254 5 8 [some (zR (some a0)), some (zR (some a1)), some (zR none), none, none] [] (zC 246 [zR (some a1)] h))))))) from zGo 4 254 0 _ _ _).trans ?_
  refine (gd_t (by decide) _).trans ?_
  refine (gd_t (⟨rfl, rfl⟩) _).trans ?_
  refine (gd_t (⟨rfl, Nat.le_of_ble_eq_true rfl, rfl⟩) _).trans ?_
  refine (gd_t (by decide) _).trans ?_
  refine (gd_t (⟨rfl, Nat.le_of_ble_eq_true rfl, rfl, Nat.le_of_ble_eq_true rfl⟩) _).trans ?_
  refine (gd_t (⟨rfl, ta1, na1⟩) _).trans ?_
  rfl
theorem q_St_init_AbstVoid_8 {h : zH} {a0 : Nat} {a1 : Nat} {y0 : Nat} (ta1 : hT h a1 = 12) (na1 : a1 < hN h) : zY 254 8 [some (zR (some a0)), some (zR (some a1)), some (zR none), none, none] [zR (some y0)] h =
    zBack zY 254 10 13 [some (zR (some a0)), some (zR (some a1)), some (zR none), some (zR (some y0)), none] [] (zC 205 [zR (some a1)] h) := by
  refine (show zY 254 8 [some (zR (some a0)), some (zR (some a1)), some (zR none), none, none] [zR (some y0)] h = gd (0 < zrecv 205) (gd (false = zspc 205 ∧ zcs [] ≤ 8 ∧ zrm 254 (zrf 205 + 1) (8 + (zmaxl 205 + 11) + zrl 205) = true ∧ zcs [zR (some a1)] ≤ zmaxl 205) (gd (zob h (some a1) 12) (zBack zY 254 10 13 [some (zR (some a0)), some (zR (some a1)), some (zR none), some (zR (some y0)), none] [] (zC 205 [zR (some a1)] h)))) from zGo 3 254 8 _ _ _).trans ?_
  refine (gd_t (by decide) _).trans ?_
  refine (gd_t (⟨rfl, Nat.le_of_ble_eq_true rfl, rfl, Nat.le_of_ble_eq_true rfl⟩) _).trans ?_
  refine (gd_t (⟨rfl, ta1, na1⟩) _).trans ?_
  rfl
theorem q_St_init_AbstVoid_13 {h : zH} {a0 : Nat} {a1 : Nat} {a3 : Nat} {y0 : Int} (ta1 : hT h a1 = 12) (na1 : a1 < hN h) : zY 254 13 [some (zR (some a0)), some (zR (some a1)), some (zR none), some (zR (some a3)), none] [zI y0] h =
    zBack zY 254 16 19 [some (zR (some a0)), some (zR (some a1)), some (zR none), some (zR (some a3)), some (zI y0)] [] (zC 241 [zR (some a1)] h) := by
  refine (show zY 254 13 [some (zR (some a0)), some (zR (some a1)), some (zR none), some (zR (some a3)), none] [zI y0] h = gd (0 < zrecv 241) (gd (false = zspc 241 ∧ zcs [] ≤ 8 ∧ zrm 254 (zrf 241 + 1) (8 + (zmaxl 241 + 11) + zrl 241) = true ∧ zcs [zR (some a1)] ≤ zmaxl 241) (gd (zob h (some a1) 12) (zBack zY 254 16 19 [some (zR (some a0)), some (zR (some a1)), some (zR none), some (zR (some a3)), some (zI y0)] [] (zC 241 [zR (some a1)] h)))) from zGo 3 254 13 _ _ _).trans ?_
  refine (gd_t (by decide) _).trans ?_
  refine (gd_t (⟨rfl, Nat.le_of_ble_eq_true rfl, rfl, Nat.le_of_ble_eq_true rfl⟩) _).trans ?_
  refine (gd_t (⟨rfl, ta1, na1⟩) _).trans ?_
  rfl
theorem q_St_init_AbstVoid_19 {h : zH} {a0 : Nat} {a1 : Nat} {a3 : Nat} {x4 : Int} {y0 : Int}  : zY 254 19 [some (zR (some a0)), some (zR (some a1)), some (zR none), some (zR (some a3)), some (zI x4)] [zI y0] h =
    if y0 = 0 then zY 254 41 [some (zR (some a0)), some (zR (some a1)), some (zR none), some (zR (some a3)), some (zI x4)] [] h else zY 254 22 [some (zR (some a0)), some (zR (some a1)), some (zR none), some (zR (some a3)), some (zI x4)] [] h := by
  refine (show zY 254 19 [some (zR (some a0)), some (zR (some a1)), some (zR none), some (zR (some a3)), some (zI x4)] [zI y0] h = if y0 = 0 then zY 254 41 [some (zR (some a0)), some (zR (some a1)), some (zR none), some (zR (some a3)), some (zI x4)] [] h else zY 254 22 [some (zR (some a0)), some (zR (some a1)), some (zR none), some (zR (some a3)), some (zI x4)] [] h from zGo 1 254 19 _ _ _).trans ?_
  rfl
theorem q_St_init_AbstVoid_22 {h : zH} {a0 : Nat} {a1 : Nat} {a3 : Nat} {x4 : Int} (ta0 : hT h a0 = 13) (na0 : a0 < hN h) : zY 254 22 [some (zR (some a0)), some (zR (some a1)), some (zR none), some (zR (some a3)), some (zI x4)] [] h =
    zBack zY 254 32 35 [some (zR (some a0)), some (zR (some a1)), some (zR none), some (zR (some a3)), some (zI x4)] [zR (some a0)] (zC 229 [zR (some a3), zI 0, zI x4] (sI h a0 1 0)) := by
  refine (show zY 254 22 [some (zR (some a0)), some (zR (some a1)), some (zR none), some (zR (some a3)), some (zI x4)] [] h = gd (inR (0)) (gd (zpfok 254 769 = true) (gd (1 < znf 12) (gd (zob h (some a0) 13) (gd ((-128 : Int) ≤ 0 ∧ (0 : Int) < 128) (gd (inR (0)) (gd (zrecv 229 = 0) (gd (false = zspc 229 ∧ zcs [zR (some a0)] ≤ 8 ∧ zrm 254 (zrf 229 + 1) (8 + (zmaxl 229 + 11) + zrl 229) = true ∧ zcs [zR (some a3), zI 0, zI x4] ≤ zmaxl 229) (zBack zY 254 32 35 [some (zR (some a0)), some (zR (some a1)), some (zR none), some (zR (some a3)), some (zI x4)] [zR (some a0)] (zC 229 [zR (some a3), zI 0, zI x4] (sI h a0 1 0)))))))))) from zGo 8 254 22 _ _ _).trans ?_
  refine (gd_t (by decide) _).trans ?_
  refine (gd_t (rfl) _).trans ?_
  refine (gd_t (by decide) _).trans ?_
  refine (gd_t (⟨rfl, ta0, na0⟩) _).trans ?_
  refine (gd_t (by decide) _).trans ?_
  refine (gd_t (by decide) _).trans ?_
  refine (gd_t (rfl) _).trans ?_
  refine (gd_t (⟨rfl, Nat.le_of_ble_eq_true rfl, rfl, Nat.le_of_ble_eq_true rfl⟩) _).trans ?_
  rfl
theorem q_St_init_AbstVoid_35 {h : zH} {a0 : Nat} {a1 : Nat} {a3 : Nat} {x4 : Int} {y0 : Nat} {y1 : Nat} (ty0 : hT h y0 = 13) (ny0 : y0 < hN h) : zY 254 35 [some (zR (some a0)), some (zR (some a1)), some (zR none), some (zR (some a3)), some (zI x4)] [zR (some y1), zR (some y0)] h =
    some (.inl (none), (sR h y0 0 (some y1))) := by
  refine (show zY 254 35 [some (zR (some a0)), some (zR (some a1)), some (zR none), some (zR (some a3)), some (zI x4)] [zR (some y1), zR (some y0)] h = gd (zpfok 254 768 = true) (gd (0 < znf 12) (gd (zob h (some y0) 13) (gd (([] : List zV).isEmpty = true ∧ zrk 254 = 0) (some (.inl (none), (sR h y0 0 (some y1))))))) from zGo 3 254 35 _ _ _).trans ?_
  refine (gd_t (rfl) _).trans ?_
  refine (gd_t (by decide) _).trans ?_
  refine (gd_t (⟨rfl, ty0, ny0⟩) _).trans ?_
  refine (gd_t (⟨rfl, rfl⟩) _).trans ?_
  rfl
theorem q_In_stringSize {h : zH} {x0 : Int}  : zC 255 [zI x0] h =
    if x0 < 0 then zY 255 11 [some (zI x0), some (zI 1), none, none] [] h else zY 255 6 [some (zI x0), some (zI 1), none, none] [] h := by
  refine (show zC 255 [zI x0] h = gd (inR (1)) (if x0 < 0 then zY 255 11 [some (zI x0), some (zI 1), none, none] [] h else zY 255 6 [some (zI x0), some (zI 1), none, none] [] h) from zGo 4 255 0 _ _ _).trans ?_
  refine (gd_t (by decide) _).trans ?_
  rfl
theorem q_In_stringSize_11 {h : zH} {x0 : Int} {x1 : Int}  : zY 255 11 [some (zI x0), some (zI x1), none, none] [] h =
    zY 255 16 [some (zI x0), some (zI x1), some (zI (-10)), some (zI 1)] [] h := by
  refine (show zY 255 11 [some (zI x0), some (zI x1), none, none] [] h = gd (-128 ≤ (-10 : Int) ∧ (-10 : Int) < 128) (gd (inR (1)) (zY 255 16 [some (zI x0), some (zI x1), some (zI (-10)), some (zI 1)] [] h)) from zGo 4 255 11 _ _ _).trans ?_
  refine (gd_t (by decide) _).trans ?_
  refine (gd_t (by decide) _).trans ?_
  rfl
theorem q_In_stringSize_6 {h : zH} {x0 : Int} {x1 : Int}  : zY 255 6 [some (zI x0), some (zI x1), none, none] [] h =
    zY 255 16 [some (zI (zwneg x0)), some (zI 0), some (zI (-10)), some (zI 1)] [] h := by
  refine (show zY 255 6 [some (zI x0), some (zI x1), none, none] [] h = gd (inR (0)) (gd (-128 ≤ (-10 : Int) ∧ (-10 : Int) < 128) (gd (inR (1)) (zY 255 16 [some (zI (zwneg x0)), some (zI 0), some (zI (-10)), some (zI 1)] [] h))) from zGo 9 255 6 _ _ _).trans ?_
  refine (gd_t (by decide) _).trans ?_
  refine (gd_t (by decide) _).trans ?_
  refine (gd_t (by decide) _).trans ?_
  rfl
theorem q_In_stringSize_16 {h : zH} {x0 : Int} {x1 : Int} {x2 : Int} {x3 : Int}  : zY 255 16 [some (zI x0), some (zI x1), some (zI x2), some (zI x3)] [] h =
    if x3 < 10 then zY 255 22 [some (zI x0), some (zI x1), some (zI x2), some (zI x3)] [] h else zY 255 42 [some (zI x0), some (zI x1), some (zI x2), some (zI x3)] [] h := by
  refine (show zY 255 16 [some (zI x0), some (zI x1), some (zI x2), some (zI x3)] [] h = gd (-128 ≤ (10 : Int) ∧ (10 : Int) < 128) (if x3 < 10 then zY 255 22 [some (zI x0), some (zI x1), some (zI x2), some (zI x3)] [] h else zY 255 42 [some (zI x0), some (zI x1), some (zI x2), some (zI x3)] [] h) from zGo 3 255 16 _ _ _).trans ?_
  refine (gd_t (by decide) _).trans ?_
  rfl
theorem q_In_stringSize_22 {h : zH} {x0 : Int} {x1 : Int} {x2 : Int} {x3 : Int}  : zY 255 22 [some (zI x0), some (zI x1), some (zI x2), some (zI x3)] [] h =
    if x2 < x0 then zY 255 27 [some (zI x0), some (zI x1), some (zI x2), some (zI x3)] [] h else zY 255 31 [some (zI x0), some (zI x1), some (zI x2), some (zI x3)] [] h := by
  refine (show zY 255 22 [some (zI x0), some (zI x1), some (zI x2), some (zI x3)] [] h = if x2 < x0 then zY 255 27 [some (zI x0), some (zI x1), some (zI x2), some (zI x3)] [] h else zY 255 31 [some (zI x0), some (zI x1), some (zI x2), some (zI x3)] [] h from zGo 3 255 22 _ _ _).trans ?_
  rfl
theorem q_In_stringSize_42 {h : zH} {x0 : Int} {x1 : Int} {x2 : Int} {x3 : Int}  : zY 255 42 [some (zI x0), some (zI x1), some (zI x2), some (zI x3)] [] h =
    some (.inl (some (zI (zwadd 10 x1))), h) := by
  refine (show zY 255 42 [some (zI x0), some (zI x1), some (zI x2), some (zI x3)] [] h = gd (-128 ≤ (10 : Int) ∧ (10 : Int) < 128) (gd (([] : List zV).isEmpty = true ∧ (zrk 255 = 1 ∨ zrk 255 = 6 ∧ (((zwadd 10 x1) : Int) = 0 ∨ ((zwadd 10 x1) : Int) = 1) ∨ zrk 255 = 7 ∧ (0 : Int) ≤ (zwadd 10 x1) ∧ ((zwadd 10 x1) : Int) < 65536 ∨ zrk 255 = 8 ∧ (-128 : Int) ≤ (zwadd 10 x1) ∧ ((zwadd 10 x1) : Int) < 128)) (some (.inl (some (zI (zwadd 10 x1))), h))) from zGo 4 255 42 _ _ _).trans ?_
  refine (gd_t (by decide) _).trans ?_
  refine (gd_t (⟨rfl, Or.inl rfl⟩) _).trans ?_
  rfl
theorem q_In_stringSize_27 {h : zH} {x0 : Int} {x1 : Int} {x2 : Int} {x3 : Int}  : zY 255 27 [some (zI x0), some (zI x1), some (zI x2), some (zI x3)] [] h =
    some (.inl (some (zI (zwadd x3 x1))), h) := by
  refine (show zY 255 27 [some (zI x0), some (zI x1), some (zI x2), some (zI x3)] [] h = gd (([] : List zV).isEmpty = true ∧ (zrk 255 = 1 ∨ zrk 255 = 6 ∧ (((zwadd x3 x1) : Int) = 0 ∨ ((zwadd x3 x1) : Int) = 1) ∨ zrk 255 = 7 ∧ (0 : Int) ≤ (zwadd x3 x1) ∧ ((zwadd x3 x1) : Int) < 65536 ∨ zrk 255 = 8 ∧ (-128 : Int) ≤ (zwadd x3 x1) ∧ ((zwadd x3 x1) : Int) < 128)) (some (.inl (some (zI (zwadd x3 x1))), h)) from zGo 4 255 27 _ _ _).trans ?_
  refine (gd_t (⟨rfl, Or.inl rfl⟩) _).trans ?_
  rfl
theorem q_In_stringSize_31 {h : zH} {x0 : Int} {x1 : Int} {x2 : Int} {x3 : Int}  : zY 255 31 [some (zI x0), some (zI x1), some (zI x2), some (zI x3)] [] h =
    gd (inR (x3 + 1)) (zY 255 16 [some (zI x0), some (zI x1), some (zI (zwmul 10 x2)), some (zI (x3 + 1))] [] h) := by
  refine (show zY 255 31 [some (zI x0), some (zI x1), some (zI x2), some (zI x3)] [] h = gd (-128 ≤ (10 : Int) ∧ (10 : Int) < 128) (gd (inR (x3 + 1)) (gd (inR (1)) (zY 255 16 [some (zI x0), some (zI x1), some (zI (zwmul 10 x2)), some (zI (x3 + 1))] [] h))) from zGo 6 255 31 _ _ _).trans ?_
  refine (gd_t (by decide) _).trans ?_
  refine gd_c (Iff.rfl) (fun _ => ?_)
  refine (gd_t (by decide) _).trans ?_
  rfl
theorem q_In_getChars {h : zH} {x0 : Int} {x1 : Int} {a2 : Nat}  : zC 256 [zI x0, zI x1, zR (some a2)] h =
    if x0 < 0 then zY 256 7 [some (zI x0), some (zI x1), some (zR (some a2)), none, none, some (zI x1), none] [] h else zY 256 11 [some (zI x0), some (zI x1), some (zR (some a2)), none, none, some (zI x1), none] [] h := by
  refine (show zC 256 [zI x0, zI x1, zR (some a2)] h = if x0 < 0 then zY 256 7 [some (zI x0), some (zI x1), some (zR (some a2)), none, none, some (zI x1), none] [] h else zY 256 11 [some (zI x0), some (zI x1), some (zR (some a2)), none, none, some (zI x1), none] [] h from zGo 4 256 0 _ _ _).trans ?_
  rfl
theorem q_In_getChars_7 {h : zH} {x0 : Int} {x1 : Int} {a2 : Nat} {x5 : Int}  : zY 256 7 [some (zI x0), some (zI x1), some (zR (some a2)), none, none, some (zI x5), none] [] h =
    if (-100) < x0 then zY 256 72 [some (zI x0), some (zI x1), some (zR (some a2)), none, none, some (zI x5), some (zI 1)] [] h else zY 256 28 [some (zI x0), some (zI x1), some (zR (some a2)), none, none, some (zI x5), some (zI 1)] [] h := by
  refine (show zY 256 7 [some (zI x0), some (zI x1), some (zR (some a2)), none, none, some (zI x5), none] [] h = gd (inR (1)) (if (1 : Int) = 0 then zY 256 19 [some (zI x0), some (zI x1), some (zR (some a2)), none, none, some (zI x5), some (zI 1)] [] h else zY 256 22 [some (zI x0), some (zI x1), some (zR (some a2)), none, none, some (zI x5), some (zI 1)] [] h) from zGo 5 256 7 _ _ _).trans ?_
  refine (gd_t (by decide) _).trans ?_
  refine (if_neg (by decide)).trans ?_
  refine (show zY 256 22 [some (zI x0), some (zI x1), some (zR (some a2)), none, none, some (zI x5), some (zI 1)] [] h = gd (-128 ≤ (-100 : Int) ∧ (-100 : Int) < 128) (if (-100) < x0 then zY 256 72 [some (zI x0), some (zI x1), some (zR (some a2)), none, none, some (zI x5), some (zI 1)] [] h else zY 256 28 [some (zI x0), some (zI x1), some (zR (some a2)), none, none, some (zI x5), some (zI 1)] [] h) from zGo 3 256 22 _ _ _).trans ?_
  refine (gd_t (by decide) _).trans ?_
  rfl
theorem q_In_getChars_11 {h : zH} {x0 : Int} {x1 : Int} {a2 : Nat} {x5 : Int}  : zY 256 11 [some (zI x0), some (zI x1), some (zR (some a2)), none, none, some (zI x5), none] [] h =
    zY 256 22 [some (zI (zwneg x0)), some (zI x1), some (zR (some a2)), none, none, some (zI x5), some (zI 0)] [] h := by
  refine (show zY 256 11 [some (zI x0), some (zI x1), some (zR (some a2)), none, none, some (zI x5), none] [] h = gd (inR (0)) (if (0 : Int) = 0 then zY 256 19 [some (zI x0), some (zI x1), some (zR (some a2)), none, none, some (zI x5), some (zI 0)] [] h else zY 256 22 [some (zI x0), some (zI x1), some (zR (some a2)), none, none, some (zI x5), some (zI 0)] [] h) from zGo 4 256 11 _ _ _).trans ?_
  refine (gd_t (by decide) _).trans ?_
  refine (if_pos (by decide)).trans ?_
  refine (show zY 256 19 [some (zI x0), some (zI x1), some (zR (some a2)), none, none, some (zI x5), some (zI 0)] [] h = zY 256 22 [some (zI (zwneg x0)), some (zI x1), some (zR (some a2)), none, none, some (zI x5), some (zI 0)] [] h from zGo 3 256 19 _ _ _).trans ?_
  rfl
theorem q_In_getChars_72 {h : zH} {x0 : Int} {x1 : Int} {a2 : Nat} {x5 : Int} {x6 : Int} (ta2 : hT h a2 = 21) (na2 : a2 < hN h) : zY 256 72 [some (zI x0), some (zI x1), some (zR (some a2)), none, none, some (zI x5), some (zI x6)] [] h =
    gd (inR (x5 + (-1))) (gd (zok h (some (zVB + 56)) 21 (zwneg x0) ∧ zVB ≤ zdr (some (zVB + 56))) (gd ((0 : Int) ≤ (x5 + (-1)) ∧ (x5 + (-1)) < (hL h a2 : Int)) (gd (-128 ≤ ((hI h (zVB + 56) (zwneg x0).toNat) : Int) ∧ ((hI h (zVB + 56) (zwneg x0).toNat) : Int) < 128 ∧ (hT h (zdr (some a2)) = 20 → ((hI h (zVB + 56) (zwneg x0).toNat) : Int) = 0 ∨ ((hI h (zVB + 56) (zwneg x0).toNat) : Int) = 1)) (if x0 < (-9) then zY 256 91 [some (zI x0), some (zI x1), some (zR (some a2)), none, none, some (zI (x5 + (-1))), some (zI x6)] [] (sI h a2 (x5 + (-1)).toNat (hI h (zVB + 56) (zwneg x0).toNat)) else zY 256 104 [some (zI x0), some (zI x1), some (zR (some a2)), none, none, some (zI (x5 + (-1))), some (zI x6)] [] (sI h a2 (x5 + (-1)).toNat (hI h (zVB + 56) (zwneg x0).toNat)))))) := by
  refine (show zY 256 72 [some (zI x0), some (zI x1), some (zR (some a2)), none, none, some (zI x5), some (zI x6)] [] h = gd (inR (x5 + (-1))) (gd (inR (-1)) (gd (zok h (some (zVB + 56)) 21 (zwneg x0) ∧ zVB ≤ zdr (some (zVB + 56))) (gd (zokw h (some a2) 21 (x5 + (-1)) ∨ zokw h (some a2) 20 (x5 + (-1))) (gd (-128 ≤ ((hI h (zVB + 56) (zwneg x0).toNat) : Int) ∧ ((hI h (zVB + 56) (zwneg x0).toNat) : Int) < 128 ∧ (hT h (zdr (some a2)) = 20 → ((hI h (zVB + 56) (zwneg x0).toNat) : Int) = 0 ∨ ((hI h (zVB + 56) (zwneg x0).toNat) : Int) = 1)) (gd (-128 ≤ (-9 : Int) ∧ (-9 : Int) < 128) (if x0 < (-9) then zY 256 91 [some (zI x0), some (zI x1), some (zR (some a2)), none, none, some (zI (x5 + (-1))), some (zI x6)] [] (sI h a2 (x5 + (-1)).toNat (hI h (zVB + 56) (zwneg x0).toNat)) else zY 256 104 [some (zI x0), some (zI x1), some (zR (some a2)), none, none, some (zI (x5 + (-1))), some (zI x6)] [] (sI h a2 (x5 + (-1)).toNat (hI h (zVB + 56) (zwneg x0).toNat)))))))) from zGo 11 256 72 _ _ _).trans ?_
  refine gd_c (Iff.rfl) (fun _ => ?_)
  refine (gd_t (by decide) _).trans ?_
  refine gd_c (Iff.rfl) (fun _ => ?_)
  refine gd_c (cib21 ta2 na2 rfl) (fun _ => ?_)
  refine gd_c (Iff.rfl) (fun _ => ?_)
  refine (gd_t (by decide) _).trans ?_
  rfl
theorem q_In_getChars_22 {h : zH} {x0 : Int} {x1 : Int} {a2 : Nat} {x5 : Int} {x6 : Int}  : zY 256 22 [some (zI x0), some (zI x1), some (zR (some a2)), none, none, some (zI x5), some (zI x6)] [] h =
    if (-100) < x0 then zY 256 72 [some (zI x0), some (zI x1), some (zR (some a2)), none, none, some (zI x5), some (zI x6)] [] h else zY 256 28 [some (zI x0), some (zI x1), some (zR (some a2)), none, none, some (zI x5), some (zI x6)] [] h := by
  refine (show zY 256 22 [some (zI x0), some (zI x1), some (zR (some a2)), none, none, some (zI x5), some (zI x6)] [] h = gd (-128 ≤ (-100 : Int) ∧ (-100 : Int) < 128) (if (-100) < x0 then zY 256 72 [some (zI x0), some (zI x1), some (zR (some a2)), none, none, some (zI x5), some (zI x6)] [] h else zY 256 28 [some (zI x0), some (zI x1), some (zR (some a2)), none, none, some (zI x5), some (zI x6)] [] h) from zGo 3 256 22 _ _ _).trans ?_
  refine (gd_t (by decide) _).trans ?_
  rfl
theorem q_In_getChars_104 {h : zH} {x0 : Int} {x1 : Int} {a2 : Nat} {x5 : Int} {x6 : Int}  : zY 256 104 [some (zI x0), some (zI x1), some (zR (some a2)), none, none, some (zI x5), some (zI x6)] [] h =
    if x6 = 0 then zY 256 118 [some (zI x0), some (zI x1), some (zR (some a2)), none, none, some (zI x5), some (zI x6)] [] h else zY 256 109 [some (zI x0), some (zI x1), some (zR (some a2)), none, none, some (zI x5), some (zI x6)] [] h := by
  refine (show zY 256 104 [some (zI x0), some (zI x1), some (zR (some a2)), none, none, some (zI x5), some (zI x6)] [] h = if x6 = 0 then zY 256 118 [some (zI x0), some (zI x1), some (zR (some a2)), none, none, some (zI x5), some (zI x6)] [] h else zY 256 109 [some (zI x0), some (zI x1), some (zR (some a2)), none, none, some (zI x5), some (zI x6)] [] h from zGo 2 256 104 _ _ _).trans ?_
  rfl
theorem q_In_getChars_118 {h : zH} {x0 : Int} {x1 : Int} {a2 : Nat} {x5 : Int} {x6 : Int}  : zY 256 118 [some (zI x0), some (zI x1), some (zR (some a2)), none, none, some (zI x5), some (zI x6)] [] h =
    some (.inl (some (zI x5)), h) := by
  refine (show zY 256 118 [some (zI x0), some (zI x1), some (zR (some a2)), none, none, some (zI x5), some (zI x6)] [] h = gd (([] : List zV).isEmpty = true ∧ (zrk 256 = 1 ∨ zrk 256 = 6 ∧ ((x5 : Int) = 0 ∨ (x5 : Int) = 1) ∨ zrk 256 = 7 ∧ (0 : Int) ≤ x5 ∧ (x5 : Int) < 65536 ∨ zrk 256 = 8 ∧ (-128 : Int) ≤ x5 ∧ (x5 : Int) < 128)) (some (.inl (some (zI x5)), h)) from zGo 2 256 118 _ _ _).trans ?_
  refine (gd_t (⟨rfl, Or.inl rfl⟩) _).trans ?_
  rfl
theorem q_Su_newLength {h : zH} {x0 : Int} {x1 : Int} {x2 : Int}  : zC 258 [zI x0, zI x1, zI x2] h =
    zBack zY 258 3 6 [some (zI x0), some (zI x1), some (zI x2), none] [zI x0] (zC 223 [zI x1, zI x2] h) := by
  refine (show zC 258 [zI x0, zI x1, zI x2] h = gd (zrecv 223 = 0) (gd (false = zspc 223 ∧ zcs [zI x0] ≤ 8 ∧ zrm 258 (zrf 223 + 1) (8 + (zmaxl 223 + 11) + zrl 223) = true ∧ zcs [zI x1, zI x2] ≤ zmaxl 223) (zBack zY 258 3 6 [some (zI x0), some (zI x1), some (zI x2), none] [zI x0] (zC 223 [zI x1, zI x2] h))) from zGo 4 258 0 _ _ _).trans ?_
  refine (gd_t (rfl) _).trans ?_
  refine (gd_t (⟨rfl, Nat.le_of_ble_eq_true rfl, rfl, Nat.le_of_ble_eq_true rfl⟩) _).trans ?_
  rfl
theorem q_Su_newLength_6 {h : zH} {x0 : Int} {x1 : Int} {x2 : Int} {y0 : Int} {y1 : Int}  : zY 258 6 [some (zI x0), some (zI x1), some (zI x2), none] [zI y1, zI y0] h =
    if (0 : Int) < (zwadd y0 y1) then zY 258 13 [some (zI x0), some (zI x1), some (zI x2), some (zI (zwadd y0 y1))] [] h else zY 258 21 [some (zI x0), some (zI x1), some (zI x2), some (zI (zwadd y0 y1))] [] h := by
  refine (show zY 258 6 [some (zI x0), some (zI x1), some (zI x2), none] [zI y1, zI y0] h = gd (inR (0)) (if (0 : Int) < (zwadd y0 y1) then zY 258 13 [some (zI x0), some (zI x1), some (zI x2), some (zI (zwadd y0 y1))] [] h else zY 258 21 [some (zI x0), some (zI x1), some (zI x2), some (zI (zwadd y0 y1))] [] h) from zGo 5 258 6 _ _ _).trans ?_
  refine (gd_t (by decide) _).trans ?_
  rfl
theorem q_Su_newLength_13 {h : zH} {x0 : Int} {x1 : Int} {x2 : Int} {x3 : Int}  : zY 258 13 [some (zI x0), some (zI x1), some (zI x2), some (zI x3)] [] h =
    if 2147483639 < x3 then zY 258 21 [some (zI x0), some (zI x1), some (zI x2), some (zI x3)] [] h else zY 258 19 [some (zI x0), some (zI x1), some (zI x2), some (zI x3)] [] h := by
  refine (show zY 258 13 [some (zI x0), some (zI x1), some (zI x2), some (zI x3)] [] h = if 2147483639 < x3 then zY 258 21 [some (zI x0), some (zI x1), some (zI x2), some (zI x3)] [] h else zY 258 19 [some (zI x0), some (zI x1), some (zI x2), some (zI x3)] [] h from zGo 3 258 13 _ _ _).trans ?_
  rfl
theorem q_Su_newLength_19 {h : zH} {x0 : Int} {x1 : Int} {x2 : Int} {x3 : Int}  : zY 258 19 [some (zI x0), some (zI x1), some (zI x2), some (zI x3)] [] h =
    some (.inl (some (zI x3)), h) := by
  refine (show zY 258 19 [some (zI x0), some (zI x1), some (zI x2), some (zI x3)] [] h = gd (([] : List zV).isEmpty = true ∧ (zrk 258 = 1 ∨ zrk 258 = 6 ∧ ((x3 : Int) = 0 ∨ (x3 : Int) = 1) ∨ zrk 258 = 7 ∧ (0 : Int) ≤ x3 ∧ (x3 : Int) < 65536 ∨ zrk 258 = 8 ∧ (-128 : Int) ≤ x3 ∧ (x3 : Int) < 128)) (some (.inl (some (zI x3)), h)) from zGo 2 258 19 _ _ _).trans ?_
  refine (gd_t (⟨rfl, Or.inl rfl⟩) _).trans ?_
  rfl
theorem q_La_charAt {h : zH} {a0 : Nat} {x1 : Int} (ta0 : hT h a0 = 21) (na0 : a0 < hN h) : zC 259 [zR (some a0), zI x1] h =
    gd ((0 : Int) ≤ x1 ∧ x1 < (hL h a0 : Int)) (gd ((0 : Int) ≤ x1 ∧ x1 < (hL h a0 : Int)) (gd (([] : List zV).isEmpty = true ∧ (zrk 259 = 1 ∨ zrk 259 = 6 ∧ (((zi2c (zand (hI h a0 x1.toNat) 255)) : Int) = 0 ∨ ((zi2c (zand (hI h a0 x1.toNat) 255)) : Int) = 1) ∨ zrk 259 = 7 ∧ (0 : Int) ≤ (zi2c (zand (hI h a0 x1.toNat) 255)) ∧ ((zi2c (zand (hI h a0 x1.toNat) 255)) : Int) < 65536 ∨ zrk 259 = 8 ∧ (-128 : Int) ≤ (zi2c (zand (hI h a0 x1.toNat) 255)) ∧ ((zi2c (zand (hI h a0 x1.toNat) 255)) : Int) < 128)) (some (.inl (some (zI (zi2c (zand (hI h a0 x1.toNat) 255)))), h)))) := by
  refine (show zC 259 [zR (some a0), zI x1] h = gd ((some a0).isSome = true ∧ 20 ≤ hT h (zdr (some a0)) ∧ hT h (zdr (some a0)) < 40) (gd (932 = 930 ∨ 932 = 932) (gd ((0 : Int) ≤ x1 ∧ x1 < (hL h a0 : Int) ∧ zcs [] ≤ 8 ∧ zrm 259 6 200 = true) (gd (zokw h (some a0) 21 x1 ∨ zokw h (some a0) 20 x1) (gd (-32768 ≤ (255 : Int) ∧ (255 : Int) < 32768) (gd (([] : List zV).isEmpty = true ∧ (zrk 259 = 1 ∨ zrk 259 = 6 ∧ (((zi2c (zand (hI h a0 x1.toNat) 255)) : Int) = 0 ∨ ((zi2c (zand (hI h a0 x1.toNat) 255)) : Int) = 1) ∨ zrk 259 = 7 ∧ (0 : Int) ≤ (zi2c (zand (hI h a0 x1.toNat) 255)) ∧ ((zi2c (zand (hI h a0 x1.toNat) 255)) : Int) < 65536 ∨ zrk 259 = 8 ∧ (-128 : Int) ≤ (zi2c (zand (hI h a0 x1.toNat) 255)) ∧ ((zi2c (zand (hI h a0 x1.toNat) 255)) : Int) < 128)) (some (.inl (some (zI (zi2c (zand (hI h a0 x1.toNat) 255)))), h))))))) from zGo 11 259 0 _ _ _).trans ?_
  refine (gd_t (al ta0 (by decide) (by decide)) _).trans ?_
  refine (gd_t (by decide) _).trans ?_
  refine gd_c (⟨fun a => ⟨a.1, a.2.1⟩, fun a => ⟨a.1, a.2, Nat.le_of_ble_eq_true rfl, rfl⟩⟩) (fun _ => ?_)
  refine gd_c (cib21 ta0 na0 rfl) (fun _ => ?_)
  refine (gd_t (by decide) _).trans ?_
  refine gd_c (Iff.rfl) (fun _ => ?_)
  rfl
theorem q_La_canEncode {h : zH} {x0 : Int}  : zC 260 [zI x0] h =
    if 255 < x0 then zY 260 11 [some (zI x0)] [] h else zY 260 7 [some (zI x0)] [] h := by
  refine (show zC 260 [zI x0] h = gd (-32768 ≤ (255 : Int) ∧ (255 : Int) < 32768) (if 255 < x0 then zY 260 11 [some (zI x0)] [] h else zY 260 7 [some (zI x0)] [] h) from zGo 3 260 0 _ _ _).trans ?_
  refine (gd_t (by decide) _).trans ?_
  rfl
theorem q_La_canEncode_11 {h : zH} {x0 : Int}  : zY 260 11 [some (zI x0)] [] h =
    some (.inl (some (zI 0)), h) := by
  refine (show zY 260 11 [some (zI x0)] [] h = gd (inR (0)) (gd (([] : List zV).isEmpty = true ∧ (zrk 260 = 1 ∨ zrk 260 = 6 ∧ ((0 : Int) = 0 ∨ (0 : Int) = 1) ∨ zrk 260 = 7 ∧ (0 : Int) ≤ 0 ∧ (0 : Int) < 65536 ∨ zrk 260 = 8 ∧ (-128 : Int) ≤ 0 ∧ (0 : Int) < 128)) (some (.inl (some (zI 0)), h))) from zGo 2 260 11 _ _ _).trans ?_
  refine (gd_t (by decide) _).trans ?_
  refine (gd_t (⟨rfl, Or.inr (Or.inl ⟨rfl, by decide⟩)⟩) _).trans ?_
  rfl
theorem q_La_canEncode_7 {h : zH} {x0 : Int}  : zY 260 7 [some (zI x0)] [] h =
    some (.inl (some (zI 1)), h) := by
  refine (show zY 260 7 [some (zI x0)] [] h = gd (inR (1)) (gd (([] : List zV).isEmpty = true ∧ (zrk 260 = 1 ∨ zrk 260 = 6 ∧ ((1 : Int) = 0 ∨ (1 : Int) = 1) ∨ zrk 260 = 7 ∧ (0 : Int) ≤ 1 ∧ (1 : Int) < 65536 ∨ zrk 260 = 8 ∧ (-128 : Int) ≤ 1 ∧ (1 : Int) < 128)) (some (.inl (some (zI 1)), h))) from zGo 3 260 7 _ _ _).trans ?_
  refine (gd_t (by decide) _).trans ?_
  refine (gd_t (⟨rfl, Or.inr (Or.inl ⟨rfl, by decide⟩)⟩) _).trans ?_
  rfl
theorem q_Ma_max {h : zH} {x0 : Int} {x1 : Int}  : zC 223 [zI x0, zI x1] h =
    if x0 < x1 then zY 223 9 [some (zI x0), some (zI x1)] [] h else zY 223 5 [some (zI x0), some (zI x1)] [] h := by
  refine (show zC 223 [zI x0, zI x1] h = if x0 < x1 then zY 223 9 [some (zI x0), some (zI x1)] [] h else zY 223 5 [some (zI x0), some (zI x1)] [] h from zGo 3 223 0 _ _ _).trans ?_
  rfl
theorem q_Ma_max_9 {h : zH} {x0 : Int} {x1 : Int}  : zY 223 9 [some (zI x0), some (zI x1)] [] h =
    some (.inl (some (zI x1)), h) := by
  refine (show zY 223 9 [some (zI x0), some (zI x1)] [] h = gd (([] : List zV).isEmpty = true ∧ (zrk 223 = 1 ∨ zrk 223 = 6 ∧ ((x1 : Int) = 0 ∨ (x1 : Int) = 1))) (some (.inl (some (zI x1)), h)) from zGo 2 223 9 _ _ _).trans ?_
  refine (gd_t (⟨rfl, Or.inl rfl⟩) _).trans ?_
  rfl
theorem q_Ma_max_5 {h : zH} {x0 : Int} {x1 : Int}  : zY 223 5 [some (zI x0), some (zI x1)] [] h =
    some (.inl (some (zI x0)), h) := by
  refine (show zY 223 5 [some (zI x0), some (zI x1)] [] h = gd (([] : List zV).isEmpty = true ∧ (zrk 223 = 1 ∨ zrk 223 = 6 ∧ ((x0 : Int) = 0 ∨ (x0 : Int) = 1))) (some (.inl (some (zI x0)), h)) from zGo 3 223 5 _ _ _).trans ?_
  refine (gd_t (⟨rfl, Or.inl rfl⟩) _).trans ?_
  rfl
theorem q_Ma_min {h : zH} {x0 : Int} {x1 : Int}  : zC 224 [zI x0, zI x1] h =
    if x1 < x0 then zY 224 9 [some (zI x0), some (zI x1)] [] h else zY 224 5 [some (zI x0), some (zI x1)] [] h := by
  refine (show zC 224 [zI x0, zI x1] h = if x1 < x0 then zY 224 9 [some (zI x0), some (zI x1)] [] h else zY 224 5 [some (zI x0), some (zI x1)] [] h from zGo 3 224 0 _ _ _).trans ?_
  rfl
theorem q_Ma_min_9 {h : zH} {x0 : Int} {x1 : Int}  : zY 224 9 [some (zI x0), some (zI x1)] [] h =
    some (.inl (some (zI x1)), h) := by
  refine (show zY 224 9 [some (zI x0), some (zI x1)] [] h = gd (([] : List zV).isEmpty = true ∧ (zrk 224 = 1 ∨ zrk 224 = 6 ∧ ((x1 : Int) = 0 ∨ (x1 : Int) = 1))) (some (.inl (some (zI x1)), h)) from zGo 2 224 9 _ _ _).trans ?_
  refine (gd_t (⟨rfl, Or.inl rfl⟩) _).trans ?_
  rfl
theorem q_Ma_min_5 {h : zH} {x0 : Int} {x1 : Int}  : zY 224 5 [some (zI x0), some (zI x1)] [] h =
    some (.inl (some (zI x0)), h) := by
  refine (show zY 224 5 [some (zI x0), some (zI x1)] [] h = gd (([] : List zV).isEmpty = true ∧ (zrk 224 = 1 ∨ zrk 224 = 6 ∧ ((x0 : Int) = 0 ∨ (x0 : Int) = 1))) (some (.inl (some (zI x0)), h)) from zGo 3 224 5 _ _ _).trans ?_
  refine (gd_t (⟨rfl, Or.inl rfl⟩) _).trans ?_
  rfl
theorem q_Ar_copyOfRange {h : zH} {a0 : Nat} {x1 : Int} {x2 : Int}  : zC 229 [zR (some a0), zI x1, zI x2] h =
    if x1 = 0 then zY 229 4 [some (zR (some a0)), some (zI x1), some (zI x2)] [] h else zY 229 10 [some (zR (some a0)), some (zI x1), some (zI x2)] [] h := by
  refine (show zC 229 [zR (some a0), zI x1, zI x2] h = if x1 = 0 then zY 229 4 [some (zR (some a0)), some (zI x1), some (zI x2)] [] h else zY 229 10 [some (zR (some a0)), some (zI x1), some (zI x2)] [] h from zGo 2 229 0 _ _ _).trans ?_
  rfl
theorem q_Ar_copyOfRange_4 {h : zH} {a0 : Nat} {x1 : Int} {x2 : Int} (ta0 : hT h a0 = 21) : zY 229 4 [some (zR (some a0)), some (zI x1), some (zI x2)] [] h =
    if x2 = (hL h a0 : Int) then zY 229 17 [some (zR (some a0)), some (zI x1), some (zI x2)] [] h else zY 229 10 [some (zR (some a0)), some (zI x1), some (zI x2)] [] h := by
  refine (show zY 229 4 [some (zR (some a0)), some (zI x1), some (zI x2)] [] h = gd ((some a0).isSome = true ∧ 20 ≤ hT h (zdr (some a0)) ∧ hT h (zdr (some a0)) < 40) (if x2 = (hL h a0 : Int) then zY 229 17 [some (zR (some a0)), some (zI x1), some (zI x2)] [] h else zY 229 10 [some (zR (some a0)), some (zI x1), some (zI x2)] [] h) from zGo 4 229 4 _ _ _).trans ?_
  refine (gd_t (al ta0 (by decide) (by decide)) _).trans ?_
  rfl
theorem q_Ar_copyOfRange_10 {h : zH} {a0 : Nat} {x1 : Int} {x2 : Int}  : zY 229 10 [some (zR (some a0)), some (zI x1), some (zI x2)] [] h =
    zBack zY 229 13 16 [some (zR (some a0)), some (zI x1), some (zI x2)] [] (zC 230 [zR (some a0), zI x1, zI x2] h) := by
  refine (show zY 229 10 [some (zR (some a0)), some (zI x1), some (zI x2)] [] h = gd (zrecv 230 = 0) (gd (false = zspc 230 ∧ zcs [] ≤ 8 ∧ zrm 229 (zrf 230 + 1) (8 + (zmaxl 230 + 11) + zrl 230) = true ∧ zcs [zR (some a0), zI x1, zI x2] ≤ zmaxl 230) (zBack zY 229 13 16 [some (zR (some a0)), some (zI x1), some (zI x2)] [] (zC 230 [zR (some a0), zI x1, zI x2] h))) from zGo 4 229 10 _ _ _).trans ?_
  refine (gd_t (rfl) _).trans ?_
  refine (gd_t (⟨rfl, Nat.le_of_ble_eq_true rfl, rfl, Nat.le_of_ble_eq_true rfl⟩) _).trans ?_
  rfl
theorem q_Ar_copyOfRange_17 {h : zH} {a0 : Nat} {x1 : Int} {x2 : Int}  : zY 229 17 [some (zR (some a0)), some (zI x1), some (zI x2)] [] h =
    gd (zob h (some a0) 21 ∧ hL h (zdr (some a0)) < 65536 ∧ zcs [] ≤ 8 ∧ zrm 229 6 200 = true) (some (.inl (some (zR (some (hN h)))), (hCl h a0))) := by
  refine (show zY 229 17 [some (zR (some a0)), some (zI x1), some (zI x2)] [] h = gd (931 = 908 ∨ 931 = 909 ∨ 931 = 920 ∨ 931 = 921 ∨ 931 = 931) (gd (zob h (some a0) 21 ∧ hL h (zdr (some a0)) < 65536 ∧ zcs [] ≤ 8 ∧ zrm 229 6 200 = true) (gd ((21 : Nat) = 21 ∧ zob (hCl h a0) (some (hN h)) 21) (gd (([] : List zV).isEmpty = true ∧ zrk 229 = 5) (some (.inl (some (zR (some (hN h)))), (hCl h a0)))))) from zGo 4 229 17 _ _ _).trans ?_
  refine (gd_t (by decide) _).trans ?_
  refine gd_c (Iff.rfl) (fun _ => ?_)
  refine (gd_t (⟨rfl, ⟨rfl, if_pos rfl, Nat.lt_succ_self _⟩⟩) _).trans ?_
  refine (gd_t (⟨rfl, rfl⟩) _).trans ?_
  rfl
theorem q_Ar_copyOfRange_16 {h : zH} {a0 : Nat} {x1 : Int} {x2 : Int} {y0 : Nat}  : zY 229 16 [some (zR (some a0)), some (zI x1), some (zI x2)] [zR (some y0)] h =
    some (.inl (some (zR (some y0))), h) := by
  refine (show zY 229 16 [some (zR (some a0)), some (zI x1), some (zI x2)] [zR (some y0)] h = gd (([] : List zV).isEmpty = true ∧ zrk 229 = 5) (some (.inl (some (zR (some y0))), h)) from zGo 1 229 16 _ _ _).trans ?_
  refine (gd_t (⟨rfl, rfl⟩) _).trans ?_
  rfl
theorem q_Ar_copyOfRangeByte {h : zH} {a0 : Nat} {x1 : Int} {x2 : Int}  : zC 230 [zR (some a0), zI x1, zI x2] h =
    zBack zY 230 2 5 [some (zR (some a0)), some (zI x1), some (zI x2), none, none] [] (zC 231 [zI x1, zI x2] h) := by
  refine (show zC 230 [zR (some a0), zI x1, zI x2] h = gd (zrecv 231 = 0) (gd (false = zspc 231 ∧ zcs [] ≤ 8 ∧ zrm 230 (zrf 231 + 1) (8 + (zmaxl 231 + 11) + zrl 231) = true ∧ zcs [zI x1, zI x2] ≤ zmaxl 231) (zBack zY 230 2 5 [some (zR (some a0)), some (zI x1), some (zI x2), none, none] [] (zC 231 [zI x1, zI x2] h))) from zGo 3 230 0 _ _ _).trans ?_
  refine (gd_t (rfl) _).trans ?_
  refine (gd_t (⟨rfl, Nat.le_of_ble_eq_true rfl, rfl, Nat.le_of_ble_eq_true rfl⟩) _).trans ?_
  rfl
theorem q_Ar_copyOfRangeByte_5 {h : zH} {a0 : Nat} {x1 : Int} {x2 : Int}  : zY 230 5 [some (zR (some a0)), some (zI x1), some (zI x2), none, none] [] h =
    gd ((0 : Int) ≤ (zwsub x2 x1) ∧ (zwsub x2 x1) < 65536) (gd ((some a0).isSome = true ∧ 20 ≤ hT (hNew h 21 (zwsub x2 x1).toNat) (zdr (some a0)) ∧ hT (hNew h 21 (zwsub x2 x1).toNat) (zdr (some a0)) < 40) (zBack zY 230 24 27 [some (zR (some a0)), some (zI x1), some (zI x2), some (zI (zwsub x2 x1)), some (zR (some (hN h)))] [zI 0, zR (some (hN h)), zI x1, zR (some a0)] (zC 224 [zI (zwsub (hL (hNew h 21 (zwsub x2 x1).toNat) a0 : Int) x1), zI (zwsub x2 x1)] (hNew h 21 (zwsub x2 x1).toNat)))) := by
  refine (show zY 230 5 [some (zR (some a0)), some (zI x1), some (zI x2), none, none] [] h = gd ((0 : Int) ≤ (zwsub x2 x1) ∧ (zwsub x2 x1) < 65536) (gd (inR (0)) (gd ((some a0).isSome = true ∧ 20 ≤ hT (hNew h 21 (zwsub x2 x1).toNat) (zdr (some a0)) ∧ hT (hNew h 21 (zwsub x2 x1).toNat) (zdr (some a0)) < 40) (gd (zrecv 224 = 0) (gd (false = zspc 224 ∧ zcs [zI 0, zR (some (hN h)), zI x1, zR (some a0)] ≤ 8 ∧ zrm 230 (zrf 224 + 1) (8 + (zmaxl 224 + 11) + zrl 224) = true ∧ zcs [zI (zwsub (hL (hNew h 21 (zwsub x2 x1).toNat) a0 : Int) x1), zI (zwsub x2 x1)] ≤ zmaxl 224) (zBack zY 230 24 27 [some (zR (some a0)), some (zI x1), some (zI x2), some (zI (zwsub x2 x1)), some (zR (some (hN h)))] [zI 0, zR (some (hN h)), zI x1, zR (some a0)] (zC 224 [zI (zwsub (hL (hNew h 21 (zwsub x2 x1).toNat) a0 : Int) x1), zI (zwsub x2 x1)] (hNew h 21 (zwsub x2 x1).toNat))))))) from zGo 17 230 5 _ _ _).trans ?_
  refine gd_c (Iff.rfl) (fun _ => ?_)
  refine (gd_t (by decide) _).trans ?_
  refine gd_c (Iff.rfl) (fun _ => ?_)
  refine (gd_t (rfl) _).trans ?_
  refine (gd_t (⟨rfl, Nat.le_of_ble_eq_true rfl, rfl, Nat.le_of_ble_eq_true rfl⟩) _).trans ?_
  rfl
theorem q_Ar_copyOfRangeByte_27 {h : zH} {a0 : Nat} {x1 : Int} {x2 : Int} {x3 : Int} {a4 : Nat} {y0 : Nat} {y1 : Int} {y2 : Nat} {y3 : Int} {y4 : Int}  : zY 230 27 [some (zR (some a0)), some (zI x1), some (zI x2), some (zI x3), some (zR (some a4))] [zI y4, zI y3, zR (some y2), zI y1, zR (some y0)] h =
    gd (zob h (some y0) 21 ∧ zob h (some y2) 21 ∧ zdr (some y0) ≠ zdr (some y2) ∧ (0 : Int) ≤ y1 ∧ (0 : Int) ≤ y3 ∧ (0 : Int) ≤ y4 ∧ y1 + y4 ≤ (hL h (zdr (some y0)) : Int) ∧ y3 + y4 ≤ (hL h (zdr (some y2)) : Int) ∧ zcs [] ≤ 8 ∧ zrm 230 6 200 = true) (some (.inl (some (zR (some a4))), (hAc h y0 y1.toNat y2 y3.toNat y4.toNat))) := by
  refine (show zY 230 27 [some (zR (some a0)), some (zI x1), some (zI x2), some (zI x3), some (zR (some a4))] [zI y4, zI y3, zR (some y2), zI y1, zR (some y0)] h = gd (930 = 930 ∨ 930 = 932) (gd (zob h (some y0) 21 ∧ zob h (some y2) 21 ∧ zdr (some y0) ≠ zdr (some y2) ∧ (0 : Int) ≤ y1 ∧ (0 : Int) ≤ y3 ∧ (0 : Int) ≤ y4 ∧ y1 + y4 ≤ (hL h (zdr (some y0)) : Int) ∧ y3 + y4 ≤ (hL h (zdr (some y2)) : Int) ∧ zcs [] ≤ 8 ∧ zrm 230 6 200 = true) (gd (([] : List zV).isEmpty = true ∧ zrk 230 = 5) (some (.inl (some (zR (some a4))), (hAc h y0 y1.toNat y2 y3.toNat y4.toNat))))) from zGo 3 230 27 _ _ _).trans ?_
  refine (gd_t (by decide) _).trans ?_
  refine gd_c (Iff.rfl) (fun _ => ?_)
  refine (gd_t (⟨rfl, rfl⟩) _).trans ?_
  rfl
theorem q_Ar_checkLength {h : zH} {x0 : Int} {x1 : Int}  : zC 231 [zI x0, zI x1] h =
    if x1 < x0 then zY 231 5 [some (zI x0), some (zI x1)] [] h else zY 231 37 [some (zI x0), some (zI x1)] [] h := by
  refine (show zC 231 [zI x0, zI x1] h = if x1 < x0 then zY 231 5 [some (zI x0), some (zI x1)] [] h else zY 231 37 [some (zI x0), some (zI x1)] [] h from zGo 3 231 0 _ _ _).trans ?_
  rfl
theorem q_Ar_checkLength_37 {h : zH} {x0 : Int} {x1 : Int}  : zY 231 37 [some (zI x0), some (zI x1)] [] h =
    some (.inl (none), h) := by
  refine (show zY 231 37 [some (zI x0), some (zI x1)] [] h = gd (([] : List zV).isEmpty = true ∧ zrk 231 = 0) (some (.inl (none), h)) from zGo 1 231 37 _ _ _).trans ?_
  refine (gd_t (⟨rfl, rfl⟩) _).trans ?_
  rfl
