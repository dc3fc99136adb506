/-! The reference: methods that only read. -/
abbrev b_M_in (x0 : Int) (x1 : Int) (x2 : Int) : Prop :=
  x1 ≤ x0 ∧ x0 ≤ x2
theorem e_M_in {h : zH} {x0 : Int} {x1 : Int} {x2 : Int} : zC 214 [zI x0, zI x1, zI x2] h = some (.inl (some (zI (if b_M_in x0 x1 x2 then (1 : Int) else 0))), h) := by
  refine (show zC 214 [zI x0, zI x1, zI x2] h = if x0 < x1 then zY 214 14 [some (zI x0), some (zI x1), some (zI x2)] [] h else zY 214 5 [some (zI x0), some (zI x1), some (zI x2)] [] h from zGo 3 214 0 _ _ _).trans ?_
  refine ite_x (fun c0 => ?_) (fun c0 => ?_)
  · skip
    refine (show zY 214 14 [some (zI x0), some (zI x1), some (zI x2)] [] h = gd (inR (0)) (gd (([] : List zV).isEmpty = true ∧ (zrk 214 = 1 ∨ zrk 214 = 6 ∧ ((0 : Int) = 0 ∨ (0 : Int) = 1))) (some (.inl (some (zI 0)), h))) from zGo 2 214 14 _ _ _).trans ?_
    refine (gd_t (by decide) _).trans ?_
    refine (gd_t (⟨rfl, Or.inr ⟨rfl, by decide⟩⟩) _).trans ?_
    exact retI (by first | rfl | (exact (if_pos (by unfold b_M_in; omega)).symm) | (exact (if_neg (by unfold b_M_in; omega)).symm) | (exact ifc_congr (by unfold b_M_in; simp_all)) | (unfold b_M_in; simp_all))
  · skip
    refine (show zY 214 5 [some (zI x0), some (zI x1), some (zI x2)] [] h = if x2 < x0 then zY 214 14 [some (zI x0), some (zI x1), some (zI x2)] [] h else zY 214 10 [some (zI x0), some (zI x1), some (zI x2)] [] h from zGo 3 214 5 _ _ _).trans ?_
    refine ite_x (fun c1 => ?_) (fun c1 => ?_)
    · skip
      refine (show zY 214 14 [some (zI x0), some (zI x1), some (zI x2)] [] h = gd (inR (0)) (gd (([] : List zV).isEmpty = true ∧ (zrk 214 = 1 ∨ zrk 214 = 6 ∧ ((0 : Int) = 0 ∨ (0 : Int) = 1))) (some (.inl (some (zI 0)), h))) from zGo 2 214 14 _ _ _).trans ?_
      refine (gd_t (by decide) _).trans ?_
      refine (gd_t (⟨rfl, Or.inr ⟨rfl, by decide⟩⟩) _).trans ?_
      exact retI (by first | rfl | (exact (if_pos (by unfold b_M_in; omega)).symm) | (exact (if_neg (by unfold b_M_in; omega)).symm) | (exact ifc_congr (by unfold b_M_in; simp_all)) | (unfold b_M_in; simp_all))
    · skip
      refine (show zY 214 10 [some (zI x0), some (zI x1), some (zI x2)] [] h = gd (inR (1)) (gd (([] : List zV).isEmpty = true ∧ (zrk 214 = 1 ∨ zrk 214 = 6 ∧ ((1 : Int) = 0 ∨ (1 : Int) = 1))) (some (.inl (some (zI 1)), h))) from zGo 3 214 10 _ _ _).trans ?_
      refine (gd_t (by decide) _).trans ?_
      refine (gd_t (⟨rfl, Or.inr ⟨rfl, by decide⟩⟩) _).trans ?_
      exact retI (by first | rfl | (exact (if_pos (by unfold b_M_in; omega)).symm) | (exact (if_neg (by unfold b_M_in; omega)).symm) | (exact ifc_congr (by unfold b_M_in; simp_all)) | (unfold b_M_in; simp_all))
abbrev b_M_holds (x0 : BitVec 64) (x2 : Int) : Prop :=
  ((zlushr x0 x2) &&& (1#64)) = 1#64
theorem e_M_holds {h : zH} {x0 : BitVec 64} {x2 : Int} : zC 260 [zJ x0, zI x2] h = some (.inl (some (zI (if b_M_holds x0 x2 then (1 : Int) else 0))), h) := by
  refine (show zC 260 [zJ x0, zI x2] h = if (zlcmp ((zlushr x0 x2) &&& (1#64)) (1#64)) = 0 then zY 260 10 [some (zJ x0), none, some (zI x2)] [] h else zY 260 14 [some (zJ x0), none, some (zI x2)] [] h from zGo 8 260 0 _ _ _).trans ?_
  refine iteL_x (fun c0 => ?_) (fun c0 => ?_)
  · skip
    refine (show zY 260 10 [some (zJ x0), none, some (zI x2)] [] h = gd (inR (1)) (gd (([] : List zV).isEmpty = true ∧ (zrk 260 = 1 ∨ zrk 260 = 6 ∧ ((1 : Int) = 0 ∨ (1 : Int) = 1))) (some (.inl (some (zI 1)), h))) from zGo 3 260 10 _ _ _).trans ?_
    refine (gd_t (by decide) _).trans ?_
    refine (gd_t (⟨rfl, Or.inr ⟨rfl, by decide⟩⟩) _).trans ?_
    exact retI (by first | rfl | (exact (if_pos (by unfold b_M_holds; omega)).symm) | (exact (if_neg (by unfold b_M_holds; omega)).symm) | (exact ifc_congr (by unfold b_M_holds; simp_all)) | (unfold b_M_holds; simp_all))
  · skip
    refine (show zY 260 14 [some (zJ x0), none, some (zI x2)] [] h = gd (inR (0)) (gd (([] : List zV).isEmpty = true ∧ (zrk 260 = 1 ∨ zrk 260 = 6 ∧ ((0 : Int) = 0 ∨ (0 : Int) = 1))) (some (.inl (some (zI 0)), h))) from zGo 2 260 14 _ _ _).trans ?_
    refine (gd_t (by decide) _).trans ?_
    refine (gd_t (⟨rfl, Or.inr ⟨rfl, by decide⟩⟩) _).trans ?_
    exact retI (by first | rfl | (exact (if_pos (by unfold b_M_holds; omega)).symm) | (exact (if_neg (by unfold b_M_holds; omega)).symm) | (exact ifc_congr (by unfold b_M_holds; simp_all)) | (unfold b_M_holds; simp_all))
def f_M_arity (x0 : Int) : Int :=
  if x0 = 14 then
    1
  else
    if x0 < 7 then
      0
    else
      if x0 = 10 then
        0
      else
        if x0 = 11 then
          0
        else
          2
theorem e_M_arity {h : zH} {x0 : Int} : zC 227 [zI x0] h = some (.inl (some (zI (f_M_arity x0))), h) := by
  show _ = (some (.inl (some (zI (
    if x0 = 14 then
      1
    else
      if x0 < 7 then
        0
      else
        if x0 = 10 then
          0
        else
          if x0 = 11 then
            0
          else
            2))), h) : zO)
  refine (show zC 227 [zI x0] h = gd (-128 ≤ (14 : Int) ∧ (14 : Int) < 128) (if x0 = 14 then zY 227 6 [some (zI x0)] [] h else zY 227 10 [some (zI x0)] [] h) from zGo 3 227 0 _ _ _).trans ?_
  refine (gd_t (by decide) _).trans ?_
  refine iteCF (fun x => (some (.inl (some (zI x)), h) : zO)) (fun c0 => ?_) (fun c0 => ?_)
  · skip
    refine (show zY 227 6 [some (zI x0)] [] h = gd (inR (1)) (gd (([] : List zV).isEmpty = true ∧ (zrk 227 = 1 ∨ zrk 227 = 6 ∧ ((1 : Int) = 0 ∨ (1 : Int) = 1))) (some (.inl (some (zI 1)), h))) from zGo 3 227 6 _ _ _).trans ?_
    refine (gd_t (by decide) _).trans ?_
    refine (gd_t (⟨rfl, Or.inl rfl⟩) _).trans ?_
    rfl
  · skip
    refine (show zY 227 10 [some (zI x0)] [] h = gd (-128 ≤ (7 : Int) ∧ (7 : Int) < 128) (if x0 < 7 then zY 227 28 [some (zI x0)] [] h else zY 227 16 [some (zI x0)] [] h) from zGo 3 227 10 _ _ _).trans ?_
    refine (gd_t (by decide) _).trans ?_
    refine iteCF (fun x => (some (.inl (some (zI x)), h) : zO)) (fun c1 => ?_) (fun c1 => ?_)
    · skip
      refine (show zY 227 28 [some (zI x0)] [] h = gd (inR (0)) (gd (([] : List zV).isEmpty = true ∧ (zrk 227 = 1 ∨ zrk 227 = 6 ∧ ((0 : Int) = 0 ∨ (0 : Int) = 1))) (some (.inl (some (zI 0)), h))) from zGo 3 227 28 _ _ _).trans ?_
      refine (gd_t (by decide) _).trans ?_
      refine (gd_t (⟨rfl, Or.inl rfl⟩) _).trans ?_
      rfl
    · skip
      refine (show zY 227 16 [some (zI x0)] [] h = gd (-128 ≤ (10 : Int) ∧ (10 : Int) < 128) (if x0 = 10 then zY 227 28 [some (zI x0)] [] h else zY 227 22 [some (zI x0)] [] h) from zGo 3 227 16 _ _ _).trans ?_
      refine (gd_t (by decide) _).trans ?_
      refine iteCF (fun x => (some (.inl (some (zI x)), h) : zO)) (fun c2 => ?_) (fun c2 => ?_)
      · skip
        refine (show zY 227 28 [some (zI x0)] [] h = gd (inR (0)) (gd (([] : List zV).isEmpty = true ∧ (zrk 227 = 1 ∨ zrk 227 = 6 ∧ ((0 : Int) = 0 ∨ (0 : Int) = 1))) (some (.inl (some (zI 0)), h))) from zGo 3 227 28 _ _ _).trans ?_
        refine (gd_t (by decide) _).trans ?_
        refine (gd_t (⟨rfl, Or.inl rfl⟩) _).trans ?_
        rfl
      · skip
        refine (show zY 227 22 [some (zI x0)] [] h = gd (-128 ≤ (11 : Int) ∧ (11 : Int) < 128) (if x0 = 11 then zY 227 28 [some (zI x0)] [] h else zY 227 32 [some (zI x0)] [] h) from zGo 3 227 22 _ _ _).trans ?_
        refine (gd_t (by decide) _).trans ?_
        refine iteCF (fun x => (some (.inl (some (zI x)), h) : zO)) (fun c3 => ?_) (fun c3 => ?_)
        · skip
          refine (show zY 227 28 [some (zI x0)] [] h = gd (inR (0)) (gd (([] : List zV).isEmpty = true ∧ (zrk 227 = 1 ∨ zrk 227 = 6 ∧ ((0 : Int) = 0 ∨ (0 : Int) = 1))) (some (.inl (some (zI 0)), h))) from zGo 3 227 28 _ _ _).trans ?_
          refine (gd_t (by decide) _).trans ?_
          refine (gd_t (⟨rfl, Or.inl rfl⟩) _).trans ?_
          rfl
        · skip
          refine (show zY 227 32 [some (zI x0)] [] h = gd (inR (2)) (gd (([] : List zV).isEmpty = true ∧ (zrk 227 = 1 ∨ zrk 227 = 6 ∧ ((2 : Int) = 0 ∨ (2 : Int) = 1))) (some (.inl (some (zI 2)), h))) from zGo 2 227 32 _ _ _).trans ?_
          refine (gd_t (by decide) _).trans ?_
          refine (gd_t (⟨rfl, Or.inl rfl⟩) _).trans ?_
          rfl
def f_M_valueIn (x0 : Int) (x1 : Int) : Int :=
  (zand (zshr x0 (2 * x1)) 3)
theorem e_M_valueIn {h : zH} {x0 : Int} {x1 : Int} (g0 : (-2147483648 ≤ 2 * x1 ∧ 2 * x1 < 2147483648) := by omega) : zC 252 [zI x0, zI x1] h = some (.inl (some (zI (f_M_valueIn x0 x1))), h) := by
  show _ = (some (.inl (some (zI (
    (zand (zshr x0 (2 * x1)) 3)))), h) : zO)
  refine (show zC 252 [zI x0, zI x1] h = gd (inR (2)) (gd (inR (2 * x1)) (gd (inR (3)) (gd (([] : List zV).isEmpty = true ∧ (zrk 252 = 1 ∨ zrk 252 = 6 ∧ (((zand (zshr x0 (2 * x1)) 3) : Int) = 0 ∨ ((zand (zshr x0 (2 * x1)) 3) : Int) = 1))) (some (.inl (some (zI (zand (zshr x0 (2 * x1)) 3))), h))))) from zGo 8 252 0 _ _ _).trans ?_
  refine (gd_t (by decide) _).trans ?_
  refine (gd_t ((Iff.rfl).2 (g0)) _).trans ?_
  refine (gd_t (by decide) _).trans ?_
  refine (gd_t (⟨rfl, Or.inl rfl⟩) _).trans ?_
  rfl
def f_M_changed (x0 : Int) (x1 : Int) (x2 : Int) : Int :=
  ((x0 - (zshl (f_M_valueIn x0 x1) (2 * x1))) + (zshl x2 (2 * x1)))
theorem e_M_changed {h : zH} {x0 : Int} {x1 : Int} {x2 : Int} (g0 : (-2147483648 ≤ 2 * x1 ∧ 2 * x1 < 2147483648) := by omega) (g1 : (-2147483648 ≤ x0 - (zshl (f_M_valueIn x0 x1) (2 * x1)) ∧ x0 - (zshl (f_M_valueIn x0 x1) (2 * x1)) < 2147483648) := by omega) (g2 : (-2147483648 ≤ (x0 - (zshl (f_M_valueIn x0 x1) (2 * x1))) + (zshl x2 (2 * x1)) ∧ (x0 - (zshl (f_M_valueIn x0 x1) (2 * x1))) + (zshl x2 (2 * x1)) < 2147483648) := by omega) : zC 257 [zI x0, zI x1, zI x2] h = some (.inl (some (zI (f_M_changed x0 x1 x2))), h) := by
  show _ = (some (.inl (some (zI (
    ((x0 - (zshl (f_M_valueIn x0 x1) (2 * x1))) + (zshl x2 (2 * x1)))))), h) : zO)
  refine (show zC 257 [zI x0, zI x1, zI x2] h = gd (false = zctor 252 ∧ zcs [zI x0] ≤ 8 ∧ zrm 257 (zrf 252 + 1) (8 + (zmaxl 252 + 11) + zrl 252) = true ∧ zcs [zI x0, zI x1] ≤ zmaxl 252) (zBack zY 257 3 6 [some (zI x0), some (zI x1), some (zI x2)] [zI x0] (zC 252 [zI x0, zI x1] h)) from zGo 4 257 0 _ _ _).trans ?_
  refine (gd_t (⟨rfl, Nat.le_of_ble_eq_true rfl, rfl, Nat.le_of_ble_eq_true rfl⟩) _).trans ?_
  refine (congrArg (zBack zY 257 3 6 [some (zI x0), some (zI x1), some (zI x2)] [zI x0]) (e_M_valueIn (g0))).trans ?_
  refine (show zY 257 6 [some (zI x0), some (zI x1), some (zI x2)] [zI (f_M_valueIn x0 x1), zI x0] h = gd (inR (2)) (gd (inR (2 * x1)) (gd (inR (x0 - (zshl (f_M_valueIn x0 x1) (2 * x1)))) (gd (inR (2)) (gd (inR (2 * x1)) (gd (inR ((x0 - (zshl (f_M_valueIn x0 x1) (2 * x1))) + (zshl x2 (2 * x1)))) (gd (([] : List zV).isEmpty = true ∧ (zrk 257 = 1 ∨ zrk 257 = 6 ∧ ((((x0 - (zshl (f_M_valueIn x0 x1) (2 * x1))) + (zshl x2 (2 * x1))) : Int) = 0 ∨ (((x0 - (zshl (f_M_valueIn x0 x1) (2 * x1))) + (zshl x2 (2 * x1))) : Int) = 1))) (some (.inl (some (zI ((x0 - (zshl (f_M_valueIn x0 x1) (2 * x1))) + (zshl x2 (2 * x1))))), h)))))))) from zGo 12 257 6 _ _ _).trans ?_
  refine (gd_t (by decide) _).trans ?_
  refine (gd_t ((Iff.rfl).2 (g0)) _).trans ?_
  refine (gd_t ((Iff.rfl).2 (g1)) _).trans ?_
  refine (gd_t (by decide) _).trans ?_
  refine (gd_t ((Iff.rfl).2 (g0)) _).trans ?_
  refine (gd_t ((Iff.rfl).2 (g2)) _).trans ?_
  refine (gd_t (⟨rfl, Or.inl rfl⟩) _).trans ?_
  rfl
theorem finN {n : Nat} {P : Int → Prop} (h : ∀ s : Fin n, P (s.val : Int)) {x : Int} (h0 : 0 ≤ x) (h1 : x < n) : P x := by
  have h2 := h ⟨x.toNat, by omega⟩
  rwa [show ((x.toNat : Nat) : Int) = x from Int.toNat_of_nonneg h0] at h2
theorem valueIn_r {st v : Int} (h0 : 0 ≤ st) (h1 : st < 64) (h2 : 0 ≤ v) (h3 : v < 3) : 0 ≤ f_M_valueIn st v ∧ f_M_valueIn st v < 4 :=
  finN (P := fun st => 0 ≤ f_M_valueIn st v ∧ f_M_valueIn st v < 4) (n := 64) (fun s => finN (P := fun v => 0 ≤ f_M_valueIn s.val v ∧ f_M_valueIn s.val v < 4) (n := 3) ((show ∀ (s : Fin 64) (v : Fin 3), 0 ≤ f_M_valueIn s.val v.val ∧ f_M_valueIn s.val v.val < 4 by decide +kernel) s) h2 h3) h0 h1
theorem changed_r {st v w : Int} (h0 : 0 ≤ st) (h1 : st < 64) (h2 : 0 ≤ v) (h3 : v < 3) (h4 : 0 ≤ w) (h5 : w < 4) : (0 ≤ f_M_changed st v w ∧ f_M_changed st v w < 64) ∧ (-1000 ≤ st - zshl (f_M_valueIn st v) (2 * v) ∧ st - zshl (f_M_valueIn st v) (2 * v) < 1000) :=
  finN (P := fun st => (0 ≤ f_M_changed st v w ∧ f_M_changed st v w < 64) ∧ (-1000 ≤ st - zshl (f_M_valueIn st v) (2 * v) ∧ st - zshl (f_M_valueIn st v) (2 * v) < 1000)) (n := 64) (fun s => finN (P := fun v => (0 ≤ f_M_changed s.val v w ∧ f_M_changed s.val v w < 64) ∧ (-1000 ≤ s.val - zshl (f_M_valueIn s.val v) (2 * v) ∧ s.val - zshl (f_M_valueIn s.val v) (2 * v) < 1000)) (n := 3) (fun v => finN (P := fun w => (0 ≤ f_M_changed s.val v.val w ∧ f_M_changed s.val v.val w < 64) ∧ (-1000 ≤ s.val - zshl (f_M_valueIn s.val v.val) (2 * v.val) ∧ s.val - zshl (f_M_valueIn s.val v.val) (2 * v.val) < 1000)) (n := 4) ((show ∀ (s : Fin 64) (v : Fin 3) (w : Fin 4), (0 ≤ f_M_changed s.val v.val w.val ∧ f_M_changed s.val v.val w.val < 64) ∧ (-1000 ≤ (s.val : Int) - zshl (f_M_valueIn s.val v.val) (2 * v.val) ∧ (s.val : Int) - zshl (f_M_valueIn s.val v.val) (2 * v.val) < 1000) by decide +kernel) s v) h4 h5) h2 h3) h0 h1

theorem e_M_valueInx {h : zH} {x0 x1 : Int} (g0 : 0 ≤ x1 ∧ x1 < 3 := by omega) : zC 252 [zI x0, zI x1] h = some (.inl (some (zI (f_M_valueIn x0 x1))), h) := e_M_valueIn
theorem e_M_changedx {h : zH} {x0 x1 x2 : Int} (g0 : 0 ≤ x0 ∧ x0 < 64 := by omega) (g1 : 0 ≤ x1 ∧ x1 < 3 := by omega) (g2 : 0 ≤ x2 ∧ x2 < 4 := by omega) : zC 257 [zI x0, zI x1, zI x2] h = some (.inl (some (zI (f_M_changed x0 x1 x2))), h) := by
  have hc := changed_r g0.1 g0.2 g1.1 g1.2 g2.1 g2.2
  have hd : f_M_changed x0 x1 x2 = (x0 - (zshl (f_M_valueIn x0 x1) (2 * x1))) + (zshl x2 (2 * x1)) := rfl
  exact e_M_changed
def f_M_simple (x0 : Int) (x1 : Int) : Int :=
  if x0 < 4 then
    x0
  else
    if x0 < 7 then
      (f_M_valueIn x1 (x0 - 4))
    else
      if x0 = 10 then
        1
      else
        0
theorem e_M_simple {h : zH} {x0 : Int} {x1 : Int} (g0 : (¬ (x0 < 4)) → (x0 < 7) → (-2147483648 ≤ x0 - 4 ∧ x0 - 4 < 2147483648) := by omega) (g1 : (¬ (x0 < 4)) → (x0 < 7) → (0 ≤ (x0 - 4) ∧ (x0 - 4) < 3) := by omega) : zC 251 [zI x0, zI x1] h = some (.inl (some (zI (f_M_simple x0 x1))), h) := by
  show _ = (some (.inl (some (zI (
    if x0 < 4 then
      x0
    else
      if x0 < 7 then
        (f_M_valueIn x1 (x0 - 4))
      else
        if x0 = 10 then
          1
        else
          0))), h) : zO)
  refine (show zC 251 [zI x0, zI x1] h = gd (inR (4)) (if x0 < 4 then zY 251 5 [some (zI x0), some (zI x1)] [] h else zY 251 7 [some (zI x0), some (zI x1)] [] h) from zGo 3 251 0 _ _ _).trans ?_
  refine (gd_t (by decide) _).trans ?_
  refine iteCF (fun x => (some (.inl (some (zI x)), h) : zO)) (fun c0 => ?_) (fun c0 => ?_)
  · skip
    refine (show zY 251 5 [some (zI x0), some (zI x1)] [] h = gd (([] : List zV).isEmpty = true ∧ (zrk 251 = 1 ∨ zrk 251 = 6 ∧ ((x0 : Int) = 0 ∨ (x0 : Int) = 1))) (some (.inl (some (zI x0)), h)) from zGo 2 251 5 _ _ _).trans ?_
    refine (gd_t (⟨rfl, Or.inl rfl⟩) _).trans ?_
    rfl
  · skip
    refine (show zY 251 7 [some (zI x0), some (zI x1)] [] h = gd (-128 ≤ (7 : Int) ∧ (7 : Int) < 128) (if x0 < 7 then zY 251 13 [some (zI x0), some (zI x1)] [] h else zY 251 23 [some (zI x0), some (zI x1)] [] h) from zGo 3 251 7 _ _ _).trans ?_
    refine (gd_t (by decide) _).trans ?_
    refine iteCF (fun x => (some (.inl (some (zI x)), h) : zO)) (fun c1 => ?_) (fun c1 => ?_)
    · skip
      refine (show zY 251 13 [some (zI x0), some (zI x1)] [] h = gd (inR (4)) (gd (inR (x0 - 4)) (gd (false = zctor 252 ∧ zcs [] ≤ 8 ∧ zrm 251 (zrf 252 + 1) (8 + (zmaxl 252 + 11) + zrl 252) = true ∧ zcs [zI x1, zI (x0 - 4)] ≤ zmaxl 252) (zBack zY 251 17 20 [some (zI x0), some (zI x1)] [] (zC 252 [zI x1, zI (x0 - 4)] h)))) from zGo 5 251 13 _ _ _).trans ?_
      refine (gd_t (by decide) _).trans ?_
      refine (gd_t ((Iff.rfl).2 (g0 c0 c1)) _).trans ?_
      refine (gd_t (⟨rfl, Nat.le_of_ble_eq_true rfl, rfl, Nat.le_of_ble_eq_true rfl⟩) _).trans ?_
      refine (congrArg (zBack zY 251 17 20 [some (zI x0), some (zI x1)] []) (e_M_valueInx (g1 c0 c1))).trans ?_
      refine (show zY 251 20 [some (zI x0), some (zI x1)] [zI (f_M_valueIn x1 (x0 - 4))] h = gd (([] : List zV).isEmpty = true ∧ (zrk 251 = 1 ∨ zrk 251 = 6 ∧ (((f_M_valueIn x1 (x0 - 4)) : Int) = 0 ∨ ((f_M_valueIn x1 (x0 - 4)) : Int) = 1))) (some (.inl (some (zI (f_M_valueIn x1 (x0 - 4)))), h)) from zGo 2 251 20 _ _ _).trans ?_
      refine (gd_t (⟨rfl, Or.inl rfl⟩) _).trans ?_
      rfl
    · skip
      refine (show zY 251 23 [some (zI x0), some (zI x1)] [] h = gd (-128 ≤ (10 : Int) ∧ (10 : Int) < 128) (if x0 = 10 then zY 251 29 [some (zI x0), some (zI x1)] [] h else zY 251 33 [some (zI x0), some (zI x1)] [] h) from zGo 3 251 23 _ _ _).trans ?_
      refine (gd_t (by decide) _).trans ?_
      refine iteCF (fun x => (some (.inl (some (zI x)), h) : zO)) (fun c2 => ?_) (fun c2 => ?_)
      · skip
        refine (show zY 251 29 [some (zI x0), some (zI x1)] [] h = gd (inR (1)) (gd (([] : List zV).isEmpty = true ∧ (zrk 251 = 1 ∨ zrk 251 = 6 ∧ ((1 : Int) = 0 ∨ (1 : Int) = 1))) (some (.inl (some (zI 1)), h))) from zGo 3 251 29 _ _ _).trans ?_
        refine (gd_t (by decide) _).trans ?_
        refine (gd_t (⟨rfl, Or.inl rfl⟩) _).trans ?_
        rfl
      · skip
        refine (show zY 251 33 [some (zI x0), some (zI x1)] [] h = gd (inR (0)) (gd (([] : List zV).isEmpty = true ∧ (zrk 251 = 1 ∨ zrk 251 = 6 ∧ ((0 : Int) = 0 ∨ (0 : Int) = 1))) (some (.inl (some (zI 0)), h))) from zGo 2 251 33 _ _ _).trans ?_
        refine (gd_t (by decide) _).trans ?_
        refine (gd_t (⟨rfl, Or.inl rfl⟩) _).trans ?_
        rfl
def f_M_joined (x0 : Int) (x1 : Int) (x2 : Int) : Int :=
  if x0 = 7 then
    (zand (x1 + x2) 3)
  else
    if x0 = 8 then
      (zand (x1 - x2) 3)
    else
      if x0 = 9 then
        (zand (x1 * x2) 3)
      else
        if x0 = 10 then
          (zor x1 x2)
        else
          if x0 = 11 then
            (zor x1 x2)
          else
            if x0 = 12 then
              if x1 = x2 then
                1
              else
                0
            else
              if x0 = 13 then
                if x1 < x2 then
                  1
                else
                  0
              else
                if x0 = 14 then
                  (zor x1 x2)
                else
                  if x0 = 15 then
                    (zand x1 x2)
                  else
                    (zor x1 x2)
theorem e_M_joined {h : zH} {x0 : Int} {x1 : Int} {x2 : Int} (g0 : (x0 = 7) → (-2147483648 ≤ x1 + x2 ∧ x1 + x2 < 2147483648) := by omega) (g1 : (¬ (x0 = 7)) → (x0 = 8) → (-2147483648 ≤ x1 - x2 ∧ x1 - x2 < 2147483648) := by omega) (g2 : (¬ (x0 = 7)) → (¬ (x0 = 8)) → (x0 = 9) → (-2147483648 ≤ x1 * x2 ∧ x1 * x2 < 2147483648) := by omega) : zC 253 [zI x0, zI x1, zI x2] h = some (.inl (some (zI (f_M_joined x0 x1 x2))), h) := by
  show _ = (some (.inl (some (zI (
    if x0 = 7 then
      (zand (x1 + x2) 3)
    else
      if x0 = 8 then
        (zand (x1 - x2) 3)
      else
        if x0 = 9 then
          (zand (x1 * x2) 3)
        else
          if x0 = 10 then
            (zor x1 x2)
          else
            if x0 = 11 then
              (zor x1 x2)
            else
              if x0 = 12 then
                if x1 = x2 then
                  1
                else
                  0
              else
                if x0 = 13 then
                  if x1 < x2 then
                    1
                  else
                    0
                else
                  if x0 = 14 then
                    (zor x1 x2)
                  else
                    if x0 = 15 then
                      (zand x1 x2)
                    else
                      (zor x1 x2)))), h) : zO)
  refine (show zC 253 [zI x0, zI x1, zI x2] h = if x0 = 7 then zY 253 52 [some (zI x0), some (zI x1), some (zI x2)] [] h else if x0 = 8 then zY 253 58 [some (zI x0), some (zI x1), some (zI x2)] [] h else if x0 = 9 then zY 253 64 [some (zI x0), some (zI x1), some (zI x2)] [] h else if x0 = 10 then zY 253 96 [some (zI x0), some (zI x1), some (zI x2)] [] h else if x0 = 11 then zY 253 96 [some (zI x0), some (zI x1), some (zI x2)] [] h else if x0 = 12 then zY 253 70 [some (zI x0), some (zI x1), some (zI x2)] [] h else if x0 = 13 then zY 253 81 [some (zI x0), some (zI x1), some (zI x2)] [] h else if x0 = 14 then zY 253 96 [some (zI x0), some (zI x1), some (zI x2)] [] h else if x0 = 15 then zY 253 92 [some (zI x0), some (zI x1), some (zI x2)] [] h else zY 253 96 [some (zI x0), some (zI x1), some (zI x2)] [] h from zGo 2 253 0 _ _ _).trans ?_
  refine iteCF (fun x => (some (.inl (some (zI x)), h) : zO)) (fun c0 => ?_) (fun c0 => ?_)
  · skip
    refine (show zY 253 52 [some (zI x0), some (zI x1), some (zI x2)] [] h = gd (inR (x1 + x2)) (gd (inR (3)) (gd (([] : List zV).isEmpty = true ∧ (zrk 253 = 1 ∨ zrk 253 = 6 ∧ (((zand (x1 + x2) 3) : Int) = 0 ∨ ((zand (x1 + x2) 3) : Int) = 1))) (some (.inl (some (zI (zand (x1 + x2) 3))), h)))) from zGo 6 253 52 _ _ _).trans ?_
    refine (gd_t ((Iff.rfl).2 (g0 c0)) _).trans ?_
    refine (gd_t (by decide) _).trans ?_
    refine (gd_t (⟨rfl, Or.inl rfl⟩) _).trans ?_
    rfl
  · skip
    refine iteCF (fun x => (some (.inl (some (zI x)), h) : zO)) (fun c1 => ?_) (fun c1 => ?_)
    · skip
      refine (show zY 253 58 [some (zI x0), some (zI x1), some (zI x2)] [] h = gd (inR (x1 - x2)) (gd (inR (3)) (gd (([] : List zV).isEmpty = true ∧ (zrk 253 = 1 ∨ zrk 253 = 6 ∧ (((zand (x1 - x2) 3) : Int) = 0 ∨ ((zand (x1 - x2) 3) : Int) = 1))) (some (.inl (some (zI (zand (x1 - x2) 3))), h)))) from zGo 6 253 58 _ _ _).trans ?_
      refine (gd_t ((Iff.rfl).2 (g1 c0 c1)) _).trans ?_
      refine (gd_t (by decide) _).trans ?_
      refine (gd_t (⟨rfl, Or.inl rfl⟩) _).trans ?_
      rfl
    · skip
      refine iteCF (fun x => (some (.inl (some (zI x)), h) : zO)) (fun c2 => ?_) (fun c2 => ?_)
      · skip
        refine (show zY 253 64 [some (zI x0), some (zI x1), some (zI x2)] [] h = gd (inR (x1 * x2)) (gd (inR (3)) (gd (([] : List zV).isEmpty = true ∧ (zrk 253 = 1 ∨ zrk 253 = 6 ∧ (((zand (x1 * x2) 3) : Int) = 0 ∨ ((zand (x1 * x2) 3) : Int) = 1))) (some (.inl (some (zI (zand (x1 * x2) 3))), h)))) from zGo 6 253 64 _ _ _).trans ?_
        refine (gd_t ((Iff.rfl).2 (g2 c0 c1 c2)) _).trans ?_
        refine (gd_t (by decide) _).trans ?_
        refine (gd_t (⟨rfl, Or.inl rfl⟩) _).trans ?_
        rfl
      · skip
        refine iteCF (fun x => (some (.inl (some (zI x)), h) : zO)) (fun c3 => ?_) (fun c3 => ?_)
        · skip
          refine (show zY 253 96 [some (zI x0), some (zI x1), some (zI x2)] [] h = gd (([] : List zV).isEmpty = true ∧ (zrk 253 = 1 ∨ zrk 253 = 6 ∧ (((zor x1 x2) : Int) = 0 ∨ ((zor x1 x2) : Int) = 1))) (some (.inl (some (zI (zor x1 x2))), h)) from zGo 4 253 96 _ _ _).trans ?_
          refine (gd_t (⟨rfl, Or.inl rfl⟩) _).trans ?_
          rfl
        · skip
          refine iteCF (fun x => (some (.inl (some (zI x)), h) : zO)) (fun c4 => ?_) (fun c4 => ?_)
          · skip
            refine (show zY 253 96 [some (zI x0), some (zI x1), some (zI x2)] [] h = gd (([] : List zV).isEmpty = true ∧ (zrk 253 = 1 ∨ zrk 253 = 6 ∧ (((zor x1 x2) : Int) = 0 ∨ ((zor x1 x2) : Int) = 1))) (some (.inl (some (zI (zor x1 x2))), h)) from zGo 4 253 96 _ _ _).trans ?_
            refine (gd_t (⟨rfl, Or.inl rfl⟩) _).trans ?_
            rfl
          · skip
            refine iteCF (fun x => (some (.inl (some (zI x)), h) : zO)) (fun c5 => ?_) (fun c5 => ?_)
            · skip
              refine (show zY 253 70 [some (zI x0), some (zI x1), some (zI x2)] [] h = if x1 = x2 then zY 253 75 [some (zI x0), some (zI x1), some (zI x2)] [] h else zY 253 79 [some (zI x0), some (zI x1), some (zI x2)] [] h from zGo 3 253 70 _ _ _).trans ?_
              refine iteCF (fun x => (some (.inl (some (zI x)), h) : zO)) (fun c6 => ?_) (fun c6 => ?_)
              · skip
                refine (show zY 253 75 [some (zI x0), some (zI x1), some (zI x2)] [] h = gd (inR (1)) (gd (([] : List zV).isEmpty = true ∧ (zrk 253 = 1 ∨ zrk 253 = 6 ∧ ((1 : Int) = 0 ∨ (1 : Int) = 1))) (some (.inl (some (zI 1)), h))) from zGo 3 253 75 _ _ _).trans ?_
                refine (gd_t (by decide) _).trans ?_
                refine (gd_t (⟨rfl, Or.inl rfl⟩) _).trans ?_
                rfl
              · skip
                refine (show zY 253 79 [some (zI x0), some (zI x1), some (zI x2)] [] h = gd (inR (0)) (gd (([] : List zV).isEmpty = true ∧ (zrk 253 = 1 ∨ zrk 253 = 6 ∧ ((0 : Int) = 0 ∨ (0 : Int) = 1))) (some (.inl (some (zI 0)), h))) from zGo 2 253 79 _ _ _).trans ?_
                refine (gd_t (by decide) _).trans ?_
                refine (gd_t (⟨rfl, Or.inl rfl⟩) _).trans ?_
                rfl
            · skip
              refine iteCF (fun x => (some (.inl (some (zI x)), h) : zO)) (fun c7 => ?_) (fun c7 => ?_)
              · skip
                refine (show zY 253 81 [some (zI x0), some (zI x1), some (zI x2)] [] h = if x1 < x2 then zY 253 86 [some (zI x0), some (zI x1), some (zI x2)] [] h else zY 253 90 [some (zI x0), some (zI x1), some (zI x2)] [] h from zGo 3 253 81 _ _ _).trans ?_
                refine iteCF (fun x => (some (.inl (some (zI x)), h) : zO)) (fun c8 => ?_) (fun c8 => ?_)
                · skip
                  refine (show zY 253 86 [some (zI x0), some (zI x1), some (zI x2)] [] h = gd (inR (1)) (gd (([] : List zV).isEmpty = true ∧ (zrk 253 = 1 ∨ zrk 253 = 6 ∧ ((1 : Int) = 0 ∨ (1 : Int) = 1))) (some (.inl (some (zI 1)), h))) from zGo 3 253 86 _ _ _).trans ?_
                  refine (gd_t (by decide) _).trans ?_
                  refine (gd_t (⟨rfl, Or.inl rfl⟩) _).trans ?_
                  rfl
                · skip
                  refine (show zY 253 90 [some (zI x0), some (zI x1), some (zI x2)] [] h = gd (inR (0)) (gd (([] : List zV).isEmpty = true ∧ (zrk 253 = 1 ∨ zrk 253 = 6 ∧ ((0 : Int) = 0 ∨ (0 : Int) = 1))) (some (.inl (some (zI 0)), h))) from zGo 2 253 90 _ _ _).trans ?_
                  refine (gd_t (by decide) _).trans ?_
                  refine (gd_t (⟨rfl, Or.inl rfl⟩) _).trans ?_
                  rfl
              · skip
                refine iteCF (fun x => (some (.inl (some (zI x)), h) : zO)) (fun c9 => ?_) (fun c9 => ?_)
                · skip
                  refine (show zY 253 96 [some (zI x0), some (zI x1), some (zI x2)] [] h = gd (([] : List zV).isEmpty = true ∧ (zrk 253 = 1 ∨ zrk 253 = 6 ∧ (((zor x1 x2) : Int) = 0 ∨ ((zor x1 x2) : Int) = 1))) (some (.inl (some (zI (zor x1 x2))), h)) from zGo 4 253 96 _ _ _).trans ?_
                  refine (gd_t (⟨rfl, Or.inl rfl⟩) _).trans ?_
                  rfl
                · skip
                  refine iteCF (fun x => (some (.inl (some (zI x)), h) : zO)) (fun c10 => ?_) (fun c10 => ?_)
                  · skip
                    refine (show zY 253 92 [some (zI x0), some (zI x1), some (zI x2)] [] h = gd (([] : List zV).isEmpty = true ∧ (zrk 253 = 1 ∨ zrk 253 = 6 ∧ (((zand x1 x2) : Int) = 0 ∨ ((zand x1 x2) : Int) = 1))) (some (.inl (some (zI (zand x1 x2))), h)) from zGo 4 253 92 _ _ _).trans ?_
                    refine (gd_t (⟨rfl, Or.inl rfl⟩) _).trans ?_
                    rfl
                  · skip
                    refine (show zY 253 96 [some (zI x0), some (zI x1), some (zI x2)] [] h = gd (([] : List zV).isEmpty = true ∧ (zrk 253 = 1 ∨ zrk 253 = 6 ∧ (((zor x1 x2) : Int) = 0 ∨ ((zor x1 x2) : Int) = 1))) (some (.inl (some (zI (zor x1 x2))), h)) from zGo 4 253 96 _ _ _).trans ?_
                    refine (gd_t (⟨rfl, Or.inl rfl⟩) _).trans ?_
                    rfl
abbrev b_M_isLetter (x0 : Int) : Prop :=
  97 ≤ x0 ∧ x0 ≤ 122
theorem e_M_isLetter {h : zH} {x0 : Int} : zC 219 [zI x0] h = some (.inl (some (zI (if b_M_isLetter x0 then (1 : Int) else 0))), h) := by
  refine (show zC 219 [zI x0] h = gd (-128 ≤ (97 : Int) ∧ (97 : Int) < 128) (if x0 < 97 then zY 219 16 [some (zI x0)] [] h else zY 219 6 [some (zI x0)] [] h) from zGo 3 219 0 _ _ _).trans ?_
  refine (gd_t (by decide) _).trans ?_
  refine ite_x (fun c0 => ?_) (fun c0 => ?_)
  · skip
    refine (show zY 219 16 [some (zI x0)] [] h = gd (inR (0)) (gd (([] : List zV).isEmpty = true ∧ (zrk 219 = 1 ∨ zrk 219 = 6 ∧ ((0 : Int) = 0 ∨ (0 : Int) = 1))) (some (.inl (some (zI 0)), h))) from zGo 2 219 16 _ _ _).trans ?_
    refine (gd_t (by decide) _).trans ?_
    refine (gd_t (⟨rfl, Or.inr ⟨rfl, by decide⟩⟩) _).trans ?_
    exact retI (by first | rfl | (exact (if_pos (by unfold b_M_isLetter; omega)).symm) | (exact (if_neg (by unfold b_M_isLetter; omega)).symm) | (exact ifc_congr (by unfold b_M_isLetter; simp_all)) | (unfold b_M_isLetter; simp_all))
  · skip
    refine (show zY 219 6 [some (zI x0)] [] h = gd (-128 ≤ (122 : Int) ∧ (122 : Int) < 128) (if 122 < x0 then zY 219 16 [some (zI x0)] [] h else zY 219 12 [some (zI x0)] [] h) from zGo 3 219 6 _ _ _).trans ?_
    refine (gd_t (by decide) _).trans ?_
    refine ite_x (fun c1 => ?_) (fun c1 => ?_)
    · skip
      refine (show zY 219 16 [some (zI x0)] [] h = gd (inR (0)) (gd (([] : List zV).isEmpty = true ∧ (zrk 219 = 1 ∨ zrk 219 = 6 ∧ ((0 : Int) = 0 ∨ (0 : Int) = 1))) (some (.inl (some (zI 0)), h))) from zGo 2 219 16 _ _ _).trans ?_
      refine (gd_t (by decide) _).trans ?_
      refine (gd_t (⟨rfl, Or.inr ⟨rfl, by decide⟩⟩) _).trans ?_
      exact retI (by first | rfl | (exact (if_pos (by unfold b_M_isLetter; omega)).symm) | (exact (if_neg (by unfold b_M_isLetter; omega)).symm) | (exact ifc_congr (by unfold b_M_isLetter; simp_all)) | (unfold b_M_isLetter; simp_all))
    · skip
      refine (show zY 219 12 [some (zI x0)] [] h = gd (inR (1)) (gd (([] : List zV).isEmpty = true ∧ (zrk 219 = 1 ∨ zrk 219 = 6 ∧ ((1 : Int) = 0 ∨ (1 : Int) = 1))) (some (.inl (some (zI 1)), h))) from zGo 3 219 12 _ _ _).trans ?_
      refine (gd_t (by decide) _).trans ?_
      refine (gd_t (⟨rfl, Or.inr ⟨rfl, by decide⟩⟩) _).trans ?_
      exact retI (by first | rfl | (exact (if_pos (by unfold b_M_isLetter; omega)).symm) | (exact (if_neg (by unfold b_M_isLetter; omega)).symm) | (exact ifc_congr (by unfold b_M_isLetter; simp_all)) | (unfold b_M_isLetter; simp_all))
abbrev b_M_isDigit (x0 : Int) : Prop :=
  48 ≤ x0 ∧ x0 ≤ 57
theorem e_M_isDigit {h : zH} {x0 : Int} : zC 220 [zI x0] h = some (.inl (some (zI (if b_M_isDigit x0 then (1 : Int) else 0))), h) := by
  refine (show zC 220 [zI x0] h = gd (-128 ≤ (48 : Int) ∧ (48 : Int) < 128) (if x0 < 48 then zY 220 16 [some (zI x0)] [] h else zY 220 6 [some (zI x0)] [] h) from zGo 3 220 0 _ _ _).trans ?_
  refine (gd_t (by decide) _).trans ?_
  refine ite_x (fun c0 => ?_) (fun c0 => ?_)
  · skip
    refine (show zY 220 16 [some (zI x0)] [] h = gd (inR (0)) (gd (([] : List zV).isEmpty = true ∧ (zrk 220 = 1 ∨ zrk 220 = 6 ∧ ((0 : Int) = 0 ∨ (0 : Int) = 1))) (some (.inl (some (zI 0)), h))) from zGo 2 220 16 _ _ _).trans ?_
    refine (gd_t (by decide) _).trans ?_
    refine (gd_t (⟨rfl, Or.inr ⟨rfl, by decide⟩⟩) _).trans ?_
    exact retI (by first | rfl | (exact (if_pos (by unfold b_M_isDigit; omega)).symm) | (exact (if_neg (by unfold b_M_isDigit; omega)).symm) | (exact ifc_congr (by unfold b_M_isDigit; simp_all)) | (unfold b_M_isDigit; simp_all))
  · skip
    refine (show zY 220 6 [some (zI x0)] [] h = gd (-128 ≤ (57 : Int) ∧ (57 : Int) < 128) (if 57 < x0 then zY 220 16 [some (zI x0)] [] h else zY 220 12 [some (zI x0)] [] h) from zGo 3 220 6 _ _ _).trans ?_
    refine (gd_t (by decide) _).trans ?_
    refine ite_x (fun c1 => ?_) (fun c1 => ?_)
    · skip
      refine (show zY 220 16 [some (zI x0)] [] h = gd (inR (0)) (gd (([] : List zV).isEmpty = true ∧ (zrk 220 = 1 ∨ zrk 220 = 6 ∧ ((0 : Int) = 0 ∨ (0 : Int) = 1))) (some (.inl (some (zI 0)), h))) from zGo 2 220 16 _ _ _).trans ?_
      refine (gd_t (by decide) _).trans ?_
      refine (gd_t (⟨rfl, Or.inr ⟨rfl, by decide⟩⟩) _).trans ?_
      exact retI (by first | rfl | (exact (if_pos (by unfold b_M_isDigit; omega)).symm) | (exact (if_neg (by unfold b_M_isDigit; omega)).symm) | (exact ifc_congr (by unfold b_M_isDigit; simp_all)) | (unfold b_M_isDigit; simp_all))
    · skip
      refine (show zY 220 12 [some (zI x0)] [] h = gd (inR (1)) (gd (([] : List zV).isEmpty = true ∧ (zrk 220 = 1 ∨ zrk 220 = 6 ∧ ((1 : Int) = 0 ∨ (1 : Int) = 1))) (some (.inl (some (zI 1)), h))) from zGo 3 220 12 _ _ _).trans ?_
      refine (gd_t (by decide) _).trans ?_
      refine (gd_t (⟨rfl, Or.inr ⟨rfl, by decide⟩⟩) _).trans ?_
      exact retI (by first | rfl | (exact (if_pos (by unfold b_M_isDigit; omega)).symm) | (exact (if_neg (by unfold b_M_isDigit; omega)).symm) | (exact ifc_congr (by unfold b_M_isDigit; simp_all)) | (unfold b_M_isDigit; simp_all))
abbrev b_M_isState (x0 : Int) : Prop :=
  b_M_in x0 0 63
theorem e_M_isState {h : zH} {x0 : Int} : zC 286 [zI x0] h = some (.inl (some (zI (if b_M_isState x0 then (1 : Int) else 0))), h) := by
  refine (show zC 286 [zI x0] h = gd (inR (0)) (gd (-128 ≤ (63 : Int) ∧ (63 : Int) < 128) (gd (false = zctor 214 ∧ zcs [] ≤ 8 ∧ zrm 286 (zrf 214 + 1) (8 + (zmaxl 214 + 11) + zrl 214) = true ∧ zcs [zI x0, zI 0, zI 63] ≤ zmaxl 214) (zBack zY 286 4 7 [some (zI x0)] [] (zC 214 [zI x0, zI 0, zI 63] h)))) from zGo 4 286 0 _ _ _).trans ?_
  refine (gd_t (by decide) _).trans ?_
  refine (gd_t (by decide) _).trans ?_
  refine (gd_t (⟨rfl, Nat.le_of_ble_eq_true rfl, rfl, Nat.le_of_ble_eq_true rfl⟩) _).trans ?_
  refine (congrArg (zBack zY 286 4 7 [some (zI x0)] []) (e_M_in)).trans ?_
  refine (show zY 286 7 [some (zI x0)] [zI (if b_M_in x0 0 63 then (1 : Int) else 0)] h = gd (([] : List zV).isEmpty = true ∧ (zrk 286 = 1 ∨ zrk 286 = 6 ∧ (((if b_M_in x0 0 63 then (1 : Int) else 0) : Int) = 0 ∨ ((if b_M_in x0 0 63 then (1 : Int) else 0) : Int) = 1))) (some (.inl (some (zI (if b_M_in x0 0 63 then (1 : Int) else 0))), h)) from zGo 1 286 7 _ _ _).trans ?_
  refine (gd_t (⟨rfl, Or.inr ⟨rfl, by by_cases q9 : b_M_in x0 0 63 <;> simp [q9]⟩⟩) _).trans ?_
  exact retI (by first | rfl | (exact (if_pos (by unfold b_M_isState; omega)).symm) | (exact (if_neg (by unfold b_M_isState; omega)).symm) | (exact ifc_congr (by unfold b_M_isState; simp_all)) | (unfold b_M_isState; simp_all))
def f_M_s (h : zH) (x1 : Int) (x2 : Int) : Int :=
  (hI h 183 ((10 * x1) + x2).toNat)
theorem e_M_s {h : zH} {x1 : Int} {x2 : Int} (KM : KM h) (g0 : (-2147483648 ≤ 10 * x1 ∧ 10 * x1 < 2147483648) := by omega) (g1 : (-2147483648 ≤ (10 * x1) + x2 ∧ (10 * x1) + x2 < 2147483648) := by omega) (g2 : (0 ≤ ((10 * x1) + x2) ∧ ((10 * x1) + x2) < 240) := by omega) : zC 207 [zR (some 177), zI x1, zI x2] h = some (.inl (some (zI (f_M_s h x1 x2))), h) := by
  show _ = (some (.inl (some (zI (
    (hI h 183 ((10 * x1) + x2).toNat)))), h) : zO)
  refine (show zC 207 [zR (some 177), zI x1, zI x2] h = gd (zob h (some 177) 12) (zY 207 4 [some (zR (some 177)), some (zI x1), some (zI x2)] [zR (hR h 177 8)] h) from zGo 2 207 0 _ _ _).trans ?_
  refine (gd_t (⟨rfl, (PTM KM 177 _ rfl rfl), (PNM KM 177 rfl)⟩) _).trans ?_
  refine (congrArg (fun r => zY 207 4 [some (zR (some 177)), some (zI x1), some (zI x2)] (zR r :: []) h) (PRM KM 177 8 _ rfl)).trans ?_
  refine (show zY 207 4 [some (zR (some 177)), some (zI x1), some (zI x2)] [zR (some 183)] h = gd (-128 ≤ (10 : Int) ∧ (10 : Int) < 128) (gd (inR (10 * x1)) (gd (inR ((10 * x1) + x2)) (gd (zok h (some 183) 22 ((10 * x1) + x2)) (gd (([] : List zV).isEmpty = true ∧ (zrk 207 = 1 ∨ zrk 207 = 6 ∧ (((hI h 183 ((10 * x1) + x2).toNat) : Int) = 0 ∨ ((hI h 183 ((10 * x1) + x2).toNat) : Int) = 1))) (some (.inl (some (zI (hI h 183 ((10 * x1) + x2).toNat))), h)))))) from zGo 7 207 4 _ _ _).trans ?_
  refine (gd_t (by decide) _).trans ?_
  refine (gd_t ((Iff.rfl).2 (g0)) _).trans ?_
  refine (gd_t ((Iff.rfl).2 (g1)) _).trans ?_
  refine (gd_t ((ci (PTM KM 183 _ rfl rfl) (PLM KM 183 240 rfl rfl)).2 (g2)) _).trans ?_
  refine (gd_t (⟨rfl, Or.inl rfl⟩) _).trans ?_
  rfl
theorem e_M_sx {h : zH} {x1 : Int} {x2 : Int} (KM : KM h) (g0 : 0 ≤ x1 ∧ x1 < 24 := by omega) (g1 : 0 ≤ x2 ∧ x2 < 10 := by omega) : zC 207 [zR (some 177), zI x1, zI x2] h = some (.inl (some (zI (f_M_s h x1 x2))), h) := e_M_s KM
def f_M_filling (h : zH) (x1 : Int) : Int :=
  (hI h 179 (2294 + x1).toNat)
theorem e_M_filling {h : zH} {x1 : Int} (KM : KM h) (g0 : (-2147483648 ≤ 2294 + x1 ∧ 2294 + x1 < 2147483648) := by omega) (g1 : (0 ≤ (2294 + x1) ∧ (2294 + x1) < 2342) := by omega) : zC 243 [zR (some 177), zI x1] h = some (.inl (some (zI (f_M_filling h x1))), h) := by
  show _ = (some (.inl (some (zI (
    (hI h 179 (2294 + x1).toNat)))), h) : zO)
  refine (show zC 243 [zR (some 177), zI x1] h = gd (zob h (some 177) 12) (zY 243 4 [some (zR (some 177)), some (zI x1)] [zR (hR h 177 2)] h) from zGo 2 243 0 _ _ _).trans ?_
  refine (gd_t (⟨rfl, (PTM KM 177 _ rfl rfl), (PNM KM 177 rfl)⟩) _).trans ?_
  refine (congrArg (fun r => zY 243 4 [some (zR (some 177)), some (zI x1)] (zR r :: []) h) (PRM KM 177 2 _ rfl)).trans ?_
  refine (show zY 243 4 [some (zR (some 177)), some (zI x1)] [zR (some 179)] h = gd (-32768 ≤ (2294 : Int) ∧ (2294 : Int) < 32768) (gd (inR (2294 + x1)) (gd (zok h (some 179) 22 (2294 + x1)) (gd (([] : List zV).isEmpty = true ∧ (zrk 243 = 1 ∨ zrk 243 = 6 ∧ (((hI h 179 (2294 + x1).toNat) : Int) = 0 ∨ ((hI h 179 (2294 + x1).toNat) : Int) = 1))) (some (.inl (some (zI (hI h 179 (2294 + x1).toNat))), h))))) from zGo 5 243 4 _ _ _).trans ?_
  refine (gd_t (by decide) _).trans ?_
  refine (gd_t ((Iff.rfl).2 (g0)) _).trans ?_
  refine (gd_t ((ci (PTM KM 179 _ rfl rfl) (PLM KM 179 2342 rfl rfl)).2 (g1)) _).trans ?_
  refine (gd_t (⟨rfl, Or.inl rfl⟩) _).trans ?_
  rfl
theorem e_M_fillingx {h : zH} {x1 : Int} (KM : KM h) (g0 : 0 ≤ x1 ∧ x1 < 24 := by omega) : zC 243 [zR (some 177), zI x1] h = some (.inl (some (zI (f_M_filling h x1))), h) := e_M_filling KM
abbrev b_M_isStatement (h : zH) (x1 : Int) : Prop :=
  b_M_in x1 0 ((hI h 177 10) - 1)
theorem e_M_isStatement {h : zH} {x1 : Int} (KM : KM h) (g0 : (-2147483648 ≤ (hI h 177 10) - 1 ∧ (hI h 177 10) - 1 < 2147483648) := by omega) : zC 277 [zR (some 177), zI x1] h = some (.inl (some (zI (if b_M_isStatement h x1 then (1 : Int) else 0))), h) := by
  refine (show zC 277 [zR (some 177), zI x1] h = gd (inR (0)) (gd (zob h (some 177) 12) (gd (inR (1)) (gd (inR ((hI h 177 10) - 1)) (gd (false = zctor 214 ∧ zcs [] ≤ 8 ∧ zrm 277 (zrf 214 + 1) (8 + (zmaxl 214 + 11) + zrl 214) = true ∧ zcs [zI x1, zI 0, zI ((hI h 177 10) - 1)] ≤ zmaxl 214) (zBack zY 277 8 11 [some (zR (some 177)), some (zI x1)] [] (zC 214 [zI x1, zI 0, zI ((hI h 177 10) - 1)] h)))))) from zGo 7 277 0 _ _ _).trans ?_
  refine (gd_t (by decide) _).trans ?_
  refine (gd_t (⟨rfl, (PTM KM 177 _ rfl rfl), (PNM KM 177 rfl)⟩) _).trans ?_
  refine (gd_t (by decide) _).trans ?_
  refine (gd_t ((Iff.rfl).2 (g0)) _).trans ?_
  refine (gd_t (⟨rfl, Nat.le_of_ble_eq_true rfl, rfl, Nat.le_of_ble_eq_true rfl⟩) _).trans ?_
  refine (congrArg (zBack zY 277 8 11 [some (zR (some 177)), some (zI x1)] []) (e_M_in)).trans ?_
  refine (show zY 277 11 [some (zR (some 177)), some (zI x1)] [zI (if b_M_in x1 0 ((hI h 177 10) - 1) then (1 : Int) else 0)] h = gd (([] : List zV).isEmpty = true ∧ (zrk 277 = 1 ∨ zrk 277 = 6 ∧ (((if b_M_in x1 0 ((hI h 177 10) - 1) then (1 : Int) else 0) : Int) = 0 ∨ ((if b_M_in x1 0 ((hI h 177 10) - 1) then (1 : Int) else 0) : Int) = 1))) (some (.inl (some (zI (if b_M_in x1 0 ((hI h 177 10) - 1) then (1 : Int) else 0))), h)) from zGo 1 277 11 _ _ _).trans ?_
  refine (gd_t (⟨rfl, Or.inr ⟨rfl, by by_cases q9 : b_M_in x1 0 ((hI h 177 10) - 1) <;> simp [q9]⟩⟩) _).trans ?_
  exact retI (by first | rfl | (exact (if_pos (by unfold b_M_isStatement; omega)).symm) | (exact (if_neg (by unfold b_M_isStatement; omega)).symm) | (exact ifc_congr (by unfold b_M_isStatement; simp_all)) | (unfold b_M_isStatement; simp_all))
def f_M_fillVariable (h : zH) (x1 : Int) : Int :=
  ((f_M_filling h x1) / 13)
theorem e_M_fillVariable {h : zH} {x1 : Int} (KM : KM h) (g0 : (0 ≤ x1 ∧ x1 < 24) := by omega) (g1 : (0 ≤ (f_M_filling h x1)) := by omega) : zC 258 [zR (some 177), zI x1] h = some (.inl (some (zI (f_M_fillVariable h x1))), h) := by
  show _ = (some (.inl (some (zI (
    ((f_M_filling h x1) / 13)))), h) : zO)
  refine (show zC 258 [zR (some 177), zI x1] h = gd (false = zctor 243 ∧ zcs [] ≤ 8 ∧ zrm 258 (zrf 243 + 1) (8 + (zmaxl 243 + 11) + zrl 243) = true ∧ zcs [zR (some 177), zI x1] ≤ zmaxl 243) (gd (zob h (some 177) 12) (zBack zY 258 2 5 [some (zR (some 177)), some (zI x1)] [] (zC 243 [zR (some 177), zI x1] h))) from zGo 3 258 0 _ _ _).trans ?_
  refine (gd_t (⟨rfl, Nat.le_of_ble_eq_true rfl, rfl, Nat.le_of_ble_eq_true rfl⟩) _).trans ?_
  refine (gd_t (⟨rfl, (PTM KM 177 _ rfl rfl), (PNM KM 177 rfl)⟩) _).trans ?_
  refine (congrArg (zBack zY 258 2 5 [some (zR (some 177)), some (zI x1)] []) (e_M_fillingx KM (g0))).trans ?_
  refine (show zY 258 5 [some (zR (some 177)), some (zI x1)] [zI (f_M_filling h x1)] h = gd (-128 ≤ (13 : Int) ∧ (13 : Int) < 128) (gd ((0 : Int) ≤ (f_M_filling h x1) ∧ (0 : Int) < 13) (gd (([] : List zV).isEmpty = true ∧ (zrk 258 = 1 ∨ zrk 258 = 6 ∧ ((((f_M_filling h x1) / 13) : Int) = 0 ∨ (((f_M_filling h x1) / 13) : Int) = 1))) (some (.inl (some (zI ((f_M_filling h x1) / 13))), h)))) from zGo 3 258 5 _ _ _).trans ?_
  refine (gd_t (by decide) _).trans ?_
  refine (gd_t ((idiv_c1 (by decide)).2 (g1)) _).trans ?_
  refine (gd_t (⟨rfl, Or.inl rfl⟩) _).trans ?_
  rfl
def f_M_filled (h : zH) (x1 : Int) (x2 : Int) : Int :=
  if (Int.tmod (f_M_filling h x1) 13) < 4 then
    (Int.tmod (f_M_filling h x1) 13)
  else
    if (Int.tmod (f_M_filling h x1) 13) < 7 then
      (f_M_valueIn x2 ((Int.tmod (f_M_filling h x1) 13) - 4))
    else
      if (Int.tmod (f_M_filling h x1) 13) < 10 then
        (zand ((f_M_valueIn x2 ((Int.tmod (f_M_filling h x1) 13) - 7)) + 1) 3)
      else
        (zand ((f_M_valueIn x2 ((Int.tmod (f_M_filling h x1) 13) - 10)) - 1) 3)
theorem e_M_filled {h : zH} {x1 : Int} {x2 : Int} (KM : KM h) (g0 : (0 ≤ x1 ∧ x1 < 24) := by omega) (g1 : (-2147483648 < (f_M_filling h x1)) := by omega) (g2 : (¬ ((Int.tmod (f_M_filling h x1) 13) < 4)) → ((Int.tmod (f_M_filling h x1) 13) < 7) → (-2147483648 ≤ (Int.tmod (f_M_filling h x1) 13) - 4 ∧ (Int.tmod (f_M_filling h x1) 13) - 4 < 2147483648) := by omega) (g3 : (¬ ((Int.tmod (f_M_filling h x1) 13) < 4)) → ((Int.tmod (f_M_filling h x1) 13) < 7) → (0 ≤ ((Int.tmod (f_M_filling h x1) 13) - 4) ∧ ((Int.tmod (f_M_filling h x1) 13) - 4) < 3) := by omega) (g4 : (¬ ((Int.tmod (f_M_filling h x1) 13) < 4)) → (¬ ((Int.tmod (f_M_filling h x1) 13) < 7)) → ((Int.tmod (f_M_filling h x1) 13) < 10) → (-2147483648 ≤ (Int.tmod (f_M_filling h x1) 13) - 7 ∧ (Int.tmod (f_M_filling h x1) 13) - 7 < 2147483648) := by omega) (g5 : (¬ ((Int.tmod (f_M_filling h x1) 13) < 4)) → (¬ ((Int.tmod (f_M_filling h x1) 13) < 7)) → ((Int.tmod (f_M_filling h x1) 13) < 10) → (0 ≤ ((Int.tmod (f_M_filling h x1) 13) - 7) ∧ ((Int.tmod (f_M_filling h x1) 13) - 7) < 3) := by omega) (g6 : (¬ ((Int.tmod (f_M_filling h x1) 13) < 4)) → (¬ ((Int.tmod (f_M_filling h x1) 13) < 7)) → ((Int.tmod (f_M_filling h x1) 13) < 10) → (-2147483648 ≤ (f_M_valueIn x2 ((Int.tmod (f_M_filling h x1) 13) - 7)) + 1 ∧ (f_M_valueIn x2 ((Int.tmod (f_M_filling h x1) 13) - 7)) + 1 < 2147483648) := by omega) (g7 : (¬ ((Int.tmod (f_M_filling h x1) 13) < 4)) → (¬ ((Int.tmod (f_M_filling h x1) 13) < 7)) → (¬ ((Int.tmod (f_M_filling h x1) 13) < 10)) → (-2147483648 ≤ (Int.tmod (f_M_filling h x1) 13) - 10 ∧ (Int.tmod (f_M_filling h x1) 13) - 10 < 2147483648) := by omega) (g8 : (¬ ((Int.tmod (f_M_filling h x1) 13) < 4)) → (¬ ((Int.tmod (f_M_filling h x1) 13) < 7)) → (¬ ((Int.tmod (f_M_filling h x1) 13) < 10)) → (0 ≤ ((Int.tmod (f_M_filling h x1) 13) - 10) ∧ ((Int.tmod (f_M_filling h x1) 13) - 10) < 3) := by omega) (g9 : (¬ ((Int.tmod (f_M_filling h x1) 13) < 4)) → (¬ ((Int.tmod (f_M_filling h x1) 13) < 7)) → (¬ ((Int.tmod (f_M_filling h x1) 13) < 10)) → (-2147483648 ≤ (f_M_valueIn x2 ((Int.tmod (f_M_filling h x1) 13) - 10)) - 1 ∧ (f_M_valueIn x2 ((Int.tmod (f_M_filling h x1) 13) - 10)) - 1 < 2147483648) := by omega) : zC 259 [zR (some 177), zI x1, zI x2] h = some (.inl (some (zI (f_M_filled h x1 x2))), h) := by
  show _ = (some (.inl (some (zI (
    if (Int.tmod (f_M_filling h x1) 13) < 4 then
      (Int.tmod (f_M_filling h x1) 13)
    else
      if (Int.tmod (f_M_filling h x1) 13) < 7 then
        (f_M_valueIn x2 ((Int.tmod (f_M_filling h x1) 13) - 4))
      else
        if (Int.tmod (f_M_filling h x1) 13) < 10 then
          (zand ((f_M_valueIn x2 ((Int.tmod (f_M_filling h x1) 13) - 7)) + 1) 3)
        else
          (zand ((f_M_valueIn x2 ((Int.tmod (f_M_filling h x1) 13) - 10)) - 1) 3)))), h) : zO)
  refine (show zC 259 [zR (some 177), zI x1, zI x2] h = gd (false = zctor 243 ∧ zcs [] ≤ 8 ∧ zrm 259 (zrf 243 + 1) (8 + (zmaxl 243 + 11) + zrl 243) = true ∧ zcs [zR (some 177), zI x1] ≤ zmaxl 243) (gd (zob h (some 177) 12) (zBack zY 259 2 5 [some (zR (some 177)), some (zI x1), some (zI x2), none] [] (zC 243 [zR (some 177), zI x1] h))) from zGo 3 259 0 _ _ _).trans ?_
  refine (gd_t (⟨rfl, Nat.le_of_ble_eq_true rfl, rfl, Nat.le_of_ble_eq_true rfl⟩) _).trans ?_
  refine (gd_t (⟨rfl, (PTM KM 177 _ rfl rfl), (PNM KM 177 rfl)⟩) _).trans ?_
  refine (congrArg (zBack zY 259 2 5 [some (zR (some 177)), some (zI x1), some (zI x2), none] []) (e_M_fillingx KM (g0))).trans ?_
  refine (show zY 259 5 [some (zR (some 177)), some (zI x1), some (zI x2), none] [zI (f_M_filling h x1)] h = gd (-128 ≤ (13 : Int) ∧ (13 : Int) < 128) (gd ((0 : Int) ≤ (f_M_filling h x1) ∧ (0 : Int) < 13 ∨ (-2147483648 : Int) < (f_M_filling h x1) ∧ (0 : Int) < 13) (gd (inR (4)) (if (Int.tmod (f_M_filling h x1) 13) < 4 then zY 259 14 [some (zR (some 177)), some (zI x1), some (zI x2), some (zI (Int.tmod (f_M_filling h x1) 13))] [] h else zY 259 16 [some (zR (some 177)), some (zI x1), some (zI x2), some (zI (Int.tmod (f_M_filling h x1) 13))] [] h))) from zGo 6 259 5 _ _ _).trans ?_
  refine (gd_t (by decide) _).trans ?_
  refine (gd_t ((irem_c1 (by decide)).2 (g1)) _).trans ?_
  refine (gd_t (by decide) _).trans ?_
  refine iteCF (fun x => (some (.inl (some (zI x)), h) : zO)) (fun c0 => ?_) (fun c0 => ?_)
  · skip
    refine (show zY 259 14 [some (zR (some 177)), some (zI x1), some (zI x2), some (zI (Int.tmod (f_M_filling h x1) 13))] [] h = gd (([] : List zV).isEmpty = true ∧ (zrk 259 = 1 ∨ zrk 259 = 6 ∧ (((Int.tmod (f_M_filling h x1) 13) : Int) = 0 ∨ ((Int.tmod (f_M_filling h x1) 13) : Int) = 1))) (some (.inl (some (zI (Int.tmod (f_M_filling h x1) 13))), h)) from zGo 2 259 14 _ _ _).trans ?_
    refine (gd_t (⟨rfl, Or.inl rfl⟩) _).trans ?_
    rfl
  · skip
    refine (show zY 259 16 [some (zR (some 177)), some (zI x1), some (zI x2), some (zI (Int.tmod (f_M_filling h x1) 13))] [] h = gd (-128 ≤ (7 : Int) ∧ (7 : Int) < 128) (if (Int.tmod (f_M_filling h x1) 13) < 7 then zY 259 22 [some (zR (some 177)), some (zI x1), some (zI x2), some (zI (Int.tmod (f_M_filling h x1) 13))] [] h else zY 259 32 [some (zR (some 177)), some (zI x1), some (zI x2), some (zI (Int.tmod (f_M_filling h x1) 13))] [] h) from zGo 3 259 16 _ _ _).trans ?_
    refine (gd_t (by decide) _).trans ?_
    refine iteCF (fun x => (some (.inl (some (zI x)), h) : zO)) (fun c1 => ?_) (fun c1 => ?_)
    · skip
      refine (show zY 259 22 [some (zR (some 177)), some (zI x1), some (zI x2), some (zI (Int.tmod (f_M_filling h x1) 13))] [] h = gd (inR (4)) (gd (inR ((Int.tmod (f_M_filling h x1) 13) - 4)) (gd (false = zctor 252 ∧ zcs [] ≤ 8 ∧ zrm 259 (zrf 252 + 1) (8 + (zmaxl 252 + 11) + zrl 252) = true ∧ zcs [zI x2, zI ((Int.tmod (f_M_filling h x1) 13) - 4)] ≤ zmaxl 252) (zBack zY 259 26 29 [some (zR (some 177)), some (zI x1), some (zI x2), some (zI (Int.tmod (f_M_filling h x1) 13))] [] (zC 252 [zI x2, zI ((Int.tmod (f_M_filling h x1) 13) - 4)] h)))) from zGo 5 259 22 _ _ _).trans ?_
      refine (gd_t (by decide) _).trans ?_
      refine (gd_t ((Iff.rfl).2 (g2 c0 c1)) _).trans ?_
      refine (gd_t (⟨rfl, Nat.le_of_ble_eq_true rfl, rfl, Nat.le_of_ble_eq_true rfl⟩) _).trans ?_
      refine (congrArg (zBack zY 259 26 29 [some (zR (some 177)), some (zI x1), some (zI x2), some (zI (Int.tmod (f_M_filling h x1) 13))] []) (e_M_valueInx (g3 c0 c1))).trans ?_
      refine (show zY 259 29 [some (zR (some 177)), some (zI x1), some (zI x2), some (zI (Int.tmod (f_M_filling h x1) 13))] [zI (f_M_valueIn x2 ((Int.tmod (f_M_filling h x1) 13) - 4))] h = gd (([] : List zV).isEmpty = true ∧ (zrk 259 = 1 ∨ zrk 259 = 6 ∧ (((f_M_valueIn x2 ((Int.tmod (f_M_filling h x1) 13) - 4)) : Int) = 0 ∨ ((f_M_valueIn x2 ((Int.tmod (f_M_filling h x1) 13) - 4)) : Int) = 1))) (some (.inl (some (zI (f_M_valueIn x2 ((Int.tmod (f_M_filling h x1) 13) - 4)))), h)) from zGo 2 259 29 _ _ _).trans ?_
      refine (gd_t (⟨rfl, Or.inl rfl⟩) _).trans ?_
      rfl
    · skip
      refine (show zY 259 32 [some (zR (some 177)), some (zI x1), some (zI x2), some (zI (Int.tmod (f_M_filling h x1) 13))] [] h = gd (-128 ≤ (10 : Int) ∧ (10 : Int) < 128) (if (Int.tmod (f_M_filling h x1) 13) < 10 then zY 259 38 [some (zR (some 177)), some (zI x1), some (zI x2), some (zI (Int.tmod (f_M_filling h x1) 13))] [] h else zY 259 53 [some (zR (some 177)), some (zI x1), some (zI x2), some (zI (Int.tmod (f_M_filling h x1) 13))] [] h) from zGo 3 259 32 _ _ _).trans ?_
      refine (gd_t (by decide) _).trans ?_
      refine iteCF (fun x => (some (.inl (some (zI x)), h) : zO)) (fun c2 => ?_) (fun c2 => ?_)
      · skip
        refine (show zY 259 38 [some (zR (some 177)), some (zI x1), some (zI x2), some (zI (Int.tmod (f_M_filling h x1) 13))] [] h = gd (-128 ≤ (7 : Int) ∧ (7 : Int) < 128) (gd (inR ((Int.tmod (f_M_filling h x1) 13) - 7)) (gd (false = zctor 252 ∧ zcs [] ≤ 8 ∧ zrm 259 (zrf 252 + 1) (8 + (zmaxl 252 + 11) + zrl 252) = true ∧ zcs [zI x2, zI ((Int.tmod (f_M_filling h x1) 13) - 7)] ≤ zmaxl 252) (zBack zY 259 43 46 [some (zR (some 177)), some (zI x1), some (zI x2), some (zI (Int.tmod (f_M_filling h x1) 13))] [] (zC 252 [zI x2, zI ((Int.tmod (f_M_filling h x1) 13) - 7)] h)))) from zGo 5 259 38 _ _ _).trans ?_
        refine (gd_t (by decide) _).trans ?_
        refine (gd_t ((Iff.rfl).2 (g4 c0 c1 c2)) _).trans ?_
        refine (gd_t (⟨rfl, Nat.le_of_ble_eq_true rfl, rfl, Nat.le_of_ble_eq_true rfl⟩) _).trans ?_
        refine (congrArg (zBack zY 259 43 46 [some (zR (some 177)), some (zI x1), some (zI x2), some (zI (Int.tmod (f_M_filling h x1) 13))] []) (e_M_valueInx (g5 c0 c1 c2))).trans ?_
        refine (show zY 259 46 [some (zR (some 177)), some (zI x1), some (zI x2), some (zI (Int.tmod (f_M_filling h x1) 13))] [zI (f_M_valueIn x2 ((Int.tmod (f_M_filling h x1) 13) - 7))] h = gd (inR (1)) (gd (inR ((f_M_valueIn x2 ((Int.tmod (f_M_filling h x1) 13) - 7)) + 1)) (gd (inR (3)) (gd (([] : List zV).isEmpty = true ∧ (zrk 259 = 1 ∨ zrk 259 = 6 ∧ (((zand ((f_M_valueIn x2 ((Int.tmod (f_M_filling h x1) 13) - 7)) + 1) 3) : Int) = 0 ∨ ((zand ((f_M_valueIn x2 ((Int.tmod (f_M_filling h x1) 13) - 7)) + 1) 3) : Int) = 1))) (some (.inl (some (zI (zand ((f_M_valueIn x2 ((Int.tmod (f_M_filling h x1) 13) - 7)) + 1) 3))), h))))) from zGo 6 259 46 _ _ _).trans ?_
        refine (gd_t (by decide) _).trans ?_
        refine (gd_t ((Iff.rfl).2 (g6 c0 c1 c2)) _).trans ?_
        refine (gd_t (by decide) _).trans ?_
        refine (gd_t (⟨rfl, Or.inl rfl⟩) _).trans ?_
        rfl
      · skip
        refine (show zY 259 53 [some (zR (some 177)), some (zI x1), some (zI x2), some (zI (Int.tmod (f_M_filling h x1) 13))] [] h = gd (-128 ≤ (10 : Int) ∧ (10 : Int) < 128) (gd (inR ((Int.tmod (f_M_filling h x1) 13) - 10)) (gd (false = zctor 252 ∧ zcs [] ≤ 8 ∧ zrm 259 (zrf 252 + 1) (8 + (zmaxl 252 + 11) + zrl 252) = true ∧ zcs [zI x2, zI ((Int.tmod (f_M_filling h x1) 13) - 10)] ≤ zmaxl 252) (zBack zY 259 58 61 [some (zR (some 177)), some (zI x1), some (zI x2), some (zI (Int.tmod (f_M_filling h x1) 13))] [] (zC 252 [zI x2, zI ((Int.tmod (f_M_filling h x1) 13) - 10)] h)))) from zGo 5 259 53 _ _ _).trans ?_
        refine (gd_t (by decide) _).trans ?_
        refine (gd_t ((Iff.rfl).2 (g7 c0 c1 c2)) _).trans ?_
        refine (gd_t (⟨rfl, Nat.le_of_ble_eq_true rfl, rfl, Nat.le_of_ble_eq_true rfl⟩) _).trans ?_
        refine (congrArg (zBack zY 259 58 61 [some (zR (some 177)), some (zI x1), some (zI x2), some (zI (Int.tmod (f_M_filling h x1) 13))] []) (e_M_valueInx (g8 c0 c1 c2))).trans ?_
        refine (show zY 259 61 [some (zR (some 177)), some (zI x1), some (zI x2), some (zI (Int.tmod (f_M_filling h x1) 13))] [zI (f_M_valueIn x2 ((Int.tmod (f_M_filling h x1) 13) - 10))] h = gd (inR (1)) (gd (inR ((f_M_valueIn x2 ((Int.tmod (f_M_filling h x1) 13) - 10)) - 1)) (gd (inR (3)) (gd (([] : List zV).isEmpty = true ∧ (zrk 259 = 1 ∨ zrk 259 = 6 ∧ (((zand ((f_M_valueIn x2 ((Int.tmod (f_M_filling h x1) 13) - 10)) - 1) 3) : Int) = 0 ∨ ((zand ((f_M_valueIn x2 ((Int.tmod (f_M_filling h x1) 13) - 10)) - 1) 3) : Int) = 1))) (some (.inl (some (zI (zand ((f_M_valueIn x2 ((Int.tmod (f_M_filling h x1) 13) - 10)) - 1) 3))), h))))) from zGo 5 259 61 _ _ _).trans ?_
        refine (gd_t (by decide) _).trans ?_
        refine (gd_t ((Iff.rfl).2 (g9 c0 c1 c2)) _).trans ?_
        refine (gd_t (by decide) _).trans ?_
        refine (gd_t (⟨rfl, Or.inl rfl⟩) _).trans ?_
        rfl
/-- a filled hole's value in a state -/
def flv (f st : Int) : Int := if Int.tmod f 13 < 4 then Int.tmod f 13 else if Int.tmod f 13 < 7 then f_M_valueIn st (Int.tmod f 13 - 4) else if Int.tmod f 13 < 10 then zand (f_M_valueIn st (Int.tmod f 13 - 7) + 1) 3 else zand (f_M_valueIn st (Int.tmod f 13 - 10) - 1) 3
theorem tmod_13 {f : Int} (h0 : 0 ≤ f) : 0 ≤ Int.tmod f 13 ∧ Int.tmod f 13 < 13 := ⟨Int.tmod_nonneg _ h0, Int.tmod_lt_of_pos _ (by decide)⟩
theorem flv_r {f st : Int} (h0 : 0 ≤ f) (h1 : 0 ≤ st) (h2 : st < 64) : 0 ≤ flv f st ∧ flv f st < 4 := by
  have ht := tmod_13 h0
  unfold flv
  by_cases c1 : Int.tmod f 13 < 4
  · rw [if_pos c1]; omega
  · by_cases c2 : Int.tmod f 13 < 7
    · rw [if_neg c1, if_pos c2]; exact valueIn_r h1 h2 (by omega) (by omega)
    · by_cases c3 : Int.tmod f 13 < 10
      · have := valueIn_r (v := Int.tmod f 13 - 7) h1 h2 (by omega) (by omega)
        rw [if_neg c1, if_neg c2, if_pos c3]
        exact finN (P := fun x => 0 ≤ zand (x + 1) 3 ∧ zand (x + 1) 3 < 4) (n := 4) (by decide +kernel) this.1 this.2
      · have := valueIn_r (v := Int.tmod f 13 - 10) h1 h2 (by omega) (by omega)
        rw [if_neg c1, if_neg c2, if_neg c3]
        exact finN (P := fun x => 0 ≤ zand (x - 1) 3 ∧ zand (x - 1) 3 < 4) (n := 4) (by decide +kernel) this.1 this.2

theorem e_M_filledx {h : zH} {x1 : Int} {x2 : Int} (KM : KM h) (g0 : 0 ≤ x1 ∧ x1 < 24 := by omega) (g1 : 0 ≤ f_M_filling h x1 := by omega) (g2 : 0 ≤ x2 ∧ x2 < 64 := by omega) : zC 259 [zR (some 177), zI x1, zI x2] h = some (.inl (some (zI (flv (f_M_filling h x1) x2))), h) := by
  have h1 := tmod_13 g1
  have h2 : ∀ v, 0 ≤ v → v < 3 → 0 ≤ f_M_valueIn x2 v ∧ f_M_valueIn x2 v < 4 := fun v a b => valueIn_r g2.1 g2.2 a b
  have h3 := h2 (Int.tmod (f_M_filling h x1) 13 - 7)
  have h4 := h2 (Int.tmod (f_M_filling h x1) 13 - 10)
  exact e_M_filled KM
abbrev b_M_isLength (h : zH) (x1 : Int) : Prop :=
  b_M_in x1 0 (hI h 177 15)
theorem e_M_isLength {h : zH} {x1 : Int} (KM : KM h) : zC 339 [zR (some 177), zI x1] h = some (.inl (some (zI (if b_M_isLength h x1 then (1 : Int) else 0))), h) := by
  refine (show zC 339 [zR (some 177), zI x1] h = gd (inR (0)) (gd (zob h (some 177) 12) (gd (false = zctor 214 ∧ zcs [] ≤ 8 ∧ zrm 339 (zrf 214 + 1) (8 + (zmaxl 214 + 11) + zrl 214) = true ∧ zcs [zI x1, zI 0, zI (hI h 177 15)] ≤ zmaxl 214) (zBack zY 339 6 9 [some (zR (some 177)), some (zI x1)] [] (zC 214 [zI x1, zI 0, zI (hI h 177 15)] h)))) from zGo 5 339 0 _ _ _).trans ?_
  refine (gd_t (by decide) _).trans ?_
  refine (gd_t (⟨rfl, (PTM KM 177 _ rfl rfl), (PNM KM 177 rfl)⟩) _).trans ?_
  refine (gd_t (⟨rfl, Nat.le_of_ble_eq_true rfl, rfl, Nat.le_of_ble_eq_true rfl⟩) _).trans ?_
  refine (congrArg (zBack zY 339 6 9 [some (zR (some 177)), some (zI x1)] []) (e_M_in)).trans ?_
  refine (show zY 339 9 [some (zR (some 177)), some (zI x1)] [zI (if b_M_in x1 0 (hI h 177 15) then (1 : Int) else 0)] h = gd (([] : List zV).isEmpty = true ∧ (zrk 339 = 1 ∨ zrk 339 = 6 ∧ (((if b_M_in x1 0 (hI h 177 15) then (1 : Int) else 0) : Int) = 0 ∨ ((if b_M_in x1 0 (hI h 177 15) then (1 : Int) else 0) : Int) = 1))) (some (.inl (some (zI (if b_M_in x1 0 (hI h 177 15) then (1 : Int) else 0))), h)) from zGo 1 339 9 _ _ _).trans ?_
  refine (gd_t (⟨rfl, Or.inr ⟨rfl, by by_cases q9 : b_M_in x1 0 (hI h 177 15) <;> simp [q9]⟩⟩) _).trans ?_
  exact retI (by first | rfl | (exact (if_pos (by unfold b_M_isLength; omega)).symm) | (exact (if_neg (by unfold b_M_isLength; omega)).symm) | (exact ifc_congr (by unfold b_M_isLength; simp_all)) | (unfold b_M_isLength; simp_all))
def f_M_variableOf (h : zH) (x1 : Int) : Int :=
  if (f_M_s h x1 0) = 3 then
    if (f_M_filling h x1) = (-1) then
      (f_M_s h x1 1)
    else
      (f_M_fillVariable h x1)
  else
    (f_M_s h x1 1)
theorem e_M_variableOf {h : zH} {x1 : Int} (KM : KM h) (g0 : (0 ≤ x1 ∧ x1 < 24) := by omega) (g1 : ((f_M_s h x1 0) = 3) → (¬ ((f_M_filling h x1) = (-1))) → (0 ≤ (f_M_filling h x1)) := by omega) : zC 278 [zR (some 177), zI x1] h = some (.inl (some (zI (f_M_variableOf h x1))), h) := by
  show _ = (some (.inl (some (zI (
    if (f_M_s h x1 0) = 3 then
      if (f_M_filling h x1) = (-1) then
        (f_M_s h x1 1)
      else
        (f_M_fillVariable h x1)
    else
      (f_M_s h x1 1)))), h) : zO)
  refine (show zC 278 [zR (some 177), zI x1] h = gd (inR (0)) (gd (false = zctor 207 ∧ zcs [] ≤ 8 ∧ zrm 278 (zrf 207 + 1) (8 + (zmaxl 207 + 11) + zrl 207) = true ∧ zcs [zR (some 177), zI x1, zI 0] ≤ zmaxl 207) (gd (zob h (some 177) 12) (zBack zY 278 3 6 [some (zR (some 177)), some (zI x1)] [] (zC 207 [zR (some 177), zI x1, zI 0] h)))) from zGo 4 278 0 _ _ _).trans ?_
  refine (gd_t (by decide) _).trans ?_
  refine (gd_t (⟨rfl, Nat.le_of_ble_eq_true rfl, rfl, Nat.le_of_ble_eq_true rfl⟩) _).trans ?_
  refine (gd_t (⟨rfl, (PTM KM 177 _ rfl rfl), (PNM KM 177 rfl)⟩) _).trans ?_
  refine (congrArg (zBack zY 278 3 6 [some (zR (some 177)), some (zI x1)] []) (e_M_sx KM (g0) (by omega))).trans ?_
  refine (show zY 278 6 [some (zR (some 177)), some (zI x1)] [zI (f_M_s h x1 0)] h = gd (inR (3)) (if (f_M_s h x1 0) = 3 then zY 278 10 [some (zR (some 177)), some (zI x1)] [] h else zY 278 25 [some (zR (some 177)), some (zI x1)] [] h) from zGo 2 278 6 _ _ _).trans ?_
  refine (gd_t (by decide) _).trans ?_
  refine iteCF (fun x => (some (.inl (some (zI x)), h) : zO)) (fun c0 => ?_) (fun c0 => ?_)
  · skip
    refine (show zY 278 10 [some (zR (some 177)), some (zI x1)] [] h = gd (false = zctor 243 ∧ zcs [] ≤ 8 ∧ zrm 278 (zrf 243 + 1) (8 + (zmaxl 243 + 11) + zrl 243) = true ∧ zcs [zR (some 177), zI x1] ≤ zmaxl 243) (gd (zob h (some 177) 12) (zBack zY 278 12 15 [some (zR (some 177)), some (zI x1)] [] (zC 243 [zR (some 177), zI x1] h))) from zGo 3 278 10 _ _ _).trans ?_
    refine (gd_t (⟨rfl, Nat.le_of_ble_eq_true rfl, rfl, Nat.le_of_ble_eq_true rfl⟩) _).trans ?_
    refine (gd_t (⟨rfl, (PTM KM 177 _ rfl rfl), (PNM KM 177 rfl)⟩) _).trans ?_
    refine (congrArg (zBack zY 278 12 15 [some (zR (some 177)), some (zI x1)] []) (e_M_fillingx KM (g0))).trans ?_
    refine (show zY 278 15 [some (zR (some 177)), some (zI x1)] [zI (f_M_filling h x1)] h = gd (inR (-1)) (if (f_M_filling h x1) = (-1) then zY 278 25 [some (zR (some 177)), some (zI x1)] [] h else zY 278 19 [some (zR (some 177)), some (zI x1)] [] h) from zGo 2 278 15 _ _ _).trans ?_
    refine (gd_t (by decide) _).trans ?_
    refine iteCF (fun x => (some (.inl (some (zI x)), h) : zO)) (fun c1 => ?_) (fun c1 => ?_)
    · skip
      refine (show zY 278 25 [some (zR (some 177)), some (zI x1)] [] h = gd (inR (1)) (gd (false = zctor 207 ∧ zcs [] ≤ 8 ∧ zrm 278 (zrf 207 + 1) (8 + (zmaxl 207 + 11) + zrl 207) = true ∧ zcs [zR (some 177), zI x1, zI 1] ≤ zmaxl 207) (gd (zob h (some 177) 12) (zBack zY 278 28 31 [some (zR (some 177)), some (zI x1)] [] (zC 207 [zR (some 177), zI x1, zI 1] h)))) from zGo 4 278 25 _ _ _).trans ?_
      refine (gd_t (by decide) _).trans ?_
      refine (gd_t (⟨rfl, Nat.le_of_ble_eq_true rfl, rfl, Nat.le_of_ble_eq_true rfl⟩) _).trans ?_
      refine (gd_t (⟨rfl, (PTM KM 177 _ rfl rfl), (PNM KM 177 rfl)⟩) _).trans ?_
      refine (congrArg (zBack zY 278 28 31 [some (zR (some 177)), some (zI x1)] []) (e_M_sx KM (g0) (by omega))).trans ?_
      refine (show zY 278 31 [some (zR (some 177)), some (zI x1)] [zI (f_M_s h x1 1)] h = gd (([] : List zV).isEmpty = true ∧ (zrk 278 = 1 ∨ zrk 278 = 6 ∧ (((f_M_s h x1 1) : Int) = 0 ∨ ((f_M_s h x1 1) : Int) = 1))) (some (.inl (some (zI (f_M_s h x1 1))), h)) from zGo 1 278 31 _ _ _).trans ?_
      refine (gd_t (⟨rfl, Or.inl rfl⟩) _).trans ?_
      rfl
    · skip
      refine (show zY 278 19 [some (zR (some 177)), some (zI x1)] [] h = gd (false = zctor 258 ∧ zcs [] ≤ 8 ∧ zrm 278 (zrf 258 + 1) (8 + (zmaxl 258 + 11) + zrl 258) = true ∧ zcs [zR (some 177), zI x1] ≤ zmaxl 258) (gd (zob h (some 177) 12) (zBack zY 278 21 24 [some (zR (some 177)), some (zI x1)] [] (zC 258 [zR (some 177), zI x1] h))) from zGo 3 278 19 _ _ _).trans ?_
      refine (gd_t (⟨rfl, Nat.le_of_ble_eq_true rfl, rfl, Nat.le_of_ble_eq_true rfl⟩) _).trans ?_
      refine (gd_t (⟨rfl, (PTM KM 177 _ rfl rfl), (PNM KM 177 rfl)⟩) _).trans ?_
      refine (congrArg (zBack zY 278 21 24 [some (zR (some 177)), some (zI x1)] []) (e_M_fillVariable KM (g0) (g1 c0 c1))).trans ?_
      refine (show zY 278 24 [some (zR (some 177)), some (zI x1)] [zI (f_M_fillVariable h x1)] h = gd (([] : List zV).isEmpty = true ∧ (zrk 278 = 1 ∨ zrk 278 = 6 ∧ (((f_M_fillVariable h x1) : Int) = 0 ∨ ((f_M_fillVariable h x1) : Int) = 1))) (some (.inl (some (zI (f_M_fillVariable h x1))), h)) from zGo 1 278 24 _ _ _).trans ?_
      refine (gd_t (⟨rfl, Or.inl rfl⟩) _).trans ?_
      rfl
  · skip
    refine (show zY 278 25 [some (zR (some 177)), some (zI x1)] [] h = gd (inR (1)) (gd (false = zctor 207 ∧ zcs [] ≤ 8 ∧ zrm 278 (zrf 207 + 1) (8 + (zmaxl 207 + 11) + zrl 207) = true ∧ zcs [zR (some 177), zI x1, zI 1] ≤ zmaxl 207) (gd (zob h (some 177) 12) (zBack zY 278 28 31 [some (zR (some 177)), some (zI x1)] [] (zC 207 [zR (some 177), zI x1, zI 1] h)))) from zGo 4 278 25 _ _ _).trans ?_
    refine (gd_t (by decide) _).trans ?_
    refine (gd_t (⟨rfl, Nat.le_of_ble_eq_true rfl, rfl, Nat.le_of_ble_eq_true rfl⟩) _).trans ?_
    refine (gd_t (⟨rfl, (PTM KM 177 _ rfl rfl), (PNM KM 177 rfl)⟩) _).trans ?_
    refine (congrArg (zBack zY 278 28 31 [some (zR (some 177)), some (zI x1)] []) (e_M_sx KM (g0) (by omega))).trans ?_
    refine (show zY 278 31 [some (zR (some 177)), some (zI x1)] [zI (f_M_s h x1 1)] h = gd (([] : List zV).isEmpty = true ∧ (zrk 278 = 1 ∨ zrk 278 = 6 ∧ (((f_M_s h x1 1) : Int) = 0 ∨ ((f_M_s h x1 1) : Int) = 1))) (some (.inl (some (zI (f_M_s h x1 1))), h)) from zGo 1 278 31 _ _ _).trans ?_
    refine (gd_t (⟨rfl, Or.inl rfl⟩) _).trans ?_
    rfl
def f_M_nodesOf (h : zH) (x1 : Int) : Int :=
  if (f_M_s h x1 0) = 3 then
    0
  else
    if (f_M_s h x1 0) = 2 then
      ((hI h 179 (31 * (2 + x1)).toNat) + ((hI h 179 (31 * (26 + x1)).toNat) + (hI h 179 (31 * (50 + x1)).toNat)))
    else
      ((hI h 179 (31 * (2 + x1)).toNat) + 0)
theorem e_M_nodesOf {h : zH} {x1 : Int} (KM : KM h) (g0 : (0 ≤ x1 ∧ x1 < 24) := by omega) (g1 : (¬ ((f_M_s h x1 0) = 3)) → ((f_M_s h x1 0) = 2) → (-2147483648 ≤ 26 + x1 ∧ 26 + x1 < 2147483648) := by omega) (g2 : (¬ ((f_M_s h x1 0) = 3)) → ((f_M_s h x1 0) = 2) → (-2147483648 ≤ 31 * (26 + x1) ∧ 31 * (26 + x1) < 2147483648) := by omega) (g3 : (¬ ((f_M_s h x1 0) = 3)) → ((f_M_s h x1 0) = 2) → (0 ≤ (31 * (26 + x1)) ∧ (31 * (26 + x1)) < 2342) := by omega) (g4 : (¬ ((f_M_s h x1 0) = 3)) → ((f_M_s h x1 0) = 2) → (-2147483648 ≤ 50 + x1 ∧ 50 + x1 < 2147483648) := by omega) (g5 : (¬ ((f_M_s h x1 0) = 3)) → ((f_M_s h x1 0) = 2) → (-2147483648 ≤ 31 * (50 + x1) ∧ 31 * (50 + x1) < 2147483648) := by omega) (g6 : (¬ ((f_M_s h x1 0) = 3)) → ((f_M_s h x1 0) = 2) → (0 ≤ (31 * (50 + x1)) ∧ (31 * (50 + x1)) < 2342) := by omega) (g7 : (¬ ((f_M_s h x1 0) = 3)) → ((f_M_s h x1 0) = 2) → (-2147483648 ≤ (hI h 179 (31 * (26 + x1)).toNat) + (hI h 179 (31 * (50 + x1)).toNat) ∧ (hI h 179 (31 * (26 + x1)).toNat) + (hI h 179 (31 * (50 + x1)).toNat) < 2147483648) := by omega) (g8 : (¬ ((f_M_s h x1 0) = 3)) → ((f_M_s h x1 0) = 2) → (-2147483648 ≤ 2 + x1 ∧ 2 + x1 < 2147483648) := by omega) (g9 : (¬ ((f_M_s h x1 0) = 3)) → ((f_M_s h x1 0) = 2) → (-2147483648 ≤ 31 * (2 + x1) ∧ 31 * (2 + x1) < 2147483648) := by omega) (g10 : (¬ ((f_M_s h x1 0) = 3)) → ((f_M_s h x1 0) = 2) → (0 ≤ (31 * (2 + x1)) ∧ (31 * (2 + x1)) < 2342) := by omega) (g11 : (¬ ((f_M_s h x1 0) = 3)) → ((f_M_s h x1 0) = 2) → (-2147483648 ≤ (hI h 179 (31 * (2 + x1)).toNat) + ((hI h 179 (31 * (26 + x1)).toNat) + (hI h 179 (31 * (50 + x1)).toNat)) ∧ (hI h 179 (31 * (2 + x1)).toNat) + ((hI h 179 (31 * (26 + x1)).toNat) + (hI h 179 (31 * (50 + x1)).toNat)) < 2147483648) := by omega) (g12 : (¬ ((f_M_s h x1 0) = 3)) → (¬ ((f_M_s h x1 0) = 2)) → (-2147483648 ≤ 2 + x1 ∧ 2 + x1 < 2147483648) := by omega) (g13 : (¬ ((f_M_s h x1 0) = 3)) → (¬ ((f_M_s h x1 0) = 2)) → (-2147483648 ≤ 31 * (2 + x1) ∧ 31 * (2 + x1) < 2147483648) := by omega) (g14 : (¬ ((f_M_s h x1 0) = 3)) → (¬ ((f_M_s h x1 0) = 2)) → (0 ≤ (31 * (2 + x1)) ∧ (31 * (2 + x1)) < 2342) := by omega) (g15 : (¬ ((f_M_s h x1 0) = 3)) → (¬ ((f_M_s h x1 0) = 2)) → (-2147483648 ≤ (hI h 179 (31 * (2 + x1)).toNat) + 0 ∧ (hI h 179 (31 * (2 + x1)).toNat) + 0 < 2147483648) := by omega) : zC 279 [zR (some 177), zI x1] h = some (.inl (some (zI (f_M_nodesOf h x1))), h) := by
  show _ = (some (.inl (some (zI (
    if (f_M_s h x1 0) = 3 then
      0
    else
      if (f_M_s h x1 0) = 2 then
        ((hI h 179 (31 * (2 + x1)).toNat) + ((hI h 179 (31 * (26 + x1)).toNat) + (hI h 179 (31 * (50 + x1)).toNat)))
      else
        ((hI h 179 (31 * (2 + x1)).toNat) + 0)))), h) : zO)
  refine (show zC 279 [zR (some 177), zI x1] h = gd (inR (0)) (gd (false = zctor 207 ∧ zcs [] ≤ 8 ∧ zrm 279 (zrf 207 + 1) (8 + (zmaxl 207 + 11) + zrl 207) = true ∧ zcs [zR (some 177), zI x1, zI 0] ≤ zmaxl 207) (gd (zob h (some 177) 12) (zBack zY 279 3 6 [some (zR (some 177)), some (zI x1), none, none] [] (zC 207 [zR (some 177), zI x1, zI 0] h)))) from zGo 4 279 0 _ _ _).trans ?_
  refine (gd_t (by decide) _).trans ?_
  refine (gd_t (⟨rfl, Nat.le_of_ble_eq_true rfl, rfl, Nat.le_of_ble_eq_true rfl⟩) _).trans ?_
  refine (gd_t (⟨rfl, (PTM KM 177 _ rfl rfl), (PNM KM 177 rfl)⟩) _).trans ?_
  refine (congrArg (zBack zY 279 3 6 [some (zR (some 177)), some (zI x1), none, none] []) (e_M_sx KM (g0) (by omega))).trans ?_
  refine (show zY 279 6 [some (zR (some 177)), some (zI x1), none, none] [zI (f_M_s h x1 0)] h = gd (inR (3)) (if (f_M_s h x1 0) = 3 then zY 279 12 [some (zR (some 177)), some (zI x1), some (zI (f_M_s h x1 0)), none] [] h else zY 279 14 [some (zR (some 177)), some (zI x1), some (zI (f_M_s h x1 0)), none] [] h) from zGo 4 279 6 _ _ _).trans ?_
  refine (gd_t (by decide) _).trans ?_
  refine iteCF (fun x => (some (.inl (some (zI x)), h) : zO)) (fun c0 => ?_) (fun c0 => ?_)
  · skip
    refine (show zY 279 12 [some (zR (some 177)), some (zI x1), some (zI (f_M_s h x1 0)), none] [] h = gd (inR (0)) (gd (([] : List zV).isEmpty = true ∧ (zrk 279 = 1 ∨ zrk 279 = 6 ∧ ((0 : Int) = 0 ∨ (0 : Int) = 1))) (some (.inl (some (zI 0)), h))) from zGo 2 279 12 _ _ _).trans ?_
    refine (gd_t (by decide) _).trans ?_
    refine (gd_t (⟨rfl, Or.inl rfl⟩) _).trans ?_
    rfl
  · skip
    refine (show zY 279 14 [some (zR (some 177)), some (zI x1), some (zI (f_M_s h x1 0)), none] [] h = gd (inR (2)) (if (f_M_s h x1 0) = 2 then zY 279 19 [some (zR (some 177)), some (zI x1), some (zI (f_M_s h x1 0)), none] [] h else zY 279 47 [some (zR (some 177)), some (zI x1), some (zI (f_M_s h x1 0)), none] [] h) from zGo 3 279 14 _ _ _).trans ?_
    refine (gd_t (by decide) _).trans ?_
    refine iteCF (fun x => (some (.inl (some (zI x)), h) : zO)) (fun c1 => ?_) (fun c1 => ?_)
    · skip
      refine (show zY 279 19 [some (zR (some 177)), some (zI x1), some (zI (f_M_s h x1 0)), none] [] h = gd (zob h (some 177) 12) (zY 279 23 [some (zR (some 177)), some (zI x1), some (zI (f_M_s h x1 0)), none] [zR (hR h 177 2)] h) from zGo 2 279 19 _ _ _).trans ?_
      refine (gd_t (⟨rfl, (PTM KM 177 _ rfl rfl), (PNM KM 177 rfl)⟩) _).trans ?_
      refine (congrArg (fun r => zY 279 23 [some (zR (some 177)), some (zI x1), some (zI (f_M_s h x1 0)), none] (zR r :: []) h) (PRM KM 177 2 _ rfl)).trans ?_
      refine (show zY 279 23 [some (zR (some 177)), some (zI x1), some (zI (f_M_s h x1 0)), none] [zR (some 179)] h = gd (-128 ≤ (31 : Int) ∧ (31 : Int) < 128) (gd (-128 ≤ (26 : Int) ∧ (26 : Int) < 128) (gd (inR (26 + x1)) (gd (inR (31 * (26 + x1))) (gd (zok h (some 179) 22 (31 * (26 + x1))) (gd (zob h (some 177) 12) (zY 279 35 [some (zR (some 177)), some (zI x1), some (zI (f_M_s h x1 0)), none] [zR (hR h 177 2), zI (hI h 179 (31 * (26 + x1)).toNat)] h)))))) from zGo 8 279 23 _ _ _).trans ?_
      refine (gd_t (by decide) _).trans ?_
      refine (gd_t (by decide) _).trans ?_
      refine (gd_t ((Iff.rfl).2 (g1 c0 c1)) _).trans ?_
      refine (gd_t ((Iff.rfl).2 (g2 c0 c1)) _).trans ?_
      refine (gd_t ((ci (PTM KM 179 _ rfl rfl) (PLM KM 179 2342 rfl rfl)).2 (g3 c0 c1)) _).trans ?_
      refine (gd_t (⟨rfl, (PTM KM 177 _ rfl rfl), (PNM KM 177 rfl)⟩) _).trans ?_
      refine (congrArg (fun r => zY 279 35 [some (zR (some 177)), some (zI x1), some (zI (f_M_s h x1 0)), none] (zR r :: zI (hI h 179 (31 * (26 + x1)).toNat) :: []) h) (PRM KM 177 2 _ rfl)).trans ?_
      refine (show zY 279 35 [some (zR (some 177)), some (zI x1), some (zI (f_M_s h x1 0)), none] [zR (some 179), zI (hI h 179 (31 * (26 + x1)).toNat)] h = gd (-128 ≤ (31 : Int) ∧ (31 : Int) < 128) (gd (-128 ≤ (50 : Int) ∧ (50 : Int) < 128) (gd (inR (50 + x1)) (gd (inR (31 * (50 + x1))) (gd (zok h (some 179) 22 (31 * (50 + x1))) (gd (inR ((hI h 179 (31 * (26 + x1)).toNat) + (hI h 179 (31 * (50 + x1)).toNat))) (gd (zob h (some 177) 12) (zY 279 53 [some (zR (some 177)), some (zI x1), some (zI (f_M_s h x1 0)), some (zI ((hI h 179 (31 * (26 + x1)).toNat) + (hI h 179 (31 * (50 + x1)).toNat)))] [zR (hR h 177 2)] h))))))) from zGo 11 279 35 _ _ _).trans ?_
      refine (gd_t (by decide) _).trans ?_
      refine (gd_t (by decide) _).trans ?_
      refine (gd_t ((Iff.rfl).2 (g4 c0 c1)) _).trans ?_
      refine (gd_t ((Iff.rfl).2 (g5 c0 c1)) _).trans ?_
      refine (gd_t ((ci (PTM KM 179 _ rfl rfl) (PLM KM 179 2342 rfl rfl)).2 (g6 c0 c1)) _).trans ?_
      refine (gd_t ((Iff.rfl).2 (g7 c0 c1)) _).trans ?_
      refine (gd_t (⟨rfl, (PTM KM 177 _ rfl rfl), (PNM KM 177 rfl)⟩) _).trans ?_
      refine (congrArg (fun r => zY 279 53 [some (zR (some 177)), some (zI x1), some (zI (f_M_s h x1 0)), some (zI ((hI h 179 (31 * (26 + x1)).toNat) + (hI h 179 (31 * (50 + x1)).toNat)))] (zR r :: []) h) (PRM KM 177 2 _ rfl)).trans ?_
      refine (show zY 279 53 [some (zR (some 177)), some (zI x1), some (zI (f_M_s h x1 0)), some (zI ((hI h 179 (31 * (26 + x1)).toNat) + (hI h 179 (31 * (50 + x1)).toNat)))] [zR (some 179)] h = gd (-128 ≤ (31 : Int) ∧ (31 : Int) < 128) (gd (inR (2)) (gd (inR (2 + x1)) (gd (inR (31 * (2 + x1))) (gd (zok h (some 179) 22 (31 * (2 + x1))) (gd (inR ((hI h 179 (31 * (2 + x1)).toNat) + ((hI h 179 (31 * (26 + x1)).toNat) + (hI h 179 (31 * (50 + x1)).toNat)))) (gd (([] : List zV).isEmpty = true ∧ (zrk 279 = 1 ∨ zrk 279 = 6 ∧ ((((hI h 179 (31 * (2 + x1)).toNat) + ((hI h 179 (31 * (26 + x1)).toNat) + (hI h 179 (31 * (50 + x1)).toNat))) : Int) = 0 ∨ (((hI h 179 (31 * (2 + x1)).toNat) + ((hI h 179 (31 * (26 + x1)).toNat) + (hI h 179 (31 * (50 + x1)).toNat))) : Int) = 1))) (some (.inl (some (zI ((hI h 179 (31 * (2 + x1)).toNat) + ((hI h 179 (31 * (26 + x1)).toNat) + (hI h 179 (31 * (50 + x1)).toNat))))), h)))))))) from zGo 9 279 53 _ _ _).trans ?_
      refine (gd_t (by decide) _).trans ?_
      refine (gd_t (by decide) _).trans ?_
      refine (gd_t ((Iff.rfl).2 (g8 c0 c1)) _).trans ?_
      refine (gd_t ((Iff.rfl).2 (g9 c0 c1)) _).trans ?_
      refine (gd_t ((ci (PTM KM 179 _ rfl rfl) (PLM KM 179 2342 rfl rfl)).2 (g10 c0 c1)) _).trans ?_
      refine (gd_t ((Iff.rfl).2 (g11 c0 c1)) _).trans ?_
      refine (gd_t (⟨rfl, Or.inl rfl⟩) _).trans ?_
      rfl
    · skip
      refine (show zY 279 47 [some (zR (some 177)), some (zI x1), some (zI (f_M_s h x1 0)), none] [] h = gd (inR (0)) (gd (zob h (some 177) 12) (zY 279 53 [some (zR (some 177)), some (zI x1), some (zI (f_M_s h x1 0)), some (zI 0)] [zR (hR h 177 2)] h)) from zGo 4 279 47 _ _ _).trans ?_
      refine (gd_t (by decide) _).trans ?_
      refine (gd_t (⟨rfl, (PTM KM 177 _ rfl rfl), (PNM KM 177 rfl)⟩) _).trans ?_
      refine (congrArg (fun r => zY 279 53 [some (zR (some 177)), some (zI x1), some (zI (f_M_s h x1 0)), some (zI 0)] (zR r :: []) h) (PRM KM 177 2 _ rfl)).trans ?_
      refine (show zY 279 53 [some (zR (some 177)), some (zI x1), some (zI (f_M_s h x1 0)), some (zI 0)] [zR (some 179)] h = gd (-128 ≤ (31 : Int) ∧ (31 : Int) < 128) (gd (inR (2)) (gd (inR (2 + x1)) (gd (inR (31 * (2 + x1))) (gd (zok h (some 179) 22 (31 * (2 + x1))) (gd (inR ((hI h 179 (31 * (2 + x1)).toNat) + 0)) (gd (([] : List zV).isEmpty = true ∧ (zrk 279 = 1 ∨ zrk 279 = 6 ∧ ((((hI h 179 (31 * (2 + x1)).toNat) + 0) : Int) = 0 ∨ (((hI h 179 (31 * (2 + x1)).toNat) + 0) : Int) = 1))) (some (.inl (some (zI ((hI h 179 (31 * (2 + x1)).toNat) + 0))), h)))))))) from zGo 9 279 53 _ _ _).trans ?_
      refine (gd_t (by decide) _).trans ?_
      refine (gd_t (by decide) _).trans ?_
      refine (gd_t ((Iff.rfl).2 (g12 c0 c1)) _).trans ?_
      refine (gd_t ((Iff.rfl).2 (g13 c0 c1)) _).trans ?_
      refine (gd_t ((ci (PTM KM 179 _ rfl rfl) (PLM KM 179 2342 rfl rfl)).2 (g14 c0 c1)) _).trans ?_
      refine (gd_t ((Iff.rfl).2 (g15 c0 c1)) _).trans ?_
      refine (gd_t (⟨rfl, Or.inl rfl⟩) _).trans ?_
      rfl
def f_M_swappedBy (h : zH) (x1 : Int) : Int :=
  if (f_M_s h x1 0) = 0 then
    (4 + (f_M_s h x1 1))
  else
    (4 + (f_M_fillVariable h x1))
theorem e_M_swappedBy {h : zH} {x1 : Int} (KM : KM h) (g0 : (0 ≤ x1 ∧ x1 < 24) := by omega) (g1 : ((f_M_s h x1 0) = 0) → (-2147483648 ≤ 4 + (f_M_s h x1 1) ∧ 4 + (f_M_s h x1 1) < 2147483648) := by omega) (g2 : (¬ ((f_M_s h x1 0) = 0)) → (0 ≤ (f_M_filling h x1)) := by omega) (g3 : (¬ ((f_M_s h x1 0) = 0)) → (-2147483648 ≤ 4 + (f_M_fillVariable h x1) ∧ 4 + (f_M_fillVariable h x1) < 2147483648) := by omega) : zC 328 [zR (some 177), zI x1] h = some (.inl (some (zI (f_M_swappedBy h x1))), h) := by
  show _ = (some (.inl (some (zI (
    if (f_M_s h x1 0) = 0 then
      (4 + (f_M_s h x1 1))
    else
      (4 + (f_M_fillVariable h x1))))), h) : zO)
  refine (show zC 328 [zR (some 177), zI x1] h = gd (inR (4)) (gd (inR (0)) (gd (false = zctor 207 ∧ zcs [zI 4] ≤ 8 ∧ zrm 328 (zrf 207 + 1) (8 + (zmaxl 207 + 11) + zrl 207) = true ∧ zcs [zR (some 177), zI x1, zI 0] ≤ zmaxl 207) (gd (zob h (some 177) 12) (zBack zY 328 4 7 [some (zR (some 177)), some (zI x1)] [zI 4] (zC 207 [zR (some 177), zI x1, zI 0] h))))) from zGo 5 328 0 _ _ _).trans ?_
  refine (gd_t (by decide) _).trans ?_
  refine (gd_t (by decide) _).trans ?_
  refine (gd_t (⟨rfl, Nat.le_of_ble_eq_true rfl, rfl, Nat.le_of_ble_eq_true rfl⟩) _).trans ?_
  refine (gd_t (⟨rfl, (PTM KM 177 _ rfl rfl), (PNM KM 177 rfl)⟩) _).trans ?_
  refine (congrArg (zBack zY 328 4 7 [some (zR (some 177)), some (zI x1)] [zI 4]) (e_M_sx KM (g0) (by omega))).trans ?_
  refine (show zY 328 7 [some (zR (some 177)), some (zI x1)] [zI (f_M_s h x1 0), zI 4] h = if (f_M_s h x1 0) = 0 then zY 328 10 [some (zR (some 177)), some (zI x1)] [zI 4] h else zY 328 19 [some (zR (some 177)), some (zI x1)] [zI 4] h from zGo 1 328 7 _ _ _).trans ?_
  refine iteCF (fun x => (some (.inl (some (zI x)), h) : zO)) (fun c0 => ?_) (fun c0 => ?_)
  · skip
    refine (show zY 328 10 [some (zR (some 177)), some (zI x1)] [zI 4] h = gd (inR (1)) (gd (false = zctor 207 ∧ zcs [zI 4] ≤ 8 ∧ zrm 328 (zrf 207 + 1) (8 + (zmaxl 207 + 11) + zrl 207) = true ∧ zcs [zR (some 177), zI x1, zI 1] ≤ zmaxl 207) (gd (zob h (some 177) 12) (zBack zY 328 13 16 [some (zR (some 177)), some (zI x1)] [zI 4] (zC 207 [zR (some 177), zI x1, zI 1] h)))) from zGo 4 328 10 _ _ _).trans ?_
    refine (gd_t (by decide) _).trans ?_
    refine (gd_t (⟨rfl, Nat.le_of_ble_eq_true rfl, rfl, Nat.le_of_ble_eq_true rfl⟩) _).trans ?_
    refine (gd_t (⟨rfl, (PTM KM 177 _ rfl rfl), (PNM KM 177 rfl)⟩) _).trans ?_
    refine (congrArg (zBack zY 328 13 16 [some (zR (some 177)), some (zI x1)] [zI 4]) (e_M_sx KM (g0) (by omega))).trans ?_
    refine (show zY 328 16 [some (zR (some 177)), some (zI x1)] [zI (f_M_s h x1 1), zI 4] h = gd (inR (4 + (f_M_s h x1 1))) (gd (([] : List zV).isEmpty = true ∧ (zrk 328 = 1 ∨ zrk 328 = 6 ∧ (((4 + (f_M_s h x1 1)) : Int) = 0 ∨ ((4 + (f_M_s h x1 1)) : Int) = 1))) (some (.inl (some (zI (4 + (f_M_s h x1 1)))), h))) from zGo 3 328 16 _ _ _).trans ?_
    refine (gd_t ((Iff.rfl).2 (g1 c0)) _).trans ?_
    refine (gd_t (⟨rfl, Or.inl rfl⟩) _).trans ?_
    rfl
  · skip
    refine (show zY 328 19 [some (zR (some 177)), some (zI x1)] [zI 4] h = gd (false = zctor 258 ∧ zcs [zI 4] ≤ 8 ∧ zrm 328 (zrf 258 + 1) (8 + (zmaxl 258 + 11) + zrl 258) = true ∧ zcs [zR (some 177), zI x1] ≤ zmaxl 258) (gd (zob h (some 177) 12) (zBack zY 328 21 24 [some (zR (some 177)), some (zI x1)] [zI 4] (zC 258 [zR (some 177), zI x1] h))) from zGo 3 328 19 _ _ _).trans ?_
    refine (gd_t (⟨rfl, Nat.le_of_ble_eq_true rfl, rfl, Nat.le_of_ble_eq_true rfl⟩) _).trans ?_
    refine (gd_t (⟨rfl, (PTM KM 177 _ rfl rfl), (PNM KM 177 rfl)⟩) _).trans ?_
    refine (congrArg (zBack zY 328 21 24 [some (zR (some 177)), some (zI x1)] [zI 4]) (e_M_fillVariable KM (g0) (g2 c0))).trans ?_
    refine (show zY 328 24 [some (zR (some 177)), some (zI x1)] [zI (f_M_fillVariable h x1), zI 4] h = gd (inR (4 + (f_M_fillVariable h x1))) (gd (([] : List zV).isEmpty = true ∧ (zrk 328 = 1 ∨ zrk 328 = 6 ∧ (((4 + (f_M_fillVariable h x1)) : Int) = 0 ∨ ((4 + (f_M_fillVariable h x1)) : Int) = 1))) (some (.inl (some (zI (4 + (f_M_fillVariable h x1)))), h))) from zGo 2 328 24 _ _ _).trans ?_
    refine (gd_t ((Iff.rfl).2 (g3 c0)) _).trans ?_
    refine (gd_t (⟨rfl, Or.inl rfl⟩) _).trans ?_
    rfl
abbrev b_M_isCondition (h : zH) (x1 : Int) : Prop :=
  ¬ ((hI h 177 37) = 2) ∧ 10 ≤ x1
theorem e_M_isCondition {h : zH} {x1 : Int} (KM : KM h) : zC 226 [zR (some 177), zI x1] h = some (.inl (some (zI (if b_M_isCondition h x1 then (1 : Int) else 0))), h) := by
  refine (show zC 226 [zR (some 177), zI x1] h = gd (zob h (some 177) 12) (gd (inR (2)) (if (hI h 177 37) = 2 then zY 226 18 [some (zR (some 177)), some (zI x1)] [] h else zY 226 8 [some (zR (some 177)), some (zI x1)] [] h)) from zGo 4 226 0 _ _ _).trans ?_
  refine (gd_t (⟨rfl, (PTM KM 177 _ rfl rfl), (PNM KM 177 rfl)⟩) _).trans ?_
  refine (gd_t (by decide) _).trans ?_
  refine ite_x (fun c0 => ?_) (fun c0 => ?_)
  · skip
    refine (show zY 226 18 [some (zR (some 177)), some (zI x1)] [] h = gd (inR (0)) (gd (([] : List zV).isEmpty = true ∧ (zrk 226 = 1 ∨ zrk 226 = 6 ∧ ((0 : Int) = 0 ∨ (0 : Int) = 1))) (some (.inl (some (zI 0)), h))) from zGo 2 226 18 _ _ _).trans ?_
    refine (gd_t (by decide) _).trans ?_
    refine (gd_t (⟨rfl, Or.inr ⟨rfl, by decide⟩⟩) _).trans ?_
    exact retI (by first | rfl | (exact (if_pos (by unfold b_M_isCondition; omega)).symm) | (exact (if_neg (by unfold b_M_isCondition; omega)).symm) | (exact ifc_congr (by unfold b_M_isCondition; simp_all)) | (unfold b_M_isCondition; simp_all))
  · skip
    refine (show zY 226 8 [some (zR (some 177)), some (zI x1)] [] h = gd (-128 ≤ (10 : Int) ∧ (10 : Int) < 128) (if x1 < 10 then zY 226 18 [some (zR (some 177)), some (zI x1)] [] h else zY 226 14 [some (zR (some 177)), some (zI x1)] [] h) from zGo 3 226 8 _ _ _).trans ?_
    refine (gd_t (by decide) _).trans ?_
    refine ite_x (fun c1 => ?_) (fun c1 => ?_)
    · skip
      refine (show zY 226 18 [some (zR (some 177)), some (zI x1)] [] h = gd (inR (0)) (gd (([] : List zV).isEmpty = true ∧ (zrk 226 = 1 ∨ zrk 226 = 6 ∧ ((0 : Int) = 0 ∨ (0 : Int) = 1))) (some (.inl (some (zI 0)), h))) from zGo 2 226 18 _ _ _).trans ?_
      refine (gd_t (by decide) _).trans ?_
      refine (gd_t (⟨rfl, Or.inr ⟨rfl, by decide⟩⟩) _).trans ?_
      exact retI (by first | rfl | (exact (if_pos (by unfold b_M_isCondition; omega)).symm) | (exact (if_neg (by unfold b_M_isCondition; omega)).symm) | (exact ifc_congr (by unfold b_M_isCondition; simp_all)) | (unfold b_M_isCondition; simp_all))
    · skip
      refine (show zY 226 14 [some (zR (some 177)), some (zI x1)] [] h = gd (inR (1)) (gd (([] : List zV).isEmpty = true ∧ (zrk 226 = 1 ∨ zrk 226 = 6 ∧ ((1 : Int) = 0 ∨ (1 : Int) = 1))) (some (.inl (some (zI 1)), h))) from zGo 3 226 14 _ _ _).trans ?_
      refine (gd_t (by decide) _).trans ?_
      refine (gd_t (⟨rfl, Or.inr ⟨rfl, by decide⟩⟩) _).trans ?_
      exact retI (by first | rfl | (exact (if_pos (by unfold b_M_isCondition; omega)).symm) | (exact (if_neg (by unfold b_M_isCondition; omega)).symm) | (exact ifc_congr (by unfold b_M_isCondition; simp_all)) | (unfold b_M_isCondition; simp_all))
def f_M_rowNeed (h : zH) (x1 : Int) (x2 : BitVec 64) : BitVec 64 :=
  if x1 = (-1) then
    x2
  else
    (hJ h 188 x1.toNat)
theorem e_M_rowNeed {h : zH} {x1 : Int} {x2 : BitVec 64} (KM : KM h) (g0 : (¬ (x1 = (-1))) → (0 ≤ x1 ∧ x1 < 24) := by omega) : zC 255 [zR (some 177), zI x1, zJ x2] h = some (.inl (some (zJ (f_M_rowNeed h x1 x2))), h) := by
  show _ = (some (.inl (some (zJ (
    if x1 = (-1) then
      x2
    else
      (hJ h 188 x1.toNat)))), h) : zO)
  refine (show zC 255 [zR (some 177), zI x1, zJ x2] h = gd (inR (-1)) (if x1 = (-1) then zY 255 5 [some (zR (some 177)), some (zI x1), some (zJ x2), none] [] h else zY 255 9 [some (zR (some 177)), some (zI x1), some (zJ x2), none] [] h) from zGo 3 255 0 _ _ _).trans ?_
  refine (gd_t (by decide) _).trans ?_
  refine iteCF (fun x => (some (.inl (some (zJ x)), h) : zO)) (fun c0 => ?_) (fun c0 => ?_)
  · skip
    refine (show zY 255 5 [some (zR (some 177)), some (zI x1), some (zJ x2), none] [] h = gd (([] : List zV).isEmpty = true ∧ zrk 255 = 2) (some (.inl (some (zJ x2)), h)) from zGo 3 255 5 _ _ _).trans ?_
    refine (gd_t (⟨rfl, rfl⟩) _).trans ?_
    rfl
  · skip
    refine (show zY 255 9 [some (zR (some 177)), some (zI x1), some (zJ x2), none] [] h = gd (zob h (some 177) 12) (zY 255 13 [some (zR (some 177)), some (zI x1), some (zJ x2), none] [zR (hR h 177 22)] h) from zGo 2 255 9 _ _ _).trans ?_
    refine (gd_t (⟨rfl, (PTM KM 177 _ rfl rfl), (PNM KM 177 rfl)⟩) _).trans ?_
    refine (congrArg (fun r => zY 255 13 [some (zR (some 177)), some (zI x1), some (zJ x2), none] (zR r :: []) h) (PRM KM 177 22 _ rfl)).trans ?_
    refine (show zY 255 13 [some (zR (some 177)), some (zI x1), some (zJ x2), none] [zR (some 188)] h = gd (zok h (some 188) 23 x1) (gd (([] : List zV).isEmpty = true ∧ zrk 255 = 2) (some (.inl (some (zJ (hJ h 188 x1.toNat))), h))) from zGo 3 255 13 _ _ _).trans ?_
    refine (gd_t ((ci (PTM KM 188 _ rfl rfl) (PLM KM 188 24 rfl rfl)).2 (g0 c0)) _).trans ?_
    refine (gd_t (⟨rfl, rfl⟩) _).trans ?_
    rfl
theorem q_M_refuse {h : zH} {x1 : Int} (KM : KM h) : zC 210 [zR (some 177), zI x1] h =
    some (.inl (some (zI 0)), (sI h 177 1 x1)) := by
  refine (show zC 210 [zR (some 177), zI x1] h = gd (zob h (some 177) 12) (gd (inR (0)) (gd (([] : List zV).isEmpty = true ∧ (zrk 210 = 1 ∨ zrk 210 = 6 ∧ ((0 : Int) = 0 ∨ (0 : Int) = 1))) (some (.inl (some (zI 0)), (sI h 177 1 x1))))) from zGo 5 210 0 _ _ _).trans ?_
  refine (gd_t (⟨rfl, (PTM KM 177 _ rfl rfl), (PNM KM 177 rfl)⟩) _).trans ?_
  refine (gd_t (by decide) _).trans ?_
  refine (gd_t (⟨rfl, Or.inl rfl⟩) _).trans ?_
  rfl
theorem q_M_told {h : zH} {x1 : Int} (KM : KM h) : zC 212 [zR (some 177), zI x1] h =
    some (.inl (some (zI x1)), (sI h 177 1 0)) := by
  refine (show zC 212 [zR (some 177), zI x1] h = gd (inR (0)) (gd (zob h (some 177) 12) (gd (([] : List zV).isEmpty = true ∧ (zrk 212 = 1 ∨ zrk 212 = 6 ∧ ((x1 : Int) = 0 ∨ (x1 : Int) = 1))) (some (.inl (some (zI x1)), (sI h 177 1 0))))) from zGo 5 212 0 _ _ _).trans ?_
  refine (gd_t (by decide) _).trans ?_
  refine (gd_t (⟨rfl, (PTM KM 177 _ rfl rfl), (PNM KM 177 rfl)⟩) _).trans ?_
  refine (gd_t (⟨rfl, Or.inl rfl⟩) _).trans ?_
  rfl
theorem q_M_noSet {h : zH} (KM : KM h) : zC 284 [zR (some 177)] h =
    some (.inl (some (zJ (0#64))), (sI h 177 1 1)) := by
  refine (show zC 284 [zR (some 177)] h = gd (inR (1)) (gd (zob h (some 177) 12) (gd (([] : List zV).isEmpty = true ∧ zrk 284 = 2) (some (.inl (some (zJ (0#64))), (sI h 177 1 1))))) from zGo 5 284 0 _ _ _).trans ?_
  refine (gd_t (by decide) _).trans ?_
  refine (gd_t (⟨rfl, (PTM KM 177 _ rfl rfl), (PNM KM 177 rfl)⟩) _).trans ?_
  refine (gd_t (⟨rfl, rfl⟩) _).trans ?_
  rfl
theorem q_M_toldSet {h : zH} {x1 : BitVec 64} (KM : KM h) : zC 281 [zR (some 177), zJ x1] h =
    some (.inl (some (zJ x1)), (sI h 177 1 0)) := by
  refine (show zC 281 [zR (some 177), zJ x1] h = gd (inR (0)) (gd (zob h (some 177) 12) (gd (([] : List zV).isEmpty = true ∧ zrk 281 = 2) (some (.inl (some (zJ x1)), (sI h 177 1 0))))) from zGo 5 281 0 _ _ _).trans ?_
  refine (gd_t (by decide) _).trans ?_
  refine (gd_t (⟨rfl, (PTM KM 177 _ rfl rfl), (PNM KM 177 rfl)⟩) _).trans ?_
  refine (gd_t (⟨rfl, rfl⟩) _).trans ?_
  rfl
