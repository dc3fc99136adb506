/-! The class: methods that only read. -/
abbrev b_W_isVariable (x0 : Int) : Prop :=
  4 ≤ x0 ∧ x0 ≤ 6
theorem e_W_isVariable {h : zH} {x0 : Int} : zC 145 [zI x0] h = some (.inl (some (zI (if b_W_isVariable x0 then (1 : Int) else 0))), h) := by
  refine (show zC 145 [zI x0] h = gd (inR (4)) (if x0 < 4 then zY 145 15 [some (zI x0)] [] h else zY 145 5 [some (zI x0)] [] h) from zGo 3 145 0 _ _ _).trans ?_
  refine (gd_t (by decide) _).trans ?_
  refine ite_x (fun c0 => ?_) (fun c0 => ?_)
  · skip
    refine (show zY 145 15 [some (zI x0)] [] h = gd (inR (0)) (gd (([] : List zV).isEmpty = true ∧ (zrk 145 = 1 ∨ zrk 145 = 6 ∧ ((0 : Int) = 0 ∨ (0 : Int) = 1))) (some (.inl (some (zI 0)), h))) from zGo 2 145 15 _ _ _).trans ?_
    refine (gd_t (by decide) _).trans ?_
    refine (gd_t (⟨rfl, Or.inr ⟨rfl, by decide⟩⟩) _).trans ?_
    exact retI (by first | rfl | (exact (if_pos (by unfold b_W_isVariable; omega)).symm) | (exact (if_neg (by unfold b_W_isVariable; omega)).symm) | (exact ifc_congr (by unfold b_W_isVariable; simp_all)) | (unfold b_W_isVariable; simp_all))
  · skip
    refine (show zY 145 5 [some (zI x0)] [] h = gd (-128 ≤ (6 : Int) ∧ (6 : Int) < 128) (if 6 < x0 then zY 145 15 [some (zI x0)] [] h else zY 145 11 [some (zI x0)] [] h) from zGo 3 145 5 _ _ _).trans ?_
    refine (gd_t (by decide) _).trans ?_
    refine ite_x (fun c1 => ?_) (fun c1 => ?_)
    · skip
      refine (show zY 145 15 [some (zI x0)] [] h = gd (inR (0)) (gd (([] : List zV).isEmpty = true ∧ (zrk 145 = 1 ∨ zrk 145 = 6 ∧ ((0 : Int) = 0 ∨ (0 : Int) = 1))) (some (.inl (some (zI 0)), h))) from zGo 2 145 15 _ _ _).trans ?_
      refine (gd_t (by decide) _).trans ?_
      refine (gd_t (⟨rfl, Or.inr ⟨rfl, by decide⟩⟩) _).trans ?_
      exact retI (by first | rfl | (exact (if_pos (by unfold b_W_isVariable; omega)).symm) | (exact (if_neg (by unfold b_W_isVariable; omega)).symm) | (exact ifc_congr (by unfold b_W_isVariable; simp_all)) | (unfold b_W_isVariable; simp_all))
    · skip
      refine (show zY 145 11 [some (zI x0)] [] h = gd (inR (1)) (gd (([] : List zV).isEmpty = true ∧ (zrk 145 = 1 ∨ zrk 145 = 6 ∧ ((1 : Int) = 0 ∨ (1 : Int) = 1))) (some (.inl (some (zI 1)), h))) from zGo 3 145 11 _ _ _).trans ?_
      refine (gd_t (by decide) _).trans ?_
      refine (gd_t (⟨rfl, Or.inr ⟨rfl, by decide⟩⟩) _).trans ?_
      exact retI (by first | rfl | (exact (if_pos (by unfold b_W_isVariable; omega)).symm) | (exact (if_neg (by unfold b_W_isVariable; omega)).symm) | (exact ifc_congr (by unfold b_W_isVariable; simp_all)) | (unfold b_W_isVariable; simp_all))
abbrev b_W_isOfExpressions (x0 : Int) : Prop :=
  0 ≤ x0 ∧ x0 ≤ 9
theorem e_W_isOfExpressions {h : zH} {x0 : Int} : zC 140 [zI x0] h = some (.inl (some (zI (if b_W_isOfExpressions x0 then (1 : Int) else 0))), h) := by
  refine (show zC 140 [zI x0] h = if x0 < 0 then zY 140 14 [some (zI x0)] [] h else zY 140 4 [some (zI x0)] [] h from zGo 2 140 0 _ _ _).trans ?_
  refine ite_x (fun c0 => ?_) (fun c0 => ?_)
  · skip
    refine (show zY 140 14 [some (zI x0)] [] h = gd (inR (0)) (gd (([] : List zV).isEmpty = true ∧ (zrk 140 = 1 ∨ zrk 140 = 6 ∧ ((0 : Int) = 0 ∨ (0 : Int) = 1))) (some (.inl (some (zI 0)), h))) from zGo 2 140 14 _ _ _).trans ?_
    refine (gd_t (by decide) _).trans ?_
    refine (gd_t (⟨rfl, Or.inr ⟨rfl, by decide⟩⟩) _).trans ?_
    exact retI (by first | rfl | (exact (if_pos (by unfold b_W_isOfExpressions; omega)).symm) | (exact (if_neg (by unfold b_W_isOfExpressions; omega)).symm) | (exact ifc_congr (by unfold b_W_isOfExpressions; simp_all)) | (unfold b_W_isOfExpressions; simp_all))
  · skip
    refine (show zY 140 4 [some (zI x0)] [] h = gd (-128 ≤ (9 : Int) ∧ (9 : Int) < 128) (if 9 < x0 then zY 140 14 [some (zI x0)] [] h else zY 140 10 [some (zI x0)] [] h) from zGo 3 140 4 _ _ _).trans ?_
    refine (gd_t (by decide) _).trans ?_
    refine ite_x (fun c1 => ?_) (fun c1 => ?_)
    · skip
      refine (show zY 140 14 [some (zI x0)] [] h = gd (inR (0)) (gd (([] : List zV).isEmpty = true ∧ (zrk 140 = 1 ∨ zrk 140 = 6 ∧ ((0 : Int) = 0 ∨ (0 : Int) = 1))) (some (.inl (some (zI 0)), h))) from zGo 2 140 14 _ _ _).trans ?_
      refine (gd_t (by decide) _).trans ?_
      refine (gd_t (⟨rfl, Or.inr ⟨rfl, by decide⟩⟩) _).trans ?_
      exact retI (by first | rfl | (exact (if_pos (by unfold b_W_isOfExpressions; omega)).symm) | (exact (if_neg (by unfold b_W_isOfExpressions; omega)).symm) | (exact ifc_congr (by unfold b_W_isOfExpressions; simp_all)) | (unfold b_W_isOfExpressions; simp_all))
    · skip
      refine (show zY 140 10 [some (zI x0)] [] h = gd (inR (1)) (gd (([] : List zV).isEmpty = true ∧ (zrk 140 = 1 ∨ zrk 140 = 6 ∧ ((1 : Int) = 0 ∨ (1 : Int) = 1))) (some (.inl (some (zI 1)), h))) from zGo 3 140 10 _ _ _).trans ?_
      refine (gd_t (by decide) _).trans ?_
      refine (gd_t (⟨rfl, Or.inr ⟨rfl, by decide⟩⟩) _).trans ?_
      exact retI (by first | rfl | (exact (if_pos (by unfold b_W_isOfExpressions; omega)).symm) | (exact (if_neg (by unfold b_W_isOfExpressions; omega)).symm) | (exact ifc_congr (by unfold b_W_isOfExpressions; simp_all)) | (unfold b_W_isOfExpressions; simp_all))
abbrev b_W_isOfConditions (x0 : Int) : Prop :=
  10 ≤ x0 ∧ x0 ≤ 16
theorem e_W_isOfConditions {h : zH} {x0 : Int} : zC 141 [zI x0] h = some (.inl (some (zI (if b_W_isOfConditions x0 then (1 : Int) else 0))), h) := by
  refine (show zC 141 [zI x0] h = gd (-128 ≤ (10 : Int) ∧ (10 : Int) < 128) (if x0 < 10 then zY 141 16 [some (zI x0)] [] h else zY 141 6 [some (zI x0)] [] h) from zGo 3 141 0 _ _ _).trans ?_
  refine (gd_t (by decide) _).trans ?_
  refine ite_x (fun c0 => ?_) (fun c0 => ?_)
  · skip
    refine (show zY 141 16 [some (zI x0)] [] h = gd (inR (0)) (gd (([] : List zV).isEmpty = true ∧ (zrk 141 = 1 ∨ zrk 141 = 6 ∧ ((0 : Int) = 0 ∨ (0 : Int) = 1))) (some (.inl (some (zI 0)), h))) from zGo 2 141 16 _ _ _).trans ?_
    refine (gd_t (by decide) _).trans ?_
    refine (gd_t (⟨rfl, Or.inr ⟨rfl, by decide⟩⟩) _).trans ?_
    exact retI (by first | rfl | (exact (if_pos (by unfold b_W_isOfConditions; omega)).symm) | (exact (if_neg (by unfold b_W_isOfConditions; omega)).symm) | (exact ifc_congr (by unfold b_W_isOfConditions; simp_all)) | (unfold b_W_isOfConditions; simp_all))
  · skip
    refine (show zY 141 6 [some (zI x0)] [] h = gd (-128 ≤ (16 : Int) ∧ (16 : Int) < 128) (if 16 < x0 then zY 141 16 [some (zI x0)] [] h else zY 141 12 [some (zI x0)] [] h) from zGo 3 141 6 _ _ _).trans ?_
    refine (gd_t (by decide) _).trans ?_
    refine ite_x (fun c1 => ?_) (fun c1 => ?_)
    · skip
      refine (show zY 141 16 [some (zI x0)] [] h = gd (inR (0)) (gd (([] : List zV).isEmpty = true ∧ (zrk 141 = 1 ∨ zrk 141 = 6 ∧ ((0 : Int) = 0 ∨ (0 : Int) = 1))) (some (.inl (some (zI 0)), h))) from zGo 2 141 16 _ _ _).trans ?_
      refine (gd_t (by decide) _).trans ?_
      refine (gd_t (⟨rfl, Or.inr ⟨rfl, by decide⟩⟩) _).trans ?_
      exact retI (by first | rfl | (exact (if_pos (by unfold b_W_isOfConditions; omega)).symm) | (exact (if_neg (by unfold b_W_isOfConditions; omega)).symm) | (exact ifc_congr (by unfold b_W_isOfConditions; simp_all)) | (unfold b_W_isOfConditions; simp_all))
    · skip
      refine (show zY 141 12 [some (zI x0)] [] h = gd (inR (1)) (gd (([] : List zV).isEmpty = true ∧ (zrk 141 = 1 ∨ zrk 141 = 6 ∧ ((1 : Int) = 0 ∨ (1 : Int) = 1))) (some (.inl (some (zI 1)), h))) from zGo 3 141 12 _ _ _).trans ?_
      refine (gd_t (by decide) _).trans ?_
      refine (gd_t (⟨rfl, Or.inr ⟨rfl, by decide⟩⟩) _).trans ?_
      exact retI (by first | rfl | (exact (if_pos (by unfold b_W_isOfConditions; omega)).symm) | (exact (if_neg (by unfold b_W_isOfConditions; omega)).symm) | (exact ifc_congr (by unfold b_W_isOfConditions; simp_all)) | (unfold b_W_isOfConditions; simp_all))
abbrev b_W_isStatement (x0 : Int) : Prop :=
  17 ≤ x0 ∧ x0 ≤ 20
theorem e_W_isStatement {h : zH} {x0 : Int} : zC 144 [zI x0] h = some (.inl (some (zI (if b_W_isStatement x0 then (1 : Int) else 0))), h) := by
  refine (show zC 144 [zI x0] h = gd (-128 ≤ (17 : Int) ∧ (17 : Int) < 128) (if x0 < 17 then zY 144 16 [some (zI x0)] [] h else zY 144 6 [some (zI x0)] [] h) from zGo 3 144 0 _ _ _).trans ?_
  refine (gd_t (by decide) _).trans ?_
  refine ite_x (fun c0 => ?_) (fun c0 => ?_)
  · skip
    refine (show zY 144 16 [some (zI x0)] [] h = gd (inR (0)) (gd (([] : List zV).isEmpty = true ∧ (zrk 144 = 1 ∨ zrk 144 = 6 ∧ ((0 : Int) = 0 ∨ (0 : Int) = 1))) (some (.inl (some (zI 0)), h))) from zGo 2 144 16 _ _ _).trans ?_
    refine (gd_t (by decide) _).trans ?_
    refine (gd_t (⟨rfl, Or.inr ⟨rfl, by decide⟩⟩) _).trans ?_
    exact retI (by first | rfl | (exact (if_pos (by unfold b_W_isStatement; omega)).symm) | (exact (if_neg (by unfold b_W_isStatement; omega)).symm) | (exact ifc_congr (by unfold b_W_isStatement; simp_all)) | (unfold b_W_isStatement; simp_all))
  · skip
    refine (show zY 144 6 [some (zI x0)] [] h = gd (-128 ≤ (20 : Int) ∧ (20 : Int) < 128) (if 20 < x0 then zY 144 16 [some (zI x0)] [] h else zY 144 12 [some (zI x0)] [] h) from zGo 3 144 6 _ _ _).trans ?_
    refine (gd_t (by decide) _).trans ?_
    refine ite_x (fun c1 => ?_) (fun c1 => ?_)
    · skip
      refine (show zY 144 16 [some (zI x0)] [] h = gd (inR (0)) (gd (([] : List zV).isEmpty = true ∧ (zrk 144 = 1 ∨ zrk 144 = 6 ∧ ((0 : Int) = 0 ∨ (0 : Int) = 1))) (some (.inl (some (zI 0)), h))) from zGo 2 144 16 _ _ _).trans ?_
      refine (gd_t (by decide) _).trans ?_
      refine (gd_t (⟨rfl, Or.inr ⟨rfl, by decide⟩⟩) _).trans ?_
      exact retI (by first | rfl | (exact (if_pos (by unfold b_W_isStatement; omega)).symm) | (exact (if_neg (by unfold b_W_isStatement; omega)).symm) | (exact ifc_congr (by unfold b_W_isStatement; simp_all)) | (unfold b_W_isStatement; simp_all))
    · skip
      refine (show zY 144 12 [some (zI x0)] [] h = gd (inR (1)) (gd (([] : List zV).isEmpty = true ∧ (zrk 144 = 1 ∨ zrk 144 = 6 ∧ ((1 : Int) = 0 ∨ (1 : Int) = 1))) (some (.inl (some (zI 1)), h))) from zGo 3 144 12 _ _ _).trans ?_
      refine (gd_t (by decide) _).trans ?_
      refine (gd_t (⟨rfl, Or.inr ⟨rfl, by decide⟩⟩) _).trans ?_
      exact retI (by first | rfl | (exact (if_pos (by unfold b_W_isStatement; omega)).symm) | (exact (if_neg (by unfold b_W_isStatement; omega)).symm) | (exact ifc_congr (by unfold b_W_isStatement; simp_all)) | (unfold b_W_isStatement; simp_all))
def f_W_expressionsBehind (x0 : Int) : Int :=
  if x0 < 7 then
    if x0 = 12 then
      2
    else
      if x0 = 13 then
        2
      else
        0
  else
    if 9 < x0 then
      if x0 = 12 then
        2
      else
        if x0 = 13 then
          2
        else
          0
    else
      2
theorem e_W_expressionsBehind {h : zH} {x0 : Int} : zC 142 [zI x0] h = some (.inl (some (zI (f_W_expressionsBehind x0))), h) := by
  show _ = (some (.inl (some (zI (
    if x0 < 7 then
      if x0 = 12 then
        2
      else
        if x0 = 13 then
          2
        else
          0
    else
      if 9 < x0 then
        if x0 = 12 then
          2
        else
          if x0 = 13 then
            2
          else
            0
      else
        2))), h) : zO)
  refine (show zC 142 [zI x0] h = gd (-128 ≤ (7 : Int) ∧ (7 : Int) < 128) (if x0 < 7 then zY 142 12 [some (zI x0)] [] h else zY 142 6 [some (zI x0)] [] h) from zGo 3 142 0 _ _ _).trans ?_
  refine (gd_t (by decide) _).trans ?_
  refine iteCF (fun x => (some (.inl (some (zI x)), h) : zO)) (fun c0 => ?_) (fun c0 => ?_)
  · skip
    refine (show zY 142 12 [some (zI x0)] [] h = gd (-128 ≤ (12 : Int) ∧ (12 : Int) < 128) (if x0 = 12 then zY 142 24 [some (zI x0)] [] h else zY 142 18 [some (zI x0)] [] h) from zGo 3 142 12 _ _ _).trans ?_
    refine (gd_t (by decide) _).trans ?_
    refine iteCF (fun x => (some (.inl (some (zI x)), h) : zO)) (fun c1 => ?_) (fun c1 => ?_)
    · skip
      refine (show zY 142 24 [some (zI x0)] [] h = gd (inR (2)) (gd (([] : List zV).isEmpty = true ∧ (zrk 142 = 1 ∨ zrk 142 = 6 ∧ ((2 : Int) = 0 ∨ (2 : Int) = 1))) (some (.inl (some (zI 2)), h))) from zGo 3 142 24 _ _ _).trans ?_
      refine (gd_t (by decide) _).trans ?_
      refine (gd_t (⟨rfl, Or.inl rfl⟩) _).trans ?_
      rfl
    · skip
      refine (show zY 142 18 [some (zI x0)] [] h = gd (-128 ≤ (13 : Int) ∧ (13 : Int) < 128) (if x0 = 13 then zY 142 24 [some (zI x0)] [] h else zY 142 28 [some (zI x0)] [] h) from zGo 3 142 18 _ _ _).trans ?_
      refine (gd_t (by decide) _).trans ?_
      refine iteCF (fun x => (some (.inl (some (zI x)), h) : zO)) (fun c2 => ?_) (fun c2 => ?_)
      · skip
        refine (show zY 142 24 [some (zI x0)] [] h = gd (inR (2)) (gd (([] : List zV).isEmpty = true ∧ (zrk 142 = 1 ∨ zrk 142 = 6 ∧ ((2 : Int) = 0 ∨ (2 : Int) = 1))) (some (.inl (some (zI 2)), h))) from zGo 3 142 24 _ _ _).trans ?_
        refine (gd_t (by decide) _).trans ?_
        refine (gd_t (⟨rfl, Or.inl rfl⟩) _).trans ?_
        rfl
      · skip
        refine (show zY 142 28 [some (zI x0)] [] h = gd (inR (0)) (gd (([] : List zV).isEmpty = true ∧ (zrk 142 = 1 ∨ zrk 142 = 6 ∧ ((0 : Int) = 0 ∨ (0 : Int) = 1))) (some (.inl (some (zI 0)), h))) from zGo 2 142 28 _ _ _).trans ?_
        refine (gd_t (by decide) _).trans ?_
        refine (gd_t (⟨rfl, Or.inl rfl⟩) _).trans ?_
        rfl
  · skip
    refine (show zY 142 6 [some (zI x0)] [] h = gd (-128 ≤ (9 : Int) ∧ (9 : Int) < 128) (if 9 < x0 then zY 142 12 [some (zI x0)] [] h else zY 142 24 [some (zI x0)] [] h) from zGo 3 142 6 _ _ _).trans ?_
    refine (gd_t (by decide) _).trans ?_
    refine iteCF (fun x => (some (.inl (some (zI x)), h) : zO)) (fun c3 => ?_) (fun c3 => ?_)
    · skip
      refine (show zY 142 12 [some (zI x0)] [] h = gd (-128 ≤ (12 : Int) ∧ (12 : Int) < 128) (if x0 = 12 then zY 142 24 [some (zI x0)] [] h else zY 142 18 [some (zI x0)] [] h) from zGo 3 142 12 _ _ _).trans ?_
      refine (gd_t (by decide) _).trans ?_
      refine iteCF (fun x => (some (.inl (some (zI x)), h) : zO)) (fun c4 => ?_) (fun c4 => ?_)
      · skip
        refine (show zY 142 24 [some (zI x0)] [] h = gd (inR (2)) (gd (([] : List zV).isEmpty = true ∧ (zrk 142 = 1 ∨ zrk 142 = 6 ∧ ((2 : Int) = 0 ∨ (2 : Int) = 1))) (some (.inl (some (zI 2)), h))) from zGo 3 142 24 _ _ _).trans ?_
        refine (gd_t (by decide) _).trans ?_
        refine (gd_t (⟨rfl, Or.inl rfl⟩) _).trans ?_
        rfl
      · skip
        refine (show zY 142 18 [some (zI x0)] [] h = gd (-128 ≤ (13 : Int) ∧ (13 : Int) < 128) (if x0 = 13 then zY 142 24 [some (zI x0)] [] h else zY 142 28 [some (zI x0)] [] h) from zGo 3 142 18 _ _ _).trans ?_
        refine (gd_t (by decide) _).trans ?_
        refine iteCF (fun x => (some (.inl (some (zI x)), h) : zO)) (fun c5 => ?_) (fun c5 => ?_)
        · skip
          refine (show zY 142 24 [some (zI x0)] [] h = gd (inR (2)) (gd (([] : List zV).isEmpty = true ∧ (zrk 142 = 1 ∨ zrk 142 = 6 ∧ ((2 : Int) = 0 ∨ (2 : Int) = 1))) (some (.inl (some (zI 2)), h))) from zGo 3 142 24 _ _ _).trans ?_
          refine (gd_t (by decide) _).trans ?_
          refine (gd_t (⟨rfl, Or.inl rfl⟩) _).trans ?_
          rfl
        · skip
          refine (show zY 142 28 [some (zI x0)] [] h = gd (inR (0)) (gd (([] : List zV).isEmpty = true ∧ (zrk 142 = 1 ∨ zrk 142 = 6 ∧ ((0 : Int) = 0 ∨ (0 : Int) = 1))) (some (.inl (some (zI 0)), h))) from zGo 2 142 28 _ _ _).trans ?_
          refine (gd_t (by decide) _).trans ?_
          refine (gd_t (⟨rfl, Or.inl rfl⟩) _).trans ?_
          rfl
    · skip
      refine (show zY 142 24 [some (zI x0)] [] h = gd (inR (2)) (gd (([] : List zV).isEmpty = true ∧ (zrk 142 = 1 ∨ zrk 142 = 6 ∧ ((2 : Int) = 0 ∨ (2 : Int) = 1))) (some (.inl (some (zI 2)), h))) from zGo 3 142 24 _ _ _).trans ?_
      refine (gd_t (by decide) _).trans ?_
      refine (gd_t (⟨rfl, Or.inl rfl⟩) _).trans ?_
      rfl
def f_W_conditionsBehind (x0 : Int) : Int :=
  if x0 = 15 then
    2
  else
    if x0 = 16 then
      2
    else
      if x0 = 14 then
        1
      else
        0
theorem e_W_conditionsBehind {h : zH} {x0 : Int} : zC 143 [zI x0] h = some (.inl (some (zI (f_W_conditionsBehind x0))), h) := by
  show _ = (some (.inl (some (zI (
    if x0 = 15 then
      2
    else
      if x0 = 16 then
        2
      else
        if x0 = 14 then
          1
        else
          0))), h) : zO)
  refine (show zC 143 [zI x0] h = gd (-128 ≤ (15 : Int) ∧ (15 : Int) < 128) (if x0 = 15 then zY 143 12 [some (zI x0)] [] h else zY 143 6 [some (zI x0)] [] h) from zGo 3 143 0 _ _ _).trans ?_
  refine (gd_t (by decide) _).trans ?_
  refine iteCF (fun x => (some (.inl (some (zI x)), h) : zO)) (fun c0 => ?_) (fun c0 => ?_)
  · skip
    refine (show zY 143 12 [some (zI x0)] [] h = gd (inR (2)) (gd (([] : List zV).isEmpty = true ∧ (zrk 143 = 1 ∨ zrk 143 = 6 ∧ ((2 : Int) = 0 ∨ (2 : Int) = 1))) (some (.inl (some (zI 2)), h))) from zGo 3 143 12 _ _ _).trans ?_
    refine (gd_t (by decide) _).trans ?_
    refine (gd_t (⟨rfl, Or.inl rfl⟩) _).trans ?_
    rfl
  · skip
    refine (show zY 143 6 [some (zI x0)] [] h = gd (-128 ≤ (16 : Int) ∧ (16 : Int) < 128) (if x0 = 16 then zY 143 12 [some (zI x0)] [] h else zY 143 16 [some (zI x0)] [] h) from zGo 3 143 6 _ _ _).trans ?_
    refine (gd_t (by decide) _).trans ?_
    refine iteCF (fun x => (some (.inl (some (zI x)), h) : zO)) (fun c1 => ?_) (fun c1 => ?_)
    · skip
      refine (show zY 143 12 [some (zI x0)] [] h = gd (inR (2)) (gd (([] : List zV).isEmpty = true ∧ (zrk 143 = 1 ∨ zrk 143 = 6 ∧ ((2 : Int) = 0 ∨ (2 : Int) = 1))) (some (.inl (some (zI 2)), h))) from zGo 3 143 12 _ _ _).trans ?_
      refine (gd_t (by decide) _).trans ?_
      refine (gd_t (⟨rfl, Or.inl rfl⟩) _).trans ?_
      rfl
    · skip
      refine (show zY 143 16 [some (zI x0)] [] h = gd (-128 ≤ (14 : Int) ∧ (14 : Int) < 128) (if x0 = 14 then zY 143 22 [some (zI x0)] [] h else zY 143 26 [some (zI x0)] [] h) from zGo 3 143 16 _ _ _).trans ?_
      refine (gd_t (by decide) _).trans ?_
      refine iteCF (fun x => (some (.inl (some (zI x)), h) : zO)) (fun c2 => ?_) (fun c2 => ?_)
      · skip
        refine (show zY 143 22 [some (zI x0)] [] h = gd (inR (1)) (gd (([] : List zV).isEmpty = true ∧ (zrk 143 = 1 ∨ zrk 143 = 6 ∧ ((1 : Int) = 0 ∨ (1 : Int) = 1))) (some (.inl (some (zI 1)), h))) from zGo 3 143 22 _ _ _).trans ?_
        refine (gd_t (by decide) _).trans ?_
        refine (gd_t (⟨rfl, Or.inl rfl⟩) _).trans ?_
        rfl
      · skip
        refine (show zY 143 26 [some (zI x0)] [] h = gd (inR (0)) (gd (([] : List zV).isEmpty = true ∧ (zrk 143 = 1 ∨ zrk 143 = 6 ∧ ((0 : Int) = 0 ∨ (0 : Int) = 1))) (some (.inl (some (zI 0)), h))) from zGo 2 143 26 _ _ _).trans ?_
        refine (gd_t (by decide) _).trans ?_
        refine (gd_t (⟨rfl, Or.inl rfl⟩) _).trans ?_
        rfl
abbrev b_S_has (x0 : BitVec 64) (x2 : Int) : Prop :=
  ¬ (((zlushr x0 x2) &&& (1#64)) = 0#64)
theorem e_S_has {h : zH} {x0 : BitVec 64} {x2 : Int} : zC 104 [zJ x0, zI x2] h = some (.inl (some (zI (if b_S_has x0 x2 then (1 : Int) else 0))), h) := by
  refine (show zC 104 [zJ x0, zI x2] h = if (zlcmp ((zlushr x0 x2) &&& (1#64)) (0#64)) = 0 then zY 104 14 [some (zJ x0), none, some (zI x2)] [] h else zY 104 10 [some (zJ x0), none, some (zI x2)] [] h from zGo 8 104 0 _ _ _).trans ?_
  refine iteL_x (fun c0 => ?_) (fun c0 => ?_)
  · skip
    refine (show zY 104 14 [some (zJ x0), none, some (zI x2)] [] h = gd (inR (0)) (gd (([] : List zV).isEmpty = true ∧ (zrk 104 = 1 ∨ zrk 104 = 6 ∧ ((0 : Int) = 0 ∨ (0 : Int) = 1))) (some (.inl (some (zI 0)), h))) from zGo 2 104 14 _ _ _).trans ?_
    refine (gd_t (by decide) _).trans ?_
    refine (gd_t (⟨rfl, Or.inr ⟨rfl, by decide⟩⟩) _).trans ?_
    exact retI (by first | rfl | (exact (if_pos (by unfold b_S_has; omega)).symm) | (exact (if_neg (by unfold b_S_has; omega)).symm) | (exact ifc_congr (by unfold b_S_has; simp_all)) | (unfold b_S_has; simp_all))
  · skip
    refine (show zY 104 10 [some (zJ x0), none, some (zI x2)] [] h = gd (inR (1)) (gd (([] : List zV).isEmpty = true ∧ (zrk 104 = 1 ∨ zrk 104 = 6 ∧ ((1 : Int) = 0 ∨ (1 : Int) = 1))) (some (.inl (some (zI 1)), h))) from zGo 3 104 10 _ _ _).trans ?_
    refine (gd_t (by decide) _).trans ?_
    refine (gd_t (⟨rfl, Or.inr ⟨rfl, by decide⟩⟩) _).trans ?_
    exact retI (by first | rfl | (exact (if_pos (by unfold b_S_has; omega)).symm) | (exact (if_neg (by unfold b_S_has; omega)).symm) | (exact ifc_congr (by unfold b_S_has; simp_all)) | (unfold b_S_has; simp_all))
def f_S_number (x0 : BitVec 64) (x2 : BitVec 64) (x4 : Int) : Int :=
  ((zl2i ((zlushr x0 x4) &&& (1#64))) + (2 * (zl2i ((zlushr x2 x4) &&& (1#64)))))
theorem e_S_number {h : zH} {x0 : BitVec 64} {x2 : BitVec 64} {x4 : Int} (g0 : (-2147483648 ≤ 2 * (zl2i ((zlushr x2 x4) &&& (1#64))) ∧ 2 * (zl2i ((zlushr x2 x4) &&& (1#64))) < 2147483648) := by omega) (g1 : (-2147483648 ≤ (zl2i ((zlushr x0 x4) &&& (1#64))) + (2 * (zl2i ((zlushr x2 x4) &&& (1#64)))) ∧ (zl2i ((zlushr x0 x4) &&& (1#64))) + (2 * (zl2i ((zlushr x2 x4) &&& (1#64)))) < 2147483648) := by omega) : zC 106 [zJ x0, zJ x2, zI x4] h = some (.inl (some (zI (f_S_number x0 x2 x4))), h) := by
  show _ = (some (.inl (some (zI (
    ((zl2i ((zlushr x0 x4) &&& (1#64))) + (2 * (zl2i ((zlushr x2 x4) &&& (1#64)))))))), h) : zO)
  refine (show zC 106 [zJ x0, zJ x2, zI x4] h = gd (inR (2)) (gd (inR (2 * (zl2i ((zlushr x2 x4) &&& (1#64))))) (gd (inR ((zl2i ((zlushr x0 x4) &&& (1#64))) + (2 * (zl2i ((zlushr x2 x4) &&& (1#64)))))) (gd (([] : List zV).isEmpty = true ∧ (zrk 106 = 1 ∨ zrk 106 = 6 ∧ ((((zl2i ((zlushr x0 x4) &&& (1#64))) + (2 * (zl2i ((zlushr x2 x4) &&& (1#64))))) : Int) = 0 ∨ (((zl2i ((zlushr x0 x4) &&& (1#64))) + (2 * (zl2i ((zlushr x2 x4) &&& (1#64))))) : Int) = 1))) (some (.inl (some (zI ((zl2i ((zlushr x0 x4) &&& (1#64))) + (2 * (zl2i ((zlushr x2 x4) &&& (1#64))))))), h))))) from zGo 16 106 0 _ _ _).trans ?_
  refine (gd_t (by decide) _).trans ?_
  refine (gd_t ((Iff.rfl).2 (g0)) _).trans ?_
  refine (gd_t ((Iff.rfl).2 (g1)) _).trans ?_
  refine (gd_t (⟨rfl, Or.inl rfl⟩) _).trans ?_
  rfl
theorem and1_2 (x : BitVec 64) : zl2i (x &&& 1#64) = if x.getLsbD 0 then 1 else 0 := by
  rw [and1]
  by_cases c : x.getLsbD 0 = true
  · rw [if_pos c, if_pos c]; decide
  · rw [if_neg c, if_neg c]; decide
theorem and1_b (x : BitVec 64) : 0 ≤ zl2i (x &&& 1#64) ∧ zl2i (x &&& 1#64) ≤ 1 := by
  rw [and1_2]
  split <;> omega
theorem e_S_numberx {h : zH} {x0 : BitVec 64} {x2 : BitVec 64} {x4 : Int} : zC 106 [zJ x0, zJ x2, zI x4] h = some (.inl (some (zI (f_S_number x0 x2 x4))), h) := by
  have h1 := and1_b (zlushr x0 x4)
  have h2 := and1_b (zlushr x2 x4)
  exact e_S_number
def f_S_holding (h : zH) : BitVec 64 :=
  (hJ h 99 0)
theorem e_S_holding {h : zH} (KC : KC h) : zC 99 [zR (some 90)] h = some (.inl (some (zJ (f_S_holding h))), h) := by
  show _ = (some (.inl (some (zJ (
    (hJ h 99 0)))), h) : zO)
  refine (show zC 99 [zR (some 90)] h = gd (zob h (some 90) 8) (zY 99 4 [some (zR (some 90))] [zR (hR h 90 11)] h) from zGo 2 99 0 _ _ _).trans ?_
  refine (gd_t (⟨rfl, (PTC KC 90 _ rfl rfl), (PNC KC 90 rfl)⟩) _).trans ?_
  refine (congrArg (fun r => zY 99 4 [some (zR (some 90))] (zR r :: []) h) (PRC KC 90 11 _ rfl)).trans ?_
  refine (show zY 99 4 [some (zR (some 90))] [zR (some 99)] h = gd (inR (0)) (gd (zok h (some 99) 23 0) (gd (([] : List zV).isEmpty = true ∧ zrk 99 = 2) (some (.inl (some (zJ (hJ h 99 0))), h)))) from zGo 3 99 4 _ _ _).trans ?_
  refine (gd_t (by decide) _).trans ?_
  refine (gd_t ((ci (PTC KC 99 _ rfl rfl) (PLC KC 99 200 rfl rfl)).2 ⟨by decide, by decide⟩) _).trans ?_
  refine (gd_t (⟨rfl, rfl⟩) _).trans ?_
  rfl
def f_S_conditionOf (h : zH) (x1 : Int) : BitVec 64 :=
  if x1 < 0 then
    0#64
  else
    if x1 < 24 then
      (hJ h 94 x1.toNat)
    else
      0#64
theorem e_S_conditionOf {h : zH} {x1 : Int} (KC : KC h) : zC 103 [zR (some 90), zI x1] h = some (.inl (some (zJ (f_S_conditionOf h x1))), h) := by
  show _ = (some (.inl (some (zJ (
    if x1 < 0 then
      0#64
    else
      if x1 < 24 then
        (hJ h 94 x1.toNat)
      else
        0#64))), h) : zO)
  refine (show zC 103 [zR (some 90), zI x1] h = if x1 < 0 then zY 103 19 [some (zR (some 90)), some (zI x1)] [] h else zY 103 4 [some (zR (some 90)), some (zI x1)] [] h from zGo 2 103 0 _ _ _).trans ?_
  refine iteCF (fun x => (some (.inl (some (zJ x)), h) : zO)) (fun c0 => ?_) (fun c0 => ?_)
  · skip
    refine (show zY 103 19 [some (zR (some 90)), some (zI x1)] [] h = gd (([] : List zV).isEmpty = true ∧ zrk 103 = 2) (some (.inl (some (zJ (0#64))), h)) from zGo 2 103 19 _ _ _).trans ?_
    refine (gd_t (⟨rfl, rfl⟩) _).trans ?_
    rfl
  · skip
    refine (show zY 103 4 [some (zR (some 90)), some (zI x1)] [] h = gd (-128 ≤ (24 : Int) ∧ (24 : Int) < 128) (if x1 < 24 then zY 103 10 [some (zR (some 90)), some (zI x1)] [] h else zY 103 19 [some (zR (some 90)), some (zI x1)] [] h) from zGo 3 103 4 _ _ _).trans ?_
    refine (gd_t (by decide) _).trans ?_
    refine iteCF (fun x => (some (.inl (some (zJ x)), h) : zO)) (fun c1 => ?_) (fun c1 => ?_)
    · skip
      refine (show zY 103 10 [some (zR (some 90)), some (zI x1)] [] h = gd (zob h (some 90) 8) (zY 103 14 [some (zR (some 90)), some (zI x1)] [zR (hR h 90 5)] h) from zGo 2 103 10 _ _ _).trans ?_
      refine (gd_t (⟨rfl, (PTC KC 90 _ rfl rfl), (PNC KC 90 rfl)⟩) _).trans ?_
      refine (congrArg (fun r => zY 103 14 [some (zR (some 90)), some (zI x1)] (zR r :: []) h) (PRC KC 90 5 _ rfl)).trans ?_
      refine (show zY 103 14 [some (zR (some 90)), some (zI x1)] [zR (some 94)] h = gd (zok h (some 94) 23 x1) (gd (([] : List zV).isEmpty = true ∧ zrk 103 = 2) (some (.inl (some (zJ (hJ h 94 x1.toNat))), h))) from zGo 4 103 14 _ _ _).trans ?_
      refine (gd_t ((ci (PTC KC 94 _ rfl rfl) (PLC KC 94 24 rfl rfl)).2 (by omega)) _).trans ?_
      refine (gd_t (⟨rfl, rfl⟩) _).trans ?_
      rfl
    · skip
      refine (show zY 103 19 [some (zR (some 90)), some (zI x1)] [] h = gd (([] : List zV).isEmpty = true ∧ zrk 103 = 2) (some (.inl (some (zJ (0#64))), h)) from zGo 2 103 19 _ _ _).trans ?_
      refine (gd_t (⟨rfl, rfl⟩) _).trans ?_
      rfl
abbrev b_S_holdsIn (h : zH) (x1 : Int) (x2 : Int) : Prop :=
  b_S_has (f_S_conditionOf h x1) x2
theorem e_S_holdsIn {h : zH} {x1 : Int} {x2 : Int} (KC : KC h) : zC 102 [zR (some 90), zI x1, zI x2] h = some (.inl (some (zI (if b_S_holdsIn h x1 x2 then (1 : Int) else 0))), h) := by
  refine (show zC 102 [zR (some 90), zI x1, zI x2] h = gd (false = zctor 103 ∧ zcs [] ≤ 8 ∧ zrm 102 (zrf 103 + 1) (8 + (zmaxl 103 + 11) + zrl 103) = true ∧ zcs [zR (some 90), zI x1] ≤ zmaxl 103) (gd (zob h (some 90) 8) (zBack zY 102 2 5 [some (zR (some 90)), some (zI x1), some (zI x2)] [] (zC 103 [zR (some 90), zI x1] h))) from zGo 3 102 0 _ _ _).trans ?_
  refine (gd_t (⟨rfl, Nat.le_of_ble_eq_true rfl, rfl, Nat.le_of_ble_eq_true rfl⟩) _).trans ?_
  refine (gd_t (⟨rfl, (PTC KC 90 _ rfl rfl), (PNC KC 90 rfl)⟩) _).trans ?_
  refine (congrArg (zBack zY 102 2 5 [some (zR (some 90)), some (zI x1), some (zI x2)] []) (e_S_conditionOf KC)).trans ?_
  refine (show zY 102 5 [some (zR (some 90)), some (zI x1), some (zI x2)] [zJ (f_S_conditionOf h x1)] h = gd (false = zctor 104 ∧ zcs [] ≤ 8 ∧ zrm 102 (zrf 104 + 1) (8 + (zmaxl 104 + 11) + zrl 104) = true ∧ zcs [zJ (f_S_conditionOf h x1), zI x2] ≤ zmaxl 104) (zBack zY 102 6 9 [some (zR (some 90)), some (zI x1), some (zI x2)] [] (zC 104 [zJ (f_S_conditionOf h x1), zI x2] h)) from zGo 2 102 5 _ _ _).trans ?_
  refine (gd_t (⟨rfl, Nat.le_of_ble_eq_true rfl, rfl, Nat.le_of_ble_eq_true rfl⟩) _).trans ?_
  refine (congrArg (zBack zY 102 6 9 [some (zR (some 90)), some (zI x1), some (zI x2)] []) (e_S_has)).trans ?_
  refine (show zY 102 9 [some (zR (some 90)), some (zI x1), some (zI x2)] [zI (if b_S_has (f_S_conditionOf h x1) x2 then (1 : Int) else 0)] h = gd (([] : List zV).isEmpty = true ∧ (zrk 102 = 1 ∨ zrk 102 = 6 ∧ (((if b_S_has (f_S_conditionOf h x1) x2 then (1 : Int) else 0) : Int) = 0 ∨ ((if b_S_has (f_S_conditionOf h x1) x2 then (1 : Int) else 0) : Int) = 1))) (some (.inl (some (zI (if b_S_has (f_S_conditionOf h x1) x2 then (1 : Int) else 0))), h)) from zGo 1 102 9 _ _ _).trans ?_
  refine (gd_t (⟨rfl, Or.inr ⟨rfl, by by_cases q9 : b_S_has (f_S_conditionOf h x1) x2 <;> simp [q9]⟩⟩) _).trans ?_
  exact retI (by first | rfl | (exact (if_pos (by unfold b_S_holdsIn; omega)).symm) | (exact (if_neg (by unfold b_S_holdsIn; omega)).symm) | (exact ifc_congr (by unfold b_S_holdsIn; simp_all)) | (unfold b_S_holdsIn; simp_all))
def f_S_keepOf (h : zH) (x1 : Int) : BitVec 64 :=
  if x1 < 0 then
    0#64
  else
    if x1 < 24 then
      (hJ h 91 x1.toNat)
    else
      0#64
theorem e_S_keepOf {h : zH} {x1 : Int} (KC : KC h) : zC 107 [zR (some 90), zI x1] h = some (.inl (some (zJ (f_S_keepOf h x1))), h) := by
  show _ = (some (.inl (some (zJ (
    if x1 < 0 then
      0#64
    else
      if x1 < 24 then
        (hJ h 91 x1.toNat)
      else
        0#64))), h) : zO)
  refine (show zC 107 [zR (some 90), zI x1] h = if x1 < 0 then zY 107 19 [some (zR (some 90)), some (zI x1)] [] h else zY 107 4 [some (zR (some 90)), some (zI x1)] [] h from zGo 2 107 0 _ _ _).trans ?_
  refine iteCF (fun x => (some (.inl (some (zJ x)), h) : zO)) (fun c0 => ?_) (fun c0 => ?_)
  · skip
    refine (show zY 107 19 [some (zR (some 90)), some (zI x1)] [] h = gd (([] : List zV).isEmpty = true ∧ zrk 107 = 2) (some (.inl (some (zJ (0#64))), h)) from zGo 2 107 19 _ _ _).trans ?_
    refine (gd_t (⟨rfl, rfl⟩) _).trans ?_
    rfl
  · skip
    refine (show zY 107 4 [some (zR (some 90)), some (zI x1)] [] h = gd (-128 ≤ (24 : Int) ∧ (24 : Int) < 128) (if x1 < 24 then zY 107 10 [some (zR (some 90)), some (zI x1)] [] h else zY 107 19 [some (zR (some 90)), some (zI x1)] [] h) from zGo 3 107 4 _ _ _).trans ?_
    refine (gd_t (by decide) _).trans ?_
    refine iteCF (fun x => (some (.inl (some (zJ x)), h) : zO)) (fun c1 => ?_) (fun c1 => ?_)
    · skip
      refine (show zY 107 10 [some (zR (some 90)), some (zI x1)] [] h = gd (zob h (some 90) 8) (zY 107 14 [some (zR (some 90)), some (zI x1)] [zR (hR h 90 2)] h) from zGo 2 107 10 _ _ _).trans ?_
      refine (gd_t (⟨rfl, (PTC KC 90 _ rfl rfl), (PNC KC 90 rfl)⟩) _).trans ?_
      refine (congrArg (fun r => zY 107 14 [some (zR (some 90)), some (zI x1)] (zR r :: []) h) (PRC KC 90 2 _ rfl)).trans ?_
      refine (show zY 107 14 [some (zR (some 90)), some (zI x1)] [zR (some 91)] h = gd (zok h (some 91) 23 x1) (gd (([] : List zV).isEmpty = true ∧ zrk 107 = 2) (some (.inl (some (zJ (hJ h 91 x1.toNat))), h))) from zGo 4 107 14 _ _ _).trans ?_
      refine (gd_t ((ci (PTC KC 91 _ rfl rfl) (PLC KC 91 24 rfl rfl)).2 (by omega)) _).trans ?_
      refine (gd_t (⟨rfl, rfl⟩) _).trans ?_
      rfl
    · skip
      refine (show zY 107 19 [some (zR (some 90)), some (zI x1)] [] h = gd (([] : List zV).isEmpty = true ∧ zrk 107 = 2) (some (.inl (some (zJ (0#64))), h)) from zGo 2 107 19 _ _ _).trans ?_
      refine (gd_t (⟨rfl, rfl⟩) _).trans ?_
      rfl
def f_S_lessOf (h : zH) (x1 : Int) (x2 : Int) : Int :=
  if x1 < 0 then
    0
  else
    if x1 < 24 then
      (f_S_number (hJ h 92 x1.toNat) (hJ h 93 x1.toNat) x2)
    else
      0
theorem e_S_lessOf {h : zH} {x1 : Int} {x2 : Int} (KC : KC h) : zC 108 [zR (some 90), zI x1, zI x2] h = some (.inl (some (zI (f_S_lessOf h x1 x2))), h) := by
  show _ = (some (.inl (some (zI (
    if x1 < 0 then
      0
    else
      if x1 < 24 then
        (f_S_number (hJ h 92 x1.toNat) (hJ h 93 x1.toNat) x2)
      else
        0))), h) : zO)
  refine (show zC 108 [zR (some 90), zI x1, zI x2] h = if x1 < 0 then zY 108 29 [some (zR (some 90)), some (zI x1), some (zI x2)] [] h else zY 108 4 [some (zR (some 90)), some (zI x1), some (zI x2)] [] h from zGo 2 108 0 _ _ _).trans ?_
  refine iteCF (fun x => (some (.inl (some (zI x)), h) : zO)) (fun c0 => ?_) (fun c0 => ?_)
  · skip
    refine (show zY 108 29 [some (zR (some 90)), some (zI x1), some (zI x2)] [] h = gd (inR (0)) (gd (([] : List zV).isEmpty = true ∧ (zrk 108 = 1 ∨ zrk 108 = 6 ∧ ((0 : Int) = 0 ∨ (0 : Int) = 1))) (some (.inl (some (zI 0)), h))) from zGo 2 108 29 _ _ _).trans ?_
    refine (gd_t (by decide) _).trans ?_
    refine (gd_t (⟨rfl, Or.inl rfl⟩) _).trans ?_
    rfl
  · skip
    refine (show zY 108 4 [some (zR (some 90)), some (zI x1), some (zI x2)] [] h = gd (-128 ≤ (24 : Int) ∧ (24 : Int) < 128) (if x1 < 24 then zY 108 10 [some (zR (some 90)), some (zI x1), some (zI x2)] [] h else zY 108 29 [some (zR (some 90)), some (zI x1), some (zI x2)] [] h) from zGo 3 108 4 _ _ _).trans ?_
    refine (gd_t (by decide) _).trans ?_
    refine iteCF (fun x => (some (.inl (some (zI x)), h) : zO)) (fun c1 => ?_) (fun c1 => ?_)
    · skip
      refine (show zY 108 10 [some (zR (some 90)), some (zI x1), some (zI x2)] [] h = gd (zob h (some 90) 8) (zY 108 14 [some (zR (some 90)), some (zI x1), some (zI x2)] [zR (hR h 90 3)] h) from zGo 2 108 10 _ _ _).trans ?_
      refine (gd_t (⟨rfl, (PTC KC 90 _ rfl rfl), (PNC KC 90 rfl)⟩) _).trans ?_
      refine (congrArg (fun r => zY 108 14 [some (zR (some 90)), some (zI x1), some (zI x2)] (zR r :: []) h) (PRC KC 90 3 _ rfl)).trans ?_
      refine (show zY 108 14 [some (zR (some 90)), some (zI x1), some (zI x2)] [zR (some 92)] h = gd (zok h (some 92) 23 x1) (gd (zob h (some 90) 8) (zY 108 20 [some (zR (some 90)), some (zI x1), some (zI x2)] [zR (hR h 90 4), zJ (hJ h 92 x1.toNat)] h)) from zGo 4 108 14 _ _ _).trans ?_
      refine (gd_t ((ci (PTC KC 92 _ rfl rfl) (PLC KC 92 24 rfl rfl)).2 (by omega)) _).trans ?_
      refine (gd_t (⟨rfl, (PTC KC 90 _ rfl rfl), (PNC KC 90 rfl)⟩) _).trans ?_
      refine (congrArg (fun r => zY 108 20 [some (zR (some 90)), some (zI x1), some (zI x2)] (zR r :: zJ (hJ h 92 x1.toNat) :: []) h) (PRC KC 90 4 _ rfl)).trans ?_
      refine (show zY 108 20 [some (zR (some 90)), some (zI x1), some (zI x2)] [zR (some 93), zJ (hJ h 92 x1.toNat)] h = gd (zok h (some 93) 23 x1) (gd (false = zctor 106 ∧ zcs [] ≤ 8 ∧ zrm 108 (zrf 106 + 1) (8 + (zmaxl 106 + 11) + zrl 106) = true ∧ zcs [zJ (hJ h 92 x1.toNat), zJ (hJ h 93 x1.toNat), zI x2] ≤ zmaxl 106) (zBack zY 108 23 26 [some (zR (some 90)), some (zI x1), some (zI x2)] [] (zC 106 [zJ (hJ h 92 x1.toNat), zJ (hJ h 93 x1.toNat), zI x2] h))) from zGo 4 108 20 _ _ _).trans ?_
      refine (gd_t ((ci (PTC KC 93 _ rfl rfl) (PLC KC 93 24 rfl rfl)).2 (by omega)) _).trans ?_
      refine (gd_t (⟨rfl, Nat.le_of_ble_eq_true rfl, rfl, Nat.le_of_ble_eq_true rfl⟩) _).trans ?_
      refine (congrArg (zBack zY 108 23 26 [some (zR (some 90)), some (zI x1), some (zI x2)] []) (e_S_numberx)).trans ?_
      refine (show zY 108 26 [some (zR (some 90)), some (zI x1), some (zI x2)] [zI (f_S_number (hJ h 92 x1.toNat) (hJ h 93 x1.toNat) x2)] h = gd (([] : List zV).isEmpty = true ∧ (zrk 108 = 1 ∨ zrk 108 = 6 ∧ (((f_S_number (hJ h 92 x1.toNat) (hJ h 93 x1.toNat) x2) : Int) = 0 ∨ ((f_S_number (hJ h 92 x1.toNat) (hJ h 93 x1.toNat) x2) : Int) = 1))) (some (.inl (some (zI (f_S_number (hJ h 92 x1.toNat) (hJ h 93 x1.toNat) x2))), h)) from zGo 2 108 26 _ _ _).trans ?_
      refine (gd_t (⟨rfl, Or.inl rfl⟩) _).trans ?_
      rfl
    · skip
      refine (show zY 108 29 [some (zR (some 90)), some (zI x1), some (zI x2)] [] h = gd (inR (0)) (gd (([] : List zV).isEmpty = true ∧ (zrk 108 = 1 ∨ zrk 108 = 6 ∧ ((0 : Int) = 0 ∨ (0 : Int) = 1))) (some (.inl (some (zI 0)), h))) from zGo 2 108 29 _ _ _).trans ?_
      refine (gd_t (by decide) _).trans ?_
      refine (gd_t (⟨rfl, Or.inl rfl⟩) _).trans ?_
      rfl
def f_S_targetOf (h : zH) (x1 : Int) : Int :=
  if x1 < 0 then
    (-1)
  else
    if x1 < 24 then
      (hI h 96 x1.toNat)
    else
      (-1)
theorem e_S_targetOf {h : zH} {x1 : Int} (KC : KC h) : zC 109 [zR (some 90), zI x1] h = some (.inl (some (zI (f_S_targetOf h x1))), h) := by
  show _ = (some (.inl (some (zI (
    if x1 < 0 then
      (-1)
    else
      if x1 < 24 then
        (hI h 96 x1.toNat)
      else
        (-1)))), h) : zO)
  refine (show zC 109 [zR (some 90), zI x1] h = if x1 < 0 then zY 109 19 [some (zR (some 90)), some (zI x1)] [] h else zY 109 4 [some (zR (some 90)), some (zI x1)] [] h from zGo 2 109 0 _ _ _).trans ?_
  refine iteCF (fun x => (some (.inl (some (zI x)), h) : zO)) (fun c0 => ?_) (fun c0 => ?_)
  · skip
    refine (show zY 109 19 [some (zR (some 90)), some (zI x1)] [] h = gd (inR (-1)) (gd (([] : List zV).isEmpty = true ∧ (zrk 109 = 1 ∨ zrk 109 = 6 ∧ (((-1) : Int) = 0 ∨ ((-1) : Int) = 1))) (some (.inl (some (zI (-1))), h))) from zGo 2 109 19 _ _ _).trans ?_
    refine (gd_t (by decide) _).trans ?_
    refine (gd_t (⟨rfl, Or.inl rfl⟩) _).trans ?_
    rfl
  · skip
    refine (show zY 109 4 [some (zR (some 90)), some (zI x1)] [] h = gd (-128 ≤ (24 : Int) ∧ (24 : Int) < 128) (if x1 < 24 then zY 109 10 [some (zR (some 90)), some (zI x1)] [] h else zY 109 19 [some (zR (some 90)), some (zI x1)] [] h) from zGo 3 109 4 _ _ _).trans ?_
    refine (gd_t (by decide) _).trans ?_
    refine iteCF (fun x => (some (.inl (some (zI x)), h) : zO)) (fun c1 => ?_) (fun c1 => ?_)
    · skip
      refine (show zY 109 10 [some (zR (some 90)), some (zI x1)] [] h = gd (zob h (some 90) 8) (zY 109 14 [some (zR (some 90)), some (zI x1)] [zR (hR h 90 7)] h) from zGo 2 109 10 _ _ _).trans ?_
      refine (gd_t (⟨rfl, (PTC KC 90 _ rfl rfl), (PNC KC 90 rfl)⟩) _).trans ?_
      refine (congrArg (fun r => zY 109 14 [some (zR (some 90)), some (zI x1)] (zR r :: []) h) (PRC KC 90 7 _ rfl)).trans ?_
      refine (show zY 109 14 [some (zR (some 90)), some (zI x1)] [zR (some 96)] h = gd (zok h (some 96) 22 x1) (gd (([] : List zV).isEmpty = true ∧ (zrk 109 = 1 ∨ zrk 109 = 6 ∧ (((hI h 96 x1.toNat) : Int) = 0 ∨ ((hI h 96 x1.toNat) : Int) = 1))) (some (.inl (some (zI (hI h 96 x1.toNat))), h))) from zGo 4 109 14 _ _ _).trans ?_
      refine (gd_t ((ci (PTC KC 96 _ rfl rfl) (PLC KC 96 24 rfl rfl)).2 (by omega)) _).trans ?_
      refine (gd_t (⟨rfl, Or.inl rfl⟩) _).trans ?_
      rfl
    · skip
      refine (show zY 109 19 [some (zR (some 90)), some (zI x1)] [] h = gd (inR (-1)) (gd (([] : List zV).isEmpty = true ∧ (zrk 109 = 1 ∨ zrk 109 = 6 ∧ (((-1) : Int) = 0 ∨ ((-1) : Int) = 1))) (some (.inl (some (zI (-1))), h))) from zGo 2 109 19 _ _ _).trans ?_
      refine (gd_t (by decide) _).trans ?_
      refine (gd_t (⟨rfl, Or.inl rfl⟩) _).trans ?_
      rfl
def f_S_formulaOf (h : zH) (x1 : Int) : Option Nat :=
  if x1 < 0 then
    some 3
  else
    if x1 < 24 then
      hR h 97 x1.toNat
    else
      some 3
theorem e_S_formulaOf {h : zH} {x1 : Int} (KC : KC h) : zC 111 [zR (some 90), zI x1] h = some (.inl (some (zR (f_S_formulaOf h x1))), h) := by
  show _ = (some (.inl (some (zR (
    if x1 < 0 then
      some 3
    else
      if x1 < 24 then
        hR h 97 x1.toNat
      else
        some 3))), h) : zO)
  refine (show zC 111 [zR (some 90), zI x1] h = if x1 < 0 then zY 111 19 [some (zR (some 90)), some (zI x1)] [] h else zY 111 4 [some (zR (some 90)), some (zI x1)] [] h from zGo 2 111 0 _ _ _).trans ?_
  refine iteCF (fun x => (some (.inl (some (zR x)), h) : zO)) (fun c0 => ?_) (fun c0 => ?_)
  · skip
    refine (show zY 111 19 [some (zR (some 90)), some (zI x1)] [] h = gd (zob h (some 90) 8) (zY 111 23 [some (zR (some 90)), some (zI x1)] [zR (hR h 90 9)] h) from zGo 2 111 19 _ _ _).trans ?_
    refine (gd_t (⟨rfl, (PTC KC 90 _ rfl rfl), (PNC KC 90 rfl)⟩) _).trans ?_
    refine (congrArg (fun r => zY 111 23 [some (zR (some 90)), some (zI x1)] (zR r :: []) h) (PRC KC 90 9 _ rfl)).trans ?_
    refine (show zY 111 23 [some (zR (some 90)), some (zI x1)] [zR (some 3)] h = gd (([] : List zV).isEmpty = true ∧ zrk 111 = 5) (some (.inl (some (zR (some 3))), h)) from zGo 1 111 23 _ _ _).trans ?_
    refine (gd_t (⟨rfl, rfl⟩) _).trans ?_
    rfl
  · skip
    refine (show zY 111 4 [some (zR (some 90)), some (zI x1)] [] h = gd (-128 ≤ (24 : Int) ∧ (24 : Int) < 128) (if x1 < 24 then zY 111 10 [some (zR (some 90)), some (zI x1)] [] h else zY 111 19 [some (zR (some 90)), some (zI x1)] [] h) from zGo 3 111 4 _ _ _).trans ?_
    refine (gd_t (by decide) _).trans ?_
    refine iteCF (fun x => (some (.inl (some (zR x)), h) : zO)) (fun c1 => ?_) (fun c1 => ?_)
    · skip
      refine (show zY 111 10 [some (zR (some 90)), some (zI x1)] [] h = gd (zob h (some 90) 8) (zY 111 14 [some (zR (some 90)), some (zI x1)] [zR (hR h 90 8)] h) from zGo 2 111 10 _ _ _).trans ?_
      refine (gd_t (⟨rfl, (PTC KC 90 _ rfl rfl), (PNC KC 90 rfl)⟩) _).trans ?_
      refine (congrArg (fun r => zY 111 14 [some (zR (some 90)), some (zI x1)] (zR r :: []) h) (PRC KC 90 8 _ rfl)).trans ?_
      refine (show zY 111 14 [some (zR (some 90)), some (zI x1)] [zR (some 97)] h = gd (zokw h (some 97) 25 x1 ∨ zokw h (some 97) 26 x1 ∨ zokw h (some 97) 27 x1) (gd (([] : List zV).isEmpty = true ∧ zrk 111 = 5) (some (.inl (some (zR (hR h 97 x1.toNat))), h))) from zGo 4 111 14 _ _ _).trans ?_
      refine (gd_t ((cia25 (PTC KC 97 _ rfl rfl) (PNC KC 97 rfl) (PLC KC 97 24 rfl rfl)).2 (by omega)) _).trans ?_
      refine (gd_t (⟨rfl, rfl⟩) _).trans ?_
      rfl
    · skip
      refine (show zY 111 19 [some (zR (some 90)), some (zI x1)] [] h = gd (zob h (some 90) 8) (zY 111 23 [some (zR (some 90)), some (zI x1)] [zR (hR h 90 9)] h) from zGo 2 111 19 _ _ _).trans ?_
      refine (gd_t (⟨rfl, (PTC KC 90 _ rfl rfl), (PNC KC 90 rfl)⟩) _).trans ?_
      refine (congrArg (fun r => zY 111 23 [some (zR (some 90)), some (zI x1)] (zR r :: []) h) (PRC KC 90 9 _ rfl)).trans ?_
      refine (show zY 111 23 [some (zR (some 90)), some (zI x1)] [zR (some 3)] h = gd (([] : List zV).isEmpty = true ∧ zrk 111 = 5) (some (.inl (some (zR (some 3))), h)) from zGo 1 111 23 _ _ _).trans ?_
      refine (gd_t (⟨rfl, rfl⟩) _).trans ?_
      rfl
def f_S_moved (h : zH) (x1 : Int) (x2 : Int) : Int :=
  if x1 < 0 then
    x2
  else
    if x1 < 24 then
      if (hI h 96 x1.toNat) = (-1) then
        x2
      else
        (zor (zand x2 (zxor (zshl 3 (2 * (hI h 96 x1.toNat))) (-1))) (zshl (f_S_number (hJ h 94 x1.toNat) (hJ h 95 x1.toNat) x2) (2 * (hI h 96 x1.toNat))))
    else
      x2
theorem e_S_moved {h : zH} {x1 : Int} {x2 : Int} (KC : KC h) (g0 : (¬ (x1 < 0)) → (x1 < 24) → (¬ ((hI h 96 x1.toNat) = (-1))) → (-2147483648 ≤ 2 * (hI h 96 x1.toNat) ∧ 2 * (hI h 96 x1.toNat) < 2147483648) := by omega) : zC 105 [zR (some 90), zI x1, zI x2] h = some (.inl (some (zI (f_S_moved h x1 x2))), h) := by
  show _ = (some (.inl (some (zI (
    if x1 < 0 then
      x2
    else
      if x1 < 24 then
        if (hI h 96 x1.toNat) = (-1) then
          x2
        else
          (zor (zand x2 (zxor (zshl 3 (2 * (hI h 96 x1.toNat))) (-1))) (zshl (f_S_number (hJ h 94 x1.toNat) (hJ h 95 x1.toNat) x2) (2 * (hI h 96 x1.toNat))))
      else
        x2))), h) : zO)
  refine (show zC 105 [zR (some 90), zI x1, zI x2] h = if x1 < 0 then zY 105 20 [some (zR (some 90)), some (zI x1), some (zI x2), none] [] h else zY 105 4 [some (zR (some 90)), some (zI x1), some (zI x2), none] [] h from zGo 2 105 0 _ _ _).trans ?_
  refine iteCF (fun x => (some (.inl (some (zI x)), h) : zO)) (fun c0 => ?_) (fun c0 => ?_)
  · skip
    refine (show zY 105 20 [some (zR (some 90)), some (zI x1), some (zI x2), none] [] h = gd (([] : List zV).isEmpty = true ∧ (zrk 105 = 1 ∨ zrk 105 = 6 ∧ ((x2 : Int) = 0 ∨ (x2 : Int) = 1))) (some (.inl (some (zI x2)), h)) from zGo 2 105 20 _ _ _).trans ?_
    refine (gd_t (⟨rfl, Or.inl rfl⟩) _).trans ?_
    rfl
  · skip
    refine (show zY 105 4 [some (zR (some 90)), some (zI x1), some (zI x2), none] [] h = gd (-128 ≤ (24 : Int) ∧ (24 : Int) < 128) (if x1 < 24 then zY 105 10 [some (zR (some 90)), some (zI x1), some (zI x2), none] [] h else zY 105 20 [some (zR (some 90)), some (zI x1), some (zI x2), none] [] h) from zGo 3 105 4 _ _ _).trans ?_
    refine (gd_t (by decide) _).trans ?_
    refine iteCF (fun x => (some (.inl (some (zI x)), h) : zO)) (fun c1 => ?_) (fun c1 => ?_)
    · skip
      refine (show zY 105 10 [some (zR (some 90)), some (zI x1), some (zI x2), none] [] h = gd (zob h (some 90) 8) (zY 105 14 [some (zR (some 90)), some (zI x1), some (zI x2), none] [zR (hR h 90 7)] h) from zGo 2 105 10 _ _ _).trans ?_
      refine (gd_t (⟨rfl, (PTC KC 90 _ rfl rfl), (PNC KC 90 rfl)⟩) _).trans ?_
      refine (congrArg (fun r => zY 105 14 [some (zR (some 90)), some (zI x1), some (zI x2), none] (zR r :: []) h) (PRC KC 90 7 _ rfl)).trans ?_
      refine (show zY 105 14 [some (zR (some 90)), some (zI x1), some (zI x2), none] [zR (some 96)] h = gd (zok h (some 96) 22 x1) (gd (inR (-1)) (if (hI h 96 x1.toNat) = (-1) then zY 105 20 [some (zR (some 90)), some (zI x1), some (zI x2), none] [] h else zY 105 22 [some (zR (some 90)), some (zI x1), some (zI x2), none] [] h)) from zGo 4 105 14 _ _ _).trans ?_
      refine (gd_t ((ci (PTC KC 96 _ rfl rfl) (PLC KC 96 24 rfl rfl)).2 (by omega)) _).trans ?_
      refine (gd_t (by decide) _).trans ?_
      refine iteCF (fun x => (some (.inl (some (zI x)), h) : zO)) (fun c2 => ?_) (fun c2 => ?_)
      · skip
        refine (show zY 105 20 [some (zR (some 90)), some (zI x1), some (zI x2), none] [] h = gd (([] : List zV).isEmpty = true ∧ (zrk 105 = 1 ∨ zrk 105 = 6 ∧ ((x2 : Int) = 0 ∨ (x2 : Int) = 1))) (some (.inl (some (zI x2)), h)) from zGo 2 105 20 _ _ _).trans ?_
        refine (gd_t (⟨rfl, Or.inl rfl⟩) _).trans ?_
        rfl
      · skip
        refine (show zY 105 22 [some (zR (some 90)), some (zI x1), some (zI x2), none] [] h = gd (inR (2)) (gd (zob h (some 90) 8) (zY 105 27 [some (zR (some 90)), some (zI x1), some (zI x2), none] [zR (hR h 90 7), zI 2] h)) from zGo 3 105 22 _ _ _).trans ?_
        refine (gd_t (by decide) _).trans ?_
        refine (gd_t (⟨rfl, (PTC KC 90 _ rfl rfl), (PNC KC 90 rfl)⟩) _).trans ?_
        refine (congrArg (fun r => zY 105 27 [some (zR (some 90)), some (zI x1), some (zI x2), none] (zR r :: zI 2 :: []) h) (PRC KC 90 7 _ rfl)).trans ?_
        refine (show zY 105 27 [some (zR (some 90)), some (zI x1), some (zI x2), none] [zR (some 96), zI 2] h = gd (zok h (some 96) 22 x1) (gd (inR (2 * (hI h 96 x1.toNat))) (gd (inR (3)) (gd (inR (-1)) (gd (zob h (some 90) 8) (zY 105 42 [some (zR (some 90)), some (zI x1), some (zI x2), some (zI (2 * (hI h 96 x1.toNat)))] [zR (hR h 90 5), zI (zand x2 (zxor (zshl 3 (2 * (hI h 96 x1.toNat))) (-1)))] h))))) from zGo 13 105 27 _ _ _).trans ?_
        refine (gd_t ((ci (PTC KC 96 _ rfl rfl) (PLC KC 96 24 rfl rfl)).2 (by omega)) _).trans ?_
        refine (gd_t ((Iff.rfl).2 (g0 c0 c1 c2)) _).trans ?_
        refine (gd_t (by decide) _).trans ?_
        refine (gd_t (by decide) _).trans ?_
        refine (gd_t (⟨rfl, (PTC KC 90 _ rfl rfl), (PNC KC 90 rfl)⟩) _).trans ?_
        refine (congrArg (fun r => zY 105 42 [some (zR (some 90)), some (zI x1), some (zI x2), some (zI (2 * (hI h 96 x1.toNat)))] (zR r :: zI (zand x2 (zxor (zshl 3 (2 * (hI h 96 x1.toNat))) (-1))) :: []) h) (PRC KC 90 5 _ rfl)).trans ?_
        refine (show zY 105 42 [some (zR (some 90)), some (zI x1), some (zI x2), some (zI (2 * (hI h 96 x1.toNat)))] [zR (some 94), zI (zand x2 (zxor (zshl 3 (2 * (hI h 96 x1.toNat))) (-1)))] h = gd (zok h (some 94) 23 x1) (gd (zob h (some 90) 8) (zY 105 48 [some (zR (some 90)), some (zI x1), some (zI x2), some (zI (2 * (hI h 96 x1.toNat)))] [zR (hR h 90 6), zJ (hJ h 94 x1.toNat), zI (zand x2 (zxor (zshl 3 (2 * (hI h 96 x1.toNat))) (-1)))] h)) from zGo 4 105 42 _ _ _).trans ?_
        refine (gd_t ((ci (PTC KC 94 _ rfl rfl) (PLC KC 94 24 rfl rfl)).2 (by omega)) _).trans ?_
        refine (gd_t (⟨rfl, (PTC KC 90 _ rfl rfl), (PNC KC 90 rfl)⟩) _).trans ?_
        refine (congrArg (fun r => zY 105 48 [some (zR (some 90)), some (zI x1), some (zI x2), some (zI (2 * (hI h 96 x1.toNat)))] (zR r :: zJ (hJ h 94 x1.toNat) :: zI (zand x2 (zxor (zshl 3 (2 * (hI h 96 x1.toNat))) (-1))) :: []) h) (PRC KC 90 6 _ rfl)).trans ?_
        refine (show zY 105 48 [some (zR (some 90)), some (zI x1), some (zI x2), some (zI (2 * (hI h 96 x1.toNat)))] [zR (some 95), zJ (hJ h 94 x1.toNat), zI (zand x2 (zxor (zshl 3 (2 * (hI h 96 x1.toNat))) (-1)))] h = gd (zok h (some 95) 23 x1) (gd (false = zctor 106 ∧ zcs [zI (zand x2 (zxor (zshl 3 (2 * (hI h 96 x1.toNat))) (-1)))] ≤ 8 ∧ zrm 105 (zrf 106 + 1) (8 + (zmaxl 106 + 11) + zrl 106) = true ∧ zcs [zJ (hJ h 94 x1.toNat), zJ (hJ h 95 x1.toNat), zI x2] ≤ zmaxl 106) (zBack zY 105 51 54 [some (zR (some 90)), some (zI x1), some (zI x2), some (zI (2 * (hI h 96 x1.toNat)))] [zI (zand x2 (zxor (zshl 3 (2 * (hI h 96 x1.toNat))) (-1)))] (zC 106 [zJ (hJ h 94 x1.toNat), zJ (hJ h 95 x1.toNat), zI x2] h))) from zGo 4 105 48 _ _ _).trans ?_
        refine (gd_t ((ci (PTC KC 95 _ rfl rfl) (PLC KC 95 24 rfl rfl)).2 (by omega)) _).trans ?_
        refine (gd_t (⟨rfl, Nat.le_of_ble_eq_true rfl, rfl, Nat.le_of_ble_eq_true rfl⟩) _).trans ?_
        refine (congrArg (zBack zY 105 51 54 [some (zR (some 90)), some (zI x1), some (zI x2), some (zI (2 * (hI h 96 x1.toNat)))] [zI (zand x2 (zxor (zshl 3 (2 * (hI h 96 x1.toNat))) (-1)))]) (e_S_numberx)).trans ?_
        refine (show zY 105 54 [some (zR (some 90)), some (zI x1), some (zI x2), some (zI (2 * (hI h 96 x1.toNat)))] [zI (f_S_number (hJ h 94 x1.toNat) (hJ h 95 x1.toNat) x2), zI (zand x2 (zxor (zshl 3 (2 * (hI h 96 x1.toNat))) (-1)))] h = gd (([] : List zV).isEmpty = true ∧ (zrk 105 = 1 ∨ zrk 105 = 6 ∧ (((zor (zand x2 (zxor (zshl 3 (2 * (hI h 96 x1.toNat))) (-1))) (zshl (f_S_number (hJ h 94 x1.toNat) (hJ h 95 x1.toNat) x2) (2 * (hI h 96 x1.toNat)))) : Int) = 0 ∨ ((zor (zand x2 (zxor (zshl 3 (2 * (hI h 96 x1.toNat))) (-1))) (zshl (f_S_number (hJ h 94 x1.toNat) (hJ h 95 x1.toNat) x2) (2 * (hI h 96 x1.toNat)))) : Int) = 1))) (some (.inl (some (zI (zor (zand x2 (zxor (zshl 3 (2 * (hI h 96 x1.toNat))) (-1))) (zshl (f_S_number (hJ h 94 x1.toNat) (hJ h 95 x1.toNat) x2) (2 * (hI h 96 x1.toNat)))))), h)) from zGo 4 105 54 _ _ _).trans ?_
        refine (gd_t (⟨rfl, Or.inl rfl⟩) _).trans ?_
        rfl
    · skip
      refine (show zY 105 20 [some (zR (some 90)), some (zI x1), some (zI x2), none] [] h = gd (([] : List zV).isEmpty = true ∧ (zrk 105 = 1 ∨ zrk 105 = 6 ∧ ((x2 : Int) = 0 ∨ (x2 : Int) = 1))) (some (.inl (some (zI x2)), h)) from zGo 2 105 20 _ _ _).trans ?_
      refine (gd_t (⟨rfl, Or.inl rfl⟩) _).trans ?_
      rfl
abbrev b_P_has (h : zH) (p : Nat) (x1 : Int) : Prop :=
  0 ≤ x1 ∧ x1 < (hI h p 0) ∧ x1 < 24
theorem e_P_has {h : zH} {p : Nat} {x1 : Int} (hp : PS h p) : zC 37 [zR (some p), zI x1] h = some (.inl (some (zI (if b_P_has h p x1 then (1 : Int) else 0))), h) := by
  refine (show zC 37 [zR (some p), zI x1] h = if x1 < 0 then zY 37 22 [some (zR (some p)), some (zI x1)] [] h else zY 37 4 [some (zR (some p)), some (zI x1)] [] h from zGo 2 37 0 _ _ _).trans ?_
  refine ite_x (fun c0 => ?_) (fun c0 => ?_)
  · skip
    refine (show zY 37 22 [some (zR (some p)), some (zI x1)] [] h = gd (inR (0)) (gd (([] : List zV).isEmpty = true ∧ (zrk 37 = 1 ∨ zrk 37 = 6 ∧ ((0 : Int) = 0 ∨ (0 : Int) = 1))) (some (.inl (some (zI 0)), h))) from zGo 2 37 22 _ _ _).trans ?_
    refine (gd_t (by decide) _).trans ?_
    refine (gd_t (⟨rfl, Or.inr ⟨rfl, by decide⟩⟩) _).trans ?_
    exact retI (by first | rfl | (exact (if_pos (by unfold b_P_has; omega)).symm) | (exact (if_neg (by unfold b_P_has; omega)).symm) | (exact ifc_congr (by unfold b_P_has; simp_all)) | (unfold b_P_has; simp_all))
  · skip
    refine (show zY 37 4 [some (zR (some p)), some (zI x1)] [] h = gd (zob h (some p) 5) (if x1 < (hI h p 0) then zY 37 12 [some (zR (some p)), some (zI x1)] [] h else zY 37 22 [some (zR (some p)), some (zI x1)] [] h) from zGo 4 37 4 _ _ _).trans ?_
    refine (gd_t (⟨rfl, hp.1, (PS_n hp)⟩) _).trans ?_
    refine ite_x (fun c1 => ?_) (fun c1 => ?_)
    · skip
      refine (show zY 37 12 [some (zR (some p)), some (zI x1)] [] h = gd (-128 ≤ (24 : Int) ∧ (24 : Int) < 128) (if x1 < 24 then zY 37 18 [some (zR (some p)), some (zI x1)] [] h else zY 37 22 [some (zR (some p)), some (zI x1)] [] h) from zGo 3 37 12 _ _ _).trans ?_
      refine (gd_t (by decide) _).trans ?_
      refine ite_x (fun c2 => ?_) (fun c2 => ?_)
      · skip
        refine (show zY 37 18 [some (zR (some p)), some (zI x1)] [] h = gd (inR (1)) (gd (([] : List zV).isEmpty = true ∧ (zrk 37 = 1 ∨ zrk 37 = 6 ∧ ((1 : Int) = 0 ∨ (1 : Int) = 1))) (some (.inl (some (zI 1)), h))) from zGo 3 37 18 _ _ _).trans ?_
        refine (gd_t (by decide) _).trans ?_
        refine (gd_t (⟨rfl, Or.inr ⟨rfl, by decide⟩⟩) _).trans ?_
        exact retI (by first | rfl | (exact (if_pos (by unfold b_P_has; omega)).symm) | (exact (if_neg (by unfold b_P_has; omega)).symm) | (exact ifc_congr (by unfold b_P_has; simp_all)) | (unfold b_P_has; simp_all))
      · skip
        refine (show zY 37 22 [some (zR (some p)), some (zI x1)] [] h = gd (inR (0)) (gd (([] : List zV).isEmpty = true ∧ (zrk 37 = 1 ∨ zrk 37 = 6 ∧ ((0 : Int) = 0 ∨ (0 : Int) = 1))) (some (.inl (some (zI 0)), h))) from zGo 2 37 22 _ _ _).trans ?_
        refine (gd_t (by decide) _).trans ?_
        refine (gd_t (⟨rfl, Or.inr ⟨rfl, by decide⟩⟩) _).trans ?_
        exact retI (by first | rfl | (exact (if_pos (by unfold b_P_has; omega)).symm) | (exact (if_neg (by unfold b_P_has; omega)).symm) | (exact ifc_congr (by unfold b_P_has; simp_all)) | (unfold b_P_has; simp_all))
    · skip
      refine (show zY 37 22 [some (zR (some p)), some (zI x1)] [] h = gd (inR (0)) (gd (([] : List zV).isEmpty = true ∧ (zrk 37 = 1 ∨ zrk 37 = 6 ∧ ((0 : Int) = 0 ∨ (0 : Int) = 1))) (some (.inl (some (zI 0)), h))) from zGo 2 37 22 _ _ _).trans ?_
      refine (gd_t (by decide) _).trans ?_
      refine (gd_t (⟨rfl, Or.inr ⟨rfl, by decide⟩⟩) _).trans ?_
      exact retI (by first | rfl | (exact (if_pos (by unfold b_P_has; omega)).symm) | (exact (if_neg (by unfold b_P_has; omega)).symm) | (exact ifc_congr (by unfold b_P_has; simp_all)) | (unfold b_P_has; simp_all))
def f_P_start (h : zH) (p : Nat) : Int :=
  if 0 < (hI h p 0) then
    0
  else
    (-1)
theorem e_P_start {h : zH} {p : Nat} (hp : PS h p) : zC 39 [zR (some p)] h = some (.inl (some (zI (f_P_start h p))), h) := by
  show _ = (some (.inl (some (zI (
    if 0 < (hI h p 0) then
      0
    else
      (-1)))), h) : zO)
  refine (show zC 39 [zR (some p)] h = gd (zob h (some p) 5) (if 0 < (hI h p 0) then zY 39 7 [some (zR (some p))] [] h else zY 39 11 [some (zR (some p))] [] h) from zGo 3 39 0 _ _ _).trans ?_
  refine (gd_t (⟨rfl, hp.1, (PS_n hp)⟩) _).trans ?_
  refine iteCF (fun x => (some (.inl (some (zI x)), h) : zO)) (fun c0 => ?_) (fun c0 => ?_)
  · skip
    refine (show zY 39 7 [some (zR (some p))] [] h = gd (inR (0)) (gd (([] : List zV).isEmpty = true ∧ (zrk 39 = 1 ∨ zrk 39 = 6 ∧ ((0 : Int) = 0 ∨ (0 : Int) = 1))) (some (.inl (some (zI 0)), h))) from zGo 3 39 7 _ _ _).trans ?_
    refine (gd_t (by decide) _).trans ?_
    refine (gd_t (⟨rfl, Or.inl rfl⟩) _).trans ?_
    rfl
  · skip
    refine (show zY 39 11 [some (zR (some p))] [] h = gd (inR (-1)) (gd (([] : List zV).isEmpty = true ∧ (zrk 39 = 1 ∨ zrk 39 = 6 ∧ (((-1) : Int) = 0 ∨ ((-1) : Int) = 1))) (some (.inl (some (zI (-1))), h))) from zGo 2 39 11 _ _ _).trans ?_
    refine (gd_t (by decide) _).trans ?_
    refine (gd_t (⟨rfl, Or.inl rfl⟩) _).trans ?_
    rfl
def f_P_kindOf (h : zH) (p : Nat) (x1 : Int) : Int :=
  if b_P_has h p x1 then
    (hI h (p + 1) x1.toNat)
  else
    (-1)
theorem e_P_kindOf {h : zH} {p : Nat} {x1 : Int} (hp : PS h p) : zC 36 [zR (some p), zI x1] h = some (.inl (some (zI (f_P_kindOf h p x1))), h) := by
  show _ = (some (.inl (some (zI (
    if b_P_has h p x1 then
      (hI h (p + 1) x1.toNat)
    else
      (-1)))), h) : zO)
  refine (show zC 36 [zR (some p), zI x1] h = gd (false = zctor 37 ∧ zcs [] ≤ 8 ∧ zrm 36 (zrf 37 + 1) (8 + (zmaxl 37 + 11) + zrl 37) = true ∧ zcs [zR (some p), zI x1] ≤ zmaxl 37) (gd (zob h (some p) 5) (zBack zY 36 2 5 [some (zR (some p)), some (zI x1)] [] (zC 37 [zR (some p), zI x1] h))) from zGo 3 36 0 _ _ _).trans ?_
  refine (gd_t (⟨rfl, Nat.le_of_ble_eq_true rfl, rfl, Nat.le_of_ble_eq_true rfl⟩) _).trans ?_
  refine (gd_t (⟨rfl, hp.1, (PS_n hp)⟩) _).trans ?_
  refine (congrArg (zBack zY 36 2 5 [some (zR (some p)), some (zI x1)] []) (e_P_has hp)).trans ?_
  refine (show zY 36 5 [some (zR (some p)), some (zI x1)] [zI (if b_P_has h p x1 then (1 : Int) else 0)] h = if (if b_P_has h p x1 then (1 : Int) else 0) = 0 then zY 36 17 [some (zR (some p)), some (zI x1)] [] h else zY 36 8 [some (zR (some p)), some (zI x1)] [] h from zGo 1 36 5 _ _ _).trans ?_
  refine iteBF (fun x => (some (.inl (some (zI x)), h) : zO)) (fun c0 => ?_) (fun c0 => ?_)
  · skip
    refine (show zY 36 8 [some (zR (some p)), some (zI x1)] [] h = gd (zob h (some p) 5) (zY 36 12 [some (zR (some p)), some (zI x1)] [zR (hR h p 3)] h) from zGo 2 36 8 _ _ _).trans ?_
    refine (gd_t (⟨rfl, hp.1, (PS_n hp)⟩) _).trans ?_
    refine (congrArg (fun r => zY 36 12 [some (zR (some p)), some (zI x1)] (zR r :: []) h) (PS_r hp 3 rfl)).trans ?_
    refine (show zY 36 12 [some (zR (some p)), some (zI x1)] [zR (some (p + 1))] h = gd (zok h (some (p + 1)) 22 x1) (gd (([] : List zV).isEmpty = true ∧ (zrk 36 = 1 ∨ zrk 36 = 6 ∧ (((hI h (p + 1) x1.toNat) : Int) = 0 ∨ ((hI h (p + 1) x1.toNat) : Int) = 1))) (some (.inl (some (zI (hI h (p + 1) x1.toNat))), h))) from zGo 4 36 12 _ _ _).trans ?_
    refine (gd_t ((ci (PS_t hp 1 _ rfl rfl) (PS_l hp 1 rfl)).2 (by (try simp only [b_P_has] at *); omega)) _).trans ?_
    refine (gd_t (⟨rfl, Or.inl rfl⟩) _).trans ?_
    rfl
  · skip
    refine (show zY 36 17 [some (zR (some p)), some (zI x1)] [] h = gd (inR (-1)) (gd (([] : List zV).isEmpty = true ∧ (zrk 36 = 1 ∨ zrk 36 = 6 ∧ (((-1) : Int) = 0 ∨ ((-1) : Int) = 1))) (some (.inl (some (zI (-1))), h))) from zGo 2 36 17 _ _ _).trans ?_
    refine (gd_t (by decide) _).trans ?_
    refine (gd_t (⟨rfl, Or.inl rfl⟩) _).trans ?_
    rfl
def f_P_variableOf (h : zH) (p : Nat) (x1 : Int) : Int :=
  if b_P_has h p x1 then
    (hI h (p + 2) x1.toNat)
  else
    (-1)
theorem e_P_variableOf {h : zH} {p : Nat} {x1 : Int} (hp : PS h p) : zC 51 [zR (some p), zI x1] h = some (.inl (some (zI (f_P_variableOf h p x1))), h) := by
  show _ = (some (.inl (some (zI (
    if b_P_has h p x1 then
      (hI h (p + 2) x1.toNat)
    else
      (-1)))), h) : zO)
  refine (show zC 51 [zR (some p), zI x1] h = gd (false = zctor 37 ∧ zcs [] ≤ 8 ∧ zrm 51 (zrf 37 + 1) (8 + (zmaxl 37 + 11) + zrl 37) = true ∧ zcs [zR (some p), zI x1] ≤ zmaxl 37) (gd (zob h (some p) 5) (zBack zY 51 2 5 [some (zR (some p)), some (zI x1)] [] (zC 37 [zR (some p), zI x1] h))) from zGo 3 51 0 _ _ _).trans ?_
  refine (gd_t (⟨rfl, Nat.le_of_ble_eq_true rfl, rfl, Nat.le_of_ble_eq_true rfl⟩) _).trans ?_
  refine (gd_t (⟨rfl, hp.1, (PS_n hp)⟩) _).trans ?_
  refine (congrArg (zBack zY 51 2 5 [some (zR (some p)), some (zI x1)] []) (e_P_has hp)).trans ?_
  refine (show zY 51 5 [some (zR (some p)), some (zI x1)] [zI (if b_P_has h p x1 then (1 : Int) else 0)] h = if (if b_P_has h p x1 then (1 : Int) else 0) = 0 then zY 51 17 [some (zR (some p)), some (zI x1)] [] h else zY 51 8 [some (zR (some p)), some (zI x1)] [] h from zGo 1 51 5 _ _ _).trans ?_
  refine iteBF (fun x => (some (.inl (some (zI x)), h) : zO)) (fun c0 => ?_) (fun c0 => ?_)
  · skip
    refine (show zY 51 8 [some (zR (some p)), some (zI x1)] [] h = gd (zob h (some p) 5) (zY 51 12 [some (zR (some p)), some (zI x1)] [zR (hR h p 4)] h) from zGo 2 51 8 _ _ _).trans ?_
    refine (gd_t (⟨rfl, hp.1, (PS_n hp)⟩) _).trans ?_
    refine (congrArg (fun r => zY 51 12 [some (zR (some p)), some (zI x1)] (zR r :: []) h) (PS_r hp 4 rfl)).trans ?_
    refine (show zY 51 12 [some (zR (some p)), some (zI x1)] [zR (some (p + 2))] h = gd (zok h (some (p + 2)) 22 x1) (gd (([] : List zV).isEmpty = true ∧ (zrk 51 = 1 ∨ zrk 51 = 6 ∧ (((hI h (p + 2) x1.toNat) : Int) = 0 ∨ ((hI h (p + 2) x1.toNat) : Int) = 1))) (some (.inl (some (zI (hI h (p + 2) x1.toNat))), h))) from zGo 4 51 12 _ _ _).trans ?_
    refine (gd_t ((ci (PS_t hp 2 _ rfl rfl) (PS_l hp 2 rfl)).2 (by (try simp only [b_P_has] at *); omega)) _).trans ?_
    refine (gd_t (⟨rfl, Or.inl rfl⟩) _).trans ?_
    rfl
  · skip
    refine (show zY 51 17 [some (zR (some p)), some (zI x1)] [] h = gd (inR (-1)) (gd (([] : List zV).isEmpty = true ∧ (zrk 51 = 1 ∨ zrk 51 = 6 ∧ (((-1) : Int) = 0 ∨ ((-1) : Int) = 1))) (some (.inl (some (zI (-1))), h))) from zGo 2 51 17 _ _ _).trans ?_
    refine (gd_t (by decide) _).trans ?_
    refine (gd_t (⟨rfl, Or.inl rfl⟩) _).trans ?_
    rfl
def f_P_parentOf (h : zH) (p : Nat) (x1 : Int) : Int :=
  if b_P_has h p x1 then
    (hI h (p + 3) x1.toNat)
  else
    (-1)
theorem e_P_parentOf {h : zH} {p : Nat} {x1 : Int} (hp : PS h p) : zC 47 [zR (some p), zI x1] h = some (.inl (some (zI (f_P_parentOf h p x1))), h) := by
  show _ = (some (.inl (some (zI (
    if b_P_has h p x1 then
      (hI h (p + 3) x1.toNat)
    else
      (-1)))), h) : zO)
  refine (show zC 47 [zR (some p), zI x1] h = gd (false = zctor 37 ∧ zcs [] ≤ 8 ∧ zrm 47 (zrf 37 + 1) (8 + (zmaxl 37 + 11) + zrl 37) = true ∧ zcs [zR (some p), zI x1] ≤ zmaxl 37) (gd (zob h (some p) 5) (zBack zY 47 2 5 [some (zR (some p)), some (zI x1)] [] (zC 37 [zR (some p), zI x1] h))) from zGo 3 47 0 _ _ _).trans ?_
  refine (gd_t (⟨rfl, Nat.le_of_ble_eq_true rfl, rfl, Nat.le_of_ble_eq_true rfl⟩) _).trans ?_
  refine (gd_t (⟨rfl, hp.1, (PS_n hp)⟩) _).trans ?_
  refine (congrArg (zBack zY 47 2 5 [some (zR (some p)), some (zI x1)] []) (e_P_has hp)).trans ?_
  refine (show zY 47 5 [some (zR (some p)), some (zI x1)] [zI (if b_P_has h p x1 then (1 : Int) else 0)] h = if (if b_P_has h p x1 then (1 : Int) else 0) = 0 then zY 47 17 [some (zR (some p)), some (zI x1)] [] h else zY 47 8 [some (zR (some p)), some (zI x1)] [] h from zGo 1 47 5 _ _ _).trans ?_
  refine iteBF (fun x => (some (.inl (some (zI x)), h) : zO)) (fun c0 => ?_) (fun c0 => ?_)
  · skip
    refine (show zY 47 8 [some (zR (some p)), some (zI x1)] [] h = gd (zob h (some p) 5) (zY 47 12 [some (zR (some p)), some (zI x1)] [zR (hR h p 5)] h) from zGo 2 47 8 _ _ _).trans ?_
    refine (gd_t (⟨rfl, hp.1, (PS_n hp)⟩) _).trans ?_
    refine (congrArg (fun r => zY 47 12 [some (zR (some p)), some (zI x1)] (zR r :: []) h) (PS_r hp 5 rfl)).trans ?_
    refine (show zY 47 12 [some (zR (some p)), some (zI x1)] [zR (some (p + 3))] h = gd (zok h (some (p + 3)) 22 x1) (gd (([] : List zV).isEmpty = true ∧ (zrk 47 = 1 ∨ zrk 47 = 6 ∧ (((hI h (p + 3) x1.toNat) : Int) = 0 ∨ ((hI h (p + 3) x1.toNat) : Int) = 1))) (some (.inl (some (zI (hI h (p + 3) x1.toNat))), h))) from zGo 4 47 12 _ _ _).trans ?_
    refine (gd_t ((ci (PS_t hp 3 _ rfl rfl) (PS_l hp 3 rfl)).2 (by (try simp only [b_P_has] at *); omega)) _).trans ?_
    refine (gd_t (⟨rfl, Or.inl rfl⟩) _).trans ?_
    rfl
  · skip
    refine (show zY 47 17 [some (zR (some p)), some (zI x1)] [] h = gd (inR (-1)) (gd (([] : List zV).isEmpty = true ∧ (zrk 47 = 1 ∨ zrk 47 = 6 ∧ (((-1) : Int) = 0 ∨ ((-1) : Int) = 1))) (some (.inl (some (zI (-1))), h))) from zGo 2 47 17 _ _ _).trans ?_
    refine (gd_t (by decide) _).trans ?_
    refine (gd_t (⟨rfl, Or.inl rfl⟩) _).trans ?_
    rfl
def f_P_numberOf (h : zH) (p : Nat) (x1 : Int) : Int :=
  if b_P_has h p x1 then
    (hI h (p + 4) x1.toNat)
  else
    (-1)
theorem e_P_numberOf {h : zH} {p : Nat} {x1 : Int} (hp : PS h p) : zC 46 [zR (some p), zI x1] h = some (.inl (some (zI (f_P_numberOf h p x1))), h) := by
  show _ = (some (.inl (some (zI (
    if b_P_has h p x1 then
      (hI h (p + 4) x1.toNat)
    else
      (-1)))), h) : zO)
  refine (show zC 46 [zR (some p), zI x1] h = gd (false = zctor 37 ∧ zcs [] ≤ 8 ∧ zrm 46 (zrf 37 + 1) (8 + (zmaxl 37 + 11) + zrl 37) = true ∧ zcs [zR (some p), zI x1] ≤ zmaxl 37) (gd (zob h (some p) 5) (zBack zY 46 2 5 [some (zR (some p)), some (zI x1)] [] (zC 37 [zR (some p), zI x1] h))) from zGo 3 46 0 _ _ _).trans ?_
  refine (gd_t (⟨rfl, Nat.le_of_ble_eq_true rfl, rfl, Nat.le_of_ble_eq_true rfl⟩) _).trans ?_
  refine (gd_t (⟨rfl, hp.1, (PS_n hp)⟩) _).trans ?_
  refine (congrArg (zBack zY 46 2 5 [some (zR (some p)), some (zI x1)] []) (e_P_has hp)).trans ?_
  refine (show zY 46 5 [some (zR (some p)), some (zI x1)] [zI (if b_P_has h p x1 then (1 : Int) else 0)] h = if (if b_P_has h p x1 then (1 : Int) else 0) = 0 then zY 46 17 [some (zR (some p)), some (zI x1)] [] h else zY 46 8 [some (zR (some p)), some (zI x1)] [] h from zGo 1 46 5 _ _ _).trans ?_
  refine iteBF (fun x => (some (.inl (some (zI x)), h) : zO)) (fun c0 => ?_) (fun c0 => ?_)
  · skip
    refine (show zY 46 8 [some (zR (some p)), some (zI x1)] [] h = gd (zob h (some p) 5) (zY 46 12 [some (zR (some p)), some (zI x1)] [zR (hR h p 6)] h) from zGo 2 46 8 _ _ _).trans ?_
    refine (gd_t (⟨rfl, hp.1, (PS_n hp)⟩) _).trans ?_
    refine (congrArg (fun r => zY 46 12 [some (zR (some p)), some (zI x1)] (zR r :: []) h) (PS_r hp 6 rfl)).trans ?_
    refine (show zY 46 12 [some (zR (some p)), some (zI x1)] [zR (some (p + 4))] h = gd (zok h (some (p + 4)) 22 x1) (gd (([] : List zV).isEmpty = true ∧ (zrk 46 = 1 ∨ zrk 46 = 6 ∧ (((hI h (p + 4) x1.toNat) : Int) = 0 ∨ ((hI h (p + 4) x1.toNat) : Int) = 1))) (some (.inl (some (zI (hI h (p + 4) x1.toNat))), h))) from zGo 4 46 12 _ _ _).trans ?_
    refine (gd_t ((ci (PS_t hp 4 _ rfl rfl) (PS_l hp 4 rfl)).2 (by (try simp only [b_P_has] at *); omega)) _).trans ?_
    refine (gd_t (⟨rfl, Or.inl rfl⟩) _).trans ?_
    rfl
  · skip
    refine (show zY 46 17 [some (zR (some p)), some (zI x1)] [] h = gd (inR (-1)) (gd (([] : List zV).isEmpty = true ∧ (zrk 46 = 1 ∨ zrk 46 = 6 ∧ (((-1) : Int) = 0 ∨ ((-1) : Int) = 1))) (some (.inl (some (zI (-1))), h))) from zGo 2 46 17 _ _ _).trans ?_
    refine (gd_t (by decide) _).trans ?_
    refine (gd_t (⟨rfl, Or.inl rfl⟩) _).trans ?_
    rfl
def f_P_nextOf (h : zH) (p : Nat) (x1 : Int) : Int :=
  if b_P_has h p x1 then
    (hI h (p + 5) x1.toNat)
  else
    (-1)
theorem e_P_nextOf {h : zH} {p : Nat} {x1 : Int} (hp : PS h p) : zC 48 [zR (some p), zI x1] h = some (.inl (some (zI (f_P_nextOf h p x1))), h) := by
  show _ = (some (.inl (some (zI (
    if b_P_has h p x1 then
      (hI h (p + 5) x1.toNat)
    else
      (-1)))), h) : zO)
  refine (show zC 48 [zR (some p), zI x1] h = gd (false = zctor 37 ∧ zcs [] ≤ 8 ∧ zrm 48 (zrf 37 + 1) (8 + (zmaxl 37 + 11) + zrl 37) = true ∧ zcs [zR (some p), zI x1] ≤ zmaxl 37) (gd (zob h (some p) 5) (zBack zY 48 2 5 [some (zR (some p)), some (zI x1)] [] (zC 37 [zR (some p), zI x1] h))) from zGo 3 48 0 _ _ _).trans ?_
  refine (gd_t (⟨rfl, Nat.le_of_ble_eq_true rfl, rfl, Nat.le_of_ble_eq_true rfl⟩) _).trans ?_
  refine (gd_t (⟨rfl, hp.1, (PS_n hp)⟩) _).trans ?_
  refine (congrArg (zBack zY 48 2 5 [some (zR (some p)), some (zI x1)] []) (e_P_has hp)).trans ?_
  refine (show zY 48 5 [some (zR (some p)), some (zI x1)] [zI (if b_P_has h p x1 then (1 : Int) else 0)] h = if (if b_P_has h p x1 then (1 : Int) else 0) = 0 then zY 48 17 [some (zR (some p)), some (zI x1)] [] h else zY 48 8 [some (zR (some p)), some (zI x1)] [] h from zGo 1 48 5 _ _ _).trans ?_
  refine iteBF (fun x => (some (.inl (some (zI x)), h) : zO)) (fun c0 => ?_) (fun c0 => ?_)
  · skip
    refine (show zY 48 8 [some (zR (some p)), some (zI x1)] [] h = gd (zob h (some p) 5) (zY 48 12 [some (zR (some p)), some (zI x1)] [zR (hR h p 7)] h) from zGo 2 48 8 _ _ _).trans ?_
    refine (gd_t (⟨rfl, hp.1, (PS_n hp)⟩) _).trans ?_
    refine (congrArg (fun r => zY 48 12 [some (zR (some p)), some (zI x1)] (zR r :: []) h) (PS_r hp 7 rfl)).trans ?_
    refine (show zY 48 12 [some (zR (some p)), some (zI x1)] [zR (some (p + 5))] h = gd (zok h (some (p + 5)) 22 x1) (gd (([] : List zV).isEmpty = true ∧ (zrk 48 = 1 ∨ zrk 48 = 6 ∧ (((hI h (p + 5) x1.toNat) : Int) = 0 ∨ ((hI h (p + 5) x1.toNat) : Int) = 1))) (some (.inl (some (zI (hI h (p + 5) x1.toNat))), h))) from zGo 4 48 12 _ _ _).trans ?_
    refine (gd_t ((ci (PS_t hp 5 _ rfl rfl) (PS_l hp 5 rfl)).2 (by (try simp only [b_P_has] at *); omega)) _).trans ?_
    refine (gd_t (⟨rfl, Or.inl rfl⟩) _).trans ?_
    rfl
  · skip
    refine (show zY 48 17 [some (zR (some p)), some (zI x1)] [] h = gd (inR (-1)) (gd (([] : List zV).isEmpty = true ∧ (zrk 48 = 1 ∨ zrk 48 = 6 ∧ (((-1) : Int) = 0 ∨ ((-1) : Int) = 1))) (some (.inl (some (zI (-1))), h))) from zGo 2 48 17 _ _ _).trans ?_
    refine (gd_t (by decide) _).trans ?_
    refine (gd_t (⟨rfl, Or.inl rfl⟩) _).trans ?_
    rfl
def f_P_firstOf (h : zH) (p : Nat) (x1 : Int) : Int :=
  if b_P_has h p x1 then
    (hI h (p + 6) x1.toNat)
  else
    (-1)
theorem e_P_firstOf {h : zH} {p : Nat} {x1 : Int} (hp : PS h p) : zC 41 [zR (some p), zI x1] h = some (.inl (some (zI (f_P_firstOf h p x1))), h) := by
  show _ = (some (.inl (some (zI (
    if b_P_has h p x1 then
      (hI h (p + 6) x1.toNat)
    else
      (-1)))), h) : zO)
  refine (show zC 41 [zR (some p), zI x1] h = gd (false = zctor 37 ∧ zcs [] ≤ 8 ∧ zrm 41 (zrf 37 + 1) (8 + (zmaxl 37 + 11) + zrl 37) = true ∧ zcs [zR (some p), zI x1] ≤ zmaxl 37) (gd (zob h (some p) 5) (zBack zY 41 2 5 [some (zR (some p)), some (zI x1)] [] (zC 37 [zR (some p), zI x1] h))) from zGo 3 41 0 _ _ _).trans ?_
  refine (gd_t (⟨rfl, Nat.le_of_ble_eq_true rfl, rfl, Nat.le_of_ble_eq_true rfl⟩) _).trans ?_
  refine (gd_t (⟨rfl, hp.1, (PS_n hp)⟩) _).trans ?_
  refine (congrArg (zBack zY 41 2 5 [some (zR (some p)), some (zI x1)] []) (e_P_has hp)).trans ?_
  refine (show zY 41 5 [some (zR (some p)), some (zI x1)] [zI (if b_P_has h p x1 then (1 : Int) else 0)] h = if (if b_P_has h p x1 then (1 : Int) else 0) = 0 then zY 41 17 [some (zR (some p)), some (zI x1)] [] h else zY 41 8 [some (zR (some p)), some (zI x1)] [] h from zGo 1 41 5 _ _ _).trans ?_
  refine iteBF (fun x => (some (.inl (some (zI x)), h) : zO)) (fun c0 => ?_) (fun c0 => ?_)
  · skip
    refine (show zY 41 8 [some (zR (some p)), some (zI x1)] [] h = gd (zob h (some p) 5) (zY 41 12 [some (zR (some p)), some (zI x1)] [zR (hR h p 8)] h) from zGo 2 41 8 _ _ _).trans ?_
    refine (gd_t (⟨rfl, hp.1, (PS_n hp)⟩) _).trans ?_
    refine (congrArg (fun r => zY 41 12 [some (zR (some p)), some (zI x1)] (zR r :: []) h) (PS_r hp 8 rfl)).trans ?_
    refine (show zY 41 12 [some (zR (some p)), some (zI x1)] [zR (some (p + 6))] h = gd (zok h (some (p + 6)) 22 x1) (gd (([] : List zV).isEmpty = true ∧ (zrk 41 = 1 ∨ zrk 41 = 6 ∧ (((hI h (p + 6) x1.toNat) : Int) = 0 ∨ ((hI h (p + 6) x1.toNat) : Int) = 1))) (some (.inl (some (zI (hI h (p + 6) x1.toNat))), h))) from zGo 4 41 12 _ _ _).trans ?_
    refine (gd_t ((ci (PS_t hp 6 _ rfl rfl) (PS_l hp 6 rfl)).2 (by (try simp only [b_P_has] at *); omega)) _).trans ?_
    refine (gd_t (⟨rfl, Or.inl rfl⟩) _).trans ?_
    rfl
  · skip
    refine (show zY 41 17 [some (zR (some p)), some (zI x1)] [] h = gd (inR (-1)) (gd (([] : List zV).isEmpty = true ∧ (zrk 41 = 1 ∨ zrk 41 = 6 ∧ (((-1) : Int) = 0 ∨ ((-1) : Int) = 1))) (some (.inl (some (zI (-1))), h))) from zGo 2 41 17 _ _ _).trans ?_
    refine (gd_t (by decide) _).trans ?_
    refine (gd_t (⟨rfl, Or.inl rfl⟩) _).trans ?_
    rfl
def f_P_secondOf (h : zH) (p : Nat) (x1 : Int) : Int :=
  if b_P_has h p x1 then
    (hI h (p + 7) x1.toNat)
  else
    (-1)
theorem e_P_secondOf {h : zH} {p : Nat} {x1 : Int} (hp : PS h p) : zC 40 [zR (some p), zI x1] h = some (.inl (some (zI (f_P_secondOf h p x1))), h) := by
  show _ = (some (.inl (some (zI (
    if b_P_has h p x1 then
      (hI h (p + 7) x1.toNat)
    else
      (-1)))), h) : zO)
  refine (show zC 40 [zR (some p), zI x1] h = gd (false = zctor 37 ∧ zcs [] ≤ 8 ∧ zrm 40 (zrf 37 + 1) (8 + (zmaxl 37 + 11) + zrl 37) = true ∧ zcs [zR (some p), zI x1] ≤ zmaxl 37) (gd (zob h (some p) 5) (zBack zY 40 2 5 [some (zR (some p)), some (zI x1)] [] (zC 37 [zR (some p), zI x1] h))) from zGo 3 40 0 _ _ _).trans ?_
  refine (gd_t (⟨rfl, Nat.le_of_ble_eq_true rfl, rfl, Nat.le_of_ble_eq_true rfl⟩) _).trans ?_
  refine (gd_t (⟨rfl, hp.1, (PS_n hp)⟩) _).trans ?_
  refine (congrArg (zBack zY 40 2 5 [some (zR (some p)), some (zI x1)] []) (e_P_has hp)).trans ?_
  refine (show zY 40 5 [some (zR (some p)), some (zI x1)] [zI (if b_P_has h p x1 then (1 : Int) else 0)] h = if (if b_P_has h p x1 then (1 : Int) else 0) = 0 then zY 40 17 [some (zR (some p)), some (zI x1)] [] h else zY 40 8 [some (zR (some p)), some (zI x1)] [] h from zGo 1 40 5 _ _ _).trans ?_
  refine iteBF (fun x => (some (.inl (some (zI x)), h) : zO)) (fun c0 => ?_) (fun c0 => ?_)
  · skip
    refine (show zY 40 8 [some (zR (some p)), some (zI x1)] [] h = gd (zob h (some p) 5) (zY 40 12 [some (zR (some p)), some (zI x1)] [zR (hR h p 9)] h) from zGo 2 40 8 _ _ _).trans ?_
    refine (gd_t (⟨rfl, hp.1, (PS_n hp)⟩) _).trans ?_
    refine (congrArg (fun r => zY 40 12 [some (zR (some p)), some (zI x1)] (zR r :: []) h) (PS_r hp 9 rfl)).trans ?_
    refine (show zY 40 12 [some (zR (some p)), some (zI x1)] [zR (some (p + 7))] h = gd (zok h (some (p + 7)) 22 x1) (gd (([] : List zV).isEmpty = true ∧ (zrk 40 = 1 ∨ zrk 40 = 6 ∧ (((hI h (p + 7) x1.toNat) : Int) = 0 ∨ ((hI h (p + 7) x1.toNat) : Int) = 1))) (some (.inl (some (zI (hI h (p + 7) x1.toNat))), h))) from zGo 4 40 12 _ _ _).trans ?_
    refine (gd_t ((ci (PS_t hp 7 _ rfl rfl) (PS_l hp 7 rfl)).2 (by (try simp only [b_P_has] at *); omega)) _).trans ?_
    refine (gd_t (⟨rfl, Or.inl rfl⟩) _).trans ?_
    rfl
  · skip
    refine (show zY 40 17 [some (zR (some p)), some (zI x1)] [] h = gd (inR (-1)) (gd (([] : List zV).isEmpty = true ∧ (zrk 40 = 1 ∨ zrk 40 = 6 ∧ (((-1) : Int) = 0 ∨ ((-1) : Int) = 1))) (some (.inl (some (zI (-1))), h))) from zGo 2 40 17 _ _ _).trans ?_
    refine (gd_t (by decide) _).trans ?_
    refine (gd_t (⟨rfl, Or.inl rfl⟩) _).trans ?_
    rfl
def f_P_thenOf (h : zH) (p : Nat) (x1 : Int) : Int :=
  if b_P_has h p x1 then
    (hI h (p + 8) x1.toNat)
  else
    (-1)
theorem e_P_thenOf {h : zH} {p : Nat} {x1 : Int} (hp : PS h p) : zC 50 [zR (some p), zI x1] h = some (.inl (some (zI (f_P_thenOf h p x1))), h) := by
  show _ = (some (.inl (some (zI (
    if b_P_has h p x1 then
      (hI h (p + 8) x1.toNat)
    else
      (-1)))), h) : zO)
  refine (show zC 50 [zR (some p), zI x1] h = gd (false = zctor 37 ∧ zcs [] ≤ 8 ∧ zrm 50 (zrf 37 + 1) (8 + (zmaxl 37 + 11) + zrl 37) = true ∧ zcs [zR (some p), zI x1] ≤ zmaxl 37) (gd (zob h (some p) 5) (zBack zY 50 2 5 [some (zR (some p)), some (zI x1)] [] (zC 37 [zR (some p), zI x1] h))) from zGo 3 50 0 _ _ _).trans ?_
  refine (gd_t (⟨rfl, Nat.le_of_ble_eq_true rfl, rfl, Nat.le_of_ble_eq_true rfl⟩) _).trans ?_
  refine (gd_t (⟨rfl, hp.1, (PS_n hp)⟩) _).trans ?_
  refine (congrArg (zBack zY 50 2 5 [some (zR (some p)), some (zI x1)] []) (e_P_has hp)).trans ?_
  refine (show zY 50 5 [some (zR (some p)), some (zI x1)] [zI (if b_P_has h p x1 then (1 : Int) else 0)] h = if (if b_P_has h p x1 then (1 : Int) else 0) = 0 then zY 50 17 [some (zR (some p)), some (zI x1)] [] h else zY 50 8 [some (zR (some p)), some (zI x1)] [] h from zGo 1 50 5 _ _ _).trans ?_
  refine iteBF (fun x => (some (.inl (some (zI x)), h) : zO)) (fun c0 => ?_) (fun c0 => ?_)
  · skip
    refine (show zY 50 8 [some (zR (some p)), some (zI x1)] [] h = gd (zob h (some p) 5) (zY 50 12 [some (zR (some p)), some (zI x1)] [zR (hR h p 10)] h) from zGo 2 50 8 _ _ _).trans ?_
    refine (gd_t (⟨rfl, hp.1, (PS_n hp)⟩) _).trans ?_
    refine (congrArg (fun r => zY 50 12 [some (zR (some p)), some (zI x1)] (zR r :: []) h) (PS_r hp 10 rfl)).trans ?_
    refine (show zY 50 12 [some (zR (some p)), some (zI x1)] [zR (some (p + 8))] h = gd (zok h (some (p + 8)) 22 x1) (gd (([] : List zV).isEmpty = true ∧ (zrk 50 = 1 ∨ zrk 50 = 6 ∧ (((hI h (p + 8) x1.toNat) : Int) = 0 ∨ ((hI h (p + 8) x1.toNat) : Int) = 1))) (some (.inl (some (zI (hI h (p + 8) x1.toNat))), h))) from zGo 4 50 12 _ _ _).trans ?_
    refine (gd_t ((ci (PS_t hp 8 _ rfl rfl) (PS_l hp 8 rfl)).2 (by (try simp only [b_P_has] at *); omega)) _).trans ?_
    refine (gd_t (⟨rfl, Or.inl rfl⟩) _).trans ?_
    rfl
  · skip
    refine (show zY 50 17 [some (zR (some p)), some (zI x1)] [] h = gd (inR (-1)) (gd (([] : List zV).isEmpty = true ∧ (zrk 50 = 1 ∨ zrk 50 = 6 ∧ (((-1) : Int) = 0 ∨ ((-1) : Int) = 1))) (some (.inl (some (zI (-1))), h))) from zGo 2 50 17 _ _ _).trans ?_
    refine (gd_t (by decide) _).trans ?_
    refine (gd_t (⟨rfl, Or.inl rfl⟩) _).trans ?_
    rfl
def f_P_partOf (h : zH) (p : Nat) (x1 : Int) : Option Nat :=
  if b_P_has h p x1 then
    hR h (p + 10) x1.toNat
  else
    some 3
theorem e_P_partOf {h : zH} {p : Nat} {x1 : Int} (hp : PS h p) : zC 52 [zR (some p), zI x1] h = some (.inl (some (zR (f_P_partOf h p x1))), h) := by
  show _ = (some (.inl (some (zR (
    if b_P_has h p x1 then
      hR h (p + 10) x1.toNat
    else
      some 3))), h) : zO)
  refine (show zC 52 [zR (some p), zI x1] h = gd (false = zctor 37 ∧ zcs [] ≤ 8 ∧ zrm 52 (zrf 37 + 1) (8 + (zmaxl 37 + 11) + zrl 37) = true ∧ zcs [zR (some p), zI x1] ≤ zmaxl 37) (gd (zob h (some p) 5) (zBack zY 52 2 5 [some (zR (some p)), some (zI x1)] [] (zC 37 [zR (some p), zI x1] h))) from zGo 3 52 0 _ _ _).trans ?_
  refine (gd_t (⟨rfl, Nat.le_of_ble_eq_true rfl, rfl, Nat.le_of_ble_eq_true rfl⟩) _).trans ?_
  refine (gd_t (⟨rfl, hp.1, (PS_n hp)⟩) _).trans ?_
  refine (congrArg (zBack zY 52 2 5 [some (zR (some p)), some (zI x1)] []) (e_P_has hp)).trans ?_
  refine (show zY 52 5 [some (zR (some p)), some (zI x1)] [zI (if b_P_has h p x1 then (1 : Int) else 0)] h = if (if b_P_has h p x1 then (1 : Int) else 0) = 0 then zY 52 17 [some (zR (some p)), some (zI x1)] [] h else zY 52 8 [some (zR (some p)), some (zI x1)] [] h from zGo 1 52 5 _ _ _).trans ?_
  refine iteBF (fun x => (some (.inl (some (zR x)), h) : zO)) (fun c0 => ?_) (fun c0 => ?_)
  · skip
    refine (show zY 52 8 [some (zR (some p)), some (zI x1)] [] h = gd (zob h (some p) 5) (zY 52 12 [some (zR (some p)), some (zI x1)] [zR (hR h p 12)] h) from zGo 2 52 8 _ _ _).trans ?_
    refine (gd_t (⟨rfl, hp.1, (PS_n hp)⟩) _).trans ?_
    refine (congrArg (fun r => zY 52 12 [some (zR (some p)), some (zI x1)] (zR r :: []) h) (PS_r hp 12 rfl)).trans ?_
    refine (show zY 52 12 [some (zR (some p)), some (zI x1)] [zR (some (p + 10))] h = gd (zokw h (some (p + 10)) 25 x1 ∨ zokw h (some (p + 10)) 26 x1 ∨ zokw h (some (p + 10)) 27 x1) (gd (([] : List zV).isEmpty = true ∧ zrk 52 = 5) (some (.inl (some (zR (hR h (p + 10) x1.toNat))), h))) from zGo 4 52 12 _ _ _).trans ?_
    refine (gd_t ((cia25 (PS_t hp 10 _ rfl rfl) (PS_ni hp 10 rfl) (PS_l hp 10 rfl)).2 (by (try simp only [b_P_has] at *); omega)) _).trans ?_
    refine (gd_t (⟨rfl, rfl⟩) _).trans ?_
    rfl
  · skip
    refine (show zY 52 17 [some (zR (some p)), some (zI x1)] [] h = gd (zob h (some p) 5) (zY 52 21 [some (zR (some p)), some (zI x1)] [zR (hR h p 13)] h) from zGo 2 52 17 _ _ _).trans ?_
    refine (gd_t (⟨rfl, hp.1, (PS_n hp)⟩) _).trans ?_
    refine (congrArg (fun r => zY 52 21 [some (zR (some p)), some (zI x1)] (zR r :: []) h) (PS_o hp)).trans ?_
    refine (show zY 52 21 [some (zR (some p)), some (zI x1)] [zR (some 3)] h = gd (([] : List zV).isEmpty = true ∧ zrk 52 = 5) (some (.inl (some (zR (some 3))), h)) from zGo 1 52 21 _ _ _).trans ?_
    refine (gd_t (⟨rfl, rfl⟩) _).trans ?_
    rfl
def f_P_loopAt (h : zH) (p : Nat) (x1 : Int) : Int :=
  if x1 < 0 then
    (-1)
  else
    if x1 < (hI h p 1) then
      if x1 < 24 then
        (hI h (p + 9) x1.toNat)
      else
        (-1)
    else
      (-1)
theorem e_P_loopAt {h : zH} {p : Nat} {x1 : Int} (hp : PS h p) : zC 53 [zR (some p), zI x1] h = some (.inl (some (zI (f_P_loopAt h p x1))), h) := by
  show _ = (some (.inl (some (zI (
    if x1 < 0 then
      (-1)
    else
      if x1 < (hI h p 1) then
        if x1 < 24 then
          (hI h (p + 9) x1.toNat)
        else
          (-1)
      else
        (-1)))), h) : zO)
  refine (show zC 53 [zR (some p), zI x1] h = if x1 < 0 then zY 53 27 [some (zR (some p)), some (zI x1)] [] h else zY 53 4 [some (zR (some p)), some (zI x1)] [] h from zGo 2 53 0 _ _ _).trans ?_
  refine iteCF (fun x => (some (.inl (some (zI x)), h) : zO)) (fun c0 => ?_) (fun c0 => ?_)
  · skip
    refine (show zY 53 27 [some (zR (some p)), some (zI x1)] [] h = gd (inR (-1)) (gd (([] : List zV).isEmpty = true ∧ (zrk 53 = 1 ∨ zrk 53 = 6 ∧ (((-1) : Int) = 0 ∨ ((-1) : Int) = 1))) (some (.inl (some (zI (-1))), h))) from zGo 2 53 27 _ _ _).trans ?_
    refine (gd_t (by decide) _).trans ?_
    refine (gd_t (⟨rfl, Or.inl rfl⟩) _).trans ?_
    rfl
  · skip
    refine (show zY 53 4 [some (zR (some p)), some (zI x1)] [] h = gd (zob h (some p) 5) (if x1 < (hI h p 1) then zY 53 12 [some (zR (some p)), some (zI x1)] [] h else zY 53 27 [some (zR (some p)), some (zI x1)] [] h) from zGo 4 53 4 _ _ _).trans ?_
    refine (gd_t (⟨rfl, hp.1, (PS_n hp)⟩) _).trans ?_
    refine iteCF (fun x => (some (.inl (some (zI x)), h) : zO)) (fun c1 => ?_) (fun c1 => ?_)
    · skip
      refine (show zY 53 12 [some (zR (some p)), some (zI x1)] [] h = gd (-128 ≤ (24 : Int) ∧ (24 : Int) < 128) (if x1 < 24 then zY 53 18 [some (zR (some p)), some (zI x1)] [] h else zY 53 27 [some (zR (some p)), some (zI x1)] [] h) from zGo 3 53 12 _ _ _).trans ?_
      refine (gd_t (by decide) _).trans ?_
      refine iteCF (fun x => (some (.inl (some (zI x)), h) : zO)) (fun c2 => ?_) (fun c2 => ?_)
      · skip
        refine (show zY 53 18 [some (zR (some p)), some (zI x1)] [] h = gd (zob h (some p) 5) (zY 53 22 [some (zR (some p)), some (zI x1)] [zR (hR h p 11)] h) from zGo 2 53 18 _ _ _).trans ?_
        refine (gd_t (⟨rfl, hp.1, (PS_n hp)⟩) _).trans ?_
        refine (congrArg (fun r => zY 53 22 [some (zR (some p)), some (zI x1)] (zR r :: []) h) (PS_r hp 11 rfl)).trans ?_
        refine (show zY 53 22 [some (zR (some p)), some (zI x1)] [zR (some (p + 9))] h = gd (zok h (some (p + 9)) 22 x1) (gd (([] : List zV).isEmpty = true ∧ (zrk 53 = 1 ∨ zrk 53 = 6 ∧ (((hI h (p + 9) x1.toNat) : Int) = 0 ∨ ((hI h (p + 9) x1.toNat) : Int) = 1))) (some (.inl (some (zI (hI h (p + 9) x1.toNat))), h))) from zGo 4 53 22 _ _ _).trans ?_
        refine (gd_t ((ci (PS_t hp 9 _ rfl rfl) (PS_l hp 9 rfl)).2 (by omega)) _).trans ?_
        refine (gd_t (⟨rfl, Or.inl rfl⟩) _).trans ?_
        rfl
      · skip
        refine (show zY 53 27 [some (zR (some p)), some (zI x1)] [] h = gd (inR (-1)) (gd (([] : List zV).isEmpty = true ∧ (zrk 53 = 1 ∨ zrk 53 = 6 ∧ (((-1) : Int) = 0 ∨ ((-1) : Int) = 1))) (some (.inl (some (zI (-1))), h))) from zGo 2 53 27 _ _ _).trans ?_
        refine (gd_t (by decide) _).trans ?_
        refine (gd_t (⟨rfl, Or.inl rfl⟩) _).trans ?_
        rfl
    · skip
      refine (show zY 53 27 [some (zR (some p)), some (zI x1)] [] h = gd (inR (-1)) (gd (([] : List zV).isEmpty = true ∧ (zrk 53 = 1 ∨ zrk 53 = 6 ∧ (((-1) : Int) = 0 ∨ ((-1) : Int) = 1))) (some (.inl (some (zI (-1))), h))) from zGo 2 53 27 _ _ _).trans ?_
      refine (gd_t (by decide) _).trans ?_
      refine (gd_t (⟨rfl, Or.inl rfl⟩) _).trans ?_
      rfl
def f_P_entry (h : zH) (p : Nat) (x1 : Int) (x2 : Int) : Int :=
  if (f_P_kindOf h p x1) = 2 then
    if x2 = 0 then
      (f_P_thenOf h p x1)
    else
      if (f_P_firstOf h p x1) = (-1) then
        x1
      else
        (f_P_firstOf h p x1)
  else
    if x2 = 0 then
      if (f_P_secondOf h p x1) = (-1) then
        (f_P_thenOf h p x1)
      else
        (f_P_secondOf h p x1)
    else
      if (f_P_firstOf h p x1) = (-1) then
        (f_P_thenOf h p x1)
      else
        (f_P_firstOf h p x1)
theorem e_P_entry {h : zH} {p : Nat} {x1 : Int} {x2 : Int} (hp : PS h p) : zC 54 [zR (some p), zI x1, zI x2] h = some (.inl (some (zI (f_P_entry h p x1 x2))), h) := by
  show _ = (some (.inl (some (zI (
    if (f_P_kindOf h p x1) = 2 then
      if x2 = 0 then
        (f_P_thenOf h p x1)
      else
        if (f_P_firstOf h p x1) = (-1) then
          x1
        else
          (f_P_firstOf h p x1)
    else
      if x2 = 0 then
        if (f_P_secondOf h p x1) = (-1) then
          (f_P_thenOf h p x1)
        else
          (f_P_secondOf h p x1)
      else
        if (f_P_firstOf h p x1) = (-1) then
          (f_P_thenOf h p x1)
        else
          (f_P_firstOf h p x1)))), h) : zO)
  refine (show zC 54 [zR (some p), zI x1, zI x2] h = gd (false = zctor 36 ∧ zcs [] ≤ 8 ∧ zrm 54 (zrf 36 + 1) (8 + (zmaxl 36 + 11) + zrl 36) = true ∧ zcs [zR (some p), zI x1] ≤ zmaxl 36) (gd (zob h (some p) 5) (zBack zY 54 2 5 [some (zR (some p)), some (zI x1), some (zI x2), none] [] (zC 36 [zR (some p), zI x1] h))) from zGo 3 54 0 _ _ _).trans ?_
  refine (gd_t (⟨rfl, Nat.le_of_ble_eq_true rfl, rfl, Nat.le_of_ble_eq_true rfl⟩) _).trans ?_
  refine (gd_t (⟨rfl, hp.1, (PS_n hp)⟩) _).trans ?_
  refine (congrArg (zBack zY 54 2 5 [some (zR (some p)), some (zI x1), some (zI x2), none] []) (e_P_kindOf hp)).trans ?_
  refine (show zY 54 5 [some (zR (some p)), some (zI x1), some (zI x2), none] [zI (f_P_kindOf h p x1)] h = gd (inR (2)) (if (f_P_kindOf h p x1) = 2 then zY 54 9 [some (zR (some p)), some (zI x1), some (zI x2), none] [] h else zY 54 38 [some (zR (some p)), some (zI x1), some (zI x2), none] [] h) from zGo 2 54 5 _ _ _).trans ?_
  refine (gd_t (by decide) _).trans ?_
  refine iteCF (fun x => (some (.inl (some (zI x)), h) : zO)) (fun c0 => ?_) (fun c0 => ?_)
  · skip
    refine (show zY 54 9 [some (zR (some p)), some (zI x1), some (zI x2), none] [] h = if x2 = 0 then zY 54 13 [some (zR (some p)), some (zI x1), some (zI x2), none] [] h else zY 54 19 [some (zR (some p)), some (zI x1), some (zI x2), none] [] h from zGo 2 54 9 _ _ _).trans ?_
    refine iteCF (fun x => (some (.inl (some (zI x)), h) : zO)) (fun c1 => ?_) (fun c1 => ?_)
    · skip
      refine (show zY 54 13 [some (zR (some p)), some (zI x1), some (zI x2), none] [] h = gd (false = zctor 50 ∧ zcs [] ≤ 8 ∧ zrm 54 (zrf 50 + 1) (8 + (zmaxl 50 + 11) + zrl 50) = true ∧ zcs [zR (some p), zI x1] ≤ zmaxl 50) (gd (zob h (some p) 5) (zBack zY 54 15 18 [some (zR (some p)), some (zI x1), some (zI x2), none] [] (zC 50 [zR (some p), zI x1] h))) from zGo 3 54 13 _ _ _).trans ?_
      refine (gd_t (⟨rfl, Nat.le_of_ble_eq_true rfl, rfl, Nat.le_of_ble_eq_true rfl⟩) _).trans ?_
      refine (gd_t (⟨rfl, hp.1, (PS_n hp)⟩) _).trans ?_
      refine (congrArg (zBack zY 54 15 18 [some (zR (some p)), some (zI x1), some (zI x2), none] []) (e_P_thenOf hp)).trans ?_
      refine (show zY 54 18 [some (zR (some p)), some (zI x1), some (zI x2), none] [zI (f_P_thenOf h p x1)] h = gd (([] : List zV).isEmpty = true ∧ (zrk 54 = 1 ∨ zrk 54 = 6 ∧ (((f_P_thenOf h p x1) : Int) = 0 ∨ ((f_P_thenOf h p x1) : Int) = 1))) (some (.inl (some (zI (f_P_thenOf h p x1))), h)) from zGo 1 54 18 _ _ _).trans ?_
      refine (gd_t (⟨rfl, Or.inl rfl⟩) _).trans ?_
      rfl
    · skip
      refine (show zY 54 19 [some (zR (some p)), some (zI x1), some (zI x2), none] [] h = gd (false = zctor 41 ∧ zcs [] ≤ 8 ∧ zrm 54 (zrf 41 + 1) (8 + (zmaxl 41 + 11) + zrl 41) = true ∧ zcs [zR (some p), zI x1] ≤ zmaxl 41) (gd (zob h (some p) 5) (zBack zY 54 21 24 [some (zR (some p)), some (zI x1), some (zI x2), none] [] (zC 41 [zR (some p), zI x1] h))) from zGo 3 54 19 _ _ _).trans ?_
      refine (gd_t (⟨rfl, Nat.le_of_ble_eq_true rfl, rfl, Nat.le_of_ble_eq_true rfl⟩) _).trans ?_
      refine (gd_t (⟨rfl, hp.1, (PS_n hp)⟩) _).trans ?_
      refine (congrArg (zBack zY 54 21 24 [some (zR (some p)), some (zI x1), some (zI x2), none] []) (e_P_firstOf hp)).trans ?_
      refine (show zY 54 24 [some (zR (some p)), some (zI x1), some (zI x2), none] [zI (f_P_firstOf h p x1)] h = gd (inR (-1)) (if (f_P_firstOf h p x1) = (-1) then zY 54 36 [some (zR (some p)), some (zI x1), some (zI x2), none] [] h else zY 54 28 [some (zR (some p)), some (zI x1), some (zI x2), none] [] h) from zGo 2 54 24 _ _ _).trans ?_
      refine (gd_t (by decide) _).trans ?_
      refine iteCF (fun x => (some (.inl (some (zI x)), h) : zO)) (fun c2 => ?_) (fun c2 => ?_)
      · skip
        refine (show zY 54 36 [some (zR (some p)), some (zI x1), some (zI x2), none] [] h = gd (([] : List zV).isEmpty = true ∧ (zrk 54 = 1 ∨ zrk 54 = 6 ∧ ((x1 : Int) = 0 ∨ (x1 : Int) = 1))) (some (.inl (some (zI x1)), h)) from zGo 2 54 36 _ _ _).trans ?_
        refine (gd_t (⟨rfl, Or.inl rfl⟩) _).trans ?_
        rfl
      · skip
        refine (show zY 54 28 [some (zR (some p)), some (zI x1), some (zI x2), none] [] h = gd (false = zctor 41 ∧ zcs [] ≤ 8 ∧ zrm 54 (zrf 41 + 1) (8 + (zmaxl 41 + 11) + zrl 41) = true ∧ zcs [zR (some p), zI x1] ≤ zmaxl 41) (gd (zob h (some p) 5) (zBack zY 54 30 33 [some (zR (some p)), some (zI x1), some (zI x2), none] [] (zC 41 [zR (some p), zI x1] h))) from zGo 3 54 28 _ _ _).trans ?_
        refine (gd_t (⟨rfl, Nat.le_of_ble_eq_true rfl, rfl, Nat.le_of_ble_eq_true rfl⟩) _).trans ?_
        refine (gd_t (⟨rfl, hp.1, (PS_n hp)⟩) _).trans ?_
        refine (congrArg (zBack zY 54 30 33 [some (zR (some p)), some (zI x1), some (zI x2), none] []) (e_P_firstOf hp)).trans ?_
        refine (show zY 54 33 [some (zR (some p)), some (zI x1), some (zI x2), none] [zI (f_P_firstOf h p x1)] h = gd (([] : List zV).isEmpty = true ∧ (zrk 54 = 1 ∨ zrk 54 = 6 ∧ (((f_P_firstOf h p x1) : Int) = 0 ∨ ((f_P_firstOf h p x1) : Int) = 1))) (some (.inl (some (zI (f_P_firstOf h p x1))), h)) from zGo 2 54 33 _ _ _).trans ?_
        refine (gd_t (⟨rfl, Or.inl rfl⟩) _).trans ?_
        rfl
  · skip
    refine (show zY 54 38 [some (zR (some p)), some (zI x1), some (zI x2), none] [] h = if x2 = 0 then zY 54 50 [some (zR (some p)), some (zI x1), some (zI x2), none] [] h else zY 54 42 [some (zR (some p)), some (zI x1), some (zI x2), none] [] h from zGo 2 54 38 _ _ _).trans ?_
    refine iteCF (fun x => (some (.inl (some (zI x)), h) : zO)) (fun c3 => ?_) (fun c3 => ?_)
    · skip
      refine (show zY 54 50 [some (zR (some p)), some (zI x1), some (zI x2), none] [] h = gd (false = zctor 40 ∧ zcs [] ≤ 8 ∧ zrm 54 (zrf 40 + 1) (8 + (zmaxl 40 + 11) + zrl 40) = true ∧ zcs [zR (some p), zI x1] ≤ zmaxl 40) (gd (zob h (some p) 5) (zBack zY 54 52 55 [some (zR (some p)), some (zI x1), some (zI x2), none] [] (zC 40 [zR (some p), zI x1] h))) from zGo 3 54 50 _ _ _).trans ?_
      refine (gd_t (⟨rfl, Nat.le_of_ble_eq_true rfl, rfl, Nat.le_of_ble_eq_true rfl⟩) _).trans ?_
      refine (gd_t (⟨rfl, hp.1, (PS_n hp)⟩) _).trans ?_
      refine (congrArg (zBack zY 54 52 55 [some (zR (some p)), some (zI x1), some (zI x2), none] []) (e_P_secondOf hp)).trans ?_
      refine (show zY 54 55 [some (zR (some p)), some (zI x1), some (zI x2), none] [zI (f_P_secondOf h p x1)] h = gd (inR (-1)) (if (f_P_secondOf h p x1) = (-1) then zY 54 65 [some (zR (some p)), some (zI x1), some (zI x2), some (zI (f_P_secondOf h p x1))] [] h else zY 54 61 [some (zR (some p)), some (zI x1), some (zI x2), some (zI (f_P_secondOf h p x1))] [] h) from zGo 4 54 55 _ _ _).trans ?_
      refine (gd_t (by decide) _).trans ?_
      refine iteCF (fun x => (some (.inl (some (zI x)), h) : zO)) (fun c4 => ?_) (fun c4 => ?_)
      · skip
        refine (show zY 54 65 [some (zR (some p)), some (zI x1), some (zI x2), some (zI (f_P_secondOf h p x1))] [] h = gd (false = zctor 50 ∧ zcs [] ≤ 8 ∧ zrm 54 (zrf 50 + 1) (8 + (zmaxl 50 + 11) + zrl 50) = true ∧ zcs [zR (some p), zI x1] ≤ zmaxl 50) (gd (zob h (some p) 5) (zBack zY 54 67 70 [some (zR (some p)), some (zI x1), some (zI x2), some (zI (f_P_secondOf h p x1))] [] (zC 50 [zR (some p), zI x1] h))) from zGo 3 54 65 _ _ _).trans ?_
        refine (gd_t (⟨rfl, Nat.le_of_ble_eq_true rfl, rfl, Nat.le_of_ble_eq_true rfl⟩) _).trans ?_
        refine (gd_t (⟨rfl, hp.1, (PS_n hp)⟩) _).trans ?_
        refine (congrArg (zBack zY 54 67 70 [some (zR (some p)), some (zI x1), some (zI x2), some (zI (f_P_secondOf h p x1))] []) (e_P_thenOf hp)).trans ?_
        refine (show zY 54 70 [some (zR (some p)), some (zI x1), some (zI x2), some (zI (f_P_secondOf h p x1))] [zI (f_P_thenOf h p x1)] h = gd (([] : List zV).isEmpty = true ∧ (zrk 54 = 1 ∨ zrk 54 = 6 ∧ (((f_P_thenOf h p x1) : Int) = 0 ∨ ((f_P_thenOf h p x1) : Int) = 1))) (some (.inl (some (zI (f_P_thenOf h p x1))), h)) from zGo 1 54 70 _ _ _).trans ?_
        refine (gd_t (⟨rfl, Or.inl rfl⟩) _).trans ?_
        rfl
      · skip
        refine (show zY 54 61 [some (zR (some p)), some (zI x1), some (zI x2), some (zI (f_P_secondOf h p x1))] [] h = gd (([] : List zV).isEmpty = true ∧ (zrk 54 = 1 ∨ zrk 54 = 6 ∧ (((f_P_secondOf h p x1) : Int) = 0 ∨ ((f_P_secondOf h p x1) : Int) = 1))) (some (.inl (some (zI (f_P_secondOf h p x1))), h)) from zGo 3 54 61 _ _ _).trans ?_
        refine (gd_t (⟨rfl, Or.inl rfl⟩) _).trans ?_
        rfl
    · skip
      refine (show zY 54 42 [some (zR (some p)), some (zI x1), some (zI x2), none] [] h = gd (false = zctor 41 ∧ zcs [] ≤ 8 ∧ zrm 54 (zrf 41 + 1) (8 + (zmaxl 41 + 11) + zrl 41) = true ∧ zcs [zR (some p), zI x1] ≤ zmaxl 41) (gd (zob h (some p) 5) (zBack zY 54 44 47 [some (zR (some p)), some (zI x1), some (zI x2), none] [] (zC 41 [zR (some p), zI x1] h))) from zGo 3 54 42 _ _ _).trans ?_
      refine (gd_t (⟨rfl, Nat.le_of_ble_eq_true rfl, rfl, Nat.le_of_ble_eq_true rfl⟩) _).trans ?_
      refine (gd_t (⟨rfl, hp.1, (PS_n hp)⟩) _).trans ?_
      refine (congrArg (zBack zY 54 44 47 [some (zR (some p)), some (zI x1), some (zI x2), none] []) (e_P_firstOf hp)).trans ?_
      refine (show zY 54 47 [some (zR (some p)), some (zI x1), some (zI x2), none] [zI (f_P_firstOf h p x1)] h = gd (inR (-1)) (if (f_P_firstOf h p x1) = (-1) then zY 54 65 [some (zR (some p)), some (zI x1), some (zI x2), some (zI (f_P_firstOf h p x1))] [] h else zY 54 61 [some (zR (some p)), some (zI x1), some (zI x2), some (zI (f_P_firstOf h p x1))] [] h) from zGo 5 54 47 _ _ _).trans ?_
      refine (gd_t (by decide) _).trans ?_
      refine iteCF (fun x => (some (.inl (some (zI x)), h) : zO)) (fun c5 => ?_) (fun c5 => ?_)
      · skip
        refine (show zY 54 65 [some (zR (some p)), some (zI x1), some (zI x2), some (zI (f_P_firstOf h p x1))] [] h = gd (false = zctor 50 ∧ zcs [] ≤ 8 ∧ zrm 54 (zrf 50 + 1) (8 + (zmaxl 50 + 11) + zrl 50) = true ∧ zcs [zR (some p), zI x1] ≤ zmaxl 50) (gd (zob h (some p) 5) (zBack zY 54 67 70 [some (zR (some p)), some (zI x1), some (zI x2), some (zI (f_P_firstOf h p x1))] [] (zC 50 [zR (some p), zI x1] h))) from zGo 3 54 65 _ _ _).trans ?_
        refine (gd_t (⟨rfl, Nat.le_of_ble_eq_true rfl, rfl, Nat.le_of_ble_eq_true rfl⟩) _).trans ?_
        refine (gd_t (⟨rfl, hp.1, (PS_n hp)⟩) _).trans ?_
        refine (congrArg (zBack zY 54 67 70 [some (zR (some p)), some (zI x1), some (zI x2), some (zI (f_P_firstOf h p x1))] []) (e_P_thenOf hp)).trans ?_
        refine (show zY 54 70 [some (zR (some p)), some (zI x1), some (zI x2), some (zI (f_P_firstOf h p x1))] [zI (f_P_thenOf h p x1)] h = gd (([] : List zV).isEmpty = true ∧ (zrk 54 = 1 ∨ zrk 54 = 6 ∧ (((f_P_thenOf h p x1) : Int) = 0 ∨ ((f_P_thenOf h p x1) : Int) = 1))) (some (.inl (some (zI (f_P_thenOf h p x1))), h)) from zGo 1 54 70 _ _ _).trans ?_
        refine (gd_t (⟨rfl, Or.inl rfl⟩) _).trans ?_
        rfl
      · skip
        refine (show zY 54 61 [some (zR (some p)), some (zI x1), some (zI x2), some (zI (f_P_firstOf h p x1))] [] h = gd (([] : List zV).isEmpty = true ∧ (zrk 54 = 1 ∨ zrk 54 = 6 ∧ (((f_P_firstOf h p x1) : Int) = 0 ∨ ((f_P_firstOf h p x1) : Int) = 1))) (some (.inl (some (zI (f_P_firstOf h p x1))), h)) from zGo 3 54 61 _ _ _).trans ?_
        refine (gd_t (⟨rfl, Or.inl rfl⟩) _).trans ?_
        rfl
abbrev b_V_fits (x0 : Int) : Prop :=
  0 ≤ x0 ∧ x0 < 24
theorem e_V_fits {h : zH} {x0 : Int} : zC 126 [zI x0] h = some (.inl (some (zI (if b_V_fits x0 then (1 : Int) else 0))), h) := by
  refine (show zC 126 [zI x0] h = if x0 < 0 then zY 126 14 [some (zI x0)] [] h else zY 126 4 [some (zI x0)] [] h from zGo 2 126 0 _ _ _).trans ?_
  refine ite_x (fun c0 => ?_) (fun c0 => ?_)
  · skip
    refine (show zY 126 14 [some (zI x0)] [] h = gd (inR (0)) (gd (([] : List zV).isEmpty = true ∧ (zrk 126 = 1 ∨ zrk 126 = 6 ∧ ((0 : Int) = 0 ∨ (0 : Int) = 1))) (some (.inl (some (zI 0)), h))) from zGo 2 126 14 _ _ _).trans ?_
    refine (gd_t (by decide) _).trans ?_
    refine (gd_t (⟨rfl, Or.inr ⟨rfl, by decide⟩⟩) _).trans ?_
    exact retI (by first | rfl | (exact (if_pos (by unfold b_V_fits; omega)).symm) | (exact (if_neg (by unfold b_V_fits; omega)).symm) | (exact ifc_congr (by unfold b_V_fits; simp_all)) | (unfold b_V_fits; simp_all))
  · skip
    refine (show zY 126 4 [some (zI x0)] [] h = gd (-128 ≤ (24 : Int) ∧ (24 : Int) < 128) (if x0 < 24 then zY 126 10 [some (zI x0)] [] h else zY 126 14 [some (zI x0)] [] h) from zGo 3 126 4 _ _ _).trans ?_
    refine (gd_t (by decide) _).trans ?_
    refine ite_x (fun c1 => ?_) (fun c1 => ?_)
    · skip
      refine (show zY 126 10 [some (zI x0)] [] h = gd (inR (1)) (gd (([] : List zV).isEmpty = true ∧ (zrk 126 = 1 ∨ zrk 126 = 6 ∧ ((1 : Int) = 0 ∨ (1 : Int) = 1))) (some (.inl (some (zI 1)), h))) from zGo 3 126 10 _ _ _).trans ?_
      refine (gd_t (by decide) _).trans ?_
      refine (gd_t (⟨rfl, Or.inr ⟨rfl, by decide⟩⟩) _).trans ?_
      exact retI (by first | rfl | (exact (if_pos (by unfold b_V_fits; omega)).symm) | (exact (if_neg (by unfold b_V_fits; omega)).symm) | (exact ifc_congr (by unfold b_V_fits; simp_all)) | (unfold b_V_fits; simp_all))
    · skip
      refine (show zY 126 14 [some (zI x0)] [] h = gd (inR (0)) (gd (([] : List zV).isEmpty = true ∧ (zrk 126 = 1 ∨ zrk 126 = 6 ∧ ((0 : Int) = 0 ∨ (0 : Int) = 1))) (some (.inl (some (zI 0)), h))) from zGo 2 126 14 _ _ _).trans ?_
      refine (gd_t (by decide) _).trans ?_
      refine (gd_t (⟨rfl, Or.inr ⟨rfl, by decide⟩⟩) _).trans ?_
      exact retI (by first | rfl | (exact (if_pos (by unfold b_V_fits; omega)).symm) | (exact (if_neg (by unfold b_V_fits; omega)).symm) | (exact ifc_congr (by unfold b_V_fits; simp_all)) | (unfold b_V_fits; simp_all))
def f_V_keepOf (h : zH) (v : Nat) (x1 : Int) : Option Nat :=
  if b_V_fits x1 then
    hR h (v + 1) x1.toNat
  else
    some 3
theorem e_V_keepOf {h : zH} {v : Nat} {x1 : Int} (hv : VS h v) : zC 129 [zR (some v), zI x1] h = some (.inl (some (zR (f_V_keepOf h v x1))), h) := by
  show _ = (some (.inl (some (zR (
    if b_V_fits x1 then
      hR h (v + 1) x1.toNat
    else
      some 3))), h) : zO)
  refine (show zC 129 [zR (some v), zI x1] h = gd (false = zctor 126 ∧ zcs [] ≤ 8 ∧ zrm 129 (zrf 126 + 1) (8 + (zmaxl 126 + 11) + zrl 126) = true ∧ zcs [zI x1] ≤ zmaxl 126) (zBack zY 129 1 4 [some (zR (some v)), some (zI x1)] [] (zC 126 [zI x1] h)) from zGo 2 129 0 _ _ _).trans ?_
  refine (gd_t (⟨rfl, Nat.le_of_ble_eq_true rfl, rfl, Nat.le_of_ble_eq_true rfl⟩) _).trans ?_
  refine (congrArg (zBack zY 129 1 4 [some (zR (some v)), some (zI x1)] []) (e_V_fits)).trans ?_
  refine (show zY 129 4 [some (zR (some v)), some (zI x1)] [zI (if b_V_fits x1 then (1 : Int) else 0)] h = if (if b_V_fits x1 then (1 : Int) else 0) = 0 then zY 129 16 [some (zR (some v)), some (zI x1)] [] h else zY 129 7 [some (zR (some v)), some (zI x1)] [] h from zGo 1 129 4 _ _ _).trans ?_
  refine iteBF (fun x => (some (.inl (some (zR x)), h) : zO)) (fun c0 => ?_) (fun c0 => ?_)
  · skip
    refine (show zY 129 7 [some (zR (some v)), some (zI x1)] [] h = gd (zob h (some v) 10) (zY 129 11 [some (zR (some v)), some (zI x1)] [zR (hR h v 3)] h) from zGo 2 129 7 _ _ _).trans ?_
    refine (gd_t (⟨rfl, hv.1, (VS_n hv)⟩) _).trans ?_
    refine (congrArg (fun r => zY 129 11 [some (zR (some v)), some (zI x1)] (zR r :: []) h) (VS_r hv 3 rfl)).trans ?_
    refine (show zY 129 11 [some (zR (some v)), some (zI x1)] [zR (some (v + 1))] h = gd (zokw h (some (v + 1)) 25 x1 ∨ zokw h (some (v + 1)) 26 x1 ∨ zokw h (some (v + 1)) 27 x1) (gd (([] : List zV).isEmpty = true ∧ zrk 129 = 5) (some (.inl (some (zR (hR h (v + 1) x1.toNat))), h))) from zGo 4 129 11 _ _ _).trans ?_
    refine (gd_t ((cia25 (VS_t hv 1 _ rfl rfl) (VS_ni hv 1 rfl) (VS_l hv 1 rfl)).2 (by (try simp only [b_V_fits] at *); omega)) _).trans ?_
    refine (gd_t (⟨rfl, rfl⟩) _).trans ?_
    rfl
  · skip
    refine (show zY 129 16 [some (zR (some v)), some (zI x1)] [] h = gd (zob h (some v) 10) (zY 129 20 [some (zR (some v)), some (zI x1)] [zR (hR h v 2)] h) from zGo 2 129 16 _ _ _).trans ?_
    refine (gd_t (⟨rfl, hv.1, (VS_n hv)⟩) _).trans ?_
    refine (congrArg (fun r => zY 129 20 [some (zR (some v)), some (zI x1)] (zR r :: []) h) (VS_o hv)).trans ?_
    refine (show zY 129 20 [some (zR (some v)), some (zI x1)] [zR (some 3)] h = gd (([] : List zV).isEmpty = true ∧ zrk 129 = 5) (some (.inl (some (zR (some 3))), h)) from zGo 1 129 20 _ _ _).trans ?_
    refine (gd_t (⟨rfl, rfl⟩) _).trans ?_
    rfl
def f_V_lessOf (h : zH) (v : Nat) (x1 : Int) : Option Nat :=
  if b_V_fits x1 then
    hR h (v + 2) x1.toNat
  else
    some 3
theorem e_V_lessOf {h : zH} {v : Nat} {x1 : Int} (hv : VS h v) : zC 130 [zR (some v), zI x1] h = some (.inl (some (zR (f_V_lessOf h v x1))), h) := by
  show _ = (some (.inl (some (zR (
    if b_V_fits x1 then
      hR h (v + 2) x1.toNat
    else
      some 3))), h) : zO)
  refine (show zC 130 [zR (some v), zI x1] h = gd (false = zctor 126 ∧ zcs [] ≤ 8 ∧ zrm 130 (zrf 126 + 1) (8 + (zmaxl 126 + 11) + zrl 126) = true ∧ zcs [zI x1] ≤ zmaxl 126) (zBack zY 130 1 4 [some (zR (some v)), some (zI x1)] [] (zC 126 [zI x1] h)) from zGo 2 130 0 _ _ _).trans ?_
  refine (gd_t (⟨rfl, Nat.le_of_ble_eq_true rfl, rfl, Nat.le_of_ble_eq_true rfl⟩) _).trans ?_
  refine (congrArg (zBack zY 130 1 4 [some (zR (some v)), some (zI x1)] []) (e_V_fits)).trans ?_
  refine (show zY 130 4 [some (zR (some v)), some (zI x1)] [zI (if b_V_fits x1 then (1 : Int) else 0)] h = if (if b_V_fits x1 then (1 : Int) else 0) = 0 then zY 130 16 [some (zR (some v)), some (zI x1)] [] h else zY 130 7 [some (zR (some v)), some (zI x1)] [] h from zGo 1 130 4 _ _ _).trans ?_
  refine iteBF (fun x => (some (.inl (some (zR x)), h) : zO)) (fun c0 => ?_) (fun c0 => ?_)
  · skip
    refine (show zY 130 7 [some (zR (some v)), some (zI x1)] [] h = gd (zob h (some v) 10) (zY 130 11 [some (zR (some v)), some (zI x1)] [zR (hR h v 4)] h) from zGo 2 130 7 _ _ _).trans ?_
    refine (gd_t (⟨rfl, hv.1, (VS_n hv)⟩) _).trans ?_
    refine (congrArg (fun r => zY 130 11 [some (zR (some v)), some (zI x1)] (zR r :: []) h) (VS_r hv 4 rfl)).trans ?_
    refine (show zY 130 11 [some (zR (some v)), some (zI x1)] [zR (some (v + 2))] h = gd (zokw h (some (v + 2)) 25 x1 ∨ zokw h (some (v + 2)) 26 x1 ∨ zokw h (some (v + 2)) 27 x1) (gd (([] : List zV).isEmpty = true ∧ zrk 130 = 5) (some (.inl (some (zR (hR h (v + 2) x1.toNat))), h))) from zGo 4 130 11 _ _ _).trans ?_
    refine (gd_t ((cia25 (VS_t hv 2 _ rfl rfl) (VS_ni hv 2 rfl) (VS_l hv 2 rfl)).2 (by (try simp only [b_V_fits] at *); omega)) _).trans ?_
    refine (gd_t (⟨rfl, rfl⟩) _).trans ?_
    rfl
  · skip
    refine (show zY 130 16 [some (zR (some v)), some (zI x1)] [] h = gd (zob h (some v) 10) (zY 130 20 [some (zR (some v)), some (zI x1)] [zR (hR h v 2)] h) from zGo 2 130 16 _ _ _).trans ?_
    refine (gd_t (⟨rfl, hv.1, (VS_n hv)⟩) _).trans ?_
    refine (congrArg (fun r => zY 130 20 [some (zR (some v)), some (zI x1)] (zR r :: []) h) (VS_o hv)).trans ?_
    refine (show zY 130 20 [some (zR (some v)), some (zI x1)] [zR (some 3)] h = gd (([] : List zV).isEmpty = true ∧ zrk 130 = 5) (some (.inl (some (zR (some 3))), h)) from zGo 1 130 20 _ _ _).trans ?_
    refine (gd_t (⟨rfl, rfl⟩) _).trans ?_
    rfl
def f_V_fillingOf (h : zH) (v : Nat) (x1 : Int) : Int :=
  if b_V_fits x1 then
    (hI h (v + 3) x1.toNat)
  else
    (-1)
theorem e_V_fillingOf {h : zH} {v : Nat} {x1 : Int} (hv : VS h v) : zC 128 [zR (some v), zI x1] h = some (.inl (some (zI (f_V_fillingOf h v x1))), h) := by
  show _ = (some (.inl (some (zI (
    if b_V_fits x1 then
      (hI h (v + 3) x1.toNat)
    else
      (-1)))), h) : zO)
  refine (show zC 128 [zR (some v), zI x1] h = gd (false = zctor 126 ∧ zcs [] ≤ 8 ∧ zrm 128 (zrf 126 + 1) (8 + (zmaxl 126 + 11) + zrl 126) = true ∧ zcs [zI x1] ≤ zmaxl 126) (zBack zY 128 1 4 [some (zR (some v)), some (zI x1)] [] (zC 126 [zI x1] h)) from zGo 2 128 0 _ _ _).trans ?_
  refine (gd_t (⟨rfl, Nat.le_of_ble_eq_true rfl, rfl, Nat.le_of_ble_eq_true rfl⟩) _).trans ?_
  refine (congrArg (zBack zY 128 1 4 [some (zR (some v)), some (zI x1)] []) (e_V_fits)).trans ?_
  refine (show zY 128 4 [some (zR (some v)), some (zI x1)] [zI (if b_V_fits x1 then (1 : Int) else 0)] h = if (if b_V_fits x1 then (1 : Int) else 0) = 0 then zY 128 16 [some (zR (some v)), some (zI x1)] [] h else zY 128 7 [some (zR (some v)), some (zI x1)] [] h from zGo 1 128 4 _ _ _).trans ?_
  refine iteBF (fun x => (some (.inl (some (zI x)), h) : zO)) (fun c0 => ?_) (fun c0 => ?_)
  · skip
    refine (show zY 128 7 [some (zR (some v)), some (zI x1)] [] h = gd (zob h (some v) 10) (zY 128 11 [some (zR (some v)), some (zI x1)] [zR (hR h v 5)] h) from zGo 2 128 7 _ _ _).trans ?_
    refine (gd_t (⟨rfl, hv.1, (VS_n hv)⟩) _).trans ?_
    refine (congrArg (fun r => zY 128 11 [some (zR (some v)), some (zI x1)] (zR r :: []) h) (VS_r hv 5 rfl)).trans ?_
    refine (show zY 128 11 [some (zR (some v)), some (zI x1)] [zR (some (v + 3))] h = gd (zok h (some (v + 3)) 22 x1) (gd (([] : List zV).isEmpty = true ∧ (zrk 128 = 1 ∨ zrk 128 = 6 ∧ (((hI h (v + 3) x1.toNat) : Int) = 0 ∨ ((hI h (v + 3) x1.toNat) : Int) = 1))) (some (.inl (some (zI (hI h (v + 3) x1.toNat))), h))) from zGo 4 128 11 _ _ _).trans ?_
    refine (gd_t ((ci (VS_t hv 3 _ rfl rfl) (VS_l hv 3 rfl)).2 (by (try simp only [b_V_fits] at *); omega)) _).trans ?_
    refine (gd_t (⟨rfl, Or.inl rfl⟩) _).trans ?_
    rfl
  · skip
    refine (show zY 128 16 [some (zR (some v)), some (zI x1)] [] h = gd (inR (-1)) (gd (([] : List zV).isEmpty = true ∧ (zrk 128 = 1 ∨ zrk 128 = 6 ∧ (((-1) : Int) = 0 ∨ ((-1) : Int) = 1))) (some (.inl (some (zI (-1))), h))) from zGo 2 128 16 _ _ _).trans ?_
    refine (gd_t (by decide) _).trans ?_
    refine (gd_t (⟨rfl, Or.inl rfl⟩) _).trans ?_
    rfl
def f_V_priceOf (h : zH) (v : Nat) (x1 : Int) : Int :=
  if b_V_fits x1 then
    (hI h (v + 4) x1.toNat)
  else
    0
theorem e_V_priceOf {h : zH} {v : Nat} {x1 : Int} (hv : VS h v) : zC 131 [zR (some v), zI x1] h = some (.inl (some (zI (f_V_priceOf h v x1))), h) := by
  show _ = (some (.inl (some (zI (
    if b_V_fits x1 then
      (hI h (v + 4) x1.toNat)
    else
      0))), h) : zO)
  refine (show zC 131 [zR (some v), zI x1] h = gd (false = zctor 126 ∧ zcs [] ≤ 8 ∧ zrm 131 (zrf 126 + 1) (8 + (zmaxl 126 + 11) + zrl 126) = true ∧ zcs [zI x1] ≤ zmaxl 126) (zBack zY 131 1 4 [some (zR (some v)), some (zI x1)] [] (zC 126 [zI x1] h)) from zGo 2 131 0 _ _ _).trans ?_
  refine (gd_t (⟨rfl, Nat.le_of_ble_eq_true rfl, rfl, Nat.le_of_ble_eq_true rfl⟩) _).trans ?_
  refine (congrArg (zBack zY 131 1 4 [some (zR (some v)), some (zI x1)] []) (e_V_fits)).trans ?_
  refine (show zY 131 4 [some (zR (some v)), some (zI x1)] [zI (if b_V_fits x1 then (1 : Int) else 0)] h = if (if b_V_fits x1 then (1 : Int) else 0) = 0 then zY 131 16 [some (zR (some v)), some (zI x1)] [] h else zY 131 7 [some (zR (some v)), some (zI x1)] [] h from zGo 1 131 4 _ _ _).trans ?_
  refine iteBF (fun x => (some (.inl (some (zI x)), h) : zO)) (fun c0 => ?_) (fun c0 => ?_)
  · skip
    refine (show zY 131 7 [some (zR (some v)), some (zI x1)] [] h = gd (zob h (some v) 10) (zY 131 11 [some (zR (some v)), some (zI x1)] [zR (hR h v 6)] h) from zGo 2 131 7 _ _ _).trans ?_
    refine (gd_t (⟨rfl, hv.1, (VS_n hv)⟩) _).trans ?_
    refine (congrArg (fun r => zY 131 11 [some (zR (some v)), some (zI x1)] (zR r :: []) h) (VS_r hv 6 rfl)).trans ?_
    refine (show zY 131 11 [some (zR (some v)), some (zI x1)] [zR (some (v + 4))] h = gd (zok h (some (v + 4)) 22 x1) (gd (([] : List zV).isEmpty = true ∧ (zrk 131 = 1 ∨ zrk 131 = 6 ∧ (((hI h (v + 4) x1.toNat) : Int) = 0 ∨ ((hI h (v + 4) x1.toNat) : Int) = 1))) (some (.inl (some (zI (hI h (v + 4) x1.toNat))), h))) from zGo 4 131 11 _ _ _).trans ?_
    refine (gd_t ((ci (VS_t hv 4 _ rfl rfl) (VS_l hv 4 rfl)).2 (by (try simp only [b_V_fits] at *); omega)) _).trans ?_
    refine (gd_t (⟨rfl, Or.inl rfl⟩) _).trans ?_
    rfl
  · skip
    refine (show zY 131 16 [some (zR (some v)), some (zI x1)] [] h = gd (inR (0)) (gd (([] : List zV).isEmpty = true ∧ (zrk 131 = 1 ∨ zrk 131 = 6 ∧ ((0 : Int) = 0 ∨ (0 : Int) = 1))) (some (.inl (some (zI 0)), h))) from zGo 2 131 16 _ _ _).trans ?_
    refine (gd_t (by decide) _).trans ?_
    refine (gd_t (⟨rfl, Or.inl rfl⟩) _).trans ?_
    rfl
def f_Fo_size (h : zH) (f : Nat) : Int :=
  (hL h (f + 1) : Int)
theorem e_Fo_size {h : zH} {f : Nat} (hf : FS h f) : zC 14 [zR (some f)] h = some (.inl (some (zI (f_Fo_size h f))), h) := by
  show _ = (some (.inl (some (zI (
    (hL h (f + 1) : Int)))), h) : zO)
  refine (show zC 14 [zR (some f)] h = gd (zob h (some f) 2) (zY 14 4 [some (zR (some f))] [zR (hR h f 0)] h) from zGo 2 14 0 _ _ _).trans ?_
  refine (gd_t (⟨rfl, hf.1, (FS_n hf)⟩) _).trans ?_
  refine (congrArg (fun r => zY 14 4 [some (zR (some f))] (zR r :: []) h) hf.2.1).trans ?_
  refine (show zY 14 4 [some (zR (some f))] [zR (some (f + 1))] h = gd ((some (f + 1)).isSome = true ∧ 20 ≤ hT h (zdr (some (f + 1))) ∧ hT h (zdr (some (f + 1))) < 40) (gd (([] : List zV).isEmpty = true ∧ (zrk 14 = 1 ∨ zrk 14 = 6 ∧ (((hL h (f + 1) : Int) : Int) = 0 ∨ ((hL h (f + 1) : Int) : Int) = 1))) (some (.inl (some (zI (hL h (f + 1) : Int))), h))) from zGo 2 14 4 _ _ _).trans ?_
  refine (gd_t (al hf.2.2.1 (by decide) (by decide)) _).trans ?_
  refine (gd_t (⟨rfl, Or.inl rfl⟩) _).trans ?_
  rfl
abbrev b_H_holds (h : zH) (x1 : Int) : Prop :=
  0 ≤ x1 ∧ x1 < 2 ∧ ¬ ((hI h 13 x1.toNat) = 0)
theorem e_H_holds {h : zH} {x1 : Int} (KC : KC h) : zC 18 [zR (some 10), zI x1] h = some (.inl (some (zI (if b_H_holds h x1 then (1 : Int) else 0))), h) := by
  refine (show zC 18 [zR (some 10), zI x1] h = if x1 < 0 then zY 18 22 [some (zR (some 10)), some (zI x1)] [] h else zY 18 4 [some (zR (some 10)), some (zI x1)] [] h from zGo 2 18 0 _ _ _).trans ?_
  refine ite_x (fun c0 => ?_) (fun c0 => ?_)
  · skip
    refine (show zY 18 22 [some (zR (some 10)), some (zI x1)] [] h = gd (inR (0)) (gd (([] : List zV).isEmpty = true ∧ (zrk 18 = 1 ∨ zrk 18 = 6 ∧ ((0 : Int) = 0 ∨ (0 : Int) = 1))) (some (.inl (some (zI 0)), h))) from zGo 2 18 22 _ _ _).trans ?_
    refine (gd_t (by decide) _).trans ?_
    refine (gd_t (⟨rfl, Or.inr ⟨rfl, by decide⟩⟩) _).trans ?_
    exact retI (by first | rfl | (exact (if_pos (by unfold b_H_holds; omega)).symm) | (exact (if_neg (by unfold b_H_holds; omega)).symm) | (exact ifc_congr (by unfold b_H_holds; simp_all)) | (unfold b_H_holds; simp_all))
  · skip
    refine (show zY 18 4 [some (zR (some 10)), some (zI x1)] [] h = gd (inR (2)) (if x1 < 2 then zY 18 9 [some (zR (some 10)), some (zI x1)] [] h else zY 18 22 [some (zR (some 10)), some (zI x1)] [] h) from zGo 3 18 4 _ _ _).trans ?_
    refine (gd_t (by decide) _).trans ?_
    refine ite_x (fun c1 => ?_) (fun c1 => ?_)
    · skip
      refine (show zY 18 9 [some (zR (some 10)), some (zI x1)] [] h = gd (zob h (some 10) 3) (zY 18 13 [some (zR (some 10)), some (zI x1)] [zR (hR h 10 4)] h) from zGo 2 18 9 _ _ _).trans ?_
      refine (gd_t (⟨rfl, (PTC KC 10 _ rfl rfl), (PNC KC 10 rfl)⟩) _).trans ?_
      refine (congrArg (fun r => zY 18 13 [some (zR (some 10)), some (zI x1)] (zR r :: []) h) (PRC KC 10 4 _ rfl)).trans ?_
      refine (show zY 18 13 [some (zR (some 10)), some (zI x1)] [zR (some 13)] h = gd (zokw h (some 13) 21 x1 ∨ zokw h (some 13) 20 x1) (if (hI h 13 x1.toNat) = 0 then zY 18 22 [some (zR (some 10)), some (zI x1)] [] h else zY 18 18 [some (zR (some 10)), some (zI x1)] [] h) from zGo 3 18 13 _ _ _).trans ?_
      refine (gd_t ((cib20 (PTC KC 13 _ rfl rfl) (PNC KC 13 rfl) (PLC KC 13 2 rfl rfl)).2 (by omega)) _).trans ?_
      refine ite_x (fun c2 => ?_) (fun c2 => ?_)
      · skip
        refine (show zY 18 22 [some (zR (some 10)), some (zI x1)] [] h = gd (inR (0)) (gd (([] : List zV).isEmpty = true ∧ (zrk 18 = 1 ∨ zrk 18 = 6 ∧ ((0 : Int) = 0 ∨ (0 : Int) = 1))) (some (.inl (some (zI 0)), h))) from zGo 2 18 22 _ _ _).trans ?_
        refine (gd_t (by decide) _).trans ?_
        refine (gd_t (⟨rfl, Or.inr ⟨rfl, by decide⟩⟩) _).trans ?_
        exact retI (by first | rfl | (exact (if_pos (by unfold b_H_holds; omega)).symm) | (exact (if_neg (by unfold b_H_holds; omega)).symm) | (exact ifc_congr (by unfold b_H_holds; simp_all)) | (unfold b_H_holds; simp_all))
      · skip
        refine (show zY 18 18 [some (zR (some 10)), some (zI x1)] [] h = gd (inR (1)) (gd (([] : List zV).isEmpty = true ∧ (zrk 18 = 1 ∨ zrk 18 = 6 ∧ ((1 : Int) = 0 ∨ (1 : Int) = 1))) (some (.inl (some (zI 1)), h))) from zGo 3 18 18 _ _ _).trans ?_
        refine (gd_t (by decide) _).trans ?_
        refine (gd_t (⟨rfl, Or.inr ⟨rfl, by decide⟩⟩) _).trans ?_
        exact retI (by first | rfl | (exact (if_pos (by unfold b_H_holds; omega)).symm) | (exact (if_neg (by unfold b_H_holds; omega)).symm) | (exact ifc_congr (by unfold b_H_holds; simp_all)) | (unfold b_H_holds; simp_all))
    · skip
      refine (show zY 18 22 [some (zR (some 10)), some (zI x1)] [] h = gd (inR (0)) (gd (([] : List zV).isEmpty = true ∧ (zrk 18 = 1 ∨ zrk 18 = 6 ∧ ((0 : Int) = 0 ∨ (0 : Int) = 1))) (some (.inl (some (zI 0)), h))) from zGo 2 18 22 _ _ _).trans ?_
      refine (gd_t (by decide) _).trans ?_
      refine (gd_t (⟨rfl, Or.inr ⟨rfl, by decide⟩⟩) _).trans ?_
      exact retI (by first | rfl | (exact (if_pos (by unfold b_H_holds; omega)).symm) | (exact (if_neg (by unfold b_H_holds; omega)).symm) | (exact ifc_congr (by unfold b_H_holds; simp_all)) | (unfold b_H_holds; simp_all))
abbrev b_Sc_isLetter (x0 : Int) : Prop :=
  97 ≤ x0 ∧ x0 ≤ 122
theorem e_Sc_isLetter {h : zH} {x0 : Int} : zC 86 [zI x0] h = some (.inl (some (zI (if b_Sc_isLetter x0 then (1 : Int) else 0))), h) := by
  refine (show zC 86 [zI x0] h = gd (-128 ≤ (97 : Int) ∧ (97 : Int) < 128) (if x0 < 97 then zY 86 16 [some (zI x0)] [] h else zY 86 6 [some (zI x0)] [] h) from zGo 3 86 0 _ _ _).trans ?_
  refine (gd_t (by decide) _).trans ?_
  refine ite_x (fun c0 => ?_) (fun c0 => ?_)
  · skip
    refine (show zY 86 16 [some (zI x0)] [] h = gd (inR (0)) (gd (([] : List zV).isEmpty = true ∧ (zrk 86 = 1 ∨ zrk 86 = 6 ∧ ((0 : Int) = 0 ∨ (0 : Int) = 1))) (some (.inl (some (zI 0)), h))) from zGo 2 86 16 _ _ _).trans ?_
    refine (gd_t (by decide) _).trans ?_
    refine (gd_t (⟨rfl, Or.inr ⟨rfl, by decide⟩⟩) _).trans ?_
    exact retI (by first | rfl | (exact (if_pos (by unfold b_Sc_isLetter; omega)).symm) | (exact (if_neg (by unfold b_Sc_isLetter; omega)).symm) | (exact ifc_congr (by unfold b_Sc_isLetter; simp_all)) | (unfold b_Sc_isLetter; simp_all))
  · skip
    refine (show zY 86 6 [some (zI x0)] [] h = gd (-128 ≤ (122 : Int) ∧ (122 : Int) < 128) (if 122 < x0 then zY 86 16 [some (zI x0)] [] h else zY 86 12 [some (zI x0)] [] h) from zGo 3 86 6 _ _ _).trans ?_
    refine (gd_t (by decide) _).trans ?_
    refine ite_x (fun c1 => ?_) (fun c1 => ?_)
    · skip
      refine (show zY 86 16 [some (zI x0)] [] h = gd (inR (0)) (gd (([] : List zV).isEmpty = true ∧ (zrk 86 = 1 ∨ zrk 86 = 6 ∧ ((0 : Int) = 0 ∨ (0 : Int) = 1))) (some (.inl (some (zI 0)), h))) from zGo 2 86 16 _ _ _).trans ?_
      refine (gd_t (by decide) _).trans ?_
      refine (gd_t (⟨rfl, Or.inr ⟨rfl, by decide⟩⟩) _).trans ?_
      exact retI (by first | rfl | (exact (if_pos (by unfold b_Sc_isLetter; omega)).symm) | (exact (if_neg (by unfold b_Sc_isLetter; omega)).symm) | (exact ifc_congr (by unfold b_Sc_isLetter; simp_all)) | (unfold b_Sc_isLetter; simp_all))
    · skip
      refine (show zY 86 12 [some (zI x0)] [] h = gd (inR (1)) (gd (([] : List zV).isEmpty = true ∧ (zrk 86 = 1 ∨ zrk 86 = 6 ∧ ((1 : Int) = 0 ∨ (1 : Int) = 1))) (some (.inl (some (zI 1)), h))) from zGo 3 86 12 _ _ _).trans ?_
      refine (gd_t (by decide) _).trans ?_
      refine (gd_t (⟨rfl, Or.inr ⟨rfl, by decide⟩⟩) _).trans ?_
      exact retI (by first | rfl | (exact (if_pos (by unfold b_Sc_isLetter; omega)).symm) | (exact (if_neg (by unfold b_Sc_isLetter; omega)).symm) | (exact ifc_congr (by unfold b_Sc_isLetter; simp_all)) | (unfold b_Sc_isLetter; simp_all))
abbrev b_Sc_isDigit (x0 : Int) : Prop :=
  48 ≤ x0 ∧ x0 ≤ 57
theorem e_Sc_isDigit {h : zH} {x0 : Int} : zC 88 [zI x0] h = some (.inl (some (zI (if b_Sc_isDigit x0 then (1 : Int) else 0))), h) := by
  refine (show zC 88 [zI x0] h = gd (-128 ≤ (48 : Int) ∧ (48 : Int) < 128) (if x0 < 48 then zY 88 16 [some (zI x0)] [] h else zY 88 6 [some (zI x0)] [] h) from zGo 3 88 0 _ _ _).trans ?_
  refine (gd_t (by decide) _).trans ?_
  refine ite_x (fun c0 => ?_) (fun c0 => ?_)
  · skip
    refine (show zY 88 16 [some (zI x0)] [] h = gd (inR (0)) (gd (([] : List zV).isEmpty = true ∧ (zrk 88 = 1 ∨ zrk 88 = 6 ∧ ((0 : Int) = 0 ∨ (0 : Int) = 1))) (some (.inl (some (zI 0)), h))) from zGo 2 88 16 _ _ _).trans ?_
    refine (gd_t (by decide) _).trans ?_
    refine (gd_t (⟨rfl, Or.inr ⟨rfl, by decide⟩⟩) _).trans ?_
    exact retI (by first | rfl | (exact (if_pos (by unfold b_Sc_isDigit; omega)).symm) | (exact (if_neg (by unfold b_Sc_isDigit; omega)).symm) | (exact ifc_congr (by unfold b_Sc_isDigit; simp_all)) | (unfold b_Sc_isDigit; simp_all))
  · skip
    refine (show zY 88 6 [some (zI x0)] [] h = gd (-128 ≤ (57 : Int) ∧ (57 : Int) < 128) (if 57 < x0 then zY 88 16 [some (zI x0)] [] h else zY 88 12 [some (zI x0)] [] h) from zGo 3 88 6 _ _ _).trans ?_
    refine (gd_t (by decide) _).trans ?_
    refine ite_x (fun c1 => ?_) (fun c1 => ?_)
    · skip
      refine (show zY 88 16 [some (zI x0)] [] h = gd (inR (0)) (gd (([] : List zV).isEmpty = true ∧ (zrk 88 = 1 ∨ zrk 88 = 6 ∧ ((0 : Int) = 0 ∨ (0 : Int) = 1))) (some (.inl (some (zI 0)), h))) from zGo 2 88 16 _ _ _).trans ?_
      refine (gd_t (by decide) _).trans ?_
      refine (gd_t (⟨rfl, Or.inr ⟨rfl, by decide⟩⟩) _).trans ?_
      exact retI (by first | rfl | (exact (if_pos (by unfold b_Sc_isDigit; omega)).symm) | (exact (if_neg (by unfold b_Sc_isDigit; omega)).symm) | (exact ifc_congr (by unfold b_Sc_isDigit; simp_all)) | (unfold b_Sc_isDigit; simp_all))
    · skip
      refine (show zY 88 12 [some (zI x0)] [] h = gd (inR (1)) (gd (([] : List zV).isEmpty = true ∧ (zrk 88 = 1 ∨ zrk 88 = 6 ∧ ((1 : Int) = 0 ∨ (1 : Int) = 1))) (some (.inl (some (zI 1)), h))) from zGo 3 88 12 _ _ _).trans ?_
      refine (gd_t (by decide) _).trans ?_
      refine (gd_t (⟨rfl, Or.inr ⟨rfl, by decide⟩⟩) _).trans ?_
      exact retI (by first | rfl | (exact (if_pos (by unfold b_Sc_isDigit; omega)).symm) | (exact (if_neg (by unfold b_Sc_isDigit; omega)).symm) | (exact ifc_congr (by unfold b_Sc_isDigit; simp_all)) | (unfold b_Sc_isDigit; simp_all))
def f_Sc_byteAt (h : zH) (x1 : Int) : Int :=
  if x1 < 0 then
    (-1)
  else
    if x1 < (hI h 7 3) then
      if x1 < 800 then
        (hI h 1 x1.toNat)
      else
        (-1)
    else
      (-1)
theorem e_Sc_byteAt {h : zH} {x1 : Int} (KC : KC h) : zC 85 [zR (some 7), zI x1] h = some (.inl (some (zI (f_Sc_byteAt h x1))), h) := by
  show _ = (some (.inl (some (zI (
    if x1 < 0 then
      (-1)
    else
      if x1 < (hI h 7 3) then
        if x1 < 800 then
          (hI h 1 x1.toNat)
        else
          (-1)
      else
        (-1)))), h) : zO)
  refine (show zC 85 [zR (some 7), zI x1] h = if x1 < 0 then zY 85 30 [some (zR (some 7)), some (zI x1)] [] h else zY 85 4 [some (zR (some 7)), some (zI x1)] [] h from zGo 2 85 0 _ _ _).trans ?_
  refine iteCF (fun x => (some (.inl (some (zI x)), h) : zO)) (fun c0 => ?_) (fun c0 => ?_)
  · skip
    refine (show zY 85 30 [some (zR (some 7)), some (zI x1)] [] h = gd (inR (-1)) (gd (([] : List zV).isEmpty = true ∧ (zrk 85 = 1 ∨ zrk 85 = 6 ∧ (((-1) : Int) = 0 ∨ ((-1) : Int) = 1))) (some (.inl (some (zI (-1))), h))) from zGo 2 85 30 _ _ _).trans ?_
    refine (gd_t (by decide) _).trans ?_
    refine (gd_t (⟨rfl, Or.inl rfl⟩) _).trans ?_
    rfl
  · skip
    refine (show zY 85 4 [some (zR (some 7)), some (zI x1)] [] h = gd (zob h (some 7) 7) (if x1 < (hI h 7 3) then zY 85 12 [some (zR (some 7)), some (zI x1)] [] h else zY 85 30 [some (zR (some 7)), some (zI x1)] [] h) from zGo 4 85 4 _ _ _).trans ?_
    refine (gd_t (⟨rfl, (PTC KC 7 _ rfl rfl), (PNC KC 7 rfl)⟩) _).trans ?_
    refine iteCF (fun x => (some (.inl (some (zI x)), h) : zO)) (fun c1 => ?_) (fun c1 => ?_)
    · skip
      refine (show zY 85 12 [some (zR (some 7)), some (zI x1)] [] h = gd (zob h (some 7) 7) (zY 85 17 [some (zR (some 7)), some (zI x1)] [zR (hR h 7 2), zI x1] h) from zGo 3 85 12 _ _ _).trans ?_
      refine (gd_t (⟨rfl, (PTC KC 7 _ rfl rfl), (PNC KC 7 rfl)⟩) _).trans ?_
      refine (congrArg (fun r => zY 85 17 [some (zR (some 7)), some (zI x1)] (zR r :: zI x1 :: []) h) (PRC KC 7 2 _ rfl)).trans ?_
      refine (show zY 85 17 [some (zR (some 7)), some (zI x1)] [zR (some 1), zI x1] h = gd ((some 1).isSome = true ∧ 20 ≤ hT h (zdr (some 1)) ∧ hT h (zdr (some 1)) < 40) (zY 85 18 [some (zR (some 7)), some (zI x1)] (zI (hL h 1 : Int) :: zI x1 :: []) h) from zGo 1 85 17 _ _ _).trans ?_
      refine (gd_t (al (PTC KC 1 _ rfl rfl) (by decide) (by decide)) _).trans ?_
      refine (congrArg (fun r => zY 85 18 [some (zR (some 7)), some (zI x1)] (zI r :: zI x1 :: []) h) (PLC KC 1 800 rfl rfl)).trans ?_
      refine (show zY 85 18 [some (zR (some 7)), some (zI x1)] [zI 800, zI x1] h = if x1 < 800 then zY 85 21 [some (zR (some 7)), some (zI x1)] [] h else zY 85 30 [some (zR (some 7)), some (zI x1)] [] h from zGo 1 85 18 _ _ _).trans ?_
      refine iteCF (fun x => (some (.inl (some (zI x)), h) : zO)) (fun c2 => ?_) (fun c2 => ?_)
      · skip
        refine (show zY 85 21 [some (zR (some 7)), some (zI x1)] [] h = gd (zob h (some 7) 7) (zY 85 25 [some (zR (some 7)), some (zI x1)] [zR (hR h 7 2)] h) from zGo 2 85 21 _ _ _).trans ?_
        refine (gd_t (⟨rfl, (PTC KC 7 _ rfl rfl), (PNC KC 7 rfl)⟩) _).trans ?_
        refine (congrArg (fun r => zY 85 25 [some (zR (some 7)), some (zI x1)] (zR r :: []) h) (PRC KC 7 2 _ rfl)).trans ?_
        refine (show zY 85 25 [some (zR (some 7)), some (zI x1)] [zR (some 1)] h = gd (zokw h (some 1) 21 x1 ∨ zokw h (some 1) 20 x1) (gd (([] : List zV).isEmpty = true ∧ (zrk 85 = 1 ∨ zrk 85 = 6 ∧ (((hI h 1 x1.toNat) : Int) = 0 ∨ ((hI h 1 x1.toNat) : Int) = 1))) (some (.inl (some (zI (hI h 1 x1.toNat))), h))) from zGo 4 85 25 _ _ _).trans ?_
        refine (gd_t ((cib21 (PTC KC 1 _ rfl rfl) (PNC KC 1 rfl) (PLC KC 1 800 rfl rfl)).2 (by omega)) _).trans ?_
        refine (gd_t (⟨rfl, Or.inl rfl⟩) _).trans ?_
        rfl
      · skip
        refine (show zY 85 30 [some (zR (some 7)), some (zI x1)] [] h = gd (inR (-1)) (gd (([] : List zV).isEmpty = true ∧ (zrk 85 = 1 ∨ zrk 85 = 6 ∧ (((-1) : Int) = 0 ∨ ((-1) : Int) = 1))) (some (.inl (some (zI (-1))), h))) from zGo 2 85 30 _ _ _).trans ?_
        refine (gd_t (by decide) _).trans ?_
        refine (gd_t (⟨rfl, Or.inl rfl⟩) _).trans ?_
        rfl
    · skip
      refine (show zY 85 30 [some (zR (some 7)), some (zI x1)] [] h = gd (inR (-1)) (gd (([] : List zV).isEmpty = true ∧ (zrk 85 = 1 ∨ zrk 85 = 6 ∧ (((-1) : Int) = 0 ∨ ((-1) : Int) = 1))) (some (.inl (some (zI (-1))), h))) from zGo 2 85 30 _ _ _).trans ?_
      refine (gd_t (by decide) _).trans ?_
      refine (gd_t (⟨rfl, Or.inl rfl⟩) _).trans ?_
      rfl
def f_R_endOf (h : zH) (x1 : Int) (x2 : Int) : Int :=
  if x2 < 0 then
    (-1)
  else
    if ((x1 * 64) + x2) < 0 then
      (-1)
    else
      if ((x1 * 64) + x2) < 1536 then
        (hI h 129 ((x1 * 64) + x2).toNat)
      else
        (-1)
theorem e_R_endOf {h : zH} {x1 : Int} {x2 : Int} (KC : KC h) (g0 : (-2147483648 ≤ x1 * 64 ∧ x1 * 64 < 2147483648) := by omega) (g1 : (-2147483648 ≤ (x1 * 64) + x2 ∧ (x1 * 64) + x2 < 2147483648) := by omega) : zC 63 [zR (some 128), zI x1, zI x2] h = some (.inl (some (zI (f_R_endOf h x1 x2))), h) := by
  show _ = (some (.inl (some (zI (
    if x2 < 0 then
      (-1)
    else
      if ((x1 * 64) + x2) < 0 then
        (-1)
      else
        if ((x1 * 64) + x2) < 1536 then
          (hI h 129 ((x1 * 64) + x2).toNat)
        else
          (-1)))), h) : zO)
  refine (show zC 63 [zR (some 128), zI x1, zI x2] h = gd (-128 ≤ (64 : Int) ∧ (64 : Int) < 128) (gd (inR (x1 * 64)) (gd (inR ((x1 * 64) + x2)) (if x2 < 0 then zY 63 33 [some (zR (some 128)), some (zI x1), some (zI x2), some (zI ((x1 * 64) + x2))] [] h else zY 63 11 [some (zR (some 128)), some (zI x1), some (zI x2), some (zI ((x1 * 64) + x2))] [] h))) from zGo 8 63 0 _ _ _).trans ?_
  refine (gd_t (by decide) _).trans ?_
  refine (gd_t ((Iff.rfl).2 (g0)) _).trans ?_
  refine (gd_t ((Iff.rfl).2 (g1)) _).trans ?_
  refine iteCF (fun x => (some (.inl (some (zI x)), h) : zO)) (fun c0 => ?_) (fun c0 => ?_)
  · skip
    refine (show zY 63 33 [some (zR (some 128)), some (zI x1), some (zI x2), some (zI ((x1 * 64) + x2))] [] h = gd (inR (-1)) (gd (([] : List zV).isEmpty = true ∧ (zrk 63 = 1 ∨ zrk 63 = 6 ∧ (((-1) : Int) = 0 ∨ ((-1) : Int) = 1))) (some (.inl (some (zI (-1))), h))) from zGo 2 63 33 _ _ _).trans ?_
    refine (gd_t (by decide) _).trans ?_
    refine (gd_t (⟨rfl, Or.inl rfl⟩) _).trans ?_
    rfl
  · skip
    refine (show zY 63 11 [some (zR (some 128)), some (zI x1), some (zI x2), some (zI ((x1 * 64) + x2))] [] h = if ((x1 * 64) + x2) < 0 then zY 63 33 [some (zR (some 128)), some (zI x1), some (zI x2), some (zI ((x1 * 64) + x2))] [] h else zY 63 15 [some (zR (some 128)), some (zI x1), some (zI x2), some (zI ((x1 * 64) + x2))] [] h from zGo 2 63 11 _ _ _).trans ?_
    refine iteCF (fun x => (some (.inl (some (zI x)), h) : zO)) (fun c1 => ?_) (fun c1 => ?_)
    · skip
      refine (show zY 63 33 [some (zR (some 128)), some (zI x1), some (zI x2), some (zI ((x1 * 64) + x2))] [] h = gd (inR (-1)) (gd (([] : List zV).isEmpty = true ∧ (zrk 63 = 1 ∨ zrk 63 = 6 ∧ (((-1) : Int) = 0 ∨ ((-1) : Int) = 1))) (some (.inl (some (zI (-1))), h))) from zGo 2 63 33 _ _ _).trans ?_
      refine (gd_t (by decide) _).trans ?_
      refine (gd_t (⟨rfl, Or.inl rfl⟩) _).trans ?_
      rfl
    · skip
      refine (show zY 63 15 [some (zR (some 128)), some (zI x1), some (zI x2), some (zI ((x1 * 64) + x2))] [] h = gd (zob h (some 128) 6) (zY 63 20 [some (zR (some 128)), some (zI x1), some (zI x2), some (zI ((x1 * 64) + x2))] [zR (hR h 128 3), zI ((x1 * 64) + x2)] h) from zGo 3 63 15 _ _ _).trans ?_
      refine (gd_t (⟨rfl, (PTC KC 128 _ rfl rfl), (PNC KC 128 rfl)⟩) _).trans ?_
      refine (congrArg (fun r => zY 63 20 [some (zR (some 128)), some (zI x1), some (zI x2), some (zI ((x1 * 64) + x2))] (zR r :: zI ((x1 * 64) + x2) :: []) h) (PRC KC 128 3 _ rfl)).trans ?_
      refine (show zY 63 20 [some (zR (some 128)), some (zI x1), some (zI x2), some (zI ((x1 * 64) + x2))] [zR (some 129), zI ((x1 * 64) + x2)] h = gd ((some 129).isSome = true ∧ 20 ≤ hT h (zdr (some 129)) ∧ hT h (zdr (some 129)) < 40) (zY 63 21 [some (zR (some 128)), some (zI x1), some (zI x2), some (zI ((x1 * 64) + x2))] (zI (hL h 129 : Int) :: zI ((x1 * 64) + x2) :: []) h) from zGo 1 63 20 _ _ _).trans ?_
      refine (gd_t (al (PTC KC 129 _ rfl rfl) (by decide) (by decide)) _).trans ?_
      refine (congrArg (fun r => zY 63 21 [some (zR (some 128)), some (zI x1), some (zI x2), some (zI ((x1 * 64) + x2))] (zI r :: zI ((x1 * 64) + x2) :: []) h) (PLC KC 129 1536 rfl rfl)).trans ?_
      refine (show zY 63 21 [some (zR (some 128)), some (zI x1), some (zI x2), some (zI ((x1 * 64) + x2))] [zI 1536, zI ((x1 * 64) + x2)] h = if ((x1 * 64) + x2) < 1536 then zY 63 24 [some (zR (some 128)), some (zI x1), some (zI x2), some (zI ((x1 * 64) + x2))] [] h else zY 63 33 [some (zR (some 128)), some (zI x1), some (zI x2), some (zI ((x1 * 64) + x2))] [] h from zGo 1 63 21 _ _ _).trans ?_
      refine iteCF (fun x => (some (.inl (some (zI x)), h) : zO)) (fun c2 => ?_) (fun c2 => ?_)
      · skip
        refine (show zY 63 24 [some (zR (some 128)), some (zI x1), some (zI x2), some (zI ((x1 * 64) + x2))] [] h = gd (zob h (some 128) 6) (zY 63 28 [some (zR (some 128)), some (zI x1), some (zI x2), some (zI ((x1 * 64) + x2))] [zR (hR h 128 3)] h) from zGo 2 63 24 _ _ _).trans ?_
        refine (gd_t (⟨rfl, (PTC KC 128 _ rfl rfl), (PNC KC 128 rfl)⟩) _).trans ?_
        refine (congrArg (fun r => zY 63 28 [some (zR (some 128)), some (zI x1), some (zI x2), some (zI ((x1 * 64) + x2))] (zR r :: []) h) (PRC KC 128 3 _ rfl)).trans ?_
        refine (show zY 63 28 [some (zR (some 128)), some (zI x1), some (zI x2), some (zI ((x1 * 64) + x2))] [zR (some 129)] h = gd (zok h (some 129) 22 ((x1 * 64) + x2)) (gd (([] : List zV).isEmpty = true ∧ (zrk 63 = 1 ∨ zrk 63 = 6 ∧ (((hI h 129 ((x1 * 64) + x2).toNat) : Int) = 0 ∨ ((hI h 129 ((x1 * 64) + x2).toNat) : Int) = 1))) (some (.inl (some (zI (hI h 129 ((x1 * 64) + x2).toNat))), h))) from zGo 4 63 28 _ _ _).trans ?_
        refine (gd_t ((ci (PTC KC 129 _ rfl rfl) (PLC KC 129 1536 rfl rfl)).2 (by omega)) _).trans ?_
        refine (gd_t (⟨rfl, Or.inl rfl⟩) _).trans ?_
        rfl
      · skip
        refine (show zY 63 33 [some (zR (some 128)), some (zI x1), some (zI x2), some (zI ((x1 * 64) + x2))] [] h = gd (inR (-1)) (gd (([] : List zV).isEmpty = true ∧ (zrk 63 = 1 ∨ zrk 63 = 6 ∧ (((-1) : Int) = 0 ∨ ((-1) : Int) = 1))) (some (.inl (some (zI (-1))), h))) from zGo 2 63 33 _ _ _).trans ?_
        refine (gd_t (by decide) _).trans ?_
        refine (gd_t (⟨rfl, Or.inl rfl⟩) _).trans ?_
        rfl
abbrev b_R_looksAtCondition (h : zH) (x1 : Int) (p : Nat) : Prop :=
  (f_P_kindOf h p x1) = 1 ∨ (f_P_kindOf h p x1) = 2
theorem e_R_looksAtCondition {h : zH} {x1 : Int} {p : Nat} (KC : KC h) (rp : hR h 128 1 = some p) (hp : PS h p) : zC 71 [zR (some 128), zI x1] h = some (.inl (some (zI (if b_R_looksAtCondition h x1 p then (1 : Int) else 0))), h) := by
  refine (show zC 71 [zR (some 128), zI x1] h = gd (zob h (some 128) 6) (zY 71 4 [some (zR (some 128)), some (zI x1), none] [zR (hR h 128 1)] h) from zGo 2 71 0 _ _ _).trans ?_
  refine (gd_t (⟨rfl, (PTC KC 128 _ rfl rfl), (PNC KC 128 rfl)⟩) _).trans ?_
  refine (congrArg (fun r => zY 71 4 [some (zR (some 128)), some (zI x1), none] (zR r :: []) h) rp).trans ?_
  refine (show zY 71 4 [some (zR (some 128)), some (zI x1), none] [zR (some p)] h = gd (false = zctor 36 ∧ zcs [] ≤ 8 ∧ zrm 71 (zrf 36 + 1) (8 + (zmaxl 36 + 11) + zrl 36) = true ∧ zcs [zR (some p), zI x1] ≤ zmaxl 36) (gd (zob h (some p) 5) (zBack zY 71 5 8 [some (zR (some 128)), some (zI x1), none] [] (zC 36 [zR (some p), zI x1] h))) from zGo 2 71 4 _ _ _).trans ?_
  refine (gd_t (⟨rfl, Nat.le_of_ble_eq_true rfl, rfl, Nat.le_of_ble_eq_true rfl⟩) _).trans ?_
  refine (gd_t (⟨rfl, hp.1, (PS_n hp)⟩) _).trans ?_
  refine (congrArg (zBack zY 71 5 8 [some (zR (some 128)), some (zI x1), none] []) (e_P_kindOf hp)).trans ?_
  refine (show zY 71 8 [some (zR (some 128)), some (zI x1), none] [zI (f_P_kindOf h p x1)] h = gd (inR (1)) (if (f_P_kindOf h p x1) = 1 then zY 71 19 [some (zR (some 128)), some (zI x1), some (zI (f_P_kindOf h p x1))] [] h else zY 71 14 [some (zR (some 128)), some (zI x1), some (zI (f_P_kindOf h p x1))] [] h) from zGo 4 71 8 _ _ _).trans ?_
  refine (gd_t (by decide) _).trans ?_
  refine ite_x (fun c0 => ?_) (fun c0 => ?_)
  · skip
    refine (show zY 71 19 [some (zR (some 128)), some (zI x1), some (zI (f_P_kindOf h p x1))] [] h = gd (inR (1)) (gd (([] : List zV).isEmpty = true ∧ (zrk 71 = 1 ∨ zrk 71 = 6 ∧ ((1 : Int) = 0 ∨ (1 : Int) = 1))) (some (.inl (some (zI 1)), h))) from zGo 3 71 19 _ _ _).trans ?_
    refine (gd_t (by decide) _).trans ?_
    refine (gd_t (⟨rfl, Or.inr ⟨rfl, by decide⟩⟩) _).trans ?_
    exact retI (by first | rfl | (exact (if_pos (by unfold b_R_looksAtCondition; omega)).symm) | (exact (if_neg (by unfold b_R_looksAtCondition; omega)).symm) | (exact ifc_congr (by unfold b_R_looksAtCondition; simp_all)) | (unfold b_R_looksAtCondition; simp_all))
  · skip
    refine (show zY 71 14 [some (zR (some 128)), some (zI x1), some (zI (f_P_kindOf h p x1))] [] h = gd (inR (2)) (if (f_P_kindOf h p x1) = 2 then zY 71 19 [some (zR (some 128)), some (zI x1), some (zI (f_P_kindOf h p x1))] [] h else zY 71 23 [some (zR (some 128)), some (zI x1), some (zI (f_P_kindOf h p x1))] [] h) from zGo 3 71 14 _ _ _).trans ?_
    refine (gd_t (by decide) _).trans ?_
    refine ite_x (fun c1 => ?_) (fun c1 => ?_)
    · skip
      refine (show zY 71 19 [some (zR (some 128)), some (zI x1), some (zI (f_P_kindOf h p x1))] [] h = gd (inR (1)) (gd (([] : List zV).isEmpty = true ∧ (zrk 71 = 1 ∨ zrk 71 = 6 ∧ ((1 : Int) = 0 ∨ (1 : Int) = 1))) (some (.inl (some (zI 1)), h))) from zGo 3 71 19 _ _ _).trans ?_
      refine (gd_t (by decide) _).trans ?_
      refine (gd_t (⟨rfl, Or.inr ⟨rfl, by decide⟩⟩) _).trans ?_
      exact retI (by first | rfl | (exact (if_pos (by unfold b_R_looksAtCondition; omega)).symm) | (exact (if_neg (by unfold b_R_looksAtCondition; omega)).symm) | (exact ifc_congr (by unfold b_R_looksAtCondition; simp_all)) | (unfold b_R_looksAtCondition; simp_all))
    · skip
      refine (show zY 71 23 [some (zR (some 128)), some (zI x1), some (zI (f_P_kindOf h p x1))] [] h = gd (inR (0)) (gd (([] : List zV).isEmpty = true ∧ (zrk 71 = 1 ∨ zrk 71 = 6 ∧ ((0 : Int) = 0 ∨ (0 : Int) = 1))) (some (.inl (some (zI 0)), h))) from zGo 2 71 23 _ _ _).trans ?_
      refine (gd_t (by decide) _).trans ?_
      refine (gd_t (⟨rfl, Or.inr ⟨rfl, by decide⟩⟩) _).trans ?_
      exact retI (by first | rfl | (exact (if_pos (by unfold b_R_looksAtCondition; omega)).symm) | (exact (if_neg (by unfold b_R_looksAtCondition; omega)).symm) | (exact ifc_congr (by unfold b_R_looksAtCondition; simp_all)) | (unfold b_R_looksAtCondition; simp_all))
def f_R_statementBehind (h : zH) (x1 : Int) (x2 : Int) (p : Nat) : Int :=
  if b_R_looksAtCondition h x1 p then
    (f_P_entry h p x1 (if b_S_holdsIn h x1 x2 then (1 : Int) else 0))
  else
    (f_P_thenOf h p x1)
theorem e_R_statementBehind {h : zH} {x1 : Int} {x2 : Int} {p : Nat} (KC : KC h) (rp : hR h 128 1 = some p) (hp : PS h p) : zC 70 [zR (some 128), zI x1, zI x2] h = some (.inl (some (zI (f_R_statementBehind h x1 x2 p))), h) := by
  show _ = (some (.inl (some (zI (
    if b_R_looksAtCondition h x1 p then
      (f_P_entry h p x1 (if b_S_holdsIn h x1 x2 then (1 : Int) else 0))
    else
      (f_P_thenOf h p x1)))), h) : zO)
  refine (show zC 70 [zR (some 128), zI x1, zI x2] h = gd (false = zctor 71 ∧ zcs [] ≤ 8 ∧ zrm 70 (zrf 71 + 1) (8 + (zmaxl 71 + 11) + zrl 71) = true ∧ zcs [zR (some 128), zI x1] ≤ zmaxl 71) (gd (zob h (some 128) 6) (zBack zY 70 2 5 [some (zR (some 128)), some (zI x1), some (zI x2)] [] (zC 71 [zR (some 128), zI x1] h))) from zGo 3 70 0 _ _ _).trans ?_
  refine (gd_t (⟨rfl, Nat.le_of_ble_eq_true rfl, rfl, Nat.le_of_ble_eq_true rfl⟩) _).trans ?_
  refine (gd_t (⟨rfl, (PTC KC 128 _ rfl rfl), (PNC KC 128 rfl)⟩) _).trans ?_
  refine (congrArg (zBack zY 70 2 5 [some (zR (some 128)), some (zI x1), some (zI x2)] []) (e_R_looksAtCondition KC rp hp)).trans ?_
  refine (show zY 70 5 [some (zR (some 128)), some (zI x1), some (zI x2)] [zI (if b_R_looksAtCondition h x1 p then (1 : Int) else 0)] h = if (if b_R_looksAtCondition h x1 p then (1 : Int) else 0) = 0 then zY 70 28 [some (zR (some 128)), some (zI x1), some (zI x2)] [] h else zY 70 8 [some (zR (some 128)), some (zI x1), some (zI x2)] [] h from zGo 1 70 5 _ _ _).trans ?_
  refine iteBF (fun x => (some (.inl (some (zI x)), h) : zO)) (fun c0 => ?_) (fun c0 => ?_)
  · skip
    refine (show zY 70 8 [some (zR (some 128)), some (zI x1), some (zI x2)] [] h = gd (zob h (some 128) 6) (zY 70 12 [some (zR (some 128)), some (zI x1), some (zI x2)] [zR (hR h 128 1)] h) from zGo 2 70 8 _ _ _).trans ?_
    refine (gd_t (⟨rfl, (PTC KC 128 _ rfl rfl), (PNC KC 128 rfl)⟩) _).trans ?_
    refine (congrArg (fun r => zY 70 12 [some (zR (some 128)), some (zI x1), some (zI x2)] (zR r :: []) h) rp).trans ?_
    refine (show zY 70 12 [some (zR (some 128)), some (zI x1), some (zI x2)] [zR (some p)] h = gd (zob h (some 128) 6) (zY 70 17 [some (zR (some 128)), some (zI x1), some (zI x2)] [zR (hR h 128 0), zI x1, zR (some p)] h) from zGo 3 70 12 _ _ _).trans ?_
    refine (gd_t (⟨rfl, (PTC KC 128 _ rfl rfl), (PNC KC 128 rfl)⟩) _).trans ?_
    refine (congrArg (fun r => zY 70 17 [some (zR (some 128)), some (zI x1), some (zI x2)] (zR r :: zI x1 :: zR (some p) :: []) h) (PRC KC 128 0 _ rfl)).trans ?_
    refine (show zY 70 17 [some (zR (some 128)), some (zI x1), some (zI x2)] [zR (some 90), zI x1, zR (some p)] h = gd (false = zctor 102 ∧ zcs [zI x1, zR (some p)] ≤ 8 ∧ zrm 70 (zrf 102 + 1) (8 + (zmaxl 102 + 11) + zrl 102) = true ∧ zcs [zR (some 90), zI x1, zI x2] ≤ zmaxl 102) (gd (zob h (some 90) 8) (zBack zY 70 19 22 [some (zR (some 128)), some (zI x1), some (zI x2)] [zI x1, zR (some p)] (zC 102 [zR (some 90), zI x1, zI x2] h))) from zGo 3 70 17 _ _ _).trans ?_
    refine (gd_t (⟨rfl, Nat.le_of_ble_eq_true rfl, rfl, Nat.le_of_ble_eq_true rfl⟩) _).trans ?_
    refine (gd_t (⟨rfl, (PTC KC 90 _ rfl rfl), (PNC KC 90 rfl)⟩) _).trans ?_
    refine (congrArg (zBack zY 70 19 22 [some (zR (some 128)), some (zI x1), some (zI x2)] [zI x1, zR (some p)]) (e_S_holdsIn KC)).trans ?_
    refine (show zY 70 22 [some (zR (some 128)), some (zI x1), some (zI x2)] [zI (if b_S_holdsIn h x1 x2 then (1 : Int) else 0), zI x1, zR (some p)] h = gd (false = zctor 54 ∧ zcs [] ≤ 8 ∧ zrm 70 (zrf 54 + 1) (8 + (zmaxl 54 + 11) + zrl 54) = true ∧ zcs [zR (some p), zI x1, zI (if b_S_holdsIn h x1 x2 then (1 : Int) else 0)] ≤ zmaxl 54) (gd (zob h (some p) 5) (zBack zY 70 22 25 [some (zR (some 128)), some (zI x1), some (zI x2)] [] (zC 54 [zR (some p), zI x1, zI (if b_S_holdsIn h x1 x2 then (1 : Int) else 0)] h))) from zGo 1 70 22 _ _ _).trans ?_
    refine (gd_t (⟨rfl, Nat.le_of_ble_eq_true rfl, rfl, Nat.le_of_ble_eq_true rfl⟩) _).trans ?_
    refine (gd_t (⟨rfl, hp.1, (PS_n hp)⟩) _).trans ?_
    refine (congrArg (zBack zY 70 22 25 [some (zR (some 128)), some (zI x1), some (zI x2)] []) (e_P_entry hp)).trans ?_
    refine (show zY 70 25 [some (zR (some 128)), some (zI x1), some (zI x2)] [zI (f_P_entry h p x1 (if b_S_holdsIn h x1 x2 then (1 : Int) else 0))] h = gd (([] : List zV).isEmpty = true ∧ (zrk 70 = 1 ∨ zrk 70 = 6 ∧ (((f_P_entry h p x1 (if b_S_holdsIn h x1 x2 then (1 : Int) else 0)) : Int) = 0 ∨ ((f_P_entry h p x1 (if b_S_holdsIn h x1 x2 then (1 : Int) else 0)) : Int) = 1))) (some (.inl (some (zI (f_P_entry h p x1 (if b_S_holdsIn h x1 x2 then (1 : Int) else 0)))), h)) from zGo 2 70 25 _ _ _).trans ?_
    refine (gd_t (⟨rfl, Or.inl rfl⟩) _).trans ?_
    rfl
  · skip
    refine (show zY 70 28 [some (zR (some 128)), some (zI x1), some (zI x2)] [] h = gd (zob h (some 128) 6) (zY 70 32 [some (zR (some 128)), some (zI x1), some (zI x2)] [zR (hR h 128 1)] h) from zGo 2 70 28 _ _ _).trans ?_
    refine (gd_t (⟨rfl, (PTC KC 128 _ rfl rfl), (PNC KC 128 rfl)⟩) _).trans ?_
    refine (congrArg (fun r => zY 70 32 [some (zR (some 128)), some (zI x1), some (zI x2)] (zR r :: []) h) rp).trans ?_
    refine (show zY 70 32 [some (zR (some 128)), some (zI x1), some (zI x2)] [zR (some p)] h = gd (false = zctor 50 ∧ zcs [] ≤ 8 ∧ zrm 70 (zrf 50 + 1) (8 + (zmaxl 50 + 11) + zrl 50) = true ∧ zcs [zR (some p), zI x1] ≤ zmaxl 50) (gd (zob h (some p) 5) (zBack zY 70 33 36 [some (zR (some 128)), some (zI x1), some (zI x2)] [] (zC 50 [zR (some p), zI x1] h))) from zGo 2 70 32 _ _ _).trans ?_
    refine (gd_t (⟨rfl, Nat.le_of_ble_eq_true rfl, rfl, Nat.le_of_ble_eq_true rfl⟩) _).trans ?_
    refine (gd_t (⟨rfl, hp.1, (PS_n hp)⟩) _).trans ?_
    refine (congrArg (zBack zY 70 33 36 [some (zR (some 128)), some (zI x1), some (zI x2)] []) (e_P_thenOf hp)).trans ?_
    refine (show zY 70 36 [some (zR (some 128)), some (zI x1), some (zI x2)] [zI (f_P_thenOf h p x1)] h = gd (([] : List zV).isEmpty = true ∧ (zrk 70 = 1 ∨ zrk 70 = 6 ∧ (((f_P_thenOf h p x1) : Int) = 0 ∨ ((f_P_thenOf h p x1) : Int) = 1))) (some (.inl (some (zI (f_P_thenOf h p x1))), h)) from zGo 1 70 36 _ _ _).trans ?_
    refine (gd_t (⟨rfl, Or.inl rfl⟩) _).trans ?_
    rfl
def f_R_stateBehind (h : zH) (x1 : Int) (x2 : Int) (p : Nat) : Int :=
  if b_R_looksAtCondition h x1 p then
    x2
  else
    (f_R_endOf h x1 x2)
theorem e_R_stateBehind {h : zH} {x1 : Int} {x2 : Int} {p : Nat} (KC : KC h) (rp : hR h 128 1 = some p) (hp : PS h p) (g0 : (¬ (b_R_looksAtCondition h x1 p)) → (-2147483648 ≤ x1 * 64 ∧ x1 * 64 < 2147483648) := by omega) (g1 : (¬ (b_R_looksAtCondition h x1 p)) → (-2147483648 ≤ (x1 * 64) + x2 ∧ (x1 * 64) + x2 < 2147483648) := by omega) : zC 72 [zR (some 128), zI x1, zI x2] h = some (.inl (some (zI (f_R_stateBehind h x1 x2 p))), h) := by
  show _ = (some (.inl (some (zI (
    if b_R_looksAtCondition h x1 p then
      x2
    else
      (f_R_endOf h x1 x2)))), h) : zO)
  refine (show zC 72 [zR (some 128), zI x1, zI x2] h = gd (false = zctor 71 ∧ zcs [] ≤ 8 ∧ zrm 72 (zrf 71 + 1) (8 + (zmaxl 71 + 11) + zrl 71) = true ∧ zcs [zR (some 128), zI x1] ≤ zmaxl 71) (gd (zob h (some 128) 6) (zBack zY 72 2 5 [some (zR (some 128)), some (zI x1), some (zI x2)] [] (zC 71 [zR (some 128), zI x1] h))) from zGo 3 72 0 _ _ _).trans ?_
  refine (gd_t (⟨rfl, Nat.le_of_ble_eq_true rfl, rfl, Nat.le_of_ble_eq_true rfl⟩) _).trans ?_
  refine (gd_t (⟨rfl, (PTC KC 128 _ rfl rfl), (PNC KC 128 rfl)⟩) _).trans ?_
  refine (congrArg (zBack zY 72 2 5 [some (zR (some 128)), some (zI x1), some (zI x2)] []) (e_R_looksAtCondition KC rp hp)).trans ?_
  refine (show zY 72 5 [some (zR (some 128)), some (zI x1), some (zI x2)] [zI (if b_R_looksAtCondition h x1 p then (1 : Int) else 0)] h = if (if b_R_looksAtCondition h x1 p then (1 : Int) else 0) = 0 then zY 72 12 [some (zR (some 128)), some (zI x1), some (zI x2)] [] h else zY 72 8 [some (zR (some 128)), some (zI x1), some (zI x2)] [] h from zGo 1 72 5 _ _ _).trans ?_
  refine iteBF (fun x => (some (.inl (some (zI x)), h) : zO)) (fun c0 => ?_) (fun c0 => ?_)
  · skip
    refine (show zY 72 8 [some (zR (some 128)), some (zI x1), some (zI x2)] [] h = gd (([] : List zV).isEmpty = true ∧ (zrk 72 = 1 ∨ zrk 72 = 6 ∧ ((x2 : Int) = 0 ∨ (x2 : Int) = 1))) (some (.inl (some (zI x2)), h)) from zGo 3 72 8 _ _ _).trans ?_
    refine (gd_t (⟨rfl, Or.inl rfl⟩) _).trans ?_
    rfl
  · skip
    refine (show zY 72 12 [some (zR (some 128)), some (zI x1), some (zI x2)] [] h = gd (false = zctor 63 ∧ zcs [] ≤ 8 ∧ zrm 72 (zrf 63 + 1) (8 + (zmaxl 63 + 11) + zrl 63) = true ∧ zcs [zR (some 128), zI x1, zI x2] ≤ zmaxl 63) (gd (zob h (some 128) 6) (zBack zY 72 15 18 [some (zR (some 128)), some (zI x1), some (zI x2)] [] (zC 63 [zR (some 128), zI x1, zI x2] h))) from zGo 4 72 12 _ _ _).trans ?_
    refine (gd_t (⟨rfl, Nat.le_of_ble_eq_true rfl, rfl, Nat.le_of_ble_eq_true rfl⟩) _).trans ?_
    refine (gd_t (⟨rfl, (PTC KC 128 _ rfl rfl), (PNC KC 128 rfl)⟩) _).trans ?_
    refine (congrArg (zBack zY 72 15 18 [some (zR (some 128)), some (zI x1), some (zI x2)] []) (e_R_endOf KC (g0 c0) (g1 c0))).trans ?_
    refine (show zY 72 18 [some (zR (some 128)), some (zI x1), some (zI x2)] [zI (f_R_endOf h x1 x2)] h = gd (([] : List zV).isEmpty = true ∧ (zrk 72 = 1 ∨ zrk 72 = 6 ∧ (((f_R_endOf h x1 x2) : Int) = 0 ∨ ((f_R_endOf h x1 x2) : Int) = 1))) (some (.inl (some (zI (f_R_endOf h x1 x2))), h)) from zGo 1 72 18 _ _ _).trans ?_
    refine (gd_t (⟨rfl, Or.inl rfl⟩) _).trans ?_
    rfl
def f_D_ahead (h : zH) (x1 : Int) : BitVec 64 :=
  if x1 < 0 then
    (hJ h 90 1)
  else
    if x1 < 24 then
      (hJ h 133 x1.toNat)
    else
      (hJ h 90 1)
theorem e_D_ahead {h : zH} {x1 : Int} (KC : KC h) : zC 4 [zR (some 132), zI x1] h = some (.inl (some (zJ (f_D_ahead h x1))), h) := by
  show _ = (some (.inl (some (zJ (
    if x1 < 0 then
      (hJ h 90 1)
    else
      if x1 < 24 then
        (hJ h 133 x1.toNat)
      else
        (hJ h 90 1)))), h) : zO)
  refine (show zC 4 [zR (some 132), zI x1] h = if x1 < 0 then zY 4 19 [some (zR (some 132)), some (zI x1)] [] h else zY 4 4 [some (zR (some 132)), some (zI x1)] [] h from zGo 2 4 0 _ _ _).trans ?_
  refine iteCF (fun x => (some (.inl (some (zJ x)), h) : zO)) (fun c0 => ?_) (fun c0 => ?_)
  · skip
    refine (show zY 4 19 [some (zR (some 132)), some (zI x1)] [] h = gd (zob h (some 132) 1) (zY 4 23 [some (zR (some 132)), some (zI x1)] [zR (hR h 132 0)] h) from zGo 2 4 19 _ _ _).trans ?_
    refine (gd_t (⟨rfl, (PTC KC 132 _ rfl rfl), (PNC KC 132 rfl)⟩) _).trans ?_
    refine (congrArg (fun r => zY 4 23 [some (zR (some 132)), some (zI x1)] (zR r :: []) h) (PRC KC 132 0 _ rfl)).trans ?_
    refine (show zY 4 23 [some (zR (some 132)), some (zI x1)] [zR (some 90)] h = gd (zob h (some 90) 8) (gd (([] : List zV).isEmpty = true ∧ zrk 4 = 2) (some (.inl (some (zJ (hJ h 90 1))), h))) from zGo 2 4 23 _ _ _).trans ?_
    refine (gd_t (⟨rfl, (PTC KC 90 _ rfl rfl), (PNC KC 90 rfl)⟩) _).trans ?_
    refine (gd_t (⟨rfl, rfl⟩) _).trans ?_
    rfl
  · skip
    refine (show zY 4 4 [some (zR (some 132)), some (zI x1)] [] h = gd (-128 ≤ (24 : Int) ∧ (24 : Int) < 128) (if x1 < 24 then zY 4 10 [some (zR (some 132)), some (zI x1)] [] h else zY 4 19 [some (zR (some 132)), some (zI x1)] [] h) from zGo 3 4 4 _ _ _).trans ?_
    refine (gd_t (by decide) _).trans ?_
    refine iteCF (fun x => (some (.inl (some (zJ x)), h) : zO)) (fun c1 => ?_) (fun c1 => ?_)
    · skip
      refine (show zY 4 10 [some (zR (some 132)), some (zI x1)] [] h = gd (zob h (some 132) 1) (zY 4 14 [some (zR (some 132)), some (zI x1)] [zR (hR h 132 3)] h) from zGo 2 4 10 _ _ _).trans ?_
      refine (gd_t (⟨rfl, (PTC KC 132 _ rfl rfl), (PNC KC 132 rfl)⟩) _).trans ?_
      refine (congrArg (fun r => zY 4 14 [some (zR (some 132)), some (zI x1)] (zR r :: []) h) (PRC KC 132 3 _ rfl)).trans ?_
      refine (show zY 4 14 [some (zR (some 132)), some (zI x1)] [zR (some 133)] h = gd (zok h (some 133) 23 x1) (gd (([] : List zV).isEmpty = true ∧ zrk 4 = 2) (some (.inl (some (zJ (hJ h 133 x1.toNat))), h))) from zGo 4 4 14 _ _ _).trans ?_
      refine (gd_t ((ci (PTC KC 133 _ rfl rfl) (PLC KC 133 24 rfl rfl)).2 (by omega)) _).trans ?_
      refine (gd_t (⟨rfl, rfl⟩) _).trans ?_
      rfl
    · skip
      refine (show zY 4 19 [some (zR (some 132)), some (zI x1)] [] h = gd (zob h (some 132) 1) (zY 4 23 [some (zR (some 132)), some (zI x1)] [zR (hR h 132 0)] h) from zGo 2 4 19 _ _ _).trans ?_
      refine (gd_t (⟨rfl, (PTC KC 132 _ rfl rfl), (PNC KC 132 rfl)⟩) _).trans ?_
      refine (congrArg (fun r => zY 4 23 [some (zR (some 132)), some (zI x1)] (zR r :: []) h) (PRC KC 132 0 _ rfl)).trans ?_
      refine (show zY 4 23 [some (zR (some 132)), some (zI x1)] [zR (some 90)] h = gd (zob h (some 90) 8) (gd (([] : List zV).isEmpty = true ∧ zrk 4 = 2) (some (.inl (some (zJ (hJ h 90 1))), h))) from zGo 2 4 23 _ _ _).trans ?_
      refine (gd_t (⟨rfl, (PTC KC 90 _ rfl rfl), (PNC KC 90 rfl)⟩) _).trans ?_
      refine (gd_t (⟨rfl, rfl⟩) _).trans ?_
      rfl
def f_D_behind (h : zH) (x1 : Int) (p : Nat) : BitVec 64 :=
  (f_D_ahead h (f_P_thenOf h p x1))
theorem e_D_behind {h : zH} {x1 : Int} {p : Nat} (KC : KC h) (rp : hR h 132 2 = some p) (hp : PS h p) : zC 5 [zR (some 132), zI x1] h = some (.inl (some (zJ (f_D_behind h x1 p))), h) := by
  show _ = (some (.inl (some (zJ (
    (f_D_ahead h (f_P_thenOf h p x1))))), h) : zO)
  refine (show zC 5 [zR (some 132), zI x1] h = gd (zob h (some 132) 1) (zY 5 5 [some (zR (some 132)), some (zI x1)] [zR (hR h 132 2), zR (some 132)] h) from zGo 3 5 0 _ _ _).trans ?_
  refine (gd_t (⟨rfl, (PTC KC 132 _ rfl rfl), (PNC KC 132 rfl)⟩) _).trans ?_
  refine (congrArg (fun r => zY 5 5 [some (zR (some 132)), some (zI x1)] (zR r :: zR (some 132) :: []) h) rp).trans ?_
  refine (show zY 5 5 [some (zR (some 132)), some (zI x1)] [zR (some p), zR (some 132)] h = gd (false = zctor 50 ∧ zcs [zR (some 132)] ≤ 8 ∧ zrm 5 (zrf 50 + 1) (8 + (zmaxl 50 + 11) + zrl 50) = true ∧ zcs [zR (some p), zI x1] ≤ zmaxl 50) (gd (zob h (some p) 5) (zBack zY 5 6 9 [some (zR (some 132)), some (zI x1)] [zR (some 132)] (zC 50 [zR (some p), zI x1] h))) from zGo 2 5 5 _ _ _).trans ?_
  refine (gd_t (⟨rfl, Nat.le_of_ble_eq_true rfl, rfl, Nat.le_of_ble_eq_true rfl⟩) _).trans ?_
  refine (gd_t (⟨rfl, hp.1, (PS_n hp)⟩) _).trans ?_
  refine (congrArg (zBack zY 5 6 9 [some (zR (some 132)), some (zI x1)] [zR (some 132)]) (e_P_thenOf hp)).trans ?_
  refine (show zY 5 9 [some (zR (some 132)), some (zI x1)] [zI (f_P_thenOf h p x1), zR (some 132)] h = gd (false = zctor 4 ∧ zcs [] ≤ 8 ∧ zrm 5 (zrf 4 + 1) (8 + (zmaxl 4 + 11) + zrl 4) = true ∧ zcs [zR (some 132), zI (f_P_thenOf h p x1)] ≤ zmaxl 4) (gd (zob h (some 132) 1) (zBack zY 5 9 12 [some (zR (some 132)), some (zI x1)] [] (zC 4 [zR (some 132), zI (f_P_thenOf h p x1)] h))) from zGo 1 5 9 _ _ _).trans ?_
  refine (gd_t (⟨rfl, Nat.le_of_ble_eq_true rfl, rfl, Nat.le_of_ble_eq_true rfl⟩) _).trans ?_
  refine (gd_t (⟨rfl, (PTC KC 132 _ rfl rfl), (PNC KC 132 rfl)⟩) _).trans ?_
  refine (congrArg (zBack zY 5 9 12 [some (zR (some 132)), some (zI x1)] []) (e_D_ahead KC)).trans ?_
  refine (show zY 5 12 [some (zR (some 132)), some (zI x1)] [zJ (f_D_ahead h (f_P_thenOf h p x1))] h = gd (([] : List zV).isEmpty = true ∧ zrk 5 = 2) (some (.inl (some (zJ (f_D_ahead h (f_P_thenOf h p x1)))), h)) from zGo 1 5 12 _ _ _).trans ?_
  refine (gd_t (⟨rfl, rfl⟩) _).trans ?_
  rfl
def f_D_failingStates (h : zH) (x1 : Int) : BitVec 64 :=
  if x1 < 0 then
    0#64
  else
    if x1 < 73 then
      (hJ h 134 x1.toNat)
    else
      0#64
theorem e_D_failingStates {h : zH} {x1 : Int} (KC : KC h) : zC 9 [zR (some 132), zI x1] h = some (.inl (some (zJ (f_D_failingStates h x1))), h) := by
  show _ = (some (.inl (some (zJ (
    if x1 < 0 then
      0#64
    else
      if x1 < 73 then
        (hJ h 134 x1.toNat)
      else
        0#64))), h) : zO)
  refine (show zC 9 [zR (some 132), zI x1] h = if x1 < 0 then zY 9 19 [some (zR (some 132)), some (zI x1)] [] h else zY 9 4 [some (zR (some 132)), some (zI x1)] [] h from zGo 2 9 0 _ _ _).trans ?_
  refine iteCF (fun x => (some (.inl (some (zJ x)), h) : zO)) (fun c0 => ?_) (fun c0 => ?_)
  · skip
    refine (show zY 9 19 [some (zR (some 132)), some (zI x1)] [] h = gd (([] : List zV).isEmpty = true ∧ zrk 9 = 2) (some (.inl (some (zJ (0#64))), h)) from zGo 2 9 19 _ _ _).trans ?_
    refine (gd_t (⟨rfl, rfl⟩) _).trans ?_
    rfl
  · skip
    refine (show zY 9 4 [some (zR (some 132)), some (zI x1)] [] h = gd (-128 ≤ (73 : Int) ∧ (73 : Int) < 128) (if x1 < 73 then zY 9 10 [some (zR (some 132)), some (zI x1)] [] h else zY 9 19 [some (zR (some 132)), some (zI x1)] [] h) from zGo 3 9 4 _ _ _).trans ?_
    refine (gd_t (by decide) _).trans ?_
    refine iteCF (fun x => (some (.inl (some (zJ x)), h) : zO)) (fun c1 => ?_) (fun c1 => ?_)
    · skip
      refine (show zY 9 10 [some (zR (some 132)), some (zI x1)] [] h = gd (zob h (some 132) 1) (zY 9 14 [some (zR (some 132)), some (zI x1)] [zR (hR h 132 4)] h) from zGo 2 9 10 _ _ _).trans ?_
      refine (gd_t (⟨rfl, (PTC KC 132 _ rfl rfl), (PNC KC 132 rfl)⟩) _).trans ?_
      refine (congrArg (fun r => zY 9 14 [some (zR (some 132)), some (zI x1)] (zR r :: []) h) (PRC KC 132 4 _ rfl)).trans ?_
      refine (show zY 9 14 [some (zR (some 132)), some (zI x1)] [zR (some 134)] h = gd (zok h (some 134) 23 x1) (gd (([] : List zV).isEmpty = true ∧ zrk 9 = 2) (some (.inl (some (zJ (hJ h 134 x1.toNat))), h))) from zGo 4 9 14 _ _ _).trans ?_
      refine (gd_t ((ci (PTC KC 134 _ rfl rfl) (PLC KC 134 73 rfl rfl)).2 (by omega)) _).trans ?_
      refine (gd_t (⟨rfl, rfl⟩) _).trans ?_
      rfl
    · skip
      refine (show zY 9 19 [some (zR (some 132)), some (zI x1)] [] h = gd (([] : List zV).isEmpty = true ∧ zrk 9 = 2) (some (.inl (some (zJ (0#64))), h)) from zGo 2 9 19 _ _ _).trans ?_
      refine (gd_t (⟨rfl, rfl⟩) _).trans ?_
      rfl
def f_D_count (h : zH) (p : Nat) : Int :=
  (1 + (3 * (hI h p 1)))
theorem e_D_count {h : zH} {p : Nat} (KC : KC h) (rp : hR h 132 2 = some p) (hp : PS h p) (g0 : (-2147483648 ≤ 3 * (hI h p 1) ∧ 3 * (hI h p 1) < 2147483648) := by omega) (g1 : (-2147483648 ≤ 1 + (3 * (hI h p 1)) ∧ 1 + (3 * (hI h p 1)) < 2147483648) := by omega) : zC 10 [zR (some 132)] h = some (.inl (some (zI (f_D_count h p))), h) := by
  show _ = (some (.inl (some (zI (
    (1 + (3 * (hI h p 1)))))), h) : zO)
  refine (show zC 10 [zR (some 132)] h = gd (inR (1)) (gd (inR (3)) (gd (zob h (some 132) 1) (zY 10 6 [some (zR (some 132))] [zR (hR h 132 2), zI 3, zI 1] h))) from zGo 4 10 0 _ _ _).trans ?_
  refine (gd_t (by decide) _).trans ?_
  refine (gd_t (by decide) _).trans ?_
  refine (gd_t (⟨rfl, (PTC KC 132 _ rfl rfl), (PNC KC 132 rfl)⟩) _).trans ?_
  refine (congrArg (fun r => zY 10 6 [some (zR (some 132))] (zR r :: zI 3 :: zI 1 :: []) h) rp).trans ?_
  refine (show zY 10 6 [some (zR (some 132))] [zR (some p), zI 3, zI 1] h = gd (zob h (some p) 5) (gd (inR (3 * (hI h p 1))) (gd (inR (1 + (3 * (hI h p 1)))) (gd (([] : List zV).isEmpty = true ∧ (zrk 10 = 1 ∨ zrk 10 = 6 ∧ (((1 + (3 * (hI h p 1))) : Int) = 0 ∨ ((1 + (3 * (hI h p 1))) : Int) = 1))) (some (.inl (some (zI (1 + (3 * (hI h p 1))))), h))))) from zGo 4 10 6 _ _ _).trans ?_
  refine (gd_t (⟨rfl, hp.1, (PS_n hp)⟩) _).trans ?_
  refine (gd_t ((Iff.rfl).2 (g0)) _).trans ?_
  refine (gd_t ((Iff.rfl).2 (g1)) _).trans ?_
  refine (gd_t (⟨rfl, Or.inl rfl⟩) _).trans ?_
  rfl
def f_Sh_sizeOf (h : zH) (x1 : Int) : Int :=
  if x1 < 0 then
    (-1)
  else
    if x1 < 25 then
      (hI h 162 x1.toNat)
    else
      (-1)
theorem e_Sh_sizeOf {h : zH} {x1 : Int} (KC : KC h) : zC 117 [zR (some 135), zI x1] h = some (.inl (some (zI (f_Sh_sizeOf h x1))), h) := by
  show _ = (some (.inl (some (zI (
    if x1 < 0 then
      (-1)
    else
      if x1 < 25 then
        (hI h 162 x1.toNat)
      else
        (-1)))), h) : zO)
  refine (show zC 117 [zR (some 135), zI x1] h = if x1 < 0 then zY 117 19 [some (zR (some 135)), some (zI x1)] [] h else zY 117 4 [some (zR (some 135)), some (zI x1)] [] h from zGo 2 117 0 _ _ _).trans ?_
  refine iteCF (fun x => (some (.inl (some (zI x)), h) : zO)) (fun c0 => ?_) (fun c0 => ?_)
  · skip
    refine (show zY 117 19 [some (zR (some 135)), some (zI x1)] [] h = gd (inR (-1)) (gd (([] : List zV).isEmpty = true ∧ (zrk 117 = 1 ∨ zrk 117 = 6 ∧ (((-1) : Int) = 0 ∨ ((-1) : Int) = 1))) (some (.inl (some (zI (-1))), h))) from zGo 2 117 19 _ _ _).trans ?_
    refine (gd_t (by decide) _).trans ?_
    refine (gd_t (⟨rfl, Or.inl rfl⟩) _).trans ?_
    rfl
  · skip
    refine (show zY 117 4 [some (zR (some 135)), some (zI x1)] [] h = gd (-128 ≤ (25 : Int) ∧ (25 : Int) < 128) (if x1 < 25 then zY 117 10 [some (zR (some 135)), some (zI x1)] [] h else zY 117 19 [some (zR (some 135)), some (zI x1)] [] h) from zGo 3 117 4 _ _ _).trans ?_
    refine (gd_t (by decide) _).trans ?_
    refine iteCF (fun x => (some (.inl (some (zI x)), h) : zO)) (fun c1 => ?_) (fun c1 => ?_)
    · skip
      refine (show zY 117 10 [some (zR (some 135)), some (zI x1)] [] h = gd (zob h (some 135) 9) (zY 117 14 [some (zR (some 135)), some (zI x1)] [zR (hR h 135 3)] h) from zGo 2 117 10 _ _ _).trans ?_
      refine (gd_t (⟨rfl, (PTC KC 135 _ rfl rfl), (PNC KC 135 rfl)⟩) _).trans ?_
      refine (congrArg (fun r => zY 117 14 [some (zR (some 135)), some (zI x1)] (zR r :: []) h) (PRC KC 135 3 _ rfl)).trans ?_
      refine (show zY 117 14 [some (zR (some 135)), some (zI x1)] [zR (some 162)] h = gd (zok h (some 162) 22 x1) (gd (([] : List zV).isEmpty = true ∧ (zrk 117 = 1 ∨ zrk 117 = 6 ∧ (((hI h 162 x1.toNat) : Int) = 0 ∨ ((hI h 162 x1.toNat) : Int) = 1))) (some (.inl (some (zI (hI h 162 x1.toNat))), h))) from zGo 4 117 14 _ _ _).trans ?_
      refine (gd_t ((ci (PTC KC 162 _ rfl rfl) (PLC KC 162 25 rfl rfl)).2 (by omega)) _).trans ?_
      refine (gd_t (⟨rfl, Or.inl rfl⟩) _).trans ?_
      rfl
    · skip
      refine (show zY 117 19 [some (zR (some 135)), some (zI x1)] [] h = gd (inR (-1)) (gd (([] : List zV).isEmpty = true ∧ (zrk 117 = 1 ∨ zrk 117 = 6 ∧ (((-1) : Int) = 0 ∨ ((-1) : Int) = 1))) (some (.inl (some (zI (-1))), h))) from zGo 2 117 19 _ _ _).trans ?_
      refine (gd_t (by decide) _).trans ?_
      refine (gd_t (⟨rfl, Or.inl rfl⟩) _).trans ?_
      rfl
def f_Sh_rowAt (x0 : Int) : Int :=
  if x0 = (-1) then
    24
  else
    x0
theorem e_Sh_rowAt {h : zH} {x0 : Int} : zC 120 [zI x0] h = some (.inl (some (zI (f_Sh_rowAt x0))), h) := by
  show _ = (some (.inl (some (zI (
    if x0 = (-1) then
      24
    else
      x0))), h) : zO)
  refine (show zC 120 [zI x0] h = gd (inR (-1)) (if x0 = (-1) then zY 120 5 [some (zI x0)] [] h else zY 120 10 [some (zI x0)] [] h) from zGo 3 120 0 _ _ _).trans ?_
  refine (gd_t (by decide) _).trans ?_
  refine iteCF (fun x => (some (.inl (some (zI x)), h) : zO)) (fun c0 => ?_) (fun c0 => ?_)
  · skip
    refine (show zY 120 5 [some (zI x0)] [] h = gd (-128 ≤ (24 : Int) ∧ (24 : Int) < 128) (gd (([] : List zV).isEmpty = true ∧ (zrk 120 = 1 ∨ zrk 120 = 6 ∧ ((24 : Int) = 0 ∨ (24 : Int) = 1))) (some (.inl (some (zI 24)), h))) from zGo 3 120 5 _ _ _).trans ?_
    refine (gd_t (by decide) _).trans ?_
    refine (gd_t (⟨rfl, Or.inl rfl⟩) _).trans ?_
    rfl
  · skip
    refine (show zY 120 10 [some (zI x0)] [] h = gd (([] : List zV).isEmpty = true ∧ (zrk 120 = 1 ∨ zrk 120 = 6 ∧ ((x0 : Int) = 0 ∨ (x0 : Int) = 1))) (some (.inl (some (zI x0)), h)) from zGo 2 120 10 _ _ _).trans ?_
    refine (gd_t (⟨rfl, Or.inl rfl⟩) _).trans ?_
    rfl
def f_Sh_rowOf (h : zH) (x1 : Int) : Option Nat :=
  if x1 < 0 then
    hR h 136 24
  else
    if x1 < 25 then
      hR h 136 x1.toNat
    else
      hR h 136 24
theorem e_Sh_rowOf {h : zH} {x1 : Int} (KC : KC h) : zC 122 [zR (some 135), zI x1] h = some (.inl (some (zR (f_Sh_rowOf h x1))), h) := by
  show _ = (some (.inl (some (zR (
    if x1 < 0 then
      hR h 136 24
    else
      if x1 < 25 then
        hR h 136 x1.toNat
      else
        hR h 136 24))), h) : zO)
  refine (show zC 122 [zR (some 135), zI x1] h = gd (zob h (some 135) 9) (zY 122 4 [some (zR (some 135)), some (zI x1)] [zR (hR h 135 2)] h) from zGo 2 122 0 _ _ _).trans ?_
  refine (gd_t (⟨rfl, (PTC KC 135 _ rfl rfl), (PNC KC 135 rfl)⟩) _).trans ?_
  refine (congrArg (fun r => zY 122 4 [some (zR (some 135)), some (zI x1)] (zR r :: []) h) (PRC KC 135 2 _ rfl)).trans ?_
  refine (show zY 122 4 [some (zR (some 135)), some (zI x1)] [zR (some 136)] h = if x1 < 0 then zY 122 18 [some (zR (some 135)), some (zI x1)] [zR (some 136)] h else zY 122 8 [some (zR (some 135)), some (zI x1)] [zR (some 136)] h from zGo 2 122 4 _ _ _).trans ?_
  refine iteCF (fun x => (some (.inl (some (zR x)), h) : zO)) (fun c0 => ?_) (fun c0 => ?_)
  · skip
    refine (show zY 122 18 [some (zR (some 135)), some (zI x1)] [zR (some 136)] h = gd (-128 ≤ (24 : Int) ∧ (24 : Int) < 128) (gd (zokw h (some 136) 25 24 ∨ zokw h (some 136) 26 24 ∨ zokw h (some 136) 27 24) (gd (([] : List zV).isEmpty = true ∧ zrk 122 = 5) (some (.inl (some (zR (hR h 136 24))), h)))) from zGo 3 122 18 _ _ _).trans ?_
    refine (gd_t (by decide) _).trans ?_
    refine (gd_t ((cia27 (PTC KC 136 _ rfl rfl) (PNC KC 136 rfl) (PLC KC 136 25 rfl rfl)).2 ⟨by decide, by decide⟩) _).trans ?_
    refine (gd_t (⟨rfl, rfl⟩) _).trans ?_
    rfl
  · skip
    refine (show zY 122 8 [some (zR (some 135)), some (zI x1)] [zR (some 136)] h = gd (-128 ≤ (25 : Int) ∧ (25 : Int) < 128) (if x1 < 25 then zY 122 14 [some (zR (some 135)), some (zI x1)] [zR (some 136)] h else zY 122 18 [some (zR (some 135)), some (zI x1)] [zR (some 136)] h) from zGo 3 122 8 _ _ _).trans ?_
    refine (gd_t (by decide) _).trans ?_
    refine iteCF (fun x => (some (.inl (some (zR x)), h) : zO)) (fun c1 => ?_) (fun c1 => ?_)
    · skip
      refine (show zY 122 14 [some (zR (some 135)), some (zI x1)] [zR (some 136)] h = gd (zokw h (some 136) 25 x1 ∨ zokw h (some 136) 26 x1 ∨ zokw h (some 136) 27 x1) (gd (([] : List zV).isEmpty = true ∧ zrk 122 = 5) (some (.inl (some (zR (hR h 136 x1.toNat))), h))) from zGo 4 122 14 _ _ _).trans ?_
      refine (gd_t ((cia27 (PTC KC 136 _ rfl rfl) (PNC KC 136 rfl) (PLC KC 136 25 rfl rfl)).2 (by omega)) _).trans ?_
      refine (gd_t (⟨rfl, rfl⟩) _).trans ?_
      rfl
    · skip
      refine (show zY 122 18 [some (zR (some 135)), some (zI x1)] [zR (some 136)] h = gd (-128 ≤ (24 : Int) ∧ (24 : Int) < 128) (gd (zokw h (some 136) 25 24 ∨ zokw h (some 136) 26 24 ∨ zokw h (some 136) 27 24) (gd (([] : List zV).isEmpty = true ∧ zrk 122 = 5) (some (.inl (some (zR (hR h 136 24))), h)))) from zGo 3 122 18 _ _ _).trans ?_
      refine (gd_t (by decide) _).trans ?_
      refine (gd_t ((cia27 (PTC KC 136 _ rfl rfl) (PNC KC 136 rfl) (PLC KC 136 25 rfl rfl)).2 ⟨by decide, by decide⟩) _).trans ?_
      refine (gd_t (⟨rfl, rfl⟩) _).trans ?_
      rfl
def f_Ma_max (x0 : Int) (x1 : Int) : Int :=
  if x0 < x1 then
    x1
  else
    x0
theorem e_Ma_max {h : zH} {x0 : Int} {x1 : Int} : zC 223 [zI x0, zI x1] h = some (.inl (some (zI (f_Ma_max x0 x1))), h) := by
  show _ = (some (.inl (some (zI (
    if x0 < x1 then
      x1
    else
      x0))), h) : zO)
  refine (show zC 223 [zI x0, zI x1] h = if x0 < x1 then zY 223 9 [some (zI x0), some (zI x1)] [] h else zY 223 5 [some (zI x0), some (zI x1)] [] h from zGo 3 223 0 _ _ _).trans ?_
  refine iteCF (fun x => (some (.inl (some (zI x)), h) : zO)) (fun c0 => ?_) (fun c0 => ?_)
  · skip
    refine (show zY 223 9 [some (zI x0), some (zI x1)] [] h = gd (([] : List zV).isEmpty = true ∧ (zrk 223 = 1 ∨ zrk 223 = 6 ∧ ((x1 : Int) = 0 ∨ (x1 : Int) = 1))) (some (.inl (some (zI x1)), h)) from zGo 2 223 9 _ _ _).trans ?_
    refine (gd_t (⟨rfl, Or.inl rfl⟩) _).trans ?_
    rfl
  · skip
    refine (show zY 223 5 [some (zI x0), some (zI x1)] [] h = gd (([] : List zV).isEmpty = true ∧ (zrk 223 = 1 ∨ zrk 223 = 6 ∧ ((x0 : Int) = 0 ∨ (x0 : Int) = 1))) (some (.inl (some (zI x0)), h)) from zGo 3 223 5 _ _ _).trans ?_
    refine (gd_t (⟨rfl, Or.inl rfl⟩) _).trans ?_
    rfl
def f_Ma_min (x0 : Int) (x1 : Int) : Int :=
  if x1 < x0 then
    x1
  else
    x0
theorem e_Ma_min {h : zH} {x0 : Int} {x1 : Int} : zC 224 [zI x0, zI x1] h = some (.inl (some (zI (f_Ma_min x0 x1))), h) := by
  show _ = (some (.inl (some (zI (
    if x1 < x0 then
      x1
    else
      x0))), h) : zO)
  refine (show zC 224 [zI x0, zI x1] h = if x1 < x0 then zY 224 9 [some (zI x0), some (zI x1)] [] h else zY 224 5 [some (zI x0), some (zI x1)] [] h from zGo 3 224 0 _ _ _).trans ?_
  refine iteCF (fun x => (some (.inl (some (zI x)), h) : zO)) (fun c0 => ?_) (fun c0 => ?_)
  · skip
    refine (show zY 224 9 [some (zI x0), some (zI x1)] [] h = gd (([] : List zV).isEmpty = true ∧ (zrk 224 = 1 ∨ zrk 224 = 6 ∧ ((x1 : Int) = 0 ∨ (x1 : Int) = 1))) (some (.inl (some (zI x1)), h)) from zGo 2 224 9 _ _ _).trans ?_
    refine (gd_t (⟨rfl, Or.inl rfl⟩) _).trans ?_
    rfl
  · skip
    refine (show zY 224 5 [some (zI x0), some (zI x1)] [] h = gd (([] : List zV).isEmpty = true ∧ (zrk 224 = 1 ∨ zrk 224 = 6 ∧ ((x0 : Int) = 0 ∨ (x0 : Int) = 1))) (some (.inl (some (zI x0)), h)) from zGo 3 224 5 _ _ _).trans ?_
    refine (gd_t (⟨rfl, Or.inl rfl⟩) _).trans ?_
    rfl
def f_Ma_floorMod (x0 : Int) (x1 : Int) : Int :=
  if (zxor x0 x1) < 0 then
    if (Int.tmod x0 x1) = 0 then
      (Int.tmod x0 x1)
    else
      ((Int.tmod x0 x1) + x1)
  else
    (Int.tmod x0 x1)
theorem e_Ma_floorMod {h : zH} {x0 : Int} {x1 : Int} (g0 : (-2147483648 < x0 ∧ 0 < x1) := by omega) (g1 : ((zxor x0 x1) < 0) → (¬ ((Int.tmod x0 x1) = 0)) → (-2147483648 ≤ (Int.tmod x0 x1) + x1 ∧ (Int.tmod x0 x1) + x1 < 2147483648) := by omega) : zC 225 [zI x0, zI x1] h = some (.inl (some (zI (f_Ma_floorMod x0 x1))), h) := by
  show _ = (some (.inl (some (zI (
    if (zxor x0 x1) < 0 then
      if (Int.tmod x0 x1) = 0 then
        (Int.tmod x0 x1)
      else
        ((Int.tmod x0 x1) + x1)
    else
      (Int.tmod x0 x1)))), h) : zO)
  refine (show zC 225 [zI x0, zI x1] h = gd ((0 : Int) ≤ x0 ∧ (0 : Int) < x1 ∨ (-2147483648 : Int) < x0 ∧ (0 : Int) < x1) (if (zxor x0 x1) < 0 then zY 225 10 [some (zI x0), some (zI x1), some (zI (Int.tmod x0 x1))] [] h else zY 225 18 [some (zI x0), some (zI x1), some (zI (Int.tmod x0 x1))] [] h) from zGo 8 225 0 _ _ _).trans ?_
  refine (gd_t ((irem_c).2 (g0)) _).trans ?_
  refine iteCF (fun x => (some (.inl (some (zI x)), h) : zO)) (fun c0 => ?_) (fun c0 => ?_)
  · skip
    refine (show zY 225 10 [some (zI x0), some (zI x1), some (zI (Int.tmod x0 x1))] [] h = if (Int.tmod x0 x1) = 0 then zY 225 18 [some (zI x0), some (zI x1), some (zI (Int.tmod x0 x1))] [] h else zY 225 14 [some (zI x0), some (zI x1), some (zI (Int.tmod x0 x1))] [] h from zGo 2 225 10 _ _ _).trans ?_
    refine iteCF (fun x => (some (.inl (some (zI x)), h) : zO)) (fun c1 => ?_) (fun c1 => ?_)
    · skip
      refine (show zY 225 18 [some (zI x0), some (zI x1), some (zI (Int.tmod x0 x1))] [] h = gd (([] : List zV).isEmpty = true ∧ (zrk 225 = 1 ∨ zrk 225 = 6 ∧ (((Int.tmod x0 x1) : Int) = 0 ∨ ((Int.tmod x0 x1) : Int) = 1))) (some (.inl (some (zI (Int.tmod x0 x1))), h)) from zGo 2 225 18 _ _ _).trans ?_
      refine (gd_t (⟨rfl, Or.inl rfl⟩) _).trans ?_
      rfl
    · skip
      have hw : zwadd (Int.tmod x0 x1) x1 = Int.tmod x0 x1 + x1 := by
        unfold zwadd zsh
        show (Int32.ofInt (Int.tmod x0 x1) + Int32.ofInt x1).toInt = _
        rw [← Int32.ofInt_add]
        exact zi_to ((Iff.rfl).2 (g1 c0 c1))
      refine (show zY 225 14 [some (zI x0), some (zI x1), some (zI (Int.tmod x0 x1))] [] h = gd (([] : List zV).isEmpty = true ∧ (zrk 225 = 1 ∨ zrk 225 = 6 ∧ ((zwadd (Int.tmod x0 x1) x1 : Int) = 0 ∨ (zwadd (Int.tmod x0 x1) x1 : Int) = 1))) (some (.inl (some (zI (zwadd (Int.tmod x0 x1) x1))), h)) from zGo 4 225 14 _ _ _).trans ?_
      rw [hw]
      refine (gd_t (⟨rfl, Or.inl rfl⟩) _).trans ?_
      rfl
  · skip
    refine (show zY 225 18 [some (zI x0), some (zI x1), some (zI (Int.tmod x0 x1))] [] h = gd (([] : List zV).isEmpty = true ∧ (zrk 225 = 1 ∨ zrk 225 = 6 ∧ (((Int.tmod x0 x1) : Int) = 0 ∨ ((Int.tmod x0 x1) : Int) = 1))) (some (.inl (some (zI (Int.tmod x0 x1))), h)) from zGo 2 225 18 _ _ _).trans ?_
    refine (gd_t (⟨rfl, Or.inl rfl⟩) _).trans ?_
    rfl
def f_Lo_bitCount (x0 : BitVec 64) : Int :=
  (zand (zl2i ((((((((x0 - ((zlushr x0 1) &&& (6148914691236517205#64))) &&& (3689348814741910323#64)) + ((zlushr (x0 - ((zlushr x0 1) &&& (6148914691236517205#64))) 2) &&& (3689348814741910323#64))) + (zlushr (((x0 - ((zlushr x0 1) &&& (6148914691236517205#64))) &&& (3689348814741910323#64)) + ((zlushr (x0 - ((zlushr x0 1) &&& (6148914691236517205#64))) 2) &&& (3689348814741910323#64))) 4)) &&& (1085102592571150095#64)) + (zlushr (((((x0 - ((zlushr x0 1) &&& (6148914691236517205#64))) &&& (3689348814741910323#64)) + ((zlushr (x0 - ((zlushr x0 1) &&& (6148914691236517205#64))) 2) &&& (3689348814741910323#64))) + (zlushr (((x0 - ((zlushr x0 1) &&& (6148914691236517205#64))) &&& (3689348814741910323#64)) + ((zlushr (x0 - ((zlushr x0 1) &&& (6148914691236517205#64))) 2) &&& (3689348814741910323#64))) 4)) &&& (1085102592571150095#64)) 8)) + (zlushr ((((((x0 - ((zlushr x0 1) &&& (6148914691236517205#64))) &&& (3689348814741910323#64)) + ((zlushr (x0 - ((zlushr x0 1) &&& (6148914691236517205#64))) 2) &&& (3689348814741910323#64))) + (zlushr (((x0 - ((zlushr x0 1) &&& (6148914691236517205#64))) &&& (3689348814741910323#64)) + ((zlushr (x0 - ((zlushr x0 1) &&& (6148914691236517205#64))) 2) &&& (3689348814741910323#64))) 4)) &&& (1085102592571150095#64)) + (zlushr (((((x0 - ((zlushr x0 1) &&& (6148914691236517205#64))) &&& (3689348814741910323#64)) + ((zlushr (x0 - ((zlushr x0 1) &&& (6148914691236517205#64))) 2) &&& (3689348814741910323#64))) + (zlushr (((x0 - ((zlushr x0 1) &&& (6148914691236517205#64))) &&& (3689348814741910323#64)) + ((zlushr (x0 - ((zlushr x0 1) &&& (6148914691236517205#64))) 2) &&& (3689348814741910323#64))) 4)) &&& (1085102592571150095#64)) 8)) 16)) + (zlushr (((((((x0 - ((zlushr x0 1) &&& (6148914691236517205#64))) &&& (3689348814741910323#64)) + ((zlushr (x0 - ((zlushr x0 1) &&& (6148914691236517205#64))) 2) &&& (3689348814741910323#64))) + (zlushr (((x0 - ((zlushr x0 1) &&& (6148914691236517205#64))) &&& (3689348814741910323#64)) + ((zlushr (x0 - ((zlushr x0 1) &&& (6148914691236517205#64))) 2) &&& (3689348814741910323#64))) 4)) &&& (1085102592571150095#64)) + (zlushr (((((x0 - ((zlushr x0 1) &&& (6148914691236517205#64))) &&& (3689348814741910323#64)) + ((zlushr (x0 - ((zlushr x0 1) &&& (6148914691236517205#64))) 2) &&& (3689348814741910323#64))) + (zlushr (((x0 - ((zlushr x0 1) &&& (6148914691236517205#64))) &&& (3689348814741910323#64)) + ((zlushr (x0 - ((zlushr x0 1) &&& (6148914691236517205#64))) 2) &&& (3689348814741910323#64))) 4)) &&& (1085102592571150095#64)) 8)) + (zlushr ((((((x0 - ((zlushr x0 1) &&& (6148914691236517205#64))) &&& (3689348814741910323#64)) + ((zlushr (x0 - ((zlushr x0 1) &&& (6148914691236517205#64))) 2) &&& (3689348814741910323#64))) + (zlushr (((x0 - ((zlushr x0 1) &&& (6148914691236517205#64))) &&& (3689348814741910323#64)) + ((zlushr (x0 - ((zlushr x0 1) &&& (6148914691236517205#64))) 2) &&& (3689348814741910323#64))) 4)) &&& (1085102592571150095#64)) + (zlushr (((((x0 - ((zlushr x0 1) &&& (6148914691236517205#64))) &&& (3689348814741910323#64)) + ((zlushr (x0 - ((zlushr x0 1) &&& (6148914691236517205#64))) 2) &&& (3689348814741910323#64))) + (zlushr (((x0 - ((zlushr x0 1) &&& (6148914691236517205#64))) &&& (3689348814741910323#64)) + ((zlushr (x0 - ((zlushr x0 1) &&& (6148914691236517205#64))) 2) &&& (3689348814741910323#64))) 4)) &&& (1085102592571150095#64)) 8)) 16)) 32))) 127)
set_option maxRecDepth 20000 in
theorem e_Lo_bitCount {h : zH} {x0 : BitVec 64} : zC 226 [zJ x0] h = some (.inl (some (zI (f_Lo_bitCount x0))), h) := by
  show _ = (some (.inl (some (zI (
    (zand (zl2i ((((((((x0 - ((zlushr x0 1) &&& (6148914691236517205#64))) &&& (3689348814741910323#64)) + ((zlushr (x0 - ((zlushr x0 1) &&& (6148914691236517205#64))) 2) &&& (3689348814741910323#64))) + (zlushr (((x0 - ((zlushr x0 1) &&& (6148914691236517205#64))) &&& (3689348814741910323#64)) + ((zlushr (x0 - ((zlushr x0 1) &&& (6148914691236517205#64))) 2) &&& (3689348814741910323#64))) 4)) &&& (1085102592571150095#64)) + (zlushr (((((x0 - ((zlushr x0 1) &&& (6148914691236517205#64))) &&& (3689348814741910323#64)) + ((zlushr (x0 - ((zlushr x0 1) &&& (6148914691236517205#64))) 2) &&& (3689348814741910323#64))) + (zlushr (((x0 - ((zlushr x0 1) &&& (6148914691236517205#64))) &&& (3689348814741910323#64)) + ((zlushr (x0 - ((zlushr x0 1) &&& (6148914691236517205#64))) 2) &&& (3689348814741910323#64))) 4)) &&& (1085102592571150095#64)) 8)) + (zlushr ((((((x0 - ((zlushr x0 1) &&& (6148914691236517205#64))) &&& (3689348814741910323#64)) + ((zlushr (x0 - ((zlushr x0 1) &&& (6148914691236517205#64))) 2) &&& (3689348814741910323#64))) + (zlushr (((x0 - ((zlushr x0 1) &&& (6148914691236517205#64))) &&& (3689348814741910323#64)) + ((zlushr (x0 - ((zlushr x0 1) &&& (6148914691236517205#64))) 2) &&& (3689348814741910323#64))) 4)) &&& (1085102592571150095#64)) + (zlushr (((((x0 - ((zlushr x0 1) &&& (6148914691236517205#64))) &&& (3689348814741910323#64)) + ((zlushr (x0 - ((zlushr x0 1) &&& (6148914691236517205#64))) 2) &&& (3689348814741910323#64))) + (zlushr (((x0 - ((zlushr x0 1) &&& (6148914691236517205#64))) &&& (3689348814741910323#64)) + ((zlushr (x0 - ((zlushr x0 1) &&& (6148914691236517205#64))) 2) &&& (3689348814741910323#64))) 4)) &&& (1085102592571150095#64)) 8)) 16)) + (zlushr (((((((x0 - ((zlushr x0 1) &&& (6148914691236517205#64))) &&& (3689348814741910323#64)) + ((zlushr (x0 - ((zlushr x0 1) &&& (6148914691236517205#64))) 2) &&& (3689348814741910323#64))) + (zlushr (((x0 - ((zlushr x0 1) &&& (6148914691236517205#64))) &&& (3689348814741910323#64)) + ((zlushr (x0 - ((zlushr x0 1) &&& (6148914691236517205#64))) 2) &&& (3689348814741910323#64))) 4)) &&& (1085102592571150095#64)) + (zlushr (((((x0 - ((zlushr x0 1) &&& (6148914691236517205#64))) &&& (3689348814741910323#64)) + ((zlushr (x0 - ((zlushr x0 1) &&& (6148914691236517205#64))) 2) &&& (3689348814741910323#64))) + (zlushr (((x0 - ((zlushr x0 1) &&& (6148914691236517205#64))) &&& (3689348814741910323#64)) + ((zlushr (x0 - ((zlushr x0 1) &&& (6148914691236517205#64))) 2) &&& (3689348814741910323#64))) 4)) &&& (1085102592571150095#64)) 8)) + (zlushr ((((((x0 - ((zlushr x0 1) &&& (6148914691236517205#64))) &&& (3689348814741910323#64)) + ((zlushr (x0 - ((zlushr x0 1) &&& (6148914691236517205#64))) 2) &&& (3689348814741910323#64))) + (zlushr (((x0 - ((zlushr x0 1) &&& (6148914691236517205#64))) &&& (3689348814741910323#64)) + ((zlushr (x0 - ((zlushr x0 1) &&& (6148914691236517205#64))) 2) &&& (3689348814741910323#64))) 4)) &&& (1085102592571150095#64)) + (zlushr (((((x0 - ((zlushr x0 1) &&& (6148914691236517205#64))) &&& (3689348814741910323#64)) + ((zlushr (x0 - ((zlushr x0 1) &&& (6148914691236517205#64))) 2) &&& (3689348814741910323#64))) + (zlushr (((x0 - ((zlushr x0 1) &&& (6148914691236517205#64))) &&& (3689348814741910323#64)) + ((zlushr (x0 - ((zlushr x0 1) &&& (6148914691236517205#64))) 2) &&& (3689348814741910323#64))) 4)) &&& (1085102592571150095#64)) 8)) 16)) 32))) 127)))), h) : zO)
  refine (show zC 226 [zJ x0] h = gd (inR (1)) (gd (inR (2)) (gd (inR (4)) (gd (-128 ≤ (8 : Int) ∧ (8 : Int) < 128) (gd (-128 ≤ (16 : Int) ∧ (16 : Int) < 128) (gd (-128 ≤ (32 : Int) ∧ (32 : Int) < 128) (gd (-128 ≤ (127 : Int) ∧ (127 : Int) < 128) (gd (([] : List zV).isEmpty = true ∧ (zrk 226 = 1 ∨ zrk 226 = 6 ∧ (((zand (zl2i ((((((((x0 - ((zlushr x0 1) &&& (6148914691236517205#64))) &&& (3689348814741910323#64)) + ((zlushr (x0 - ((zlushr x0 1) &&& (6148914691236517205#64))) 2) &&& (3689348814741910323#64))) + (zlushr (((x0 - ((zlushr x0 1) &&& (6148914691236517205#64))) &&& (3689348814741910323#64)) + ((zlushr (x0 - ((zlushr x0 1) &&& (6148914691236517205#64))) 2) &&& (3689348814741910323#64))) 4)) &&& (1085102592571150095#64)) + (zlushr (((((x0 - ((zlushr x0 1) &&& (6148914691236517205#64))) &&& (3689348814741910323#64)) + ((zlushr (x0 - ((zlushr x0 1) &&& (6148914691236517205#64))) 2) &&& (3689348814741910323#64))) + (zlushr (((x0 - ((zlushr x0 1) &&& (6148914691236517205#64))) &&& (3689348814741910323#64)) + ((zlushr (x0 - ((zlushr x0 1) &&& (6148914691236517205#64))) 2) &&& (3689348814741910323#64))) 4)) &&& (1085102592571150095#64)) 8)) + (zlushr ((((((x0 - ((zlushr x0 1) &&& (6148914691236517205#64))) &&& (3689348814741910323#64)) + ((zlushr (x0 - ((zlushr x0 1) &&& (6148914691236517205#64))) 2) &&& (3689348814741910323#64))) + (zlushr (((x0 - ((zlushr x0 1) &&& (6148914691236517205#64))) &&& (3689348814741910323#64)) + ((zlushr (x0 - ((zlushr x0 1) &&& (6148914691236517205#64))) 2) &&& (3689348814741910323#64))) 4)) &&& (1085102592571150095#64)) + (zlushr (((((x0 - ((zlushr x0 1) &&& (6148914691236517205#64))) &&& (3689348814741910323#64)) + ((zlushr (x0 - ((zlushr x0 1) &&& (6148914691236517205#64))) 2) &&& (3689348814741910323#64))) + (zlushr (((x0 - ((zlushr x0 1) &&& (6148914691236517205#64))) &&& (3689348814741910323#64)) + ((zlushr (x0 - ((zlushr x0 1) &&& (6148914691236517205#64))) 2) &&& (3689348814741910323#64))) 4)) &&& (1085102592571150095#64)) 8)) 16)) + (zlushr (((((((x0 - ((zlushr x0 1) &&& (6148914691236517205#64))) &&& (3689348814741910323#64)) + ((zlushr (x0 - ((zlushr x0 1) &&& (6148914691236517205#64))) 2) &&& (3689348814741910323#64))) + (zlushr (((x0 - ((zlushr x0 1) &&& (6148914691236517205#64))) &&& (3689348814741910323#64)) + ((zlushr (x0 - ((zlushr x0 1) &&& (6148914691236517205#64))) 2) &&& (3689348814741910323#64))) 4)) &&& (1085102592571150095#64)) + (zlushr (((((x0 - ((zlushr x0 1) &&& (6148914691236517205#64))) &&& (3689348814741910323#64)) + ((zlushr (x0 - ((zlushr x0 1) &&& (6148914691236517205#64))) 2) &&& (3689348814741910323#64))) + (zlushr (((x0 - ((zlushr x0 1) &&& (6148914691236517205#64))) &&& (3689348814741910323#64)) + ((zlushr (x0 - ((zlushr x0 1) &&& (6148914691236517205#64))) 2) &&& (3689348814741910323#64))) 4)) &&& (1085102592571150095#64)) 8)) + (zlushr ((((((x0 - ((zlushr x0 1) &&& (6148914691236517205#64))) &&& (3689348814741910323#64)) + ((zlushr (x0 - ((zlushr x0 1) &&& (6148914691236517205#64))) 2) &&& (3689348814741910323#64))) + (zlushr (((x0 - ((zlushr x0 1) &&& (6148914691236517205#64))) &&& (3689348814741910323#64)) + ((zlushr (x0 - ((zlushr x0 1) &&& (6148914691236517205#64))) 2) &&& (3689348814741910323#64))) 4)) &&& (1085102592571150095#64)) + (zlushr (((((x0 - ((zlushr x0 1) &&& (6148914691236517205#64))) &&& (3689348814741910323#64)) + ((zlushr (x0 - ((zlushr x0 1) &&& (6148914691236517205#64))) 2) &&& (3689348814741910323#64))) + (zlushr (((x0 - ((zlushr x0 1) &&& (6148914691236517205#64))) &&& (3689348814741910323#64)) + ((zlushr (x0 - ((zlushr x0 1) &&& (6148914691236517205#64))) 2) &&& (3689348814741910323#64))) 4)) &&& (1085102592571150095#64)) 8)) 16)) 32))) 127) : Int) = 0 ∨ ((zand (zl2i ((((((((x0 - ((zlushr x0 1) &&& (6148914691236517205#64))) &&& (3689348814741910323#64)) + ((zlushr (x0 - ((zlushr x0 1) &&& (6148914691236517205#64))) 2) &&& (3689348814741910323#64))) + (zlushr (((x0 - ((zlushr x0 1) &&& (6148914691236517205#64))) &&& (3689348814741910323#64)) + ((zlushr (x0 - ((zlushr x0 1) &&& (6148914691236517205#64))) 2) &&& (3689348814741910323#64))) 4)) &&& (1085102592571150095#64)) + (zlushr (((((x0 - ((zlushr x0 1) &&& (6148914691236517205#64))) &&& (3689348814741910323#64)) + ((zlushr (x0 - ((zlushr x0 1) &&& (6148914691236517205#64))) 2) &&& (3689348814741910323#64))) + (zlushr (((x0 - ((zlushr x0 1) &&& (6148914691236517205#64))) &&& (3689348814741910323#64)) + ((zlushr (x0 - ((zlushr x0 1) &&& (6148914691236517205#64))) 2) &&& (3689348814741910323#64))) 4)) &&& (1085102592571150095#64)) 8)) + (zlushr ((((((x0 - ((zlushr x0 1) &&& (6148914691236517205#64))) &&& (3689348814741910323#64)) + ((zlushr (x0 - ((zlushr x0 1) &&& (6148914691236517205#64))) 2) &&& (3689348814741910323#64))) + (zlushr (((x0 - ((zlushr x0 1) &&& (6148914691236517205#64))) &&& (3689348814741910323#64)) + ((zlushr (x0 - ((zlushr x0 1) &&& (6148914691236517205#64))) 2) &&& (3689348814741910323#64))) 4)) &&& (1085102592571150095#64)) + (zlushr (((((x0 - ((zlushr x0 1) &&& (6148914691236517205#64))) &&& (3689348814741910323#64)) + ((zlushr (x0 - ((zlushr x0 1) &&& (6148914691236517205#64))) 2) &&& (3689348814741910323#64))) + (zlushr (((x0 - ((zlushr x0 1) &&& (6148914691236517205#64))) &&& (3689348814741910323#64)) + ((zlushr (x0 - ((zlushr x0 1) &&& (6148914691236517205#64))) 2) &&& (3689348814741910323#64))) 4)) &&& (1085102592571150095#64)) 8)) 16)) + (zlushr (((((((x0 - ((zlushr x0 1) &&& (6148914691236517205#64))) &&& (3689348814741910323#64)) + ((zlushr (x0 - ((zlushr x0 1) &&& (6148914691236517205#64))) 2) &&& (3689348814741910323#64))) + (zlushr (((x0 - ((zlushr x0 1) &&& (6148914691236517205#64))) &&& (3689348814741910323#64)) + ((zlushr (x0 - ((zlushr x0 1) &&& (6148914691236517205#64))) 2) &&& (3689348814741910323#64))) 4)) &&& (1085102592571150095#64)) + (zlushr (((((x0 - ((zlushr x0 1) &&& (6148914691236517205#64))) &&& (3689348814741910323#64)) + ((zlushr (x0 - ((zlushr x0 1) &&& (6148914691236517205#64))) 2) &&& (3689348814741910323#64))) + (zlushr (((x0 - ((zlushr x0 1) &&& (6148914691236517205#64))) &&& (3689348814741910323#64)) + ((zlushr (x0 - ((zlushr x0 1) &&& (6148914691236517205#64))) 2) &&& (3689348814741910323#64))) 4)) &&& (1085102592571150095#64)) 8)) + (zlushr ((((((x0 - ((zlushr x0 1) &&& (6148914691236517205#64))) &&& (3689348814741910323#64)) + ((zlushr (x0 - ((zlushr x0 1) &&& (6148914691236517205#64))) 2) &&& (3689348814741910323#64))) + (zlushr (((x0 - ((zlushr x0 1) &&& (6148914691236517205#64))) &&& (3689348814741910323#64)) + ((zlushr (x0 - ((zlushr x0 1) &&& (6148914691236517205#64))) 2) &&& (3689348814741910323#64))) 4)) &&& (1085102592571150095#64)) + (zlushr (((((x0 - ((zlushr x0 1) &&& (6148914691236517205#64))) &&& (3689348814741910323#64)) + ((zlushr (x0 - ((zlushr x0 1) &&& (6148914691236517205#64))) 2) &&& (3689348814741910323#64))) + (zlushr (((x0 - ((zlushr x0 1) &&& (6148914691236517205#64))) &&& (3689348814741910323#64)) + ((zlushr (x0 - ((zlushr x0 1) &&& (6148914691236517205#64))) 2) &&& (3689348814741910323#64))) 4)) &&& (1085102592571150095#64)) 8)) 16)) 32))) 127) : Int) = 1))) (some (.inl (some (zI (zand (zl2i ((((((((x0 - ((zlushr x0 1) &&& (6148914691236517205#64))) &&& (3689348814741910323#64)) + ((zlushr (x0 - ((zlushr x0 1) &&& (6148914691236517205#64))) 2) &&& (3689348814741910323#64))) + (zlushr (((x0 - ((zlushr x0 1) &&& (6148914691236517205#64))) &&& (3689348814741910323#64)) + ((zlushr (x0 - ((zlushr x0 1) &&& (6148914691236517205#64))) 2) &&& (3689348814741910323#64))) 4)) &&& (1085102592571150095#64)) + (zlushr (((((x0 - ((zlushr x0 1) &&& (6148914691236517205#64))) &&& (3689348814741910323#64)) + ((zlushr (x0 - ((zlushr x0 1) &&& (6148914691236517205#64))) 2) &&& (3689348814741910323#64))) + (zlushr (((x0 - ((zlushr x0 1) &&& (6148914691236517205#64))) &&& (3689348814741910323#64)) + ((zlushr (x0 - ((zlushr x0 1) &&& (6148914691236517205#64))) 2) &&& (3689348814741910323#64))) 4)) &&& (1085102592571150095#64)) 8)) + (zlushr ((((((x0 - ((zlushr x0 1) &&& (6148914691236517205#64))) &&& (3689348814741910323#64)) + ((zlushr (x0 - ((zlushr x0 1) &&& (6148914691236517205#64))) 2) &&& (3689348814741910323#64))) + (zlushr (((x0 - ((zlushr x0 1) &&& (6148914691236517205#64))) &&& (3689348814741910323#64)) + ((zlushr (x0 - ((zlushr x0 1) &&& (6148914691236517205#64))) 2) &&& (3689348814741910323#64))) 4)) &&& (1085102592571150095#64)) + (zlushr (((((x0 - ((zlushr x0 1) &&& (6148914691236517205#64))) &&& (3689348814741910323#64)) + ((zlushr (x0 - ((zlushr x0 1) &&& (6148914691236517205#64))) 2) &&& (3689348814741910323#64))) + (zlushr (((x0 - ((zlushr x0 1) &&& (6148914691236517205#64))) &&& (3689348814741910323#64)) + ((zlushr (x0 - ((zlushr x0 1) &&& (6148914691236517205#64))) 2) &&& (3689348814741910323#64))) 4)) &&& (1085102592571150095#64)) 8)) 16)) + (zlushr (((((((x0 - ((zlushr x0 1) &&& (6148914691236517205#64))) &&& (3689348814741910323#64)) + ((zlushr (x0 - ((zlushr x0 1) &&& (6148914691236517205#64))) 2) &&& (3689348814741910323#64))) + (zlushr (((x0 - ((zlushr x0 1) &&& (6148914691236517205#64))) &&& (3689348814741910323#64)) + ((zlushr (x0 - ((zlushr x0 1) &&& (6148914691236517205#64))) 2) &&& (3689348814741910323#64))) 4)) &&& (1085102592571150095#64)) + (zlushr (((((x0 - ((zlushr x0 1) &&& (6148914691236517205#64))) &&& (3689348814741910323#64)) + ((zlushr (x0 - ((zlushr x0 1) &&& (6148914691236517205#64))) 2) &&& (3689348814741910323#64))) + (zlushr (((x0 - ((zlushr x0 1) &&& (6148914691236517205#64))) &&& (3689348814741910323#64)) + ((zlushr (x0 - ((zlushr x0 1) &&& (6148914691236517205#64))) 2) &&& (3689348814741910323#64))) 4)) &&& (1085102592571150095#64)) 8)) + (zlushr ((((((x0 - ((zlushr x0 1) &&& (6148914691236517205#64))) &&& (3689348814741910323#64)) + ((zlushr (x0 - ((zlushr x0 1) &&& (6148914691236517205#64))) 2) &&& (3689348814741910323#64))) + (zlushr (((x0 - ((zlushr x0 1) &&& (6148914691236517205#64))) &&& (3689348814741910323#64)) + ((zlushr (x0 - ((zlushr x0 1) &&& (6148914691236517205#64))) 2) &&& (3689348814741910323#64))) 4)) &&& (1085102592571150095#64)) + (zlushr (((((x0 - ((zlushr x0 1) &&& (6148914691236517205#64))) &&& (3689348814741910323#64)) + ((zlushr (x0 - ((zlushr x0 1) &&& (6148914691236517205#64))) 2) &&& (3689348814741910323#64))) + (zlushr (((x0 - ((zlushr x0 1) &&& (6148914691236517205#64))) &&& (3689348814741910323#64)) + ((zlushr (x0 - ((zlushr x0 1) &&& (6148914691236517205#64))) 2) &&& (3689348814741910323#64))) 4)) &&& (1085102592571150095#64)) 8)) 16)) 32))) 127))), h))))))))) from zGo 49 226 0 _ _ _).trans ?_
  refine (gd_t (by decide) _).trans ?_
  refine (gd_t (by decide) _).trans ?_
  refine (gd_t (by decide) _).trans ?_
  refine (gd_t (by decide) _).trans ?_
  refine (gd_t (by decide) _).trans ?_
  refine (gd_t (by decide) _).trans ?_
  refine (gd_t (by decide) _).trans ?_
  refine (gd_t (⟨rfl, Or.inl rfl⟩) _).trans ?_
  rfl
def f_S_least (x0 : BitVec 64) : Int :=
  if x0 = 0#64 then
    (-1)
  else
    (f_Lo_bitCount ((x0 &&& (-x0)) - (1#64)))
theorem e_S_least {h : zH} {x0 : BitVec 64} : zC 110 [zJ x0] h = some (.inl (some (zI (f_S_least x0))), h) := by
  show _ = (some (.inl (some (zI (
    if x0 = 0#64 then
      (-1)
    else
      (f_Lo_bitCount ((x0 &&& (-x0)) - (1#64)))))), h) : zO)
  refine (show zC 110 [zJ x0] h = if (zlcmp x0 (0#64)) = 0 then zY 110 6 [some (zJ x0), none] [] h else zY 110 10 [some (zJ x0), none] [] h from zGo 4 110 0 _ _ _).trans ?_
  refine iteLF (fun x => (some (.inl (some (zI x)), h) : zO)) (fun c0 => ?_) (fun c0 => ?_)
  · skip
    refine (show zY 110 6 [some (zJ x0), none] [] h = gd (inR (-1)) (gd (([] : List zV).isEmpty = true ∧ (zrk 110 = 1 ∨ zrk 110 = 6 ∧ (((-1) : Int) = 0 ∨ ((-1) : Int) = 1))) (some (.inl (some (zI (-1))), h))) from zGo 3 110 6 _ _ _).trans ?_
    refine (gd_t (by decide) _).trans ?_
    refine (gd_t (⟨rfl, Or.inl rfl⟩) _).trans ?_
    rfl
  · skip
    refine (show zY 110 10 [some (zJ x0), none] [] h = gd (false = zctor 226 ∧ zcs [] ≤ 8 ∧ zrm 110 (zrf 226 + 1) (8 + (zmaxl 226 + 11) + zrl 226) = true ∧ zcs [zJ ((x0 &&& (-x0)) - (1#64))] ≤ zmaxl 226) (zBack zY 110 16 19 [some (zJ x0), none] [] (zC 226 [zJ ((x0 &&& (-x0)) - (1#64))] h)) from zGo 7 110 10 _ _ _).trans ?_
    refine (gd_t (⟨rfl, Nat.le_of_ble_eq_true rfl, rfl, Nat.le_of_ble_eq_true rfl⟩) _).trans ?_
    refine (congrArg (zBack zY 110 16 19 [some (zJ x0), none] []) (e_Lo_bitCount)).trans ?_
    refine (show zY 110 19 [some (zJ x0), none] [zI (f_Lo_bitCount ((x0 &&& (-x0)) - (1#64)))] h = gd (([] : List zV).isEmpty = true ∧ (zrk 110 = 1 ∨ zrk 110 = 6 ∧ (((f_Lo_bitCount ((x0 &&& (-x0)) - (1#64))) : Int) = 0 ∨ ((f_Lo_bitCount ((x0 &&& (-x0)) - (1#64))) : Int) = 1))) (some (.inl (some (zI (f_Lo_bitCount ((x0 &&& (-x0)) - (1#64))))), h)) from zGo 1 110 19 _ _ _).trans ?_
    refine (gd_t (⟨rfl, Or.inl rfl⟩) _).trans ?_
    rfl

