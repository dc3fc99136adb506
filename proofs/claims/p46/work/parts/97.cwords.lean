/-! The class: words and tokens. -/
def f_W_text (x0 : Int) : Option Nat :=
  if x0 = 0 then
    some (zVB + 4)
  else
    if x0 = 1 then
      some (zVB + 5)
    else
      if x0 = 2 then
        some (zVB + 6)
      else
        if x0 = 3 then
          some (zVB + 7)
        else
          if x0 = 4 then
            some (zVB + 8)
          else
            if x0 = 5 then
              some (zVB + 9)
            else
              if x0 = 6 then
                some (zVB + 10)
              else
                if x0 = 7 then
                  some (zVB + 11)
                else
                  if x0 = 8 then
                    some (zVB + 12)
                  else
                    if x0 = 9 then
                      some (zVB + 13)
                    else
                      if x0 = 10 then
                        some (zVB + 14)
                      else
                        if x0 = 11 then
                          some (zVB + 15)
                        else
                          if x0 = 12 then
                            some (zVB + 16)
                          else
                            if x0 = 13 then
                              some (zVB + 17)
                            else
                              if x0 = 14 then
                                some (zVB + 18)
                              else
                                if x0 = 15 then
                                  some (zVB + 19)
                                else
                                  if x0 = 16 then
                                    some (zVB + 20)
                                  else
                                    if x0 = 17 then
                                      some (zVB + 21)
                                    else
                                      if x0 = 18 then
                                        some (zVB + 22)
                                      else
                                        if x0 = 19 then
                                          some (zVB + 23)
                                        else
                                          if x0 = 20 then
                                            some (zVB + 24)
                                          else
                                            if x0 = 21 then
                                              some (zVB + 25)
                                            else
                                              if x0 = 22 then
                                                some (zVB + 26)
                                              else
                                                if x0 = 23 then
                                                  some (zVB + 27)
                                                else
                                                  if x0 = 24 then
                                                    some (zVB + 28)
                                                  else
                                                    if x0 = 25 then
                                                      some (zVB + 29)
                                                    else
                                                      some (zVB + 30)
theorem e_W_text {h : zH} {x0 : Int} : zC 138 [zI x0] h = some (.inl (some (zR (f_W_text x0))), h) := by
  show _ = (some (.inl (some (zR (
    if x0 = 0 then
      some (zVB + 4)
    else
      if x0 = 1 then
        some (zVB + 5)
      else
        if x0 = 2 then
          some (zVB + 6)
        else
          if x0 = 3 then
            some (zVB + 7)
          else
            if x0 = 4 then
              some (zVB + 8)
            else
              if x0 = 5 then
                some (zVB + 9)
              else
                if x0 = 6 then
                  some (zVB + 10)
                else
                  if x0 = 7 then
                    some (zVB + 11)
                  else
                    if x0 = 8 then
                      some (zVB + 12)
                    else
                      if x0 = 9 then
                        some (zVB + 13)
                      else
                        if x0 = 10 then
                          some (zVB + 14)
                        else
                          if x0 = 11 then
                            some (zVB + 15)
                          else
                            if x0 = 12 then
                              some (zVB + 16)
                            else
                              if x0 = 13 then
                                some (zVB + 17)
                              else
                                if x0 = 14 then
                                  some (zVB + 18)
                                else
                                  if x0 = 15 then
                                    some (zVB + 19)
                                  else
                                    if x0 = 16 then
                                      some (zVB + 20)
                                    else
                                      if x0 = 17 then
                                        some (zVB + 21)
                                      else
                                        if x0 = 18 then
                                          some (zVB + 22)
                                        else
                                          if x0 = 19 then
                                            some (zVB + 23)
                                          else
                                            if x0 = 20 then
                                              some (zVB + 24)
                                            else
                                              if x0 = 21 then
                                                some (zVB + 25)
                                              else
                                                if x0 = 22 then
                                                  some (zVB + 26)
                                                else
                                                  if x0 = 23 then
                                                    some (zVB + 27)
                                                  else
                                                    if x0 = 24 then
                                                      some (zVB + 28)
                                                    else
                                                      if x0 = 25 then
                                                        some (zVB + 29)
                                                      else
                                                        some (zVB + 30)))), h) : zO)
  refine (show zC 138 [zI x0] h = if x0 = 0 then zY 138 120 [some (zI x0)] [] h else if x0 = 1 then zY 138 123 [some (zI x0)] [] h else if x0 = 2 then zY 138 126 [some (zI x0)] [] h else if x0 = 3 then zY 138 129 [some (zI x0)] [] h else if x0 = 4 then zY 138 132 [some (zI x0)] [] h else if x0 = 5 then zY 138 135 [some (zI x0)] [] h else if x0 = 6 then zY 138 138 [some (zI x0)] [] h else if x0 = 7 then zY 138 141 [some (zI x0)] [] h else if x0 = 8 then zY 138 144 [some (zI x0)] [] h else if x0 = 9 then zY 138 147 [some (zI x0)] [] h else if x0 = 10 then zY 138 150 [some (zI x0)] [] h else if x0 = 11 then zY 138 153 [some (zI x0)] [] h else if x0 = 12 then zY 138 156 [some (zI x0)] [] h else if x0 = 13 then zY 138 159 [some (zI x0)] [] h else if x0 = 14 then zY 138 162 [some (zI x0)] [] h else if x0 = 15 then zY 138 165 [some (zI x0)] [] h else if x0 = 16 then zY 138 168 [some (zI x0)] [] h else if x0 = 17 then zY 138 171 [some (zI x0)] [] h else if x0 = 18 then zY 138 174 [some (zI x0)] [] h else if x0 = 19 then zY 138 177 [some (zI x0)] [] h else if x0 = 20 then zY 138 180 [some (zI x0)] [] h else if x0 = 21 then zY 138 183 [some (zI x0)] [] h else if x0 = 22 then zY 138 186 [some (zI x0)] [] h else if x0 = 23 then zY 138 189 [some (zI x0)] [] h else if x0 = 24 then zY 138 192 [some (zI x0)] [] h else if x0 = 25 then zY 138 195 [some (zI x0)] [] h else zY 138 198 [some (zI x0)] [] h from zGo 2 138 0 _ _ _).trans ?_
  refine iteCF (fun x => (some (.inl (some (zR x)), h) : zO)) (fun c0 => ?_) (fun c0 => ?_)
  · skip
    refine (show zY 138 120 [some (zI x0)] [] h = gd (([] : List zV).isEmpty = true ∧ zrk 138 = 5) (some (.inl (some (zR (some (zVB + 4)))), h)) from zGo 2 138 120 _ _ _).trans ?_
    refine (gd_t (⟨rfl, rfl⟩) _).trans ?_
    rfl
  · skip
    refine iteCF (fun x => (some (.inl (some (zR x)), h) : zO)) (fun c1 => ?_) (fun c1 => ?_)
    · skip
      refine (show zY 138 123 [some (zI x0)] [] h = gd (([] : List zV).isEmpty = true ∧ zrk 138 = 5) (some (.inl (some (zR (some (zVB + 5)))), h)) from zGo 2 138 123 _ _ _).trans ?_
      refine (gd_t (⟨rfl, rfl⟩) _).trans ?_
      rfl
    · skip
      refine iteCF (fun x => (some (.inl (some (zR x)), h) : zO)) (fun c2 => ?_) (fun c2 => ?_)
      · skip
        refine (show zY 138 126 [some (zI x0)] [] h = gd (([] : List zV).isEmpty = true ∧ zrk 138 = 5) (some (.inl (some (zR (some (zVB + 6)))), h)) from zGo 2 138 126 _ _ _).trans ?_
        refine (gd_t (⟨rfl, rfl⟩) _).trans ?_
        rfl
      · skip
        refine iteCF (fun x => (some (.inl (some (zR x)), h) : zO)) (fun c3 => ?_) (fun c3 => ?_)
        · skip
          refine (show zY 138 129 [some (zI x0)] [] h = gd (([] : List zV).isEmpty = true ∧ zrk 138 = 5) (some (.inl (some (zR (some (zVB + 7)))), h)) from zGo 2 138 129 _ _ _).trans ?_
          refine (gd_t (⟨rfl, rfl⟩) _).trans ?_
          rfl
        · skip
          refine iteCF (fun x => (some (.inl (some (zR x)), h) : zO)) (fun c4 => ?_) (fun c4 => ?_)
          · skip
            refine (show zY 138 132 [some (zI x0)] [] h = gd (([] : List zV).isEmpty = true ∧ zrk 138 = 5) (some (.inl (some (zR (some (zVB + 8)))), h)) from zGo 2 138 132 _ _ _).trans ?_
            refine (gd_t (⟨rfl, rfl⟩) _).trans ?_
            rfl
          · skip
            refine iteCF (fun x => (some (.inl (some (zR x)), h) : zO)) (fun c5 => ?_) (fun c5 => ?_)
            · skip
              refine (show zY 138 135 [some (zI x0)] [] h = gd (([] : List zV).isEmpty = true ∧ zrk 138 = 5) (some (.inl (some (zR (some (zVB + 9)))), h)) from zGo 2 138 135 _ _ _).trans ?_
              refine (gd_t (⟨rfl, rfl⟩) _).trans ?_
              rfl
            · skip
              refine iteCF (fun x => (some (.inl (some (zR x)), h) : zO)) (fun c6 => ?_) (fun c6 => ?_)
              · skip
                refine (show zY 138 138 [some (zI x0)] [] h = gd (([] : List zV).isEmpty = true ∧ zrk 138 = 5) (some (.inl (some (zR (some (zVB + 10)))), h)) from zGo 2 138 138 _ _ _).trans ?_
                refine (gd_t (⟨rfl, rfl⟩) _).trans ?_
                rfl
              · skip
                refine iteCF (fun x => (some (.inl (some (zR x)), h) : zO)) (fun c7 => ?_) (fun c7 => ?_)
                · skip
                  refine (show zY 138 141 [some (zI x0)] [] h = gd (([] : List zV).isEmpty = true ∧ zrk 138 = 5) (some (.inl (some (zR (some (zVB + 11)))), h)) from zGo 2 138 141 _ _ _).trans ?_
                  refine (gd_t (⟨rfl, rfl⟩) _).trans ?_
                  rfl
                · skip
                  refine iteCF (fun x => (some (.inl (some (zR x)), h) : zO)) (fun c8 => ?_) (fun c8 => ?_)
                  · skip
                    refine (show zY 138 144 [some (zI x0)] [] h = gd (([] : List zV).isEmpty = true ∧ zrk 138 = 5) (some (.inl (some (zR (some (zVB + 12)))), h)) from zGo 2 138 144 _ _ _).trans ?_
                    refine (gd_t (⟨rfl, rfl⟩) _).trans ?_
                    rfl
                  · skip
                    refine iteCF (fun x => (some (.inl (some (zR x)), h) : zO)) (fun c9 => ?_) (fun c9 => ?_)
                    · skip
                      refine (show zY 138 147 [some (zI x0)] [] h = gd (([] : List zV).isEmpty = true ∧ zrk 138 = 5) (some (.inl (some (zR (some (zVB + 13)))), h)) from zGo 2 138 147 _ _ _).trans ?_
                      refine (gd_t (⟨rfl, rfl⟩) _).trans ?_
                      rfl
                    · skip
                      refine iteCF (fun x => (some (.inl (some (zR x)), h) : zO)) (fun c10 => ?_) (fun c10 => ?_)
                      · skip
                        refine (show zY 138 150 [some (zI x0)] [] h = gd (([] : List zV).isEmpty = true ∧ zrk 138 = 5) (some (.inl (some (zR (some (zVB + 14)))), h)) from zGo 2 138 150 _ _ _).trans ?_
                        refine (gd_t (⟨rfl, rfl⟩) _).trans ?_
                        rfl
                      · skip
                        refine iteCF (fun x => (some (.inl (some (zR x)), h) : zO)) (fun c11 => ?_) (fun c11 => ?_)
                        · skip
                          refine (show zY 138 153 [some (zI x0)] [] h = gd (([] : List zV).isEmpty = true ∧ zrk 138 = 5) (some (.inl (some (zR (some (zVB + 15)))), h)) from zGo 2 138 153 _ _ _).trans ?_
                          refine (gd_t (⟨rfl, rfl⟩) _).trans ?_
                          rfl
                        · skip
                          refine iteCF (fun x => (some (.inl (some (zR x)), h) : zO)) (fun c12 => ?_) (fun c12 => ?_)
                          · skip
                            refine (show zY 138 156 [some (zI x0)] [] h = gd (([] : List zV).isEmpty = true ∧ zrk 138 = 5) (some (.inl (some (zR (some (zVB + 16)))), h)) from zGo 2 138 156 _ _ _).trans ?_
                            refine (gd_t (⟨rfl, rfl⟩) _).trans ?_
                            rfl
                          · skip
                            refine iteCF (fun x => (some (.inl (some (zR x)), h) : zO)) (fun c13 => ?_) (fun c13 => ?_)
                            · skip
                              refine (show zY 138 159 [some (zI x0)] [] h = gd (([] : List zV).isEmpty = true ∧ zrk 138 = 5) (some (.inl (some (zR (some (zVB + 17)))), h)) from zGo 2 138 159 _ _ _).trans ?_
                              refine (gd_t (⟨rfl, rfl⟩) _).trans ?_
                              rfl
                            · skip
                              refine iteCF (fun x => (some (.inl (some (zR x)), h) : zO)) (fun c14 => ?_) (fun c14 => ?_)
                              · skip
                                refine (show zY 138 162 [some (zI x0)] [] h = gd (([] : List zV).isEmpty = true ∧ zrk 138 = 5) (some (.inl (some (zR (some (zVB + 18)))), h)) from zGo 2 138 162 _ _ _).trans ?_
                                refine (gd_t (⟨rfl, rfl⟩) _).trans ?_
                                rfl
                              · skip
                                refine iteCF (fun x => (some (.inl (some (zR x)), h) : zO)) (fun c15 => ?_) (fun c15 => ?_)
                                · skip
                                  refine (show zY 138 165 [some (zI x0)] [] h = gd (([] : List zV).isEmpty = true ∧ zrk 138 = 5) (some (.inl (some (zR (some (zVB + 19)))), h)) from zGo 2 138 165 _ _ _).trans ?_
                                  refine (gd_t (⟨rfl, rfl⟩) _).trans ?_
                                  rfl
                                · skip
                                  refine iteCF (fun x => (some (.inl (some (zR x)), h) : zO)) (fun c16 => ?_) (fun c16 => ?_)
                                  · skip
                                    refine (show zY 138 168 [some (zI x0)] [] h = gd (([] : List zV).isEmpty = true ∧ zrk 138 = 5) (some (.inl (some (zR (some (zVB + 20)))), h)) from zGo 2 138 168 _ _ _).trans ?_
                                    refine (gd_t (⟨rfl, rfl⟩) _).trans ?_
                                    rfl
                                  · skip
                                    refine iteCF (fun x => (some (.inl (some (zR x)), h) : zO)) (fun c17 => ?_) (fun c17 => ?_)
                                    · skip
                                      refine (show zY 138 171 [some (zI x0)] [] h = gd (([] : List zV).isEmpty = true ∧ zrk 138 = 5) (some (.inl (some (zR (some (zVB + 21)))), h)) from zGo 2 138 171 _ _ _).trans ?_
                                      refine (gd_t (⟨rfl, rfl⟩) _).trans ?_
                                      rfl
                                    · skip
                                      refine iteCF (fun x => (some (.inl (some (zR x)), h) : zO)) (fun c18 => ?_) (fun c18 => ?_)
                                      · skip
                                        refine (show zY 138 174 [some (zI x0)] [] h = gd (([] : List zV).isEmpty = true ∧ zrk 138 = 5) (some (.inl (some (zR (some (zVB + 22)))), h)) from zGo 2 138 174 _ _ _).trans ?_
                                        refine (gd_t (⟨rfl, rfl⟩) _).trans ?_
                                        rfl
                                      · skip
                                        refine iteCF (fun x => (some (.inl (some (zR x)), h) : zO)) (fun c19 => ?_) (fun c19 => ?_)
                                        · skip
                                          refine (show zY 138 177 [some (zI x0)] [] h = gd (([] : List zV).isEmpty = true ∧ zrk 138 = 5) (some (.inl (some (zR (some (zVB + 23)))), h)) from zGo 2 138 177 _ _ _).trans ?_
                                          refine (gd_t (⟨rfl, rfl⟩) _).trans ?_
                                          rfl
                                        · skip
                                          refine iteCF (fun x => (some (.inl (some (zR x)), h) : zO)) (fun c20 => ?_) (fun c20 => ?_)
                                          · skip
                                            refine (show zY 138 180 [some (zI x0)] [] h = gd (([] : List zV).isEmpty = true ∧ zrk 138 = 5) (some (.inl (some (zR (some (zVB + 24)))), h)) from zGo 2 138 180 _ _ _).trans ?_
                                            refine (gd_t (⟨rfl, rfl⟩) _).trans ?_
                                            rfl
                                          · skip
                                            refine iteCF (fun x => (some (.inl (some (zR x)), h) : zO)) (fun c21 => ?_) (fun c21 => ?_)
                                            · skip
                                              refine (show zY 138 183 [some (zI x0)] [] h = gd (([] : List zV).isEmpty = true ∧ zrk 138 = 5) (some (.inl (some (zR (some (zVB + 25)))), h)) from zGo 2 138 183 _ _ _).trans ?_
                                              refine (gd_t (⟨rfl, rfl⟩) _).trans ?_
                                              rfl
                                            · skip
                                              refine iteCF (fun x => (some (.inl (some (zR x)), h) : zO)) (fun c22 => ?_) (fun c22 => ?_)
                                              · skip
                                                refine (show zY 138 186 [some (zI x0)] [] h = gd (([] : List zV).isEmpty = true ∧ zrk 138 = 5) (some (.inl (some (zR (some (zVB + 26)))), h)) from zGo 2 138 186 _ _ _).trans ?_
                                                refine (gd_t (⟨rfl, rfl⟩) _).trans ?_
                                                rfl
                                              · skip
                                                refine iteCF (fun x => (some (.inl (some (zR x)), h) : zO)) (fun c23 => ?_) (fun c23 => ?_)
                                                · skip
                                                  refine (show zY 138 189 [some (zI x0)] [] h = gd (([] : List zV).isEmpty = true ∧ zrk 138 = 5) (some (.inl (some (zR (some (zVB + 27)))), h)) from zGo 2 138 189 _ _ _).trans ?_
                                                  refine (gd_t (⟨rfl, rfl⟩) _).trans ?_
                                                  rfl
                                                · skip
                                                  refine iteCF (fun x => (some (.inl (some (zR x)), h) : zO)) (fun c24 => ?_) (fun c24 => ?_)
                                                  · skip
                                                    refine (show zY 138 192 [some (zI x0)] [] h = gd (([] : List zV).isEmpty = true ∧ zrk 138 = 5) (some (.inl (some (zR (some (zVB + 28)))), h)) from zGo 2 138 192 _ _ _).trans ?_
                                                    refine (gd_t (⟨rfl, rfl⟩) _).trans ?_
                                                    rfl
                                                  · skip
                                                    refine iteCF (fun x => (some (.inl (some (zR x)), h) : zO)) (fun c25 => ?_) (fun c25 => ?_)
                                                    · skip
                                                      refine (show zY 138 195 [some (zI x0)] [] h = gd (([] : List zV).isEmpty = true ∧ zrk 138 = 5) (some (.inl (some (zR (some (zVB + 29)))), h)) from zGo 2 138 195 _ _ _).trans ?_
                                                      refine (gd_t (⟨rfl, rfl⟩) _).trans ?_
                                                      rfl
                                                    · skip
                                                      refine (show zY 138 198 [some (zI x0)] [] h = gd (([] : List zV).isEmpty = true ∧ zrk 138 = 5) (some (.inl (some (zR (some (zVB + 30)))), h)) from zGo 2 138 198 _ _ _).trans ?_
                                                      refine (gd_t (⟨rfl, rfl⟩) _).trans ?_
                                                      rfl
theorem q_W_stands {h : zH} {t0 : Nat} {a1 : Nat} {x2 : Int} {x3 : Int} (tt0 : hT h t0 = 40) (ta1 : hT h a1 = 21) (na1 : a1 < hN h) : zC 139 [zR (some t0), zR (some a1), zI x2, zI x3] h =
    if x2 < 0 then
      some (.inl (some (zI 0)), h)
    else
      if (hL h a1 : Int) < x3 then
        some (.inl (some (zI 0)), h)
      else
        gd (-2147483648 ≤ x3 - x2 ∧ x3 - x2 < 2147483648) (
        if (x3 - x2) = (hL h t0 : Int) then
          zY 139 25 [some (zR (some t0)), some (zR (some a1)), some (zI x2), some (zI x3), some (zI 0)] [] h
        else
          some (.inl (some (zI 0)), h)) := by
  refine (show zC 139 [zR (some t0), zR (some a1), zI x2, zI x3] h = if x2 < 0 then zY 139 20 [some (zR (some t0)), some (zR (some a1)), some (zI x2), some (zI x3), none] [] h else zY 139 4 [some (zR (some t0)), some (zR (some a1)), some (zI x2), some (zI x3), none] [] h from zGo 2 139 0 _ _ _).trans ?_
  refine iteC (fun c0 => ?_) (fun c0 => ?_)
  · skip
    refine (show zY 139 20 [some (zR (some t0)), some (zR (some a1)), some (zI x2), some (zI x3), none] [] h = gd (inR (0)) (gd (([] : List zV).isEmpty = true ∧ (zrk 139 = 1 ∨ zrk 139 = 6 ∧ ((0 : Int) = 0 ∨ (0 : Int) = 1))) (some (.inl (some (zI 0)), h))) from zGo 2 139 20 _ _ _).trans ?_
    refine (gd_t (by decide) _).trans ?_
    refine (gd_t (⟨rfl, Or.inr ⟨rfl, by decide⟩⟩) _).trans ?_
    rfl
  · skip
    refine (show zY 139 4 [some (zR (some t0)), some (zR (some a1)), some (zI x2), some (zI x3), none] [] h = gd ((some a1).isSome = true ∧ 20 ≤ hT h (zdr (some a1)) ∧ hT h (zdr (some a1)) < 40) (if (hL h a1 : Int) < x3 then zY 139 20 [some (zR (some t0)), some (zR (some a1)), some (zI x2), some (zI x3), none] [] h else zY 139 10 [some (zR (some t0)), some (zR (some a1)), some (zI x2), some (zI x3), none] [] h) from zGo 4 139 4 _ _ _).trans ?_
    refine (gd_t (al ta1 (by decide) (by decide)) _).trans ?_
    refine iteC (fun c1 => ?_) (fun c1 => ?_)
    · skip
      refine (show zY 139 20 [some (zR (some t0)), some (zR (some a1)), some (zI x2), some (zI x3), none] [] h = gd (inR (0)) (gd (([] : List zV).isEmpty = true ∧ (zrk 139 = 1 ∨ zrk 139 = 6 ∧ ((0 : Int) = 0 ∨ (0 : Int) = 1))) (some (.inl (some (zI 0)), h))) from zGo 2 139 20 _ _ _).trans ?_
      refine (gd_t (by decide) _).trans ?_
      refine (gd_t (⟨rfl, Or.inr ⟨rfl, by decide⟩⟩) _).trans ?_
      rfl
    · skip
      refine (show zY 139 10 [some (zR (some t0)), some (zR (some a1)), some (zI x2), some (zI x3), none] [] h = gd (inR (x3 - x2)) (gd ((some t0).isSome = true ∧ hT h (zdr (some t0)) = 40 ∧ zcs [zI (x3 - x2)] ≤ 8 ∧ zrm 139 5 120 = true) (if (x3 - x2) = (hL h t0 : Int) then zY 139 22 [some (zR (some t0)), some (zR (some a1)), some (zI x2), some (zI x3), none] [] h else zY 139 20 [some (zR (some t0)), some (zR (some a1)), some (zI x2), some (zI x3), none] [] h)) from zGo 6 139 10 _ _ _).trans ?_
      refine gd_c Iff.rfl (fun c2 => ?_)
      refine (gd_t (⟨rfl, tt0, Nat.le_of_ble_eq_true rfl, rfl⟩) _).trans ?_
      refine iteC (fun c3 => ?_) (fun c3 => ?_)
      · skip
        refine (show zY 139 22 [some (zR (some t0)), some (zR (some a1)), some (zI x2), some (zI x3), none] [] h = gd (inR (0)) (zY 139 25 [some (zR (some t0)), some (zR (some a1)), some (zI x2), some (zI x3), some (zI 0)] [] h) from zGo 2 139 22 _ _ _).trans ?_
        refine (gd_t (by decide) _).trans ?_
        rfl
      · skip
        refine (show zY 139 20 [some (zR (some t0)), some (zR (some a1)), some (zI x2), some (zI x3), none] [] h = gd (inR (0)) (gd (([] : List zV).isEmpty = true ∧ (zrk 139 = 1 ∨ zrk 139 = 6 ∧ ((0 : Int) = 0 ∨ (0 : Int) = 1))) (some (.inl (some (zI 0)), h))) from zGo 2 139 20 _ _ _).trans ?_
        refine (gd_t (by decide) _).trans ?_
        refine (gd_t (⟨rfl, Or.inr ⟨rfl, by decide⟩⟩) _).trans ?_
        rfl
theorem q_W_stands_25 {h : zH} {t0 : Nat} {a1 : Nat} {x2 : Int} {x3 : Int} {x4 : Int} (tt0 : hT h t0 = 40) (ta1 : hT h a1 = 21) (na1 : a1 < hN h) : zY 139 25 [some (zR (some t0)), some (zR (some a1)), some (zI x2), some (zI x3), some (zI x4)] [] h =
    if x4 < (hL h t0 : Int) then
      gd (-2147483648 ≤ x2 + x4 ∧ x2 + x4 < 2147483648) (
      gd (0 ≤ (x2 + x4) ∧ (x2 + x4) < (hL h a1 : Int)) (
      gd (0 ≤ x4 ∧ x4 < (hL h t0 : Int)) (
      if (hI h a1 (x2 + x4).toNat) = (hI h t0 x4.toNat) then
        gd (-2147483648 ≤ x4 + 1 ∧ x4 + 1 < 2147483648) (
        zY 139 25 [some (zR (some t0)), some (zR (some a1)), some (zI x2), some (zI x3), some (zI (x4 + 1))] [] h)
      else
        some (.inl (some (zI 0)), h))))
    else
      some (.inl (some (zI 1)), h) := by
  refine (show zY 139 25 [some (zR (some t0)), some (zR (some a1)), some (zI x2), some (zI x3), some (zI x4)] [] h = gd ((some t0).isSome = true ∧ hT h (zdr (some t0)) = 40 ∧ zcs [zI x4] ≤ 8 ∧ zrm 139 5 120 = true) (if x4 < (hL h t0 : Int) then zY 139 34 [some (zR (some t0)), some (zR (some a1)), some (zI x2), some (zI x3), some (zI x4)] [] h else zY 139 57 [some (zR (some t0)), some (zR (some a1)), some (zI x2), some (zI x3), some (zI x4)] [] h) from zGo 4 139 25 _ _ _).trans ?_
  refine (gd_t (⟨rfl, tt0, Nat.le_of_ble_eq_true rfl, rfl⟩) _).trans ?_
  refine iteC (fun c0 => ?_) (fun c0 => ?_)
  · skip
    refine (show zY 139 34 [some (zR (some t0)), some (zR (some a1)), some (zI x2), some (zI x3), some (zI x4)] [] h = gd (inR (x2 + x4)) (gd (zokw h (some a1) 21 (x2 + x4) ∨ zokw h (some a1) 20 (x2 + x4)) (gd (zok h (some t0) 40 x4 ∧ zcs [zI (hI h a1 (x2 + x4).toNat)] ≤ 8 ∧ zrm 139 5 120 = true) (if (hI h a1 (x2 + x4).toNat) = (hI h t0 x4.toNat) then zY 139 51 [some (zR (some t0)), some (zR (some a1)), some (zI x2), some (zI x3), some (zI x4)] [] h else zY 139 49 [some (zR (some t0)), some (zR (some a1)), some (zI x2), some (zI x3), some (zI x4)] [] h))) from zGo 9 139 34 _ _ _).trans ?_
    refine gd_c Iff.rfl (fun c1 => ?_)
    refine gd_c (cib21 ta1 na1 rfl) (fun c2 => ?_)
    refine gd_c (⟨fun a => ⟨a.1.2.2.1, a.1.2.2.2⟩, fun a => ⟨⟨rfl, tt0, a.1, a.2⟩, Nat.le_of_ble_eq_true rfl, rfl⟩⟩) (fun c3 => ?_)
    refine iteC (fun c4 => ?_) (fun c4 => ?_)
    · skip
      refine (show zY 139 51 [some (zR (some t0)), some (zR (some a1)), some (zI x2), some (zI x3), some (zI x4)] [] h = gd (inR (x4 + 1)) (gd (inR (1)) (zY 139 25 [some (zR (some t0)), some (zR (some a1)), some (zI x2), some (zI x3), some (zI (x4 + 1))] [] h)) from zGo 2 139 51 _ _ _).trans ?_
      refine gd_c Iff.rfl (fun c5 => ?_)
      refine (gd_t (by decide) _).trans ?_
      rfl
    · skip
      refine (show zY 139 49 [some (zR (some t0)), some (zR (some a1)), some (zI x2), some (zI x3), some (zI x4)] [] h = gd (inR (0)) (gd (([] : List zV).isEmpty = true ∧ (zrk 139 = 1 ∨ zrk 139 = 6 ∧ ((0 : Int) = 0 ∨ (0 : Int) = 1))) (some (.inl (some (zI 0)), h))) from zGo 2 139 49 _ _ _).trans ?_
      refine (gd_t (by decide) _).trans ?_
      refine (gd_t (⟨rfl, Or.inr ⟨rfl, by decide⟩⟩) _).trans ?_
      rfl
  · skip
    refine (show zY 139 57 [some (zR (some t0)), some (zR (some a1)), some (zI x2), some (zI x3), some (zI x4)] [] h = gd (inR (1)) (gd (([] : List zV).isEmpty = true ∧ (zrk 139 = 1 ∨ zrk 139 = 6 ∧ ((1 : Int) = 0 ∨ (1 : Int) = 1))) (some (.inl (some (zI 1)), h))) from zGo 2 139 57 _ _ _).trans ?_
    refine (gd_t (by decide) _).trans ?_
    refine (gd_t (⟨rfl, Or.inr ⟨rfl, by decide⟩⟩) _).trans ?_
    rfl
theorem q_W_find {h : zH} {a0 : Nat} {x1 : Int} {x2 : Int} (ta0 : hT h a0 = 21) (na0 : a0 < hN h) : zC 137 [zR (some a0), zI x1, zI x2] h =
    zY 137 2 [some (zR (some a0)), some (zI x1), some (zI x2), some (zI 4)] [] h := by
  refine (show zC 137 [zR (some a0), zI x1, zI x2] h = gd (inR (4)) (zY 137 2 [some (zR (some a0)), some (zI x1), some (zI x2), some (zI 4)] [] h) from zGo 2 137 0 _ _ _).trans ?_
  refine (gd_t (by decide) _).trans ?_
  rfl
theorem q_W_find_2 {h : zH} {a0 : Nat} {x1 : Int} {x2 : Int} {x3 : Int} {t : Nat} (ta0 : hT h a0 = 21) (na0 : a0 < hN h) (rt : (f_W_text x3) = some t) (tt : hT h t = 40) : zY 137 2 [some (zR (some a0)), some (zI x1), some (zI x2), some (zI x3)] [] h =
    if x3 < 26 then
      zBack zY 137 15 18 [some (zR (some a0)), some (zI x1), some (zI x2), some (zI x3)] [] (zC 139 [zR (some t), zR (some a0), zI x1, zI x2] h)
    else
      some (.inl (some (zI 26)), h) := by
  refine (show zY 137 2 [some (zR (some a0)), some (zI x1), some (zI x2), some (zI x3)] [] h = gd (-128 ≤ (26 : Int) ∧ (26 : Int) < 128) (if x3 < 26 then zY 137 8 [some (zR (some a0)), some (zI x1), some (zI x2), some (zI x3)] [] h else zY 137 29 [some (zR (some a0)), some (zI x1), some (zI x2), some (zI x3)] [] h) from zGo 3 137 2 _ _ _).trans ?_
  refine (gd_t (by decide) _).trans ?_
  refine iteC (fun c0 => ?_) (fun c0 => ?_)
  · skip
    refine (show zY 137 8 [some (zR (some a0)), some (zI x1), some (zI x2), some (zI x3)] [] h = gd (false = zctor 138 ∧ zcs [] ≤ 8 ∧ zrm 137 (zrf 138 + 1) (8 + (zmaxl 138 + 11) + zrl 138) = true ∧ zcs [zI x3] ≤ zmaxl 138) (zBack zY 137 9 12 [some (zR (some a0)), some (zI x1), some (zI x2), some (zI x3)] [] (zC 138 [zI x3] h)) from zGo 2 137 8 _ _ _).trans ?_
    refine (gd_t (⟨rfl, Nat.le_of_ble_eq_true rfl, rfl, Nat.le_of_ble_eq_true rfl⟩) _).trans ?_
    refine (congrArg (zBack zY 137 9 12 [some (zR (some a0)), some (zI x1), some (zI x2), some (zI x3)] []) (e_W_text)).trans ?_
    refine (congrArg (fun r => zBack zY 137 9 12 [some (zR (some a0)), some (zI x1), some (zI x2), some (zI x3)] [] (some (.inl (some (zR r)), h))) rt).trans ?_
    refine (show zY 137 12 [some (zR (some a0)), some (zI x1), some (zI x2), some (zI x3)] [zR (some t)] h = gd (false = zctor 139 ∧ zcs [] ≤ 8 ∧ zrm 137 (zrf 139 + 1) (8 + (zmaxl 139 + 11) + zrl 139) = true ∧ zcs [zR (some t), zR (some a0), zI x1, zI x2] ≤ zmaxl 139) (zBack zY 137 15 18 [some (zR (some a0)), some (zI x1), some (zI x2), some (zI x3)] [] (zC 139 [zR (some t), zR (some a0), zI x1, zI x2] h)) from zGo 4 137 12 _ _ _).trans ?_
    refine (gd_t (⟨rfl, Nat.le_of_ble_eq_true rfl, rfl, Nat.le_of_ble_eq_true rfl⟩) _).trans ?_
    rfl
  · skip
    refine (show zY 137 29 [some (zR (some a0)), some (zI x1), some (zI x2), some (zI x3)] [] h = gd (-128 ≤ (26 : Int) ∧ (26 : Int) < 128) (gd (([] : List zV).isEmpty = true ∧ (zrk 137 = 1 ∨ zrk 137 = 6 ∧ ((26 : Int) = 0 ∨ (26 : Int) = 1))) (some (.inl (some (zI 26)), h))) from zGo 2 137 29 _ _ _).trans ?_
    refine (gd_t (by decide) _).trans ?_
    refine (gd_t (⟨rfl, Or.inl rfl⟩) _).trans ?_
    rfl
theorem q_W_find_r18 {h : zH} {a0 : Nat} {x1 : Int} {x2 : Int} {x3 : Int} {y : Int} (ta0 : hT h a0 = 21) (na0 : a0 < hN h) : zBack zY 137 15 18 [some (zR (some a0)), some (zI x1), some (zI x2), some (zI x3)] [] (some (.inl (some (zI y)), h)) =
    if y = 0 then
      gd (-2147483648 ≤ x3 + 1 ∧ x3 + 1 < 2147483648) (
      zY 137 2 [some (zR (some a0)), some (zI x1), some (zI x2), some (zI (x3 + 1))] [] h)
    else
      some (.inl (some (zI x3)), h) := by
  refine (show zBack zY 137 15 18 [some (zR (some a0)), some (zI x1), some (zI x2), some (zI x3)] [] (some (.inl (some (zI y)), h)) = if y = 0 then zY 137 23 [some (zR (some a0)), some (zI x1), some (zI x2), some (zI x3)] [] h else zY 137 21 [some (zR (some a0)), some (zI x1), some (zI x2), some (zI x3)] [] h from zGo 1 137 18 _ _ _).trans ?_
  refine iteC (fun c0 => ?_) (fun c0 => ?_)
  · skip
    refine (show zY 137 23 [some (zR (some a0)), some (zI x1), some (zI x2), some (zI x3)] [] h = gd (inR (x3 + 1)) (gd (inR (1)) (zY 137 2 [some (zR (some a0)), some (zI x1), some (zI x2), some (zI (x3 + 1))] [] h)) from zGo 2 137 23 _ _ _).trans ?_
    refine gd_c Iff.rfl (fun c1 => ?_)
    refine (gd_t (by decide) _).trans ?_
    rfl
  · skip
    refine (show zY 137 21 [some (zR (some a0)), some (zI x1), some (zI x2), some (zI x3)] [] h = gd (([] : List zV).isEmpty = true ∧ (zrk 137 = 1 ∨ zrk 137 = 6 ∧ ((x3 : Int) = 0 ∨ (x3 : Int) = 1))) (some (.inl (some (zI x3)), h)) from zGo 2 137 21 _ _ _).trans ?_
    refine (gd_t (⟨rfl, Or.inl rfl⟩) _).trans ?_
    rfl
theorem q_W_spell {h : zH} {t0 : Nat} {a1 : Nat} {x2 : Int} (tt0 : hT h t0 = 40) (ta1 : hT h a1 = 21) (na1 : a1 < hN h) : zC 136 [zR (some t0), zR (some a1), zI x2] h =
    zY 136 9 [some (zR (some t0)), some (zR (some a1)), some (zI x2), some (zI (f_Ma_max x2 0)), some (zI 0)] [] h := by
  refine (show zC 136 [zR (some t0), zR (some a1), zI x2] h = gd (inR (0)) (gd (false = zctor 223 ∧ zcs [] ≤ 8 ∧ zrm 136 (zrf 223 + 1) (8 + (zmaxl 223 + 11) + zrl 223) = true ∧ zcs [zI x2, zI 0] ≤ zmaxl 223) (zBack zY 136 2 5 [some (zR (some t0)), some (zR (some a1)), some (zI x2), none, none] [] (zC 223 [zI x2, zI 0] h))) from zGo 3 136 0 _ _ _).trans ?_
  refine (gd_t (by decide) _).trans ?_
  refine (gd_t (⟨rfl, Nat.le_of_ble_eq_true rfl, rfl, Nat.le_of_ble_eq_true rfl⟩) _).trans ?_
  refine (congrArg (zBack zY 136 2 5 [some (zR (some t0)), some (zR (some a1)), some (zI x2), none, none] []) (e_Ma_max)).trans ?_
  refine (show zY 136 5 [some (zR (some t0)), some (zR (some a1)), some (zI x2), none, none] [zI (f_Ma_max x2 0)] h = gd (inR (0)) (zY 136 9 [some (zR (some t0)), some (zR (some a1)), some (zI x2), some (zI (f_Ma_max x2 0)), some (zI 0)] [] h) from zGo 3 136 5 _ _ _).trans ?_
  refine (gd_t (by decide) _).trans ?_
  rfl
theorem q_W_spell_9 {h : zH} {t0 : Nat} {a1 : Nat} {x2 : Int} {x3 : Int} {x4 : Int} (tt0 : hT h t0 = 40) (ta1 : hT h a1 = 21) (na1 : a1 < hN h) : zY 136 9 [some (zR (some t0)), some (zR (some a1)), some (zI x2), some (zI x3), some (zI x4)] [] h =
    if x4 < (hL h t0 : Int) then
      if x3 < (hL h a1 : Int) then
        gd (0 ≤ x4 ∧ x4 < (hL h t0 : Int)) (
        gd (0 ≤ x3 ∧ x3 < (hL h a1 : Int)) (
        gd (-2147483648 ≤ x3 + 1 ∧ x3 + 1 < 2147483648) (
        gd (-2147483648 ≤ x4 + 1 ∧ x4 + 1 < 2147483648) (
        zY 136 9 [some (zR (some t0)), some (zR (some a1)), some (zI x2), some (zI (x3 + 1)), some (zI (x4 + 1))] [] (sI h a1 x3.toNat (zi2b (hI h t0 x4.toNat)))))))
      else
        some (.inl (some (zI x3)), h)
    else
      some (.inl (some (zI x3)), h) := by
  refine (show zY 136 9 [some (zR (some t0)), some (zR (some a1)), some (zI x2), some (zI x3), some (zI x4)] [] h = gd ((some t0).isSome = true ∧ hT h (zdr (some t0)) = 40 ∧ zcs [zI x4] ≤ 8 ∧ zrm 136 5 120 = true) (if x4 < (hL h t0 : Int) then zY 136 18 [some (zR (some t0)), some (zR (some a1)), some (zI x2), some (zI x3), some (zI x4)] [] h else zY 136 43 [some (zR (some t0)), some (zR (some a1)), some (zI x2), some (zI x3), some (zI x4)] [] h) from zGo 4 136 9 _ _ _).trans ?_
  refine (gd_t (⟨rfl, tt0, Nat.le_of_ble_eq_true rfl, rfl⟩) _).trans ?_
  refine iteC (fun c0 => ?_) (fun c0 => ?_)
  · skip
    refine (show zY 136 18 [some (zR (some t0)), some (zR (some a1)), some (zI x2), some (zI x3), some (zI x4)] [] h = gd ((some a1).isSome = true ∧ 20 ≤ hT h (zdr (some a1)) ∧ hT h (zdr (some a1)) < 40) (if x3 < (hL h a1 : Int) then zY 136 24 [some (zR (some t0)), some (zR (some a1)), some (zI x2), some (zI x3), some (zI x4)] [] h else zY 136 43 [some (zR (some t0)), some (zR (some a1)), some (zI x2), some (zI x3), some (zI x4)] [] h) from zGo 4 136 18 _ _ _).trans ?_
    refine (gd_t (al ta1 (by decide) (by decide)) _).trans ?_
    refine iteC (fun c1 => ?_) (fun c1 => ?_)
    · skip
      refine (show zY 136 24 [some (zR (some t0)), some (zR (some a1)), some (zI x2), some (zI x3), some (zI x4)] [] h = gd (zok h (some t0) 40 x4 ∧ zcs [zI x3, zR (some a1)] ≤ 8 ∧ zrm 136 5 120 = true) (gd (zokw h (some a1) 21 x3 ∨ zokw h (some a1) 20 x3) (gd (-128 ≤ ((zi2b (hI h t0 x4.toNat)) : Int) ∧ ((zi2b (hI h t0 x4.toNat)) : Int) < 128 ∧ (hT h (zdr (some a1)) = 20 → ((zi2b (hI h t0 x4.toNat)) : Int) = 0 ∨ ((zi2b (hI h t0 x4.toNat)) : Int) = 1)) (gd (inR (x3 + 1)) (gd (inR (1)) (gd (inR (x4 + 1)) (gd (inR (1)) (zY 136 9 [some (zR (some t0)), some (zR (some a1)), some (zI x2), some (zI (x3 + 1)), some (zI (x4 + 1))] [] (sI h a1 x3.toNat (zi2b (hI h t0 x4.toNat)))))))))) from zGo 10 136 24 _ _ _).trans ?_
      refine gd_c (⟨fun a => ⟨a.1.2.2.1, a.1.2.2.2⟩, fun a => ⟨⟨rfl, tt0, a.1, a.2⟩, Nat.le_of_ble_eq_true rfl, rfl⟩⟩) (fun c2 => ?_)
      refine gd_c (cib21 ta1 na1 rfl) (fun c3 => ?_)
      refine (gd_t (⟨zi2b_l _, zi2b_u _, fun e => absurd (e.symm.trans ta1) (by decide)⟩) _).trans ?_
      refine gd_c Iff.rfl (fun c4 => ?_)
      refine (gd_t (by decide) _).trans ?_
      refine gd_c Iff.rfl (fun c5 => ?_)
      refine (gd_t (by decide) _).trans ?_
      rfl
    · skip
      refine (show zY 136 43 [some (zR (some t0)), some (zR (some a1)), some (zI x2), some (zI x3), some (zI x4)] [] h = gd (([] : List zV).isEmpty = true ∧ (zrk 136 = 1 ∨ zrk 136 = 6 ∧ ((x3 : Int) = 0 ∨ (x3 : Int) = 1))) (some (.inl (some (zI x3)), h)) from zGo 2 136 43 _ _ _).trans ?_
      refine (gd_t (⟨rfl, Or.inl rfl⟩) _).trans ?_
      rfl
  · skip
    refine (show zY 136 43 [some (zR (some t0)), some (zR (some a1)), some (zI x2), some (zI x3), some (zI x4)] [] h = gd (([] : List zV).isEmpty = true ∧ (zrk 136 = 1 ∨ zrk 136 = 6 ∧ ((x3 : Int) = 0 ∨ (x3 : Int) = 1))) (some (.inl (some (zI x3)), h)) from zGo 2 136 43 _ _ _).trans ?_
    refine (gd_t (⟨rfl, Or.inl rfl⟩) _).trans ?_
    rfl
theorem q_Sc_behindBlanks {h : zH} {x1 : Int} (KC : KC h) : zC 84 [zR (some 7), zI x1] h =
    zY 84 4 [some (zR (some 7)), some (zI x1), some (zI x1), some (zI 0)] [] h := by
  refine (show zC 84 [zR (some 7), zI x1] h = gd (inR (0)) (zY 84 4 [some (zR (some 7)), some (zI x1), some (zI x1), some (zI 0)] [] h) from zGo 4 84 0 _ _ _).trans ?_
  refine (gd_t (by decide) _).trans ?_
  rfl
theorem q_Sc_behindBlanks_4 {h : zH} {x1 : Int} {x2 : Int} {x3 : Int} (KC : KC h) : zY 84 4 [some (zR (some 7)), some (zI x1), some (zI x2), some (zI x3)] [] h =
    if x3 < 800 then
      if (f_Sc_byteAt h x2) = 32 then
        gd (-2147483648 ≤ x2 + 1 ∧ x2 + 1 < 2147483648) (
        gd (-2147483648 ≤ x3 + 1 ∧ x3 + 1 < 2147483648) (
        zY 84 4 [some (zR (some 7)), some (zI x1), some (zI (x2 + 1)), some (zI (x3 + 1))] [] h))
      else
        if (f_Sc_byteAt h x2) = 10 then
          gd (-2147483648 ≤ x2 + 1 ∧ x2 + 1 < 2147483648) (
          gd (-2147483648 ≤ x3 + 1 ∧ x3 + 1 < 2147483648) (
          zY 84 4 [some (zR (some 7)), some (zI x1), some (zI (x2 + 1)), some (zI (x3 + 1))] [] h))
        else
          some (.inl (some (zI x2)), h)
    else
      some (.inl (some (zI x2)), h) := by
  refine (show zY 84 4 [some (zR (some 7)), some (zI x1), some (zI x2), some (zI x3)] [] h = gd (-32768 ≤ (800 : Int) ∧ (800 : Int) < 32768) (if x3 < 800 then zY 84 11 [some (zR (some 7)), some (zI x1), some (zI x2), some (zI x3)] [] h else zY 84 40 [some (zR (some 7)), some (zI x1), some (zI x2), some (zI x3)] [] h) from zGo 3 84 4 _ _ _).trans ?_
  refine (gd_t (by decide) _).trans ?_
  refine iteC (fun c0 => ?_) (fun c0 => ?_)
  · skip
    refine (show zY 84 11 [some (zR (some 7)), some (zI x1), some (zI x2), some (zI x3)] [] h = gd (false = zctor 85 ∧ zcs [] ≤ 8 ∧ zrm 84 (zrf 85 + 1) (8 + (zmaxl 85 + 11) + zrl 85) = true ∧ zcs [zR (some 7), zI x2] ≤ zmaxl 85) (gd (zob h (some 7) 7) (zBack zY 84 13 16 [some (zR (some 7)), some (zI x1), some (zI x2), some (zI x3)] [] (zC 85 [zR (some 7), zI x2] h))) from zGo 3 84 11 _ _ _).trans ?_
    refine (gd_t (⟨rfl, Nat.le_of_ble_eq_true rfl, rfl, Nat.le_of_ble_eq_true rfl⟩) _).trans ?_
    refine (gd_t (⟨rfl, (PTC KC 7 _ rfl rfl), (PNC KC 7 rfl)⟩) _).trans ?_
    refine (congrArg (zBack zY 84 13 16 [some (zR (some 7)), some (zI x1), some (zI x2), some (zI x3)] []) (e_Sc_byteAt KC)).trans ?_
    refine (show zY 84 16 [some (zR (some 7)), some (zI x1), some (zI x2), some (zI x3)] [zI (f_Sc_byteAt h x2)] h = gd (-128 ≤ (32 : Int) ∧ (32 : Int) < 128) (if (f_Sc_byteAt h x2) = 32 then zY 84 31 [some (zR (some 7)), some (zI x1), some (zI x2), some (zI x3)] [] h else zY 84 21 [some (zR (some 7)), some (zI x1), some (zI x2), some (zI x3)] [] h) from zGo 2 84 16 _ _ _).trans ?_
    refine (gd_t (by decide) _).trans ?_
    refine iteC (fun c1 => ?_) (fun c1 => ?_)
    · skip
      refine (show zY 84 31 [some (zR (some 7)), some (zI x1), some (zI x2), some (zI x3)] [] h = gd (inR (x2 + 1)) (gd (inR (1)) (gd (inR (x3 + 1)) (gd (inR (1)) (zY 84 4 [some (zR (some 7)), some (zI x1), some (zI (x2 + 1)), some (zI (x3 + 1))] [] h)))) from zGo 3 84 31 _ _ _).trans ?_
      refine gd_c Iff.rfl (fun c2 => ?_)
      refine (gd_t (by decide) _).trans ?_
      refine gd_c Iff.rfl (fun c3 => ?_)
      refine (gd_t (by decide) _).trans ?_
      rfl
    · skip
      refine (show zY 84 21 [some (zR (some 7)), some (zI x1), some (zI x2), some (zI x3)] [] h = gd (false = zctor 85 ∧ zcs [] ≤ 8 ∧ zrm 84 (zrf 85 + 1) (8 + (zmaxl 85 + 11) + zrl 85) = true ∧ zcs [zR (some 7), zI x2] ≤ zmaxl 85) (gd (zob h (some 7) 7) (zBack zY 84 23 26 [some (zR (some 7)), some (zI x1), some (zI x2), some (zI x3)] [] (zC 85 [zR (some 7), zI x2] h))) from zGo 3 84 21 _ _ _).trans ?_
      refine (gd_t (⟨rfl, Nat.le_of_ble_eq_true rfl, rfl, Nat.le_of_ble_eq_true rfl⟩) _).trans ?_
      refine (gd_t (⟨rfl, (PTC KC 7 _ rfl rfl), (PNC KC 7 rfl)⟩) _).trans ?_
      refine (congrArg (zBack zY 84 23 26 [some (zR (some 7)), some (zI x1), some (zI x2), some (zI x3)] []) (e_Sc_byteAt KC)).trans ?_
      refine (show zY 84 26 [some (zR (some 7)), some (zI x1), some (zI x2), some (zI x3)] [zI (f_Sc_byteAt h x2)] h = gd (-128 ≤ (10 : Int) ∧ (10 : Int) < 128) (if (f_Sc_byteAt h x2) = 10 then zY 84 31 [some (zR (some 7)), some (zI x1), some (zI x2), some (zI x3)] [] h else zY 84 40 [some (zR (some 7)), some (zI x1), some (zI x2), some (zI x3)] [] h) from zGo 2 84 26 _ _ _).trans ?_
      refine (gd_t (by decide) _).trans ?_
      refine iteC (fun c4 => ?_) (fun c4 => ?_)
      · skip
        refine (show zY 84 31 [some (zR (some 7)), some (zI x1), some (zI x2), some (zI x3)] [] h = gd (inR (x2 + 1)) (gd (inR (1)) (gd (inR (x3 + 1)) (gd (inR (1)) (zY 84 4 [some (zR (some 7)), some (zI x1), some (zI (x2 + 1)), some (zI (x3 + 1))] [] h)))) from zGo 3 84 31 _ _ _).trans ?_
        refine gd_c Iff.rfl (fun c5 => ?_)
        refine (gd_t (by decide) _).trans ?_
        refine gd_c Iff.rfl (fun c6 => ?_)
        refine (gd_t (by decide) _).trans ?_
        rfl
      · skip
        refine (show zY 84 40 [some (zR (some 7)), some (zI x1), some (zI x2), some (zI x3)] [] h = gd (([] : List zV).isEmpty = true ∧ (zrk 84 = 1 ∨ zrk 84 = 6 ∧ ((x2 : Int) = 0 ∨ (x2 : Int) = 1))) (some (.inl (some (zI x2)), h)) from zGo 2 84 40 _ _ _).trans ?_
        refine (gd_t (⟨rfl, Or.inl rfl⟩) _).trans ?_
        rfl
  · skip
    refine (show zY 84 40 [some (zR (some 7)), some (zI x1), some (zI x2), some (zI x3)] [] h = gd (([] : List zV).isEmpty = true ∧ (zrk 84 = 1 ∨ zrk 84 = 6 ∧ ((x2 : Int) = 0 ∨ (x2 : Int) = 1))) (some (.inl (some (zI x2)), h)) from zGo 2 84 40 _ _ _).trans ?_
    refine (gd_t (⟨rfl, Or.inl rfl⟩) _).trans ?_
    rfl
theorem q_Sc_behindLetters {h : zH} {x1 : Int} (KC : KC h) : zC 87 [zR (some 7), zI x1] h =
    zY 87 4 [some (zR (some 7)), some (zI x1), some (zI x1), some (zI 0)] [] h := by
  refine (show zC 87 [zR (some 7), zI x1] h = gd (inR (0)) (zY 87 4 [some (zR (some 7)), some (zI x1), some (zI x1), some (zI 0)] [] h) from zGo 4 87 0 _ _ _).trans ?_
  refine (gd_t (by decide) _).trans ?_
  rfl
theorem q_Sc_behindLetters_4 {h : zH} {x1 : Int} {x2 : Int} {x3 : Int} (KC : KC h) : zY 87 4 [some (zR (some 7)), some (zI x1), some (zI x2), some (zI x3)] [] h =
    if x3 < 800 then
      if b_Sc_isLetter (f_Sc_byteAt h x2) then
        gd (-2147483648 ≤ x2 + 1 ∧ x2 + 1 < 2147483648) (
        gd (-2147483648 ≤ x3 + 1 ∧ x3 + 1 < 2147483648) (
        zY 87 4 [some (zR (some 7)), some (zI x1), some (zI (x2 + 1)), some (zI (x3 + 1))] [] h))
      else
        some (.inl (some (zI x2)), h)
    else
      some (.inl (some (zI x2)), h) := by
  refine (show zY 87 4 [some (zR (some 7)), some (zI x1), some (zI x2), some (zI x3)] [] h = gd (-32768 ≤ (800 : Int) ∧ (800 : Int) < 32768) (if x3 < 800 then zY 87 11 [some (zR (some 7)), some (zI x1), some (zI x2), some (zI x3)] [] h else zY 87 31 [some (zR (some 7)), some (zI x1), some (zI x2), some (zI x3)] [] h) from zGo 3 87 4 _ _ _).trans ?_
  refine (gd_t (by decide) _).trans ?_
  refine iteC (fun c0 => ?_) (fun c0 => ?_)
  · skip
    refine (show zY 87 11 [some (zR (some 7)), some (zI x1), some (zI x2), some (zI x3)] [] h = gd (false = zctor 85 ∧ zcs [] ≤ 8 ∧ zrm 87 (zrf 85 + 1) (8 + (zmaxl 85 + 11) + zrl 85) = true ∧ zcs [zR (some 7), zI x2] ≤ zmaxl 85) (gd (zob h (some 7) 7) (zBack zY 87 13 16 [some (zR (some 7)), some (zI x1), some (zI x2), some (zI x3)] [] (zC 85 [zR (some 7), zI x2] h))) from zGo 3 87 11 _ _ _).trans ?_
    refine (gd_t (⟨rfl, Nat.le_of_ble_eq_true rfl, rfl, Nat.le_of_ble_eq_true rfl⟩) _).trans ?_
    refine (gd_t (⟨rfl, (PTC KC 7 _ rfl rfl), (PNC KC 7 rfl)⟩) _).trans ?_
    refine (congrArg (zBack zY 87 13 16 [some (zR (some 7)), some (zI x1), some (zI x2), some (zI x3)] []) (e_Sc_byteAt KC)).trans ?_
    refine (show zY 87 16 [some (zR (some 7)), some (zI x1), some (zI x2), some (zI x3)] [zI (f_Sc_byteAt h x2)] h = gd (false = zctor 86 ∧ zcs [] ≤ 8 ∧ zrm 87 (zrf 86 + 1) (8 + (zmaxl 86 + 11) + zrl 86) = true ∧ zcs [zI (f_Sc_byteAt h x2)] ≤ zmaxl 86) (zBack zY 87 16 19 [some (zR (some 7)), some (zI x1), some (zI x2), some (zI x3)] [] (zC 86 [zI (f_Sc_byteAt h x2)] h)) from zGo 1 87 16 _ _ _).trans ?_
    refine (gd_t (⟨rfl, Nat.le_of_ble_eq_true rfl, rfl, Nat.le_of_ble_eq_true rfl⟩) _).trans ?_
    refine (congrArg (zBack zY 87 16 19 [some (zR (some 7)), some (zI x1), some (zI x2), some (zI x3)] []) (e_Sc_isLetter)).trans ?_
    refine (show zY 87 19 [some (zR (some 7)), some (zI x1), some (zI x2), some (zI x3)] [zI (if b_Sc_isLetter (f_Sc_byteAt h x2) then (1 : Int) else 0)] h = if (if b_Sc_isLetter (f_Sc_byteAt h x2) then (1 : Int) else 0) = 0 then zY 87 31 [some (zR (some 7)), some (zI x1), some (zI x2), some (zI x3)] [] h else zY 87 22 [some (zR (some 7)), some (zI x1), some (zI x2), some (zI x3)] [] h from zGo 1 87 19 _ _ _).trans ?_
    refine iteB (fun c1 => ?_) (fun c1 => ?_)
    · skip
      refine (show zY 87 22 [some (zR (some 7)), some (zI x1), some (zI x2), some (zI x3)] [] h = gd (inR (x2 + 1)) (gd (inR (1)) (gd (inR (x3 + 1)) (gd (inR (1)) (zY 87 4 [some (zR (some 7)), some (zI x1), some (zI (x2 + 1)), some (zI (x3 + 1))] [] h)))) from zGo 3 87 22 _ _ _).trans ?_
      refine gd_c Iff.rfl (fun c2 => ?_)
      refine (gd_t (by decide) _).trans ?_
      refine gd_c Iff.rfl (fun c3 => ?_)
      refine (gd_t (by decide) _).trans ?_
      rfl
    · skip
      refine (show zY 87 31 [some (zR (some 7)), some (zI x1), some (zI x2), some (zI x3)] [] h = gd (([] : List zV).isEmpty = true ∧ (zrk 87 = 1 ∨ zrk 87 = 6 ∧ ((x2 : Int) = 0 ∨ (x2 : Int) = 1))) (some (.inl (some (zI x2)), h)) from zGo 2 87 31 _ _ _).trans ?_
      refine (gd_t (⟨rfl, Or.inl rfl⟩) _).trans ?_
      rfl
  · skip
    refine (show zY 87 31 [some (zR (some 7)), some (zI x1), some (zI x2), some (zI x3)] [] h = gd (([] : List zV).isEmpty = true ∧ (zrk 87 = 1 ∨ zrk 87 = 6 ∧ ((x2 : Int) = 0 ∨ (x2 : Int) = 1))) (some (.inl (some (zI x2)), h)) from zGo 2 87 31 _ _ _).trans ?_
    refine (gd_t (⟨rfl, Or.inl rfl⟩) _).trans ?_
    rfl
theorem q_Sc_behindDigits {h : zH} {x1 : Int} (KC : KC h) : zC 89 [zR (some 7), zI x1] h =
    zY 89 4 [some (zR (some 7)), some (zI x1), some (zI x1), some (zI 0)] [] h := by
  refine (show zC 89 [zR (some 7), zI x1] h = gd (inR (0)) (zY 89 4 [some (zR (some 7)), some (zI x1), some (zI x1), some (zI 0)] [] h) from zGo 4 89 0 _ _ _).trans ?_
  refine (gd_t (by decide) _).trans ?_
  rfl
theorem q_Sc_behindDigits_4 {h : zH} {x1 : Int} {x2 : Int} {x3 : Int} (KC : KC h) : zY 89 4 [some (zR (some 7)), some (zI x1), some (zI x2), some (zI x3)] [] h =
    if x3 < 800 then
      if b_Sc_isDigit (f_Sc_byteAt h x2) then
        gd (-2147483648 ≤ x2 + 1 ∧ x2 + 1 < 2147483648) (
        gd (-2147483648 ≤ x3 + 1 ∧ x3 + 1 < 2147483648) (
        zY 89 4 [some (zR (some 7)), some (zI x1), some (zI (x2 + 1)), some (zI (x3 + 1))] [] h))
      else
        some (.inl (some (zI x2)), h)
    else
      some (.inl (some (zI x2)), h) := by
  refine (show zY 89 4 [some (zR (some 7)), some (zI x1), some (zI x2), some (zI x3)] [] h = gd (-32768 ≤ (800 : Int) ∧ (800 : Int) < 32768) (if x3 < 800 then zY 89 11 [some (zR (some 7)), some (zI x1), some (zI x2), some (zI x3)] [] h else zY 89 31 [some (zR (some 7)), some (zI x1), some (zI x2), some (zI x3)] [] h) from zGo 3 89 4 _ _ _).trans ?_
  refine (gd_t (by decide) _).trans ?_
  refine iteC (fun c0 => ?_) (fun c0 => ?_)
  · skip
    refine (show zY 89 11 [some (zR (some 7)), some (zI x1), some (zI x2), some (zI x3)] [] h = gd (false = zctor 85 ∧ zcs [] ≤ 8 ∧ zrm 89 (zrf 85 + 1) (8 + (zmaxl 85 + 11) + zrl 85) = true ∧ zcs [zR (some 7), zI x2] ≤ zmaxl 85) (gd (zob h (some 7) 7) (zBack zY 89 13 16 [some (zR (some 7)), some (zI x1), some (zI x2), some (zI x3)] [] (zC 85 [zR (some 7), zI x2] h))) from zGo 3 89 11 _ _ _).trans ?_
    refine (gd_t (⟨rfl, Nat.le_of_ble_eq_true rfl, rfl, Nat.le_of_ble_eq_true rfl⟩) _).trans ?_
    refine (gd_t (⟨rfl, (PTC KC 7 _ rfl rfl), (PNC KC 7 rfl)⟩) _).trans ?_
    refine (congrArg (zBack zY 89 13 16 [some (zR (some 7)), some (zI x1), some (zI x2), some (zI x3)] []) (e_Sc_byteAt KC)).trans ?_
    refine (show zY 89 16 [some (zR (some 7)), some (zI x1), some (zI x2), some (zI x3)] [zI (f_Sc_byteAt h x2)] h = gd (false = zctor 88 ∧ zcs [] ≤ 8 ∧ zrm 89 (zrf 88 + 1) (8 + (zmaxl 88 + 11) + zrl 88) = true ∧ zcs [zI (f_Sc_byteAt h x2)] ≤ zmaxl 88) (zBack zY 89 16 19 [some (zR (some 7)), some (zI x1), some (zI x2), some (zI x3)] [] (zC 88 [zI (f_Sc_byteAt h x2)] h)) from zGo 1 89 16 _ _ _).trans ?_
    refine (gd_t (⟨rfl, Nat.le_of_ble_eq_true rfl, rfl, Nat.le_of_ble_eq_true rfl⟩) _).trans ?_
    refine (congrArg (zBack zY 89 16 19 [some (zR (some 7)), some (zI x1), some (zI x2), some (zI x3)] []) (e_Sc_isDigit)).trans ?_
    refine (show zY 89 19 [some (zR (some 7)), some (zI x1), some (zI x2), some (zI x3)] [zI (if b_Sc_isDigit (f_Sc_byteAt h x2) then (1 : Int) else 0)] h = if (if b_Sc_isDigit (f_Sc_byteAt h x2) then (1 : Int) else 0) = 0 then zY 89 31 [some (zR (some 7)), some (zI x1), some (zI x2), some (zI x3)] [] h else zY 89 22 [some (zR (some 7)), some (zI x1), some (zI x2), some (zI x3)] [] h from zGo 1 89 19 _ _ _).trans ?_
    refine iteB (fun c1 => ?_) (fun c1 => ?_)
    · skip
      refine (show zY 89 22 [some (zR (some 7)), some (zI x1), some (zI x2), some (zI x3)] [] h = gd (inR (x2 + 1)) (gd (inR (1)) (gd (inR (x3 + 1)) (gd (inR (1)) (zY 89 4 [some (zR (some 7)), some (zI x1), some (zI (x2 + 1)), some (zI (x3 + 1))] [] h)))) from zGo 3 89 22 _ _ _).trans ?_
      refine gd_c Iff.rfl (fun c2 => ?_)
      refine (gd_t (by decide) _).trans ?_
      refine gd_c Iff.rfl (fun c3 => ?_)
      refine (gd_t (by decide) _).trans ?_
      rfl
    · skip
      refine (show zY 89 31 [some (zR (some 7)), some (zI x1), some (zI x2), some (zI x3)] [] h = gd (([] : List zV).isEmpty = true ∧ (zrk 89 = 1 ∨ zrk 89 = 6 ∧ ((x2 : Int) = 0 ∨ (x2 : Int) = 1))) (some (.inl (some (zI x2)), h)) from zGo 2 89 31 _ _ _).trans ?_
      refine (gd_t (⟨rfl, Or.inl rfl⟩) _).trans ?_
      rfl
  · skip
    refine (show zY 89 31 [some (zR (some 7)), some (zI x1), some (zI x2), some (zI x3)] [] h = gd (([] : List zV).isEmpty = true ∧ (zrk 89 = 1 ∨ zrk 89 = 6 ∧ ((x2 : Int) = 0 ∨ (x2 : Int) = 1))) (some (.inl (some (zI x2)), h)) from zGo 2 89 31 _ _ _).trans ?_
    refine (gd_t (⟨rfl, Or.inl rfl⟩) _).trans ?_
    rfl
theorem q_Sc_numberToken {h : zH} (KC : KC h) : zC 90 [zR (some 7)] h =
    gd (-2147483648 ≤ (hI h 7 4) - (hI h 7 1) ∧ (hI h 7 4) - (hI h 7 1) < 2147483648) (
    if 3 < ((hI h 7 4) - (hI h 7 1)) then
      some (.inl (some (zI (-3))), h)
    else
      zY 90 23 [some (zR (some 7)), some (zI 0), some (zI (hI h 7 1))] [] h) := by
  refine (show zC 90 [zR (some 7)] h = gd (zob h (some 7) 7) (gd (zob h (some 7) 7) (gd (inR ((hI h 7 4) - (hI h 7 1))) (gd (inR (3)) (if 3 < ((hI h 7 4) - (hI h 7 1)) then zY 90 13 [some (zR (some 7)), none, none] [] h else zY 90 16 [some (zR (some 7)), none, none] [] h)))) from zGo 7 90 0 _ _ _).trans ?_
  refine (gd_t (⟨rfl, (PTC KC 7 _ rfl rfl), (PNC KC 7 rfl)⟩) _).trans ?_
  refine (gd_t (⟨rfl, (PTC KC 7 _ rfl rfl), (PNC KC 7 rfl)⟩) _).trans ?_
  refine gd_c Iff.rfl (fun c0 => ?_)
  refine (gd_t (by decide) _).trans ?_
  refine iteC (fun c1 => ?_) (fun c1 => ?_)
  · skip
    refine (show zY 90 13 [some (zR (some 7)), none, none] [] h = gd (-128 ≤ (-3 : Int) ∧ (-3 : Int) < 128) (gd (([] : List zV).isEmpty = true ∧ (zrk 90 = 1 ∨ zrk 90 = 6 ∧ (((-3) : Int) = 0 ∨ ((-3) : Int) = 1))) (some (.inl (some (zI (-3))), h))) from zGo 2 90 13 _ _ _).trans ?_
    refine (gd_t (by decide) _).trans ?_
    refine (gd_t (⟨rfl, Or.inl rfl⟩) _).trans ?_
    rfl
  · skip
    refine (show zY 90 16 [some (zR (some 7)), none, none] [] h = gd (inR (0)) (gd (zob h (some 7) 7) (zY 90 23 [some (zR (some 7)), some (zI 0), some (zI (hI h 7 1))] [] h)) from zGo 5 90 16 _ _ _).trans ?_
    refine (gd_t (by decide) _).trans ?_
    refine (gd_t (⟨rfl, (PTC KC 7 _ rfl rfl), (PNC KC 7 rfl)⟩) _).trans ?_
    rfl
theorem q_Sc_numberToken_23 {h : zH} {x1 : Int} {x2 : Int} (KC : KC h) : zY 90 23 [some (zR (some 7)), some (zI x1), some (zI x2)] [] h =
    if x2 < (hI h 7 4) then
      gd (-2147483648 ≤ 10 * x1 ∧ 10 * x1 < 2147483648) (
      gd (-2147483648 ≤ (10 * x1) + (f_Sc_byteAt h x2) ∧ (10 * x1) + (f_Sc_byteAt h x2) < 2147483648) (
      gd (-2147483648 ≤ ((10 * x1) + (f_Sc_byteAt h x2)) - 48 ∧ ((10 * x1) + (f_Sc_byteAt h x2)) - 48 < 2147483648) (
      gd (-2147483648 ≤ x2 + 1 ∧ x2 + 1 < 2147483648) (
      zY 90 23 [some (zR (some 7)), some (zI (((10 * x1) + (f_Sc_byteAt h x2)) - 48)), some (zI (x2 + 1))] [] h))))
    else
      if 3 < x1 then
        some (.inl (some (zI (-4))), h)
      else
        some (.inl (some (zI x1)), h) := by
  refine (show zY 90 23 [some (zR (some 7)), some (zI x1), some (zI x2)] [] h = gd (zob h (some 7) 7) (if x2 < (hI h 7 4) then zY 90 31 [some (zR (some 7)), some (zI x1), some (zI x2)] [] h else zY 90 51 [some (zR (some 7)), some (zI x1), some (zI x2)] [] h) from zGo 4 90 23 _ _ _).trans ?_
  refine (gd_t (⟨rfl, (PTC KC 7 _ rfl rfl), (PNC KC 7 rfl)⟩) _).trans ?_
  refine iteC (fun c0 => ?_) (fun c0 => ?_)
  · skip
    refine (show zY 90 31 [some (zR (some 7)), some (zI x1), some (zI x2)] [] h = gd (-128 ≤ (10 : Int) ∧ (10 : Int) < 128) (gd (inR (10 * x1)) (gd (false = zctor 85 ∧ zcs [zI (10 * x1)] ≤ 8 ∧ zrm 90 (zrf 85 + 1) (8 + (zmaxl 85 + 11) + zrl 85) = true ∧ zcs [zR (some 7), zI x2] ≤ zmaxl 85) (gd (zob h (some 7) 7) (zBack zY 90 37 40 [some (zR (some 7)), some (zI x1), some (zI x2)] [zI (10 * x1)] (zC 85 [zR (some 7), zI x2] h))))) from zGo 6 90 31 _ _ _).trans ?_
    refine (gd_t (by decide) _).trans ?_
    refine gd_c Iff.rfl (fun c1 => ?_)
    refine (gd_t (⟨rfl, Nat.le_of_ble_eq_true rfl, rfl, Nat.le_of_ble_eq_true rfl⟩) _).trans ?_
    refine (gd_t (⟨rfl, (PTC KC 7 _ rfl rfl), (PNC KC 7 rfl)⟩) _).trans ?_
    refine (congrArg (zBack zY 90 37 40 [some (zR (some 7)), some (zI x1), some (zI x2)] [zI (10 * x1)]) (e_Sc_byteAt KC)).trans ?_
    refine (show zY 90 40 [some (zR (some 7)), some (zI x1), some (zI x2)] [zI (f_Sc_byteAt h x2), zI (10 * x1)] h = gd (inR ((10 * x1) + (f_Sc_byteAt h x2))) (gd (-128 ≤ (48 : Int) ∧ (48 : Int) < 128) (gd (inR (((10 * x1) + (f_Sc_byteAt h x2)) - 48)) (gd (inR (x2 + 1)) (gd (inR (1)) (zY 90 23 [some (zR (some 7)), some (zI (((10 * x1) + (f_Sc_byteAt h x2)) - 48)), some (zI (x2 + 1))] [] h))))) from zGo 6 90 40 _ _ _).trans ?_
    refine gd_c Iff.rfl (fun c2 => ?_)
    refine (gd_t (by decide) _).trans ?_
    refine gd_c Iff.rfl (fun c3 => ?_)
    refine gd_c Iff.rfl (fun c4 => ?_)
    refine (gd_t (by decide) _).trans ?_
    rfl
  · skip
    refine (show zY 90 51 [some (zR (some 7)), some (zI x1), some (zI x2)] [] h = gd (inR (3)) (if 3 < x1 then zY 90 56 [some (zR (some 7)), some (zI x1), some (zI x2)] [] h else zY 90 61 [some (zR (some 7)), some (zI x1), some (zI x2)] [] h) from zGo 3 90 51 _ _ _).trans ?_
    refine (gd_t (by decide) _).trans ?_
    refine iteC (fun c5 => ?_) (fun c5 => ?_)
    · skip
      refine (show zY 90 56 [some (zR (some 7)), some (zI x1), some (zI x2)] [] h = gd (-128 ≤ (-4 : Int) ∧ (-4 : Int) < 128) (gd (([] : List zV).isEmpty = true ∧ (zrk 90 = 1 ∨ zrk 90 = 6 ∧ (((-4) : Int) = 0 ∨ ((-4) : Int) = 1))) (some (.inl (some (zI (-4))), h))) from zGo 3 90 56 _ _ _).trans ?_
      refine (gd_t (by decide) _).trans ?_
      refine (gd_t (⟨rfl, Or.inl rfl⟩) _).trans ?_
      rfl
    · skip
      refine (show zY 90 61 [some (zR (some 7)), some (zI x1), some (zI x2)] [] h = gd (([] : List zV).isEmpty = true ∧ (zrk 90 = 1 ∨ zrk 90 = 6 ∧ ((x1 : Int) = 0 ∨ (x1 : Int) = 1))) (some (.inl (some (zI x1)), h)) from zGo 2 90 61 _ _ _).trans ?_
      refine (gd_t (⟨rfl, Or.inl rfl⟩) _).trans ?_
      rfl
theorem q_Sc_scan {h : zH} (KC : KC h) : zC 83 [zR (some 7)] h =
    zBack zY 83 8 11 [some (zR (some 7)), some (zI (hI h 7 4))] [zR (some 7)] (zC 84 [zR (some 7), zI (hI h 7 4)] h) := by
  refine (show zC 83 [zR (some 7)] h = gd (zob h (some 7) 7) (gd (false = zctor 84 ∧ zcs [zR (some 7)] ≤ 8 ∧ zrm 83 (zrf 84 + 1) (8 + (zmaxl 84 + 11) + zrl 84) = true ∧ zcs [zR (some 7), zI (hI h 7 4)] ≤ zmaxl 84) (gd (zob h (some 7) 7) (zBack zY 83 8 11 [some (zR (some 7)), some (zI (hI h 7 4))] [zR (some 7)] (zC 84 [zR (some 7), zI (hI h 7 4)] h)))) from zGo 7 83 0 _ _ _).trans ?_
  refine (gd_t (⟨rfl, (PTC KC 7 _ rfl rfl), (PNC KC 7 rfl)⟩) _).trans ?_
  refine (gd_t (⟨rfl, Nat.le_of_ble_eq_true rfl, rfl, Nat.le_of_ble_eq_true rfl⟩) _).trans ?_
  refine (gd_t (⟨rfl, (PTC KC 7 _ rfl rfl), (PNC KC 7 rfl)⟩) _).trans ?_
  rfl
theorem q_Sc_scan_r11 {h : zH} {x1 : Int} {y : Int} (KC : KC h) : zBack zY 83 8 11 [some (zR (some 7)), some (zI x1)] [zR (some 7)] (some (.inl (some (zI y)), h)) =
    if y < (hI h 7 3) then
      if y = x1 then
        if 0 < (hI h 7 7) then
          some (.inl (none), (sI (sI h 7 1 y) 7 0 (-3)))
        else
          if b_Sc_isLetter (f_Sc_byteAt (sI h 7 1 y) y) then
            zBack zY 83 78 81 [some (zR (some 7)), some (zI x1)] [zR (some 7)] (zC 87 [zR (some 7), zI y] (sI h 7 1 y))
          else
            if b_Sc_isDigit (f_Sc_byteAt (sI h 7 1 y) y) then
              zBack zY 83 126 129 [some (zR (some 7)), some (zI x1)] [zR (some 7)] (zC 89 [zR (some 7), zI y] (sI h 7 1 y))
            else
              some (.inl (none), (sI (sI h 7 1 y) 7 0 (-3)))
      else
        if b_Sc_isLetter (f_Sc_byteAt (sI h 7 1 y) y) then
          zBack zY 83 78 81 [some (zR (some 7)), some (zI x1)] [zR (some 7)] (zC 87 [zR (some 7), zI y] (sI h 7 1 y))
        else
          if b_Sc_isDigit (f_Sc_byteAt (sI h 7 1 y) y) then
            zBack zY 83 126 129 [some (zR (some 7)), some (zI x1)] [zR (some 7)] (zC 89 [zR (some 7), zI y] (sI h 7 1 y))
          else
            some (.inl (none), (sI (sI h 7 1 y) 7 0 (-3)))
    else
      some (.inl (none), (sI (sI h 7 1 y) 7 0 (-2))) := by
  refine (show zBack zY 83 8 11 [some (zR (some 7)), some (zI x1)] [zR (some 7)] (some (.inl (some (zI y)), h)) = gd (zob h (some 7) 7) (gd (zob (sI h 7 1 y) (some 7) 7) (gd (zob (sI h 7 1 y) (some 7) 7) (if y < (hI h 7 3) then zY 83 34 [some (zR (some 7)), some (zI x1)] [] (sI h 7 1 y) else zY 83 25 [some (zR (some 7)), some (zI x1)] [] (sI h 7 1 y)))) from zGo 6 83 11 _ _ _).trans ?_
  refine (gd_t (⟨rfl, (PTC KC 7 _ rfl rfl), (PNC KC 7 rfl)⟩) _).trans ?_
  refine (gd_t (⟨rfl, (PTC KC 7 _ rfl rfl), (PNC KC 7 rfl)⟩) _).trans ?_
  refine (gd_t (⟨rfl, (PTC KC 7 _ rfl rfl), (PNC KC 7 rfl)⟩) _).trans ?_
  refine iteC (fun c0 => ?_) (fun c0 => ?_)
  · skip
    refine (show zY 83 34 [some (zR (some 7)), some (zI x1)] [] (sI h 7 1 y) = gd (zob (sI h 7 1 y) (some 7) 7) (if y = x1 then zY 83 42 [some (zR (some 7)), some (zI x1)] [] (sI h 7 1 y) else zY 83 58 [some (zR (some 7)), some (zI x1)] [] (sI h 7 1 y)) from zGo 4 83 34 _ _ _).trans ?_
    refine (gd_t (⟨rfl, (PTC KC 7 _ rfl rfl), (PNC KC 7 rfl)⟩) _).trans ?_
    refine iteC (fun c1 => ?_) (fun c1 => ?_)
    · skip
      refine (show zY 83 42 [some (zR (some 7)), some (zI x1)] [] (sI h 7 1 y) = gd (zob (sI h 7 1 y) (some 7) 7) (if 0 < (hI h 7 7) then zY 83 49 [some (zR (some 7)), some (zI x1)] [] (sI h 7 1 y) else zY 83 58 [some (zR (some 7)), some (zI x1)] [] (sI h 7 1 y)) from zGo 3 83 42 _ _ _).trans ?_
      refine (gd_t (⟨rfl, (PTC KC 7 _ rfl rfl), (PNC KC 7 rfl)⟩) _).trans ?_
      refine iteC (fun c2 => ?_) (fun c2 => ?_)
      · skip
        refine (show zY 83 49 [some (zR (some 7)), some (zI x1)] [] (sI h 7 1 y) = gd (-128 ≤ (-3 : Int) ∧ (-3 : Int) < 128) (gd (zob (sI h 7 1 y) (some 7) 7) (gd (([] : List zV).isEmpty = true ∧ zrk 83 = 0) (some (.inl (none), (sI (sI h 7 1 y) 7 0 (-3)))))) from zGo 5 83 49 _ _ _).trans ?_
        refine (gd_t (by decide) _).trans ?_
        refine (gd_t (⟨rfl, (PTC KC 7 _ rfl rfl), (PNC KC 7 rfl)⟩) _).trans ?_
        refine (gd_t (⟨rfl, rfl⟩) _).trans ?_
        rfl
      · skip
        refine (show zY 83 58 [some (zR (some 7)), some (zI x1)] [] (sI h 7 1 y) = gd (zob (sI h 7 1 y) (some 7) 7) (gd (false = zctor 85 ∧ zcs [] ≤ 8 ∧ zrm 83 (zrf 85 + 1) (8 + (zmaxl 85 + 11) + zrl 85) = true ∧ zcs [zR (some 7), zI y] ≤ zmaxl 85) (gd (zob (sI h 7 1 y) (some 7) 7) (zBack zY 83 63 66 [some (zR (some 7)), some (zI x1)] [] (zC 85 [zR (some 7), zI y] (sI h 7 1 y))))) from zGo 4 83 58 _ _ _).trans ?_
        refine (gd_t (⟨rfl, (PTC KC 7 _ rfl rfl), (PNC KC 7 rfl)⟩) _).trans ?_
        refine (gd_t (⟨rfl, Nat.le_of_ble_eq_true rfl, rfl, Nat.le_of_ble_eq_true rfl⟩) _).trans ?_
        refine (gd_t (⟨rfl, (PTC KC 7 _ rfl rfl), (PNC KC 7 rfl)⟩) _).trans ?_
        refine (congrArg (zBack zY 83 63 66 [some (zR (some 7)), some (zI x1)] []) (e_Sc_byteAt (h := (sI h 7 1 y)) (KC_f KC (Fr_I (Fr_r [(7, some 1)] _) rfl) rfl))).trans ?_
        refine (show zY 83 66 [some (zR (some 7)), some (zI x1)] [zI (f_Sc_byteAt (sI h 7 1 y) y)] (sI h 7 1 y) = gd (false = zctor 86 ∧ zcs [] ≤ 8 ∧ zrm 83 (zrf 86 + 1) (8 + (zmaxl 86 + 11) + zrl 86) = true ∧ zcs [zI (f_Sc_byteAt (sI h 7 1 y) y)] ≤ zmaxl 86) (zBack zY 83 66 69 [some (zR (some 7)), some (zI x1)] [] (zC 86 [zI (f_Sc_byteAt (sI h 7 1 y) y)] (sI h 7 1 y))) from zGo 1 83 66 _ _ _).trans ?_
        refine (gd_t (⟨rfl, Nat.le_of_ble_eq_true rfl, rfl, Nat.le_of_ble_eq_true rfl⟩) _).trans ?_
        refine (congrArg (zBack zY 83 66 69 [some (zR (some 7)), some (zI x1)] []) (e_Sc_isLetter (h := (sI h 7 1 y)))).trans ?_
        refine (show zY 83 69 [some (zR (some 7)), some (zI x1)] [zI (if b_Sc_isLetter (f_Sc_byteAt (sI h 7 1 y) y) then (1 : Int) else 0)] (sI h 7 1 y) = if (if b_Sc_isLetter (f_Sc_byteAt (sI h 7 1 y) y) then (1 : Int) else 0) = 0 then zY 83 106 [some (zR (some 7)), some (zI x1)] [] (sI h 7 1 y) else zY 83 72 [some (zR (some 7)), some (zI x1)] [] (sI h 7 1 y) from zGo 1 83 69 _ _ _).trans ?_
        refine iteB (fun c3 => ?_) (fun c3 => ?_)
        · skip
          refine (show zY 83 72 [some (zR (some 7)), some (zI x1)] [] (sI h 7 1 y) = gd (zob (sI h 7 1 y) (some 7) 7) (gd (false = zctor 87 ∧ zcs [zR (some 7)] ≤ 8 ∧ zrm 83 (zrf 87 + 1) (8 + (zmaxl 87 + 11) + zrl 87) = true ∧ zcs [zR (some 7), zI y] ≤ zmaxl 87) (gd (zob (sI h 7 1 y) (some 7) 7) (zBack zY 83 78 81 [some (zR (some 7)), some (zI x1)] [zR (some 7)] (zC 87 [zR (some 7), zI y] (sI h 7 1 y))))) from zGo 5 83 72 _ _ _).trans ?_
          refine (gd_t (⟨rfl, (PTC KC 7 _ rfl rfl), (PNC KC 7 rfl)⟩) _).trans ?_
          refine (gd_t (⟨rfl, Nat.le_of_ble_eq_true rfl, rfl, Nat.le_of_ble_eq_true rfl⟩) _).trans ?_
          refine (gd_t (⟨rfl, (PTC KC 7 _ rfl rfl), (PNC KC 7 rfl)⟩) _).trans ?_
          rfl
        · skip
          refine (show zY 83 106 [some (zR (some 7)), some (zI x1)] [] (sI h 7 1 y) = gd (zob (sI h 7 1 y) (some 7) 7) (gd (false = zctor 85 ∧ zcs [] ≤ 8 ∧ zrm 83 (zrf 85 + 1) (8 + (zmaxl 85 + 11) + zrl 85) = true ∧ zcs [zR (some 7), zI y] ≤ zmaxl 85) (gd (zob (sI h 7 1 y) (some 7) 7) (zBack zY 83 111 114 [some (zR (some 7)), some (zI x1)] [] (zC 85 [zR (some 7), zI y] (sI h 7 1 y))))) from zGo 4 83 106 _ _ _).trans ?_
          refine (gd_t (⟨rfl, (PTC KC 7 _ rfl rfl), (PNC KC 7 rfl)⟩) _).trans ?_
          refine (gd_t (⟨rfl, Nat.le_of_ble_eq_true rfl, rfl, Nat.le_of_ble_eq_true rfl⟩) _).trans ?_
          refine (gd_t (⟨rfl, (PTC KC 7 _ rfl rfl), (PNC KC 7 rfl)⟩) _).trans ?_
          refine (congrArg (zBack zY 83 111 114 [some (zR (some 7)), some (zI x1)] []) (e_Sc_byteAt (h := (sI h 7 1 y)) (KC_f KC (Fr_I (Fr_r [(7, some 1)] _) rfl) rfl))).trans ?_
          refine (show zY 83 114 [some (zR (some 7)), some (zI x1)] [zI (f_Sc_byteAt (sI h 7 1 y) y)] (sI h 7 1 y) = gd (false = zctor 88 ∧ zcs [] ≤ 8 ∧ zrm 83 (zrf 88 + 1) (8 + (zmaxl 88 + 11) + zrl 88) = true ∧ zcs [zI (f_Sc_byteAt (sI h 7 1 y) y)] ≤ zmaxl 88) (zBack zY 83 114 117 [some (zR (some 7)), some (zI x1)] [] (zC 88 [zI (f_Sc_byteAt (sI h 7 1 y) y)] (sI h 7 1 y))) from zGo 1 83 114 _ _ _).trans ?_
          refine (gd_t (⟨rfl, Nat.le_of_ble_eq_true rfl, rfl, Nat.le_of_ble_eq_true rfl⟩) _).trans ?_
          refine (congrArg (zBack zY 83 114 117 [some (zR (some 7)), some (zI x1)] []) (e_Sc_isDigit (h := (sI h 7 1 y)))).trans ?_
          refine (show zY 83 117 [some (zR (some 7)), some (zI x1)] [zI (if b_Sc_isDigit (f_Sc_byteAt (sI h 7 1 y) y) then (1 : Int) else 0)] (sI h 7 1 y) = if (if b_Sc_isDigit (f_Sc_byteAt (sI h 7 1 y) y) then (1 : Int) else 0) = 0 then zY 83 143 [some (zR (some 7)), some (zI x1)] [] (sI h 7 1 y) else zY 83 120 [some (zR (some 7)), some (zI x1)] [] (sI h 7 1 y) from zGo 1 83 117 _ _ _).trans ?_
          refine iteB (fun c4 => ?_) (fun c4 => ?_)
          · skip
            refine (show zY 83 120 [some (zR (some 7)), some (zI x1)] [] (sI h 7 1 y) = gd (zob (sI h 7 1 y) (some 7) 7) (gd (false = zctor 89 ∧ zcs [zR (some 7)] ≤ 8 ∧ zrm 83 (zrf 89 + 1) (8 + (zmaxl 89 + 11) + zrl 89) = true ∧ zcs [zR (some 7), zI y] ≤ zmaxl 89) (gd (zob (sI h 7 1 y) (some 7) 7) (zBack zY 83 126 129 [some (zR (some 7)), some (zI x1)] [zR (some 7)] (zC 89 [zR (some 7), zI y] (sI h 7 1 y))))) from zGo 5 83 120 _ _ _).trans ?_
            refine (gd_t (⟨rfl, (PTC KC 7 _ rfl rfl), (PNC KC 7 rfl)⟩) _).trans ?_
            refine (gd_t (⟨rfl, Nat.le_of_ble_eq_true rfl, rfl, Nat.le_of_ble_eq_true rfl⟩) _).trans ?_
            refine (gd_t (⟨rfl, (PTC KC 7 _ rfl rfl), (PNC KC 7 rfl)⟩) _).trans ?_
            rfl
          · skip
            refine (show zY 83 143 [some (zR (some 7)), some (zI x1)] [] (sI h 7 1 y) = gd (-128 ≤ (-3 : Int) ∧ (-3 : Int) < 128) (gd (zob (sI h 7 1 y) (some 7) 7) (gd (([] : List zV).isEmpty = true ∧ zrk 83 = 0) (some (.inl (none), (sI (sI h 7 1 y) 7 0 (-3)))))) from zGo 4 83 143 _ _ _).trans ?_
            refine (gd_t (by decide) _).trans ?_
            refine (gd_t (⟨rfl, (PTC KC 7 _ rfl rfl), (PNC KC 7 rfl)⟩) _).trans ?_
            refine (gd_t (⟨rfl, rfl⟩) _).trans ?_
            rfl
    · skip
      refine (show zY 83 58 [some (zR (some 7)), some (zI x1)] [] (sI h 7 1 y) = gd (zob (sI h 7 1 y) (some 7) 7) (gd (false = zctor 85 ∧ zcs [] ≤ 8 ∧ zrm 83 (zrf 85 + 1) (8 + (zmaxl 85 + 11) + zrl 85) = true ∧ zcs [zR (some 7), zI y] ≤ zmaxl 85) (gd (zob (sI h 7 1 y) (some 7) 7) (zBack zY 83 63 66 [some (zR (some 7)), some (zI x1)] [] (zC 85 [zR (some 7), zI y] (sI h 7 1 y))))) from zGo 4 83 58 _ _ _).trans ?_
      refine (gd_t (⟨rfl, (PTC KC 7 _ rfl rfl), (PNC KC 7 rfl)⟩) _).trans ?_
      refine (gd_t (⟨rfl, Nat.le_of_ble_eq_true rfl, rfl, Nat.le_of_ble_eq_true rfl⟩) _).trans ?_
      refine (gd_t (⟨rfl, (PTC KC 7 _ rfl rfl), (PNC KC 7 rfl)⟩) _).trans ?_
      refine (congrArg (zBack zY 83 63 66 [some (zR (some 7)), some (zI x1)] []) (e_Sc_byteAt (h := (sI h 7 1 y)) (KC_f KC (Fr_I (Fr_r [(7, some 1)] _) rfl) rfl))).trans ?_
      refine (show zY 83 66 [some (zR (some 7)), some (zI x1)] [zI (f_Sc_byteAt (sI h 7 1 y) y)] (sI h 7 1 y) = gd (false = zctor 86 ∧ zcs [] ≤ 8 ∧ zrm 83 (zrf 86 + 1) (8 + (zmaxl 86 + 11) + zrl 86) = true ∧ zcs [zI (f_Sc_byteAt (sI h 7 1 y) y)] ≤ zmaxl 86) (zBack zY 83 66 69 [some (zR (some 7)), some (zI x1)] [] (zC 86 [zI (f_Sc_byteAt (sI h 7 1 y) y)] (sI h 7 1 y))) from zGo 1 83 66 _ _ _).trans ?_
      refine (gd_t (⟨rfl, Nat.le_of_ble_eq_true rfl, rfl, Nat.le_of_ble_eq_true rfl⟩) _).trans ?_
      refine (congrArg (zBack zY 83 66 69 [some (zR (some 7)), some (zI x1)] []) (e_Sc_isLetter (h := (sI h 7 1 y)))).trans ?_
      refine (show zY 83 69 [some (zR (some 7)), some (zI x1)] [zI (if b_Sc_isLetter (f_Sc_byteAt (sI h 7 1 y) y) then (1 : Int) else 0)] (sI h 7 1 y) = if (if b_Sc_isLetter (f_Sc_byteAt (sI h 7 1 y) y) then (1 : Int) else 0) = 0 then zY 83 106 [some (zR (some 7)), some (zI x1)] [] (sI h 7 1 y) else zY 83 72 [some (zR (some 7)), some (zI x1)] [] (sI h 7 1 y) from zGo 1 83 69 _ _ _).trans ?_
      refine iteB (fun c5 => ?_) (fun c5 => ?_)
      · skip
        refine (show zY 83 72 [some (zR (some 7)), some (zI x1)] [] (sI h 7 1 y) = gd (zob (sI h 7 1 y) (some 7) 7) (gd (false = zctor 87 ∧ zcs [zR (some 7)] ≤ 8 ∧ zrm 83 (zrf 87 + 1) (8 + (zmaxl 87 + 11) + zrl 87) = true ∧ zcs [zR (some 7), zI y] ≤ zmaxl 87) (gd (zob (sI h 7 1 y) (some 7) 7) (zBack zY 83 78 81 [some (zR (some 7)), some (zI x1)] [zR (some 7)] (zC 87 [zR (some 7), zI y] (sI h 7 1 y))))) from zGo 5 83 72 _ _ _).trans ?_
        refine (gd_t (⟨rfl, (PTC KC 7 _ rfl rfl), (PNC KC 7 rfl)⟩) _).trans ?_
        refine (gd_t (⟨rfl, Nat.le_of_ble_eq_true rfl, rfl, Nat.le_of_ble_eq_true rfl⟩) _).trans ?_
        refine (gd_t (⟨rfl, (PTC KC 7 _ rfl rfl), (PNC KC 7 rfl)⟩) _).trans ?_
        rfl
      · skip
        refine (show zY 83 106 [some (zR (some 7)), some (zI x1)] [] (sI h 7 1 y) = gd (zob (sI h 7 1 y) (some 7) 7) (gd (false = zctor 85 ∧ zcs [] ≤ 8 ∧ zrm 83 (zrf 85 + 1) (8 + (zmaxl 85 + 11) + zrl 85) = true ∧ zcs [zR (some 7), zI y] ≤ zmaxl 85) (gd (zob (sI h 7 1 y) (some 7) 7) (zBack zY 83 111 114 [some (zR (some 7)), some (zI x1)] [] (zC 85 [zR (some 7), zI y] (sI h 7 1 y))))) from zGo 4 83 106 _ _ _).trans ?_
        refine (gd_t (⟨rfl, (PTC KC 7 _ rfl rfl), (PNC KC 7 rfl)⟩) _).trans ?_
        refine (gd_t (⟨rfl, Nat.le_of_ble_eq_true rfl, rfl, Nat.le_of_ble_eq_true rfl⟩) _).trans ?_
        refine (gd_t (⟨rfl, (PTC KC 7 _ rfl rfl), (PNC KC 7 rfl)⟩) _).trans ?_
        refine (congrArg (zBack zY 83 111 114 [some (zR (some 7)), some (zI x1)] []) (e_Sc_byteAt (h := (sI h 7 1 y)) (KC_f KC (Fr_I (Fr_r [(7, some 1)] _) rfl) rfl))).trans ?_
        refine (show zY 83 114 [some (zR (some 7)), some (zI x1)] [zI (f_Sc_byteAt (sI h 7 1 y) y)] (sI h 7 1 y) = gd (false = zctor 88 ∧ zcs [] ≤ 8 ∧ zrm 83 (zrf 88 + 1) (8 + (zmaxl 88 + 11) + zrl 88) = true ∧ zcs [zI (f_Sc_byteAt (sI h 7 1 y) y)] ≤ zmaxl 88) (zBack zY 83 114 117 [some (zR (some 7)), some (zI x1)] [] (zC 88 [zI (f_Sc_byteAt (sI h 7 1 y) y)] (sI h 7 1 y))) from zGo 1 83 114 _ _ _).trans ?_
        refine (gd_t (⟨rfl, Nat.le_of_ble_eq_true rfl, rfl, Nat.le_of_ble_eq_true rfl⟩) _).trans ?_
        refine (congrArg (zBack zY 83 114 117 [some (zR (some 7)), some (zI x1)] []) (e_Sc_isDigit (h := (sI h 7 1 y)))).trans ?_
        refine (show zY 83 117 [some (zR (some 7)), some (zI x1)] [zI (if b_Sc_isDigit (f_Sc_byteAt (sI h 7 1 y) y) then (1 : Int) else 0)] (sI h 7 1 y) = if (if b_Sc_isDigit (f_Sc_byteAt (sI h 7 1 y) y) then (1 : Int) else 0) = 0 then zY 83 143 [some (zR (some 7)), some (zI x1)] [] (sI h 7 1 y) else zY 83 120 [some (zR (some 7)), some (zI x1)] [] (sI h 7 1 y) from zGo 1 83 117 _ _ _).trans ?_
        refine iteB (fun c6 => ?_) (fun c6 => ?_)
        · skip
          refine (show zY 83 120 [some (zR (some 7)), some (zI x1)] [] (sI h 7 1 y) = gd (zob (sI h 7 1 y) (some 7) 7) (gd (false = zctor 89 ∧ zcs [zR (some 7)] ≤ 8 ∧ zrm 83 (zrf 89 + 1) (8 + (zmaxl 89 + 11) + zrl 89) = true ∧ zcs [zR (some 7), zI y] ≤ zmaxl 89) (gd (zob (sI h 7 1 y) (some 7) 7) (zBack zY 83 126 129 [some (zR (some 7)), some (zI x1)] [zR (some 7)] (zC 89 [zR (some 7), zI y] (sI h 7 1 y))))) from zGo 5 83 120 _ _ _).trans ?_
          refine (gd_t (⟨rfl, (PTC KC 7 _ rfl rfl), (PNC KC 7 rfl)⟩) _).trans ?_
          refine (gd_t (⟨rfl, Nat.le_of_ble_eq_true rfl, rfl, Nat.le_of_ble_eq_true rfl⟩) _).trans ?_
          refine (gd_t (⟨rfl, (PTC KC 7 _ rfl rfl), (PNC KC 7 rfl)⟩) _).trans ?_
          rfl
        · skip
          refine (show zY 83 143 [some (zR (some 7)), some (zI x1)] [] (sI h 7 1 y) = gd (-128 ≤ (-3 : Int) ∧ (-3 : Int) < 128) (gd (zob (sI h 7 1 y) (some 7) 7) (gd (([] : List zV).isEmpty = true ∧ zrk 83 = 0) (some (.inl (none), (sI (sI h 7 1 y) 7 0 (-3)))))) from zGo 4 83 143 _ _ _).trans ?_
          refine (gd_t (by decide) _).trans ?_
          refine (gd_t (⟨rfl, (PTC KC 7 _ rfl rfl), (PNC KC 7 rfl)⟩) _).trans ?_
          refine (gd_t (⟨rfl, rfl⟩) _).trans ?_
          rfl
  · skip
    refine (show zY 83 25 [some (zR (some 7)), some (zI x1)] [] (sI h 7 1 y) = gd (-128 ≤ (-2 : Int) ∧ (-2 : Int) < 128) (gd (zob (sI h 7 1 y) (some 7) 7) (gd (([] : List zV).isEmpty = true ∧ zrk 83 = 0) (some (.inl (none), (sI (sI h 7 1 y) 7 0 (-2)))))) from zGo 5 83 25 _ _ _).trans ?_
    refine (gd_t (by decide) _).trans ?_
    refine (gd_t (⟨rfl, (PTC KC 7 _ rfl rfl), (PNC KC 7 rfl)⟩) _).trans ?_
    refine (gd_t (⟨rfl, rfl⟩) _).trans ?_
    rfl
theorem q_Sc_scan_r81 {h : zH} {x1 : Int} {y : Int} (KC : KC h) : zBack zY 83 78 81 [some (zR (some 7)), some (zI x1)] [zR (some 7)] (some (.inl (some (zI y)), h)) =
    zBack zY 83 97 100 [some (zR (some 7)), some (zI x1)] [zR (some 7)] (zC 137 [zR (some 1), zI (hI h 7 1), zI y] (sI h 7 4 y)) := by
  refine (show zBack zY 83 78 81 [some (zR (some 7)), some (zI x1)] [zR (some 7)] (some (.inl (some (zI y)), h)) = gd (zob h (some 7) 7) (gd (zob (sI h 7 4 y) (some 7) 7) (zY 83 89 [some (zR (some 7)), some (zI x1)] [zR (hR h 7 2), zR (some 7)] (sI h 7 4 y))) from zGo 4 83 81 _ _ _).trans ?_
  refine (gd_t (⟨rfl, (PTC KC 7 _ rfl rfl), (PNC KC 7 rfl)⟩) _).trans ?_
  refine (gd_t (⟨rfl, (PTC KC 7 _ rfl rfl), (PNC KC 7 rfl)⟩) _).trans ?_
  refine (congrArg (fun r => zY 83 89 [some (zR (some 7)), some (zI x1)] (zR r :: zR (some 7) :: []) (sI h 7 4 y)) (PRC KC 7 2 _ rfl)).trans ?_
  refine (show zY 83 89 [some (zR (some 7)), some (zI x1)] [zR (some 1), zR (some 7)] (sI h 7 4 y) = gd (zob (sI h 7 4 y) (some 7) 7) (gd (zob (sI h 7 4 y) (some 7) 7) (gd (false = zctor 137 ∧ zcs [zR (some 7)] ≤ 8 ∧ zrm 83 (zrf 137 + 1) (8 + (zmaxl 137 + 11) + zrl 137) = true ∧ zcs [zR (some 1), zI (hI h 7 1), zI y] ≤ zmaxl 137) (zBack zY 83 97 100 [some (zR (some 7)), some (zI x1)] [zR (some 7)] (zC 137 [zR (some 1), zI (hI h 7 1), zI y] (sI h 7 4 y))))) from zGo 5 83 89 _ _ _).trans ?_
  refine (gd_t (⟨rfl, (PTC KC 7 _ rfl rfl), (PNC KC 7 rfl)⟩) _).trans ?_
  refine (gd_t (⟨rfl, (PTC KC 7 _ rfl rfl), (PNC KC 7 rfl)⟩) _).trans ?_
  refine (gd_t (⟨rfl, Nat.le_of_ble_eq_true rfl, rfl, Nat.le_of_ble_eq_true rfl⟩) _).trans ?_
  rfl
theorem q_Sc_scan_r100 {h : zH} {x1 : Int} {y : Int} (KC : KC h) : zBack zY 83 97 100 [some (zR (some 7)), some (zI x1)] [zR (some 7)] (some (.inl (some (zI y)), h)) =
    some (.inl (none), (sI h 7 0 y)) := by
  refine (show zBack zY 83 97 100 [some (zR (some 7)), some (zI x1)] [zR (some 7)] (some (.inl (some (zI y)), h)) = gd (zob h (some 7) 7) (gd (([] : List zV).isEmpty = true ∧ zrk 83 = 0) (some (.inl (none), (sI h 7 0 y)))) from zGo 3 83 100 _ _ _).trans ?_
  refine (gd_t (⟨rfl, (PTC KC 7 _ rfl rfl), (PNC KC 7 rfl)⟩) _).trans ?_
  refine (gd_t (⟨rfl, rfl⟩) _).trans ?_
  rfl
theorem q_Sc_scan_r129 {h : zH} {x1 : Int} {y : Int} (KC : KC h) : zBack zY 83 126 129 [some (zR (some 7)), some (zI x1)] [zR (some 7)] (some (.inl (some (zI y)), h)) =
    zBack zY 83 134 137 [some (zR (some 7)), some (zI x1)] [zR (some 7)] (zC 90 [zR (some 7)] (sI h 7 4 y)) := by
  refine (show zBack zY 83 126 129 [some (zR (some 7)), some (zI x1)] [zR (some 7)] (some (.inl (some (zI y)), h)) = gd (zob h (some 7) 7) (gd (false = zctor 90 ∧ zcs [zR (some 7)] ≤ 8 ∧ zrm 83 (zrf 90 + 1) (8 + (zmaxl 90 + 11) + zrl 90) = true ∧ zcs [zR (some 7)] ≤ zmaxl 90) (gd (zob (sI h 7 4 y) (some 7) 7) (zBack zY 83 134 137 [some (zR (some 7)), some (zI x1)] [zR (some 7)] (zC 90 [zR (some 7)] (sI h 7 4 y))))) from zGo 4 83 129 _ _ _).trans ?_
  refine (gd_t (⟨rfl, (PTC KC 7 _ rfl rfl), (PNC KC 7 rfl)⟩) _).trans ?_
  refine (gd_t (⟨rfl, Nat.le_of_ble_eq_true rfl, rfl, Nat.le_of_ble_eq_true rfl⟩) _).trans ?_
  refine (gd_t (⟨rfl, (PTC KC 7 _ rfl rfl), (PNC KC 7 rfl)⟩) _).trans ?_
  rfl
theorem q_Sc_scan_r137 {h : zH} {x1 : Int} {y : Int} (KC : KC h) : zBack zY 83 134 137 [some (zR (some 7)), some (zI x1)] [zR (some 7)] (some (.inl (some (zI y)), h)) =
    some (.inl (none), (sI h 7 0 y)) := by
  refine (show zBack zY 83 134 137 [some (zR (some 7)), some (zI x1)] [zR (some 7)] (some (.inl (some (zI y)), h)) = gd (zob h (some 7) 7) (gd (([] : List zV).isEmpty = true ∧ zrk 83 = 0) (some (.inl (none), (sI h 7 0 y)))) from zGo 3 83 137 _ _ _).trans ?_
  refine (gd_t (⟨rfl, (PTC KC 7 _ rfl rfl), (PNC KC 7 rfl)⟩) _).trans ?_
  refine (gd_t (⟨rfl, rfl⟩) _).trans ?_
  rfl
theorem q_Sc_advance {h : zH} (KC : KC h) : zC 91 [zR (some 7)] h =
    if (hI h 7 8) < 0 then
      some (.inl (none), h)
    else
      if (hI h 7 8) < (hI h 7 7) then
        if (hI h 7 8) < 402 then
          gd (-2147483648 ≤ (hI h 7 8) + 1 ∧ (hI h 7 8) + 1 < 2147483648) (
          some (.inl (none), (sI (sI (sI h 7 0 (hI h 8 (hI h 7 8).toNat)) 7 1 (hI h 9 (hI h 7 8).toNat)) 7 8 ((hI h 7 8) + 1))))
        else
          some (.inl (none), h)
      else
        some (.inl (none), h) := by
  refine (show zC 91 [zR (some 7)] h = gd (zob h (some 7) 7) (if (hI h 7 8) < 0 then zY 91 64 [some (zR (some 7))] [] h else zY 91 7 [some (zR (some 7))] [] h) from zGo 3 91 0 _ _ _).trans ?_
  refine (gd_t (⟨rfl, (PTC KC 7 _ rfl rfl), (PNC KC 7 rfl)⟩) _).trans ?_
  refine iteC (fun c0 => ?_) (fun c0 => ?_)
  · skip
    refine (show zY 91 64 [some (zR (some 7))] [] h = gd (([] : List zV).isEmpty = true ∧ zrk 91 = 0) (some (.inl (none), h)) from zGo 1 91 64 _ _ _).trans ?_
    refine (gd_t (⟨rfl, rfl⟩) _).trans ?_
    rfl
  · skip
    refine (show zY 91 7 [some (zR (some 7))] [] h = gd (zob h (some 7) 7) (gd (zob h (some 7) 7) (if (hI h 7 8) < (hI h 7 7) then zY 91 18 [some (zR (some 7))] [] h else zY 91 64 [some (zR (some 7))] [] h)) from zGo 5 91 7 _ _ _).trans ?_
    refine (gd_t (⟨rfl, (PTC KC 7 _ rfl rfl), (PNC KC 7 rfl)⟩) _).trans ?_
    refine (gd_t (⟨rfl, (PTC KC 7 _ rfl rfl), (PNC KC 7 rfl)⟩) _).trans ?_
    refine iteC (fun c1 => ?_) (fun c1 => ?_)
    · skip
      refine (show zY 91 18 [some (zR (some 7))] [] h = gd (zob h (some 7) 7) (gd (-32768 ≤ (402 : Int) ∧ (402 : Int) < 32768) (if (hI h 7 8) < 402 then zY 91 28 [some (zR (some 7))] [] h else zY 91 64 [some (zR (some 7))] [] h)) from zGo 4 91 18 _ _ _).trans ?_
      refine (gd_t (⟨rfl, (PTC KC 7 _ rfl rfl), (PNC KC 7 rfl)⟩) _).trans ?_
      refine (gd_t (by decide) _).trans ?_
      refine iteC (fun c2 => ?_) (fun c2 => ?_)
      · skip
        refine (show zY 91 28 [some (zR (some 7))] [] h = gd (zob h (some 7) 7) (zY 91 33 [some (zR (some 7))] [zR (hR h 7 5), zR (some 7)] h) from zGo 3 91 28 _ _ _).trans ?_
        refine (gd_t (⟨rfl, (PTC KC 7 _ rfl rfl), (PNC KC 7 rfl)⟩) _).trans ?_
        refine (congrArg (fun r => zY 91 33 [some (zR (some 7))] (zR r :: zR (some 7) :: []) h) (PRC KC 7 5 _ rfl)).trans ?_
        refine (show zY 91 33 [some (zR (some 7))] [zR (some 8), zR (some 7)] h = gd (zob h (some 7) 7) (gd (zok h (some 8) 22 (hI h 7 8)) (gd (zob h (some 7) 7) (gd (zob (sI h 7 0 (hI h 8 (hI h 7 8).toNat)) (some 7) 7) (zY 91 46 [some (zR (some 7))] [zR (hR h 7 6), zR (some 7)] (sI h 7 0 (hI h 8 (hI h 7 8).toNat)))))) from zGo 7 91 33 _ _ _).trans ?_
        refine (gd_t (⟨rfl, (PTC KC 7 _ rfl rfl), (PNC KC 7 rfl)⟩) _).trans ?_
        refine (gd_t ((ci (PTC KC 8 _ rfl rfl) (PLC KC 8 402 rfl rfl)).2 (by omega)) _).trans ?_
        refine (gd_t (⟨rfl, (PTC KC 7 _ rfl rfl), (PNC KC 7 rfl)⟩) _).trans ?_
        refine (gd_t (⟨rfl, (PTC KC 7 _ rfl rfl), (PNC KC 7 rfl)⟩) _).trans ?_
        refine (congrArg (fun r => zY 91 46 [some (zR (some 7))] (zR r :: zR (some 7) :: []) (sI h 7 0 (hI h 8 (hI h 7 8).toNat))) (PRC KC 7 6 _ rfl)).trans ?_
        refine (show zY 91 46 [some (zR (some 7))] [zR (some 9), zR (some 7)] (sI h 7 0 (hI h 8 (hI h 7 8).toNat)) = gd (zob (sI h 7 0 (hI h 8 (hI h 7 8).toNat)) (some 7) 7) (gd (zok (sI h 7 0 (hI h 8 (hI h 7 8).toNat)) (some 9) 22 (hI h 7 8)) (gd (zob (sI h 7 0 (hI h 8 (hI h 7 8).toNat)) (some 7) 7) (gd (zob (sI (sI h 7 0 (hI h 8 (hI h 7 8).toNat)) 7 1 (hI h 9 (hI h 7 8).toNat)) (some 7) 7) (gd (inR (1)) (gd (inR ((hI h 7 8) + 1)) (gd (zob (sI (sI h 7 0 (hI h 8 (hI h 7 8).toNat)) 7 1 (hI h 9 (hI h 7 8).toNat)) (some 7) 7) (gd (([] : List zV).isEmpty = true ∧ zrk 91 = 0) (some (.inl (none), (sI (sI (sI h 7 0 (hI h 8 (hI h 7 8).toNat)) 7 1 (hI h 9 (hI h 7 8).toNat)) 7 8 ((hI h 7 8) + 1))))))))))) from zGo 11 91 46 _ _ _).trans ?_
        refine (gd_t (⟨rfl, (PTC KC 7 _ rfl rfl), (PNC KC 7 rfl)⟩) _).trans ?_
        refine (gd_t ((ci (PTC KC 9 _ rfl rfl) (PLC KC 9 402 rfl rfl)).2 (by omega)) _).trans ?_
        refine (gd_t (⟨rfl, (PTC KC 7 _ rfl rfl), (PNC KC 7 rfl)⟩) _).trans ?_
        refine (gd_t (⟨rfl, (PTC KC 7 _ rfl rfl), (PNC KC 7 rfl)⟩) _).trans ?_
        refine (gd_t (by decide) _).trans ?_
        refine gd_c Iff.rfl (fun c3 => ?_)
        refine (gd_t (⟨rfl, (PTC KC 7 _ rfl rfl), (PNC KC 7 rfl)⟩) _).trans ?_
        refine (gd_t (⟨rfl, rfl⟩) _).trans ?_
        rfl
      · skip
        refine (show zY 91 64 [some (zR (some 7))] [] h = gd (([] : List zV).isEmpty = true ∧ zrk 91 = 0) (some (.inl (none), h)) from zGo 1 91 64 _ _ _).trans ?_
        refine (gd_t (⟨rfl, rfl⟩) _).trans ?_
        rfl
    · skip
      refine (show zY 91 64 [some (zR (some 7))] [] h = gd (([] : List zV).isEmpty = true ∧ zrk 91 = 0) (some (.inl (none), h)) from zGo 1 91 64 _ _ _).trans ?_
      refine (gd_t (⟨rfl, rfl⟩) _).trans ?_
      rfl
theorem q_Sc_begin {h : zH} {x1 : Int} (KC : KC h) : zC 82 [zR (some 7), zI x1] h =
    zY 82 13 [some (zR (some 7)), some (zI x1), none] [] (sI h 7 3 (f_Ma_min x1 800)) := by
  refine (show zC 82 [zR (some 7), zI x1] h = gd (zob h (some 7) 7) (zY 82 6 [some (zR (some 7)), some (zI x1), none] [zR (hR h 7 2), zI x1, zR (some 7)] h) from zGo 4 82 0 _ _ _).trans ?_
  refine (gd_t (⟨rfl, (PTC KC 7 _ rfl rfl), (PNC KC 7 rfl)⟩) _).trans ?_
  refine (congrArg (fun r => zY 82 6 [some (zR (some 7)), some (zI x1), none] (zR r :: zI x1 :: zR (some 7) :: []) h) (PRC KC 7 2 _ rfl)).trans ?_
  refine (show zY 82 6 [some (zR (some 7)), some (zI x1), none] [zR (some 1), zI x1, zR (some 7)] h = gd ((some 1).isSome = true ∧ 20 ≤ hT h (zdr (some 1)) ∧ hT h (zdr (some 1)) < 40) (zY 82 7 [some (zR (some 7)), some (zI x1), none] (zI (hL h 1 : Int) :: zI x1 :: zR (some 7) :: []) h) from zGo 1 82 6 _ _ _).trans ?_
  refine (gd_t (al (PTC KC 1 _ rfl rfl) (by decide) (by decide)) _).trans ?_
  refine (congrArg (fun r => zY 82 7 [some (zR (some 7)), some (zI x1), none] (zI r :: zI x1 :: zR (some 7) :: []) h) (PLC KC 1 800 rfl rfl)).trans ?_
  refine (show zY 82 7 [some (zR (some 7)), some (zI x1), none] [zI 800, zI x1, zR (some 7)] h = gd (false = zctor 224 ∧ zcs [zR (some 7)] ≤ 8 ∧ zrm 82 (zrf 224 + 1) (8 + (zmaxl 224 + 11) + zrl 224) = true ∧ zcs [zI x1, zI 800] ≤ zmaxl 224) (zBack zY 82 7 10 [some (zR (some 7)), some (zI x1), none] [zR (some 7)] (zC 224 [zI x1, zI 800] h)) from zGo 1 82 7 _ _ _).trans ?_
  refine (gd_t (⟨rfl, Nat.le_of_ble_eq_true rfl, rfl, Nat.le_of_ble_eq_true rfl⟩) _).trans ?_
  refine (congrArg (zBack zY 82 7 10 [some (zR (some 7)), some (zI x1), none] [zR (some 7)]) (e_Ma_min)).trans ?_
  refine (show zY 82 10 [some (zR (some 7)), some (zI x1), none] [zI (f_Ma_min x1 800), zR (some 7)] h = gd (zob h (some 7) 7) (zY 82 13 [some (zR (some 7)), some (zI x1), none] [] (sI h 7 3 (f_Ma_min x1 800))) from zGo 1 82 10 _ _ _).trans ?_
  refine (gd_t (⟨rfl, (PTC KC 7 _ rfl rfl), (PNC KC 7 rfl)⟩) _).trans ?_
  rfl
theorem q_Sc_begin_13 {h : zH} {x1 : Int} (KC : KC h) : zY 82 13 [some (zR (some 7)), some (zI x1), none] [] h =
    zY 82 30 [some (zR (some 7)), some (zI x1), some (zI 0)] [] (sI (sI (sI h 7 0 (-1)) 7 4 0) 7 7 0) := by
  refine (show zY 82 13 [some (zR (some 7)), some (zI x1), none] [] h = gd (inR (-1)) (gd (zob h (some 7) 7) (gd (inR (0)) (gd (zob (sI h 7 0 (-1)) (some 7) 7) (gd (inR (0)) (gd (zob (sI (sI h 7 0 (-1)) 7 4 0) (some 7) 7) (gd (inR (0)) (zY 82 30 [some (zR (some 7)), some (zI x1), some (zI 0)] [] (sI (sI (sI h 7 0 (-1)) 7 4 0) 7 7 0)))))))) from zGo 11 82 13 _ _ _).trans ?_
  refine (gd_t (by decide) _).trans ?_
  refine (gd_t (⟨rfl, (PTC KC 7 _ rfl rfl), (PNC KC 7 rfl)⟩) _).trans ?_
  refine (gd_t (by decide) _).trans ?_
  refine (gd_t (⟨rfl, (PTC KC 7 _ rfl rfl), (PNC KC 7 rfl)⟩) _).trans ?_
  refine (gd_t (by decide) _).trans ?_
  refine (gd_t (⟨rfl, (PTC KC 7 _ rfl rfl), (PNC KC 7 rfl)⟩) _).trans ?_
  refine (gd_t (by decide) _).trans ?_
  rfl
theorem q_Sc_begin_30 {h : zH} {x1 : Int} {x2 : Int} (KC : KC h) : zY 82 30 [some (zR (some 7)), some (zI x1), some (zI x2)] [] h =
    if x2 < 402 then
      if (hI h 7 0) = (-2) then
        zBack zY 82 101 104 [some (zR (some 7)), some (zI x1), some (zI x2)] [] (zC 91 [zR (some 7)] (sI h 7 8 0))
      else
        if (hI h 7 0) = (-3) then
          zBack zY 82 101 104 [some (zR (some 7)), some (zI x1), some (zI x2)] [] (zC 91 [zR (some 7)] (sI h 7 8 0))
        else
          zBack zY 82 56 59 [some (zR (some 7)), some (zI x1), some (zI x2)] [] (zC 83 [zR (some 7)] h)
    else
      zBack zY 82 101 104 [some (zR (some 7)), some (zI x1), some (zI x2)] [] (zC 91 [zR (some 7)] (sI h 7 8 0)) := by
  refine (show zY 82 30 [some (zR (some 7)), some (zI x1), some (zI x2)] [] h = gd (-32768 ≤ (402 : Int) ∧ (402 : Int) < 32768) (if x2 < 402 then zY 82 37 [some (zR (some 7)), some (zI x1), some (zI x2)] [] h else zY 82 95 [some (zR (some 7)), some (zI x1), some (zI x2)] [] h) from zGo 3 82 30 _ _ _).trans ?_
  refine (gd_t (by decide) _).trans ?_
  refine iteC (fun c0 => ?_) (fun c0 => ?_)
  · skip
    refine (show zY 82 37 [some (zR (some 7)), some (zI x1), some (zI x2)] [] h = gd (zob h (some 7) 7) (gd (-128 ≤ (-2 : Int) ∧ (-2 : Int) < 128) (if (hI h 7 0) = (-2) then zY 82 95 [some (zR (some 7)), some (zI x1), some (zI x2)] [] h else zY 82 46 [some (zR (some 7)), some (zI x1), some (zI x2)] [] h)) from zGo 4 82 37 _ _ _).trans ?_
    refine (gd_t (⟨rfl, (PTC KC 7 _ rfl rfl), (PNC KC 7 rfl)⟩) _).trans ?_
    refine (gd_t (by decide) _).trans ?_
    refine iteC (fun c1 => ?_) (fun c1 => ?_)
    · skip
      refine (show zY 82 95 [some (zR (some 7)), some (zI x1), some (zI x2)] [] h = gd (inR (0)) (gd (zob h (some 7) 7) (gd (false = zctor 91 ∧ zcs [] ≤ 8 ∧ zrm 82 (zrf 91 + 1) (8 + (zmaxl 91 + 11) + zrl 91) = true ∧ zcs [zR (some 7)] ≤ zmaxl 91) (gd (zob (sI h 7 8 0) (some 7) 7) (zBack zY 82 101 104 [some (zR (some 7)), some (zI x1), some (zI x2)] [] (zC 91 [zR (some 7)] (sI h 7 8 0)))))) from zGo 5 82 95 _ _ _).trans ?_
      refine (gd_t (by decide) _).trans ?_
      refine (gd_t (⟨rfl, (PTC KC 7 _ rfl rfl), (PNC KC 7 rfl)⟩) _).trans ?_
      refine (gd_t (⟨rfl, Nat.le_of_ble_eq_true rfl, rfl, Nat.le_of_ble_eq_true rfl⟩) _).trans ?_
      refine (gd_t (⟨rfl, (PTC KC 7 _ rfl rfl), (PNC KC 7 rfl)⟩) _).trans ?_
      rfl
    · skip
      refine (show zY 82 46 [some (zR (some 7)), some (zI x1), some (zI x2)] [] h = gd (zob h (some 7) 7) (gd (-128 ≤ (-3 : Int) ∧ (-3 : Int) < 128) (if (hI h 7 0) = (-3) then zY 82 95 [some (zR (some 7)), some (zI x1), some (zI x2)] [] h else zY 82 55 [some (zR (some 7)), some (zI x1), some (zI x2)] [] h)) from zGo 4 82 46 _ _ _).trans ?_
      refine (gd_t (⟨rfl, (PTC KC 7 _ rfl rfl), (PNC KC 7 rfl)⟩) _).trans ?_
      refine (gd_t (by decide) _).trans ?_
      refine iteC (fun c2 => ?_) (fun c2 => ?_)
      · skip
        refine (show zY 82 95 [some (zR (some 7)), some (zI x1), some (zI x2)] [] h = gd (inR (0)) (gd (zob h (some 7) 7) (gd (false = zctor 91 ∧ zcs [] ≤ 8 ∧ zrm 82 (zrf 91 + 1) (8 + (zmaxl 91 + 11) + zrl 91) = true ∧ zcs [zR (some 7)] ≤ zmaxl 91) (gd (zob (sI h 7 8 0) (some 7) 7) (zBack zY 82 101 104 [some (zR (some 7)), some (zI x1), some (zI x2)] [] (zC 91 [zR (some 7)] (sI h 7 8 0)))))) from zGo 5 82 95 _ _ _).trans ?_
        refine (gd_t (by decide) _).trans ?_
        refine (gd_t (⟨rfl, (PTC KC 7 _ rfl rfl), (PNC KC 7 rfl)⟩) _).trans ?_
        refine (gd_t (⟨rfl, Nat.le_of_ble_eq_true rfl, rfl, Nat.le_of_ble_eq_true rfl⟩) _).trans ?_
        refine (gd_t (⟨rfl, (PTC KC 7 _ rfl rfl), (PNC KC 7 rfl)⟩) _).trans ?_
        rfl
      · skip
        refine (show zY 82 55 [some (zR (some 7)), some (zI x1), some (zI x2)] [] h = gd (false = zctor 83 ∧ zcs [] ≤ 8 ∧ zrm 82 (zrf 83 + 1) (8 + (zmaxl 83 + 11) + zrl 83) = true ∧ zcs [zR (some 7)] ≤ zmaxl 83) (gd (zob h (some 7) 7) (zBack zY 82 56 59 [some (zR (some 7)), some (zI x1), some (zI x2)] [] (zC 83 [zR (some 7)] h))) from zGo 2 82 55 _ _ _).trans ?_
        refine (gd_t (⟨rfl, Nat.le_of_ble_eq_true rfl, rfl, Nat.le_of_ble_eq_true rfl⟩) _).trans ?_
        refine (gd_t (⟨rfl, (PTC KC 7 _ rfl rfl), (PNC KC 7 rfl)⟩) _).trans ?_
        rfl
  · skip
    refine (show zY 82 95 [some (zR (some 7)), some (zI x1), some (zI x2)] [] h = gd (inR (0)) (gd (zob h (some 7) 7) (gd (false = zctor 91 ∧ zcs [] ≤ 8 ∧ zrm 82 (zrf 91 + 1) (8 + (zmaxl 91 + 11) + zrl 91) = true ∧ zcs [zR (some 7)] ≤ zmaxl 91) (gd (zob (sI h 7 8 0) (some 7) 7) (zBack zY 82 101 104 [some (zR (some 7)), some (zI x1), some (zI x2)] [] (zC 91 [zR (some 7)] (sI h 7 8 0)))))) from zGo 5 82 95 _ _ _).trans ?_
    refine (gd_t (by decide) _).trans ?_
    refine (gd_t (⟨rfl, (PTC KC 7 _ rfl rfl), (PNC KC 7 rfl)⟩) _).trans ?_
    refine (gd_t (⟨rfl, Nat.le_of_ble_eq_true rfl, rfl, Nat.le_of_ble_eq_true rfl⟩) _).trans ?_
    refine (gd_t (⟨rfl, (PTC KC 7 _ rfl rfl), (PNC KC 7 rfl)⟩) _).trans ?_
    rfl
theorem q_Sc_begin_r59 {h : zH} {x1 : Int} {x2 : Int} (KC : KC h) : zBack zY 82 56 59 [some (zR (some 7)), some (zI x1), some (zI x2)] [] (some (.inl (none), h)) =
    gd (0 ≤ x2 ∧ x2 < 402) (
    gd (-2147483648 ≤ (hI h 7 7) + 1 ∧ (hI h 7 7) + 1 < 2147483648) (
    gd (-2147483648 ≤ x2 + 1 ∧ x2 + 1 < 2147483648) (
    zY 82 30 [some (zR (some 7)), some (zI x1), some (zI (x2 + 1))] [] (sI (sI (sI h 8 x2.toNat (hI h 7 0)) 9 x2.toNat (hI h 7 1)) 7 7 ((hI h 7 7) + 1))))) := by
  refine (show zBack zY 82 56 59 [some (zR (some 7)), some (zI x1), some (zI x2)] [] (some (.inl (none), h)) = gd (zob h (some 7) 7) (zY 82 63 [some (zR (some 7)), some (zI x1), some (zI x2)] [zR (hR h 7 5)] h) from zGo 2 82 59 _ _ _).trans ?_
  refine (gd_t (⟨rfl, (PTC KC 7 _ rfl rfl), (PNC KC 7 rfl)⟩) _).trans ?_
  refine (congrArg (fun r => zY 82 63 [some (zR (some 7)), some (zI x1), some (zI x2)] (zR r :: []) h) (PRC KC 7 5 _ rfl)).trans ?_
  refine (show zY 82 63 [some (zR (some 7)), some (zI x1), some (zI x2)] [zR (some 8)] h = gd (zob h (some 7) 7) (gd (zokw h (some 8) 22 x2) (gd (zob (sI h 8 x2.toNat (hI h 7 0)) (some 7) 7) (zY 82 73 [some (zR (some 7)), some (zI x1), some (zI x2)] [zR (hR h 7 6)] (sI h 8 x2.toNat (hI h 7 0))))) from zGo 6 82 63 _ _ _).trans ?_
  refine (gd_t (⟨rfl, (PTC KC 7 _ rfl rfl), (PNC KC 7 rfl)⟩) _).trans ?_
  refine gd_c (ciw (PTC KC 8 _ rfl rfl) (PNC KC 8 rfl) (PLC KC 8 402 rfl rfl)) (fun c0 => ?_)
  refine (gd_t (⟨rfl, (PTC KC 7 _ rfl rfl), (PNC KC 7 rfl)⟩) _).trans ?_
  refine (congrArg (fun r => zY 82 73 [some (zR (some 7)), some (zI x1), some (zI x2)] (zR r :: []) (sI h 8 x2.toNat (hI h 7 0))) (PRC KC 7 6 _ rfl)).trans ?_
  refine (show zY 82 73 [some (zR (some 7)), some (zI x1), some (zI x2)] [zR (some 9)] (sI h 8 x2.toNat (hI h 7 0)) = gd (zob (sI h 8 x2.toNat (hI h 7 0)) (some 7) 7) (gd (zokw (sI h 8 x2.toNat (hI h 7 0)) (some 9) 22 x2) (gd (zob (sI (sI h 8 x2.toNat (hI h 7 0)) 9 x2.toNat (hI h 7 1)) (some 7) 7) (gd (inR (1)) (gd (inR ((hI h 7 7) + 1)) (gd (zob (sI (sI h 8 x2.toNat (hI h 7 0)) 9 x2.toNat (hI h 7 1)) (some 7) 7) (gd (inR (x2 + 1)) (gd (inR (1)) (zY 82 30 [some (zR (some 7)), some (zI x1), some (zI (x2 + 1))] [] (sI (sI (sI h 8 x2.toNat (hI h 7 0)) 9 x2.toNat (hI h 7 1)) 7 7 ((hI h 7 7) + 1)))))))))) from zGo 12 82 73 _ _ _).trans ?_
  refine (gd_t (⟨rfl, (PTC KC 7 _ rfl rfl), (PNC KC 7 rfl)⟩) _).trans ?_
  refine (gd_t ((ciw (PTC KC 9 _ rfl rfl) (PNC KC 9 rfl) (PLC KC 9 402 rfl rfl)).2 (by omega)) _).trans ?_
  refine (gd_t (⟨rfl, (PTC KC 7 _ rfl rfl), (PNC KC 7 rfl)⟩) _).trans ?_
  refine (gd_t (by decide) _).trans ?_
  refine gd_c Iff.rfl (fun c1 => ?_)
  refine (gd_t (⟨rfl, (PTC KC 7 _ rfl rfl), (PNC KC 7 rfl)⟩) _).trans ?_
  refine gd_c Iff.rfl (fun c2 => ?_)
  refine (gd_t (by decide) _).trans ?_
  rfl
theorem q_Sc_begin_r104 {h : zH} {x1 : Int} {x2 : Int} (KC : KC h) : zBack zY 82 101 104 [some (zR (some 7)), some (zI x1), some (zI x2)] [] (some (.inl (none), h)) =
    some (.inl (none), h) := by
  refine (show zBack zY 82 101 104 [some (zR (some 7)), some (zI x1), some (zI x2)] [] (some (.inl (none), h)) = gd (([] : List zV).isEmpty = true ∧ zrk 82 = 0) (some (.inl (none), h)) from zGo 1 82 104 _ _ _).trans ?_
  refine (gd_t (⟨rfl, rfl⟩) _).trans ?_
  rfl

