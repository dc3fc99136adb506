/-! The law: its loop, pieces. -/
theorem q_lw_28 {h : zH} {a0 : Nat} {a3 : Nat} {a4 : Nat} {i : Int} (ta0 : hT h a0 = 22) (KC : KC h) (KM : KM h) (ta3 : hT h a3 = 23) (na3 : a3 < hN h) (ta4 : hT h a4 = 24) (na4 : a4 < hN h) : zY 392 28 [some (zR (some a0)), some (zR (some 0)), some (zR (some 177)), some (zR (some a3)), some (zR (some a4)), some (zI i), none, none, none, none] [] h =
    gd (-2147483648 ≤ (hL h a0 : Int) - 6 ∧ (hL h a0 : Int) - 6 < 2147483648) (
    if ((hL h a0 : Int) - 6) < i then
      some (.inl (some (zI 1)), h)
    else
      gd (0 ≤ i ∧ i < (hL h a0 : Int)) (
      if (zand (hI h a0 i.toNat) 63) = 0 then
        zY 392 232 [some (zR (some a0)), some (zR (some 0)), some (zR (some 177)), some (zR (some a3)), some (zR (some a4)), some (zI i), none, none, none, none] [] h
      else
        if (zand (hI h a0 i.toNat) 63) = 1 then
          zY 392 336 [some (zR (some a0)), some (zR (some 0)), some (zR (some 177)), some (zR (some a3)), some (zR (some a4)), some (zI i), none, none, none, none] [] h
        else
          if (zand (hI h a0 i.toNat) 63) = 2 then
            zY 392 392 [some (zR (some a0)), some (zR (some 0)), some (zR (some 177)), some (zR (some a3)), some (zR (some a4)), some (zI i), none, none, none, none] [] h
          else
            if (zand (hI h a0 i.toNat) 63) = 3 then
              zY 392 405 [some (zR (some a0)), some (zR (some 0)), some (zR (some 177)), some (zR (some a3)), some (zR (some a4)), some (zI i), none, none, none, none] [] h
            else
              if (zand (hI h a0 i.toNat) 63) = 4 then
                zY 392 418 [some (zR (some a0)), some (zR (some 0)), some (zR (some 177)), some (zR (some a3)), some (zR (some a4)), some (zI i), none, none, none, none] [] h
              else
                if (zand (hI h a0 i.toNat) 63) = 5 then
                  zY 392 474 [some (zR (some a0)), some (zR (some 0)), some (zR (some 177)), some (zR (some a3)), some (zR (some a4)), some (zI i), none, none, none, none] [] h
                else
                  if (zand (hI h a0 i.toNat) 63) = 6 then
                    zY 392 542 [some (zR (some a0)), some (zR (some 0)), some (zR (some 177)), some (zR (some a3)), some (zR (some a4)), some (zI i), none, none, none, none] [] h
                  else
                    if (zand (hI h a0 i.toNat) 63) = 7 then
                      zY 392 556 [some (zR (some a0)), some (zR (some 0)), some (zR (some 177)), some (zR (some a3)), some (zR (some a4)), some (zI i), none, none, none, none] [] h
                    else
                      if (zand (hI h a0 i.toNat) 63) = 8 then
                        zY 392 570 [some (zR (some a0)), some (zR (some 0)), some (zR (some 177)), some (zR (some a3)), some (zR (some a4)), some (zI i), none, none, none, none] [] h
                      else
                        if (zand (hI h a0 i.toNat) 63) = 9 then
                          zY 392 637 [some (zR (some a0)), some (zR (some 0)), some (zR (some 177)), some (zR (some a3)), some (zR (some a4)), some (zI i), none, none, none, none] [] h
                        else
                          if (zand (hI h a0 i.toNat) 63) = 10 then
                            zY 392 705 [some (zR (some a0)), some (zR (some 0)), some (zR (some 177)), some (zR (some a3)), some (zR (some a4)), some (zI i), none, none, none, none] [] h
                          else
                            if (zand (hI h a0 i.toNat) 63) = 11 then
                              zY 392 760 [some (zR (some a0)), some (zR (some 0)), some (zR (some 177)), some (zR (some a3)), some (zR (some a4)), some (zI i), none, none, none, none] [] h
                            else
                              if (zand (hI h a0 i.toNat) 63) = 12 then
                                zY 392 774 [some (zR (some a0)), some (zR (some 0)), some (zR (some 177)), some (zR (some a3)), some (zR (some a4)), some (zI i), none, none, none, none] [] h
                              else
                                if (zand (hI h a0 i.toNat) 63) = 13 then
                                  zY 392 842 [some (zR (some a0)), some (zR (some 0)), some (zR (some 177)), some (zR (some a3)), some (zR (some a4)), some (zI i), none, none, none, none] [] h
                                else
                                  if (zand (hI h a0 i.toNat) 63) = 14 then
                                    zY 392 897 [some (zR (some a0)), some (zR (some 0)), some (zR (some 177)), some (zR (some a3)), some (zR (some a4)), some (zI i), none, none, none, none] [] h
                                  else
                                    if (zand (hI h a0 i.toNat) 63) = 15 then
                                      zY 392 910 [some (zR (some a0)), some (zR (some 0)), some (zR (some 177)), some (zR (some a3)), some (zR (some a4)), some (zI i), none, none, none, none] [] h
                                    else
                                      if (zand (hI h a0 i.toNat) 63) = 16 then
                                        zY 392 966 [some (zR (some a0)), some (zR (some 0)), some (zR (some 177)), some (zR (some a3)), some (zR (some a4)), some (zI i), none, none, none, none] [] h
                                      else
                                        if (zand (hI h a0 i.toNat) 63) = 17 then
                                          zY 392 1022 [some (zR (some a0)), some (zR (some 0)), some (zR (some 177)), some (zR (some a3)), some (zR (some a4)), some (zI i), none, none, none, none] [] h
                                        else
                                          if (zand (hI h a0 i.toNat) 63) = 18 then
                                            zY 392 1100 [some (zR (some a0)), some (zR (some 0)), some (zR (some 177)), some (zR (some a3)), some (zR (some a4)), some (zI i), none, none, none, none] [] h
                                          else
                                            if (zand (hI h a0 i.toNat) 63) = 19 then
                                              zY 392 1156 [some (zR (some a0)), some (zR (some 0)), some (zR (some 177)), some (zR (some a3)), some (zR (some a4)), some (zI i), none, none, none, none] [] h
                                            else
                                              if (zand (hI h a0 i.toNat) 63) = 20 then
                                                zY 392 1211 [some (zR (some a0)), some (zR (some 0)), some (zR (some 177)), some (zR (some a3)), some (zR (some a4)), some (zI i), none, none, none, none] [] h
                                              else
                                                if (zand (hI h a0 i.toNat) 63) = 21 then
                                                  zY 392 1267 [some (zR (some a0)), some (zR (some 0)), some (zR (some 177)), some (zR (some a3)), some (zR (some a4)), some (zI i), none, none, none, none] [] h
                                                else
                                                  if (zand (hI h a0 i.toNat) 63) = 22 then
                                                    zY 392 1281 [some (zR (some a0)), some (zR (some 0)), some (zR (some 177)), some (zR (some a3)), some (zR (some a4)), some (zI i), none, none, none, none] [] h
                                                  else
                                                    if (zand (hI h a0 i.toNat) 63) = 23 then
                                                      zY 392 1294 [some (zR (some a0)), some (zR (some 0)), some (zR (some 177)), some (zR (some a3)), some (zR (some a4)), some (zI i), none, none, none, none] [] h
                                                    else
                                                      if (zand (hI h a0 i.toNat) 63) = 24 then
                                                        zY 392 1335 [some (zR (some a0)), some (zR (some 0)), some (zR (some 177)), some (zR (some a3)), some (zR (some a4)), some (zI i), none, none, none, none] [] h
                                                      else
                                                        if (zand (hI h a0 i.toNat) 63) = 25 then
                                                          zY 392 1349 [some (zR (some a0)), some (zR (some 0)), some (zR (some 177)), some (zR (some a3)), some (zR (some a4)), some (zI i), none, none, none, none] [] h
                                                        else
                                                          if (zand (hI h a0 i.toNat) 63) = 26 then
                                                            zY 392 1392 [some (zR (some a0)), some (zR (some 0)), some (zR (some 177)), some (zR (some a3)), some (zR (some a4)), some (zI i), none, none, none, none] [] h
                                                          else
                                                            if (zand (hI h a0 i.toNat) 63) = 27 then
                                                              zY 392 1448 [some (zR (some a0)), some (zR (some 0)), some (zR (some 177)), some (zR (some a3)), some (zR (some a4)), some (zI i), none, none, none, none] [] h
                                                            else
                                                              if (zand (hI h a0 i.toNat) 63) = 28 then
                                                                zY 392 1504 [some (zR (some a0)), some (zR (some 0)), some (zR (some 177)), some (zR (some a3)), some (zR (some a4)), some (zI i), none, none, none, none] [] h
                                                              else
                                                                if (zand (hI h a0 i.toNat) 63) = 29 then
                                                                  zY 392 1559 [some (zR (some a0)), some (zR (some 0)), some (zR (some 177)), some (zR (some a3)), some (zR (some a4)), some (zI i), none, none, none, none] [] h
                                                                else
                                                                  if (zand (hI h a0 i.toNat) 63) = 30 then
                                                                    zY 392 1614 [some (zR (some a0)), some (zR (some 0)), some (zR (some 177)), some (zR (some a3)), some (zR (some a4)), some (zI i), none, none, none, none] [] h
                                                                  else
                                                                    if (zand (hI h a0 i.toNat) 63) = 31 then
                                                                      zY 392 1670 [some (zR (some a0)), some (zR (some 0)), some (zR (some 177)), some (zR (some a3)), some (zR (some a4)), some (zI i), none, none, none, none] [] h
                                                                    else
                                                                      if (zand (hI h a0 i.toNat) 63) = 32 then
                                                                        zY 392 1726 [some (zR (some a0)), some (zR (some 0)), some (zR (some 177)), some (zR (some a3)), some (zR (some a4)), some (zI i), none, none, none, none] [] h
                                                                      else
                                                                        if (zand (hI h a0 i.toNat) 63) = 33 then
                                                                          zY 392 1782 [some (zR (some a0)), some (zR (some 0)), some (zR (some 177)), some (zR (some a3)), some (zR (some a4)), some (zI i), none, none, none, none] [] h
                                                                        else
                                                                          if (zand (hI h a0 i.toNat) 63) = 34 then
                                                                            zY 392 1838 [some (zR (some a0)), some (zR (some 0)), some (zR (some 177)), some (zR (some a3)), some (zR (some a4)), some (zI i), none, none, none, none] [] h
                                                                          else
                                                                            if (zand (hI h a0 i.toNat) 63) = 35 then
                                                                              zY 392 1894 [some (zR (some a0)), some (zR (some 0)), some (zR (some 177)), some (zR (some a3)), some (zR (some a4)), some (zI i), none, none, none, none] [] h
                                                                            else
                                                                              if (zand (hI h a0 i.toNat) 63) = 36 then
                                                                                zY 392 1950 [some (zR (some a0)), some (zR (some 0)), some (zR (some 177)), some (zR (some a3)), some (zR (some a4)), some (zI i), none, none, none, none] [] h
                                                                              else
                                                                                if (zand (hI h a0 i.toNat) 63) = 37 then
                                                                                  zY 392 2018 [some (zR (some a0)), some (zR (some 0)), some (zR (some 177)), some (zR (some a3)), some (zR (some a4)), some (zI i), none, none, none, none] [] h
                                                                                else
                                                                                  if (zand (hI h a0 i.toNat) 63) = 38 then
                                                                                    zY 392 2086 [some (zR (some a0)), some (zR (some 0)), some (zR (some 177)), some (zR (some a3)), some (zR (some a4)), some (zI i), none, none, none, none] [] h
                                                                                  else
                                                                                    if (zand (hI h a0 i.toNat) 63) = 39 then
                                                                                      zY 392 2154 [some (zR (some a0)), some (zR (some 0)), some (zR (some 177)), some (zR (some a3)), some (zR (some a4)), some (zI i), none, none, none, none] [] h
                                                                                    else
                                                                                      if (zand (hI h a0 i.toNat) 63) = 40 then
                                                                                        zY 392 2222 [some (zR (some a0)), some (zR (some 0)), some (zR (some 177)), some (zR (some a3)), some (zR (some a4)), some (zI i), none, none, none, none] [] h
                                                                                      else
                                                                                        if (zand (hI h a0 i.toNat) 63) = 41 then
                                                                                          zY 392 2278 [some (zR (some a0)), some (zR (some 0)), some (zR (some 177)), some (zR (some a3)), some (zR (some a4)), some (zI i), none, none, none, none] [] h
                                                                                        else
                                                                                          if (zand (hI h a0 i.toNat) 63) = 42 then
                                                                                            zY 392 2322 [some (zR (some a0)), some (zR (some 0)), some (zR (some 177)), some (zR (some a3)), some (zR (some a4)), some (zI i), none, none, none, none] [] h
                                                                                          else
                                                                                            zY 392 2378 [some (zR (some a0)), some (zR (some 0)), some (zR (some 177)), some (zR (some a3)), some (zR (some a4)), some (zI i), none, none, none, none] [] h)) := by
  refine (show zY 392 28 [some (zR (some a0)), some (zR (some 0)), some (zR (some 177)), some (zR (some a3)), some (zR (some a4)), some (zI i), none, none, none, none] [] h = gd ((some a0).isSome = true ∧ 20 ≤ hT h (zdr (some a0)) ∧ hT h (zdr (some a0)) < 40) (gd (-128 ≤ (6 : Int) ∧ (6 : Int) < 128) (gd (inR ((hL h a0 : Int) - 6)) (if ((hL h a0 : Int) - 6) < i then zY 392 2384 [some (zR (some a0)), some (zR (some 0)), some (zR (some 177)), some (zR (some a3)), some (zR (some a4)), some (zI i), none, none, none, none] [] h else zY 392 38 [some (zR (some a0)), some (zR (some 0)), some (zR (some 177)), some (zR (some a3)), some (zR (some a4)), some (zI i), none, none, none, none] [] h))) from zGo 6 392 28 _ _ _).trans ?_
  refine (gd_t (al ta0 (by decide) (by decide)) _).trans ?_
  refine (gd_t (by decide) _).trans ?_
  refine gd_c Iff.rfl (fun c0 => ?_)
  refine iteC (fun c1 => ?_) (fun c1 => ?_)
  · skip
    refine (show zY 392 2384 [some (zR (some a0)), some (zR (some 0)), some (zR (some 177)), some (zR (some a3)), some (zR (some a4)), some (zI i), none, none, none, none] [] h = gd (inR (1)) (gd (([] : List zV).isEmpty = true ∧ (zrk 392 = 1 ∨ zrk 392 = 6 ∧ ((1 : Int) = 0 ∨ (1 : Int) = 1))) (some (.inl (some (zI 1)), h))) from zGo 2 392 2384 _ _ _).trans ?_
    refine (gd_t (by decide) _).trans ?_
    refine (gd_t (⟨rfl, Or.inr ⟨rfl, by decide⟩⟩) _).trans ?_
    rfl
  · skip
    refine (show zY 392 38 [some (zR (some a0)), some (zR (some 0)), some (zR (some 177)), some (zR (some a3)), some (zR (some a4)), some (zI i), none, none, none, none] [] h = gd (zok h (some a0) 22 i) (gd (-128 ≤ (63 : Int) ∧ (63 : Int) < 128) (if (zand (hI h a0 i.toNat) 63) = 0 then zY 392 232 [some (zR (some a0)), some (zR (some 0)), some (zR (some 177)), some (zR (some a3)), some (zR (some a4)), some (zI i), none, none, none, none] [] h else if (zand (hI h a0 i.toNat) 63) = 1 then zY 392 336 [some (zR (some a0)), some (zR (some 0)), some (zR (some 177)), some (zR (some a3)), some (zR (some a4)), some (zI i), none, none, none, none] [] h else if (zand (hI h a0 i.toNat) 63) = 2 then zY 392 392 [some (zR (some a0)), some (zR (some 0)), some (zR (some 177)), some (zR (some a3)), some (zR (some a4)), some (zI i), none, none, none, none] [] h else if (zand (hI h a0 i.toNat) 63) = 3 then zY 392 405 [some (zR (some a0)), some (zR (some 0)), some (zR (some 177)), some (zR (some a3)), some (zR (some a4)), some (zI i), none, none, none, none] [] h else if (zand (hI h a0 i.toNat) 63) = 4 then zY 392 418 [some (zR (some a0)), some (zR (some 0)), some (zR (some 177)), some (zR (some a3)), some (zR (some a4)), some (zI i), none, none, none, none] [] h else if (zand (hI h a0 i.toNat) 63) = 5 then zY 392 474 [some (zR (some a0)), some (zR (some 0)), some (zR (some 177)), some (zR (some a3)), some (zR (some a4)), some (zI i), none, none, none, none] [] h else if (zand (hI h a0 i.toNat) 63) = 6 then zY 392 542 [some (zR (some a0)), some (zR (some 0)), some (zR (some 177)), some (zR (some a3)), some (zR (some a4)), some (zI i), none, none, none, none] [] h else if (zand (hI h a0 i.toNat) 63) = 7 then zY 392 556 [some (zR (some a0)), some (zR (some 0)), some (zR (some 177)), some (zR (some a3)), some (zR (some a4)), some (zI i), none, none, none, none] [] h else if (zand (hI h a0 i.toNat) 63) = 8 then zY 392 570 [some (zR (some a0)), some (zR (some 0)), some (zR (some 177)), some (zR (some a3)), some (zR (some a4)), some (zI i), none, none, none, none] [] h else if (zand (hI h a0 i.toNat) 63) = 9 then zY 392 637 [some (zR (some a0)), some (zR (some 0)), some (zR (some 177)), some (zR (some a3)), some (zR (some a4)), some (zI i), none, none, none, none] [] h else if (zand (hI h a0 i.toNat) 63) = 10 then zY 392 705 [some (zR (some a0)), some (zR (some 0)), some (zR (some 177)), some (zR (some a3)), some (zR (some a4)), some (zI i), none, none, none, none] [] h else if (zand (hI h a0 i.toNat) 63) = 11 then zY 392 760 [some (zR (some a0)), some (zR (some 0)), some (zR (some 177)), some (zR (some a3)), some (zR (some a4)), some (zI i), none, none, none, none] [] h else if (zand (hI h a0 i.toNat) 63) = 12 then zY 392 774 [some (zR (some a0)), some (zR (some 0)), some (zR (some 177)), some (zR (some a3)), some (zR (some a4)), some (zI i), none, none, none, none] [] h else if (zand (hI h a0 i.toNat) 63) = 13 then zY 392 842 [some (zR (some a0)), some (zR (some 0)), some (zR (some 177)), some (zR (some a3)), some (zR (some a4)), some (zI i), none, none, none, none] [] h else if (zand (hI h a0 i.toNat) 63) = 14 then zY 392 897 [some (zR (some a0)), some (zR (some 0)), some (zR (some 177)), some (zR (some a3)), some (zR (some a4)), some (zI i), none, none, none, none] [] h else if (zand (hI h a0 i.toNat) 63) = 15 then zY 392 910 [some (zR (some a0)), some (zR (some 0)), some (zR (some 177)), some (zR (some a3)), some (zR (some a4)), some (zI i), none, none, none, none] [] h else if (zand (hI h a0 i.toNat) 63) = 16 then zY 392 966 [some (zR (some a0)), some (zR (some 0)), some (zR (some 177)), some (zR (some a3)), some (zR (some a4)), some (zI i), none, none, none, none] [] h else if (zand (hI h a0 i.toNat) 63) = 17 then zY 392 1022 [some (zR (some a0)), some (zR (some 0)), some (zR (some 177)), some (zR (some a3)), some (zR (some a4)), some (zI i), none, none, none, none] [] h else if (zand (hI h a0 i.toNat) 63) = 18 then zY 392 1100 [some (zR (some a0)), some (zR (some 0)), some (zR (some 177)), some (zR (some a3)), some (zR (some a4)), some (zI i), none, none, none, none] [] h else if (zand (hI h a0 i.toNat) 63) = 19 then zY 392 1156 [some (zR (some a0)), some (zR (some 0)), some (zR (some 177)), some (zR (some a3)), some (zR (some a4)), some (zI i), none, none, none, none] [] h else if (zand (hI h a0 i.toNat) 63) = 20 then zY 392 1211 [some (zR (some a0)), some (zR (some 0)), some (zR (some 177)), some (zR (some a3)), some (zR (some a4)), some (zI i), none, none, none, none] [] h else if (zand (hI h a0 i.toNat) 63) = 21 then zY 392 1267 [some (zR (some a0)), some (zR (some 0)), some (zR (some 177)), some (zR (some a3)), some (zR (some a4)), some (zI i), none, none, none, none] [] h else if (zand (hI h a0 i.toNat) 63) = 22 then zY 392 1281 [some (zR (some a0)), some (zR (some 0)), some (zR (some 177)), some (zR (some a3)), some (zR (some a4)), some (zI i), none, none, none, none] [] h else if (zand (hI h a0 i.toNat) 63) = 23 then zY 392 1294 [some (zR (some a0)), some (zR (some 0)), some (zR (some 177)), some (zR (some a3)), some (zR (some a4)), some (zI i), none, none, none, none] [] h else if (zand (hI h a0 i.toNat) 63) = 24 then zY 392 1335 [some (zR (some a0)), some (zR (some 0)), some (zR (some 177)), some (zR (some a3)), some (zR (some a4)), some (zI i), none, none, none, none] [] h else if (zand (hI h a0 i.toNat) 63) = 25 then zY 392 1349 [some (zR (some a0)), some (zR (some 0)), some (zR (some 177)), some (zR (some a3)), some (zR (some a4)), some (zI i), none, none, none, none] [] h else if (zand (hI h a0 i.toNat) 63) = 26 then zY 392 1392 [some (zR (some a0)), some (zR (some 0)), some (zR (some 177)), some (zR (some a3)), some (zR (some a4)), some (zI i), none, none, none, none] [] h else if (zand (hI h a0 i.toNat) 63) = 27 then zY 392 1448 [some (zR (some a0)), some (zR (some 0)), some (zR (some 177)), some (zR (some a3)), some (zR (some a4)), some (zI i), none, none, none, none] [] h else if (zand (hI h a0 i.toNat) 63) = 28 then zY 392 1504 [some (zR (some a0)), some (zR (some 0)), some (zR (some 177)), some (zR (some a3)), some (zR (some a4)), some (zI i), none, none, none, none] [] h else if (zand (hI h a0 i.toNat) 63) = 29 then zY 392 1559 [some (zR (some a0)), some (zR (some 0)), some (zR (some 177)), some (zR (some a3)), some (zR (some a4)), some (zI i), none, none, none, none] [] h else if (zand (hI h a0 i.toNat) 63) = 30 then zY 392 1614 [some (zR (some a0)), some (zR (some 0)), some (zR (some 177)), some (zR (some a3)), some (zR (some a4)), some (zI i), none, none, none, none] [] h else if (zand (hI h a0 i.toNat) 63) = 31 then zY 392 1670 [some (zR (some a0)), some (zR (some 0)), some (zR (some 177)), some (zR (some a3)), some (zR (some a4)), some (zI i), none, none, none, none] [] h else if (zand (hI h a0 i.toNat) 63) = 32 then zY 392 1726 [some (zR (some a0)), some (zR (some 0)), some (zR (some 177)), some (zR (some a3)), some (zR (some a4)), some (zI i), none, none, none, none] [] h else if (zand (hI h a0 i.toNat) 63) = 33 then zY 392 1782 [some (zR (some a0)), some (zR (some 0)), some (zR (some 177)), some (zR (some a3)), some (zR (some a4)), some (zI i), none, none, none, none] [] h else if (zand (hI h a0 i.toNat) 63) = 34 then zY 392 1838 [some (zR (some a0)), some (zR (some 0)), some (zR (some 177)), some (zR (some a3)), some (zR (some a4)), some (zI i), none, none, none, none] [] h else if (zand (hI h a0 i.toNat) 63) = 35 then zY 392 1894 [some (zR (some a0)), some (zR (some 0)), some (zR (some 177)), some (zR (some a3)), some (zR (some a4)), some (zI i), none, none, none, none] [] h else if (zand (hI h a0 i.toNat) 63) = 36 then zY 392 1950 [some (zR (some a0)), some (zR (some 0)), some (zR (some 177)), some (zR (some a3)), some (zR (some a4)), some (zI i), none, none, none, none] [] h else if (zand (hI h a0 i.toNat) 63) = 37 then zY 392 2018 [some (zR (some a0)), some (zR (some 0)), some (zR (some 177)), some (zR (some a3)), some (zR (some a4)), some (zI i), none, none, none, none] [] h else if (zand (hI h a0 i.toNat) 63) = 38 then zY 392 2086 [some (zR (some a0)), some (zR (some 0)), some (zR (some 177)), some (zR (some a3)), some (zR (some a4)), some (zI i), none, none, none, none] [] h else if (zand (hI h a0 i.toNat) 63) = 39 then zY 392 2154 [some (zR (some a0)), some (zR (some 0)), some (zR (some 177)), some (zR (some a3)), some (zR (some a4)), some (zI i), none, none, none, none] [] h else if (zand (hI h a0 i.toNat) 63) = 40 then zY 392 2222 [some (zR (some a0)), some (zR (some 0)), some (zR (some 177)), some (zR (some a3)), some (zR (some a4)), some (zI i), none, none, none, none] [] h else if (zand (hI h a0 i.toNat) 63) = 41 then zY 392 2278 [some (zR (some a0)), some (zR (some 0)), some (zR (some 177)), some (zR (some a3)), some (zR (some a4)), some (zI i), none, none, none, none] [] h else if (zand (hI h a0 i.toNat) 63) = 42 then zY 392 2322 [some (zR (some a0)), some (zR (some 0)), some (zR (some 177)), some (zR (some a3)), some (zR (some a4)), some (zI i), none, none, none, none] [] h else zY 392 2378 [some (zR (some a0)), some (zR (some 0)), some (zR (some 177)), some (zR (some a3)), some (zR (some a4)), some (zI i), none, none, none, none] [] h)) from zGo 6 392 38 _ _ _).trans ?_
    refine gd_c (ci ta0 rfl) (fun c2 => ?_)
    refine (gd_t (by decide) _).trans ?_
    refine iteC (fun c3 => ?_) (fun c3 => ?_)
    · skip
      rfl
    · skip
      refine iteC (fun c4 => ?_) (fun c4 => ?_)
      · skip
        rfl
      · skip
        refine iteC (fun c5 => ?_) (fun c5 => ?_)
        · skip
          rfl
        · skip
          refine iteC (fun c6 => ?_) (fun c6 => ?_)
          · skip
            rfl
          · skip
            refine iteC (fun c7 => ?_) (fun c7 => ?_)
            · skip
              rfl
            · skip
              refine iteC (fun c8 => ?_) (fun c8 => ?_)
              · skip
                rfl
              · skip
                refine iteC (fun c9 => ?_) (fun c9 => ?_)
                · skip
                  rfl
                · skip
                  refine iteC (fun c10 => ?_) (fun c10 => ?_)
                  · skip
                    rfl
                  · skip
                    refine iteC (fun c11 => ?_) (fun c11 => ?_)
                    · skip
                      rfl
                    · skip
                      refine iteC (fun c12 => ?_) (fun c12 => ?_)
                      · skip
                        rfl
                      · skip
                        refine iteC (fun c13 => ?_) (fun c13 => ?_)
                        · skip
                          rfl
                        · skip
                          refine iteC (fun c14 => ?_) (fun c14 => ?_)
                          · skip
                            rfl
                          · skip
                            refine iteC (fun c15 => ?_) (fun c15 => ?_)
                            · skip
                              rfl
                            · skip
                              refine iteC (fun c16 => ?_) (fun c16 => ?_)
                              · skip
                                rfl
                              · skip
                                refine iteC (fun c17 => ?_) (fun c17 => ?_)
                                · skip
                                  rfl
                                · skip
                                  refine iteC (fun c18 => ?_) (fun c18 => ?_)
                                  · skip
                                    rfl
                                  · skip
                                    refine iteC (fun c19 => ?_) (fun c19 => ?_)
                                    · skip
                                      rfl
                                    · skip
                                      refine iteC (fun c20 => ?_) (fun c20 => ?_)
                                      · skip
                                        rfl
                                      · skip
                                        refine iteC (fun c21 => ?_) (fun c21 => ?_)
                                        · skip
                                          rfl
                                        · skip
                                          refine iteC (fun c22 => ?_) (fun c22 => ?_)
                                          · skip
                                            rfl
                                          · skip
                                            refine iteC (fun c23 => ?_) (fun c23 => ?_)
                                            · skip
                                              rfl
                                            · skip
                                              refine iteC (fun c24 => ?_) (fun c24 => ?_)
                                              · skip
                                                rfl
                                              · skip
                                                refine iteC (fun c25 => ?_) (fun c25 => ?_)
                                                · skip
                                                  rfl
                                                · skip
                                                  refine iteC (fun c26 => ?_) (fun c26 => ?_)
                                                  · skip
                                                    rfl
                                                  · skip
                                                    refine iteC (fun c27 => ?_) (fun c27 => ?_)
                                                    · skip
                                                      rfl
                                                    · skip
                                                      refine iteC (fun c28 => ?_) (fun c28 => ?_)
                                                      · skip
                                                        rfl
                                                      · skip
                                                        refine iteC (fun c29 => ?_) (fun c29 => ?_)
                                                        · skip
                                                          rfl
                                                        · skip
                                                          refine iteC (fun c30 => ?_) (fun c30 => ?_)
                                                          · skip
                                                            rfl
                                                          · skip
                                                            refine iteC (fun c31 => ?_) (fun c31 => ?_)
                                                            · skip
                                                              rfl
                                                            · skip
                                                              refine iteC (fun c32 => ?_) (fun c32 => ?_)
                                                              · skip
                                                                rfl
                                                              · skip
                                                                refine iteC (fun c33 => ?_) (fun c33 => ?_)
                                                                · skip
                                                                  rfl
                                                                · skip
                                                                  refine iteC (fun c34 => ?_) (fun c34 => ?_)
                                                                  · skip
                                                                    rfl
                                                                  · skip
                                                                    refine iteC (fun c35 => ?_) (fun c35 => ?_)
                                                                    · skip
                                                                      rfl
                                                                    · skip
                                                                      refine iteC (fun c36 => ?_) (fun c36 => ?_)
                                                                      · skip
                                                                        rfl
                                                                      · skip
                                                                        refine iteC (fun c37 => ?_) (fun c37 => ?_)
                                                                        · skip
                                                                          rfl
                                                                        · skip
                                                                          refine iteC (fun c38 => ?_) (fun c38 => ?_)
                                                                          · skip
                                                                            rfl
                                                                          · skip
                                                                            refine iteC (fun c39 => ?_) (fun c39 => ?_)
                                                                            · skip
                                                                              rfl
                                                                            · skip
                                                                              refine iteC (fun c40 => ?_) (fun c40 => ?_)
                                                                              · skip
                                                                                rfl
                                                                              · skip
                                                                                refine iteC (fun c41 => ?_) (fun c41 => ?_)
                                                                                · skip
                                                                                  rfl
                                                                                · skip
                                                                                  refine iteC (fun c42 => ?_) (fun c42 => ?_)
                                                                                  · skip
                                                                                    rfl
                                                                                  · skip
                                                                                    refine iteC (fun c43 => ?_) (fun c43 => ?_)
                                                                                    · skip
                                                                                      rfl
                                                                                    · skip
                                                                                      refine iteC (fun c44 => ?_) (fun c44 => ?_)
                                                                                      · skip
                                                                                        rfl
                                                                                      · skip
                                                                                        refine iteC (fun c45 => ?_) (fun c45 => ?_)
                                                                                        · skip
                                                                                          rfl
                                                                                        · skip
                                                                                          rfl
theorem q_lw_2378 {h : zH} {a0 : Nat} {a3 : Nat} {a4 : Nat} {i : Int} (ta0 : hT h a0 = 22) (KC : KC h) (KM : KM h) (ta3 : hT h a3 = 23) (na3 : a3 < hN h) (ta4 : hT h a4 = 24) (na4 : a4 < hN h) : zY 392 2378 [some (zR (some a0)), some (zR (some 0)), some (zR (some 177)), some (zR (some a3)), some (zR (some a4)), some (zI i), none, none, none, none] [] h =
    gd (-2147483648 ≤ i + 6 ∧ i + 6 < 2147483648) (
    zY 392 28 [some (zR (some a0)), some (zR (some 0)), some (zR (some 177)), some (zR (some a3)), some (zR (some a4)), some (zI (i + 6)), none, none, none, none] [] h) := by
  refine (show zY 392 2378 [some (zR (some a0)), some (zR (some 0)), some (zR (some 177)), some (zR (some a3)), some (zR (some a4)), some (zI i), none, none, none, none] [] h = gd (inR (i + 6)) (gd (inR (6)) (zY 392 28 [some (zR (some a0)), some (zR (some 0)), some (zR (some 177)), some (zR (some a3)), some (zR (some a4)), some (zI (i + 6)), none, none, none, none] [] h)) from zGo 2 392 2378 _ _ _).trans ?_
  refine gd_c Iff.rfl (fun c0 => ?_)
  refine (gd_t (by decide) _).trans ?_
  rfl
section LAWL
theorem JX_lp {h : zH} {L : Nat} {xs : Nat → Int} {σ : MSt} (J : JX h L xs σ) : LPc h L xs := by
  obtain ⟨⟨p, v, C⟩, M, _, ok, sc⟩ := J
  exact LPc_mk (CJ_K C) (MM_K M) ok sc
theorem l_law {L : Nat} {xs : Nat → Int} (hL3 : L ≤ 3072) : ∀ (k : Nat) (i : Int) (h : zH) (σ : MSt), JX h L xs σ → 0 ≤ i → (L : Int) - i ≤ 6 * k → i ≤ 3072 → hN h + 200 * k + 400 ≤ zVB → ∃ h9, zY 392 28 (bl i) [] h = some (.inl (some (zI 1)), h9) ∧ hN h9 ≤ hN h + 200 * k ∧ hU h9 + 16 * hN h ≤ hU h + 16 * hN h9 + 4000 * k
  | 0, i, h, σ, J, h0, hk, hi, hz => by
    have l := JX_lp J
    refine ⟨h, ?_, Nat.le_refl _, by omega⟩
    show zY 392 28 [some (zR (some zVB)), some (zR (some 0)), some (zR (some 177)), some (zR (some 197)), some (zR (some 198)), some (zI i), none, none, none, none] [] h = _
    rw [q_lw_28 l.1.1 l.1.2.1 l.1.2.2.1 l.1.2.2.2.1 l.1.2.2.2.2.1 l.1.2.2.2.2.2.1 l.1.2.2.2.2.2.2, gd_t (by rw [l.2.1]; omega), if_pos (by rw [l.2.1]; omega)]
  | k + 1, i, h, σ, J, h0, hk, hi, hz => by
    have l := JX_lp J
    show ∃ h9, zY 392 28 [some (zR (some zVB)), some (zR (some 0)), some (zR (some 177)), some (zR (some 197)), some (zR (some 198)), some (zI i), none, none, none, none] [] h = some (.inl (some (zI 1)), h9) ∧ _
    rw [q_lw_28 l.1.1 l.1.2.1 l.1.2.2.1 l.1.2.2.2.1 l.1.2.2.2.2.1 l.1.2.2.2.2.2.1 l.1.2.2.2.2.2.2, gd_t (by rw [l.2.1]; omega)]
    by_cases ce : (hL h zVB : Int) - 6 < i
    · rw [if_pos ce]
      exact ⟨h, rfl, by omega, by omega⟩
    rw [if_neg ce, gd_t (by rw [l.2.1] at ce ⊢; omega)]
    rw [l.2.1] at ce
    have go : ∀ (h2 : zH) (σ2 : MSt), JX h2 L xs σ2 → STP h h2 → ∃ h9, zY 392 2378 (bl i) [] h2 = some (.inl (some (zI 1)), h9) ∧ hN h9 ≤ hN h + 200 * (k + 1) ∧ hU h9 + 16 * hN h ≤ hU h + 16 * hN h9 + 4000 * (k + 1) := by
      intro h2 σ2 J2 ST
      have l2 := JX_lp J2
      have b := ST.1
      obtain ⟨h9, e9, b1, b2⟩ := l_law hL3 k (i + 6) h2 σ2 J2 (by omega) (by omega) (by omega) (by omega)
      refine ⟨h9, ?_, by omega, by omega⟩
      show zY 392 2378 [some (zR (some zVB)), some (zR (some 0)), some (zR (some 177)), some (zR (some 197)), some (zR (some 198)), some (zI i), none, none, none, none] [] h2 = _
      rw [q_lw_2378 l2.1.1 l2.1.2.1 l2.1.2.2.1 l2.1.2.2.2.1 l2.1.2.2.2.2.1 l2.1.2.2.2.2.2.1 l2.1.2.2.2.2.2.2, gd_t (by omega)]
      exact e9
    have fin : ∀ pc, LST h L xs i pc → ∃ h9, zY 392 pc (bl i) [] h = some (.inl (some (zI 1)), h9) ∧ hN h9 ≤ hN h + 200 * (k + 1) ∧ hU h9 + 16 * hN h ≤ hU h + 16 * hN h9 + 4000 * (k + 1) := by
      intro pc ⟨h2, σ2, e, J2, ST⟩
      obtain ⟨h9, e9, b⟩ := go h2 σ2 J2 ST
      exact ⟨h9, e _ e9, b⟩
    have i6 : i + 6 ≤ L := by omega
    have z4 : hN h + 400 ≤ zVB := by omega
    generalize zand (hI h zVB i.toNat) 63 = op
    by_cases c0 : op = 0
    · rw [if_pos c0]
      exact fin 232 (st_0 J h0 i6 hL3 z4)
    rw [if_neg c0]
    by_cases c1 : op = 1
    · rw [if_pos c1]
      exact fin 336 (st_1 J h0 i6 hL3 z4)
    rw [if_neg c1]
    by_cases c2 : op = 2
    · rw [if_pos c2]
      exact fin 392 (st_2 J h0 i6 hL3 z4)
    rw [if_neg c2]
    by_cases c3 : op = 3
    · rw [if_pos c3]
      exact fin 405 (st_3 J h0 i6 hL3 z4)
    rw [if_neg c3]
    by_cases c4 : op = 4
    · rw [if_pos c4]
      exact fin 418 (st_4 J h0 i6 hL3 z4)
    rw [if_neg c4]
    by_cases c5 : op = 5
    · rw [if_pos c5]
      exact fin 474 (st_5 J h0 i6 hL3 z4)
    rw [if_neg c5]
    by_cases c6 : op = 6
    · rw [if_pos c6]
      exact fin 542 (st_6 J h0 i6 hL3 z4)
    rw [if_neg c6]
    by_cases c7 : op = 7
    · rw [if_pos c7]
      exact fin 556 (st_7 J h0 i6 hL3 z4)
    rw [if_neg c7]
    by_cases c8 : op = 8
    · rw [if_pos c8]
      exact fin 570 (st_8 J h0 i6 hL3 z4)
    rw [if_neg c8]
    by_cases c9 : op = 9
    · rw [if_pos c9]
      exact fin 637 (st_9 J h0 i6 hL3 z4)
    rw [if_neg c9]
    by_cases c10 : op = 10
    · rw [if_pos c10]
      exact fin 705 (st_10 J h0 i6 hL3 z4)
    rw [if_neg c10]
    by_cases c11 : op = 11
    · rw [if_pos c11]
      exact fin 760 (st_11 J h0 i6 hL3 z4)
    rw [if_neg c11]
    by_cases c12 : op = 12
    · rw [if_pos c12]
      exact fin 774 (st_12 J h0 i6 hL3 z4)
    rw [if_neg c12]
    by_cases c13 : op = 13
    · rw [if_pos c13]
      exact fin 842 (st_13 J h0 i6 hL3 z4)
    rw [if_neg c13]
    by_cases c14 : op = 14
    · rw [if_pos c14]
      exact fin 897 (st_14 J h0 i6 hL3 z4)
    rw [if_neg c14]
    by_cases c15 : op = 15
    · rw [if_pos c15]
      exact fin 910 (st_15 J h0 i6 hL3 z4)
    rw [if_neg c15]
    by_cases c16 : op = 16
    · rw [if_pos c16]
      exact fin 966 (st_16 J h0 i6 hL3 z4)
    rw [if_neg c16]
    by_cases c17 : op = 17
    · rw [if_pos c17]
      exact fin 1022 (st_17 J h0 i6 hL3 z4)
    rw [if_neg c17]
    by_cases c18 : op = 18
    · rw [if_pos c18]
      exact fin 1100 (st_18 J h0 i6 hL3 z4)
    rw [if_neg c18]
    by_cases c19 : op = 19
    · rw [if_pos c19]
      exact fin 1156 (st_19 J h0 i6 hL3 z4)
    rw [if_neg c19]
    by_cases c20 : op = 20
    · rw [if_pos c20]
      exact fin 1211 (st_20 J h0 i6 hL3 z4)
    rw [if_neg c20]
    by_cases c21 : op = 21
    · rw [if_pos c21]
      exact fin 1267 (st_21 J h0 i6 hL3 z4)
    rw [if_neg c21]
    by_cases c22 : op = 22
    · rw [if_pos c22]
      exact fin 1281 (st_22 J h0 i6 hL3 z4)
    rw [if_neg c22]
    by_cases c23 : op = 23
    · rw [if_pos c23]
      exact fin 1294 (st_23 J h0 i6 hL3 z4)
    rw [if_neg c23]
    by_cases c24 : op = 24
    · rw [if_pos c24]
      exact fin 1335 (st_24 J h0 i6 hL3 z4)
    rw [if_neg c24]
    by_cases c25 : op = 25
    · rw [if_pos c25]
      exact fin 1349 (st_25 J h0 i6 hL3 z4)
    rw [if_neg c25]
    by_cases c26 : op = 26
    · rw [if_pos c26]
      exact fin 1392 (st_26 J h0 i6 hL3 z4)
    rw [if_neg c26]
    by_cases c27 : op = 27
    · rw [if_pos c27]
      exact fin 1448 (st_27 J h0 i6 hL3 z4)
    rw [if_neg c27]
    by_cases c28 : op = 28
    · rw [if_pos c28]
      exact fin 1504 (st_28 J h0 i6 hL3 z4)
    rw [if_neg c28]
    by_cases c29 : op = 29
    · rw [if_pos c29]
      exact fin 1559 (st_29 J h0 i6 hL3 z4)
    rw [if_neg c29]
    by_cases c30 : op = 30
    · rw [if_pos c30]
      exact fin 1614 (st_30 J h0 i6 hL3 z4)
    rw [if_neg c30]
    by_cases c31 : op = 31
    · rw [if_pos c31]
      exact fin 1670 (st_31 J h0 i6 hL3 z4)
    rw [if_neg c31]
    by_cases c32 : op = 32
    · rw [if_pos c32]
      exact fin 1726 (st_32 J h0 i6 hL3 z4)
    rw [if_neg c32]
    by_cases c33 : op = 33
    · rw [if_pos c33]
      exact fin 1782 (st_33 J h0 i6 hL3 z4)
    rw [if_neg c33]
    by_cases c34 : op = 34
    · rw [if_pos c34]
      exact fin 1838 (st_34 J h0 i6 hL3 z4)
    rw [if_neg c34]
    by_cases c35 : op = 35
    · rw [if_pos c35]
      exact fin 1894 (st_35 J h0 i6 hL3 z4)
    rw [if_neg c35]
    by_cases c36 : op = 36
    · rw [if_pos c36]
      exact fin 1950 (st_36 J h0 i6 hL3 z4)
    rw [if_neg c36]
    by_cases c37 : op = 37
    · rw [if_pos c37]
      exact fin 2018 (st_37 J h0 i6 hL3 z4)
    rw [if_neg c37]
    by_cases c38 : op = 38
    · rw [if_pos c38]
      exact fin 2086 (st_38 J h0 i6 hL3 z4)
    rw [if_neg c38]
    by_cases c39 : op = 39
    · rw [if_pos c39]
      exact fin 2154 (st_39 J h0 i6 hL3 z4)
    rw [if_neg c39]
    by_cases c40 : op = 40
    · rw [if_pos c40]
      exact fin 2222 (st_40 J h0 i6 hL3 z4)
    rw [if_neg c40]
    by_cases c41 : op = 41
    · rw [if_pos c41]
      exact fin 2278 (st_41 J h0 i6 hL3 z4)
    rw [if_neg c41]
    by_cases c42 : op = 42
    · rw [if_pos c42]
      exact fin 2322 (st_42 J h0 i6 hL3 z4)
    rw [if_neg c42]
    refine go h σ J ⟨⟨Nat.le_refl _, by omega, by omega⟩, fun _ _ => ⟨rfl, rfl⟩, rfl⟩
end LAWL
