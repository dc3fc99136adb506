/-! The law's calls of the class that catch what is thrown. -/
section LCA
variable {h h1 h2 : zH} {p v s : Nat} {n top : Int} {R N : Nat → Int} {c : Nat} {Ol : Nat → Nat → Int} {s0 s1 : Option (Nat → Int)} {I : Nat → Int} {m : Int} {O : List Int} {ec ep : Int} {U : List Int} {x1 x2 l9 : Int} {r : (Int × zV) × MSt}
theorem TXa_q {d e : Nat} (X : TXa h s U) (G : Gw Wbd d e h h2) : TXa h2 s U := by
  have g : ∀ b, 163 ≤ b → (b < hN h ∨ zVB ≤ b) → Gs h h2 b := fun b b0 hb' => by
    have w : ∀ k, ¬ Wbd b k := fun k w => by have := Wbd_10 w; omega
    exact ⟨gT G hb', gL G hb', grR G hb' w, grI G hb' w, grJ G hb' w, funext fun k => (G.2.2 b k hb' (w k)).2.2.2.1, funext fun k => (G.2.2 b k hb' (w k)).2.2.2.2⟩
  rcases X with ⟨x0, x1, x2, x3⟩ | ⟨⟨t, n, c, v, rv, tv, nv, lv, cv⟩, s0, v0⟩
  · have q := g s (Nat.le_trans (by decide : 163 ≤ zVB) x0) (Or.inr x0)
    exact Or.inl ⟨x0, q.1.trans x1, q.2.1.trans x2, fun i hi => (congrFun q.2.2.2.1 i).trans (x3 i hi)⟩
  · have q := g s s0 (Or.inl n)
    have qv := g v (v0 v rv) (Or.inl nv)
    have := G.1.1
    exact Or.inr ⟨⟨q.1.trans t, by omega, (congrFun q.2.2.2.1 1).trans c, v, (congrFun q.2.2.1 0).trans rv, qv.1.trans tv, by omega, qv.2.1.trans lv, fun i hi => (congrFun qv.2.2.2.1 i).trans (cv i hi)⟩, s0, fun w hw => v0 w ((congrFun q.2.2.1 0).symm.trans hw)⟩
theorem c_type (J : CJ h p v (n, top, R, N, c, Ol, s0, s1, I, 0, O, ec, ep)) (X : TXa h s U) (A : ascL U) (l : U.length ≤ 780) (hz : hN h + 1 < zVB) : ∃ h2 I2 m2, zC 209 [zR (some 0), zR (some s)] h = some (.inl (some (zI (U.length : Int))), h2) ∧ CJ h2 p v (n, top, R, N, c, Ol, s0, s1, I2, m2, O, ec, ep) ∧ (U.length : Int) ≤ m2 ∧ m2 ≤ 800 ∧ (∀ i, i < U.length → I2 i = tg U i) ∧ Gw Wbd 1 5 h h2 := by
  have K := J_K J
  have k0 := K.1
  have C : CI h I 0 := J.2.2.2.2.1
  have GN : Gw Wbd 1 5 h (hNew h 22 5) := Gw_new _ h 22 5 (by omega)
  have Y : TY h U (hN h) (hNew h 22 5) 0 I := by
    refine ⟨KC_g K (Gw_new W0 h 22 5 (by omega)) (fun a k _ _ w => w), ⟨?_, fun i hi => absurd hi (by omega)⟩, GN, zu1_b _ _ _, zu1_b _ _ _, Nat.lt_succ_self _, fun i hi => absurd hi (Nat.not_lt_zero _)⟩
    · have q : hI (hNew h 22 5) 0 1 = hI h 0 1 := congrFun (Gs_new h (a := 0) 22 5 (by omega)).2.2.2.1 1
      exact q.trans C.1
  obtain ⟨g, I2, k2, E, Y2, l2, l3⟩ := ty_out (s := s) (fun g G => TXa_q X G) A rfl k0 (by omega) l 60 0 (hNew h 22 5) I 0 (by omega) (by omega) Y
  obtain ⟨y1, y2, y3, y4, y5, y6, y7⟩ := Y2
  have nfW : nf Wbd h := fun f _ => ⟨fun mb k w => by
    have := Wbd_10 w
    rcases w with ⟨w, _⟩ | w | w
    · subst w; exact absurd mb (by decide)
    · subst w; exact absurd mb (by decide)
    · have : f = 5 ∨ f = 6 ∨ f = 7 ∨ f = 8 ∨ f = 9 := by omega
      rcases this with e | e | e | e | e <;> (subst e; exact absurd mb (by decide)), fun mb k w => by
    have := Wbd_10 w
    generalize f + 1 = f at mb w this
    rcases w with ⟨w, _⟩ | w | w
    · subst w; exact absurd mb (by decide)
    · subst w; exact absurd mb (by decide)
    · have : f = 5 ∨ f = 6 ∨ f = 7 ∨ f = 8 ∨ f = 9 := by omega
      rcases this with e | e | e | e | e <;> (subst e; exact absurd mb (by decide))⟩
  have J2 := CJ_g J y3 y1 (fun a k w => ⟨by have := Wbd_10 w; omega, fun e => by rcases w with ⟨w, w2⟩ | w | w <;> omega⟩) nfW (HO_g J.2.1 K y3 nfW (fun a k q w => by have := Wbd_10 w; omega)) y2 (CO_g J.2.2.2.2.2.1 K y3 (fun w => by rcases w with ⟨w, w2⟩ | w | w <;> omega) (fun k w => by rcases w with ⟨w, w2⟩ | w | w <;> omega))
  have e4 : hI g 0 4 = ec := (gI y3 (Or.inl (by omega)) (fun w => by rcases w with ⟨w, w2⟩ | w | w <;> omega)).trans J.2.2.2.2.2.2.1
  have e5 : hI g 0 5 = ep := (gI y3 (Or.inl (by omega)) (fun w => by rcases w with ⟨w, w2⟩ | w | w <;> omega)).trans J.2.2.2.2.2.2.2
  rw [e4, e5] at J2
  refine ⟨g, I2, (k2 : Int), ?_, J2, by omega, by omega, fun i hi => (y7 i (by omega)).trans (if_pos hi), y3⟩
  exact q_L_type.trans E
end LCA
