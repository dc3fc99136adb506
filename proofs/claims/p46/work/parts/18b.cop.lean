/-! Arrays.copyOf, as one step. -/
def hCop (h : zH) (r : Option Nat) (n : Int) : zH := (hN (hNew h 21 n.toNat), hU (hNew h 21 n.toNat), hT (hNew h 21 n.toNat), hL (hNew h 21 n.toNat), hR (hNew h 21 n.toNat), zu1 (hI h) (hN h) (fun j => if j < hL h (zdr r) ∧ j < n.toNat then hI h (zdr r) j else 0), hJ (hNew h 21 n.toNat), hF (hNew h 21 n.toNat), hD (hNew h 21 n.toNat))
abbrev yMin : MethodName := ⟨"java/lang/Math", "min", "(II)I"⟩
abbrev yCop : MethodName := ⟨"java/util/Arrays", "copyOf", "([BI)[B"⟩
section COP
variable {base : Nat} {adr : Nat → Nat} {dC : Nat → ClassId} {dI : Nat → Nat → Nat} {cA : Nat → ClassId} {L0 : Nat} {xs : Nat → Int32} {H H2 : Heap} {h : zH}
theorem hCop_I {r : Option Nat} {n : Int} {b : Nat} (hb : b ≠ hN h) : hI (hCop h r n) b = hI h b := if_neg hb
theorem hCop_I0 {r : Option Nat} {n : Int} {j : Nat} : hI (hCop h r n) (hN h) j = if j < hL h (zdr r) ∧ j < n.toNat then hI h (zdr r) j else 0 := congrFun (if_pos rfl) j
theorem hCop_fv {r : Option Nat} {n : Int} {b : Nat} (hb : b ≠ hN h) (c j : Nat) : zfv (hCop h r n) c b j = zfv h c b j := by
  have e := hNew_fv (h := h) (t := 21) (n := n.toNat) hb c j
  rw [← e]
  unfold zfv
  rw [hCop_I hb, show hI (hNew h 21 n.toNat) b = hI h b from if_neg hb]
  rfl
theorem hCop_ev {r : Option Nat} {n : Int} {b : Nat} (hb : b ≠ hN h) (t j : Nat) : zev (hCop h r n) t b j = zev h t b j := by
  have e := hNew_ev (h := h) (t := 21) (n := n.toNat) hb t j
  rw [← e]
  unfold zev
  rw [hCop_I hb, show hI (hNew h 21 n.toNat) b = hI h b from if_neg hb]
  rfl
theorem arrV_cg {c : ClassId} {n : Nat} {f g : Nat → Value} (e : ∀ j, j < n → f j = g j) : arrV c n f = arrV c n g := by
  have s : (arrV c n f).slots = (arrV c n g).slots := by
    apply Array.ext_getElem?
    intro j
    by_cases hj : j < n
    · rw [arrV_read c f hj, arrV_read c g hj, e j hj]
    · rw [Array.getElem?_eq_none (by rw [arrV_size]; omega), Array.getElem?_eq_none (by rw [arrV_size]; omega)]
  show ({ cls := c, slots := (arrV c n f).slots, vm := .none } : Cell) = { cls := c, slots := (arrV c n g).slots, vm := .none }
  rw [s]
theorem zRep.cop {r : Option Nat} {n : Int} (R : zRep base adr dC dI cA L0 xs H h) (ha : zdr r < hN h) (ht : hT h (zdr r) = 21) (h0 : 0 ≤ n) (h1 : n < 65536) (e2 : H2.size = H.size + 1) (e3 : ∀ q, q < H.size → H2[q]? = H[q]?) (hb : hN h + 1 < zVB)
    (e1 : H2[H.size]? = some (arrV (cA 21) n.toNat (fun j => .int (Int32.ofInt (if j < hL h (zdr r) ∧ j < n.toNat then hI h (zdr r) j else 0))))) : zRep base adr dC dI cA L0 xs H2 (hCop h r n) := by
  have R0 := R
  obtain ⟨r1, r2, r3, r4, r5, r6⟩ := R
  have rng := ((r3 _ ha).2.1 (by omega) (by omega)).2.2 ht
  refine ⟨by rw [e2, r1]; exact Nat.add_assoc _ _ _, hb, fun b hb2 => ?_, fun a k => ?_, fun a h1 h2 => ?_, ?_⟩
  · by_cases e : b = hN h
    · subst e
      have hT0 : hT (hCop h r n) (hN h) = 21 := if_pos rfl
      have hL0 : hL (hCop h r n) (hN h) = n.toNat := if_pos rfl
      unfold zcell
      rw [hT0, hL0, show zrho base adr (hN h) = H.size by rw [zrho_lt (by omega), r1]]
      refine ⟨fun x y => by omega, fun _ _ => ⟨?_, by omega, fun _ j => ?_⟩, Or.inr (by omega)⟩
      · rw [e1]
        refine congrArg some (congrArg (arrV _ _) (funext fun j => ?_))
        rw [show zev (hCop h r n) 21 (hN h) j = zI (hI (hCop h r n) (hN h) j) from rfl, hCop_I0]
        rfl
      · rw [hCop_I0]
        split
        · exact rng j
        · decide
    · have hlt : b < hN h := Nat.lt_of_le_of_ne (Nat.le_of_lt_succ hb2) e
      obtain ⟨c1, c2, c3⟩ := r3 b hlt
      unfold zcell
      rw [show hT (hCop h r n) b = hT h b from if_neg e, show hL (hCop h r n) b = hL h b from if_neg e]
      have hq : zrho base adr b < H.size := by rw [zrho_lt (by omega), r1]; omega
      refine ⟨fun x y => t_OB.to ((c1 x y).kept (e3 _ hq)) (fun j _ => by rw [hCop_fv e]), fun x y => ⟨?_, (c2 x y).2.1, fun e2 j => by rw [hCop_I e]; exact (c2 x y).2.2 e2 j⟩, c3⟩
      rw [e3 _ hq, (c2 x y).1]
      exact congrArg some (congrArg (arrV _ _) (funext fun j => by rw [hCop_ev e]))
  · by_cases e : a = hN h
    · subst e
      rw [hCop_I0]
      split
      · exact r4 _ _
      · decide
    · rw [hCop_I e]; exact r4 a k
  · have e : a ≠ hN h := by have h3 : hN h + 1 ≤ a := h1; omega
    rw [show hT (hCop h r n) a = hT h a from if_neg e]
    exact r5 a (by have h3 : hN h + 1 ≤ a := h1; omega) h2
  · obtain ⟨⟨a1, a2, a3⟩, ⟨b1, b2, b3⟩, ⟨c1, c2, c3⟩, d, dg, f⟩ := r6
    have g : ∀ b, zVB ≤ b → b ≠ hN h := fun b h1 => by omega
    have gT : ∀ b, zVB ≤ b → hT (hCop h r n) b = hT h b := fun b h1 => if_neg (g b h1)
    have gL : ∀ b, zVB ≤ b → hL (hCop h r n) b = hL h b := fun b h1 => if_neg (g b h1)
    have gI : ∀ b, zVB ≤ b → hI (hCop h r n) b = hI h b := fun b h1 => hCop_I (g b h1)
    have gJ : ∀ b, zVB ≤ b → hJ (hCop h r n) b = hJ h b := fun b h1 => if_neg (g b h1)
    have g0 : zVB ≤ zVB := Nat.le_refl _
    have g1 : ∀ k, zVB ≤ zVB + k := fun k => Nat.le_add_right _ _
    refine ⟨⟨by rw [gT _ g0]; exact a1, by rw [gL _ g0]; exact a2, by rw [gI _ g0]; exact a3⟩, ⟨by rw [gT _ (g1 _)]; exact b1, by rw [gL _ (g1 _)]; exact b2, by rw [gJ _ (g1 _)]; exact b3⟩, ⟨by rw [gT _ (g1 _)]; exact c1, by rw [gL _ (g1 _)]; exact c2, by rw [gJ _ (g1 _)]; exact c3⟩, fun k hk => ?_, fun t ht => ?_, fun a ha => ?_⟩
    · have g2 : zVB ≤ zVB + 3 + k := by omega
      rw [gT _ g2, gL _ g2, gI _ g2]
      exact d k hk
    · have g2 : zVB ≤ zVB + 56 + t := by omega
      rw [gT _ g2, gL _ g2, gI _ g2]
      exact dg t ht
    · rw [gT _ (by omega)]
      exact f a ha
end COP
