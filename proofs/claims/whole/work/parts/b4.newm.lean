/-! The start: a new reference. -/
def upL (f : Nat → Int) : List (Nat × Int) → Nat → Int
  | [] => f
  | (k, v) :: l => upL (upN f k v) l
theorem upL_o {m : Nat} {k : Nat} (hk : m ≤ k) : ∀ (l : List (Nat × Int)) (f : Nat → Int), (∀ x, x ∈ l → x.1 < m) → upL f l k = f k
  | [], _, _ => rfl
  | (a, v) :: l, f, hl => by
    rw [upL, upL_o hk l _ fun x hx => hl x (List.mem_cons_of_mem _ hx)]
    have := hl (a, v) (List.mem_cons_self ..)
    unfold upN
    exact if_neg (by have : a < m := this; omega)
def mF (q : Nat) : Nat := [0, 2, 3, 4, 6, 8, 9, 14, 16, 20, 22, 23, 24, 25, 32, 33, 34, 35, 43].getD q 0
theorem mF_ne {q m : Nat} (hm : m < 19) (hq : q < m) : mF q ≠ mF m := by
  have : ∀ (m : Fin 19) (q : Fin 19), q.val < m.val → mF q.val ≠ mF m.val := by decide
  exact this ⟨m, hm⟩ ⟨q, by omega⟩ hq
/-- the reference, with m of its rows made -/
def MH (m : Nat) (F : Nat → Int) (e : Nat) (h0 h : zH) : Prop := hN h0 = 177 ∧ hN h = 178 + m ∧ (∀ a, 177 ≤ a → a < 178 + m → hT h a = mT a ∧ hL h a = mL a) ∧ (∀ q, q < m → hR h 177 (mF q) = some (178 + q)) ∧ hI h 177 = F ∧ (∀ j, hI h 178 j = mKeys.getD j 0) ∧ (∀ a, 178 < a → a < 178 + m → hI h a = fun _ => 0) ∧ Gw W0 (1 + m) e h0 h
section MHS
variable {m e : Nat} {F : Nat → Int} {h0 h : zH}
theorem MH_s (C : MH m F e h0 h) {t n k b : Nat} (h1 : 1 ≤ m) (hm : m < 19) (ht : t = mT (178 + m)) (hl : n = mL (178 + m)) (hk : k = mF m) (hb : b = 178 + m) : MH (m + 1) F (e + n) h0 (sR (hNew h t n) 177 k (some b)) := by
  obtain ⟨a1, a2, a3, a4, a5, a6, a7, a8⟩ := C
  have z9 : zVB = 10000000 := rfl
  subst hk hb
  refine ⟨a1, by show hN h + 1 = _; omega, fun a x y => ?_, fun q x => ?_, ?_, fun j => ?_, fun a x y => ?_, ?_⟩
  · by_cases c : a = 178 + m
    · rw [← a2] at c
      exact ⟨by show zu1 (hT h) (hN h) t a = _; rw [c, zu1_s, ht, a2], by show zu1 (hL h) (hN h) n a = _; rw [c, zu1_s, hl, a2]⟩
    · have c2 : a ≠ hN h := by omega
      exact ⟨(zu1_n _ _ c2).trans (a3 a x (by omega)).1, (zu1_n _ _ c2).trans (a3 a x (by omega)).2⟩
  · by_cases c : q = m
    · subst c
      exact zup_s _ _ _ _
    · refine (zup_n _ _ _ _ _ _ (fun z => mF_ne hm (by omega) z.2)).trans ?_
      exact (congrFun (zu1_n (hR h) _ (show 177 ≠ hN h by omega)) _).trans (a4 q (by omega))
  · exact (zu1_n (hI h) _ (show 177 ≠ hN h by omega)).trans a5
  · exact (congrFun (zu1_n (hI h) _ (show 178 ≠ hN h by omega)) _).trans (a6 j)
  · by_cases c : a = 178 + m
    · rw [← a2] at c
      rw [c]
      exact zu1_s (hI h) _ _
    · exact (zu1_n (hI h) _ (show a ≠ hN h by omega)).trans (a7 a x (by omega))
  · exact Gw_m (Gw_sR (Gw_t a8 (Gw_new W0 h t n (by omega)) (fun _ _ _ z => z)) _ (fun z => by omega)) (fun _ _ _ z => z) (by omega) (by omega)
theorem MH_i (C : MH m F e h0 h) (h1 : 1 ≤ m) {k : Nat} {v : Int} : MH m (upN F k v) e h0 (sI h 177 k v) := by
  obtain ⟨a1, a2, a3, a4, a5, a6, a7, a8⟩ := C
  have z9 : zVB = 10000000 := rfl
  refine ⟨a1, a2, a3, a4, ?_, fun j => ?_, fun a x y => ?_, Gw_sI a8 _ (fun z => by omega)⟩
  · rw [hI_up, a5]
  · rw [hI_ne h v (by decide)]; exact a6 j
  · rw [hI_ne h v (by omega)]; exact a7 a x y
theorem MH_K (C : MH 19 F e h0 h) : KM h := by
  obtain ⟨a1, a2, a3, a4, a5, a6, a7, a8⟩ := C
  refine ⟨by omega, fun a e => ?_, fun a k b e => ?_, a6⟩
  · simp only [mI, Bool.and_eq_true, Nat.blt_eq, Nat.ble_eq] at e
    exact a3 a e.1 (by omega)
  · have key : ∀ (a : Fin 197) (k : Fin 47), (match mR a.val k.val with | none => true | some b => Nat.beq a.val 177 && (Nat.ble 178 b && (Nat.blt b 197 && Nat.beq (mF (b - 178)) k.val))) = true := by decide +kernel
    by_cases ca : a < 197 ∧ k < 47
    · have q := key ⟨a, ca.1⟩ ⟨k, ca.2⟩
      simp only [e, Bool.and_eq_true, Nat.beq_eq, Nat.blt_eq, Nat.ble_eq] at q
      obtain ⟨q1, q2, q3, q4⟩ := q
      have := a4 (b - 178) (by omega)
      rw [q4, show 178 + (b - 178) = b by omega] at this
      rw [q1]; exact this
    · have : (Nat.blt a 197 && Nat.blt k 47) = false := by
        rw [Bool.and_eq_false_iff]
        rcases Nat.lt_or_ge a 197 with z | z
        · right
          rw [← Bool.not_eq_true, Nat.blt_eq]; omega
        · left
          rw [← Bool.not_eq_true, Nat.blt_eq]; omega
      unfold mR at e
      rw [this] at e
      exact absurd e (by simp)
end MHS
set_option maxRecDepth 1000000
set_option maxHeartbeats 10000000
theorem upL_app : ∀ (l m : List (Nat × Int)) (f : Nat → Int), upL (upL f l) m = upL f (l ++ m)
  | [], _, _ => rfl
  | (a, v) :: l, m, f => upL_app l m (upN f a v)
theorem upL_nil (f : Nat → Int) : upL f [] = f := rfl
theorem upL_cons (f : Nat → Int) (k : Nat) (v : Int) (l : List (Nat × Int)) : upL f ((k, v) :: l) = upL (upN f k v) l := rfl
def kLs : List (Nat × Int) := [(0, 97), (1, 0), (2, 0), (3, 0), (4, 0), (5, 98), (6, 0), (7, 0), (8, 0), (9, 0), (10, 99), (11, 0), (12, 0), (13, 0), (14, 0), (15, 112), (16, 108), (17, 117), (18, 115), (19, 0), (20, 109), (21, 105), (22, 110), (23, 117), (24, 115), (25, 116), (26, 105), (27, 109), (28, 101), (29, 115), (30, 116), (31, 114), (32, 117), (33, 101), (34, 0), (35, 102), (36, 97), (37, 108), (38, 115), (39, 101), (40, 101), (41, 113), (42, 0), (43, 0), (44, 0), (45, 108), (46, 116), (47, 0), (48, 0), (49, 0), (50, 110), (51, 111), (52, 116), (53, 0), (54, 0), (55, 97), (56, 110), (57, 100), (58, 0), (59, 0), (60, 111), (61, 114), (62, 0), (63, 0), (64, 0), (65, 112), (66, 114), (67, 111), (68, 111), (69, 102), (70, 115), (71, 101), (72, 116), (73, 0), (74, 0), (75, 105), (76, 102), (77, 0), (78, 0), (79, 0), (80, 101), (81, 108), (82, 115), (83, 101), (84, 0), (85, 101), (86, 110), (87, 100), (88, 0), (89, 0), (90, 119), (91, 104), (92, 105), (93, 108), (94, 101), (95, 107), (96, 101), (97, 101), (98, 112), (99, 0), (100, 108), (101, 101), (102, 115), (103, 115), (104, 0), (105, 104), (106, 111), (107, 108), (108, 101), (109, 0)]
theorem k178_gm1 (h : zH) : hI (gm1 h) 178 = upL (hI (hNew h 22 110) 178) [(0, 97), (1, 0), (2, 0), (3, 0), (4, 0), (5, 98), (6, 0), (7, 0), (8, 0), (9, 0), (10, 99), (11, 0), (12, 0), (13, 0), (14, 0), (15, 112), (16, 108), (17, 117), (18, 115), (19, 0), (20, 109), (21, 105), (22, 110)] := by
  unfold gm1
  rw [hI_up, hI_up, hI_up, hI_up, hI_up, hI_up, hI_up, hI_up, hI_up, hI_up, hI_up, hI_up, hI_up, hI_up, hI_up, hI_up, hI_up, hI_up, hI_up, hI_up, hI_up, hI_up, hI_up]
  rfl
theorem k178_gm2 (h : zH) : hI (gm2 h) 178 = upL (hI h 178) [(23, 117), (24, 115), (25, 116), (26, 105), (27, 109), (28, 101), (29, 115), (30, 116), (31, 114), (32, 117), (33, 101), (34, 0), (35, 102), (36, 97), (37, 108), (38, 115), (39, 101), (40, 101), (41, 113), (42, 0), (43, 0), (44, 0), (45, 108), (46, 116), (47, 0)] := by
  unfold gm2
  rw [hI_up, hI_up, hI_up, hI_up, hI_up, hI_up, hI_up, hI_up, hI_up, hI_up, hI_up, hI_up, hI_up, hI_up, hI_up, hI_up, hI_up, hI_up, hI_up, hI_up, hI_up, hI_up, hI_up, hI_up, hI_up]
  rfl
theorem k178_gm3 (h : zH) : hI (gm3 h) 178 = upL (hI h 178) [(48, 0), (49, 0), (50, 110), (51, 111), (52, 116), (53, 0), (54, 0), (55, 97), (56, 110), (57, 100), (58, 0), (59, 0), (60, 111), (61, 114), (62, 0), (63, 0), (64, 0), (65, 112), (66, 114), (67, 111), (68, 111), (69, 102), (70, 115), (71, 101), (72, 116)] := by
  unfold gm3
  rw [hI_up, hI_up, hI_up, hI_up, hI_up, hI_up, hI_up, hI_up, hI_up, hI_up, hI_up, hI_up, hI_up, hI_up, hI_up, hI_up, hI_up, hI_up, hI_up, hI_up, hI_up, hI_up, hI_up, hI_up, hI_up]
  rfl
theorem k178_gm4 (h : zH) : hI (gm4 h) 178 = upL (hI h 178) [(73, 0), (74, 0), (75, 105), (76, 102), (77, 0), (78, 0), (79, 0), (80, 101), (81, 108), (82, 115), (83, 101), (84, 0), (85, 101), (86, 110), (87, 100), (88, 0), (89, 0), (90, 119), (91, 104), (92, 105), (93, 108), (94, 101), (95, 107), (96, 101), (97, 101)] := by
  unfold gm4
  rw [hI_up, hI_up, hI_up, hI_up, hI_up, hI_up, hI_up, hI_up, hI_up, hI_up, hI_up, hI_up, hI_up, hI_up, hI_up, hI_up, hI_up, hI_up, hI_up, hI_up, hI_up, hI_up, hI_up, hI_up, hI_up]
  rfl
theorem k178_gm5 (h : zH) : hI (gm5 h) 178 = upL (hI h 178) [(98, 112), (99, 0), (100, 108), (101, 101), (102, 115), (103, 115), (104, 0), (105, 104), (106, 111), (107, 108), (108, 101), (109, 0)] := by
  unfold gm5
  rw [hI_sR, hI_up, hI_up, hI_up, hI_up, hI_up, hI_up, hI_up, hI_up, hI_up, hI_up, hI_up, hI_up]
  rfl
theorem MH_1 {h : zH} (hn : hN h = 177) : zC 203 [zR (some 177)] (hNew h 12 47) = zY 203 628 [some (zR (some 177)), none] [] (gm5 (gm4 (gm3 (gm2 (gm1 (hNew h 12 47)))))) ∧ MH 1 (fun _ => 0) 157 h (gm5 (gm4 (gm3 (gm2 (gm1 (hNew h 12 47)))))) := by
  have z9 : zVB = 10000000 := rfl
  have G0 : Gw W0 2 157 h (hNew (hNew h 12 47) 22 110) := Gw_m (Gw_t (Gw_new W0 h 12 47 (by omega)) (Gw_new W0 (hNew h 12 47) 22 110 (by show hN h + 1 < _; omega)) (fun _ _ _ z => z)) (fun _ _ _ z => z) (by omega) (by omega)
  have w8 : ∀ {k : Nat}, (178 < hN h ∨ zVB ≤ 178) → W0 178 k := fun z => by omega
  have w7 : ∀ {k : Nat}, (177 < hN h ∨ zVB ≤ 177) → W0 177 k := fun z => by omega
  have G1 : Gw W0 2 157 h (gm1 (hNew h 12 47)) := Gw_sI (Gw_sI (Gw_sI (Gw_sI (Gw_sI (Gw_sI (Gw_sI (Gw_sI (Gw_sI (Gw_sI (Gw_sI (Gw_sI (Gw_sI (Gw_sI (Gw_sI (Gw_sI (Gw_sI (Gw_sI (Gw_sI (Gw_sI (Gw_sI (Gw_sI (Gw_sI (G0) _ w8) _ w8) _ w8) _ w8) _ w8) _ w8) _ w8) _ w8) _ w8) _ w8) _ w8) _ w8) _ w8) _ w8) _ w8) _ w8) _ w8) _ w8) _ w8) _ w8) _ w8) _ w8) _ w8
  have G2 : Gw W0 2 157 h (gm2 (gm1 (hNew h 12 47))) := Gw_sI (Gw_sI (Gw_sI (Gw_sI (Gw_sI (Gw_sI (Gw_sI (Gw_sI (Gw_sI (Gw_sI (Gw_sI (Gw_sI (Gw_sI (Gw_sI (Gw_sI (Gw_sI (Gw_sI (Gw_sI (Gw_sI (Gw_sI (Gw_sI (Gw_sI (Gw_sI (Gw_sI (Gw_sI (G1) _ w8) _ w8) _ w8) _ w8) _ w8) _ w8) _ w8) _ w8) _ w8) _ w8) _ w8) _ w8) _ w8) _ w8) _ w8) _ w8) _ w8) _ w8) _ w8) _ w8) _ w8) _ w8) _ w8) _ w8) _ w8
  have G3 : Gw W0 2 157 h (gm3 (gm2 (gm1 (hNew h 12 47)))) := Gw_sI (Gw_sI (Gw_sI (Gw_sI (Gw_sI (Gw_sI (Gw_sI (Gw_sI (Gw_sI (Gw_sI (Gw_sI (Gw_sI (Gw_sI (Gw_sI (Gw_sI (Gw_sI (Gw_sI (Gw_sI (Gw_sI (Gw_sI (Gw_sI (Gw_sI (Gw_sI (Gw_sI (Gw_sI (G2) _ w8) _ w8) _ w8) _ w8) _ w8) _ w8) _ w8) _ w8) _ w8) _ w8) _ w8) _ w8) _ w8) _ w8) _ w8) _ w8) _ w8) _ w8) _ w8) _ w8) _ w8) _ w8) _ w8) _ w8) _ w8
  have G4 : Gw W0 2 157 h (gm4 (gm3 (gm2 (gm1 (hNew h 12 47))))) := Gw_sI (Gw_sI (Gw_sI (Gw_sI (Gw_sI (Gw_sI (Gw_sI (Gw_sI (Gw_sI (Gw_sI (Gw_sI (Gw_sI (Gw_sI (Gw_sI (Gw_sI (Gw_sI (Gw_sI (Gw_sI (Gw_sI (Gw_sI (Gw_sI (Gw_sI (Gw_sI (Gw_sI (Gw_sI (G3) _ w8) _ w8) _ w8) _ w8) _ w8) _ w8) _ w8) _ w8) _ w8) _ w8) _ w8) _ w8) _ w8) _ w8) _ w8) _ w8) _ w8) _ w8) _ w8) _ w8) _ w8) _ w8) _ w8) _ w8) _ w8
  have G5 : Gw W0 2 157 h (gm5 (gm4 (gm3 (gm2 (gm1 (hNew h 12 47)))))) := Gw_sR (Gw_sI (Gw_sI (Gw_sI (Gw_sI (Gw_sI (Gw_sI (Gw_sI (Gw_sI (Gw_sI (Gw_sI (Gw_sI (Gw_sI (G4) _ w8) _ w8) _ w8) _ w8) _ w8) _ w8) _ w8) _ w8) _ w8) _ w8) _ w8) _ w8) _ w7
  obtain ⟨hN0, U, T, L, R, I, J, F, D⟩ := h
  obtain rfl : hN0 = 177 := hn
  refine ⟨(((((qm_1 rfl rfl rfl).trans (qm_2 rfl rfl rfl rfl rfl)).trans (qm_3 rfl rfl rfl rfl rfl)).trans (qm_4 rfl rfl rfl rfl rfl)).trans (qm_5 rfl rfl rfl rfl rfl)), rfl, rfl, fun a x y => ?_, fun q x => ?_, rfl, fun j => ?_, fun a x y => by omega, G5⟩
  · rcases (show a = 177 ∨ a = 178 by omega) with rfl | rfl
    · exact ⟨rfl, rfl⟩
    · exact ⟨rfl, rfl⟩
  · obtain rfl : q = 0 := by omega
    rfl
  · have e0 : hI (gm5 (gm4 (gm3 (gm2 (gm1 (hNew (177, U, T, L, R, I, J, F, D) 12 47)))))) 178 = upL (fun _ => 0) kLs := by
      rw [k178_gm5, k178_gm4, k178_gm3, k178_gm2, k178_gm1, upL_app, upL_app, upL_app, upL_app]
      exact congr (congrArg upL (show _ = (fun _ => 0) from rfl)) (show _ = kLs from rfl)
    rw [e0]
    by_cases c : j < 110
    · have key : ∀ j : Fin 110, upL (fun _ => 0) kLs j.val = mKeys.getD j.val 0 := by decide +kernel
      exact key ⟨j, c⟩
    · rw [upL_o (m := 110) (by omega) kLs _ (by decide), List.getD_eq_getElem?_getD, List.getElem?_eq_none (by have : mKeys.length = 110 := rfl; omega)]
      rfl
/-- the numbers of the reference's fields behind its rows -/
def mF0 : Nat → Int := upN (upN (fun _ => 0) 12 (-1)) 19 (-1)
theorem MH_19 {h g : zH} (C1 : MH 1 (fun _ => 0) 157 h g) : zY 203 628 [some (zR (some 177)), none] [] g = zY 203 793 [some (zR (some 177)), none] [] (gm10 (gm9 (gm8 (gm7 (gm6 (g)))))) ∧ MH 19 mF0 41059 h (gm10 (gm9 (gm8 (gm7 (gm6 (g)))))) := by
  have eqm_6 := qm_6 (h := g) C1.2.1 (C1.2.2.1 177 (by decide) (by decide)).1 (C1.2.2.1 177 (by decide) (by decide)).2
  have C2 := MH_s C1 (t := 22) (n := 2342) (k := 2) (b := 179) (by decide) (by decide) rfl rfl rfl rfl
  have C3 := MH_s C2 (t := 22) (n := 2342) (k := 3) (b := 180) (by decide) (by decide) rfl rfl rfl rfl
  have C4 := MH_s C3 (t := 22) (n := 23420) (k := 4) (b := 181) (by decide) (by decide) rfl rfl rfl rfl
  have C5 := MH_s C4 (t := 22) (n := 4684) (k := 6) (b := 182) (by decide) (by decide) rfl rfl rfl rfl
  have eqm_7 := qm_7 (h := gm6 (g)) C5.2.1 (C5.2.2.1 177 (by decide) (by decide)).1 (C5.2.2.1 177 (by decide) (by decide)).2
  have C6 := MH_s C5 (t := 22) (n := 240) (k := 8) (b := 183) (by decide) (by decide) rfl rfl rfl rfl
  have C7 := MH_s C6 (t := 22) (n := 240) (k := 9) (b := 184) (by decide) (by decide) rfl rfl rfl rfl
  have C8 := MH_i C7 (k := 12) (v := -1) (by decide)
  have C9 := MH_s C8 (t := 21) (n := 800) (k := 14) (b := 185) (by decide) (by decide) rfl rfl rfl rfl
  have eqm_8 := qm_8 (h := gm7 (gm6 (g))) C9.2.1 (C9.2.2.1 177 (by decide) (by decide)).1 (C9.2.2.1 177 (by decide) (by decide)).2
  have C10 := MH_s C9 (t := 21) (n := 1400) (k := 16) (b := 186) (by decide) (by decide) rfl rfl rfl rfl
  have C11 := MH_i C10 (k := 19) (v := -1) (by decide)
  have C12 := MH_s C11 (t := 22) (n := 201) (k := 20) (b := 187) (by decide) (by decide) rfl rfl rfl rfl
  have C13 := MH_s C12 (t := 23) (n := 24) (k := 22) (b := 188) (by decide) (by decide) rfl rfl rfl rfl
  have eqm_9 := qm_9 (h := gm8 (gm7 (gm6 (g)))) C13.2.1 (C13.2.2.1 177 (by decide) (by decide)).1 (C13.2.2.1 177 (by decide) (by decide)).2
  have C14 := MH_s C13 (t := 22) (n := 4824) (k := 23) (b := 189) (by decide) (by decide) rfl rfl rfl rfl
  have C15 := MH_s C14 (t := 22) (n := 24) (k := 24) (b := 190) (by decide) (by decide) rfl rfl rfl rfl
  have C16 := MH_s C15 (t := 22) (n := 201) (k := 25) (b := 191) (by decide) (by decide) rfl rfl rfl rfl
  have C17 := MH_s C16 (t := 23) (n := 24) (k := 32) (b := 192) (by decide) (by decide) rfl rfl rfl rfl
  have eqm_10 := qm_10 (h := gm9 (gm8 (gm7 (gm6 (g))))) C17.2.1 (C17.2.2.1 177 (by decide) (by decide)).1 (C17.2.2.1 177 (by decide) (by decide)).2
  have C18 := MH_s C17 (t := 22) (n := 24) (k := 33) (b := 193) (by decide) (by decide) rfl rfl rfl rfl
  have C19 := MH_s C18 (t := 22) (n := 24) (k := 34) (b := 194) (by decide) (by decide) rfl rfl rfl rfl
  have C20 := MH_s C19 (t := 23) (n := 24) (k := 35) (b := 195) (by decide) (by decide) rfl rfl rfl rfl
  have C21 := MH_s C20 (t := 22) (n := 64) (k := 43) (b := 196) (by decide) (by decide) rfl rfl rfl rfl
  exact ⟨((((eqm_6).trans eqm_7).trans eqm_8).trans eqm_9).trans eqm_10, C21⟩
/-- what the reference's rows are, while it makes its first program -/
def TF (g : zH) : Prop := hN g = 197 ∧ hT g 177 = 12 ∧ hL g 177 = 47 ∧ hT g 179 = 22 ∧ hL g 179 = 2342 ∧ hT g 183 = 22 ∧ hL g 183 = 240 ∧ hR g 177 2 = some 179 ∧ hR g 177 8 = some 183
theorem sN_gm11 (h : zH) : hN (gm11 h) = hN h := by
  unfold gm11
  rw [hN_sI, hN_sI, hN_sI, hN_sI]
theorem sT_gm11 (h : zH) : hT (gm11 h) = hT h := by
  unfold gm11
  rw [hT_sI, hT_sI, hT_sI, hT_sI]
theorem sL_gm11 (h : zH) : hL (gm11 h) = hL h := by
  unfold gm11
  rw [hL_sI, hL_sI, hL_sI, hL_sI]
theorem sR_gm11 (h : zH) : hR (gm11 h) = hR h := by
  unfold gm11
  rw [hR_sI, hR_sI, hR_sI, hR_sI]
theorem TF_gm11 {h : zH} (F : TF h) : TF (gm11 h) := by
  unfold TF
  rw [sN_gm11, sT_gm11, sL_gm11, sR_gm11]
  exact F
theorem un_gm11 (h : zH) {a : Nat} (h1 : a ≠ 177) (h2 : a ≠ 179) (h3 : a ≠ 183) : hI (gm11 h) a = hI h a := by
  unfold gm11
  rw [hI_ne (a := 179) (b := a) _ _ h2, hI_ne (a := 179) (b := a) _ _ h2, hI_ne (a := 179) (b := a) _ _ h2, hI_ne (a := 179) (b := a) _ _ h2]
theorem sN_gm12 (h : zH) : hN (gm12 h) = hN h := by
  unfold gm12
  rw [hN_sI, hN_sI, hN_sI, hN_sI, hN_sI, hN_sI, hN_sI]
theorem sT_gm12 (h : zH) : hT (gm12 h) = hT h := by
  unfold gm12
  rw [hT_sI, hT_sI, hT_sI, hT_sI, hT_sI, hT_sI, hT_sI]
theorem sL_gm12 (h : zH) : hL (gm12 h) = hL h := by
  unfold gm12
  rw [hL_sI, hL_sI, hL_sI, hL_sI, hL_sI, hL_sI, hL_sI]
theorem sR_gm12 (h : zH) : hR (gm12 h) = hR h := by
  unfold gm12
  rw [hR_sI, hR_sI, hR_sI, hR_sI, hR_sI, hR_sI, hR_sI]
theorem TF_gm12 {h : zH} (F : TF h) : TF (gm12 h) := by
  unfold TF
  rw [sN_gm12, sT_gm12, sL_gm12, sR_gm12]
  exact F
theorem un_gm12 (h : zH) {a : Nat} (h1 : a ≠ 177) (h2 : a ≠ 179) (h3 : a ≠ 183) : hI (gm12 h) a = hI h a := by
  unfold gm12
  rw [hI_ne (a := 179) (b := a) _ _ h2, hI_ne (a := 179) (b := a) _ _ h2, hI_ne (a := 179) (b := a) _ _ h2, hI_ne (a := 179) (b := a) _ _ h2, hI_ne (a := 179) (b := a) _ _ h2, hI_ne (a := 179) (b := a) _ _ h2, hI_ne (a := 179) (b := a) _ _ h2]
theorem sN_gm13 (h : zH) : hN (gm13 h) = hN h := by
  unfold gm13
  rw [hN_sI, hN_sI, hN_sI]
theorem sT_gm13 (h : zH) : hT (gm13 h) = hT h := by
  unfold gm13
  rw [hT_sI, hT_sI, hT_sI]
theorem sL_gm13 (h : zH) : hL (gm13 h) = hL h := by
  unfold gm13
  rw [hL_sI, hL_sI, hL_sI]
theorem sR_gm13 (h : zH) : hR (gm13 h) = hR h := by
  unfold gm13
  rw [hR_sI, hR_sI, hR_sI]
theorem TF_gm13 {h : zH} (F : TF h) : TF (gm13 h) := by
  unfold TF
  rw [sN_gm13, sT_gm13, sL_gm13, sR_gm13]
  exact F
theorem un_gm13 (h : zH) {a : Nat} (h1 : a ≠ 177) (h2 : a ≠ 179) (h3 : a ≠ 183) : hI (gm13 h) a = hI h a := by
  unfold gm13
  rw [hI_ne (a := 177) (b := a) _ _ h1, hI_ne (a := 177) (b := a) _ _ h1, hI_ne (a := 179) (b := a) _ _ h2]
theorem sN_gm14 (h : zH) : hN (gm14 h) = hN h := by
  unfold gm14
  rw [hN_sI, hN_sI, hN_sI]
theorem sT_gm14 (h : zH) : hT (gm14 h) = hT h := by
  unfold gm14
  rw [hT_sI, hT_sI, hT_sI]
theorem sL_gm14 (h : zH) : hL (gm14 h) = hL h := by
  unfold gm14
  rw [hL_sI, hL_sI, hL_sI]
theorem sR_gm14 (h : zH) : hR (gm14 h) = hR h := by
  unfold gm14
  rw [hR_sI, hR_sI, hR_sI]
theorem TF_gm14 {h : zH} (F : TF h) : TF (gm14 h) := by
  unfold TF
  rw [sN_gm14, sT_gm14, sL_gm14, sR_gm14]
  exact F
theorem un_gm14 (h : zH) {a : Nat} (h1 : a ≠ 177) (h2 : a ≠ 179) (h3 : a ≠ 183) : hI (gm14 h) a = hI h a := by
  unfold gm14
  rw [hI_ne (a := 183) (b := a) _ _ h3, hI_ne (a := 177) (b := a) _ _ h1, hI_ne (a := 183) (b := a) _ _ h3]
theorem sN_gm15 (h : zH) : hN (gm15 h) = hN h := by
  unfold gm15
  rw [hN_sI, hN_sI, hN_sI, hN_sI]
theorem sT_gm15 (h : zH) : hT (gm15 h) = hT h := by
  unfold gm15
  rw [hT_sI, hT_sI, hT_sI, hT_sI]
theorem sL_gm15 (h : zH) : hL (gm15 h) = hL h := by
  unfold gm15
  rw [hL_sI, hL_sI, hL_sI, hL_sI]
theorem sR_gm15 (h : zH) : hR (gm15 h) = hR h := by
  unfold gm15
  rw [hR_sI, hR_sI, hR_sI, hR_sI]
theorem TF_gm15 {h : zH} (F : TF h) : TF (gm15 h) := by
  unfold TF
  rw [sN_gm15, sT_gm15, sL_gm15, sR_gm15]
  exact F
theorem un_gm15 (h : zH) {a : Nat} (h1 : a ≠ 177) (h2 : a ≠ 179) (h3 : a ≠ 183) : hI (gm15 h) a = hI h a := by
  unfold gm15
  rw [hI_ne (a := 183) (b := a) _ _ h3, hI_ne (a := 183) (b := a) _ _ h3, hI_ne (a := 183) (b := a) _ _ h3, hI_ne (a := 183) (b := a) _ _ h3]
theorem sN_gm16 (h : zH) : hN (gm16 h) = hN h := by
  unfold gm16
  rw [hN_sI, hN_sI, hN_sI, hN_sI, hN_sI]
theorem sT_gm16 (h : zH) : hT (gm16 h) = hT h := by
  unfold gm16
  rw [hT_sI, hT_sI, hT_sI, hT_sI, hT_sI]
theorem sL_gm16 (h : zH) : hL (gm16 h) = hL h := by
  unfold gm16
  rw [hL_sI, hL_sI, hL_sI, hL_sI, hL_sI]
theorem sR_gm16 (h : zH) : hR (gm16 h) = hR h := by
  unfold gm16
  rw [hR_sI, hR_sI, hR_sI, hR_sI, hR_sI]
theorem TF_gm16 {h : zH} (F : TF h) : TF (gm16 h) := by
  unfold TF
  rw [sN_gm16, sT_gm16, sL_gm16, sR_gm16]
  exact F
theorem un_gm16 (h : zH) {a : Nat} (h1 : a ≠ 177) (h2 : a ≠ 179) (h3 : a ≠ 183) : hI (gm16 h) a = hI h a := by
  unfold gm16
  rw [hI_ne (a := 177) (b := a) _ _ h1, hI_ne (a := 183) (b := a) _ _ h3, hI_ne (a := 183) (b := a) _ _ h3, hI_ne (a := 183) (b := a) _ _ h3, hI_ne (a := 183) (b := a) _ _ h3]
theorem sN_gm17 (h : zH) : hN (gm17 h) = hN h := by
  unfold gm17
  rw [hN_sI, hN_sI, hN_sI]
theorem sT_gm17 (h : zH) : hT (gm17 h) = hT h := by
  unfold gm17
  rw [hT_sI, hT_sI, hT_sI]
theorem sL_gm17 (h : zH) : hL (gm17 h) = hL h := by
  unfold gm17
  rw [hL_sI, hL_sI, hL_sI]
theorem sR_gm17 (h : zH) : hR (gm17 h) = hR h := by
  unfold gm17
  rw [hR_sI, hR_sI, hR_sI]
theorem TF_gm17 {h : zH} (F : TF h) : TF (gm17 h) := by
  unfold TF
  rw [sN_gm17, sT_gm17, sL_gm17, sR_gm17]
  exact F
theorem un_gm17 (h : zH) {a : Nat} (h1 : a ≠ 177) (h2 : a ≠ 179) (h3 : a ≠ 183) : hI (gm17 h) a = hI h a := by
  unfold gm17
  rw [hI_ne (a := 177) (b := a) _ _ h1, hI_ne (a := 179) (b := a) _ _ h2, hI_ne (a := 179) (b := a) _ _ h2]
theorem sN_gm18 (h : zH) : hN (gm18 h) = hN h := by
  unfold gm18
  rw [hN_sI, hN_sI, hN_sI]
theorem sT_gm18 (h : zH) : hT (gm18 h) = hT h := by
  unfold gm18
  rw [hT_sI, hT_sI, hT_sI]
theorem sL_gm18 (h : zH) : hL (gm18 h) = hL h := by
  unfold gm18
  rw [hL_sI, hL_sI, hL_sI]
theorem sR_gm18 (h : zH) : hR (gm18 h) = hR h := by
  unfold gm18
  rw [hR_sI, hR_sI, hR_sI]
theorem TF_gm18 {h : zH} (F : TF h) : TF (gm18 h) := by
  unfold TF
  rw [sN_gm18, sT_gm18, sL_gm18, sR_gm18]
  exact F
theorem un_gm18 (h : zH) {a : Nat} (h1 : a ≠ 177) (h2 : a ≠ 179) (h3 : a ≠ 183) : hI (gm18 h) a = hI h a := by
  unfold gm18
  rw [hI_ne (a := 179) (b := a) _ _ h2, hI_ne (a := 179) (b := a) _ _ h2, hI_ne (a := 183) (b := a) _ _ h3]
theorem sN_gm19 (h : zH) : hN (gm19 h) = hN h := by
  unfold gm19
  rw [hN_sI, hN_sI, hN_sI, hN_sI, hN_sI]
theorem sT_gm19 (h : zH) : hT (gm19 h) = hT h := by
  unfold gm19
  rw [hT_sI, hT_sI, hT_sI, hT_sI, hT_sI]
theorem sL_gm19 (h : zH) : hL (gm19 h) = hL h := by
  unfold gm19
  rw [hL_sI, hL_sI, hL_sI, hL_sI, hL_sI]
theorem sR_gm19 (h : zH) : hR (gm19 h) = hR h := by
  unfold gm19
  rw [hR_sI, hR_sI, hR_sI, hR_sI, hR_sI]
theorem TF_gm19 {h : zH} (F : TF h) : TF (gm19 h) := by
  unfold TF
  rw [sN_gm19, sT_gm19, sL_gm19, sR_gm19]
  exact F
theorem un_gm19 (h : zH) {a : Nat} (h1 : a ≠ 177) (h2 : a ≠ 179) (h3 : a ≠ 183) : hI (gm19 h) a = hI h a := by
  unfold gm19
  rw [hI_ne (a := 183) (b := a) _ _ h3, hI_ne (a := 183) (b := a) _ _ h3, hI_ne (a := 183) (b := a) _ _ h3, hI_ne (a := 177) (b := a) _ _ h1, hI_ne (a := 183) (b := a) _ _ h3]
theorem sN_gm20 (h : zH) : hN (gm20 h) = hN h := by
  unfold gm20
  rw [hN_sI, hN_sI, hN_sI, hN_sI, hN_sI]
theorem sT_gm20 (h : zH) : hT (gm20 h) = hT h := by
  unfold gm20
  rw [hT_sI, hT_sI, hT_sI, hT_sI, hT_sI]
theorem sL_gm20 (h : zH) : hL (gm20 h) = hL h := by
  unfold gm20
  rw [hL_sI, hL_sI, hL_sI, hL_sI, hL_sI]
theorem sR_gm20 (h : zH) : hR (gm20 h) = hR h := by
  unfold gm20
  rw [hR_sI, hR_sI, hR_sI, hR_sI, hR_sI]
theorem TF_gm20 {h : zH} (F : TF h) : TF (gm20 h) := by
  unfold TF
  rw [sN_gm20, sT_gm20, sL_gm20, sR_gm20]
  exact F
theorem un_gm20 (h : zH) {a : Nat} (h1 : a ≠ 177) (h2 : a ≠ 179) (h3 : a ≠ 183) : hI (gm20 h) a = hI h a := by
  unfold gm20
  rw [hI_ne (a := 183) (b := a) _ _ h3, hI_ne (a := 183) (b := a) _ _ h3, hI_ne (a := 183) (b := a) _ _ h3, hI_ne (a := 183) (b := a) _ _ h3, hI_ne (a := 183) (b := a) _ _ h3]
theorem sN_gm21 (h : zH) : hN (gm21 h) = hN h := by
  unfold gm21
  rw [hN_sI, hN_sI, hN_sI]
theorem sT_gm21 (h : zH) : hT (gm21 h) = hT h := by
  unfold gm21
  rw [hT_sI, hT_sI, hT_sI]
theorem sL_gm21 (h : zH) : hL (gm21 h) = hL h := by
  unfold gm21
  rw [hL_sI, hL_sI, hL_sI]
theorem sR_gm21 (h : zH) : hR (gm21 h) = hR h := by
  unfold gm21
  rw [hR_sI, hR_sI, hR_sI]
theorem TF_gm21 {h : zH} (F : TF h) : TF (gm21 h) := by
  unfold TF
  rw [sN_gm21, sT_gm21, sL_gm21, sR_gm21]
  exact F
theorem un_gm21 (h : zH) {a : Nat} (h1 : a ≠ 177) (h2 : a ≠ 179) (h3 : a ≠ 183) : hI (gm21 h) a = hI h a := by
  unfold gm21
  rw [hI_ne (a := 179) (b := a) _ _ h2, hI_ne (a := 183) (b := a) _ _ h3, hI_ne (a := 183) (b := a) _ _ h3]
theorem sN_gm22 (h : zH) : hN (gm22 h) = hN h := by
  unfold gm22
  rw [hN_sI, hN_sI]
theorem sT_gm22 (h : zH) : hT (gm22 h) = hT h := by
  unfold gm22
  rw [hT_sI, hT_sI]
theorem sL_gm22 (h : zH) : hL (gm22 h) = hL h := by
  unfold gm22
  rw [hL_sI, hL_sI]
theorem sR_gm22 (h : zH) : hR (gm22 h) = hR h := by
  unfold gm22
  rw [hR_sI, hR_sI]
theorem TF_gm22 {h : zH} (F : TF h) : TF (gm22 h) := by
  unfold TF
  rw [sN_gm22, sT_gm22, sL_gm22, sR_gm22]
  exact F
theorem un_gm22 (h : zH) {a : Nat} (h1 : a ≠ 177) (h2 : a ≠ 179) (h3 : a ≠ 183) : hI (gm22 h) a = hI h a := by
  unfold gm22
  rw [hI_ne (a := 177) (b := a) _ _ h1, hI_ne (a := 179) (b := a) _ _ h2]
theorem sN_gm23 (h : zH) : hN (gm23 h) = hN h := by
  unfold gm23
  rw [hN_sI, hN_sI, hN_sI, hN_sI]
theorem sT_gm23 (h : zH) : hT (gm23 h) = hT h := by
  unfold gm23
  rw [hT_sI, hT_sI, hT_sI, hT_sI]
theorem sL_gm23 (h : zH) : hL (gm23 h) = hL h := by
  unfold gm23
  rw [hL_sI, hL_sI, hL_sI, hL_sI]
theorem sR_gm23 (h : zH) : hR (gm23 h) = hR h := by
  unfold gm23
  rw [hR_sI, hR_sI, hR_sI, hR_sI]
theorem TF_gm23 {h : zH} (F : TF h) : TF (gm23 h) := by
  unfold TF
  rw [sN_gm23, sT_gm23, sL_gm23, sR_gm23]
  exact F
theorem un_gm23 (h : zH) {a : Nat} (h1 : a ≠ 177) (h2 : a ≠ 179) (h3 : a ≠ 183) : hI (gm23 h) a = hI h a := by
  unfold gm23
  rw [hI_ne (a := 179) (b := a) _ _ h2, hI_ne (a := 179) (b := a) _ _ h2, hI_ne (a := 179) (b := a) _ _ h2, hI_ne (a := 179) (b := a) _ _ h2]
theorem sN_gm24 (h : zH) : hN (gm24 h) = hN h := by
  unfold gm24
  rw [hN_sI, hN_sI, hN_sI, hN_sI]
theorem sT_gm24 (h : zH) : hT (gm24 h) = hT h := by
  unfold gm24
  rw [hT_sI, hT_sI, hT_sI, hT_sI]
theorem sL_gm24 (h : zH) : hL (gm24 h) = hL h := by
  unfold gm24
  rw [hL_sI, hL_sI, hL_sI, hL_sI]
theorem sR_gm24 (h : zH) : hR (gm24 h) = hR h := by
  unfold gm24
  rw [hR_sI, hR_sI, hR_sI, hR_sI]
theorem TF_gm24 {h : zH} (F : TF h) : TF (gm24 h) := by
  unfold TF
  rw [sN_gm24, sT_gm24, sL_gm24, sR_gm24]
  exact F
theorem un_gm24 (h : zH) {a : Nat} (h1 : a ≠ 177) (h2 : a ≠ 179) (h3 : a ≠ 183) : hI (gm24 h) a = hI h a := by
  unfold gm24
  rw [hI_ne (a := 179) (b := a) _ _ h2, hI_ne (a := 179) (b := a) _ _ h2, hI_ne (a := 179) (b := a) _ _ h2, hI_ne (a := 179) (b := a) _ _ h2]
theorem sN_gm25 (h : zH) : hN (gm25 h) = hN h := by
  unfold gm25
  rw [hN_sI, hN_sI, hN_sI, hN_sI]
theorem sT_gm25 (h : zH) : hT (gm25 h) = hT h := by
  unfold gm25
  rw [hT_sI, hT_sI, hT_sI, hT_sI]
theorem sL_gm25 (h : zH) : hL (gm25 h) = hL h := by
  unfold gm25
  rw [hL_sI, hL_sI, hL_sI, hL_sI]
theorem sR_gm25 (h : zH) : hR (gm25 h) = hR h := by
  unfold gm25
  rw [hR_sI, hR_sI, hR_sI, hR_sI]
theorem TF_gm25 {h : zH} (F : TF h) : TF (gm25 h) := by
  unfold TF
  rw [sN_gm25, sT_gm25, sL_gm25, sR_gm25]
  exact F
theorem un_gm25 (h : zH) {a : Nat} (h1 : a ≠ 177) (h2 : a ≠ 179) (h3 : a ≠ 183) : hI (gm25 h) a = hI h a := by
  unfold gm25
  rw [hI_ne (a := 177) (b := a) _ _ h1, hI_ne (a := 177) (b := a) _ _ h1, hI_ne (a := 179) (b := a) _ _ h2, hI_ne (a := 179) (b := a) _ _ h2]
theorem sN_gm26 (h : zH) : hN (gm26 h) = hN h := by
  unfold gm26
  rw [hN_sI, hN_sI, hN_sI]
theorem sT_gm26 (h : zH) : hT (gm26 h) = hT h := by
  unfold gm26
  rw [hT_sI, hT_sI, hT_sI]
theorem sL_gm26 (h : zH) : hL (gm26 h) = hL h := by
  unfold gm26
  rw [hL_sI, hL_sI, hL_sI]
theorem sR_gm26 (h : zH) : hR (gm26 h) = hR h := by
  unfold gm26
  rw [hR_sI, hR_sI, hR_sI]
theorem TF_gm26 {h : zH} (F : TF h) : TF (gm26 h) := by
  unfold TF
  rw [sN_gm26, sT_gm26, sL_gm26, sR_gm26]
  exact F
theorem un_gm26 (h : zH) {a : Nat} (h1 : a ≠ 177) (h2 : a ≠ 179) (h3 : a ≠ 183) : hI (gm26 h) a = hI h a := by
  unfold gm26
  rw [hI_ne (a := 183) (b := a) _ _ h3, hI_ne (a := 177) (b := a) _ _ h1, hI_ne (a := 183) (b := a) _ _ h3]
theorem sN_gm27 (h : zH) : hN (gm27 h) = hN h := by
  unfold gm27
  rw [hN_sI]
theorem sT_gm27 (h : zH) : hT (gm27 h) = hT h := by
  unfold gm27
  rw [hT_sI]
theorem sL_gm27 (h : zH) : hL (gm27 h) = hL h := by
  unfold gm27
  rw [hL_sI]
theorem sR_gm27 (h : zH) : hR (gm27 h) = hR h := by
  unfold gm27
  rw [hR_sI]
theorem TF_gm27 {h : zH} (F : TF h) : TF (gm27 h) := by
  unfold TF
  rw [sN_gm27, sT_gm27, sL_gm27, sR_gm27]
  exact F
theorem un_gm27 (h : zH) {a : Nat} (h1 : a ≠ 177) (h2 : a ≠ 179) (h3 : a ≠ 183) : hI (gm27 h) a = hI h a := by
  unfold gm27
  rw [hI_ne (a := 183) (b := a) _ _ h3]
theorem sN_gm28 (h : zH) : hN (gm28 h) = hN h := by
  unfold gm28
  rw [hN_sI, hN_sI, hN_sI, hN_sI, hN_sI]
theorem sT_gm28 (h : zH) : hT (gm28 h) = hT h := by
  unfold gm28
  rw [hT_sI, hT_sI, hT_sI, hT_sI, hT_sI]
theorem sL_gm28 (h : zH) : hL (gm28 h) = hL h := by
  unfold gm28
  rw [hL_sI, hL_sI, hL_sI, hL_sI, hL_sI]
theorem sR_gm28 (h : zH) : hR (gm28 h) = hR h := by
  unfold gm28
  rw [hR_sI, hR_sI, hR_sI, hR_sI, hR_sI]
theorem TF_gm28 {h : zH} (F : TF h) : TF (gm28 h) := by
  unfold TF
  rw [sN_gm28, sT_gm28, sL_gm28, sR_gm28]
  exact F
theorem un_gm28 (h : zH) {a : Nat} (h1 : a ≠ 177) (h2 : a ≠ 179) (h3 : a ≠ 183) : hI (gm28 h) a = hI h a := by
  unfold gm28
  rw [hI_ne (a := 183) (b := a) _ _ h3, hI_ne (a := 183) (b := a) _ _ h3, hI_ne (a := 183) (b := a) _ _ h3, hI_ne (a := 183) (b := a) _ _ h3, hI_ne (a := 183) (b := a) _ _ h3]
theorem sN_gm29 (h : zH) : hN (gm29 h) = hN h := by
  unfold gm29
  rw [hN_sI, hN_sI, hN_sI]
theorem sT_gm29 (h : zH) : hT (gm29 h) = hT h := by
  unfold gm29
  rw [hT_sI, hT_sI, hT_sI]
theorem sL_gm29 (h : zH) : hL (gm29 h) = hL h := by
  unfold gm29
  rw [hL_sI, hL_sI, hL_sI]
theorem sR_gm29 (h : zH) : hR (gm29 h) = hR h := by
  unfold gm29
  rw [hR_sI, hR_sI, hR_sI]
theorem TF_gm29 {h : zH} (F : TF h) : TF (gm29 h) := by
  unfold TF
  rw [sN_gm29, sT_gm29, sL_gm29, sR_gm29]
  exact F
theorem un_gm29 (h : zH) {a : Nat} (h1 : a ≠ 177) (h2 : a ≠ 179) (h3 : a ≠ 183) : hI (gm29 h) a = hI h a := by
  unfold gm29
  rw [hI_ne (a := 183) (b := a) _ _ h3, hI_ne (a := 183) (b := a) _ _ h3, hI_ne (a := 183) (b := a) _ _ h3]
theorem sN_gm30 (h : zH) : hN (gm30 h) = hN h := by
  unfold gm30
  rw [hN_sI, hN_sI, hN_sI, hN_sI]
theorem sT_gm30 (h : zH) : hT (gm30 h) = hT h := by
  unfold gm30
  rw [hT_sI, hT_sI, hT_sI, hT_sI]
theorem sL_gm30 (h : zH) : hL (gm30 h) = hL h := by
  unfold gm30
  rw [hL_sI, hL_sI, hL_sI, hL_sI]
theorem sR_gm30 (h : zH) : hR (gm30 h) = hR h := by
  unfold gm30
  rw [hR_sI, hR_sI, hR_sI, hR_sI]
theorem TF_gm30 {h : zH} (F : TF h) : TF (gm30 h) := by
  unfold TF
  rw [sN_gm30, sT_gm30, sL_gm30, sR_gm30]
  exact F
theorem un_gm30 (h : zH) {a : Nat} (h1 : a ≠ 177) (h2 : a ≠ 179) (h3 : a ≠ 183) : hI (gm30 h) a = hI h a := by
  unfold gm30
  rw [hI_ne (a := 177) (b := a) _ _ h1, hI_ne (a := 179) (b := a) _ _ h2, hI_ne (a := 179) (b := a) _ _ h2, hI_ne (a := 183) (b := a) _ _ h3]
theorem sN_gm31 (h : zH) : hN (gm31 h) = hN h := by
  unfold gm31
  rw [hN_sI]
theorem sT_gm31 (h : zH) : hT (gm31 h) = hT h := by
  unfold gm31
  rw [hT_sI]
theorem sL_gm31 (h : zH) : hL (gm31 h) = hL h := by
  unfold gm31
  rw [hL_sI]
theorem sR_gm31 (h : zH) : hR (gm31 h) = hR h := by
  unfold gm31
  rw [hR_sI]
theorem TF_gm31 {h : zH} (F : TF h) : TF (gm31 h) := by
  unfold TF
  rw [sN_gm31, sT_gm31, sL_gm31, sR_gm31]
  exact F
theorem un_gm31 (h : zH) {a : Nat} (h1 : a ≠ 177) (h2 : a ≠ 179) (h3 : a ≠ 183) : hI (gm31 h) a = hI h a := by
  unfold gm31
  rw [hI_ne (a := 183) (b := a) _ _ h3]
theorem sN_gm32 (h : zH) : hN (gm32 h) = hN h := by
  unfold gm32
  rw [hN_sI, hN_sI, hN_sI, hN_sI]
theorem sT_gm32 (h : zH) : hT (gm32 h) = hT h := by
  unfold gm32
  rw [hT_sI, hT_sI, hT_sI, hT_sI]
theorem sL_gm32 (h : zH) : hL (gm32 h) = hL h := by
  unfold gm32
  rw [hL_sI, hL_sI, hL_sI, hL_sI]
theorem sR_gm32 (h : zH) : hR (gm32 h) = hR h := by
  unfold gm32
  rw [hR_sI, hR_sI, hR_sI, hR_sI]
theorem TF_gm32 {h : zH} (F : TF h) : TF (gm32 h) := by
  unfold TF
  rw [sN_gm32, sT_gm32, sL_gm32, sR_gm32]
  exact F
theorem un_gm32 (h : zH) {a : Nat} (h1 : a ≠ 177) (h2 : a ≠ 179) (h3 : a ≠ 183) : hI (gm32 h) a = hI h a := by
  unfold gm32
  rw [hI_ne (a := 179) (b := a) _ _ h2, hI_ne (a := 179) (b := a) _ _ h2, hI_ne (a := 179) (b := a) _ _ h2, hI_ne (a := 179) (b := a) _ _ h2]
theorem sN_gm33 (h : zH) : hN (gm33 h) = hN h := by
  unfold gm33
  rw [hN_sI, hN_sI]
theorem sT_gm33 (h : zH) : hT (gm33 h) = hT h := by
  unfold gm33
  rw [hT_sI, hT_sI]
theorem sL_gm33 (h : zH) : hL (gm33 h) = hL h := by
  unfold gm33
  rw [hL_sI, hL_sI]
theorem sR_gm33 (h : zH) : hR (gm33 h) = hR h := by
  unfold gm33
  rw [hR_sI, hR_sI]
theorem TF_gm33 {h : zH} (F : TF h) : TF (gm33 h) := by
  unfold TF
  rw [sN_gm33, sT_gm33, sL_gm33, sR_gm33]
  exact F
theorem un_gm33 (h : zH) {a : Nat} (h1 : a ≠ 177) (h2 : a ≠ 179) (h3 : a ≠ 183) : hI (gm33 h) a = hI h a := by
  unfold gm33
  rw [hI_ne (a := 177) (b := a) _ _ h1, hI_ne (a := 177) (b := a) _ _ h1]
theorem sN_gm34 (h : zH) : hN (gm34 h) = hN h := by
  unfold gm34
  rw [hN_sI, hN_sI, hN_sI, hN_sI, hN_sI]
theorem sT_gm34 (h : zH) : hT (gm34 h) = hT h := by
  unfold gm34
  rw [hT_sI, hT_sI, hT_sI, hT_sI, hT_sI]
theorem sL_gm34 (h : zH) : hL (gm34 h) = hL h := by
  unfold gm34
  rw [hL_sI, hL_sI, hL_sI, hL_sI, hL_sI]
theorem sR_gm34 (h : zH) : hR (gm34 h) = hR h := by
  unfold gm34
  rw [hR_sI, hR_sI, hR_sI, hR_sI, hR_sI]
theorem TF_gm34 {h : zH} (F : TF h) : TF (gm34 h) := by
  unfold TF
  rw [sN_gm34, sT_gm34, sL_gm34, sR_gm34]
  exact F
theorem un_gm34 (h : zH) {a : Nat} (h1 : a ≠ 177) (h2 : a ≠ 179) (h3 : a ≠ 183) : hI (gm34 h) a = hI h a := by
  unfold gm34
  rw [hI_ne (a := 183) (b := a) _ _ h3, hI_ne (a := 183) (b := a) _ _ h3, hI_ne (a := 183) (b := a) _ _ h3, hI_ne (a := 177) (b := a) _ _ h1, hI_ne (a := 183) (b := a) _ _ h3]
theorem sN_gm35 (h : zH) : hN (gm35 h) = hN h := by
  unfold gm35
  rw [hN_sI, hN_sI, hN_sI, hN_sI, hN_sI]
theorem sT_gm35 (h : zH) : hT (gm35 h) = hT h := by
  unfold gm35
  rw [hT_sI, hT_sI, hT_sI, hT_sI, hT_sI]
theorem sL_gm35 (h : zH) : hL (gm35 h) = hL h := by
  unfold gm35
  rw [hL_sI, hL_sI, hL_sI, hL_sI, hL_sI]
theorem sR_gm35 (h : zH) : hR (gm35 h) = hR h := by
  unfold gm35
  rw [hR_sI, hR_sI, hR_sI, hR_sI, hR_sI]
theorem TF_gm35 {h : zH} (F : TF h) : TF (gm35 h) := by
  unfold TF
  rw [sN_gm35, sT_gm35, sL_gm35, sR_gm35]
  exact F
theorem un_gm35 (h : zH) {a : Nat} (h1 : a ≠ 177) (h2 : a ≠ 179) (h3 : a ≠ 183) : hI (gm35 h) a = hI h a := by
  unfold gm35
  rw [hI_ne (a := 183) (b := a) _ _ h3, hI_ne (a := 183) (b := a) _ _ h3, hI_ne (a := 183) (b := a) _ _ h3, hI_ne (a := 183) (b := a) _ _ h3, hI_ne (a := 183) (b := a) _ _ h3]
theorem sN_gm36 (h : zH) : hN (gm36 h) = hN h := by
  unfold gm36
  rw [hN_sI, hN_sI, hN_sI]
theorem sT_gm36 (h : zH) : hT (gm36 h) = hT h := by
  unfold gm36
  rw [hT_sI, hT_sI, hT_sI]
theorem sL_gm36 (h : zH) : hL (gm36 h) = hL h := by
  unfold gm36
  rw [hL_sI, hL_sI, hL_sI]
theorem sR_gm36 (h : zH) : hR (gm36 h) = hR h := by
  unfold gm36
  rw [hR_sI, hR_sI, hR_sI]
theorem TF_gm36 {h : zH} (F : TF h) : TF (gm36 h) := by
  unfold TF
  rw [sN_gm36, sT_gm36, sL_gm36, sR_gm36]
  exact F
theorem un_gm36 (h : zH) {a : Nat} (h1 : a ≠ 177) (h2 : a ≠ 179) (h3 : a ≠ 183) : hI (gm36 h) a = hI h a := by
  unfold gm36
  rw [hI_ne (a := 179) (b := a) _ _ h2, hI_ne (a := 183) (b := a) _ _ h3, hI_ne (a := 183) (b := a) _ _ h3]
theorem sN_gm37 (h : zH) : hN (gm37 h) = hN h := by
  unfold gm37
  rw [hN_sI, hN_sI]
theorem sT_gm37 (h : zH) : hT (gm37 h) = hT h := by
  unfold gm37
  rw [hT_sI, hT_sI]
theorem sL_gm37 (h : zH) : hL (gm37 h) = hL h := by
  unfold gm37
  rw [hL_sI, hL_sI]
theorem sR_gm37 (h : zH) : hR (gm37 h) = hR h := by
  unfold gm37
  rw [hR_sI, hR_sI]
theorem TF_gm37 {h : zH} (F : TF h) : TF (gm37 h) := by
  unfold TF
  rw [sN_gm37, sT_gm37, sL_gm37, sR_gm37]
  exact F
theorem un_gm37 (h : zH) {a : Nat} (h1 : a ≠ 177) (h2 : a ≠ 179) (h3 : a ≠ 183) : hI (gm37 h) a = hI h a := by
  unfold gm37
  rw [hI_ne (a := 177) (b := a) _ _ h1, hI_ne (a := 179) (b := a) _ _ h2]
theorem u183_gm11 (h : zH) : hI (gm11 h) 183 = hI h 183 := by
  unfold gm11
  rw [hI_ne (a := 179) (b := 183) _ _ (by decide), hI_ne (a := 179) (b := 183) _ _ (by decide), hI_ne (a := 179) (b := 183) _ _ (by decide), hI_ne (a := 179) (b := 183) _ _ (by decide)]
theorem u183_gm12 (h : zH) : hI (gm12 h) 183 = hI h 183 := by
  unfold gm12
  rw [hI_ne (a := 179) (b := 183) _ _ (by decide), hI_ne (a := 179) (b := 183) _ _ (by decide), hI_ne (a := 179) (b := 183) _ _ (by decide), hI_ne (a := 179) (b := 183) _ _ (by decide), hI_ne (a := 179) (b := 183) _ _ (by decide), hI_ne (a := 179) (b := 183) _ _ (by decide), hI_ne (a := 179) (b := 183) _ _ (by decide)]
theorem u183_gm13 (h : zH) : hI (gm13 h) 183 = hI h 183 := by
  unfold gm13
  rw [hI_ne (a := 177) (b := 183) _ _ (by decide), hI_ne (a := 177) (b := 183) _ _ (by decide), hI_ne (a := 179) (b := 183) _ _ (by decide)]
theorem u183_gm14 (h : zH) : hI (gm14 h) 183 = upL (hI h 183) [(7, -1), (0, 0)] := by
  unfold gm14
  rw [hI_up, hI_ne (a := 177) (b := 183) _ _ (by decide), hI_up]
  rfl
theorem u183_gm15 (h : zH) : hI (gm15 h) 183 = upL (hI h 183) [(1, -1), (2, 0), (3, -1), (4, -1)] := by
  unfold gm15
  rw [hI_up, hI_up, hI_up, hI_up]
  rfl
theorem u183_gm16 (h : zH) : hI (gm16 h) 183 = upL (hI h 183) [(5, -1), (6, -1), (8, 0), (9, 0)] := by
  unfold gm16
  rw [hI_ne (a := 177) (b := 183) _ _ (by decide), hI_up, hI_up, hI_up, hI_up]
  rfl
theorem u183_gm17 (h : zH) : hI (gm17 h) 183 = hI h 183 := by
  unfold gm17
  rw [hI_ne (a := 177) (b := 183) _ _ (by decide), hI_ne (a := 179) (b := 183) _ _ (by decide), hI_ne (a := 179) (b := 183) _ _ (by decide)]
theorem u183_gm18 (h : zH) : hI (gm18 h) 183 = upL (hI h 183) [(1, 1)] := by
  unfold gm18
  rw [hI_ne (a := 179) (b := 183) _ _ (by decide), hI_ne (a := 179) (b := 183) _ _ (by decide), hI_up]
  rfl
theorem u183_gm19 (h : zH) : hI (gm19 h) 183 = upL (hI h 183) [(17, 0), (10, 2), (11, -1), (12, 0)] := by
  unfold gm19
  rw [hI_up, hI_up, hI_up, hI_ne (a := 177) (b := 183) _ _ (by decide), hI_up]
  rfl
theorem u183_gm20 (h : zH) : hI (gm20 h) 183 = upL (hI h 183) [(13, -1), (14, -1), (15, -1), (16, -1), (18, 0)] := by
  unfold gm20
  rw [hI_up, hI_up, hI_up, hI_up, hI_up]
  rfl
theorem u183_gm21 (h : zH) : hI (gm21 h) 183 = upL (hI h 183) [(19, 0), (4, 1)] := by
  unfold gm21
  rw [hI_ne (a := 179) (b := 183) _ _ (by decide), hI_up, hI_up]
  rfl
theorem u183_gm22 (h : zH) : hI (gm22 h) 183 = hI h 183 := by
  unfold gm22
  rw [hI_ne (a := 177) (b := 183) _ _ (by decide), hI_ne (a := 179) (b := 183) _ _ (by decide)]
theorem u183_gm23 (h : zH) : hI (gm23 h) 183 = hI h 183 := by
  unfold gm23
  rw [hI_ne (a := 179) (b := 183) _ _ (by decide), hI_ne (a := 179) (b := 183) _ _ (by decide), hI_ne (a := 179) (b := 183) _ _ (by decide), hI_ne (a := 179) (b := 183) _ _ (by decide)]
theorem u183_gm24 (h : zH) : hI (gm24 h) 183 = hI h 183 := by
  unfold gm24
  rw [hI_ne (a := 179) (b := 183) _ _ (by decide), hI_ne (a := 179) (b := 183) _ _ (by decide), hI_ne (a := 179) (b := 183) _ _ (by decide), hI_ne (a := 179) (b := 183) _ _ (by decide)]
theorem u183_gm25 (h : zH) : hI (gm25 h) 183 = hI h 183 := by
  unfold gm25
  rw [hI_ne (a := 177) (b := 183) _ _ (by decide), hI_ne (a := 177) (b := 183) _ _ (by decide), hI_ne (a := 179) (b := 183) _ _ (by decide), hI_ne (a := 179) (b := 183) _ _ (by decide)]
theorem u183_gm26 (h : zH) : hI (gm26 h) 183 = upL (hI h 183) [(27, -1), (20, 0)] := by
  unfold gm26
  rw [hI_up, hI_ne (a := 177) (b := 183) _ _ (by decide), hI_up]
  rfl
theorem u183_gm27 (h : zH) : hI (gm27 h) 183 = upL (hI h 183) [(21, -1)] := by
  unfold gm27
  rw [hI_up]
  rfl
theorem u183_gm28 (h : zH) : hI (gm28 h) 183 = upL (hI h 183) [(22, 1), (23, 1), (24, -1), (25, -1), (26, -1)] := by
  unfold gm28
  rw [hI_up, hI_up, hI_up, hI_up, hI_up]
  rfl
theorem u183_gm29 (h : zH) : hI (gm29 h) 183 = upL (hI h 183) [(28, 0), (29, 0), (15, 2)] := by
  unfold gm29
  rw [hI_up, hI_up, hI_up]
  rfl
theorem u183_gm30 (h : zH) : hI (gm30 h) 183 = upL (hI h 183) [(18, 1)] := by
  unfold gm30
  rw [hI_ne (a := 177) (b := 183) _ _ (by decide), hI_ne (a := 179) (b := 183) _ _ (by decide), hI_ne (a := 179) (b := 183) _ _ (by decide), hI_up]
  rfl
theorem u183_gm31 (h : zH) : hI (gm31 h) 183 = upL (hI h 183) [(21, 0)] := by
  unfold gm31
  rw [hI_up]
  rfl
theorem u183_gm32 (h : zH) : hI (gm32 h) 183 = hI h 183 := by
  unfold gm32
  rw [hI_ne (a := 179) (b := 183) _ _ (by decide), hI_ne (a := 179) (b := 183) _ _ (by decide), hI_ne (a := 179) (b := 183) _ _ (by decide), hI_ne (a := 179) (b := 183) _ _ (by decide)]
theorem u183_gm33 (h : zH) : hI (gm33 h) 183 = hI h 183 := by
  unfold gm33
  rw [hI_ne (a := 177) (b := 183) _ _ (by decide), hI_ne (a := 177) (b := 183) _ _ (by decide)]
theorem u183_gm34 (h : zH) : hI (gm34 h) 183 = upL (hI h 183) [(37, 0), (30, 3), (31, -1), (32, 0)] := by
  unfold gm34
  rw [hI_up, hI_up, hI_up, hI_ne (a := 177) (b := 183) _ _ (by decide), hI_up]
  rfl
theorem u183_gm35 (h : zH) : hI (gm35 h) 183 = upL (hI h 183) [(33, -1), (34, -1), (35, -1), (36, -1), (38, 0)] := by
  unfold gm35
  rw [hI_up, hI_up, hI_up, hI_up, hI_up]
  rfl
theorem u183_gm36 (h : zH) : hI (gm36 h) 183 = upL (hI h 183) [(39, 0), (14, 3)] := by
  unfold gm36
  rw [hI_ne (a := 179) (b := 183) _ _ (by decide), hI_up, hI_up]
  rfl
theorem u183_gm37 (h : zH) : hI (gm37 h) 183 = hI h 183 := by
  unfold gm37
  rw [hI_ne (a := 177) (b := 183) _ _ (by decide), hI_ne (a := 179) (b := 183) _ _ (by decide)]
theorem u179_gm11 (h : zH) : hI (gm11 h) 179 = upL (hI h 179) [(0, 3), (1, 13), (2, 4), (3, 3)] := by
  unfold gm11
  rw [hI_up, hI_up, hI_up, hI_up]
  rfl
theorem u179_gm12 (h : zH) : hI (gm12 h) 179 = upL (hI h 179) [(31, 7), (32, 15), (33, 12), (34, 4), (35, 0), (36, 12), (37, 5)] := by
  unfold gm12
  rw [hI_up, hI_up, hI_up, hI_up, hI_up, hI_up, hI_up]
  rfl
theorem u179_gm13 (h : zH) : hI (gm13 h) 179 = upL (hI h 179) [(38, 2)] := by
  unfold gm13
  rw [hI_ne (a := 177) (b := 179) _ _ (by decide), hI_ne (a := 177) (b := 179) _ _ (by decide), hI_up]
  rfl
theorem u179_gm14 (h : zH) : hI (gm14 h) 179 = hI h 179 := by
  unfold gm14
  rw [hI_ne (a := 183) (b := 179) _ _ (by decide), hI_ne (a := 177) (b := 179) _ _ (by decide), hI_ne (a := 183) (b := 179) _ _ (by decide)]
theorem u179_gm15 (h : zH) : hI (gm15 h) 179 = hI h 179 := by
  unfold gm15
  rw [hI_ne (a := 183) (b := 179) _ _ (by decide), hI_ne (a := 183) (b := 179) _ _ (by decide), hI_ne (a := 183) (b := 179) _ _ (by decide), hI_ne (a := 183) (b := 179) _ _ (by decide)]
theorem u179_gm16 (h : zH) : hI (gm16 h) 179 = hI h 179 := by
  unfold gm16
  rw [hI_ne (a := 177) (b := 179) _ _ (by decide), hI_ne (a := 183) (b := 179) _ _ (by decide), hI_ne (a := 183) (b := 179) _ _ (by decide), hI_ne (a := 183) (b := 179) _ _ (by decide), hI_ne (a := 183) (b := 179) _ _ (by decide)]
theorem u179_gm17 (h : zH) : hI (gm17 h) 179 = upL (hI h 179) [(2294, -1), (2318, 10)] := by
  unfold gm17
  rw [hI_ne (a := 177) (b := 179) _ _ (by decide), hI_up, hI_up]
  rfl
theorem u179_gm18 (h : zH) : hI (gm18 h) 179 = upL (hI h 179) [(62, 1), (63, 2)] := by
  unfold gm18
  rw [hI_up, hI_up, hI_ne (a := 183) (b := 179) _ _ (by decide)]
  rfl
theorem u179_gm19 (h : zH) : hI (gm19 h) 179 = hI h 179 := by
  unfold gm19
  rw [hI_ne (a := 183) (b := 179) _ _ (by decide), hI_ne (a := 183) (b := 179) _ _ (by decide), hI_ne (a := 183) (b := 179) _ _ (by decide), hI_ne (a := 177) (b := 179) _ _ (by decide), hI_ne (a := 183) (b := 179) _ _ (by decide)]
theorem u179_gm20 (h : zH) : hI (gm20 h) 179 = hI h 179 := by
  unfold gm20
  rw [hI_ne (a := 183) (b := 179) _ _ (by decide), hI_ne (a := 183) (b := 179) _ _ (by decide), hI_ne (a := 183) (b := 179) _ _ (by decide), hI_ne (a := 183) (b := 179) _ _ (by decide), hI_ne (a := 183) (b := 179) _ _ (by decide)]
theorem u179_gm21 (h : zH) : hI (gm21 h) 179 = upL (hI h 179) [(2295, -1)] := by
  unfold gm21
  rw [hI_up, hI_ne (a := 183) (b := 179) _ _ (by decide), hI_ne (a := 183) (b := 179) _ _ (by decide)]
  rfl
theorem u179_gm22 (h : zH) : hI (gm22 h) 179 = upL (hI h 179) [(2319, 10)] := by
  unfold gm22
  rw [hI_ne (a := 177) (b := 179) _ _ (by decide), hI_up]
  rfl
theorem u179_gm23 (h : zH) : hI (gm23 h) 179 = upL (hI h 179) [(93, 3), (94, 13), (95, 0), (96, 4)] := by
  unfold gm23
  rw [hI_up, hI_up, hI_up, hI_up]
  rfl
theorem u179_gm24 (h : zH) : hI (gm24 h) 179 = upL (hI h 179) [(837, 3), (838, 12), (839, 5), (840, 2)] := by
  unfold gm24
  rw [hI_up, hI_up, hI_up, hI_up]
  rfl
theorem u179_gm25 (h : zH) : hI (gm25 h) 179 = upL (hI h 179) [(1581, 1), (1582, 4)] := by
  unfold gm25
  rw [hI_ne (a := 177) (b := 179) _ _ (by decide), hI_ne (a := 177) (b := 179) _ _ (by decide), hI_up, hI_up]
  rfl
theorem u179_gm26 (h : zH) : hI (gm26 h) 179 = hI h 179 := by
  unfold gm26
  rw [hI_ne (a := 183) (b := 179) _ _ (by decide), hI_ne (a := 177) (b := 179) _ _ (by decide), hI_ne (a := 183) (b := 179) _ _ (by decide)]
theorem u179_gm27 (h : zH) : hI (gm27 h) 179 = hI h 179 := by
  unfold gm27
  rw [hI_ne (a := 183) (b := 179) _ _ (by decide)]
theorem u179_gm28 (h : zH) : hI (gm28 h) 179 = hI h 179 := by
  unfold gm28
  rw [hI_ne (a := 183) (b := 179) _ _ (by decide), hI_ne (a := 183) (b := 179) _ _ (by decide), hI_ne (a := 183) (b := 179) _ _ (by decide), hI_ne (a := 183) (b := 179) _ _ (by decide), hI_ne (a := 183) (b := 179) _ _ (by decide)]
theorem u179_gm29 (h : zH) : hI (gm29 h) 179 = hI h 179 := by
  unfold gm29
  rw [hI_ne (a := 183) (b := 179) _ _ (by decide), hI_ne (a := 183) (b := 179) _ _ (by decide), hI_ne (a := 183) (b := 179) _ _ (by decide)]
theorem u179_gm30 (h : zH) : hI (gm30 h) 179 = upL (hI h 179) [(2296, -1), (2320, 10)] := by
  unfold gm30
  rw [hI_ne (a := 177) (b := 179) _ _ (by decide), hI_up, hI_up, hI_ne (a := 183) (b := 179) _ _ (by decide)]
  rfl
theorem u179_gm31 (h : zH) : hI (gm31 h) 179 = hI h 179 := by
  unfold gm31
  rw [hI_ne (a := 183) (b := 179) _ _ (by decide)]
theorem u179_gm32 (h : zH) : hI (gm32 h) 179 = upL (hI h 179) [(124, 3), (125, 8), (126, 4), (127, 1)] := by
  unfold gm32
  rw [hI_up, hI_up, hI_up, hI_up]
  rfl
theorem u179_gm33 (h : zH) : hI (gm33 h) 179 = hI h 179 := by
  unfold gm33
  rw [hI_ne (a := 177) (b := 179) _ _ (by decide), hI_ne (a := 177) (b := 179) _ _ (by decide)]
theorem u179_gm34 (h : zH) : hI (gm34 h) 179 = hI h 179 := by
  unfold gm34
  rw [hI_ne (a := 183) (b := 179) _ _ (by decide), hI_ne (a := 183) (b := 179) _ _ (by decide), hI_ne (a := 183) (b := 179) _ _ (by decide), hI_ne (a := 177) (b := 179) _ _ (by decide), hI_ne (a := 183) (b := 179) _ _ (by decide)]
theorem u179_gm35 (h : zH) : hI (gm35 h) 179 = hI h 179 := by
  unfold gm35
  rw [hI_ne (a := 183) (b := 179) _ _ (by decide), hI_ne (a := 183) (b := 179) _ _ (by decide), hI_ne (a := 183) (b := 179) _ _ (by decide), hI_ne (a := 183) (b := 179) _ _ (by decide), hI_ne (a := 183) (b := 179) _ _ (by decide)]
theorem u179_gm36 (h : zH) : hI (gm36 h) 179 = upL (hI h 179) [(2297, -1)] := by
  unfold gm36
  rw [hI_up, hI_ne (a := 183) (b := 179) _ _ (by decide), hI_ne (a := 183) (b := 179) _ _ (by decide)]
  rfl
theorem u179_gm37 (h : zH) : hI (gm37 h) 179 = upL (hI h 179) [(2321, 10)] := by
  unfold gm37
  rw [hI_ne (a := 177) (b := 179) _ _ (by decide), hI_up]
  rfl
theorem u177_gm11 (h : zH) : hI (gm11 h) 177 = hI h 177 := by
  unfold gm11
  rw [hI_ne (a := 179) (b := 177) _ _ (by decide), hI_ne (a := 179) (b := 177) _ _ (by decide), hI_ne (a := 179) (b := 177) _ _ (by decide), hI_ne (a := 179) (b := 177) _ _ (by decide)]
theorem u177_gm12 (h : zH) : hI (gm12 h) 177 = hI h 177 := by
  unfold gm12
  rw [hI_ne (a := 179) (b := 177) _ _ (by decide), hI_ne (a := 179) (b := 177) _ _ (by decide), hI_ne (a := 179) (b := 177) _ _ (by decide), hI_ne (a := 179) (b := 177) _ _ (by decide), hI_ne (a := 179) (b := 177) _ _ (by decide), hI_ne (a := 179) (b := 177) _ _ (by decide), hI_ne (a := 179) (b := 177) _ _ (by decide)]
theorem u177_gm13 (h : zH) : hI (gm13 h) 177 = upL (hI h 177) [(44, -1), (46, -1)] := by
  unfold gm13
  rw [hI_up, hI_up, hI_ne (a := 179) (b := 177) _ _ (by decide)]
  rfl
theorem u177_gm14 (h : zH) : hI (gm14 h) 177 = upL (hI h 177) [(10, 1)] := by
  unfold gm14
  rw [hI_ne (a := 183) (b := 177) _ _ (by decide), hI_up, hI_ne (a := 183) (b := 177) _ _ (by decide)]
  rfl
theorem u177_gm15 (h : zH) : hI (gm15 h) 177 = hI h 177 := by
  unfold gm15
  rw [hI_ne (a := 183) (b := 177) _ _ (by decide), hI_ne (a := 183) (b := 177) _ _ (by decide), hI_ne (a := 183) (b := 177) _ _ (by decide), hI_ne (a := 183) (b := 177) _ _ (by decide)]
theorem u177_gm16 (h : zH) : hI (gm16 h) 177 = upL (hI h 177) [(12, 0)] := by
  unfold gm16
  rw [hI_up, hI_ne (a := 183) (b := 177) _ _ (by decide), hI_ne (a := 183) (b := 177) _ _ (by decide), hI_ne (a := 183) (b := 177) _ _ (by decide), hI_ne (a := 183) (b := 177) _ _ (by decide)]
  rfl
theorem u177_gm17 (h : zH) : hI (gm17 h) 177 = upL (hI h 177) [(46, 0)] := by
  unfold gm17
  rw [hI_up, hI_ne (a := 179) (b := 177) _ _ (by decide), hI_ne (a := 179) (b := 177) _ _ (by decide)]
  rfl
theorem u177_gm18 (h : zH) : hI (gm18 h) 177 = hI h 177 := by
  unfold gm18
  rw [hI_ne (a := 179) (b := 177) _ _ (by decide), hI_ne (a := 179) (b := 177) _ _ (by decide), hI_ne (a := 183) (b := 177) _ _ (by decide)]
theorem u177_gm19 (h : zH) : hI (gm19 h) 177 = upL (hI h 177) [(10, 2)] := by
  unfold gm19
  rw [hI_ne (a := 183) (b := 177) _ _ (by decide), hI_ne (a := 183) (b := 177) _ _ (by decide), hI_ne (a := 183) (b := 177) _ _ (by decide), hI_up, hI_ne (a := 183) (b := 177) _ _ (by decide)]
  rfl
theorem u177_gm20 (h : zH) : hI (gm20 h) 177 = hI h 177 := by
  unfold gm20
  rw [hI_ne (a := 183) (b := 177) _ _ (by decide), hI_ne (a := 183) (b := 177) _ _ (by decide), hI_ne (a := 183) (b := 177) _ _ (by decide), hI_ne (a := 183) (b := 177) _ _ (by decide), hI_ne (a := 183) (b := 177) _ _ (by decide)]
theorem u177_gm21 (h : zH) : hI (gm21 h) 177 = hI h 177 := by
  unfold gm21
  rw [hI_ne (a := 179) (b := 177) _ _ (by decide), hI_ne (a := 183) (b := 177) _ _ (by decide), hI_ne (a := 183) (b := 177) _ _ (by decide)]
theorem u177_gm22 (h : zH) : hI (gm22 h) 177 = upL (hI h 177) [(46, 1)] := by
  unfold gm22
  rw [hI_up, hI_ne (a := 179) (b := 177) _ _ (by decide)]
  rfl
theorem u177_gm23 (h : zH) : hI (gm23 h) 177 = hI h 177 := by
  unfold gm23
  rw [hI_ne (a := 179) (b := 177) _ _ (by decide), hI_ne (a := 179) (b := 177) _ _ (by decide), hI_ne (a := 179) (b := 177) _ _ (by decide), hI_ne (a := 179) (b := 177) _ _ (by decide)]
theorem u177_gm24 (h : zH) : hI (gm24 h) 177 = hI h 177 := by
  unfold gm24
  rw [hI_ne (a := 179) (b := 177) _ _ (by decide), hI_ne (a := 179) (b := 177) _ _ (by decide), hI_ne (a := 179) (b := 177) _ _ (by decide), hI_ne (a := 179) (b := 177) _ _ (by decide)]
theorem u177_gm25 (h : zH) : hI (gm25 h) 177 = upL (hI h 177) [(44, 1), (46, -1)] := by
  unfold gm25
  rw [hI_up, hI_up, hI_ne (a := 179) (b := 177) _ _ (by decide), hI_ne (a := 179) (b := 177) _ _ (by decide)]
  rfl
theorem u177_gm26 (h : zH) : hI (gm26 h) 177 = upL (hI h 177) [(10, 3)] := by
  unfold gm26
  rw [hI_ne (a := 183) (b := 177) _ _ (by decide), hI_up, hI_ne (a := 183) (b := 177) _ _ (by decide)]
  rfl
theorem u177_gm27 (h : zH) : hI (gm27 h) 177 = hI h 177 := by
  unfold gm27
  rw [hI_ne (a := 183) (b := 177) _ _ (by decide)]
theorem u177_gm28 (h : zH) : hI (gm28 h) 177 = hI h 177 := by
  unfold gm28
  rw [hI_ne (a := 183) (b := 177) _ _ (by decide), hI_ne (a := 183) (b := 177) _ _ (by decide), hI_ne (a := 183) (b := 177) _ _ (by decide), hI_ne (a := 183) (b := 177) _ _ (by decide), hI_ne (a := 183) (b := 177) _ _ (by decide)]
theorem u177_gm29 (h : zH) : hI (gm29 h) 177 = hI h 177 := by
  unfold gm29
  rw [hI_ne (a := 183) (b := 177) _ _ (by decide), hI_ne (a := 183) (b := 177) _ _ (by decide), hI_ne (a := 183) (b := 177) _ _ (by decide)]
theorem u177_gm30 (h : zH) : hI (gm30 h) 177 = upL (hI h 177) [(46, 2)] := by
  unfold gm30
  rw [hI_up, hI_ne (a := 179) (b := 177) _ _ (by decide), hI_ne (a := 179) (b := 177) _ _ (by decide), hI_ne (a := 183) (b := 177) _ _ (by decide)]
  rfl
theorem u177_gm31 (h : zH) : hI (gm31 h) 177 = hI h 177 := by
  unfold gm31
  rw [hI_ne (a := 183) (b := 177) _ _ (by decide)]
theorem u177_gm32 (h : zH) : hI (gm32 h) 177 = hI h 177 := by
  unfold gm32
  rw [hI_ne (a := 179) (b := 177) _ _ (by decide), hI_ne (a := 179) (b := 177) _ _ (by decide), hI_ne (a := 179) (b := 177) _ _ (by decide), hI_ne (a := 179) (b := 177) _ _ (by decide)]
theorem u177_gm33 (h : zH) : hI (gm33 h) 177 = upL (hI h 177) [(44, -1), (46, 1)] := by
  unfold gm33
  rw [hI_up, hI_up]
  rfl
theorem u177_gm34 (h : zH) : hI (gm34 h) 177 = upL (hI h 177) [(10, 4)] := by
  unfold gm34
  rw [hI_ne (a := 183) (b := 177) _ _ (by decide), hI_ne (a := 183) (b := 177) _ _ (by decide), hI_ne (a := 183) (b := 177) _ _ (by decide), hI_up, hI_ne (a := 183) (b := 177) _ _ (by decide)]
  rfl
theorem u177_gm35 (h : zH) : hI (gm35 h) 177 = hI h 177 := by
  unfold gm35
  rw [hI_ne (a := 183) (b := 177) _ _ (by decide), hI_ne (a := 183) (b := 177) _ _ (by decide), hI_ne (a := 183) (b := 177) _ _ (by decide), hI_ne (a := 183) (b := 177) _ _ (by decide), hI_ne (a := 183) (b := 177) _ _ (by decide)]
theorem u177_gm36 (h : zH) : hI (gm36 h) 177 = hI h 177 := by
  unfold gm36
  rw [hI_ne (a := 179) (b := 177) _ _ (by decide), hI_ne (a := 183) (b := 177) _ _ (by decide), hI_ne (a := 183) (b := 177) _ _ (by decide)]
theorem u177_gm37 (h : zH) : hI (gm37 h) 177 = upL (hI h 177) [(46, 3)] := by
  unfold gm37
  rw [hI_up, hI_ne (a := 179) (b := 177) _ _ (by decide)]
  rfl

noncomputable def gmF (g : zH) : zH := gm37 (gm36 (gm35 (gm34 (gm33 (gm32 (gm31 (gm30 (gm29 (gm28 (gm27 (gm26 (gm25 (gm24 (gm23 (gm22 (gm21 (gm20 (gm19 (gm18 (gm17 (gm16 (gm15 (gm14 (gm13 (gm12 (gm11 (g)))))))))))))))))))))))))))
def mRls : List (Nat × Int) := [(7, -1), (0, 0), (1, -1), (2, 0), (3, -1), (4, -1), (5, -1), (6, -1), (8, 0), (9, 0), (1, 1), (17, 0), (10, 2), (11, -1), (12, 0), (13, -1), (14, -1), (15, -1), (16, -1), (18, 0), (19, 0), (4, 1), (27, -1), (20, 0), (21, -1), (22, 1), (23, 1), (24, -1), (25, -1), (26, -1), (28, 0), (29, 0), (15, 2), (18, 1), (21, 0), (37, 0), (30, 3), (31, -1), (32, 0), (33, -1), (34, -1), (35, -1), (36, -1), (38, 0), (39, 0), (14, 3)]
def mNls : List (Nat × Int) := [(0, 3), (1, 13), (2, 4), (3, 3), (31, 7), (32, 15), (33, 12), (34, 4), (35, 0), (36, 12), (37, 5), (38, 2), (2294, -1), (2318, 10), (62, 1), (63, 2), (2295, -1), (2319, 10), (93, 3), (94, 13), (95, 0), (96, 4), (837, 3), (838, 12), (839, 5), (840, 2), (1581, 1), (1582, 4), (2296, -1), (2320, 10), (124, 3), (125, 8), (126, 4), (127, 1), (2297, -1), (2321, 10)]
def mFls : List (Nat × Int) := [(44, -1), (46, -1), (10, 1), (12, 0), (46, 0), (10, 2), (46, 1), (44, 1), (46, -1), (10, 3), (46, 2), (44, -1), (46, 1), (10, 4), (46, 3)]
theorem q_M_tail {g : zH} (F0 : TF g) (z183 : hI g 183 = fun _ => 0) (b10 : hI g 177 10 = 0) (b45 : hI g 177 45 = 0) : zY 203 793 [some (zR (some 177)), none] [] g = some (.inl none, gmF g) := by
  have P183_0 : hI g 183 = hI g 183 := rfl
  have P177_0 : hI g 177 = hI g 177 := rfl
  have Q1 := qm_11 (h := g) F0.1 F0.2.1 F0.2.2.1 F0.2.2.2.1 F0.2.2.2.2.1 F0.2.2.2.2.2.1 F0.2.2.2.2.2.2.1 F0.2.2.2.2.2.2.2.1 F0.2.2.2.2.2.2.2.2
  have Q2 := qm_12 (h := g) F0.1 F0.2.1 F0.2.2.1 F0.2.2.2.1 F0.2.2.2.2.1 F0.2.2.2.2.2.1 F0.2.2.2.2.2.2.1 F0.2.2.2.2.2.2.2.1 F0.2.2.2.2.2.2.2.2
  have F2 := TF_gm11 F0
  have P183_2 : hI (gm11 (g)) 183 = (hI g 183) := (u183_gm11 (g)).trans P183_0
  have P177_2 : hI (gm11 (g)) 177 = (hI g 177) := (u177_gm11 (g)).trans P177_0
  have Q3 := qm_13 (h := gm11 (g)) F2.1 F2.2.1 F2.2.2.1 F2.2.2.2.1 F2.2.2.2.2.1 F2.2.2.2.2.2.1 F2.2.2.2.2.2.2.1 F2.2.2.2.2.2.2.2.1 F2.2.2.2.2.2.2.2.2
  have F3 := TF_gm12 F2
  have P183_3 : hI (gm12 (gm11 (g))) 183 = (hI g 183) := (u183_gm12 (gm11 (g))).trans P183_2
  have P177_3 : hI (gm12 (gm11 (g))) 177 = (hI g 177) := (u177_gm12 (gm11 (g))).trans P177_2
  have Q4 := qm_14 (h := gm12 (gm11 (g))) F3.1 F3.2.1 F3.2.2.1 F3.2.2.2.1 F3.2.2.2.2.1 F3.2.2.2.2.2.1 F3.2.2.2.2.2.2.1 F3.2.2.2.2.2.2.2.1 F3.2.2.2.2.2.2.2.2
  have F4 := TF_gm13 F3
  have P183_4 : hI (gm13 (gm12 (gm11 (g)))) 183 = (hI g 183) := (u183_gm13 (gm12 (gm11 (g)))).trans P183_3
  have P177_4 : hI (gm13 (gm12 (gm11 (g)))) 177 = (upL (hI g 177) [(44, -1), (46, -1)]) := (u177_gm13 (gm12 (gm11 (g)))).trans (congrArg (fun z => upL z [(44, -1), (46, -1)]) P177_3)
  have Q5 := qm_15 (h := gm13 (gm12 (gm11 (g)))) F4.1 F4.2.1 F4.2.2.1 F4.2.2.2.1 F4.2.2.2.2.1 F4.2.2.2.2.2.1 F4.2.2.2.2.2.2.1 F4.2.2.2.2.2.2.2.1 F4.2.2.2.2.2.2.2.2 ((congrFun P177_4 10).trans (show (upL (hI g 177) [(44, -1), (46, -1)]) 10 = 0 from b10))
  have F5 := TF_gm14 F4
  have P183_5 : hI (gm14 (gm13 (gm12 (gm11 (g))))) 183 = (upL (hI g 183) [(7, -1), (0, 0)]) := (u183_gm14 (gm13 (gm12 (gm11 (g))))).trans (congrArg (fun z => upL z [(7, -1), (0, 0)]) P183_4)
  have P177_5 : hI (gm14 (gm13 (gm12 (gm11 (g))))) 177 = (upL (upL (hI g 177) [(44, -1), (46, -1)]) [(10, 1)]) := (u177_gm14 (gm13 (gm12 (gm11 (g))))).trans (congrArg (fun z => upL z [(10, 1)]) P177_4)
  have Q6 := qm_16 (h := gm14 (gm13 (gm12 (gm11 (g))))) F5.1 F5.2.1 F5.2.2.1 F5.2.2.2.1 F5.2.2.2.2.1 F5.2.2.2.2.2.1 F5.2.2.2.2.2.2.1 F5.2.2.2.2.2.2.2.1 F5.2.2.2.2.2.2.2.2 ((congrFun P177_5 44).trans (show (upL (upL (hI g 177) [(44, -1), (46, -1)]) [(10, 1)]) 44 = -1 from rfl))
  have F6 := TF_gm15 F5
  have P183_6 : hI (gm15 (gm14 (gm13 (gm12 (gm11 (g)))))) 183 = (upL (upL (hI g 183) [(7, -1), (0, 0)]) [(1, -1), (2, 0), (3, -1), (4, -1)]) := (u183_gm15 (gm14 (gm13 (gm12 (gm11 (g)))))).trans (congrArg (fun z => upL z [(1, -1), (2, 0), (3, -1), (4, -1)]) P183_5)
  have P177_6 : hI (gm15 (gm14 (gm13 (gm12 (gm11 (g)))))) 177 = (upL (upL (hI g 177) [(44, -1), (46, -1)]) [(10, 1)]) := (u177_gm15 (gm14 (gm13 (gm12 (gm11 (g)))))).trans P177_5
  have Q7 := qm_17 (h := gm15 (gm14 (gm13 (gm12 (gm11 (g)))))) F6.1 F6.2.1 F6.2.2.1 F6.2.2.2.1 F6.2.2.2.2.1 F6.2.2.2.2.2.1 F6.2.2.2.2.2.2.1 F6.2.2.2.2.2.2.2.1 F6.2.2.2.2.2.2.2.2 ((congrFun P177_6 46).trans (show (upL (upL (hI g 177) [(44, -1), (46, -1)]) [(10, 1)]) 46 = -1 from rfl)) ((congrFun P177_6 44).trans (show (upL (upL (hI g 177) [(44, -1), (46, -1)]) [(10, 1)]) 44 = -1 from rfl))
  have F7 := TF_gm16 F6
  have P183_7 : hI (gm16 (gm15 (gm14 (gm13 (gm12 (gm11 (g))))))) 183 = (upL (upL (upL (hI g 183) [(7, -1), (0, 0)]) [(1, -1), (2, 0), (3, -1), (4, -1)]) [(5, -1), (6, -1), (8, 0), (9, 0)]) := (u183_gm16 (gm15 (gm14 (gm13 (gm12 (gm11 (g))))))).trans (congrArg (fun z => upL z [(5, -1), (6, -1), (8, 0), (9, 0)]) P183_6)
  have P177_7 : hI (gm16 (gm15 (gm14 (gm13 (gm12 (gm11 (g))))))) 177 = (upL (upL (upL (hI g 177) [(44, -1), (46, -1)]) [(10, 1)]) [(12, 0)]) := (u177_gm16 (gm15 (gm14 (gm13 (gm12 (gm11 (g))))))).trans (congrArg (fun z => upL z [(12, 0)]) P177_6)
  have Q8 := qm_18 (h := gm16 (gm15 (gm14 (gm13 (gm12 (gm11 (g))))))) F7.1 F7.2.1 F7.2.2.1 F7.2.2.2.1 F7.2.2.2.2.1 F7.2.2.2.2.2.1 F7.2.2.2.2.2.2.1 F7.2.2.2.2.2.2.2.1 F7.2.2.2.2.2.2.2.2 ((congrFun P177_7 44).trans (show (upL (upL (upL (hI g 177) [(44, -1), (46, -1)]) [(10, 1)]) [(12, 0)]) 44 = -1 from rfl))
  have F8 := TF_gm17 F7
  have P183_8 : hI (gm17 (gm16 (gm15 (gm14 (gm13 (gm12 (gm11 (g)))))))) 183 = (upL (upL (upL (hI g 183) [(7, -1), (0, 0)]) [(1, -1), (2, 0), (3, -1), (4, -1)]) [(5, -1), (6, -1), (8, 0), (9, 0)]) := (u183_gm17 (gm16 (gm15 (gm14 (gm13 (gm12 (gm11 (g)))))))).trans P183_7
  have P177_8 : hI (gm17 (gm16 (gm15 (gm14 (gm13 (gm12 (gm11 (g)))))))) 177 = (upL (upL (upL (upL (hI g 177) [(44, -1), (46, -1)]) [(10, 1)]) [(12, 0)]) [(46, 0)]) := (u177_gm17 (gm16 (gm15 (gm14 (gm13 (gm12 (gm11 (g)))))))).trans (congrArg (fun z => upL z [(46, 0)]) P177_7)
  have Q9 := qm_19 (h := gm17 (gm16 (gm15 (gm14 (gm13 (gm12 (gm11 (g)))))))) F8.1 F8.2.1 F8.2.2.1 F8.2.2.2.1 F8.2.2.2.2.1 F8.2.2.2.2.2.1 F8.2.2.2.2.2.2.1 F8.2.2.2.2.2.2.2.1 F8.2.2.2.2.2.2.2.2
  have F9 := TF_gm18 F8
  have P183_9 : hI (gm18 (gm17 (gm16 (gm15 (gm14 (gm13 (gm12 (gm11 (g))))))))) 183 = (upL (upL (upL (upL (hI g 183) [(7, -1), (0, 0)]) [(1, -1), (2, 0), (3, -1), (4, -1)]) [(5, -1), (6, -1), (8, 0), (9, 0)]) [(1, 1)]) := (u183_gm18 (gm17 (gm16 (gm15 (gm14 (gm13 (gm12 (gm11 (g))))))))).trans (congrArg (fun z => upL z [(1, 1)]) P183_8)
  have P177_9 : hI (gm18 (gm17 (gm16 (gm15 (gm14 (gm13 (gm12 (gm11 (g))))))))) 177 = (upL (upL (upL (upL (hI g 177) [(44, -1), (46, -1)]) [(10, 1)]) [(12, 0)]) [(46, 0)]) := (u177_gm18 (gm17 (gm16 (gm15 (gm14 (gm13 (gm12 (gm11 (g))))))))).trans P177_8
  have Q10 := qm_20 (h := gm18 (gm17 (gm16 (gm15 (gm14 (gm13 (gm12 (gm11 (g))))))))) F9.1 F9.2.1 F9.2.2.1 F9.2.2.2.1 F9.2.2.2.2.1 F9.2.2.2.2.2.1 F9.2.2.2.2.2.2.1 F9.2.2.2.2.2.2.2.1 F9.2.2.2.2.2.2.2.2 ((congrFun P177_9 10).trans (show (upL (upL (upL (upL (hI g 177) [(44, -1), (46, -1)]) [(10, 1)]) [(12, 0)]) [(46, 0)]) 10 = 1 from rfl))
  have Q11 := qm_21 (h := gm18 (gm17 (gm16 (gm15 (gm14 (gm13 (gm12 (gm11 (g))))))))) F9.1 F9.2.1 F9.2.2.1 F9.2.2.2.1 F9.2.2.2.2.1 F9.2.2.2.2.2.1 F9.2.2.2.2.2.2.1 F9.2.2.2.2.2.2.2.1 F9.2.2.2.2.2.2.2.2 ((congrFun P177_9 10).trans (show (upL (upL (upL (upL (hI g 177) [(44, -1), (46, -1)]) [(10, 1)]) [(12, 0)]) [(46, 0)]) 10 = 1 from rfl))
  have Q12 := qm_22 (h := gm18 (gm17 (gm16 (gm15 (gm14 (gm13 (gm12 (gm11 (g))))))))) F9.1 F9.2.1 F9.2.2.1 F9.2.2.2.1 F9.2.2.2.2.1 F9.2.2.2.2.2.1 F9.2.2.2.2.2.2.1 F9.2.2.2.2.2.2.2.1 F9.2.2.2.2.2.2.2.2 ((congrFun P183_9 0).trans (show (upL (upL (upL (upL (hI g 183) [(7, -1), (0, 0)]) [(1, -1), (2, 0), (3, -1), (4, -1)]) [(5, -1), (6, -1), (8, 0), (9, 0)]) [(1, 1)]) 0 = 0 from rfl))
  have Q13 := qm_23 (h := gm18 (gm17 (gm16 (gm15 (gm14 (gm13 (gm12 (gm11 (g))))))))) F9.1 F9.2.1 F9.2.2.1 F9.2.2.2.1 F9.2.2.2.2.1 F9.2.2.2.2.2.1 F9.2.2.2.2.2.2.1 F9.2.2.2.2.2.2.2.1 F9.2.2.2.2.2.2.2.2 ((congrFun P177_9 10).trans (show (upL (upL (upL (upL (hI g 177) [(44, -1), (46, -1)]) [(10, 1)]) [(12, 0)]) [(46, 0)]) 10 = 1 from rfl))
  have Q14 := qm_24 (h := gm18 (gm17 (gm16 (gm15 (gm14 (gm13 (gm12 (gm11 (g))))))))) F9.1 F9.2.1 F9.2.2.1 F9.2.2.2.1 F9.2.2.2.2.1 F9.2.2.2.2.2.1 F9.2.2.2.2.2.2.1 F9.2.2.2.2.2.2.2.1 F9.2.2.2.2.2.2.2.2 ((congrFun P177_9 10).trans (show (upL (upL (upL (upL (hI g 177) [(44, -1), (46, -1)]) [(10, 1)]) [(12, 0)]) [(46, 0)]) 10 = 1 from rfl)) ((congrFun P177_9 44).trans (show (upL (upL (upL (upL (hI g 177) [(44, -1), (46, -1)]) [(10, 1)]) [(12, 0)]) [(46, 0)]) 44 = -1 from rfl))
  have F14 := TF_gm19 F9
  have P183_14 : hI (gm19 (gm18 (gm17 (gm16 (gm15 (gm14 (gm13 (gm12 (gm11 (g)))))))))) 183 = (upL (upL (upL (upL (upL (hI g 183) [(7, -1), (0, 0)]) [(1, -1), (2, 0), (3, -1), (4, -1)]) [(5, -1), (6, -1), (8, 0), (9, 0)]) [(1, 1)]) [(17, 0), (10, 2), (11, -1), (12, 0)]) := (u183_gm19 (gm18 (gm17 (gm16 (gm15 (gm14 (gm13 (gm12 (gm11 (g)))))))))).trans (congrArg (fun z => upL z [(17, 0), (10, 2), (11, -1), (12, 0)]) P183_9)
  have P177_14 : hI (gm19 (gm18 (gm17 (gm16 (gm15 (gm14 (gm13 (gm12 (gm11 (g)))))))))) 177 = (upL (upL (upL (upL (upL (hI g 177) [(44, -1), (46, -1)]) [(10, 1)]) [(12, 0)]) [(46, 0)]) [(10, 2)]) := (u177_gm19 (gm18 (gm17 (gm16 (gm15 (gm14 (gm13 (gm12 (gm11 (g)))))))))).trans (congrArg (fun z => upL z [(10, 2)]) P177_9)
  have Q15 := qm_25 (h := gm19 (gm18 (gm17 (gm16 (gm15 (gm14 (gm13 (gm12 (gm11 (g)))))))))) F14.1 F14.2.1 F14.2.2.1 F14.2.2.2.1 F14.2.2.2.2.1 F14.2.2.2.2.2.1 F14.2.2.2.2.2.2.1 F14.2.2.2.2.2.2.2.1 F14.2.2.2.2.2.2.2.2 ((congrFun P177_14 44).trans (show (upL (upL (upL (upL (upL (hI g 177) [(44, -1), (46, -1)]) [(10, 1)]) [(12, 0)]) [(46, 0)]) [(10, 2)]) 44 = -1 from rfl))
  have F15 := TF_gm20 F14
  have P183_15 : hI (gm20 (gm19 (gm18 (gm17 (gm16 (gm15 (gm14 (gm13 (gm12 (gm11 (g))))))))))) 183 = (upL (upL (upL (upL (upL (upL (hI g 183) [(7, -1), (0, 0)]) [(1, -1), (2, 0), (3, -1), (4, -1)]) [(5, -1), (6, -1), (8, 0), (9, 0)]) [(1, 1)]) [(17, 0), (10, 2), (11, -1), (12, 0)]) [(13, -1), (14, -1), (15, -1), (16, -1), (18, 0)]) := (u183_gm20 (gm19 (gm18 (gm17 (gm16 (gm15 (gm14 (gm13 (gm12 (gm11 (g))))))))))).trans (congrArg (fun z => upL z [(13, -1), (14, -1), (15, -1), (16, -1), (18, 0)]) P183_14)
  have P177_15 : hI (gm20 (gm19 (gm18 (gm17 (gm16 (gm15 (gm14 (gm13 (gm12 (gm11 (g))))))))))) 177 = (upL (upL (upL (upL (upL (hI g 177) [(44, -1), (46, -1)]) [(10, 1)]) [(12, 0)]) [(46, 0)]) [(10, 2)]) := (u177_gm20 (gm19 (gm18 (gm17 (gm16 (gm15 (gm14 (gm13 (gm12 (gm11 (g))))))))))).trans P177_14
  have Q16 := qm_26 (h := gm20 (gm19 (gm18 (gm17 (gm16 (gm15 (gm14 (gm13 (gm12 (gm11 (g))))))))))) F15.1 F15.2.1 F15.2.2.1 F15.2.2.2.1 F15.2.2.2.2.1 F15.2.2.2.2.2.1 F15.2.2.2.2.2.2.1 F15.2.2.2.2.2.2.2.1 F15.2.2.2.2.2.2.2.2 ((congrFun P177_15 46).trans (show (upL (upL (upL (upL (upL (hI g 177) [(44, -1), (46, -1)]) [(10, 1)]) [(12, 0)]) [(46, 0)]) [(10, 2)]) 46 = 0 from rfl)) ((congrFun P177_15 44).trans (show (upL (upL (upL (upL (upL (hI g 177) [(44, -1), (46, -1)]) [(10, 1)]) [(12, 0)]) [(46, 0)]) [(10, 2)]) 44 = -1 from rfl))
  have F16 := TF_gm21 F15
  have P183_16 : hI (gm21 (gm20 (gm19 (gm18 (gm17 (gm16 (gm15 (gm14 (gm13 (gm12 (gm11 (g)))))))))))) 183 = (upL (upL (upL (upL (upL (upL (upL (hI g 183) [(7, -1), (0, 0)]) [(1, -1), (2, 0), (3, -1), (4, -1)]) [(5, -1), (6, -1), (8, 0), (9, 0)]) [(1, 1)]) [(17, 0), (10, 2), (11, -1), (12, 0)]) [(13, -1), (14, -1), (15, -1), (16, -1), (18, 0)]) [(19, 0), (4, 1)]) := (u183_gm21 (gm20 (gm19 (gm18 (gm17 (gm16 (gm15 (gm14 (gm13 (gm12 (gm11 (g)))))))))))).trans (congrArg (fun z => upL z [(19, 0), (4, 1)]) P183_15)
  have P177_16 : hI (gm21 (gm20 (gm19 (gm18 (gm17 (gm16 (gm15 (gm14 (gm13 (gm12 (gm11 (g)))))))))))) 177 = (upL (upL (upL (upL (upL (hI g 177) [(44, -1), (46, -1)]) [(10, 1)]) [(12, 0)]) [(46, 0)]) [(10, 2)]) := (u177_gm21 (gm20 (gm19 (gm18 (gm17 (gm16 (gm15 (gm14 (gm13 (gm12 (gm11 (g)))))))))))).trans P177_15
  have Q17 := qm_27 (h := gm21 (gm20 (gm19 (gm18 (gm17 (gm16 (gm15 (gm14 (gm13 (gm12 (gm11 (g)))))))))))) F16.1 F16.2.1 F16.2.2.1 F16.2.2.2.1 F16.2.2.2.2.1 F16.2.2.2.2.2.1 F16.2.2.2.2.2.2.1 F16.2.2.2.2.2.2.2.1 F16.2.2.2.2.2.2.2.2
  have F17 := TF_gm22 F16
  have P183_17 : hI (gm22 (gm21 (gm20 (gm19 (gm18 (gm17 (gm16 (gm15 (gm14 (gm13 (gm12 (gm11 (g))))))))))))) 183 = (upL (upL (upL (upL (upL (upL (upL (hI g 183) [(7, -1), (0, 0)]) [(1, -1), (2, 0), (3, -1), (4, -1)]) [(5, -1), (6, -1), (8, 0), (9, 0)]) [(1, 1)]) [(17, 0), (10, 2), (11, -1), (12, 0)]) [(13, -1), (14, -1), (15, -1), (16, -1), (18, 0)]) [(19, 0), (4, 1)]) := (u183_gm22 (gm21 (gm20 (gm19 (gm18 (gm17 (gm16 (gm15 (gm14 (gm13 (gm12 (gm11 (g))))))))))))).trans P183_16
  have P177_17 : hI (gm22 (gm21 (gm20 (gm19 (gm18 (gm17 (gm16 (gm15 (gm14 (gm13 (gm12 (gm11 (g))))))))))))) 177 = (upL (upL (upL (upL (upL (upL (hI g 177) [(44, -1), (46, -1)]) [(10, 1)]) [(12, 0)]) [(46, 0)]) [(10, 2)]) [(46, 1)]) := (u177_gm22 (gm21 (gm20 (gm19 (gm18 (gm17 (gm16 (gm15 (gm14 (gm13 (gm12 (gm11 (g))))))))))))).trans (congrArg (fun z => upL z [(46, 1)]) P177_16)
  have Q18 := qm_28 (h := gm22 (gm21 (gm20 (gm19 (gm18 (gm17 (gm16 (gm15 (gm14 (gm13 (gm12 (gm11 (g))))))))))))) F17.1 F17.2.1 F17.2.2.1 F17.2.2.2.1 F17.2.2.2.2.1 F17.2.2.2.2.2.1 F17.2.2.2.2.2.2.1 F17.2.2.2.2.2.2.2.1 F17.2.2.2.2.2.2.2.2
  have Q19 := qm_29 (h := gm22 (gm21 (gm20 (gm19 (gm18 (gm17 (gm16 (gm15 (gm14 (gm13 (gm12 (gm11 (g))))))))))))) F17.1 F17.2.1 F17.2.2.1 F17.2.2.2.1 F17.2.2.2.2.1 F17.2.2.2.2.2.1 F17.2.2.2.2.2.2.1 F17.2.2.2.2.2.2.2.1 F17.2.2.2.2.2.2.2.2
  have F19 := TF_gm23 F17
  have P183_19 : hI (gm23 (gm22 (gm21 (gm20 (gm19 (gm18 (gm17 (gm16 (gm15 (gm14 (gm13 (gm12 (gm11 (g)))))))))))))) 183 = (upL (upL (upL (upL (upL (upL (upL (hI g 183) [(7, -1), (0, 0)]) [(1, -1), (2, 0), (3, -1), (4, -1)]) [(5, -1), (6, -1), (8, 0), (9, 0)]) [(1, 1)]) [(17, 0), (10, 2), (11, -1), (12, 0)]) [(13, -1), (14, -1), (15, -1), (16, -1), (18, 0)]) [(19, 0), (4, 1)]) := (u183_gm23 (gm22 (gm21 (gm20 (gm19 (gm18 (gm17 (gm16 (gm15 (gm14 (gm13 (gm12 (gm11 (g)))))))))))))).trans P183_17
  have P177_19 : hI (gm23 (gm22 (gm21 (gm20 (gm19 (gm18 (gm17 (gm16 (gm15 (gm14 (gm13 (gm12 (gm11 (g)))))))))))))) 177 = (upL (upL (upL (upL (upL (upL (hI g 177) [(44, -1), (46, -1)]) [(10, 1)]) [(12, 0)]) [(46, 0)]) [(10, 2)]) [(46, 1)]) := (u177_gm23 (gm22 (gm21 (gm20 (gm19 (gm18 (gm17 (gm16 (gm15 (gm14 (gm13 (gm12 (gm11 (g)))))))))))))).trans P177_17
  have Q20 := qm_30 (h := gm23 (gm22 (gm21 (gm20 (gm19 (gm18 (gm17 (gm16 (gm15 (gm14 (gm13 (gm12 (gm11 (g)))))))))))))) F19.1 F19.2.1 F19.2.2.1 F19.2.2.2.1 F19.2.2.2.2.1 F19.2.2.2.2.2.1 F19.2.2.2.2.2.2.1 F19.2.2.2.2.2.2.2.1 F19.2.2.2.2.2.2.2.2
  have Q21 := qm_31 (h := gm23 (gm22 (gm21 (gm20 (gm19 (gm18 (gm17 (gm16 (gm15 (gm14 (gm13 (gm12 (gm11 (g)))))))))))))) F19.1 F19.2.1 F19.2.2.1 F19.2.2.2.1 F19.2.2.2.2.1 F19.2.2.2.2.2.1 F19.2.2.2.2.2.2.1 F19.2.2.2.2.2.2.2.1 F19.2.2.2.2.2.2.2.2
  have F21 := TF_gm24 F19
  have P183_21 : hI (gm24 (gm23 (gm22 (gm21 (gm20 (gm19 (gm18 (gm17 (gm16 (gm15 (gm14 (gm13 (gm12 (gm11 (g))))))))))))))) 183 = (upL (upL (upL (upL (upL (upL (upL (hI g 183) [(7, -1), (0, 0)]) [(1, -1), (2, 0), (3, -1), (4, -1)]) [(5, -1), (6, -1), (8, 0), (9, 0)]) [(1, 1)]) [(17, 0), (10, 2), (11, -1), (12, 0)]) [(13, -1), (14, -1), (15, -1), (16, -1), (18, 0)]) [(19, 0), (4, 1)]) := (u183_gm24 (gm23 (gm22 (gm21 (gm20 (gm19 (gm18 (gm17 (gm16 (gm15 (gm14 (gm13 (gm12 (gm11 (g))))))))))))))).trans P183_19
  have P177_21 : hI (gm24 (gm23 (gm22 (gm21 (gm20 (gm19 (gm18 (gm17 (gm16 (gm15 (gm14 (gm13 (gm12 (gm11 (g))))))))))))))) 177 = (upL (upL (upL (upL (upL (upL (hI g 177) [(44, -1), (46, -1)]) [(10, 1)]) [(12, 0)]) [(46, 0)]) [(10, 2)]) [(46, 1)]) := (u177_gm24 (gm23 (gm22 (gm21 (gm20 (gm19 (gm18 (gm17 (gm16 (gm15 (gm14 (gm13 (gm12 (gm11 (g))))))))))))))).trans P177_19
  have Q22 := qm_32 (h := gm24 (gm23 (gm22 (gm21 (gm20 (gm19 (gm18 (gm17 (gm16 (gm15 (gm14 (gm13 (gm12 (gm11 (g))))))))))))))) F21.1 F21.2.1 F21.2.2.1 F21.2.2.2.1 F21.2.2.2.2.1 F21.2.2.2.2.2.1 F21.2.2.2.2.2.2.1 F21.2.2.2.2.2.2.2.1 F21.2.2.2.2.2.2.2.2
  have F22 := TF_gm25 F21
  have P183_22 : hI (gm25 (gm24 (gm23 (gm22 (gm21 (gm20 (gm19 (gm18 (gm17 (gm16 (gm15 (gm14 (gm13 (gm12 (gm11 (g)))))))))))))))) 183 = (upL (upL (upL (upL (upL (upL (upL (hI g 183) [(7, -1), (0, 0)]) [(1, -1), (2, 0), (3, -1), (4, -1)]) [(5, -1), (6, -1), (8, 0), (9, 0)]) [(1, 1)]) [(17, 0), (10, 2), (11, -1), (12, 0)]) [(13, -1), (14, -1), (15, -1), (16, -1), (18, 0)]) [(19, 0), (4, 1)]) := (u183_gm25 (gm24 (gm23 (gm22 (gm21 (gm20 (gm19 (gm18 (gm17 (gm16 (gm15 (gm14 (gm13 (gm12 (gm11 (g)))))))))))))))).trans P183_21
  have P177_22 : hI (gm25 (gm24 (gm23 (gm22 (gm21 (gm20 (gm19 (gm18 (gm17 (gm16 (gm15 (gm14 (gm13 (gm12 (gm11 (g)))))))))))))))) 177 = (upL (upL (upL (upL (upL (upL (upL (hI g 177) [(44, -1), (46, -1)]) [(10, 1)]) [(12, 0)]) [(46, 0)]) [(10, 2)]) [(46, 1)]) [(44, 1), (46, -1)]) := (u177_gm25 (gm24 (gm23 (gm22 (gm21 (gm20 (gm19 (gm18 (gm17 (gm16 (gm15 (gm14 (gm13 (gm12 (gm11 (g)))))))))))))))).trans (congrArg (fun z => upL z [(44, 1), (46, -1)]) P177_21)
  have Q23 := qm_33 (h := gm25 (gm24 (gm23 (gm22 (gm21 (gm20 (gm19 (gm18 (gm17 (gm16 (gm15 (gm14 (gm13 (gm12 (gm11 (g)))))))))))))))) F22.1 F22.2.1 F22.2.2.1 F22.2.2.2.1 F22.2.2.2.2.1 F22.2.2.2.2.2.1 F22.2.2.2.2.2.2.1 F22.2.2.2.2.2.2.2.1 F22.2.2.2.2.2.2.2.2 ((congrFun P177_22 10).trans (show (upL (upL (upL (upL (upL (upL (upL (hI g 177) [(44, -1), (46, -1)]) [(10, 1)]) [(12, 0)]) [(46, 0)]) [(10, 2)]) [(46, 1)]) [(44, 1), (46, -1)]) 10 = 2 from rfl))
  have F23 := TF_gm26 F22
  have P183_23 : hI (gm26 (gm25 (gm24 (gm23 (gm22 (gm21 (gm20 (gm19 (gm18 (gm17 (gm16 (gm15 (gm14 (gm13 (gm12 (gm11 (g))))))))))))))))) 183 = (upL (upL (upL (upL (upL (upL (upL (upL (hI g 183) [(7, -1), (0, 0)]) [(1, -1), (2, 0), (3, -1), (4, -1)]) [(5, -1), (6, -1), (8, 0), (9, 0)]) [(1, 1)]) [(17, 0), (10, 2), (11, -1), (12, 0)]) [(13, -1), (14, -1), (15, -1), (16, -1), (18, 0)]) [(19, 0), (4, 1)]) [(27, -1), (20, 0)]) := (u183_gm26 (gm25 (gm24 (gm23 (gm22 (gm21 (gm20 (gm19 (gm18 (gm17 (gm16 (gm15 (gm14 (gm13 (gm12 (gm11 (g))))))))))))))))).trans (congrArg (fun z => upL z [(27, -1), (20, 0)]) P183_22)
  have P177_23 : hI (gm26 (gm25 (gm24 (gm23 (gm22 (gm21 (gm20 (gm19 (gm18 (gm17 (gm16 (gm15 (gm14 (gm13 (gm12 (gm11 (g))))))))))))))))) 177 = (upL (upL (upL (upL (upL (upL (upL (upL (hI g 177) [(44, -1), (46, -1)]) [(10, 1)]) [(12, 0)]) [(46, 0)]) [(10, 2)]) [(46, 1)]) [(44, 1), (46, -1)]) [(10, 3)]) := (u177_gm26 (gm25 (gm24 (gm23 (gm22 (gm21 (gm20 (gm19 (gm18 (gm17 (gm16 (gm15 (gm14 (gm13 (gm12 (gm11 (g))))))))))))))))).trans (congrArg (fun z => upL z [(10, 3)]) P177_22)
  have Q24 := qm_34 (h := gm26 (gm25 (gm24 (gm23 (gm22 (gm21 (gm20 (gm19 (gm18 (gm17 (gm16 (gm15 (gm14 (gm13 (gm12 (gm11 (g))))))))))))))))) F23.1 F23.2.1 F23.2.2.1 F23.2.2.2.1 F23.2.2.2.2.1 F23.2.2.2.2.2.1 F23.2.2.2.2.2.2.1 F23.2.2.2.2.2.2.2.1 F23.2.2.2.2.2.2.2.2 ((congrFun P177_23 44).trans (show (upL (upL (upL (upL (upL (upL (upL (upL (hI g 177) [(44, -1), (46, -1)]) [(10, 1)]) [(12, 0)]) [(46, 0)]) [(10, 2)]) [(46, 1)]) [(44, 1), (46, -1)]) [(10, 3)]) 44 = 1 from rfl))
  have F24 := TF_gm27 F23
  have P183_24 : hI (gm27 (gm26 (gm25 (gm24 (gm23 (gm22 (gm21 (gm20 (gm19 (gm18 (gm17 (gm16 (gm15 (gm14 (gm13 (gm12 (gm11 (g)))))))))))))))))) 183 = (upL (upL (upL (upL (upL (upL (upL (upL (upL (hI g 183) [(7, -1), (0, 0)]) [(1, -1), (2, 0), (3, -1), (4, -1)]) [(5, -1), (6, -1), (8, 0), (9, 0)]) [(1, 1)]) [(17, 0), (10, 2), (11, -1), (12, 0)]) [(13, -1), (14, -1), (15, -1), (16, -1), (18, 0)]) [(19, 0), (4, 1)]) [(27, -1), (20, 0)]) [(21, -1)]) := (u183_gm27 (gm26 (gm25 (gm24 (gm23 (gm22 (gm21 (gm20 (gm19 (gm18 (gm17 (gm16 (gm15 (gm14 (gm13 (gm12 (gm11 (g)))))))))))))))))).trans (congrArg (fun z => upL z [(21, -1)]) P183_23)
  have P177_24 : hI (gm27 (gm26 (gm25 (gm24 (gm23 (gm22 (gm21 (gm20 (gm19 (gm18 (gm17 (gm16 (gm15 (gm14 (gm13 (gm12 (gm11 (g)))))))))))))))))) 177 = (upL (upL (upL (upL (upL (upL (upL (upL (hI g 177) [(44, -1), (46, -1)]) [(10, 1)]) [(12, 0)]) [(46, 0)]) [(10, 2)]) [(46, 1)]) [(44, 1), (46, -1)]) [(10, 3)]) := (u177_gm27 (gm26 (gm25 (gm24 (gm23 (gm22 (gm21 (gm20 (gm19 (gm18 (gm17 (gm16 (gm15 (gm14 (gm13 (gm12 (gm11 (g)))))))))))))))))).trans P177_23
  have Q25 := qm_35 (h := gm27 (gm26 (gm25 (gm24 (gm23 (gm22 (gm21 (gm20 (gm19 (gm18 (gm17 (gm16 (gm15 (gm14 (gm13 (gm12 (gm11 (g)))))))))))))))))) F24.1 F24.2.1 F24.2.2.1 F24.2.2.2.1 F24.2.2.2.2.1 F24.2.2.2.2.2.1 F24.2.2.2.2.2.2.1 F24.2.2.2.2.2.2.2.1 F24.2.2.2.2.2.2.2.2 ((congrFun P183_24 12).trans (show (upL (upL (upL (upL (upL (upL (upL (upL (upL (hI g 183) [(7, -1), (0, 0)]) [(1, -1), (2, 0), (3, -1), (4, -1)]) [(5, -1), (6, -1), (8, 0), (9, 0)]) [(1, 1)]) [(17, 0), (10, 2), (11, -1), (12, 0)]) [(13, -1), (14, -1), (15, -1), (16, -1), (18, 0)]) [(19, 0), (4, 1)]) [(27, -1), (20, 0)]) [(21, -1)]) 12 = 0 from rfl))
  have Q26 := qm_36 (h := gm27 (gm26 (gm25 (gm24 (gm23 (gm22 (gm21 (gm20 (gm19 (gm18 (gm17 (gm16 (gm15 (gm14 (gm13 (gm12 (gm11 (g)))))))))))))))))) F24.1 F24.2.1 F24.2.2.1 F24.2.2.2.1 F24.2.2.2.2.1 F24.2.2.2.2.2.1 F24.2.2.2.2.2.2.1 F24.2.2.2.2.2.2.2.1 F24.2.2.2.2.2.2.2.2 ((congrFun P177_24 44).trans (show (upL (upL (upL (upL (upL (upL (upL (upL (hI g 177) [(44, -1), (46, -1)]) [(10, 1)]) [(12, 0)]) [(46, 0)]) [(10, 2)]) [(46, 1)]) [(44, 1), (46, -1)]) [(10, 3)]) 44 = 1 from rfl))
  have F26 := TF_gm28 F24
  have P183_26 : hI (gm28 (gm27 (gm26 (gm25 (gm24 (gm23 (gm22 (gm21 (gm20 (gm19 (gm18 (gm17 (gm16 (gm15 (gm14 (gm13 (gm12 (gm11 (g))))))))))))))))))) 183 = (upL (upL (upL (upL (upL (upL (upL (upL (upL (upL (hI g 183) [(7, -1), (0, 0)]) [(1, -1), (2, 0), (3, -1), (4, -1)]) [(5, -1), (6, -1), (8, 0), (9, 0)]) [(1, 1)]) [(17, 0), (10, 2), (11, -1), (12, 0)]) [(13, -1), (14, -1), (15, -1), (16, -1), (18, 0)]) [(19, 0), (4, 1)]) [(27, -1), (20, 0)]) [(21, -1)]) [(22, 1), (23, 1), (24, -1), (25, -1), (26, -1)]) := (u183_gm28 (gm27 (gm26 (gm25 (gm24 (gm23 (gm22 (gm21 (gm20 (gm19 (gm18 (gm17 (gm16 (gm15 (gm14 (gm13 (gm12 (gm11 (g))))))))))))))))))).trans (congrArg (fun z => upL z [(22, 1), (23, 1), (24, -1), (25, -1), (26, -1)]) P183_24)
  have P177_26 : hI (gm28 (gm27 (gm26 (gm25 (gm24 (gm23 (gm22 (gm21 (gm20 (gm19 (gm18 (gm17 (gm16 (gm15 (gm14 (gm13 (gm12 (gm11 (g))))))))))))))))))) 177 = (upL (upL (upL (upL (upL (upL (upL (upL (hI g 177) [(44, -1), (46, -1)]) [(10, 1)]) [(12, 0)]) [(46, 0)]) [(10, 2)]) [(46, 1)]) [(44, 1), (46, -1)]) [(10, 3)]) := (u177_gm28 (gm27 (gm26 (gm25 (gm24 (gm23 (gm22 (gm21 (gm20 (gm19 (gm18 (gm17 (gm16 (gm15 (gm14 (gm13 (gm12 (gm11 (g))))))))))))))))))).trans P177_24
  have Q27 := qm_37 (h := gm28 (gm27 (gm26 (gm25 (gm24 (gm23 (gm22 (gm21 (gm20 (gm19 (gm18 (gm17 (gm16 (gm15 (gm14 (gm13 (gm12 (gm11 (g))))))))))))))))))) F26.1 F26.2.1 F26.2.2.1 F26.2.2.2.1 F26.2.2.2.2.1 F26.2.2.2.2.2.1 F26.2.2.2.2.2.2.1 F26.2.2.2.2.2.2.2.1 F26.2.2.2.2.2.2.2.2 ((congrFun P177_26 46).trans (show (upL (upL (upL (upL (upL (upL (upL (upL (hI g 177) [(44, -1), (46, -1)]) [(10, 1)]) [(12, 0)]) [(46, 0)]) [(10, 2)]) [(46, 1)]) [(44, 1), (46, -1)]) [(10, 3)]) 46 = -1 from rfl)) ((congrFun P177_26 44).trans (show (upL (upL (upL (upL (upL (upL (upL (upL (hI g 177) [(44, -1), (46, -1)]) [(10, 1)]) [(12, 0)]) [(46, 0)]) [(10, 2)]) [(46, 1)]) [(44, 1), (46, -1)]) [(10, 3)]) 44 = 1 from rfl)) ((congrFun P177_26 45).trans (show (upL (upL (upL (upL (upL (upL (upL (upL (hI g 177) [(44, -1), (46, -1)]) [(10, 1)]) [(12, 0)]) [(46, 0)]) [(10, 2)]) [(46, 1)]) [(44, 1), (46, -1)]) [(10, 3)]) 45 = 0 from b45))
  have F27 := TF_gm29 F26
  have P183_27 : hI (gm29 (gm28 (gm27 (gm26 (gm25 (gm24 (gm23 (gm22 (gm21 (gm20 (gm19 (gm18 (gm17 (gm16 (gm15 (gm14 (gm13 (gm12 (gm11 (g)))))))))))))))))))) 183 = (upL (upL (upL (upL (upL (upL (upL (upL (upL (upL (upL (hI g 183) [(7, -1), (0, 0)]) [(1, -1), (2, 0), (3, -1), (4, -1)]) [(5, -1), (6, -1), (8, 0), (9, 0)]) [(1, 1)]) [(17, 0), (10, 2), (11, -1), (12, 0)]) [(13, -1), (14, -1), (15, -1), (16, -1), (18, 0)]) [(19, 0), (4, 1)]) [(27, -1), (20, 0)]) [(21, -1)]) [(22, 1), (23, 1), (24, -1), (25, -1), (26, -1)]) [(28, 0), (29, 0), (15, 2)]) := (u183_gm29 (gm28 (gm27 (gm26 (gm25 (gm24 (gm23 (gm22 (gm21 (gm20 (gm19 (gm18 (gm17 (gm16 (gm15 (gm14 (gm13 (gm12 (gm11 (g)))))))))))))))))))).trans (congrArg (fun z => upL z [(28, 0), (29, 0), (15, 2)]) P183_26)
  have P177_27 : hI (gm29 (gm28 (gm27 (gm26 (gm25 (gm24 (gm23 (gm22 (gm21 (gm20 (gm19 (gm18 (gm17 (gm16 (gm15 (gm14 (gm13 (gm12 (gm11 (g)))))))))))))))))))) 177 = (upL (upL (upL (upL (upL (upL (upL (upL (hI g 177) [(44, -1), (46, -1)]) [(10, 1)]) [(12, 0)]) [(46, 0)]) [(10, 2)]) [(46, 1)]) [(44, 1), (46, -1)]) [(10, 3)]) := (u177_gm29 (gm28 (gm27 (gm26 (gm25 (gm24 (gm23 (gm22 (gm21 (gm20 (gm19 (gm18 (gm17 (gm16 (gm15 (gm14 (gm13 (gm12 (gm11 (g)))))))))))))))))))).trans P177_26
  have Q28 := qm_38 (h := gm29 (gm28 (gm27 (gm26 (gm25 (gm24 (gm23 (gm22 (gm21 (gm20 (gm19 (gm18 (gm17 (gm16 (gm15 (gm14 (gm13 (gm12 (gm11 (g)))))))))))))))))))) F27.1 F27.2.1 F27.2.2.1 F27.2.2.2.1 F27.2.2.2.2.1 F27.2.2.2.2.2.1 F27.2.2.2.2.2.2.1 F27.2.2.2.2.2.2.2.1 F27.2.2.2.2.2.2.2.2 ((congrFun P177_27 44).trans (show (upL (upL (upL (upL (upL (upL (upL (upL (hI g 177) [(44, -1), (46, -1)]) [(10, 1)]) [(12, 0)]) [(46, 0)]) [(10, 2)]) [(46, 1)]) [(44, 1), (46, -1)]) [(10, 3)]) 44 = 1 from rfl)) ((congrFun P177_27 45).trans (show (upL (upL (upL (upL (upL (upL (upL (upL (hI g 177) [(44, -1), (46, -1)]) [(10, 1)]) [(12, 0)]) [(46, 0)]) [(10, 2)]) [(46, 1)]) [(44, 1), (46, -1)]) [(10, 3)]) 45 = 0 from b45)) ((congrFun P183_27 18).trans (show (upL (upL (upL (upL (upL (upL (upL (upL (upL (upL (upL (hI g 183) [(7, -1), (0, 0)]) [(1, -1), (2, 0), (3, -1), (4, -1)]) [(5, -1), (6, -1), (8, 0), (9, 0)]) [(1, 1)]) [(17, 0), (10, 2), (11, -1), (12, 0)]) [(13, -1), (14, -1), (15, -1), (16, -1), (18, 0)]) [(19, 0), (4, 1)]) [(27, -1), (20, 0)]) [(21, -1)]) [(22, 1), (23, 1), (24, -1), (25, -1), (26, -1)]) [(28, 0), (29, 0), (15, 2)]) 18 = 0 from rfl))
  have F28 := TF_gm30 F27
  have P183_28 : hI (gm30 (gm29 (gm28 (gm27 (gm26 (gm25 (gm24 (gm23 (gm22 (gm21 (gm20 (gm19 (gm18 (gm17 (gm16 (gm15 (gm14 (gm13 (gm12 (gm11 (g))))))))))))))))))))) 183 = (upL (upL (upL (upL (upL (upL (upL (upL (upL (upL (upL (upL (hI g 183) [(7, -1), (0, 0)]) [(1, -1), (2, 0), (3, -1), (4, -1)]) [(5, -1), (6, -1), (8, 0), (9, 0)]) [(1, 1)]) [(17, 0), (10, 2), (11, -1), (12, 0)]) [(13, -1), (14, -1), (15, -1), (16, -1), (18, 0)]) [(19, 0), (4, 1)]) [(27, -1), (20, 0)]) [(21, -1)]) [(22, 1), (23, 1), (24, -1), (25, -1), (26, -1)]) [(28, 0), (29, 0), (15, 2)]) [(18, 1)]) := (u183_gm30 (gm29 (gm28 (gm27 (gm26 (gm25 (gm24 (gm23 (gm22 (gm21 (gm20 (gm19 (gm18 (gm17 (gm16 (gm15 (gm14 (gm13 (gm12 (gm11 (g))))))))))))))))))))).trans (congrArg (fun z => upL z [(18, 1)]) P183_27)
  have P177_28 : hI (gm30 (gm29 (gm28 (gm27 (gm26 (gm25 (gm24 (gm23 (gm22 (gm21 (gm20 (gm19 (gm18 (gm17 (gm16 (gm15 (gm14 (gm13 (gm12 (gm11 (g))))))))))))))))))))) 177 = (upL (upL (upL (upL (upL (upL (upL (upL (upL (hI g 177) [(44, -1), (46, -1)]) [(10, 1)]) [(12, 0)]) [(46, 0)]) [(10, 2)]) [(46, 1)]) [(44, 1), (46, -1)]) [(10, 3)]) [(46, 2)]) := (u177_gm30 (gm29 (gm28 (gm27 (gm26 (gm25 (gm24 (gm23 (gm22 (gm21 (gm20 (gm19 (gm18 (gm17 (gm16 (gm15 (gm14 (gm13 (gm12 (gm11 (g))))))))))))))))))))).trans (congrArg (fun z => upL z [(46, 2)]) P177_27)
  have Q29 := qm_39 (h := gm30 (gm29 (gm28 (gm27 (gm26 (gm25 (gm24 (gm23 (gm22 (gm21 (gm20 (gm19 (gm18 (gm17 (gm16 (gm15 (gm14 (gm13 (gm12 (gm11 (g))))))))))))))))))))) F28.1 F28.2.1 F28.2.2.1 F28.2.2.2.1 F28.2.2.2.2.1 F28.2.2.2.2.2.1 F28.2.2.2.2.2.2.1 F28.2.2.2.2.2.2.2.1 F28.2.2.2.2.2.2.2.2
  have F29 := TF_gm31 F28
  have P183_29 : hI (gm31 (gm30 (gm29 (gm28 (gm27 (gm26 (gm25 (gm24 (gm23 (gm22 (gm21 (gm20 (gm19 (gm18 (gm17 (gm16 (gm15 (gm14 (gm13 (gm12 (gm11 (g)))))))))))))))))))))) 183 = (upL (upL (upL (upL (upL (upL (upL (upL (upL (upL (upL (upL (upL (hI g 183) [(7, -1), (0, 0)]) [(1, -1), (2, 0), (3, -1), (4, -1)]) [(5, -1), (6, -1), (8, 0), (9, 0)]) [(1, 1)]) [(17, 0), (10, 2), (11, -1), (12, 0)]) [(13, -1), (14, -1), (15, -1), (16, -1), (18, 0)]) [(19, 0), (4, 1)]) [(27, -1), (20, 0)]) [(21, -1)]) [(22, 1), (23, 1), (24, -1), (25, -1), (26, -1)]) [(28, 0), (29, 0), (15, 2)]) [(18, 1)]) [(21, 0)]) := (u183_gm31 (gm30 (gm29 (gm28 (gm27 (gm26 (gm25 (gm24 (gm23 (gm22 (gm21 (gm20 (gm19 (gm18 (gm17 (gm16 (gm15 (gm14 (gm13 (gm12 (gm11 (g)))))))))))))))))))))).trans (congrArg (fun z => upL z [(21, 0)]) P183_28)
  have P177_29 : hI (gm31 (gm30 (gm29 (gm28 (gm27 (gm26 (gm25 (gm24 (gm23 (gm22 (gm21 (gm20 (gm19 (gm18 (gm17 (gm16 (gm15 (gm14 (gm13 (gm12 (gm11 (g)))))))))))))))))))))) 177 = (upL (upL (upL (upL (upL (upL (upL (upL (upL (hI g 177) [(44, -1), (46, -1)]) [(10, 1)]) [(12, 0)]) [(46, 0)]) [(10, 2)]) [(46, 1)]) [(44, 1), (46, -1)]) [(10, 3)]) [(46, 2)]) := (u177_gm31 (gm30 (gm29 (gm28 (gm27 (gm26 (gm25 (gm24 (gm23 (gm22 (gm21 (gm20 (gm19 (gm18 (gm17 (gm16 (gm15 (gm14 (gm13 (gm12 (gm11 (g)))))))))))))))))))))).trans P177_28
  have Q30 := qm_40 (h := gm31 (gm30 (gm29 (gm28 (gm27 (gm26 (gm25 (gm24 (gm23 (gm22 (gm21 (gm20 (gm19 (gm18 (gm17 (gm16 (gm15 (gm14 (gm13 (gm12 (gm11 (g)))))))))))))))))))))) F29.1 F29.2.1 F29.2.2.1 F29.2.2.2.1 F29.2.2.2.2.1 F29.2.2.2.2.2.1 F29.2.2.2.2.2.2.1 F29.2.2.2.2.2.2.2.1 F29.2.2.2.2.2.2.2.2
  have F30 := TF_gm32 F29
  have P183_30 : hI (gm32 (gm31 (gm30 (gm29 (gm28 (gm27 (gm26 (gm25 (gm24 (gm23 (gm22 (gm21 (gm20 (gm19 (gm18 (gm17 (gm16 (gm15 (gm14 (gm13 (gm12 (gm11 (g))))))))))))))))))))))) 183 = (upL (upL (upL (upL (upL (upL (upL (upL (upL (upL (upL (upL (upL (hI g 183) [(7, -1), (0, 0)]) [(1, -1), (2, 0), (3, -1), (4, -1)]) [(5, -1), (6, -1), (8, 0), (9, 0)]) [(1, 1)]) [(17, 0), (10, 2), (11, -1), (12, 0)]) [(13, -1), (14, -1), (15, -1), (16, -1), (18, 0)]) [(19, 0), (4, 1)]) [(27, -1), (20, 0)]) [(21, -1)]) [(22, 1), (23, 1), (24, -1), (25, -1), (26, -1)]) [(28, 0), (29, 0), (15, 2)]) [(18, 1)]) [(21, 0)]) := (u183_gm32 (gm31 (gm30 (gm29 (gm28 (gm27 (gm26 (gm25 (gm24 (gm23 (gm22 (gm21 (gm20 (gm19 (gm18 (gm17 (gm16 (gm15 (gm14 (gm13 (gm12 (gm11 (g))))))))))))))))))))))).trans P183_29
  have P177_30 : hI (gm32 (gm31 (gm30 (gm29 (gm28 (gm27 (gm26 (gm25 (gm24 (gm23 (gm22 (gm21 (gm20 (gm19 (gm18 (gm17 (gm16 (gm15 (gm14 (gm13 (gm12 (gm11 (g))))))))))))))))))))))) 177 = (upL (upL (upL (upL (upL (upL (upL (upL (upL (hI g 177) [(44, -1), (46, -1)]) [(10, 1)]) [(12, 0)]) [(46, 0)]) [(10, 2)]) [(46, 1)]) [(44, 1), (46, -1)]) [(10, 3)]) [(46, 2)]) := (u177_gm32 (gm31 (gm30 (gm29 (gm28 (gm27 (gm26 (gm25 (gm24 (gm23 (gm22 (gm21 (gm20 (gm19 (gm18 (gm17 (gm16 (gm15 (gm14 (gm13 (gm12 (gm11 (g))))))))))))))))))))))).trans P177_29
  have Q31 := qm_41 (h := gm32 (gm31 (gm30 (gm29 (gm28 (gm27 (gm26 (gm25 (gm24 (gm23 (gm22 (gm21 (gm20 (gm19 (gm18 (gm17 (gm16 (gm15 (gm14 (gm13 (gm12 (gm11 (g))))))))))))))))))))))) F30.1 F30.2.1 F30.2.2.1 F30.2.2.2.1 F30.2.2.2.2.1 F30.2.2.2.2.2.1 F30.2.2.2.2.2.2.1 F30.2.2.2.2.2.2.2.1 F30.2.2.2.2.2.2.2.2
  have F31 := TF_gm33 F30
  have P183_31 : hI (gm33 (gm32 (gm31 (gm30 (gm29 (gm28 (gm27 (gm26 (gm25 (gm24 (gm23 (gm22 (gm21 (gm20 (gm19 (gm18 (gm17 (gm16 (gm15 (gm14 (gm13 (gm12 (gm11 (g)))))))))))))))))))))))) 183 = (upL (upL (upL (upL (upL (upL (upL (upL (upL (upL (upL (upL (upL (hI g 183) [(7, -1), (0, 0)]) [(1, -1), (2, 0), (3, -1), (4, -1)]) [(5, -1), (6, -1), (8, 0), (9, 0)]) [(1, 1)]) [(17, 0), (10, 2), (11, -1), (12, 0)]) [(13, -1), (14, -1), (15, -1), (16, -1), (18, 0)]) [(19, 0), (4, 1)]) [(27, -1), (20, 0)]) [(21, -1)]) [(22, 1), (23, 1), (24, -1), (25, -1), (26, -1)]) [(28, 0), (29, 0), (15, 2)]) [(18, 1)]) [(21, 0)]) := (u183_gm33 (gm32 (gm31 (gm30 (gm29 (gm28 (gm27 (gm26 (gm25 (gm24 (gm23 (gm22 (gm21 (gm20 (gm19 (gm18 (gm17 (gm16 (gm15 (gm14 (gm13 (gm12 (gm11 (g)))))))))))))))))))))))).trans P183_30
  have P177_31 : hI (gm33 (gm32 (gm31 (gm30 (gm29 (gm28 (gm27 (gm26 (gm25 (gm24 (gm23 (gm22 (gm21 (gm20 (gm19 (gm18 (gm17 (gm16 (gm15 (gm14 (gm13 (gm12 (gm11 (g)))))))))))))))))))))))) 177 = (upL (upL (upL (upL (upL (upL (upL (upL (upL (upL (hI g 177) [(44, -1), (46, -1)]) [(10, 1)]) [(12, 0)]) [(46, 0)]) [(10, 2)]) [(46, 1)]) [(44, 1), (46, -1)]) [(10, 3)]) [(46, 2)]) [(44, -1), (46, 1)]) := (u177_gm33 (gm32 (gm31 (gm30 (gm29 (gm28 (gm27 (gm26 (gm25 (gm24 (gm23 (gm22 (gm21 (gm20 (gm19 (gm18 (gm17 (gm16 (gm15 (gm14 (gm13 (gm12 (gm11 (g)))))))))))))))))))))))).trans (congrArg (fun z => upL z [(44, -1), (46, 1)]) P177_30)
  have Q32 := qm_42 (h := gm33 (gm32 (gm31 (gm30 (gm29 (gm28 (gm27 (gm26 (gm25 (gm24 (gm23 (gm22 (gm21 (gm20 (gm19 (gm18 (gm17 (gm16 (gm15 (gm14 (gm13 (gm12 (gm11 (g)))))))))))))))))))))))) F31.1 F31.2.1 F31.2.2.1 F31.2.2.2.1 F31.2.2.2.2.1 F31.2.2.2.2.2.1 F31.2.2.2.2.2.2.1 F31.2.2.2.2.2.2.2.1 F31.2.2.2.2.2.2.2.2 ((congrFun P177_31 10).trans (show (upL (upL (upL (upL (upL (upL (upL (upL (upL (upL (hI g 177) [(44, -1), (46, -1)]) [(10, 1)]) [(12, 0)]) [(46, 0)]) [(10, 2)]) [(46, 1)]) [(44, 1), (46, -1)]) [(10, 3)]) [(46, 2)]) [(44, -1), (46, 1)]) 10 = 3 from rfl))
  have Q33 := qm_43 (h := gm33 (gm32 (gm31 (gm30 (gm29 (gm28 (gm27 (gm26 (gm25 (gm24 (gm23 (gm22 (gm21 (gm20 (gm19 (gm18 (gm17 (gm16 (gm15 (gm14 (gm13 (gm12 (gm11 (g)))))))))))))))))))))))) F31.1 F31.2.1 F31.2.2.1 F31.2.2.2.1 F31.2.2.2.2.1 F31.2.2.2.2.2.1 F31.2.2.2.2.2.2.1 F31.2.2.2.2.2.2.2.1 F31.2.2.2.2.2.2.2.2 ((congrFun P177_31 10).trans (show (upL (upL (upL (upL (upL (upL (upL (upL (upL (upL (hI g 177) [(44, -1), (46, -1)]) [(10, 1)]) [(12, 0)]) [(46, 0)]) [(10, 2)]) [(46, 1)]) [(44, 1), (46, -1)]) [(10, 3)]) [(46, 2)]) [(44, -1), (46, 1)]) 10 = 3 from rfl))
  have Q34 := qm_44 (h := gm33 (gm32 (gm31 (gm30 (gm29 (gm28 (gm27 (gm26 (gm25 (gm24 (gm23 (gm22 (gm21 (gm20 (gm19 (gm18 (gm17 (gm16 (gm15 (gm14 (gm13 (gm12 (gm11 (g)))))))))))))))))))))))) F31.1 F31.2.1 F31.2.2.1 F31.2.2.2.1 F31.2.2.2.2.1 F31.2.2.2.2.2.1 F31.2.2.2.2.2.2.1 F31.2.2.2.2.2.2.2.1 F31.2.2.2.2.2.2.2.2 ((congrFun P183_31 0).trans (show (upL (upL (upL (upL (upL (upL (upL (upL (upL (upL (upL (upL (upL (hI g 183) [(7, -1), (0, 0)]) [(1, -1), (2, 0), (3, -1), (4, -1)]) [(5, -1), (6, -1), (8, 0), (9, 0)]) [(1, 1)]) [(17, 0), (10, 2), (11, -1), (12, 0)]) [(13, -1), (14, -1), (15, -1), (16, -1), (18, 0)]) [(19, 0), (4, 1)]) [(27, -1), (20, 0)]) [(21, -1)]) [(22, 1), (23, 1), (24, -1), (25, -1), (26, -1)]) [(28, 0), (29, 0), (15, 2)]) [(18, 1)]) [(21, 0)]) 0 = 0 from rfl))
  have Q35 := qm_45 (h := gm33 (gm32 (gm31 (gm30 (gm29 (gm28 (gm27 (gm26 (gm25 (gm24 (gm23 (gm22 (gm21 (gm20 (gm19 (gm18 (gm17 (gm16 (gm15 (gm14 (gm13 (gm12 (gm11 (g)))))))))))))))))))))))) F31.1 F31.2.1 F31.2.2.1 F31.2.2.2.1 F31.2.2.2.2.1 F31.2.2.2.2.2.1 F31.2.2.2.2.2.2.1 F31.2.2.2.2.2.2.2.1 F31.2.2.2.2.2.2.2.2 ((congrFun P177_31 10).trans (show (upL (upL (upL (upL (upL (upL (upL (upL (upL (upL (hI g 177) [(44, -1), (46, -1)]) [(10, 1)]) [(12, 0)]) [(46, 0)]) [(10, 2)]) [(46, 1)]) [(44, 1), (46, -1)]) [(10, 3)]) [(46, 2)]) [(44, -1), (46, 1)]) 10 = 3 from rfl))
  have Q36 := qm_46 (h := gm33 (gm32 (gm31 (gm30 (gm29 (gm28 (gm27 (gm26 (gm25 (gm24 (gm23 (gm22 (gm21 (gm20 (gm19 (gm18 (gm17 (gm16 (gm15 (gm14 (gm13 (gm12 (gm11 (g)))))))))))))))))))))))) F31.1 F31.2.1 F31.2.2.1 F31.2.2.2.1 F31.2.2.2.2.1 F31.2.2.2.2.2.1 F31.2.2.2.2.2.2.1 F31.2.2.2.2.2.2.2.1 F31.2.2.2.2.2.2.2.2 ((congrFun P183_31 10).trans (show (upL (upL (upL (upL (upL (upL (upL (upL (upL (upL (upL (upL (upL (hI g 183) [(7, -1), (0, 0)]) [(1, -1), (2, 0), (3, -1), (4, -1)]) [(5, -1), (6, -1), (8, 0), (9, 0)]) [(1, 1)]) [(17, 0), (10, 2), (11, -1), (12, 0)]) [(13, -1), (14, -1), (15, -1), (16, -1), (18, 0)]) [(19, 0), (4, 1)]) [(27, -1), (20, 0)]) [(21, -1)]) [(22, 1), (23, 1), (24, -1), (25, -1), (26, -1)]) [(28, 0), (29, 0), (15, 2)]) [(18, 1)]) [(21, 0)]) 10 = 2 from rfl))
  have Q37 := qm_47 (h := gm33 (gm32 (gm31 (gm30 (gm29 (gm28 (gm27 (gm26 (gm25 (gm24 (gm23 (gm22 (gm21 (gm20 (gm19 (gm18 (gm17 (gm16 (gm15 (gm14 (gm13 (gm12 (gm11 (g)))))))))))))))))))))))) F31.1 F31.2.1 F31.2.2.1 F31.2.2.2.1 F31.2.2.2.2.1 F31.2.2.2.2.2.1 F31.2.2.2.2.2.2.1 F31.2.2.2.2.2.2.2.1 F31.2.2.2.2.2.2.2.2 ((congrFun P177_31 10).trans (show (upL (upL (upL (upL (upL (upL (upL (upL (upL (upL (hI g 177) [(44, -1), (46, -1)]) [(10, 1)]) [(12, 0)]) [(46, 0)]) [(10, 2)]) [(46, 1)]) [(44, 1), (46, -1)]) [(10, 3)]) [(46, 2)]) [(44, -1), (46, 1)]) 10 = 3 from rfl))
  have Q38 := qm_48 (h := gm33 (gm32 (gm31 (gm30 (gm29 (gm28 (gm27 (gm26 (gm25 (gm24 (gm23 (gm22 (gm21 (gm20 (gm19 (gm18 (gm17 (gm16 (gm15 (gm14 (gm13 (gm12 (gm11 (g)))))))))))))))))))))))) F31.1 F31.2.1 F31.2.2.1 F31.2.2.2.1 F31.2.2.2.2.1 F31.2.2.2.2.2.1 F31.2.2.2.2.2.2.1 F31.2.2.2.2.2.2.2.1 F31.2.2.2.2.2.2.2.2 ((congrFun P183_31 20).trans (show (upL (upL (upL (upL (upL (upL (upL (upL (upL (upL (upL (upL (upL (hI g 183) [(7, -1), (0, 0)]) [(1, -1), (2, 0), (3, -1), (4, -1)]) [(5, -1), (6, -1), (8, 0), (9, 0)]) [(1, 1)]) [(17, 0), (10, 2), (11, -1), (12, 0)]) [(13, -1), (14, -1), (15, -1), (16, -1), (18, 0)]) [(19, 0), (4, 1)]) [(27, -1), (20, 0)]) [(21, -1)]) [(22, 1), (23, 1), (24, -1), (25, -1), (26, -1)]) [(28, 0), (29, 0), (15, 2)]) [(18, 1)]) [(21, 0)]) 20 = 0 from rfl))
  have Q39 := qm_49 (h := gm33 (gm32 (gm31 (gm30 (gm29 (gm28 (gm27 (gm26 (gm25 (gm24 (gm23 (gm22 (gm21 (gm20 (gm19 (gm18 (gm17 (gm16 (gm15 (gm14 (gm13 (gm12 (gm11 (g)))))))))))))))))))))))) F31.1 F31.2.1 F31.2.2.1 F31.2.2.2.1 F31.2.2.2.2.1 F31.2.2.2.2.2.1 F31.2.2.2.2.2.2.1 F31.2.2.2.2.2.2.2.1 F31.2.2.2.2.2.2.2.2 ((congrFun P177_31 10).trans (show (upL (upL (upL (upL (upL (upL (upL (upL (upL (upL (hI g 177) [(44, -1), (46, -1)]) [(10, 1)]) [(12, 0)]) [(46, 0)]) [(10, 2)]) [(46, 1)]) [(44, 1), (46, -1)]) [(10, 3)]) [(46, 2)]) [(44, -1), (46, 1)]) 10 = 3 from rfl))
  have Q40 := qm_50 (h := gm33 (gm32 (gm31 (gm30 (gm29 (gm28 (gm27 (gm26 (gm25 (gm24 (gm23 (gm22 (gm21 (gm20 (gm19 (gm18 (gm17 (gm16 (gm15 (gm14 (gm13 (gm12 (gm11 (g)))))))))))))))))))))))) F31.1 F31.2.1 F31.2.2.1 F31.2.2.2.1 F31.2.2.2.2.1 F31.2.2.2.2.2.1 F31.2.2.2.2.2.2.1 F31.2.2.2.2.2.2.2.1 F31.2.2.2.2.2.2.2.2 ((congrFun P177_31 10).trans (show (upL (upL (upL (upL (upL (upL (upL (upL (upL (upL (hI g 177) [(44, -1), (46, -1)]) [(10, 1)]) [(12, 0)]) [(46, 0)]) [(10, 2)]) [(46, 1)]) [(44, 1), (46, -1)]) [(10, 3)]) [(46, 2)]) [(44, -1), (46, 1)]) 10 = 3 from rfl)) ((congrFun P177_31 44).trans (show (upL (upL (upL (upL (upL (upL (upL (upL (upL (upL (hI g 177) [(44, -1), (46, -1)]) [(10, 1)]) [(12, 0)]) [(46, 0)]) [(10, 2)]) [(46, 1)]) [(44, 1), (46, -1)]) [(10, 3)]) [(46, 2)]) [(44, -1), (46, 1)]) 44 = -1 from rfl))
  have F40 := TF_gm34 F31
  have P183_40 : hI (gm34 (gm33 (gm32 (gm31 (gm30 (gm29 (gm28 (gm27 (gm26 (gm25 (gm24 (gm23 (gm22 (gm21 (gm20 (gm19 (gm18 (gm17 (gm16 (gm15 (gm14 (gm13 (gm12 (gm11 (g))))))))))))))))))))))))) 183 = (upL (upL (upL (upL (upL (upL (upL (upL (upL (upL (upL (upL (upL (upL (hI g 183) [(7, -1), (0, 0)]) [(1, -1), (2, 0), (3, -1), (4, -1)]) [(5, -1), (6, -1), (8, 0), (9, 0)]) [(1, 1)]) [(17, 0), (10, 2), (11, -1), (12, 0)]) [(13, -1), (14, -1), (15, -1), (16, -1), (18, 0)]) [(19, 0), (4, 1)]) [(27, -1), (20, 0)]) [(21, -1)]) [(22, 1), (23, 1), (24, -1), (25, -1), (26, -1)]) [(28, 0), (29, 0), (15, 2)]) [(18, 1)]) [(21, 0)]) [(37, 0), (30, 3), (31, -1), (32, 0)]) := (u183_gm34 (gm33 (gm32 (gm31 (gm30 (gm29 (gm28 (gm27 (gm26 (gm25 (gm24 (gm23 (gm22 (gm21 (gm20 (gm19 (gm18 (gm17 (gm16 (gm15 (gm14 (gm13 (gm12 (gm11 (g))))))))))))))))))))))))).trans (congrArg (fun z => upL z [(37, 0), (30, 3), (31, -1), (32, 0)]) P183_31)
  have P177_40 : hI (gm34 (gm33 (gm32 (gm31 (gm30 (gm29 (gm28 (gm27 (gm26 (gm25 (gm24 (gm23 (gm22 (gm21 (gm20 (gm19 (gm18 (gm17 (gm16 (gm15 (gm14 (gm13 (gm12 (gm11 (g))))))))))))))))))))))))) 177 = (upL (upL (upL (upL (upL (upL (upL (upL (upL (upL (upL (hI g 177) [(44, -1), (46, -1)]) [(10, 1)]) [(12, 0)]) [(46, 0)]) [(10, 2)]) [(46, 1)]) [(44, 1), (46, -1)]) [(10, 3)]) [(46, 2)]) [(44, -1), (46, 1)]) [(10, 4)]) := (u177_gm34 (gm33 (gm32 (gm31 (gm30 (gm29 (gm28 (gm27 (gm26 (gm25 (gm24 (gm23 (gm22 (gm21 (gm20 (gm19 (gm18 (gm17 (gm16 (gm15 (gm14 (gm13 (gm12 (gm11 (g))))))))))))))))))))))))).trans (congrArg (fun z => upL z [(10, 4)]) P177_31)
  have Q41 := qm_51 (h := gm34 (gm33 (gm32 (gm31 (gm30 (gm29 (gm28 (gm27 (gm26 (gm25 (gm24 (gm23 (gm22 (gm21 (gm20 (gm19 (gm18 (gm17 (gm16 (gm15 (gm14 (gm13 (gm12 (gm11 (g))))))))))))))))))))))))) F40.1 F40.2.1 F40.2.2.1 F40.2.2.2.1 F40.2.2.2.2.1 F40.2.2.2.2.2.1 F40.2.2.2.2.2.2.1 F40.2.2.2.2.2.2.2.1 F40.2.2.2.2.2.2.2.2 ((congrFun P177_40 44).trans (show (upL (upL (upL (upL (upL (upL (upL (upL (upL (upL (upL (hI g 177) [(44, -1), (46, -1)]) [(10, 1)]) [(12, 0)]) [(46, 0)]) [(10, 2)]) [(46, 1)]) [(44, 1), (46, -1)]) [(10, 3)]) [(46, 2)]) [(44, -1), (46, 1)]) [(10, 4)]) 44 = -1 from rfl))
  have F41 := TF_gm35 F40
  have P183_41 : hI (gm35 (gm34 (gm33 (gm32 (gm31 (gm30 (gm29 (gm28 (gm27 (gm26 (gm25 (gm24 (gm23 (gm22 (gm21 (gm20 (gm19 (gm18 (gm17 (gm16 (gm15 (gm14 (gm13 (gm12 (gm11 (g)))))))))))))))))))))))))) 183 = (upL (upL (upL (upL (upL (upL (upL (upL (upL (upL (upL (upL (upL (upL (upL (hI g 183) [(7, -1), (0, 0)]) [(1, -1), (2, 0), (3, -1), (4, -1)]) [(5, -1), (6, -1), (8, 0), (9, 0)]) [(1, 1)]) [(17, 0), (10, 2), (11, -1), (12, 0)]) [(13, -1), (14, -1), (15, -1), (16, -1), (18, 0)]) [(19, 0), (4, 1)]) [(27, -1), (20, 0)]) [(21, -1)]) [(22, 1), (23, 1), (24, -1), (25, -1), (26, -1)]) [(28, 0), (29, 0), (15, 2)]) [(18, 1)]) [(21, 0)]) [(37, 0), (30, 3), (31, -1), (32, 0)]) [(33, -1), (34, -1), (35, -1), (36, -1), (38, 0)]) := (u183_gm35 (gm34 (gm33 (gm32 (gm31 (gm30 (gm29 (gm28 (gm27 (gm26 (gm25 (gm24 (gm23 (gm22 (gm21 (gm20 (gm19 (gm18 (gm17 (gm16 (gm15 (gm14 (gm13 (gm12 (gm11 (g)))))))))))))))))))))))))).trans (congrArg (fun z => upL z [(33, -1), (34, -1), (35, -1), (36, -1), (38, 0)]) P183_40)
  have P177_41 : hI (gm35 (gm34 (gm33 (gm32 (gm31 (gm30 (gm29 (gm28 (gm27 (gm26 (gm25 (gm24 (gm23 (gm22 (gm21 (gm20 (gm19 (gm18 (gm17 (gm16 (gm15 (gm14 (gm13 (gm12 (gm11 (g)))))))))))))))))))))))))) 177 = (upL (upL (upL (upL (upL (upL (upL (upL (upL (upL (upL (hI g 177) [(44, -1), (46, -1)]) [(10, 1)]) [(12, 0)]) [(46, 0)]) [(10, 2)]) [(46, 1)]) [(44, 1), (46, -1)]) [(10, 3)]) [(46, 2)]) [(44, -1), (46, 1)]) [(10, 4)]) := (u177_gm35 (gm34 (gm33 (gm32 (gm31 (gm30 (gm29 (gm28 (gm27 (gm26 (gm25 (gm24 (gm23 (gm22 (gm21 (gm20 (gm19 (gm18 (gm17 (gm16 (gm15 (gm14 (gm13 (gm12 (gm11 (g)))))))))))))))))))))))))).trans P177_40
  have Q42 := qm_52 (h := gm35 (gm34 (gm33 (gm32 (gm31 (gm30 (gm29 (gm28 (gm27 (gm26 (gm25 (gm24 (gm23 (gm22 (gm21 (gm20 (gm19 (gm18 (gm17 (gm16 (gm15 (gm14 (gm13 (gm12 (gm11 (g)))))))))))))))))))))))))) F41.1 F41.2.1 F41.2.2.1 F41.2.2.2.1 F41.2.2.2.2.1 F41.2.2.2.2.2.1 F41.2.2.2.2.2.2.1 F41.2.2.2.2.2.2.2.1 F41.2.2.2.2.2.2.2.2 ((congrFun P177_41 46).trans (show (upL (upL (upL (upL (upL (upL (upL (upL (upL (upL (upL (hI g 177) [(44, -1), (46, -1)]) [(10, 1)]) [(12, 0)]) [(46, 0)]) [(10, 2)]) [(46, 1)]) [(44, 1), (46, -1)]) [(10, 3)]) [(46, 2)]) [(44, -1), (46, 1)]) [(10, 4)]) 46 = 1 from rfl)) ((congrFun P177_41 44).trans (show (upL (upL (upL (upL (upL (upL (upL (upL (upL (upL (upL (hI g 177) [(44, -1), (46, -1)]) [(10, 1)]) [(12, 0)]) [(46, 0)]) [(10, 2)]) [(46, 1)]) [(44, 1), (46, -1)]) [(10, 3)]) [(46, 2)]) [(44, -1), (46, 1)]) [(10, 4)]) 44 = -1 from rfl))
  have F42 := TF_gm36 F41
  have P183_42 : hI (gm36 (gm35 (gm34 (gm33 (gm32 (gm31 (gm30 (gm29 (gm28 (gm27 (gm26 (gm25 (gm24 (gm23 (gm22 (gm21 (gm20 (gm19 (gm18 (gm17 (gm16 (gm15 (gm14 (gm13 (gm12 (gm11 (g))))))))))))))))))))))))))) 183 = (upL (upL (upL (upL (upL (upL (upL (upL (upL (upL (upL (upL (upL (upL (upL (upL (hI g 183) [(7, -1), (0, 0)]) [(1, -1), (2, 0), (3, -1), (4, -1)]) [(5, -1), (6, -1), (8, 0), (9, 0)]) [(1, 1)]) [(17, 0), (10, 2), (11, -1), (12, 0)]) [(13, -1), (14, -1), (15, -1), (16, -1), (18, 0)]) [(19, 0), (4, 1)]) [(27, -1), (20, 0)]) [(21, -1)]) [(22, 1), (23, 1), (24, -1), (25, -1), (26, -1)]) [(28, 0), (29, 0), (15, 2)]) [(18, 1)]) [(21, 0)]) [(37, 0), (30, 3), (31, -1), (32, 0)]) [(33, -1), (34, -1), (35, -1), (36, -1), (38, 0)]) [(39, 0), (14, 3)]) := (u183_gm36 (gm35 (gm34 (gm33 (gm32 (gm31 (gm30 (gm29 (gm28 (gm27 (gm26 (gm25 (gm24 (gm23 (gm22 (gm21 (gm20 (gm19 (gm18 (gm17 (gm16 (gm15 (gm14 (gm13 (gm12 (gm11 (g))))))))))))))))))))))))))).trans (congrArg (fun z => upL z [(39, 0), (14, 3)]) P183_41)
  have P177_42 : hI (gm36 (gm35 (gm34 (gm33 (gm32 (gm31 (gm30 (gm29 (gm28 (gm27 (gm26 (gm25 (gm24 (gm23 (gm22 (gm21 (gm20 (gm19 (gm18 (gm17 (gm16 (gm15 (gm14 (gm13 (gm12 (gm11 (g))))))))))))))))))))))))))) 177 = (upL (upL (upL (upL (upL (upL (upL (upL (upL (upL (upL (hI g 177) [(44, -1), (46, -1)]) [(10, 1)]) [(12, 0)]) [(46, 0)]) [(10, 2)]) [(46, 1)]) [(44, 1), (46, -1)]) [(10, 3)]) [(46, 2)]) [(44, -1), (46, 1)]) [(10, 4)]) := (u177_gm36 (gm35 (gm34 (gm33 (gm32 (gm31 (gm30 (gm29 (gm28 (gm27 (gm26 (gm25 (gm24 (gm23 (gm22 (gm21 (gm20 (gm19 (gm18 (gm17 (gm16 (gm15 (gm14 (gm13 (gm12 (gm11 (g))))))))))))))))))))))))))).trans P177_41
  have Q43 := qm_53 (h := gm36 (gm35 (gm34 (gm33 (gm32 (gm31 (gm30 (gm29 (gm28 (gm27 (gm26 (gm25 (gm24 (gm23 (gm22 (gm21 (gm20 (gm19 (gm18 (gm17 (gm16 (gm15 (gm14 (gm13 (gm12 (gm11 (g))))))))))))))))))))))))))) F42.1 F42.2.1 F42.2.2.1 F42.2.2.2.1 F42.2.2.2.2.1 F42.2.2.2.2.2.1 F42.2.2.2.2.2.2.1 F42.2.2.2.2.2.2.2.1 F42.2.2.2.2.2.2.2.2
  have F43 := TF_gm37 F42
  have P183_43 : hI (gm37 (gm36 (gm35 (gm34 (gm33 (gm32 (gm31 (gm30 (gm29 (gm28 (gm27 (gm26 (gm25 (gm24 (gm23 (gm22 (gm21 (gm20 (gm19 (gm18 (gm17 (gm16 (gm15 (gm14 (gm13 (gm12 (gm11 (g)))))))))))))))))))))))))))) 183 = (upL (upL (upL (upL (upL (upL (upL (upL (upL (upL (upL (upL (upL (upL (upL (upL (hI g 183) [(7, -1), (0, 0)]) [(1, -1), (2, 0), (3, -1), (4, -1)]) [(5, -1), (6, -1), (8, 0), (9, 0)]) [(1, 1)]) [(17, 0), (10, 2), (11, -1), (12, 0)]) [(13, -1), (14, -1), (15, -1), (16, -1), (18, 0)]) [(19, 0), (4, 1)]) [(27, -1), (20, 0)]) [(21, -1)]) [(22, 1), (23, 1), (24, -1), (25, -1), (26, -1)]) [(28, 0), (29, 0), (15, 2)]) [(18, 1)]) [(21, 0)]) [(37, 0), (30, 3), (31, -1), (32, 0)]) [(33, -1), (34, -1), (35, -1), (36, -1), (38, 0)]) [(39, 0), (14, 3)]) := (u183_gm37 (gm36 (gm35 (gm34 (gm33 (gm32 (gm31 (gm30 (gm29 (gm28 (gm27 (gm26 (gm25 (gm24 (gm23 (gm22 (gm21 (gm20 (gm19 (gm18 (gm17 (gm16 (gm15 (gm14 (gm13 (gm12 (gm11 (g)))))))))))))))))))))))))))).trans P183_42
  have P177_43 : hI (gm37 (gm36 (gm35 (gm34 (gm33 (gm32 (gm31 (gm30 (gm29 (gm28 (gm27 (gm26 (gm25 (gm24 (gm23 (gm22 (gm21 (gm20 (gm19 (gm18 (gm17 (gm16 (gm15 (gm14 (gm13 (gm12 (gm11 (g)))))))))))))))))))))))))))) 177 = (upL (upL (upL (upL (upL (upL (upL (upL (upL (upL (upL (upL (hI g 177) [(44, -1), (46, -1)]) [(10, 1)]) [(12, 0)]) [(46, 0)]) [(10, 2)]) [(46, 1)]) [(44, 1), (46, -1)]) [(10, 3)]) [(46, 2)]) [(44, -1), (46, 1)]) [(10, 4)]) [(46, 3)]) := (u177_gm37 (gm36 (gm35 (gm34 (gm33 (gm32 (gm31 (gm30 (gm29 (gm28 (gm27 (gm26 (gm25 (gm24 (gm23 (gm22 (gm21 (gm20 (gm19 (gm18 (gm17 (gm16 (gm15 (gm14 (gm13 (gm12 (gm11 (g)))))))))))))))))))))))))))).trans (congrArg (fun z => upL z [(46, 3)]) P177_42)
  have Q44 := qm_54 (h := gm37 (gm36 (gm35 (gm34 (gm33 (gm32 (gm31 (gm30 (gm29 (gm28 (gm27 (gm26 (gm25 (gm24 (gm23 (gm22 (gm21 (gm20 (gm19 (gm18 (gm17 (gm16 (gm15 (gm14 (gm13 (gm12 (gm11 (g)))))))))))))))))))))))))))) F43.1 F43.2.1 F43.2.2.1 F43.2.2.2.1 F43.2.2.2.2.1 F43.2.2.2.2.2.1 F43.2.2.2.2.2.2.1 F43.2.2.2.2.2.2.2.1 F43.2.2.2.2.2.2.2.2
  exact (((((((((((((((((Q1).trans (congrArg (zBack zY 203 799 802 [some (zR (some 177)), none] []) (Q2))).trans Q3).trans Q4).trans (congrArg (zBack zY 203 882 885 [some (zR (some 177)), none] []) ((((Q5).trans Q6).trans Q7).trans Q8))).trans Q9).trans (congrArg (zBack zY 203 911 914 [some (zR (some 177)), some (zI 0)] []) ((((((Q10).trans (congrArg (zBack zY 205 30 33 [some (zR (some 177)), some (zI 2), some (zI 1), some (zI 10)] [zI 17, zR (some 183)]) (((Q11).trans (congrArg (zBack zY 206 16 19 [some (zR (some 177)), some (zI 2), some (zI 0), some (zI 0)] [zI 0]) (Q12))).trans Q13))).trans Q14).trans Q15).trans Q16).trans Q17))).trans Q18).trans (congrArg (zBack zY 203 921 924 [some (zR (some 177)), some (zI 1)] []) (Q19))).trans Q20).trans (congrArg (zBack zY 203 931 934 [some (zR (some 177)), some (zI 1)] []) (Q21))).trans Q22).trans (congrArg (zBack zY 203 964 967 [some (zR (some 177)), some (zI 1)] []) ((((((Q23).trans Q24).trans (congrArg (zBack zY 205 91 94 [some (zR (some 177)), some (zI 0), some (zI 2), some (zI 20)] [zI 22, zR (some 183)]) (Q25))).trans Q26).trans Q27).trans Q28))).trans Q29).trans (congrArg (zBack zY 203 986 989 [some (zR (some 177)), some (zI 2)] []) (Q30))).trans Q31).trans (congrArg (zBack zY 203 1001 1004 [some (zR (some 177)), some (zI 2)] []) ((((((Q32).trans (congrArg (zBack zY 205 30 33 [some (zR (some 177)), some (zI 3), some (zI 3), some (zI 30)] [zI 37, zR (some 183)]) (((((((Q33).trans (congrArg (zBack zY 206 16 19 [some (zR (some 177)), some (zI 3), some (zI 0), some (zI 0)] [zI 0]) (Q34))).trans Q35).trans (congrArg (zBack zY 206 16 19 [some (zR (some 177)), some (zI 3), some (zI 0), some (zI 1)] [zI 0]) (Q36))).trans Q37).trans (congrArg (zBack zY 206 16 19 [some (zR (some 177)), some (zI 3), some (zI 0), some (zI 2)] [zI 0]) (Q38))).trans Q39))).trans Q40).trans Q41).trans Q42).trans Q43))).trans Q44
abbrev W7 : Nat → Nat → Prop := fun a _ => 177 ≤ a ∧ a < 197
theorem Gw_tail (g : zH) : Gw W7 0 0 g (gmF g) := by
  have G0 := Gw_r W7 g
  have G1 : Gw W7 0 0 g (gm11 (g)) := Gw_sI (Gw_sI (Gw_sI (Gw_sI (G0) _ (fun _ => by decide)) _ (fun _ => by decide)) _ (fun _ => by decide)) _ (fun _ => by decide)
  have G2 : Gw W7 0 0 g (gm12 (gm11 (g))) := Gw_sI (Gw_sI (Gw_sI (Gw_sI (Gw_sI (Gw_sI (Gw_sI (G1) _ (fun _ => by decide)) _ (fun _ => by decide)) _ (fun _ => by decide)) _ (fun _ => by decide)) _ (fun _ => by decide)) _ (fun _ => by decide)) _ (fun _ => by decide)
  have G3 : Gw W7 0 0 g (gm13 (gm12 (gm11 (g)))) := Gw_sI (Gw_sI (Gw_sI (G2) _ (fun _ => by decide)) _ (fun _ => by decide)) _ (fun _ => by decide)
  have G4 : Gw W7 0 0 g (gm14 (gm13 (gm12 (gm11 (g))))) := Gw_sI (Gw_sI (Gw_sI (G3) _ (fun _ => by decide)) _ (fun _ => by decide)) _ (fun _ => by decide)
  have G5 : Gw W7 0 0 g (gm15 (gm14 (gm13 (gm12 (gm11 (g)))))) := Gw_sI (Gw_sI (Gw_sI (Gw_sI (G4) _ (fun _ => by decide)) _ (fun _ => by decide)) _ (fun _ => by decide)) _ (fun _ => by decide)
  have G6 : Gw W7 0 0 g (gm16 (gm15 (gm14 (gm13 (gm12 (gm11 (g))))))) := Gw_sI (Gw_sI (Gw_sI (Gw_sI (Gw_sI (G5) _ (fun _ => by decide)) _ (fun _ => by decide)) _ (fun _ => by decide)) _ (fun _ => by decide)) _ (fun _ => by decide)
  have G7 : Gw W7 0 0 g (gm17 (gm16 (gm15 (gm14 (gm13 (gm12 (gm11 (g)))))))) := Gw_sI (Gw_sI (Gw_sI (G6) _ (fun _ => by decide)) _ (fun _ => by decide)) _ (fun _ => by decide)
  have G8 : Gw W7 0 0 g (gm18 (gm17 (gm16 (gm15 (gm14 (gm13 (gm12 (gm11 (g))))))))) := Gw_sI (Gw_sI (Gw_sI (G7) _ (fun _ => by decide)) _ (fun _ => by decide)) _ (fun _ => by decide)
  have G9 : Gw W7 0 0 g (gm19 (gm18 (gm17 (gm16 (gm15 (gm14 (gm13 (gm12 (gm11 (g)))))))))) := Gw_sI (Gw_sI (Gw_sI (Gw_sI (Gw_sI (G8) _ (fun _ => by decide)) _ (fun _ => by decide)) _ (fun _ => by decide)) _ (fun _ => by decide)) _ (fun _ => by decide)
  have G10 : Gw W7 0 0 g (gm20 (gm19 (gm18 (gm17 (gm16 (gm15 (gm14 (gm13 (gm12 (gm11 (g))))))))))) := Gw_sI (Gw_sI (Gw_sI (Gw_sI (Gw_sI (G9) _ (fun _ => by decide)) _ (fun _ => by decide)) _ (fun _ => by decide)) _ (fun _ => by decide)) _ (fun _ => by decide)
  have G11 : Gw W7 0 0 g (gm21 (gm20 (gm19 (gm18 (gm17 (gm16 (gm15 (gm14 (gm13 (gm12 (gm11 (g)))))))))))) := Gw_sI (Gw_sI (Gw_sI (G10) _ (fun _ => by decide)) _ (fun _ => by decide)) _ (fun _ => by decide)
  have G12 : Gw W7 0 0 g (gm22 (gm21 (gm20 (gm19 (gm18 (gm17 (gm16 (gm15 (gm14 (gm13 (gm12 (gm11 (g))))))))))))) := Gw_sI (Gw_sI (G11) _ (fun _ => by decide)) _ (fun _ => by decide)
  have G13 : Gw W7 0 0 g (gm23 (gm22 (gm21 (gm20 (gm19 (gm18 (gm17 (gm16 (gm15 (gm14 (gm13 (gm12 (gm11 (g)))))))))))))) := Gw_sI (Gw_sI (Gw_sI (Gw_sI (G12) _ (fun _ => by decide)) _ (fun _ => by decide)) _ (fun _ => by decide)) _ (fun _ => by decide)
  have G14 : Gw W7 0 0 g (gm24 (gm23 (gm22 (gm21 (gm20 (gm19 (gm18 (gm17 (gm16 (gm15 (gm14 (gm13 (gm12 (gm11 (g))))))))))))))) := Gw_sI (Gw_sI (Gw_sI (Gw_sI (G13) _ (fun _ => by decide)) _ (fun _ => by decide)) _ (fun _ => by decide)) _ (fun _ => by decide)
  have G15 : Gw W7 0 0 g (gm25 (gm24 (gm23 (gm22 (gm21 (gm20 (gm19 (gm18 (gm17 (gm16 (gm15 (gm14 (gm13 (gm12 (gm11 (g)))))))))))))))) := Gw_sI (Gw_sI (Gw_sI (Gw_sI (G14) _ (fun _ => by decide)) _ (fun _ => by decide)) _ (fun _ => by decide)) _ (fun _ => by decide)
  have G16 : Gw W7 0 0 g (gm26 (gm25 (gm24 (gm23 (gm22 (gm21 (gm20 (gm19 (gm18 (gm17 (gm16 (gm15 (gm14 (gm13 (gm12 (gm11 (g))))))))))))))))) := Gw_sI (Gw_sI (Gw_sI (G15) _ (fun _ => by decide)) _ (fun _ => by decide)) _ (fun _ => by decide)
  have G17 : Gw W7 0 0 g (gm27 (gm26 (gm25 (gm24 (gm23 (gm22 (gm21 (gm20 (gm19 (gm18 (gm17 (gm16 (gm15 (gm14 (gm13 (gm12 (gm11 (g)))))))))))))))))) := Gw_sI (G16) _ (fun _ => by decide)
  have G18 : Gw W7 0 0 g (gm28 (gm27 (gm26 (gm25 (gm24 (gm23 (gm22 (gm21 (gm20 (gm19 (gm18 (gm17 (gm16 (gm15 (gm14 (gm13 (gm12 (gm11 (g))))))))))))))))))) := Gw_sI (Gw_sI (Gw_sI (Gw_sI (Gw_sI (G17) _ (fun _ => by decide)) _ (fun _ => by decide)) _ (fun _ => by decide)) _ (fun _ => by decide)) _ (fun _ => by decide)
  have G19 : Gw W7 0 0 g (gm29 (gm28 (gm27 (gm26 (gm25 (gm24 (gm23 (gm22 (gm21 (gm20 (gm19 (gm18 (gm17 (gm16 (gm15 (gm14 (gm13 (gm12 (gm11 (g)))))))))))))))))))) := Gw_sI (Gw_sI (Gw_sI (G18) _ (fun _ => by decide)) _ (fun _ => by decide)) _ (fun _ => by decide)
  have G20 : Gw W7 0 0 g (gm30 (gm29 (gm28 (gm27 (gm26 (gm25 (gm24 (gm23 (gm22 (gm21 (gm20 (gm19 (gm18 (gm17 (gm16 (gm15 (gm14 (gm13 (gm12 (gm11 (g))))))))))))))))))))) := Gw_sI (Gw_sI (Gw_sI (Gw_sI (G19) _ (fun _ => by decide)) _ (fun _ => by decide)) _ (fun _ => by decide)) _ (fun _ => by decide)
  have G21 : Gw W7 0 0 g (gm31 (gm30 (gm29 (gm28 (gm27 (gm26 (gm25 (gm24 (gm23 (gm22 (gm21 (gm20 (gm19 (gm18 (gm17 (gm16 (gm15 (gm14 (gm13 (gm12 (gm11 (g)))))))))))))))))))))) := Gw_sI (G20) _ (fun _ => by decide)
  have G22 : Gw W7 0 0 g (gm32 (gm31 (gm30 (gm29 (gm28 (gm27 (gm26 (gm25 (gm24 (gm23 (gm22 (gm21 (gm20 (gm19 (gm18 (gm17 (gm16 (gm15 (gm14 (gm13 (gm12 (gm11 (g))))))))))))))))))))))) := Gw_sI (Gw_sI (Gw_sI (Gw_sI (G21) _ (fun _ => by decide)) _ (fun _ => by decide)) _ (fun _ => by decide)) _ (fun _ => by decide)
  have G23 : Gw W7 0 0 g (gm33 (gm32 (gm31 (gm30 (gm29 (gm28 (gm27 (gm26 (gm25 (gm24 (gm23 (gm22 (gm21 (gm20 (gm19 (gm18 (gm17 (gm16 (gm15 (gm14 (gm13 (gm12 (gm11 (g)))))))))))))))))))))))) := Gw_sI (Gw_sI (G22) _ (fun _ => by decide)) _ (fun _ => by decide)
  have G24 : Gw W7 0 0 g (gm34 (gm33 (gm32 (gm31 (gm30 (gm29 (gm28 (gm27 (gm26 (gm25 (gm24 (gm23 (gm22 (gm21 (gm20 (gm19 (gm18 (gm17 (gm16 (gm15 (gm14 (gm13 (gm12 (gm11 (g))))))))))))))))))))))))) := Gw_sI (Gw_sI (Gw_sI (Gw_sI (Gw_sI (G23) _ (fun _ => by decide)) _ (fun _ => by decide)) _ (fun _ => by decide)) _ (fun _ => by decide)) _ (fun _ => by decide)
  have G25 : Gw W7 0 0 g (gm35 (gm34 (gm33 (gm32 (gm31 (gm30 (gm29 (gm28 (gm27 (gm26 (gm25 (gm24 (gm23 (gm22 (gm21 (gm20 (gm19 (gm18 (gm17 (gm16 (gm15 (gm14 (gm13 (gm12 (gm11 (g)))))))))))))))))))))))))) := Gw_sI (Gw_sI (Gw_sI (Gw_sI (Gw_sI (G24) _ (fun _ => by decide)) _ (fun _ => by decide)) _ (fun _ => by decide)) _ (fun _ => by decide)) _ (fun _ => by decide)
  have G26 : Gw W7 0 0 g (gm36 (gm35 (gm34 (gm33 (gm32 (gm31 (gm30 (gm29 (gm28 (gm27 (gm26 (gm25 (gm24 (gm23 (gm22 (gm21 (gm20 (gm19 (gm18 (gm17 (gm16 (gm15 (gm14 (gm13 (gm12 (gm11 (g))))))))))))))))))))))))))) := Gw_sI (Gw_sI (Gw_sI (G25) _ (fun _ => by decide)) _ (fun _ => by decide)) _ (fun _ => by decide)
  have G27 : Gw W7 0 0 g (gm37 (gm36 (gm35 (gm34 (gm33 (gm32 (gm31 (gm30 (gm29 (gm28 (gm27 (gm26 (gm25 (gm24 (gm23 (gm22 (gm21 (gm20 (gm19 (gm18 (gm17 (gm16 (gm15 (gm14 (gm13 (gm12 (gm11 (g)))))))))))))))))))))))))))) := Gw_sI (Gw_sI (G26) _ (fun _ => by decide)) _ (fun _ => by decide)
  exact G27
theorem sN_F (g : zH) : hN (gmF g) = hN g := by
  unfold gmF
  rw [sN_gm37, sN_gm36, sN_gm35, sN_gm34, sN_gm33, sN_gm32, sN_gm31, sN_gm30, sN_gm29, sN_gm28, sN_gm27, sN_gm26, sN_gm25, sN_gm24, sN_gm23, sN_gm22, sN_gm21, sN_gm20, sN_gm19, sN_gm18, sN_gm17, sN_gm16, sN_gm15, sN_gm14, sN_gm13, sN_gm12, sN_gm11]
theorem sT_F (g : zH) : hT (gmF g) = hT g := by
  unfold gmF
  rw [sT_gm37, sT_gm36, sT_gm35, sT_gm34, sT_gm33, sT_gm32, sT_gm31, sT_gm30, sT_gm29, sT_gm28, sT_gm27, sT_gm26, sT_gm25, sT_gm24, sT_gm23, sT_gm22, sT_gm21, sT_gm20, sT_gm19, sT_gm18, sT_gm17, sT_gm16, sT_gm15, sT_gm14, sT_gm13, sT_gm12, sT_gm11]
theorem sL_F (g : zH) : hL (gmF g) = hL g := by
  unfold gmF
  rw [sL_gm37, sL_gm36, sL_gm35, sL_gm34, sL_gm33, sL_gm32, sL_gm31, sL_gm30, sL_gm29, sL_gm28, sL_gm27, sL_gm26, sL_gm25, sL_gm24, sL_gm23, sL_gm22, sL_gm21, sL_gm20, sL_gm19, sL_gm18, sL_gm17, sL_gm16, sL_gm15, sL_gm14, sL_gm13, sL_gm12, sL_gm11]
theorem sR_F (g : zH) : hR (gmF g) = hR g := by
  unfold gmF
  rw [sR_gm37, sR_gm36, sR_gm35, sR_gm34, sR_gm33, sR_gm32, sR_gm31, sR_gm30, sR_gm29, sR_gm28, sR_gm27, sR_gm26, sR_gm25, sR_gm24, sR_gm23, sR_gm22, sR_gm21, sR_gm20, sR_gm19, sR_gm18, sR_gm17, sR_gm16, sR_gm15, sR_gm14, sR_gm13, sR_gm12, sR_gm11]
theorem tl_183 (g : zH) : hI (gmF g) 183 = upL (hI g 183) mRls := by
  unfold gmF
  rw [u183_gm37, u183_gm36, u183_gm35, u183_gm34, u183_gm33, u183_gm32, u183_gm31, u183_gm30, u183_gm29, u183_gm28, u183_gm27, u183_gm26, u183_gm25, u183_gm24, u183_gm23, u183_gm22, u183_gm21, u183_gm20, u183_gm19, u183_gm18, u183_gm17, u183_gm16, u183_gm15, u183_gm14, u183_gm13, u183_gm12, u183_gm11]
  rw [upL_app, upL_app, upL_app, upL_app, upL_app, upL_app, upL_app, upL_app, upL_app, upL_app, upL_app, upL_app, upL_app, upL_app, upL_app]
  exact congrArg (upL _) (show _ = mRls from rfl)
theorem tl_179 (g : zH) : hI (gmF g) 179 = upL (hI g 179) mNls := by
  unfold gmF
  rw [u179_gm37, u179_gm36, u179_gm35, u179_gm34, u179_gm33, u179_gm32, u179_gm31, u179_gm30, u179_gm29, u179_gm28, u179_gm27, u179_gm26, u179_gm25, u179_gm24, u179_gm23, u179_gm22, u179_gm21, u179_gm20, u179_gm19, u179_gm18, u179_gm17, u179_gm16, u179_gm15, u179_gm14, u179_gm13, u179_gm12, u179_gm11]
  rw [upL_app, upL_app, upL_app, upL_app, upL_app, upL_app, upL_app, upL_app, upL_app, upL_app, upL_app, upL_app, upL_app]
  exact congrArg (upL _) (show _ = mNls from rfl)
theorem tl_177 (g : zH) : hI (gmF g) 177 = upL (hI g 177) mFls := by
  unfold gmF
  rw [u177_gm37, u177_gm36, u177_gm35, u177_gm34, u177_gm33, u177_gm32, u177_gm31, u177_gm30, u177_gm29, u177_gm28, u177_gm27, u177_gm26, u177_gm25, u177_gm24, u177_gm23, u177_gm22, u177_gm21, u177_gm20, u177_gm19, u177_gm18, u177_gm17, u177_gm16, u177_gm15, u177_gm14, u177_gm13, u177_gm12, u177_gm11]
  rw [upL_app, upL_app, upL_app, upL_app, upL_app, upL_app, upL_app, upL_app, upL_app, upL_app, upL_app]
  exact congrArg (upL _) (show _ = mFls from rfl)

theorem tl_n (g : zH) {a : Nat} (h1 : a ≠ 177) (h2 : a ≠ 179) (h3 : a ≠ 183) : hI (gmF g) a = hI g a := by
  unfold gmF
  rw [un_gm37 _ h1 h2 h3, un_gm36 _ h1 h2 h3, un_gm35 _ h1 h2 h3, un_gm34 _ h1 h2 h3, un_gm33 _ h1 h2 h3, un_gm32 _ h1 h2 h3, un_gm31 _ h1 h2 h3, un_gm30 _ h1 h2 h3, un_gm29 _ h1 h2 h3, un_gm28 _ h1 h2 h3, un_gm27 _ h1 h2 h3, un_gm26 _ h1 h2 h3, un_gm25 _ h1 h2 h3, un_gm24 _ h1 h2 h3, un_gm23 _ h1 h2 h3, un_gm22 _ h1 h2 h3, un_gm21 _ h1 h2 h3, un_gm20 _ h1 h2 h3, un_gm19 _ h1 h2 h3, un_gm18 _ h1 h2 h3, un_gm17 _ h1 h2 h3, un_gm16 _ h1 h2 h3, un_gm15 _ h1 h2 h3, un_gm14 _ h1 h2 h3, un_gm13 _ h1 h2 h3, un_gm12 _ h1 h2 h3, un_gm11 _ h1 h2 h3]
/-- a new reference -/
theorem c_newM {h : zH} (hn : hN h = 177) : ∃ h2, zC 203 [zR (some 177)] (hNew h 12 47) = some (.inl none, h2) ∧ hN h2 = 197 ∧ KM h2 ∧ hI h2 177 = upL mF0 mFls ∧ hI h2 179 = upL (fun _ => 0) mNls ∧ hI h2 183 = upL (fun _ => 0) mRls ∧ (hI h2 181 = fun _ => 0) ∧ (hI h2 182 = fun _ => 0) ∧ (hI h2 185 = fun _ => 0) ∧ (hI h2 186 = fun _ => 0) ∧ Gw W0 20 41500 h h2 := by
  obtain ⟨E1, C1⟩ := MH_1 hn
  generalize gm5 (gm4 (gm3 (gm2 (gm1 (hNew h 12 47))))) = g1 at *
  obtain ⟨E2, C2⟩ := MH_19 C1
  generalize gm10 (gm9 (gm8 (gm7 (gm6 (g1))))) = g at *
  have K := MH_K C2
  obtain ⟨a1, n0, a3, a4, a5, a6, a7, a8⟩ := C2
  have z183 := a7 183 (by decide) (by decide)
  have gf : ∀ k v, mF0 k = v → hI g 177 k = v := fun k v q => by rw [a5]; exact q
  have E3 := q_M_tail (g := g) ⟨n0, (a3 177 (by decide) (by decide)).1, (a3 177 (by decide) (by decide)).2, (a3 179 (by decide) (by decide)).1, (a3 179 (by decide) (by decide)).2, (a3 183 (by decide) (by decide)).1, (a3 183 (by decide) (by decide)).2, a4 1 (by decide), a4 5 (by decide)⟩ z183 (gf 10 (0) rfl) (gf 45 (0) rfl)
  have G3 := Gw_tail g
  have z9 : zVB = 10000000 := rfl
  refine ⟨gmF g, (E1.trans E2).trans E3, (sN_F g).trans n0, ?_, ?_, ?_, ?_, ?_, ?_, ?_, ?_, Gw_m (Gw_t a8 G3 (fun a k z w => by have : 177 ≤ a ∧ a < 197 := w; omega)) (fun _ _ _ z => z) (by omega) (by omega)⟩
  · refine ⟨by rw [sN_F]; exact K.1, fun a e => by rw [sT_F, sL_F]; exact K.2.1 a e, fun a k b e => by rw [sR_F]; exact K.2.2.1 a k b e, fun j => by rw [tl_n g (by decide) (by decide) (by decide)]; exact K.2.2.2 j⟩
  · rw [tl_177, a5]
  · rw [tl_179, a7 179 (by decide) (by decide)]
  · rw [tl_183, z183]
  · rw [tl_n g (by decide) (by decide) (by decide)]; exact a7 181 (by decide) (by decide)
  · rw [tl_n g (by decide) (by decide) (by decide)]; exact a7 182 (by decide) (by decide)
  · rw [tl_n g (by decide) (by decide) (by decide)]; exact a7 185 (by decide) (by decide)
  · rw [tl_n g (by decide) (by decide) (by decide)]; exact a7 186 (by decide) (by decide)
