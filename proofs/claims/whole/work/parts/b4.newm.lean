/-! The start: a new reference. -/
def upL (f : Nat → Int) : List (Nat × Int) → Nat → Int
  | [] => f
  | (k, v) :: l => upL (upN f k v) l
theorem upL_o {m : Nat} {k : Nat} (hk : m ≤ k) : ∀ (l : List (Nat × Int)) (f : Nat → Int), (∀ x, x ∈ l → x.1 < m) → upL f l k = f k
  | [], _, _ => rfl
  | (a, v) :: l, f, hl => by
    rw [upL, upL_o hk l _ fun x hx => hl x (List.mem_cons_of_mem _ hx)]
    have := hl (a, v) (List.mem_cons_self ..)
    unfold upN
    exact if_neg (by have : a < m := this; omega)
def mF (q : Nat) : Nat := [0, 2, 3, 4, 6, 8, 9, 14, 16, 20, 22, 23, 24, 25, 32, 33, 34, 35, 43].getD q 0
theorem mF_ne {q m : Nat} (hm : m < 19) (hq : q < m) : mF q ≠ mF m := by
  have : ∀ (m : Fin 19) (q : Fin 19), q.val < m.val → mF q.val ≠ mF m.val := by decide
  exact this ⟨m, hm⟩ ⟨q, by omega⟩ hq
/-- the reference, with m of its rows made -/
def MH (m : Nat) (F : Nat → Int) (e : Nat) (h0 h : zH) : Prop := hN h0 = 177 ∧ hN h = 178 + m ∧ (∀ a, 177 ≤ a → a < 178 + m → hT h a = mT a ∧ hL h a = mL a) ∧ (∀ q, q < m → hR h 177 (mF q) = some (178 + q)) ∧ hI h 177 = F ∧ (∀ j, hI h 178 j = mKeys.getD j 0) ∧ (∀ a, 178 < a → a < 178 + m → hI h a = fun _ => 0) ∧ Gw W0 (1 + m) e h0 h
section MHS
variable {m e : Nat} {F : Nat → Int} {h0 h : zH}
theorem MH_s (C : MH m F e h0 h) {t n k b : Nat} (h1 : 1 ≤ m) (hm : m < 19) (ht : t = mT (178 + m)) (hl : n = mL (178 + m)) (hk : k = mF m) (hb : b = 178 + m) : MH (m + 1) F (e + n) h0 (sR (hNew h t n) 177 k (some b)) := by
  obtain ⟨a1, a2, a3, a4, a5, a6, a7, a8⟩ := C
  have z9 : zVB = 10000000 := rfl
  subst hk hb
  refine ⟨a1, by show hN h + 1 = _; omega, fun a x y => ?_, fun q x => ?_, ?_, fun j => ?_, fun a x y => ?_, ?_⟩
  · by_cases c : a = 178 + m
    · rw [← a2] at c
      exact ⟨by show zu1 (hT h) (hN h) t a = _; rw [c, zu1_s, ht, a2], by show zu1 (hL h) (hN h) n a = _; rw [c, zu1_s, hl, a2]⟩
    · have c2 : a ≠ hN h := by omega
      exact ⟨(zu1_n _ _ c2).trans (a3 a x (by omega)).1, (zu1_n _ _ c2).trans (a3 a x (by omega)).2⟩
  · by_cases c : q = m
    · subst c
      exact zup_s _ _ _ _
    · refine (zup_n _ _ _ _ _ _ (fun z => mF_ne hm (by omega) z.2)).trans ?_
      exact (congrFun (zu1_n (hR h) _ (show 177 ≠ hN h by omega)) _).trans (a4 q (by omega))
  · exact (zu1_n (hI h) _ (show 177 ≠ hN h by omega)).trans a5
  · exact (congrFun (zu1_n (hI h) _ (show 178 ≠ hN h by omega)) _).trans (a6 j)
  · by_cases c : a = 178 + m
    · rw [← a2] at c
      rw [c]
      exact zu1_s (hI h) _ _
    · exact (zu1_n (hI h) _ (show a ≠ hN h by omega)).trans (a7 a x (by omega))
  · exact Gw_m (Gw_sR (Gw_t a8 (Gw_new W0 h t n (by omega)) (fun _ _ _ z => z)) _ (fun z => by omega)) (fun _ _ _ z => z) (by omega) (by omega)
theorem MH_i (C : MH m F e h0 h) (h1 : 1 ≤ m) {k : Nat} {v : Int} : MH m (upN F k v) e h0 (sI h 177 k v) := by
  obtain ⟨a1, a2, a3, a4, a5, a6, a7, a8⟩ := C
  have z9 : zVB = 10000000 := rfl
  refine ⟨a1, a2, a3, a4, ?_, fun j => ?_, fun a x y => ?_, Gw_sI a8 _ (fun z => by omega)⟩
  · rw [hI_up, a5]
  · rw [hI_ne h v (by decide)]; exact a6 j
  · rw [hI_ne h v (by omega)]; exact a7 a x y
theorem MH_K (C : MH 19 F e h0 h) : KM h := by
  obtain ⟨a1, a2, a3, a4, a5, a6, a7, a8⟩ := C
  refine ⟨by omega, fun a e => ?_, fun a k b e => ?_, a6⟩
  · simp only [mI, Bool.and_eq_true, Nat.blt_eq, Nat.ble_eq] at e
    exact a3 a e.1 (by omega)
  · have key : ∀ (a : Fin 197) (k : Fin 47), (match mR a.val k.val with | none => true | some b => Nat.beq a.val 177 && (Nat.ble 178 b && (Nat.blt b 197 && Nat.beq (mF (b - 178)) k.val))) = true := by decide +kernel
    by_cases ca : a < 197 ∧ k < 47
    · have q := key ⟨a, ca.1⟩ ⟨k, ca.2⟩
      simp only [e, Bool.and_eq_true, Nat.beq_eq, Nat.blt_eq, Nat.ble_eq] at q
      obtain ⟨q1, q2, q3, q4⟩ := q
      have := a4 (b - 178) (by omega)
      rw [q4, show 178 + (b - 178) = b by omega] at this
      rw [q1]; exact this
    · have : (Nat.blt a 197 && Nat.blt k 47) = false := by
        rw [Bool.and_eq_false_iff]
        rcases Nat.lt_or_ge a 197 with z | z
        · right
          rw [← Bool.not_eq_true, Nat.blt_eq]; omega
        · left
          rw [← Bool.not_eq_true, Nat.blt_eq]; omega
      unfold mR at e
      rw [this] at e
      exact absurd e (by simp)
end MHS
set_option maxRecDepth 1000000
set_option maxHeartbeats 10000000
theorem upL_app : ∀ (l m : List (Nat × Int)) (f : Nat → Int), upL (upL f l) m = upL f (l ++ m)
  | [], _, _ => rfl
  | (a, v) :: l, m, f => upL_app l m (upN f a v)
theorem upL_nil (f : Nat → Int) : upL f [] = f := rfl
theorem upL_cons (f : Nat → Int) (k : Nat) (v : Int) (l : List (Nat × Int)) : upL f ((k, v) :: l) = upL (upN f k v) l := rfl
def kLs : List (Nat × Int) := [(0, 97), (1, 0), (2, 0), (3, 0), (4, 0), (5, 98), (6, 0), (7, 0), (8, 0), (9, 0), (10, 99), (11, 0), (12, 0), (13, 0), (14, 0), (15, 112), (16, 108), (17, 117), (18, 115), (19, 0), (20, 109), (21, 105), (22, 110), (23, 117), (24, 115), (25, 116), (26, 105), (27, 109), (28, 101), (29, 115), (30, 116), (31, 114), (32, 117), (33, 101), (34, 0), (35, 102), (36, 97), (37, 108), (38, 115), (39, 101), (40, 101), (41, 113), (42, 0), (43, 0), (44, 0), (45, 108), (46, 116), (47, 0), (48, 0), (49, 0), (50, 110), (51, 111), (52, 116), (53, 0), (54, 0), (55, 97), (56, 110), (57, 100), (58, 0), (59, 0), (60, 111), (61, 114), (62, 0), (63, 0), (64, 0), (65, 112), (66, 114), (67, 111), (68, 111), (69, 102), (70, 115), (71, 101), (72, 116), (73, 0), (74, 0), (75, 105), (76, 102), (77, 0), (78, 0), (79, 0), (80, 101), (81, 108), (82, 115), (83, 101), (84, 0), (85, 101), (86, 110), (87, 100), (88, 0), (89, 0), (90, 119), (91, 104), (92, 105), (93, 108), (94, 101), (95, 107), (96, 101), (97, 101), (98, 112), (99, 0), (100, 108), (101, 101), (102, 115), (103, 115), (104, 0), (105, 104), (106, 111), (107, 108), (108, 101), (109, 0)]
theorem k178_gm1 (h : zH) : hI (gm1 h) 178 = upL (hI (hNew h 22 110) 178) [(0, 97), (1, 0), (2, 0), (3, 0), (4, 0), (5, 98), (6, 0), (7, 0), (8, 0), (9, 0), (10, 99), (11, 0), (12, 0), (13, 0), (14, 0), (15, 112), (16, 108), (17, 117), (18, 115), (19, 0), (20, 109), (21, 105), (22, 110)] := by
  unfold gm1
  rw [hI_up, hI_up, hI_up, hI_up, hI_up, hI_up, hI_up, hI_up, hI_up, hI_up, hI_up, hI_up, hI_up, hI_up, hI_up, hI_up, hI_up, hI_up, hI_up, hI_up, hI_up, hI_up, hI_up]
  rfl
theorem k178_gm2 (h : zH) : hI (gm2 h) 178 = upL (hI h 178) [(23, 117), (24, 115), (25, 116), (26, 105), (27, 109), (28, 101), (29, 115), (30, 116), (31, 114), (32, 117), (33, 101), (34, 0), (35, 102), (36, 97), (37, 108), (38, 115), (39, 101), (40, 101), (41, 113), (42, 0), (43, 0), (44, 0), (45, 108), (46, 116), (47, 0)] := by
  unfold gm2
  rw [hI_up, hI_up, hI_up, hI_up, hI_up, hI_up, hI_up, hI_up, hI_up, hI_up, hI_up, hI_up, hI_up, hI_up, hI_up, hI_up, hI_up, hI_up, hI_up, hI_up, hI_up, hI_up, hI_up, hI_up, hI_up]
  rfl
theorem k178_gm3 (h : zH) : hI (gm3 h) 178 = upL (hI h 178) [(48, 0), (49, 0), (50, 110), (51, 111), (52, 116), (53, 0), (54, 0), (55, 97), (56, 110), (57, 100), (58, 0), (59, 0), (60, 111), (61, 114), (62, 0), (63, 0), (64, 0), (65, 112), (66, 114), (67, 111), (68, 111), (69, 102), (70, 115), (71, 101), (72, 116)] := by
  unfold gm3
  rw [hI_up, hI_up, hI_up, hI_up, hI_up, hI_up, hI_up, hI_up, hI_up, hI_up, hI_up, hI_up, hI_up, hI_up, hI_up, hI_up, hI_up, hI_up, hI_up, hI_up, hI_up, hI_up, hI_up, hI_up, hI_up]
  rfl
theorem k178_gm4 (h : zH) : hI (gm4 h) 178 = upL (hI h 178) [(73, 0), (74, 0), (75, 105), (76, 102), (77, 0), (78, 0), (79, 0), (80, 101), (81, 108), (82, 115), (83, 101), (84, 0), (85, 101), (86, 110), (87, 100), (88, 0), (89, 0), (90, 119), (91, 104), (92, 105), (93, 108), (94, 101), (95, 107), (96, 101), (97, 101)] := by
  unfold gm4
  rw [hI_up, hI_up, hI_up, hI_up, hI_up, hI_up, hI_up, hI_up, hI_up, hI_up, hI_up, hI_up, hI_up, hI_up, hI_up, hI_up, hI_up, hI_up, hI_up, hI_up, hI_up, hI_up, hI_up, hI_up, hI_up]
  rfl
theorem k178_gm5 (h : zH) : hI (gm5 h) 178 = upL (hI h 178) [(98, 112), (99, 0), (100, 108), (101, 101), (102, 115), (103, 115), (104, 0), (105, 104), (106, 111), (107, 108), (108, 101), (109, 0)] := by
  unfold gm5
  rw [hI_sR, hI_up, hI_up, hI_up, hI_up, hI_up, hI_up, hI_up, hI_up, hI_up, hI_up, hI_up, hI_up]
  rfl
theorem MH_1 {h : zH} (hn : hN h = 177) : zC 203 [zR (some 177)] (hNew h 12 47) = zY 203 628 [some (zR (some 177)), none] [] (gm5 (gm4 (gm3 (gm2 (gm1 (hNew h 12 47)))))) ∧ MH 1 (fun _ => 0) 157 h (gm5 (gm4 (gm3 (gm2 (gm1 (hNew h 12 47)))))) := by
  have z9 : zVB = 10000000 := rfl
  have G0 : Gw W0 2 157 h (hNew (hNew h 12 47) 22 110) := Gw_m (Gw_t (Gw_new W0 h 12 47 (by omega)) (Gw_new W0 (hNew h 12 47) 22 110 (by show hN h + 1 < _; omega)) (fun _ _ _ z => z)) (fun _ _ _ z => z) (by omega) (by omega)
  have w8 : ∀ {k : Nat}, (178 < hN h ∨ zVB ≤ 178) → W0 178 k := fun z => by omega
  have w7 : ∀ {k : Nat}, (177 < hN h ∨ zVB ≤ 177) → W0 177 k := fun z => by omega
  have G1 : Gw W0 2 157 h (gm1 (hNew h 12 47)) := Gw_sI (Gw_sI (Gw_sI (Gw_sI (Gw_sI (Gw_sI (Gw_sI (Gw_sI (Gw_sI (Gw_sI (Gw_sI (Gw_sI (Gw_sI (Gw_sI (Gw_sI (Gw_sI (Gw_sI (Gw_sI (Gw_sI (Gw_sI (Gw_sI (Gw_sI (Gw_sI (G0) _ w8) _ w8) _ w8) _ w8) _ w8) _ w8) _ w8) _ w8) _ w8) _ w8) _ w8) _ w8) _ w8) _ w8) _ w8) _ w8) _ w8) _ w8) _ w8) _ w8) _ w8) _ w8) _ w8
  have G2 : Gw W0 2 157 h (gm2 (gm1 (hNew h 12 47))) := Gw_sI (Gw_sI (Gw_sI (Gw_sI (Gw_sI (Gw_sI (Gw_sI (Gw_sI (Gw_sI (Gw_sI (Gw_sI (Gw_sI (Gw_sI (Gw_sI (Gw_sI (Gw_sI (Gw_sI (Gw_sI (Gw_sI (Gw_sI (Gw_sI (Gw_sI (Gw_sI (Gw_sI (Gw_sI (G1) _ w8) _ w8) _ w8) _ w8) _ w8) _ w8) _ w8) _ w8) _ w8) _ w8) _ w8) _ w8) _ w8) _ w8) _ w8) _ w8) _ w8) _ w8) _ w8) _ w8) _ w8) _ w8) _ w8) _ w8) _ w8
  have G3 : Gw W0 2 157 h (gm3 (gm2 (gm1 (hNew h 12 47)))) := Gw_sI (Gw_sI (Gw_sI (Gw_sI (Gw_sI (Gw_sI (Gw_sI (Gw_sI (Gw_sI (Gw_sI (Gw_sI (Gw_sI (Gw_sI (Gw_sI (Gw_sI (Gw_sI (Gw_sI (Gw_sI (Gw_sI (Gw_sI (Gw_sI (Gw_sI (Gw_sI (Gw_sI (Gw_sI (G2) _ w8) _ w8) _ w8) _ w8) _ w8) _ w8) _ w8) _ w8) _ w8) _ w8) _ w8) _ w8) _ w8) _ w8) _ w8) _ w8) _ w8) _ w8) _ w8) _ w8) _ w8) _ w8) _ w8) _ w8) _ w8
  have G4 : Gw W0 2 157 h (gm4 (gm3 (gm2 (gm1 (hNew h 12 47))))) := Gw_sI (Gw_sI (Gw_sI (Gw_sI (Gw_sI (Gw_sI (Gw_sI (Gw_sI (Gw_sI (Gw_sI (Gw_sI (Gw_sI (Gw_sI (Gw_sI (Gw_sI (Gw_sI (Gw_sI (Gw_sI (Gw_sI (Gw_sI (Gw_sI (Gw_sI (Gw_sI (Gw_sI (Gw_sI (G3) _ w8) _ w8) _ w8) _ w8) _ w8) _ w8) _ w8) _ w8) _ w8) _ w8) _ w8) _ w8) _ w8) _ w8) _ w8) _ w8) _ w8) _ w8) _ w8) _ w8) _ w8) _ w8) _ w8) _ w8) _ w8
  have G5 : Gw W0 2 157 h (gm5 (gm4 (gm3 (gm2 (gm1 (hNew h 12 47)))))) := Gw_sR (Gw_sI (Gw_sI (Gw_sI (Gw_sI (Gw_sI (Gw_sI (Gw_sI (Gw_sI (Gw_sI (Gw_sI (Gw_sI (Gw_sI (G4) _ w8) _ w8) _ w8) _ w8) _ w8) _ w8) _ w8) _ w8) _ w8) _ w8) _ w8) _ w8) _ w7
  obtain ⟨hN0, U, T, L, R, I, J, F, D⟩ := h
  obtain rfl : hN0 = 177 := hn
  refine ⟨(((((qm_1 rfl rfl rfl).trans (qm_2 rfl rfl rfl rfl rfl)).trans (qm_3 rfl rfl rfl rfl rfl)).trans (qm_4 rfl rfl rfl rfl rfl)).trans (qm_5 rfl rfl rfl rfl rfl)), rfl, rfl, fun a x y => ?_, fun q x => ?_, rfl, fun j => ?_, fun a x y => by omega, G5⟩
  · rcases (show a = 177 ∨ a = 178 by omega) with rfl | rfl
    · exact ⟨rfl, rfl⟩
    · exact ⟨rfl, rfl⟩
  · obtain rfl : q = 0 := by omega
    rfl
  · have e0 : hI (gm5 (gm4 (gm3 (gm2 (gm1 (hNew (177, U, T, L, R, I, J, F, D) 12 47)))))) 178 = upL (fun _ => 0) kLs := by
      rw [k178_gm5, k178_gm4, k178_gm3, k178_gm2, k178_gm1, upL_app, upL_app, upL_app, upL_app]
      exact congr (congrArg upL (show _ = (fun _ => 0) from rfl)) (show _ = kLs from rfl)
    rw [e0]
    by_cases c : j < 110
    · have key : ∀ j : Fin 110, upL (fun _ => 0) kLs j.val = mKeys.getD j.val 0 := by decide +kernel
      exact key ⟨j, c⟩
    · rw [upL_o (m := 110) (by omega) kLs _ (by decide), List.getD_eq_getElem?_getD, List.getElem?_eq_none (by have : mKeys.length = 110 := rfl; omega)]
      rfl
/-- the numbers of the reference's fields behind its rows -/
def mF0 : Nat → Int := upN (upN (fun _ => 0) 12 (-1)) 19 (-1)
theorem MH_19 {h g : zH} (C1 : MH 1 (fun _ => 0) 157 h g) : zY 203 628 [some (zR (some 177)), none] [] g = zY 203 793 [some (zR (some 177)), none] [] (gm10 (gm9 (gm8 (gm7 (gm6 (g)))))) ∧ MH 19 mF0 41059 h (gm10 (gm9 (gm8 (gm7 (gm6 (g)))))) := by
  have eqm_6 := qm_6 (h := g) C1.2.1 (C1.2.2.1 177 (by decide) (by decide)).1 (C1.2.2.1 177 (by decide) (by decide)).2
  have C2 := MH_s C1 (t := 22) (n := 2342) (k := 2) (b := 179) (by decide) (by decide) rfl rfl rfl rfl
  have C3 := MH_s C2 (t := 22) (n := 2342) (k := 3) (b := 180) (by decide) (by decide) rfl rfl rfl rfl
  have C4 := MH_s C3 (t := 22) (n := 23420) (k := 4) (b := 181) (by decide) (by decide) rfl rfl rfl rfl
  have C5 := MH_s C4 (t := 22) (n := 4684) (k := 6) (b := 182) (by decide) (by decide) rfl rfl rfl rfl
  have eqm_7 := qm_7 (h := gm6 (g)) C5.2.1 (C5.2.2.1 177 (by decide) (by decide)).1 (C5.2.2.1 177 (by decide) (by decide)).2
  have C6 := MH_s C5 (t := 22) (n := 240) (k := 8) (b := 183) (by decide) (by decide) rfl rfl rfl rfl
  have C7 := MH_s C6 (t := 22) (n := 240) (k := 9) (b := 184) (by decide) (by decide) rfl rfl rfl rfl
  have C8 := MH_i C7 (k := 12) (v := -1) (by decide)
  have C9 := MH_s C8 (t := 21) (n := 800) (k := 14) (b := 185) (by decide) (by decide) rfl rfl rfl rfl
  have eqm_8 := qm_8 (h := gm7 (gm6 (g))) C9.2.1 (C9.2.2.1 177 (by decide) (by decide)).1 (C9.2.2.1 177 (by decide) (by decide)).2
  have C10 := MH_s C9 (t := 21) (n := 1400) (k := 16) (b := 186) (by decide) (by decide) rfl rfl rfl rfl
  have C11 := MH_i C10 (k := 19) (v := -1) (by decide)
  have C12 := MH_s C11 (t := 22) (n := 201) (k := 20) (b := 187) (by decide) (by decide) rfl rfl rfl rfl
  have C13 := MH_s C12 (t := 23) (n := 24) (k := 22) (b := 188) (by decide) (by decide) rfl rfl rfl rfl
  have eqm_9 := qm_9 (h := gm8 (gm7 (gm6 (g)))) C13.2.1 (C13.2.2.1 177 (by decide) (by decide)).1 (C13.2.2.1 177 (by decide) (by decide)).2
  have C14 := MH_s C13 (t := 22) (n := 4824) (k := 23) (b := 189) (by decide) (by decide) rfl rfl rfl rfl
  have C15 := MH_s C14 (t := 22) (n := 24) (k := 24) (b := 190) (by decide) (by decide) rfl rfl rfl rfl
  have C16 := MH_s C15 (t := 22) (n := 201) (k := 25) (b := 191) (by decide) (by decide) rfl rfl rfl rfl
  have C17 := MH_s C16 (t := 23) (n := 24) (k := 32) (b := 192) (by decide) (by decide) rfl rfl rfl rfl
  have eqm_10 := qm_10 (h := gm9 (gm8 (gm7 (gm6 (g))))) C17.2.1 (C17.2.2.1 177 (by decide) (by decide)).1 (C17.2.2.1 177 (by decide) (by decide)).2
  have C18 := MH_s C17 (t := 22) (n := 24) (k := 33) (b := 193) (by decide) (by decide) rfl rfl rfl rfl
  have C19 := MH_s C18 (t := 22) (n := 24) (k := 34) (b := 194) (by decide) (by decide) rfl rfl rfl rfl
  have C20 := MH_s C19 (t := 23) (n := 24) (k := 35) (b := 195) (by decide) (by decide) rfl rfl rfl rfl
  have C21 := MH_s C20 (t := 22) (n := 64) (k := 43) (b := 196) (by decide) (by decide) rfl rfl rfl rfl
  exact ⟨((((eqm_6).trans eqm_7).trans eqm_8).trans eqm_9).trans eqm_10, C21⟩
