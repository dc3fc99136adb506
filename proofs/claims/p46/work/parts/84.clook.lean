/-! The class: the sets of a program, made anew. -/
section CLOOK
variable {n top : Int} {R N : Nat → Int} {h : zH} {p v : Nat}
theorem upto_list (f : Nat → Int) (l : List Int) (h : ∀ j, j < l.length → f j = l.getD j 0) : l = upto f 0 l.length [] := by
  refine List.ext_getElem (by rw [upto_len]; simp) fun i h1 h2 => ?_
  have e := upto_get f 0 l.length [] i h1
  rw [Nat.zero_add, h i h1] at e
  rw [List.getD_eq_getElem?_getD, List.getElem?_eq_getElem h2, List.getD_eq_getElem?_getD, List.getElem?_eq_getElem h1] at e
  exact e.symm
theorem FO_form (K : KC h) {i : Nat} (hi : i < 13) : FO h (102 + 2 * i) (cForm.getD i []) := by
  have e1 : ∀ j : Fin 13, (cI (102 + 2 * j.val) && Nat.beq (cT (102 + 2 * j.val)) 2 && cI (102 + 2 * j.val + 1) && Nat.beq (cT (102 + 2 * j.val + 1)) 21 && (match cR (102 + 2 * j.val) 0 with | some b => Nat.beq b (102 + 2 * j.val + 1) | none => false)) = true := by decide +kernel
  have e2 : ∀ j : Fin 13, mutB (102 + 2 * j.val) = false ∧ mutB (102 + 2 * j.val + 1) = false ∧ cI (102 + 2 * j.val + 1) = true ∧ cL (102 + 2 * j.val + 1) = (cForm.getD j.val []).length := by decide +kernel
  obtain ⟨a1, a2, a3, a4⟩ := e2 ⟨i, hi⟩
  refine ⟨FS_lit K _ (e1 ⟨i, hi⟩), a1, a2, ?_, upto_list _ _ fun j _ => ?_⟩
  · rw [(K.2.1 _ a3).2]; exact a4
  · have := K.2.2.2.2.2.2.2 i j hi
    rw [show 102 + 2 * i + 1 = 103 + 2 * i by omega]
    exact this
theorem flF_form {f : Int} (h0 : 0 ≤ f) (h1 : f ≤ 38) : flF f = cForm.getD (Int.tmod f 13).toNat [] :=
  finN (P := fun f => flF f = cForm.getD (Int.tmod f 13).toNat []) (n := 39) (by decide +kernel) h0 (by omega)
theorem val_flF {f st : Int} (h0 : 0 ≤ f) (h1 : f ≤ 38) (h2 : 0 ≤ st) (h3 : st < 64) : val (flF f) st = flv f st :=
  finN (P := fun f => val (flF f) st = flv f st) (n := 39) (fun s => finN (P := fun st => val (flF s.val) st = flv s.val st) (n := 64) ((show ∀ (s : Fin 39) (t : Fin 64), val (flF s.val) t.val = flv s.val t.val by decide +kernel) s) h2 h3) h0 (by omega)
/-- what a statement does as it is filled; its variable -/
def cfL (R N : Nat → Int) (s : Int) : List Int := if sv R s 0 = 3 then (if N (2294 + s).toNat = -1 then [] else flF (N (2294 + s).toNat)) else lst N (2 + s)
def tgS (R N : Nat → Int) (s : Int) : Int := if sv R s 0 = 3 ∧ N (2294 + s).toNat ≠ -1 then N (2294 + s).toNat / 13 else sv R s 1
def SCs (h : zH) (R N : Nat → Int) (s : Int) : Prop := hI h 96 s.toNat = tgS R N s ∧ FAt h 97 s.toNat (cfL R N s) ∧ hJ h 94 s.toNat = lowL (cfL R N s) ∧ hJ h 95 s.toNat = higL (cfL R N s)
def SCl (h : zH) (R N : Nat → Int) (s : Int) : Prop := hJ h 91 (sv R s 7).toNat = setL (lst N (26 + s)) ∧ hJ h 92 (sv R s 7).toNat = lowL (lst N (50 + s)) ∧ hJ h 93 (sv R s 7).toNat = higL (lst N (50 + s))
/-- the class's objects stand for this program -/
def CB (h : zH) (p v : Nat) (n : Int) (R N : Nat → Int) : Prop := KC h ∧ KS h ∧ PO h p n R ∧ PA h p n R N ∧ VO h v n R N
def okCB (A : FA) : Bool := okC A && okO A
theorem CB_f {A : FA} {h2 : zH} (B : CB h p v n R N) (F : Fr A h h2) (e : okCB A = true) : CB h2 p v n R N := by
  simp only [okCB, Bool.and_eq_true] at e
  obtain ⟨a, b, c, d, g⟩ := B
  refine ⟨KC_f a F e.1, KS_f b F ?_, PO_f c F e.2, PA_f d c.2.1 F e.2, VO_f g F e.2⟩
  refine List.all_eq_true.mpr fun x hx => ?_
  have e3 := List.all_eq_true.mp e.2 x hx
  rw [Nat.blt_eq]
  rw [mutB] at e3
  simp only [Bool.or_eq_true, Bool.and_eq_true, Nat.blt_eq, Nat.ble_eq, Nat.beq_eq] at e3
  omega
theorem lst_ok {q : Int} {b : Bool} (f : fmOk N q b) : lOk (lst N q) := ⟨Or.inr ⟨b, f.2.2⟩, by have := fmOk_len f; omega⟩
theorem cfL_ok (w : WS n R) (v : WN n R N) {s : Int} (h0 : 0 ≤ s) (h1 : s < n) : lOk (cfL R N s) := by
  have w1 := (w.2.1 s h0 h1).1
  have v1 := v.2.2 s h0 h1
  unfold cfL
  by_cases c : sv R s 0 = 3
  · rw [if_pos c]
    by_cases d : N (2294 + s).toNat = -1
    · rw [if_pos d]; exact ⟨Or.inl rfl, by decide⟩
    · rw [if_neg d]
      have := v1.2.2.2.1 c
      exact ⟨Or.inr ⟨_, flF_ty (by omega)⟩, by have := flF_len (N (2294 + s).toNat); omega⟩
  · rw [if_neg c]
    by_cases c0 : sv R s 0 = 0
    · exact lst_ok (v1.1 c0)
    · by_cases c1 : sv R s 0 = 1
      · exact lst_ok (v1.2.1 c1)
      · exact lst_ok (v1.2.2.1 (by omega)).1
theorem num_r (P : Prg n top R N) {s : Int} (h0 : 0 ≤ s) (h1 : s < n) (k : sv R s 0 = 2 ∨ sv R s 0 = 3) : 0 ≤ sv R s 7 ∧ sv R s 7 < 24 := by
  have := (P.2.2.1 s h0 h1).1 k
  have := cntK_b R (sv R s 0) s.toNat
  have := P.1.1
  omega
/-- loops and holes have numbers of their own -/
theorem num_inj (P : Prg n top R N) {s t : Int} (h0 : 0 ≤ s) (h1 : s < n) (g0 : 0 ≤ t) (g1 : t < n) (k : sv R s 0 = 2 ∨ sv R s 0 = 3) (e0 : sv R s 0 = sv R t 0) (e7 : sv R s 7 = sv R t 7) : s = t := by
  have a1 := (P.2.2.1 s h0 h1).1 k
  have a2 := (P.2.2.1 t g0 g1).1 (e0 ▸ k)
  rw [← e0] at a2
  have m1 := cntK_m R (sv R s 0) (s.toNat + 1) (t.toNat - (s.toNat + 1))
  have m2 := cntK_m R (sv R s 0) (t.toNat + 1) (s.toNat - (t.toNat + 1))
  rw [cntK_s, show ((s.toNat : Nat) : Int) = s by omega, if_pos rfl] at m1
  rw [cntK_s, show ((t.toNat : Nat) : Int) = t by omega, if_pos e0.symm] at m2
  by_cases c : s < t
  · rw [show s.toNat + 1 + (t.toNat - (s.toNat + 1)) = t.toNat by omega] at m1
    omega
  · by_cases d : t < s
    · rw [show t.toNat + 1 + (s.toNat - (t.toNat + 1)) = s.toNat by omega] at m2
      omega
    · omega
abbrev scrS1 : FA := [(96, none), (97, none), (94, none), (95, none), (99, none), (100, none), (90, some 13)]
theorem c_lookSt1 (B : CB h p v n R N) {s x : Int} (h0 : 0 ≤ s) (h1 : s < 24) {f : Nat} {l : List Int} (Ff : FO h f l) (o : lOk l) {a b : Int} : ∃ h2, zBack zY 100 127 130 [some (zR (some 90)), some (zI s), some (zI a), some (zI b)] [] (zC 95 [zR (some 90), zR (some (f + 1)), zI (f_Fo_size (sR (sI h 96 s.toNat x) 97 s.toNat (some f)) f)] (sR (sI h 96 s.toNat x) 97 s.toNat (some f))) = some (.inl none, h2) ∧ (hI h2 96 s.toNat = x ∧ FAt h2 97 s.toNat l ∧ hJ h2 94 s.toNat = lowL l ∧ hJ h2 95 s.toNat = higL l) ∧ (∀ k, k ≠ s.toNat → hI h2 96 k = hI h 96 k ∧ hR h2 97 k = hR h 97 k ∧ hJ h2 94 k = hJ h 94 k ∧ hJ h2 95 k = hJ h 95 k) ∧ Fr scrS1 h h2 := by
  have F1 : Fr [(96, none), (97, none)] h (sR (sI h 96 s.toNat x) 97 s.toNat (some f)) := Fr_R (Fr_I (Fr_r _ _) rfl) rfl
  have B1 := CB_f B F1 rfl
  have Ff1 := FO_f Ff F1 rfl
  have es : f_Fo_size (sR (sI h 96 s.toNat x) 97 s.toNat (some f)) f = (l.length : Int) := by
    unfold f_Fo_size
    rw [Ff1.2.2.2.1]
  have q96 : hI (sR (sI h 96 s.toNat x) 97 s.toNat (some f)) 96 = upN (hI h 96) s.toNat x := hI_up h 96 s.toNat x
  have q97 : ∀ k, hR (sR (sI h 96 s.toNat x) 97 s.toNat (some f)) 97 k = if k = s.toNat then some f else hR h 97 k := fun k => by
    rw [hR_sR, zup]
    by_cases c : k = s.toNat
    · rw [if_pos ⟨rfl, c⟩, if_pos c]
    · rw [if_neg (fun e => c e.2), if_neg c]; rfl
  rw [es]
  generalize sR (sI h 96 s.toNat x) 97 s.toNat (some f) = g at *
  obtain ⟨g2, e2, l2, u2, F2⟩ := c_evaluate B1.1 B1.2.1 (a := f + 1) (l := l) Ff1.1.2.2.1 Ff1.1.2.2.2 Ff1.2.2.2.2 (by rw [Ff1.2.2.2.1]; exact Nat.le_refl _) o
  have B2 := CB_f B1 F2 rfl
  rw [e2, q_S_lookAtStatement_r130 B2.1, gd_t (by omega), l2, u2]
  have F3 : Fr [(94, none), (95, none)] g2 (sJ (sJ g2 94 s.toNat (lowL l)) 95 s.toNat (higL l)) := Fr_J (Fr_J (Fr_r _ _) rfl) rfl
  have F03 : Fr scrS1 h (sJ (sJ g2 94 s.toNat (lowL l)) 95 s.toNat (higL l)) := Fr_t (Fr_m F1 rfl) (Fr_t (Fr_m F2 rfl) (Fr_m F3 rfl))
  refine ⟨_, rfl, ⟨?_, ⟨f, ?_, FO_f Ff F03 rfl⟩, ?_, ?_⟩, fun k hk => ⟨?_, ?_, ?_, ?_⟩, F03⟩
  · show hI g2 96 s.toNat = x
    rw [rI F2 96 rfl, q96, upN_s]
  · show hR g2 97 s.toNat = some f
    rw [rR F2 97 rfl, q97, if_pos rfl]
  · simp [hJ_sJ, zup]
  · simp [hJ_sJ, zup]
  · show hI g2 96 k = _
    rw [rI F2 96 rfl, q96, upN_n _ _ hk]
  · show hR g2 97 k = _
    rw [rR F2 97 rfl, q97, if_neg hk]
  · simp [hJ_sJ, zup, hk]
    rw [rJ F2 94 rfl, rJ F1 94 rfl]
  · simp [hJ_sJ, zup, hk]
    rw [rJ F2 95 rfl, rJ F1 95 rfl]
theorem c_lookAtStatement (B : CB h p v n R N) (P : Prg n top R N) (e1 : hR h 90 14 = some p) (e2 : hR h 90 15 = some v) {s : Int} (h0 : 0 ≤ s) (h1 : s < n) : ∃ h2, zC 100 [zR (some 90), zI s] h = some (.inl none, h2) ∧ SCs h2 R N s ∧ (∀ t, 0 ≤ t → t ≠ s → SCs h R N t → SCs h2 R N t) ∧ Fr scrS1 h h2 := by
  obtain ⟨K, Ks, Po, Pa, Vo⟩ := id B
  have w0 := P.1.1
  have w1 := (P.1.2.1 s h0 h1).1
  have v1 := P.2.1.2.2 s h0 h1
  have hkd := PO_kindOf Po h0 h1
  have hva := PO_variableOf Po h0 h1
  have hnu := PO_numberOf Po h0 h1
  obtain ⟨f, ef, Ff⟩ := PO_partOf Po Pa h0 h1
  have Fx : ∀ x, Fr [(96, none)] h (sI h 96 s.toNat x) := fun x => Fr_I (Fr_r _ _) rfl
  have lt13 : (Int.tmod (f_V_fillingOf h v (f_P_numberOf h p s)) 13).toNat < 13 := by
    have := Int.tmod_lt_of_pos (f_V_fillingOf h v (f_P_numberOf h p s)) (b := 13) (by decide)
    omega
  have G := FO_form K lt13
  have rf : f_P_partOf (sI h 96 s.toNat (f_P_variableOf h p s)) p s = some f := by
    obtain ⟨f2, ef2, _⟩ := PO_partOf (PO_f Po (Fx (f_P_variableOf h p s)) rfl) (PA_f Pa Po.2.1 (Fx (f_P_variableOf h p s)) rfl) h0 h1
    have hp := Po.1
    rw [← ef]
    unfold f_P_partOf
    rw [if_pos ((PO_has Po s).2 ⟨h0, h1⟩), if_pos ((PO_has (PO_f Po (Fx (f_P_variableOf h p s)) rfl) s).2 ⟨h0, h1⟩)]
    rfl
  have q := q_S_lookAtStatement (h := h) (x1 := s) (p := p) (v := v) (f := f) (f2 := f) (f3 := 102 + 2 * (Int.tmod (f_V_fillingOf h v (f_P_numberOf h p s)) 13).toNat) (f4 := 102 + 2 * (Int.tmod (f_V_fillingOf h v (f_P_numberOf h p s)) 13).toNat) K e1 Po.1 e2 Vo.1 rf Ff.1 (zup_s _ _ _ _) (FS_f Ff.1 (Fr_R (Fr_I (Fr_r [(96, none), (97, none)] _) rfl) rfl) rfl Ff.2.1) (K.2.2.2.2.2.1 _ lt13) G.1 (zup_s _ _ _ _) (FS_f G.1 (Fr_R (Fr_I (Fr_r [(96, none), (97, none)] _) rfl) rfl) rfl G.2.1)
  rw [if_neg (by omega), if_pos (by omega), hkd] at q
  have fin : ∀ (g : zH) (x : Int) (l : List Int), x = tgS R N s → l = cfL R N s → (hI g 96 s.toNat = x ∧ FAt g 97 s.toNat l ∧ hJ g 94 s.toNat = lowL l ∧ hJ g 95 s.toNat = higL l) → (∀ k, k ≠ s.toNat → hI g 96 k = hI h 96 k ∧ hR g 97 k = hR h 97 k ∧ hJ g 94 k = hJ h 94 k ∧ hJ g 95 k = hJ h 95 k) → Fr scrS1 h g → SCs g R N s ∧ (∀ t, 0 ≤ t → t ≠ s → SCs h R N t → SCs g R N t) ∧ Fr scrS1 h g := fun g x l ex el a b F => by
    subst ex el
    refine ⟨a, fun t t0 ts T => ?_, F⟩
    obtain ⟨b1, b2, b3, b4⟩ := b t.toNat (by omega)
    obtain ⟨c1, ⟨f3, c2, c3⟩, c4, c5⟩ := T
    exact ⟨b1.trans c1, ⟨f3, b2.trans c2, FO_f c3 F rfl⟩, b3.trans c4, b4.trans c5⟩
  by_cases c : sv R s 0 = 3
  · have hr := num_r P h0 h1 (Or.inr c)
    have hfi : f_V_fillingOf h v (f_P_numberOf h p s) = N (2294 + s).toNat := by
      rw [hnu]
      unfold f_V_fillingOf
      rw [if_pos ⟨hr.1, hr.2⟩]
      exact (Vo.2.2.2.2.1 s h0 h1).2.1 c
    have hN := v1.2.2.2.1 c
    rw [if_pos c, hfi] at q
    rw [hfi] at G lt13
    by_cases d : N (2294 + s).toNat < 0
    · rw [if_pos d] at q
      have el : prtL R N s = cfL R N s := by unfold prtL cfL; rw [if_pos c, if_pos c, if_pos (by omega)]
      rw [el] at Ff
      obtain ⟨g, eg, a, b, F⟩ := c_lookSt1 B (x := f_P_variableOf h p s) h0 (by omega) Ff (cfL_ok P.1 P.2.1 h0 h1) (a := 1) (b := N (2294 + s).toNat)
      exact ⟨g, q.trans eg, fin g _ _ (by rw [hva]; unfold tgS; rw [if_neg (fun e => e.2 (by omega))]) rfl a b F⟩
    · rw [if_neg d, gd_t (by omega), gd_t (by have := tmod_13 (f := N (2294 + s).toNat) (by omega); exact this)] at q
      have el : cForm.getD (Int.tmod (N (2294 + s).toNat) 13).toNat [] = cfL R N s := by unfold cfL; rw [if_pos c, if_neg (by omega), flF_form (by omega) (by omega)]
      rw [el] at G
      obtain ⟨g, eg, a, b, F⟩ := c_lookSt1 B (x := N (2294 + s).toNat / 13) h0 (by omega) G (cfL_ok P.1 P.2.1 h0 h1) (a := 1) (b := N (2294 + s).toNat)
      exact ⟨g, q.trans eg, fin g _ _ (by unfold tgS; rw [if_pos ⟨c, by omega⟩]) rfl a b F⟩
  · rw [if_neg c] at q
    have el : prtL R N s = cfL R N s := by unfold prtL cfL; rw [if_neg c, if_neg c]
    rw [el] at Ff
    obtain ⟨g, eg, a, b, F⟩ := c_lookSt1 B (x := f_P_variableOf h p s) h0 (by omega) Ff (cfL_ok P.1 P.2.1 h0 h1) (a := 0) (b := -1)
    exact ⟨g, q.trans eg, fin g _ _ (by rw [hva]; unfold tgS; rw [if_neg (fun e => c e.1)]) rfl a b F⟩
abbrev scrS2 : FA := [(91, none), (92, none), (93, none), (99, none), (100, none), (90, some 13)]
theorem c_lookAtLoop (B : CB h p v n R N) (P : Prg n top R N) (e2 : hR h 90 15 = some v) {s : Int} (h0 : 0 ≤ s) (h1 : s < n) (k2 : sv R s 0 = 2) : ∃ h2, zC 101 [zR (some 90), zI (sv R s 7)] h = some (.inl none, h2) ∧ SCl h2 R N s ∧ (∀ t, 0 ≤ t → t < n → sv R t 0 = 2 → t ≠ s → SCl h R N t → SCl h2 R N t) ∧ Fr scrS2 h h2 := by
  obtain ⟨K, Ks, Po, Pa, Vo⟩ := id B
  have w0 := P.1.1
  have v1 := (P.2.1.2.2 s h0 h1).2.2.1 k2
  have hr := num_r P h0 h1 (Or.inl k2)
  obtain ⟨⟨f, ef, Ff⟩, _⟩ := (Vo.2.2.2.2.1 s h0 h1).1 k2
  have ef2 : f_V_keepOf h v (sv R s 7) = some f := by unfold f_V_keepOf; rw [if_pos ⟨hr.1, hr.2⟩]; exact ef
  have es : f_Fo_size h f = ((lst N (26 + s)).length : Int) := by unfold f_Fo_size; rw [Ff.2.2.2.1]
  obtain ⟨g, eg, lg, ug, F⟩ := c_evaluate K Ks (a := f + 1) (l := lst N (26 + s)) Ff.1.2.2.1 Ff.1.2.2.2 Ff.2.2.2.2 (by rw [Ff.2.2.2.1]; exact Nat.le_refl _) (lst_ok v1.2.1)
  have Bg := CB_f B F rfl
  have e2g : hR g 90 15 = some v := (fR F 90 15 rfl).trans e2
  have F1 : Fr [(91, none)] g (sJ g 91 (sv R s 7).toNat (f_S_holding g)) := Fr_J (Fr_r _ _) rfl
  have B1 := CB_f Bg F1 rfl
  obtain ⟨_, ⟨f2, ef3, Ff3g⟩⟩ := (Bg.2.2.2.2.2.2.2.2.1 s h0 h1).1 k2
  have Ff3 := FO_f Ff3g F1 rfl
  have hFS2 : FS g f2 := Ff3g.1
  have ef4 : f_V_lessOf (sJ g 91 (sv R s 7).toNat (f_S_holding g)) v (sv R s 7) = some f2 := by unfold f_V_lessOf; rw [if_pos ⟨hr.1, hr.2⟩]; exact ef3
  have es3 : f_Fo_size (sJ g 91 (sv R s 7).toNat (f_S_holding g)) f2 = ((lst N (50 + s)).length : Int) := by unfold f_Fo_size; rw [Ff3.2.2.2.1]
  have q1 := q_S_lookAtLoop (h := h) (x1 := sv R s 7) (v := v) (f := f) K e2 Vo.1 ef2 Ff.1
  rw [if_neg (by omega), if_pos (by omega), es, eg, q_S_lookAtLoop_r32 (f2 := f) (v := v) (f := f2) Bg.1 (FS_f Ff.1 F rfl Ff.2.1) e2g Bg.2.2.2.2.1 ef4 hFS2, gd_t (by omega), es3] at q1
  have h99 : f_S_holding g = lowL (lst N (26 + s)) := lg
  obtain ⟨g3, e3, l3, u3, F3⟩ := c_evaluate B1.1 B1.2.1 (a := f2 + 1) (l := lst N (50 + s)) Ff3.1.2.2.1 Ff3.1.2.2.2 Ff3.2.2.2.2 (by rw [Ff3.2.2.2.1]; exact Nat.le_refl _) (lst_ok v1.2.2)
  have F01 : Fr scrS2 h (sJ g 91 (sv R s 7).toNat (f_S_holding g)) := Fr_t (Fr_m F rfl) (Fr_m F1 rfl)
  have Fk : FS g3 f := FS_f (FS_f (FS_f Ff.1 F rfl Ff.2.1) F1 rfl Ff.2.1) F3 rfl Ff.2.1
  rw [e3, q_S_lookAtLoop_r63 (f2 := f) (f3 := f2) (KC_f B1.1 F3 rfl) Fk (FS_f Ff3.1 F3 rfl Ff3.2.1), gd_t (by omega), l3, u3] at q1
  have F4 : Fr [(92, none), (93, none)] g3 (sJ (sJ g3 92 (sv R s 7).toNat (lowL (lst N (50 + s)))) 93 (sv R s 7).toNat (higL (lst N (50 + s)))) := Fr_J (Fr_J (Fr_r _ _) rfl) rfl
  refine ⟨_, q1, ⟨?_, ?_, ?_⟩, fun t t0 t1 tk ts T => ?_, Fr_t F01 (Fr_t (Fr_m F3 rfl) (Fr_m F4 rfl))⟩
  · show hJ g3 91 _ = _
    rw [rJ F3 91 rfl, hJ_sJ, zup_s, h99, low_set v1.2.1.2.2]
  · simp [hJ_sJ, zup]
  · simp [hJ_sJ, zup]
  · have hrt := num_r P t0 t1 (Or.inl tk)
    have hne : ¬ (sv R t 7).toNat = (sv R s 7).toNat := fun e => ts (num_inj P t0 t1 h0 h1 (Or.inl tk) (by rw [tk, k2]) (by omega))
    obtain ⟨a1, a2, a3⟩ := T
    refine ⟨?_, ?_, ?_⟩
    · show hJ g3 91 _ = _
      rw [rJ F3 91 rfl, hJ_sJ, zup_n _ _ _ _ _ _ (fun e => hne e.2), rJ F 91 rfl]; exact a1
    · simp [hJ_sJ, zup, hne]
      rw [rJ F3 92 rfl, rJ F1 92 rfl, rJ F 92 rfl]; exact a2
    · simp [hJ_sJ, zup, hne]
      rw [rJ F3 93 rfl, rJ F1 93 rfl, rJ F 93 rfl]; exact a3
/-- the sets of a program as they stand when they have been looked at -/
def SC (h : zH) (n : Int) (R N : Nat → Int) : Prop := hJ h 90 0 = setL (lst N 0) ∧ hJ h 90 1 = setL (lst N 1) ∧ (∀ s, 0 ≤ s → s < n → SCs h R N s) ∧ (∀ s, 0 ≤ s → s < n → sv R s 0 = 2 → SCl h R N s)
abbrev scrS : FA := [(96, none), (97, none), (94, none), (95, none), (91, none), (92, none), (93, none), (99, none), (100, none), (90, some 13), (90, some 0), (90, some 1), (90, some 14), (90, some 15)]
theorem SCs_f {A : FA} {h2 : zH} {s : Int} (S : SCs h R N s) (F : Fr A h h2) (e : (okO A && rowA A 94 && rowA A 95 && rowA A 96 && rowA A 97) = true) : SCs h2 R N s := by
  simp only [Bool.and_eq_true] at e
  obtain ⟨⟨⟨⟨e0, e1⟩, e2⟩, e3⟩, e4⟩ := e
  obtain ⟨a, ⟨f, b, c⟩, d, g⟩ := S
  exact ⟨by rw [rI F 96 e3]; exact a, ⟨f, by rw [rR F 97 e4]; exact b, FO_f c F e0⟩, by rw [rJ F 94 e1]; exact d, by rw [rJ F 95 e2]; exact g⟩
theorem SCl_f {A : FA} {h2 : zH} {s : Int} (S : SCl h R N s) (F : Fr A h h2) (e : (rowA A 91 && rowA A 92 && rowA A 93) = true) : SCl h2 R N s := by
  simp only [Bool.and_eq_true] at e
  obtain ⟨⟨e1, e2⟩, e3⟩ := e
  obtain ⟨a, b, c⟩ := S
  exact ⟨by rw [rJ F 91 e1]; exact a, by rw [rJ F 92 e2]; exact b, by rw [rJ F 93 e3]; exact c⟩
theorem l_look1 (P : Prg n top R N) : ∀ (m : Nat) (s : Int) (h : zH), CB h p v n R N → hR h 90 14 = some p → hR h 90 15 = some v → 0 ≤ s → s + m = n → (∀ t, 0 ≤ t → t < s → SCs h R N t) → ∃ h2, zY 94 76 [some (zR (some 90)), some (zR (some p)), some (zR (some v)), some (zI s)] [] h = zY 94 100 [some (zR (some 90)), some (zR (some p)), some (zR (some v)), some (zI 0)] [] h2 ∧ (∀ t, 0 ≤ t → t < n → SCs h2 R N t) ∧ Fr scrS1 h h2
  | 0, s, h, B, e1, e2, h0, hm, hS => by
    rw [q_S_look_76 B.1 B.2.2.1.1 B.2.2.2.2.1 e1 B.2.2.1.1, PO_n B.2.2.1, if_neg (by omega)]
    exact ⟨h, rfl, fun t a b => hS t a (by omega), Fr_r _ _⟩
  | m + 1, s, h, B, e1, e2, h0, hm, hS => by
    have w0 := P.1.1
    obtain ⟨g, eg, Sg, So, F⟩ := c_lookAtStatement B P e1 e2 h0 (by omega)
    have Bg := CB_f B F rfl
    rw [q_S_look_76 B.1 B.2.2.1.1 B.2.2.2.2.1 e1 B.2.2.1.1, PO_n B.2.2.1, if_pos (by omega), eg, q_S_look_r92 Bg.1 Bg.2.2.1.1 Bg.2.2.2.2.1, gd_t (by omega)]
    obtain ⟨h3, e3, S3, F3⟩ := l_look1 P m (s + 1) g Bg ((fR F 90 14 rfl).trans e1) ((fR F 90 15 rfl).trans e2) (by omega) (by omega) (fun t a b => by
      by_cases c : t = s
      · rw [c]; exact Sg
      · exact So t a c (hS t a (by omega)))
    exact ⟨h3, e3, S3, Fr_t F F3⟩
theorem l_look2 (P : Prg n top R N) : ∀ (m : Nat) (l : Int) (h : zH), CB h p v n R N → hR h 90 14 = some p → hR h 90 15 = some v → 0 ≤ l → l + m = cntK R 2 n.toNat → (∀ t, 0 ≤ t → t < n → sv R t 0 = 2 → sv R t 7 < l → SCl h R N t) → ∃ h2, zY 94 100 [some (zR (some 90)), some (zR (some p)), some (zR (some v)), some (zI l)] [] h = some (.inl none, h2) ∧ (∀ t, 0 ≤ t → t < n → sv R t 0 = 2 → SCl h2 R N t) ∧ Fr scrS2 h h2
  | 0, l, h, B, e1, e2, h0, hm, hS => by
    rw [q_S_look_100 B.1 B.2.2.1.1 B.2.2.2.2.1 e1 B.2.2.1.1, PO_l B.2.2.1, if_neg (by omega)]
    refine ⟨h, rfl, fun t a b k => hS t a b k ?_, Fr_r _ _⟩
    have h1 := (P.2.2.1 t a b).1 (Or.inl k)
    have h2 := cntK_m R 2 (t.toNat + 1) (n.toNat - (t.toNat + 1))
    rw [show t.toNat + 1 + (n.toNat - (t.toNat + 1)) = n.toNat by omega, cntK_s, show ((t.toNat : Nat) : Int) = t by omega, if_pos k] at h2
    rw [k] at h1
    omega
  | m + 1, l, h, B, e1, e2, h0, hm, hS => by
    have w0 := P.1.1
    have hcb := cntK_b R 2 n.toNat
    obtain ⟨⟨l0, l1⟩, lk, ln⟩ := lpAt_ok P.2.2.1 w0.1 (Or.inl rfl) h0 (show l < cntK R 2 n.toNat by omega)
    obtain ⟨g, eg, Sg, So, F⟩ := c_lookAtLoop B P e2 l0 l1 lk
    rw [ln] at eg
    have Bg := CB_f B F rfl
    rw [q_S_look_100 B.1 B.2.2.1.1 B.2.2.2.2.1 e1 B.2.2.1.1, PO_l B.2.2.1, if_pos (by omega), eg, q_S_look_r116 Bg.1 Bg.2.2.1.1 Bg.2.2.2.2.1, gd_t (by omega)]
    obtain ⟨h3, e3, S3, F3⟩ := l_look2 P m (l + 1) g Bg ((fR F 90 14 rfl).trans e1) ((fR F 90 15 rfl).trans e2) (by omega) (by omega) (fun t a b k q => by
      by_cases c : t = lpAt n R 2 l
      · rw [c]; exact Sg
      · refine So t a b k c (hS t a b k ?_)
        by_cases d : sv R t 7 = l
        · exact absurd (num_inj P a b l0 l1 (Or.inl k) (by rw [k, lk]) (by rw [d, ln])) c
        · omega)
    exact ⟨h3, e3, S3, Fr_t F F3⟩
theorem c_S_look (B : CB h p v n R N) (P : Prg n top R N) : ∃ h2, zC 94 [zR (some 90), zR (some p), zR (some v)] h = some (.inl none, h2) ∧ SC h2 n R N ∧ hR h2 90 14 = some p ∧ hR h2 90 15 = some v ∧ Fr scrS h h2 := by
  obtain ⟨K, Ks, Po, Pa, Vo⟩ := id B
  have w0 := P.1.1
  have F1 : Fr [(90, some 14), (90, some 15)] h (sR (sR h 90 14 (some p)) 90 15 (some v)) := Fr_R (Fr_R (Fr_r _ _) rfl) rfl
  have B1 := CB_f B F1 rfl
  have p14 : hR (sR (sR h 90 14 (some p)) 90 15 (some v)) 90 14 = some p := rfl
  have p15 : hR (sR (sR h 90 14 (some p)) 90 15 (some v)) 90 15 = some v := rfl
  obtain ⟨f, ef, Ff⟩ := B1.2.2.2.2.2.2.1
  obtain ⟨f0, ef0, Ff0⟩ := Vo.2.2.1
  have hff : f = f0 := by
    have : hR (sR (sR h 90 14 (some p)) 90 15 (some v)) v 0 = hR h v 0 := congrFun (oR F1 rfl (Vo.2.1 0 (by decide) : mutB v = false)) 0
    rw [ef, ef0] at this
    exact Option.some.inj this
  have Fh : FS h f := by rw [hff]; exact Ff0.1
  have q := q_S_look (h := h) (p := p) (v := v) (v2 := v) (f := f) K Po.1 Vo.1 rfl B1.2.2.2.2.1 ef Ff.1
  generalize sR (sR h 90 14 (some p)) 90 15 (some v) = g1 at *
  have es : f_Fo_size g1 f = ((lst N 0).length : Int) := by unfold f_Fo_size; rw [Ff.2.2.2.1]
  obtain ⟨g2, e2, l2, u2, F2⟩ := c_evaluate B1.1 B1.2.1 (a := f + 1) (l := lst N 0) Ff.1.2.2.1 Ff.1.2.2.2 Ff.2.2.2.2 (by rw [Ff.2.2.2.1]; exact Nat.le_refl _) (lst_ok P.2.1.1)
  have B2 := CB_f B1 F2 rfl
  obtain ⟨f3, ef3, Ff3⟩ := B2.2.2.2.2.2.2.2.1
  have q15 : hR g2 90 15 = some v := (fR F2 90 15 rfl).trans p15
  have q14 : hR g2 90 14 = some p := (fR F2 90 14 rfl).trans p14
  have F3 : Fr [(90, some 0)] g2 (sJ g2 90 0 (f_S_holding g2)) := Fr_J (Fr_r _ _) rfl
  have B3 := CB_f B2 F3 rfl
  have Ff3b := FO_f Ff3 F3 rfl
  have es3 : f_Fo_size (sJ g2 90 0 (f_S_holding g2)) f3 = ((lst N 1).length : Int) := by unfold f_Fo_size; rw [Ff3b.2.2.2.1]
  rw [es, e2, q_S_look_r34 (v2 := v) (f := f3) B2.1 B2.2.2.1.1 B2.2.2.2.2.1 q15 B2.2.2.2.2.1 ef3 Ff3.1, es3] at q
  have hb : hJ (sJ g2 90 0 (f_S_holding g2)) 90 0 = setL (lst N 0) := by
    rw [hJ_sJ, zup_s, ← low_set P.2.1.1.2.2]
    exact l2
  have r14 : hR (sJ g2 90 0 (f_S_holding g2)) 90 14 = some p := q14
  have r15 : hR (sJ g2 90 0 (f_S_holding g2)) 90 15 = some v := q15
  have F03 : Fr scrS h (sJ g2 90 0 (f_S_holding g2)) := Fr_t (Fr_m F1 rfl) (Fr_t (Fr_m F2 rfl) (Fr_m F3 rfl))
  generalize sJ g2 90 0 (f_S_holding g2) = g3 at *
  obtain ⟨g4, e4, l4, u4, F4⟩ := c_evaluate B3.1 B3.2.1 (a := f3 + 1) (l := lst N 1) Ff3b.1.2.2.1 Ff3b.1.2.2.2 Ff3b.2.2.2.2 (by rw [Ff3b.2.2.2.1]; exact Nat.le_refl _) (lst_ok P.2.1.2.1)
  have B4 := CB_f B3 F4 rfl
  have F5 : Fr [(90, some 1)] g4 (sJ g4 90 1 (f_S_holding g4)) := Fr_J (Fr_r _ _) rfl
  have B5 := CB_f B4 F5 rfl
  rw [e4, q_S_look_r66 B4.1 B4.2.2.1.1 B4.2.2.2.2.1] at q
  have ha5 : hJ (sJ g4 90 1 (f_S_holding g4)) 90 1 = setL (lst N 1) := by
    rw [hJ_sJ, zup_s, ← low_set P.2.1.2.1.2.2]
    exact l4
  have hb5 : hJ (sJ g4 90 1 (f_S_holding g4)) 90 0 = setL (lst N 0) := (fJ F5 90 0 rfl).trans ((fJ F4 90 0 rfl).trans hb)
  have s14 : hR (sJ g4 90 1 (f_S_holding g4)) 90 14 = some p := (fR F4 90 14 rfl).trans r14
  have s15 : hR (sJ g4 90 1 (f_S_holding g4)) 90 15 = some v := (fR F4 90 15 rfl).trans r15
  have F05 : Fr scrS h (sJ g4 90 1 (f_S_holding g4)) := Fr_t F03 (Fr_t (Fr_m F4 rfl) (Fr_m F5 rfl))
  generalize sJ g4 90 1 (f_S_holding g4) = g5 at *
  obtain ⟨g6, e6, S6, F6⟩ := l_look1 P n.toNat 0 g5 B5 s14 s15 (by omega) (by omega) (fun t a b => by omega)
  have B6 := CB_f B5 F6 rfl
  have hcb := cntK_b R 2 n.toNat
  obtain ⟨g7, e7, S7, F7⟩ := l_look2 P (cntK R 2 n.toNat).toNat 0 g6 B6 ((fR F6 90 14 rfl).trans s14) ((fR F6 90 15 rfl).trans s15) (by omega) (by omega) (fun t a b k q => by
    have := num_r P a b (Or.inl k)
    omega)
  refine ⟨g7, q.trans (e6.trans e7), ⟨?_, ?_, fun s a b => SCs_f (S6 s a b) F7 rfl, S7⟩, ?_, ?_, Fr_t F05 (Fr_t (Fr_m F6 rfl) (Fr_m F7 rfl))⟩
  · exact (fJ F7 90 0 rfl).trans ((fJ F6 90 0 rfl).trans hb5)
  · exact (fJ F7 90 1 rfl).trans ((fJ F6 90 1 rfl).trans ha5)
  · exact (fR F7 90 14 rfl).trans ((fR F6 90 14 rfl).trans s14)
  · exact (fR F7 90 15 rfl).trans ((fR F6 90 15 rfl).trans s15)
end CLOOK

