/-! The class: needs as conditions, written. -/
section CSHEET
variable {n top : Int} {R N : Nat → Int} {h : zH} {p v : Nat}
abbrev scrSh : FA := [(137, none), (138, none), (139, none), (140, none), (141, none), (142, none), (143, none), (144, none), (145, none), (146, none), (147, none), (148, none), (149, none), (150, none), (151, none), (152, none), (153, none), (154, none), (155, none), (156, none), (157, none), (158, none), (159, none), (160, none), (161, none), (162, none)]
theorem inSh : ∀ (r : Nat), r < 25 → ∀ k, inA scrSh (137 + r) k = true
  | 0, _, _ => rfl
  | 1, _, _ => rfl
  | 2, _, _ => rfl
  | 3, _, _ => rfl
  | 4, _, _ => rfl
  | 5, _, _ => rfl
  | 6, _, _ => rfl
  | 7, _, _ => rfl
  | 8, _, _ => rfl
  | 9, _, _ => rfl
  | 10, _, _ => rfl
  | 11, _, _ => rfl
  | 12, _, _ => rfl
  | 13, _, _ => rfl
  | 14, _, _ => rfl
  | 15, _, _ => rfl
  | 16, _, _ => rfl
  | 17, _, _ => rfl
  | 18, _, _ => rfl
  | 19, _, _ => rfl
  | 20, _, _ => rfl
  | 21, _, _ => rfl
  | 22, _, _ => rfl
  | 23, _, _ => rfl
  | 24, _, _ => rfl
  | r + 25, h, _ => absurd h (by omega)
theorem in162 (k : Nat) : inA scrSh 162 k = true := rfl
/-- row r of the sheet holds d -/
def SW (h : zH) (d : DO) (r : Nat) : Prop := isR (hI h (137 + r)) (hI h 162 r) 0 d
/-- only row r may be another -/
def FrS (r : Nat) (h h2 : zH) : Prop := Fr scrSh h h2 ∧ ∀ t, t < 25 → t ≠ r → hI h2 (137 + t) = hI h (137 + t) ∧ hI h2 162 t = hI h 162 t
theorem FrS_r (r : Nat) (h : zH) : FrS r h h := ⟨Fr_r _ _, fun _ _ _ => ⟨rfl, rfl⟩⟩
theorem FrS_t {r : Nat} {h h2 h3 : zH} (F : FrS r h h2) (G : FrS r h2 h3) : FrS r h h3 := ⟨Fr_t F.1 G.1, fun t a b => ⟨(G.2 t a b).1.trans (F.2 t a b).1, (G.2 t a b).2.trans (F.2 t a b).2⟩⟩
theorem FrS_K {r : Nat} {h h2 : zH} (F : FrS r h h2) (K : KC h) : KC h2 := KC_f K F.1 rfl
theorem SW_o {r t : Nat} {h h2 : zH} {d : DO} (S : SW h d t) (F : FrS r h h2) (ht : t < 25) (hn : t ≠ r) : SW h2 d t := by
  unfold SW
  rw [(F.2 t ht hn).1, (F.2 t ht hn).2]
  exact S
theorem row_t (K : KC h) {r : Nat} (hr : r < 25) : hR h 136 r = some (137 + r) ∧ hT h (137 + r) = 21 ∧ 137 + r < hN h ∧ hL h (137 + r) = 200 := by
  have e : ∀ j : Fin 25, cI (137 + j.val) = true ∧ cT (137 + j.val) = 21 ∧ cL (137 + j.val) = 200 := by decide +kernel
  obtain ⟨a, b, c⟩ := e ⟨r, hr⟩
  exact ⟨K.2.2.2.2.2.2.1 r hr, PTC K _ _ a b, PNC K _ a, by rw [(K.2.1 _ a).2]; exact c⟩
theorem size_e {r : Int} (h0 : 0 ≤ r) (h1 : r < 25) : f_Sh_sizeOf h r = hI h 162 r.toNat := by
  unfold f_Sh_sizeOf
  rw [if_neg (by omega), if_pos h1]
theorem SW_len {r : Nat} {l : List Int} (S : SW h (some l) r) : hI h 162 r = l.length ∧ l.length ≤ 200 := by
  have := isR_len S
  have := S.2.1
  omega
theorem c_giveUp (K : KC h) {r : Nat} (hr : r < 25) : ∃ h2, zC 118 [zR (some 135), zI r] h = some (.inl none, h2) ∧ SW h2 none r ∧ FrS r h h2 := by
  rw [q_Sh_giveUp K, if_neg (by omega), if_pos (by omega)]
  refine ⟨_, rfl, ?_, Fr_I (Fr_r _ _) (in162 _), fun t a b => ⟨?_, ?_⟩⟩
  · show hI (sI h 162 (r : Int).toNat (-1)) 162 r = -1
    rw [hI_up, show (r : Int).toNat = r by omega, upN_s]
  · show zup (hI h) 162 _ _ (137 + t) = _
    funext k
    exact zup_n _ _ _ _ _ _ (fun e => by omega)
  · rw [hI_up, upN_n _ _ (by omega)]
theorem c_appendNode (K : KC h) {r : Nat} (hr : r < 25) {d : DO} (S : SW h d r) {x : Int} (x0 : 0 ≤ x) (x1 : x ≤ 16) : ∃ h2, zC 116 [zR (some 135), zI r, zI x] h = some (.inl none, h2) ∧ SW h2 (dpush d x) r ∧ FrS r h h2 := by
  obtain ⟨rt, tt, nt, lt⟩ := row_t K hr
  have es := size_e (h := h) (r := r) (by omega) (by omega)
  rw [show (r : Int).toNat = r by omega] at es
  have q := q_Sh_appendNode (h := h) (x1 := (r : Int)) (x2 := x) (a := 137 + r) K (by rw [show (r : Int).toNat = r by omega]; exact rt) tt nt
  rw [es, lt, show (r : Int).toNat = r by omega] at q
  cases d with
  | none =>
    have S : hI h 162 r = -1 := S
    rw [if_pos (by omega), if_pos (by omega)] at q
    exact ⟨h, q, S, FrS_r _ _⟩
  | some l =>
    obtain ⟨sl, sb⟩ := SW_len S
    by_cases c : l.length = 200
    · rw [if_neg (by omega)] at q
      obtain ⟨g, e, S2, F⟩ := c_giveUp K hr
      rw [e, q_Sh_appendNode_r18 (FrS_K F K)] at q
      refine ⟨g, q, ?_, F⟩
      show SW g (if l.length = 200 then none else some (l ++ [x])) r
      rw [if_pos c]; exact S2
    · rw [if_pos (by omega), if_neg (by omega), if_neg (by omega), if_pos (by omega), gd_t (by omega), gd_t (by omega), zi2b_v x0 (by omega)] at q
      have F : FrS r h (sI (sI h (137 + r) (hI h 162 r).toNat x) 162 r (hI h 162 r + 1)) := ⟨Fr_I (Fr_I (Fr_r _ _) (inSh r hr _)) (in162 _), fun t a b => by
        constructor
        · funext k
          show zup (zup (hI h) _ _ _) 162 _ _ (137 + t) k = _
          rw [zup_n _ _ _ _ _ _ (fun e => by omega), zup_n _ _ _ _ _ _ (fun e => by omega)]
        · rw [hI_up, upN_n _ _ b]
          show zup (hI h) _ _ _ 162 t = _
          exact zup_n _ _ _ _ _ _ (fun e => by omega)⟩
      refine ⟨_, q, ?_, F⟩
      show SW _ (if l.length = 200 then none else some (l ++ [x])) r
      rw [if_neg c]
      have e1 : hI (sI (sI h (137 + r) (hI h 162 r).toNat x) 162 r (hI h 162 r + 1)) 162 r = hI h 162 r + 1 := by rw [hI_up, upN_s]
      have e2 : hI (sI (sI h (137 + r) (hI h 162 r).toNat x) 162 r (hI h 162 r + 1)) (137 + r) = upN (hI h (137 + r)) l.length x := by
        funext k
        show zup (zup (hI h) _ _ _) 162 _ _ (137 + r) k = _
        rw [zup_n _ _ _ _ _ _ (fun e => by omega)]
        show hI (sI h (137 + r) (hI h 162 r).toNat x) (137 + r) k = _
        rw [hI_up, show (hI h 162 r).toNat = l.length by omega]
      unfold SW
      rw [e1, e2, sl]
      refine ⟨by omega, by omega, ?_⟩
      rw [show ((l.length : Int) + 1).toNat = l.length + 1 by omega, upto_snoc, Nat.zero_add, upN_s]
      congr 1
      have := S.2.2
      rw [sl, Int.toNat_natCast] at this
      rw [upto_congr (f := upN (hI h (137 + r)) l.length x) (g := hI h (137 + r)) (b := 0) (c := 0) l.length [] (fun i hi => upN_n _ _ (by omega))]
      exact this
theorem l_appF {r : Nat} (hr : r < 25) {f : Nat} {l0 : List Int} {A : Nat → Int} (hl0 : l0.length ≤ 200) : ∀ (m j : Nat) (h : zH) (d : DO), KC h → FO h f l0 → hI h (f + 1) = A → j + m = l0.length → (∀ k, k < l0.length → 0 ≤ A k ∧ A k ≤ 16) → SW h d r → ∃ h2, zY 115 2 [some (zR (some 135)), some (zI r), some (zR (some f)), some (zI j)] [] h = some (.inl none, h2) ∧ SW h2 (dapp d (upto A j m [])) r ∧ FrS r h h2
  | 0, j, h, d, K, Ff, hA, hj, hb, S => by
    rw [q_Sh_appendFormula_2 K Ff.1, Ff.2.2.2.1, if_neg (by omega)]
    exact ⟨h, rfl, S, FrS_r _ _⟩
  | m + 1, j, h, d, K, Ff, hA, hj, hb, S => by
    have hbj := hb j (by omega)
    obtain ⟨g, e, S2, F⟩ := c_appendNode K hr S hbj.1 hbj.2
    have Kg := FrS_K F K
    have Fg := FO_f Ff F.1 rfl
    rw [q_Sh_appendFormula_2 K Ff.1, Ff.2.2.2.1, if_pos (by omega), gd_t (by omega), hA, show (j : Int).toNat = j by omega, e, q_Sh_appendFormula_r22 Kg Fg.1, gd_t (by omega), show ((j : Int) + 1) = ((j + 1 : Nat) : Int) by omega]
    obtain ⟨g3, e3, S3, F3⟩ := l_appF hr hl0 m (j + 1) g _ Kg Fg (by rw [oI F.1 rfl Ff.2.2.1]; exact hA) (by omega) hb S2
    refine ⟨g3, e3, ?_, FrS_t F F3⟩
    rw [upto_cons]
    exact S3
theorem nodes_b {l : List Int} {T : List Bool} (h : tyS l = some T) {A : Nat → Int} (hl : l = upto A 0 l.length []) : ∀ k, k < l.length → 0 ≤ A k ∧ A k ≤ 16 := fun k hk => by
  have e := upto_get A 0 l.length [] k hk
  rw [← hl, Nat.zero_add] at e
  have hm : l.getD k 0 ∈ l := by
    rw [List.getD_eq_getElem?_getD, List.getElem?_eq_getElem hk]
    exact List.getElem_mem hk
  rw [e] at hm
  exact tyS_node h _ hm
theorem c_appendFormula (K : KC h) {r : Nat} (hr : r < 25) {f : Nat} {l : List Int} {T : List Bool} (Ff : FO h f l) (ht : tyS l = some T) (hl0 : l.length ≤ 200) {d : DO} (S : SW h d r) : ∃ h2, zC 115 [zR (some 135), zI r, zR (some f)] h = some (.inl none, h2) ∧ SW h2 (dapp d l) r ∧ FrS r h h2 := by
  rw [q_Sh_appendFormula K Ff.1]
  obtain ⟨g, e, S2, F⟩ := l_appF hr (A := hI h (f + 1)) hl0 l.length 0 h d K Ff rfl (by omega) (nodes_b ht Ff.2.2.2.2) S
  rw [← Ff.2.2.2.2] at S2
  exact ⟨g, e, S2, F⟩
theorem l_appR {r t : Nat} (hr : r < 25) (ht : t < 25) (hn : t ≠ r) {l0 : List Int} {A : Nat → Int} : ∀ (m j : Nat) (h : zH) (d : DO), KC h → SW h (some l0) t → hI h (137 + t) = A → j + m = l0.length → (∀ k, k < l0.length → 0 ≤ A k ∧ A k ≤ 16) → SW h d r → ∃ h2, zY 121 24 [some (zR (some 135)), some (zI r), some (zI t), some (zR (some (137 + t))), some (zI j)] [] h = some (.inl none, h2) ∧ SW h2 (dapp d (upto A j m [])) r ∧ FrS r h h2
  | 0, j, h, d, K, W, hA, hj, hb, S => by
    obtain ⟨rt, tt, nt, lt⟩ := row_t K ht
    have es := size_e (h := h) (r := t) (by omega) (by omega)
    rw [show (t : Int).toNat = t by omega, (SW_len W).1] at es
    rw [q_Sh_appendRow_24 K tt nt, es, if_neg (by omega)]
    exact ⟨h, rfl, S, FrS_r _ _⟩
  | m + 1, j, h, d, K, W, hA, hj, hb, S => by
    obtain ⟨rt, tt, nt, lt⟩ := row_t K ht
    have es := size_e (h := h) (r := t) (by omega) (by omega)
    rw [show (t : Int).toNat = t by omega, (SW_len W).1] at es
    have hl := (SW_len W).2
    have hbj := hb j (by omega)
    obtain ⟨g, e, S2, F⟩ := c_appendNode K hr S hbj.1 hbj.2
    have Kg := FrS_K F K
    obtain ⟨rt2, tt2, nt2, lt2⟩ := row_t Kg ht
    rw [q_Sh_appendRow_24 K tt nt, es, if_pos (by omega), lt, if_pos (by omega), gd_t (by omega), hA, show (j : Int).toNat = j by omega, e, q_Sh_appendRow_r50 Kg tt2 nt2, gd_t (by omega), show ((j : Int) + 1) = ((j + 1 : Nat) : Int) by omega]
    obtain ⟨g3, e3, S3, F3⟩ := l_appR hr ht hn m (j + 1) g _ Kg (SW_o W F ht hn) ((F.2 t ht hn).1.trans hA) (by omega) hb S2
    refine ⟨g3, e3, ?_, FrS_t F F3⟩
    rw [upto_cons]
    exact S3
theorem SW_nodes {t : Nat} {l : List Int} (W : SW h (some l) t) (o : tyS l = some [true]) : ∀ k, k < l.length → 0 ≤ hI h (137 + t) k ∧ hI h (137 + t) k ≤ 16 := by
  refine nodes_b o ?_
  have := W.2.2
  rw [(SW_len W).1, Int.toNat_natCast] at this
  exact this
theorem SW_list {t : Nat} {l : List Int} (W : SW h (some l) t) : upto (hI h (137 + t)) 0 l.length [] = l := by
  have := W.2.2
  rw [(SW_len W).1, Int.toNat_natCast] at this
  exact this.symm
theorem c_appendRow (K : KC h) {r t : Nat} (hr : r < 25) (ht : t < 25) (hn : t ≠ r) {d e : DO} (S : SW h d r) (W : SW h e t) (o : wOk e) : ∃ h2, zC 121 [zR (some 135), zI r, zI t] h = some (.inl none, h2) ∧ SW h2 (apO d e) r ∧ FrS r h h2 := by
  obtain ⟨rt, tt, nt, lt⟩ := row_t K ht
  have es := size_e (h := h) (r := t) (by omega) (by omega)
  rw [show (t : Int).toNat = t by omega] at es
  have er : f_Sh_rowOf h t = some (137 + t) := by
    unfold f_Sh_rowOf
    rw [if_neg (by omega), if_pos (by omega), show (t : Int).toNat = t by omega]
    exact rt
  rw [q_Sh_appendRow K er tt nt, es]
  cases e with
  | none =>
    have W : hI h 162 t = -1 := W
    obtain ⟨g, eg, S2, F⟩ := c_giveUp K hr
    rw [if_pos W, eg, q_Sh_appendRow_r14 (FrS_K F K)]
    exact ⟨g, rfl, S2, F⟩
  | some l =>
    have hl := SW_len W
    rw [if_neg (by omega)]
    obtain ⟨g, eg, S2, F⟩ := l_appR hr ht hn (A := hI h (137 + t)) l.length 0 h d K W rfl (by omega) (SW_nodes W (o l rfl).1) S
    rw [SW_list W] at S2
    exact ⟨g, eg, S2, F⟩
/-- one node of a row that is swapped -/
theorem l_swap {r t : Nat} (hr : r < 25) (ht : t < 25) (hn : t ≠ r) {l0 E : List Int} {A : Nat → Int} {x : Int} (hx : 0 ≤ x ∧ x ≤ 2) {f : Nat} (hE : tyS E = some [false]) (hEl : E.length ≤ 200) : ∀ (m j : Nat) (h : zH) (d : DO), KC h → SW h (some l0) t → FO h f E → f_S_formulaOf h r = some f → hI h (137 + t) = A → j + m = l0.length → (∀ k, k < l0.length → 0 ≤ A k ∧ A k ≤ 16) → SW h d r → ∃ h2, zY 123 40 [some (zR (some 135)), some (zI r), some (zI t), some (zI x), some (zR (some (137 + t))), some (zI j)] [] h = some (.inl none, h2) ∧ SW h2 (dapp d (swp (4 + x) E (upto A j m []))) r ∧ FrS r h h2
  | 0, j, h, d, K, W, Ff, ef, hA, hj, hb, S => by
    obtain ⟨rt, tt, nt, lt⟩ := row_t K ht
    have es := size_e (h := h) (r := t) (by omega) (by omega)
    rw [show (t : Int).toNat = t by omega, (SW_len W).1] at es
    rw [q_Sh_writeSwapped_40 K tt nt ef Ff.1, es, if_neg (by omega)]
    exact ⟨h, rfl, S, FrS_r _ _⟩
  | m + 1, j, h, d, K, W, Ff, ef, hA, hj, hb, S => by
    obtain ⟨rt, tt, nt, lt⟩ := row_t K ht
    have es := size_e (h := h) (r := t) (by omega) (by omega)
    rw [show (t : Int).toNat = t by omega, (SW_len W).1] at es
    have hl := (SW_len W).2
    have hbj := hb j (by omega)
    have nx : ∀ (g : zH) (d2 : DO), FrS r h g → SW g d2 r → ∃ h2, zY 123 40 [some (zR (some 135)), some (zI r), some (zI t), some (zI x), some (zR (some (137 + t))), some (zI ((j + 1 : Nat) : Int))] [] g = some (.inl none, h2) ∧ SW h2 (dapp d2 (swp (4 + x) E (upto A (j + 1) m []))) r ∧ FrS r h h2 := fun g d2 F S2 => by
      have efg : f_S_formulaOf g r = some f := by
        rw [← ef]
        unfold f_S_formulaOf
        rw [rR F.1 97 rfl]
      obtain ⟨g3, e3, S3, F3⟩ := l_swap hr ht hn hx hE hEl m (j + 1) g d2 (FrS_K F K) (SW_o W F ht hn) (FO_f Ff F.1 rfl) efg ((F.2 t ht hn).1.trans hA) (by omega) hb S2
      exact ⟨g3, e3, S3, FrS_t F F3⟩
    have eu : swp (4 + x) E (upto A j (m + 1) []) = (if A j = 4 + x then E else [A j]) ++ swp (4 + x) E (upto A (j + 1) m []) := by
      rw [upto_cons]
      unfold swp
      rw [List.flatMap_cons]
    rw [q_Sh_writeSwapped_40 K tt nt ef Ff.1, es, if_pos (by omega), lt, if_pos (by omega), gd_t (by omega), gd_t (by omega), hA, show (j : Int).toNat = j by omega, eu, dapp_app]
    by_cases c : A j = 4 + x
    · obtain ⟨g, e, S2, F⟩ := c_appendFormula K hr Ff hE hEl S
      obtain ⟨rt2, tt2, nt2, lt2⟩ := row_t (FrS_K F K) ht
      rw [if_pos c, if_pos c, e, q_Sh_writeSwapped_r82 (FrS_K F K) tt2 nt2, gd_t (by omega), show ((j : Int) + 1) = ((j + 1 : Nat) : Int) by omega]
      exact nx g _ F S2
    · obtain ⟨g, e, S2, F⟩ := c_appendNode K hr S hbj.1 hbj.2
      obtain ⟨rt2, tt2, nt2, lt2⟩ := row_t (FrS_K F K) ht
      rw [if_neg c, if_neg c, e, q_Sh_writeSwapped_r95 (FrS_K F K) tt2 nt2, gd_t (by omega), show ((j : Int) + 1) = ((j + 1 : Nat) : Int) by omega]
      exact nx g _ F S2
theorem c_writeSwapped (K : KC h) {s t : Nat} (hs : s < 24) (ht : t < 25) (hn : t ≠ s) {d e : DO} (S : SW h d s) (W : SW h e t) (o : wOk e) (Sc : SCs h R N s) (P : Prg n top R N) (hsn : (s : Int) < n) (hv3 : sv R s 0 = 3 → sv R s 1 = -1) (k : sv R s 0 = 0 ∨ sv R s 0 = 3) : ∃ h2, zC 123 [zR (some 135), zI s, zI t] h = some (.inl none, h2) ∧ SW h2 (if hsW R N s = true then apO d (e.map (swp (swV R N s) (swE R N s))) else apO d e) s ∧ FrS s h h2 := by
  have w1 := P.1.2.1 s (by omega) hsn
  have v1 := P.2.1.2.2 s (by omega) hsn
  obtain ⟨rt, tt, nt, lt⟩ := row_t K ht
  have es := size_e (h := h) (r := t) (by omega) (by omega)
  rw [show (t : Int).toNat = t by omega] at es
  have er : f_Sh_rowOf h t = some (137 + t) := by
    unfold f_Sh_rowOf
    rw [if_neg (by omega), if_pos (by omega), show (t : Int).toNat = t by omega]
    exact rt
  have etg : f_S_targetOf h s = tgS R N s := by
    unfold f_S_targetOf
    rw [if_neg (by omega), if_pos (by omega)]
    exact Sc.1
  rw [q_Sh_writeSwapped K er tt nt, es, etg]
  have row : ∃ h2, zBack zY 123 26 29 [some (zR (some 135)), some (zI s), some (zI t), some (zI (tgS R N s)), none, none] [] (zC 121 [zR (some 135), zI s, zI t] h) = some (.inl none, h2) ∧ SW h2 (apO d e) s ∧ FrS s h h2 := by
    obtain ⟨g, eg, S2, F⟩ := c_appendRow K (show s < 25 by omega) ht hn S W o
    rw [eg, q_Sh_writeSwapped_r29 (FrS_K F K)]
    exact ⟨g, rfl, S2, F⟩
  by_cases c : hsW R N s = true
  · have htg : tgS R N s = swV R N s - 4 ∧ cfL R N s = swE R N s ∧ 0 ≤ tgS R N s ∧ tgS R N s ≤ 2 := by
      unfold hsW at c
      simp only [Bool.or_eq_true, decide_eq_true_eq] at c
      unfold tgS swV swE cfL
      by_cases k0 : sv R s 0 = 0
      · have := w1.2.1 k0
        rw [if_neg (by omega), if_pos k0, if_pos k0, if_neg (by omega)]
        exact ⟨by omega, rfl, by omega, by omega⟩
      · have k3 : sv R s 0 = 3 := by omega
        have hN := v1.2.2.2.1 k3
        have hf : N (2294 + (s : Int)).toNat ≠ -1 := c.resolve_left k0
        rw [if_pos ⟨k3, hf⟩, if_neg k0, if_neg k0, if_pos k3, if_neg hf]
        exact ⟨by omega, rfl, by omega, by omega⟩
    rw [if_pos c, if_neg (by omega)]
    cases e with
    | none =>
      have W : hI h 162 t = -1 := W
      rw [if_pos W]
      exact row
    | some l =>
      have hl := SW_len W
      rw [if_neg (by omega)]
      obtain ⟨f, ef, Ff⟩ := Sc.2.1
      have efo : f_S_formulaOf h s = some f := by
        unfold f_S_formulaOf
        rw [if_neg (by omega), if_pos (by omega)]
        exact ef
      have hE : tyS (cfL R N s) = some [false] := by
        rw [htg.2.1]
        unfold swE
        by_cases k0 : sv R s 0 = 0
        · rw [if_pos k0]; exact (v1.1 k0).2.2
        · rw [if_neg k0]
          have k3 : sv R s 0 = 3 := by omega
          have hN := v1.2.2.2.1 k3
          unfold hsW at c
          simp only [Bool.or_eq_true, decide_eq_true_eq] at c
          exact flF_ty (by have := c.resolve_left k0; omega)
      obtain ⟨g, eg, S2, F⟩ := l_swap (show s < 25 by omega) ht hn (A := hI h (137 + t)) (x := tgS R N s) htg.2.2 hE (cfL_ok P.1 P.2.1 (by omega) hsn).2 l.length 0 h d K W Ff efo rfl (by omega) (SW_nodes W (o l rfl).1) S
      rw [SW_list W, htg.1, show 4 + (swV R N s - 4) = swV R N s by omega, htg.2.1] at S2
      rw [htg.1] at eg ⊢
      exact ⟨g, eg, S2, F⟩
  · rw [if_neg c]
    have htg : tgS R N s = -1 := by
      unfold hsW at c
      simp only [Bool.or_eq_true, decide_eq_true_eq] at c
      unfold tgS
      by_cases k0 : sv R s 0 = 0
      · exact absurd (Or.inl k0) c
      · have k3 : sv R s 0 = 3 := by omega
        by_cases q : N (2294 + (s : Int)).toNat = -1
        · rw [if_neg (fun z => z.2 q)]; exact hv3 k3
        · exact absurd (Or.inr q) c
    rw [if_pos htg]
    exact row
end CSHEET

