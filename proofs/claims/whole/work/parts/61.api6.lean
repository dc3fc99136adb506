/-! The reference: needs as conditions, asked. -/
section API6
variable {n top : Int} {R N : Nat → Int}
theorem l_writtenValue {s st : Int} {A : Nat → Int} (hs : 0 ≤ s) (hs2 : s < 24) (h0 : 0 ≤ st) (h1 : st < 64) : ∀ (k : Nat) (l : List Int) (h : zH) (T : List Bool), KM h → hI h 189 = A → tyS (upto A (201 * s).toNat k l) = some T → hI h 177 21 = (evs st l).length → stk (hI h 187) (evs st l) → k + l.length ≤ 200 → ∃ h2, zY 337 14 [some (zR (some 177)), some (zI s), some (zI st), some (zI ((k : Int) - 1))] [] h = some (.inl (some (zI (hI h2 187 0))), h2) ∧ stk (hI h2 187) (evs st (upto A (201 * s).toNat k l)) ∧ Fr scrE h h2
  | 0, l, h, T, K, hA, ht, hm, hs3, hl => by
    rw [q_M_writtenValue_14 K, if_pos (by omega)]
    exact ⟨h, rfl, hs3, Fr_r _ _⟩
  | k + 1, l, h, T, K, hA, ht, hm, hs3, hl => by
    have ht2 : tyS (upto A (201 * s).toNat k (A ((201 * s).toNat + k) :: l)) = some T := ht
    have ht3 := ht2
    rw [upto_app] at ht3
    obtain ⟨T2, ht4⟩ := tyS_suf ht3
    obtain ⟨T1, ht5, ht6⟩ := Option.bind_eq_some_iff.mp ht4
    have hv := evs_ok h0 h1 ht5
    have hlen := tyS_len ht5
    have hlen2 := vok_len hv
    have ei : (201 * s + (((k + 1 : Nat) : Int) - 1)).toNat = (201 * s).toNat + k := by omega
    rw [q_M_writtenValue_14 K, if_neg (by omega), gd_t (by omega), gd_t (by omega), gd_t (by omega), ei, hA]
    obtain ⟨h2, e2, m2, s2, F2⟩ := c_reckons K (st := st) ht6 hv hm hs3 (by omega)
    have K2 := KM_f K F2 rfl
    rw [e2, q_M_writtenValue_r35 K2, gd_t (by omega), show ((k + 1 : Nat) : Int) - 1 + -1 = (k : Int) - 1 by omega]
    obtain ⟨h3, e4, s4, F3⟩ := l_writtenValue hs hs2 h0 h1 k (A ((201 * s).toNat + k) :: l) h2 T K2 ((rI F2 189 rfl).trans hA) ht2 m2 s2 (by simp only [List.length_cons]; omega)
    exact ⟨h3, e4, s4, Fr_t F2 F3⟩
theorem c_writtenValue {h : zH} (K : KM h) {s st : Int} {l : List Int} (hs : 0 ≤ s) (hs2 : s < 24) (h0 : 0 ≤ st) (h1 : st < 64) (W : WR h (some l) s) (ht : tyS l = some [true]) : ∃ h2, zC 337 [zR (some 177), zI s, zI st] h = some (.inl (some (zI (val l st))), h2) ∧ Fr scrE h h2 := by
  have hl := isR_len W
  obtain ⟨w1, w2, w3⟩ := W
  have F1 : Fr scrE h (sI h 177 21 0) := Fr_I (Fr_r _ _) rfl
  have K1 := KM_f K F1 rfl
  rw [q_M_writtenValue K, gd_t (by omega), gd_t (by omega)]
  obtain ⟨h2, e2, s2, F2⟩ := l_writtenValue (A := hI h 189) hs hs2 h0 h1 (hI h 190 s.toNat).toNat [] (sI h 177 21 0) [true] K1 (rI F1 189 rfl) (by rw [← w3]; exact ht) rfl trivial (by simp; omega)
  rw [show (((hI h 190 s.toNat).toNat : Nat) : Int) = hI h 190 s.toNat by omega] at e2
  refine ⟨h2, ?_, Fr_t F1 F2⟩
  rw [e2]
  rw [← w3, (val_ok ht h0 h1).1] at s2
  rw [show hI h2 187 0 = val l st from s2.1]
def gpF (l : List Int) (b : BitVec 64) (st : Int) : Int := if val l st = 1 ↔ bt b st = true then 0 else 1
def gpS (d : DO) (b : BitVec 64) : Int := match d with | none => 0 | some l => zsum (gpF l b) 0 64
theorem l_gap {s : Int} {l : List Int} {b : BitVec 64} (hs : 0 ≤ s) (hs2 : s < 24) (ht : tyS l = some [true]) : ∀ (m : Nat) (x y : Int) (h : zH), KM h → WR h (some l) s → hJ h 188 s.toNat = b → 0 ≤ x → x + m = 64 → 0 ≤ y → y ≤ x → ∃ h2, zY 336 26 [some (zR (some 177)), some (zI s), some (zI y), some (zI x)] [] h = some (.inl (some (zI (y + zsum (gpF l b) x m))), sI h2 177 1 0) ∧ Fr scrE h h2
  | 0, x, y, h, K, W, hb, h0, h1, hy, hy2 => by
    rw [q_M_gap_26 K, if_neg (by omega), zsum, Int.add_zero]
    exact ⟨h, rfl, Fr_r _ _⟩
  | m + 1, x, y, h, K, W, hb, h0, h1, hy, hy2 => by
    have hW := W.1
    have hv := val_ok ht (st := x) h0 (by omega)
    rw [q_M_gap_26 K, if_pos (by omega), gd_t (by omega), if_neg (by omega)]
    obtain ⟨h2, e2, F2⟩ := c_writtenValue K hs hs2 h0 (by omega) W ht
    have K2 := KM_f K F2 rfl
    have W2 := WR_f W F2 rfl rfl
    have hb2 : hJ h2 188 s.toNat = b := (fJ F2 188 _ rfl).trans hb
    have hh := holds_e b h0 (show x < 64 by omega)
    rw [e2, q_M_gap_r49 K2, hb2, gd_t (by omega), zsum]
    have nx : ∀ z, 0 ≤ z → z ≤ 1 → gpF l b x = z → gd (-2147483648 ≤ y + z ∧ y + z < 2147483648) (gd (-2147483648 ≤ x + 1 ∧ x + 1 < 2147483648) (zY 336 26 [some (zR (some 177)), some (zI s), some (zI (y + z)), some (zI (x + 1))] [] h2)) = zY 336 26 [some (zR (some 177)), some (zI s), some (zI (y + gpF l b x)), some (zI (x + 1))] [] h2 := fun z z0 z1 e => by
      rw [gd_t (by omega), gd_t (by omega), e]
    have hg : 0 ≤ gpF l b x ∧ gpF l b x ≤ 1 := by unfold gpF; split <;> omega
    obtain ⟨h3, e3, F3⟩ := l_gap hs hs2 ht m (x + 1) (y + gpF l b x) h2 K2 W2 hb2 (by omega) (by omega) (by omega) (by omega)
    refine ⟨h3, ?_, Fr_t F2 F3⟩
    rw [Int.add_assoc] at e3
    rw [← e3]
    have hg2 : gpF l b x = if val l x = 1 ↔ bt b x = true then 0 else 1 := rfl
    by_cases c : val l x = 1
    · rw [if_pos c]
      by_cases d : bt b x = true
      · rw [if_pos (by rw [if_pos (hh.2 d)])]
        exact nx 0 (by decide) (by decide) (by rw [hg2, if_pos (by simp [c, d])])
      · rw [if_neg (by rw [if_neg (fun q => d (hh.1 q))]; decide)]
        exact nx 1 (by decide) (by decide) (by rw [hg2, if_neg (by simp [c, d])])
    · rw [if_neg c, gd_t (by omega)]
      by_cases d : bt b x = true
      · rw [if_neg (by rw [if_pos (hh.2 d)]; decide)]
        exact nx 1 (by decide) (by decide) (by rw [hg2, if_neg (by simp [c, d])])
      · rw [if_pos (by rw [if_neg (fun q => d (hh.1 q))])]
        exact nx 0 (by decide) (by decide) (by rw [hg2, if_pos (by simp [c, d])])
def dLen (d : DO) : Int := match d with | none => -1 | some l => l.length
theorem WR_len {h : zH} {d : DO} {s : Int} (W : WR h d s) : hI h 190 s.toNat = dLen d := by
  cases d with
  | none => exact W
  | some l => exact isR_len W
def aNeedNodes (n : Int) (R N : Nat → Int) (s : Int) : Int × zV := if 0 ≤ s ∧ s < n then (0, zI (dLen (WW n R N s))) else (1, zI 0)
theorem m_needNodes {h : zH} (M : MB n top R N h) (P : Prg n top R N) (s : Int) : MA h 335 [zI s] (aNeedNodes n R N s) := by
  have w0 := P.1.1
  have m1 := M.2.1
  unfold aNeedNodes
  have hq := q_M_needNodes (h := h) (x1 := s) M.1
  have hs := isSt_e M s
  by_cases c : 0 ≤ s ∧ s < n
  · obtain ⟨h2, e2, A2, F2⟩ := c_writesNeeds M P
    rw [if_pos (hs.2 c), e2, q_M_needNodes_r18 (KM_f M.1 F2 rfl), gd_t (by omega), WR_len (A2 s c.1 c.2)] at hq
    rw [if_pos c]
    exact MA_i (Fr_m F2 rfl) hq
  · rw [if_neg (fun q => c (hs.1 q))] at hq
    rw [if_neg c]
    exact MA_i (Fr_r _ _) hq
def aGap (n : Int) (R N : Nat → Int) (s : Int) : Int × zV := if 0 ≤ s ∧ s < n then (0, zI (gpS (WW n R N s) (NN n R N s))) else (1, zI 0)
theorem m_gap {h : zH} (M : MB n top R N h) (P : Prg n top R N) (s : Int) : MA h 336 [zI s] (aGap n R N s) := by
  have w0 := P.1.1
  have m1 := M.2.1
  unfold aGap
  have hq := q_M_gap (h := h) (x1 := s) M.1
  have hs := isSt_e M s
  by_cases c : 0 ≤ s ∧ s < n
  · obtain ⟨h2, e2, A2, F2⟩ := c_writesNeeds M P
    have M2 := MB_f M F2 rfl
    obtain ⟨h3, e3, A3, F3⟩ := c_laysNeeds M2 P.1 P.2.1 (isTH_t P.1) (Prg_S P).2.2.2.2.1
    have M3 := MB_f M2 F3 rfl
    have W3 : WR h3 (WW n R N s) s := WR_f (A2 s c.1 c.2) F3 rfl rfl
    have b3 := A3 s c.1 c.2
    have F23 : Fr scrQ h h3 := Fr_t (Fr_m F2 rfl) (Fr_m F3 rfl)
    rw [if_pos (hs.2 c), e2, q_M_gap_r18 M2.1, e3, q_M_gap_r22 M3.1] at hq
    rw [if_pos c]
    have hok := WW_ok2 P c.1 c.2
    cases hd : WW n R N s with
    | none =>
      rw [hd] at W3
      have W4 : hI h3 190 s.toNat = -1 := W3
      rw [q_M_gap_26 M3.1, if_pos (by decide), gd_t (by omega), if_pos W4] at hq
      exact MA_i F23 hq
    | some l =>
      rw [hd] at W3
      have h5 := hok l hd
      obtain ⟨h6, e6, F6⟩ := l_gap c.1 (by omega) h5.1 64 0 0 h3 M3.1 W3 b3 (by omega) (by omega) (by omega) (by omega)
      rw [e6, Int.zero_add] at hq
      exact MA_i (Fr_t F23 (Fr_m F6 rfl)) hq
  · rw [if_neg (fun q => c (hs.1 q))] at hq
    rw [if_neg c]
    exact MA_i (Fr_r _ _) hq
/-- the letters of a word -/
def ktW (i : Int) : Nat → Int → List Int
  | 0, _ => []
  | m + 1, j => if mKeys.getD (5 * i + j).toNat 0 = 0 then [] else mKeys.getD (5 * i + j).toNat 0 :: ktW i m (j + 1)
def nodeW (x : Int) : List Int := if x < 4 then [48 + x] else ktW (x - 4) 5 0
/-- a row of nodes as text, from place j on -/
def rwO : Nat → List Int → List Int
  | _, [] => []
  | 0, x :: l => nodeW x ++ rwO 1 l
  | j + 1, x :: l => 32 :: (nodeW x ++ rwO (j + 2) l)
theorem ktW_len (i : Int) : ∀ (m : Nat) (j : Int), (ktW i m j).length ≤ m
  | 0, _ => Nat.le_refl _
  | m + 1, j => by
    unfold ktW
    split
    · exact Nat.zero_le _
    · exact Nat.succ_le_succ (ktW_len i m (j + 1))
theorem nodeW_len (x : Int) : (nodeW x).length ≤ 5 := by
  unfold nodeW
  split
  · simp
  · exact ktW_len _ 5 0
theorem rwO_len : ∀ (l : List Int) (j : Nat), (rwO j l).length ≤ 6 * l.length
  | [], _ => by simp [rwO]
  | x :: l, 0 => by
    have := nodeW_len x
    have := rwO_len l 1
    simp only [rwO, List.length_append, List.length_cons]; omega
  | x :: l, j + 1 => by
    have := nodeW_len x
    have := rwO_len l (j + 2)
    simp only [rwO, List.length_append, List.length_cons]; omega
theorem mKeys_r (k : Nat) : 0 ≤ mKeys.getD k 0 ∧ mKeys.getD k 0 < 128 := by
  by_cases c : k < 110
  · exact (show ∀ i : Fin 110, 0 ≤ mKeys.getD i.val 0 ∧ mKeys.getD i.val 0 < 128 by decide +kernel) ⟨k, c⟩
  · rw [List.getD_eq_getElem?_getD, List.getElem?_eq_none (by have : mKeys.length = 110 := by rfl
                                                              omega)]
    decide
/-- what was written, as a row of bytes -/
def OU (h : zH) (O : List Int) : Prop := hI h 177 17 = O.length ∧ O.length ≤ 1400 ∧ O = upto (hI h 186) 0 O.length []
abbrev scrO : FA := [(186, none), (177, some 17)]
theorem zi2b_v {x : Int} (h0 : 0 ≤ x) (h1 : x < 128) : zi2b x = x := finN (P := fun x => zi2b x = x) (n := 128) (by decide +kernel) h0 h1
theorem c_writes {h : zH} (K : KM h) {O : List Int} (U : OU h O) {x : Int} (h0 : 0 ≤ x) (h1 : x < 128) (hl : O.length < 1400) : ∃ h2, zC 332 [zR (some 177), zI x] h = some (.inl none, h2) ∧ OU h2 (O ++ [x]) ∧ Fr scrO h h2 := by
  obtain ⟨u1, u2, u3⟩ := U
  rw [q_M_writes K, gd_t (by omega), gd_t (by omega), zi2b_v h0 h1]
  refine ⟨_, rfl, ?_, Fr_I (Fr_I (Fr_r _ _) rfl) rfl⟩
  have e1 : hI (sI (sI h 186 (hI h 177 17).toNat x) 177 17 (hI h 177 17 + 1)) 177 17 = hI h 177 17 + 1 := rfl
  have e2 : hI (sI (sI h 186 (hI h 177 17).toNat x) 177 17 (hI h 177 17 + 1)) 186 = upN (hI h 186) (hI h 177 17).toNat x := by
    rw [← hI_up]
    rfl
  unfold OU
  rw [e1, e2, List.length_append]
  refine ⟨by rw [u1]; rfl, by simp only [List.length_cons, List.length_nil]; omega, ?_⟩
  show _ = upto _ 0 O.length [_]
  rw [upto_app, Nat.zero_add, u1, Int.toNat_natCast, upN_s]
  congr 1
  rw [u3, upto_len]
  exact upto_congr _ _ fun i hi => by rw [upN_n _ _ (by simp only [List.length_nil] at hi ⊢; omega)]
theorem l_writesNode {x : Int} (hx : 4 ≤ x) (hx2 : x ≤ 16) : ∀ (m : Nat) (j : Int) (h : zH) (O : List Int), KM h → OU h O → 0 ≤ j → j + m = 5 → O.length + m < 1400 → ∃ h2, zY 333 20 [some (zR (some 177)), some (zI x), some (zI (x - 4)), some (zI j)] [] h = some (.inl none, h2) ∧ OU h2 (O ++ ktW (x - 4) m j) ∧ Fr scrO h h2
  | 0, j, h, O, K, U, h0, hj, hl => by
    rw [q_M_writesNode_20 K, if_neg (by omega), ktW, List.append_nil]
    exact ⟨h, rfl, U, Fr_r _ _⟩
  | m + 1, j, h, O, K, U, h0, hj, hl => by
    have hk := mKeys_r (5 * (x - 4) + j).toNat
    rw [q_M_writesNode_20 K, if_pos (by omega), gd_t (by omega), gd_t (by omega), gd_t (by omega), K.2.2.2, ktW]
    by_cases c : mKeys.getD (5 * (x - 4) + j).toNat 0 = 0
    · rw [if_pos c, if_pos c, List.append_nil]
      exact ⟨h, rfl, U, Fr_r _ _⟩
    · rw [if_neg c, if_neg c]
      obtain ⟨h2, e2, U2, F2⟩ := c_writes K U hk.1 hk.2 (by omega)
      have K2 := KM_f K F2 rfl
      obtain ⟨h3, e3, U3, F3⟩ := l_writesNode hx hx2 m (j + 1) h2 _ K2 U2 (by omega) (by omega) (by simp only [List.length_append, List.length_cons, List.length_nil]; omega)
      rw [e2, q_M_writesNode_r52 K2, gd_t (by omega)]
      refine ⟨h3, e3, ?_, Fr_t F2 F3⟩
      rw [List.append_assoc] at U3
      exact U3
theorem c_writesNode {h : zH} (K : KM h) {O : List Int} (U : OU h O) {x : Int} (h0 : 0 ≤ x) (h1 : x ≤ 16) (hl : O.length + 5 < 1400) : ∃ h2, zC 333 [zR (some 177), zI x] h = some (.inl none, h2) ∧ OU h2 (O ++ nodeW x) ∧ Fr scrO h h2 := by
  rw [q_M_writesNode K]
  unfold nodeW
  by_cases c : x < 4
  · obtain ⟨h2, e2, U2, F2⟩ := c_writes K U (x := 48 + x) (by omega) (by omega) (by omega)
    rw [if_pos c, if_pos c, gd_t (by omega), e2, q_M_writesNode_r13 (KM_f K F2 rfl)]
    exact ⟨h2, rfl, U2, F2⟩
  · rw [if_neg c, if_neg c, gd_t (by omega)]
    exact l_writesNode (by omega) h1 5 0 h O K U (by omega) (by omega) (by omega)
theorem l_writeNeed {s c : Int} {A : Nat → Int} (h0 : 0 ≤ s) (h1 : s < 24) (hc : c ≤ 200) : ∀ (m j : Nat) (h : zH) (O : List Int), KM h → hI h 190 s.toNat = c → hI h 189 = A → OU h O → (j + m : Nat) = c → (∀ x ∈ upto A ((201 * s).toNat + j) m [], 0 ≤ x ∧ x ≤ 16) → O.length ≤ 6 * j → ∃ h2, zY 319 41 [some (zR (some 177)), some (zI s), some (zI j)] [] h = some (.inl (some (zI (O ++ rwO j (upto A ((201 * s).toNat + j) m [])).length)), sI h2 177 1 0) ∧ OU h2 (O ++ rwO j (upto A ((201 * s).toNat + j) m [])) ∧ Fr scrO h h2
  | 0, j, h, O, K, hC, hA, U, hj, hx, hl => by
    have er : rwO j (upto A ((201 * s).toNat + j) 0 []) = [] := by cases j <;> rfl
    rw [q_M_writeNeed_41 K, hC, gd_t (by omega), if_neg (by omega), U.1, er, List.append_nil]
    exact ⟨h, rfl, U, Fr_r _ _⟩
  | m + 1, j, h, O, K, hC, hA, U, hj, hx, hl => by
    have hx0 := hx (A ((201 * s).toNat + j)) (by rw [upto_cons]; exact List.mem_cons_self)
    rw [q_M_writeNeed_41 K, hC, hA, gd_t (by omega), if_pos (by omega)]
    rw [upto_cons] at hx ⊢
    have nx : ∀ (g : zH) (O2 : List Int), Fr scrO h g → OU g O2 → O2.length ≤ 6 * j + 1 → ∃ h2, zBack zY 319 74 77 [some (zR (some 177)), some (zI s), some (zI j)] [] (zC 333 [zR (some 177), zI (A (201 * s + (j : Int)).toNat)] g) = some (.inl (some (zI ((O2 ++ nodeW (A ((201 * s).toNat + j))) ++ rwO (j + 1) (upto A ((201 * s).toNat + j + 1) m [])).length)), sI h2 177 1 0) ∧ OU h2 ((O2 ++ nodeW (A ((201 * s).toNat + j))) ++ rwO (j + 1) (upto A ((201 * s).toNat + j + 1) m [])) ∧ Fr scrO h h2 := fun g O2 F U2 hl2 => by
      have Kg := KM_f K F rfl
      have ei : (201 * s + (j : Int)).toNat = (201 * s).toNat + j := by omega
      rw [ei]
      obtain ⟨h2, e2, U3, F2⟩ := c_writesNode Kg U2 hx0.1 hx0.2 (by omega)
      have K2 := KM_f Kg F2 rfl
      have hn := nodeW_len (A ((201 * s).toNat + j))
      have F02 := Fr_t F F2
      obtain ⟨h3, e3, U4, F3⟩ := l_writeNeed h0 h1 hc m (j + 1) h2 _ K2 ((fI F02 190 s.toNat rfl).trans hC) ((rI F02 189 rfl).trans hA) U3 (by omega) (fun x q => hx x (List.mem_cons_of_mem _ q)) (by simp only [List.length_append]; omega)
      rw [e2, q_M_writeNeed_r77 K2, gd_t (by omega), show ((j : Int) + 1) = ((j + 1 : Nat) : Int) by omega]
      exact ⟨h3, e3, U4, Fr_t F02 F3⟩
    cases j with
    | zero =>
      rw [if_neg (by omega), gd_t (by omega), gd_t (by omega), gd_t (by omega)]
      obtain ⟨h2, e2, U2, F2⟩ := nx h O (Fr_r _ _) U (by omega)
      rw [List.append_assoc] at e2 U2
      exact ⟨h2, e2, U2, F2⟩
    | succ j =>
      obtain ⟨ha, ea, Ua, Fa⟩ := c_writes K U (x := 32) (by omega) (by omega) (by omega)
      have Ka := KM_f K Fa rfl
      rw [if_pos (by omega), ea, q_M_writeNeed_r61 Ka, gd_t (by omega), gd_t (by omega), gd_t (by omega), rI Fa 189 rfl, hA]
      obtain ⟨h2, e2, U2, F2⟩ := nx ha (O ++ [32]) Fa Ua (by simp only [List.length_append, List.length_cons, List.length_nil]; omega)
      rw [List.append_assoc, List.append_assoc] at e2 U2
      exact ⟨h2, e2, U2, F2⟩
abbrev scrP : FA := [(186, none), (177, some 17), (187, none), (177, some 21), (177, some 27), (177, some 28), (177, some 29), (177, some 30), (177, some 31), (192, none), (193, none), (194, none), (195, none), (188, none), (189, none), (190, none), (191, none), (177, some 26), (177, some 1)]
/-- the answer, and what was written -/
def aWriteNeed (n : Int) (R N : Nat → Int) (O : List Int) (s : Int) : (Int × zV) × List Int :=
  if 0 ≤ s ∧ s < n then (match WW n R N s with | none => ((0, zI (-1)), O) | some l => ((0, zI (rwO 0 l).length), rwO 0 l)) else ((1, zI 0), O)
theorem OU_f {A : FA} {h h2 : zH} {O : List Int} (U : OU h O) (F : Fr A h h2) (a : rowA A 186 = true) (b : inA A 177 17 = false) : OU h2 O := by
  obtain ⟨u1, u2, u3⟩ := U
  refine ⟨(fI F 177 17 b).trans u1, u2, ?_⟩
  rw [rI F 186 a]
  exact u3
theorem m_writeNeed {h : zH} (M : MB n top R N h) (P : Prg n top R N) {O : List Int} (U : OU h O) (s : Int) : ∃ h2, zC 319 [zR (some 177), zI s] h = some (.inl (some (aWriteNeed n R N O s).1.2), h2) ∧ hI h2 177 1 = (aWriteNeed n R N O s).1.1 ∧ OU h2 (aWriteNeed n R N O s).2 ∧ Fr scrP h h2 := by
  have w0 := P.1.1
  have m1 := M.2.1
  unfold aWriteNeed
  have hq := q_M_writeNeed (h := h) (x1 := s) M.1
  have hs := isSt_e M s
  have st1 : ∀ {g : zH} (k : Int), Fr [(177, some 1)] g (sI g 177 1 k) := fun k => Fr_I (Fr_r _ _) rfl
  by_cases c : 0 ≤ s ∧ s < n
  · obtain ⟨h2, e2, A2, F2⟩ := c_writesNeeds M P
    have M2 := MB_f M F2 rfl
    have W2 := A2 s c.1 c.2
    have hok := WW_ok2 P c.1 c.2
    rw [if_pos (hs.2 c), e2, q_M_writeNeed_r18 M2.1, gd_t (by omega), WR_len W2] at hq
    rw [if_pos c]
    cases hd : WW n R N s with
    | none =>
      rw [hd, if_pos (show dLen none = -1 from rfl)] at hq
      exact ⟨_, hq, rfl, OU_f (OU_f U F2 rfl rfl) (st1 0) rfl rfl, Fr_t (Fr_m F2 rfl) (Fr_m (st1 0) rfl)⟩
    | some l =>
      rw [hd] at hq W2
      have hl := isR_len W2
      obtain ⟨w1, w2, w3⟩ := W2
      rw [if_neg (by unfold dLen; simp only; omega)] at hq
      have F3 : Fr scrO h2 (sI h2 177 17 0) := Fr_I (Fr_r _ _) rfl
      have M3 := MB_f M2 F3 rfl
      have U3 : OU (sI h2 177 17 0) [] := ⟨rfl, by decide, rfl⟩
      obtain ⟨h4, e4, U4, F4⟩ := l_writeNeed (A := hI h2 189) c.1 (by omega) w2 (hI h2 190 s.toNat).toNat 0 _ [] M3.1 (fI F3 190 s.toNat rfl) (rI F3 189 rfl) U3 (by omega) (fun x hx => tyS_node (hok l hd).1 x (by rw [w3]; exact hx)) (by simp)
      have ew : upto (hI h2 189) ((201 * s).toNat + 0) (hI h2 190 s.toNat).toNat [] = l := w3.symm
      rw [ew, List.nil_append] at e4 U4
      exact ⟨_, hq.trans e4, rfl, OU_f U4 (st1 0) rfl rfl, Fr_t (Fr_m F2 rfl) (Fr_t (Fr_m F3 rfl) (Fr_t (Fr_m F4 rfl) (Fr_m (st1 0) rfl)))⟩
  · rw [if_neg (fun q => c (hs.1 q))] at hq
    rw [if_neg c]
    exact ⟨_, hq, rfl, OU_f U (st1 1) rfl rfl, Fr_m (st1 1) rfl⟩
def aOutputByte (O : List Int) (x : Int) : Int × zV := if 0 ≤ x ∧ x < O.length then (0, zI (O.getD x.toNat 0)) else (1, zI 0)
theorem m_outputByte {h : zH} (M : MB n top R N h) {O : List Int} (U : OU h O) (x : Int) : MA h 334 [zI x] (aOutputByte O x) := by
  obtain ⟨u1, u2, u3⟩ := U
  have hq := q_M_outputByte (h := h) (x1 := x) M.1
  rw [gd_t (by omega), u1] at hq
  unfold aOutputByte
  by_cases c : 0 ≤ x ∧ x < O.length
  · rw [if_pos (show 0 ≤ x ∧ x ≤ (O.length : Int) - 1 by omega), gd_t (by omega)] at hq
    rw [if_pos c, u3, upto_get _ _ _ _ _ (by omega), Nat.zero_add]
    exact MA_i (Fr_r _ _) hq
  · rw [if_neg (show ¬ (0 ≤ x ∧ x ≤ (O.length : Int) - 1) by omega)] at hq
    rw [if_neg c]
    exact MA_i (Fr_r _ _) hq
end API6
