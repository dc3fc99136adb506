/-! The class: what expressions and conditions are worth, for all states at once. -/
section CEVAL
variable {h : zH}
def nv (p q : Bool) : Int := (if p = true then 1 else 0) + (if q = true then 2 else 0)
def nb (a b : BitVec 64) (st : Int) : Int := nv (bt a st) (bt b st)
theorem nv_lo {p q : Bool} (e : nv p q < 2) : q = false := by
  cases q
  · rfl
  · cases p <;> exact absurd e (by decide)
theorem nv_1 {p q : Bool} {v : Int} (e : nv p q = v) : p = decide (v % 2 = 1) ∧ q = decide (2 ≤ v) := by
  subst e
  cases p <;> cases q <;> decide
theorem nv_plus (p q r s : Bool) : nv (p ^^ r) ((q ^^ s) ^^ (p && r)) = f_M_joined 7 (nv p q) (nv r s) := by cases p <;> cases q <;> cases r <;> cases s <;> decide +kernel
theorem nv_minus (p q r s : Bool) : nv (p ^^ r) ((q ^^ s) ^^ (!p && r)) = f_M_joined 8 (nv p q) (nv r s) := by cases p <;> cases q <;> cases r <;> cases s <;> decide +kernel
theorem nv_times (p q r s : Bool) : nv (p && r) ((q && r) ^^ (p && s)) = f_M_joined 9 (nv p q) (nv r s) := by cases p <;> cases q <;> cases r <;> cases s <;> decide +kernel
theorem nv_eq (p q r s : Bool) : nv (!((p ^^ r) || (q ^^ s))) false = f_M_joined 12 (nv p q) (nv r s) := by cases p <;> cases q <;> cases r <;> cases s <;> decide +kernel
theorem nv_lt (p q r s : Bool) : nv ((!q && s) || ((!(q ^^ s) && !p) && r)) false = f_M_joined 13 (nv p q) (nv r s) := by cases p <;> cases q <;> cases r <;> cases s <;> decide +kernel
theorem nv_and (p r : Bool) : nv (p && r) false = f_M_joined 15 (nv p false) (nv r false) := by cases p <;> cases r <;> decide +kernel
theorem nv_or (p r : Bool) : nv (p || r) false = f_M_joined 16 (nv p false) (nv r false) := by cases p <;> cases r <;> decide +kernel
theorem nv_not (p : Bool) : nv (!p) false = 1 - nv p false := by cases p <;> decide
def bstk (A B : Nat → BitVec 64) (st : Int) : List Int → Prop
  | [] => True
  | v :: S => nb (A S.length) (B S.length) st = v ∧ bstk A B st S
theorem bstk_congr {A B A2 B2 : Nat → BitVec 64} {st : Int} : ∀ {S : List Int}, (∀ i, i < S.length → A2 i = A i ∧ B2 i = B i) → bstk A B st S → bstk A2 B2 st S
  | [], _, _ => trivial
  | v :: S, e, H => ⟨by rw [(e S.length (by simp)).1, (e S.length (by simp)).2]; exact H.1, bstk_congr (fun i hi => e i (by simp only [List.length_cons]; omega)) H.2⟩
theorem bstk_push {A B A2 B2 : Nat → BitVec 64} {st : Int} {S : List Int} {a b : BitVec 64} {v : Int} {D : Nat} (hD : S.length = D) (H : bstk A B st S) (hv : nb a b st = v) (eA : ∀ i, A2 i = if i = D then a else A i) (eB : ∀ i, B2 i = if i = D then b else B i) : bstk A2 B2 st (v :: S) := by
  refine ⟨?_, bstk_congr (fun i hi => ?_) H⟩
  · rw [eA, eB, if_pos hD, if_pos hD]; exact hv
  · rw [eA, eB, if_neg (by omega), if_neg (by omega)]; exact ⟨rfl, rfl⟩
abbrev scrV : FA := [(99, none), (100, none), (90, some 13)]
theorem c_push (K : KC h) {D : Nat} (hd : hI h 90 13 = D) (hD : D < 200) (a b : BitVec 64) : ∃ h2, zC 96 [zR (some 90), zJ a, zJ b] h = some (.inl none, h2) ∧ hI h2 90 13 = ((D + 1 : Nat) : Int) ∧ (∀ i, hJ h2 99 i = if i = D then a else hJ h 99 i) ∧ (∀ i, hJ h2 100 i = if i = D then b else hJ h 100 i) ∧ Fr scrV h h2 := by
  have e : (hI h 90 13).toNat = D := by omega
  rw [q_S_push K, if_neg (by omega), if_pos (by omega), gd_t (by omega), e, hd]
  refine ⟨_, rfl, ?_, fun i => ?_, fun i => ?_, Fr_I (Fr_J (Fr_J (Fr_r _ _) rfl) rfl) rfl⟩
  · show (D : Int) + 1 = _
    omega
  · simp [hJ_sJ, hJ_sI, zup]
  · simp [hJ_sJ, hJ_sI, zup]
theorem c_negate (K : KC h) {D : Nat} (hd : hI h 90 13 = ((D + 1 : Nat) : Int)) (hD : D < 200) : ∃ h2, zC 97 [zR (some 90)] h = some (.inl none, h2) ∧ hI h2 90 13 = ((D + 1 : Nat) : Int) ∧ (∀ i, hJ h2 99 i = if i = D then ~~~ (hJ h 99 D) else hJ h 99 i) ∧ (∀ i, hJ h2 100 i = if i = D then hJ h 100 D else hJ h 100 i) ∧ Fr scrV h h2 := by
  have e : (hI h 90 13 - 1).toNat = D := by omega
  rw [q_S_negate K, if_neg (by omega), if_neg (by omega), gd_t (by omega), gd_t (by omega), e, not_e]
  refine ⟨_, rfl, hd, fun i => ?_, fun i => ?_, Fr_J (Fr_r _ _) rfl⟩
  · simp [hJ_sJ, zup]
  · by_cases c : i = D
    · subst c; simp [hJ_sJ, zup]
    · simp [hJ_sJ, zup, c]
def jL (x : Int) (fl fh sl sh : BitVec 64) : BitVec 64 := if x = 7 then fl ^^^ sl else if x = 8 then fl ^^^ sl else if x = 9 then fl &&& sl else if x = 12 then ~~~ ((fl ^^^ sl) ||| (fh ^^^ sh)) else if x = 13 then (~~~ fh &&& sh) ||| ((~~~ (fh ^^^ sh) &&& ~~~ fl) &&& sl) else if x = 15 then fl &&& sl else fl ||| sl
def jH (x : Int) (fl fh sl sh : BitVec 64) : BitVec 64 := if x = 7 then (fh ^^^ sh) ^^^ (fl &&& sl) else if x = 8 then (fh ^^^ sh) ^^^ (~~~ fl &&& sl) else if x = 9 then (fh &&& sl) ^^^ (fl &&& sh) else 0#64
theorem c_join (K : KC h) {D : Nat} {x : Int} (hx : (7 ≤ x ∧ x ≤ 9) ∨ x = 12 ∨ x = 13 ∨ x = 15 ∨ x = 16) (hd : hI h 90 13 = ((D + 2 : Nat) : Int)) (hD : D + 2 ≤ 200) : ∃ h2, zC 98 [zR (some 90), zI x] h = some (.inl none, h2) ∧ hI h2 90 13 = ((D + 1 : Nat) : Int) ∧ (∀ i, hJ h2 99 i = if i = D then jL x (hJ h 99 (D + 1)) (hJ h 100 (D + 1)) (hJ h 99 D) (hJ h 100 D) else hJ h 99 i) ∧ (∀ i, hJ h2 100 i = if i = D then jH x (hJ h 99 (D + 1)) (hJ h 100 (D + 1)) (hJ h 99 D) (hJ h 100 D) else hJ h 100 i) ∧ Fr scrV h h2 := by
  have e : (hI h 90 13 - 1).toNat = D + 1 := by omega
  have e2 : (hI h 90 13 - 1 - 1).toNat = D := by omega
  have key : zC 98 [zR (some 90), zI x] h = some (.inl none, sJ (sJ (sI h 90 13 (hI h 90 13 - 1)) 99 D (jL x (hJ h 99 (D + 1)) (hJ h 100 (D + 1)) (hJ h 99 D) (hJ h 100 D))) 100 D (jH x (hJ h 99 (D + 1)) (hJ h 100 (D + 1)) (hJ h 99 D) (hJ h 100 D))) := by
    rw [q_S_join K, if_neg (by omega), if_neg (by omega), gd_t (by omega), gd_t (by omega), gd_t (by omega), gd_t (by omega), e, e2]
    simp only [not_e]
    unfold jL jH
    by_cases c7 : x = 7
    · rw [if_pos c7, if_pos c7, if_pos c7]
    by_cases c8 : x = 8
    · rw [if_neg c7, if_pos c8, if_neg c7, if_pos c8, if_neg c7, if_pos c8]
    by_cases c9 : x = 9
    · rw [if_neg c7, if_neg c8, if_pos c9, if_neg c7, if_neg c8, if_pos c9, if_neg c7, if_neg c8, if_pos c9]
    by_cases c12 : x = 12
    · rw [if_neg c7, if_neg c8, if_neg c9, if_neg (by omega), if_neg (by omega), if_pos c12, if_neg c7, if_neg c8, if_neg c9, if_pos c12, if_neg c7, if_neg c8, if_neg c9]
    by_cases c13 : x = 13
    · rw [if_neg c7, if_neg c8, if_neg c9, if_neg (by omega), if_neg (by omega), if_neg c12, if_pos c13, if_neg c7, if_neg c8, if_neg c9, if_neg c12, if_pos c13, if_neg c7, if_neg c8, if_neg c9]
    by_cases c15 : x = 15
    · rw [if_neg c7, if_neg c8, if_neg c9, if_neg (by omega), if_neg (by omega), if_neg c12, if_neg c13, if_neg (by omega), if_pos c15, if_neg c7, if_neg c8, if_neg c9, if_neg c12, if_neg c13, if_pos c15, if_neg c7, if_neg c8, if_neg c9]
    · rw [if_neg c7, if_neg c8, if_neg c9, if_neg (by omega), if_neg (by omega), if_neg c12, if_neg c13, if_neg (by omega), if_neg c15, if_neg c7, if_neg c8, if_neg c9, if_neg c12, if_neg c13, if_neg c15, if_neg c7, if_neg c8, if_neg c9]
  rw [key]
  refine ⟨_, rfl, ?_, fun i => ?_, fun i => ?_, Fr_J (Fr_J (Fr_I (Fr_r _ _) rfl) rfl) rfl⟩
  · show hI h 90 13 - 1 = _
    omega
  · simp [hJ_sJ, hJ_sI, zup]
  · simp [hJ_sJ, hJ_sI, zup]
theorem j_val {x st : Int} {fl fh sl sh : BitVec 64} (h0 : 0 ≤ st) (h1 : st < 64) (hx : (7 ≤ x ∧ x ≤ 9) ∨ x = 12 ∨ x = 13 ∨ x = 15 ∨ x = 16) (hc : x = 15 ∨ x = 16 → bt fh st = false ∧ bt sh st = false) : nb (jL x fl fh sl sh) (jH x fl fh sl sh) st = f_M_joined x (nb fl fh st) (nb sl sh st) := by
  unfold nb jL jH
  by_cases c7 : x = 7
  · subst c7
    rw [if_pos rfl, if_pos rfl, bt_xor, bt_xor, bt_xor, bt_and]; exact nv_plus _ _ _ _
  by_cases c8 : x = 8
  · subst c8
    rw [if_neg c7, if_pos rfl, if_neg c7, if_pos rfl, bt_xor, bt_xor, bt_xor, bt_and, bt_not _ h0 h1]; exact nv_minus _ _ _ _
  by_cases c9 : x = 9
  · subst c9
    rw [if_neg c7, if_neg c8, if_pos rfl, if_neg c7, if_neg c8, if_pos rfl, bt_and, bt_xor, bt_and, bt_and]; exact nv_times _ _ _ _
  by_cases c12 : x = 12
  · subst c12
    rw [if_neg c7, if_neg c8, if_neg c9, if_pos rfl, if_neg c7, if_neg c8, if_neg c9, bt_not _ h0 h1, bt_or, bt_xor, bt_xor, bt_0]; exact nv_eq _ _ _ _
  by_cases c13 : x = 13
  · subst c13
    rw [if_neg c7, if_neg c8, if_neg c9, if_neg c12, if_pos rfl, if_neg c7, if_neg c8, if_neg c9, bt_or, bt_and, bt_and, bt_and, bt_not _ h0 h1, bt_not _ h0 h1, bt_not _ h0 h1, bt_xor, bt_0]; exact nv_lt _ _ _ _
  by_cases c15 : x = 15
  · subst c15
    rw [if_neg c7, if_neg c8, if_neg c9, if_neg c12, if_neg c13, if_pos rfl, if_neg c7, if_neg c8, if_neg c9, bt_and, (hc (Or.inl rfl)).1, (hc (Or.inl rfl)).2, bt_0]; exact nv_and _ _
  · obtain rfl : x = 16 := by omega
    rw [if_neg c7, if_neg c8, if_neg c9, if_neg c12, if_neg c13, if_neg c15, if_neg c7, if_neg c8, if_neg c9, bt_or, (hc (Or.inr rfl)).1, (hc (Or.inr rfl)).2, bt_0]; exact nv_or _ _
theorem num_bits {x st : Int} (h0 : 0 ≤ x) (h1 : x < 4) (h2 : 0 ≤ st) (h3 : st < 64) : nb (-((zi2l x) &&& (1#64))) (-((zi2l (zshr x 1)) &&& (1#64))) st = x :=
  finN (P := fun x => nb (-((zi2l x) &&& (1#64))) (-((zi2l (zshr x 1)) &&& (1#64))) st = x) (n := 4) (fun s => finN (P := fun st => nb (-((zi2l s.val) &&& (1#64))) (-((zi2l (zshr s.val 1)) &&& (1#64))) st = s.val) (n := 64) ((show ∀ (s : Fin 4) (t : Fin 64), nb (-((zi2l s.val) &&& (1#64))) (-((zi2l (zshr s.val 1)) &&& (1#64))) t.val = s.val by decide +kernel) s) h2 h3) h0 h1
theorem var_bits {v st : Int} (h0 : 0 ≤ v) (h1 : v < 3) (h2 : 0 ≤ st) (h3 : st < 64) : nb (hJ (zH0 0 (fun _ => 0)) (zVB + 1) v.toNat) (hJ (zH0 0 (fun _ => 0)) (zVB + 2) v.toNat) st = f_M_valueIn st v :=
  finN (P := fun v => nb (hJ (zH0 0 (fun _ => 0)) (zVB + 1) v.toNat) (hJ (zH0 0 (fun _ => 0)) (zVB + 2) v.toNat) st = f_M_valueIn st v) (n := 3) (fun s => finN (P := fun st => nb (hJ (zH0 0 (fun _ => 0)) (zVB + 1) (s.val : Int).toNat) (hJ (zH0 0 (fun _ => 0)) (zVB + 2) (s.val : Int).toNat) st = f_M_valueIn st s.val) (n := 64) ((show ∀ (s : Fin 3) (t : Fin 64), nb (hJ (zH0 0 (fun _ => 0)) (zVB + 1) (s.val : Int).toNat) (hJ (zH0 0 (fun _ => 0)) (zVB + 2) (s.val : Int).toNat) t.val = f_M_valueIn t.val s.val by decide +kernel) s) h2 h3) h0 h1
theorem nb_10 {st : Int} (h2 : 0 ≤ st) (h3 : st < 64) : nb 18446744073709551615#64 0#64 st = 1 :=
  finN (P := fun st => nb 18446744073709551615#64 0#64 st = 1) (n := 64) (by decide +kernel) h2 h3
theorem nb_00 (st : Int) : nb 0#64 0#64 st = 0 := by unfold nb; rw [bt_0]; rfl
/-- the stack behind these nodes, the first on top -/
def BStk (h : zH) (l : List Int) (T : List Bool) : Prop := tyS l = some T ∧ hI h 90 13 = T.length ∧ ∀ st, 0 ≤ st → st < 64 → bstk (hJ h 99) (hJ h 100) st (evs st l)
theorem Brow {a : Nat} (ha : a ≠ 99 ∧ a ≠ 100 ∧ a ≠ 90) {h2 : zH} (F : Fr scrV h h2) : hI h2 a = hI h a := funext fun k => fI F a k (by
  have e : ∀ b : Nat, a ≠ b → Nat.beq b a = false := fun b hb => by
    cases q : Nat.beq b a with
    | true => exact absurd (Nat.eq_of_beq_eq_true q).symm hb
    | false => rfl
  show (Nat.beq 99 a && true || (Nat.beq 100 a && true || (Nat.beq 90 a && Nat.beq 13 k || false))) = false
  rw [e 99 ha.1, e 100 ha.2.1, e 90 ha.2.2]
  rfl)
theorem Bnode (K : KC h) (Ks : KS h) {a : Nat} {I : Nat → Int} {z x : Int} {k : Nat} {l : List Int} {T T2 : List Bool} (ta : hT h a = 21) (na : a < hN h) (hI1 : hI h a = I) (hk : k < hL h a) (hk2 : k < 200) (hx : I k = x) (B : BStk h l T) (ht : ty1 x T = some T2) (hl : T.length < 200) : ∃ h2, zY 95 28 [some (zR (some 90)), some (zR (some a)), some (zI z), some (zI (k : Int)), none] [] h = zY 95 28 [some (zR (some 90)), some (zR (some a)), some (zI z), some (zI ((k : Int) + (-1))), some (zI x)] [] h2 ∧ BStk h2 (x :: l) T2 ∧ Fr scrV h h2 := by
  obtain ⟨b1, b2, b3⟩ := B
  have hx2 : hI h a (k : Int).toNat = x := by rw [hI1, Int.toNat_natCast]; exact hx
  have hlen : ∀ st, 0 ≤ st → st < 64 → (evs st l).length = T.length := fun st h0 h1 => (vok_len (evs_ok h0 h1 b1)).symm
  have ht2 : tyS (x :: l) = some T2 := by show (tyS l).bind (ty1 x) = _; rw [b1]; exact ht
  have hkb2 : -2147483648 ≤ (k : Int) + (-1) ∧ (k : Int) + (-1) < 2147483648 := by omega
  have hstep := q_S_evaluate_28 (h := h) (a1 := a) (x2 := z) (x3 := k) K ta na Ks
  rw [if_neg (by omega), gd_t (by omega), hx2] at hstep
  rw [hstep]
  have fin : ∀ (X : zO) (g : zH), X = zY 95 28 [some (zR (some 90)), some (zR (some a)), some (zI z), some (zI ((k : Int) + (-1))), some (zI x)] [] g → hI g 90 13 = T2.length → (∀ st, 0 ≤ st → st < 64 → bstk (hJ g 99) (hJ g 100) st (evx st x (evs st l))) → Fr scrV h g → ∃ h2, X = zY 95 28 [some (zR (some 90)), some (zR (some a)), some (zI z), some (zI ((k : Int) + (-1))), some (zI x)] [] h2 ∧ BStk h2 (x :: l) T2 ∧ Fr scrV h h2 := fun X g e1 e2 e3 F => ⟨g, e1, ⟨ht2, e2, e3⟩, F⟩
  have kf : ∀ {g : zH}, Fr scrV h g → KC g ∧ hT g a = 21 ∧ a < hN g := fun F => ⟨KC_f K F rfl, by rw [oT F]; exact ta, by rw [oN F]; exact na⟩
  rcases ty1_c ht with ⟨ha, hy⟩ | ⟨rfl, r, rfl, rfl⟩ | ⟨ha, hy⟩
  · have hv : ∀ st, evx st x (evs st l) = f_M_simple x st :: evs st l := fun st => by unfold evx; rw [if_pos ha]
    have hT2 : T2.length = T.length + 1 := by rcases hy with ⟨_, _, rfl⟩ | ⟨_, rfl⟩ <;> rfl
    rcases hy with ⟨y0, y1, _⟩ | ⟨y, _⟩
    · by_cases c4 : x < 4
      · rw [if_pos c4]
        obtain ⟨g, e1, e2, e3, e4, F⟩ := c_push K b2 hl (-((zi2l x) &&& (1#64))) (-((zi2l (zshr x 1)) &&& (1#64)))
        obtain ⟨k1, k2, k3⟩ := kf F
        rw [e1, q_S_evaluate_r61 k1 k2 k3, gd_t hkb2]
        refine fin _ g rfl (by rw [e2, hT2]) (fun st h0 h1 => ?_) F
        rw [hv]
        exact bstk_push (hlen st h0 h1) (b3 st h0 h1) (by rw [num_bits y0 c4 h0 h1]; unfold f_M_simple; rw [if_pos c4]) e3 e4
      · rw [if_neg c4, if_neg (by omega), gd_t (by omega), gd_t (by omega)]
        obtain ⟨g, e1, e2, e3, e4, F⟩ := c_push K b2 hl (hJ h (zVB + 1) (x - 4).toNat) (hJ h (zVB + 2) (x - 4).toNat)
        obtain ⟨k1, k2, k3⟩ := kf F
        rw [e1, q_S_evaluate_r91 k1 k2 k3, gd_t hkb2]
        refine fin _ g rfl (by rw [e2, hT2]) (fun st h0 h1 => ?_) F
        rw [hv]
        refine bstk_push (hlen st h0 h1) (b3 st h0 h1) ?_ e3 e4
        rw [(Ks (zVB + 1) (Nat.lt_succ_self _)).2.2.2, (Ks (zVB + 2) (Nat.lt_add_of_pos_right (by decide))).2.2.2, var_bits (by omega) (by omega) h0 h1]
        unfold f_M_simple
        rw [if_neg c4, if_pos (by omega)]
    · rcases y with rfl | rfl
      · rw [if_neg (by decide), if_pos (by decide), if_pos rfl]
        obtain ⟨g, e1, e2, e3, e4, F⟩ := c_push K b2 hl 18446744073709551615#64 0#64
        obtain ⟨k1, k2, k3⟩ := kf F
        rw [e1, q_S_evaluate_r127 k1 k2 k3, gd_t hkb2]
        refine fin _ g rfl (by rw [e2, hT2]) (fun st h0 h1 => ?_) F
        rw [hv]
        exact bstk_push (hlen st h0 h1) (b3 st h0 h1) (nb_10 h0 h1) e3 e4
      · rw [if_neg (by decide), if_pos (by decide), if_neg (by decide), if_pos rfl]
        obtain ⟨g, e1, e2, e3, e4, F⟩ := c_push K b2 hl 0#64 0#64
        obtain ⟨k1, k2, k3⟩ := kf F
        rw [e1, q_S_evaluate_r127 k1 k2 k3, gd_t hkb2]
        refine fin _ g rfl (by rw [e2, hT2]) (fun st h0 h1 => ?_) F
        rw [hv]
        exact bstk_push (hlen st h0 h1) (b3 st h0 h1) (nb_00 st) e3 e4
  · rw [if_neg (by decide), if_pos (by decide), if_neg (by decide), if_neg (by decide), if_pos rfl]
    obtain ⟨g, e1, e2, e3, e4, F⟩ := c_negate K (D := r.length) b2 (by simp only [List.length_cons] at hl; omega)
    obtain ⟨k1, k2, k3⟩ := kf F
    rw [e1, q_S_evaluate_r141 k1 k2 k3, gd_t hkb2]
    refine fin _ g rfl (by rw [e2]; rfl) (fun st h0 h1 => ?_) F
    have hvk := evs_ok h0 h1 b1
    obtain ⟨v, S, eS, hv, hS⟩ := vok_c hvk
    have hb := b3 st h0 h1
    have hSl := vok_len hS
    rw [eS] at hb ⊢
    show bstk _ _ st ((1 - v) :: S)
    have q := hv.2.2 rfl
    obtain ⟨hb1, hb2⟩ := hb
    rw [← hSl] at hb1
    have qf : bt (hJ h 100 r.length) st = false := nv_lo (p := bt (hJ h 99 r.length) st) (by show nb _ _ st < 2; rw [hb1]; exact q)
    refine bstk_push hSl.symm hb2 ?_ e3 e4
    unfold nb at hb1 ⊢
    rw [bt_not _ h0 h1, qf, nv_not, ← hb1, qf]
  · have hx7 : (7 ≤ x ∧ x ≤ 9) ∨ x = 12 ∨ x = 13 ∨ x = 15 ∨ x = 16 := by rcases hy with ⟨a, b, _⟩ | ⟨a, _⟩ | ⟨a, _⟩ <;> omega
    have hvw : ∃ (B : Bool) (p q : Bool) (r : List Bool), T = p :: q :: r ∧ T2 = B :: r ∧ ((x = 15 ∨ x = 16) → p = true ∧ q = true) := by
      rcases hy with ⟨_, _, r, rfl, rfl⟩ | ⟨_, r, rfl, rfl⟩ | ⟨_, r, rfl, rfl⟩
      · exact ⟨_, _, _, r, rfl, rfl, fun e => by omega⟩
      · exact ⟨_, _, _, r, rfl, rfl, fun e => by omega⟩
      · exact ⟨_, _, _, r, rfl, rfl, fun _ => ⟨rfl, rfl⟩⟩
    obtain ⟨B, p, q, r, rfl, rfl, hpq⟩ := hvw
    rw [if_neg (by omega), if_pos (by omega), if_neg (by omega), if_neg (by omega), if_neg (by omega)]
    obtain ⟨g, e1, e2, e3, e4, F⟩ := c_join K (D := r.length) (x := x) hx7 b2 (by simp only [List.length_cons] at hl; omega)
    obtain ⟨k1, k2, k3⟩ := kf F
    rw [e1, q_S_evaluate_r150 k1 k2 k3, gd_t hkb2]
    refine fin _ g rfl (by rw [e2]; rfl) (fun st h0 h1 => ?_) F
    have hvk := evs_ok h0 h1 b1
    obtain ⟨v, S, eS, hv, hS⟩ := vok_c hvk
    obtain ⟨w, S2, eS2, hw, hS2⟩ := vok_c hS
    have hb := b3 st h0 h1
    have hSl := vok_len hS2
    have hev : evx st x (evs st l) = f_M_joined x v w :: S2 := by
      unfold evx
      rw [if_neg (by omega), if_neg (by omega), eS, eS2]
      rfl
    rw [hev]
    rw [eS, eS2] at hb
    obtain ⟨hb1, hb2, hb3⟩ := hb
    simp only [List.length_cons] at hb1
    rw [← hSl] at hb1 hb2
    refine bstk_push hSl.symm hb3 ?_ e3 e4
    rw [j_val h0 h1 hx7 (fun e => ?_), hb1, hb2]
    exact ⟨nv_lo (p := bt (hJ h 99 (r.length + 1)) st) (by show nb _ _ st < 2; rw [hb1]; exact hv.2.2 (hpq e).1), nv_lo (p := bt (hJ h 99 r.length) st) (by show nb _ _ st < 2; rw [hb2]; exact hw.2.2 (hpq e).2)⟩
theorem l_evaluate {a : Nat} {I : Nat → Int} {z : Int} (ha : a ≠ 99 ∧ a ≠ 100 ∧ a ≠ 90) : ∀ (k : Nat) (l : List Int) (h : zH) (T U : List Bool), KC h → KS h → hT h a = 21 → a < hN h → hI h a = I → k ≤ hL h a → tyS (upto I 0 k l) = some T → BStk h l U → k + l.length ≤ 200 → ∃ h2, zY 95 28 [some (zR (some 90)), some (zR (some a)), some (zI z), some (zI ((k : Int) - 1)), none] [] h = some (.inl none, h2) ∧ BStk h2 (upto I 0 k l) T ∧ Fr scrV h h2
  | 0, l, h, T, U, K, Ks, ta, na, hI1, hk, ht, B, hl => by
    rw [q_S_evaluate_28 K ta na Ks, if_pos (by omega)]
    have : U = T := Option.some.inj (B.1.symm.trans ht)
    subst this
    exact ⟨h, rfl, B, Fr_r _ _⟩
  | k + 1, l, h, T, U, K, Ks, ta, na, hI1, hk, ht, B, hl => by
    have ht2 : tyS (upto I 0 k (I (0 + k) :: l)) = some T := ht
    have ht3 := ht2
    rw [upto_app] at ht3
    obtain ⟨T2, ht4⟩ := tyS_suf ht3
    obtain ⟨T1, ht5, ht6⟩ := Option.bind_eq_some_iff.mp ht4
    have : U = T1 := Option.some.inj (B.1.symm.trans ht5)
    subst this
    have hlen := tyS_len ht5
    obtain ⟨h2, e2, B2, F2⟩ := Bnode (z := z) K Ks ta na hI1 (k := k) (by omega) (by omega) rfl B (by rw [Nat.zero_add] at ht6; exact ht6) (by omega)
    have i2 : hI h2 a = I := (Brow ha F2).trans hI1
    obtain ⟨h3, e3, B3, F3⟩ := l_evaluate ha k (I k :: l) h2 T T2 (KC_f K F2 rfl) (KS_f Ks F2 rfl) (by rw [oT F2]; exact ta) (by rw [oN F2]; exact na) i2 (by rw [oL F2]; omega) (by rw [Nat.zero_add] at ht2; exact ht2) B2 (by simp only [List.length_cons]; omega)
    refine ⟨h3, ?_, by show BStk h3 (upto I 0 k (I (0 + k) :: l)) T; rw [Nat.zero_add]; exact B3, Fr_t F2 F3⟩
    rw [show ((k + 1 : Nat) : Int) - 1 = (k : Int) by omega, e2, show (k : Int) + (-1) = (k : Int) - 1 by omega]
    exact zY_le (by exact ⟨rfl, rfl, rfl, rfl, trivial⟩) e3
def lowL (l : List Int) : BitVec 64 := bset fun st => decide (val l st % 2 = 1)
def higL (l : List Int) : BitVec 64 := bset fun st => decide (2 ≤ val l st)
theorem low_set {l : List Int} (h : tyS l = some [true]) : lowL l = setL l := bset_congr fun st h0 h1 => by
  have := val_ok h h0 h1
  have := this.2.2.2 rfl
  by_cases c : val l st = 1
  · rw [c]; rfl
  · rw [decide_eq_false c, decide_eq_false (by omega)]
theorem num_val {l : List Int} {st : Int} (h0 : 0 ≤ st) (h1 : st < 64) (hv : 0 ≤ val l st ∧ val l st < 4) : f_S_number (lowL l) (higL l) st = val l st := by
  unfold f_S_number
  rw [and1_2, and1_2, zlushr_e _ h0 h1, zlushr_e _ h0 h1]
  have e1 : (lowL l >>> st.toNat).getLsbD 0 = decide (val l st % 2 = 1) := by
    rw [BitVec.getLsbD_ushiftRight, Nat.add_zero]
    exact bt_set _ h0 h1
  have e2 : (higL l >>> st.toNat).getLsbD 0 = decide (2 ≤ val l st) := by
    rw [BitVec.getLsbD_ushiftRight, Nat.add_zero]
    exact bt_set _ h0 h1
  rw [e1, e2]
  have hc : val l st = 0 ∨ val l st = 1 ∨ val l st = 2 ∨ val l st = 3 := by omega
  rcases hc with c | c | c | c <;> rw [c] <;> decide
/-- a row of nodes as it may be reckoned: none, or of one kind -/
def lOk (l : List Int) : Prop := (l = [] ∨ ∃ b, tyS l = some [b]) ∧ l.length ≤ 200
theorem lOk_v {l : List Int} (o : lOk l) {st : Int} (h0 : 0 ≤ st) (h1 : st < 64) : 0 ≤ val l st ∧ val l st < 4 := by
  rcases o.1 with rfl | ⟨b, e⟩
  · exact ⟨Int.le_refl _, show (0 : Int) < 4 by decide⟩
  · have := val_ok e h0 h1
    exact ⟨this.2.1, this.2.2.1⟩
theorem c_evaluate (K : KC h) (Ks : KS h) {a : Nat} {l : List Int} (ta : hT h a = 21) (na : a < hN h) (hl : l = upto (hI h a) 0 l.length []) (hk : l.length ≤ hL h a) (o : lOk l) : ∃ h2, zC 95 [zR (some 90), zR (some a), zI l.length] h = some (.inl none, h2) ∧ hJ h2 99 0 = lowL l ∧ hJ h2 100 0 = higL l ∧ Fr scrV h h2 := by
  have n90 : a ≠ 90 := fun e => by rw [e, PTC K 90 8 rfl rfl] at ta; exact absurd ta (by decide)
  have n99 : a ≠ 99 := fun e => by rw [e, PTC K 99 23 rfl rfl] at ta; exact absurd ta (by decide)
  have n100 : a ≠ 100 := fun e => by rw [e, PTC K 100 23 rfl rfl] at ta; exact absurd ta (by decide)
  have ha : a ≠ 99 ∧ a ≠ 100 ∧ a ≠ 90 := ⟨n99, n100, n90⟩
  have o2 := o.2
  have hm : f_Ma_min (l.length : Int) (hL h a : Int) = l.length := by unfold f_Ma_min; split <;> omega
  have F1 : Fr scrV h (sJ (sJ (sI h 90 13 0) 99 0 (0#64)) 100 0 (0#64)) := Fr_J (Fr_J (Fr_I (Fr_r _ _) rfl) rfl) rfl
  have B1 : BStk (sJ (sJ (sI h 90 13 0) 99 0 (0#64)) 100 0 (0#64)) [] [] := ⟨rfl, rfl, fun st _ _ => trivial⟩
  rw [q_S_evaluate K ta na, hm, gd_t (by omega)]
  generalize hg : sJ (sJ (sI h 90 13 0) 99 0 (0#64)) 100 0 (0#64) = g at *
  have g99 : hJ g 99 0 = 0#64 := by rw [← hg]; rfl
  have g100 : hJ g 100 0 = 0#64 := by rw [← hg]; rfl
  have K1 := KC_f K F1 rfl
  have Ks1 := KS_f Ks F1 rfl
  have ta1 : hT g a = 21 := by rw [oT F1]; exact ta
  have na1 : a < hN g := by rw [oN F1]; exact na
  have i1 : hI g a = hI h a := Brow ha F1
  rcases o.1 with he | ⟨b, e⟩
  · subst he
    rw [show (([] : List Int).length : Int) - 1 = -1 from rfl, q_S_evaluate_28 K1 ta1 na1 Ks1, if_pos (by decide)]
    refine ⟨g, rfl, ?_, ?_, F1⟩
    · rw [g99]
      exact bt_ext fun st h0 h1 => by rw [bt_0, lowL, bt_set _ h0 h1]; rfl
    · rw [g100]
      exact bt_ext fun st h0 h1 => by rw [bt_0, higL, bt_set _ h0 h1]; rfl
  · have e' : tyS (upto (hI h a) 0 l.length []) = some [b] := by rw [← hl]; exact e
    obtain ⟨h2, e2, B2, F2⟩ := l_evaluate (I := hI h a) (z := (l.length : Int)) ha l.length [] g [b] [] K1 Ks1 ta1 na1 i1 (by rw [oL F1]; exact hk) e' B1 (by simp; exact o2)
    rw [← hl] at B2
    refine ⟨h2, e2, ?_, ?_, Fr_t F1 F2⟩
    · refine bt_ext fun st h0 h1 => ?_
      have hb := B2.2.2 st h0 h1
      rw [(val_ok e h0 h1).1] at hb
      have := (nv_1 hb.1).1
      rw [lowL, bt_set _ h0 h1]
      exact this
    · refine bt_ext fun st h0 h1 => ?_
      have hb := B2.2.2 st h0 h1
      rw [(val_ok e h0 h1).1] at hb
      have := (nv_1 hb.1).2
      rw [higL, bt_set _ h0 h1]
      exact this
end CEVAL

