/-! What an expression or condition is worth in a state. -/
theorem joined_r {x a b : Int} (hx : 7 ≤ x) (hx2 : x ≤ 9) (h0 : 0 ≤ a) (h1 : a < 4) (h2 : 0 ≤ b) (h3 : b < 4) : 0 ≤ f_M_joined x a b ∧ f_M_joined x a b < 4 := by
  have hx3 : x = 7 ∨ x = 8 ∨ x = 9 := by omega
  have H := finN (P := fun a => ∀ y : Fin 3, 0 ≤ f_M_joined (7 + y.val) a b ∧ f_M_joined (7 + y.val) a b < 4) (n := 4) (fun a => finN (P := fun b => ∀ y : Fin 3, 0 ≤ f_M_joined (7 + y.val) a.val b ∧ f_M_joined (7 + y.val) a.val b < 4) (n := 4) ((show ∀ (a b : Fin 4) (y : Fin 3), 0 ≤ f_M_joined (7 + y.val) a.val b.val ∧ f_M_joined (7 + y.val) a.val b.val < 4 by decide +kernel) a) h2 h3) h0 h1
  rcases hx3 with rfl | rfl | rfl
  · exact H 0
  · exact H 1
  · exact H 2
theorem joined_b {x a b : Int} (hx : x = 12 ∨ x = 13) : 0 ≤ f_M_joined x a b ∧ f_M_joined x a b < 2 := by
  rcases hx with rfl | rfl
  · simp only [f_M_joined]
    by_cases h : a = b <;> simp [h]
  · simp only [f_M_joined]
    by_cases h : a < b <;> simp [h]
theorem joined_c {x a b : Int} (hx : x = 15 ∨ x = 16) (h0 : 0 ≤ a) (h1 : a < 2) (h2 : 0 ≤ b) (h3 : b < 2) : 0 ≤ f_M_joined x a b ∧ f_M_joined x a b < 2 := by
  have H := finN (P := fun a => ∀ y : Fin 2, 0 ≤ f_M_joined (15 + y.val) a b ∧ f_M_joined (15 + y.val) a b < 2) (n := 2) (fun a => finN (P := fun b => ∀ y : Fin 2, 0 ≤ f_M_joined (15 + y.val) a.val b ∧ f_M_joined (15 + y.val) a.val b < 2) (n := 2) ((show ∀ (a b : Fin 2) (y : Fin 2), 0 ≤ f_M_joined (15 + y.val) a.val b.val ∧ f_M_joined (15 + y.val) a.val b.val < 2 by decide +kernel) a) h2 h3) h0 h1
  rcases hx with rfl | rfl
  · exact H 0
  · exact H 1
/-- one node over the values behind it, the last node's first -/
def evx (st x : Int) (S : List Int) : List Int :=
  if f_M_arity x = 0 then f_M_simple x st :: S
  else if f_M_arity x = 1 then (1 - S.headD 0) :: S.tail
  else f_M_joined x (S.headD 0) (S.tail.headD 0) :: S.tail.tail
def evs (st : Int) : List Int → List Int
  | [] => []
  | x :: l => evx st x (evs st l)
def val (l : List Int) (st : Int) : Int := (evs st l).headD 0
/-- kinds of what lies on the stack: true: a condition -/
def ty1 (x : Int) (T : List Bool) : Option (List Bool) :=
  if 0 ≤ x ∧ x ≤ 6 then some (false :: T)
  else if 7 ≤ x ∧ x ≤ 9 then (match T with | false :: false :: r => some (false :: r) | _ => none)
  else if x = 10 ∨ x = 11 then some (true :: T)
  else if x = 12 ∨ x = 13 then (match T with | false :: false :: r => some (true :: r) | _ => none)
  else if x = 14 then (match T with | true :: r => some (true :: r) | _ => none)
  else if x = 15 ∨ x = 16 then (match T with | true :: true :: r => some (true :: r) | _ => none)
  else none
def tyS : List Int → Option (List Bool)
  | [] => some []
  | x :: l => (tyS l).bind (ty1 x)
def vok : List Bool → List Int → Prop
  | [], [] => True
  | b :: T, v :: S => (0 ≤ v ∧ v < 4 ∧ (b = true → v < 2)) ∧ vok T S
  | _, _ => False
theorem vok_len : ∀ {T : List Bool} {S : List Int}, vok T S → T.length = S.length
  | [], [], _ => rfl
  | _ :: T, _ :: S, h => by simp [vok_len h.2]
theorem vok_c {b : Bool} {T : List Bool} {S : List Int} (h : vok (b :: T) S) : ∃ v R, S = v :: R ∧ (0 ≤ v ∧ v < 4 ∧ (b = true → v < 2)) ∧ vok T R := by
  cases S with
  | nil => exact h.elim
  | cons v R => exact ⟨v, R, rfl, h⟩
/-- the ways in which a node can stand -/
theorem ty1_c {x : Int} {T T2 : List Bool} (h : ty1 x T = some T2) : (f_M_arity x = 0 ∧ ((0 ≤ x ∧ x ≤ 6 ∧ T2 = false :: T) ∨ ((x = 10 ∨ x = 11) ∧ T2 = true :: T))) ∨ (x = 14 ∧ ∃ r, T = true :: r ∧ T2 = true :: r) ∨ (f_M_arity x = 2 ∧ ((7 ≤ x ∧ x ≤ 9 ∧ ∃ r, T = false :: false :: r ∧ T2 = false :: r) ∨ ((x = 12 ∨ x = 13) ∧ ∃ r, T = false :: false :: r ∧ T2 = true :: r) ∨ ((x = 15 ∨ x = 16) ∧ ∃ r, T = true :: true :: r ∧ T2 = true :: r))) := by
  unfold ty1 at h
  split at h
  · rename_i c
    refine Or.inl ⟨?_, Or.inl ⟨c.1, c.2, (Option.some.inj h).symm⟩⟩
    unfold f_M_arity
    rw [if_neg (by omega), if_pos (by omega)]
  · split at h
    · rename_i c0 c
      split at h
      · refine Or.inr (Or.inr ⟨?_, Or.inl ⟨c.1, c.2, _, rfl, (Option.some.inj h).symm⟩⟩)
        unfold f_M_arity
        rw [if_neg (by omega), if_neg (by omega), if_neg (by omega), if_neg (by omega)]
      · cases h
    · split at h
      · rename_i c0 c1 c
        refine Or.inl ⟨?_, Or.inr ⟨c, (Option.some.inj h).symm⟩⟩
        rcases c with rfl | rfl <;> rfl
      · split at h
        · rename_i c0 c1 c2 c
          split at h
          · refine Or.inr (Or.inr ⟨?_, Or.inr (Or.inl ⟨c, _, rfl, (Option.some.inj h).symm⟩)⟩)
            rcases c with rfl | rfl <;> rfl
          · cases h
        · split at h
          · rename_i c0 c1 c2 c3 c
            split at h
            · exact Or.inr (Or.inl ⟨c, _, rfl, (Option.some.inj h).symm⟩)
            · cases h
          · split at h
            · rename_i c0 c1 c2 c3 c4 c
              split at h
              · refine Or.inr (Or.inr ⟨?_, Or.inr (Or.inr ⟨c, _, rfl, (Option.some.inj h).symm⟩)⟩)
                rcases c with rfl | rfl <;> rfl
              · cases h
            · cases h
theorem simple_r {x st : Int} (h0 : 0 ≤ st) (h1 : st < 64) (hx : 0 ≤ x) (hx2 : x ≤ 6) : 0 ≤ f_M_simple x st ∧ f_M_simple x st < 4 := by
  unfold f_M_simple
  by_cases c : x < 4
  · rw [if_pos c]; omega
  · rw [if_neg c, if_pos (by omega)]; exact valueIn_r h0 h1 (by omega) (by omega)
theorem evx_ok {st x : Int} {T T2 : List Bool} {S : List Int} (h0 : 0 ≤ st) (h1 : st < 64) (ht : ty1 x T = some T2) (hv : vok T S) : vok T2 (evx st x S) := by
  unfold evx
  rcases ty1_c ht with ⟨ha, ⟨hx, hx2, rfl⟩ | ⟨hx, rfl⟩⟩ | ⟨rfl, r, rfl, rfl⟩ | ⟨ha, ⟨hx, hx2, r, rfl, rfl⟩ | ⟨hx, r, rfl, rfl⟩ | ⟨hx, r, rfl, rfl⟩⟩
  · rw [if_pos ha]
    have h2 := simple_r h0 h1 hx hx2
    exact ⟨⟨h2.1, h2.2, by simp⟩, hv⟩
  · rw [if_pos ha]
    refine ⟨?_, hv⟩
    rcases hx with rfl | rfl <;> simp [f_M_simple]
  · obtain ⟨v, R, rfl, h2, h3⟩ := vok_c hv
    have h4 := h2.2.2 rfl
    rw [if_neg (by decide), if_pos (by decide)]
    refine ⟨⟨?_, ?_, ?_⟩, h3⟩ <;> simp only [List.headD_cons] <;> omega
  · obtain ⟨v, R, rfl, h2, h3⟩ := vok_c hv
    obtain ⟨w, R, rfl, h4, h5⟩ := vok_c h3
    rw [if_neg (by omega), if_neg (by omega)]
    have h6 := joined_r hx hx2 h2.1 h2.2.1 h4.1 h4.2.1
    exact ⟨⟨h6.1, h6.2, by simp⟩, h5⟩
  · obtain ⟨v, R, rfl, h2, h3⟩ := vok_c hv
    obtain ⟨w, R, rfl, h4, h5⟩ := vok_c h3
    rw [if_neg (by omega), if_neg (by omega)]
    have h6 := joined_b (a := v) (b := w) hx
    refine ⟨⟨h6.1, ?_, fun _ => h6.2⟩, h5⟩
    simp only [List.headD_cons, List.tail_cons]; omega
  · obtain ⟨v, R, rfl, h2, h3⟩ := vok_c hv
    obtain ⟨w, R, rfl, h4, h5⟩ := vok_c h3
    rw [if_neg (by omega), if_neg (by omega)]
    have h6 := joined_c hx h2.1 (h2.2.2 rfl) h4.1 (h4.2.2 rfl)
    refine ⟨⟨h6.1, ?_, fun _ => h6.2⟩, h5⟩
    simp only [List.headD_cons, List.tail_cons]; omega
theorem evs_ok {st : Int} (h0 : 0 ≤ st) (h1 : st < 64) : ∀ {l : List Int} {T : List Bool}, tyS l = some T → vok T (evs st l)
  | [], T, h => by
    have h2 : [] = T := Option.some.inj h
    subst h2
    trivial
  | x :: l, T, h => by
    obtain ⟨T1, h2, h3⟩ := Option.bind_eq_some_iff.mp h
    exact evx_ok h0 h1 h3 (evs_ok h0 h1 h2)
theorem ty1_len {x : Int} {T T2 : List Bool} (h : ty1 x T = some T2) : T2.length ≤ T.length + 1 := by
  rcases ty1_c h with ⟨_, ⟨_, _, rfl⟩ | ⟨_, rfl⟩⟩ | ⟨_, r, rfl, rfl⟩ | ⟨_, ⟨_, _, r, rfl, rfl⟩ | ⟨_, r, rfl, rfl⟩ | ⟨_, r, rfl, rfl⟩⟩ <;> simp <;> omega
theorem tyS_len : ∀ {l : List Int} {T : List Bool}, tyS l = some T → T.length ≤ l.length
  | [], T, h => by
    have h2 : [] = T := Option.some.inj h
    subst h2
    exact Nat.le_refl _
  | x :: l, T, h => by
    obtain ⟨T1, h2, h3⟩ := Option.bind_eq_some_iff.mp h
    have := tyS_len h2
    have := ty1_len h3
    simp only [List.length_cons]; omega
theorem tyS_suf : ∀ {a l : List Int} {T : List Bool}, tyS (a ++ l) = some T → ∃ T2, tyS l = some T2
  | [], _, T, h => ⟨T, h⟩
  | x :: a, l, T, h => by
    obtain ⟨T1, h2, _⟩ := Option.bind_eq_some_iff.mp h
    exact tyS_suf h2
theorem tyS_node : ∀ {l : List Int} {T : List Bool}, tyS l = some T → ∀ x ∈ l, 0 ≤ x ∧ x ≤ 16
  | [], _, _ => fun _ h => by cases h
  | y :: l, T, h => by
    obtain ⟨T1, h2, h3⟩ := Option.bind_eq_some_iff.mp h
    intro x hx
    rcases List.mem_cons.mp hx with rfl | hx
    · rcases ty1_c h3 with ⟨_, ⟨_, _, _⟩ | ⟨_, _⟩⟩ | ⟨_, _⟩ | ⟨_, ⟨_, _, _⟩ | ⟨_, _⟩ | ⟨_, _⟩⟩ <;> omega
    · exact tyS_node h2 x hx
/-- k places of a row from b on, ahead of a list -/
def upto (f : Nat → Int) (b : Nat) : Nat → List Int → List Int
  | 0, l => l
  | k + 1, l => upto f b k (f (b + k) :: l)
theorem upto_app (f : Nat → Int) (b : Nat) : ∀ (k : Nat) (l : List Int), upto f b k l = upto f b k [] ++ l
  | 0, _ => rfl
  | k + 1, l => by
    simp only [upto]
    rw [upto_app f b k (f (b + k) :: l), upto_app f b k [f (b + k)], List.append_assoc]
    rfl
theorem upto_len (f : Nat → Int) (b : Nat) : ∀ (k : Nat) (l : List Int), (upto f b k l).length = k + l.length
  | 0, l => by simp [upto]
  | k + 1, l => by simp only [upto]; rw [upto_len f b k]; simp only [List.length_cons]; omega
theorem upto_get (f : Nat → Int) (b : Nat) : ∀ (k : Nat) (l : List Int) (i : Nat), i < k → (upto f b k l).getD i 0 = f (b + i)
  | 0, _, _, h => absurd h (Nat.not_lt_zero _)
  | k + 1, l, i, h => by
    simp only [upto]
    by_cases c : i < k
    · exact upto_get f b k _ i c
    · have e : i = k := by omega
      subst e
      rw [upto_app, List.getD_eq_getElem?_getD, List.getElem?_append_right (by rw [upto_len]; simp), upto_len]
      simp
theorem upto_congr {f g : Nat → Int} {b c : Nat} : ∀ (k : Nat) (l : List Int), (∀ i, i < k → f (b + i) = g (c + i)) → upto f b k l = upto g c k l
  | 0, _, _ => rfl
  | k + 1, l, h => by
    simp only [upto]
    rw [h k (Nat.lt_succ_self _)]
    exact upto_congr k _ fun i hi => h i (by omega)
/-- the formula that stands at number q of the reference's row of formulas -/
def lst (N : Nat → Int) (q : Int) : List Int := upto N ((31 * q).toNat + 1) (N (31 * q).toNat).toNat []
/-- a stack in a row: the list's first lies topmost -/
def stk (f : Nat → Int) : List Int → Prop
  | [] => True
  | v :: S => f S.length = v ∧ stk f S
theorem stk_congr {f g : Nat → Int} : ∀ {S : List Int}, (∀ i, i < S.length → f i = g i) → stk f S → stk g S
  | [], _, _ => trivial
  | v :: S, h, e => ⟨(h S.length (by simp)).symm.trans e.1, stk_congr (fun i hi => h i (by simp only [List.length_cons]; omega)) e.2⟩

