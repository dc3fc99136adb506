/-! Words and their letters; a text of words, read token by token. -/
def wlt (w : Int) : List Int :=
  if w < 4 then [48 + w] else if w = 4 then [97] else if w = 5 then [98] else if w = 6 then [99] else if w = 7 then [112, 108, 117, 115] else if w = 8 then [109, 105, 110, 117, 115] else if w = 9 then [116, 105, 109, 101, 115] else if w = 10 then [116, 114, 117, 101] else if w = 11 then [102, 97, 108, 115, 101] else if w = 12 then [101, 113] else if w = 13 then [108, 116] else if w = 14 then [110, 111, 116] else if w = 15 then [97, 110, 100] else if w = 16 then [111, 114] else if w = 17 then [115, 101, 116] else if w = 18 then [105, 102] else if w = 19 then [119, 104, 105, 108, 101] else if w = 20 then [104, 111, 108, 101] else if w = 21 then [101, 108, 115, 101] else if w = 22 then [101, 110, 100] else if w = 23 then [107, 101, 101, 112] else if w = 24 then [108, 101, 115, 115] else [112, 114, 111, 111, 102]
def ctx : List Int → List Int
  | [] => []
  | w :: ws => 32 :: (wlt w ++ ctx ws)
def spl : List Int → List Int
  | [] => []
  | w :: ws => wlt w ++ ctx ws
def wok (ws : List Int) : Prop := ∀ w ∈ ws, 0 ≤ w ∧ w ≤ 25
theorem ctx_app : ∀ a b : List Int, ctx (a ++ b) = ctx a ++ ctx b
  | [], _ => rfl
  | w :: a, b => by
    show 32 :: (wlt w ++ ctx (a ++ b)) = 32 :: (wlt w ++ ctx a) ++ ctx b
    rw [ctx_app a b, List.cons_append, List.append_assoc]
theorem spl_app {a b : List Int} (h : a ≠ []) : spl (a ++ b) = spl a ++ ctx b := by
  cases a with
  | nil => exact absurd rfl h
  | cons w a =>
    show wlt w ++ ctx (a ++ b) = (wlt w ++ ctx a) ++ ctx b
    rw [ctx_app, List.append_assoc]
theorem wl_all : ∀ w : Fin 26, (1 ≤ (wlt (w.val : Int)).length ∧ (wlt (w.val : Int)).length ≤ 5) ∧ (∀ j : Fin 5, j.val < (wlt (w.val : Int)).length → (if (w.val : Int) < 4 then diB (tg (wlt (w.val : Int)) j.val) = true ∧ leB (tg (wlt (w.val : Int)) j.val) = false else leB (tg (wlt (w.val : Int)) j.val) = true) ∧ blB (tg (wlt (w.val : Int)) j.val) = false ∧ 0 ≤ tg (wlt (w.val : Int)) j.val ∧ tg (wlt (w.val : Int)) j.val < 128) := by decide +kernel
theorem wl_c {w : Int} (h0 : 0 ≤ w) (h1 : w ≤ 25) : (1 ≤ (wlt w).length ∧ (wlt w).length ≤ 5) ∧ (∀ j, j < (wlt w).length → (if w < 4 then diB (tg (wlt w) j) = true ∧ leB (tg (wlt w) j) = false else leB (tg (wlt w) j) = true) ∧ blB (tg (wlt w) j) = false ∧ 0 ≤ tg (wlt w) j ∧ tg (wlt w) j < 128) := by
  have A := wl_all ⟨w.toNat, by omega⟩
  simp only at A
  rw [show ((w.toNat : Nat) : Int) = w from by omega] at A
  exact ⟨A.1, fun j hj => A.2 ⟨j, by have := A.1.2; omega⟩ hj⟩
theorem wcd_all : ∀ w : Fin 22, wcode (fun i => tg (wlt ((w.val : Int) + 4)) i) 0 ((wlt ((w.val : Int) + 4)).length : Int) = (w.val : Int) + 4 := by decide +kernel
theorem keyF_i {I J : Nat → Int} {s k : Int} {n : Nat} (s0 : 0 ≤ s) (H : ∀ j : Nat, j < n → I (s + j).toNat = J j) : ∀ (m : Nat) (j : Int), 0 ≤ j → keyF I s (s + n) k m j = keyF J 0 (n : Int) k m j
  | 0, _, _ => rfl
  | m + 1, j, hj => by
    rw [keyF, keyF, keyF_i s0 H m (j + 1) (by omega)]
    have e : keyJ I s (s + n) k j = keyJ J 0 (n : Int) k j := by
      unfold keyJ
      by_cases c : j < (n : Int)
      · rw [if_pos (by omega), if_pos (by omega)]
        have := H j.toNat (by omega)
        rw [show (s + (j.toNat : Int)).toNat = (s + j).toNat from by omega] at this
        rw [this, show (0 + j).toNat = j.toNat from by omega]
      · rw [if_neg (by omega), if_neg (by omega)]
    rw [e]
theorem wcode_i {I J : Nat → Int} {s : Int} {n : Nat} (s0 : 0 ≤ s) (H : ∀ j : Nat, j < n → I (s + j).toNat = J j) : wcode I s (s + n) = wcode J 0 (n : Int) := by
  have e : zfind (fun w => keyB I s (s + n) (kOf w) = true) 4 22 = zfind (fun w => keyB J 0 (n : Int) (kOf w) = true) 4 22 := zfind_congr _ _ fun w _ _ => by
    unfold keyB
    rw [keyF_i s0 H 5 0 (by decide), show s + (n : Int) - s = (n : Int) - 0 from by omega]
  unfold wcode
  rw [e]
section TKQ
variable {I : Nat → Int} {len : Int}
def TKs (I : Nat → Int) (len : Int) : List Int → TK → Prop
  | [], t => t.1 = -2
  | w :: ws, t => t.1 = w ∧ TKs I len ws (tok I len true t.2.2)
theorem skp_run {P : Int → Bool} : ∀ (k m : Nat) (p : Int), k < m → (∀ j : Nat, j < k → P (chr I len (p + j)) = true) → P (chr I len (p + k)) = false → skp P I len m p = p + k
  | 0, m + 1, p, _, _, h => by
    rw [show p + ((0 : Nat) : Int) = p from by omega] at h ⊢
    rw [skp, h]
    rfl
  | k + 1, m + 1, p, hm, hj, h => by
    have h0 := hj 0 (by omega)
    rw [show p + ((0 : Nat) : Int) = p from by omega] at h0
    rw [skp, if_pos h0, skp_run k m (p + 1) (by omega) (fun j q => by
      have := hj (j + 1) (by omega)
      rw [show p + ((j + 1 : Nat) : Int) = p + 1 + (j : Int) from by omega] at this
      exact this) (by rw [show p + 1 + (k : Int) = p + ((k + 1 : Nat) : Int) from by omega]; exact h)]
    omega
theorem tg_at {pre m : List Int} (j : Nat) : tg (pre ++ m) (pre.length + j) = tg m j := by
  rw [tg_r (by omega), Nat.add_sub_cancel_left]
/-- a word that begins at s -/
theorem tok_w {U pre post : List Int} {w e : Int} {b : Bool} (hI : ∀ i, i < U.length → I i = tg U i) (hl : len = U.length) (h8 : U.length ≤ 780) (w0 : 0 ≤ w) (w1 : w ≤ 25) (hU : U = pre ++ (wlt w ++ post)) (hp : post = [] ∨ ∃ r, post = 32 :: r) (es : skp blB I len 800 e = pre.length) (eb : (b && decide ((pre.length : Int) = e)) = false) : tok I len b e = (w, (pre.length : Int), ((pre.length + (wlt w).length : Nat) : Int)) := by
  obtain ⟨⟨l1, l5⟩, lw⟩ := wl_c w0 w1
  have lU : U.length = pre.length + ((wlt w).length + post.length) := by rw [hU, List.length_append, List.length_append]
  have cw : ∀ j : Nat, j < (wlt w).length → chr I len ((pre.length : Int) + j) = tg (wlt w) j := fun j hj => by
    rw [chr_in (by omega) (by omega), show ((pre.length : Int) + (j : Int)).toNat = pre.length + j from by omega, hI _ (by omega), hU, tg_at, tg_l hj]
  have cp : ∀ P : Int → Bool, P (-1) = false → P 32 = false → P (chr I len ((pre.length : Int) + ((wlt w).length : Nat))) = false := fun P p1 p2 => by
    rcases hp with hp | ⟨r, hp⟩
    · rw [chr_out (by rw [hp, List.length_nil] at lU; omega)]; exact p1
    · have lr : post.length = r.length + 1 := by rw [hp]; rfl
      rw [chr_in (by omega) (by omega), show ((pre.length : Int) + ((wlt w).length : Int)).toNat = pre.length + (wlt w).length from by omega, hI _ (by omega), hU, tg_at]
      rw [show (wlt w).length = (wlt w).length + 0 from rfl, tg_at, hp]
      exact p2
  have c0 := cw 0 (by omega)
  rw [show (pre.length : Int) + ((0 : Nat) : Int) = (pre.length : Int) from by omega] at c0
  unfold tok
  rw [es, eb]
  unfold tkw
  rw [if_neg (by omega), if_neg (by decide), c0]
  have q0 := (lw 0 (by omega)).1
  by_cases c4 : w < 4
  · rw [if_pos c4] at q0
    rw [q0.2, q0.1, if_neg (by decide), if_pos rfl]
    have lw1 : (wlt w).length = 1 := by unfold wlt; rw [if_pos c4]; rfl
    have tw : tg (wlt w) 0 = 48 + w := by unfold wlt; rw [if_pos c4]; rfl
    have e1 : skp diB I len 800 (pre.length : Int) = (pre.length : Int) + ((wlt w).length : Nat) := skp_run _ _ _ (by omega) (fun j hj => by
      rw [cw j hj]
      have := (lw j hj).1
      rw [if_pos c4] at this
      exact this.1) (cp diB (by decide) (by decide))
    rw [e1]
    have I0 : I pre.length = 48 + w := by
      have := hI pre.length (by omega)
      rw [this, hU, show pre.length = pre.length + 0 from rfl, tg_at, tg_l (by omega), tw]
    have n1 : ncode I (pre.length : Int) ((pre.length : Int) + ((wlt w).length : Nat)) = w := by
      unfold ncode
      rw [lw1, show ((pre.length : Int) + ((1 : Nat) : Int) - (pre.length : Int)).toNat = 1 from by omega]
      have nv : numv I (pre.length : Int) 1 = w := by
        show 10 * 0 + I ((pre.length : Int) + ((0 : Nat) : Int)).toNat - 48 = w
        rw [show ((pre.length : Int) + ((0 : Nat) : Int)).toNat = pre.length from by omega, I0]
        omega
      rw [nv, if_neg (by omega), if_neg (by omega)]
    rw [n1]
    rfl
  · rw [if_neg c4] at q0
    rw [q0, if_pos rfl]
    have e1 : skp leB I len 800 (pre.length : Int) = (pre.length : Int) + ((wlt w).length : Nat) := skp_run _ _ _ (by omega) (fun j hj => by
      rw [cw j hj]
      have := (lw j hj).1
      rw [if_neg c4] at this
      exact this) (cp leB (by decide) (by decide))
    rw [e1]
    have n1 : wcode I (pre.length : Int) ((pre.length : Int) + ((wlt w).length : Nat)) = w := by
      rw [wcode_i (J := fun i => tg (wlt w) i) (by omega) (fun j hj => by
        rw [show ((pre.length : Int) + (j : Int)).toNat = pre.length + j from by omega, hI _ (by omega), hU, tg_at, tg_l hj])]
      have A := wcd_all ⟨(w - 4).toNat, by omega⟩
      simp only at A
      rw [show (((w - 4).toNat : Nat) : Int) + 4 = w from by omega] at A
      exact A
    rw [n1]
    rfl
theorem tks_ctx {U : List Int} (hI : ∀ i, i < U.length → I i = tg U i) (hl : len = U.length) (h8 : U.length ≤ 780) : ∀ (ws pre : List Int) (b : Bool), wok ws → U = pre ++ ctx ws → TKs I len ws (tok I len b (pre.length : Int))
  | [], pre, b, _, hU => by
    have l : U.length = pre.length := by rw [hU]; show (pre ++ []).length = _; rw [List.append_nil]
    have es : skp blB I len 800 (pre.length : Int) = pre.length := by
      have := skp_run (I := I) (len := len) (P := blB) 0 800 (pre.length : Int) (by omega) (fun j hj => absurd hj (Nat.not_lt_zero _)) (by rw [chr_out (by omega)]; rfl)
      rw [this]
      omega
    show (tok I len b (pre.length : Int)).1 = -2
    unfold tok
    rw [es]
    unfold tkw
    rw [if_pos (by omega)]
  | w :: ws, pre, b, hw, hU => by
    have hw0 := hw w (List.mem_cons_self ..)
    obtain ⟨⟨l1, l5⟩, lw⟩ := wl_c hw0.1 hw0.2
    have hU2 : U = (pre ++ [32]) ++ (wlt w ++ ctx ws) := by
      rw [hU, List.append_assoc]
      rfl
    have lU : U.length = pre.length + (1 + ((wlt w).length + (ctx ws).length)) := by
      rw [hU2, List.length_append, List.length_append, List.length_append]
      show pre.length + 1 + _ = _
      omega
    have lp : (pre ++ [32]).length = pre.length + 1 := by rw [List.length_append]; rfl
    have es : skp blB I len 800 (pre.length : Int) = ((pre ++ [32]).length : Int) := by
      have := skp_run (I := I) (len := len) (P := blB) 1 800 (pre.length : Int) (by omega) (fun j hj => by
        have j0 : j = 0 := by omega
        subst j0
        rw [show (pre.length : Int) + ((0 : Nat) : Int) = (pre.length : Int) from by omega, chr_in (by omega) (by omega), show ((pre.length : Int)).toNat = pre.length from by omega, hI _ (by omega), hU, show pre.length = pre.length + 0 from rfl, tg_at]
        rfl) (by
        rw [chr_in (by omega) (by omega), show ((pre.length : Int) + ((1 : Nat) : Int)).toNat = (pre ++ [32]).length + 0 from by omega, hI _ (by omega), hU2, tg_at, tg_l (by omega)]
        exact (lw 0 (by omega)).2.1)
      rw [this, lp]
      omega
    have T := tok_w (I := I) (len := len) (b := b) (e := (pre.length : Int)) hI hl h8 hw0.1 hw0.2 hU2 (by
      cases ws with
      | nil => exact Or.inl rfl
      | cons x l => exact Or.inr ⟨_, rfl⟩) es (by
      rw [lp, decide_eq_false (by omega), Bool.and_false])
    rw [T]
    refine ⟨rfl, ?_⟩
    have hU3 : U = ((pre ++ [32]) ++ wlt w) ++ ctx ws := by rw [hU2, List.append_assoc, List.append_assoc, List.append_assoc]
    have R := tks_ctx hI hl h8 ws ((pre ++ [32]) ++ wlt w) true (fun x hx => hw x (List.mem_cons_of_mem _ hx)) hU3
    rw [List.length_append] at R
    exact R
theorem tks_spl {U : List Int} (hI : ∀ i, i < U.length → I i = tg U i) (hl : len = U.length) (h8 : U.length ≤ 780) {w : Int} {ws : List Int} (hw : wok (w :: ws)) (hU : U = spl (w :: ws)) : TKs I len (w :: ws) (tok I len false 0) := by
  have hw0 := hw w (List.mem_cons_self ..)
  obtain ⟨⟨l1, l5⟩, lw⟩ := wl_c hw0.1 hw0.2
  have hU2 : U = [] ++ (wlt w ++ ctx ws) := hU
  have lU : U.length = (wlt w).length + (ctx ws).length := by rw [hU2, List.nil_append, List.length_append]
  have es : skp blB I len 800 0 = (([] : List Int).length : Int) := by
    have := skp_run (I := I) (len := len) (P := blB) 0 800 0 (by omega) (fun j hj => absurd hj (Nat.not_lt_zero _)) (by
      rw [chr_in (by omega) (by omega), show ((0 : Int) + ((0 : Nat) : Int)).toNat = 0 from rfl, hI _ (by omega), hU2, List.nil_append, tg_l (by omega)]
      exact (lw 0 (by omega)).2.1)
    rw [this]
    rfl
  have T := tok_w (I := I) (len := len) (b := false) (e := 0) hI hl h8 hw0.1 hw0.2 hU2 (by
    cases ws with
    | nil => exact Or.inl rfl
    | cons x l => exact Or.inr ⟨_, rfl⟩) es rfl
  rw [T]
  refine ⟨rfl, ?_⟩
  have R := tks_ctx hI hl h8 ws ([] ++ wlt w) true (fun x hx => hw x (List.mem_cons_of_mem _ hx)) (by rw [hU2, List.append_assoc])
  rw [List.length_append] at R
  exact R
end TKQ
/-- letters -/
theorem asc_app {a b : List Int} (ha : ascL a) (hb : ascL b) : ascL (a ++ b) := fun i hi => by
  rw [List.length_append] at hi
  by_cases c : i < a.length
  · rw [tg_l c]; exact ha i c
  · rw [tg_r (by omega)]; exact hb _ (by omega)
theorem asc_wl {w : Int} (h0 : 0 ≤ w) (h1 : w ≤ 25) : ascL (wlt w) := fun i hi => ((wl_c h0 h1).2 i hi).2.2
theorem asc_32 : ascL [32] := fun i hi => by
  have : [(32 : Int)].length = 1 := rfl
  have i0 : i = 0 := by omega
  subst i0
  exact ⟨by decide, by decide⟩
theorem asc_ctx : ∀ ws : List Int, wok ws → ascL (ctx ws)
  | [], _ => fun i hi => absurd hi (Nat.not_lt_zero _)
  | w :: ws, h => asc_app (a := [32]) asc_32 (asc_app (asc_wl (h w (List.mem_cons_self ..)).1 (h w (List.mem_cons_self ..)).2) (asc_ctx ws fun x hx => h x (List.mem_cons_of_mem _ hx)))
theorem asc_spl : ∀ ws : List Int, wok ws → ascL (spl ws)
  | [], _ => fun i hi => absurd hi (Nat.not_lt_zero _)
  | w :: ws, h => asc_app (asc_wl (h w (List.mem_cons_self ..)).1 (h w (List.mem_cons_self ..)).2) (asc_ctx ws fun x hx => h x (List.mem_cons_of_mem _ hx))
theorem ctx_len : ∀ ws : List Int, wok ws → 2 * ws.length ≤ (ctx ws).length ∧ (ctx ws).length ≤ 6 * ws.length
  | [], _ => ⟨Nat.le_refl _, Nat.le_refl _⟩
  | w :: ws, h => by
    have ih := ctx_len ws fun x hx => h x (List.mem_cons_of_mem _ hx)
    have lw := (wl_c (h w (List.mem_cons_self ..)).1 (h w (List.mem_cons_self ..)).2).1
    have e : (ctx (w :: ws)).length = 1 + ((wlt w).length + (ctx ws).length) := by
      show (32 :: (wlt w ++ ctx ws)).length = _
      rw [List.length_cons, List.length_append]
      omega
    rw [e, List.length_cons]
    omega
theorem wok_app {a b : List Int} (ha : wok a) (hb : wok b) : wok (a ++ b) := fun w hw => by
  rcases List.mem_append.1 hw with q | q
  · exact ha w q
  · exact hb w q
