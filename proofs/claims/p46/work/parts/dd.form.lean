/-! What the law's formula comes to. -/
theorem zbk {m pcc pc : Nat} {L : zL} {S : List zV} {v : zV} {h : zH} : zBack zY m pcc pc L S (some (.inl (some v), h)) = zY m pc L (v :: S) h := rfl
theorem zbk0 {m pcc pc : Nat} {L : zL} {S : List zV} {h : zH} : zBack zY m pcc pc L S (some (.inl none, h)) = zY m pc L S h := rfl
theorem tx_of {h : zH} (K : KS h) {s : Nat} {U : List Int} (s0 : zVB < s) (t : hT (zH0 0 (fun _ => 0)) s = 40) (l : hL (zH0 0 (fun _ => 0)) s = U.length) (c : ∀ i, i < U.length → hI (zH0 0 (fun _ => 0)) s i = tg U i) : TXc h s U := by
  have k := K s s0
  exact ⟨Nat.le_of_lt s0, k.1.trans t, k.2.1.trans l, fun i hi => (congrFun k.2.2.1 i).trans (c i hi)⟩
theorem tx_33 {h : zH} (K : KS h) : TXc h (zVB + 33) (32 :: wlt 7) := tx_of K (by omega) (by decide) (by decide) (by decide)
theorem tx_34 {h : zH} (K : KS h) : TXc h (zVB + 34) (32 :: wlt 8) := tx_of K (by omega) (by decide) (by decide) (by decide)
theorem tx_35 {h : zH} (K : KS h) : TXc h (zVB + 35) (32 :: wlt 9) := tx_of K (by omega) (by decide) (by decide) (by decide)
theorem tx_36 {h : zH} (K : KS h) : TXc h (zVB + 36) (32 :: wlt 14) := tx_of K (by omega) (by decide) (by decide) (by decide)
theorem tx_37 {h : zH} (K : KS h) : TXc h (zVB + 37) (32 :: wlt 15) := tx_of K (by omega) (by decide) (by decide) (by decide)
theorem tx_38 {h : zH} (K : KS h) : TXc h (zVB + 38) (32 :: wlt 16) := tx_of K (by omega) (by decide) (by decide) (by decide)
theorem tx_39 {h : zH} (K : KS h) : TXc h (zVB + 39) (32 :: wlt 10) := tx_of K (by omega) (by decide) (by decide) (by decide)
theorem tx_40 {h : zH} (K : KS h) : TXc h (zVB + 40) (32 :: wlt 11) := tx_of K (by omega) (by decide) (by decide) (by decide)
theorem tx_41 {h : zH} (K : KS h) : TXc h (zVB + 41) (32 :: wlt 12) := tx_of K (by omega) (by decide) (by decide) (by decide)
theorem tx_42 {h : zH} (K : KS h) : TXc h (zVB + 42) (32 :: wlt 13) := tx_of K (by omega) (by decide) (by decide) (by decide)
theorem tx_43 {h : zH} (K : KS h) : TXc h (zVB + 43) (32 :: wlt 18) := tx_of K (by omega) (by decide) (by decide) (by decide)
theorem tx_45 {h : zH} (K : KS h) : TXc h (zVB + 45) (32 :: wlt 23) := tx_of K (by omega) (by decide) (by decide) (by decide)
theorem tx_50 {h : zH} (K : KS h) : TXc h (zVB + 50) (32 :: wlt 20) := tx_of K (by omega) (by decide) (by decide) (by decide)
theorem tx_51 {h : zH} (K : KS h) : TXc h (zVB + 51) (32 :: wlt 21) := tx_of K (by omega) (by decide) (by decide) (by decide)
theorem tx_52 {h : zH} (K : KS h) : TXc h (zVB + 52) (32 :: wlt 22) := tx_of K (by omega) (by decide) (by decide) (by decide)
theorem tx_32 {h : zH} (K : KS h) : TXc h (zVB + 32) (wlt 25) := tx_of K (by omega) (by decide) (by decide) (by decide)
theorem tx_53 {h : zH} (K : KS h) : TXc h (zVB + 53) (ctx [21, 22]) := tx_of K (by omega) (by decide) (by decide) (by decide)
theorem tx_44 {h : zH} (K : KS h) : TXc h (zVB + 44) [32, 119, 104, 105, 108, 101, 32, 108, 116, 32, 48, 32] := tx_of K (by omega) (by decide) (by decide) (by decide)
theorem tx_46 {h : zH} (K : KS h) : TXc h (zVB + 46) [32, 108, 101, 115, 115, 32] := tx_of K (by omega) (by decide) (by decide) (by decide)
theorem tx_47 {h : zH} (K : KS h) : TXc h (zVB + 47) [32, 115, 101, 116, 32] := tx_of K (by omega) (by decide) (by decide) (by decide)
theorem tx_48 {h : zH} (K : KS h) : TXc h (zVB + 48) [32, 109, 105, 110, 117, 115, 32] := tx_of K (by omega) (by decide) (by decide) (by decide)
theorem tx_49 {h : zH} (K : KS h) : TXc h (zVB + 49) [32, 49] := tx_of K (by omega) (by decide) (by decide) (by decide)
theorem tx_54 {h : zH} (K : KS h) : TXc h (zVB + 54) [101, 113, 32, 97] := tx_of K (by omega) (by decide) (by decide) (by decide)
theorem tx_55 {h : zH} (K : KS h) : TXc h (zVB + 55) [110, 111, 116, 32, 97] := tx_of K (by omega) (by decide) (by decide) (by decide)
theorem wl_v {x : Int} (h0 : 0 ≤ x) (h1 : x < 3) : wlt (4 + x) = [97 + x] := by
  have : x = 0 ∨ x = 1 ∨ x = 2 := by omega
  rcases this with e | e | e <;> (subst e; rfl)
theorem wl_n {x : Int} (h0 : 0 ≤ x) (h1 : x < 4) : wlt x = [48 + x] := by
  unfold wlt
  rw [if_pos h1]
theorem chv {x : Int} (h0 : 0 ≤ x) (h1 : x < 3) : zi2c (zwadd 97 x) = 97 + x := by
  have : x = 0 ∨ x = 1 ∨ x = 2 := by omega
  rcases this with e | e | e <;> (subst e; decide)
theorem tmd {x k : Int} (h0 : 0 ≤ x) (hk : 0 < k) : 0 ≤ Int.tmod x k ∧ Int.tmod x k < k := ⟨Int.tmod_nonneg _ h0, Int.tmod_lt_of_pos _ hk⟩
theorem rd2 (h : zH) (a j i : Nat) (v w : Int) : hI (sI (sI h a j v) a (j + 1) w) a i = if i = j + 1 then w else if i = j then v else hI h a i := by
  by_cases c : i = j + 1
  · rw [if_pos c, c]; exact zup_s _ _ _ _
  · rw [if_neg c]
    refine (zup_n _ _ _ _ _ _ (fun q => c q.2)).trans ?_
    by_cases d : i = j
    · rw [if_pos d, d]; exact zup_s _ _ _ _
    · rw [if_neg d]; exact zup_n _ _ _ _ _ _ (fun q => d q.2)
section FRM
variable {C b r a : Nat} {hs h h2 : zH} {ds k d d2 : Nat} {T T2 : List Int} {e c : Nat} {x1 x2 : Int}
/-- while a formula is written: the builder, what stands beside it, what is pending -/
def FI (C b r a : Nat) (hs : zH) (ds k : Nat) (h : zH) (T : List Int) (d e c : Nat) : Prop := BD C b h T d ∧ BF r b ds d k hs h ∧ (hT h r = 22 ∧ r < hN h ∧ hL h r = 1) ∧ (hT h a = 22 ∧ a < hN h ∧ hL h a = 20 ∧ hN hs ≤ a ∧ a ≠ r) ∧ KS h ∧ (∀ j, j < c → hI h a j = 1) ∧ (∀ j, c ≤ j → j < c + e → hI h a j = 0)
/-- what a formula's run comes to -/
def FO1 (C b r : Nat) (hs : zH) (ds k F : Nat) (T : List Int) (e c : Nat) (o : zO) : Prop := ∃ h2 d2 codes, o = some (.inl none, h2) ∧ accF codes e c ∧ codes.length ≤ F ∧ wok codes ∧ BD C b h2 (T ++ ctx codes) d2 ∧ BF r b ds d2 (k + 2 * F) hs h2 ∧ KS h2 ∧ hT h2 r = 22 ∧ hL h2 r = 1
theorem ne_21 (S : BD C b h T d) (t : hT h a = 22) : a ≠ b ∧ a ≠ d := ⟨fun e => by have := S.2.2.2.1; subst e; omega, fun e => by have := S.2.2.2.2.2.2.2.1; subst e; omega⟩
theorem fi_next (H : FI C b r a hs ds k h T d e c) : ∃ x h1, zC 207 [zR (some r)] h = some (.inl (some (zI x)), h1) ∧ (0 ≤ x ∧ x < 8388608) ∧ hN h1 = hN h ∧ FI C b r a hs ds k h1 T d e c := by
  obtain ⟨S, F, ⟨r1, r2, r3⟩, ⟨a1, a2, a3, a4, a5⟩, K, K1, K0⟩ := H
  have z := S.2.2.1
  refine ⟨_, _, c_next r1 r2 (by omega), yV_r _, rfl, BD_s S r1, ⟨F.1, F.2.1, fun q hq e1 e2 e3 => Gs_t (F.2.2 q hq e1 e2 e3) (Gs_sI h _ _ e3)⟩, ⟨r1, r2, r3⟩, ⟨a1, a2, a3, a4, a5⟩, KS_B S (by omega) K (BF_s (r := r) S), fun j hj => ?_, fun j h0 h1 => ?_⟩
  · exact (congrFun (zup_a _ _ _ a5) j).trans (K1 j hj)
  · exact (congrFun (zup_a _ _ _ a5) j).trans (K0 j h0 h1)
theorem fi_app (H : FI C b r a hs ds k h T d e c) (S2 : BD C b h2 T2 d2) (F2 : BF b b d d2 1 h h2) : FI C b r a hs ds (k + 1) h2 T2 d2 e c := by
  obtain ⟨S, F, ⟨r1, r2, r3⟩, ⟨a1, a2, a3, a4, a5⟩, K, K1, K0⟩ := H
  have z := S.2.2.1
  have nb := BD_nb S
  obtain ⟨er, dr⟩ := ne_21 S r1
  obtain ⟨ea, da⟩ := ne_21 S a1
  have gr := F2.2.2 r (Or.inl r2) er dr er
  have ga := F2.2.2 a (Or.inl a2) ea da ea
  have m := F2.2.1.1
  refine ⟨S2, BF_t F ⟨F2.1, F2.2.1, fun q hq e1 e2 _ => F2.2.2 q hq e1 e2 e1⟩, ⟨gr.1.trans r1, by omega, by rw [gr.2.1]; exact r3⟩, ⟨ga.1.trans a1, by omega, ga.2.1.trans a3, a4, a5⟩, KS_B S (by omega) K F2, fun j hj => ?_, fun j h0 h1 => ?_⟩
  · exact (congrFun ga.2.2.2.1 j).trans (K1 j hj)
  · exact (congrFun ga.2.2.2.1 j).trans (K0 j h0 h1)
theorem fi_w (H : FI C b r a hs ds k h T d e c) {j e2 c2 : Nat} {v w : Int} (K1 : ∀ i, i < c2 → (if i = j + 1 then w else if i = j then v else hI h a i) = 1) (K0 : ∀ i, c2 ≤ i → i < c2 + e2 → (if i = j + 1 then w else if i = j then v else hI h a i) = 0) : FI C b r a hs ds k (sI (sI h a j v) a (j + 1) w) T d e2 c2 := by
  obtain ⟨S, F, ⟨r1, r2, r3⟩, ⟨a1, a2, a3, a4, a5⟩, K, _, _⟩ := H
  have z := S.2.2.1
  have S1 := BD_s (j := j) (v := v) S a1
  have Fa : BF a b d d (0 + 0) h (sI (sI h a j v) a (j + 1) w) := BF_t (BF_s (r := a) S) (BF_s (r := a) S1)
  refine ⟨BD_s S1 a1, ⟨F.1, F.2.1, fun q hq e1 e2 e3 => Gs_t (F.2.2 q hq e1 e2 e3) (Gs_t (Gs_sI h _ _ (by omega)) (Gs_sI _ _ _ (by omega)))⟩, ⟨r1, r2, r3⟩, ⟨a1, a2, a3, a4, a5⟩, KS_B S (by omega) K Fa, fun i hi => ?_, fun i h0 h1 => ?_⟩
  · rw [rd2]; exact K1 i hi
  · rw [rd2]; exact K0 i h0 h1
theorem fi_pop (H : FI C b r a hs ds k h T d e c) {e2 c2 : Nat} (h1 : c2 ≤ c) (h2 : c2 + e2 ≤ c + e) (h3 : e2 = 0 ∨ c2 = c) : FI C b r a hs ds k h T d e2 c2 := by
  obtain ⟨S, F, Hr, Ha, K, K1, K0⟩ := H
  exact ⟨S, F, Hr, Ha, K, fun j hj => K1 j (by omega), fun j q0 q1 => K0 j (by omega) (by omega)⟩
theorem fo_cons {F e2 c2 : Nat} {x : Int} {o : zO} (hx : (0 < e ∧ 0 ≤ x ∧ x ≤ 9) ∨ (e = 0 ∧ 0 < c ∧ 10 ≤ x ∧ x ≤ 16)) (he : e2 = e - (if 0 < e then 1 else 0) + exB x) (hc : c2 = c - (if 0 < e then 0 else 1) + cdB x) (H : FO1 C b r hs ds (k + 2) F (T ++ (32 :: wlt x)) e2 c2 o) : FO1 C b r hs ds k (F + 1) T e c o := by
  obtain ⟨h2, d2, codes, h1, h3, h4, h5, h6, h7, h8⟩ := H
  subst he hc
  refine ⟨h2, d2, x :: codes, h1, ⟨hx, h3⟩, by simpa using h4, fun w hw => ?_, ?_, BF_m h7 (by omega), h8⟩
  · rcases List.mem_cons.1 hw with q | q
    · subst q; omega
    · exact h5 w q
  · rw [List.append_assoc] at h6
    exact h6
theorem fo_k {F k2 : Nat} {o : zO} (H : FO1 C b r hs ds k2 F T e c o) (hk : k2 ≤ k) : FO1 C b r hs ds k F T e c o := by
  obtain ⟨h2, d2, codes, h1, h3, h4, h5, h6, h7, h8⟩ := H
  exact ⟨h2, d2, codes, h1, h3, h4, h5, h6, BF_m h7 (by omega), h8⟩
theorem fo_le {F m pc : Nat} {L L2 : zL} {S : List zV} (q : zle L L2) (H : FO1 C b r hs ds k F T e c (zY m pc L S h)) : FO1 C b r hs ds k F T e c (zY m pc L2 S h) := by
  obtain ⟨h2, d2, codes, h1, H⟩ := H
  exact ⟨h2, d2, codes, zY_le q h1, H⟩
/-- the loop of formula, with at most F steps more -/
def FIH (C b r a : Nat) (hs : zH) (ds : Nat) (x1 x2 : Int) (F : Nat) : Prop := ∀ (h : zH) (T : List Int) (d e c left k : Nat) (m l : Int), e + 3 * c + 4 * left ≤ F → m = ((c + e : Nat) : Int) → l = (left : Int) → c + e ≤ 18 → left ≤ 2 → FI C b r a hs ds k h T d e c → T.length + 6 * F ≤ C → hN h + 2 * F + 1 < zVB → FO1 C b r hs ds k F T e c (zY 216 25 [some (zR (some b)), some (zI x1), some (zI x2), some (zR (some r)), some (zR (some a)), some (zI m), some (zI l), none] [] h)
theorem ff_113 (hC : C ≤ 900) {F left : Nat} {m l : Int} (IH : FIH C b r a hs ds x1 x2 F) (he : 0 < e) (hF : e + 3 * c + 4 * left ≤ F + 1) (em : m = ((c + e : Nat) : Int) - 1) (el : l = (left : Int)) (h18 : c + e ≤ 18) (hl2 : left ≤ 2) (H : FI C b r a hs ds k h T d e c) (hT1 : T.length + 6 * (F + 1) ≤ C) (hz : hN h + 2 * (F + 1) + 1 < zVB) : FO1 C b r hs ds k (F + 1) T e c (zY 216 113 [some (zR (some b)), some (zI x1), some (zI x2), some (zR (some r)), some (zR (some a)), some (zI m), some (zI l), none] [] h) := by
  rw [q_L_formula_113]
  obtain ⟨x, h1, E1, xr, n1, H1⟩ := fi_next H
  rw [E1, zbk, q_L_formula_117, gd_t (by omega)]
  by_cases cx : Int.tmod x 2 = 0
  · rw [if_pos cx, q_L_formula_122 H1.1.2.2.2.1 (BD_nb H1.1)]
    obtain ⟨h2, d2, E2, S2, F2⟩ := x_appC hC H1.1 (x := 32) (by decide) (by decide) (by omega) (by omega) b
    have H2 := fi_app H1 S2 F2
    have f2 := F2.2.1
    rw [E2, zbk, q_L_formula_128]
    obtain ⟨y, h3, E3, yr, n3, H3⟩ := fi_next H2
    have ym := tmd (k := 4) yr.1 (by decide)
    rw [E3, zbk, q_L_formula_132 H3.1.2.2.2.1 (BD_nb H3.1), gd_t (by omega)]
    obtain ⟨h4, d4, E4, S4, F4⟩ := x_appI hC H3.2.2.2.2.1 H3.1 (v := Int.tmod y 4) ym.1 (by omega) (by simp; omega) (by omega) b
    have H4 := fi_app H3 S4 F4
    have f4 := F4.2.1
    rw [E4, zbk, q_L_formula_137]
    have eT : T ++ [32] ++ [48 + Int.tmod y 4] = T ++ (32 :: wlt (Int.tmod y 4)) := by rw [wl_n ym.1 ym.2, List.append_assoc]; rfl
    rw [eT] at H4
    have lT : (T ++ (32 :: wlt (Int.tmod y 4))).length = T.length + 2 := by rw [wl_n ym.1 ym.2]; simp
    refine fo_cons (e2 := e - 1) (c2 := c) (x := Int.tmod y 4) (Or.inl (by omega)) (by rw [if_pos he]; unfold exB; rw [if_neg (by omega)]; omega) (by rw [if_pos he]; unfold cdB; rw [if_neg (by omega), if_neg (by omega)]; omega) ?_
    exact IH h4 _ d4 (e - 1) c left (k + 1 + 1) m l (by omega) (by omega) el (by omega) hl2 (fi_pop H4 (Nat.le_refl _) (by omega) (Or.inr rfl)) (by rw [lT]; omega) (by omega)
  · rw [if_neg cx, q_L_formula_141 H1.1.2.2.2.1 (BD_nb H1.1)]
    obtain ⟨h2, d2, E2, S2, F2⟩ := x_appC hC H1.1 (x := 32) (by decide) (by decide) (by omega) (by omega) b
    have H2 := fi_app H1 S2 F2
    have f2 := F2.2.1
    rw [E2, zbk, q_L_formula_147]
    obtain ⟨y, h3, E3, yr, n3, H3⟩ := fi_next H2
    have ym := tmd (k := 3) yr.1 (by decide)
    rw [E3, zbk, q_L_formula_153 H3.1.2.2.2.1 (BD_nb H3.1), gd_t (by omega), chv ym.1 ym.2]
    obtain ⟨h4, d4, E4, S4, F4⟩ := x_appC hC H3.1 (x := 97 + Int.tmod y 3) (by omega) (by omega) (by simp; omega) (by omega) b
    have H4 := fi_app H3 S4 F4
    have f4 := F4.2.1
    rw [E4, zbk, q_L_formula_160]
    have eT : T ++ [32] ++ [97 + Int.tmod y 3] = T ++ (32 :: wlt (4 + Int.tmod y 3)) := by rw [wl_v ym.1 ym.2, List.append_assoc]; rfl
    rw [eT] at H4
    have lT : (T ++ (32 :: wlt (4 + Int.tmod y 3))).length = T.length + 2 := by rw [wl_v ym.1 ym.2]; simp
    refine fo_cons (e2 := e - 1) (c2 := c) (x := 4 + Int.tmod y 3) (Or.inl (by omega)) (by rw [if_pos he]; unfold exB; rw [if_neg (by omega)]; omega) (by rw [if_pos he]; unfold cdB; rw [if_neg (by omega), if_neg (by omega)]; omega) ?_
    exact IH h4 _ d4 (e - 1) c left (k + 1 + 1) m l (by omega) (by omega) el (by omega) hl2 (fi_pop H4 (Nat.le_refl _) (by omega) (Or.inr rfl)) (by rw [lT]; omega) (by omega)
theorem ff_89 {F left : Nat} {m l x : Int} (IH : FIH C b r a hs ds x1 x2 F) (he : 0 < e) (hF : e + 3 * c + 4 * left ≤ F + 1) (hl : 0 < left) (em : m = ((c + e : Nat) : Int) - 1) (el : l = (left : Int)) (h18 : c + e ≤ 17) (hl2 : left ≤ 2) (hx : x = 7 ∨ x = 8 ∨ x = 9) (H : FI C b r a hs ds (k + 1) h (T ++ (32 :: wlt x)) d e c) (hT1 : T.length + 6 * (F + 1) ≤ C) (hz : hN h + 2 * F + 1 < zVB) : FO1 C b r hs ds k (F + 1) T e c (zY 216 89 [some (zR (some b)), some (zI x1), some (zI x2), some (zR (some r)), some (zR (some a)), some (zI m), some (zI l), none] [zR (some b)] h) := by
  have Ha := H.2.2.2.1
  rw [q_L_formula_89 Ha.1 Ha.2.1, Ha.2.2.1, zwadd_e (by omega) (by omega), gd_t (by omega), gd_t (by omega), gd_t (show inR (m + 2) by omega), gd_t (show inR (l + (-1)) by omega), show m.toNat = c + e - 1 from by omega, show (m + 1).toNat = c + e - 1 + 1 from by omega]
  have lx : (32 :: wlt x).length ≤ 6 := by rcases hx with q | q | q <;> (subst q; decide)
  have ex : exB x = 2 ∧ cdB x = 0 := by rcases hx with q | q | q <;> (subst q; exact ⟨rfl, rfl⟩)
  have K1 := H.2.2.2.2.2.1
  have K0 := H.2.2.2.2.2.2
  refine fo_cons (e2 := e + 1) (c2 := c) (x := x) (Or.inl (by omega)) (by rw [if_pos he, ex.1]; omega) (by rw [if_pos he, ex.2]; omega) (fo_k (k2 := k + 1) ?_ (by omega))
  exact IH _ _ d (e + 1) c (left - 1) (k + 1) _ _ (by omega) (by omega) (by omega) (by omega) (by omega) (fi_w H (e2 := e + 1) (c2 := c) (fun i hi => by rw [if_neg (by omega), if_neg (by omega)]; exact K1 i hi) (fun i h0 h1 => by
    by_cases q1 : i = c + e - 1 + 1
    · rw [if_pos q1]
    · rw [if_neg q1]
      by_cases q2 : i = c + e - 1
      · rw [if_pos q2]
      · rw [if_neg q2]; exact K0 i h0 (by omega))) (by rw [List.length_append]; omega) hz
theorem ff_55 (hC : C ≤ 900) {F left : Nat} {m l : Int} (IH : FIH C b r a hs ds x1 x2 F) (he : 0 < e) (hF : e + 3 * c + 4 * left ≤ F + 1) (hl : 0 < left) (em : m = ((c + e : Nat) : Int) - 1) (el : l = (left : Int)) (h18 : c + e ≤ 17) (hl2 : left ≤ 2) (H : FI C b r a hs ds k h T d e c) (hT1 : T.length + 6 * (F + 1) ≤ C) (hz : hN h + 2 * (F + 1) + 1 < zVB) : FO1 C b r hs ds k (F + 1) T e c (zY 216 55 [some (zR (some b)), some (zI x1), some (zI x2), some (zR (some r)), some (zR (some a)), some (zI m), some (zI l), none] [] h) := by
  rw [q_L_formula_55]
  obtain ⟨x, h1, E1, xr, n1, H1⟩ := fi_next H
  rw [E1, zbk, q_L_formula_60, gd_t (by omega)]
  by_cases cx : Int.tmod x 2 = 0
  · rw [if_pos cx, q_L_formula_65 H1.1.2.2.2.1 (BD_nb H1.1)]
    obtain ⟨h2, d2, E2, S2, F2⟩ := x_app hC H1.1 (tx_33 H1.2.2.2.2.1) (by show T.length + 5 ≤ C; omega) (by omega) b
    have f2 := F2.2.1
    rw [E2, zbk]
    exact ff_89 IH he hF hl em el h18 hl2 (Or.inl rfl) (fi_app H1 S2 F2) hT1 (by omega)
  · rw [if_neg cx, q_L_formula_70]
    obtain ⟨y, h3, E3, yr, n3, H3⟩ := fi_next H1
    rw [E3, zbk, q_L_formula_74, gd_t (by omega)]
    by_cases cy : Int.tmod y 2 = 0
    · rw [if_pos cy, q_L_formula_79 H3.1.2.2.2.1 (BD_nb H3.1)]
      obtain ⟨h2, d2, E2, S2, F2⟩ := x_app hC H3.1 (tx_34 H3.2.2.2.2.1) (by show T.length + 6 ≤ C; omega) (by omega) b
      have f2 := F2.2.1
      rw [E2, zbk]
      exact ff_89 IH he hF hl em el h18 hl2 (Or.inr (Or.inl rfl)) (fi_app H3 S2 F2) hT1 (by omega)
    · rw [if_neg cy, q_L_formula_84 H3.1.2.2.2.1 (BD_nb H3.1)]
      obtain ⟨h2, d2, E2, S2, F2⟩ := x_app hC H3.1 (tx_35 H3.2.2.2.2.1) (by show T.length + 6 ≤ C; omega) (by omega) b
      have f2 := F2.2.1
      rw [E2, zbk]
      exact ff_89 IH he hF hl em el h18 hl2 (Or.inr (Or.inr rfl)) (fi_app H3 S2 F2) hT1 (by omega)
theorem ff_224 {F left : Nat} {m l x w : Int} (IH : FIH C b r a hs ds x1 x2 F) (hc : 0 < c) (he : e = 0) (hF : e + 3 * c + 4 * left ≤ F + 1) (hl : 0 < left) (em : m = ((c + e : Nat) : Int) - 1) (el : l = (left : Int)) (h18 : c + e ≤ 17) (hl2 : left ≤ 2) (hx : x = 14 ∧ w = 1 ∨ x = 15 ∧ w = 0 ∨ x = 16 ∧ w = 0) (H : FI C b r a hs ds (k + 1) h (T ++ (32 :: wlt x)) d e c) (hT1 : T.length + 6 * (F + 1) ≤ C) (hz : hN h + 2 * F + 1 < zVB) : FO1 C b r hs ds k (F + 1) T e c (zY 216 224 [some (zR (some b)), some (zI x1), some (zI x2), some (zR (some r)), some (zR (some a)), some (zI m), some (zI l), some (zI w)] [zR (some b)] h) := by
  have Ha := H.2.2.2.1
  subst he
  rw [q_L_formula_224 Ha.1 Ha.2.1, Ha.2.2.1, zwadd_e (by omega) (by omega), gd_t (by omega), gd_t (by omega), show m.toNat = c - 1 from by omega, show (m + 1).toNat = c - 1 + 1 from by omega]
  have lx : (32 :: wlt x).length ≤ 6 := by rcases hx with q | q | q <;> (rw [q.1]; decide)
  have K1 := H.2.2.2.2.2.1
  have K1' : ∀ c2, c2 ≤ c + 1 → ∀ i, i < c2 → (if i = c - 1 + 1 then (1 : Int) else if i = c - 1 then 1 else hI h a i) = 1 := fun c2 h2 i hi => by
    by_cases q1 : i = c - 1 + 1
    · rw [if_pos q1]
    · rw [if_neg q1]
      by_cases q2 : i = c - 1
      · rw [if_pos q2]
      · rw [if_neg q2]; exact K1 i (by omega)
  by_cases cw : w = 0
  · rw [if_pos cw, q_L_formula_250, gd_t (show inR (l + (-1)) by omega), zwadd_e (by omega) (by omega)]
    have ex : exB x = 0 ∧ cdB x = 2 := by
      have : x = 15 ∨ x = 16 := by omega
      rcases this with q | q <;> (subst q; exact ⟨rfl, rfl⟩)
    refine fo_cons (e2 := 0) (c2 := c + 1) (x := x) (Or.inr (by omega)) (by rw [if_neg (by omega), ex.1]) (by rw [if_neg (by omega), ex.2]; omega) (fo_k (k2 := k + 1) ?_ (by omega))
    refine fo_le (L := [some (zR (some b)), some (zI x1), some (zI x2), some (zR (some r)), some (zR (some a)), some (zI (m + 2)), some (zI (l + (-1))), none]) (by exact ⟨rfl, rfl, rfl, rfl, rfl, rfl, rfl, trivial⟩) ?_
    exact IH _ _ d 0 (c + 1) (left - 1) (k + 1) _ _ (by omega) (by omega) (by omega) (by omega) (by omega) (fi_w H (e2 := 0) (c2 := c + 1) (K1' (c + 1) (Nat.le_refl _)) (fun i h0 h1 => by omega)) (by rw [List.length_append]; omega) hz
  · rw [if_neg cw, q_L_formula_246, gd_t (show inR (l + (-1)) by omega), zwadd_e (by omega) (by omega)]
    have ex : x = 14 := by omega
    subst ex
    refine fo_cons (e2 := 0) (c2 := c) (x := 14) (Or.inr (by omega)) (by rw [if_neg (by omega)]; rfl) (by rw [if_neg (by omega)]; show c = c - 1 + 1; omega) (fo_k (k2 := k + 1) ?_ (by omega))
    refine fo_le (L := [some (zR (some b)), some (zI x1), some (zI x2), some (zR (some r)), some (zR (some a)), some (zI (m + 1)), some (zI (l + (-1))), none]) (by exact ⟨rfl, rfl, rfl, rfl, rfl, rfl, rfl, trivial⟩) ?_
    exact IH _ _ d 0 c (left - 1) (k + 1) _ _ (by omega) (by omega) (by omega) (by omega) (by omega) (fi_w H (e2 := 0) (c2 := c) (K1' c (by omega)) (fun i h0 h1 => by omega)) (by rw [List.length_append]; omega) hz
theorem ff_178 (hC : C ≤ 900) {F left : Nat} {m l : Int} (IH : FIH C b r a hs ds x1 x2 F) (hc : 0 < c) (he : e = 0) (hF : e + 3 * c + 4 * left ≤ F + 1) (hl : 0 < left) (em : m = ((c + e : Nat) : Int) - 1) (el : l = (left : Int)) (h18 : c + e ≤ 17) (hl2 : left ≤ 2) (H : FI C b r a hs ds k h T d e c) (hT1 : T.length + 6 * (F + 1) ≤ C) (hz : hN h + 2 * (F + 1) + 1 < zVB) : FO1 C b r hs ds k (F + 1) T e c (zY 216 178 [some (zR (some b)), some (zI x1), some (zI x2), some (zR (some r)), some (zR (some a)), some (zI m), some (zI l), none] [] h) := by
  rw [q_L_formula_178]
  obtain ⟨x, h1, E1, xr, n1, H1⟩ := fi_next H
  rw [E1, zbk, q_L_formula_182, gd_t (by omega)]
  by_cases cx : Int.tmod x 3 = 0
  · rw [if_pos cx, q_L_formula_187 H1.1.2.2.2.1 (BD_nb H1.1)]
    obtain ⟨h2, d2, E2, S2, F2⟩ := x_app hC H1.1 (tx_36 H1.2.2.2.2.1) (by show T.length + 4 ≤ C; omega) (by omega) b
    have f2 := F2.2.1
    rw [E2, zbk]
    exact ff_224 IH hc he hF hl em el h18 hl2 (Or.inl ⟨rfl, rfl⟩) (fi_app H1 S2 F2) hT1 (by omega)
  · rw [if_neg cx, q_L_formula_191]
    obtain ⟨y, h3, E3, yr, n3, H3⟩ := fi_next H1
    rw [E3, zbk, q_L_formula_209, gd_t (by omega)]
    by_cases cy : Int.tmod y 2 = 0
    · rw [if_pos cy, q_L_formula_214 H3.1.2.2.2.1 (BD_nb H3.1)]
      obtain ⟨h2, d2, E2, S2, F2⟩ := x_app hC H3.1 (tx_37 H3.2.2.2.2.1) (by show T.length + 4 ≤ C; omega) (by omega) b
      have f2 := F2.2.1
      rw [E2, zbk]
      exact ff_224 IH hc he hF hl em el h18 hl2 (Or.inr (Or.inl ⟨rfl, rfl⟩)) (fi_app H3 S2 F2) hT1 (by omega)
    · rw [if_neg cy, q_L_formula_219 H3.1.2.2.2.1 (BD_nb H3.1)]
      obtain ⟨h2, d2, E2, S2, F2⟩ := x_app hC H3.1 (tx_38 H3.2.2.2.2.1) (by show T.length + 3 ≤ C; omega) (by omega) b
      have f2 := F2.2.1
      rw [E2, zbk]
      exact ff_224 IH hc he hF hl em el h18 hl2 (Or.inr (Or.inr ⟨rfl, rfl⟩)) (fi_app H3 S2 F2) hT1 (by omega)
theorem ff_314 {F left : Nat} {m l x : Int} (IH : FIH C b r a hs ds x1 x2 F) (hc : 0 < c) (he : e = 0) (hF : e + 3 * c + 4 * left ≤ F + 1) (em : m = ((c + e : Nat) : Int) - 1) (el : l = (left : Int)) (h18 : c + e ≤ 17) (hl2 : left ≤ 2) (hx : x = 12 ∨ x = 13) (H : FI C b r a hs ds (k + 1) h (T ++ (32 :: wlt x)) d e c) (hT1 : T.length + 6 * (F + 1) ≤ C) (hz : hN h + 2 * F + 1 < zVB) : FO1 C b r hs ds k (F + 1) T e c (zY 216 314 [some (zR (some b)), some (zI x1), some (zI x2), some (zR (some r)), some (zR (some a)), some (zI m), some (zI l), none] [zR (some b)] h) := by
  have Ha := H.2.2.2.1
  subst he
  rw [q_L_formula_314 Ha.1 Ha.2.1, Ha.2.2.1, zwadd_e (by omega) (by omega), gd_t (by omega), gd_t (by omega), gd_t (show inR (m + 2) by omega), show m.toNat = c - 1 from by omega, show (m + 1).toNat = c - 1 + 1 from by omega]
  have lx : (32 :: wlt x).length ≤ 6 := by rcases hx with q | q <;> (subst q; decide)
  have ex : exB x = 2 ∧ cdB x = 0 := by rcases hx with q | q <;> (subst q; exact ⟨rfl, rfl⟩)
  have K1 := H.2.2.2.2.2.1
  refine fo_cons (e2 := 2) (c2 := c - 1) (x := x) (Or.inr (by omega)) (by rw [if_neg (by omega), ex.1]) (by rw [if_neg (by omega), ex.2]; omega) (fo_k (k2 := k + 1) ?_ (by omega))
  exact IH _ _ d 2 (c - 1) left (k + 1) _ _ (by omega) (by omega) el (by omega) hl2 (fi_w H (e2 := 2) (c2 := c - 1) (fun i hi => by rw [if_neg (by omega), if_neg (by omega)]; exact K1 i (by omega)) (fun i h0 h1 => by
    by_cases q1 : i = c - 1 + 1
    · rw [if_pos q1]
    · rw [if_neg q1, if_pos (by omega)])) (by rw [List.length_append]; omega) hz
theorem ff_290 {F left : Nat} {m l x : Int} (IH : FIH C b r a hs ds x1 x2 F) (hc : 0 < c) (he : e = 0) (hF : e + 3 * c + 4 * left ≤ F + 1) (em : m = ((c + e : Nat) : Int) - 1) (el : l = (left : Int)) (h18 : c + e ≤ 18) (hl2 : left ≤ 2) (hx : x = 10 ∨ x = 11) (H : FI C b r a hs ds (k + 1) h (T ++ (32 :: wlt x)) d e c) (hT1 : T.length + 6 * (F + 1) ≤ C) (hz : hN h + 2 * F + 1 < zVB) : FO1 C b r hs ds k (F + 1) T e c (zY 216 290 [some (zR (some b)), some (zI x1), some (zI x2), some (zR (some r)), some (zR (some a)), some (zI m), some (zI l), none] [zR (some b)] h) := by
  subst he
  rw [q_L_formula_290]
  have lx : (32 :: wlt x).length ≤ 6 := by rcases hx with q | q <;> (subst q; decide)
  have ex : exB x = 0 ∧ cdB x = 0 := by rcases hx with q | q <;> (subst q; exact ⟨rfl, rfl⟩)
  refine fo_cons (e2 := 0) (c2 := c - 1) (x := x) (Or.inr (by omega)) (by rw [if_neg (by omega), ex.1]) (by rw [if_neg (by omega), ex.2]; omega) (fo_k (k2 := k + 1) ?_ (by omega))
  exact IH _ _ d 0 (c - 1) left (k + 1) _ _ (by omega) (by omega) el (by omega) hl2 (fi_pop H (by omega) (by omega) (Or.inl rfl)) (by rw [List.length_append]; omega) hz
theorem ff_260 (hC : C ≤ 900) {F left : Nat} {m l : Int} (IH : FIH C b r a hs ds x1 x2 F) (hc : 0 < c) (he : e = 0) (hF : e + 3 * c + 4 * left ≤ F + 1) (em : m = ((c + e : Nat) : Int) - 1) (el : l = (left : Int)) (h18 : c + e ≤ 17) (hl2 : left ≤ 2) (H : FI C b r a hs ds k h T d e c) (hT1 : T.length + 6 * (F + 1) ≤ C) (hz : hN h + 2 * (F + 1) + 1 < zVB) : FO1 C b r hs ds k (F + 1) T e c (zY 216 260 [some (zR (some b)), some (zI x1), some (zI x2), some (zR (some r)), some (zR (some a)), some (zI m), some (zI l), none] [] h) := by
  rw [q_L_formula_260]
  obtain ⟨x, h1, E1, xr, n1, H1⟩ := fi_next H
  rw [E1, zbk, q_L_formula_264, gd_t (by omega)]
  by_cases cx : Int.tmod x 8 = 0
  · rw [if_pos cx, q_L_formula_270]
    obtain ⟨y, h3, E3, yr, n3, H3⟩ := fi_next H1
    rw [E3, zbk, q_L_formula_275, gd_t (by omega)]
    by_cases cy : 0 < Int.tmod y 3
    · rw [if_pos cy, q_L_formula_280 H3.1.2.2.2.1 (BD_nb H3.1)]
      obtain ⟨h2, d2, E2, S2, F2⟩ := x_app hC H3.1 (tx_39 H3.2.2.2.2.1) (by show T.length + 5 ≤ C; omega) (by omega) b
      have f2 := F2.2.1
      rw [E2, zbk]
      exact ff_290 IH hc he hF em el (by omega) hl2 (Or.inl rfl) (fi_app H3 S2 F2) hT1 (by omega)
    · rw [if_neg cy, q_L_formula_285 H3.1.2.2.2.1 (BD_nb H3.1)]
      obtain ⟨h2, d2, E2, S2, F2⟩ := x_app hC H3.1 (tx_40 H3.2.2.2.2.1) (by show T.length + 6 ≤ C; omega) (by omega) b
      have f2 := F2.2.1
      rw [E2, zbk]
      exact ff_290 IH hc he hF em el (by omega) hl2 (Or.inr rfl) (fi_app H3 S2 F2) hT1 (by omega)
  · rw [if_neg cx, q_L_formula_294]
    obtain ⟨y, h3, E3, yr, n3, H3⟩ := fi_next H1
    rw [E3, zbk, q_L_formula_299, gd_t (by omega)]
    by_cases cy : Int.tmod y 2 = 0
    · rw [if_pos cy, q_L_formula_304 H3.1.2.2.2.1 (BD_nb H3.1)]
      obtain ⟨h2, d2, E2, S2, F2⟩ := x_app hC H3.1 (tx_41 H3.2.2.2.2.1) (by show T.length + 3 ≤ C; omega) (by omega) b
      have f2 := F2.2.1
      rw [E2, zbk]
      exact ff_314 IH hc he hF em el h18 hl2 (Or.inl rfl) (fi_app H3 S2 F2) hT1 (by omega)
    · rw [if_neg cy, q_L_formula_309 H3.1.2.2.2.1 (BD_nb H3.1)]
      obtain ⟨h2, d2, E2, S2, F2⟩ := x_app hC H3.1 (tx_42 H3.2.2.2.2.1) (by show T.length + 3 ≤ C; omega) (by omega) b
      have f2 := F2.2.1
      rw [E2, zbk]
      exact ff_314 IH hc he hF em el h18 hl2 (Or.inr rfl) (fi_app H3 S2 F2) hT1 (by omega)
theorem ff_25 (hC : C ≤ 900) : ∀ F : Nat, F ≤ 17 → FIH C b r a hs ds x1 x2 F
  | 0, _ => fun h T d e c left k m l hF em el h18 hl2 H hT1 hz => by
    have e0 : e = 0 ∧ c = 0 := by omega
    rw [q_L_formula_25, if_neg (by omega), q_L_formula_335]
    exact ⟨h, d, [], rfl, e0, Nat.le_refl _, fun w hw => absurd hw List.not_mem_nil, by show BD C b h (T ++ []) d; rw [List.append_nil]; exact H.1, H.2.1, H.2.2.2.2.1, H.2.2.1.1, H.2.2.1.2.2⟩
  | F + 1, hF17 => fun h T d e c left k m l hF em el h18 hl2 H hT1 hz => by
    have IH := ff_25 hC F (by omega)
    by_cases z : c + e = 0
    · have e0 : e = 0 ∧ c = 0 := by omega
      rw [q_L_formula_25, if_neg (by omega), q_L_formula_335]
      exact ⟨h, d, [], rfl, e0, Nat.zero_le _, fun w hw => absurd hw List.not_mem_nil, by show BD C b h (T ++ []) d; rw [List.append_nil]; exact H.1, BF_m H.2.1 (by omega), H.2.2.2.2.1, H.2.2.1.1, H.2.2.1.2.2⟩
    · have Ha := H.2.2.2.1
      rw [q_L_formula_25, if_pos (by omega), q_L_formula_30 Ha.1, Ha.2.2.1, gd_t (show inR (m + (-1)) by omega), gd_t (by omega), show (m + (-1)).toNat = c + e - 1 from by omega]
      by_cases ce : 0 < e
      · rw [if_pos (H.2.2.2.2.2.2 _ (by omega) (by omega)), q_L_formula_41]
        by_cases cl : 0 < l
        · rw [if_pos cl, q_L_formula_46]
          obtain ⟨x, h1, E1, xr, n1, H1⟩ := fi_next H
          rw [E1, zbk, q_L_formula_50, gd_t (by omega)]
          by_cases cx : Int.tmod x 3 = 0
          · rw [if_pos cx]
            exact ff_55 hC IH ce hF (by omega) (by omega) el (by omega) hl2 H1 hT1 (by omega)
          · rw [if_neg cx]
            exact ff_113 hC IH ce hF (by omega) el h18 hl2 H1 hT1 (by omega)
        · rw [if_neg cl]
          exact ff_113 hC IH ce hF (by omega) el h18 hl2 H hT1 (by omega)
      · have he : e = 0 := by omega
        have hc : 0 < c := by omega
        have k1 := H.2.2.2.2.2.1 (c + e - 1) (by omega)
        rw [if_neg (by omega), q_L_formula_164]
        by_cases cl : 0 < l
        · rw [if_pos cl, q_L_formula_169]
          obtain ⟨x, h1, E1, xr, n1, H1⟩ := fi_next H
          rw [E1, zbk, q_L_formula_173, gd_t (by omega)]
          by_cases cx : Int.tmod x 3 = 0
          · rw [if_pos cx]
            exact ff_178 hC IH hc he hF (by omega) (by omega) el (by omega) hl2 H1 hT1 (by omega)
          · rw [if_neg cx]
            exact ff_260 hC IH hc he hF (by omega) el (by omega) hl2 H1 hT1 (by omega)
        · rw [if_neg cl]
          exact ff_260 hC IH hc he hF (by omega) el (by omega) hl2 H hT1 (by omega)
/-- the law's formula -/
theorem c_form (hC : C ≤ 900) (S : BD C b h T d) (K : KS h) (r1 : hT h r = 22) (r2 : r < hN h) (r3 : hL h r = 1) {deep : Nat} (hd : deep ≤ 2) (hx : x1 = 0 ∨ x1 = 1) (hT1 : T.length + 6 * ((if x1 = 0 then 1 else 3) + 4 * deep) ≤ C) (hz : hN h + 30 < zVB) : ∃ h2 d2 codes, zC 216 [zR (some b), zI x1, zI (deep : Int), zR (some r)] h = some (.inl none, h2) ∧ accF codes (if x1 = 0 then 1 else 0) (if x1 = 0 then 0 else 1) ∧ codes.length ≤ (if x1 = 0 then 1 else 3) + 4 * deep ∧ wok codes ∧ BD C b h2 (T ++ ctx codes) d2 ∧ BF r b d d2 30 h h2 ∧ KS h2 ∧ hT h2 r = 22 ∧ hL h2 r = 1 := by
  have nb := BD_nb S
  have b1 := S.2.1
  have S1 : BD C b (hNew h 22 20) T d := BD_n S (by omega)
  have F1 : BF r b d d 1 h (hNew h 22 20) := BF_n S (by decide)
  have F1b : BF b b d d 1 h (hNew h 22 20) := BF_n S (by decide)
  have K1 : KS (hNew h 22 20) := KS_B S (by omega) K F1b
  have ta : hT (hNew h 22 20) (hN h) = 22 := zu1_b _ _ _
  have la : hL (hNew h 22 20) (hN h) = 20 := zu1_b _ _ _
  have na : hN h < hN (hNew h 22 20) := Nat.lt_succ_self _
  have gr := Gs_new h 22 20 (show r ≠ hN h by omega)
  have W : ∀ v : Int, BD C b (sI (hNew h 22 20) (hN h) 0 v) T d ∧ BF r b d d 1 h (sI (hNew h 22 20) (hN h) 0 v) ∧ KS (sI (hNew h 22 20) (hN h) 0 v) := fun v => ⟨BD_s S1 ta, ⟨F1.1, F1.2.1, fun q hq e1 e2 e3 => Gs_t (F1.2.2 q hq e1 e2 e3) (Gs_sI _ _ _ (by have := S.2.2.1; omega))⟩, KS_B S1 (r := hN h) (by omega) K1 (BF_s S1)⟩
  have FIx : ∀ (v : Int) (e c : Nat), c + e = 1 → (0 < c → v = 1) → (0 < e → v = 0) → FI C b r (hN h) h d 1 (sI (hNew h 22 20) (hN h) 0 v) T d e c := fun v e c ec v1 v0 => by
    obtain ⟨w1, w2, w3⟩ := W v
    have rd : hI (sI (hNew h 22 20) (hN h) 0 v) (hN h) 0 = v := zup_s _ _ _ _
    refine ⟨w1, w2, ⟨gr.1.trans r1, Nat.lt_succ_of_lt r2, by show hL (hNew h 22 20) r = 1; rw [gr.2.1]; exact r3⟩, ⟨ta, na, la, Nat.le_refl _, by omega⟩, w3, fun j hj => ?_, fun j h0 h1 => ?_⟩
    · have j0 : j = 0 := by omega
      rw [j0, rd]; exact v1 (by omega)
    · have j0 : j = 0 := by omega
      rw [j0, rd]; exact v0 (by omega)
  have fin : ∀ (v : Int) (e c F : Nat), c + e = 1 → (0 < c → v = 1) → (0 < e → v = 0) → F = e + 3 * c + 4 * deep → T.length + 6 * F ≤ C → F ≤ 14 → ∃ h2 d2 codes, zY 216 25 [some (zR (some b)), some (zI x1), some (zI (deep : Int)), some (zR (some r)), some (zR (some (hN h))), some (zI 1), some (zI (deep : Int)), none] [] (sI (hNew h 22 20) (hN h) 0 v) = some (.inl none, h2) ∧ accF codes e c ∧ codes.length ≤ F ∧ wok codes ∧ BD C b h2 (T ++ ctx codes) d2 ∧ BF r b d d2 30 h h2 ∧ KS h2 ∧ hT h2 r = 22 ∧ hL h2 r = 1 := fun v e c F ec v1 v0 eF l1 l2 => by
    have q := ff_25 (b := b) (r := r) (a := hN h) (hs := h) (ds := d) (x1 := x1) (x2 := (deep : Int)) hC F (by omega) (sI (hNew h 22 20) (hN h) 0 v) T d e c deep 1 1 (deep : Int) (by omega) (by omega) rfl (by omega) hd (FIx v e c ec v1 v0) l1 (by show hN h + 1 + 2 * F + 1 < zVB; omega)
    obtain ⟨h2, d2, codes, g1, g2, g3, g4, g5, g6, g7⟩ := q
    exact ⟨h2, d2, codes, g1, g2, g3, g4, g5, BF_m g6 (by omega), g7⟩
  rw [q_L_formula]
  by_cases cx : x1 = 0
  · rw [if_pos cx] at hT1
    rw [if_pos cx, if_pos cx, if_pos cx, if_pos cx, q_L_formula_20 ta na, la, gd_t (by decide)]
    exact fin 0 1 0 _ rfl (fun q => absurd q (by decide)) (fun _ => rfl) (by omega) hT1 (by omega)
  · rw [if_neg cx] at hT1
    rw [if_neg cx, if_neg cx, if_neg cx, if_neg cx, q_L_formula_16 ta na, la, gd_t (by decide)]
    exact fin 1 0 1 _ rfl (fun _ => rfl) (fun q => absurd q (by decide)) (by omega) hT1 (by omega)
end FRM
