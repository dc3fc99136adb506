/-! Java's builder: what its calls come to. -/
def tg : List Int → Nat → Int
  | [], _ => 0
  | x :: _, 0 => x
  | _ :: l, n + 1 => tg l n
theorem tg_l : ∀ {l m : List Int} {i : Nat}, i < l.length → tg (l ++ m) i = tg l i
  | [], _, _, h => absurd h (Nat.not_lt_zero _)
  | _ :: _, _, 0, _ => rfl
  | _ :: l, m, i + 1, h => tg_l (l := l) (Nat.lt_of_succ_lt_succ h)
theorem tg_r : ∀ {l m : List Int} {i : Nat}, l.length ≤ i → tg (l ++ m) i = tg m (i - l.length)
  | [], _, _, _ => rfl
  | _ :: _, _, 0, h => absurd h (Nat.not_succ_le_zero _)
  | _ :: l, m, i + 1, h => by
    show tg (l ++ m) i = tg m (i + 1 - (l.length + 1))
    rw [tg_r (l := l) (Nat.le_of_succ_le_succ h), Nat.add_sub_add_right]
theorem zw_in {x : Int} (h0 : -2147483648 ≤ x) (h1 : x < 2147483648) : (Int32.ofInt x).toInt = x := Int32.toInt_ofInt_of_le h0 h1
theorem zwadd_e {x y : Int} (h0 : -2147483648 ≤ x + y) (h1 : x + y < 2147483648) : zwadd x y = x + y := by
  show (Int32.ofInt x + Int32.ofInt y).toInt = x + y
  rw [← Int32.ofInt_add]; exact zw_in h0 h1
theorem zwsub_e {x y : Int} (h0 : -2147483648 ≤ x - y) (h1 : x - y < 2147483648) : zwsub x y = x - y := by
  show (Int32.ofInt x - Int32.ofInt y).toInt = x - y
  rw [← Int32.ofInt_sub]; exact zw_in h0 h1
theorem zshr_0 {x : Int} (h0 : -2147483648 ≤ x) (h1 : x < 2147483648) : zshr x 0 = x := by
  show (Int32.ofInt x >>> (Int32.ofInt 0 &&& 31)).toInt = x
  rw [show (Int32.ofInt 0 &&& 31 : Int32) = 0 from by decide, Int32.shiftRight_zero]; exact zw_in h0 h1
theorem zshl_0 {x : Int} (h0 : -2147483648 ≤ x) (h1 : x < 2147483648) : zshl x 0 = x := by
  show (Int32.ofInt x <<< (Int32.ofInt 0 &&& 31)).toInt = x
  rw [show (Int32.ofInt 0 &&& 31 : Int32) = 0 from by decide, Int32.shiftLeft_zero]; exact zw_in h0 h1
/-- the cell a stands as it stood -/
def Gs (h h2 : zH) (a : Nat) : Prop := hT h2 a = hT h a ∧ hL h2 a = hL h a ∧ hR h2 a = hR h a ∧ hI h2 a = hI h a ∧ hJ h2 a = hJ h a ∧ hF h2 a = hF h a ∧ hD h2 a = hD h a
theorem Gs_r (h : zH) (a : Nat) : Gs h h a := ⟨rfl, rfl, rfl, rfl, rfl, rfl, rfl⟩
theorem Gs_t {h h2 h3 : zH} {a : Nat} (A : Gs h h2 a) (B : Gs h2 h3 a) : Gs h h3 a := ⟨B.1.trans A.1, B.2.1.trans A.2.1, B.2.2.1.trans A.2.2.1, B.2.2.2.1.trans A.2.2.2.1, B.2.2.2.2.1.trans A.2.2.2.2.1, B.2.2.2.2.2.1.trans A.2.2.2.2.2.1, B.2.2.2.2.2.2.trans A.2.2.2.2.2.2⟩
theorem zup_a {α : Type} (f : Nat → Nat → α) {a b : Nat} (k : Nat) (v : α) (e : a ≠ b) : zup f b k v a = f a := funext fun _ => if_neg fun q => e q.1
theorem zu1_a {α : Type} (f : Nat → α) {a b : Nat} (v : α) (e : a ≠ b) : zu1 f b v a = f a := if_neg e
theorem zu1_b {α : Type} (f : Nat → α) (b : Nat) (v : α) : zu1 f b v b = v := if_pos rfl
theorem Gs_sI (h : zH) {a b : Nat} (k : Nat) (v : Int) (e : a ≠ b) : Gs h (sI h b k v) a := ⟨rfl, rfl, rfl, zup_a _ k v e, rfl, rfl, rfl⟩
theorem Gs_sR (h : zH) {a b : Nat} (k : Nat) (v : Option Nat) (e : a ≠ b) : Gs h (sR h b k v) a := ⟨rfl, rfl, zup_a _ k v e, rfl, rfl, rfl, rfl⟩
theorem Gs_new (h : zH) {a : Nat} (t n : Nat) (e : a ≠ hN h) : Gs h (hNew h t n) a := ⟨zu1_a _ _ e, zu1_a _ _ e, zu1_a _ _ e, zu1_a _ _ e, zu1_a _ _ e, zu1_a _ _ e, zu1_a _ _ e⟩
theorem Gs_cp (h : zH) {a : Nat} (r n : Nat) (e : a ≠ hN h) : Gs h (hCpy h r n) a := ⟨zu1_a _ _ e, zu1_a _ _ e, zu1_a _ _ e, zu1_a _ _ e, zu1_a _ _ e, zu1_a _ _ e, zu1_a _ _ e⟩
theorem Gs_cl (h : zH) {a : Nat} (r : Nat) (e : a ≠ hN h) : Gs h (hCl h r) a := ⟨zu1_a _ _ e, zu1_a _ _ e, zu1_a _ _ e, zu1_a _ _ e, zu1_a _ _ e, zu1_a _ _ e, zu1_a _ _ e⟩
theorem Gs_put (h : zH) {a d : Nat} (r k : Nat) (e : a ≠ d) : Gs h (hPut h r d k) a := ⟨rfl, rfl, rfl, zu1_a _ _ e, rfl, rfl, rfl⟩
theorem Gs_ac (h : zH) {a d : Nat} (r f k n : Nat) (e : a ≠ d) : Gs h (hAc h r f d k n) a := ⟨rfl, rfl, rfl, zu1_a _ _ e, rfl, rfl, rfl⟩
/-- all that was there stands as it stood -/
def Gf (h h2 : zH) : Prop := ∀ a, (a < hN h ∨ zVB ≤ a) → Gs h h2 a
theorem Gf_r (h : zH) : Gf h h := fun a _ => Gs_r h a
theorem Gf_s {h h2 h3 : zH} (F : Gf h h2) (g : ∀ a, (a < hN h ∨ zVB ≤ a) → Gs h2 h3 a) : Gf h h3 := fun a ha => Gs_t (F a ha) (g a ha)
theorem Gf_w {h h2 : zH} (F : Gf h h2) {d e : Nat} (n0 : hN h ≤ hN h2) (n1 : hN h2 ≤ hN h + d) (u : hU h2 ≤ hU h + e) : Gw (fun _ _ => False) d e h h2 := ⟨⟨n0, n1, by omega⟩, fun a ha => ⟨(F a ha).1, (F a ha).2.1⟩, fun a k ha _ => ⟨congrFun (F a ha).2.2.1 k, congrFun (F a ha).2.2.2.1 k, congrFun (F a ha).2.2.2.2.1 k, congrFun (F a ha).2.2.2.2.2.1 k, congrFun (F a ha).2.2.2.2.2.2 k⟩⟩
/-- the builder that was made first over the heap h0 holds the text T, in the row d -/
def SBd (C : Nat) (h0 h : zH) (T : List Int) (d : Nat) : Prop := hN h0 < d ∧ d < hN h ∧ hN h < zVB ∧ hT h (hN h0) = 12 ∧ hR h (hN h0) 0 = some d ∧ hI h (hN h0) 1 = 0 ∧ hI h (hN h0) 3 = (T.length : Int) ∧ hT h d = 21 ∧ T.length ≤ hL h d ∧ hL h d ≤ 2 * C + 36 ∧ (∀ i, i < T.length → hI h d i = tg T i) ∧ hU h ≤ hU h0 + 4 + 2 * hL h d ∧ (hN h0 + 2 ≤ hN h ∧ 16 * 2 ^ (hN h - (hN h0 + 2)) ≤ hL h d) ∧ Gf h0 h
def SB (C : Nat) (h0 h : zH) (T : List Int) : Prop := ∃ d, SBd C h0 h T d
section SBS
variable {C : Nat} {h0 h : zH} {T : List Int} {d : Nat}
theorem c_max {a b : Int} : zC 223 [zI a, zI b] h = some (.inl (some (zI (if a < b then b else a))), h) := by
  refine q_Ma_max.trans ?_
  by_cases c : a < b
  · rw [if_pos c, if_pos c]; exact q_Ma_max_9
  · rw [if_neg c, if_neg c]; exact q_Ma_max_5
theorem c_newLen {x y z : Int} (x0 : 0 ≤ x) (x1 : x < 10000) (y0 : 0 < y) (y1 : y < 10000) (z0 : 0 < z) (z1 : z < 10000) : zC 258 [zI x, zI y, zI z] h = some (.inl (some (zI (x + (if y < z then z else y)))), h) := by
  refine q_Su_newLength.trans ?_
  rw [c_max]
  have w0 : 0 < (if y < z then z else y) := by split <;> omega
  have w1 : (if y < z then z else y) < 10000 := by split <;> omega
  generalize (if y < z then z else y) = w at w0 w1 ⊢
  refine (show _ = zY 258 6 [some (zI x), some (zI y), some (zI z), none] [zI w, zI x] h from rfl).trans ?_
  refine q_Su_newLength_6.trans ?_
  rw [zwadd_e (by omega) (by omega), if_pos (by omega)]
  refine q_Su_newLength_13.trans ?_
  rw [if_neg (by omega)]
  exact q_Su_newLength_19
theorem c_newCap (hC : C ≤ 900) (S : SBd C h0 h T d) {n : Int} (n0 : (hL h d : Int) < n) (n1 : n ≤ 4000) : zC 240 [zR (some (hN h0)), zI n] h = some (.inl (some (zI ((hL h d : Int) + (if n - (hL h d : Int) < (hL h d : Int) + 2 then (hL h d : Int) + 2 else n - (hL h d : Int))))), h) := by
  obtain ⟨b0, b1, b2, tb, rb, cb, kb, td, l0, l1, ct, us, nn, fr⟩ := S
  have nb : hN h0 < hN h := by omega
  refine (q_As_newCapacity tb nb rb td).trans ?_
  rw [cb, zshl_0 (by omega) (by omega), zwsub_e (by omega) (by omega), show zshl 2 0 = 2 from by decide, zwadd_e (by omega) (by omega), c_newLen (by omega) (by omega) (by omega) (by omega) (by omega) (by omega)]
  generalize hw : ((hL h d : Int) + (if n - (hL h d : Int) < (hL h d : Int) + 2 then (hL h d : Int) + 2 else n - (hL h d : Int))) = w
  have w1 : 0 ≤ w ∧ w < 10000 := by split at hw <;> omega
  refine (show _ = zY 240 32 [some (zR (some (hN h0))), some (zI n), some (zI (hL h d : Int)), some (zI n), some (zI (n - (hL h d : Int))), none] [zI w] h from rfl).trans ?_
  refine q_As_newCapacity_32.trans ?_
  rw [if_neg (by omega)]
  refine (q_As_newCapacity_51 tb nb).trans ?_
  rw [cb, zshr_0 (by omega) (by omega)]
theorem c_ens (hC : C ≤ 900) (S : SBd C h0 h T d) {n : Int} (n0 : (T.length : Int) ≤ n) (n1 : n ≤ C) (hz : hN h + 1 < zVB) : ∃ h2 d2, zC 239 [zR (some (hN h0)), zI n] h = some (.inl none, h2) ∧ SBd C h0 h2 T d2 ∧ n ≤ (hL h2 d2 : Int) := by
  have S0 := S
  obtain ⟨b0, b1, b2, tb, rb, cb, kb, td, l0, l1, ct, us, ⟨n2, n3⟩, fr⟩ := S
  have nb : hN h0 < hN h := by omega
  have E := q_As_ensureCapacityInternal (x1 := n) tb nb rb td
  rw [cb, zshr_0 (by omega) (by omega), zwsub_e (by omega) (by omega)] at E
  by_cases c : n ≤ (hL h d : Int)
  · rw [if_neg (by omega)] at E
    exact ⟨h, d, E.trans q_As_ensureCapacityInternal_38, S0, c⟩
  · rw [if_pos (by omega)] at E
    have E2 := E.trans (q_As_ensureCapacityInternal_17 tb nb rb)
    rw [c_newCap hC S0 (by omega) (by omega)] at E2
    generalize hw : ((hL h d : Int) + (if n - (hL h d : Int) < (hL h d : Int) + 2 then (hL h d : Int) + 2 else n - (hL h d : Int))) = w at E2
    have w0 : n ≤ w := by split at hw <;> omega
    have w1 : w ≤ 2 * C + 36 := by split at hw <;> omega
    have w2 : 2 * (hL h d : Int) + 2 ≤ w := by split at hw <;> omega
    have E3 := E2.trans (q_As_ensureCapacityInternal_27 (x2 := (hL h d : Int)) tb nb)
    rw [cb, zshl_0 (by omega) (by omega)] at E3
    have nd : hN h0 ≠ hN h := by omega
    rw [gd_t ⟨⟨rfl, td, b1⟩, by omega, by omega, Nat.le_of_ble_eq_true rfl, rfl⟩, gd_t ⟨rfl, (Gs_cp h d w.toNat nd).1.trans tb, Nat.lt_succ_of_lt nb⟩] at E3
    refine ⟨_, hN h, E3, ⟨by omega, Nat.lt_succ_self _, hz, (Gs_cp h d w.toNat nd).1.trans tb, zup_s _ _ _ _, ?_, ?_, zu1_b _ _ _, ?_, ?_, ?_, ?_, ⟨?_, ?_⟩, ?_⟩, ?_⟩
    · exact (congrFun (Gs_cp h d w.toNat nd).2.2.2.1 1).trans cb
    · exact (congrFun (Gs_cp h d w.toNat nd).2.2.2.1 3).trans kb
    · show T.length ≤ zu1 (hL h) (hN h) w.toNat (hN h)
      rw [zu1_b]; omega
    · show zu1 (hL h) (hN h) w.toNat (hN h) ≤ 2 * C + 36
      rw [zu1_b]; omega
    · intro i hi
      show zu1 (hI h) (hN h) _ (hN h) i = tg T i
      rw [zu1_b]
      show (if i < hL h d ∧ i < w.toNat then hI h d i else 0) = tg T i
      rw [if_pos ⟨by omega, by omega⟩, ct i hi]
    · show hU h + w.toNat ≤ hU h0 + 4 + 2 * zu1 (hL h) (hN h) w.toNat (hN h)
      rw [zu1_b]; omega
    · show hN h0 + 2 ≤ hN h + 1
      omega
    · show 16 * 2 ^ (hN h + 1 - (hN h0 + 2)) ≤ zu1 (hL h) (hN h) w.toNat (hN h)
      rw [zu1_b, show hN h + 1 - (hN h0 + 2) = hN h - (hN h0 + 2) + 1 from by omega, Nat.pow_succ]
      omega
    · exact Gf_s (Gf_s fr fun a ha => Gs_cp h d w.toNat (by omega)) fun a ha => Gs_sR _ 0 _ (by omega)
    · show n ≤ ((zu1 (hL h) (hN h) w.toNat (hN h) : Nat) : Int)
      rw [zu1_b]; omega
/-- a text that stands from the start -/
def TXc (h : zH) (s : Nat) (U : List Int) : Prop := zVB ≤ s ∧ hT h s = 40 ∧ hL h s = U.length ∧ ∀ i, i < U.length → hI h s i = tg U i
theorem TXc_g {s : Nat} {U : List Int} (X : TXc h0 s U) (F : Gf h0 h) : TXc h s U :=
  ⟨X.1, (F s (Or.inr X.1)).1.trans X.2.1, (F s (Or.inr X.1)).2.1.trans X.2.2.1, fun i hi => (congrFun (F s (Or.inr X.1)).2.2.2.1 i).trans (X.2.2.2 i hi)⟩
theorem c_put (S : SBd C h0 h T d) {s : Nat} {U : List Int} (X : TXc h s U) (c : T.length + U.length ≤ hL h d) : zC 242 [zR (some (hN h0)), zI (T.length : Int), zR (some s)] h = some (.inl none, hPut h s d T.length) := by
  obtain ⟨b0, b1, b2, tb, rb, cb, kb, td, l0, l1, ct, us, nn, fr⟩ := S
  obtain ⟨x0, x1, x2, x3⟩ := X
  have nb : hN h0 < hN h := by omega
  refine (q_As_putStringAt tb nb).trans ?_
  have E := q_As_inflateIfNeededFor tb nb x1
  rw [cb, if_pos rfl] at E
  rw [E.trans q_As_inflateIfNeededFor_21]
  refine Eq.trans (b := zY 242 5 [some (zR (some (hN h0))), some (zI (T.length : Int)), some (zR (some s))] [] h) rfl ?_
  refine (q_As_putStringAt_5 tb nb rb).trans ?_
  exact gd_t ⟨cb, rfl, x1, ⟨rfl, td, b1⟩, by omega, by show (T.length : Int) + (hL h s : Int) ≤ (hL h d : Int); omega, Nat.le_of_ble_eq_true rfl, rfl⟩ _
theorem c_appA (hC : C ≤ 900) (S : SBd C h0 h T d) {s : Nat} {U : List Int} (X : TXc h0 s U) (c : T.length + U.length ≤ C) (hz : hN h + 1 < zVB) : ∃ h2, zC 238 [zR (some (hN h0)), zR (some s)] h = some (.inl (some (zR (some (hN h0)))), h2) ∧ SB C h0 h2 (T ++ U) := by
  have X1 := TXc_g X S.2.2.2.2.2.2.2.2.2.2.2.2.2
  have E := q_As_append_Stri X1.2.1 S.2.2.2.1 (by have := S.1; have := S.2.1; omega)
  rw [S.2.2.2.2.2.2.1, X1.2.2.1, zwadd_e (by omega) (by omega)] at E
  obtain ⟨h2, d2, E2, S2, l2⟩ := c_ens hC S (n := (T.length : Int) + (U.length : Int)) (by omega) (by omega) hz
  rw [E2] at E
  have nb : hN h0 < hN h2 := by have := S2.1; have := S2.2.1; omega
  have E3 := E.trans (q_As_append_Stri_24 (a1 := s) (x2 := (U.length : Int)) S2.2.2.2.1 nb)
  have X2 := TXc_g X S2.2.2.2.2.2.2.2.2.2.2.2.2.2
  rw [S2.2.2.2.2.2.2.1, c_put S2 X2 (by omega)] at E3
  have E4 := E3.trans (q_As_append_Stri_33 (h := hPut h2 s d2 T.length) (a1 := s) (x2 := (U.length : Int)) S2.2.2.2.1 nb)
  obtain ⟨b0, b1, b2, tb, rb, cb, kb, td, l0, l1, ct, us, nn, fr⟩ := S2
  have nd : hN h0 ≠ d2 := by omega
  have kb2 : hI (hPut h2 s d2 T.length) (hN h0) 3 = (T.length : Int) := (congrFun (Gs_put h2 s T.length nd).2.2.2.1 3).trans kb
  rw [kb2, zwadd_e (by omega) (by omega)] at E4
  refine ⟨_, E4, d2, b0, b1, b2, tb, rb, ?_, ?_, td, ?_, l1, ?_, us, nn, ?_⟩
  · refine (zup_n _ _ _ _ _ _ (by omega)).trans ?_
    exact (congrFun (Gs_put h2 s T.length nd).2.2.2.1 1).trans cb
  · refine (zup_s _ _ _ _).trans ?_
    rw [List.length_append]; omega
  · show (T ++ U).length ≤ hL h2 d2
    rw [List.length_append]; omega
  · intro i hi
    rw [List.length_append] at hi
    refine (zup_n _ _ _ _ _ _ (by omega)).trans ?_
    show zu1 (hI h2) d2 (fun j => if T.length ≤ j ∧ j < T.length + hL h2 s then hI h2 s (j - T.length) else hI h2 d2 j) d2 i = tg (T ++ U) i
    rw [zu1_b]
    show (if T.length ≤ i ∧ i < T.length + hL h2 s then hI h2 s (i - T.length) else hI h2 d2 i) = tg (T ++ U) i
    rw [X2.2.2.1]
    by_cases ci : i < T.length
    · rw [if_neg (by omega), tg_l ci, ct i ci]
    · rw [if_pos ⟨by omega, by omega⟩, tg_r (by omega), X2.2.2.2 _ (by omega)]
  · exact Gf_s (Gf_s fr fun a ha => Gs_put h2 s T.length (by omega)) fun a ha => Gs_sI _ 3 _ (by omega)
theorem c_app (hC : C ≤ 900) (S : SB C h0 h T) {s : Nat} {U : List Int} (X : TXc h0 s U) (c : T.length + U.length ≤ C) (hz : hN h + 1 < zVB) : ∃ h2, zC 180 [zR (some (hN h0)), zR (some s)] h = some (.inl (some (zR (some (hN h0)))), h2) ∧ SB C h0 h2 (T ++ U) := by
  obtain ⟨d, S⟩ := S
  obtain ⟨h2, E, S2⟩ := c_appA hC S X c hz
  have nb : hN h0 < hN h := by have := S.1; have := S.2.1; omega
  refine ⟨h2, ?_, S2⟩
  refine (q_Sb_append_Stri S.2.2.2.1 nb).trans ?_
  rw [E]
  exact q_Sb_append_Stri_5
theorem c_lat (S : SBd C h0 h T d) : zC 241 [zR (some (hN h0))] h = some (.inl (some (zI 1)), h) := by
  have E := q_As_isLatin1 S.2.2.2.1 (by have := S.1; have := S.2.1; omega)
  rw [S.2.2.2.2.2.1, if_pos rfl] at E
  exact E.trans q_As_isLatin1_13
theorem zi2b_s {x : Int} (h0 : 0 ≤ x) (h1 : x < 128) : zi2b x = x := by
  rw [zi2b_e]
  simp only [Int.bmod_def]
  omega
/-- one place more is written behind the text -/
theorem SB_one (S : SBd C h0 h T d) {x : Int} (l : T.length + 1 ≤ hL h d) : SB C h0 (sI (sI h (hN h0) 3 (T.length + 1)) d T.length x) (T ++ [x]) ∧ SB C h0 (sI (sI h d T.length x) (hN h0) 3 (T.length + 1)) (T ++ [x]) := by
  obtain ⟨b0, b1, b2, tb, rb, cb, kb, td, l0, l1, ct, us, nn, fr⟩ := S
  have rd : ∀ i, i < (T ++ [x]).length → zup (hI h) d T.length x d i = tg (T ++ [x]) i := by
    intro i hi
    rw [List.length_append] at hi
    by_cases ci : i < T.length
    · rw [zup_n _ _ _ _ _ _ (by omega), tg_l ci, ct i ci]
    · have e : i = T.length := by have : [x].length = 1 := rfl; omega
      rw [e, zup_s, tg_r (Nat.le_refl _), Nat.sub_self]
      rfl
  refine ⟨⟨d, b0, b1, b2, tb, rb, ?_, ?_, td, ?_, l1, ?_, us, nn, ?_⟩, ⟨d, b0, b1, b2, tb, rb, ?_, ?_, td, ?_, l1, ?_, us, nn, ?_⟩⟩
  · exact (zup_n _ _ _ _ _ _ (by omega)).trans ((zup_n _ _ _ _ _ _ (by omega)).trans cb)
  · refine (zup_n _ _ _ _ _ _ (by omega)).trans ((zup_s _ _ _ _).trans ?_)
    rw [List.length_append]; rfl
  · show (T ++ [x]).length ≤ hL h d
    rw [List.length_append]; exact l
  · intro i hi
    refine Eq.trans ?_ (rd i hi)
    show zup (zup (hI h) (hN h0) 3 _) d T.length x d i = zup (hI h) d T.length x d i
    unfold zup
    split
    · rfl
    · rw [if_neg (by omega)]
  · exact Gf_s (Gf_s fr fun a ha => Gs_sI _ 3 _ (by omega)) fun a ha => Gs_sI _ _ _ (by omega)
  · exact (zup_n _ _ _ _ _ _ (by omega)).trans ((zup_n _ _ _ _ _ _ (by omega)).trans cb)
  · refine (zup_s _ _ _ _).trans ?_
    rw [List.length_append]; rfl
  · show (T ++ [x]).length ≤ hL h d
    rw [List.length_append]; exact l
  · intro i hi
    refine Eq.trans ?_ (rd i hi)
    exact zup_n _ _ _ _ _ _ (by omega)
  · exact Gf_s (Gf_s fr fun a ha => Gs_sI _ _ _ (by omega)) fun a ha => Gs_sI _ _ _ (by omega)
theorem c_appC (hC : C ≤ 900) (S : SB C h0 h T) {x : Int} (x0 : 0 ≤ x) (x1 : x < 128) (c : T.length + 1 ≤ C) (hz : hN h + 1 < zVB) : ∃ h2, zC 189 [zR (some (hN h0)), zI x] h = some (.inl (some (zR (some (hN h0)))), h2) ∧ SB C h0 h2 (T ++ [x]) := by
  obtain ⟨d, S⟩ := S
  have nb : hN h0 < hN h := by have := S.1; have := S.2.1; omega
  have E := q_As_append_C (x1 := x) S.2.2.2.1 nb
  rw [S.2.2.2.2.2.2.1, zwadd_e (by omega) (by omega)] at E
  obtain ⟨h2, d2, E2, S2, l2⟩ := c_ens hC S (n := (T.length : Int) + 1) (by omega) (by omega) hz
  rw [E2] at E
  have nb2 : hN h0 < hN h2 := by have := S2.1; have := S2.2.1; omega
  have E3 := E.trans (q_As_append_C_10 (x1 := x) S2.2.2.2.1 nb2)
  rw [c_lat S2] at E3
  have E4 := E3.trans (q_As_append_C_14 (x1 := x))
  rw [if_neg (by decide)] at E4
  have E5 := E4.trans q_As_append_C_17
  have K : zC 260 [zI x] h2 = some (.inl (some (zI 1)), h2) := by
    refine q_La_canEncode.trans ?_
    rw [if_neg (by omega)]
    exact q_La_canEncode_7
  rw [K] at E5
  have E6 := E5.trans (q_As_append_C_21 (x1 := x))
  rw [if_neg (by decide)] at E6
  have E7 := E6.trans (q_As_append_C_24 (x1 := x) S2.2.2.2.1 nb2 S2.2.2.2.2.1 S2.2.2.2.2.2.2.2.1 S2.2.1)
  rw [S2.2.2.2.2.2.2.1, zi2b_s x0 x1, zwadd_e (by omega) (by omega), gd_t ⟨by omega, by omega⟩, gd_t ⟨by omega, by omega, fun e => absurd (e.symm.trans S2.2.2.2.2.2.2.2.1) (by decide)⟩] at E7
  refine ⟨_, ?_, (SB_one S2 (x := x) (by omega)).1⟩
  refine (q_Sb_append_C S.2.2.2.1 nb).trans ?_
  rw [E7]
  exact q_Sb_append_C_5
end SBS
