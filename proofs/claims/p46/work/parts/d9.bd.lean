/-! Java's builder, with what stands beside it. -/
/-- the builder b holds the text T, in the row d -/
def BD (C b : Nat) (h : zH) (T : List Int) (d : Nat) : Prop := b < d ∧ d < hN h ∧ hN h < zVB ∧ hT h b = 12 ∧ hR h b 0 = some d ∧ hI h b 1 = 0 ∧ hI h b 3 = (T.length : Int) ∧ hT h d = 21 ∧ T.length ≤ hL h d ∧ hL h d ≤ 2 * C + 36 ∧ ∀ i, i < T.length → hI h d i = tg T i
/-- k cells at most were made; of the old ones only the builder b, its row d and the cell r may be others -/
def BF (r b d d2 k : Nat) (h h2 : zH) : Prop := ((d2 = d ∨ hN h ≤ d2) ∧ d2 < zVB) ∧ (hN h ≤ hN h2 ∧ hN h2 ≤ hN h + k ∧ hU h2 ≤ hU h + 2000 * k) ∧ ∀ a, (a < hN h ∨ zVB ≤ a) → a ≠ b → a ≠ d → a ≠ r → Gs h h2 a
theorem BF_t {r b d d2 d3 k k2 : Nat} {h h2 h3 : zH} (F : BF r b d d2 k h h2) (G : BF r b d2 d3 k2 h2 h3) : BF r b d d3 (k + k2) h h3 := by
  obtain ⟨⟨f1, f2⟩, ⟨f3, f4, f5⟩, f6⟩ := F
  obtain ⟨⟨g1, g2⟩, ⟨g3, g4, g5⟩, g6⟩ := G
  refine ⟨⟨by omega, g2⟩, ⟨by omega, by omega, by omega⟩, fun a ha hb hd hr => ?_⟩
  exact Gs_t (f6 a ha hb hd hr) (g6 a (by omega) hb (by omega) hr)
theorem BF_m {r b d d2 k k2 : Nat} {h h2 : zH} (F : BF r b d d2 k h h2) (e : k ≤ k2) : BF r b d d2 k2 h h2 := by
  obtain ⟨f, ⟨f3, f4, f5⟩, f6⟩ := F
  exact ⟨f, ⟨f3, by omega, by omega⟩, f6⟩
theorem BF_r {r b d : Nat} {h : zH} (hd : d < zVB) : BF r b d d 0 h h := ⟨⟨Or.inl rfl, hd⟩, ⟨Nat.le_refl _, Nat.le_refl _, Nat.le_refl _⟩, fun a _ _ _ _ => Gs_r h a⟩
section BDS
variable {C b : Nat} {h h2 : zH} {T : List Int} {d d2 r k : Nat}
theorem BD_nb (S : BD C b h T d) : b < hN h := by have := S.1; have := S.2.1; omega
theorem BD_d (S : BD C b h T d) : d < zVB := by have := S.2.1; have := S.2.2.1; omega
theorem TXc_B {s : Nat} {U : List Int} (S : BD C b h T d) (r0 : r < zVB) (X : TXc h s U) (F : BF r b d d2 k h h2) : TXc h2 s U := by
  have x0 := X.1
  have nb := BD_nb S
  have d0 := BD_d S
  have z := S.2.2.1
  have g := F.2.2 s (Or.inr x0) (by omega) (by omega) (by omega)
  exact ⟨x0, g.1.trans X.2.1, g.2.1.trans X.2.2.1, fun i hi => (congrFun g.2.2.2.1 i).trans (X.2.2.2 i hi)⟩
theorem KS_B (S : BD C b h T d) (r0 : r < zVB) (K : KS h) (F : BF r b d d2 k h h2) : KS h2 := fun a ha => by
  have nb := BD_nb S
  have d0 := BD_d S
  have z := S.2.2.1
  have g := F.2.2 a (Or.inr (by omega)) (by omega) (by omega) (by omega)
  have q := K a ha
  exact ⟨g.1.trans q.1, g.2.1.trans q.2.1, g.2.2.2.1.trans q.2.2.1, g.2.2.2.2.1.trans q.2.2.2⟩
/-- another cell is written -/
theorem BD_s (S : BD C b h T d) {a j : Nat} {v : Int} (t : hT h a = 22) : BD C b (sI h a j v) T d := by
  obtain ⟨b0, b1, b2, tb, rb, cb, kb, td, l0, l1, ct⟩ := S
  have e1 : b ≠ a := fun e => by subst e; omega
  have e2 : d ≠ a := fun e => by subst e; omega
  refine ⟨b0, b1, b2, tb, rb, ?_, ?_, td, l0, l1, fun i hi => ?_⟩
  · exact (congrFun (zup_a _ j v e1) 1).trans cb
  · exact (congrFun (zup_a _ j v e1) 3).trans kb
  · exact (congrFun (zup_a _ j v e2) i).trans (ct i hi)
theorem BF_s (S : BD C b h T d) {j : Nat} {v : Int} : BF r b d d 0 h (sI h r j v) := ⟨⟨Or.inl rfl, BD_d S⟩, ⟨Nat.le_refl _, Nat.le_refl _, Nat.le_refl _⟩, fun a _ _ _ e => Gs_sI h j v e⟩
theorem BD_n (S : BD C b h T d) {t n : Nat} (hz : hN h + 1 < zVB) : BD C b (hNew h t n) T d := by
  obtain ⟨b0, b1, b2, tb, rb, cb, kb, td, l0, l1, ct⟩ := S
  have gb := Gs_new h t n (show b ≠ hN h by omega)
  have gd' := Gs_new h t n (show d ≠ hN h by omega)
  refine ⟨b0, Nat.lt_succ_of_lt b1, hz, gb.1.trans tb, (congrFun gb.2.2.1 0).trans rb, (congrFun gb.2.2.2.1 1).trans cb, (congrFun gb.2.2.2.1 3).trans kb, gd'.1.trans td, by rw [gd'.2.1]; exact l0, by rw [gd'.2.1]; exact l1, fun i hi => (congrFun gd'.2.2.2.1 i).trans (ct i hi)⟩
theorem BF_n (S : BD C b h T d) {t n : Nat} (hn : n ≤ 2000) : BF r b d d 1 h (hNew h t n) := ⟨⟨Or.inl rfl, BD_d S⟩, ⟨Nat.le_succ _, Nat.le_refl _, by show hU h + n ≤ _; omega⟩, fun a ha _ _ _ => Gs_new h t n (by have := S.2.2.1; omega)⟩
theorem x_newCap (hC : C ≤ 900) (S : BD C b h T d) {n : Int} (n0 : (hL h d : Int) < n) (n1 : n ≤ 4000) : zC 240 [zR (some b), zI n] h = some (.inl (some (zI ((hL h d : Int) + (if n - (hL h d : Int) < (hL h d : Int) + 2 then (hL h d : Int) + 2 else n - (hL h d : Int))))), h) := by
  obtain ⟨b0, b1, b2, tb, rb, cb, kb, td, l0, l1, ct⟩ := S
  have nb : b < hN h := by omega
  refine (q_As_newCapacity tb nb rb td).trans ?_
  rw [cb, zshl_0 (by omega) (by omega), zwsub_e (by omega) (by omega), show zshl 2 0 = 2 from by decide, zwadd_e (by omega) (by omega), c_newLen (by omega) (by omega) (by omega) (by omega) (by omega) (by omega)]
  generalize hw : ((hL h d : Int) + (if n - (hL h d : Int) < (hL h d : Int) + 2 then (hL h d : Int) + 2 else n - (hL h d : Int))) = w
  have w1 : 0 ≤ w ∧ w < 10000 := by split at hw <;> omega
  refine (show _ = zY 240 32 [some (zR (some b)), some (zI n), some (zI (hL h d : Int)), some (zI n), some (zI (n - (hL h d : Int))), none] [zI w] h from rfl).trans ?_
  refine q_As_newCapacity_32.trans ?_
  rw [if_neg (by omega)]
  refine (q_As_newCapacity_51 tb nb).trans ?_
  rw [cb, zshr_0 (by omega) (by omega)]
theorem x_ens (hC : C ≤ 900) (S : BD C b h T d) {n : Int} (n0 : (T.length : Int) ≤ n) (n1 : n ≤ C) (hz : hN h + 1 < zVB) (r : Nat) : ∃ h2 d2, zC 239 [zR (some b), zI n] h = some (.inl none, h2) ∧ BD C b h2 T d2 ∧ n ≤ (hL h2 d2 : Int) ∧ BF r b d d2 1 h h2 := by
  have S0 := S
  obtain ⟨b0, b1, b2, tb, rb, cb, kb, td, l0, l1, ct⟩ := S
  have nb : b < hN h := by omega
  have E := q_As_ensureCapacityInternal (x1 := n) tb nb rb td
  rw [cb, zshr_0 (by omega) (by omega), zwsub_e (by omega) (by omega)] at E
  by_cases c : n ≤ (hL h d : Int)
  · rw [if_neg (by omega)] at E
    exact ⟨h, d, E.trans q_As_ensureCapacityInternal_38, S0, c, BF_m (BF_r (by omega)) (Nat.zero_le _)⟩
  · rw [if_pos (by omega)] at E
    have E2 := E.trans (q_As_ensureCapacityInternal_17 tb nb rb)
    rw [x_newCap hC S0 (by omega) (by omega)] at E2
    generalize hw : ((hL h d : Int) + (if n - (hL h d : Int) < (hL h d : Int) + 2 then (hL h d : Int) + 2 else n - (hL h d : Int))) = w at E2
    have w0 : n ≤ w := by split at hw <;> omega
    have w1 : w ≤ 2 * C + 36 := by split at hw <;> omega
    have E3 := E2.trans (q_As_ensureCapacityInternal_27 (x2 := (hL h d : Int)) tb nb)
    rw [cb, zshl_0 (by omega) (by omega)] at E3
    have nd : b ≠ hN h := by omega
    rw [gd_t ⟨⟨rfl, td, b1⟩, by omega, by omega, Nat.le_of_ble_eq_true rfl, rfl⟩, gd_t ⟨rfl, (Gs_cp h d w.toNat nd).1.trans tb, Nat.lt_succ_of_lt nb⟩] at E3
    refine ⟨_, hN h, E3, ⟨by omega, Nat.lt_succ_self _, hz, (Gs_cp h d w.toNat nd).1.trans tb, zup_s _ _ _ _, ?_, ?_, zu1_b _ _ _, ?_, ?_, ?_⟩, ?_, ⟨⟨Or.inr (Nat.le_refl _), by omega⟩, ⟨?_, ?_, ?_⟩, ?_⟩⟩
    · exact (congrFun (Gs_cp h d w.toNat nd).2.2.2.1 1).trans cb
    · exact (congrFun (Gs_cp h d w.toNat nd).2.2.2.1 3).trans kb
    · show T.length ≤ zu1 (hL h) (hN h) w.toNat (hN h)
      rw [zu1_b]; omega
    · show zu1 (hL h) (hN h) w.toNat (hN h) ≤ 2 * C + 36
      rw [zu1_b]; omega
    · intro i hi
      show zu1 (hI h) (hN h) _ (hN h) i = tg T i
      rw [zu1_b]
      show (if i < hL h d ∧ i < w.toNat then hI h d i else 0) = tg T i
      rw [if_pos ⟨by omega, by omega⟩, ct i hi]
    · show n ≤ ((zu1 (hL h) (hN h) w.toNat (hN h) : Nat) : Int)
      rw [zu1_b]; omega
    · show hN h ≤ hN h + 1
      omega
    · show hN h + 1 ≤ hN h + 1
      omega
    · show hU h + w.toNat ≤ hU h + 2000 * 1
      omega
    · exact fun a ha e _ _ => Gs_t (Gs_cp h d w.toNat (by omega)) (Gs_sR _ 0 _ e)
theorem x_put (S : BD C b h T d) {s : Nat} {U : List Int} (X : TXc h s U) (c : T.length + U.length ≤ hL h d) : zC 242 [zR (some b), zI (T.length : Int), zR (some s)] h = some (.inl none, hPut h s d T.length) := by
  obtain ⟨b0, b1, b2, tb, rb, cb, kb, td, l0, l1, ct⟩ := S
  obtain ⟨x0, x1, x2, x3⟩ := X
  have nb : b < hN h := by omega
  refine (q_As_putStringAt tb nb).trans ?_
  have E := q_As_inflateIfNeededFor tb nb x1
  rw [cb, if_pos rfl] at E
  rw [E.trans q_As_inflateIfNeededFor_21]
  refine Eq.trans (b := zY 242 5 [some (zR (some b)), some (zI (T.length : Int)), some (zR (some s))] [] h) rfl ?_
  refine (q_As_putStringAt_5 tb nb rb).trans ?_
  exact gd_t ⟨cb, rfl, x1, ⟨rfl, td, b1⟩, by omega, by show (T.length : Int) + (hL h s : Int) ≤ (hL h d : Int); omega, Nat.le_of_ble_eq_true rfl, rfl⟩ _
theorem x_appA (hC : C ≤ 900) (S : BD C b h T d) {s : Nat} {U : List Int} (X : TXc h s U) (c : T.length + U.length ≤ C) (hz : hN h + 1 < zVB) (r : Nat) : ∃ h2 d2, zC 238 [zR (some b), zR (some s)] h = some (.inl (some (zR (some b))), h2) ∧ BD C b h2 (T ++ U) d2 ∧ BF r b d d2 1 h h2 := by
  have E := q_As_append_Stri X.2.1 S.2.2.2.1 (BD_nb S)
  rw [S.2.2.2.2.2.2.1, X.2.2.1, zwadd_e (by omega) (by omega)] at E
  obtain ⟨h2, d2, E2, S2, l2, F2⟩ := x_ens hC S (n := (T.length : Int) + (U.length : Int)) (by omega) (by omega) hz b
  rw [E2] at E
  have nb : b < hN h2 := BD_nb S2
  have E3 := E.trans (q_As_append_Stri_24 (a1 := s) (x2 := (U.length : Int)) S2.2.2.2.1 nb)
  have X2 := TXc_B S (by have := BD_d S; have := S.1; omega) X F2
  rw [S2.2.2.2.2.2.2.1, x_put S2 X2 (by omega)] at E3
  have E4 := E3.trans (q_As_append_Stri_33 (h := hPut h2 s d2 T.length) (a1 := s) (x2 := (U.length : Int)) S2.2.2.2.1 nb)
  obtain ⟨b0, b1, b2, tb, rb, cb, kb, td, l0, l1, ct⟩ := S2
  have nd : b ≠ d2 := by omega
  have kb2 : hI (hPut h2 s d2 T.length) b 3 = (T.length : Int) := (congrFun (Gs_put h2 s T.length nd).2.2.2.1 3).trans kb
  rw [kb2, zwadd_e (by omega) (by omega)] at E4
  refine ⟨_, d2, E4, ⟨b0, b1, b2, tb, rb, ?_, ?_, td, ?_, l1, ?_⟩, ⟨F2.1, F2.2.1, fun a ha e1 e2 e3 => ?_⟩⟩
  · refine (zup_n _ _ _ _ _ _ (by omega)).trans ?_
    exact (congrFun (Gs_put h2 s T.length nd).2.2.2.1 1).trans cb
  · refine (zup_s _ _ _ _).trans ?_
    rw [List.length_append]; omega
  · show (T ++ U).length ≤ hL h2 d2
    rw [List.length_append]; omega
  · intro i hi
    rw [List.length_append] at hi
    refine (zup_n _ _ _ _ _ _ (by omega)).trans ?_
    show zu1 (hI h2) d2 (fun j => if T.length ≤ j ∧ j < T.length + hL h2 s then hI h2 s (j - T.length) else hI h2 d2 j) d2 i = tg (T ++ U) i
    rw [zu1_b]
    show (if T.length ≤ i ∧ i < T.length + hL h2 s then hI h2 s (i - T.length) else hI h2 d2 i) = tg (T ++ U) i
    rw [X2.2.2.1]
    by_cases ci : i < T.length
    · rw [if_neg (by omega), tg_l ci, ct i ci]
    · rw [if_pos ⟨by omega, by omega⟩, tg_r (by omega), X2.2.2.2 _ (by omega)]
  · have q := F2.1
    exact Gs_t (Gs_t (F2.2.2 a ha e1 e2 e1) (Gs_put h2 s T.length (by omega))) (Gs_sI _ 3 _ e1)
theorem x_app (hC : C ≤ 900) (S : BD C b h T d) {s : Nat} {U : List Int} (X : TXc h s U) (c : T.length + U.length ≤ C) (hz : hN h + 1 < zVB) (r : Nat) : ∃ h2 d2, zC 180 [zR (some b), zR (some s)] h = some (.inl (some (zR (some b))), h2) ∧ BD C b h2 (T ++ U) d2 ∧ BF r b d d2 1 h h2 := by
  obtain ⟨h2, d2, E, S2, F⟩ := x_appA hC S X c hz r
  refine ⟨h2, d2, ?_, S2, F⟩
  refine (q_Sb_append_Stri S.2.2.2.1 (BD_nb S)).trans ?_
  rw [E]
  exact q_Sb_append_Stri_5
theorem x_lat (S : BD C b h T d) : zC 241 [zR (some b)] h = some (.inl (some (zI 1)), h) := by
  have E := q_As_isLatin1 S.2.2.2.1 (BD_nb S)
  rw [S.2.2.2.2.2.1, if_pos rfl] at E
  exact E.trans q_As_isLatin1_13
/-- one place more is written behind the text -/
theorem BD_one (S : BD C b h T d) {x : Int} (l : T.length + 1 ≤ hL h d) : BD C b (sI (sI h b 3 (T.length + 1)) d T.length x) (T ++ [x]) d ∧ BD C b (sI (sI h d T.length x) b 3 (T.length + 1)) (T ++ [x]) d := by
  obtain ⟨b0, b1, b2, tb, rb, cb, kb, td, l0, l1, ct⟩ := S
  have rd : ∀ i, i < (T ++ [x]).length → zup (hI h) d T.length x d i = tg (T ++ [x]) i := by
    intro i hi
    rw [List.length_append] at hi
    by_cases ci : i < T.length
    · rw [zup_n _ _ _ _ _ _ (by omega), tg_l ci, ct i ci]
    · have e : i = T.length := by have : [x].length = 1 := rfl; omega
      rw [e, zup_s, tg_r (Nat.le_refl _), Nat.sub_self]
      rfl
  refine ⟨⟨b0, b1, b2, tb, rb, ?_, ?_, td, ?_, l1, ?_⟩, ⟨b0, b1, b2, tb, rb, ?_, ?_, td, ?_, l1, ?_⟩⟩
  · exact (zup_n _ _ _ _ _ _ (by omega)).trans ((zup_n _ _ _ _ _ _ (by omega)).trans cb)
  · refine (zup_n _ _ _ _ _ _ (by omega)).trans ((zup_s _ _ _ _).trans ?_)
    rw [List.length_append]; rfl
  · show (T ++ [x]).length ≤ hL h d
    rw [List.length_append]; exact l
  · intro i hi
    refine Eq.trans ?_ (rd i hi)
    show zup (zup (hI h) b 3 _) d T.length x d i = zup (hI h) d T.length x d i
    unfold zup
    split
    · rfl
    · rw [if_neg (by omega)]
  · exact (zup_n _ _ _ _ _ _ (by omega)).trans ((zup_n _ _ _ _ _ _ (by omega)).trans cb)
  · refine (zup_s _ _ _ _).trans ?_
    rw [List.length_append]; rfl
  · show (T ++ [x]).length ≤ hL h d
    rw [List.length_append]; exact l
  · intro i hi
    refine Eq.trans ?_ (rd i hi)
    exact zup_n _ _ _ _ _ _ (by omega)
theorem x_appC (hC : C ≤ 900) (S : BD C b h T d) {x : Int} (x0 : 0 ≤ x) (x1 : x < 128) (c : T.length + 1 ≤ C) (hz : hN h + 1 < zVB) (r : Nat) : ∃ h2 d2, zC 189 [zR (some b), zI x] h = some (.inl (some (zR (some b))), h2) ∧ BD C b h2 (T ++ [x]) d2 ∧ BF r b d d2 1 h h2 := by
  have nb := BD_nb S
  have E := q_As_append_C (x1 := x) S.2.2.2.1 nb
  rw [S.2.2.2.2.2.2.1, zwadd_e (by omega) (by omega)] at E
  obtain ⟨h2, d2, E2, S2, l2, F2⟩ := x_ens hC S (n := (T.length : Int) + 1) (by omega) (by omega) hz r
  rw [E2] at E
  have nb2 := BD_nb S2
  have E3 := E.trans (q_As_append_C_10 (x1 := x) S2.2.2.2.1 nb2)
  rw [x_lat S2] at E3
  have E4 := E3.trans (q_As_append_C_14 (x1 := x))
  rw [if_neg (by decide)] at E4
  have E5 := E4.trans q_As_append_C_17
  have K : zC 260 [zI x] h2 = some (.inl (some (zI 1)), h2) := by
    refine q_La_canEncode.trans ?_
    rw [if_neg (by omega)]
    exact q_La_canEncode_7
  rw [K] at E5
  have E6 := E5.trans (q_As_append_C_21 (x1 := x))
  rw [if_neg (by decide)] at E6
  have E7 := E6.trans (q_As_append_C_24 (x1 := x) S2.2.2.2.1 nb2 S2.2.2.2.2.1 S2.2.2.2.2.2.2.2.1 S2.2.1)
  rw [S2.2.2.2.2.2.2.1, zi2b_s x0 x1, zwadd_e (by omega) (by omega), gd_t ⟨by omega, by omega⟩, gd_t ⟨by omega, by omega, fun e => absurd (e.symm.trans S2.2.2.2.2.2.2.2.1) (by decide)⟩] at E7
  refine ⟨_, d2, ?_, (BD_one S2 (x := x) (by omega)).1, ⟨F2.1, F2.2.1, fun a ha e1 e2 e3 => ?_⟩⟩
  · refine (q_Sb_append_C S.2.2.2.1 nb).trans ?_
    rw [E7]
    exact q_Sb_append_C_5
  · have q := F2.1
    exact Gs_t (Gs_t (F2.2.2 a ha e1 e2 e3) (Gs_sI _ 3 _ e1)) (Gs_sI _ _ _ (by omega))
theorem x_appI (hC : C ≤ 900) (K0 : KS h) (S : BD C b h T d) {v : Int} (v0 : 0 ≤ v) (v1 : v < 10) (c : T.length + 1 ≤ C) (hz : hN h + 1 < zVB) (r : Nat) : ∃ h2 d2, zC 203 [zR (some b), zI v] h = some (.inl (some (zR (some b))), h2) ∧ BD C b h2 (T ++ [48 + v]) d2 ∧ BF r b d d2 1 h h2 := by
  have nb := BD_nb S
  have E := q_As_append_I (x1 := v) S.2.2.2.1 nb
  rw [S.2.2.2.2.2.2.1, c_size v0 v1] at E
  have E1 := E.trans (q_As_append_I_10 (x1 := v) (x2 := (T.length : Int)) (y0 := (T.length : Int)) (y1 := 1) S.2.2.2.1 nb)
  rw [zwadd_e (by omega) (by omega)] at E1
  obtain ⟨h2, d2, E2, S2, l2, F2⟩ := x_ens hC S (n := (T.length : Int) + 1) (by omega) (by omega) hz b
  rw [E2] at E1
  have nb2 := BD_nb S2
  have E3 := E1.trans (q_As_append_I_17 (x1 := v) (x2 := (T.length : Int)) (x3 := (T.length : Int) + 1) S2.2.2.2.1 nb2)
  rw [x_lat S2] at E3
  have E4 := E3.trans (q_As_append_I_21 (x1 := v) (x2 := (T.length : Int)) (x3 := (T.length : Int) + 1))
  rw [if_neg (by decide)] at E4
  have E5 := E4.trans (q_As_append_I_24 (x1 := v) (x2 := (T.length : Int)) (x3 := (T.length : Int) + 1) S2.2.2.2.1 nb2 S2.2.2.2.2.1)
  have K2 := KS_B S (by have := BD_d S; have := S.1; omega) K0 F2
  rw [c_chars K2 v0 v1 S2.2.2.2.2.2.2.2.1 S2.2.1 (by omega) l2 (by omega)] at E5
  have E6 := E5.trans (q_As_append_I_33 (h := sI h2 d2 ((T.length : Int) + 1 + (-1)).toNat (48 + v)) (x1 := v) (x2 := (T.length : Int)) (x3 := (T.length : Int) + 1) S2.2.2.2.1 nb2)
  rw [show ((T.length : Int) + 1 + (-1)).toNat = T.length from by omega] at E6
  refine ⟨_, d2, ?_, (BD_one S2 (x := 48 + v) (by omega)).2, ⟨F2.1, F2.2.1, fun a ha e1 e2 e3 => ?_⟩⟩
  · refine (q_Sb_append_I S.2.2.2.1 nb).trans ?_
    rw [E6]
    exact q_Sb_append_I_5
  · have q := F2.1
    exact Gs_t (Gs_t (F2.2.2 a ha e1 e2 e1) (Gs_sI _ _ _ (by omega))) (Gs_sI _ 3 _ e1)
/-- out of the contracts of a new builder -/
theorem BD_of {h0 : zH} (S : SB C h0 h T) : ∃ d, BD C (hN h0) h T d := by
  obtain ⟨d, b0, b1, b2, tb, rb, cb, kb, td, l0, l1, ct, us, nn, fr⟩ := S
  exact ⟨d, b0, b1, b2, tb, rb, cb, kb, td, l0, l1, ct⟩
theorem SB_room {h0 : zH} (S : SB C h0 h T) (hC : C ≤ 900) : Gf h0 h ∧ hN h0 ≤ hN h ∧ hN h ≤ hN h0 + 9 ∧ hU h ≤ hU h0 + 4 + 2 * (2 * C + 36) := by
  obtain ⟨d, b0, b1, b2, tb, rb, cb, kb, td, l0, l1, ct, us, ⟨n2, n3⟩, fr⟩ := S
  have k6 : hN h ≤ hN h0 + 8 := by
    by_cases k : hN h - (hN h0 + 2) < 7
    · omega
    · have := Nat.pow_le_pow_right (n := 2) (by omega) (show 7 ≤ hN h - (hN h0 + 2) by omega)
      omega
  exact ⟨fr, by omega, by omega, by omega⟩
theorem x_toStr (hC : C ≤ 900) (S : BD C b h T d) (hz : hN h + 2 < zVB) : ∃ h2, zC 204 [zR (some b)] h = some (.inl (some (zR (some (hN h)))), h2) ∧ TXm h2 (hN h) T ∧ Gf h h2 ∧ hN h2 = hN h + 2 ∧ hU h2 ≤ hU h + 2000 ∧ ∀ v, hR h2 (hN h) 0 = some v → hN h ≤ v := by
  obtain ⟨b0, b1, b2, tb, rb, cb, kb, td, l0, l1, ct⟩ := S
  have nb : b < hN h := by omega
  have es : b ≠ hN h := by omega
  have ed : d ≠ hN h := by omega
  have gb := Gs_new h 13 4 es
  have gdd := Gs_new h 13 4 ed
  have tb2 : hT (hNew h 13 4) b = 12 := gb.1.trans tb
  have nb2 : b < hN (hNew h 13 4) := Nat.lt_succ_of_lt nb
  have rb2 : hR (hNew h 13 4) b 0 = some d := (congrFun gb.2.2.1 0).trans rb
  have ts2 : hT (hNew h 13 4) (hN h) = 13 := zu1_b _ _ _
  have ns2 : hN h < hN (hNew h 13 4) := Nat.lt_succ_self _
  have td2 : hT (hNew h 13 4) d = 21 := gdd.1.trans td
  have E := q_Sb_toString (h := h) (a0 := b)
  have F := q_St_init_AbstVoid (h := hNew h 13 4) (a0 := hN h) (a1 := b) tb2 nb2
  rw [q_As_getValue tb2 nb2 rb2] at F
  have F2 := F.trans (q_St_init_AbstVoid_8 (a0 := hN h) (a1 := b) (y0 := d) tb2 nb2)
  have K : zC 205 [zR (some b)] (hNew h 13 4) = some (.inl (some (zI (T.length : Int))), hNew h 13 4) := by
    refine (q_Sb_length tb2 nb2).trans ?_
    rw [q_As_length tb2 nb2, gb.2.2.2.1, kb]
    exact q_Sb_length_4
  rw [K] at F2
  have F3 := F2.trans (q_St_init_AbstVoid_13 (a0 := hN h) (a1 := b) (a3 := d) (y0 := (T.length : Int)) tb2 nb2)
  have K2 : zC 241 [zR (some b)] (hNew h 13 4) = some (.inl (some (zI 1)), hNew h 13 4) := by
    have E := q_As_isLatin1 tb2 nb2
    rw [gb.2.2.2.1, cb, if_pos rfl] at E
    exact E.trans q_As_isLatin1_13
  rw [K2] at F3
  have F4 := F3.trans (q_St_init_AbstVoid_19 (a0 := hN h) (a1 := b) (a3 := d) (x4 := (T.length : Int)) (y0 := 1))
  rw [if_neg (by decide)] at F4
  have F5 := F4.trans (q_St_init_AbstVoid_22 (a0 := hN h) (a1 := b) (a3 := d) (x4 := (T.length : Int)) ts2 ns2)
  have ld : hL (sI (hNew h 13 4) (hN h) 1 0) d = hL h d := gdd.2.1
  obtain ⟨g, G, gn, gu, gt, gl, gc, gs⟩ := c_copy (h := sI (hNew h 13 4) (hN h) 1 0) (d := d) (n := T.length) td2 (Nat.lt_succ_of_lt b1) (by rw [ld]; exact l0) (by rw [ld]; omega)
  rw [G] at F5
  have gN : hN (sI (hNew h 13 4) (hN h) 1 0) = hN h + 1 := rfl
  have gU : hU (sI (hNew h 13 4) (hN h) 1 0) = hU h + 4 := rfl
  rw [gN] at F5 gn gt gl gc gs
  rw [gU] at gu
  have ts3 : hT g (hN h) = 13 := (gs _ (by omega)).1.trans ts2
  have F6 := F5.trans (q_St_init_AbstVoid_35 (a0 := hN h) (a1 := b) (a3 := d) (x4 := (T.length : Int)) (y0 := hN h) (y1 := hN h + 1) ts3 (by omega))
  have I := q_St_init_Stri (h := hNew h 13 4) (a0 := hN h) (a1 := b) ts2 ns2
  rw [F6] at I
  rw [I.trans q_St_init_Stri_6] at E
  have E2 := E.trans q_Sb_toString_8
  refine ⟨_, E2, ⟨ts3, ?_, ?_, hN h + 1, zup_s _ _ _ _, gt, ?_, gl, ?_⟩, ?_, ?_, ?_, fun v e => ?_⟩
  · show hN h < hN g; omega
  · show hI g (hN h) 1 = 0
    rw [(gs (hN h) (by omega)).2.2.2.1]
    exact zup_s _ _ _ _
  · show hN h + 1 < hN g; omega
  · intro i hi
    show hI g (hN h + 1) i = tg T i
    rw [gc i hi]
    show zup (hI (hNew h 13 4)) (hN h) 1 0 d i = tg T i
    rw [zup_a _ _ _ ed, gdd.2.2.2.1, ct i hi]
  · exact Gf_s (Gf_s (Gf_s (Gf_s (Gf_r h) fun a ha => Gs_new h 13 4 (by omega)) fun a ha => Gs_sI _ 1 0 (by omega)) fun a ha => gs a (by omega)) fun a ha => Gs_sR _ 0 _ (by omega)
  · show hN g = hN h + 2; omega
  · show hU g ≤ hU h + 2000; omega
  · have e : some (hN h + 1) = some v := (zup_s _ _ _ _).symm.trans e
    have := Option.some.inj e
    omega
end BDS
