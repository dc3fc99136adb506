/-! The law's type, done. -/
section TYQ
variable {h h2 hb : zH} {s a : Nat} {U : List Int} {I : Nat → Int} {m : Int}
theorem c_feedB (K : KC h) (C : CI h I m) (m0 : 0 ≤ m) (m1 : m ≤ 780) (a1 a2 a3 a4 a5 : Int) : ∃ g, zC 158 [zR (some 0), zI a1, zI a2, zI a3, zI a4, zI a5] h = some (.inl (some (zI (m + 20))), g) ∧ KC g ∧ CI g (fd5 a1 a2 a3 a4 a5 (I, m)).1 (m + 20) ∧ Gw Wbd 0 0 h g := by
  have hq := q_B_feed (h := h) (x1 := a1) (x2 := a2) (x3 := a3) (x4 := a4) (x5 := a5) K
  rw [C.1, gd_t (by omega), if_neg (by omega)] at hq
  obtain ⟨g1, e1, i1, F1⟩ := c_append K C m0 (by omega) a1
  have K1 := KC_f K F1 rfl
  obtain ⟨g2, e2, i2, F2⟩ := c_append K1 i1 (by omega) (by omega) a2
  have K2 := KC_f K1 F2 rfl
  obtain ⟨g3, e3, i3, F3⟩ := c_append K2 i2 (by omega) (by omega) a3
  have K3 := KC_f K2 F3 rfl
  obtain ⟨g4, e4, i4, F4⟩ := c_append K3 i3 (by omega) (by omega) a4
  have K4 := KC_f K3 F4 rfl
  obtain ⟨g5, e5, i5, F5⟩ := c_append K4 i4 (by omega) (by omega) a5
  have K5 := KC_f K4 F5 rfl
  have F05 : Fr scrIc h g5 := Fr_t F1 (Fr_t F2 (Fr_t F3 (Fr_t F4 F5)))
  have em : m + 4 + 4 + 4 + 4 + 4 = m + 20 := by omega
  rw [em] at i5
  have i5 : CI g5 (fd5 a1 a2 a3 a4 a5 (I, m)).1 (m + 20) := i5
  rw [e1, q_B_feed_r26 K1, e2, q_B_feed_r31 K2, e3, q_B_feed_r36 K3, e4, q_B_feed_r42 K4, e5, q_B_feed_r48 K5, i5.1] at hq
  exact ⟨g5, hq, K5, i5, Gw_lt F05 rfl⟩
theorem KC_a (K : KC h) (ha : 163 ≤ a) (n : hN h2 = hN h) (u : hU h2 = hU h) (T : hT h2 a = hT h a) (L : hL h2 a = hL h a) (F : ∀ b, b ≠ a → Gs h h2 b) : KC h2 ∧ Gw (fun b _ => b = a) 0 0 h h2 := by
  have G : Gw (fun b _ => b = a) 0 0 h h2 := ⟨⟨by omega, by omega, by omega⟩, fun b _ => by
    by_cases c : b = a
    · subst c; exact ⟨T, L⟩
    · exact ⟨(F b c).1, (F b c).2.1⟩, fun b k _ w => by
    have f := F b w
    exact ⟨congrFun f.2.2.1 k, congrFun f.2.2.2.1 k, congrFun f.2.2.2.2.1 k, congrFun f.2.2.2.2.2.1 k, congrFun f.2.2.2.2.2.2 k⟩⟩
  exact ⟨KC_g K G (fun b k hb _ e => by omega), G⟩
/-- what the loop keeps: the class's permanents, its input as far as typed; all else as over hb -/
def TY (hb : zH) (U : List Int) (a : Nat) (h : zH) (k : Nat) (I : Nat → Int) : Prop := KC h ∧ CI h I (k : Int) ∧ Gw Wbd 1 5 hb h ∧ hT h a = 22 ∧ hL h a = 5 ∧ a < hN h ∧ ∀ i, i < k → I i = pcd U i
theorem Wbd_10 {b k : Nat} (w : Wbd b k) : b < 10 := Wbd_lt w
theorem TY_X (T0 : TXa hb s U) (ea : a = hN hb) (na : a < zVB) {k : Nat} (Y : TY hb U a h k I) (ta : hT hb a = 22) : TXa h s U := by
  obtain ⟨y1, y2, y3, y4⟩ := Y
  refine TXa_p T0 ta na ⟨y3.1.1, fun b b0 e hb' => ?_⟩
  have w : ∀ k, ¬ Wbd b k := fun k w => by have := Wbd_10 w; omega
  exact ⟨gT y3 hb', gL y3 hb', grR y3 hb' w, grI y3 hb' w, grJ y3 hb' w, funext fun k => (y3.2.2 b k hb' (w k)).2.2.2.1, funext fun k => (y3.2.2 b k hb' (w k)).2.2.2.2⟩
theorem ty_out (X : ∀ g, Gw Wbd 1 5 hb g → TXa g s U) (A : ascL U) (ea : a = hN hb) (a0 : 163 ≤ a) (na : a < zVB) (l : U.length ≤ 780) : ∀ (t k : Nat) (h : zH) (I : Nat → Int) (x2 : Int), U.length ≤ k + 20 * t → k < U.length + 20 → TY hb U a h k I → ∃ g I2 k2, zY 209 9 [some (zR (some 0)), some (zR (some s)), some (zI x2), some (zR (some a)), some (zI (k : Int)), none] [] h = some (.inl (some (zI (U.length : Int))), g) ∧ TY hb U a g k2 I2 ∧ U.length ≤ k2 ∧ k2 < U.length + 20
  | t, k, h, I, x2, e, e2, Y => by
    have Xh := X h Y.2.2.1
    have B := (q_L_type_9 (h := h) (a0 := 0) (a1 := s) (a3 := a) (x2 := x2) (x4 := (k : Int))).trans (tx_len (S := [zI (k : Int)]) Xh (by omega) ⟨rfl, Nat.le_of_ble_eq_true rfl, rfl⟩ ⟨rfl, Nat.le_of_ble_eq_true rfl, rfl, Nat.le_of_ble_eq_true rfl⟩)
    have B := B.trans q_L_type_15
    by_cases c : k < U.length
    · match t, e with
      | 0, e => exact absurd c (by omega)
      | t + 1, e =>
        rw [if_pos (by omega)] at B
        obtain ⟨y1, y2, y3, y4, y5, y6, y7⟩ := Y
        obtain ⟨h3, E3, V⟩ := ty_in (x2 := x2) (k := k) Xh A y4 y6 na y5 l (by omega) 20 0 h (by omega) (VI_0 U a k h)
        have B := (B.trans q_L_type_18).trans E3
        have B := B.trans q_L_type_21
        rw [if_neg (by omega)] at B
        obtain ⟨v1, v2, v3, v4, v5, v6⟩ := V
        have B := B.trans (q_L_type_76 (v4.trans y4) (PTC (KC_a y1 a0 v1 v2 v4 v5 v3).1 0 11 rfl rfl) (PNC (KC_a y1 a0 v1 v2 v4 v5 v3).1 0 rfl))
        have l5 : hL h3 a = 5 := v5.trans y5
        rw [l5, gd_t (by decide), gd_t (by decide), gd_t (by decide), gd_t (by decide), gd_t (by decide)] at B
        obtain ⟨K3, G3⟩ := KC_a y1 a0 v1 v2 v4 v5 v3
        have C3 : CI h3 I (k : Int) := by
          refine ⟨(congrFun (v3 0 (by omega)).2.2.2.1 1).trans y2.1, fun i hi => (congrFun (v3 1 (by omega)).2.2.2.1 i).trans (y2.2 i hi)⟩
        rw [v6 0 (by decide), v6 1 (by decide), v6 2 (by decide), v6 3 (by decide), v6 4 (by decide)] at B
        obtain ⟨g, Eg, Kg, Ig, Gg⟩ := c_feedB K3 C3 (by omega) (by omega) (pkn (hI h a 0) (fun i => pcd U (k + (4 * 0 + i))) (min 4 (20 - 4 * 0))) (pkn (hI h a 1) (fun i => pcd U (k + (4 * 1 + i))) (min 4 (20 - 4 * 1))) (pkn (hI h a 2) (fun i => pcd U (k + (4 * 2 + i))) (min 4 (20 - 4 * 2))) (pkn (hI h a 3) (fun i => pcd U (k + (4 * 3 + i))) (min 4 (20 - 4 * 3))) (pkn (hI h a 4) (fun i => pcd U (k + (4 * 4 + i))) (min 4 (20 - 4 * 4)))
        rw [Eg] at B
        have B := B.trans (q_L_type_95 (y0 := (k : Int) + 20))
        rw [gd_t (show inR ((k : Int) + 20) by omega)] at B
        have J : (fd5 (pkn (hI h a 0) (fun i => pcd U (k + (4 * 0 + i))) (min 4 (20 - 4 * 0))) (pkn (hI h a 1) (fun i => pcd U (k + (4 * 1 + i))) (min 4 (20 - 4 * 1))) (pkn (hI h a 2) (fun i => pcd U (k + (4 * 2 + i))) (min 4 (20 - 4 * 2))) (pkn (hI h a 3) (fun i => pcd U (k + (4 * 3 + i))) (min 4 (20 - 4 * 3))) (pkn (hI h a 4) (fun i => pcd U (k + (4 * 4 + i))) (min 4 (20 - 4 * 4))) (I, (k : Int))).1 = fun i => if k ≤ i ∧ i < k + 20 then pcd U i else I i := by
          have q := fd5_e (x0 := hI h a 0) (x1 := hI h a 1) (x2 := hI h a 2) (x3 := hI h a 3) (x4 := hI h a 4) (f := fun i => pcd U (k + i)) (fun i => pcd_a A (k + i)) I k
          refine Eq.trans ?_ (q.trans ?_)
          · simp only [Nat.mul_zero, Nat.zero_add, Nat.mul_one]
            rfl
          · funext i
            by_cases c : k ≤ i ∧ i < k + 20
            · rw [if_pos c, if_pos c, show k + (i - k) = i from by omega]
            · rw [if_neg c, if_neg c]
        rw [J] at Ig
        have GB : Gw Wbd 1 5 hb g := by
          have G1 : Gw Wbd 1 5 hb h3 := Gw_t (d2 := 0) (e2 := 0) y3 G3 (fun b j hb' e => by omega)
          exact Gw_t (d2 := 0) (e2 := 0) G1 Gg (fun b j _ w => w)
        have na3 : a < hN h3 := by omega
        have Yg : TY hb U a g (k + 20) (fun i => if k ≤ i ∧ i < k + 20 then pcd U i else I i) := by
          refine ⟨Kg, ?_, GB, (gT Gg (Or.inl na3)).trans (v4.trans y4), (gL Gg (Or.inl na3)).trans l5, by have := Gg.1.1; omega, fun i hi => ?_⟩
          · rw [show (((k + 20 : Nat)) : Int) = (k : Int) + 20 from by omega]; exact Ig
          · show (if k ≤ i ∧ i < k + 20 then pcd U i else I i) = pcd U i
            by_cases c : k ≤ i ∧ i < k + 20
            · rw [if_pos c]
            · rw [if_neg c, y7 i (by omega)]
        obtain ⟨g2, I2, k2, E2, Y2, l2, l3⟩ := ty_out X A ea a0 na l t (k + 20) g _ ((k : Int) + 20) (by omega) (by omega) Yg
        refine ⟨g2, I2, k2, B.trans ?_, Y2, l2, l3⟩
        exact zY_le (by exact ⟨rfl, rfl, rfl, rfl, rfl, trivial⟩) E2
    · rw [if_neg (by omega)] at B
      have B := B.trans q_L_type_102
      have B := B.trans (tx_len (S := []) Xh (by omega) ⟨rfl, Nat.le_of_ble_eq_true rfl, rfl⟩ ⟨rfl, Nat.le_of_ble_eq_true rfl, rfl, Nat.le_of_ble_eq_true rfl⟩)
      exact ⟨h, I, k, B.trans q_L_type_106, Y, by omega, e2⟩
end TYQ
