/-! The law: calls wrapped. -/
section LAWW
variable {h h2 : zH} {p v : Nat} {W : Nat → Nat → Prop} {d e : Nat} {A : FA}
theorem CJ_K {σ : MSt} (J : CJ h p v σ) : KC h := by
  obtain ⟨n, top, R, N, c, Ol, s0, s1, I, m, O, ec, ep⟩ := σ
  exact CA_K J.1
/-- the law's own rows -/
def OC (h : zH) : Prop := (hT h 197 = 23 ∧ hL h 197 = 1) ∧ (hT h 198 = 24 ∧ hL h 198 = 1) ∧ 199 ≤ hN h
def STP (h h2 : zH) : Prop := (hN h ≤ hN h2 ∧ hN h2 ≤ hN h + 200 ∧ hU h2 + 16 * hN h ≤ hU h + 16 * hN h2 + 4000) ∧ (∀ a, (a = 197 ∨ a = 198 ∨ zVB ≤ a) → hT h2 a = hT h a ∧ hL h2 a = hL h a) ∧ hI h2 zVB = hI h zVB
theorem STP_g (k : OC h) (G : Gw Wc 200 4000 h h2) : STP h h2 := by
  obtain ⟨_, _, k3⟩ := k
  refine ⟨⟨G.1.1, G.1.2.1, G.1.2.2⟩, fun a ha => G.2.1 a (by omega), grI G (Or.inr (Nat.le_refl _)) (fun k w => ?_)⟩
  unfold Wc at w
  have z9 : zVB = 10000000 := rfl
  omega
theorem STP_f (S : STP h h2) {h3 : zH} (F : Fr A h2 h3) (a : (A.all fun x => Nat.blt x.1 9000000) = true) : STP h h3 := by
  obtain ⟨⟨s1, s2, s3⟩, s4, s5⟩ := S
  have r : rowA A zVB = true := List.all_eq_true.2 (fun x hx => by
    have : x.1 < 9000000 := Nat.le_of_ble_eq_true (List.all_eq_true.1 a x hx)
    cases hb : Nat.beq x.1 zVB with
    | false => rfl
    | true => exact absurd (Nat.eq_of_beq_eq_true hb) (by show ¬ x.1 = 10000000; omega))
  refine ⟨⟨by rw [F.1]; exact s1, by rw [F.1]; exact s2, by rw [F.1, F.2.1]; exact s3⟩, fun a ha => ⟨(congrFun F.2.2.1 a).trans (s4 a ha).1, (congrFun F.2.2.2.1 a).trans (s4 a ha).2⟩, (rI F zVB r).trans s5⟩
theorem OC_s (k : OC h) (S : STP h h2) : OC h2 := by
  obtain ⟨⟨a, b⟩, ⟨x, y⟩, n⟩ := k
  have t7 := S.2.1 197 (Or.inl rfl)
  have t8 := S.2.1 198 (Or.inr (Or.inl rfl))
  exact ⟨⟨t7.1.trans a, t7.2.trans b⟩, ⟨t8.1.trans x, t8.2.trans y⟩, Nat.le_trans n S.1.1⟩
/-- what the law finds in its rows -/
def outs (h : zH) (v : zV) : Prop := match v with
  | .inl y => hJ h 197 0 = zi2l y
  | .inr (.inl y) => hJ h 197 0 = y
  | .inr (.inr (.inl y)) => hD h 198 0 = FP.f2d y
  | _ => True
/-- a wrapped call answers its code; what it stores; what stands then -/
def WRL (h : zH) (q : Nat) (as : List zV) (r : (Int × zV) × MSt) : Prop := ∃ h2 p v, zC q as h = some (.inl (some (zI r.1.1)), h2) ∧ CJ h2 p v r.2 ∧ (r.1.1 = 0 → outs h2 r.1.2) ∧ (∀ σ, MM h σ → MM h2 σ) ∧ STP h h2
theorem hJ_s (h : zH) (a k : Nat) (x : BitVec 64) : hJ (sJ h a k x) a k = x := zup_s _ _ _ _
theorem hD_s (h : zH) (a k : Nat) (x : UInt64) : hD (sD h a k x) a k = x := zup_s _ _ _ _

theorem wr_350 {x1 x2 x3 x4 x5 : Int} {r : (Int × zV) × MSt} (K : KC h) (ok : OC h) (C : CC h 158 [zI x1, zI x2, zI x3, zI x4, zI x5] (t3 1 0 0) r) (T : tyI 1 r.1) : WRL h 350 [zR (some 0), zI x1, zI x2, zI x3, zI x4, zI x5, zR (some 197)] r := by
  obtain ⟨h1, p, v, e, J, G⟩ := C
  have K1 := CJ_K J
  have S1 := STP_g ok G
  have ok1 := OC_s ok S1
  have ta := ok.1.1
  have na : 197 < hN h := Nat.lt_of_lt_of_le (by decide) ok.2.2
  have ta1 := ok1.1.1
  have la1 := ok1.1.2
  have na1 : 197 < hN h1 := Nat.lt_of_lt_of_le (by decide) ok1.2.2
  by_cases k0 : r.1.1 = 0
  · rw [if_pos k0] at e
    obtain ⟨⟨y, hy⟩, _⟩ := T
    rw [hy] at e
    have F : Fr [(197, some 0)] h1 (sJ h1 197 0 (zi2l y)) := Fr_J (Fr_r _ _) rfl
    refine ⟨sJ h1 197 0 (zi2l y), p, v, ?_, CJ_f J F rfl, fun _ => ?_, fun σ M => MM_f (MM_g M G cl_c) F rfl, STP_f S1 F rfl⟩
    · rw [q_L_feed K ta na, e, q_L_feed_r14 K1 ta1 na1 ta1 na1, gd_t (by rw [la1]; decide), k0]
      rfl
    · rw [hy]
      exact hJ_s _ _ _ _
  · rw [if_neg k0] at e
    have cod : r.1.1 = 1 := by have := T.2; omega
    have k1 := cod
    rw [k1] at e
    have e : zC 158 (zR (some 0) :: [zI x1, zI x2, zI x3, zI x4, zI x5]) h = some (.inr 1, h1) := e
    refine ⟨h1, p, v, ?_, J, fun z => absurd z k0, fun σ M => MM_g M G cl_c, S1⟩
    rw [q_L_feed K ta na, e, q_L_feed_x1 K1 ta1 na1 ta1 na1, k1]

theorem wr_351 {x1 : Int} {r : (Int × zV) × MSt} (K : KC h) (ok : OC h) (C : CC h 160 [zI x1] (t3 0 1 0) r) (T : tyI 2 r.1) : WRL h 351 [zR (some 0), zI x1, zR (some 197)] r := by
  obtain ⟨h1, p, v, e, J, G⟩ := C
  have K1 := CJ_K J
  have S1 := STP_g ok G
  have ok1 := OC_s ok S1
  have ta := ok.1.1
  have na : 197 < hN h := Nat.lt_of_lt_of_le (by decide) ok.2.2
  have ta1 := ok1.1.1
  have la1 := ok1.1.2
  have na1 : 197 < hN h1 := Nat.lt_of_lt_of_le (by decide) ok1.2.2
  by_cases k0 : r.1.1 = 0
  · rw [if_pos k0] at e
    obtain ⟨⟨y, hy⟩, _⟩ := T
    rw [hy] at e
    have F : Fr [(197, some 0)] h1 (sJ h1 197 0 (zi2l y)) := Fr_J (Fr_r _ _) rfl
    refine ⟨sJ h1 197 0 (zi2l y), p, v, ?_, CJ_f J F rfl, fun _ => ?_, fun σ M => MM_f (MM_g M G cl_c) F rfl, STP_f S1 F rfl⟩
    · rw [q_L_load K ta na, e, q_L_load_r7 K1 ta1 na1 ta1 na1, gd_t (by rw [la1]; decide), k0]
      rfl
    · rw [hy]
      exact hJ_s _ _ _ _
  · rw [if_neg k0] at e
    have cod : r.1.1 = 1 ∨ r.1.1 = 2 := by have := T.2; omega
    rcases cod with k1 | k2
    · rw [k1] at e
      have e : zC 160 (zR (some 0) :: [zI x1]) h = some (.inr 0, h1) := e
      refine ⟨h1, p, v, ?_, J, fun z => absurd z k0, fun σ M => MM_g M G cl_c, S1⟩
      rw [q_L_load K ta na, e, q_L_load_x0 K1 ta1 na1 ta1 na1, k1]
    · rw [k2] at e
      have e : zC 160 (zR (some 0) :: [zI x1]) h = some (.inr 1, h1) := e
      refine ⟨h1, p, v, ?_, J, fun z => absurd z k0, fun σ M => MM_g M G cl_c, S1⟩
      rw [q_L_load K ta na, e, q_L_load_x1 K1 ta1 na1 ta1 na1, k2]

theorem wr_352 {x1 : Int} {r : (Int × zV) × MSt} (K : KC h) (ok : OC h) (C : CC h 163 [zI x1] (t3 0 0 0) r) (T : tyI 1 r.1) : WRL h 352 [zR (some 0), zI x1, zR (some 197)] r := by
  obtain ⟨h1, p, v, e, J, G⟩ := C
  have K1 := CJ_K J
  have S1 := STP_g ok G
  have ok1 := OC_s ok S1
  have ta := ok.1.1
  have na : 197 < hN h := Nat.lt_of_lt_of_le (by decide) ok.2.2
  have ta1 := ok1.1.1
  have la1 := ok1.1.2
  have na1 : 197 < hN h1 := Nat.lt_of_lt_of_le (by decide) ok1.2.2
  by_cases k0 : r.1.1 = 0
  · rw [if_pos k0] at e
    obtain ⟨⟨y, hy⟩, _⟩ := T
    rw [hy] at e
    have F : Fr [(197, some 0)] h1 (sJ h1 197 0 (zi2l y)) := Fr_J (Fr_r _ _) rfl
    refine ⟨sJ h1 197 0 (zi2l y), p, v, ?_, CJ_f J F rfl, fun _ => ?_, fun σ M => MM_f (MM_g M G cl_c) F rfl, STP_f S1 F rfl⟩
    · rw [q_L_value K ta na, e, q_L_value_r7 K1 ta1 na1 ta1 na1, gd_t (by rw [la1]; decide), k0]
      rfl
    · rw [hy]
      exact hJ_s _ _ _ _
  · rw [if_neg k0] at e
    have cod : r.1.1 = 1 := by have := T.2; omega
    have k1 := cod
    rw [k1] at e
    have e : zC 163 (zR (some 0) :: [zI x1]) h = some (.inr 0, h1) := e
    refine ⟨h1, p, v, ?_, J, fun z => absurd z k0, fun σ M => MM_g M G cl_c, S1⟩
    rw [q_L_value K ta na, e, q_L_value_x0 K1 ta1 na1 ta1 na1, k1]

theorem wr_353 {x1 x2 : Int} {r : (Int × zV) × MSt} (K : KC h) (ok : OC h) (C : CC h 164 [zI x1, zI x2] (t3 3 0 0) r) (T : tyI 2 r.1) : WRL h 353 [zR (some 0), zI x1, zI x2, zR (some 197)] r := by
  obtain ⟨h1, p, v, e, J, G⟩ := C
  have K1 := CJ_K J
  have S1 := STP_g ok G
  have ok1 := OC_s ok S1
  have ta := ok.1.1
  have na : 197 < hN h := Nat.lt_of_lt_of_le (by decide) ok.2.2
  have ta1 := ok1.1.1
  have la1 := ok1.1.2
  have na1 : 197 < hN h1 := Nat.lt_of_lt_of_le (by decide) ok1.2.2
  by_cases k0 : r.1.1 = 0
  · rw [if_pos k0] at e
    obtain ⟨⟨y, hy⟩, _⟩ := T
    rw [hy] at e
    have F : Fr [(197, some 0)] h1 (sJ h1 197 0 (zi2l y)) := Fr_J (Fr_r _ _) rfl
    refine ⟨sJ h1 197 0 (zi2l y), p, v, ?_, CJ_f J F rfl, fun _ => ?_, fun σ M => MM_f (MM_g M G cl_c) F rfl, STP_f S1 F rfl⟩
    · rw [q_L_statement K ta na, e, q_L_statement_r8 K1 ta1 na1 ta1 na1, gd_t (by rw [la1]; decide), k0]
      rfl
    · rw [hy]
      exact hJ_s _ _ _ _
  · rw [if_neg k0] at e
    have cod : r.1.1 = 1 ∨ r.1.1 = 2 := by have := T.2; omega
    rcases cod with k1 | k2
    · rw [k1] at e
      have e : zC 164 (zR (some 0) :: [zI x1, zI x2]) h = some (.inr 3, h1) := e
      refine ⟨h1, p, v, ?_, J, fun z => absurd z k0, fun σ M => MM_g M G cl_c, S1⟩
      rw [q_L_statement K ta na, e, q_L_statement_x3 K1 ta1 na1 ta1 na1, k1]
    · rw [k2] at e
      have e : zC 164 (zR (some 0) :: [zI x1, zI x2]) h = some (.inr 0, h1) := e
      refine ⟨h1, p, v, ?_, J, fun z => absurd z k0, fun σ M => MM_g M G cl_c, S1⟩
      rw [q_L_statement K ta na, e, q_L_statement_x0 K1 ta1 na1 ta1 na1, k2]

theorem wr_354 {x1 x2 : Int} {r : (Int × zV) × MSt} (K : KC h) (ok : OC h) (C : CC h 167 [zI x1, zI x2] (t3 3 0 0) r) (T : tyJ 2 r.1) : WRL h 354 [zR (some 0), zI x1, zI x2, zR (some 197)] r := by
  obtain ⟨h1, p, v, e, J, G⟩ := C
  have K1 := CJ_K J
  have S1 := STP_g ok G
  have ok1 := OC_s ok S1
  have ta := ok.1.1
  have na : 197 < hN h := Nat.lt_of_lt_of_le (by decide) ok.2.2
  have ta1 := ok1.1.1
  have la1 := ok1.1.2
  have na1 : 197 < hN h1 := Nat.lt_of_lt_of_le (by decide) ok1.2.2
  by_cases k0 : r.1.1 = 0
  · rw [if_pos k0] at e
    obtain ⟨⟨y, hy⟩, _⟩ := T
    rw [hy] at e
    have F : Fr [(197, some 0)] h1 (sJ h1 197 0 y) := Fr_J (Fr_r _ _) rfl
    refine ⟨sJ h1 197 0 y, p, v, ?_, CJ_f J F rfl, fun _ => ?_, fun σ M => MM_f (MM_g M G cl_c) F rfl, STP_f S1 F rfl⟩
    · rw [q_L_loopSet K ta na, e, q_L_loopSet_r8 K1 ta1 na1 ta1 na1, gd_t (by rw [la1]; decide), k0]
      rfl
    · rw [hy]
      exact hJ_s _ _ _ _
  · rw [if_neg k0] at e
    have cod : r.1.1 = 1 ∨ r.1.1 = 2 := by have := T.2; omega
    rcases cod with k1 | k2
    · rw [k1] at e
      have e : zC 167 (zR (some 0) :: [zI x1, zI x2]) h = some (.inr 3, h1) := e
      refine ⟨h1, p, v, ?_, J, fun z => absurd z k0, fun σ M => MM_g M G cl_c, S1⟩
      rw [q_L_loopSet K ta na, e, q_L_loopSet_x3 K1 ta1 na1 ta1 na1, k1]
    · rw [k2] at e
      have e : zC 167 (zR (some 0) :: [zI x1, zI x2]) h = some (.inr 0, h1) := e
      refine ⟨h1, p, v, ?_, J, fun z => absurd z k0, fun σ M => MM_g M G cl_c, S1⟩
      rw [q_L_loopSet K ta na, e, q_L_loopSet_x0 K1 ta1 na1 ta1 na1, k2]

theorem wr_355 {x1 x2 : Int} {r : (Int × zV) × MSt} (K : KC h) (ok : OC h) (C : CC h 169 [zI x1, zI x2] (t3 3 0 0) r) (T : tyI 2 r.1) : WRL h 355 [zR (some 0), zI x1, zI x2, zR (some 197)] r := by
  obtain ⟨h1, p, v, e, J, G⟩ := C
  have K1 := CJ_K J
  have S1 := STP_g ok G
  have ok1 := OC_s ok S1
  have ta := ok.1.1
  have na : 197 < hN h := Nat.lt_of_lt_of_le (by decide) ok.2.2
  have ta1 := ok1.1.1
  have la1 := ok1.1.2
  have na1 : 197 < hN h1 := Nat.lt_of_lt_of_le (by decide) ok1.2.2
  by_cases k0 : r.1.1 = 0
  · rw [if_pos k0] at e
    obtain ⟨⟨y, hy⟩, _⟩ := T
    rw [hy] at e
    have F : Fr [(197, some 0)] h1 (sJ h1 197 0 (zi2l y)) := Fr_J (Fr_r _ _) rfl
    refine ⟨sJ h1 197 0 (zi2l y), p, v, ?_, CJ_f J F rfl, fun _ => ?_, fun σ M => MM_f (MM_g M G cl_c) F rfl, STP_f S1 F rfl⟩
    · rw [q_L_less K ta na, e, q_L_less_r8 K1 ta1 na1 ta1 na1, gd_t (by rw [la1]; decide), k0]
      rfl
    · rw [hy]
      exact hJ_s _ _ _ _
  · rw [if_neg k0] at e
    have cod : r.1.1 = 1 ∨ r.1.1 = 2 := by have := T.2; omega
    rcases cod with k1 | k2
    · rw [k1] at e
      have e : zC 169 (zR (some 0) :: [zI x1, zI x2]) h = some (.inr 3, h1) := e
      refine ⟨h1, p, v, ?_, J, fun z => absurd z k0, fun σ M => MM_g M G cl_c, S1⟩
      rw [q_L_less K ta na, e, q_L_less_x3 K1 ta1 na1 ta1 na1, k1]
    · rw [k2] at e
      have e : zC 169 (zR (some 0) :: [zI x1, zI x2]) h = some (.inr 0, h1) := e
      refine ⟨h1, p, v, ?_, J, fun z => absurd z k0, fun σ M => MM_g M G cl_c, S1⟩
      rw [q_L_less K ta na, e, q_L_less_x0 K1 ta1 na1 ta1 na1, k2]

theorem wr_356 {x1 : Int} {r : (Int × zV) × MSt} (K : KC h) (ok : OC h) (C : CC h 171 [zI x1] (t3 3 0 0) r) (T : tyJ 1 r.1) : WRL h 356 [zR (some 0), zI x1, zR (some 197)] r := by
  obtain ⟨h1, p, v, e, J, G⟩ := C
  have K1 := CJ_K J
  have S1 := STP_g ok G
  have ok1 := OC_s ok S1
  have ta := ok.1.1
  have na : 197 < hN h := Nat.lt_of_lt_of_le (by decide) ok.2.2
  have ta1 := ok1.1.1
  have la1 := ok1.1.2
  have na1 : 197 < hN h1 := Nat.lt_of_lt_of_le (by decide) ok1.2.2
  by_cases k0 : r.1.1 = 0
  · rw [if_pos k0] at e
    obtain ⟨⟨y, hy⟩, _⟩ := T
    rw [hy] at e
    have F : Fr [(197, some 0)] h1 (sJ h1 197 0 y) := Fr_J (Fr_r _ _) rfl
    refine ⟨sJ h1 197 0 y, p, v, ?_, CJ_f J F rfl, fun _ => ?_, fun σ M => MM_f (MM_g M G cl_c) F rfl, STP_f S1 F rfl⟩
    · rw [q_L_need K ta na, e, q_L_need_r7 K1 ta1 na1 ta1 na1, gd_t (by rw [la1]; decide), k0]
      rfl
    · rw [hy]
      exact hJ_s _ _ _ _
  · rw [if_neg k0] at e
    have cod : r.1.1 = 1 := by have := T.2; omega
    have k1 := cod
    rw [k1] at e
    have e : zC 171 (zR (some 0) :: [zI x1]) h = some (.inr 3, h1) := e
    refine ⟨h1, p, v, ?_, J, fun z => absurd z k0, fun σ M => MM_g M G cl_c, S1⟩
    rw [q_L_need K ta na, e, q_L_need_x3 K1 ta1 na1 ta1 na1, k1]

theorem wr_357 {x1 x2 : Int} {r : (Int × zV) × MSt} (K : KC h) (ok : OC h) (C : CC h 172 [zI x1, zI x2] (t3 3 0 0) r) (T : tyI 2 r.1) : WRL h 357 [zR (some 0), zI x1, zI x2, zR (some 197)] r := by
  obtain ⟨h1, p, v, e, J, G⟩ := C
  have K1 := CJ_K J
  have S1 := STP_g ok G
  have ok1 := OC_s ok S1
  have ta := ok.1.1
  have na : 197 < hN h := Nat.lt_of_lt_of_le (by decide) ok.2.2
  have ta1 := ok1.1.1
  have la1 := ok1.1.2
  have na1 : 197 < hN h1 := Nat.lt_of_lt_of_le (by decide) ok1.2.2
  by_cases k0 : r.1.1 = 0
  · rw [if_pos k0] at e
    obtain ⟨⟨y, hy⟩, _⟩ := T
    rw [hy] at e
    have F : Fr [(197, some 0)] h1 (sJ h1 197 0 (zi2l y)) := Fr_J (Fr_r _ _) rfl
    refine ⟨sJ h1 197 0 (zi2l y), p, v, ?_, CJ_f J F rfl, fun _ => ?_, fun σ M => MM_f (MM_g M G cl_c) F rfl, STP_f S1 F rfl⟩
    · rw [q_L_duty K ta na, e, q_L_duty_r8 K1 ta1 na1 ta1 na1, gd_t (by rw [la1]; decide), k0]
      rfl
    · rw [hy]
      exact hJ_s _ _ _ _
  · rw [if_neg k0] at e
    have cod : r.1.1 = 1 ∨ r.1.1 = 2 := by have := T.2; omega
    rcases cod with k1 | k2
    · rw [k1] at e
      have e : zC 172 (zR (some 0) :: [zI x1, zI x2]) h = some (.inr 3, h1) := e
      refine ⟨h1, p, v, ?_, J, fun z => absurd z k0, fun σ M => MM_g M G cl_c, S1⟩
      rw [q_L_duty K ta na, e, q_L_duty_x3 K1 ta1 na1 ta1 na1, k1]
    · rw [k2] at e
      have e : zC 172 (zR (some 0) :: [zI x1, zI x2]) h = some (.inr 0, h1) := e
      refine ⟨h1, p, v, ?_, J, fun z => absurd z k0, fun σ M => MM_g M G cl_c, S1⟩
      rw [q_L_duty K ta na, e, q_L_duty_x0 K1 ta1 na1 ta1 na1, k2]

theorem wr_358 {x1 : Int} {r : (Int × zV) × MSt} (K : KC h) (ok : OC h) (C : CC h 174 [zI x1] (t3 3 0 0) r) (T : tyJ 1 r.1) : WRL h 358 [zR (some 0), zI x1, zR (some 197)] r := by
  obtain ⟨h1, p, v, e, J, G⟩ := C
  have K1 := CJ_K J
  have S1 := STP_g ok G
  have ok1 := OC_s ok S1
  have ta := ok.1.1
  have na : 197 < hN h := Nat.lt_of_lt_of_le (by decide) ok.2.2
  have ta1 := ok1.1.1
  have la1 := ok1.1.2
  have na1 : 197 < hN h1 := Nat.lt_of_lt_of_le (by decide) ok1.2.2
  by_cases k0 : r.1.1 = 0
  · rw [if_pos k0] at e
    obtain ⟨⟨y, hy⟩, _⟩ := T
    rw [hy] at e
    have F : Fr [(197, some 0)] h1 (sJ h1 197 0 y) := Fr_J (Fr_r _ _) rfl
    refine ⟨sJ h1 197 0 y, p, v, ?_, CJ_f J F rfl, fun _ => ?_, fun σ M => MM_f (MM_g M G cl_c) F rfl, STP_f S1 F rfl⟩
    · rw [q_L_failing K ta na, e, q_L_failing_r7 K1 ta1 na1 ta1 na1, gd_t (by rw [la1]; decide), k0]
      rfl
    · rw [hy]
      exact hJ_s _ _ _ _
  · rw [if_neg k0] at e
    have cod : r.1.1 = 1 := by have := T.2; omega
    have k1 := cod
    rw [k1] at e
    have e : zC 174 (zR (some 0) :: [zI x1]) h = some (.inr 3, h1) := e
    refine ⟨h1, p, v, ?_, J, fun z => absurd z k0, fun σ M => MM_g M G cl_c, S1⟩
    rw [q_L_failing K ta na, e, q_L_failing_x3 K1 ta1 na1 ta1 na1, k1]

theorem wr_359 {x1 : Int} {r : (Int × zV) × MSt} (K : KC h) (ok : OC h) (C : CC h 175 [zI x1] (t3 0 0 0) r) (T : tyI 1 r.1) : WRL h 359 [zR (some 0), zI x1, zR (some 197)] r := by
  obtain ⟨h1, p, v, e, J, G⟩ := C
  have K1 := CJ_K J
  have S1 := STP_g ok G
  have ok1 := OC_s ok S1
  have ta := ok.1.1
  have na : 197 < hN h := Nat.lt_of_lt_of_le (by decide) ok.2.2
  have ta1 := ok1.1.1
  have la1 := ok1.1.2
  have na1 : 197 < hN h1 := Nat.lt_of_lt_of_le (by decide) ok1.2.2
  by_cases k0 : r.1.1 = 0
  · rw [if_pos k0] at e
    obtain ⟨⟨y, hy⟩, _⟩ := T
    rw [hy] at e
    have F : Fr [(197, some 0)] h1 (sJ h1 197 0 (zi2l y)) := Fr_J (Fr_r _ _) rfl
    refine ⟨sJ h1 197 0 (zi2l y), p, v, ?_, CJ_f J F rfl, fun _ => ?_, fun σ M => MM_f (MM_g M G cl_c) F rfl, STP_f S1 F rfl⟩
    · rw [q_L_run K ta na, e, q_L_run_r7 K1 ta1 na1 ta1 na1, gd_t (by rw [la1]; decide), k0]
      rfl
    · rw [hy]
      exact hJ_s _ _ _ _
  · rw [if_neg k0] at e
    have cod : r.1.1 = 1 := by have := T.2; omega
    have k1 := cod
    rw [k1] at e
    have e : zC 175 (zR (some 0) :: [zI x1]) h = some (.inr 0, h1) := e
    refine ⟨h1, p, v, ?_, J, fun z => absurd z k0, fun σ M => MM_g M G cl_c, S1⟩
    rw [q_L_run K ta na, e, q_L_run_x0 K1 ta1 na1 ta1 na1, k1]

theorem wr_360 {x1 : Int} {r : (Int × zV) × MSt} (K : KC h) (ok : OC h) (C : CC h 176 [zI x1] (t3 0 0 0) r) (T : tyI 1 r.1) : WRL h 360 [zR (some 0), zI x1, zR (some 197)] r := by
  obtain ⟨h1, p, v, e, J, G⟩ := C
  have K1 := CJ_K J
  have S1 := STP_g ok G
  have ok1 := OC_s ok S1
  have ta := ok.1.1
  have na : 197 < hN h := Nat.lt_of_lt_of_le (by decide) ok.2.2
  have ta1 := ok1.1.1
  have la1 := ok1.1.2
  have na1 : 197 < hN h1 := Nat.lt_of_lt_of_le (by decide) ok1.2.2
  by_cases k0 : r.1.1 = 0
  · rw [if_pos k0] at e
    obtain ⟨⟨y, hy⟩, _⟩ := T
    rw [hy] at e
    have F : Fr [(197, some 0)] h1 (sJ h1 197 0 (zi2l y)) := Fr_J (Fr_r _ _) rfl
    refine ⟨sJ h1 197 0 (zi2l y), p, v, ?_, CJ_f J F rfl, fun _ => ?_, fun σ M => MM_f (MM_g M G cl_c) F rfl, STP_f S1 F rfl⟩
    · rw [q_L_steps K ta na, e, q_L_steps_r7 K1 ta1 na1 ta1 na1, gd_t (by rw [la1]; decide), k0]
      rfl
    · rw [hy]
      exact hJ_s _ _ _ _
  · rw [if_neg k0] at e
    have cod : r.1.1 = 1 := by have := T.2; omega
    have k1 := cod
    rw [k1] at e
    have e : zC 176 (zR (some 0) :: [zI x1]) h = some (.inr 0, h1) := e
    refine ⟨h1, p, v, ?_, J, fun z => absurd z k0, fun σ M => MM_g M G cl_c, S1⟩
    rw [q_L_steps K ta na, e, q_L_steps_x0 K1 ta1 na1 ta1 na1, k1]

theorem wr_361 {x1 : Int} {r : (Int × zV) × MSt} (K : KC h) (ok : OC h) (C : CC h 177 [zI x1] (t3 0 0 0) r) (T : ((∃ y, r.1.2 = zF y ∧ zn64 (FP.f2d y) = true) ∧ 0 ≤ r.1.1 ∧ r.1.1 ≤ 1)) : WRL h 361 [zR (some 0), zI x1, zR (some 198)] r := by
  obtain ⟨h1, p, v, e, J, G⟩ := C
  have K1 := CJ_K J
  have S1 := STP_g ok G
  have ok1 := OC_s ok S1
  have ta := ok.2.1.1
  have na : 198 < hN h := Nat.lt_of_lt_of_le (by decide) ok.2.2
  have ta1 := ok1.2.1.1
  have la1 := ok1.2.1.2
  have na1 : 198 < hN h1 := Nat.lt_of_lt_of_le (by decide) ok1.2.2
  by_cases k0 : r.1.1 = 0
  · rw [if_pos k0] at e
    obtain ⟨⟨y, hy, hy2⟩, _⟩ := T
    rw [hy] at e
    have F : Fr [(198, some 0)] h1 (sD h1 198 0 (FP.f2d y)) := Fr_D (Fr_r _ _) rfl
    refine ⟨sD h1 198 0 (FP.f2d y), p, v, ?_, CJ_f J F rfl, fun _ => ?_, fun σ M => MM_f (MM_g M G cl_c) F rfl, STP_f S1 F rfl⟩
    · rw [q_L_cost K ta na, e, q_L_cost_r7 K1 ta1 na1 ta1 na1, gd_t hy2, gd_t (by rw [la1]; decide), k0]
      rfl
    · rw [hy]
      exact hD_s _ _ _ _
  · rw [if_neg k0] at e
    have cod : r.1.1 = 1 := by have := T.2; omega
    have k1 := cod
    rw [k1] at e
    have e : zC 177 (zR (some 0) :: [zI x1]) h = some (.inr 0, h1) := e
    refine ⟨h1, p, v, ?_, J, fun z => absurd z k0, fun σ M => MM_g M G cl_c, S1⟩
    rw [q_L_cost K ta na, e, q_L_cost_x0 K1 ta1 na1 ta1 na1, k1]

theorem wr_362 {x1 : Int} {r : (Int × zV) × MSt} (K : KC h) (ok : OC h) (C : CC h 178 [zI x1] (t3 0 0 0) r) (T : tyI 1 r.1) : WRL h 362 [zR (some 0), zI x1, zR (some 197)] r := by
  obtain ⟨h1, p, v, e, J, G⟩ := C
  have K1 := CJ_K J
  have S1 := STP_g ok G
  have ok1 := OC_s ok S1
  have ta := ok.1.1
  have na : 197 < hN h := Nat.lt_of_lt_of_le (by decide) ok.2.2
  have ta1 := ok1.1.1
  have la1 := ok1.1.2
  have na1 : 197 < hN h1 := Nat.lt_of_lt_of_le (by decide) ok1.2.2
  by_cases k0 : r.1.1 = 0
  · rw [if_pos k0] at e
    obtain ⟨⟨y, hy⟩, _⟩ := T
    rw [hy] at e
    have F : Fr [(197, some 0)] h1 (sJ h1 197 0 (zi2l y)) := Fr_J (Fr_r _ _) rfl
    refine ⟨sJ h1 197 0 (zi2l y), p, v, ?_, CJ_f J F rfl, fun _ => ?_, fun σ M => MM_f (MM_g M G cl_c) F rfl, STP_f S1 F rfl⟩
    · rw [q_L_costBits K ta na, e, q_L_costBits_r7 K1 ta1 na1 ta1 na1, gd_t (by rw [la1]; decide), k0]
      rfl
    · rw [hy]
      exact hJ_s _ _ _ _
  · rw [if_neg k0] at e
    have cod : r.1.1 = 1 := by have := T.2; omega
    have k1 := cod
    rw [k1] at e
    have e : zC 178 (zR (some 0) :: [zI x1]) h = some (.inr 0, h1) := e
    refine ⟨h1, p, v, ?_, J, fun z => absurd z k0, fun σ M => MM_g M G cl_c, S1⟩
    rw [q_L_costBits K ta na, e, q_L_costBits_x0 K1 ta1 na1 ta1 na1, k1]

theorem wr_363 {x1 : Int} {r : (Int × zV) × MSt} (K : KC h) (ok : OC h) (C : CC h 179 [zI x1] (t3 3 0 0) r) (T : tyJ 1 r.1) : WRL h 363 [zR (some 0), zI x1, zR (some 197)] r := by
  obtain ⟨h1, p, v, e, J, G⟩ := C
  have K1 := CJ_K J
  have S1 := STP_g ok G
  have ok1 := OC_s ok S1
  have ta := ok.1.1
  have na : 197 < hN h := Nat.lt_of_lt_of_le (by decide) ok.2.2
  have ta1 := ok1.1.1
  have la1 := ok1.1.2
  have na1 : 197 < hN h1 := Nat.lt_of_lt_of_le (by decide) ok1.2.2
  by_cases k0 : r.1.1 = 0
  · rw [if_pos k0] at e
    obtain ⟨⟨y, hy⟩, _⟩ := T
    rw [hy] at e
    have F : Fr [(197, some 0)] h1 (sJ h1 197 0 y) := Fr_J (Fr_r _ _) rfl
    refine ⟨sJ h1 197 0 y, p, v, ?_, CJ_f J F rfl, fun _ => ?_, fun σ M => MM_f (MM_g M G cl_c) F rfl, STP_f S1 F rfl⟩
    · rw [q_L_met K ta na, e, q_L_met_r7 K1 ta1 na1 ta1 na1, gd_t (by rw [la1]; decide), k0]
      rfl
    · rw [hy]
      exact hJ_s _ _ _ _
  · rw [if_neg k0] at e
    have cod : r.1.1 = 1 := by have := T.2; omega
    have k1 := cod
    rw [k1] at e
    have e : zC 179 (zR (some 0) :: [zI x1]) h = some (.inr 3, h1) := e
    refine ⟨h1, p, v, ?_, J, fun z => absurd z k0, fun σ M => MM_g M G cl_c, S1⟩
    rw [q_L_met K ta na, e, q_L_met_x3 K1 ta1 na1 ta1 na1, k1]

theorem wr_364 {x1 : Int} {r : (Int × zV) × MSt} (K : KC h) (ok : OC h) (C : CC h 180 [zI x1] (t3 3 0 0) r) (T : tyI 1 r.1) : WRL h 364 [zR (some 0), zI x1, zR (some 197)] r := by
  obtain ⟨h1, p, v, e, J, G⟩ := C
  have K1 := CJ_K J
  have S1 := STP_g ok G
  have ok1 := OC_s ok S1
  have ta := ok.1.1
  have na : 197 < hN h := Nat.lt_of_lt_of_le (by decide) ok.2.2
  have ta1 := ok1.1.1
  have la1 := ok1.1.2
  have na1 : 197 < hN h1 := Nat.lt_of_lt_of_le (by decide) ok1.2.2
  by_cases k0 : r.1.1 = 0
  · rw [if_pos k0] at e
    obtain ⟨⟨y, hy⟩, _⟩ := T
    rw [hy] at e
    have F : Fr [(197, some 0)] h1 (sJ h1 197 0 (zi2l y)) := Fr_J (Fr_r _ _) rfl
    refine ⟨sJ h1 197 0 (zi2l y), p, v, ?_, CJ_f J F rfl, fun _ => ?_, fun σ M => MM_f (MM_g M G cl_c) F rfl, STP_f S1 F rfl⟩
    · rw [q_L_rounds K ta na, e, q_L_rounds_r7 K1 ta1 na1 ta1 na1, gd_t (by rw [la1]; decide), k0]
      rfl
    · rw [hy]
      exact hJ_s _ _ _ _
  · rw [if_neg k0] at e
    have cod : r.1.1 = 1 := by have := T.2; omega
    have k1 := cod
    rw [k1] at e
    have e : zC 180 (zR (some 0) :: [zI x1]) h = some (.inr 3, h1) := e
    refine ⟨h1, p, v, ?_, J, fun z => absurd z k0, fun σ M => MM_g M G cl_c, S1⟩
    rw [q_L_rounds K ta na, e, q_L_rounds_x3 K1 ta1 na1 ta1 na1, k1]

theorem wr_365 {x1 : Int} {r : (Int × zV) × MSt} (K : KC h) (ok : OC h) (C : CC h 181 [zI x1] (t3 3 0 0) r) (T : tyI 1 r.1) : WRL h 365 [zR (some 0), zI x1, zR (some 197)] r := by
  obtain ⟨h1, p, v, e, J, G⟩ := C
  have K1 := CJ_K J
  have S1 := STP_g ok G
  have ok1 := OC_s ok S1
  have ta := ok.1.1
  have na : 197 < hN h := Nat.lt_of_lt_of_le (by decide) ok.2.2
  have ta1 := ok1.1.1
  have la1 := ok1.1.2
  have na1 : 197 < hN h1 := Nat.lt_of_lt_of_le (by decide) ok1.2.2
  by_cases k0 : r.1.1 = 0
  · rw [if_pos k0] at e
    obtain ⟨⟨y, hy⟩, _⟩ := T
    rw [hy] at e
    have F : Fr [(197, some 0)] h1 (sJ h1 197 0 (zi2l y)) := Fr_J (Fr_r _ _) rfl
    refine ⟨sJ h1 197 0 (zi2l y), p, v, ?_, CJ_f J F rfl, fun _ => ?_, fun σ M => MM_f (MM_g M G cl_c) F rfl, STP_f S1 F rfl⟩
    · rw [q_L_proves K ta na, e, q_L_proves_r7 K1 ta1 na1 ta1 na1, gd_t (by rw [la1]; decide), k0]
      rfl
    · rw [hy]
      exact hJ_s _ _ _ _
  · rw [if_neg k0] at e
    have cod : r.1.1 = 1 := by have := T.2; omega
    have k1 := cod
    rw [k1] at e
    have e : zC 181 (zR (some 0) :: [zI x1]) h = some (.inr 3, h1) := e
    refine ⟨h1, p, v, ?_, J, fun z => absurd z k0, fun σ M => MM_g M G cl_c, S1⟩
    rw [q_L_proves K ta na, e, q_L_proves_x3 K1 ta1 na1 ta1 na1, k1]

theorem wr_366 {x1 : Int} {r : (Int × zV) × MSt} (K : KC h) (ok : OC h) (C : CC h 184 [zI x1] (t3 3 0 0) r) (T : tyI 1 r.1) : WRL h 366 [zR (some 0), zI x1, zR (some 197)] r := by
  obtain ⟨h1, p, v, e, J, G⟩ := C
  have K1 := CJ_K J
  have S1 := STP_g ok G
  have ok1 := OC_s ok S1
  have ta := ok.1.1
  have na : 197 < hN h := Nat.lt_of_lt_of_le (by decide) ok.2.2
  have ta1 := ok1.1.1
  have la1 := ok1.1.2
  have na1 : 197 < hN h1 := Nat.lt_of_lt_of_le (by decide) ok1.2.2
  by_cases k0 : r.1.1 = 0
  · rw [if_pos k0] at e
    obtain ⟨⟨y, hy⟩, _⟩ := T
    rw [hy] at e
    have F : Fr [(197, some 0)] h1 (sJ h1 197 0 (zi2l y)) := Fr_J (Fr_r _ _) rfl
    refine ⟨sJ h1 197 0 (zi2l y), p, v, ?_, CJ_f J F rfl, fun _ => ?_, fun σ M => MM_f (MM_g M G cl_c) F rfl, STP_f S1 F rfl⟩
    · rw [q_L_rights K ta na, e, q_L_rights_r7 K1 ta1 na1 ta1 na1, gd_t (by rw [la1]; decide), k0]
      rfl
    · rw [hy]
      exact hJ_s _ _ _ _
  · rw [if_neg k0] at e
    have cod : r.1.1 = 1 := by have := T.2; omega
    have k1 := cod
    rw [k1] at e
    have e : zC 184 (zR (some 0) :: [zI x1]) h = some (.inr 3, h1) := e
    refine ⟨h1, p, v, ?_, J, fun z => absurd z k0, fun σ M => MM_g M G cl_c, S1⟩
    rw [q_L_rights K ta na, e, q_L_rights_x3 K1 ta1 na1 ta1 na1, k1]

theorem wr_367 {x1 : Int} {r : (Int × zV) × MSt} (K : KC h) (ok : OC h) (C : CC h 185 [zI x1] (t3 3 0 0) r) (T : tyJ 1 r.1) : WRL h 367 [zR (some 0), zI x1, zR (some 197)] r := by
  obtain ⟨h1, p, v, e, J, G⟩ := C
  have K1 := CJ_K J
  have S1 := STP_g ok G
  have ok1 := OC_s ok S1
  have ta := ok.1.1
  have na : 197 < hN h := Nat.lt_of_lt_of_le (by decide) ok.2.2
  have ta1 := ok1.1.1
  have la1 := ok1.1.2
  have na1 : 197 < hN h1 := Nat.lt_of_lt_of_le (by decide) ok1.2.2
  by_cases k0 : r.1.1 = 0
  · rw [if_pos k0] at e
    obtain ⟨⟨y, hy⟩, _⟩ := T
    rw [hy] at e
    have F : Fr [(197, some 0)] h1 (sJ h1 197 0 y) := Fr_J (Fr_r _ _) rfl
    refine ⟨sJ h1 197 0 y, p, v, ?_, CJ_f J F rfl, fun _ => ?_, fun σ M => MM_f (MM_g M G cl_c) F rfl, STP_f S1 F rfl⟩
    · rw [q_L_safe K ta na, e, q_L_safe_r7 K1 ta1 na1 ta1 na1, gd_t (by rw [la1]; decide), k0]
      rfl
    · rw [hy]
      exact hJ_s _ _ _ _
  · rw [if_neg k0] at e
    have cod : r.1.1 = 1 := by have := T.2; omega
    have k1 := cod
    rw [k1] at e
    have e : zC 185 (zR (some 0) :: [zI x1]) h = some (.inr 3, h1) := e
    refine ⟨h1, p, v, ?_, J, fun z => absurd z k0, fun σ M => MM_g M G cl_c, S1⟩
    rw [q_L_safe K ta na, e, q_L_safe_x3 K1 ta1 na1 ta1 na1, k1]

theorem wr_368 {x1 : Int} {r : (Int × zV) × MSt} (K : KC h) (ok : OC h) (C : CC h 186 [zI x1] (t3 3 0 0) r) (T : tyJ 1 r.1) : WRL h 368 [zR (some 0), zI x1, zR (some 197)] r := by
  obtain ⟨h1, p, v, e, J, G⟩ := C
  have K1 := CJ_K J
  have S1 := STP_g ok G
  have ok1 := OC_s ok S1
  have ta := ok.1.1
  have na : 197 < hN h := Nat.lt_of_lt_of_le (by decide) ok.2.2
  have ta1 := ok1.1.1
  have la1 := ok1.1.2
  have na1 : 197 < hN h1 := Nat.lt_of_lt_of_le (by decide) ok1.2.2
  by_cases k0 : r.1.1 = 0
  · rw [if_pos k0] at e
    obtain ⟨⟨y, hy⟩, _⟩ := T
    rw [hy] at e
    have F : Fr [(197, some 0)] h1 (sJ h1 197 0 y) := Fr_J (Fr_r _ _) rfl
    refine ⟨sJ h1 197 0 y, p, v, ?_, CJ_f J F rfl, fun _ => ?_, fun σ M => MM_f (MM_g M G cl_c) F rfl, STP_f S1 F rfl⟩
    · rw [q_L_unsf K ta na, e, q_L_unsf_r7 K1 ta1 na1 ta1 na1, gd_t (by rw [la1]; decide), k0]
      rfl
    · rw [hy]
      exact hJ_s _ _ _ _
  · rw [if_neg k0] at e
    have cod : r.1.1 = 1 := by have := T.2; omega
    have k1 := cod
    rw [k1] at e
    have e : zC 186 (zR (some 0) :: [zI x1]) h = some (.inr 3, h1) := e
    refine ⟨h1, p, v, ?_, J, fun z => absurd z k0, fun σ M => MM_g M G cl_c, S1⟩
    rw [q_L_unsf K ta na, e, q_L_unsf_x3 K1 ta1 na1 ta1 na1, k1]

theorem wr_369 {x1 : Int} {r : (Int × zV) × MSt} (K : KC h) (ok : OC h) (C : CC h 187 [zI x1] (t3 3 0 0) r) (T : tyI 1 r.1) : WRL h 369 [zR (some 0), zI x1, zR (some 197)] r := by
  obtain ⟨h1, p, v, e, J, G⟩ := C
  have K1 := CJ_K J
  have S1 := STP_g ok G
  have ok1 := OC_s ok S1
  have ta := ok.1.1
  have na : 197 < hN h := Nat.lt_of_lt_of_le (by decide) ok.2.2
  have ta1 := ok1.1.1
  have la1 := ok1.1.2
  have na1 : 197 < hN h1 := Nat.lt_of_lt_of_le (by decide) ok1.2.2
  by_cases k0 : r.1.1 = 0
  · rw [if_pos k0] at e
    obtain ⟨⟨y, hy⟩, _⟩ := T
    rw [hy] at e
    have F : Fr [(197, some 0)] h1 (sJ h1 197 0 (zi2l y)) := Fr_J (Fr_r _ _) rfl
    refine ⟨sJ h1 197 0 (zi2l y), p, v, ?_, CJ_f J F rfl, fun _ => ?_, fun σ M => MM_f (MM_g M G cl_c) F rfl, STP_f S1 F rfl⟩
    · rw [q_L_writeNeed K ta na, e, q_L_writeNeed_r7 K1 ta1 na1 ta1 na1, gd_t (by rw [la1]; decide), k0]
      rfl
    · rw [hy]
      exact hJ_s _ _ _ _
  · rw [if_neg k0] at e
    have cod : r.1.1 = 1 := by have := T.2; omega
    have k1 := cod
    rw [k1] at e
    have e : zC 187 (zR (some 0) :: [zI x1]) h = some (.inr 3, h1) := e
    refine ⟨h1, p, v, ?_, J, fun z => absurd z k0, fun σ M => MM_g M G cl_c, S1⟩
    rw [q_L_writeNeed K ta na, e, q_L_writeNeed_x3 K1 ta1 na1 ta1 na1, k1]

theorem wr_370 {x1 : Int} {r : (Int × zV) × MSt} (K : KC h) (ok : OC h) (C : CC h 189 [zI x1] (t3 2 0 0) r) (T : tyI 1 r.1) : WRL h 370 [zR (some 0), zI x1, zR (some 197)] r := by
  obtain ⟨h1, p, v, e, J, G⟩ := C
  have K1 := CJ_K J
  have S1 := STP_g ok G
  have ok1 := OC_s ok S1
  have ta := ok.1.1
  have na : 197 < hN h := Nat.lt_of_lt_of_le (by decide) ok.2.2
  have ta1 := ok1.1.1
  have la1 := ok1.1.2
  have na1 : 197 < hN h1 := Nat.lt_of_lt_of_le (by decide) ok1.2.2
  by_cases k0 : r.1.1 = 0
  · rw [if_pos k0] at e
    obtain ⟨⟨y, hy⟩, _⟩ := T
    rw [hy] at e
    have F : Fr [(197, some 0)] h1 (sJ h1 197 0 (zi2l y)) := Fr_J (Fr_r _ _) rfl
    refine ⟨sJ h1 197 0 (zi2l y), p, v, ?_, CJ_f J F rfl, fun _ => ?_, fun σ M => MM_f (MM_g M G cl_c) F rfl, STP_f S1 F rfl⟩
    · rw [q_L_outputByte K ta na, e, q_L_outputByte_r7 K1 ta1 na1 ta1 na1, gd_t (by rw [la1]; decide), k0]
      rfl
    · rw [hy]
      exact hJ_s _ _ _ _
  · rw [if_neg k0] at e
    have cod : r.1.1 = 1 := by have := T.2; omega
    have k1 := cod
    rw [k1] at e
    have e : zC 189 (zR (some 0) :: [zI x1]) h = some (.inr 2, h1) := e
    refine ⟨h1, p, v, ?_, J, fun z => absurd z k0, fun σ M => MM_g M G cl_c, S1⟩
    rw [q_L_outputByte K ta na, e, q_L_outputByte_x2 K1 ta1 na1 ta1 na1, k1]

theorem wr_371 {x1 : Int} {r : (Int × zV) × MSt} (K : KC h) (ok : OC h) (C : CC h 190 [zI x1] (t3 3 0 0) r) (T : tyI 1 r.1) : WRL h 371 [zR (some 0), zI x1, zR (some 197)] r := by
  obtain ⟨h1, p, v, e, J, G⟩ := C
  have K1 := CJ_K J
  have S1 := STP_g ok G
  have ok1 := OC_s ok S1
  have ta := ok.1.1
  have na : 197 < hN h := Nat.lt_of_lt_of_le (by decide) ok.2.2
  have ta1 := ok1.1.1
  have la1 := ok1.1.2
  have na1 : 197 < hN h1 := Nat.lt_of_lt_of_le (by decide) ok1.2.2
  by_cases k0 : r.1.1 = 0
  · rw [if_pos k0] at e
    obtain ⟨⟨y, hy⟩, _⟩ := T
    rw [hy] at e
    have F : Fr [(197, some 0)] h1 (sJ h1 197 0 (zi2l y)) := Fr_J (Fr_r _ _) rfl
    refine ⟨sJ h1 197 0 (zi2l y), p, v, ?_, CJ_f J F rfl, fun _ => ?_, fun σ M => MM_f (MM_g M G cl_c) F rfl, STP_f S1 F rfl⟩
    · rw [q_L_needNodes K ta na, e, q_L_needNodes_r7 K1 ta1 na1 ta1 na1, gd_t (by rw [la1]; decide), k0]
      rfl
    · rw [hy]
      exact hJ_s _ _ _ _
  · rw [if_neg k0] at e
    have cod : r.1.1 = 1 := by have := T.2; omega
    have k1 := cod
    rw [k1] at e
    have e : zC 190 (zR (some 0) :: [zI x1]) h = some (.inr 3, h1) := e
    refine ⟨h1, p, v, ?_, J, fun z => absurd z k0, fun σ M => MM_g M G cl_c, S1⟩
    rw [q_L_needNodes K ta na, e, q_L_needNodes_x3 K1 ta1 na1 ta1 na1, k1]

theorem wr_372 {x1 : Int} {r : (Int × zV) × MSt} (K : KC h) (ok : OC h) (C : CC h 191 [zI x1] (t3 3 0 0) r) (T : tyI 1 r.1) : WRL h 372 [zR (some 0), zI x1, zR (some 197)] r := by
  obtain ⟨h1, p, v, e, J, G⟩ := C
  have K1 := CJ_K J
  have S1 := STP_g ok G
  have ok1 := OC_s ok S1
  have ta := ok.1.1
  have na : 197 < hN h := Nat.lt_of_lt_of_le (by decide) ok.2.2
  have ta1 := ok1.1.1
  have la1 := ok1.1.2
  have na1 : 197 < hN h1 := Nat.lt_of_lt_of_le (by decide) ok1.2.2
  by_cases k0 : r.1.1 = 0
  · rw [if_pos k0] at e
    obtain ⟨⟨y, hy⟩, _⟩ := T
    rw [hy] at e
    have F : Fr [(197, some 0)] h1 (sJ h1 197 0 (zi2l y)) := Fr_J (Fr_r _ _) rfl
    refine ⟨sJ h1 197 0 (zi2l y), p, v, ?_, CJ_f J F rfl, fun _ => ?_, fun σ M => MM_f (MM_g M G cl_c) F rfl, STP_f S1 F rfl⟩
    · rw [q_L_gap K ta na, e, q_L_gap_r7 K1 ta1 na1 ta1 na1, gd_t (by rw [la1]; decide), k0]
      rfl
    · rw [hy]
      exact hJ_s _ _ _ _
  · rw [if_neg k0] at e
    have cod : r.1.1 = 1 := by have := T.2; omega
    have k1 := cod
    rw [k1] at e
    have e : zC 191 (zR (some 0) :: [zI x1]) h = some (.inr 3, h1) := e
    refine ⟨h1, p, v, ?_, J, fun z => absurd z k0, fun σ M => MM_g M G cl_c, S1⟩
    rw [q_L_gap K ta na, e, q_L_gap_x3 K1 ta1 na1 ta1 na1, k1]

theorem wr_373 {x1 : Int} {r : (Int × zV) × MSt} (K : KC h) (ok : OC h) (C : CC h 192 [zI x1] (t3 0 1 0) r) (T : tyI 2 r.1) : WRL h 373 [zR (some 0), zI x1, zR (some 197)] r := by
  obtain ⟨h1, p, v, e, J, G⟩ := C
  have K1 := CJ_K J
  have S1 := STP_g ok G
  have ok1 := OC_s ok S1
  have ta := ok.1.1
  have na : 197 < hN h := Nat.lt_of_lt_of_le (by decide) ok.2.2
  have ta1 := ok1.1.1
  have la1 := ok1.1.2
  have na1 : 197 < hN h1 := Nat.lt_of_lt_of_le (by decide) ok1.2.2
  by_cases k0 : r.1.1 = 0
  · rw [if_pos k0] at e
    obtain ⟨⟨y, hy⟩, _⟩ := T
    rw [hy] at e
    have F : Fr [(197, some 0)] h1 (sJ h1 197 0 (zi2l y)) := Fr_J (Fr_r _ _) rfl
    refine ⟨sJ h1 197 0 (zi2l y), p, v, ?_, CJ_f J F rfl, fun _ => ?_, fun σ M => MM_f (MM_g M G cl_c) F rfl, STP_f S1 F rfl⟩
    · rw [q_L_setBefore K ta na, e, q_L_setBefore_r7 K1 ta1 na1 ta1 na1, gd_t (by rw [la1]; decide), k0]
      rfl
    · rw [hy]
      exact hJ_s _ _ _ _
  · rw [if_neg k0] at e
    have cod : r.1.1 = 1 ∨ r.1.1 = 2 := by have := T.2; omega
    rcases cod with k1 | k2
    · rw [k1] at e
      have e : zC 192 (zR (some 0) :: [zI x1]) h = some (.inr 0, h1) := e
      refine ⟨h1, p, v, ?_, J, fun z => absurd z k0, fun σ M => MM_g M G cl_c, S1⟩
      rw [q_L_setBefore K ta na, e, q_L_setBefore_x0 K1 ta1 na1 ta1 na1, k1]
    · rw [k2] at e
      have e : zC 192 (zR (some 0) :: [zI x1]) h = some (.inr 1, h1) := e
      refine ⟨h1, p, v, ?_, J, fun z => absurd z k0, fun σ M => MM_g M G cl_c, S1⟩
      rw [q_L_setBefore K ta na, e, q_L_setBefore_x1 K1 ta1 na1 ta1 na1, k2]

theorem wr_374 {x1 : Int} {r : (Int × zV) × MSt} (K : KC h) (ok : OC h) (C : CC h 194 [zI x1] (t3 0 1 0) r) (T : tyI 2 r.1) : WRL h 374 [zR (some 0), zI x1, zR (some 197)] r := by
  obtain ⟨h1, p, v, e, J, G⟩ := C
  have K1 := CJ_K J
  have S1 := STP_g ok G
  have ok1 := OC_s ok S1
  have ta := ok.1.1
  have na : 197 < hN h := Nat.lt_of_lt_of_le (by decide) ok.2.2
  have ta1 := ok1.1.1
  have la1 := ok1.1.2
  have na1 : 197 < hN h1 := Nat.lt_of_lt_of_le (by decide) ok1.2.2
  by_cases k0 : r.1.1 = 0
  · rw [if_pos k0] at e
    obtain ⟨⟨y, hy⟩, _⟩ := T
    rw [hy] at e
    have F : Fr [(197, some 0)] h1 (sJ h1 197 0 (zi2l y)) := Fr_J (Fr_r _ _) rfl
    refine ⟨sJ h1 197 0 (zi2l y), p, v, ?_, CJ_f J F rfl, fun _ => ?_, fun σ M => MM_f (MM_g M G cl_c) F rfl, STP_f S1 F rfl⟩
    · rw [q_L_setAfter K ta na, e, q_L_setAfter_r7 K1 ta1 na1 ta1 na1, gd_t (by rw [la1]; decide), k0]
      rfl
    · rw [hy]
      exact hJ_s _ _ _ _
  · rw [if_neg k0] at e
    have cod : r.1.1 = 1 ∨ r.1.1 = 2 := by have := T.2; omega
    rcases cod with k1 | k2
    · rw [k1] at e
      have e : zC 194 (zR (some 0) :: [zI x1]) h = some (.inr 0, h1) := e
      refine ⟨h1, p, v, ?_, J, fun z => absurd z k0, fun σ M => MM_g M G cl_c, S1⟩
      rw [q_L_setAfter K ta na, e, q_L_setAfter_x0 K1 ta1 na1 ta1 na1, k1]
    · rw [k2] at e
      have e : zC 194 (zR (some 0) :: [zI x1]) h = some (.inr 1, h1) := e
      refine ⟨h1, p, v, ?_, J, fun z => absurd z k0, fun σ M => MM_g M G cl_c, S1⟩
      rw [q_L_setAfter K ta na, e, q_L_setAfter_x1 K1 ta1 na1 ta1 na1, k2]

theorem wr_375 {x1 x2 : Int} {r : (Int × zV) × MSt} (K : KC h) (ok : OC h) (C : CC h 195 [zI x1, zI x2] (t3 3 0 1) r) (T : tyI 3 r.1) : WRL h 375 [zR (some 0), zI x1, zI x2, zR (some 197)] r := by
  obtain ⟨h1, p, v, e, J, G⟩ := C
  have K1 := CJ_K J
  have S1 := STP_g ok G
  have ok1 := OC_s ok S1
  have ta := ok.1.1
  have na : 197 < hN h := Nat.lt_of_lt_of_le (by decide) ok.2.2
  have ta1 := ok1.1.1
  have la1 := ok1.1.2
  have na1 : 197 < hN h1 := Nat.lt_of_lt_of_le (by decide) ok1.2.2
  by_cases k0 : r.1.1 = 0
  · rw [if_pos k0] at e
    obtain ⟨⟨y, hy⟩, _⟩ := T
    rw [hy] at e
    have F : Fr [(197, some 0)] h1 (sJ h1 197 0 (zi2l y)) := Fr_J (Fr_r _ _) rfl
    refine ⟨sJ h1 197 0 (zi2l y), p, v, ?_, CJ_f J F rfl, fun _ => ?_, fun σ M => MM_f (MM_g M G cl_c) F rfl, STP_f S1 F rfl⟩
    · rw [q_L_setKeep K ta na, e, q_L_setKeep_r8 K1 ta1 na1 ta1 na1, gd_t (by rw [la1]; decide), k0]
      rfl
    · rw [hy]
      exact hJ_s _ _ _ _
  · rw [if_neg k0] at e
    have cod : r.1.1 = 1 ∨ r.1.1 = 2 ∨ r.1.1 = 3 := by have := T.2; omega
    rcases cod with k1 | k2 | k3
    · rw [k1] at e
      have e : zC 195 (zR (some 0) :: [zI x1, zI x2]) h = some (.inr 3, h1) := e
      refine ⟨h1, p, v, ?_, J, fun z => absurd z k0, fun σ M => MM_g M G cl_c, S1⟩
      rw [q_L_setKeep K ta na, e, q_L_setKeep_x3 K1 ta1 na1 ta1 na1, k1]
    · rw [k2] at e
      have e : zC 195 (zR (some 0) :: [zI x1, zI x2]) h = some (.inr 0, h1) := e
      refine ⟨h1, p, v, ?_, J, fun z => absurd z k0, fun σ M => MM_g M G cl_c, S1⟩
      rw [q_L_setKeep K ta na, e, q_L_setKeep_x0 K1 ta1 na1 ta1 na1, k2]
    · rw [k3] at e
      have e : zC 195 (zR (some 0) :: [zI x1, zI x2]) h = some (.inr 1, h1) := e
      refine ⟨h1, p, v, ?_, J, fun z => absurd z k0, fun σ M => MM_g M G cl_c, S1⟩
      rw [q_L_setKeep K ta na, e, q_L_setKeep_x1 K1 ta1 na1 ta1 na1, k3]

theorem wr_376 {x1 x2 : Int} {r : (Int × zV) × MSt} (K : KC h) (ok : OC h) (C : CC h 196 [zI x1, zI x2] (t3 3 0 1) r) (T : tyI 3 r.1) : WRL h 376 [zR (some 0), zI x1, zI x2, zR (some 197)] r := by
  obtain ⟨h1, p, v, e, J, G⟩ := C
  have K1 := CJ_K J
  have S1 := STP_g ok G
  have ok1 := OC_s ok S1
  have ta := ok.1.1
  have na : 197 < hN h := Nat.lt_of_lt_of_le (by decide) ok.2.2
  have ta1 := ok1.1.1
  have la1 := ok1.1.2
  have na1 : 197 < hN h1 := Nat.lt_of_lt_of_le (by decide) ok1.2.2
  by_cases k0 : r.1.1 = 0
  · rw [if_pos k0] at e
    obtain ⟨⟨y, hy⟩, _⟩ := T
    rw [hy] at e
    have F : Fr [(197, some 0)] h1 (sJ h1 197 0 (zi2l y)) := Fr_J (Fr_r _ _) rfl
    refine ⟨sJ h1 197 0 (zi2l y), p, v, ?_, CJ_f J F rfl, fun _ => ?_, fun σ M => MM_f (MM_g M G cl_c) F rfl, STP_f S1 F rfl⟩
    · rw [q_L_setLess K ta na, e, q_L_setLess_r8 K1 ta1 na1 ta1 na1, gd_t (by rw [la1]; decide), k0]
      rfl
    · rw [hy]
      exact hJ_s _ _ _ _
  · rw [if_neg k0] at e
    have cod : r.1.1 = 1 ∨ r.1.1 = 2 ∨ r.1.1 = 3 := by have := T.2; omega
    rcases cod with k1 | k2 | k3
    · rw [k1] at e
      have e : zC 196 (zR (some 0) :: [zI x1, zI x2]) h = some (.inr 3, h1) := e
      refine ⟨h1, p, v, ?_, J, fun z => absurd z k0, fun σ M => MM_g M G cl_c, S1⟩
      rw [q_L_setLess K ta na, e, q_L_setLess_x3 K1 ta1 na1 ta1 na1, k1]
    · rw [k2] at e
      have e : zC 196 (zR (some 0) :: [zI x1, zI x2]) h = some (.inr 0, h1) := e
      refine ⟨h1, p, v, ?_, J, fun z => absurd z k0, fun σ M => MM_g M G cl_c, S1⟩
      rw [q_L_setLess K ta na, e, q_L_setLess_x0 K1 ta1 na1 ta1 na1, k2]
    · rw [k3] at e
      have e : zC 196 (zR (some 0) :: [zI x1, zI x2]) h = some (.inr 1, h1) := e
      refine ⟨h1, p, v, ?_, J, fun z => absurd z k0, fun σ M => MM_g M G cl_c, S1⟩
      rw [q_L_setLess K ta na, e, q_L_setLess_x1 K1 ta1 na1 ta1 na1, k3]

theorem wr_377 {x1 x2 : Int} {r : (Int × zV) × MSt} (K : KC h) (ok : OC h) (C : CC h 197 [zI x1, zI x2] (t3 3 0 0) r) (T : tyI 2 r.1) : WRL h 377 [zR (some 0), zI x1, zI x2, zR (some 197)] r := by
  obtain ⟨h1, p, v, e, J, G⟩ := C
  have K1 := CJ_K J
  have S1 := STP_g ok G
  have ok1 := OC_s ok S1
  have ta := ok.1.1
  have na : 197 < hN h := Nat.lt_of_lt_of_le (by decide) ok.2.2
  have ta1 := ok1.1.1
  have la1 := ok1.1.2
  have na1 : 197 < hN h1 := Nat.lt_of_lt_of_le (by decide) ok1.2.2
  by_cases k0 : r.1.1 = 0
  · rw [if_pos k0] at e
    obtain ⟨⟨y, hy⟩, _⟩ := T
    rw [hy] at e
    have F : Fr [(197, some 0)] h1 (sJ h1 197 0 (zi2l y)) := Fr_J (Fr_r _ _) rfl
    refine ⟨sJ h1 197 0 (zi2l y), p, v, ?_, CJ_f J F rfl, fun _ => ?_, fun σ M => MM_f (MM_g M G cl_c) F rfl, STP_f S1 F rfl⟩
    · rw [q_L_fill K ta na, e, q_L_fill_r8 K1 ta1 na1 ta1 na1, gd_t (by rw [la1]; decide), k0]
      rfl
    · rw [hy]
      exact hJ_s _ _ _ _
  · rw [if_neg k0] at e
    have cod : r.1.1 = 1 ∨ r.1.1 = 2 := by have := T.2; omega
    rcases cod with k1 | k2
    · rw [k1] at e
      have e : zC 197 (zR (some 0) :: [zI x1, zI x2]) h = some (.inr 3, h1) := e
      refine ⟨h1, p, v, ?_, J, fun z => absurd z k0, fun σ M => MM_g M G cl_c, S1⟩
      rw [q_L_fill K ta na, e, q_L_fill_x3 K1 ta1 na1 ta1 na1, k1]
    · rw [k2] at e
      have e : zC 197 (zR (some 0) :: [zI x1, zI x2]) h = some (.inr 0, h1) := e
      refine ⟨h1, p, v, ?_, J, fun z => absurd z k0, fun σ M => MM_g M G cl_c, S1⟩
      rw [q_L_fill K ta na, e, q_L_fill_x0 K1 ta1 na1 ta1 na1, k2]

theorem wr_378 {x1 x2 : Int} {r : (Int × zV) × MSt} (K : KC h) (ok : OC h) (C : CC h 198 [zI x1, zI x2] (t3 3 0 0) r) (T : tyI 2 r.1) : WRL h 378 [zR (some 0), zI x1, zI x2, zR (some 197)] r := by
  obtain ⟨h1, p, v, e, J, G⟩ := C
  have K1 := CJ_K J
  have S1 := STP_g ok G
  have ok1 := OC_s ok S1
  have ta := ok.1.1
  have na : 197 < hN h := Nat.lt_of_lt_of_le (by decide) ok.2.2
  have ta1 := ok1.1.1
  have la1 := ok1.1.2
  have na1 : 197 < hN h1 := Nat.lt_of_lt_of_le (by decide) ok1.2.2
  by_cases k0 : r.1.1 = 0
  · rw [if_pos k0] at e
    obtain ⟨⟨y, hy⟩, _⟩ := T
    rw [hy] at e
    have F : Fr [(197, some 0)] h1 (sJ h1 197 0 (zi2l y)) := Fr_J (Fr_r _ _) rfl
    refine ⟨sJ h1 197 0 (zi2l y), p, v, ?_, CJ_f J F rfl, fun _ => ?_, fun σ M => MM_f (MM_g M G cl_c) F rfl, STP_f S1 F rfl⟩
    · rw [q_L_setPrice K ta na, e, q_L_setPrice_r8 K1 ta1 na1 ta1 na1, gd_t (by rw [la1]; decide), k0]
      rfl
    · rw [hy]
      exact hJ_s _ _ _ _
  · rw [if_neg k0] at e
    have cod : r.1.1 = 1 ∨ r.1.1 = 2 := by have := T.2; omega
    rcases cod with k1 | k2
    · rw [k1] at e
      have e : zC 198 (zR (some 0) :: [zI x1, zI x2]) h = some (.inr 3, h1) := e
      refine ⟨h1, p, v, ?_, J, fun z => absurd z k0, fun σ M => MM_g M G cl_c, S1⟩
      rw [q_L_setPrice K ta na, e, q_L_setPrice_x3 K1 ta1 na1 ta1 na1, k1]
    · rw [k2] at e
      have e : zC 198 (zR (some 0) :: [zI x1, zI x2]) h = some (.inr 0, h1) := e
      refine ⟨h1, p, v, ?_, J, fun z => absurd z k0, fun σ M => MM_g M G cl_c, S1⟩
      rw [q_L_setPrice K ta na, e, q_L_setPrice_x0 K1 ta1 na1 ta1 na1, k2]

theorem wr_379 {x1 : Int} {r : (Int × zV) × MSt} (K : KC h) (ok : OC h) (C : CC h 199 [zI x1] (t3 0 1 0) r) (T : tyI 2 r.1) : WRL h 379 [zR (some 0), zI x1, zR (some 197)] r := by
  obtain ⟨h1, p, v, e, J, G⟩ := C
  have K1 := CJ_K J
  have S1 := STP_g ok G
  have ok1 := OC_s ok S1
  have ta := ok.1.1
  have na : 197 < hN h := Nat.lt_of_lt_of_le (by decide) ok.2.2
  have ta1 := ok1.1.1
  have la1 := ok1.1.2
  have na1 : 197 < hN h1 := Nat.lt_of_lt_of_le (by decide) ok1.2.2
  by_cases k0 : r.1.1 = 0
  · rw [if_pos k0] at e
    obtain ⟨⟨y, hy⟩, _⟩ := T
    rw [hy] at e
    have F : Fr [(197, some 0)] h1 (sJ h1 197 0 (zi2l y)) := Fr_J (Fr_r _ _) rfl
    refine ⟨sJ h1 197 0 (zi2l y), p, v, ?_, CJ_f J F rfl, fun _ => ?_, fun σ M => MM_f (MM_g M G cl_c) F rfl, STP_f S1 F rfl⟩
    · rw [q_L_restore K ta na, e, q_L_restore_r7 K1 ta1 na1 ta1 na1, gd_t (by rw [la1]; decide), k0]
      rfl
    · rw [hy]
      exact hJ_s _ _ _ _
  · rw [if_neg k0] at e
    have cod : r.1.1 = 1 ∨ r.1.1 = 2 := by have := T.2; omega
    rcases cod with k1 | k2
    · rw [k1] at e
      have e : zC 199 (zR (some 0) :: [zI x1]) h = some (.inr 0, h1) := e
      refine ⟨h1, p, v, ?_, J, fun z => absurd z k0, fun σ M => MM_g M G cl_c, S1⟩
      rw [q_L_restore K ta na, e, q_L_restore_x0 K1 ta1 na1 ta1 na1, k1]
    · rw [k2] at e
      have e : zC 199 (zR (some 0) :: [zI x1]) h = some (.inr 1, h1) := e
      refine ⟨h1, p, v, ?_, J, fun z => absurd z k0, fun σ M => MM_g M G cl_c, S1⟩
      rw [q_L_restore K ta na, e, q_L_restore_x1 K1 ta1 na1 ta1 na1, k2]

theorem wr_380 {r : (Int × zV) × MSt} (K : KC h) (ok : OC h) (C : CC h 201 [] (t3 1 0 0) r) (T : tyI 1 r.1) : WRL h 380 [zR (some 0), zR (some 197)] r := by
  obtain ⟨h1, p, v, e, J, G⟩ := C
  have K1 := CJ_K J
  have S1 := STP_g ok G
  have ok1 := OC_s ok S1
  have ta := ok.1.1
  have na : 197 < hN h := Nat.lt_of_lt_of_le (by decide) ok.2.2
  have ta1 := ok1.1.1
  have la1 := ok1.1.2
  have na1 : 197 < hN h1 := Nat.lt_of_lt_of_le (by decide) ok1.2.2
  by_cases k0 : r.1.1 = 0
  · rw [if_pos k0] at e
    obtain ⟨⟨y, hy⟩, _⟩ := T
    rw [hy] at e
    have F : Fr [(197, some 0)] h1 (sJ h1 197 0 (zi2l y)) := Fr_J (Fr_r _ _) rfl
    refine ⟨sJ h1 197 0 (zi2l y), p, v, ?_, CJ_f J F rfl, fun _ => ?_, fun σ M => MM_f (MM_g M G cl_c) F rfl, STP_f S1 F rfl⟩
    · rw [q_L_undo K ta na, e, q_L_undo_r6 K1 ta1 na1 ta1 na1, gd_t (by rw [la1]; decide), k0]
      rfl
    · rw [hy]
      exact hJ_s _ _ _ _
  · rw [if_neg k0] at e
    have cod : r.1.1 = 1 := by have := T.2; omega
    have k1 := cod
    rw [k1] at e
    have e : zC 201 (zR (some 0) :: []) h = some (.inr 1, h1) := e
    refine ⟨h1, p, v, ?_, J, fun z => absurd z k0, fun σ M => MM_g M G cl_c, S1⟩
    rw [q_L_undo K ta na, e, q_L_undo_x1 K1 ta1 na1 ta1 na1, k1]

theorem wr_381 {x1 : Int} {r : (Int × zV) × MSt} (K : KC h) (ok : OC h) (C : CC h 202 [zI x1] (t3 0 0 0) r) (T : tyI 1 r.1) : WRL h 381 [zR (some 0), zI x1, zR (some 197)] r := by
  obtain ⟨h1, p, v, e, J, G⟩ := C
  have K1 := CJ_K J
  have S1 := STP_g ok G
  have ok1 := OC_s ok S1
  have ta := ok.1.1
  have na : 197 < hN h := Nat.lt_of_lt_of_le (by decide) ok.2.2
  have ta1 := ok1.1.1
  have la1 := ok1.1.2
  have na1 : 197 < hN h1 := Nat.lt_of_lt_of_le (by decide) ok1.2.2
  by_cases k0 : r.1.1 = 0
  · rw [if_pos k0] at e
    obtain ⟨⟨y, hy⟩, _⟩ := T
    rw [hy] at e
    have F : Fr [(197, some 0)] h1 (sJ h1 197 0 (zi2l y)) := Fr_J (Fr_r _ _) rfl
    refine ⟨sJ h1 197 0 (zi2l y), p, v, ?_, CJ_f J F rfl, fun _ => ?_, fun σ M => MM_f (MM_g M G cl_c) F rfl, STP_f S1 F rfl⟩
    · rw [q_L_save K ta na, e, q_L_save_r7 K1 ta1 na1 ta1 na1, gd_t (by rw [la1]; decide), k0]
      rfl
    · rw [hy]
      exact hJ_s _ _ _ _
  · rw [if_neg k0] at e
    have cod : r.1.1 = 1 := by have := T.2; omega
    have k1 := cod
    rw [k1] at e
    have e : zC 202 (zR (some 0) :: [zI x1]) h = some (.inr 0, h1) := e
    refine ⟨h1, p, v, ?_, J, fun z => absurd z k0, fun σ M => MM_g M G cl_c, S1⟩
    rw [q_L_save K ta na, e, q_L_save_x0 K1 ta1 na1 ta1 na1, k1]

end LAWW
