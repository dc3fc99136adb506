/-! What the law's proof comes to. -/
theorem wl_19 : wlt 19 = [119, 104, 105, 108, 101] := by decide
theorem wl_13 : wlt 13 = [108, 116] := by decide
theorem wl_23 : wlt 23 = [107, 101, 101, 112] := by decide
theorem wl_24 : wlt 24 = [108, 101, 115, 115] := by decide
theorem wl_17 : wlt 17 = [115, 101, 116] := by decide
theorem wl_8 : wlt 8 = [109, 105, 110, 117, 115] := by decide
theorem wl_20 : wlt 20 = [104, 111, 108, 101] := by decide
theorem wl_21 : wlt 21 = [101, 108, 115, 101] := by decide
theorem wl_22 : wlt 22 = [101, 110, 100] := by decide
theorem wl_18 : wlt 18 = [105, 102] := by decide
theorem wl_25 : wlt 25 = [112, 114, 111, 111, 102] := by decide
theorem wl_0 : wlt 0 = [48] := by decide
theorem wl_1 : wlt 1 = [49] := by decide
theorem tw_while {x : Int} (h0 : 0 ≤ x) (h1 : x < 3) (T c2 : List Int) : T ++ [32, 119, 104, 105, 108, 101, 32, 108, 116, 32, 48, 32] ++ [97 + x] ++ (32 :: wlt 23) ++ ctx c2 ++ [32, 108, 101, 115, 115, 32] ++ [97 + x] = T ++ ctx (19 :: ([13, 0, 4 + x] ++ 23 :: (c2 ++ 24 :: [4 + x]))) := by
  have e : ctx (19 :: ([13, 0, 4 + x] ++ 23 :: (c2 ++ 24 :: [4 + x]))) = 32 :: (wlt 19 ++ 32 :: (wlt 13 ++ 32 :: (wlt 0 ++ 32 :: (wlt (4 + x) ++ 32 :: (wlt 23 ++ (ctx c2 ++ 32 :: (wlt 24 ++ 32 :: (wlt (4 + x) ++ [])))))))) := by
    show 32 :: (wlt 19 ++ 32 :: (wlt 13 ++ 32 :: (wlt 0 ++ 32 :: (wlt (4 + x) ++ 32 :: (wlt 23 ++ ctx (c2 ++ 24 :: [4 + x])))))) = _
    rw [ctx_app]
    rfl
  rw [e, wl_v h0 h1, wl_19, wl_13, wl_0, wl_23, wl_24]
  simp only [List.append_assoc, List.cons_append, List.nil_append, List.append_nil]
theorem tw_dec {x : Int} (h0 : 0 ≤ x) (h1 : x < 3) (T : List Int) : T ++ [32, 115, 101, 116, 32] ++ [97 + x] ++ [32, 109, 105, 110, 117, 115, 32] ++ [97 + x] ++ [32, 49] = T ++ ctx (17 :: (4 + x) :: [8, 4 + x, 1]) := by
  have e : ctx (17 :: (4 + x) :: [8, 4 + x, 1]) = 32 :: (wlt 17 ++ 32 :: (wlt (4 + x) ++ 32 :: (wlt 8 ++ 32 :: (wlt (4 + x) ++ 32 :: (wlt 1 ++ []))))) := rfl
  rw [e, wl_v h0 h1, wl_17, wl_8, wl_1]
  simp only [List.append_assoc, List.cons_append, List.nil_append, List.append_nil]
theorem tw_set {x : Int} (h0 : 0 ≤ x) (h1 : x < 3) (T cs : List Int) : T ++ [32, 115, 101, 116, 32] ++ [97 + x] ++ ctx cs = T ++ ctx (17 :: (4 + x) :: cs) := by
  have e : ctx (17 :: (4 + x) :: cs) = 32 :: (wlt 17 ++ 32 :: (wlt (4 + x) ++ ctx cs)) := rfl
  rw [e, wl_v h0 h1, wl_17]
  simp only [List.append_assoc, List.cons_append, List.nil_append]
theorem tw_if (T cs : List Int) : T ++ (32 :: wlt 18) ++ ctx cs = T ++ ctx (18 :: cs) := by
  rw [List.append_assoc]
  rfl
theorem tw_1 (T : List Int) (w : Int) : T ++ (32 :: wlt w) = T ++ ctx [w] := by
  show _ = T ++ (32 :: (wlt w ++ []))
  rw [List.append_nil]
def OPA (f : Nat → Int) : List Int → Prop
  | [] => True
  | k :: os => f (os.length + 1) = k ∧ OPA f os
theorem OPA_c {f g : Nat → Int} : ∀ {os : List Int}, (∀ j, j ≤ os.length → f j = g j) → OPA f os → OPA g os
  | [], _, _ => trivial
  | k :: os, h, H => ⟨(h _ (Nat.le_refl _)).symm.trans H.1, OPA_c (fun j hj => h j (by rw [List.length_cons]; omega)) H.2⟩
/-- of the old cells only r may be another -/
def RF (r k : Nat) (h h2 : zH) : Prop := (hN h ≤ hN h2 ∧ hN h2 ≤ hN h + k ∧ hU h2 ≤ hU h + 2000 * k) ∧ ∀ a, (a < hN h ∨ zVB ≤ a) → a ≠ r → Gs h h2 a
theorem RF_m {r k k2 : Nat} {h h2 : zH} (F : RF r k h h2) (e : k ≤ k2) : RF r k2 h h2 := ⟨⟨F.1.1, by have := F.1.2.1; omega, by have := F.1.2.2; omega⟩, F.2⟩
theorem RF_t {r k k2 : Nat} {h h2 h3 : zH} (F : RF r k h h2) (G : RF r k2 h2 h3) : RF r (k + k2) h h3 := by
  obtain ⟨⟨f3, f4, f5⟩, f6⟩ := F
  obtain ⟨⟨g3, g4, g5⟩, g6⟩ := G
  exact ⟨⟨by omega, by omega, by omega⟩, fun a ha hr => Gs_t (f6 a ha hr) (g6 a (by omega) hr)⟩
theorem RF_B {r b d d2 k k2 : Nat} {hs h h2 : zH} (F : RF r k hs h) (G : BF r b d d2 k2 h h2) (hb : hN hs ≤ b) (b1 : b < zVB) (hd : hN hs ≤ d) (d1 : d < zVB) : RF r (k + k2) hs h2 := by
  obtain ⟨⟨f3, f4, f5⟩, f6⟩ := F
  obtain ⟨g1, ⟨g3, g4, g5⟩, g6⟩ := G
  exact ⟨⟨by omega, by omega, by omega⟩, fun a ha hr => Gs_t (f6 a ha hr) (g6 a (by omega) (by omega) (by omega) hr)⟩
section PRF
variable {C b r a : Nat} {hs h h2 : zH} {k d d2 : Nat} {T T2 W os : List Int} {cnt : Int}
/-- while a program's text is written -/
def PJ (C b r a : Nat) (hs : zH) (k : Nat) (h : zH) (T : List Int) (d : Nat) (os : List Int) : Prop := BD C b h T d ∧ RF r k hs h ∧ hN hs ≤ b ∧ (hT h r = 22 ∧ r < hN hs ∧ hL h r = 1) ∧ (hT h a = 22 ∧ a < hN h ∧ hL h a = 6 ∧ a ≠ r ∧ hN hs ≤ a) ∧ KS h ∧ OPA (hI h a) os
theorem pj_r (H : PJ C b r a hs k h T d os) : r < hN h := by have := H.2.1.1.1; have := H.2.2.2.1.2.1; omega
theorem pj_next (H : PJ C b r a hs k h T d os) : ∃ x h1, zC 207 [zR (some r)] h = some (.inl (some (zI x)), h1) ∧ (0 ≤ x ∧ x < 8388608) ∧ hN h1 = hN h ∧ PJ C b r a hs k h1 T d os := by
  have rn := pj_r H
  obtain ⟨S, F, hb, ⟨r1, r2, r3⟩, ⟨a1, a2, a3, a4, a5⟩, K, O⟩ := H
  have z := S.2.2.1
  refine ⟨_, _, c_next r1 rn (by omega), yV_r _, rfl, BD_s S r1, ⟨F.1, fun q hq e => Gs_t (F.2 q hq e) (Gs_sI h _ _ e)⟩, hb, ⟨r1, r2, r3⟩, ⟨a1, a2, a3, a4, a5⟩, KS_B S (by omega) K (BF_s (r := r) S), ?_⟩
  exact OPA_c (fun j _ => (congrFun (zup_a _ _ _ a4) j).symm) O
theorem pj_B (H : PJ C b r a hs k h T d os) {k2 : Nat} (S2 : BD C b h2 T2 d2) (F2 : BF r b d d2 k2 h h2) (t : hT h2 r = 22) (l : hL h2 r = 1) : PJ C b r a hs (k + k2) h2 T2 d2 os := by
  have rn := pj_r H
  obtain ⟨S, F, hb, ⟨r1, r2, r3⟩, ⟨a1, a2, a3, a4, a5⟩, K, O⟩ := H
  have z := S.2.2.1
  have nb := BD_nb S
  have bd := S.1
  have d1 := S.2.1
  obtain ⟨ea, da⟩ := ne_21 S a1
  have ga := F2.2.2 a (Or.inl a2) ea da a4
  have m := F2.2.1.1
  refine ⟨S2, RF_B F F2 hb (by omega) (by omega) (by omega), hb, ⟨t, r2, l⟩, ⟨ga.1.trans a1, by omega, ga.2.1.trans a3, a4, a5⟩, KS_B S (by omega) K F2, ?_⟩
  exact OPA_c (fun j _ => (congrFun ga.2.2.2.1 j).symm) O
theorem pj_app (H : PJ C b r a hs k h T d os) (S2 : BD C b h2 T2 d2) (F2 : BF b b d d2 1 h h2) : PJ C b r a hs (k + 1) h2 T2 d2 os := by
  have rn := pj_r H
  obtain ⟨er, dr⟩ := ne_21 H.1 H.2.2.2.1.1
  have gr := F2.2.2 r (Or.inl rn) er dr er
  exact pj_B H S2 ⟨F2.1, F2.2.1, fun q hq e1 e2 _ => F2.2.2 q hq e1 e2 e1⟩ (gr.1.trans H.2.2.2.1.1) (by rw [gr.2.1]; exact H.2.2.2.1.2.2)
theorem pj_w (H : PJ C b r a hs k h T d os) {j : Nat} {v : Int} {os2 : List Int} (O : OPA (fun i => if i = j then v else hI h a i) os2) : PJ C b r a hs k (sI h a j v) T d os2 := by
  obtain ⟨S, F, hb, ⟨r1, r2, r3⟩, ⟨a1, a2, a3, a4, a5⟩, K, _⟩ := H
  have z := S.2.2.1
  refine ⟨BD_s S a1, ⟨F.1, fun q hq e => Gs_t (F.2 q hq e) (Gs_sI h _ _ (by omega))⟩, hb, ⟨r1, r2, r3⟩, ⟨a1, a2, a3, a4, a5⟩, KS_B S (by omega) K (BF_s (r := a) S), ?_⟩
  refine OPA_c (fun i _ => ?_) O
  by_cases c : i = j
  · rw [if_pos c, c]; exact (zup_s _ _ _ _).symm
  · rw [if_neg c]; exact (zup_n _ _ _ _ _ _ (fun q => c q.2)).symm
/-- with the words that stand so far -/
def PI (C b r a : Nat) (hs : zH) (k : Nat) (h : zH) (W : List Int) (d : Nat) (os : List Int) (cnt : Int) : Prop := PJ C b r a hs k h (spl W) d os ∧ Pfx W os cnt ∧ wok W ∧ W ≠ [] ∧ os.length ≤ 3 ∧ 0 ≤ cnt ∧ ∀ o ∈ os, o = 1 ∨ o = 2 ∨ o = 3
def PO2 (C r : Nat) (hs : zH) (o : zO) : Prop := ∃ h2 s W cnt, o = some (.inl (some (zR (some s))), h2) ∧ TXm h2 s (spl W) ∧ Pfx W [] cnt ∧ 0 < cnt ∧ cnt ≤ 24 ∧ wok W ∧ W ≠ [] ∧ (spl W).length ≤ C ∧ RF r 600 hs h2 ∧ (hT h2 r = 22 ∧ hL h2 r = 1) ∧ hN hs ≤ s ∧ ∀ v, hR h2 s 0 = some v → hN hs ≤ v
theorem po_le {m pc : Nat} {L L2 : zL} {S : List zV} (q : zle L L2) (H : PO2 C r hs (zY m pc L S h)) : PO2 C r hs (zY m pc L2 S h) := by
  obtain ⟨h2, s, W, cnt, h1, H⟩ := H
  exact ⟨h2, s, W, cnt, zY_le q h1, H⟩
theorem spl_ap {W V : List Int} (hW : W ≠ []) : spl W ++ ctx V = spl (W ++ V) := (spl_app hW).symm
theorem pj_os {os2 : List Int} (J : PJ C b r a hs k h T d os) (O : OPA (hI h a) os2) : PJ C b r a hs k h T d os2 := ⟨J.1, J.2.1, J.2.2.1, J.2.2.2.1, J.2.2.2.2.1, J.2.2.2.2.2.1, O⟩
theorem wok_1 {x : Int} (h0 : 0 ≤ x) (h1 : x ≤ 25) : wok [x] := fun w hw => by
  rw [List.mem_singleton] at hw
  subst hw
  exact ⟨h0, h1⟩
theorem wok_c {x : Int} {l : List Int} (h0 : 0 ≤ x) (h1 : x ≤ 25) (h : wok l) : wok (x :: l) := wok_app (wok_1 h0 h1) h
theorem accF_c {x : Int} {l : List Int} {e c e2 c2 : Nat} (h : (0 < e ∧ 0 ≤ x ∧ x ≤ 9) ∨ (e = 0 ∧ 0 < c ∧ 10 ≤ x ∧ x ≤ 16)) (q : e - (if 0 < e then 1 else 0) + exB x = e2) (q2 : c - (if 0 < e then 0 else 1) + cdB x = c2) (A : accF l e2 c2) : accF (x :: l) e c := by
  subst q
  subst q2
  exact ⟨h, A⟩
theorem ex_v {z : Int} (h0 : 0 ≤ z) (h1 : z < 3) : exB (4 + z) = 0 ∧ cdB (4 + z) = 0 := ⟨by unfold exB; rw [if_neg (by omega)], by unfold cdB; rw [if_neg (by omega), if_neg (by omega)]⟩
theorem accF_v {z : Int} (h0 : 0 ≤ z) (h1 : z < 3) : accF [4 + z] 1 0 :=
  accF_c (e2 := 0) (c2 := 0) (Or.inl ⟨by decide, by omega, by omega⟩) (by rw [(ex_v h0 h1).1]; rfl) (by rw [(ex_v h0 h1).2]; rfl) ⟨rfl, rfl⟩
theorem accF_lt {z : Int} (h0 : 0 ≤ z) (h1 : z < 3) : accF [13, 0, 4 + z] 0 1 :=
  accF_c (e2 := 2) (c2 := 0) (Or.inr ⟨rfl, by decide, by decide, by decide⟩) rfl rfl (accF_c (e2 := 1) (c2 := 0) (Or.inl ⟨by decide, by decide, by decide⟩) rfl rfl (accF_v h0 h1))
theorem accF_dec {z : Int} (h0 : 0 ≤ z) (h1 : z < 3) : accF [8, 4 + z, 1] 1 0 :=
  accF_c (e2 := 2) (c2 := 0) (Or.inl ⟨by decide, by decide, by decide⟩) rfl rfl (accF_c (e2 := 1) (c2 := 0) (Or.inl ⟨by decide, by omega, by omega⟩) (by rw [(ex_v h0 h1).1]; rfl) (by rw [(ex_v h0 h1).2]; rfl) (accF_c (e2 := 0) (c2 := 0) (Or.inl ⟨by decide, by decide, by decide⟩) rfl rfl ⟨rfl, rfl⟩))
theorem ne_app {V : List Int} (h : W ≠ []) : W ++ V ≠ [] := fun q => h (List.append_eq_nil_iff.1 q).1
/-- the statements that stand open are closed -/
theorem pp_278 (hC : C ≤ 900) : ∀ (os : List Int) (h : zH) (W : List Int) (d k : Nat) (x3 x4 : Int), PI C b r a hs k h W d os cnt → 0 < cnt → cnt ≤ 24 → x3 = (os.length : Int) → (spl W).length + 9 * os.length ≤ C → k + os.length + 2 ≤ 600 → hN hs + 1000 < zVB → PO2 C r hs (zY 215 278 [some (zR (some r)), some (zR (some b)), some (zR (some a)), some (zI x3), some (zI x4), none, none] [] h)
  | [], h, W, d, k, x3, x4, H, c0, c1, e3, hl, hk, hz => by
    obtain ⟨J, P, w, ne, ol, _⟩ := H
    have S := J.1
    have F := J.2.1
    have e3 : x3 = 0 := e3
    rw [q_L_proof_278, if_neg (by omega), q_L_proof_307 S.2.2.2.1 (BD_nb S)]
    have m1 := F.1.2.1
    have m2 := F.1.2.2
    have m0 := F.1.1
    have hk : k + 0 + 2 ≤ 600 := hk
    obtain ⟨h2, E, X, G, n2, u2, V⟩ := x_toStr hC S (by omega)
    rw [E, zbk, q_L_proof_311]
    have gr := G r (Or.inl (pj_r J))
    refine ⟨h2, hN h, W, cnt, rfl, X, P, c0, c1, w, ne, by simpa using hl, ⟨⟨by omega, by omega, by omega⟩, fun q hq e => Gs_t (F.2 q hq e) (G q (by omega))⟩, ⟨gr.1.trans J.2.2.2.1.1, by rw [gr.2.1]; exact J.2.2.2.1.2.2⟩, m0, fun v hv => by have := V v hv; omega⟩
  | o :: os, h, W, d, k, x3, x4, H, c0, c1, e3, hl, hk, hz => by
    obtain ⟨J, P, w, ne, ol, cc, ov⟩ := H
    have S := J.1
    have F := J.2.1
    have Ha := J.2.2.2.2.1
    have m1 := F.1.2.1
    rw [List.length_cons] at e3 hl hk ol
    have O := J.2.2.2.2.2.2
    rw [q_L_proof_278, if_pos (by omega), q_L_proof_282 Ha.1, Ha.2.2.1, gd_t (by omega), show x3.toNat = os.length + 1 from by omega, O.1]
    have fin : ∀ (h2 : zH) (d2 : Nat) (V : List Int), BD C b h2 (spl W ++ ctx V) d2 → BF b b d d2 1 h h2 → wok V → Pfx (W ++ V) os cnt → (ctx V).length ≤ 9 → PO2 C r hs (zY 215 300 [some (zR (some r)), some (zR (some b)), some (zR (some a)), some (zI x3), some (zI x4), none, none] [zR (some b)] h2) := fun h2 d2 V S2 F2 wV PV lV => by
      rw [q_L_proof_300, gd_t (show inR (x3 + (-1)) by omega)]
      have J2 := pj_app J S2 F2
      have O2 := J2.2.2.2.2.2.2.2
      rw [spl_ap ne] at J2
      exact pp_278 hC os h2 (W ++ V) d2 (k + 1) (x3 + (-1)) x4 ⟨pj_os J2 O2, PV, wok_app w wV, ne_app ne, by omega, cc, fun q hq => ov q (List.mem_cons_of_mem _ hq)⟩ c0 c1 (by omega) (by rw [← spl_ap ne, List.length_append]; omega) (by omega) hz
    have l53 : (ctx [21, 22]).length = 9 := by decide
    by_cases c : o = 1
    · subst c
      rw [if_pos rfl, q_L_proof_290 S.2.2.2.1 (BD_nb S)]
      obtain ⟨h2, d2, E2, S2, F2⟩ := x_app hC S (tx_53 J.2.2.2.2.2.1) (by rw [l53]; omega) (by omega) b
      rw [E2, zbk]
      have P2 := pf_end (Or.inr rfl) (pf_else P)
      rw [List.append_assoc] at P2
      exact fin h2 d2 [21, 22] S2 F2 (wok_c (by decide) (by decide) (wok_1 (by decide) (by decide))) P2 (by rw [l53]; omega)
    · rw [if_neg c, q_L_proof_295 S.2.2.2.1 (BD_nb S)]
      obtain ⟨h2, d2, E2, S2, F2⟩ := x_app hC S (tx_52 J.2.2.2.2.2.1) (by rw [wl_22]; show (spl W).length + 4 ≤ C; omega) (by omega) b
      rw [E2, zbk]
      rw [tw_1] at S2
      have oo := ov o (List.mem_cons_self ..)
      exact fin h2 d2 [22] S2 F2 (wok_1 (by decide) (by decide)) (pf_end (by omega) P) (by decide)
/-- the loop over the statements, with n more -/
def PPH (C b r a : Nat) (hs : zH) (n : Nat) : Prop := ∀ (h : zH) (W os : List Int) (d k : Nat) (cnt x3 x4 : Int), PI C b r a hs k h W d os cnt → (0 < cnt ∨ os = [] ∧ 0 < n) → cnt + 2 * n ≤ 24 → x3 = (os.length : Int) → x4 = (n : Int) → (spl W).length + 84 * n + 27 ≤ C → k + 50 * n + 5 ≤ 600 → PO2 C r hs (zY 215 41 [some (zR (some r)), some (zR (some b)), some (zR (some a)), some (zI x3), some (zI x4), none, none] [] h)
theorem pp_245 (hC : C ≤ 900) (hz : hN hs + 1000 < zVB) {n : Nat} {x3 x4 y : Int} (IH : PPH C b r a hs n) (H : PI C b r a hs k h W d os cnt) (hc : 0 ≤ cnt) (c2 : cnt + 2 * (n + 1) ≤ 24) (e3 : x3 = (os.length : Int)) (e4 : x4 = ((n + 1 : Nat) : Int)) (hl : (spl W).length + 84 * (n + 1) + 27 ≤ C) (hk : k + 50 * (n + 1) + 5 ≤ 600) : PO2 C r hs (zY 215 245 [some (zR (some r)), some (zR (some b)), some (zR (some a)), some (zI x3), some (zI x4), some (zI y), none] [] h) := by
  obtain ⟨J, P, w, ne, ol, cc, ov⟩ := H
  have S := J.1
  have m1 := J.2.1.1.2.1
  have m0 := J.2.1.1.1
  rw [q_L_proof_245 S.2.2.2.1 (BD_nb S)]
  obtain ⟨h2, d2, E2, S2, F2⟩ := x_app hC S (tx_47 J.2.2.2.2.2.1) (by show (spl W).length + 5 ≤ C; omega) (by omega) b
  have J2 := pj_app J S2 F2
  have f2 := F2.2.1
  rw [E2, zbk, q_L_proof_251]
  obtain ⟨x, h3, E3, xr, n3, J3⟩ := pj_next J2
  have xm := tmd (k := 3) xr.1 (by decide)
  rw [E3, zbk, q_L_proof_257 J3.1.2.2.2.1 (BD_nb J3.1), gd_t (by omega), chv xm.1 xm.2]
  obtain ⟨h4, d4, E4, S4, F4⟩ := x_appC hC J3.1 (x := 97 + Int.tmod x 3) (by omega) (by omega) (by simp; omega) (by omega) b
  have J4 := pj_app J3 S4 F4
  have f4 := F4.2.1
  rw [E4, zbk, q_L_proof_264]
  obtain ⟨h5, d5, cs, E5, A5, l5, w5, S5, F5, K5, t5, g5⟩ := c_form hC J4.1 J4.2.2.2.2.2.1 J4.2.2.2.1.1 (pj_r J4) J4.2.2.2.1.2.2 (x1 := 0) (deep := 2) (Nat.le_refl _) (Or.inl rfl) (by simp; omega) (by omega)
  have E5 : zC 216 [zR (some b), zI 0, zI 2, zR (some r)] h4 = some (.inl none, h5) := E5
  rw [if_pos rfl] at l5
  have J5 := pj_B J4 S5 F5 t5 g5
  have f5 := F5.2.1
  have O5 := J5.2.2.2.2.2.2
  rw [E5, zbk0, q_L_proof_272, gd_t (show inR (x4 + (-1)) by omega)]
  rw [tw_set xm.1 xm.2, spl_ap ne] at J5
  have wV : wok (17 :: (4 + Int.tmod x 3) :: cs) := wok_c (by decide) (by decide) (wok_c (by omega) (by omega) w5)
  have lV : (ctx (17 :: (4 + Int.tmod x 3) :: cs)).length ≤ 84 := by
    have := (ctx_len _ wV).2
    simp only [List.length_cons] at this
    omega
  refine po_le (L := [some (zR (some r)), some (zR (some b)), some (zR (some a)), some (zI x3), some (zI (x4 + (-1))), none, none]) (by exact ⟨rfl, rfl, rfl, rfl, rfl, trivial⟩) ?_
  exact IH h5 _ os d5 _ (cnt + 1) x3 _ ⟨J5, pf_set P (by omega) A5 (by omega) (by omega), wok_app w wV, ne_app ne, ol, by omega, ov⟩ (Or.inl (by omega)) (by omega) e3 (by omega) (by rw [← spl_ap ne, List.length_append]; omega) (by omega)
theorem pp_191 (hC : C ≤ 900) (hz : hN hs + 1000 < zVB) {n : Nat} {x3 x4 y : Int} (IH : PPH C b r a hs n) (H : PI C b r a hs k h W d os cnt) (hc : 0 ≤ cnt) (c2 : cnt + 2 * (n + 1) ≤ 24) (e3 : x3 = (os.length : Int)) (e4 : x4 = ((n + 1 : Nat) : Int)) (hl : (spl W).length + 84 * (n + 1) + 27 ≤ C) (hk : k + 50 * (n + 1) + 5 ≤ 600) : PO2 C r hs (zY 215 191 [some (zR (some r)), some (zR (some b)), some (zR (some a)), some (zI x3), some (zI x4), some (zI y), none] [] h) := by
  obtain ⟨J, P, w, ne, ol, cc, ov⟩ := H
  have S := J.1
  have m1 := J.2.1.1.2.1
  have m0 := J.2.1.1.1
  rw [q_L_proof_191 S.2.2.2.1 (BD_nb S)]
  obtain ⟨h2, d2, E2, S2, F2⟩ := x_app hC S (tx_50 J.2.2.2.2.2.1) (by rw [wl_20]; show (spl W).length + 5 ≤ C; omega) (by omega) b
  have J2 := pj_app J S2 F2
  have f2 := F2.2.1
  have O2 := J2.2.2.2.2.2.2
  rw [E2, zbk, q_L_proof_197, gd_t (show inR (x4 + (-1)) by omega)]
  rw [tw_1, spl_ap ne] at J2
  have lV : (ctx [20]).length ≤ 84 := by decide
  refine po_le (L := [some (zR (some r)), some (zR (some b)), some (zR (some a)), some (zI x3), some (zI (x4 + (-1))), none, none]) (by exact ⟨rfl, rfl, rfl, rfl, rfl, trivial⟩) ?_
  exact IH h2 _ os d2 _ (cnt + 1) x3 _ ⟨J2, pf_hole P (by omega), wok_app w (wok_1 (by decide) (by decide)), ne_app ne, ol, by omega, ov⟩ (Or.inl (by omega)) (by omega) e3 (by omega) (by rw [← spl_ap ne, List.length_append]; omega) (by omega)
theorem pp_65 (hC : C ≤ 900) (hz : hN hs + 1000 < zVB) {n : Nat} {x3 x4 y : Int} (IH : PPH C b r a hs n) (H : PI C b r a hs k h W d os cnt) (hc : 0 ≤ cnt) (c2 : cnt + 2 * (n + 1) ≤ 24) (e3 : x3 = (os.length : Int)) (e4 : x4 = ((n + 1 : Nat) : Int)) (c3 : x3 < 3) (hl : (spl W).length + 84 * (n + 1) + 27 ≤ C) (hk : k + 50 * (n + 1) + 5 ≤ 600) : PO2 C r hs (zY 215 65 [some (zR (some r)), some (zR (some b)), some (zR (some a)), some (zI x3), some (zI x4), some (zI y), none] [] h) := by
  obtain ⟨J, P, w, ne, ol, cc, ov⟩ := H
  have S := J.1
  have m1 := J.2.1.1.2.1
  have m0 := J.2.1.1.1
  rw [q_L_proof_65 S.2.2.2.1 (BD_nb S)]
  obtain ⟨h2, d2, E2, S2, F2⟩ := x_app hC S (tx_43 J.2.2.2.2.2.1) (by rw [wl_18]; show (spl W).length + 3 ≤ C; omega) (by omega) b
  have J2 := pj_app J S2 F2
  have f2 := F2.2.1
  rw [E2, zbk, q_L_proof_71]
  obtain ⟨h5, d5, cs, E5, A5, l5, w5, S5, F5, K5, t5, g5⟩ := c_form hC J2.1 J2.2.2.2.2.2.1 J2.2.2.2.1.1 (pj_r J2) J2.2.2.2.1.2.2 (x1 := 1) (deep := 1) (by decide) (Or.inr rfl) (by rw [wl_18]; simp; omega) (by omega)
  have E5 : zC 216 [zR (some b), zI 1, zI 1, zR (some r)] h2 = some (.inl none, h5) := E5
  rw [if_neg (by decide)] at l5
  have J5 := pj_B J2 S5 F5 t5 g5
  have f5 := F5.2.1
  have Ha := J5.2.2.2.2.1
  have O5 := J5.2.2.2.2.2.2
  rw [E5, zbk0, q_L_proof_79 Ha.1 Ha.2.1, Ha.2.2.1, gd_t (show inR (x3 + 1) by omega), gd_t (by omega), gd_t (show inR (x4 + (-1)) by omega), show (x3 + 1).toNat = os.length + 1 from by omega]
  have J6 := pj_w J5 (j := os.length + 1) (v := 1) (os2 := 1 :: os) ⟨if_pos rfl, OPA_c (fun j hj => by show _ = if j = os.length + 1 then 1 else _; rw [if_neg (by omega)]) O5⟩
  rw [tw_if, spl_ap ne] at J6
  have wV : wok (18 :: cs) := wok_c (by decide) (by decide) w5
  have lV : (ctx (18 :: cs)).length ≤ 84 := by
    have := (ctx_len _ wV).2
    simp only [List.length_cons] at this
    omega
  refine po_le (L := [some (zR (some r)), some (zR (some b)), some (zR (some a)), some (zI (x3 + 1)), some (zI (x4 + (-1))), none, none]) (by exact ⟨rfl, rfl, rfl, rfl, rfl, trivial⟩) ?_
  exact IH _ _ (1 :: os) d5 _ (cnt + 1) _ _ ⟨J6, pf_if P A5 (by omega) (by omega), wok_app w wV, ne_app ne, by rw [List.length_cons]; omega, by omega, fun q hq => by
    rcases List.mem_cons.1 hq with e | e
    · exact Or.inl e
    · exact ov q e⟩ (Or.inl (by omega)) (by omega) (by rw [List.length_cons]; omega) (by omega) (by rw [← spl_ap ne, List.length_append]; omega) (by omega)
theorem pp_147 (hC : C ≤ 900) (hz : hN hs + 1000 < zVB) {n : Nat} {x3 x4 y z : Int} (IH : PPH C b r a hs n) (J : PJ C b r a hs k h (spl W) d os) (P : Pfx W os cnt) (w : wok W) (ne : W ≠ []) (ol : os.length ≤ 3) (xm : 0 ≤ z ∧ z < 3) (hc : 0 ≤ cnt) (c2 : cnt + 1 + 2 * n ≤ 24) (e3 : x3 = (os.length : Int)) (e4 : x4 = ((n + 1 : Nat) : Int)) (hl : (spl W).length + 16 + 84 * n + 27 ≤ C) (hk : k + 6 + 50 * n + 5 ≤ 600) (ov : ∀ o ∈ os, o = 1 ∨ o = 2 ∨ o = 3) : PO2 C r hs (zBack zY 215 158 161 [some (zR (some r)), some (zR (some b)), some (zR (some a)), some (zI x3), some (zI x4), some (zI y), some (zI (97 + z))] [] (zC 180 [zR (some b), zR (some (zVB + 47))] h)) := by
  have S := J.1
  have m1 := J.2.1.1.2.1
  have m0 := J.2.1.1.1
  obtain ⟨h2, d2, E2, S2, F2⟩ := x_app hC S (tx_47 J.2.2.2.2.2.1) (by show (spl W).length + 5 ≤ C; omega) (by omega) b
  have J2 := pj_app J S2 F2
  have f2 := F2.2.1
  have k2 : (spl W ++ [32, 115, 101, 116, 32]).length = (spl W).length + 5 := by rw [List.length_append]; rfl
  rw [E2, zbk, q_L_proof_161 J2.1.2.2.2.1 (BD_nb J2.1)]
  obtain ⟨h3, d3, E3, S3, F3⟩ := x_appC hC J2.1 (x := 97 + z) (by omega) (by omega) (by rw [k2]; omega) (by omega) b
  have J3 := pj_app J2 S3 F3
  have f3 := F3.2.1
  have k3 : (spl W ++ [32, 115, 101, 116, 32] ++ [97 + z]).length = (spl W).length + 6 := by rw [List.length_append, k2]; rfl
  rw [E3, zbk, q_L_proof_166 J3.1.2.2.2.1 (BD_nb J3.1)]
  obtain ⟨h4, d4, E4, S4, F4⟩ := x_app hC J3.1 (tx_48 J3.2.2.2.2.2.1) (by rw [k3]; show (spl W).length + 6 + 7 ≤ C; omega) (by omega) b
  have J4 := pj_app J3 S4 F4
  have f4 := F4.2.1
  have k4 : (spl W ++ [32, 115, 101, 116, 32] ++ [97 + z] ++ [32, 109, 105, 110, 117, 115, 32]).length = (spl W).length + 13 := by rw [List.length_append, k3]; rfl
  rw [E4, zbk, q_L_proof_171 J4.1.2.2.2.1 (BD_nb J4.1)]
  obtain ⟨h5, d5, E5, S5, F5⟩ := x_appC hC J4.1 (x := 97 + z) (by omega) (by omega) (by rw [k4]; omega) (by omega) b
  have J5 := pj_app J4 S5 F5
  have f5 := F5.2.1
  have k5 : (spl W ++ [32, 115, 101, 116, 32] ++ [97 + z] ++ [32, 109, 105, 110, 117, 115, 32] ++ [97 + z]).length = (spl W).length + 14 := by rw [List.length_append, k4]; rfl
  rw [E5, zbk, q_L_proof_176 J5.1.2.2.2.1 (BD_nb J5.1)]
  obtain ⟨h6, d6, E6, S6, F6⟩ := x_app hC J5.1 (tx_49 J5.2.2.2.2.2.1) (by rw [k5]; show (spl W).length + 14 + 2 ≤ C; omega) (by omega) b
  have J6 := pj_app J5 S6 F6
  have f6 := F6.2.1
  have O6 := J6.2.2.2.2.2.2
  have k6 : (spl W ++ [32, 115, 101, 116, 32] ++ [97 + z] ++ [32, 109, 105, 110, 117, 115, 32] ++ [97 + z] ++ [32, 49]).length = (spl W).length + 16 := by rw [List.length_append, k5]; rfl
  rw [E6, zbk, q_L_proof_181, gd_t (show inR (x4 + (-1)) by omega)]
  rw [tw_dec xm.1 xm.2, spl_ap ne] at J6
  rw [tw_dec xm.1 xm.2, spl_ap ne] at k6
  have wV : wok (17 :: (4 + z) :: [8, 4 + z, 1]) := wok_c (by decide) (by decide) (wok_c (by omega) (by omega) (wok_c (by decide) (by decide) (wok_c (by omega) (by omega) (wok_1 (by decide) (by decide)))))
  refine po_le (L := [some (zR (some r)), some (zR (some b)), some (zR (some a)), some (zI x3), some (zI (x4 + (-1))), none, none]) (by exact ⟨rfl, rfl, rfl, rfl, rfl, trivial⟩) ?_
  exact IH h6 _ os d6 _ (cnt + 1) x3 _ ⟨J6, pf_set P (by omega) (accF_dec xm.1 xm.2) (by show 3 ≤ 30; decide) (by omega), wok_app w wV, ne_app ne, ol, by omega, ov⟩ (Or.inl (by omega)) (by omega) e3 (by omega) (by rw [k6]; omega) (by omega)
theorem pp_100 (hC : C ≤ 900) (hz : hN hs + 1000 < zVB) {n : Nat} {x3 x4 y : Int} (IH : PPH C b r a hs n) (H : PI C b r a hs k h W d os cnt) (hc : 0 ≤ cnt) (c2 : cnt + 2 * (n + 1) ≤ 24) (e3 : x3 = (os.length : Int)) (e4 : x4 = ((n + 1 : Nat) : Int)) (c3 : x3 < 3) (hl : (spl W).length + 84 * (n + 1) + 27 ≤ C) (hk : k + 50 * (n + 1) + 5 ≤ 600) : PO2 C r hs (zY 215 100 [some (zR (some r)), some (zR (some b)), some (zR (some a)), some (zI x3), some (zI x4), some (zI y), none] [] h) := by
  obtain ⟨J, P, w, ne, ol, cc, ov⟩ := H
  have S := J.1
  have m1 := J.2.1.1.2.1
  have m0 := J.2.1.1.1
  rw [q_L_proof_100]
  obtain ⟨x, h1, E1, xr, n1, J1⟩ := pj_next J
  have xm := tmd (k := 3) xr.1 (by decide)
  rw [E1, zbk, q_L_proof_106 J1.1.2.2.2.1 (BD_nb J1.1), gd_t (by omega), chv xm.1 xm.2]
  generalize Int.tmod x 3 = z at xm ⊢
  obtain ⟨h2, d2, E2, S2, F2⟩ := x_app hC J1.1 (tx_44 J1.2.2.2.2.2.1) (by show (spl W).length + 12 ≤ C; omega) (by omega) b
  have J2 := pj_app J1 S2 F2
  have f2 := F2.2.1
  have k2 : (spl W ++ [32, 119, 104, 105, 108, 101, 32, 108, 116, 32, 48, 32]).length = (spl W).length + 12 := by rw [List.length_append]; rfl
  rw [E2, zbk, q_L_proof_118 J2.1.2.2.2.1 (BD_nb J2.1)]
  obtain ⟨h3, d3, E3, S3, F3⟩ := x_appC hC J2.1 (x := 97 + z) (by omega) (by omega) (by rw [k2]; omega) (by omega) b
  have J3 := pj_app J2 S3 F3
  have f3 := F3.2.1
  have k3 : (spl W ++ [32, 119, 104, 105, 108, 101, 32, 108, 116, 32, 48, 32] ++ [97 + z]).length = (spl W).length + 13 := by rw [List.length_append, k2]; rfl
  rw [E3, zbk, q_L_proof_123 J3.1.2.2.2.1 (BD_nb J3.1)]
  obtain ⟨h4, d4, E4, S4, F4⟩ := x_app hC J3.1 (tx_45 J3.2.2.2.2.2.1) (by rw [k3, wl_23]; show (spl W).length + 13 + 5 ≤ C; omega) (by omega) b
  have J4 := pj_app J3 S4 F4
  have f4 := F4.2.1
  have k4 : (spl W ++ [32, 119, 104, 105, 108, 101, 32, 108, 116, 32, 48, 32] ++ [97 + z] ++ (32 :: wlt 23)).length = (spl W).length + 18 := by rw [List.length_append, k3, wl_23]; rfl
  rw [E4, zbk, q_L_proof_128]
  obtain ⟨h5, d5, cs, E5, A5, l5, w5, S5, F5, K5, t5, g5⟩ := c_form hC J4.1 J4.2.2.2.2.2.1 J4.2.2.2.1.1 (pj_r J4) J4.2.2.2.1.2.2 (x1 := 1) (deep := 1) (by decide) (Or.inr rfl) (by rw [k4, if_neg (by decide)]; omega) (by omega)
  have E5 : zC 216 [zR (some b), zI 1, zI 1, zR (some r)] h4 = some (.inl none, h5) := E5
  rw [if_neg (by decide)] at l5
  have J5 := pj_B J4 S5 F5 t5 g5
  have f5 := F5.2.1
  have lc := (ctx_len _ w5).2
  have k5 : (spl W ++ [32, 119, 104, 105, 108, 101, 32, 108, 116, 32, 48, 32] ++ [97 + z] ++ (32 :: wlt 23) ++ ctx cs).length ≤ (spl W).length + 60 := by rw [List.length_append, k4]; omega
  rw [E5, zbk0, q_L_proof_136 J5.1.2.2.2.1 (BD_nb J5.1)]
  obtain ⟨h6, d6, E6, S6, F6⟩ := x_app hC J5.1 (tx_46 J5.2.2.2.2.2.1) (by show _ + 6 ≤ C; omega) (by omega) b
  have J6 := pj_app J5 S6 F6
  have f6 := F6.2.1
  rw [E6, zbk, q_L_proof_142 J6.1.2.2.2.1 (BD_nb J6.1)]
  obtain ⟨h7, d7, E7, S7, F7⟩ := x_appC hC J6.1 (x := 97 + z) (by omega) (by omega) (by rw [List.length_append]; show _ + 6 + 1 ≤ C; omega) (by omega) b
  have J7 := pj_app J6 S7 F7
  have f7 := F7.2.1
  have Ha := J7.2.2.2.2.1
  have O7 := J7.2.2.2.2.2.2
  rw [tw_while xm.1 xm.2, spl_ap ne] at J7
  have k7 : (spl (W ++ 19 :: ([13, 0, 4 + z] ++ 23 :: (cs ++ 24 :: [4 + z])))).length ≤ (spl W).length + 67 := by
    rw [← spl_ap ne, ← tw_while xm.1 xm.2, List.length_append, List.length_append]
    show _ + 6 + 1 ≤ _
    omega
  rw [E7, zbk, q_L_proof_147 Ha.1 Ha.2.1 J7.1.2.2.2.1 (BD_nb J7.1), Ha.2.2.1, gd_t (show inR (x3 + 1) by omega), gd_t (by omega), show (x3 + 1).toNat = os.length + 1 from by omega]
  have J8 := pj_w J7 (j := os.length + 1) (v := 2) (os2 := 2 :: os) ⟨if_pos rfl, OPA_c (fun j hj => by show _ = if j = os.length + 1 then 2 else _; rw [if_neg (by omega)]) O7⟩
  have ne8 : W ++ 19 :: ([13, 0, 4 + z] ++ 23 :: (cs ++ 24 :: [4 + z])) ≠ [] := ne_app ne
  have P8 : Pfx (W ++ 19 :: ([13, 0, 4 + z] ++ 23 :: (cs ++ 24 :: [4 + z]))) (2 :: os) (cnt + 1) := pf_while P (accF_lt xm.1 xm.2) (by show 3 ≤ 30; decide) A5 (by omega) (accF_v xm.1 xm.2) (by show 1 ≤ 30; decide) (by omega)
  have w8 : wok (19 :: ([13, 0, 4 + z] ++ 23 :: (cs ++ 24 :: [4 + z]))) := wok_c (by decide) (by decide) (wok_app (wok_c (by decide) (by decide) (wok_c (by decide) (by decide) (wok_1 (by omega) (by omega)))) (wok_c (by decide) (by decide) (wok_app w5 (wok_c (by decide) (by decide) (wok_1 (by omega) (by omega))))))
  exact pp_147 hC hz IH J8 P8 (wok_app w w8) ne8 (by rw [List.length_cons]; omega) xm (by omega) (by omega) (by rw [List.length_cons]; omega) e4 (by omega) (by omega) (fun q hq => by
    rcases List.mem_cons.1 hq with e | e
    · exact Or.inr (Or.inl e)
    · exact ov q e)
theorem pp_211 (hC : C ≤ 900) (hz : hN hs + 1000 < zVB) {n : Nat} {x3 x4 y : Int} (IH : PPH C b r a hs n) (H : PI C b r a hs k h W d os cnt) (hc : 0 < cnt) (c2 : cnt + 2 * (n + 1) ≤ 24) (e3 : x3 = (os.length : Int)) (e4 : x4 = ((n + 1 : Nat) : Int)) (c3 : 0 < x3) (hl : (spl W).length + 84 * (n + 1) + 27 ≤ C) (hk : k + 50 * (n + 1) + 5 ≤ 600) : PO2 C r hs (zY 215 211 [some (zR (some r)), some (zR (some b)), some (zR (some a)), some (zI x3), some (zI x4), some (zI y), none] [] h) := by
  obtain ⟨J, P, w, ne, ol, cc, ov⟩ := H
  have S := J.1
  have m1 := J.2.1.1.2.1
  have m0 := J.2.1.1.1
  have Ha := J.2.2.2.2.1
  match os, e3, J, P, ol, ov with
  | [], e3, _, _, _, _ => exact absurd c3 (by rw [e3]; decide)
  | o :: os, e3, J, P, ol, ov =>
    have O := J.2.2.2.2.2.2
    rw [List.length_cons] at e3 ol
    rw [q_L_proof_211 Ha.1, Ha.2.2.1, gd_t (by omega), show x3.toNat = os.length + 1 from by omega, O.1]
    by_cases c : o = 1
    · subst c
      rw [if_pos rfl, q_L_proof_218 S.2.2.2.1 (BD_nb S)]
      obtain ⟨h2, d2, E2, S2, F2⟩ := x_app hC S (tx_51 J.2.2.2.2.2.1) (by rw [wl_21]; show (spl W).length + 5 ≤ C; omega) (by omega) b
      have J2 := pj_app J S2 F2
      have f2 := F2.2.1
      have Ha2 := J2.2.2.2.2.1
      have O2 := J2.2.2.2.2.2.2
      rw [E2, zbk, q_L_proof_224 Ha2.1 Ha2.2.1, Ha2.2.2.1, gd_t (by omega), gd_t (show inR (x4 + (-1)) by omega), show x3.toNat = os.length + 1 from by omega]
      have J3 := pj_w J2 (j := os.length + 1) (v := 3) (os2 := 3 :: os) ⟨if_pos rfl, OPA_c (fun j hj => by show _ = if j = os.length + 1 then 3 else _; rw [if_neg (by omega)]) O2.2⟩
      rw [tw_1, spl_ap ne] at J3
      have lV : (ctx [21]).length ≤ 84 := by decide
      refine po_le (L := [some (zR (some r)), some (zR (some b)), some (zR (some a)), some (zI x3), some (zI (x4 + (-1))), none, none]) (by exact ⟨rfl, rfl, rfl, rfl, rfl, trivial⟩) ?_
      exact IH _ _ (3 :: os) d2 _ cnt x3 _ ⟨J3, pf_else P, wok_app w (wok_1 (by decide) (by decide)), ne_app ne, by rw [List.length_cons]; omega, cc, fun q hq => by
        rcases List.mem_cons.1 hq with e | e
        · exact Or.inr (Or.inr e)
        · exact ov q (List.mem_cons_of_mem _ e)⟩ (Or.inl hc) (by omega) (by rw [List.length_cons]; omega) (by omega) (by rw [← spl_ap ne, List.length_append]; omega) (by omega)
    · rw [if_neg c, q_L_proof_232 S.2.2.2.1 (BD_nb S)]
      obtain ⟨h2, d2, E2, S2, F2⟩ := x_app hC S (tx_52 J.2.2.2.2.2.1) (by rw [wl_22]; show (spl W).length + 4 ≤ C; omega) (by omega) b
      have J2 := pj_app J S2 F2
      have f2 := F2.2.1
      have O2 := J2.2.2.2.2.2.2
      rw [E2, zbk, q_L_proof_238, gd_t (show inR (x3 + (-1)) by omega), gd_t (show inR (x4 + (-1)) by omega)]
      have J3 := pj_os J2 O2.2
      rw [tw_1, spl_ap ne] at J3
      have lV : (ctx [22]).length ≤ 84 := by decide
      have oo := ov o (List.mem_cons_self ..)
      refine po_le (L := [some (zR (some r)), some (zR (some b)), some (zR (some a)), some (zI (x3 + (-1))), some (zI (x4 + (-1))), none, none]) (by exact ⟨rfl, rfl, rfl, rfl, rfl, trivial⟩) ?_
      exact IH _ _ os d2 _ cnt _ _ ⟨J3, pf_end (by omega) P, wok_app w (wok_1 (by decide) (by decide)), ne_app ne, by omega, cc, fun q hq => ov q (List.mem_cons_of_mem _ hq)⟩ (Or.inl hc) (by omega) (by omega) (by omega) (by rw [← spl_ap ne, List.length_append]; omega) (by omega)
theorem pp_41 (hC : C ≤ 900) (hz : hN hs + 1000 < zVB) : ∀ n : Nat, n ≤ 6 → PPH C b r a hs n
  | 0, _ => fun h W os d k cnt x3 x4 H hc c2 e3 e4 hl hk => by
    have ol := H.2.2.2.2.1
    rw [q_L_proof_41, if_neg (by omega)]
    exact pp_278 hC os h W d k x3 x4 H (hc.resolve_right fun q => absurd q.2 (Nat.not_lt_zero _)) (by omega) e3 (by omega) (by omega) hz
  | n + 1, hn => fun h W os d k cnt x3 x4 H hc c2 e3 e4 hl hk => by
    have IH := pp_41 hC hz n (by omega)
    obtain ⟨J, P, w, ne, ol, cc, ov⟩ := H
    rw [q_L_proof_41, if_pos (by omega), q_L_proof_46]
    obtain ⟨x, h1, E1, xr, n1, J1⟩ := pj_next J
    have xm := tmd (k := 7) xr.1 (by decide)
    rw [E1, zbk, q_L_proof_50, gd_t (by omega)]
    have H1 : PI C b r a hs k h1 W d os cnt := ⟨J1, P, w, ne, ol, cc, ov⟩
    generalize Int.tmod x 7 = y at xm ⊢
    by_cases y0 : y = 0
    · rw [if_pos y0, q_L_proof_60]
      by_cases c3 : x3 < 3
      · rw [if_pos c3]
        exact pp_65 hC hz IH H1 (by omega) (by omega) e3 e4 c3 hl hk
      · rw [if_neg c3, q_L_proof_89, if_neg (by omega), q_L_proof_185, if_neg (by omega), q_L_proof_201, if_neg (by omega)]
        exact pp_245 hC hz IH H1 (by omega) (by omega) e3 e4 hl hk
    · rw [if_neg y0, q_L_proof_89]
      by_cases y1 : y = 1
      · rw [if_pos y1, q_L_proof_95]
        by_cases c3 : x3 < 3
        · rw [if_pos c3]
          exact pp_100 hC hz IH H1 (by omega) (by omega) e3 e4 c3 hl hk
        · rw [if_neg c3, q_L_proof_185, if_neg (by omega), q_L_proof_201, if_neg (by omega)]
          exact pp_245 hC hz IH H1 (by omega) (by omega) e3 e4 hl hk
      · rw [if_neg y1, q_L_proof_185]
        by_cases y2 : y = 2
        · rw [if_pos y2]
          exact pp_191 hC hz IH H1 (by omega) (by omega) e3 e4 hl hk
        · rw [if_neg y2, q_L_proof_201]
          by_cases y3 : y = 3
          · rw [if_pos y3, q_L_proof_207]
            by_cases c0 : 0 < x3
            · rw [if_pos c0]
              refine pp_211 hC hz IH H1 ?_ (by omega) e3 e4 c0 hl hk
              rcases hc with q | q
              · exact q
              · rw [q.1] at e3; exact absurd c0 (by rw [e3]; decide)
            · rw [if_neg c0]
              exact pp_245 hC hz IH H1 (by omega) (by omega) e3 e4 hl hk
          · rw [if_neg y3]
            exact pp_245 hC hz IH H1 (by omega) (by omega) e3 e4 hl hk
/-- the law's proof -/
theorem c_proof (K : KS h) (r1 : hT h r = 22) (r2 : r < hN h) (r3 : hL h r = 1) (hz : hN h + 1000 < zVB) : PO2 780 r h (zC 215 [zR (some r)] h) := by
  have hC : 780 ≤ 900 := by decide
  rw [q_L_proof]
  obtain ⟨h2, E2, S2⟩ := c_initS (C := 780) hC (h0 := h) (by omega) (tx_32 K) (by decide)
  obtain ⟨fr, n0, n1, u1⟩ := SB_room S2 hC
  obtain ⟨d, B2⟩ := BD_of S2
  have R2 : RF r 9 h h2 := ⟨⟨n0, n1, by omega⟩, fun q hq _ => fr q hq⟩
  have gr := fr r (Or.inl r2)
  have K2 : KS h2 := KS_F K fr
  have lw : (wlt 25).length = 5 := by decide
  rw [E2, zbk0, q_L_proof_9]
  obtain ⟨h3, d3, c1, E3, A3, l3, w3, S3, F3, K3, t3, g3⟩ := c_form hC B2 K2 (gr.1.trans r1) (by omega) (by rw [gr.2.1]; exact r3) (x1 := 1) (deep := 2) (Nat.le_refl _) (Or.inr rfl) (by rw [lw, if_neg (by decide)]; decide) (by omega)
  have E3 : zC 216 [zR (some (hN h)), zI 1, zI 2, zR (some r)] h2 = some (.inl none, h3) := E3
  rw [if_neg (by decide)] at l3
  have f3 := F3.2.1
  have lc1 := (ctx_len _ w3).2
  rw [E3, zbk0, q_L_proof_17]
  obtain ⟨h4, d4, c2, E4, A4, l4, w4, S4, F4, K4, t4, g4⟩ := c_form hC S3 K3 t3 (by omega) g3 (x1 := 1) (deep := 2) (Nat.le_refl _) (Or.inr rfl) (by rw [List.length_append, lw, if_neg (by decide)]; omega) (by omega)
  have E4 : zC 216 [zR (some (hN h)), zI 1, zI 2, zR (some r)] h3 = some (.inl none, h4) := E4
  rw [if_neg (by decide)] at l4
  have f4 := F4.2.1
  have lc2 := (ctx_len _ w4).2
  rw [E4, zbk0, q_L_proof_24]
  have z4 := S4.2.2.1
  have R4 : RF r 69 h h4 := by
    have a1 := B2.1
    have a2 := B2.2.1
    have a3 := S3.1
    have a4 := S3.2.1
    have z3 := S3.2.2.1
    exact RF_B (k := 39) (RF_B R2 F3 (Nat.le_refl _) (by omega) (by omega) (by omega)) F4 (Nat.le_refl _) (by omega) (by omega) (by omega)
  have a5 := S4.1
  have a6 := S4.2.1
  have ta : hT (hNew h4 22 6) (hN h4) = 22 := zu1_b _ _ _
  have la : hL (hNew h4 22 6) (hN h4) = 6 := zu1_b _ _ _
  have g5 := Gs_new h4 22 6 (show r ≠ hN h4 by omega)
  have eT : wlt 25 ++ ctx c1 ++ ctx c2 = spl (25 :: (c1 ++ c2)) := by
    rw [List.append_assoc, ← ctx_app]
    rfl
  rw [eT] at S4
  have J5 : PJ 780 (hN h) r (hN h4) h 70 (hNew h4 22 6) (spl (25 :: (c1 ++ c2))) d4 [] := by
    refine ⟨BD_n S4 (by omega), ⟨⟨by have := R4.1.1; show hN h ≤ hN h4 + 1; omega, by have := R4.1.2.1; show hN h4 + 1 ≤ _; omega, by have := R4.1.2.2; show hU h4 + 6 ≤ _; omega⟩, fun q hq e => Gs_t (R4.2 q hq e) (Gs_new _ _ _ (by omega))⟩, Nat.le_refl _, ⟨g5.1.trans t4, r2, by rw [g5.2.1]; exact g4⟩, ⟨ta, Nat.lt_succ_self _, la, by omega, by omega⟩, KS_B S4 (r := hN h) (by omega) K4 (BF_n S4 (by decide)), trivial⟩
  obtain ⟨x, h6, E6, xr, n6, J6⟩ := pj_next J5
  have xm := tmd (k := 5) xr.1 (by decide)
  rw [E6, zbk, q_L_proof_36, gd_t (by omega), zwadd_e (by omega) (by omega)]
  have lS : (spl (25 :: (c1 ++ c2))).length ≤ 137 := by
    rw [← eT, List.length_append, List.length_append, lw]
    omega
  exact pp_41 hC (by omega) (2 + Int.tmod x 5).toNat (by omega) h6 _ [] d4 70 0 0 _ ⟨J6, pf_0 A3 (by omega) A4 (by omega), wok_c (by decide) (by decide) (wok_app w3 w4), by simp, by decide, by decide, fun o ho => absurd ho List.not_mem_nil⟩ (Or.inr ⟨rfl, by omega⟩) (by omega) rfl (by omega) (by omega) (by omega)
end PRF
