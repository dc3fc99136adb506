/-! A text of words is read without an error. -/
section RDW
variable {I : Nat → Int} {len : Int} {n top row sec last kd v : Int} {R R2 N : Nat → Int} {b : Nat}
/-- e expressions and c conditions are due: these nodes are all that is wanted -/
def accF : List Int → Nat → Nat → Prop
  | [], e, c => e = 0 ∧ c = 0
  | x :: l, e, c => ((0 < e ∧ 0 ≤ x ∧ x ≤ 9) ∨ (e = 0 ∧ 0 < c ∧ 10 ≤ x ∧ x ≤ 16)) ∧ accF l (e - (if 0 < e then 1 else 0) + exB x) (c - (if 0 < e then 0 else 1) + cdB x)
theorem adv_put (s : PSt) : (advP I len (putP b s)).1 = tok I len true s.1.2.2 ∧ (advP I len (putP b s)).2.1 = s.2.1 ∧ (advP I len (putP b s)).2.2.1.2.2.2 = upN (upN s.2.2.1.2.2.2 b (s.2.2.1.2.2.2 b + 1)) (b + (s.2.2.1.2.2.2 b + 1).toNat) s.1.1 := by
  obtain ⟨t, ⟨f, fa⟩, ⟨n, top, R, N⟩, row, sec, last⟩ := s
  exact ⟨rfl, rfl, rfl⟩
theorem fm_run : ∀ (codes : List Int) (m e c k : Nat) (s : PSt) (rest : List Int), accF codes e c → codes.length < m → s.2.2.1.2.2.2 b = (k : Int) → k + codes.length ≤ 30 → TKs I len (codes ++ rest) s.1 → (fmS I len b m e c s).2.1 = s.2.1 ∧ TKs I len rest (fmS I len b m e c s).1
  | [], 0, e, c, k, s, rest, A, hm, _, _, _ => absurd hm (Nat.not_lt_zero _)
  | [], m + 1, e, c, k, s, rest, A, hm, hk, hl, K => by
    have A : e = 0 ∧ c = 0 := A
    rw [fmS, if_pos (by omega)]
    exact ⟨rfl, K⟩
  | x :: l, 0, e, c, k, s, rest, A, hm, _, _, _ => absurd hm (Nat.not_lt_zero _)
  | x :: l, m + 1, e, c, k, s, rest, A, hm, hk, hl, K => by
    obtain ⟨a1, a2⟩ := A
    obtain ⟨t1, t2⟩ := K
    have hl : k + (l.length + 1) ≤ 30 := hl
    have hm : l.length + 1 < m + 1 := hm
    have z : fmE s.1.1 e (s.2.2.1.2.2.2 b) = 0 := by
      rw [t1, hk]
      unfold fmE
      rw [if_neg (by omega), if_pos (by omega), if_neg (by omega)]
    rw [fmS, if_neg (by omega), if_pos z, t1]
    obtain ⟨p1, p2, p3⟩ := adv_put (I := I) (len := len) (b := b) s
    have q := fm_run l m _ _ (k + 1) (advP I len (putP b s)) rest a2 (by omega) (by
      rw [p3, hk, upN_n _ _ (by omega), upN_s]
      omega) (by omega) (by rw [p1]; exact t2)
    rw [p2] at q
    exact q
theorem zer_1 (s : PSt) : (zerP b s).1 = s.1 ∧ (zerP b s).2.1 = s.2.1 ∧ (zerP b s).2.2.1.2.2.2 b = 0 := by
  obtain ⟨t, ⟨f, fa⟩, ⟨n, top, R, N⟩, row, sec, last⟩ := s
  exact ⟨rfl, rfl, upN_s _ _ _⟩
theorem for_run {q what : Int} {codes rest : List Int} {s : PSt} (A : accF codes (if what = 0 then 1 else 0) (if what = 0 then 0 else 1)) (l : codes.length ≤ 30) (K : TKs I len (codes ++ rest) s.1) : (forP I len q what s).2.1 = s.2.1 ∧ TKs I len rest (forP I len q what s).1 := by
  obtain ⟨z1, z2, z3⟩ := zer_1 (b := (31 * q).toNat) s
  have h := fm_run (I := I) (len := len) (b := (31 * q).toNat) codes 32 _ _ 0 (zerP (31 * q).toNat s) rest A (by omega) z3 (by omega) (by rw [z1]; exact K)
  rw [z2] at h
  exact h
/-- how the open statements lie in one another -/
def OPN (R : Nat → Int) : List Int → Int → Int → Prop
  | [], row, sec => row = -1 ∧ sec = 0
  | k :: os, row, sec => (row ≠ -1 ∧ (k = 1 ∧ sv R row 0 = 1 ∧ sec = 0 ∨ k = 2 ∧ sv R row 0 = 2 ∧ sec = 0 ∨ k = 3 ∧ sv R row 0 = 1 ∧ sec = 1)) ∧ OPN R os (sv R row 3) (secE R row)
theorem nx_back (w : WS n R) (e : newR kd v n row sec last R R2) (hs : sec = 0 ∨ sec = 1) (hl : last = -1 ∨ 0 ≤ last ∧ last < n) {h : Int} (hh : h = -1 ∨ 0 ≤ h ∧ h < n) : ∀ k, nx R2 k h = nx R k h ∨ nx R2 k h = n ∨ nx R2 k h = -1
  | 0 => Or.inl rfl
  | k + 1 => by
    have w0 := w.1
    rw [nx, nx]
    rcases nx_back w e hs hl hh k with a | a | a
    · rw [a]
      by_cases d : nx R k h = -1
      · rw [if_pos d, if_pos d]; exact Or.inl rfl
      · rw [if_neg d, if_neg d]
        have ir := nx_r w hh k
        by_cases l : nx R k h = last
        · refine Or.inr (Or.inl ?_)
          rw [l, e.1 last 4 (by omega) (by omega) (by decide) (by decide), if_pos ⟨by omega, rfl, rfl⟩]
        · exact Or.inl (new_4 e hs (by omega) (by omega) l)
    · rw [a, if_neg (by omega)]
      exact Or.inr (Or.inr ((e.2 4 (by decide) (by decide)).trans rfl))
    · rw [a, if_pos rfl]
      exact Or.inr (Or.inr rfl)
theorem secE_new (V : IVR n top R row sec last) (e : newR kd v n row sec last R R2) (hn : n < 24) (hk : 0 ≤ kd ∧ kd ≤ 3) (hv : kd = 0 → 0 ≤ v ∧ v ≤ 2) {x : Int} (x0 : 0 ≤ x) (x1 : x < n) (xr : x ≤ row) : secE R2 x = secE R x := by
  have w2 := (IVR_new V e hn hk hv).1
  obtain ⟨w, u, ht, hrow, hsec, hlast, h6, hop, hdj, hall⟩ := V
  have hs : sec = 0 ∨ sec = 1 := by omega
  have hl : last = -1 ∨ 0 ≤ last ∧ last < n ∧ sv R last 4 = -1 := by omega
  have e3 : sv R2 x 3 = sv R x 3 := new_o e hs x0 x1 (by decide) (by decide) (by decide) (by omega)
  unfold secE
  rw [e3]
  by_cases c : sv R x 3 = -1
  · rw [if_pos c, if_pos c]
  · rw [if_neg c, if_neg c]
    have q0 := (w.2.1 x x0 x1).2.2.1.resolve_left c
    have e6 : sv R2 (sv R x 3) 6 = sv R (sv R x 3) 6 := new_h e hs q0.1 (by omega) (Or.inr rfl) (fun z => by have := z.2.2.1; omega)
    rw [e6]
    have hh : sv R (sv R x 3) 6 = -1 ∨ 0 ≤ sv R (sv R x 3) 6 ∧ sv R (sv R x 3) 6 < n := by
      have := (w.2.1 (sv R x 3) q0.1 (by omega)).2.2.2.2.2
      omega
    have i : inS R2 x 24 (sv R (sv R x 3) 6) = true ↔ inS R x 24 (sv R (sv R x 3) 6) = true := by
      rw [inS_iff w2 (by omega) (by omega), inS_iff w hh (by omega)]
      constructor
      · intro ⟨k, hk2⟩
        rcases nx_back w e hs (by omega) hh k with a | a | a
        · exact ⟨k, a.symm.trans hk2⟩
        · omega
        · omega
      · intro ⟨k, hk2⟩
        exact ⟨k, (nx_new w e hs hl hh k (by omega)).trans hk2⟩
    by_cases d : inS R x 24 (sv R (sv R x 3) 6) = true
    · rw [if_pos d, if_pos (i.2 d)]
    · rw [if_neg d, if_neg fun z => d (i.1 z)]
theorem OPN_new (V : IVR n top R row sec last) (e : newR kd v n row sec last R R2) (hn : n < 24) (hk : 0 ≤ kd ∧ kd ≤ 3) (hv : kd = 0 → 0 ≤ v ∧ v ≤ 2) : ∀ (os : List Int) (j : Nat) (sc : Int), OPN R os (up R j row) sc → OPN R2 os (up R j row) sc
  | [], _, _, H => H
  | k :: os, j, sc, H => by
    obtain ⟨⟨h1, h2⟩, h3⟩ := H
    have V0 := V
    obtain ⟨w, u, ht, hrow, hsec, hlast, _⟩ := V0
    have hs : sec = 0 ∨ sec = 1 := by omega
    have ir := (up_rng w (s := row) (by omega) j).resolve_left h1
    have e0 : sv R2 (up R j row) 0 = sv R (up R j row) 0 := new_o e hs ir.1 ir.2.1 (by decide) (by decide) (by decide) (by omega)
    have e3 : sv R2 (up R j row) 3 = sv R (up R j row) 3 := new_o e hs ir.1 ir.2.1 (by decide) (by decide) (by decide) (by omega)
    have eu : up R (j + 1) row = sv R (up R j row) 3 := by rw [up, if_neg h1]
    refine ⟨⟨h1, by rw [e0]; exact h2⟩, ?_⟩
    rw [e3, secE_new V e hn hk hv ir.1 ir.2.1 ir.2.2, ← eu]
    rw [← eu] at h3
    exact OPN_new V e hn hk hv os (j + 1) _ h3
theorem secE_of (V : IVR n top R row sec last) (hl : last ≠ -1) : secE R last = sec ∧ sv R last 3 = row := by
  obtain ⟨w, u, ht, hrow, hsec, hlast, h6, hop, hdj, hall⟩ := V
  obtain ⟨l0, l1, l3, l4, lm⟩ := hlast.resolve_left fun q => hl q.1
  refine ⟨?_, l3⟩
  unfold secE
  rw [l3]
  by_cases c : row = -1
  · rw [if_pos c]; omega
  · rw [if_neg c]
    have hh : sv R row 6 = -1 ∨ 0 ≤ sv R row 6 ∧ sv R row 6 < n := by
      have := (w.2.1 row (by omega) (by omega)).2.2.2.2.2
      omega
    rcases hsec with d | ⟨d, _, _⟩
    · rw [h6 c d, if_neg]
      · exact d.symm
      · intro z
        have z : (if (-1 : Int) = -1 then false else if (-1 : Int) = last then true else inS R last 23 (sv R (-1) 4)) = true := z
        rw [if_pos rfl] at z
        cases z
    · unfold hdP at lm
      rw [if_neg c, d] at lm
      rw [if_pos ((inS_iff w hh hl).2 lm), d]
def PQ (I : Nat → Int) (len : Int) (ws os : List Int) (cnt : Int) (s : PSt) : Prop := s.2.1.1 = 0 ∧ TKs I len ws s.1 ∧ INV len s ∧ OPN s.2.2.1.2.2.1 os s.2.2.2.1 s.2.2.2.2.1 ∧ s.2.2.1.1 = cnt
theorem opn_1 (i : Int) (s : PSt) : (opnP i s).1 = s.1 ∧ (opnP i s).2.1 = s.2.1 ∧ (opnP i s).2.2.1 = s.2.2.1 ∧ (opnP i s).2.2.2 = (i, 0, -1) := by
  obtain ⟨t, ⟨f, fa⟩, ⟨n, top, R, N⟩, row, sec, last⟩ := s
  exact ⟨rfl, rfl, rfl, rfl⟩
theorem adv_1 (s : PSt) : (advP I len s).1 = tok I len true s.1.2.2 ∧ (advP I len s).2 = s.2 := by
  obtain ⟨t, ⟨f, fa⟩, ⟨n, top, R, N⟩, row, sec, last⟩ := s
  exact ⟨rfl, rfl⟩
theorem tak_run {w : Int} {r : List Int} {s : PSt} (hf : s.2.1.1 = 0) (K : TKs I len (w :: r) s.1) : (takP I len w s).2 = s.2 ∧ TKs I len r (takP I len w s).1 := by
  unfold takP
  rw [if_pos hf, if_pos K.1]
  exact ⟨(adv_1 s).2, by rw [(adv_1 s).1]; exact K.2⟩
/-- a formula where one is due -/
theorem forF_run {q what : Int} {codes rest : List Int} {s : PSt} (hf : s.2.1.1 = 0) (T : TV len s.1) (A : accF codes (if what = 0 then 1 else 0) (if what = 0 then 0 else 1)) (l : codes.length ≤ 30) (K : TKs I len (codes ++ rest) s.1) : (forF I len q what s).2.1.1 = 0 ∧ TKs I len rest (forF I len q what s).1 ∧ TV len (forF I len q what s).1 ∧ (forF I len q what s).2.2.1.1 = s.2.2.1.1 ∧ (forF I len q what s).2.2.1.2.2.1 = s.2.2.1.2.2.1 ∧ (forF I len q what s).2.2.2 = s.2.2.2 := by
  have e : forF I len q what s = forP I len q what s := if_pos hf
  obtain ⟨⟨k1, k2, k3, k4, k5, k6, k7⟩, _⟩ := forP_ok (I := I) (len := len) (q := q) (what := what) hf T
  obtain ⟨r1, r2⟩ := for_run (I := I) (len := len) (q := q) (what := what) (s := s) A l K
  rw [e]
  exact ⟨by rw [r1]; exact hf, r2, k6, k1, k3, k4⟩
theorem tak_T2 {w : Int} {s : PSt} (T : TV len s.1) : TV len (takP I len w s).1 := tak_T T
/-- a new statement has come -/
theorem com_1 {s : PSt} (V : INV len s) (hn : s.2.2.1.1 < 24) (hk : 0 ≤ kd ∧ kd ≤ 3) (hv : kd = 0 → 0 ≤ v ∧ v ≤ 2) (os : List Int) (O : OPN s.2.2.1.2.2.1 os s.2.2.2.1 s.2.2.2.2.1) (e2 : newR kd v s.2.2.1.1 s.2.2.2.1 s.2.2.2.2.1 s.2.2.2.2.2 s.2.2.1.2.2.1 R2) : OPN R2 os s.2.2.2.1 s.2.2.2.2.1 ∧ OPN R2 os (sv R2 s.2.2.1.1 3) (secE R2 s.2.2.1.1) ∧ sv R2 s.2.2.1.1 0 = kd ∧ s.2.2.1.1 ≠ -1 := by
  obtain ⟨t, ⟨f, fa⟩, ⟨n, top, R, N⟩, row, sec, last⟩ := s
  obtain ⟨V1, V2, T⟩ := V
  simp only at hn O e2 ⊢
  have w0 := V1.1.1
  have a := OPN_new V1 e2 hn hk hv os 0 sec O
  have V2 := IVR_new V1 e2 hn hk hv
  obtain ⟨b1, b2⟩ := secE_of V2 (by omega)
  exact ⟨a, by rw [b1, b2]; exact a, (e2.2 0 (by decide) (by decide)).trans rfl, by omega⟩
theorem com_new {s : PSt} (V : INV len s) : newR kd (-1) s.2.2.1.1 s.2.2.2.1 s.2.2.2.2.1 s.2.2.2.2.2 s.2.2.1.2.2.1 (comP kd s).2.2.1.2.2.1 := by
  obtain ⟨t, ⟨f, fa⟩, ⟨n, top, R, N⟩, row, sec, last⟩ := s
  obtain ⟨V1, V2, T⟩ := V
  have w0 := V1.1.1
  obtain ⟨_, _, _, hrow, hsec, hlast, _⟩ := V1
  show newR kd (-1) n row sec last R (comR kd n row sec last R)
  exact comR_new w0.1 (by omega) (by omega) (by omega)
theorem com_2 (s : PSt) : (comP kd s).1 = s.1 ∧ (comP kd s).2.1 = s.2.1 ∧ (comP kd s).2.2.1.1 = s.2.2.1.1 + 1 ∧ (comP kd s).2.2.2.1 = s.2.2.2.1 ∧ (comP kd s).2.2.2.2.1 = s.2.2.2.2.1 := by
  obtain ⟨t, ⟨f, fa⟩, ⟨n, top, R, N⟩, row, sec, last⟩ := s
  exact ⟨rfl, rfl, rfl, rfl, rfl⟩
theorem var_2 (i x : Int) (s : PSt) : (varP i x s).1 = s.1 ∧ (varP i x s).2.1 = s.2.1 ∧ (varP i x s).2.2.1.1 = s.2.2.1.1 ∧ (varP i x s).2.2.1.2.2.1 = upN s.2.2.1.2.2.1 (10 * i + 1).toNat x ∧ (varP i x s).2.2.2 = s.2.2.2 := by
  obtain ⟨t, ⟨f, fa⟩, ⟨n, top, R, N⟩, row, sec, last⟩ := s
  exact ⟨rfl, rfl, rfl, rfl, rfl⟩
variable {s : PSt} {ws os codes : List Int} {cnt : Int}
theorem INV_T (V : INV len s) : TV len s.1 := by
  obtain ⟨t, ⟨f, fa⟩, ⟨n, top, R, N⟩, row, sec, last⟩ := s
  exact V.2.2
theorem INV_0 (V : INV len s) : 0 ≤ s.2.2.1.1 := (INV_n V).1
theorem st_set {x : Int} (H : PQ I len (17 :: x :: (codes ++ ws)) os cnt s) (hx : 4 ≤ x ∧ x ≤ 6) (A : accF codes 1 0) (l : codes.length ≤ 30) (hc : cnt < 24) : PQ I len ws os (cnt + 1) (stpP I len s) := by
  obtain ⟨hf, K, V, O, rfl⟩ := H
  have ok := stpP_ok (I := I) V hf
  have e : stpP I len s = setP I len s := by
    unfold stpP stmP
    rw [if_pos (by rw [K.1]; decide), if_neg (by omega), if_pos K.1]
  have n0 := INV_0 V
  obtain ⟨c1, c2, c3, c4, c5⟩ := com_2 (kd := 0) s
  obtain ⟨a1, a2⟩ := adv_1 (I := I) (len := len) (comP 0 s)
  rw [c1] at a1
  have tx : (advP I len (comP 0 s)).1.1 = x := by rw [a1]; exact K.2.1
  have e2 : setP I len s = forP I len (2 + s.2.2.1.1) 0 (advP I len (varP s.2.2.1.1 (x - 4) (advP I len (comP 0 s)))) := by
    unfold setP
    rw [tx, if_pos hx]
  obtain ⟨v1, v2, v3, v4, v5⟩ := var_2 s.2.2.1.1 (x - 4) (advP I len (comP 0 s))
  obtain ⟨b1, b2⟩ := adv_1 (I := I) (len := len) (varP s.2.2.1.1 (x - 4) (advP I len (comP 0 s)))
  have T0 := INV_T V
  have T1 : TV len (advP I len (comP 0 s)).1 := adv_T (by rw [c1]; exact T0)
  have T2 : TV len (advP I len (varP s.2.2.1.1 (x - 4) (advP I len (comP 0 s)))).1 := adv_T (by rw [v1]; exact T1)
  have K2 : TKs I len (codes ++ ws) (advP I len (varP s.2.2.1.1 (x - 4) (advP I len (comP 0 s)))).1 := by
    rw [b1, v1, a1]; exact K.2.2
  have hf2 : (advP I len (varP s.2.2.1.1 (x - 4) (advP I len (comP 0 s)))).2.1.1 = 0 := by
    rw [b2, v2, a2, c2]; exact hf
  obtain ⟨r1, r2⟩ := for_run (I := I) (len := len) (q := 2 + s.2.2.1.1) (what := 0) A l K2
  obtain ⟨⟨k1, k2, k3, k4, k5, k6, k7⟩, _⟩ := forP_ok (I := I) (len := len) (q := 2 + s.2.2.1.1) (what := 0) hf2 T2
  have nr := newR_var (v2 := x - 4) n0 (com_new (kd := 0) V)
  obtain ⟨o1, o2, o3, o4⟩ := com_1 V (by omega) (by decide) (fun _ => by omega) os O nr
  have er : (stpP I len s).2.1.1 = 0 := by rw [e, e2, r1]; exact hf2
  refine ⟨er, by rw [e, e2]; exact r2, (ok.2 er).1, ?_, ?_⟩
  · rw [e, e2, k3, k4, b2, v4, v5, a2, c4, c5]
    exact o1
  · rw [e, e2, k1, b2, v3, a2, c3]
theorem st_hole (H : PQ I len (20 :: ws) os cnt s) (hc : cnt < 24) : PQ I len ws os (cnt + 1) (stpP I len s) := by
  obtain ⟨hf, K, V, O, rfl⟩ := H
  have ok := stpP_ok (I := I) V hf
  have k1 : s.1.1 = 20 := K.1
  have e : stpP I len s = advP I len (comP 3 s) := by
    unfold stpP stmP
    rw [if_pos (by rw [k1]; decide), if_neg (by omega), if_neg (by omega), if_neg (by omega), if_neg (by omega)]
  obtain ⟨c1, c2, c3, c4, c5⟩ := com_2 (kd := 3) s
  obtain ⟨a1, a2⟩ := adv_1 (I := I) (len := len) (comP 3 s)
  obtain ⟨o1, o2, o3, o4⟩ := com_1 (v := -1) V (by omega) (by decide) (fun q => absurd q (by decide)) os O (com_new (kd := 3) V)
  have er : (stpP I len s).2.1.1 = 0 := by rw [e, a2, c2]; exact hf
  refine ⟨er, by rw [e, a1, c1]; exact K.2, (ok.2 er).1, ?_, ?_⟩
  · rw [e, a2, c4, c5]; exact o1
  · rw [e, a2, c3]
theorem st_if (H : PQ I len (18 :: (codes ++ ws)) os cnt s) (A : accF codes 0 1) (l : codes.length ≤ 30) (hc : cnt < 24) : PQ I len ws (1 :: os) (cnt + 1) (stpP I len s) := by
  obtain ⟨hf, K, V, O, rfl⟩ := H
  have ok := stpP_ok (I := I) V hf
  have k1 : s.1.1 = 18 := K.1
  have e : stpP I len s = iffP I len s := by
    unfold stpP stmP
    rw [if_pos (by rw [k1]; decide), if_neg (by omega), if_neg (by omega), if_pos k1]
  obtain ⟨c1, c2, c3, c4, c5⟩ := com_2 (kd := 1) s
  obtain ⟨a1, a2⟩ := adv_1 (I := I) (len := len) (comP 1 s)
  obtain ⟨o1, o2, o3, o4⟩ := com_1 (v := -1) V (by omega) (by decide) (fun q => absurd q (by decide)) os O (com_new (kd := 1) V)
  have hf2 : (advP I len (comP 1 s)).2.1.1 = 0 := by rw [a2, c2]; exact hf
  have T2 : TV len (advP I len (comP 1 s)).1 := adv_T (by rw [c1]; exact INV_T V)
  obtain ⟨r1, r2⟩ := for_run (I := I) (len := len) (q := 2 + s.2.2.1.1) (what := 1) (s := advP I len (comP 1 s)) (codes := codes) (rest := ws) A l (by rw [a1, c1]; exact K.2)
  obtain ⟨⟨q1, q2, q3, q4, q5, q6, q7⟩, _⟩ := forP_ok (I := I) (len := len) (q := 2 + s.2.2.1.1) (what := 1) hf2 T2
  obtain ⟨p1, p2, p3, p4⟩ := opn_1 s.2.2.1.1 (forP I len (2 + s.2.2.1.1) 1 (advP I len (comP 1 s)))
  have er : (stpP I len s).2.1.1 = 0 := by
    rw [e]
    show (opnP s.2.2.1.1 (forP I len (2 + s.2.2.1.1) 1 (advP I len (comP 1 s)))).2.1.1 = 0
    rw [p2, r1]; exact hf2
  refine ⟨er, ?_, (ok.2 er).1, ?_, ?_⟩
  · rw [e]
    show TKs I len ws (opnP s.2.2.1.1 (forP I len (2 + s.2.2.1.1) 1 (advP I len (comP 1 s)))).1
    rw [p1]; exact r2
  · rw [e]
    show OPN (opnP s.2.2.1.1 (forP I len (2 + s.2.2.1.1) 1 (advP I len (comP 1 s)))).2.2.1.2.2.1 (1 :: os) (opnP s.2.2.1.1 (forP I len (2 + s.2.2.1.1) 1 (advP I len (comP 1 s)))).2.2.2.1 (opnP s.2.2.1.1 (forP I len (2 + s.2.2.1.1) 1 (advP I len (comP 1 s)))).2.2.2.2.1
    rw [p3, p4, q3, a2]
    exact ⟨⟨o4, Or.inl ⟨rfl, o3, rfl⟩⟩, o2⟩
  · rw [e]
    show (opnP s.2.2.1.1 (forP I len (2 + s.2.2.1.1) 1 (advP I len (comP 1 s)))).2.2.1.1 = _
    rw [p3, q1, a2, c3]
theorem st_while {c2 c3 : List Int} (H : PQ I len (19 :: (codes ++ 23 :: (c2 ++ 24 :: (c3 ++ ws)))) os cnt s) (A : accF codes 0 1) (l : codes.length ≤ 30) (A2 : accF c2 0 1) (l2 : c2.length ≤ 30) (A3 : accF c3 1 0) (l3 : c3.length ≤ 30) (hc : cnt < 24) : PQ I len ws (2 :: os) (cnt + 1) (stpP I len s) := by
  obtain ⟨hf, K, V, O, rfl⟩ := H
  have ok := stpP_ok (I := I) V hf
  have k1 : s.1.1 = 19 := K.1
  have e : stpP I len s = whlP I len s := by
    unfold stpP stmP
    rw [if_pos (by rw [k1]; decide), if_neg (by omega), if_neg (by omega), if_neg (by omega), if_pos k1]
  obtain ⟨d1, d2, d3, d4, d5⟩ := com_2 (kd := 2) s
  obtain ⟨a1, a2⟩ := adv_1 (I := I) (len := len) (comP 2 s)
  obtain ⟨o1, o2, o3, o4⟩ := com_1 (v := -1) V (by omega) (by decide) (fun q => absurd q (by decide)) os O (com_new (kd := 2) V)
  have hf2 : (advP I len (comP 2 s)).2.1.1 = 0 := by rw [a2, d2]; exact hf
  have T2 : TV len (advP I len (comP 2 s)).1 := adv_T (by rw [d1]; exact INV_T V)
  have f1 := forF_run (I := I) (len := len) (q := 2 + s.2.2.1.1) (what := 1) (rest := 23 :: (c2 ++ 24 :: (c3 ++ ws))) hf2 T2 A l (by rw [a1, d1]; exact K.2)
  have e1 : forP I len (2 + s.2.2.1.1) 1 (advP I len (comP 2 s)) = forF I len (2 + s.2.2.1.1) 1 (advP I len (comP 2 s)) := (if_pos hf2).symm
  have e3 : whlP I len s = opnP s.2.2.1.1 (forF I len (50 + s.2.2.1.1) 0 (takP I len 24 (forF I len (26 + s.2.2.1.1) 1 (takP I len 23 (forF I len (2 + s.2.2.1.1) 1 (advP I len (comP 2 s))))))) := by
    unfold whlP
    rw [e1]
  generalize forF I len (2 + s.2.2.1.1) 1 (advP I len (comP 2 s)) = X1 at f1 e3
  obtain ⟨g1, g2, g3, g4, g5, g6⟩ := f1
  have t1 := tak_run g1 g2
  have tt1 := tak_T2 (I := I) (w := 23) g3
  generalize takP I len 23 X1 = X2 at t1 tt1 e3
  have f2 := forF_run (I := I) (len := len) (q := 26 + s.2.2.1.1) (what := 1) (rest := 24 :: (c3 ++ ws)) (s := X2) (by rw [t1.1]; exact g1) tt1 A2 l2 t1.2
  generalize forF I len (26 + s.2.2.1.1) 1 X2 = X3 at f2 e3
  obtain ⟨m1, m2, m3, m4, m5, m6⟩ := f2
  have t2 := tak_run m1 m2
  have tt2 := tak_T2 (I := I) (w := 24) m3
  generalize takP I len 24 X3 = X4 at t2 tt2 e3
  have f3 := forF_run (I := I) (len := len) (q := 50 + s.2.2.1.1) (what := 0) (rest := ws) (s := X4) (by rw [t2.1]; exact m1) tt2 A3 l3 t2.2
  generalize forF I len (50 + s.2.2.1.1) 0 X4 = X5 at f3 e3
  obtain ⟨j1, j2, j3, j4, j5, j6⟩ := f3
  obtain ⟨p1, p2, p3, p4⟩ := opn_1 s.2.2.1.1 X5
  have er : (stpP I len s).2.1.1 = 0 := by rw [e, e3, p2]; exact j1
  refine ⟨er, by rw [e, e3, p1]; exact j2, (ok.2 er).1, ?_, ?_⟩
  · rw [e, e3, p3, p4, j5, t2.1, m5, t1.1, g5, a2]
    exact ⟨⟨o4, Or.inr (Or.inl ⟨rfl, o3, rfl⟩)⟩, o2⟩
  · rw [e, e3, p3, j4, t2.1, m4, t1.1, g4, a2, d3]
theorem clt_1 (s : PSt) : (cltP s).1 = s.1 ∧ (cltP s).2.1 = s.2.1 ∧ (cltP s).2.2.1 = s.2.2.1 ∧ ((cltP s).2.2.2.1 = if sv s.2.2.1.2.2.1 s.2.2.2.1 0 = 1 ∧ s.2.2.2.2.1 = 0 then s.2.2.2.1 else sv s.2.2.1.2.2.1 s.2.2.2.1 3) ∧ ((cltP s).2.2.2.2.1 = if sv s.2.2.1.2.2.1 s.2.2.2.1 0 = 1 ∧ s.2.2.2.2.1 = 0 then 1 else secE s.2.2.1.2.2.1 s.2.2.2.1) := by
  obtain ⟨t, ⟨f, fa⟩, ⟨n, top, R, N⟩, row, sec, last⟩ := s
  unfold cltP
  simp only
  by_cases c : sv R row 0 = 1 ∧ sec = 0
  · rw [if_pos c]
    simp only [if_pos c]
    exact ⟨trivial, trivial, trivial, trivial, trivial⟩
  · rw [if_neg c]
    simp only [if_neg c]
    exact ⟨trivial, trivial, trivial, trivial, trivial⟩
theorem clB_1 (s : PSt) : clB s = (decide (s.2.2.2.1 ≠ -1) && (if sv s.2.2.1.2.2.1 s.2.2.2.1 0 = 1 ∧ s.2.2.2.2.1 = 0 then decide (s.1.1 = 21) else decide (s.1.1 = 22))) := by
  obtain ⟨t, ⟨f, fa⟩, ⟨n, top, R, N⟩, row, sec, last⟩ := s
  rfl
theorem st_else (H : PQ I len (21 :: ws) (1 :: os) cnt s) : PQ I len ws (3 :: os) cnt (stpP I len s) := by
  obtain ⟨hf, K, V, O, rfl⟩ := H
  have ok := stpP_ok (I := I) V hf
  have k1 : s.1.1 = 21 := K.1
  obtain ⟨⟨r0, r1⟩, O2⟩ := O
  have c : sv s.2.2.1.2.2.1 s.2.2.2.1 0 = 1 ∧ s.2.2.2.2.1 = 0 := by
    rcases r1 with q | q | q
    · exact q.2
    · exact absurd q.1 (by decide)
    · exact absurd q.1 (by decide)
  have cb : clB s = true := by
    rw [clB_1, if_pos c, k1, decide_eq_true r0]
    rfl
  have e : stpP I len s = advP I len (cltP s) := by
    unfold stpP
    rw [if_neg (by omega), if_pos cb]
  obtain ⟨b1, b2, b3, b4, b5⟩ := clt_1 s
  rw [if_pos c] at b4 b5
  obtain ⟨a1, a2⟩ := adv_1 (I := I) (len := len) (cltP s)
  have er : (stpP I len s).2.1.1 = 0 := by rw [e, a2, b2]; exact hf
  refine ⟨er, by rw [e, a1, b1]; exact K.2, (ok.2 er).1, ?_, by rw [e, a2, b3]⟩
  rw [e, a2, b3, b4, b5]
  exact ⟨⟨r0, Or.inr (Or.inr ⟨rfl, c.1, rfl⟩)⟩, O2⟩
theorem st_end {k : Int} (hk : k = 2 ∨ k = 3) (H : PQ I len (22 :: ws) (k :: os) cnt s) : PQ I len ws os cnt (stpP I len s) := by
  obtain ⟨hf, K, V, O, rfl⟩ := H
  have ok := stpP_ok (I := I) V hf
  have k1 : s.1.1 = 22 := K.1
  obtain ⟨⟨r0, r1⟩, O2⟩ := O
  have c : ¬ (sv s.2.2.1.2.2.1 s.2.2.2.1 0 = 1 ∧ s.2.2.2.2.1 = 0) := by omega
  have cb : clB s = true := by
    rw [clB_1, if_neg c, k1, decide_eq_true r0]
    rfl
  have e : stpP I len s = advP I len (cltP s) := by
    unfold stpP
    rw [if_neg (by omega), if_pos cb]
  obtain ⟨b1, b2, b3, b4, b5⟩ := clt_1 s
  rw [if_neg c] at b4 b5
  obtain ⟨a1, a2⟩ := adv_1 (I := I) (len := len) (cltP s)
  have er : (stpP I len s).2.1.1 = 0 := by rw [e, a2, b2]; exact hf
  refine ⟨er, by rw [e, a1, b1]; exact K.2, (ok.2 er).1, ?_, by rw [e, a2, b3]⟩
  rw [e, a2, b3, b4, b5]
  exact O2
/-- the words so far: they open these statements, and are so many statements -/
def Pfx (W os : List Int) (cnt : Int) : Prop := ∀ (I : Nat → Int) (len fa : Int) (R : Nat → Int) (ws : List Int), 0 ≤ len → len ≤ 800 → TKs I len (W ++ ws) (tok I len false 0) → ∃ s k, PQ I len ws os cnt s ∧ k ≤ W.length ∧ ∀ m, runP I len (k + m) (forF I len 1 1 (forF I len 0 1 (takP I len 25 (begS I len fa R)))) = runP I len m s
theorem pf_0 {c1 c2 : List Int} (A1 : accF c1 0 1) (l1 : c1.length ≤ 30) (A2 : accF c2 0 1) (l2 : c2.length ≤ 30) : Pfx (25 :: (c1 ++ c2)) [] 0 := fun I len fa R ws h0 h8 K => by
  have V := txt_V3 (I := I) (fa := fa) (R := R) h0
  have T0 := (tok_TV (I := I) (len := len) (b := false) (e := 0) (Int.le_refl _) h0).1
  have T0 : TV len (begS I len fa R).1 := T0
  have K : TKs I len (25 :: (c1 ++ (c2 ++ ws))) (begS I len fa R).1 := by
    rw [← List.append_assoc]
    exact K
  have t1 := tak_run (s := begS I len fa R) rfl K
  have tt1 := tak_T2 (I := I) (w := 25) T0
  generalize takP I len 25 (begS I len fa R) = X1 at t1 tt1 V ⊢
  have f1 := forF_run (I := I) (len := len) (q := 0) (what := 1) (rest := c2 ++ ws) (s := X1) (by rw [t1.1]; rfl) tt1 A1 l1 t1.2
  generalize forF I len 0 1 X1 = X2 at f1 V ⊢
  obtain ⟨g1, g2, g3, g4, g5, g6⟩ := f1
  have f2 := forF_run (I := I) (len := len) (q := 1) (what := 1) (rest := ws) (s := X2) g1 g3 A2 l2 g2
  generalize forF I len 1 1 X2 = X3 at f2 V ⊢
  obtain ⟨m1, m2, m3, m4, m5, m6⟩ := f2
  refine ⟨X3, 0, ⟨m1, m2, V m1, ?_, ?_⟩, Nat.zero_le _, fun m => by rw [Nat.zero_add]⟩
  · rw [m6, g6, t1.1]
    exact ⟨rfl, rfl⟩
  · rw [m4, g4, t1.1]
    rfl
theorem pf_s {W W2 os os2 : List Int} {cnt cnt2 : Int} (P : Pfx W os cnt) (hW : 1 ≤ W2.length) (S : ∀ (I : Nat → Int) (len : Int) (ws : List Int) (s : PSt), PQ I len (W2 ++ ws) os cnt s → s.1.1 ≠ -2 ∧ PQ I len ws os2 cnt2 (stpP I len s)) : Pfx (W ++ W2) os2 cnt2 := fun I len fa R ws h0 h8 K => by
  rw [List.append_assoc] at K
  obtain ⟨s, k, H, hk, E⟩ := P I len fa R (W2 ++ ws) h0 h8 K
  obtain ⟨ne, H2⟩ := S I len ws s H
  refine ⟨stpP I len s, k + 1, H2, by rw [List.length_append]; omega, fun m => ?_⟩
  rw [show k + 1 + m = k + (m + 1) from by omega, E, runP, if_pos H.1, if_neg ne]
theorem pf_set {W os codes : List Int} {cnt x : Int} (P : Pfx W os cnt) (hx : 4 ≤ x ∧ x ≤ 6) (A : accF codes 1 0) (l : codes.length ≤ 30) (hc : cnt < 24) : Pfx (W ++ 17 :: x :: codes) os (cnt + 1) :=
  pf_s P (by simp) fun I len ws s H => ⟨by have : s.1.1 = 17 := H.2.1.1; omega, st_set H hx A l hc⟩
theorem pf_if {W os codes : List Int} {cnt : Int} (P : Pfx W os cnt) (A : accF codes 0 1) (l : codes.length ≤ 30) (hc : cnt < 24) : Pfx (W ++ 18 :: codes) (1 :: os) (cnt + 1) :=
  pf_s P (by simp) fun I len ws s H => ⟨by have : s.1.1 = 18 := H.2.1.1; omega, st_if H A l hc⟩
theorem pf_while {W os codes c2 c3 : List Int} {cnt : Int} (P : Pfx W os cnt) (A : accF codes 0 1) (l : codes.length ≤ 30) (A2 : accF c2 0 1) (l2 : c2.length ≤ 30) (A3 : accF c3 1 0) (l3 : c3.length ≤ 30) (hc : cnt < 24) : Pfx (W ++ 19 :: (codes ++ 23 :: (c2 ++ 24 :: c3))) (2 :: os) (cnt + 1) :=
  pf_s P (by simp) fun I len ws s H => by
    have H : PQ I len (19 :: (codes ++ 23 :: (c2 ++ 24 :: (c3 ++ ws)))) os cnt s := by
      simpa [List.append_assoc] using H
    exact ⟨by have : s.1.1 = 19 := H.2.1.1; omega, st_while H A l A2 l2 A3 l3 hc⟩
theorem pf_hole {W os : List Int} {cnt : Int} (P : Pfx W os cnt) (hc : cnt < 24) : Pfx (W ++ [20]) os (cnt + 1) :=
  pf_s P (by simp) fun I len ws s H => ⟨by have : s.1.1 = 20 := H.2.1.1; omega, st_hole H hc⟩
theorem pf_else {W os : List Int} {cnt : Int} (P : Pfx W (1 :: os) cnt) : Pfx (W ++ [21]) (3 :: os) cnt :=
  pf_s P (by simp) fun I len ws s H => ⟨by have : s.1.1 = 21 := H.2.1.1; omega, st_else H⟩
theorem pf_end {W os : List Int} {cnt k : Int} (hk : k = 2 ∨ k = 3) (P : Pfx W (k :: os) cnt) : Pfx (W ++ [22]) os cnt :=
  pf_s P (by simp) fun I len ws s H => ⟨by have : s.1.1 = 22 := H.2.1.1; omega, st_end hk H⟩
/-- a whole text -/
theorem pf_txt {W : List Int} {cnt : Int} (P : Pfx W [] cnt) (hW : W.length ≤ 800) {I : Nat → Int} {len fa : Int} {R : Nat → Int} (h0 : 0 ≤ len) (h8 : len ≤ 800) (K : TKs I len W (tok I len false 0)) : (txtP I len (begS I len fa R)).2.1.1 = 0 ∧ (txtP I len (begS I len fa R)).2.2.1.1 = cnt := by
  obtain ⟨s, k, ⟨hf, hT, V, O, hc⟩, hk, E⟩ := P I len fa R [] h0 h8 (by rw [List.append_nil]; exact K)
  have hT : s.1.1 = -2 := hT
  have e : runP I len 800 (forF I len 1 1 (forF I len 0 1 (takP I len 25 (begS I len fa R)))) = s := by
    rw [show 800 = k + (800 - k) from by omega, E]
    cases 800 - k with
    | zero => rfl
    | succ m => rw [runP, if_pos hf, if_pos hT]
  unfold txtP
  rw [e]
  unfold finP
  rw [if_pos hf, if_pos O.1]
  exact ⟨hf, hc⟩
/-- one formula alone -/
theorem al_run {q what : Int} {codes : List Int} {N : Nat → Int} (A : accF codes (if what = 0 then 1 else 0) (if what = 0 then 0 else 1)) (l : codes.length ≤ 30) (K : TKs I len codes (tok I len false 0)) : alE I len q what N = 0 := by
  have r := for_run (I := I) (len := len) (q := q) (what := what) (rest := []) (s := (tok I len false 0, (0, 0), (0, 0, N, N), 0, 0, 0)) A l (by rw [List.append_nil]; exact K)
  rw [forP_T] at r
  have r1 : (forT I len q what N).2.1 = (0, 0) := r.1
  have r2 : (forT I len q what N).1.1 = -2 := r.2
  unfold alE
  rw [r1, if_pos rfl, if_pos r2]
theorem al_12 {N : Nat → Int} {q : Int} (K : TKs I len [12, 4] (tok I len false 0)) : ¬ alE I len q 1 N = 0 := by
  obtain ⟨k1, k2, k3⟩ := K
  have k3 : (tok I len true (tok I len true (tok I len false 0).2.2).2.2).1 = -2 := k3
  have e : (forT I len q 1 N).2.1.1 = 1 := by
    unfold forT
    rw [if_neg (by decide), if_neg (by decide), fmT, if_neg (by decide), k1, upN_s, if_pos (by decide), fmT, if_neg (by decide), k2]
    have u1 : upN (upN (upN N (31 * q).toNat 0) (31 * q).toNat (0 + 1)) ((31 * q).toNat + (0 + 1 : Int).toNat) 12 (31 * q).toNat = 1 := by
      rw [upN_n _ _ (by omega), upN_s]; rfl
    rw [u1, if_pos (by decide), fmT, if_neg (by decide), k3]
    have u2 : ∀ (M : Nat → Int) (x : Int), upN (upN M (31 * q).toNat (1 + 1)) ((31 * q).toNat + (1 + 1 : Int).toNat) x (31 * q).toNat = 2 := fun M x => by
      rw [upN_n _ _ (by omega), upN_s]; rfl
    rw [u2, if_neg (by decide)]
    rfl
  unfold alE
  rw [if_neg (by omega), e]
  decide
theorem al_14 {N : Nat → Int} {q : Int} (K : TKs I len [14, 4] (tok I len false 0)) : ¬ alE I len q 1 N = 0 := by
  obtain ⟨k1, k2, k3⟩ := K
  have e : (forT I len q 1 N).2.1.1 = 1 := by
    unfold forT
    rw [if_neg (by decide), if_neg (by decide), fmT, if_neg (by decide), k1, upN_s, if_pos (by decide), fmT, if_neg (by decide), k2]
    have u1 : upN (upN (upN N (31 * q).toNat 0) (31 * q).toNat (0 + 1)) ((31 * q).toNat + (0 + 1 : Int).toNat) 14 (31 * q).toNat = 1 := by
      rw [upN_n _ _ (by omega), upN_s]; rfl
    rw [u1, if_neg (by decide)]
    rfl
  unfold alE
  rw [if_neg (by omega), e]
  decide
end RDW
