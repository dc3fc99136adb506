/-! The class stands for a state; what its calls may leave otherwise. -/
section CJD
variable {h h2 : zH} {p v : Nat} {n top : Int} {R N : Nat → Int} {T : Int → Int → Int} {ND : Int → BitVec 64} {c : Nat} {Ol : Nat → Nat → Int} {s0 s1 : Option (Nat → Int)} {I : Nat → Int} {m : Int} {O : List Int} {ec ep : Int} {d e : Nat} {A : FA}
def okCR (A : FA) : Bool := okCB A && rowA A 91 && rowA A 92 && rowA A 93 && rowA A 94 && rowA A 95 && rowA A 96 && rowA A 97 && !inA A 90 0 && !inA A 90 1 && !inA A 128 1 && !inA A 128 2 && rowA A 129 && !inA A 132 2
theorem CA_f (C : CA h p v n top R N) (F : Fr A h h2) (e : (okCR A && rowA A 133 && rowA A 134) = true) : CA h2 p v n top R N := by
  simp only [Bool.and_eq_true] at e
  obtain ⟨⟨e1, e2⟩, e3⟩ := e
  obtain ⟨⟨C1, C2⟩, C3⟩ := C
  refine ⟨⟨CR_f C1 F e1, ?_⟩, ?_⟩
  · rw [rJ F 133 e2]; exact C2
  · rw [rJ F 134 e3]; exact C3
theorem mutB_h {a : Nat} (h0 : 13 < a) (h1 : a < 74) : mutB a = false := by
  have : ∀ b : Fin 74, 13 < b.val → mutB b.val = false := by decide
  exact this ⟨a, h1⟩ h0
theorem HO_f (H : HO h n R c Ol s0 s1) (K : KC h) (F : Fr A h h2) (e : (okO A && rowA A 13 && !inA A 10 0 && !inA A 10 1) = true) : HO h2 n R c Ol s0 s1 := by
  simp only [Bool.and_eq_true, Bool.not_eq_true'] at e
  obtain ⟨⟨⟨e1, e2⟩, e3⟩, e4⟩ := e
  refine HO_g H K (Gw_of (W := fun a k => inA A a k = true) F (fun _ _ w => w)) (nf_A e1 h) (fun a k hw w => ?_)
  have w : inA A a k = true := w
  rcases hw with ⟨rfl, hk⟩ | ⟨h13, h74⟩
  · have : k = 0 ∨ k = 1 := by omega
    rcases this with rfl | rfl
    · rw [e3] at w; exact absurd w (by decide)
    · rw [e4] at w; exact absurd w (by decide)
  · by_cases a13 : a = 13
    · subst a13
      rw [rowA_in e2 k] at w
      exact absurd w (by decide)
    · rw [okO_in e1 (mutB_h (by omega) h74) k] at w
      exact absurd w (by decide)
/-- the input, the output -/
def CI (h : zH) (I : Nat → Int) (m : Int) : Prop := hI h 0 1 = m ∧ ∀ k : Nat, (k : Int) < m → hI h 1 k = I k
def CO (h : zH) (O : List Int) : Prop := hI h 0 3 = O.length ∧ O.length ≤ 1200 ∧ O = upto (hI h 2) 0 O.length []
/-- the class stands for this state -/
def CJ (h : zH) (p v : Nat) : MSt → Prop
  | (n, top, R, N, c, Ol, s0, s1, I, m, O, ec, ep) => CA h p v n top R N ∧ HO h n R c Ol s0 s1 ∧ (hR h 0 13 = some p ∧ hR h 0 14 = some v) ∧ (v = 85 ∨ 179 ≤ v) ∧ CI h I m ∧ CO h O ∧ hI h 0 4 = ec ∧ hI h 0 5 = ep
def okCJ (A : FA) : Bool := okCR A && rowA A 133 && rowA A 134 && rowA A 13 && !inA A 10 0 && !inA A 10 1 && rowA A 1 && rowA A 2 && !inA A 0 1 && !inA A 0 3 && !inA A 0 4 && !inA A 0 5 && !inA A 0 13 && !inA A 0 14
theorem CA_K (C : CA h p v n top R N) : KC h := CR_K (CA_C C)
theorem CA_B (C : CA h p v n top R N) : CB h p v n R N := C.1.1.1.1
theorem CJ_f {σ : MSt} (J : CJ h p v σ) (F : Fr A h h2) (e : okCJ A = true) : CJ h2 p v σ := by
  obtain ⟨n, top, R, N, c, Ol, s0, s1, I, m, O, ec, ep⟩ := σ
  unfold okCJ at e
  simp only [Bool.and_eq_true, Bool.not_eq_true'] at e
  obtain ⟨⟨⟨⟨⟨⟨⟨⟨⟨⟨⟨⟨⟨e1, e133⟩, e134⟩, e13⟩, e100⟩, e101⟩, er1⟩, er2⟩, e01⟩, e03⟩, e04⟩, e05⟩, e013⟩, e014⟩ := e
  obtain ⟨j1, j2, ⟨j3, j4⟩, j5, ⟨j6, j7⟩, ⟨j8, j9, j10⟩, j11, j12⟩ := J
  have e1' := e1
  unfold okCR okCB at e1'
  simp only [Bool.and_eq_true] at e1'
  have eo : okO A = true := e1'.1.1.1.1.1.1.1.1.1.1.1.1.1.2
  refine ⟨CA_f j1 F (by rw [e1, e133, e134]; rfl), HO_f j2 (CA_K j1) F (by rw [eo, e13, e100, e101]; rfl), ⟨(fR F 0 13 e013).trans j3, (fR F 0 14 e014).trans j4⟩, j5, ⟨(fI F 0 1 e01).trans j6, ?_⟩, ⟨(fI F 0 3 e03).trans j8, j9, ?_⟩, (fI F 0 4 e04).trans j11, (fI F 0 5 e05).trans j12⟩
  · rw [rI F 1 er1]; exact j7
  · rw [rI F 2 er2]; exact j10
section S0
variable (K : KC h) (G : Gw W0 d e h h2)
theorem s0I (K : KC h) (G : Gw W0 d e h h2) {a : Nat} (ha : a < 163) : hI h2 a = hI h a := grI G (Or.inl (by have := K.1; omega)) (fun _ => id)
theorem s0J (K : KC h) (G : Gw W0 d e h h2) {a : Nat} (ha : a < 163) : hJ h2 a = hJ h a := grJ G (Or.inl (by have := K.1; omega)) (fun _ => id)
theorem s0R (K : KC h) (G : Gw W0 d e h h2) {a : Nat} (ha : a < 163) : hR h2 a = hR h a := grR G (Or.inl (by have := K.1; omega)) (fun _ => id)
end S0
theorem CA_0 (C : CA h p v n top R N) (G : Gw W0 d e h h2) : CA h2 p v n top R N := by
  have K := CA_K C
  obtain ⟨⟨⟨⟨B, S, r1, r2⟩, t, q⟩, C2⟩, C3⟩ := C
  have k0 := K.1
  refine ⟨⟨⟨⟨CB_g B G cl_0 (fun _ _ _ _ => id) (fun _ _ _ => id) (fun _ _ _ => id) (nf_0 h), ?_, ?_, ?_⟩, ?_, ?_⟩, ?_⟩, ?_⟩
  · obtain ⟨a1, a2, a3, a4⟩ := S
    refine ⟨by rw [s0J K G (by decide)]; exact a1, by rw [s0J K G (by decide)]; exact a2, fun s q0 q1 => ?_, fun s q0 q1 k => ?_⟩
    · obtain ⟨b1, b2, b3, b4⟩ := a3 s q0 q1
      exact ⟨by rw [s0I K G (by decide)]; exact b1, FAt_g b2 G (nf_0 h) (by omega) id, by rw [s0J K G (by decide)]; exact b3, by rw [s0J K G (by decide)]; exact b4⟩
    · obtain ⟨b1, b2, b3⟩ := a4 s q0 q1 k
      exact ⟨by rw [s0J K G (by decide)]; exact b1, by rw [s0J K G (by decide)]; exact b2, by rw [s0J K G (by decide)]; exact b3⟩
  · rw [s0R K G (by decide)]; exact r1
  · rw [s0R K G (by decide)]; exact r2
  · unfold RT; rw [s0I K G (by decide)]; exact t
  · rw [s0R K G (by decide)]; exact q
  · rw [s0J K G (by decide)]; exact C2
  · rw [s0J K G (by decide)]; exact C3
theorem CJ_0 {σ : MSt} (J : CJ h p v σ) (G : Gw W0 d e h h2) : CJ h2 p v σ := by
  obtain ⟨n, top, R, N, c, Ol, s0, s1, I, m, O, ec, ep⟩ := σ
  obtain ⟨j1, j2, ⟨j3, j4⟩, j5, ⟨j6, j7⟩, ⟨j8, j9, j10⟩, j11, j12⟩ := J
  have K := CA_K j1
  refine ⟨CA_0 j1 G, HO_g j2 K G (nf_0 h) (fun _ _ _ => id), ⟨?_, ?_⟩, j5, ⟨?_, ?_⟩, ⟨?_, j9, ?_⟩, ?_, ?_⟩
  · rw [s0R K G (by decide)]; exact j3
  · rw [s0R K G (by decide)]; exact j4
  · rw [s0I K G (by decide)]; exact j6
  · rw [s0I K G (by decide)]; exact j7
  · rw [s0I K G (by decide)]; exact j8
  · rw [s0I K G (by decide)]; exact j10
  · rw [s0I K G (by decide)]; exact j11
  · rw [s0I K G (by decide)]; exact j12
/-- what the class's calls write: its own first cells, and those of programs loaded -/
def Wc : Nat → Nat → Prop := fun a _ => a < 163 ∨ 178 ≤ a ∧ a < zVB
theorem cl_c : clW Wc := fun _ _ w => w
/-- what is thrown, by the number that the law gives it -/
def t3 (a b c : Nat) : Int → Nat := fun k => if k = 1 then a else if k = 2 then b else c
/-- the class's call q answers or throws so, and stands so behind it -/
def CC (h : zH) (q : Nat) (as : List zV) (tb : Int → Nat) (r : (Int × zV) × MSt) : Prop := ∃ h2 p v, zC q (zR (some 0) :: as) h = some (if r.1.1 = 0 then .inl (some r.1.2) else .inr (tb r.1.1), h2) ∧ CJ h2 p v r.2 ∧ Gw Wc 200 4000 h h2
theorem CC_ret {σ : MSt} {q : Nat} {as : List zV} {tb : Int → Nat} {x : zV} (J : CJ h p v σ) (F : Fr A h h2) (eq : zC q (zR (some 0) :: as) h = some (.inl (some x), h2)) (e : okCJ A = true) (w : (A.all fun x => Nat.blt x.1 163) = true) : CC h q as tb ((0, x), σ) :=
  ⟨h2, p, v, eq, CJ_f J F e, Gw_m (Gw_of (W := Wc) F (fun a k i => Or.inl (by
    obtain ⟨y, hy, i⟩ := List.any_eq_true.1 i
    have := List.all_eq_true.1 w y hy
    have : y.1 < 163 := Nat.le_of_ble_eq_true this
    unfold inB at i
    simp only [Bool.and_eq_true] at i
    have : y.1 = a := Nat.eq_of_beq_eq_true i.1
    omega))) (fun _ _ _ w => w) (by decide) (by decide)⟩
theorem CC_ret0 {σ : MSt} {q : Nat} {as : List zV} {tb : Int → Nat} {x : zV} (J : CJ h p v σ) (eq : zC q (zR (some 0) :: as) h = some (.inl (some x), h)) : CC h q as tb ((0, x), σ) := CC_ret (A := []) J (Fr_r _ _) eq rfl rfl
/-- what a call writes that makes nothing -/
def Wb : Nat → Nat → Prop := fun a _ => a < 163
/-- the class's call q answers or throws so, makes nothing if it answers, and stands so behind it -/
def CW (h : zH) (q : Nat) (as : List zV) (tb : Int → Nat) (r : (Int × zV) × MSt) : Prop := ∃ h2 p v, zC q (zR (some 0) :: as) h = some (if r.1.1 = 0 then .inl (some r.1.2) else .inr (tb r.1.1), h2) ∧ CJ h2 p v r.2 ∧ Gw Wb (if r.1.1 = 0 then 0 else 1) (if r.1.1 = 0 then 0 else 6) h h2
theorem CW_ret {σ : MSt} {q : Nat} {as : List zV} {tb : Int → Nat} {x : zV} (J : CJ h p v σ) (F : Fr A h h2) (eq : zC q (zR (some 0) :: as) h = some (.inl (some x), h2)) (e : okCJ A = true) (w : (A.all fun x => Nat.blt x.1 163) = true) : CW h q as tb ((0, x), σ) :=
  ⟨h2, p, v, eq, CJ_f J F e, Gw_m (Gw_of (W := Wb) F (fun a k i => (by
    obtain ⟨y, hy, i⟩ := List.any_eq_true.1 i
    have := List.all_eq_true.1 w y hy
    have : y.1 < 163 := Nat.le_of_ble_eq_true this
    unfold inB at i
    simp only [Bool.and_eq_true] at i
    have : y.1 = a := Nat.eq_of_beq_eq_true i.1
    show a < 163
    omega))) (fun _ _ _ w => w) (Nat.zero_le _) (Nat.zero_le _)⟩
theorem CW_ret0 {σ : MSt} {q : Nat} {as : List zV} {tb : Int → Nat} {x : zV} (J : CJ h p v σ) (eq : zC q (zR (some 0) :: as) h = some (.inl (some x), h)) : CW h q as tb ((0, x), σ) := CW_ret (A := []) J (Fr_r _ _) eq rfl rfl
theorem CW_thr {σ : MSt} {q : Nat} {as : List zV} {tb : Int → Nat} {x : zV} {k : Int} (J : CJ h p v σ) (hz : hN h < zVB) (hk : k ≠ 0) (eq : zC q (zR (some 0) :: as) h = some (.inr (tb k), hNew h 0 6)) : CW h q as tb ((k, x), σ) :=
  ⟨_, p, v, by rw [eq, if_neg hk], CJ_0 J (Gw_new W0 h 0 6 hz), Gw_m (Gw_new Wb h 0 6 hz) (fun _ _ _ w => w) (by rw [if_neg hk]; exact Nat.le_refl _) (by rw [if_neg hk]; decide)⟩
theorem CW_fr {σ : MSt} {q : Nat} {as : List zV} {tb : Int → Nat} {x : zV} (J : CJ h2 p v σ) (F : Fr A h h2) (eq : zC q (zR (some 0) :: as) h = some (.inl (some x), h2)) (w : (A.all fun x => Nat.blt x.1 163) = true) : CW h q as tb ((0, x), σ) :=
  ⟨h2, p, v, eq, J, Gw_m (Gw_of (W := Wb) F (fun a k i => (by
    obtain ⟨y, hy, i⟩ := List.any_eq_true.1 i
    have := List.all_eq_true.1 w y hy
    have : y.1 < 163 := Nat.le_of_ble_eq_true this
    unfold inB at i
    simp only [Bool.and_eq_true] at i
    have : y.1 = a := Nat.eq_of_beq_eq_true i.1
    show a < 163
    omega))) (fun _ _ _ w => w) (Nat.zero_le _) (Nat.zero_le _)⟩
theorem CC_thr {σ : MSt} {q : Nat} {as : List zV} {tb : Int → Nat} {x : zV} {k : Int} (J : CJ h p v σ) (hz : hN h < zVB) (hk : k ≠ 0) (eq : zC q (zR (some 0) :: as) h = some (.inr (tb k), hNew h 0 6)) : CC h q as tb ((k, x), σ) :=
  ⟨_, p, v, by rw [eq, if_neg hk], CJ_0 J (Gw_new W0 h 0 6 hz), Gw_m (Gw_new Wc h 0 6 hz) (fun _ _ _ w => w) (by decide) (by decide)⟩
end CJD
/-! Numbers that calls ask for. -/
section REQ
variable {h h2 : zH} {p v : Nat} {n top : Int} {R N : Nat → Int} {c : Nat} {Ol : Nat → Nat → Int} {s0 s1 : Option (Nat → Int)} {I : Nat → Int} {m : Int} {O : List Int} {ec ep : Int}
theorem rq_state (K : KC h) (x : Int) : zC 170 [zR (some 0), zI x] h = if 0 ≤ x ∧ x < 64 then some (.inl none, h) else some (.inr 0, hNew h 0 6) := by
  rw [q_B_requireState K]
  by_cases c1 : x < 0
  · rw [if_pos c1, if_neg (by omega)]
  · rw [if_neg c1]
    by_cases c2 : x < 64
    · rw [if_pos c2, if_pos (by omega)]
    · rw [if_neg c2, if_neg (by omega)]
theorem rq_slot (K : KC h) (x : Int) : zC 200 [zR (some 0), zI x] h = if 0 ≤ x ∧ x ≤ 1 then some (.inl none, h) else some (.inr 0, hNew h 0 6) := by
  rw [q_B_requireSlot K]
  by_cases c1 : x < 0
  · rw [if_pos c1, if_neg (by omega)]
  · rw [if_neg c1]
    by_cases c2 : x < 2
    · rw [if_pos c2, if_pos (by omega)]
    · rw [if_neg c2, if_neg (by omega)]
theorem rq_length (K : KC h) {m : Int} (hm : hI h 0 1 = m) (x : Int) : zC 161 [zR (some 0), zI x] h = if 0 ≤ x ∧ x ≤ m then some (.inl none, h) else some (.inr 0, hNew h 0 6) := by
  rw [q_B_requireLength K, hm]
  by_cases c1 : x < 0
  · rw [if_pos c1, if_neg (by omega)]
  · rw [if_neg c1]
    by_cases c2 : m < x
    · rw [if_pos c2, if_neg (by omega)]
    · rw [if_neg c2, if_pos (by omega)]
theorem rq_statement (K : KC h) (rp : hR h 0 13 = some p) (P : PO h p n R) (x : Int) : zC 165 [zR (some 0), zI x] h = if 0 ≤ x ∧ x < n then some (.inl none, h) else some (.inr 3, hNew h 0 6) := by
  rw [q_B_requireStatement K rp (PO_S P), PO_n P]
  by_cases c1 : x < 0
  · rw [if_pos c1, if_neg (by omega)]
  · rw [if_neg c1]
    by_cases c2 : x < n
    · rw [if_pos c2, if_pos (by omega)]
    · rw [if_neg c2, if_neg (by omega)]
theorem rq_loop (K : KC h) (rp : hR h 0 13 = some p) (P : PO h p n R) (Q : Prg n top R N) (x : Int) : zC 168 [zR (some 0), zI x] h = if lpAt n R 2 x = -1 then some (.inr 3, hNew h 0 6) else some (.inl none, h) := by
  rw [q_B_requireLoop K rp (PO_S P), PO_l P]
  rcases lpAt_c Q (Or.inl rfl) x with ⟨⟨a, b⟩, c, _⟩ | ⟨a, b⟩
  · rw [if_neg (by omega), if_pos b, if_neg (by omega)]
  · unfold lpOk at a
    rw [if_pos b]
    by_cases c1 : x < 0
    · rw [if_pos c1]
    · rw [if_neg c1, if_neg (by omega)]
theorem rq_hole (K : KC h) (rp : hR h 0 13 = some p) (P : PO h p n R) (Q : Prg n top R N) (x : Int) : zC 182 [zR (some 0), zI x] h = if lpAt n R 3 x = -1 then some (.inr 3, hNew h 0 6) else some (.inl none, h) := by
  rw [q_B_requireHole K rp (PO_S P), PO_h P]
  rcases lpAt_c Q (Or.inr rfl) x with ⟨⟨a, b⟩, c, _⟩ | ⟨a, b⟩
  · rw [if_neg (by omega), if_pos b, if_neg (by omega)]
  · unfold lpOk at a
    rw [if_pos b]
    by_cases c1 : x < 0
    · rw [if_pos c1]
    · rw [if_neg c1, if_neg (by omega)]
theorem cnt_b (Q : Prg n top R N) (kd : Int) : 0 ≤ cntK R kd n.toNat ∧ cntK R kd n.toNat ≤ 24 := by
  have := zsum_b (f := fun j => if sv R j 0 = kd then 1 else 0) (u := 1) (fun k => by split <;> omega) n.toNat 0
  have w := Q.1.1
  unfold cntK
  omega
theorem rq_duty (K : KC h) (rq : hR h 132 2 = some p) (P : PO h p n R) (Q : Prg n top R N) (x : Int) : zC 173 [zR (some 0), zI x] h = if 0 ≤ x ∧ x < dmS n R then some (.inl none, h) else some (.inr 3, hNew h 0 6) := by
  have b := cnt_b Q 2
  have l := PO_l P
  rw [q_B_requireDuty K rq (PO_S P) (by omega) (by omega)]
  unfold f_D_count dmS
  rw [l]
  by_cases c1 : x < 0
  · rw [if_pos c1, if_neg (by omega)]
  · rw [if_neg c1]
    by_cases c2 : x < 1 + 3 * cntK R 2 n.toNat
    · rw [if_pos c2, if_pos (by omega)]
    · rw [if_neg c2, if_neg (by omega)]
end REQ

