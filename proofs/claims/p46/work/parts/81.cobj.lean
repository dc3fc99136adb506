/-! The class: its objects, and what they stand for. -/
section COBJ
variable {n top : Int} {R N : Nat → Int} {h h2 : zH} {A : FA}
/-- the class's cells that calls write -/
def mutB (a : Nat) : Bool := Nat.blt a 3 || (Nat.ble 5 a && Nat.blt a 11) || Nat.beq a 13 || (Nat.ble 90 a && Nat.blt a 98) || Nat.beq a 99 || Nat.beq a 100 || (Nat.ble 128 a && Nat.blt a 136) || (Nat.ble 137 a && Nat.blt a 163) || (Nat.ble 177 a && Nat.blt a 178)
def okO (A : FA) : Bool := A.all fun x => mutB x.1
theorem okO_in (e : okO A = true) {a : Nat} (m : mutB a = false) (k : Nat) : inA A a k = false := by
  unfold inA
  rw [List.any_eq_false]
  intro x hx hb
  have e1 := List.all_eq_true.mp e x hx
  have e2 : x.1 = a := by
    unfold inB at hb
    simp only [Bool.and_eq_true] at hb
    exact Nat.eq_of_beq_eq_true hb.1
  rw [e2, m] at e1
  cases e1
theorem oI (F : Fr A h h2) (e : okO A = true) {a : Nat} (m : mutB a = false) : hI h2 a = hI h a := funext fun k => fI F a k (okO_in e m k)
theorem oR (F : Fr A h h2) (e : okO A = true) {a : Nat} (m : mutB a = false) : hR h2 a = hR h a := funext fun k => fR F a k (okO_in e m k)
theorem oT (F : Fr A h h2) (a : Nat) : hT h2 a = hT h a := congrFun F.2.2.1 a
theorem oL (F : Fr A h h2) (a : Nat) : hL h2 a = hL h a := congrFun F.2.2.2.1 a
theorem oN (F : Fr A h h2) : hN h2 = hN h := F.1
theorem FS_f {f : Nat} (S : FS h f) (F : Fr A h h2) (e : okO A = true) (m : mutB f = false) : FS h2 f := by
  obtain ⟨a, b, c, d⟩ := S
  exact ⟨by rw [oT F]; exact a, by rw [oR F e m]; exact b, by rw [oT F]; exact c, by rw [oN F]; exact d⟩
/-- a formula's nodes -/
def FO (h : zH) (f : Nat) (l : List Int) : Prop := FS h f ∧ mutB f = false ∧ mutB (f + 1) = false ∧ hL h (f + 1) = l.length ∧ l = upto (hI h (f + 1)) 0 l.length []
theorem FO_f {f : Nat} {l : List Int} (S : FO h f l) (F : Fr A h h2) (e : okO A = true) : FO h2 f l := by
  obtain ⟨a, b, c, d, g⟩ := S
  exact ⟨FS_f a F e b, b, c, by rw [oL F]; exact d, by rw [oI F e c]; exact g⟩
/-- a formula stands in a place of references -/
def FAt (h : zH) (a k : Nat) (l : List Int) : Prop := ∃ f, hR h a k = some f ∧ FO h f l
theorem FAt_f {a k : Nat} {l : List Int} (S : FAt h a k l) (F : Fr A h h2) (e : okO A = true) (m : mutB a = false) : FAt h2 a k l := by
  obtain ⟨f, b, c⟩ := S
  exact ⟨f, by rw [oR F e m]; exact b, FO_f c F e⟩
def FSAt (h : zH) (a k : Nat) : Prop := ∃ f, hR h a k = some f ∧ FS h f ∧ mutB f = false
theorem FSAt_f {a k : Nat} (S : FSAt h a k) (F : Fr A h h2) (e : okO A = true) (m : mutB a = false) : FSAt h2 a k := by
  obtain ⟨f, b, c, d⟩ := S
  exact ⟨f, by rw [oR F e m]; exact b, FS_f c F e d, d⟩
theorem FO_none (K : KC h) : FO h 3 [] := ⟨FS_lit K 3 rfl, rfl, rfl, by rw [(K.2.1 4 rfl).2]; rfl, rfl⟩
def obj (a k : Nat) : Prop := ∀ j, j ≤ k → mutB (a + j) = false
/-- a program's object -/
def PO (h : zH) (p : Nat) (n : Int) (R : Nat → Int) : Prop := PS h p ∧ obj p 10 ∧ (0 ≤ n ∧ n ≤ 24) ∧ (hI h p 0 = n ∧ hI h p 1 = cntK R 2 n.toNat ∧ hI h p 2 = cntK R 3 n.toNat) ∧ (∀ s, 0 ≤ s → s < n → hI h (p + 1) s.toNat = sv R s 0 ∧ hI h (p + 2) s.toNat = sv R s 1 ∧ hI h (p + 3) s.toNat = sv R s 3 ∧ hI h (p + 4) s.toNat = sv R s 7 ∧ hI h (p + 5) s.toNat = sv R s 4 ∧ hI h (p + 6) s.toNat = sv R s 5 ∧ hI h (p + 7) s.toNat = sv R s 6 ∧ hI h (p + 8) s.toNat = thn R s ∧ (sv R s 0 = 3 → sv R s 1 = -1)) ∧ (∀ l, 0 ≤ l → l < cntK R 2 n.toNat → hI h (p + 9) l.toNat = lpAt n R 2 l)
theorem PS_f {p : Nat} (S : PS h p) (F : Fr A h h2) (e : okO A = true) (m : mutB p = false) : PS h2 p := by
  obtain ⟨a, b, c, d, g⟩ := S
  exact ⟨by rw [oT F]; exact a, by rw [oN F]; exact b, fun j hj => by rw [oT F, oL F]; exact c j hj, fun k hk => by rw [oR F e m]; exact d k hk, by rw [oR F e m]; exact g⟩
theorem PO_f {p : Nat} (S : PO h p n R) (F : Fr A h h2) (e : okO A = true) : PO h2 p n R := by
  obtain ⟨a, b, c, d, g, i⟩ := S
  refine ⟨PS_f a F e (b 0 (by decide)), b, c, ?_, ?_, ?_⟩
  · rw [oI F e (show mutB p = false from b 0 (by decide))]; exact d
  · rw [oI F e (b 1 (by decide)), oI F e (b 2 (by decide)), oI F e (b 3 (by decide)), oI F e (b 4 (by decide)), oI F e (b 5 (by decide)), oI F e (b 6 (by decide)), oI F e (b 7 (by decide)), oI F e (b 8 (by decide))]; exact g
  · rw [oI F e (b 9 (by decide))]; exact i
/-- what a statement is made of; none for a hole -/
def prtL (R N : Nat → Int) (s : Int) : List Int := if sv R s 0 = 3 then [] else lst N (2 + s)
def PA (h : zH) (p : Nat) (n : Int) (R N : Nat → Int) : Prop := ∀ s, 0 ≤ s → s < n → FAt h (p + 10) s.toNat (prtL R N s)
theorem PA_f {p : Nat} (S : PA h p n R N) (b : obj p 10) (F : Fr A h h2) (e : okO A = true) : PA h2 p n R N := fun s h0 h1 => FAt_f (S s h0 h1) F e (b 10 (by decide))
theorem VS_f {v : Nat} (S : VS h v) (F : Fr A h h2) (e : okO A = true) (m : mutB v = false) : VS h2 v := by
  obtain ⟨a, b, c, d, g⟩ := S
  exact ⟨by rw [oT F]; exact a, by rw [oN F]; exact b, fun j hj => by rw [oT F, oL F]; exact c j hj, fun k hk => by rw [oR F e m]; exact d k hk, by rw [oR F e m]; exact g⟩
/-- a version's object -/
def VO (h : zH) (v : Nat) (n : Int) (R N : Nat → Int) : Prop := VS h v ∧ obj v 4 ∧ FAt h v 0 (lst N 0) ∧ FAt h v 1 (lst N 1) ∧ (∀ s, 0 ≤ s → s < n → (sv R s 0 = 2 → FAt h (v + 1) (sv R s 7).toNat (lst N (26 + s)) ∧ FAt h (v + 2) (sv R s 7).toNat (lst N (50 + s))) ∧ (sv R s 0 = 3 → hI h (v + 3) (sv R s 7).toNat = N (2294 + s).toNat) ∧ hI h (v + 4) s.toNat = N (2318 + s).toNat) ∧ (∀ i, i < 24 → FSAt h (v + 1) i ∧ FSAt h (v + 2) i)
theorem VO_f {v : Nat} (S : VO h v n R N) (F : Fr A h h2) (e : okO A = true) : VO h2 v n R N := by
  obtain ⟨a, b, c, d, g, i⟩ := S
  refine ⟨VS_f a F e (b 0 (by decide)), b, FAt_f c F e (b 0 (by decide)), FAt_f d F e (b 0 (by decide)), fun s h0 h1 => ⟨fun k => ⟨FAt_f ((g s h0 h1).1 k).1 F e (b 1 (by decide)), FAt_f ((g s h0 h1).1 k).2 F e (b 2 (by decide))⟩, fun k => ?_, ?_⟩, fun j hj => ⟨FSAt_f (i j hj).1 F e (b 1 (by decide)), FSAt_f (i j hj).2 F e (b 2 (by decide))⟩⟩
  · rw [oI F e (b 3 (by decide))]; exact (g s h0 h1).2.1 k
  · rw [oI F e (b 4 (by decide))]; exact (g s h0 h1).2.2
/-! what the program's readers answer -/
theorem PO_S {p : Nat} (P : PO h p n R) : PS h p := P.1
theorem PO_b {p : Nat} (P : PO h p n R) : 0 ≤ n ∧ n ≤ 24 := P.2.2.1
theorem PO_n {p : Nat} (P : PO h p n R) : hI h p 0 = n := P.2.2.2.1.1
theorem PO_l {p : Nat} (P : PO h p n R) : hI h p 1 = cntK R 2 n.toNat := P.2.2.2.1.2.1
theorem PO_h {p : Nat} (P : PO h p n R) : hI h p 2 = cntK R 3 n.toNat := P.2.2.2.1.2.2
theorem PO_has {p : Nat} (P : PO h p n R) (s : Int) : b_P_has h p s ↔ 0 ≤ s ∧ s < n := by
  have := PO_n P
  have := PO_b P
  unfold b_P_has
  omega
theorem PO_kindOf {p : Nat} (P : PO h p n R) {s : Int} (h0 : 0 ≤ s) (h1 : s < n) : f_P_kindOf h p s = sv R s 0 := by
  unfold f_P_kindOf
  rw [if_pos ((PO_has P s).2 ⟨h0, h1⟩), (P.2.2.2.2.1 s h0 h1).1]
theorem PO_variableOf {p : Nat} (P : PO h p n R) {s : Int} (h0 : 0 ≤ s) (h1 : s < n) : f_P_variableOf h p s = sv R s 1 := by
  unfold f_P_variableOf
  rw [if_pos ((PO_has P s).2 ⟨h0, h1⟩), (P.2.2.2.2.1 s h0 h1).2.1]
theorem PO_parentOf {p : Nat} (P : PO h p n R) {s : Int} (h0 : 0 ≤ s) (h1 : s < n) : f_P_parentOf h p s = sv R s 3 := by
  unfold f_P_parentOf
  rw [if_pos ((PO_has P s).2 ⟨h0, h1⟩), (P.2.2.2.2.1 s h0 h1).2.2.1]
theorem PO_numberOf {p : Nat} (P : PO h p n R) {s : Int} (h0 : 0 ≤ s) (h1 : s < n) : f_P_numberOf h p s = sv R s 7 := by
  unfold f_P_numberOf
  rw [if_pos ((PO_has P s).2 ⟨h0, h1⟩), (P.2.2.2.2.1 s h0 h1).2.2.2.1]
theorem PO_nextOf {p : Nat} (P : PO h p n R) {s : Int} (h0 : 0 ≤ s) (h1 : s < n) : f_P_nextOf h p s = sv R s 4 := by
  unfold f_P_nextOf
  rw [if_pos ((PO_has P s).2 ⟨h0, h1⟩), (P.2.2.2.2.1 s h0 h1).2.2.2.2.1]
theorem PO_firstOf {p : Nat} (P : PO h p n R) {s : Int} (h0 : 0 ≤ s) (h1 : s < n) : f_P_firstOf h p s = sv R s 5 := by
  unfold f_P_firstOf
  rw [if_pos ((PO_has P s).2 ⟨h0, h1⟩), (P.2.2.2.2.1 s h0 h1).2.2.2.2.2.1]
theorem PO_secondOf {p : Nat} (P : PO h p n R) {s : Int} (h0 : 0 ≤ s) (h1 : s < n) : f_P_secondOf h p s = sv R s 6 := by
  unfold f_P_secondOf
  rw [if_pos ((PO_has P s).2 ⟨h0, h1⟩), (P.2.2.2.2.1 s h0 h1).2.2.2.2.2.2.1]
theorem PO_thenOf {p : Nat} (P : PO h p n R) {s : Int} (h0 : 0 ≤ s) (h1 : s < n) : f_P_thenOf h p s = thn R s := by
  unfold f_P_thenOf
  rw [if_pos ((PO_has P s).2 ⟨h0, h1⟩), (P.2.2.2.2.1 s h0 h1).2.2.2.2.2.2.2.1]
theorem PO_loopAt {p : Nat} (P : PO h p n R) (u : WU n R) (l : Int) : f_P_loopAt h p l = lpAt n R 2 l := by
  have hb := PO_b P
  have hl := PO_l P
  have hc := cntK_b R 2 n.toNat
  unfold f_P_loopAt
  by_cases c : l < 0
  · rw [if_pos c, lpAt_no u hb.1 (Or.inl rfl) (Or.inl c)]
  · rw [if_neg c, hl]
    by_cases d : l < cntK R 2 n.toNat
    · rw [if_pos d, if_pos (by omega), P.2.2.2.2.2 l (by omega) d]
    · rw [if_neg d, lpAt_no u hb.1 (Or.inl rfl) (Or.inr (by omega))]
theorem PO_start {p : Nat} (P : PO h p n R) (ht : (n = 0 ∧ top = -1) ∨ (0 < n ∧ top = 0)) : f_P_start h p = top := by
  have := PO_n P
  unfold f_P_start
  rcases ht with ⟨a, b⟩ | ⟨a, b⟩
  · rw [if_neg (by omega), b]
  · rw [if_pos (by omega), b]
theorem PO_partOf {p : Nat} (P : PO h p n R) (Q : PA h p n R N) {s : Int} (h0 : 0 ≤ s) (h1 : s < n) : ∃ f, f_P_partOf h p s = some f ∧ FO h f (prtL R N s) := by
  unfold f_P_partOf
  rw [if_pos ((PO_has P s).2 ⟨h0, h1⟩)]
  exact Q s h0 h1
theorem PO_entry {p : Nat} (P : PO h p n R) (w : WS n R) {s : Int} (h0 : 0 ≤ s) (h1 : s < n) (b : Bool) : f_P_entry h p s (if b = true then 1 else 0) = if sv R s 0 = 2 then (if b = true then (if sv R s 5 = -1 then s else sv R s 5) else thn R s) else (if (if b = true then sv R s 5 else sv R s 6) = -1 then thn R s else if b = true then sv R s 5 else sv R s 6) := by
  unfold f_P_entry
  rw [PO_kindOf P h0 h1, PO_thenOf P h0 h1, PO_firstOf P h0 h1, PO_secondOf P h0 h1]
  cases b <;> simp
end COBJ

