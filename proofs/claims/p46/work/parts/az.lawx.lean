/-! What stands beside: rows and parts of programs; answers' kinds. -/
section XST
variable {h h2 : zH} {p v : Nat} {n top : Int} {R N N2 : Nat → Int} {c c2 : Nat} {Ol Ol2 : Nat → Nat → Int} {s0 s1 s2 s3 : Option (Nat → Int)} {I I2 : Nat → Int} {m m2 : Int} {O O2 : List Int} {ec ep : Int} {W : Nat → Nat → Prop} {d e : Nat} {A : FA}
def XS : MSt → Prop
  | (n, top, R, N, c, Ol, s0, s1, I, m, O, ec, ep) => RX n R ∧ (∀ i, i < c → smP n R N (Ol i)) ∧ (∀ N2, s0 = some N2 → smP n R N N2) ∧ (∀ N2, s1 = some N2 → smP n R N N2)
theorem XS_chg {σ : MSt} (X : XS σ) {N2 : Nat → Int} (S : smP σ.1 σ.2.2.1 σ.2.2.2.1 N2) : XS (chg N2 σ) := by
  obtain ⟨n, top, R, N, c, Ol, s0, s1, I, m, O, ec, ep⟩ := σ
  obtain ⟨x1, x2, x3, x4⟩ := X
  have S : smP n R N N2 := S
  refine ⟨x1, fun i hi => ?_, fun N3 q => smP_t (smP_s S) (x3 N3 q), fun N3 q => smP_t (smP_s S) (x4 N3 q)⟩
  cases i with
  | zero => exact smP_s S
  | succ i => exact smP_t (smP_s S) (x2 i (by unfold psc at hi; split at hi <;> omega))
theorem XS_io (X : XS (n, top, R, N, c, Ol, s0, s1, I, m, O, ec, ep)) {I2 : Nat → Int} {m2 : Int} {O2 : List Int} {ec2 ep2 : Int} : XS (n, top, R, N, c, Ol, s0, s1, I2, m2, O2, ec2, ep2) := X
theorem XS_frm (X : XS (n, top, R, N, c, Ol, s0, s1, I, m, O, ec, ep)) (Q : Prg n top R N) {q what len : Int} (l0 : 0 ≤ len) (h0 : 0 ≤ q) (h1 : q < 2 ∨ 26 ≤ q) : XS (frmS q what len (n, top, R, N, c, Ol, s0, s1, I, m, O, ec, ep)) := by
  have ok := alT_ok (I := I) (len := len) (N := N) (q := q) (what := what) l0
  unfold frmS
  simp only
  by_cases ce : alE I len q what N = 0
  · rw [if_pos ce]
    exact XS_chg (σ := (n, top, R, N, c, Ol, s0, s1, I, 0, O, 0, -1)) X (bl_sm Q (show blO N (alN I len q what N) q from ok.1) h0 h1)
  · rw [if_neg ce]
    exact X
theorem XS_setB (X : XS (n, top, R, N, c, Ol, s0, s1, I, m, O, ec, ep)) (Q : Prg n top R N) {q : Int} (hq : q = 0 ∨ q = 1) (len : Int) : XS (aSetB q len (n, top, R, N, c, Ol, s0, s1, I, m, O, ec, ep)).2 := by
  unfold aSetB
  simp only
  by_cases cl : 0 ≤ len ∧ len ≤ m
  · rw [if_pos cl]
    have H := XS_frm X Q (q := q) (what := 1) cl.1 (by omega) (by omega)
    split <;> exact H
  · rw [if_neg cl]; exact X
theorem XS_setK (X : XS (n, top, R, N, c, Ol, s0, s1, I, m, O, ec, ep)) (Q : Prg n top R N) (l len : Int) : XS (aSetK l len (n, top, R, N, c, Ol, s0, s1, I, m, O, ec, ep)).2 := by
  unfold aSetK
  simp only
  rcases lpAt_c Q (Or.inl rfl) l with ⟨_, ⟨l0, l1⟩, lk⟩ | ⟨_, ln⟩
  · rw [if_neg (by omega)]
    by_cases cl : 0 ≤ len ∧ len ≤ m
    · rw [if_pos cl]
      have H := XS_frm X Q (q := 26 + lpAt n R 2 l) (what := 1) cl.1 (by omega) (by omega)
      split <;> exact H
    · rw [if_neg cl]; exact X
  · rw [if_pos ln]; exact X
theorem XS_setL (X : XS (n, top, R, N, c, Ol, s0, s1, I, m, O, ec, ep)) (Q : Prg n top R N) (l len : Int) : XS (aSetL l len (n, top, R, N, c, Ol, s0, s1, I, m, O, ec, ep)).2 := by
  unfold aSetL
  simp only
  rcases lpAt_c Q (Or.inl rfl) l with ⟨_, ⟨l0, l1⟩, lk⟩ | ⟨_, ln⟩
  · rw [if_neg (by omega)]
    by_cases cl : 0 ≤ len ∧ len ≤ m
    · rw [if_pos cl]
      have H := XS_frm X Q (q := 50 + lpAt n R 2 l) (what := 0) cl.1 (by omega) (by omega)
      split <;> exact H
    · rw [if_neg cl]; exact X
  · rw [if_pos ln]; exact X
theorem XS_fill (X : XS (n, top, R, N, c, Ol, s0, s1, I, m, O, ec, ep)) (Q : Prg n top R N) (l f : Int) : XS (aFill l f (n, top, R, N, c, Ol, s0, s1, I, m, O, ec, ep)).2 := by
  unfold aFill
  simp only
  rcases lpAt_c Q (Or.inr rfl) l with ⟨_, ⟨l0, l1⟩, lk⟩ | ⟨_, ln⟩
  · rw [if_neg (by omega)]
    by_cases cf : -1 ≤ f ∧ f ≤ 38
    · rw [if_pos cf]
      exact XS_chg X (lst_up2 Q (i := (2294 + lpAt n R 3 l).toNat) (by omega) f).2.2.2
    · rw [if_neg cf]; exact X
  · rw [if_pos ln]; exact X
theorem XS_setPrice (X : XS (n, top, R, N, c, Ol, s0, s1, I, m, O, ec, ep)) (Q : Prg n top R N) (s x : Int) : XS (aSetPrice s x (n, top, R, N, c, Ol, s0, s1, I, m, O, ec, ep)).2 := by
  unfold aSetPrice
  simp only
  by_cases cs : 0 ≤ s ∧ s < n
  · rw [if_pos cs]
    by_cases cx : 0 ≤ x ∧ x ≤ 99
    · rw [if_pos cx]
      exact XS_chg X (lst_up2 Q (i := (2318 + s).toNat) (by omega) x).2.2.2
    · rw [if_neg cx]; exact X
  · rw [if_neg cs]; exact X
theorem XS_restore (X : XS (n, top, R, N, c, Ol, s0, s1, I, m, O, ec, ep)) (x : Int) : XS (aRestore x (n, top, R, N, c, Ol, s0, s1, I, m, O, ec, ep)).2 := by
  unfold aRestore
  simp only
  by_cases cx : 0 ≤ x ∧ x ≤ 1
  · rw [if_pos cx]
    cases es : slt x s0 s1 with
    | none => exact X
    | some N2 =>
      refine XS_chg X ?_
      unfold slt at es
      split at es
      · exact X.2.2.1 N2 es
      · exact X.2.2.2 N2 es
  · rw [if_neg cx]; exact X
theorem XS_undo (X : XS (n, top, R, N, c, Ol, s0, s1, I, m, O, ec, ep)) : XS (aUndo (n, top, R, N, c, Ol, s0, s1, I, m, O, ec, ep)).2 := by
  unfold aUndo
  simp only
  by_cases cc : c = 0
  · rw [if_pos cc]; exact X
  · rw [if_neg cc]
    have s := X.2.1 0 (by omega)
    exact ⟨X.1, fun i hi => smP_t (smP_s s) (X.2.1 (i + 1) (by omega)), fun N2 q => smP_t (smP_s s) (X.2.2.1 N2 q), fun N2 q => smP_t (smP_s s) (X.2.2.2 N2 q)⟩
theorem XS_save (X : XS (n, top, R, N, c, Ol, s0, s1, I, m, O, ec, ep)) (x : Int) : XS (aSave x (n, top, R, N, c, Ol, s0, s1, I, m, O, ec, ep)).2 := by
  unfold aSave
  simp only
  by_cases cx : 0 ≤ x ∧ x ≤ 1
  · rw [if_pos cx]
    refine ⟨X.1, X.2.1, fun N2 q => ?_, fun N2 q => ?_⟩
    · unfold slS at q
      split at q
      · cases q; exact smP_r N
      · exact X.2.2.1 N2 q
    · unfold slS at q
      split at q
      · cases q; exact smP_r N
      · exact X.2.2.2 N2 q
  · rw [if_neg cx]; exact X
theorem XS_feed (X : XS (n, top, R, N, c, Ol, s0, s1, I, m, O, ec, ep)) (a1 a2 a3 a4 a5 : Int) : XS (aFeed a1 a2 a3 a4 a5 (n, top, R, N, c, Ol, s0, s1, I, m, O, ec, ep)).2 := by
  unfold aFeed
  simp only
  by_cases cm : 780 < m
  · rw [if_pos cm]; exact X
  · rw [if_neg cm]; exact X
theorem XS_load (X : XS (n, top, R, N, c, Ol, s0, s1, I, m, O, ec, ep)) (hR : RZ R) (hm : m ≤ 800) (len : Int) : XS (aLoad len (n, top, R, N, c, Ol, s0, s1, I, m, O, ec, ep)).2 := by
  unfold aLoad
  simp only
  by_cases cl : 0 ≤ len ∧ len ≤ m
  · rw [if_pos cl]
    have ok := txtP_ok (I := I) (len := len) (fa := 0) (R := R) cl.1 (by omega) hR
    generalize txtP I len (begS I len 0 R) = T at *
    obtain ⟨t, ⟨f, fa⟩, ⟨n', top', R', N'⟩, row, sec, last⟩ := T
    by_cases cf : f = 0
    · rw [if_pos (show (t, ((f, fa) : Int × Int), ((n', top', R', N') : Int × Int × (Nat → Int) × (Nat → Int)), row, sec, last).2.1.1 = 0 from cf)]
      have V : IVR n' top' R' row sec last := (ok.2 cf).1.1
      refine ⟨fun s h0 h1 => ?_, fun i hi => absurd hi (Nat.not_lt_zero _), (fun _ q => by cases q), (fun _ q => by cases q)⟩
      have q := V.2.2.2.2.2.2.2.2.2 s h0 h1
      exact ⟨q.1, q.2.1, q.2.2.1⟩
    · rw [if_neg (show ¬ (t, ((f, fa) : Int × Int), ((n', top', R', N') : Int × Int × (Nat → Int) × (Nat → Int)), row, sec, last).2.1.1 = 0 from cf)]
      exact X
  · rw [if_neg cl]; exact X
/-- an answer of ints, its code at most k -/
def tyI (k : Int) (r : Int × zV) : Prop := (∃ y, r.2 = zI y) ∧ 0 ≤ r.1 ∧ r.1 ≤ k
def tyJ (k : Int) (r : Int × zV) : Prop := (∃ y, r.2 = zJ y) ∧ 0 ≤ r.1 ∧ r.1 ≤ k
theorem tI {k x y : Int} (h0 : 0 ≤ x) (h1 : x ≤ k) : tyI k (x, zI y) := ⟨⟨y, rfl⟩, h0, h1⟩
theorem tJ {k x : Int} {y : BitVec 64} (h0 : 0 ≤ x) (h1 : x ≤ k) : tyJ k (x, zJ y) := ⟨⟨y, rfl⟩, h0, h1⟩

theorem ty_aFeed (a1 a2 a3 a4 a5 : Int) (σ : MSt) : tyI 1 ((aFeed a1 a2 a3 a4 a5 σ).1) := by
  obtain ⟨n, top, R, N, c, Ol, s0, s1, I, m, O, ec, ep⟩ := σ
  unfold aFeed
  simp only
  repeat' split
  all_goals exact tI (by decide) (by decide)
theorem ty_aLoad (l : Int) (σ : MSt) : tyI 2 ((aLoad l σ).1) := by
  obtain ⟨n, top, R, N, c, Ol, s0, s1, I, m, O, ec, ep⟩ := σ
  unfold aLoad
  simp only
  repeat' split
  all_goals exact tI (by decide) (by decide)
theorem ty_aValue (c n top : Int) (R N : Nat → Int) (x : Int) : tyI 1 (aValue c n top R N x) := by
  unfold aValue
  skip
  repeat' split
  all_goals exact tI (by decide) (by decide)
theorem ty_aStatement (n : Int) (R N : Nat → Int) (s x : Int) : tyI 2 (aStatement n R N s x) := by
  unfold aStatement
  skip
  repeat' split
  all_goals exact tI (by decide) (by decide)
theorem ty_aLoopSet (n : Int) (R N : Nat → Int) (s x : Int) : tyJ 2 (aLoopSet n R N s x) := by
  unfold aLoopSet
  skip
  repeat' split
  all_goals exact tJ (by decide) (by decide)
theorem ty_aLess (n : Int) (R N : Nat → Int) (s x : Int) : tyI 2 (aLess n R N s x) := by
  unfold aLess
  skip
  repeat' split
  all_goals exact tI (by decide) (by decide)
theorem ty_aNeed (n : Int) (R N : Nat → Int) (s : Int) : tyJ 1 (aNeed n R N s) := by
  unfold aNeed
  skip
  repeat' split
  all_goals exact tJ (by decide) (by decide)
theorem ty_aDuty (n top : Int) (R N : Nat → Int) (s x : Int) : tyI 2 (aDuty n top R N s x) := by
  unfold aDuty
  skip
  repeat' split
  all_goals exact tI (by decide) (by decide)
theorem ty_aFailing (n top : Int) (R N : Nat → Int) (s : Int) : tyJ 1 (aFailing n top R N s) := by
  unfold aFailing
  skip
  repeat' split
  all_goals exact tJ (by decide) (by decide)
theorem ty_aRun (n top : Int) (R N : Nat → Int) (s : Int) : tyI 1 (aRun n top R N s) := by
  unfold aRun
  skip
  repeat' split
  all_goals exact tI (by decide) (by decide)
theorem ty_aSteps (n top : Int) (R N : Nat → Int) (s : Int) : tyI 1 (aSteps n top R N s) := by
  unfold aSteps
  skip
  repeat' split
  all_goals exact tI (by decide) (by decide)
theorem ty_aCostBits (n top : Int) (R N : Nat → Int) (s : Int) : tyI 1 (aCostBits n top R N s) := by
  unfold aCostBits
  skip
  repeat' split
  all_goals exact tI (by decide) (by decide)
theorem ty_aMet (n top : Int) (R N : Nat → Int) (s : Int) : tyJ 1 (aMet n top R N s) := by
  unfold aMet
  skip
  repeat' split
  all_goals exact tJ (by decide) (by decide)
theorem ty_aRounds (n top : Int) (R N : Nat → Int) (s : Int) : tyI 1 (aRounds n top R N s) := by
  unfold aRounds
  skip
  repeat' split
  all_goals exact tI (by decide) (by decide)
theorem ty_aProves (n top : Int) (R N : Nat → Int) (s : Int) : tyI 1 (aProves n top R N s) := by
  unfold aProves
  skip
  repeat' split
  all_goals exact tI (by decide) (by decide)
theorem ty_aRights (n top : Int) (R N : Nat → Int) (s : Int) : tyI 1 (aRights n top R N s) := by
  unfold aRights
  skip
  repeat' split
  all_goals exact tI (by decide) (by decide)
theorem ty_aSafe (n : Int) (R N : Nat → Int) (s : Int) : tyJ 1 (aSafe n R N s) := by
  unfold aSafe
  skip
  repeat' split
  all_goals exact tJ (by decide) (by decide)
theorem ty_aUnsf (n : Int) (R N : Nat → Int) (s : Int) : tyJ 1 (aUnsf n R N s) := by
  unfold aUnsf
  skip
  repeat' split
  all_goals exact tJ (by decide) (by decide)
theorem ty_aWN (s : Int) (σ : MSt) : tyI 1 ((aWN s σ).1) := by
  obtain ⟨n, top, R, N, c, Ol, s0, s1, I, m, O, ec, ep⟩ := σ
  unfold aWN aWriteNeed
  simp only
  repeat' split
  all_goals exact tI (by decide) (by decide)
theorem ty_aOutputByte (O : List Int) (x : Int) : tyI 1 (aOutputByte O x) := by
  unfold aOutputByte
  skip
  repeat' split
  all_goals exact tI (by decide) (by decide)
theorem ty_aNeedNodes (n : Int) (R N : Nat → Int) (s : Int) : tyI 1 (aNeedNodes n R N s) := by
  unfold aNeedNodes
  skip
  repeat' split
  all_goals exact tI (by decide) (by decide)
theorem ty_aGap (n : Int) (R N : Nat → Int) (s : Int) : tyI 1 (aGap n R N s) := by
  unfold aGap
  skip
  repeat' split
  all_goals exact tI (by decide) (by decide)
theorem ty_aSetB (q l : Int) (σ : MSt) : tyI 2 ((aSetB q l σ).1) := by
  obtain ⟨n, top, R, N, c, Ol, s0, s1, I, m, O, ec, ep⟩ := σ
  unfold aSetB
  simp only
  repeat' split
  all_goals exact tI (by decide) (by decide)
theorem ty_aSetK (q l : Int) (σ : MSt) : tyI 3 ((aSetK q l σ).1) := by
  obtain ⟨n, top, R, N, c, Ol, s0, s1, I, m, O, ec, ep⟩ := σ
  unfold aSetK
  simp only
  repeat' split
  all_goals exact tI (by decide) (by decide)
theorem ty_aSetL (q l : Int) (σ : MSt) : tyI 3 ((aSetL q l σ).1) := by
  obtain ⟨n, top, R, N, c, Ol, s0, s1, I, m, O, ec, ep⟩ := σ
  unfold aSetL
  simp only
  repeat' split
  all_goals exact tI (by decide) (by decide)
theorem ty_aFill (q l : Int) (σ : MSt) : tyI 2 ((aFill q l σ).1) := by
  obtain ⟨n, top, R, N, c, Ol, s0, s1, I, m, O, ec, ep⟩ := σ
  unfold aFill
  simp only
  repeat' split
  all_goals exact tI (by decide) (by decide)
theorem ty_aSetPrice (q l : Int) (σ : MSt) : tyI 2 ((aSetPrice q l σ).1) := by
  obtain ⟨n, top, R, N, c, Ol, s0, s1, I, m, O, ec, ep⟩ := σ
  unfold aSetPrice
  simp only
  repeat' split
  all_goals exact tI (by decide) (by decide)
theorem ty_aRestore (q : Int) (σ : MSt) : tyI 2 ((aRestore q σ).1) := by
  obtain ⟨n, top, R, N, c, Ol, s0, s1, I, m, O, ec, ep⟩ := σ
  unfold aRestore
  simp only
  repeat' split
  all_goals exact tI (by decide) (by decide)
theorem ty_aUndo (σ : MSt) : tyI 1 ((aUndo σ).1) := by
  obtain ⟨n, top, R, N, c, Ol, s0, s1, I, m, O, ec, ep⟩ := σ
  unfold aUndo
  simp only
  repeat' split
  all_goals exact tI (by decide) (by decide)
theorem ty_aSave (q : Int) (σ : MSt) : tyI 1 ((aSave q σ).1) := by
  obtain ⟨n, top, R, N, c, Ol, s0, s1, I, m, O, ec, ep⟩ := σ
  unfold aSave
  simp only
  repeat' split
  all_goals exact tI (by decide) (by decide)
end XST

