/-! The reference: its other calls. -/
section MREST
theorem hI_s (h : zH) (a k : Nat) (x : Int) : hI (sI h a k x) a k = x := zup_s _ _ _ _
def aSetB (q len : Int) : MSt → (Int × zV) × MSt
  | (n, top, R, N, c, Ol, s0, s1, I, m, O, ec, ep) => if 0 ≤ len ∧ len ≤ m then
      (if alE I len q 1 N = 0 then ((0, zI (f_M_ones (setL (lst (alN I len q 1 N) q)))), frmS q 1 len (n, top, R, N, c, Ol, s0, s1, I, m, O, ec, ep)) else ((2, zI 0), frmS q 1 len (n, top, R, N, c, Ol, s0, s1, I, m, O, ec, ep)))
    else ((1, zI 0), (n, top, R, N, c, Ol, s0, s1, I, m, O, ec, ep))
def aSetK (l len : Int) : MSt → (Int × zV) × MSt
  | (n, top, R, N, c, Ol, s0, s1, I, m, O, ec, ep) => if lpAt n R 2 l = -1 then ((1, zI 0), (n, top, R, N, c, Ol, s0, s1, I, m, O, ec, ep)) else if 0 ≤ len ∧ len ≤ m then
      (if alE I len (26 + lpAt n R 2 l) 1 N = 0 then ((0, zI (f_M_ones (setL (lst (alN I len (26 + lpAt n R 2 l) 1 N) (26 + lpAt n R 2 l))))), frmS (26 + lpAt n R 2 l) 1 len (n, top, R, N, c, Ol, s0, s1, I, m, O, ec, ep)) else ((3, zI 0), frmS (26 + lpAt n R 2 l) 1 len (n, top, R, N, c, Ol, s0, s1, I, m, O, ec, ep)))
    else ((2, zI 0), (n, top, R, N, c, Ol, s0, s1, I, m, O, ec, ep))
/-- the greatest LESS in the first k states of KEEP -/
def grA (N : Nat → Int) (s : Int) : Nat → Int
  | 0 => -1
  | k + 1 => if val (lst N (26 + s)) k = 1 ∧ grA N s k < val (lst N (50 + s)) k then val (lst N (50 + s)) k else grA N s k
def aSetL (l len : Int) : MSt → (Int × zV) × MSt
  | (n, top, R, N, c, Ol, s0, s1, I, m, O, ec, ep) => if lpAt n R 2 l = -1 then ((1, zI 0), (n, top, R, N, c, Ol, s0, s1, I, m, O, ec, ep)) else if 0 ≤ len ∧ len ≤ m then
      (if alE I len (50 + lpAt n R 2 l) 0 N = 0 then ((0, zI (grA (alN I len (50 + lpAt n R 2 l) 0 N) (lpAt n R 2 l) 64)), frmS (50 + lpAt n R 2 l) 0 len (n, top, R, N, c, Ol, s0, s1, I, m, O, ec, ep)) else ((3, zI 0), frmS (50 + lpAt n R 2 l) 0 len (n, top, R, N, c, Ol, s0, s1, I, m, O, ec, ep)))
    else ((2, zI 0), (n, top, R, N, c, Ol, s0, s1, I, m, O, ec, ep))
theorem grA_b (N : Nat → Int) (s : Int) (hv : ∀ k : Nat, k < 64 → 0 ≤ val (lst N (50 + s)) k ∧ val (lst N (50 + s)) k < 4) : ∀ (k : Nat), k ≤ 64 → -1 ≤ grA N s k ∧ grA N s k < 4
  | 0, _ => by unfold grA; omega
  | k + 1, h => by
    have := grA_b N s hv k (by omega)
    have := hv k (by omega)
    unfold grA
    split <;> omega
def aUndo : MSt → (Int × zV) × MSt
  | (n, top, R, N, c, Ol, s0, s1, I, m, O, ec, ep) => if c = 0 then ((1, zI 0), (n, top, R, N, c, Ol, s0, s1, I, m, O, ec, ep)) else ((0, zI ((c : Int) - 1)), (n, top, R, Ol 0, c - 1, fun i => Ol (i + 1), s0, s1, I, m, O, ec, ep))
theorem SS_undo {σ : MSt} (S : SS σ) : SS (aUndo σ).2 := by
  obtain ⟨n, top, R, N, c, Ol, s0, s1, I, m, O, ec, ep⟩ := σ
  obtain ⟨P, rz, nz, ⟨hc10, hO⟩, h5, h6, hm⟩ := id S
  unfold aUndo
  simp only
  by_cases cc : c = 0
  · rw [if_pos cc]; exact S
  · rw [if_neg cc]
    exact ⟨(hO 0 (by omega)).1, rz, (hO 0 (by omega)).2, ⟨by omega, fun i hi => hO (i + 1) (by omega)⟩, h5, h6, hm⟩
def slt (x : Int) (s0 s1 : Option (Nat → Int)) : Option (Nat → Int) := if x = 0 then s0 else s1
def aRestore (x : Int) : MSt → (Int × zV) × MSt
  | (n, top, R, N, c, Ol, s0, s1, I, m, O, ec, ep) => if 0 ≤ x ∧ x ≤ 1 then (match slt x s0 s1 with
      | none => ((2, zI 0), (n, top, R, N, c, Ol, s0, s1, I, m, O, ec, ep))
      | some N2 => ((0, zI (nfC n top R N2)), chg N2 (n, top, R, N, c, Ol, s0, s1, I, m, O, ec, ep)))
    else ((1, zI 0), (n, top, R, N, c, Ol, s0, s1, I, m, O, ec, ep))
theorem slt_ok {n top : Int} {R N : Nat → Int} {c : Nat} {Ol : Nat → Nat → Int} {s0 s1 : Option (Nat → Int)} {I : Nat → Int} {m : Int} {O : List Int} {ec ep : Int} (S : SS (n, top, R, N, c, Ol, s0, s1, I, m, O, ec, ep)) {x : Int} {N2 : Nat → Int} (e : slt x s0 s1 = some N2) : Prg n top R N2 ∧ NZ N2 := by
  obtain ⟨P, rz, nz, _, h5, h6, hm⟩ := id S
  unfold slt at e
  split at e
  · exact h5 N2 e
  · exact h6 N2 e
theorem SS_restore {σ : MSt} (S : SS σ) (x : Int) : SS (aRestore x σ).2 := by
  obtain ⟨n, top, R, N, c, Ol, s0, s1, I, m, O, ec, ep⟩ := σ
  unfold aRestore
  simp only
  by_cases cx : 0 ≤ x ∧ x ≤ 1
  · rw [if_pos cx]
    cases es : slt x s0 s1 with
    | none => exact S
    | some N2 => exact SS_chg S (slt_ok S es).1 (slt_ok S es).2
  · rw [if_neg cx]; exact S
def aSave (x : Int) : MSt → (Int × zV) × MSt
  | (n, top, R, N, c, Ol, s0, s1, I, m, O, ec, ep) => if 0 ≤ x ∧ x ≤ 1 then
      ((0, zI ((if (slS x N s0 0).isSome = true then 1 else 0) + (if (slS x N s1 1).isSome = true then 1 else 0))), (n, top, R, N, c, Ol, slS x N s0 0, slS x N s1 1, I, m, O, ec, ep))
    else ((1, zI 0), (n, top, R, N, c, Ol, s0, s1, I, m, O, ec, ep))
theorem SS_save {σ : MSt} (S : SS σ) (x : Int) : SS (aSave x σ).2 := by
  obtain ⟨n, top, R, N, c, Ol, s0, s1, I, m, O, ec, ep⟩ := σ
  obtain ⟨P, rz, nz, hO, h5, h6, hm⟩ := id S
  unfold aSave
  simp only
  by_cases cx : 0 ≤ x ∧ x ≤ 1
  · rw [if_pos cx]
    refine ⟨P, rz, nz, hO, fun N2 e => ?_, fun N2 e => ?_, hm⟩
    · unfold slS at e
      split at e
      · cases e; exact ⟨P, nz⟩
      · exact h5 N2 e
    · unfold slS at e
      split at e
      · cases e; exact ⟨P, nz⟩
      · exact h6 N2 e
  · rw [if_neg cx]; exact S
/-- four bytes more -/
def fd4 (x : Int) (s : (Nat → Int) × Int) : (Nat → Int) × Int := (upN (upN (upN (upN s.1 s.2.toNat (zi2b (zshr x 24))) (s.2 + 1).toNat (zi2b (zshr x 16))) (s.2 + 2).toNat (zi2b (zshr x 8))) (s.2 + 3).toNat (zi2b x), s.2 + 4)
def fd5 (a b c d e : Int) (s : (Nat → Int) × Int) : (Nat → Int) × Int := fd4 e (fd4 d (fd4 c (fd4 b (fd4 a s))))
def aFeed (a b c d e : Int) : MSt → (Int × zV) × MSt
  | (n, top, R, N, ch, Ol, s0, s1, I, m, O, ec, ep) => if 780 < m then ((1, zI 0), (n, top, R, N, ch, Ol, s0, s1, I, m, O, ec, ep)) else ((0, zI (m + 20)), (n, top, R, N, ch, Ol, s0, s1, (fd5 a b c d e (I, m)).1, m + 20, O, ec, ep))
theorem SS_feed {σ : MSt} (S : SS σ) (a b c d e : Int) : SS (aFeed a b c d e σ).2 := by
  obtain ⟨n, top, R, N, ch, Ol, s0, s1, I, m, O, ec, ep⟩ := σ
  have hm : 0 ≤ m ∧ m ≤ 800 := S.2.2.2.2.2.2
  obtain ⟨P, rz, nz, hO, h5, h6, _⟩ := id S
  unfold aFeed
  simp only
  by_cases cm : 780 < m
  · rw [if_pos cm]; exact S
  · rw [if_neg cm]; exact ⟨P, rz, nz, hO, h5, h6, by omega⟩
/-- other formulas at one number -/
theorem SS_frm {n top : Int} {R N : Nat → Int} {c : Nat} {Ol : Nat → Nat → Int} {s0 s1 : Option (Nat → Int)} {I : Nat → Int} {m : Int} {O : List Int} {ec ep : Int} (S : SS (n, top, R, N, c, Ol, s0, s1, I, m, O, ec, ep)) {q what len : Int} (l0 : 0 ≤ len) (hP : ∀ N2, (∀ i, i < (31 * q).toNat ∨ (31 * q).toNat + 31 ≤ i → N2 i = N i) → fmOk N2 q (decide (what ≠ 0)) → Prg n top R N2) (h0 : 0 ≤ q) (h1 : q < 74) : SS (frmS q what len (n, top, R, N, c, Ol, s0, s1, I, m, O, ec, ep)) := by
  obtain ⟨P, rz, nz, hO, h5, h6, hm⟩ := id S
  have ok := alT_ok (I := I) (len := len) (N := N) (q := q) (what := what) l0
  unfold frmS
  simp only
  by_cases ce : alE I len q what N = 0
  · rw [if_pos ce]
    have S0 : SS (n, top, R, N, c, Ol, s0, s1, I, 0, O, 0, -1) := ⟨P, rz, nz, hO, h5, h6, by decide⟩
    exact SS_chg S0 (N2 := alN I len q what N) (hP _ ok.1 (ok.2 ce)) (fun k hk => by rw [ok.1 k (by omega)]; exact nz k hk)
  · rw [if_neg ce]
    exact ⟨P, rz, nz, hO, h5, h6, by decide⟩
theorem Prg_frm {n top : Int} {R N N2 : Nat → Int} (P : Prg n top R N) {q : Int} (o : ∀ i, i < (31 * q).toNat ∨ (31 * q).toNat + 31 ≤ i → N2 i = N i) (f0 : q = 0 → fmOk N2 0 true) (f1 : q = 1 → fmOk N2 1 true) (fk : ∀ s, 0 ≤ s → s < n → q = 26 + s → fmOk N2 (26 + s) true) (fl : ∀ s, 0 ≤ s → s < n → q = 50 + s → fmOk N2 (50 + s) false) (h0 : 0 ≤ q) (h1 : q < 2 ∨ 26 ≤ q) (h2 : q < 74) : Prg n top R N2 := by
  obtain ⟨w, v, u, t⟩ := P
  have w0 := w.1
  have ex : ∀ r b, 0 ≤ r → r ≠ q → fmOk N r b → fmOk N2 r b := fun r b r0 r1 f => fmOk_congr (fun i i0 i1 => o i (by omega)) f
  refine ⟨w, ⟨?_, ?_, fun c c0 c1 => ?_⟩, u, t⟩
  · by_cases e : q = 0
    · exact f0 e
    · exact ex 0 true (by omega) (by omega) v.1
  · by_cases e : q = 1
    · exact f1 e
    · exact ex 1 true (by omega) (by omega) v.2.1
  · have vc := v.2.2 c c0 c1
    refine ⟨fun k => ex _ _ (by omega) (by omega) (vc.1 k), fun k => ex _ _ (by omega) (by omega) (vc.2.1 k), fun k => ⟨ex _ _ (by omega) (by omega) (vc.2.2.1 k).1, ?_, ?_⟩, fun k => ?_, ?_⟩
    · by_cases e : q = 26 + c
      · exact fk c c0 c1 e
      · exact ex _ _ (by omega) (by omega) (vc.2.2.1 k).2.1
    · by_cases e : q = 50 + c
      · exact fl c c0 c1 e
      · exact ex _ _ (by omega) (by omega) (vc.2.2.1 k).2.2
    · rw [o _ (by omega)]; exact vc.2.2.2.1 k
    · rw [o _ (by omega)]; exact vc.2.2.2.2
theorem SS_setB {σ : MSt} (S : SS σ) {q : Int} (hq : q = 0 ∨ q = 1) (len : Int) : SS (aSetB q len σ).2 := by
  obtain ⟨n, top, R, N, c, Ol, s0, s1, I, m, O, ec, ep⟩ := σ
  have P : Prg n top R N := SS_P S
  have w0 := P.1.1
  unfold aSetB
  simp only
  by_cases cl : 0 ≤ len ∧ len ≤ m
  · rw [if_pos cl]
    have H := SS_frm S (q := q) (what := 1) cl.1 (fun N2 o f => Prg_frm P o (fun e => by subst e; exact f) (fun e => by subst e; exact f) (fun s _ _ e => by omega) (fun s _ _ e => by omega) (by omega) (by omega) (by omega)) (by omega) (by omega)
    split <;> exact H
  · rw [if_neg cl]; exact S
theorem SS_setK {σ : MSt} (S : SS σ) (l len : Int) : SS (aSetK l len σ).2 := by
  obtain ⟨n, top, R, N, c, Ol, s0, s1, I, m, O, ec, ep⟩ := σ
  have P : Prg n top R N := SS_P S
  have w0 := P.1.1
  unfold aSetK
  simp only
  rcases lpAt_c P (Or.inl rfl) l with ⟨_, ⟨l0, l1⟩, lk⟩ | ⟨_, ln⟩
  · rw [if_neg (by omega)]
    by_cases cl : 0 ≤ len ∧ len ≤ m
    · rw [if_pos cl]
      have H := SS_frm S (q := 26 + lpAt n R 2 l) (what := 1) cl.1 (fun N2 o f => Prg_frm P o (fun e => by omega) (fun e => by omega) (fun s _ _ e => by rw [← e]; exact f) (fun s _ _ e => by omega) (by omega) (by omega) (by omega)) (by omega) (by omega)
      split <;> exact H
    · rw [if_neg cl]; exact S
  · rw [if_pos ln]; exact S
theorem SS_setL {σ : MSt} (S : SS σ) (l len : Int) : SS (aSetL l len σ).2 := by
  obtain ⟨n, top, R, N, c, Ol, s0, s1, I, m, O, ec, ep⟩ := σ
  have P : Prg n top R N := SS_P S
  have w0 := P.1.1
  unfold aSetL
  simp only
  rcases lpAt_c P (Or.inl rfl) l with ⟨_, ⟨l0, l1⟩, lk⟩ | ⟨_, ln⟩
  · rw [if_neg (by omega)]
    by_cases cl : 0 ≤ len ∧ len ≤ m
    · rw [if_pos cl]
      have H := SS_frm S (q := 50 + lpAt n R 2 l) (what := 0) cl.1 (fun N2 o f => Prg_frm P o (fun e => by omega) (fun e => by omega) (fun s _ _ e => by omega) (fun s _ _ e => by rw [← e]; exact f) (by omega) (by omega) (by omega)) (by omega) (by omega)
      split <;> exact H
    · rw [if_neg cl]; exact S
  · rw [if_pos ln]; exact S
/-- the answer and the output -/
def aWN (s : Int) : MSt → (Int × zV) × MSt
  | (n, top, R, N, c, Ol, s0, s1, I, m, O, ec, ep) => ((aWriteNeed n R N O s).1, (n, top, R, N, c, Ol, s0, s1, I, m, (aWriteNeed n R N O s).2, ec, ep))
theorem SS_WN {σ : MSt} (S : SS σ) (s : Int) : SS (aWN s σ).2 := by
  obtain ⟨n, top, R, N, c, Ol, s0, s1, I, m, O, ec, ep⟩ := σ
  exact S
end MREST

