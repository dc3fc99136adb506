/-! Texts as rows of tokens. -/
section TOK
variable {I : Nat → Int} {len : Int}
def chr (I : Nat → Int) (len p : Int) : Int := if 0 ≤ p ∧ p < len then I p.toNat else -1
theorem chr_out {p : Int} (h : ¬ (0 ≤ p ∧ p < len)) : chr I len p = -1 := if_neg h
theorem chr_in {p : Int} (h0 : 0 ≤ p) (h1 : p < len) : chr I len p = I p.toNat := if_pos ⟨h0, h1⟩
/-- on from p as long as the bytes are such -/
def skp (P : Int → Bool) (I : Nat → Int) (len : Int) : Nat → Int → Int
  | 0, p => p
  | m + 1, p => if P (chr I len p) = true then skp P I len m (p + 1) else p
def blB (c : Int) : Bool := decide (c = 32) || decide (c = 10)
def leB (c : Int) : Bool := decide (97 ≤ c ∧ c ≤ 122)
def diB (c : Int) : Bool := decide (48 ≤ c ∧ c ≤ 57)
theorem skp_ge (P : Int → Bool) : ∀ (m : Nat) (p : Int), p ≤ skp P I len m p
  | 0, p => Int.le_refl _
  | m + 1, p => by
    unfold skp
    split
    · have := skp_ge P m (p + 1); omega
    · exact Int.le_refl _
theorem skp_le {P : Int → Bool} (hP : P (-1) = false) : ∀ (m : Nat) (p : Int), 0 ≤ p → p ≤ len → skp P I len m p ≤ len
  | 0, p, h0, h => h
  | m + 1, p, h0, h => by
    unfold skp
    split
    · rename_i c
      by_cases e : p < len
      · exact skp_le hP m (p + 1) (by omega) (by omega)
      · rw [chr, if_neg (by omega), hP] at c
        cases c
    · exact h
/-- more steps than bytes make no difference -/
theorem skp_fix {P : Int → Bool} (hP : P (-1) = false) : ∀ (m k : Nat) (p : Int), 0 ≤ p → len - p ≤ m → len - p ≤ k → skp P I len m p = skp P I len k p
  | 0, 0, p, _, _, _ => rfl
  | 0, k + 1, p, h0, hm, hk => by
    show p = skp P I len (k + 1) p
    unfold skp
    rw [chr_out (by omega), hP, if_neg (by decide)]
  | m + 1, 0, p, h0, hm, hk => by
    show skp P I len (m + 1) p = p
    unfold skp
    rw [chr_out (by omega), hP, if_neg (by decide)]
  | m + 1, k + 1, p, h0, hm, hk => by
    unfold skp
    split
    · exact skp_fix hP m k (p + 1) (by omega) (by omega) (by omega)
    · rfl
theorem skp_step {P : Int → Bool} (hP : P (-1) = false) {m : Nat} {p : Int} (h0 : 0 ≤ p) (hm : len - p ≤ m) : skp P I len m p = if P (chr I len p) = true then skp P I len m (p + 1) else p := by
  rw [skp_fix hP m (m + 1) p h0 hm (by omega), skp]
/-- letters stand where such were gone over -/
theorem skp_in {P : Int → Bool} : ∀ (m : Nat) (p q : Int), p ≤ q → q < skp P I len m p → P (chr I len q) = true
  | 0, p, q, h1, h2 => by
    have h3 : skp P I len 0 p = p := rfl
    omega
  | m + 1, p, q, h1, h2 => by
    unfold skp at h2
    split at h2
    · rename_i c
      by_cases e : q = p
      · rw [e]; exact c
      · exact skp_in m (p + 1) q (by omega) h2
    · omega
/-- the number of a word among the keys -/
def kOf (w : Int) : Int := if w ≤ 16 then w - 4 else if w = 17 then 14 else if w = 18 then 15 else if w = 19 then 18 else if w = 20 then 21 else if w = 21 then 16 else if w = 22 then 17 else if w = 23 then 19 else if w = 24 then 20 else 13
def keyJ (I : Nat → Int) (s e k : Int) (j : Int) : Bool := decide ((if j < e - s then I (s + j).toNat else 0) = mKeys.getD (5 * k + j).toNat 0)
/-- the bytes from s on, up to e, are the letters of this key, from letter j on -/
def keyF (I : Nat → Int) (s e k : Int) : Nat → Int → Bool
  | 0, _ => true
  | m + 1, j => keyJ I s e k j && keyF I s e k m (j + 1)
def keyB (I : Nat → Int) (s e k : Int) : Bool := decide (e - s ≤ 5) && keyF I s e k 5 0
def wcode (I : Nat → Int) (s e : Int) : Int := if zfind (fun w => keyB I s e (kOf w) = true) 4 22 = -1 then 26 else zfind (fun w => keyB I s e (kOf w) = true) 4 22
/-- the number that stands in the digits from s on -/
def numv (I : Nat → Int) (s : Int) : Nat → Int
  | 0 => 0
  | m + 1 => 10 * numv I s m + I (s + m).toNat - 48
def ncode (I : Nat → Int) (s e : Int) : Int := if 3 < e - s then -3 else if 3 < numv I s (e - s).toNat then -4 else numv I s (e - s).toNat
/-- a token: a word's number 4 to 26, a number 0 to 3, -2 the end, -3 not allowed, -4 a number too great; its first byte; the byte behind it -/
abbrev TK : Type := Int × Int × Int
def tkw (I : Nat → Int) (len : Int) (b : Bool) (s : Int) : TK :=
  if len ≤ s then (-2, s, s) else if b = true then (-3, s, s) else if leB (chr I len s) = true then (wcode I s (skp leB I len 800 s), s, skp leB I len 800 s) else if diB (chr I len s) = true then (ncode I s (skp diB I len 800 s), s, skp diB I len 800 s) else (-3, s, s)
/-- the token behind byte e; b: another token ends there -/
def tok (I : Nat → Int) (len : Int) (b : Bool) (e : Int) : TK := tkw I len (b && decide (skp blB I len 800 e = e)) (skp blB I len 800 e)
theorem wcode_r (I : Nat → Int) (s e : Int) : 4 ≤ wcode I s e ∧ wcode I s e ≤ 26 := by
  unfold wcode
  have h := @zfind_r (fun w => keyB I s e (kOf w) = true) _ 22 4
  split <;> omega
theorem keyF_all {s e k : Int} : ∀ (m : Nat) (j : Int), keyF I s e k m j = true → ∀ i, j ≤ i → i < j + m → keyJ I s e k i = true
  | 0, j, h, i, h0, h1 => by omega
  | m + 1, j, h, i, h0, h1 => by
    simp only [keyF, Bool.and_eq_true] at h
    by_cases c : i = j
    · rw [c]; exact h.1
    · exact keyF_all m (j + 1) h.2 i (by omega) (by omega)
/-- no two keys are spelt alike -/
theorem key_one : ∀ (a b : Fin 22), (∀ j : Fin 5, mKeys.getD (5 * a.val + j.val) 0 = mKeys.getD (5 * b.val + j.val) 0) → a = b := by decide +kernel
theorem keyB_one {s e a b : Int} (a0 : 0 ≤ a) (a1 : a < 22) (b0 : 0 ≤ b) (b1 : b < 22) (ha : keyB I s e a = true) (hb : keyB I s e b = true) : a = b := by
  simp only [keyB, Bool.and_eq_true] at ha hb
  have h := key_one ⟨a.toNat, by omega⟩ ⟨b.toNat, by omega⟩ (fun j => by
    have h1 := keyF_all 5 0 ha.2 j.val (by omega) (by have := j.isLt; omega)
    have h2 := keyF_all 5 0 hb.2 j.val (by omega) (by have := j.isLt; omega)
    simp only [keyJ, decide_eq_true_eq] at h1 h2
    rw [h1] at h2
    rw [show (5 * a + (j.val : Int)).toNat = 5 * a.toNat + j.val by omega, show (5 * b + (j.val : Int)).toNat = 5 * b.toNat + j.val by omega] at h2
    exact h2)
  have h3 := congrArg Fin.val h
  simp only at h3
  omega
theorem kOf_inj {v w : Int} (h0 : 4 ≤ v) (h1 : v ≤ 25) (h2 : 4 ≤ w) (h3 : w ≤ 25) (h : kOf v = kOf w) : v = w := by
  unfold kOf at h
  repeat' split at h
  all_goals omega
theorem kOf_r {w : Int} (h0 : 4 ≤ w) (h1 : w ≤ 25) : 0 ≤ kOf w ∧ kOf w < 22 := by
  unfold kOf
  repeat' split
  all_goals omega
/-- a word's number tells which key it is -/
theorem wcode_key {s e w : Int} (h0 : 4 ≤ w) (h1 : w ≤ 25) : keyB I s e (kOf w) = true ↔ wcode I s e = w := by
  have hr := @zfind_r (fun w => keyB I s e (kOf w) = true) _ 22 4
  constructor
  · intro h
    have hl := zfind_least (p := fun w => keyB I s e (kOf w) = true) 22 4 w h0 (by omega) h
    unfold wcode
    rw [if_neg (by omega)]
    rcases hr with hr | ⟨r0, r1, r2⟩
    · omega
    · have a := kOf_r (w := zfind (fun w => keyB I s e (kOf w) = true) 4 22) r0 (by omega)
      have b := kOf_r h0 h1
      exact kOf_inj r0 (by omega) h0 h1 (keyB_one a.1 a.2 b.1 b.2 r2 h)
  · intro h
    unfold wcode at h
    rcases hr with hr | ⟨r0, r1, r2⟩
    · rw [if_pos hr] at h; omega
    · rw [if_neg (by omega)] at h
      rw [← h]; exact r2
theorem isLetter_e (c : Int) : b_M_isLetter c ↔ leB c = true := by
  unfold leB
  rw [decide_eq_true_eq]
theorem isDigit_e (c : Int) : b_M_isDigit c ↔ diB c = true := by
  unfold diB
  rw [decide_eq_true_eq]
theorem tok_r {b : Bool} {e : Int} (h0 : 0 ≤ e) (h1 : e ≤ len) : e ≤ (tok I len b e).2.1 ∧ (tok I len b e).2.1 ≤ (tok I len b e).2.2 ∧ (tok I len b e).2.2 ≤ len ∧ ((tok I len b e).1 = -2 ∨ (tok I len b e).1 = -3 ∨ (tok I len b e).1 = -4 ∨ 0 ≤ (tok I len b e).1 ∧ (tok I len b e).1 ≤ 26) := by
  have hs0 := skp_ge (I := I) (len := len) blB 800 e
  have hs1 := skp_le (I := I) (P := blB) (by decide) 800 e h0 h1
  unfold tok
  generalize skp blB I len 800 e = s at *
  generalize (b && decide (s = e)) = g
  unfold tkw
  have hl0 := skp_ge (I := I) (len := len) leB 800 s
  have hl1 := skp_le (I := I) (P := leB) (by decide) 800 s (by omega) hs1
  have hd0 := skp_ge (I := I) (len := len) diB 800 s
  have hd1 := skp_le (I := I) (P := diB) (by decide) 800 s (by omega) hs1
  by_cases c1 : len ≤ s
  · rw [if_pos c1]; exact ⟨hs0, Int.le_refl _, hs1, Or.inl rfl⟩
  rw [if_neg c1]
  by_cases c2 : g = true
  · rw [if_pos c2]; exact ⟨hs0, Int.le_refl _, hs1, Or.inr (Or.inl rfl)⟩
  rw [if_neg c2]
  by_cases c3 : leB (chr I len s) = true
  · rw [if_pos c3]
    have hw := wcode_r I s (skp leB I len 800 s)
    exact ⟨hs0, hl0, hl1, Or.inr (Or.inr (Or.inr (by omega)))⟩
  rw [if_neg c3]
  by_cases c4 : diB (chr I len s) = true
  · rw [if_pos c4]
    refine ⟨hs0, hd0, hd1, ?_⟩
    have hn : ∀ m : Nat, (m : Int) ≤ skp diB I len 800 s - s → 0 ≤ numv I s m := fun m => by
      induction m with
      | zero => intro _; exact Int.le_refl _
      | succ m ih =>
        intro hm
        have h3 := skp_in (I := I) (len := len) (P := diB) 800 s (s + m) (by omega) (by omega)
        rw [chr_in (by omega) (by omega)] at h3
        simp only [diB, decide_eq_true_eq] at h3
        have := ih (by omega)
        show 0 ≤ 10 * numv I s m + I (s + m).toNat - 48
        omega
    have hn2 := hn (skp diB I len 800 s - s).toNat (by omega)
    unfold ncode
    simp only
    split
    · exact Or.inr (Or.inl rfl)
    · split
      · exact Or.inr (Or.inr (Or.inl rfl))
      · exact Or.inr (Or.inr (Or.inr (by omega)))
  rw [if_neg c4]
  exact ⟨hs0, Int.le_refl _, hs1, Or.inr (Or.inl rfl)⟩
end TOK
