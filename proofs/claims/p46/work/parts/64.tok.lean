/-! Texts as rows of tokens. -/
section TOK
variable {I : Nat → Int} {len : Int}
def chr (I : Nat → Int) (len p : Int) : Int := if 0 ≤ p ∧ p < len then I p.toNat else -1
theorem chr_out {p : Int} (h : ¬ (0 ≤ p ∧ p < len)) : chr I len p = -1 := if_neg h
theorem chr_in {p : Int} (h0 : 0 ≤ p) (h1 : p < len) : chr I len p = I p.toNat := if_pos ⟨h0, h1⟩
/-- on from p as long as the bytes are such -/
def skp (P : Int → Bool) (I : Nat → Int) (len : Int) : Nat → Int → Int
  | 0, p => p
  | m + 1, p => if P (chr I len p) = true then skp P I len m (p + 1) else p
def blB (c : Int) : Bool := decide (c = 32) || decide (c = 10)
def leB (c : Int) : Bool := decide (97 ≤ c ∧ c ≤ 122)
def diB (c : Int) : Bool := decide (48 ≤ c ∧ c ≤ 57)
theorem skp_ge (P : Int → Bool) : ∀ (m : Nat) (p : Int), p ≤ skp P I len m p
  | 0, p => Int.le_refl _
  | m + 1, p => by
    unfold skp
    split
    · have := skp_ge P m (p + 1); omega
    · exact Int.le_refl _
theorem skp_le {P : Int → Bool} (hP : P (-1) = false) : ∀ (m : Nat) (p : Int), 0 ≤ p → p ≤ len → skp P I len m p ≤ len
  | 0, p, h0, h => h
  | m + 1, p, h0, h => by
    unfold skp
    split
    · rename_i c
      by_cases e : p < len
      · exact skp_le hP m (p + 1) (by omega) (by omega)
      · rw [chr, if_neg (by omega), hP] at c
        cases c
    · exact h
/-- letters stand where such were gone over -/
theorem skp_in {P : Int → Bool} : ∀ (m : Nat) (p q : Int), p ≤ q → q < skp P I len m p → P (chr I len q) = true
  | 0, p, q, h1, h2 => by
    have h3 : skp P I len 0 p = p := rfl
    omega
  | m + 1, p, q, h1, h2 => by
    unfold skp at h2
    split at h2
    · rename_i c
      by_cases e : q = p
      · rw [e]; exact c
      · exact skp_in m (p + 1) q (by omega) h2
    · omega
/-- the number of a word among the keys -/
def kOf (w : Int) : Int := if w ≤ 16 then w - 4 else if w = 17 then 14 else if w = 18 then 15 else if w = 19 then 18 else if w = 20 then 21 else if w = 21 then 16 else if w = 22 then 17 else if w = 23 then 19 else if w = 24 then 20 else 13
def keyJ (I : Nat → Int) (s e k : Int) (j : Int) : Bool := decide ((if j < e - s then I (s + j).toNat else 0) = mKeys.getD (5 * k + j).toNat 0)
/-- the bytes from s on, up to e, are the letters of this key, from letter j on -/
def keyF (I : Nat → Int) (s e k : Int) : Nat → Int → Bool
  | 0, _ => true
  | m + 1, j => keyJ I s e k j && keyF I s e k m (j + 1)
def keyB (I : Nat → Int) (s e k : Int) : Bool := decide (e - s ≤ 5) && keyF I s e k 5 0
def wcode (I : Nat → Int) (s e : Int) : Int := if zfind (fun w => keyB I s e (kOf w) = true) 4 22 = -1 then 26 else zfind (fun w => keyB I s e (kOf w) = true) 4 22
/-- the number that stands in the digits from s on -/
def numv (I : Nat → Int) (s : Int) : Nat → Int
  | 0 => 0
  | m + 1 => 10 * numv I s m + I (s + m).toNat - 48
def ncode (I : Nat → Int) (s e : Int) : Int := if 3 < e - s then -3 else if 3 < numv I s (e - s).toNat then -4 else numv I s (e - s).toNat
/-- a token: a word's number 4 to 26, a number 0 to 3, -2 the end, -3 not allowed, -4 a number too great; its first byte; the byte behind it -/
abbrev TK : Type := Int × Int × Int
def tkw (I : Nat → Int) (len : Int) (b : Bool) (s : Int) : TK :=
  if len ≤ s then (-2, s, s) else if b = true then (-3, s, s) else if leB (chr I len s) = true then (wcode I s (skp leB I len 800 s), s, skp leB I len 800 s) else if diB (chr I len s) = true then (ncode I s (skp diB I len 800 s), s, skp diB I len 800 s) else (-3, s, s)
/-- the token behind byte e; b: another token ends there -/
def tok (I : Nat → Int) (len : Int) (b : Bool) (e : Int) : TK := tkw I len (b && decide (skp blB I len 800 e = e)) (skp blB I len 800 e)
theorem wcode_r (I : Nat → Int) (s e : Int) : 4 ≤ wcode I s e ∧ wcode I s e ≤ 26 := by
  unfold wcode
  have h := @zfind_r (fun w => keyB I s e (kOf w) = true) _ 22 4
  split <;> omega
theorem keyF_all {s e k : Int} : ∀ (m : Nat) (j : Int), keyF I s e k m j = true → ∀ i, j ≤ i → i < j + m → keyJ I s e k i = true
  | 0, j, h, i, h0, h1 => by omega
  | m + 1, j, h, i, h0, h1 => by
    simp only [keyF, Bool.and_eq_true] at h
    by_cases c : i = j
    · rw [c]; exact h.1
    · exact keyF_all m (j + 1) h.2 i (by omega) (by omega)
theorem tok_r {b : Bool} {e : Int} (h0 : 0 ≤ e) (h1 : e ≤ len) : e ≤ (tok I len b e).2.1 ∧ (tok I len b e).2.1 ≤ (tok I len b e).2.2 ∧ (tok I len b e).2.2 ≤ len ∧ ((tok I len b e).1 = -2 ∨ (tok I len b e).1 = -3 ∨ (tok I len b e).1 = -4 ∨ 0 ≤ (tok I len b e).1 ∧ (tok I len b e).1 ≤ 26) := by
  have hs0 := skp_ge (I := I) (len := len) blB 800 e
  have hs1 := skp_le (I := I) (P := blB) (by decide) 800 e h0 h1
  unfold tok
  generalize skp blB I len 800 e = s at *
  generalize (b && decide (s = e)) = g
  unfold tkw
  have hl0 := skp_ge (I := I) (len := len) leB 800 s
  have hl1 := skp_le (I := I) (P := leB) (by decide) 800 s (by omega) hs1
  have hd0 := skp_ge (I := I) (len := len) diB 800 s
  have hd1 := skp_le (I := I) (P := diB) (by decide) 800 s (by omega) hs1
  by_cases c1 : len ≤ s
  · rw [if_pos c1]; exact ⟨hs0, Int.le_refl _, hs1, Or.inl rfl⟩
  rw [if_neg c1]
  by_cases c2 : g = true
  · rw [if_pos c2]; exact ⟨hs0, Int.le_refl _, hs1, Or.inr (Or.inl rfl)⟩
  rw [if_neg c2]
  by_cases c3 : leB (chr I len s) = true
  · rw [if_pos c3]
    have hw := wcode_r I s (skp leB I len 800 s)
    exact ⟨hs0, hl0, hl1, Or.inr (Or.inr (Or.inr (by omega)))⟩
  rw [if_neg c3]
  by_cases c4 : diB (chr I len s) = true
  · rw [if_pos c4]
    refine ⟨hs0, hd0, hd1, ?_⟩
    have hn : ∀ m : Nat, (m : Int) ≤ skp diB I len 800 s - s → 0 ≤ numv I s m := fun m => by
      induction m with
      | zero => intro _; exact Int.le_refl _
      | succ m ih =>
        intro hm
        have h3 := skp_in (I := I) (len := len) (P := diB) 800 s (s + m) (by omega) (by omega)
        rw [chr_in (by omega) (by omega)] at h3
        simp only [diB, decide_eq_true_eq] at h3
        have := ih (by omega)
        show 0 ≤ 10 * numv I s m + I (s + m).toNat - 48
        omega
    have hn2 := hn (skp diB I len 800 s - s).toNat (by omega)
    unfold ncode
    simp only
    split
    · exact Or.inr (Or.inl rfl)
    · split
      · exact Or.inr (Or.inr (Or.inl rfl))
      · exact Or.inr (Or.inr (Or.inr (by omega)))
  rw [if_neg c4]
  exact ⟨hs0, Int.le_refl _, hs1, Or.inr (Or.inl rfl)⟩
end TOK

