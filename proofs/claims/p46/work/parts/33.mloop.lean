/-! The reference: methods that only read, with a loop. -/
def zsum (f : Int → Int) (a : Int) : Nat → Int
  | 0 => 0
  | n + 1 => f a + zsum f (a + 1) n
def zfind (p : Int → Prop) [DecidablePred p] (a : Int) : Nat → Int
  | 0 => -1
  | n + 1 => if p a then a else zfind p (a + 1) n
theorem zsum_b {f : Int → Int} {u : Int} (hu : ∀ k, 0 ≤ f k ∧ f k ≤ u) : ∀ (n : Nat) (a : Int), 0 ≤ zsum f a n ∧ zsum f a n ≤ u * n
  | 0, _ => ⟨Int.le_refl _, by simp [zsum]⟩
  | n + 1, a => by
    have h1 := zsum_b hu n (a + 1)
    have h2 := hu a
    simp only [zsum]
    have h3 : u * ((n + 1 : Nat) : Int) = u * n + u := by rw [Int.natCast_add, Int.mul_add]; simp
    omega
theorem zsum_last {f : Int → Int} : ∀ (n : Nat) (a : Int), zsum f a (n + 1) = zsum f a n + f (a + n)
  | 0, a => by simp [zsum]
  | n + 1, a => by
    have h := zsum_last (f := f) n (a + 1)
    have e : a + 1 + (n : Int) = a + ((n + 1 : Nat) : Int) := by omega
    rw [zsum, h, e, zsum]
    omega
theorem zsum_congr {f g : Int → Int} : ∀ (n : Nat) (a : Int), (∀ k, a ≤ k → k < a + n → f k = g k) → zsum f a n = zsum g a n
  | 0, _, _ => rfl
  | n + 1, a, h => by rw [zsum, zsum, h a (by omega) (by omega), zsum_congr n (a + 1) fun k h1 h2 => h k (by omega) (by omega)]
theorem zfind_congr {p q : Int → Prop} [DecidablePred p] [DecidablePred q] : ∀ (n : Nat) (a : Int), (∀ k, a ≤ k → k < a + n → (p k ↔ q k)) → zfind p a n = zfind q a n
  | 0, _, _ => rfl
  | n + 1, a, h => by
    rw [zfind, zfind, zfind_congr n (a + 1) fun k h1 h2 => h k (by omega) (by omega)]
    by_cases g : p a
    · rw [if_pos g, if_pos ((h a (by omega) (by omega)).1 g)]
    · rw [if_neg g, if_neg fun e => g ((h a (by omega) (by omega)).2 e)]
theorem zfind_r {p : Int → Prop} [DecidablePred p] : ∀ (n : Nat) (a : Int), zfind p a n = -1 ∨ (a ≤ zfind p a n ∧ zfind p a n < a + n ∧ p (zfind p a n))
  | 0, _ => Or.inl rfl
  | n + 1, a => by
    simp only [zfind]
    by_cases g : p a
    · rw [if_pos g]; exact Or.inr ⟨by omega, by omega, g⟩
    · rw [if_neg g]
      rcases zfind_r (p := p) n (a + 1) with h | ⟨h1, h2, h3⟩
      · exact Or.inl h
      · exact Or.inr ⟨by omega, by omega, h3⟩
theorem zfind_least {p : Int → Prop} [DecidablePred p] : ∀ (n : Nat) (a k : Int), a ≤ k → k < a + n → p k → a ≤ zfind p a n ∧ zfind p a n ≤ k
  | 0, _, _, h1, h2, _ => by omega
  | n + 1, a, k, h1, h2, h3 => by
    simp only [zfind]
    by_cases g : p a
    · rw [if_pos g]; exact ⟨Int.le_refl _, h1⟩
    · rw [if_neg g]
      have h4 : a ≠ k := fun e => g (e ▸ h3)
      have h5 := zfind_least (p := p) n (a + 1) k (by omega) (by omega) h3
      omega

def f_M_ones (x0 : BitVec 64) : Int := zsum (fun k => if b_M_holds x0 k then 1 else 0) 0 64
def f_M_leastOf (x0 : BitVec 64) : Int := zfind (fun k => b_M_holds x0 k) 0 64
