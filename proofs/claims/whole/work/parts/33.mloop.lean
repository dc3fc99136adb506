/-! The reference: methods that only read, with a loop. -/
def zsum (f : Int → Int) (a : Int) : Nat → Int
  | 0 => 0
  | n + 1 => f a + zsum f (a + 1) n
def zfind (p : Int → Prop) [DecidablePred p] (a : Int) : Nat → Int
  | 0 => -1
  | n + 1 => if p a then a else zfind p (a + 1) n
theorem zsum_b {f : Int → Int} {u : Int} (hu : ∀ k, 0 ≤ f k ∧ f k ≤ u) : ∀ (n : Nat) (a : Int), 0 ≤ zsum f a n ∧ zsum f a n ≤ u * n
  | 0, _ => ⟨Int.le_refl _, by simp [zsum]⟩
  | n + 1, a => by
    have h1 := zsum_b hu n (a + 1)
    have h2 := hu a
    simp only [zsum]
    have h3 : u * ((n + 1 : Nat) : Int) = u * n + u := by rw [Int.natCast_add, Int.mul_add]; simp
    omega
theorem zsum_last {f : Int → Int} : ∀ (n : Nat) (a : Int), zsum f a (n + 1) = zsum f a n + f (a + n)
  | 0, a => by simp [zsum]
  | n + 1, a => by
    have h := zsum_last (f := f) n (a + 1)
    have e : a + 1 + (n : Int) = a + ((n + 1 : Nat) : Int) := by omega
    rw [zsum, h, e, zsum]
    omega
theorem zsum_congr {f g : Int → Int} : ∀ (n : Nat) (a : Int), (∀ k, a ≤ k → k < a + n → f k = g k) → zsum f a n = zsum g a n
  | 0, _, _ => rfl
  | n + 1, a, h => by rw [zsum, zsum, h a (by omega) (by omega), zsum_congr n (a + 1) fun k h1 h2 => h k (by omega) (by omega)]
theorem zfind_congr {p q : Int → Prop} [DecidablePred p] [DecidablePred q] : ∀ (n : Nat) (a : Int), (∀ k, a ≤ k → k < a + n → (p k ↔ q k)) → zfind p a n = zfind q a n
  | 0, _, _ => rfl
  | n + 1, a, h => by
    rw [zfind, zfind, zfind_congr n (a + 1) fun k h1 h2 => h k (by omega) (by omega)]
    by_cases g : p a
    · rw [if_pos g, if_pos ((h a (by omega) (by omega)).1 g)]
    · rw [if_neg g, if_neg fun e => g ((h a (by omega) (by omega)).2 e)]
theorem zfind_r {p : Int → Prop} [DecidablePred p] : ∀ (n : Nat) (a : Int), zfind p a n = -1 ∨ (a ≤ zfind p a n ∧ zfind p a n < a + n ∧ p (zfind p a n))
  | 0, _ => Or.inl rfl
  | n + 1, a => by
    simp only [zfind]
    by_cases g : p a
    · rw [if_pos g]; exact Or.inr ⟨by omega, by omega, g⟩
    · rw [if_neg g]
      rcases zfind_r (p := p) n (a + 1) with h | ⟨h1, h2, h3⟩
      · exact Or.inl h
      · exact Or.inr ⟨by omega, by omega, h3⟩
theorem zfind_least {p : Int → Prop} [DecidablePred p] : ∀ (n : Nat) (a k : Int), a ≤ k → k < a + n → p k → a ≤ zfind p a n ∧ zfind p a n ≤ k
  | 0, _, _, h1, h2, _ => by omega
  | n + 1, a, k, h1, h2, h3 => by
    simp only [zfind]
    by_cases g : p a
    · rw [if_pos g]; exact ⟨Int.le_refl _, h1⟩
    · rw [if_neg g]
      have h4 : a ≠ k := fun e => g (e ▸ h3)
      have h5 := zfind_least (p := p) n (a + 1) k (by omega) (by omega) h3
      omega

theorem q_M_manyOf {h : zH} {x1 : Int} (KM : KM h) : zC 206 [zR (some 177), zI x1] h =
    zY 206 4 [some (zR (some 177)), some (zI x1), some (zI 0), some (zI 0)] [] h := by
  refine (show zC 206 [zR (some 177), zI x1] h = gd (inR (0)) (gd (inR (0)) (zY 206 4 [some (zR (some 177)), some (zI x1), some (zI 0), some (zI 0)] [] h)) from zGo 4 206 0 _ _ _).trans ?_
  refine (gd_t (by decide) _).trans ?_
  refine (gd_t (by decide) _).trans ?_
  rfl
theorem q_M_manyOf_4 {h : zH} {x1 : Int} {x2 : Int} {x3 : Int} (KM : KM h) (g0 : (x3 < (hI h 177 10)) → (0 ≤ x3 ∧ x3 < 24) := by omega) : zY 206 4 [some (zR (some 177)), some (zI x1), some (zI x2), some (zI x3)] [] h =
    if x3 < (hI h 177 10) then
      if (f_M_s h x3 0) = x1 then
        gd (-2147483648 ≤ x2 + 1 ∧ x2 + 1 < 2147483648) (
        gd (-2147483648 ≤ x3 + 1 ∧ x3 + 1 < 2147483648) (
        zY 206 4 [some (zR (some 177)), some (zI x1), some (zI (x2 + 1)), some (zI (x3 + 1))] [] h))
      else
        gd (-2147483648 ≤ x2 + 0 ∧ x2 + 0 < 2147483648) (
        gd (-2147483648 ≤ x3 + 1 ∧ x3 + 1 < 2147483648) (
        zY 206 4 [some (zR (some 177)), some (zI x1), some (zI (x2 + 0)), some (zI (x3 + 1))] [] h))
    else
      some (.inl (some (zI x2)), h) := by
  refine (show zY 206 4 [some (zR (some 177)), some (zI x1), some (zI x2), some (zI x3)] [] h = gd (zob h (some 177) 12) (if x3 < (hI h 177 10) then zY 206 12 [some (zR (some 177)), some (zI x1), some (zI x2), some (zI x3)] [] h else zY 206 36 [some (zR (some 177)), some (zI x1), some (zI x2), some (zI x3)] [] h) from zGo 4 206 4 _ _ _).trans ?_
  refine (gd_t (⟨rfl, (PTM KM 177 _ rfl rfl), (PNM KM 177 rfl)⟩) _).trans ?_
  refine iteC (fun c0 => ?_) (fun c0 => ?_)
  · skip
    refine (show zY 206 12 [some (zR (some 177)), some (zI x1), some (zI x2), some (zI x3)] [] h = gd (inR (0)) (gd (false = zctor 207 ∧ zcs [zI x2] ≤ 8 ∧ zrm 206 (zrf 207 + 1) (8 + (zmaxl 207 + 11) + zrl 207) = true ∧ zcs [zR (some 177), zI x3, zI 0] ≤ zmaxl 207) (gd (zob h (some 177) 12) (zBack zY 206 16 19 [some (zR (some 177)), some (zI x1), some (zI x2), some (zI x3)] [zI x2] (zC 207 [zR (some 177), zI x3, zI 0] h)))) from zGo 5 206 12 _ _ _).trans ?_
    refine (gd_t (by decide) _).trans ?_
    refine (gd_t (⟨rfl, Nat.le_of_ble_eq_true rfl, rfl, Nat.le_of_ble_eq_true rfl⟩) _).trans ?_
    refine (gd_t (⟨rfl, (PTM KM 177 _ rfl rfl), (PNM KM 177 rfl)⟩) _).trans ?_
    refine (congrArg (zBack zY 206 16 19 [some (zR (some 177)), some (zI x1), some (zI x2), some (zI x3)] [zI x2]) (e_M_sx KM (g0 c0) (by omega))).trans ?_
    refine (show zY 206 19 [some (zR (some 177)), some (zI x1), some (zI x2), some (zI x3)] [zI (f_M_s h x3 0), zI x2] h = if (f_M_s h x3 0) = x1 then zY 206 23 [some (zR (some 177)), some (zI x1), some (zI x2), some (zI x3)] [zI x2] h else zY 206 27 [some (zR (some 177)), some (zI x1), some (zI x2), some (zI x3)] [zI x2] h from zGo 2 206 19 _ _ _).trans ?_
    refine iteC (fun c1 => ?_) (fun c1 => ?_)
    · skip
      refine (show zY 206 23 [some (zR (some 177)), some (zI x1), some (zI x2), some (zI x3)] [zI x2] h = gd (inR (1)) (gd (inR (x2 + 1)) (gd (inR (x3 + 1)) (gd (inR (1)) (zY 206 4 [some (zR (some 177)), some (zI x1), some (zI (x2 + 1)), some (zI (x3 + 1))] [] h)))) from zGo 6 206 23 _ _ _).trans ?_
      refine (gd_t (by decide) _).trans ?_
      refine gd_c Iff.rfl (fun c2 => ?_)
      refine gd_c Iff.rfl (fun c3 => ?_)
      refine (gd_t (by decide) _).trans ?_
      rfl
    · skip
      refine (show zY 206 27 [some (zR (some 177)), some (zI x1), some (zI x2), some (zI x3)] [zI x2] h = gd (inR (0)) (gd (inR (x2 + 0)) (gd (inR (x3 + 1)) (gd (inR (1)) (zY 206 4 [some (zR (some 177)), some (zI x1), some (zI (x2 + 0)), some (zI (x3 + 1))] [] h)))) from zGo 5 206 27 _ _ _).trans ?_
      refine (gd_t (by decide) _).trans ?_
      refine gd_c Iff.rfl (fun c4 => ?_)
      refine gd_c Iff.rfl (fun c5 => ?_)
      refine (gd_t (by decide) _).trans ?_
      rfl
  · skip
    refine (show zY 206 36 [some (zR (some 177)), some (zI x1), some (zI x2), some (zI x3)] [] h = gd (([] : List zV).isEmpty = true ∧ (zrk 206 = 1 ∨ zrk 206 = 6 ∧ ((x2 : Int) = 0 ∨ (x2 : Int) = 1))) (some (.inl (some (zI x2)), h)) from zGo 2 206 36 _ _ _).trans ?_
    refine (gd_t (⟨rfl, Or.inl rfl⟩) _).trans ?_
    rfl
theorem q_M_numbered {h : zH} {x1 : Int} {x2 : Int} (KM : KM h) : zC 264 [zR (some 177), zI x1, zI x2] h =
    zY 264 2 [some (zR (some 177)), some (zI x1), some (zI x2), some (zI 0)] [] h := by
  refine (show zC 264 [zR (some 177), zI x1, zI x2] h = gd (inR (0)) (zY 264 2 [some (zR (some 177)), some (zI x1), some (zI x2), some (zI 0)] [] h) from zGo 2 264 0 _ _ _).trans ?_
  refine (gd_t (by decide) _).trans ?_
  rfl
theorem q_M_numbered_2 {h : zH} {x1 : Int} {x2 : Int} {x3 : Int} (KM : KM h) (g0 : (x3 < (hI h 177 10)) → (0 ≤ x3 ∧ x3 < 24) := by omega) : zY 264 2 [some (zR (some 177)), some (zI x1), some (zI x2), some (zI x3)] [] h =
    if x3 < (hI h 177 10) then
      if (f_M_s h x3 0) = x1 then
        if (f_M_s h x3 7) = x2 then
          some (.inl (some (zI x3)), h)
        else
          gd (-2147483648 ≤ x3 + 1 ∧ x3 + 1 < 2147483648) (
          zY 264 2 [some (zR (some 177)), some (zI x1), some (zI x2), some (zI (x3 + 1))] [] h)
      else
        gd (-2147483648 ≤ x3 + 1 ∧ x3 + 1 < 2147483648) (
        zY 264 2 [some (zR (some 177)), some (zI x1), some (zI x2), some (zI (x3 + 1))] [] h)
    else
      some (.inl (some (zI (-1))), h) := by
  refine (show zY 264 2 [some (zR (some 177)), some (zI x1), some (zI x2), some (zI x3)] [] h = gd (zob h (some 177) 12) (if x3 < (hI h 177 10) then zY 264 10 [some (zR (some 177)), some (zI x1), some (zI x2), some (zI x3)] [] h else zY 264 39 [some (zR (some 177)), some (zI x1), some (zI x2), some (zI x3)] [] h) from zGo 4 264 2 _ _ _).trans ?_
  refine (gd_t (⟨rfl, (PTM KM 177 _ rfl rfl), (PNM KM 177 rfl)⟩) _).trans ?_
  refine iteC (fun c0 => ?_) (fun c0 => ?_)
  · skip
    refine (show zY 264 10 [some (zR (some 177)), some (zI x1), some (zI x2), some (zI x3)] [] h = gd (inR (0)) (gd (false = zctor 207 ∧ zcs [] ≤ 8 ∧ zrm 264 (zrf 207 + 1) (8 + (zmaxl 207 + 11) + zrl 207) = true ∧ zcs [zR (some 177), zI x3, zI 0] ≤ zmaxl 207) (gd (zob h (some 177) 12) (zBack zY 264 13 16 [some (zR (some 177)), some (zI x1), some (zI x2), some (zI x3)] [] (zC 207 [zR (some 177), zI x3, zI 0] h)))) from zGo 4 264 10 _ _ _).trans ?_
    refine (gd_t (by decide) _).trans ?_
    refine (gd_t (⟨rfl, Nat.le_of_ble_eq_true rfl, rfl, Nat.le_of_ble_eq_true rfl⟩) _).trans ?_
    refine (gd_t (⟨rfl, (PTM KM 177 _ rfl rfl), (PNM KM 177 rfl)⟩) _).trans ?_
    refine (congrArg (zBack zY 264 13 16 [some (zR (some 177)), some (zI x1), some (zI x2), some (zI x3)] []) (e_M_sx KM (g0 c0) (by omega))).trans ?_
    refine (show zY 264 16 [some (zR (some 177)), some (zI x1), some (zI x2), some (zI x3)] [zI (f_M_s h x3 0)] h = if (f_M_s h x3 0) = x1 then zY 264 20 [some (zR (some 177)), some (zI x1), some (zI x2), some (zI x3)] [] h else zY 264 33 [some (zR (some 177)), some (zI x1), some (zI x2), some (zI x3)] [] h from zGo 2 264 16 _ _ _).trans ?_
    refine iteC (fun c1 => ?_) (fun c1 => ?_)
    · skip
      refine (show zY 264 20 [some (zR (some 177)), some (zI x1), some (zI x2), some (zI x3)] [] h = gd (-128 ≤ (7 : Int) ∧ (7 : Int) < 128) (gd (false = zctor 207 ∧ zcs [] ≤ 8 ∧ zrm 264 (zrf 207 + 1) (8 + (zmaxl 207 + 11) + zrl 207) = true ∧ zcs [zR (some 177), zI x3, zI 7] ≤ zmaxl 207) (gd (zob h (some 177) 12) (zBack zY 264 24 27 [some (zR (some 177)), some (zI x1), some (zI x2), some (zI x3)] [] (zC 207 [zR (some 177), zI x3, zI 7] h)))) from zGo 4 264 20 _ _ _).trans ?_
      refine (gd_t (by decide) _).trans ?_
      refine (gd_t (⟨rfl, Nat.le_of_ble_eq_true rfl, rfl, Nat.le_of_ble_eq_true rfl⟩) _).trans ?_
      refine (gd_t (⟨rfl, (PTM KM 177 _ rfl rfl), (PNM KM 177 rfl)⟩) _).trans ?_
      refine (congrArg (zBack zY 264 24 27 [some (zR (some 177)), some (zI x1), some (zI x2), some (zI x3)] []) (e_M_sx KM (g0 c0) (by omega))).trans ?_
      refine (show zY 264 27 [some (zR (some 177)), some (zI x1), some (zI x2), some (zI x3)] [zI (f_M_s h x3 7)] h = if (f_M_s h x3 7) = x2 then zY 264 31 [some (zR (some 177)), some (zI x1), some (zI x2), some (zI x3)] [] h else zY 264 33 [some (zR (some 177)), some (zI x1), some (zI x2), some (zI x3)] [] h from zGo 2 264 27 _ _ _).trans ?_
      refine iteC (fun c2 => ?_) (fun c2 => ?_)
      · skip
        refine (show zY 264 31 [some (zR (some 177)), some (zI x1), some (zI x2), some (zI x3)] [] h = gd (([] : List zV).isEmpty = true ∧ (zrk 264 = 1 ∨ zrk 264 = 6 ∧ ((x3 : Int) = 0 ∨ (x3 : Int) = 1))) (some (.inl (some (zI x3)), h)) from zGo 2 264 31 _ _ _).trans ?_
        refine (gd_t (⟨rfl, Or.inl rfl⟩) _).trans ?_
        rfl
      · skip
        refine (show zY 264 33 [some (zR (some 177)), some (zI x1), some (zI x2), some (zI x3)] [] h = gd (inR (x3 + 1)) (gd (inR (1)) (zY 264 2 [some (zR (some 177)), some (zI x1), some (zI x2), some (zI (x3 + 1))] [] h)) from zGo 2 264 33 _ _ _).trans ?_
        refine gd_c Iff.rfl (fun c3 => ?_)
        refine (gd_t (by decide) _).trans ?_
        rfl
    · skip
      refine (show zY 264 33 [some (zR (some 177)), some (zI x1), some (zI x2), some (zI x3)] [] h = gd (inR (x3 + 1)) (gd (inR (1)) (zY 264 2 [some (zR (some 177)), some (zI x1), some (zI x2), some (zI (x3 + 1))] [] h)) from zGo 2 264 33 _ _ _).trans ?_
      refine gd_c Iff.rfl (fun c4 => ?_)
      refine (gd_t (by decide) _).trans ?_
      rfl
  · skip
    refine (show zY 264 39 [some (zR (some 177)), some (zI x1), some (zI x2), some (zI x3)] [] h = gd (inR (-1)) (gd (([] : List zV).isEmpty = true ∧ (zrk 264 = 1 ∨ zrk 264 = 6 ∧ (((-1) : Int) = 0 ∨ ((-1) : Int) = 1))) (some (.inl (some (zI (-1))), h))) from zGo 2 264 39 _ _ _).trans ?_
    refine (gd_t (by decide) _).trans ?_
    refine (gd_t (⟨rfl, Or.inl rfl⟩) _).trans ?_
    rfl
theorem q_M_ones {h : zH} {x0 : BitVec 64} : zC 291 [zJ x0] h =
    zY 291 4 [some (zJ x0), none, some (zI 0), some (zI 0)] [] h := by
  refine (show zC 291 [zJ x0] h = gd (inR (0)) (gd (inR (0)) (zY 291 4 [some (zJ x0), none, some (zI 0), some (zI 0)] [] h)) from zGo 4 291 0 _ _ _).trans ?_
  refine (gd_t (by decide) _).trans ?_
  refine (gd_t (by decide) _).trans ?_
  rfl
theorem q_M_ones_4 {h : zH} {x0 : BitVec 64} {x2 : Int} {x3 : Int} : zY 291 4 [some (zJ x0), none, some (zI x2), some (zI x3)] [] h =
    if x3 < 64 then
      if b_M_holds x0 x3 then
        gd (-2147483648 ≤ x2 + 1 ∧ x2 + 1 < 2147483648) (
        gd (-2147483648 ≤ x3 + 1 ∧ x3 + 1 < 2147483648) (
        zY 291 4 [some (zJ x0), none, some (zI (x2 + 1)), some (zI (x3 + 1))] [] h))
      else
        gd (-2147483648 ≤ x2 + 0 ∧ x2 + 0 < 2147483648) (
        gd (-2147483648 ≤ x3 + 1 ∧ x3 + 1 < 2147483648) (
        zY 291 4 [some (zJ x0), none, some (zI (x2 + 0)), some (zI (x3 + 1))] [] h))
    else
      some (.inl (some (zI x2)), h) := by
  refine (show zY 291 4 [some (zJ x0), none, some (zI x2), some (zI x3)] [] h = gd (-128 ≤ (64 : Int) ∧ (64 : Int) < 128) (if x3 < 64 then zY 291 10 [some (zJ x0), none, some (zI x2), some (zI x3)] [] h else zY 291 32 [some (zJ x0), none, some (zI x2), some (zI x3)] [] h) from zGo 3 291 4 _ _ _).trans ?_
  refine (gd_t (by decide) _).trans ?_
  refine iteC (fun c0 => ?_) (fun c0 => ?_)
  · skip
    refine (show zY 291 10 [some (zJ x0), none, some (zI x2), some (zI x3)] [] h = gd (false = zctor 260 ∧ zcs [zI x2] ≤ 8 ∧ zrm 291 (zrf 260 + 1) (8 + (zmaxl 260 + 11) + zrl 260) = true ∧ zcs [zJ x0, zI x3] ≤ zmaxl 260) (zBack zY 291 13 16 [some (zJ x0), none, some (zI x2), some (zI x3)] [zI x2] (zC 260 [zJ x0, zI x3] h)) from zGo 4 291 10 _ _ _).trans ?_
    refine (gd_t (⟨rfl, Nat.le_of_ble_eq_true rfl, rfl, Nat.le_of_ble_eq_true rfl⟩) _).trans ?_
    refine (congrArg (zBack zY 291 13 16 [some (zJ x0), none, some (zI x2), some (zI x3)] [zI x2]) (e_M_holds)).trans ?_
    refine (show zY 291 16 [some (zJ x0), none, some (zI x2), some (zI x3)] [zI (if b_M_holds x0 x3 then (1 : Int) else 0), zI x2] h = if (if b_M_holds x0 x3 then (1 : Int) else 0) = 0 then zY 291 23 [some (zJ x0), none, some (zI x2), some (zI x3)] [zI x2] h else zY 291 19 [some (zJ x0), none, some (zI x2), some (zI x3)] [zI x2] h from zGo 1 291 16 _ _ _).trans ?_
    refine iteB (fun c1 => ?_) (fun c1 => ?_)
    · skip
      refine (show zY 291 19 [some (zJ x0), none, some (zI x2), some (zI x3)] [zI x2] h = gd (inR (1)) (gd (inR (x2 + 1)) (gd (inR (x3 + 1)) (gd (inR (1)) (zY 291 4 [some (zJ x0), none, some (zI (x2 + 1)), some (zI (x3 + 1))] [] h)))) from zGo 6 291 19 _ _ _).trans ?_
      refine (gd_t (by decide) _).trans ?_
      refine gd_c Iff.rfl (fun c2 => ?_)
      refine gd_c Iff.rfl (fun c3 => ?_)
      refine (gd_t (by decide) _).trans ?_
      rfl
    · skip
      refine (show zY 291 23 [some (zJ x0), none, some (zI x2), some (zI x3)] [zI x2] h = gd (inR (0)) (gd (inR (x2 + 0)) (gd (inR (x3 + 1)) (gd (inR (1)) (zY 291 4 [some (zJ x0), none, some (zI (x2 + 0)), some (zI (x3 + 1))] [] h)))) from zGo 5 291 23 _ _ _).trans ?_
      refine (gd_t (by decide) _).trans ?_
      refine gd_c Iff.rfl (fun c4 => ?_)
      refine gd_c Iff.rfl (fun c5 => ?_)
      refine (gd_t (by decide) _).trans ?_
      rfl
  · skip
    refine (show zY 291 32 [some (zJ x0), none, some (zI x2), some (zI x3)] [] h = gd (([] : List zV).isEmpty = true ∧ (zrk 291 = 1 ∨ zrk 291 = 6 ∧ ((x2 : Int) = 0 ∨ (x2 : Int) = 1))) (some (.inl (some (zI x2)), h)) from zGo 2 291 32 _ _ _).trans ?_
    refine (gd_t (⟨rfl, Or.inl rfl⟩) _).trans ?_
    rfl
theorem q_M_leastOf {h : zH} {x0 : BitVec 64} : zC 292 [zJ x0] h =
    zY 292 2 [some (zJ x0), none, some (zI 0)] [] h := by
  refine (show zC 292 [zJ x0] h = gd (inR (0)) (zY 292 2 [some (zJ x0), none, some (zI 0)] [] h) from zGo 2 292 0 _ _ _).trans ?_
  refine (gd_t (by decide) _).trans ?_
  rfl
theorem q_M_leastOf_2 {h : zH} {x0 : BitVec 64} {x2 : Int} : zY 292 2 [some (zJ x0), none, some (zI x2)] [] h =
    if x2 < 64 then
      if b_M_holds x0 x2 then
        some (.inl (some (zI x2)), h)
      else
        gd (-2147483648 ≤ x2 + 1 ∧ x2 + 1 < 2147483648) (
        zY 292 2 [some (zJ x0), none, some (zI (x2 + 1))] [] h)
    else
      some (.inl (some (zI (-1))), h) := by
  refine (show zY 292 2 [some (zJ x0), none, some (zI x2)] [] h = gd (-128 ≤ (64 : Int) ∧ (64 : Int) < 128) (if x2 < 64 then zY 292 8 [some (zJ x0), none, some (zI x2)] [] h else zY 292 22 [some (zJ x0), none, some (zI x2)] [] h) from zGo 3 292 2 _ _ _).trans ?_
  refine (gd_t (by decide) _).trans ?_
  refine iteC (fun c0 => ?_) (fun c0 => ?_)
  · skip
    refine (show zY 292 8 [some (zJ x0), none, some (zI x2)] [] h = gd (false = zctor 260 ∧ zcs [] ≤ 8 ∧ zrm 292 (zrf 260 + 1) (8 + (zmaxl 260 + 11) + zrl 260) = true ∧ zcs [zJ x0, zI x2] ≤ zmaxl 260) (zBack zY 292 10 13 [some (zJ x0), none, some (zI x2)] [] (zC 260 [zJ x0, zI x2] h)) from zGo 3 292 8 _ _ _).trans ?_
    refine (gd_t (⟨rfl, Nat.le_of_ble_eq_true rfl, rfl, Nat.le_of_ble_eq_true rfl⟩) _).trans ?_
    refine (congrArg (zBack zY 292 10 13 [some (zJ x0), none, some (zI x2)] []) (e_M_holds)).trans ?_
    refine (show zY 292 13 [some (zJ x0), none, some (zI x2)] [zI (if b_M_holds x0 x2 then (1 : Int) else 0)] h = if (if b_M_holds x0 x2 then (1 : Int) else 0) = 0 then zY 292 16 [some (zJ x0), none, some (zI x2)] [] h else zY 292 22 [some (zJ x0), none, some (zI x2)] [] h from zGo 1 292 13 _ _ _).trans ?_
    refine iteB (fun c1 => ?_) (fun c1 => ?_)
    · skip
      refine (show zY 292 22 [some (zJ x0), none, some (zI x2)] [] h = gd (-128 ≤ (64 : Int) ∧ (64 : Int) < 128) (if x2 < 64 then zY 292 28 [some (zJ x0), none, some (zI x2)] [] h else zY 292 32 [some (zJ x0), none, some (zI x2)] [] h) from zGo 3 292 22 _ _ _).trans ?_
      refine (gd_t (by decide) _).trans ?_
      refine ite_p c0 ?_
      refine (show zY 292 28 [some (zJ x0), none, some (zI x2)] [] h = gd (([] : List zV).isEmpty = true ∧ (zrk 292 = 1 ∨ zrk 292 = 6 ∧ ((x2 : Int) = 0 ∨ (x2 : Int) = 1))) (some (.inl (some (zI x2)), h)) from zGo 3 292 28 _ _ _).trans ?_
      refine (gd_t (⟨rfl, Or.inl rfl⟩) _).trans ?_
      rfl
    · skip
      refine (show zY 292 16 [some (zJ x0), none, some (zI x2)] [] h = gd (inR (x2 + 1)) (gd (inR (1)) (zY 292 2 [some (zJ x0), none, some (zI (x2 + 1))] [] h)) from zGo 2 292 16 _ _ _).trans ?_
      refine gd_c Iff.rfl (fun c3 => ?_)
      refine (gd_t (by decide) _).trans ?_
      rfl
  · skip
    refine (show zY 292 22 [some (zJ x0), none, some (zI x2)] [] h = gd (-128 ≤ (64 : Int) ∧ (64 : Int) < 128) (if x2 < 64 then zY 292 28 [some (zJ x0), none, some (zI x2)] [] h else zY 292 32 [some (zJ x0), none, some (zI x2)] [] h) from zGo 3 292 22 _ _ _).trans ?_
    refine (gd_t (by decide) _).trans ?_
    refine ite_n c0 ?_
    refine (show zY 292 32 [some (zJ x0), none, some (zI x2)] [] h = gd (inR (-1)) (gd (([] : List zV).isEmpty = true ∧ (zrk 292 = 1 ∨ zrk 292 = 6 ∧ (((-1) : Int) = 0 ∨ ((-1) : Int) = 1))) (some (.inl (some (zI (-1))), h))) from zGo 2 292 32 _ _ _).trans ?_
    refine (gd_t (by decide) _).trans ?_
    refine (gd_t (⟨rfl, Or.inl rfl⟩) _).trans ?_
    rfl
def f_M_manyOf (h : zH) (x1 : Int) : Int := zsum (fun k => if f_M_s h k 0 = x1 then 1 else 0) 0 (hI h 177 10).toNat
theorem l_manyOf {h : zH} (K : KM h) (g : hI h 177 10 ≤ 24) (x1 : Int) : ∀ (n : Nat) (x2 x3 : Int), 0 ≤ x3 → (hI h 177 10 - x3).toNat = n → 0 ≤ x2 → x2 ≤ x3 → zY 206 4 [some (zR (some 177)), some (zI x1), some (zI x2), some (zI x3)] [] h = some (.inl (some (zI (x2 + zsum (fun k => if f_M_s h k 0 = x1 then 1 else 0) x3 n))), h)
  | 0, x2, x3, h1, h2, h3, h4 => by
    rw [q_M_manyOf_4 K, if_neg (by omega), zsum, Int.add_zero]
  | n + 1, x2, x3, h1, h2, h3, h4 => by
    rw [q_M_manyOf_4 K, if_pos (by omega)]
    by_cases c : f_M_s h x3 0 = x1
    · rw [if_pos c, gd_t (by omega), gd_t (by omega), l_manyOf K g x1 n _ _ (by omega) (by omega) (by omega) (by omega), zsum, if_pos c, Int.add_assoc]
    · rw [if_neg c, gd_t (by omega), gd_t (by omega), l_manyOf K g x1 n _ _ (by omega) (by omega) (by omega) (by omega), zsum, if_neg c, Int.add_assoc]
theorem e_M_manyOf {h : zH} {x1 : Int} (K : KM h) (g : hI h 177 10 ≤ 24 := by omega) : zC 206 [zR (some 177), zI x1] h = some (.inl (some (zI (f_M_manyOf h x1))), h) := by
  rw [q_M_manyOf K, l_manyOf K g x1 _ 0 0 (by omega) rfl (by omega) (by omega), Int.zero_add, Int.sub_zero]
  rfl
theorem f_M_manyOf_b (h : zH) (x1 : Int) : 0 ≤ f_M_manyOf h x1 ∧ (0 ≤ hI h 177 10 → f_M_manyOf h x1 ≤ hI h 177 10) := by
  have h1 := zsum_b (f := fun k => if f_M_s h k 0 = x1 then 1 else 0) (u := 1) (fun k => by split <;> omega) (hI h 177 10).toNat 0
  unfold f_M_manyOf
  exact ⟨h1.1, fun e => by have := h1.2; omega⟩
def f_M_numbered (h : zH) (x1 x2 : Int) : Int := zfind (fun k => f_M_s h k 0 = x1 ∧ f_M_s h k 7 = x2) 0 (hI h 177 10).toNat
theorem l_numbered {h : zH} (K : KM h) (g : hI h 177 10 ≤ 24) (x1 x2 : Int) : ∀ (n : Nat) (x3 : Int), 0 ≤ x3 → (hI h 177 10 - x3).toNat = n → zY 264 2 [some (zR (some 177)), some (zI x1), some (zI x2), some (zI x3)] [] h = some (.inl (some (zI (zfind (fun k => f_M_s h k 0 = x1 ∧ f_M_s h k 7 = x2) x3 n))), h)
  | 0, x3, h1, h2 => by
    rw [q_M_numbered_2 K, if_neg (by omega), zfind]
  | n + 1, x3, h1, h2 => by
    rw [q_M_numbered_2 K, if_pos (by omega), zfind]
    by_cases c : f_M_s h x3 0 = x1
    · by_cases c2 : f_M_s h x3 7 = x2
      · rw [if_pos c, if_pos c2, if_pos ⟨c, c2⟩]
      · rw [if_pos c, if_neg c2, gd_t (by omega), l_numbered K g x1 x2 n _ (by omega) (by omega), if_neg (fun e => c2 e.2)]
    · rw [if_neg c, gd_t (by omega), l_numbered K g x1 x2 n _ (by omega) (by omega), if_neg (fun e => c e.1)]
theorem e_M_numbered {h : zH} {x1 x2 : Int} (K : KM h) (g : hI h 177 10 ≤ 24 := by omega) : zC 264 [zR (some 177), zI x1, zI x2] h = some (.inl (some (zI (f_M_numbered h x1 x2))), h) := by
  rw [q_M_numbered K, l_numbered K g x1 x2 _ 0 (by omega) rfl, Int.sub_zero]
  rfl
def f_M_ones (x0 : BitVec 64) : Int := zsum (fun k => if b_M_holds x0 k then 1 else 0) 0 64
theorem l_ones {h : zH} (x0 : BitVec 64) : ∀ (n : Nat) (x2 x3 : Int), 0 ≤ x3 → 64 - x3 = n → 0 ≤ x2 → x2 ≤ x3 → zY 291 4 [some (zJ x0), none, some (zI x2), some (zI x3)] [] h = some (.inl (some (zI (x2 + zsum (fun k => if b_M_holds x0 k then 1 else 0) x3 n))), h)
  | 0, x2, x3, h1, h2, h3, h4 => by
    rw [q_M_ones_4, if_neg (by omega), zsum, Int.add_zero]
  | n + 1, x2, x3, h1, h2, h3, h4 => by
    rw [q_M_ones_4, if_pos (by omega)]
    by_cases c : b_M_holds x0 x3
    · rw [if_pos c, gd_t (by omega), gd_t (by omega), l_ones x0 n _ _ (by omega) (by omega) (by omega) (by omega), zsum, if_pos c, Int.add_assoc]
    · rw [if_neg c, gd_t (by omega), gd_t (by omega), l_ones x0 n _ _ (by omega) (by omega) (by omega) (by omega), zsum, if_neg c, Int.add_assoc]
theorem e_M_ones {h : zH} {x0 : BitVec 64} : zC 291 [zJ x0] h = some (.inl (some (zI (f_M_ones x0))), h) := by
  rw [q_M_ones, l_ones x0 64 0 0 (by omega) rfl (by omega) (by omega), Int.zero_add]
  rfl
def f_M_leastOf (x0 : BitVec 64) : Int := zfind (fun k => b_M_holds x0 k) 0 64
theorem l_leastOf {h : zH} (x0 : BitVec 64) : ∀ (n : Nat) (x2 : Int), 0 ≤ x2 → 64 - x2 = n → zY 292 2 [some (zJ x0), none, some (zI x2)] [] h = some (.inl (some (zI (zfind (fun k => b_M_holds x0 k) x2 n))), h)
  | 0, x2, h1, h2 => by
    rw [q_M_leastOf_2, if_neg (by omega), zfind]
  | n + 1, x2, h1, h2 => by
    rw [q_M_leastOf_2, if_pos (by omega), zfind]
    by_cases c : b_M_holds x0 x2
    · rw [if_pos c, if_pos c]
    · rw [if_neg c, gd_t (by omega), l_leastOf x0 n _ (by omega) (by omega), if_neg c]
theorem e_M_leastOf {h : zH} {x0 : BitVec 64} : zC 292 [zJ x0] h = some (.inl (some (zI (f_M_leastOf x0))), h) := by
  rw [q_M_leastOf, l_leastOf x0 64 0 (by omega) rfl]
  rfl
def f_M_loopAt (h : zH) (x1 : Int) : Int :=
  if x1 < 0 then
    (-1)
  else
    (f_M_numbered h 2 x1)
theorem e_M_loopAt {h : zH} {x1 : Int} (KM : KM h) (g0 : (¬ (x1 < 0)) → (hI h 177 10 ≤ 24) := by omega) : zC 263 [zR (some 177), zI x1] h = some (.inl (some (zI (f_M_loopAt h x1))), h) := by
  show _ = (some (.inl (some (zI (
    if x1 < 0 then
      (-1)
    else
      (f_M_numbered h 2 x1)))), h) : zO)
  refine (show zC 263 [zR (some 177), zI x1] h = if x1 < 0 then zY 263 4 [some (zR (some 177)), some (zI x1)] [] h else zY 263 8 [some (zR (some 177)), some (zI x1)] [] h from zGo 2 263 0 _ _ _).trans ?_
  refine iteCF (fun x => (some (.inl (some (zI x)), h) : zO)) (fun c0 => ?_) (fun c0 => ?_)
  · skip
    refine (show zY 263 4 [some (zR (some 177)), some (zI x1)] [] h = gd (inR (-1)) (gd (([] : List zV).isEmpty = true ∧ (zrk 263 = 1 ∨ zrk 263 = 6 ∧ (((-1) : Int) = 0 ∨ ((-1) : Int) = 1))) (some (.inl (some (zI (-1))), h))) from zGo 3 263 4 _ _ _).trans ?_
    refine (gd_t (by decide) _).trans ?_
    refine (gd_t (⟨rfl, Or.inl rfl⟩) _).trans ?_
    rfl
  · skip
    refine (show zY 263 8 [some (zR (some 177)), some (zI x1)] [] h = gd (inR (2)) (gd (false = zctor 264 ∧ zcs [] ≤ 8 ∧ zrm 263 (zrf 264 + 1) (8 + (zmaxl 264 + 11) + zrl 264) = true ∧ zcs [zR (some 177), zI 2, zI x1] ≤ zmaxl 264) (gd (zob h (some 177) 12) (zBack zY 263 11 14 [some (zR (some 177)), some (zI x1)] [] (zC 264 [zR (some 177), zI 2, zI x1] h)))) from zGo 4 263 8 _ _ _).trans ?_
    refine (gd_t (by decide) _).trans ?_
    refine (gd_t (⟨rfl, Nat.le_of_ble_eq_true rfl, rfl, Nat.le_of_ble_eq_true rfl⟩) _).trans ?_
    refine (gd_t (⟨rfl, (PTM KM 177 _ rfl rfl), (PNM KM 177 rfl)⟩) _).trans ?_
    refine (congrArg (zBack zY 263 11 14 [some (zR (some 177)), some (zI x1)] []) (e_M_numbered KM (g0 c0))).trans ?_
    refine (show zY 263 14 [some (zR (some 177)), some (zI x1)] [zI (f_M_numbered h 2 x1)] h = gd (([] : List zV).isEmpty = true ∧ (zrk 263 = 1 ∨ zrk 263 = 6 ∧ (((f_M_numbered h 2 x1) : Int) = 0 ∨ ((f_M_numbered h 2 x1) : Int) = 1))) (some (.inl (some (zI (f_M_numbered h 2 x1))), h)) from zGo 1 263 14 _ _ _).trans ?_
    refine (gd_t (⟨rfl, Or.inl rfl⟩) _).trans ?_
    rfl
def f_M_holeAt (h : zH) (x1 : Int) : Int :=
  if x1 < 0 then
    (-1)
  else
    (f_M_numbered h 3 x1)
theorem e_M_holeAt {h : zH} {x1 : Int} (KM : KM h) (g0 : (¬ (x1 < 0)) → (hI h 177 10 ≤ 24) := by omega) : zC 313 [zR (some 177), zI x1] h = some (.inl (some (zI (f_M_holeAt h x1))), h) := by
  show _ = (some (.inl (some (zI (
    if x1 < 0 then
      (-1)
    else
      (f_M_numbered h 3 x1)))), h) : zO)
  refine (show zC 313 [zR (some 177), zI x1] h = if x1 < 0 then zY 313 4 [some (zR (some 177)), some (zI x1)] [] h else zY 313 8 [some (zR (some 177)), some (zI x1)] [] h from zGo 2 313 0 _ _ _).trans ?_
  refine iteCF (fun x => (some (.inl (some (zI x)), h) : zO)) (fun c0 => ?_) (fun c0 => ?_)
  · skip
    refine (show zY 313 4 [some (zR (some 177)), some (zI x1)] [] h = gd (inR (-1)) (gd (([] : List zV).isEmpty = true ∧ (zrk 313 = 1 ∨ zrk 313 = 6 ∧ (((-1) : Int) = 0 ∨ ((-1) : Int) = 1))) (some (.inl (some (zI (-1))), h))) from zGo 3 313 4 _ _ _).trans ?_
    refine (gd_t (by decide) _).trans ?_
    refine (gd_t (⟨rfl, Or.inl rfl⟩) _).trans ?_
    rfl
  · skip
    refine (show zY 313 8 [some (zR (some 177)), some (zI x1)] [] h = gd (inR (3)) (gd (false = zctor 264 ∧ zcs [] ≤ 8 ∧ zrm 313 (zrf 264 + 1) (8 + (zmaxl 264 + 11) + zrl 264) = true ∧ zcs [zR (some 177), zI 3, zI x1] ≤ zmaxl 264) (gd (zob h (some 177) 12) (zBack zY 313 11 14 [some (zR (some 177)), some (zI x1)] [] (zC 264 [zR (some 177), zI 3, zI x1] h)))) from zGo 4 313 8 _ _ _).trans ?_
    refine (gd_t (by decide) _).trans ?_
    refine (gd_t (⟨rfl, Nat.le_of_ble_eq_true rfl, rfl, Nat.le_of_ble_eq_true rfl⟩) _).trans ?_
    refine (gd_t (⟨rfl, (PTM KM 177 _ rfl rfl), (PNM KM 177 rfl)⟩) _).trans ?_
    refine (congrArg (zBack zY 313 11 14 [some (zR (some 177)), some (zI x1)] []) (e_M_numbered KM (g0 c0))).trans ?_
    refine (show zY 313 14 [some (zR (some 177)), some (zI x1)] [zI (f_M_numbered h 3 x1)] h = gd (([] : List zV).isEmpty = true ∧ (zrk 313 = 1 ∨ zrk 313 = 6 ∧ (((f_M_numbered h 3 x1) : Int) = 0 ∨ ((f_M_numbered h 3 x1) : Int) = 1))) (some (.inl (some (zI (f_M_numbered h 3 x1))), h)) from zGo 1 313 14 _ _ _).trans ?_
    refine (gd_t (⟨rfl, Or.inl rfl⟩) _).trans ?_
    rfl
def f_M_dutyMany (h : zH) : Int :=
  (1 + (3 * (f_M_manyOf h 2)))
theorem e_M_dutyMany {h : zH} (KM : KM h) (g0 : (hI h 177 10 ≤ 24) := by omega) (g1 : (-2147483648 ≤ 3 * (f_M_manyOf h 2) ∧ 3 * (f_M_manyOf h 2) < 2147483648) := by omega) (g2 : (-2147483648 ≤ 1 + (3 * (f_M_manyOf h 2)) ∧ 1 + (3 * (f_M_manyOf h 2)) < 2147483648) := by omega) : zC 244 [zR (some 177)] h = some (.inl (some (zI (f_M_dutyMany h))), h) := by
  show _ = (some (.inl (some (zI (
    (1 + (3 * (f_M_manyOf h 2)))))), h) : zO)
  refine (show zC 244 [zR (some 177)] h = gd (inR (1)) (gd (inR (3)) (gd (inR (2)) (gd (false = zctor 206 ∧ zcs [zI 3, zI 1] ≤ 8 ∧ zrm 244 (zrf 206 + 1) (8 + (zmaxl 206 + 11) + zrl 206) = true ∧ zcs [zR (some 177), zI 2] ≤ zmaxl 206) (gd (zob h (some 177) 12) (zBack zY 244 4 7 [some (zR (some 177))] [zI 3, zI 1] (zC 206 [zR (some 177), zI 2] h)))))) from zGo 5 244 0 _ _ _).trans ?_
  refine (gd_t (by decide) _).trans ?_
  refine (gd_t (by decide) _).trans ?_
  refine (gd_t (by decide) _).trans ?_
  refine (gd_t (⟨rfl, Nat.le_of_ble_eq_true rfl, rfl, Nat.le_of_ble_eq_true rfl⟩) _).trans ?_
  refine (gd_t (⟨rfl, (PTM KM 177 _ rfl rfl), (PNM KM 177 rfl)⟩) _).trans ?_
  refine (congrArg (zBack zY 244 4 7 [some (zR (some 177))] [zI 3, zI 1]) (e_M_manyOf KM (g0))).trans ?_
  refine (show zY 244 7 [some (zR (some 177))] [zI (f_M_manyOf h 2), zI 3, zI 1] h = gd (inR (3 * (f_M_manyOf h 2))) (gd (inR (1 + (3 * (f_M_manyOf h 2)))) (gd (([] : List zV).isEmpty = true ∧ (zrk 244 = 1 ∨ zrk 244 = 6 ∧ (((1 + (3 * (f_M_manyOf h 2))) : Int) = 0 ∨ ((1 + (3 * (f_M_manyOf h 2))) : Int) = 1))) (some (.inl (some (zI (1 + (3 * (f_M_manyOf h 2))))), h)))) from zGo 3 244 7 _ _ _).trans ?_
  refine (gd_t ((Iff.rfl).2 (g1)) _).trans ?_
  refine (gd_t ((Iff.rfl).2 (g2)) _).trans ?_
  refine (gd_t (⟨rfl, Or.inl rfl⟩) _).trans ?_
  rfl
theorem e_M_dutyManyx {h : zH} (K : KM h) (g0 : hI h 177 10 ≤ 24 := by omega) (g1 : 0 ≤ hI h 177 10 := by omega) : zC 244 [zR (some 177)] h = some (.inl (some (zI (f_M_dutyMany h))), h) := by
  have h1 := f_M_manyOf_b h 2
  have h2 := h1.2 g1
  exact e_M_dutyMany K
abbrev b_M_isDuty (h : zH) (x1 : Int) : Prop :=
  b_M_in x1 0 ((f_M_dutyMany h) - 1)
theorem e_M_isDuty {h : zH} {x1 : Int} (KM : KM h) (g0 : (hI h 177 10 ≤ 24) := by omega) (g1 : (0 ≤ hI h 177 10) := by omega) (g2 : (-2147483648 ≤ (f_M_dutyMany h) - 1 ∧ (f_M_dutyMany h) - 1 < 2147483648) := by omega) : zC 290 [zR (some 177), zI x1] h = some (.inl (some (zI (if b_M_isDuty h x1 then (1 : Int) else 0))), h) := by
  refine (show zC 290 [zR (some 177), zI x1] h = gd (inR (0)) (gd (false = zctor 244 ∧ zcs [zI 0, zI x1] ≤ 8 ∧ zrm 290 (zrf 244 + 1) (8 + (zmaxl 244 + 11) + zrl 244) = true ∧ zcs [zR (some 177)] ≤ zmaxl 244) (gd (zob h (some 177) 12) (zBack zY 290 3 6 [some (zR (some 177)), some (zI x1)] [zI 0, zI x1] (zC 244 [zR (some 177)] h)))) from zGo 4 290 0 _ _ _).trans ?_
  refine (gd_t (by decide) _).trans ?_
  refine (gd_t (⟨rfl, Nat.le_of_ble_eq_true rfl, rfl, Nat.le_of_ble_eq_true rfl⟩) _).trans ?_
  refine (gd_t (⟨rfl, (PTM KM 177 _ rfl rfl), (PNM KM 177 rfl)⟩) _).trans ?_
  refine (congrArg (zBack zY 290 3 6 [some (zR (some 177)), some (zI x1)] [zI 0, zI x1]) (e_M_dutyManyx KM (g0) (g1))).trans ?_
  refine (show zY 290 6 [some (zR (some 177)), some (zI x1)] [zI (f_M_dutyMany h), zI 0, zI x1] h = gd (inR (1)) (gd (inR ((f_M_dutyMany h) - 1)) (gd (false = zctor 214 ∧ zcs [] ≤ 8 ∧ zrm 290 (zrf 214 + 1) (8 + (zmaxl 214 + 11) + zrl 214) = true ∧ zcs [zI x1, zI 0, zI ((f_M_dutyMany h) - 1)] ≤ zmaxl 214) (zBack zY 290 8 11 [some (zR (some 177)), some (zI x1)] [] (zC 214 [zI x1, zI 0, zI ((f_M_dutyMany h) - 1)] h)))) from zGo 3 290 6 _ _ _).trans ?_
  refine (gd_t (by decide) _).trans ?_
  refine (gd_t ((Iff.rfl).2 (g2)) _).trans ?_
  refine (gd_t (⟨rfl, Nat.le_of_ble_eq_true rfl, rfl, Nat.le_of_ble_eq_true rfl⟩) _).trans ?_
  refine (congrArg (zBack zY 290 8 11 [some (zR (some 177)), some (zI x1)] []) (e_M_in)).trans ?_
  refine (show zY 290 11 [some (zR (some 177)), some (zI x1)] [zI (if b_M_in x1 0 ((f_M_dutyMany h) - 1) then (1 : Int) else 0)] h = gd (([] : List zV).isEmpty = true ∧ (zrk 290 = 1 ∨ zrk 290 = 6 ∧ (((if b_M_in x1 0 ((f_M_dutyMany h) - 1) then (1 : Int) else 0) : Int) = 0 ∨ ((if b_M_in x1 0 ((f_M_dutyMany h) - 1) then (1 : Int) else 0) : Int) = 1))) (some (.inl (some (zI (if b_M_in x1 0 ((f_M_dutyMany h) - 1) then (1 : Int) else 0))), h)) from zGo 1 290 11 _ _ _).trans ?_
  refine (gd_t (⟨rfl, Or.inr ⟨rfl, by by_cases q9 : b_M_in x1 0 ((f_M_dutyMany h) - 1) <;> simp [q9]⟩⟩) _).trans ?_
  exact retI (by first | rfl | (exact (if_pos (by unfold b_M_isDuty; omega)).symm) | (exact (if_neg (by unfold b_M_isDuty; omega)).symm) | (exact ifc_congr (by unfold b_M_isDuty; simp_all)) | (unfold b_M_isDuty; simp_all))
theorem q_M_filledHoles {h : zH} (KM : KM h) : zC 242 [zR (some 177)] h =
    zY 242 4 [some (zR (some 177)), some (zI 0), some (zI 0)] [] h := by
  refine (show zC 242 [zR (some 177)] h = gd (inR (0)) (gd (inR (0)) (zY 242 4 [some (zR (some 177)), some (zI 0), some (zI 0)] [] h)) from zGo 4 242 0 _ _ _).trans ?_
  refine (gd_t (by decide) _).trans ?_
  refine (gd_t (by decide) _).trans ?_
  rfl
theorem q_M_filledHoles_4 {h : zH} {x1 : Int} {x2 : Int} (KM : KM h) (g0 : (x2 < (hI h 177 10)) → (0 ≤ x2 ∧ x2 < 24) := by omega) : zY 242 4 [some (zR (some 177)), some (zI x1), some (zI x2)] [] h =
    if x2 < (hI h 177 10) then
      if (f_M_s h x2 0) = 3 then
        if (f_M_filling h x2) = (-1) then
          gd (-2147483648 ≤ x1 + 0 ∧ x1 + 0 < 2147483648) (
          gd (-2147483648 ≤ x2 + 1 ∧ x2 + 1 < 2147483648) (
          zY 242 4 [some (zR (some 177)), some (zI (x1 + 0)), some (zI (x2 + 1))] [] h))
        else
          gd (-2147483648 ≤ x1 + 1 ∧ x1 + 1 < 2147483648) (
          gd (-2147483648 ≤ x2 + 1 ∧ x2 + 1 < 2147483648) (
          zY 242 4 [some (zR (some 177)), some (zI (x1 + 1)), some (zI (x2 + 1))] [] h))
      else
        gd (-2147483648 ≤ x1 + 0 ∧ x1 + 0 < 2147483648) (
        gd (-2147483648 ≤ x2 + 1 ∧ x2 + 1 < 2147483648) (
        zY 242 4 [some (zR (some 177)), some (zI (x1 + 0)), some (zI (x2 + 1))] [] h))
    else
      some (.inl (some (zI x1)), h) := by
  refine (show zY 242 4 [some (zR (some 177)), some (zI x1), some (zI x2)] [] h = gd (zob h (some 177) 12) (if x2 < (hI h 177 10) then zY 242 12 [some (zR (some 177)), some (zI x1), some (zI x2)] [] h else zY 242 45 [some (zR (some 177)), some (zI x1), some (zI x2)] [] h) from zGo 4 242 4 _ _ _).trans ?_
  refine (gd_t (⟨rfl, (PTM KM 177 _ rfl rfl), (PNM KM 177 rfl)⟩) _).trans ?_
  refine iteC (fun c0 => ?_) (fun c0 => ?_)
  · skip
    refine (show zY 242 12 [some (zR (some 177)), some (zI x1), some (zI x2)] [] h = gd (inR (0)) (gd (false = zctor 207 ∧ zcs [zI x1] ≤ 8 ∧ zrm 242 (zrf 207 + 1) (8 + (zmaxl 207 + 11) + zrl 207) = true ∧ zcs [zR (some 177), zI x2, zI 0] ≤ zmaxl 207) (gd (zob h (some 177) 12) (zBack zY 242 16 19 [some (zR (some 177)), some (zI x1), some (zI x2)] [zI x1] (zC 207 [zR (some 177), zI x2, zI 0] h)))) from zGo 5 242 12 _ _ _).trans ?_
    refine (gd_t (by decide) _).trans ?_
    refine (gd_t (⟨rfl, Nat.le_of_ble_eq_true rfl, rfl, Nat.le_of_ble_eq_true rfl⟩) _).trans ?_
    refine (gd_t (⟨rfl, (PTM KM 177 _ rfl rfl), (PNM KM 177 rfl)⟩) _).trans ?_
    refine (congrArg (zBack zY 242 16 19 [some (zR (some 177)), some (zI x1), some (zI x2)] [zI x1]) (e_M_sx KM (g0 c0) (by omega))).trans ?_
    refine (show zY 242 19 [some (zR (some 177)), some (zI x1), some (zI x2)] [zI (f_M_s h x2 0), zI x1] h = gd (inR (3)) (if (f_M_s h x2 0) = 3 then zY 242 23 [some (zR (some 177)), some (zI x1), some (zI x2)] [zI x1] h else zY 242 36 [some (zR (some 177)), some (zI x1), some (zI x2)] [zI x1] h) from zGo 2 242 19 _ _ _).trans ?_
    refine (gd_t (by decide) _).trans ?_
    refine iteC (fun c1 => ?_) (fun c1 => ?_)
    · skip
      refine (show zY 242 23 [some (zR (some 177)), some (zI x1), some (zI x2)] [zI x1] h = gd (false = zctor 243 ∧ zcs [zI x1] ≤ 8 ∧ zrm 242 (zrf 243 + 1) (8 + (zmaxl 243 + 11) + zrl 243) = true ∧ zcs [zR (some 177), zI x2] ≤ zmaxl 243) (gd (zob h (some 177) 12) (zBack zY 242 25 28 [some (zR (some 177)), some (zI x1), some (zI x2)] [zI x1] (zC 243 [zR (some 177), zI x2] h))) from zGo 3 242 23 _ _ _).trans ?_
      refine (gd_t (⟨rfl, Nat.le_of_ble_eq_true rfl, rfl, Nat.le_of_ble_eq_true rfl⟩) _).trans ?_
      refine (gd_t (⟨rfl, (PTM KM 177 _ rfl rfl), (PNM KM 177 rfl)⟩) _).trans ?_
      refine (congrArg (zBack zY 242 25 28 [some (zR (some 177)), some (zI x1), some (zI x2)] [zI x1]) (e_M_fillingx KM (g0 c0))).trans ?_
      refine (show zY 242 28 [some (zR (some 177)), some (zI x1), some (zI x2)] [zI (f_M_filling h x2), zI x1] h = gd (inR (-1)) (if (f_M_filling h x2) = (-1) then zY 242 36 [some (zR (some 177)), some (zI x1), some (zI x2)] [zI x1] h else zY 242 32 [some (zR (some 177)), some (zI x1), some (zI x2)] [zI x1] h) from zGo 2 242 28 _ _ _).trans ?_
      refine (gd_t (by decide) _).trans ?_
      refine iteC (fun c2 => ?_) (fun c2 => ?_)
      · skip
        refine (show zY 242 36 [some (zR (some 177)), some (zI x1), some (zI x2)] [zI x1] h = gd (inR (0)) (gd (inR (x1 + 0)) (gd (inR (x2 + 1)) (gd (inR (1)) (zY 242 4 [some (zR (some 177)), some (zI (x1 + 0)), some (zI (x2 + 1))] [] h)))) from zGo 5 242 36 _ _ _).trans ?_
        refine (gd_t (by decide) _).trans ?_
        refine gd_c Iff.rfl (fun c3 => ?_)
        refine gd_c Iff.rfl (fun c4 => ?_)
        refine (gd_t (by decide) _).trans ?_
        rfl
      · skip
        refine (show zY 242 32 [some (zR (some 177)), some (zI x1), some (zI x2)] [zI x1] h = gd (inR (1)) (gd (inR (x1 + 1)) (gd (inR (x2 + 1)) (gd (inR (1)) (zY 242 4 [some (zR (some 177)), some (zI (x1 + 1)), some (zI (x2 + 1))] [] h)))) from zGo 6 242 32 _ _ _).trans ?_
        refine (gd_t (by decide) _).trans ?_
        refine gd_c Iff.rfl (fun c5 => ?_)
        refine gd_c Iff.rfl (fun c6 => ?_)
        refine (gd_t (by decide) _).trans ?_
        rfl
    · skip
      refine (show zY 242 36 [some (zR (some 177)), some (zI x1), some (zI x2)] [zI x1] h = gd (inR (0)) (gd (inR (x1 + 0)) (gd (inR (x2 + 1)) (gd (inR (1)) (zY 242 4 [some (zR (some 177)), some (zI (x1 + 0)), some (zI (x2 + 1))] [] h)))) from zGo 5 242 36 _ _ _).trans ?_
      refine (gd_t (by decide) _).trans ?_
      refine gd_c Iff.rfl (fun c7 => ?_)
      refine gd_c Iff.rfl (fun c8 => ?_)
      refine (gd_t (by decide) _).trans ?_
      rfl
  · skip
    refine (show zY 242 45 [some (zR (some 177)), some (zI x1), some (zI x2)] [] h = gd (([] : List zV).isEmpty = true ∧ (zrk 242 = 1 ∨ zrk 242 = 6 ∧ ((x1 : Int) = 0 ∨ (x1 : Int) = 1))) (some (.inl (some (zI x1)), h)) from zGo 2 242 45 _ _ _).trans ?_
    refine (gd_t (⟨rfl, Or.inl rfl⟩) _).trans ?_
    rfl
theorem q_M_isInSecond {h : zH} {x1 : Int} (KM : KM h) (g0 : (0 ≤ x1 ∧ x1 < 24) := by omega) (g1 : (0 ≤ (f_M_s h x1 3) ∧ (f_M_s h x1 3) < 24) := by omega) : zC 236 [zR (some 177), zI x1] h =
    zY 236 13 [some (zR (some 177)), some (zI x1), some (zI (f_M_s h (f_M_s h x1 3) 6))] [] h := by
  refine (show zC 236 [zR (some 177), zI x1] h = gd (inR (3)) (gd (false = zctor 207 ∧ zcs [zR (some 177)] ≤ 8 ∧ zrm 236 (zrf 207 + 1) (8 + (zmaxl 207 + 11) + zrl 207) = true ∧ zcs [zR (some 177), zI x1, zI 3] ≤ zmaxl 207) (gd (zob h (some 177) 12) (zBack zY 236 4 7 [some (zR (some 177)), some (zI x1), none] [zR (some 177)] (zC 207 [zR (some 177), zI x1, zI 3] h)))) from zGo 5 236 0 _ _ _).trans ?_
  refine (gd_t (by decide) _).trans ?_
  refine (gd_t (⟨rfl, Nat.le_of_ble_eq_true rfl, rfl, Nat.le_of_ble_eq_true rfl⟩) _).trans ?_
  refine (gd_t (⟨rfl, (PTM KM 177 _ rfl rfl), (PNM KM 177 rfl)⟩) _).trans ?_
  refine (congrArg (zBack zY 236 4 7 [some (zR (some 177)), some (zI x1), none] [zR (some 177)]) (e_M_sx KM (g0) (by omega))).trans ?_
  refine (show zY 236 7 [some (zR (some 177)), some (zI x1), none] [zI (f_M_s h x1 3), zR (some 177)] h = gd (-128 ≤ (6 : Int) ∧ (6 : Int) < 128) (gd (false = zctor 207 ∧ zcs [] ≤ 8 ∧ zrm 236 (zrf 207 + 1) (8 + (zmaxl 207 + 11) + zrl 207) = true ∧ zcs [zR (some 177), zI (f_M_s h x1 3), zI 6] ≤ zmaxl 207) (gd (zob h (some 177) 12) (zBack zY 236 9 12 [some (zR (some 177)), some (zI x1), none] [] (zC 207 [zR (some 177), zI (f_M_s h x1 3), zI 6] h)))) from zGo 2 236 7 _ _ _).trans ?_
  refine (gd_t (by decide) _).trans ?_
  refine (gd_t (⟨rfl, Nat.le_of_ble_eq_true rfl, rfl, Nat.le_of_ble_eq_true rfl⟩) _).trans ?_
  refine (gd_t (⟨rfl, (PTM KM 177 _ rfl rfl), (PNM KM 177 rfl)⟩) _).trans ?_
  refine (congrArg (zBack zY 236 9 12 [some (zR (some 177)), some (zI x1), none] []) (e_M_sx KM (g1) (by omega))).trans ?_
  refine (show zY 236 12 [some (zR (some 177)), some (zI x1), none] [zI (f_M_s h (f_M_s h x1 3) 6)] h = zY 236 13 [some (zR (some 177)), some (zI x1), some (zI (f_M_s h (f_M_s h x1 3) 6))] [] h from zGo 1 236 12 _ _ _).trans ?_
  rfl
theorem q_M_isInSecond_13 {h : zH} {x1 : Int} {x2 : Int} (KM : KM h) (g0 : (¬ (x2 = (-1))) → (¬ (x2 = x1)) → (0 ≤ x2 ∧ x2 < 24) := by omega) : zY 236 13 [some (zR (some 177)), some (zI x1), some (zI x2)] [] h =
    if x2 = (-1) then
      if x2 = x1 then
        some (.inl (some (zI 1)), h)
      else
        some (.inl (some (zI 0)), h)
    else
      if x2 = x1 then
        some (.inl (some (zI 1)), h)
      else
        zY 236 13 [some (zR (some 177)), some (zI x1), some (zI (f_M_s h x2 4))] [] h := by
  refine (show zY 236 13 [some (zR (some 177)), some (zI x1), some (zI x2)] [] h = gd (inR (-1)) (if x2 = (-1) then zY 236 33 [some (zR (some 177)), some (zI x1), some (zI x2)] [] h else zY 236 18 [some (zR (some 177)), some (zI x1), some (zI x2)] [] h) from zGo 3 236 13 _ _ _).trans ?_
  refine (gd_t (by decide) _).trans ?_
  refine iteC (fun c0 => ?_) (fun c0 => ?_)
  · skip
    refine (show zY 236 33 [some (zR (some 177)), some (zI x1), some (zI x2)] [] h = if x2 = x1 then zY 236 38 [some (zR (some 177)), some (zI x1), some (zI x2)] [] h else zY 236 42 [some (zR (some 177)), some (zI x1), some (zI x2)] [] h from zGo 3 236 33 _ _ _).trans ?_
    refine iteC (fun c1 => ?_) (fun c1 => ?_)
    · skip
      refine (show zY 236 38 [some (zR (some 177)), some (zI x1), some (zI x2)] [] h = gd (inR (1)) (gd (([] : List zV).isEmpty = true ∧ (zrk 236 = 1 ∨ zrk 236 = 6 ∧ ((1 : Int) = 0 ∨ (1 : Int) = 1))) (some (.inl (some (zI 1)), h))) from zGo 3 236 38 _ _ _).trans ?_
      refine (gd_t (by decide) _).trans ?_
      refine (gd_t (⟨rfl, Or.inr ⟨rfl, by decide⟩⟩) _).trans ?_
      rfl
    · skip
      refine (show zY 236 42 [some (zR (some 177)), some (zI x1), some (zI x2)] [] h = gd (inR (0)) (gd (([] : List zV).isEmpty = true ∧ (zrk 236 = 1 ∨ zrk 236 = 6 ∧ ((0 : Int) = 0 ∨ (0 : Int) = 1))) (some (.inl (some (zI 0)), h))) from zGo 2 236 42 _ _ _).trans ?_
      refine (gd_t (by decide) _).trans ?_
      refine (gd_t (⟨rfl, Or.inr ⟨rfl, by decide⟩⟩) _).trans ?_
      rfl
  · skip
    refine (show zY 236 18 [some (zR (some 177)), some (zI x1), some (zI x2)] [] h = if x2 = x1 then zY 236 33 [some (zR (some 177)), some (zI x1), some (zI x2)] [] h else zY 236 23 [some (zR (some 177)), some (zI x1), some (zI x2)] [] h from zGo 3 236 18 _ _ _).trans ?_
    refine iteC (fun c2 => ?_) (fun c2 => ?_)
    · skip
      refine (show zY 236 33 [some (zR (some 177)), some (zI x1), some (zI x2)] [] h = if x2 = x1 then zY 236 38 [some (zR (some 177)), some (zI x1), some (zI x2)] [] h else zY 236 42 [some (zR (some 177)), some (zI x1), some (zI x2)] [] h from zGo 3 236 33 _ _ _).trans ?_
      refine ite_p c2 ?_
      refine (show zY 236 38 [some (zR (some 177)), some (zI x1), some (zI x2)] [] h = gd (inR (1)) (gd (([] : List zV).isEmpty = true ∧ (zrk 236 = 1 ∨ zrk 236 = 6 ∧ ((1 : Int) = 0 ∨ (1 : Int) = 1))) (some (.inl (some (zI 1)), h))) from zGo 3 236 38 _ _ _).trans ?_
      refine (gd_t (by decide) _).trans ?_
      refine (gd_t (⟨rfl, Or.inr ⟨rfl, by decide⟩⟩) _).trans ?_
      rfl
    · skip
      refine (show zY 236 23 [some (zR (some 177)), some (zI x1), some (zI x2)] [] h = gd (inR (4)) (gd (false = zctor 207 ∧ zcs [] ≤ 8 ∧ zrm 236 (zrf 207 + 1) (8 + (zmaxl 207 + 11) + zrl 207) = true ∧ zcs [zR (some 177), zI x2, zI 4] ≤ zmaxl 207) (gd (zob h (some 177) 12) (zBack zY 236 26 29 [some (zR (some 177)), some (zI x1), some (zI x2)] [] (zC 207 [zR (some 177), zI x2, zI 4] h)))) from zGo 4 236 23 _ _ _).trans ?_
      refine (gd_t (by decide) _).trans ?_
      refine (gd_t (⟨rfl, Nat.le_of_ble_eq_true rfl, rfl, Nat.le_of_ble_eq_true rfl⟩) _).trans ?_
      refine (gd_t (⟨rfl, (PTM KM 177 _ rfl rfl), (PNM KM 177 rfl)⟩) _).trans ?_
      refine (congrArg (zBack zY 236 26 29 [some (zR (some 177)), some (zI x1), some (zI x2)] []) (e_M_sx KM (g0 c0 c2) (by omega))).trans ?_
      refine (show zY 236 29 [some (zR (some 177)), some (zI x1), some (zI x2)] [zI (f_M_s h x2 4)] h = zY 236 13 [some (zR (some 177)), some (zI x1), some (zI (f_M_s h x2 4))] [] h from zGo 2 236 29 _ _ _).trans ?_
      rfl
def f_M_filledHoles (h : zH) : Int := zsum (fun k => if f_M_s h k 0 = 3 ∧ ¬ f_M_filling h k = -1 then 1 else 0) 0 (hI h 177 10).toNat
theorem l_filledHoles {h : zH} (K : KM h) (g : hI h 177 10 ≤ 24) : ∀ (n : Nat) (x1 x2 : Int), 0 ≤ x2 → (hI h 177 10 - x2).toNat = n → 0 ≤ x1 → x1 ≤ x2 → zY 242 4 [some (zR (some 177)), some (zI x1), some (zI x2)] [] h = some (.inl (some (zI (x1 + zsum (fun k => if f_M_s h k 0 = 3 ∧ ¬ f_M_filling h k = -1 then 1 else 0) x2 n))), h)
  | 0, x1, x2, h1, h2, h3, h4 => by
    rw [q_M_filledHoles_4 K, if_neg (by omega), zsum, Int.add_zero]
  | n + 1, x1, x2, h1, h2, h3, h4 => by
    rw [q_M_filledHoles_4 K, if_pos (by omega)]
    by_cases c : f_M_s h x2 0 = 3
    · by_cases c2 : f_M_filling h x2 = -1
      · rw [if_pos c, if_pos c2, gd_t (by omega), gd_t (by omega), l_filledHoles K g n _ _ (by omega) (by omega) (by omega) (by omega), zsum, if_neg (fun e => e.2 c2), Int.add_assoc]
      · rw [if_pos c, if_neg c2, gd_t (by omega), gd_t (by omega), l_filledHoles K g n _ _ (by omega) (by omega) (by omega) (by omega), zsum, if_pos ⟨c, c2⟩, Int.add_assoc]
    · rw [if_neg c, gd_t (by omega), gd_t (by omega), l_filledHoles K g n _ _ (by omega) (by omega) (by omega) (by omega), zsum, if_neg (fun e => c e.1), Int.add_assoc]
theorem e_M_filledHoles {h : zH} (K : KM h) (g : hI h 177 10 ≤ 24 := by omega) : zC 242 [zR (some 177)] h = some (.inl (some (zI (f_M_filledHoles h))), h) := by
  rw [q_M_filledHoles K, l_filledHoles K g _ 0 0 (by omega) rfl (by omega) (by omega), Int.zero_add, Int.sub_zero]
  rfl
