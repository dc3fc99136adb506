/-! The class: what runs meet. -/
section CMET
variable {n top : Int} {R N : Nat → Int} {h : zH} {p v : Nat}
/-- a run of the program from a state begun so comes to q -/
def rch (n top : Int) (R N : Nat → Int) (k : Int) (q : Int × Int) : Prop := ∃ (st : Int) (i : Nat), 0 ≤ st ∧ st < k ∧ bt (setL (lst N 0)) st = true ∧ orb R N (thn R) (-1) (top, st) i = q ∧ ∀ j, j ≤ i → (orb R N (thn R) (-1) (top, st) j).1 ≠ -1
theorem orb_in (P : Prg n top R N) {st : Int} (h2 : 0 ≤ st) (h3 : st < 64) {i : Nat} (hi : ∀ j, j ≤ i → (orb R N (thn R) (-1) (top, st) j).1 ≠ -1) : pv n (orb R N (thn R) (-1) (top, st) i) := by
  have h0 := hi 0 (by omega)
  have h0 : top ≠ -1 := h0
  have tr := top_r P
  have hv := orb_v (al := -1) P.1 P.2.1 (isTS_thR P.1 (isTS_t P.1 (-1))) (p := (top, st)) ⟨by omega, h2, h3⟩ i (fun j hj => hi j (by omega))
  exact ⟨hv.1.resolve_left (hi i (Nat.le_refl _)), hv.2⟩
theorem mtT_i {p : Int × Int} {m0 : Int → BitVec 64} {s x : Int} (hx : 0 ≤ x) (hx2 : x < 64) : ∀ (k : Nat), (∀ i, i < k → 0 ≤ (orb R N (thn R) (-1) p i).2 ∧ (orb R N (thn R) (-1) p i).2 < 64) → (bt (mtT R N (thn R) (-1) p m0 k s) x = true ↔ bt (m0 s) x = true ∨ ∃ i, i < k ∧ orb R N (thn R) (-1) p i = (s, x))
  | 0, _ => ⟨Or.inl, fun q => q.elim id (fun ⟨i, a, _⟩ => absurd a (Nat.not_lt_zero _))⟩
  | k + 1, hv => by
    have ih := mtT_i (m0 := m0) (s := s) hx hx2 k (fun i hi => hv i (by omega))
    have hk := hv k (by omega)
    simp only [mtT, mtS]
    by_cases c : (orb R N (thn R) (-1) p k).1 = s
    · rw [if_pos c, bt_or, bt_1 hk.1 hk.2 hx hx2, Bool.or_eq_true, decide_eq_true_eq, ih]
      constructor
      · rintro ((q | ⟨i, a, b⟩) | q)
        · exact Or.inl q
        · exact Or.inr ⟨i, by omega, b⟩
        · exact Or.inr ⟨k, by omega, Prod.ext c q.symm⟩
      · rintro (q | ⟨i, a, b⟩)
        · exact Or.inl (Or.inl q)
        · by_cases e : i = k
          · subst e; rw [b]; exact Or.inr rfl
          · exact Or.inl (Or.inr ⟨i, by omega, b⟩)
    · rw [if_neg c, ih]
      constructor
      · rintro (q | ⟨i, a, b⟩)
        · exact Or.inl q
        · exact Or.inr ⟨i, by omega, b⟩
      · rintro (q | ⟨i, a, b⟩)
        · exact Or.inl q
        · by_cases e : i = k
          · subst e; rw [b] at c; exact absurd rfl c
          · exact Or.inr ⟨i, by omega, b⟩
theorem orb_back {p : Int × Int} {i D : Nat} (e : orb R N (thn R) (-1) p i = orb R N (thn R) (-1) p D) (hi : i < D) : ∀ (m : Nat), ∃ j, j < D ∧ orb R N (thn R) (-1) p m = orb R N (thn R) (-1) p j
  | 0 => ⟨0, by omega, rfl⟩
  | m + 1 => by
    obtain ⟨j, hj, ej⟩ := orb_back e hi m
    by_cases c : j + 1 < D
    · exact ⟨j + 1, c, by show stp _ _ _ _ (orb R N (thn R) (-1) p m) = stp _ _ _ _ (orb R N (thn R) (-1) p j); rw [ej]⟩
    · refine ⟨i, hi, ?_⟩
      show stp _ _ _ _ (orb R N (thn R) (-1) p m) = _
      rw [ej, e, show D = j + 1 by omega]
      rfl
/-- what is met is what runs come to -/
theorem mtA_rch (P : Prg n top R N) {s x : Int} (hx : 0 ≤ x) (hx2 : x < 64) (hs : s ≠ -1) : ∀ (k : Nat), k ≤ 64 → (bt (mtA n top R N k s) x = true ↔ rch n top R N k (s, x))
  | 0, _ => by
    rw [show mtA n top R N 0 s = 0#64 from rfl, bt_0]
    exact ⟨fun e => absurd e (by decide), fun ⟨st, i, a, b, _⟩ => by omega⟩
  | k + 1, hk => by
    have ih := mtA_rch P (s := s) hx hx2 hs k (by omega)
    have hD := runD_C P (st := k) (by omega) (by omega)
    rw [mtA]
    have split : rch n top R N ((k + 1 : Nat) : Int) (s, x) ↔ rch n top R N k (s, x) ∨ (bt (setL (lst N 0)) k = true ∧ ∃ i, orb R N (thn R) (-1) (top, (k : Int)) i = (s, x) ∧ ∀ j, j ≤ i → (orb R N (thn R) (-1) (top, (k : Int)) j).1 ≠ -1) := by
      constructor
      · rintro ⟨st, i, a, b, c, d, e⟩
        by_cases g : st = k
        · subst g; exact Or.inr ⟨c, i, d, e⟩
        · exact Or.inl ⟨st, i, a, by omega, c, d, e⟩
      · rintro (⟨st, i, a, b, c, d, e⟩ | ⟨c, i, d, e⟩)
        · exact ⟨st, i, a, by omega, c, d, e⟩
        · exact ⟨k, i, by omega, by omega, c, d, e⟩
    rw [split]
    by_cases c : bt (setL (lst N 0)) k = true
    · rw [if_pos c]
      have hns : ∀ t, t < dT R N top k → (orb R N (thn R) (-1) (top, (k : Int)) t).1 ≠ -1 := fun t ht e => hD.1.2.2 t ht (Or.inl e)
      by_cases e : EC n top R N k = -1
      · rw [if_pos e]
        have hDn := hD.2.1 e
        have hall : ∀ t, t ≤ dT R N top k → (orb R N (thn R) (-1) (top, (k : Int)) t).1 ≠ -1 := fun t ht => by
          by_cases q : t = dT R N top k
          · rw [q]; exact hDn
          · exact hns t (by omega)
        have hrng : ∀ t, t ≤ dT R N top k → pv n (orb R N (thn R) (-1) (top, (k : Int)) t) := fun t ht => orb_in P (by omega) (by omega) (fun j hj => hall j (by omega))
        rw [mtT_i hx hx2 _ (fun i hi => (hrng i (by omega)).2), ih]
        have hst := hD.1.2.1
        have hloop : ∃ i, i < dT R N top k ∧ orb R N (thn R) (-1) (top, (k : Int)) i = orb R N (thn R) (-1) (top, (k : Int)) (dT R N top k) := by
          rcases hst with q | ⟨q1, q2⟩
          · exact absurd q hDn
          · have hr := (hrng _ (Nat.le_refl _)).2
            obtain ⟨i, a, b⟩ := lkT_s hr.1 hr.2 _ (fun i hi => (hrng i (by omega)).2) q2
            exact ⟨i, a, b⟩
        obtain ⟨i0, a0, b0⟩ := hloop
        have hback := orb_back (p := (top, (k : Int))) b0 a0
        have hnever : ∀ m, (orb R N (thn R) (-1) (top, (k : Int)) m).1 ≠ -1 := fun m => by
          obtain ⟨j, hj, ej⟩ := hback m
          rw [ej]; exact hns j hj
        constructor
        · rintro (q | ⟨i, a, b⟩)
          · exact Or.inl q
          · exact Or.inr ⟨c, i, b, fun j _ => hnever j⟩
        · rintro (q | ⟨_, i, b, _⟩)
          · exact Or.inl q
          · obtain ⟨j, hj, ej⟩ := hback i
            exact Or.inr ⟨j, by omega, by rw [← ej]; exact b⟩
      · rw [if_neg e, Nat.add_zero]
        have hend := hD.2.2 e
        rw [mtT_i hx hx2 _ (fun i hi => (orb_rng P (by omega) (by omega) hD i hi).2), ih]
        constructor
        · rintro (q | ⟨i, a, b⟩)
          · exact Or.inl q
          · exact Or.inr ⟨c, i, b, fun j hj => hns j (by omega)⟩
        · rintro (q | ⟨_, i, b, d⟩)
          · exact Or.inl q
          · refine Or.inr ⟨i, ?_, b⟩
            by_cases g : i < dT R N top k
            · exact g
            · exact absurd (by rw [hend.1]) (d (dT R N top k) (by omega))
    · rw [if_neg c, ih]
      exact ⟨Or.inl, fun q => q.elim id (fun z => absurd z.1 c)⟩
/-- what is seen: as a set of places -/
def seeB (h : zH) (q : Int × Int) : Prop := bt (hJ h 131 q.1.toNat) q.2 = true
def unc (h : zH) : Int := zsum (fun j => if bt (hJ h 131 (j / 64).toNat) (j % 64) = true then 0 else 1) 0 1536
theorem zsum_one {f g : Int → Int} {j : Int} : ∀ (m : Nat) (a : Int), a ≤ j → j < a + m → (∀ k, a ≤ k → k ≠ j → f k = g k) → f j = g j + 1 → zsum f a m = zsum g a m + 1
  | 0, a, h1, h2, _, _ => by omega
  | m + 1, a, h1, h2, h3, h4 => by
    simp only [zsum]
    by_cases c : a = j
    · rw [c, h4, zsum_congr (f := f) (g := g) m (j + 1) (fun k q1 q2 => h3 k (by omega) (by omega))]
      omega
    · have := zsum_one (f := f) (g := g) (j := j) m (a + 1) (by omega) (by omega) (fun k q => h3 k (by omega)) h4
      rw [this, h3 a (Int.le_refl _) c]
      omega
abbrev scrSe : FA := [(131, none)]
theorem CR_se {h2 : zH} (C : CR h p v n R N (TT n R N)) (F : Fr scrSe h h2) : CR h2 p v n R N (TT n R N) := CR_f C F rfl
theorem see_put {s x : Int} (h0 : 0 ≤ s) (h1 : s < 24) (h2 : 0 ≤ x) (h3 : x < 64) (q : Int × Int) (q0 : 0 ≤ q.1) (q2 : 0 ≤ q.2) (q3 : q.2 < 64) : seeB (sJ h 131 s.toNat (hJ h 131 s.toNat ||| zlshl 1#64 x)) q ↔ seeB h q ∨ q = (s, x) := by
  unfold seeB
  rw [hJ_up]
  by_cases c : q.1 = s
  · rw [if_pos (by rw [c]), bt_or, bt_1 h2 h3 q2 q3, Bool.or_eq_true, decide_eq_true_eq, c]
    constructor
    · rintro (a | a)
      · exact Or.inl a
      · exact Or.inr (Prod.ext c a)
    · rintro (a | a)
      · exact Or.inl a
      · exact Or.inr (by rw [a])
  · rw [if_neg (by omega)]
    exact ⟨Or.inl, fun a => a.elim id (fun e => absurd (by rw [e]) c)⟩
theorem unc_put {s x : Int} (h0 : 0 ≤ s) (h1 : s < 24) (h2 : 0 ≤ x) (h3 : x < 64) (hn : ¬ seeB h (s, x)) : unc h = unc (sJ h 131 s.toNat (hJ h 131 s.toNat ||| zlshl 1#64 x)) + 1 := by
  have key : ∀ k : Int, 0 ≤ k → (bt (hJ (sJ h 131 s.toNat (hJ h 131 s.toNat ||| zlshl 1#64 x)) 131 (k / 64).toNat) (k % 64) = true ↔ bt (hJ h 131 (k / 64).toNat) (k % 64) = true ∨ k = 64 * s + x) := fun k hk => by
    have := see_put (h := h) h0 h1 h2 h3 (k / 64, k % 64) (by show 0 ≤ k / 64; omega) (by show 0 ≤ k % 64; omega) (by show k % 64 < 64; omega)
    unfold seeB at this
    rw [this]
    constructor
    · rintro (a | a)
      · exact Or.inl a
      · have e1 : k / 64 = s := congrArg Prod.fst a
        have e2 : k % 64 = x := congrArg Prod.snd a
        exact Or.inr (by omega)
    · rintro (a | a)
      · exact Or.inl a
      · exact Or.inr (Prod.ext (by show k / 64 = s; omega) (by show k % 64 = x; omega))
  unfold unc
  refine zsum_one (j := 64 * s + x) 1536 0 (by omega) (by omega) (fun k hk0 hk => ?_) ?_
  · have := key k hk0
    by_cases d : bt (hJ h 131 (k / 64).toNat) (k % 64) = true
    · show (if _ then (0 : Int) else 1) = if _ then 0 else 1
      rw [if_pos d, if_pos (this.2 (Or.inl d))]
    · show (if _ then (0 : Int) else 1) = if _ then 0 else 1
      rw [if_neg d, if_neg (fun q => (this.1 q).elim d hk)]
  · have := key (64 * s + x) (by omega)
    have d1 : (64 * s + x) / 64 = s := by omega
    have d2 : (64 * s + x) % 64 = x := by omega
    have hn' : ¬ bt (hJ h 131 ((64 * s + x) / 64).toNat) ((64 * s + x) % 64) = true := by rw [d1, d2]; exact hn
    show (if _ then (0 : Int) else 1) = (if _ then 0 else 1) + 1
    rw [if_neg hn', if_pos (this.2 (Or.inr rfl))]
    rfl
theorem unc_b (h : zH) : 0 ≤ unc h ∧ unc h ≤ 1536 := by
  have := zsum_b (f := fun j => if bt (hJ h 131 (j / 64).toNat) (j % 64) = true then 0 else 1) (u := 1) (fun k => by split <;> omega) 1536 0
  unfold unc
  omega
/-- what is seen has been come to from the first k states, or now; and nothing goes on from there but to what is seen, or to c -/
def SeI (h : zH) (n top : Int) (R N : Nat → Int) (k : Int) (c : Int × Int) : Prop := (∀ q, 0 ≤ q.1 → q.1 < 24 → 0 ≤ q.2 → q.2 < 64 → seeB h q → rch n top R N (k + 1) q ∧ ((stp R N (thn R) (-1) q).1 = -1 ∨ seeB h (stp R N (thn R) (-1) q) ∨ stp R N (thn R) (-1) q = c)) ∧ (∀ q, rch n top R N k q → seeB h q)
theorem l_met48 (P : Prg n top R N) {s k : Int} (hk : 0 ≤ k) (hk2 : k < 64) (hb : bt (setL (lst N 0)) k = true) {Q : zH → Prop} (hQ : ∀ (g : zH) (x3 x4 x5 : Int), CR g p v n R N (TT n R N) → (∀ q, rch n top R N (k + 1) q → seeB g q) → (∀ q, 0 ≤ q.1 → q.1 < 24 → 0 ≤ q.2 → q.2 < 64 → seeB g q → rch n top R N (k + 1) q) → Fr scrSe h g → ∃ h3, zY 78 10 [some (zR (some 128)), some (zI s), some (zI (k + 1)), some (zI x3), some (zI x4), some (zI x5), none] [] g = some (.inl (some (zJ (mtA n top R N 64 s))), h3) ∧ Q h3) : ∀ (m i : Nat) (y : Option zV) (g : zH), CR g p v n R N (TT n R N) → unc g ≤ m → i + m = 1536 → SeI g n top R N k (orb R N (thn R) (-1) (top, k) i) → (∀ j, j < i → (orb R N (thn R) (-1) (top, k) j).1 ≠ -1 ∧ seeB g (orb R N (thn R) (-1) (top, k) j)) → Fr scrSe h g → ∃ h3, zY 78 48 [some (zR (some 128)), some (zI s), some (zI k), some (zI (orb R N (thn R) (-1) (top, k) i).2), some (zI (orb R N (thn R) (-1) (top, k) i).1), some (zI i), y] [] g = some (.inl (some (zJ (mtA n top R N 64 s))), h3) ∧ Q h3
  | m, i, y, g, C, hm, hi, H, Hj, F => by
    suffices hs : ∃ h3, zY 78 48 [some (zR (some 128)), some (zI s), some (zI k), some (zI (orb R N (thn R) (-1) (top, k) i).2), some (zI (orb R N (thn R) (-1) (top, k) i).1), some (zI i), none] [] g = some (.inl (some (zJ (mtA n top R N 64 s))), h3) ∧ Q h3 by
      obtain ⟨g3, e3, q3⟩ := hs
      exact ⟨g3, zY_le (by exact ⟨rfl, rfl, rfl, rfl, rfl, rfl, trivial⟩) e3, q3⟩
    have w0 := P.1.1
    have K := CR_K C
    -- the end of this state's run
    have fin : ((orb R N (thn R) (-1) (top, k) i).1 = -1 ∨ seeB g (orb R N (thn R) (-1) (top, k) i)) → ∃ h3, zY 78 10 [some (zR (some 128)), some (zI s), some (zI (k + 1)), some (zI (orb R N (thn R) (-1) (top, k) i).2), some (zI (orb R N (thn R) (-1) (top, k) i).1), some (zI i), none] [] g = some (.inl (some (zJ (mtA n top R N 64 s))), h3) ∧ Q h3 := fun hc => by
      have cl : ∀ q, 0 ≤ q.1 → q.1 < 24 → 0 ≤ q.2 → q.2 < 64 → seeB g q → (stp R N (thn R) (-1) q).1 = -1 ∨ seeB g (stp R N (thn R) (-1) q) := fun q a b c d e => by
        rcases (H.1 q a b c d e).2 with z | z | z
        · exact Or.inl z
        · exact Or.inr z
        · rw [z]; exact hc
      refine hQ g _ _ _ C (fun q hq => ?_) (fun q a b c d e => (H.1 q a b c d e).1) F
      obtain ⟨st, j, s0, s1, sb, sj, sn⟩ := hq
      by_cases e : st = k
      · subst e
        have all : ∀ j, (∀ l, l ≤ j → (orb R N (thn R) (-1) (top, st) l).1 ≠ -1) → seeB g (orb R N (thn R) (-1) (top, st) j) := fun j => by
          induction j with
          | zero =>
            intro hl
            by_cases z : 0 < i
            · exact (Hj 0 z).2
            · obtain rfl : i = 0 := by omega
              exact hc.resolve_left (hl 0 (Nat.le_refl _))
          | succ j ih =>
            intro hl
            have hsee := ih (fun l a => hl l (by omega))
            have hin := orb_in P s0 hk2 (i := j) (fun l a => hl l (by omega))
            exact (cl _ hin.1.1 (by have := hin.1.2; omega) hin.2.1 hin.2.2 hsee).resolve_left (hl (j + 1) (Nat.le_refl _))
        rw [← sj]
        exact all j sn
      · exact H.2 q ⟨st, j, s0, by omega, sb, sj, sn⟩
    rw [q_R_metAt_48 K, if_neg (by omega), q_R_takeUnseen K]
    by_cases c0 : (orb R N (thn R) (-1) (top, k) i).1 = -1
    · rw [if_pos (by omega), q_R_metAt_r63 K (CR_rp C) (CR_P C).1 (fun q => absurd rfl q) (fun q => absurd rfl q), if_pos rfl, gd_t (by omega)]
      exact fin (Or.inl c0)
    · have hin := orb_in P hk hk2 (i := i) (fun j hj => by
        by_cases e : j = i
        · rw [e]; exact c0
        · exact (Hj j (by omega)).1)
      have hin1 := hin.1.1
      have hin2 := hin.1.2
      rw [if_neg (by omega), if_pos (by omega)]
      by_cases c1 : seeB g (orb R N (thn R) (-1) (top, k) i)
      · rw [if_pos ((has_e _ hin.2.1 hin.2.2).2 c1), q_R_metAt_r63 K (CR_rp C) (CR_P C).1 (fun q => absurd rfl q) (fun q => absurd rfl q), if_pos rfl, gd_t (by omega)]
        exact fin (Or.inr c1)
      · rw [if_neg (fun q => c1 ((has_e _ hin.2.1 hin.2.2).1 q))]
        have hrch : rch n top R N (k + 1) (orb R N (thn R) (-1) (top, k) i) := ⟨k, i, hk, by omega, hb, rfl, fun j hj => by
          by_cases e : j = i
          · rw [e]; exact c0
          · exact (Hj j (by omega)).1⟩
        have ho : orb R N (thn R) (-1) (top, k) (i + 1) = stp R N (thn R) (-1) (orb R N (thn R) (-1) (top, k) i) := rfl
        have ih := fun m y g => l_met48 P (s := s) hk hk2 hb hQ m (i + 1) y g
        rw [ho] at ih
        generalize hq : orb R N (thn R) (-1) (top, k) i = q at *
        obtain ⟨a, x⟩ := q
        obtain ⟨⟨a0, a1⟩, x0, x1⟩ := hin
        have hu := unc_put (h := g) a0 (show a < 24 by omega) x0 x1 c1
        have hub := unc_b (sJ g 131 a.toNat (hJ g 131 a.toNat ||| zlshl 1#64 x))
        have F1 : Fr scrSe g (sJ g 131 a.toNat (hJ g 131 a.toNat ||| zlshl 1#64 x)) := Fr_J (Fr_r _ _) rfl
        have sp := see_put (h := g) a0 (show a < 24 by omega) x0 x1
        have C1 := CR_se C F1
        simp only at ih ⊢
        generalize sJ g 131 a.toNat (hJ g 131 a.toNat ||| zlshl 1#64 x) = g1 at *
        have bh := beh_e C1 P a0 a1 x0 x1
        rw [q_R_metAt_r63 (CR_K C1) (CR_rp C1) (CR_P C1).1 (fun _ _ => by omega) (fun _ _ => by omega), if_neg (by decide), gd_t (by omega), bh.1, bh.2, show ((i : Nat) : Int) + 1 = ((i + 1 : Nat) : Int) by omega]
        cases m with
        | zero => omega
        | succ m =>
          refine ih m _ g1 C1 (by omega) (by omega) ⟨fun q b1 b2 b3 b4 b5 => ?_, fun q b => ?_⟩ (fun j hj => ?_) (Fr_t F F1)
          · rcases (sp q b1 b3 b4).1 b5 with z | z
            · obtain ⟨z1, z2⟩ := H.1 q b1 b2 b3 b4 z
              refine ⟨z1, ?_⟩
              by_cases e : (stp R N (thn R) (-1) q).1 = -1
              · exact Or.inl e
              · refine Or.inr (Or.inl ?_)
                have hv := stp_v (al := -1) P.1 P.2.1 (isTS_thR P.1 (isTS_t P.1 (-1))) (p := q) ⟨by
                  obtain ⟨st, j, s0, s1, sb, sj, sn⟩ := z1
                  have := orb_in P s0 (by omega) sn
                  rw [sj] at this
                  exact this.1, b3, b4⟩
                rcases z2 with z2 | z2 | z2
                · exact absurd z2 e
                · exact (sp _ (hv.1.resolve_left e).1 hv.2.1 hv.2.2).2 (Or.inl z2)
                · rw [z2]
                  exact (sp (a, x) a0 x0 x1).2 (Or.inr rfl)
            · rw [z]
              exact ⟨hrch, Or.inr (Or.inr rfl)⟩
          · have hin : pv n q := by
              obtain ⟨st, j, s0, s1, sb, sj, sn⟩ := b
              rw [← sj]; exact orb_in P s0 (by omega) sn
            exact (sp q hin.1.1 hin.2.1 hin.2.2).2 (Or.inl (H.2 q b))
          · by_cases e : j = i
            · subst e
              rw [hq]
              exact ⟨c0, (sp (a, x) a0 x0 x1).2 (Or.inr rfl)⟩
            · have := Hj j (by omega)
              have hin := orb_in P hk hk2 (i := j) (fun l hl => (Hj l (by omega)).1)
              exact ⟨this.1, (sp _ hin.1.1 hin.2.1 hin.2.2).2 (Or.inl this.2)⟩
theorem l_met10 (P : Prg n top R N) {s : Int} (h0 : 0 ≤ s) (h1 : s < n) : ∀ (m k : Nat) (x3 x4 x5 x6 : Option zV) (g : zH), CR g p v n R N (TT n R N) → k + m = 64 → (∀ q, 0 ≤ q.1 → q.1 < 24 → 0 ≤ q.2 → q.2 < 64 → (seeB g q ↔ rch n top R N k q)) → (∀ q, rch n top R N k q → seeB g q) → Fr scrSe h g → ∃ h3, zY 78 10 [some (zR (some 128)), some (zI s), some (zI k), x3, x4, x5, x6] [] g = some (.inl (some (zJ (mtA n top R N 64 s))), h3) ∧ Fr scrSe h h3
  | m, k, x3, x4, x5, x6, g, C, hm, H, H2, F => by
    suffices hs : ∃ h3, zY 78 10 [some (zR (some 128)), some (zI s), some (zI k), none, none, none, none] [] g = some (.inl (some (zJ (mtA n top R N 64 s))), h3) ∧ Fr scrSe h h3 by
      obtain ⟨g3, e3, q3⟩ := hs
      exact ⟨g3, zY_le (by exact ⟨rfl, rfl, rfl, trivial⟩) e3, q3⟩
    have w0 := P.1.1
    cases m with
    | zero =>
      obtain rfl : k = 64 := by omega
      rw [q_R_metAt_10 (CR_K C) (CR_rp C) (CR_P C).1, if_neg (by decide), if_neg (by omega), if_pos (by omega)]
      refine ⟨g, ?_, F⟩
      have e : hJ g 131 s.toNat = mtA n top R N 64 s := bt_ext fun x a b => by
        have a1 := H (s, x) h0 (show s < 24 by omega) a b
        have a2 := mtA_rch P (s := s) a b (by omega) 64 (Nat.le_refl _)
        exact Bool.eq_iff_iff.mpr (a1.trans a2.symm)
      rw [e]
    | succ m =>
      have ek : ((k : Int) + 1) = ((k + 1 : Nat) : Int) := by omega
      have nx : ∀ (x3 x4 x5 x6 : Option zV) (g : zH), CR g p v n R N (TT n R N) → (∀ q, rch n top R N (k + 1) q → seeB g q) → (∀ q, 0 ≤ q.1 → q.1 < 24 → 0 ≤ q.2 → q.2 < 64 → seeB g q → rch n top R N (k + 1) q) → Fr scrSe h g → ∃ h3, zY 78 10 [some (zR (some 128)), some (zI s), some (zI (k + 1)), x3, x4, x5, x6] [] g = some (.inl (some (zJ (mtA n top R N 64 s))), h3) ∧ Fr scrSe h h3 := fun x3 x4 x5 x6 g C a b F => by
        rw [ek] at a b ⊢
        exact l_met10 P h0 h1 m (k + 1) x3 x4 x5 x6 g C (by omega) (fun q q0 q1 q2 q3 => ⟨b q q0 q1 q2 q3, a q⟩) a F
      have up : ∀ q, rch n top R N k q → rch n top R N (k + 1) q := fun q ⟨st, i, a, b, c⟩ => ⟨st, i, a, by omega, c⟩
      rw [q_R_metAt_10 (CR_K C) (CR_rp C) (CR_P C).1, if_pos (by omega), (CR_S C).1, PO_start (CR_P C) P.2.2.2]
      by_cases c : bt (setL (lst N 0)) k = true
      · rw [if_pos ((has_e _ (by omega) (by omega)).2 c)]
        have := l_met48 (h := g) P (s := s) (k := k) (by omega) (by omega) c (Q := fun h3 => Fr scrSe h h3) (fun g2 y3 y4 y5 C2 a b F2 => nx _ _ _ _ g2 C2 a b (Fr_t F F2)) 1536 0 none g C (by have := unc_b g; omega) (by omega) ⟨fun q a b c d e => ⟨up q ((H q a b c d).1 e), ?_⟩, H2⟩ (fun j hj => by omega) (Fr_r _ _)
        · exact this
        · obtain ⟨st, i, s0, s1, sb, sj, sn⟩ := (H q a b c d).1 e
          by_cases z : (stp R N (thn R) (-1) q).1 = -1
          · exact Or.inl z
          · refine Or.inr (Or.inl (H2 _ ⟨st, i + 1, s0, s1, sb, ?_, fun j hj => ?_⟩))
            · show stp _ _ _ _ (orb R N (thn R) (-1) (top, st) i) = _
              rw [sj]
            · by_cases y : j = i + 1
              · rw [y]
                show (stp _ _ _ _ (orb R N (thn R) (-1) (top, st) i)).1 ≠ -1
                rw [sj]; exact z
              · exact sn j (by omega)
      · rw [if_neg (fun q => c ((has_e _ (by omega) (by omega)).1 q)), q_R_metAt_48 (CR_K C), if_neg (by decide), q_R_takeUnseen (CR_K C), if_pos (by decide), q_R_metAt_r63 (CR_K C) (CR_rp C) (CR_P C).1 (fun q => absurd rfl q) (fun q => absurd rfl q), if_pos rfl, gd_t (by omega)]
        have dn : ∀ q, rch n top R N (k + 1) q → rch n top R N k q := fun q ⟨st, i, a, b, d, e⟩ => ⟨st, i, a, by
          by_cases z : st = k
          · rw [z] at d; exact absurd d c
          · omega, d, e⟩
        exact nx _ _ _ _ g C (fun q a => H2 q (dn q a)) (fun q a b c d e => up q ((H q a b c d).1 e)) F
theorem l_fill131 : ∀ (m : Nat) (x : Int) (h : zH), KC h → 0 ≤ x → x + m = 24 → (∀ d : Int, 0 ≤ d → d < x → hJ h 131 d.toNat = 0#64) → ∃ h2, zY 228 6 [some (zR (some 131)), some (zJ 0#64), none, some (zI x), some (zI 24)] [] h = some (.inl none, h2) ∧ (∀ d : Int, 0 ≤ d → d < 24 → hJ h2 131 d.toNat = 0#64) ∧ Fr scrSe h h2
  | 0, x, h, K, hx, hm, H => by
    rw [q_Ar_fill_aJJ_6 (PTC K 131 23 rfl rfl) (PNC K 131 rfl), if_neg (by omega)]
    exact ⟨h, rfl, fun d a b => H d a (by omega), Fr_r _ _⟩
  | m + 1, x, h, K, hx, hm, H => by
    have F1 : Fr scrSe h (sJ h 131 x.toNat 0#64) := Fr_J (Fr_r _ _) rfl
    rw [q_Ar_fill_aJJ_6 (PTC K 131 23 rfl rfl) (PNC K 131 rfl), if_pos (by omega), gd_t (by rw [PLC K 131 24 rfl rfl]; omega), gd_t (by omega)]
    obtain ⟨h3, e3, H3, F3⟩ := l_fill131 m (x + 1) _ (KC_f K F1 rfl) (by omega) (by omega) (fun d a b => by
      rw [hJ_up]
      by_cases c : d.toNat = x.toNat
      · rw [if_pos c]
      · rw [if_neg c]; exact H d a (by omega))
    exact ⟨h3, e3, H3, Fr_t F1 F3⟩
theorem c_metAt (C : CR h p v n R N (TT n R N)) (P : Prg n top R N) {s : Int} (h0 : 0 ≤ s) (h1 : s < n) : ∃ h2, zC 78 [zR (some 128), zI s] h = some (.inl (some (zJ (mtA n top R N 64 s))), h2) ∧ Fr scrSe h h2 := by
  have K := CR_K C
  obtain ⟨g, e, H, F⟩ := l_fill131 24 0 h K (by omega) (by omega) (fun d a b => by omega)
  have Cg := CR_se C F
  rw [q_R_metAt K, q_Ar_fill_aJJ (PTC K 131 23 rfl rfl) (PNC K 131 rfl), PLC K 131 24 rfl rfl, e, q_R_metAt_r8 (CR_K Cg)]
  have nr : ∀ q, ¬ rch n top R N ((0 : Nat) : Int) q := fun q ⟨st, i, a, b, _⟩ => by omega
  obtain ⟨g2, e2, F2⟩ := l_met10 (h := g) P h0 h1 64 0 none none none none g Cg (by omega) (fun q a b c d => ⟨(fun z => by
    unfold seeB at z
    rw [H q.1 a b, bt_0] at z
    cases z), fun z => absurd z (nr q)⟩) (fun q z => absurd z (nr q)) (Fr_r _ _)
  exact ⟨g2, e2, Fr_t F F2⟩
end CMET

