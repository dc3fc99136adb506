/-! The class: its history, forgotten; its slots. -/
section CHIST2
variable {h h2 : zH} {v : Nat} {n : Int} {R N : Nat → Int} {c : Nat} {Ol : Nat → Nat → Int} {s0 s1 : Option (Nat → Int)}
theorem c_forget {n2 : Int} {R2 : Nat → Int} {Ol2 : Nat → Nat → Int} (K : KC h) (H : HO h n R c Ol s0 s1) : ∃ h2, zC 16 [zR (some 10)] h = some (.inl none, h2) ∧ HO h2 n2 R2 0 Ol2 none none ∧ Fr [(10, some 0), (13, none)] h h2 := by
  obtain ⟨⟨a1, a2⟩, ⟨nw, b1, b2, b3, b4⟩, s, t, t'⟩ := id H
  have F : Fr [(10, some 0), (13, none)] h (sI (sI (sI h 10 0 0) 13 0 0) 13 1 0) := Fr_I (Fr_I (Fr_I (Fr_r _ _) rfl) rfl) rfl
  have F1 : Fr [(10, some 0), (13, none)] h (sI h 10 0 0) := Fr_I (Fr_r _ _) rfl
  have F2 : Fr [(10, some 0), (13, none)] h (sI (sI h 10 0 0) 13 0 0) := Fr_I F1 rfl
  have z0 : (0 : Int).toNat = 0 := rfl
  have z1 : ((0 : Int) + 1).toNat = 1 := rfl
  have e : zC 16 [zR (some 10)] h = some (.inl none, sI (sI (sI h 10 0 0) 13 0 0) 13 1 0) := by
    rw [q_H_forget K, q_H_forget_7 (KC_f K F1 rfl), if_pos (by decide), gd_t (by decide), gd_t (by decide), z0, q_H_forget_7 (KC_f K F2 rfl), if_pos (by decide), gd_t (by decide), gd_t (by decide), z1, q_H_forget_7 (KC_f K F rfl), if_neg (by decide)]
  have G : Gw (fun a k => (a = 10 ∧ k = 0) ∨ a = 13) 0 0 h (sI (sI (sI h 10 0 0) 13 0 0) 13 1 0) := Gw_sI (Gw_sI (Gw_sI (Gw_r _ _) _ (fun _ => Or.inl ⟨rfl, rfl⟩)) _ (fun _ => Or.inr rfl)) _ (fun _ => Or.inr rfl)
  have nf3 : nf (fun a k => (a = 10 ∧ k = 0) ∨ a = 13) h := fun f F => ⟨fun mm k z => by rcases z with z | z <;> (first | rw [z.1] at mm | rw [z] at mm) <;> exact absurd mm (by decide), fun mm k z => by rcases z with z | z <;> (first | rw [z.1] at mm | rw [z] at mm) <;> exact absurd mm (by decide)⟩
  exact ⟨_, e, ⟨⟨rfl, by decide⟩, ⟨nw, b1, b2, fun i hi => VF_g (b3 i hi) G nf3 (fun j k hj z => by omega), fun i hi => absurd hi (by omega)⟩, fun x hx => VF_g (s x hx) G nf3 (fun j k hj z => by omega), ⟨rfl, fun N q => by cases q⟩, ⟨rfl, fun N q => by cases q⟩⟩, F⟩
/-- a version is kept in a slot -/
def slS (x : Int) (N : Nat → Int) (s0 : Option (Nat → Int)) (y : Int) : Option (Nat → Int) := if x = y then some N else s0
theorem c_keepIn (K : KC h) (H : HO h n R c Ol s0 s1) (X : VO h v n R N) (u : WU n R) (hn : n ≤ 24) (hv : 74 ≤ v) {x : Int} (x0 : 0 ≤ x) (x1 : x < 2) : ∃ h2, zC 21 [zR (some 10), zI x, zR (some v)] h = some (.inl none, h2) ∧ HO h2 n R c Ol (slS x N s0 0) (slS x N s1 1) ∧ VO h2 v n R N ∧ hN h2 = hN h ∧ Gw Wh 0 0 h h2 := by
  obtain ⟨⟨a1, a2⟩, ⟨nw, b1, b2, b3, b4⟩, s, t, t'⟩ := id H
  have k0 := K.1
  have hvn := X.1.2.1
  have S := s x.toNat (by omega)
  rw [q_H_keepIn (v2 := 64 + 5 * x.toNat) K X.1 (K.2.2.2.2.1 x.toNat (by omega)) S.1, if_neg (by omega), if_pos x1]
  have pl : ∀ i, plc nw i < 10 := fun i => Nat.mod_lt _ (by decide)
  generalize hm : x.toNat = m at *
  have m2 : m < 2 := by omega
  obtain ⟨g, eg, Y2, X2, n2, G⟩ := VO_copy X u hn S.1 (by omega) (fun j hj => (show ∀ i : Fin 2, ∀ j : Fin 5, mutB (64 + 5 * i.val + j.val) = false by decide) ⟨m, m2⟩ ⟨j, by omega⟩)
  have nf2 := nf_v S.1
  have dj : ∀ a k, (a < 64 + 5 * m ∨ 64 + 5 * m + 5 ≤ a) → ¬ Wv (64 + 5 * m) a k := fun a k ha z => by unfold Wv at z; omega
  have K2 : KC g := KC_g K G (VS_kc K S.1)
  have c0 : hI g 10 0 = c := by rw [gI G (by omega) (dj 10 0 (by omega))]; exact a1
  have c1 : hI g 10 1 = nw := by rw [gI G (by omega) (dj 10 1 (by omega))]; exact b2
  have c13 : hI g 13 = hI h 13 := grI G (by omega) (fun k => dj 13 k (by omega))
  rw [eg, q_H_keepIn_r19 K2 X2.1, gd_t (by omega), hm]
  have F3 : Fr [(13, none)] g (sI g 13 m 1) := Fr_I (Fr_r _ _) rfl
  have G3 : Gw (fun a _ => a = 13) 0 0 g (sI g 13 m 1) := Gw_sI (Gw_r _ _) _ (fun _ => rfl)
  have nf3 : nf (fun a _ => a = 13) g := fun f F => ⟨fun mm k z => by rw [z] at mm; exact absurd mm (by decide), fun mm k z => by rw [z] at mm; exact absurd mm (by decide)⟩
  have d13 : hI (sI g 13 m 1) 13 = upN (hI h 13) m 1 := by rw [hI_up, c13]
  have d0 : hI (sI g 13 m 1) 10 0 = c := c0
  have d1 : hI (sI g 13 m 1) 10 1 = nw := c1
  have n3 : hN (sI g 13 m 1) = hN g := rfl
  generalize sI g 13 m 1 = g3 at *
  have old : ∀ w M, (w + 5 ≤ 64 + 5 * m ∨ 64 + 5 * m + 5 ≤ w) → (w + 4 < 13 ∨ 13 < w) → VO h w n R M → VO g3 w n R M := fun w M hw h13 V => VO_g (VO_g V G (fun j k hj => dj _ k (by omega)) nf2) G3 (fun j k hj z => by omega) nf3
  have new : VO g3 (64 + 5 * m) n R N := VO_g Y2 G3 (fun j k hj z => by omega) nf3
  refine ⟨g3, rfl, ⟨⟨d0, a2⟩, ⟨nw, b1, d1, fun i hi => VF_g (VF_g (b3 i hi) G nf2 (fun j k hj => dj _ k (by omega))) G3 nf3 (fun j k hj z => by omega), fun i hi => old _ _ (by have := pl i; omega) (by omega) (b4 i hi)⟩, fun y hy => ?_, ⟨?_, fun M q => ?_⟩, ⟨?_, fun M q => ?_⟩⟩, VO_g X2 G3 (fun j k hj z => by omega) nf3, by omega, Gw_m (Gw_t (Gw_m G (fun a k _ z => (Or.inr (by unfold Wv at z; omega) : Wh a k)) (Nat.le_refl _) (Nat.le_refl _)) G3 (fun a k _ z => Or.inr (by omega))) (fun _ _ _ z => z) (by omega) (by omega)⟩
  · by_cases q : y = m
    · subst q; exact VO_VF new
    · exact VF_g (VF_g (s y hy) G nf2 (fun j k hj => dj _ k (by omega))) G3 nf3 (fun j k hj z => by omega)
  · rw [d13]
    unfold slS
    by_cases q : x = 0
    · have : m = 0 := by omega
      subst this
      rw [if_pos q, upN_s]; rfl
    · rw [if_neg q, upN_n _ _ (by omega)]; exact t.1
  · unfold slS at q
    by_cases y : x = 0
    · have : m = 0 := by omega
      subst this
      rw [if_pos y] at q
      cases q
      exact new
    · rw [if_neg y] at q
      exact old 64 M (by omega) (by omega) (t.2 M q)
  · rw [d13]
    unfold slS
    by_cases q : x = 1
    · have : m = 1 := by omega
      subst this
      rw [if_pos q, upN_s]; rfl
    · rw [if_neg q, upN_n _ _ (by omega)]; exact t'.1
  · unfold slS at q
    by_cases y : x = 1
    · have : m = 1 := by omega
      subst this
      rw [if_pos y] at q
      cases q
      exact new
    · rw [if_neg y] at q
      exact old 69 M (by omega) (by omega) (t'.2 M q)
theorem HO_held (H : HO h n R c Ol s0 s1) {x : Int} (x0 : 0 ≤ x) (x1 : x < 2) : b_H_holds h x ↔ (if x = 0 then s0 else s1).isSome = true := by
  obtain ⟨_, _, _, ⟨t, _⟩, ⟨t', _⟩⟩ := H
  unfold b_H_holds
  by_cases q : x = 0
  · subst q
    rw [if_pos rfl, show (0 : Int).toNat = 0 from rfl, t]
    by_cases y : s0.isSome = true
    · rw [if_pos y]; exact ⟨fun _ => y, fun _ => ⟨by decide, by decide, by decide⟩⟩
    · rw [if_neg y]; exact ⟨fun z => absurd rfl z.2.2, fun z => absurd z y⟩
  · obtain rfl : x = 1 := by omega
    rw [if_neg (by decide), show (1 : Int).toNat = 1 from rfl, t']
    by_cases y : s1.isSome = true
    · rw [if_pos y]; exact ⟨fun _ => y, fun _ => ⟨by decide, by decide, by decide⟩⟩
    · rw [if_neg y]; exact ⟨fun z => absurd rfl z.2.2, fun z => absurd z y⟩
theorem c_bringBack (K : KC h) (H : HO h n R c Ol s0 s1) {M : Nat → Int} (X : VO h v n R N) (u : WU n R) (hn : n ≤ 24) (hv : 74 ≤ v) (kv : ∀ a k, a < 163 → kcB a k = true → ¬ Wv v a k) {x : Int} (x0 : 0 ≤ x) (x1 : x < 2) (hM : (if x = 0 then s0 else s1) = some M) : ∃ h2, zC 19 [zR (some 10), zI x, zR (some v)] h = some (.inl none, h2) ∧ HO h2 n R c Ol s0 s1 ∧ VO h2 v n R M ∧ hN h2 = hN h ∧ Gw (Wv v) 0 0 h h2 := by
  obtain ⟨_, _, s, t, t'⟩ := id H
  have S := s x.toNat (by omega)
  have hx := (HO_held H x0 x1).2 (by rw [hM]; rfl)
  have Y : VO h (64 + 5 * x.toNat) n R M := by
    by_cases q : x = 0
    · subst q; rw [if_pos rfl] at hM; exact t.2 M hM
    · obtain rfl : x = 1 := by omega
      rw [if_neg (by decide)] at hM; exact t'.2 M hM
  rw [q_H_bringBack (v2 := 64 + 5 * x.toNat) K X.1 (K.2.2.2.2.1 x.toNat (by omega)) S.1, if_pos hx]
  obtain ⟨g, eg, X2, Y2, n2, G⟩ := VO_copy Y u hn X.1 (by omega) X.2.1
  rw [eg, q_H_bringBack_r18 (KC_g K G kv) X2.1]
  exact ⟨g, rfl, HO_g H K G (nf_v X.1) (fun a k ha z => by unfold Wv at z; omega), X2, n2, G⟩
theorem c_heldSlots (K : KC h) (H : HO h n R c Ol s0 s1) : zC 22 [zR (some 10)] h = some (.inl (some (zI ((if s0.isSome = true then 1 else 0) + (if s1.isSome = true then 1 else 0)))), h) := by
  obtain ⟨_, _, _, ⟨t, _⟩, ⟨t', _⟩⟩ := H
  have z0 : (0 : Int).toNat = 0 := rfl
  have z1 : ((0 : Int) + 1).toNat = 1 := rfl
  have fin : ∀ y : Int, zY 22 4 [some (zR (some 10)), some (zI y), some (zI (0 + 1 + 1))] [] h = some (.inl (some (zI y)), h) := fun y => by
    rw [q_H_heldSlots_4 K, if_neg (by decide)]
  rw [q_H_heldSlots K, q_H_heldSlots_4 K, if_pos (by decide), gd_t (by decide), z0, t]
  by_cases a : s0.isSome = true
  · rw [if_pos a, if_neg (by decide), gd_t (by decide), gd_t (by decide), q_H_heldSlots_4 K, if_pos (by decide), gd_t (by decide), z1, t']
    by_cases b : s1.isSome = true
    · rw [if_pos b, if_neg (by decide), gd_t (by decide), gd_t (by decide), fin]; rfl
    · rw [if_neg b, if_pos rfl, gd_t (by decide), fin]; rfl
  · rw [if_neg a, if_pos rfl, gd_t (by decide), q_H_heldSlots_4 K, if_pos (by decide), gd_t (by decide), z1, t']
    by_cases b : s1.isSome = true
    · rw [if_pos b, if_neg (by decide), gd_t (by decide), gd_t (by decide), fin]
    · rw [if_neg b, if_pos rfl, gd_t (by decide), fin]; rfl
end CHIST2

