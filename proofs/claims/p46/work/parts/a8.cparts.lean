/-! The class: the formulas of the statements so far. -/
section CPARTS
variable {n top m k : Int} {R R2 N N2 : Nat → Int} {h h2 : zH} {p v lo : Nat} {W : Nat → Nat → Prop} {d e : Nat}
/-- where the program, the version and the new formulas lie -/
def okpv (p v lo : Nat) : Prop := p + 10 < v ∧ v + 5 ≤ lo ∧ 163 ≤ lo ∧ ((74 ≤ p ∧ v + 5 ≤ 90) ∨ 178 ≤ p)
def FX (h : zH) (lo a k : Nat) (l : List Int) : Prop := ∃ f, hR h a k = some f ∧ FO0 h f l ∧ (f = 3 ∨ lo ≤ f) ∧ l.length ≤ 30
def FSX (h : zH) (lo a k : Nat) : Prop := ∃ f, hR h a k = some f ∧ FS h f ∧ (f = 3 ∨ lo ≤ f)
def nfx (lo : Nat) (W : Nat → Nat → Prop) : Prop := ∀ f, (f = 3 ∨ f = 4 ∨ lo ≤ f) → ∀ k, ¬ W f k
theorem FO0_x {f : Nat} {l : List Int} (S : FO0 h f l) (G : Gw W d e h h2) (x : nfx lo W) (c : f = 3 ∨ lo ≤ f) : FO0 h2 f l := FO0_g S G (fun k => x f (by omega) k) (fun k => x (f + 1) (by omega) k)
theorem FX_g {a j : Nat} {l : List Int} (S : FX h lo a j l) (G : Gw W d e h h2) (x : nfx lo W) (ha : a < hN h) (w : ¬ W a j) : FX h2 lo a j l := by
  obtain ⟨f, b, c, y, z⟩ := S
  exact ⟨f, by rw [gR G (Or.inl ha) w]; exact b, FO0_x c G x y, y, z⟩
theorem FSX_g {a j : Nat} (S : FSX h lo a j) (G : Gw W d e h h2) (x : nfx lo W) (ha : a < hN h) (w : ¬ W a j) : FSX h2 lo a j := by
  obtain ⟨f, b, c, y⟩ := S
  exact ⟨f, by rw [gR G (Or.inl ha) w]; exact b, FS_g c G (x f (by omega) 0), y⟩
/-- the formulas of the statements up to m stand; no part from k on -/
def QF (h : zH) (p v lo : Nat) (m k : Int) (R N : Nat → Int) : Prop := (∀ s, 0 ≤ s → s < m → FX h lo (p + 10) s.toNat (prtL R N s) ∧ (sv R s 0 = 2 → FX h lo (v + 1) (sv R s 7).toNat (lst N (26 + s)) ∧ FX h lo (v + 2) (sv R s 7).toNat (lst N (50 + s))) ∧ N (2294 + s).toNat = -1 ∧ N (2318 + s).toNat = 10) ∧ (∀ i, i < 24 → FSX h lo (v + 1) i ∧ FSX h lo (v + 2) i) ∧ (∀ i : Int, k ≤ i → i < 24 → hR h (p + 10) i.toNat = some 3) ∧ FX h lo v 0 (lst N 0) ∧ FX h lo v 1 (lst N 1)
theorem QF_g (Q : QF h p v lo m k R N) (P : PS h p) (V : VS h v) (G : Gw W d e h h2) (x : nfx lo W) (w0 : ∀ j, ¬ W (p + 10) j) (w1 : ∀ i j, i ≤ 2 → ¬ W (v + i) j) : QF h2 p v lo m k R N := by
  obtain ⟨a, b, c, f, g⟩ := Q
  have hp := P.2.1
  have hv := V.2.1
  refine ⟨fun s s0 s1 => ⟨FX_g (a s s0 s1).1 G x hp (w0 _), fun z => ⟨FX_g ((a s s0 s1).2.1 z).1 G x (by omega) (w1 1 _ (by decide)), FX_g ((a s s0 s1).2.1 z).2 G x (by omega) (w1 2 _ (by decide))⟩, (a s s0 s1).2.2⟩, fun i hi => ⟨FSX_g (b i hi).1 G x (by omega) (w1 1 _ (by decide)), FSX_g (b i hi).2 G x (by omega) (w1 2 _ (by decide))⟩, fun i i0 i1 => ?_, FX_g f G x (by omega) (w1 0 _ (by decide)), FX_g g G x (by omega) (w1 0 _ (by decide))⟩
  rw [gR G (Or.inl hp) (w0 _)]
  exact c i i0 i1
theorem lst_c {q : Int} (hl : (lst N q).length ≤ 30) (hq : ∀ i : Nat, (31 * q).toNat ≤ i → i < (31 * q).toNat + 31 → N2 i = N i) : lst N2 q = lst N q := by
  have e := hq (31 * q).toNat (Nat.le_refl _) (by omega)
  unfold lst at *
  rw [upto_len] at hl
  rw [e]
  exact upto_congr _ _ (fun i hi => hq _ (by omega) (by simp only [List.length_nil] at hl; omega))
theorem FX_l {a j : Nat} {q : Int} (S : FX h lo a j (lst N q)) (hq : ∀ i : Nat, (31 * q).toNat ≤ i → i < (31 * q).toNat + 31 → N2 i = N i) : FX h lo a j (lst N2 q) := by
  obtain ⟨f, b, c, y, z⟩ := S
  rw [lst_c z hq]
  exact ⟨f, b, c, y, z⟩
/-- nothing of the first m statements' formulas is another -/
def eqm (m : Int) (N N2 : Nat → Int) : Prop := ∀ i : Nat, (∀ s, m ≤ s → s < 24 → (i < (31 * (2 + s)).toNat ∨ (31 * (2 + s)).toNat + 31 ≤ i) ∧ (i < (31 * (26 + s)).toNat ∨ (31 * (26 + s)).toNat + 31 ≤ i) ∧ (i < (31 * (50 + s)).toNat ∨ (31 * (50 + s)).toNat + 31 ≤ i) ∧ i ≠ (2294 + s).toNat ∧ i ≠ (2318 + s).toNat) → N2 i = N i
theorem QF_N (Q : QF h p v lo m k R N) (hm0 : 0 ≤ m) (hm : m ≤ 24) (eR : ∀ s, 0 ≤ s → s < m → sv R2 s 0 = sv R s 0 ∧ sv R2 s 7 = sv R s 7) (eN : eqm m N N2) : QF h p v lo m k R2 N2 := by
  obtain ⟨a, b, c, f, g⟩ := Q
  refine ⟨fun s s0 s1 => ?_, b, c, FX_l f (fun i x y => eN i (fun s z0 z1 => by omega)), FX_l g (fun i x y => eN i (fun s z0 z1 => by omega))⟩
  obtain ⟨a1, a2, a3, a4⟩ := a s s0 s1
  obtain ⟨r0, r7⟩ := eR s s0 s1
  refine ⟨?_, fun z => ?_, ?_, ?_⟩
  · unfold prtL at a1 ⊢
    rw [r0]
    by_cases z : sv R s 0 = 3
    · rw [if_pos z] at a1 ⊢; exact a1
    · rw [if_neg z] at a1 ⊢
      exact FX_l a1 (fun i x y => eN i (fun s z0 z1 => by omega))
  · rw [r0] at z
    rw [r7]
    exact ⟨FX_l (a2 z).1 (fun i x y => eN i (fun s z0 z1 => by omega)), FX_l (a2 z).2 (fun i x y => eN i (fun s z0 z1 => by omega))⟩
  · rw [eN _ (fun s z0 z1 => by omega)]; exact a3
  · rw [eN _ (fun s z0 z1 => by omega)]; exact a4
theorem VS_sR {a j : Nat} {x : Option Nat} (V : VS h v) (w : a = v → j ≤ 1) : VS (sR h a j x) v := VS_g V (Gw_sR (W := fun b i => b = a ∧ i = j) (Gw_r _ _) x (fun _ => ⟨rfl, rfl⟩)) (fun k hk z => by have := w z.1.symm; omega)
theorem QF_put (Q : QF h p v lo m k R N) (P : PS h p) (V : VS h v) (o : okpv p v lo) {s : Int} (hm : m ≤ s) (hk : k ≤ s) (s0 : 0 ≤ s) {f : Nat} : QF (sR h (p + 10) s.toNat (some f)) p v lo m (s + 1) R N := by
  have G : Gw (fun b i => b = p + 10 ∧ i = s.toNat) 0 0 h (sR h (p + 10) s.toNat (some f)) := Gw_sR (Gw_r _ _) _ (fun _ => ⟨rfl, rfl⟩)
  have x : nfx lo (fun b i => b = p + 10 ∧ i = s.toNat) := fun f hf k z => by unfold okpv at o; omega
  have hp := P.2.1
  have hv := V.2.1
  unfold okpv at o
  obtain ⟨a, b, c, y, g⟩ := Q
  refine ⟨fun t t0 t1 => ⟨FX_g (a t t0 t1).1 G x hp (by omega), fun z => ⟨FX_g ((a t t0 t1).2.1 z).1 G x (by omega) (by omega), FX_g ((a t t0 t1).2.1 z).2 G x (by omega) (by omega)⟩, (a t t0 t1).2.2⟩, fun i hi => ⟨FSX_g (b i hi).1 G x (by omega) (by omega), FSX_g (b i hi).2 G x (by omega) (by omega)⟩, fun i i0 i1 => ?_, FX_g y G x (by omega) (by omega), FX_g g G x (by omega) (by omega)⟩
  rw [gR G (Or.inl hp) (by omega)]
  exact c i (by omega) i1
theorem QF_row (Q : QF h p v lo m k R N) (P : PS h p) (V : VS h v) (o : okpv p v lo) {r num : Nat} (hr : r = 1 ∨ r = 2) (hn : ∀ s, 0 ≤ s → s < m → sv R s 0 = 2 → (sv R s 7).toNat ≠ num) {f : Nat} (F : FS h f) (hf : f = 3 ∨ lo ≤ f) : QF (sR h (v + r) num (some f)) p v lo m k R N := by
  have G : Gw (fun b i => b = v + r ∧ i = num) 0 0 h (sR h (v + r) num (some f)) := Gw_sR (Gw_r _ _) _ (fun _ => ⟨rfl, rfl⟩)
  have x : nfx lo (fun b i => b = v + r ∧ i = num) := fun f hf k z => by unfold okpv at o; omega
  have hp := P.2.1
  have hv := V.2.1
  unfold okpv at o
  obtain ⟨a, b, c, y, g⟩ := Q
  have fx : ∀ q i, q = 1 ∨ q = 2 → FSX h lo (v + q) i → FSX (sR h (v + r) num (some f)) lo (v + q) i := fun q i hq S => by
    by_cases z : v + q = v + r ∧ i = num
    · refine ⟨f, ?_, FS_g F G (x f (by omega) 0), hf⟩
      rw [z.1, z.2]; exact zup_s _ _ _ _
    · exact FSX_g S G x (by omega) z
  refine ⟨fun t t0 t1 => ⟨FX_g (a t t0 t1).1 G x hp (by omega), fun z => ?_, (a t t0 t1).2.2⟩, fun i hi => ⟨fx 1 i (Or.inl rfl) (b i hi).1, fx 2 i (Or.inr rfl) (b i hi).2⟩, fun i i0 i1 => ?_, FX_g y G x (by omega) (by omega), FX_g g G x (by omega) (by omega)⟩
  · have := hn t t0 t1 z
    exact ⟨FX_g ((a t t0 t1).2.1 z).1 G x (by omega) (by omega), FX_g ((a t t0 t1).2.1 z).2 G x (by omega) (by omega)⟩
  · rw [gR G (Or.inl hp) (by omega)]
    exact c i i0 i1
/-- one statement more -/
theorem QF_next (Q : QF h p v lo m k R N) (a : FX h lo (p + 10) m.toNat (prtL R N m)) (b : sv R m 0 = 2 → FX h lo (v + 1) (sv R m 7).toNat (lst N (26 + m)) ∧ FX h lo (v + 2) (sv R m 7).toNat (lst N (50 + m))) (c : N (2294 + m).toNat = -1 ∧ N (2318 + m).toNat = 10) (hk : k ≤ m + 1) : QF h p v lo (m + 1) (m + 1) R N := by
  obtain ⟨q1, q2, q3, q4⟩ := Q
  refine ⟨fun s s0 s1 => ?_, q2, fun i i0 i1 => q3 i (by omega) i1, q4⟩
  by_cases z : s = m
  · subst z; exact ⟨a, b, c⟩
  · exact q1 s s0 (by omega)
/-- what stands of the class's side through a reading -/
def CWk (h : zH) (p v lo : Nat) : Prop := PS h p ∧ VS h v ∧ hR h 5 4 = some p ∧ hR h 5 5 = some v ∧ lo ≤ hN h
theorem CWk_g (C : CWk h p v lo) (G : Gw W d e h h2) (wp : ∀ k, 3 ≤ k → ¬ W p k) (wv : ∀ k, 2 ≤ k → ¬ W v k) (w5 : ∀ k, k = 4 ∨ k = 5 → ¬ W 5 k) (k0 : 163 ≤ lo) : CWk h2 p v lo := by
  obtain ⟨a, b, c, x, y⟩ := C
  exact ⟨PS_g a G wp, VS_g b G wv, by rw [gR G (by omega) (w5 4 (Or.inl rfl))]; exact c, by rw [gR G (by omega) (w5 5 (Or.inr rfl))]; exact x, Nat.le_trans y G.1.1⟩
/-- cells that a reading writes beside the program and the version -/
abbrev scrPx : FA := [(5, some 0), (5, some 1), (5, some 6), (5, some 7), (6, none), (7, some 0), (7, some 1), (7, some 8)]
theorem WAx {A : FA} (e : subA A scrPx = true) {a j : Nat} (w : WA A a j) : 5 ≤ a ∧ a ≤ 7 ∧ (a = 5 → j ≠ 4 ∧ j ≠ 5) := by
  have z := WA_m e w
  simp only [WA, inA, List.any_cons, List.any_nil, inB, Bool.or_eq_true, Bool.and_eq_true, Nat.beq_eq, Bool.or_false, and_true] at z
  omega
theorem nfx_A {A : FA} (e : subA A scrPx = true) (o : 163 ≤ lo) : nfx lo (WA A) := fun f hf k z => by have := WAx e z; omega
theorem CWk_A {A : FA} (C : CWk h p v lo) (G : Gw (WA A) d e h h2) (e : subA A scrPx = true) (o : okpv p v lo) : CWk h2 p v lo := by
  unfold okpv at o
  exact CWk_g C G (fun k _ z => by have := WAx e z; omega) (fun k _ z => by have := WAx e z; omega) (fun k hk z => by have := WAx e z; omega) o.2.2.1
theorem QF_A {A : FA} (Q : QF h p v lo m k R N) (C : CWk h p v lo) (G : Gw (WA A) d e h h2) (e : subA A scrPx = true) (o : okpv p v lo) : QF h2 p v lo m k R N := by
  unfold okpv at o
  exact QF_g Q C.1 C.2.1 G (nfx_A e o.2.2.1) (fun j z => by have := WAx e z; omega) (fun i j _ z => by have := WAx e z; omega)
theorem CRo_A {A : FA} (Q : CRo h p v n R) (G : Gw (WA A) d e h h2) (e : subA A scrPx = true) (o : okpv p v lo) : CRo h2 p v n R := by
  unfold okpv at o
  exact CRo_g Q G (fun j k _ z => by have := WAx e z; omega) (fun j k _ z => by have := WAx e z; omega) (fun k _ z => by have := WAx e z; omega)
theorem WR_lo {p v lo : Nat} (o : okpv p v lo) : nfx lo (Wr p) := fun f hf k z => by unfold okpv at o; unfold Wr at z; omega
end CPARTS

